theorem dX12_init_0 : decode cX12_init 0 = .ok (.aload_n 0, 1) := by decide +kernel
theorem dX12_init_1 : decode cX12_init 1 = .ok (.invokespecial 1, 3) := by decide +kernel
theorem dX12_init_4 : decode cX12_init 4 = .ok (.aload_n 0, 1) := by decide +kernel
theorem dX12_init_5 : decode cX12_init 5 = .ok (.iconst 2, 1) := by decide +kernel
theorem dX12_init_6 : decode cX12_init 6 = .ok (.newarray .int, 2) := by decide +kernel
theorem dX12_init_8 : decode cX12_init 8 = .ok (.putfield 7, 3) := by decide +kernel
theorem dX12_init_11 : decode cX12_init 11 = .ok (.aload_n 0, 1) := by decide +kernel
theorem dX12_init_12 : decode cX12_init 12 = .ok (.iconst (-1), 1) := by decide +kernel
theorem dX12_init_13 : decode cX12_init 13 = .ok (.putfield 13, 3) := by decide +kernel
theorem dX12_init_16 : decode cX12_init 16 = .ok (.aload_n 0, 1) := by decide +kernel
theorem dX12_init_17 : decode cX12_init 17 = .ok (.sipush 400, 3) := by decide +kernel
theorem dX12_init_20 : decode cX12_init 20 = .ok (.newarray .int, 2) := by decide +kernel
theorem dX12_init_22 : decode cX12_init 22 = .ok (.putfield 17, 3) := by decide +kernel
theorem dX12_init_25 : decode cX12_init 25 = .ok (.aload_n 0, 1) := by decide +kernel
theorem dX12_init_26 : decode cX12_init 26 = .ok (.bipush 7, 2) := by decide +kernel
theorem dX12_init_28 : decode cX12_init 28 = .ok (.newarray .int, 2) := by decide +kernel
theorem dX12_init_30 : decode cX12_init 30 = .ok (.dup, 1) := by decide +kernel
theorem dX12_init_31 : decode cX12_init 31 = .ok (.iconst 0, 1) := by decide +kernel
theorem dX12_init_32 : decode cX12_init 32 = .ok (.bipush 20, 2) := by decide +kernel
theorem dX12_init_34 : decode cX12_init 34 = .ok (.iastore, 1) := by decide +kernel
theorem dX12_init_35 : decode cX12_init 35 = .ok (.dup, 1) := by decide +kernel
theorem dX12_init_36 : decode cX12_init 36 = .ok (.iconst 1, 1) := by decide +kernel
theorem dX12_init_37 : decode cX12_init 37 = .ok (.iconst 2, 1) := by decide +kernel
theorem dX12_init_38 : decode cX12_init 38 = .ok (.iastore, 1) := by decide +kernel
theorem dX12_init_39 : decode cX12_init 39 = .ok (.dup, 1) := by decide +kernel
theorem dX12_init_40 : decode cX12_init 40 = .ok (.iconst 2, 1) := by decide +kernel
theorem dX12_init_41 : decode cX12_init 41 = .ok (.iconst 4, 1) := by decide +kernel
theorem dX12_init_42 : decode cX12_init 42 = .ok (.iastore, 1) := by decide +kernel
theorem dX12_init_43 : decode cX12_init 43 = .ok (.dup, 1) := by decide +kernel
theorem dX12_init_44 : decode cX12_init 44 = .ok (.iconst 3, 1) := by decide +kernel
theorem dX12_init_45 : decode cX12_init 45 = .ok (.iconst 3, 1) := by decide +kernel
theorem dX12_init_46 : decode cX12_init 46 = .ok (.iastore, 1) := by decide +kernel
theorem dX12_init_47 : decode cX12_init 47 = .ok (.dup, 1) := by decide +kernel
theorem dX12_init_48 : decode cX12_init 48 = .ok (.iconst 4, 1) := by decide +kernel
theorem dX12_init_49 : decode cX12_init 49 = .ok (.iconst 1, 1) := by decide +kernel
theorem dX12_init_50 : decode cX12_init 50 = .ok (.iastore, 1) := by decide +kernel
theorem dX12_init_51 : decode cX12_init 51 = .ok (.dup, 1) := by decide +kernel
theorem dX12_init_52 : decode cX12_init 52 = .ok (.iconst 5, 1) := by decide +kernel
theorem dX12_init_53 : decode cX12_init 53 = .ok (.bipush 8, 2) := by decide +kernel
theorem dX12_init_55 : decode cX12_init 55 = .ok (.iastore, 1) := by decide +kernel
theorem dX12_init_56 : decode cX12_init 56 = .ok (.dup, 1) := by decide +kernel
theorem dX12_init_57 : decode cX12_init 57 = .ok (.bipush 6, 2) := by decide +kernel
theorem dX12_init_59 : decode cX12_init 59 = .ok (.iconst 0, 1) := by decide +kernel
theorem dX12_init_60 : decode cX12_init 60 = .ok (.iastore, 1) := by decide +kernel
theorem dX12_init_61 : decode cX12_init 61 = .ok (.putfield 20, 3) := by decide +kernel
theorem dX12_init_64 : decode cX12_init 64 = .ok (.aload_n 0, 1) := by decide +kernel
theorem dX12_init_65 : decode cX12_init 65 = .ok (.bipush 61, 2) := by decide +kernel
theorem dX12_init_67 : decode cX12_init 67 = .ok (.bipush 12, 2) := by decide +kernel
theorem dX12_init_69 : decode cX12_init 69 = .ok (.multianewarray 23 2, 4) := by decide +kernel
theorem dX12_init_73 : decode cX12_init 73 = .ok (.putfield 25, 3) := by decide +kernel
theorem dX12_init_76 : decode cX12_init 76 = .ok (.aload_n 0, 1) := by decide +kernel
theorem dX12_init_77 : decode cX12_init 77 = .ok (.bipush 61, 2) := by decide +kernel
theorem dX12_init_79 : decode cX12_init 79 = .ok (.newarray .int, 2) := by decide +kernel
theorem dX12_init_81 : decode cX12_init 81 = .ok (.putfield 28, 3) := by decide +kernel
theorem dX12_init_84 : decode cX12_init 84 = .ok (.aload_n 0, 1) := by decide +kernel
theorem dX12_init_85 : decode cX12_init 85 = .ok (.bipush 61, 2) := by decide +kernel
theorem dX12_init_87 : decode cX12_init 87 = .ok (.newarray .int, 2) := by decide +kernel
theorem dX12_init_89 : decode cX12_init 89 = .ok (.putfield 31, 3) := by decide +kernel
theorem dX12_init_92 : decode cX12_init 92 = .ok (.aload_n 0, 1) := by decide +kernel
theorem dX12_init_93 : decode cX12_init 93 = .ok (.bipush 61, 2) := by decide +kernel
theorem dX12_init_95 : decode cX12_init 95 = .ok (.newarray .int, 2) := by decide +kernel
theorem dX12_init_97 : decode cX12_init 97 = .ok (.putfield 34, 3) := by decide +kernel
theorem dX12_init_100 : decode cX12_init 100 = .ok (.aload_n 0, 1) := by decide +kernel
theorem dX12_init_101 : decode cX12_init 101 = .ok (.iconst 1, 1) := by decide +kernel
theorem dX12_init_102 : decode cX12_init 102 = .ok (.putfield 37, 3) := by decide +kernel
theorem dX12_init_105 : decode cX12_init 105 = .ok (.aload_n 0, 1) := by decide +kernel
theorem dX12_init_106 : decode cX12_init 106 = .ok (.sipush 721, 3) := by decide +kernel
theorem dX12_init_109 : decode cX12_init 109 = .ok (.newarray .int, 2) := by decide +kernel
theorem dX12_init_111 : decode cX12_init 111 = .ok (.putfield 40, 3) := by decide +kernel
theorem dX12_init_114 : decode cX12_init 114 = .ok (.aload_n 0, 1) := by decide +kernel
theorem dX12_init_115 : decode cX12_init 115 = .ok (.sipush 721, 3) := by decide +kernel
theorem dX12_init_118 : decode cX12_init 118 = .ok (.newarray .int, 2) := by decide +kernel
theorem dX12_init_120 : decode cX12_init 120 = .ok (.putfield 43, 3) := by decide +kernel
theorem dX12_init_123 : decode cX12_init 123 = .ok (.aload_n 0, 1) := by decide +kernel
theorem dX12_init_124 : decode cX12_init 124 = .ok (.sipush 721, 3) := by decide +kernel
theorem dX12_init_127 : decode cX12_init 127 = .ok (.newarray .int, 2) := by decide +kernel
theorem dX12_init_129 : decode cX12_init 129 = .ok (.putfield 46, 3) := by decide +kernel
theorem dX12_init_132 : decode cX12_init 132 = .ok (.aload_n 0, 1) := by decide +kernel
theorem dX12_init_133 : decode cX12_init 133 = .ok (.sipush 721, 3) := by decide +kernel
theorem dX12_init_136 : decode cX12_init 136 = .ok (.newarray .int, 2) := by decide +kernel
theorem dX12_init_138 : decode cX12_init 138 = .ok (.putfield 49, 3) := by decide +kernel
theorem dX12_init_141 : decode cX12_init 141 = .ok (.aload_n 0, 1) := by decide +kernel
theorem dX12_init_142 : decode cX12_init 142 = .ok (.sipush 721, 3) := by decide +kernel
theorem dX12_init_145 : decode cX12_init 145 = .ok (.newarray .int, 2) := by decide +kernel
theorem dX12_init_147 : decode cX12_init 147 = .ok (.putfield 52, 3) := by decide +kernel
theorem dX12_init_150 : decode cX12_init 150 = .ok (.aload_n 0, 1) := by decide +kernel
theorem dX12_init_151 : decode cX12_init 151 = .ok (.iconst 2, 1) := by decide +kernel
theorem dX12_init_152 : decode cX12_init 152 = .ok (.newarray .int, 2) := by decide +kernel
theorem dX12_init_154 : decode cX12_init 154 = .ok (.putfield 55, 3) := by decide +kernel
theorem dX12_init_157 : decode cX12_init 157 = .ok (.aload_n 0, 1) := by decide +kernel
theorem dX12_init_158 : decode cX12_init 158 = .ok (.iconst 2, 1) := by decide +kernel
theorem dX12_init_159 : decode cX12_init 159 = .ok (.bipush 20, 2) := by decide +kernel
theorem dX12_init_161 : decode cX12_init 161 = .ok (.bipush 6, 2) := by decide +kernel
theorem dX12_init_163 : decode cX12_init 163 = .ok (.multianewarray 58 3, 4) := by decide +kernel
theorem dX12_init_167 : decode cX12_init 167 = .ok (.putfield 60, 3) := by decide +kernel
theorem dX12_init_170 : decode cX12_init 170 = .ok (.aload_n 0, 1) := by decide +kernel
theorem dX12_init_171 : decode cX12_init 171 = .ok (.iconst 2, 1) := by decide +kernel
theorem dX12_init_172 : decode cX12_init 172 = .ok (.bipush 20, 2) := by decide +kernel
theorem dX12_init_174 : decode cX12_init 174 = .ok (.iconst 3, 1) := by decide +kernel
theorem dX12_init_175 : decode cX12_init 175 = .ok (.multianewarray 58 3, 4) := by decide +kernel
theorem dX12_init_179 : decode cX12_init 179 = .ok (.putfield 63, 3) := by decide +kernel
theorem dX12_init_182 : decode cX12_init 182 = .ok (.aload_n 0, 1) := by decide +kernel
theorem dX12_init_183 : decode cX12_init 183 = .ok (.iconst 2, 1) := by decide +kernel
theorem dX12_init_184 : decode cX12_init 184 = .ok (.newarray .int, 2) := by decide +kernel
theorem dX12_init_186 : decode cX12_init 186 = .ok (.putfield 66, 3) := by decide +kernel
theorem dX12_init_189 : decode cX12_init 189 = .ok (.aload_n 0, 1) := by decide +kernel
theorem dX12_init_190 : decode cX12_init 190 = .ok (.iconst 2, 1) := by decide +kernel
theorem dX12_init_191 : decode cX12_init 191 = .ok (.newarray .int, 2) := by decide +kernel
theorem dX12_init_193 : decode cX12_init 193 = .ok (.putfield 69, 3) := by decide +kernel
theorem dX12_init_196 : decode cX12_init 196 = .ok (.aload_n 0, 1) := by decide +kernel
theorem dX12_init_197 : decode cX12_init 197 = .ok (.iconst 2, 1) := by decide +kernel
theorem dX12_init_198 : decode cX12_init 198 = .ok (.bipush 40, 2) := by decide +kernel
theorem dX12_init_200 : decode cX12_init 200 = .ok (.multianewarray 23 2, 4) := by decide +kernel
theorem dX12_init_204 : decode cX12_init 204 = .ok (.putfield 72, 3) := by decide +kernel
theorem dX12_init_207 : decode cX12_init 207 = .ok (.aload_n 0, 1) := by decide +kernel
theorem dX12_init_208 : decode cX12_init 208 = .ok (.iconst 2, 1) := by decide +kernel
theorem dX12_init_209 : decode cX12_init 209 = .ok (.bipush 40, 2) := by decide +kernel
theorem dX12_init_211 : decode cX12_init 211 = .ok (.multianewarray 23 2, 4) := by decide +kernel
theorem dX12_init_215 : decode cX12_init 215 = .ok (.putfield 75, 3) := by decide +kernel
theorem dX12_init_218 : decode cX12_init 218 = .ok (.aload_n 0, 1) := by decide +kernel
theorem dX12_init_219 : decode cX12_init 219 = .ok (.iconst 2, 1) := by decide +kernel
theorem dX12_init_220 : decode cX12_init 220 = .ok (.bipush 40, 2) := by decide +kernel
theorem dX12_init_222 : decode cX12_init 222 = .ok (.multianewarray 23 2, 4) := by decide +kernel
theorem dX12_init_226 : decode cX12_init 226 = .ok (.putfield 78, 3) := by decide +kernel
theorem dX12_init_229 : decode cX12_init 229 = .ok (.aload_n 0, 1) := by decide +kernel
theorem dX12_init_230 : decode cX12_init 230 = .ok (.iconst 2, 1) := by decide +kernel
theorem dX12_init_231 : decode cX12_init 231 = .ok (.bipush 40, 2) := by decide +kernel
theorem dX12_init_233 : decode cX12_init 233 = .ok (.bipush 24, 2) := by decide +kernel
theorem dX12_init_235 : decode cX12_init 235 = .ok (.bipush 8, 2) := by decide +kernel
theorem dX12_init_237 : decode cX12_init 237 = .ok (.multianewarray 81 4, 4) := by decide +kernel
theorem dX12_init_241 : decode cX12_init 241 = .ok (.putfield 83, 3) := by decide +kernel
theorem dX12_init_244 : decode cX12_init 244 = .ok (.aload_n 0, 1) := by decide +kernel
theorem dX12_init_245 : decode cX12_init 245 = .ok (.iconst 2, 1) := by decide +kernel
theorem dX12_init_246 : decode cX12_init 246 = .ok (.newarray .int, 2) := by decide +kernel
theorem dX12_init_248 : decode cX12_init 248 = .ok (.putfield 86, 3) := by decide +kernel
theorem dX12_init_251 : decode cX12_init 251 = .ok (.aload_n 0, 1) := by decide +kernel
theorem dX12_init_252 : decode cX12_init 252 = .ok (.iconst 2, 1) := by decide +kernel
theorem dX12_init_253 : decode cX12_init 253 = .ok (.bipush 60, 2) := by decide +kernel
theorem dX12_init_255 : decode cX12_init 255 = .ok (.iconst 3, 1) := by decide +kernel
theorem dX12_init_256 : decode cX12_init 256 = .ok (.multianewarray 58 3, 4) := by decide +kernel
theorem dX12_init_260 : decode cX12_init 260 = .ok (.putfield 89, 3) := by decide +kernel
theorem dX12_init_263 : decode cX12_init 263 = .ok (.aload_n 0, 1) := by decide +kernel
theorem dX12_init_264 : decode cX12_init 264 = .ok (.bipush 48, 2) := by decide +kernel
theorem dX12_init_266 : decode cX12_init 266 = .ok (.bipush 8, 2) := by decide +kernel
theorem dX12_init_268 : decode cX12_init 268 = .ok (.multianewarray 23 2, 4) := by decide +kernel
theorem dX12_init_272 : decode cX12_init 272 = .ok (.putfield 92, 3) := by decide +kernel
theorem dX12_init_275 : decode cX12_init 275 = .ok (.aload_n 0, 1) := by decide +kernel
theorem dX12_init_276 : decode cX12_init 276 = .ok (.bipush 49, 2) := by decide +kernel
theorem dX12_init_278 : decode cX12_init 278 = .ok (.newarray .int, 2) := by decide +kernel
theorem dX12_init_280 : decode cX12_init 280 = .ok (.putfield 95, 3) := by decide +kernel
theorem dX12_init_283 : decode cX12_init 283 = .ok (.aload_n 0, 1) := by decide +kernel
theorem dX12_init_284 : decode cX12_init 284 = .ok (.bipush 49, 2) := by decide +kernel
theorem dX12_init_286 : decode cX12_init 286 = .ok (.newarray .int, 2) := by decide +kernel
theorem dX12_init_288 : decode cX12_init 288 = .ok (.putfield 98, 3) := by decide +kernel
theorem dX12_init_291 : decode cX12_init 291 = .ok (.aload_n 0, 1) := by decide +kernel
theorem dX12_init_292 : decode cX12_init 292 = .ok (.bipush 48, 2) := by decide +kernel
theorem dX12_init_294 : decode cX12_init 294 = .ok (.bipush 60, 2) := by decide +kernel
theorem dX12_init_296 : decode cX12_init 296 = .ok (.bipush 7, 2) := by decide +kernel
theorem dX12_init_298 : decode cX12_init 298 = .ok (.multianewarray 58 3, 4) := by decide +kernel
theorem dX12_init_302 : decode cX12_init 302 = .ok (.putfield 101, 3) := by decide +kernel
theorem dX12_init_305 : decode cX12_init 305 = .ok (.aload_n 0, 1) := by decide +kernel
theorem dX12_init_306 : decode cX12_init 306 = .ok (.bipush 49, 2) := by decide +kernel
theorem dX12_init_308 : decode cX12_init 308 = .ok (.bipush 13, 2) := by decide +kernel
theorem dX12_init_310 : decode cX12_init 310 = .ok (.multianewarray 23 2, 4) := by decide +kernel
theorem dX12_init_314 : decode cX12_init 314 = .ok (.putfield 104, 3) := by decide +kernel
theorem dX12_init_317 : decode cX12_init 317 = .ok (.aload_n 0, 1) := by decide +kernel
theorem dX12_init_318 : decode cX12_init 318 = .ok (.sipush 18025, 3) := by decide +kernel
theorem dX12_init_321 : decode cX12_init 321 = .ok (.newarray .int, 2) := by decide +kernel
theorem dX12_init_323 : decode cX12_init 323 = .ok (.putfield 107, 3) := by decide +kernel
theorem dX12_init_326 : decode cX12_init 326 = .ok (.aload_n 0, 1) := by decide +kernel
theorem dX12_init_327 : decode cX12_init 327 = .ok (.sipush 18025, 3) := by decide +kernel
theorem dX12_init_330 : decode cX12_init 330 = .ok (.newarray .int, 2) := by decide +kernel
theorem dX12_init_332 : decode cX12_init 332 = .ok (.putfield 110, 3) := by decide +kernel
theorem dX12_init_335 : decode cX12_init 335 = .ok (.aload_n 0, 1) := by decide +kernel
theorem dX12_init_336 : decode cX12_init 336 = .ok (.sipush 18025, 3) := by decide +kernel
theorem dX12_init_339 : decode cX12_init 339 = .ok (.newarray .int, 2) := by decide +kernel
theorem dX12_init_341 : decode cX12_init 341 = .ok (.putfield 113, 3) := by decide +kernel
theorem dX12_init_344 : decode cX12_init 344 = .ok (.aload_n 0, 1) := by decide +kernel
theorem dX12_init_345 : decode cX12_init 345 = .ok (.bipush 60, 2) := by decide +kernel
theorem dX12_init_347 : decode cX12_init 347 = .ok (.newarray .int, 2) := by decide +kernel
theorem dX12_init_349 : decode cX12_init 349 = .ok (.putfield 116, 3) := by decide +kernel
theorem dX12_init_352 : decode cX12_init 352 = .ok (.aload_n 0, 1) := by decide +kernel
theorem dX12_init_353 : decode cX12_init 353 = .ok (.bipush 60, 2) := by decide +kernel
theorem dX12_init_355 : decode cX12_init 355 = .ok (.newarray .int, 2) := by decide +kernel
theorem dX12_init_357 : decode cX12_init 357 = .ok (.putfield 119, 3) := by decide +kernel
theorem dX12_init_360 : decode cX12_init 360 = .ok (.aload_n 0, 1) := by decide +kernel
theorem dX12_init_361 : decode cX12_init 361 = .ok (.bipush 60, 2) := by decide +kernel
theorem dX12_init_363 : decode cX12_init 363 = .ok (.newarray .int, 2) := by decide +kernel
theorem dX12_init_365 : decode cX12_init 365 = .ok (.putfield 122, 3) := by decide +kernel
theorem dX12_init_368 : decode cX12_init 368 = .ok (.aload_n 0, 1) := by decide +kernel
theorem dX12_init_369 : decode cX12_init 369 = .ok (.bipush 60, 2) := by decide +kernel
theorem dX12_init_371 : decode cX12_init 371 = .ok (.newarray .int, 2) := by decide +kernel
theorem dX12_init_373 : decode cX12_init 373 = .ok (.putfield 125, 3) := by decide +kernel
theorem dX12_init_376 : decode cX12_init 376 = .ok (.aload_n 0, 1) := by decide +kernel
theorem dX12_init_377 : decode cX12_init 377 = .ok (.bipush 24, 2) := by decide +kernel
theorem dX12_init_379 : decode cX12_init 379 = .ok (.newarray .int, 2) := by decide +kernel
theorem dX12_init_381 : decode cX12_init 381 = .ok (.putfield 128, 3) := by decide +kernel
theorem dX12_init_384 : decode cX12_init 384 = .ok (.aload_n 0, 1) := by decide +kernel
theorem dX12_init_385 : decode cX12_init 385 = .ok (.bipush 24, 2) := by decide +kernel
theorem dX12_init_387 : decode cX12_init 387 = .ok (.newarray .int, 2) := by decide +kernel
theorem dX12_init_389 : decode cX12_init 389 = .ok (.putfield 131, 3) := by decide +kernel
theorem dX12_init_392 : decode cX12_init 392 = .ok (.aload_n 0, 1) := by decide +kernel
theorem dX12_init_393 : decode cX12_init 393 = .ok (.bipush 40, 2) := by decide +kernel
theorem dX12_init_395 : decode cX12_init 395 = .ok (.newarray .int, 2) := by decide +kernel
theorem dX12_init_397 : decode cX12_init 397 = .ok (.putfield 134, 3) := by decide +kernel
theorem dX12_init_400 : decode cX12_init 400 = .ok (.aload_n 0, 1) := by decide +kernel
theorem dX12_init_401 : decode cX12_init 401 = .ok (.bipush 40, 2) := by decide +kernel
theorem dX12_init_403 : decode cX12_init 403 = .ok (.iconst 5, 1) := by decide +kernel
theorem dX12_init_404 : decode cX12_init 404 = .ok (.multianewarray 23 2, 4) := by decide +kernel
theorem dX12_init_408 : decode cX12_init 408 = .ok (.putfield 137, 3) := by decide +kernel
theorem dX12_init_411 : decode cX12_init 411 = .ok (.aload_n 0, 1) := by decide +kernel
theorem dX12_init_412 : decode cX12_init 412 = .ok (.bipush 40, 2) := by decide +kernel
theorem dX12_init_414 : decode cX12_init 414 = .ok (.iconst 5, 1) := by decide +kernel
theorem dX12_init_415 : decode cX12_init 415 = .ok (.multianewarray 23 2, 4) := by decide +kernel
theorem dX12_init_419 : decode cX12_init 419 = .ok (.putfield 140, 3) := by decide +kernel
theorem dX12_init_422 : decode cX12_init 422 = .ok (.aload_n 0, 1) := by decide +kernel
theorem dX12_init_423 : decode cX12_init 423 = .ok (.bipush 41, 2) := by decide +kernel
theorem dX12_init_425 : decode cX12_init 425 = .ok (.iconst 5, 1) := by decide +kernel
theorem dX12_init_426 : decode cX12_init 426 = .ok (.multianewarray 23 2, 4) := by decide +kernel
theorem dX12_init_430 : decode cX12_init 430 = .ok (.putfield 143, 3) := by decide +kernel
theorem dX12_init_433 : decode cX12_init 433 = .ok (.aload_n 0, 1) := by decide +kernel
theorem dX12_init_434 : decode cX12_init 434 = .ok (.bipush 40, 2) := by decide +kernel
theorem dX12_init_436 : decode cX12_init 436 = .ok (.iconst 5, 1) := by decide +kernel
theorem dX12_init_437 : decode cX12_init 437 = .ok (.multianewarray 23 2, 4) := by decide +kernel
theorem dX12_init_441 : decode cX12_init 441 = .ok (.putfield 146, 3) := by decide +kernel
theorem dX12_init_444 : decode cX12_init 444 = .ok (.aload_n 0, 1) := by decide +kernel
theorem dX12_init_445 : decode cX12_init 445 = .ok (.bipush 40, 2) := by decide +kernel
theorem dX12_init_447 : decode cX12_init 447 = .ok (.newarray .int, 2) := by decide +kernel
theorem dX12_init_449 : decode cX12_init 449 = .ok (.putfield 149, 3) := by decide +kernel
theorem dX12_init_452 : decode cX12_init 452 = .ok (.aload_n 0, 1) := by decide +kernel
theorem dX12_init_453 : decode cX12_init 453 = .ok (.bipush 40, 2) := by decide +kernel
theorem dX12_init_455 : decode cX12_init 455 = .ok (.newarray .int, 2) := by decide +kernel
theorem dX12_init_457 : decode cX12_init 457 = .ok (.putfield 152, 3) := by decide +kernel
theorem dX12_init_460 : decode cX12_init 460 = .ok (.aload_n 0, 1) := by decide +kernel
theorem dX12_init_461 : decode cX12_init 461 = .ok (.bipush 40, 2) := by decide +kernel
theorem dX12_init_463 : decode cX12_init 463 = .ok (.newarray .int, 2) := by decide +kernel
theorem dX12_init_465 : decode cX12_init 465 = .ok (.putfield 155, 3) := by decide +kernel
theorem dX12_init_468 : decode cX12_init 468 = .ok (.aload_n 0, 1) := by decide +kernel
theorem dX12_init_469 : decode cX12_init 469 = .ok (.bipush 40, 2) := by decide +kernel
theorem dX12_init_471 : decode cX12_init 471 = .ok (.newarray .int, 2) := by decide +kernel
theorem dX12_init_473 : decode cX12_init 473 = .ok (.putfield 158, 3) := by decide +kernel
theorem dX12_init_476 : decode cX12_init 476 = .ok (.aload_n 0, 1) := by decide +kernel
theorem dX12_init_477 : decode cX12_init 477 = .ok (.bipush 40, 2) := by decide +kernel
theorem dX12_init_479 : decode cX12_init 479 = .ok (.newarray .int, 2) := by decide +kernel
theorem dX12_init_481 : decode cX12_init 481 = .ok (.putfield 161, 3) := by decide +kernel
theorem dX12_init_484 : decode cX12_init 484 = .ok (.aload_n 0, 1) := by decide +kernel
theorem dX12_init_485 : decode cX12_init 485 = .ok (.bipush 42, 2) := by decide +kernel
theorem dX12_init_487 : decode cX12_init 487 = .ok (.newarray .int, 2) := by decide +kernel
theorem dX12_init_489 : decode cX12_init 489 = .ok (.putfield 164, 3) := by decide +kernel
theorem dX12_init_492 : decode cX12_init 492 = .ok (.aload_n 0, 1) := by decide +kernel
theorem dX12_init_493 : decode cX12_init 493 = .ok (.bipush 40, 2) := by decide +kernel
theorem dX12_init_495 : decode cX12_init 495 = .ok (.newarray .boolean, 2) := by decide +kernel
theorem dX12_init_497 : decode cX12_init 497 = .ok (.putfield 167, 3) := by decide +kernel
theorem dX12_init_500 : decode cX12_init 500 = .ok (.aload_n 0, 1) := by decide +kernel
theorem dX12_init_501 : decode cX12_init 501 = .ok (.sipush 2000, 3) := by decide +kernel
theorem dX12_init_504 : decode cX12_init 504 = .ok (.newarray .int, 2) := by decide +kernel
theorem dX12_init_506 : decode cX12_init 506 = .ok (.putfield 171, 3) := by decide +kernel
theorem dX12_init_509 : decode cX12_init 509 = .ok (.aload_n 0, 1) := by decide +kernel
theorem dX12_init_510 : decode cX12_init 510 = .ok (.bipush 40, 2) := by decide +kernel
theorem dX12_init_512 : decode cX12_init 512 = .ok (.newarray .boolean, 2) := by decide +kernel
theorem dX12_init_514 : decode cX12_init 514 = .ok (.putfield 174, 3) := by decide +kernel
theorem dX12_init_517 : decode cX12_init 517 = .ok (.aload_n 0, 1) := by decide +kernel
theorem dX12_init_518 : decode cX12_init 518 = .ok (.invokevirtual 177, 3) := by decide +kernel
theorem dX12_init_521 : decode cX12_init 521 = .ok (.return_, 1) := by decide +kernel
theorem dX12_thrown_0 : decode cX12_thrown 0 = .ok (.aload_n 0, 1) := by decide +kernel
theorem dX12_thrown_1 : decode cX12_thrown 1 = .ok (.getfield 180, 3) := by decide +kernel
theorem dX12_thrown_4 : decode cX12_thrown 4 = .ok (.ireturn, 1) := by decide +kernel
theorem dX12_bad_0 : decode cX12_bad 0 = .ok (.iload_n 1, 1) := by decide +kernel
theorem dX12_bad_1 : decode cX12_bad 1 = .ok (.ifCond .eq 25, 3) := by decide +kernel
theorem dX12_bad_4 : decode cX12_bad 4 = .ok (.aload_n 0, 1) := by decide +kernel
theorem dX12_bad_5 : decode cX12_bad 5 = .ok (.getfield 180, 3) := by decide +kernel
theorem dX12_bad_8 : decode cX12_bad 8 = .ok (.ifCond .ne 18, 3) := by decide +kernel
theorem dX12_bad_11 : decode cX12_bad 11 = .ok (.aload_n 0, 1) := by decide +kernel
theorem dX12_bad_12 : decode cX12_bad 12 = .ok (.iload_n 2, 1) := by decide +kernel
theorem dX12_bad_13 : decode cX12_bad 13 = .ok (.putfield 180, 3) := by decide +kernel
theorem dX12_bad_16 : decode cX12_bad 16 = .ok (.aload_n 0, 1) := by decide +kernel
theorem dX12_bad_17 : decode cX12_bad 17 = .ok (.getfield 7, 3) := by decide +kernel
theorem dX12_bad_20 : decode cX12_bad 20 = .ok (.iload_n 3, 1) := by decide +kernel
theorem dX12_bad_21 : decode cX12_bad 21 = .ok (.dup2, 1) := by decide +kernel
theorem dX12_bad_22 : decode cX12_bad 22 = .ok (.iaload, 1) := by decide +kernel
theorem dX12_bad_23 : decode cX12_bad 23 = .ok (.iconst 1, 1) := by decide +kernel
theorem dX12_bad_24 : decode cX12_bad 24 = .ok (.iadd, 1) := by decide +kernel
theorem dX12_bad_25 : decode cX12_bad 25 = .ok (.iastore, 1) := by decide +kernel
theorem dX12_bad_26 : decode cX12_bad 26 = .ok (.aload_n 0, 1) := by decide +kernel
theorem dX12_bad_27 : decode cX12_bad 27 = .ok (.getfield 180, 3) := by decide +kernel
theorem dX12_bad_30 : decode cX12_bad 30 = .ok (.ifCond .eq 7, 3) := by decide +kernel
theorem dX12_bad_33 : decode cX12_bad 33 = .ok (.iconst 1, 1) := by decide +kernel
theorem dX12_bad_34 : decode cX12_bad 34 = .ok (.goto 4, 3) := by decide +kernel
theorem dX12_bad_37 : decode cX12_bad 37 = .ok (.iconst 0, 1) := by decide +kernel
theorem dX12_bad_38 : decode cX12_bad 38 = .ok (.ireturn, 1) := by decide +kernel
theorem dX12_in_0 : decode cX12_in 0 = .ok (.iload_n 0, 1) := by decide +kernel
theorem dX12_in_1 : decode cX12_in 1 = .ok (.iload_n 1, 1) := by decide +kernel
theorem dX12_in_2 : decode cX12_in 2 = .ok (.if_icmp .lt 12, 3) := by decide +kernel
theorem dX12_in_5 : decode cX12_in 5 = .ok (.iload_n 0, 1) := by decide +kernel
theorem dX12_in_6 : decode cX12_in 6 = .ok (.iload_n 2, 1) := by decide +kernel
theorem dX12_in_7 : decode cX12_in 7 = .ok (.if_icmp .gt 7, 3) := by decide +kernel
theorem dX12_in_10 : decode cX12_in 10 = .ok (.iconst 1, 1) := by decide +kernel
theorem dX12_in_11 : decode cX12_in 11 = .ok (.goto 4, 3) := by decide +kernel
theorem dX12_in_14 : decode cX12_in 14 = .ok (.iconst 0, 1) := by decide +kernel
theorem dX12_in_15 : decode cX12_in 15 = .ok (.ireturn, 1) := by decide +kernel
theorem dX12_less_0 : decode cX12_less 0 = .ok (.iload_n 0, 1) := by decide +kernel
theorem dX12_less_1 : decode cX12_less 1 = .ok (.iload_n 1, 1) := by decide +kernel
theorem dX12_less_2 : decode cX12_less 2 = .ok (.if_icmp .ge 7, 3) := by decide +kernel
theorem dX12_less_5 : decode cX12_less 5 = .ok (.iload_n 0, 1) := by decide +kernel
theorem dX12_less_6 : decode cX12_less 6 = .ok (.goto 4, 3) := by decide +kernel
theorem dX12_less_9 : decode cX12_less 9 = .ok (.iload_n 1, 1) := by decide +kernel
theorem dX12_less_10 : decode cX12_less 10 = .ok (.ireturn, 1) := by decide +kernel
theorem dX12_more_0 : decode cX12_more 0 = .ok (.iload_n 0, 1) := by decide +kernel
theorem dX12_more_1 : decode cX12_more 1 = .ok (.iload_n 1, 1) := by decide +kernel
theorem dX12_more_2 : decode cX12_more 2 = .ok (.if_icmp .le 7, 3) := by decide +kernel
theorem dX12_more_5 : decode cX12_more 5 = .ok (.iload_n 0, 1) := by decide +kernel
theorem dX12_more_6 : decode cX12_more 6 = .ok (.goto 4, 3) := by decide +kernel
theorem dX12_more_9 : decode cX12_more 9 = .ok (.iload_n 1, 1) := by decide +kernel
theorem dX12_more_10 : decode cX12_more 10 = .ok (.ireturn, 1) := by decide +kernel
theorem dX12_feed_0 : decode cX12_feed 0 = .ok (.aload_n 0, 1) := by decide +kernel
theorem dX12_feed_1 : decode cX12_feed 1 = .ok (.iconst 0, 1) := by decide +kernel
theorem dX12_feed_2 : decode cX12_feed 2 = .ok (.putfield 180, 3) := by decide +kernel
theorem dX12_feed_5 : decode cX12_feed 5 = .ok (.aload_n 0, 1) := by decide +kernel
theorem dX12_feed_6 : decode cX12_feed 6 = .ok (.getfield 183, 3) := by decide +kernel
theorem dX12_feed_9 : decode cX12_feed 9 = .ok (.bipush 20, 2) := by decide +kernel
theorem dX12_feed_11 : decode cX12_feed 11 = .ok (.iadd, 1) := by decide +kernel
theorem dX12_feed_12 : decode cX12_feed 12 = .ok (.sipush 400, 3) := by decide +kernel
theorem dX12_feed_15 : decode cX12_feed 15 = .ok (.if_icmp .le 5, 3) := by decide +kernel
theorem dX12_feed_18 : decode cX12_feed 18 = .ok (.iconst (-1), 1) := by decide +kernel
theorem dX12_feed_19 : decode cX12_feed 19 = .ok (.ireturn, 1) := by decide +kernel
theorem dX12_feed_20 : decode cX12_feed 20 = .ok (.iconst 0, 1) := by decide +kernel
theorem dX12_feed_21 : decode cX12_feed 21 = .ok (.istore 6, 2) := by decide +kernel
theorem dX12_feed_23 : decode cX12_feed 23 = .ok (.iload 6, 2) := by decide +kernel
theorem dX12_feed_25 : decode cX12_feed 25 = .ok (.bipush 20, 2) := by decide +kernel
theorem dX12_feed_27 : decode cX12_feed 27 = .ok (.if_icmp .ge 93, 3) := by decide +kernel
theorem dX12_feed_30 : decode cX12_feed 30 = .ok (.iload 6, 2) := by decide +kernel
theorem dX12_feed_32 : decode cX12_feed 32 = .ok (.iconst 4, 1) := by decide +kernel
theorem dX12_feed_33 : decode cX12_feed 33 = .ok (.if_icmp .ge 7, 3) := by decide +kernel
theorem dX12_feed_36 : decode cX12_feed 36 = .ok (.iload_n 1, 1) := by decide +kernel
theorem dX12_feed_37 : decode cX12_feed 37 = .ok (.goto 39, 3) := by decide +kernel
theorem dX12_feed_40 : decode cX12_feed 40 = .ok (.iload 6, 2) := by decide +kernel
theorem dX12_feed_42 : decode cX12_feed 42 = .ok (.bipush 8, 2) := by decide +kernel
theorem dX12_feed_44 : decode cX12_feed 44 = .ok (.if_icmp .ge 7, 3) := by decide +kernel
theorem dX12_feed_47 : decode cX12_feed 47 = .ok (.iload_n 2, 1) := by decide +kernel
theorem dX12_feed_48 : decode cX12_feed 48 = .ok (.goto 28, 3) := by decide +kernel
theorem dX12_feed_51 : decode cX12_feed 51 = .ok (.iload 6, 2) := by decide +kernel
theorem dX12_feed_53 : decode cX12_feed 53 = .ok (.bipush 12, 2) := by decide +kernel
theorem dX12_feed_55 : decode cX12_feed 55 = .ok (.if_icmp .ge 7, 3) := by decide +kernel
theorem dX12_feed_58 : decode cX12_feed 58 = .ok (.iload_n 3, 1) := by decide +kernel
theorem dX12_feed_59 : decode cX12_feed 59 = .ok (.goto 17, 3) := by decide +kernel
theorem dX12_feed_62 : decode cX12_feed 62 = .ok (.iload 6, 2) := by decide +kernel
theorem dX12_feed_64 : decode cX12_feed 64 = .ok (.bipush 16, 2) := by decide +kernel
theorem dX12_feed_66 : decode cX12_feed 66 = .ok (.if_icmp .ge 8, 3) := by decide +kernel
theorem dX12_feed_69 : decode cX12_feed 69 = .ok (.iload 4, 2) := by decide +kernel
theorem dX12_feed_71 : decode cX12_feed 71 = .ok (.goto 5, 3) := by decide +kernel
theorem dX12_feed_74 : decode cX12_feed 74 = .ok (.iload 5, 2) := by decide +kernel
theorem dX12_feed_76 : decode cX12_feed 76 = .ok (.istore 7, 2) := by decide +kernel
theorem dX12_feed_78 : decode cX12_feed 78 = .ok (.aload_n 0, 1) := by decide +kernel
theorem dX12_feed_79 : decode cX12_feed 79 = .ok (.getfield 17, 3) := by decide +kernel
theorem dX12_feed_82 : decode cX12_feed 82 = .ok (.aload_n 0, 1) := by decide +kernel
theorem dX12_feed_83 : decode cX12_feed 83 = .ok (.getfield 183, 3) := by decide +kernel
theorem dX12_feed_86 : decode cX12_feed 86 = .ok (.iload 7, 2) := by decide +kernel
theorem dX12_feed_88 : decode cX12_feed 88 = .ok (.bipush 24, 2) := by decide +kernel
theorem dX12_feed_90 : decode cX12_feed 90 = .ok (.bipush 8, 2) := by decide +kernel
theorem dX12_feed_92 : decode cX12_feed 92 = .ok (.iload 6, 2) := by decide +kernel
theorem dX12_feed_94 : decode cX12_feed 94 = .ok (.iconst 4, 1) := by decide +kernel
theorem dX12_feed_95 : decode cX12_feed 95 = .ok (.irem, 1) := by decide +kernel
theorem dX12_feed_96 : decode cX12_feed 96 = .ok (.imul, 1) := by decide +kernel
theorem dX12_feed_97 : decode cX12_feed 97 = .ok (.isub, 1) := by decide +kernel
theorem dX12_feed_98 : decode cX12_feed 98 = .ok (.ishr, 1) := by decide +kernel
theorem dX12_feed_99 : decode cX12_feed 99 = .ok (.sipush 255, 3) := by decide +kernel
theorem dX12_feed_102 : decode cX12_feed 102 = .ok (.iand, 1) := by decide +kernel
theorem dX12_feed_103 : decode cX12_feed 103 = .ok (.iastore, 1) := by decide +kernel
theorem dX12_feed_104 : decode cX12_feed 104 = .ok (.aload_n 0, 1) := by decide +kernel
theorem dX12_feed_105 : decode cX12_feed 105 = .ok (.dup, 1) := by decide +kernel
theorem dX12_feed_106 : decode cX12_feed 106 = .ok (.getfield 183, 3) := by decide +kernel
theorem dX12_feed_109 : decode cX12_feed 109 = .ok (.iconst 1, 1) := by decide +kernel
theorem dX12_feed_110 : decode cX12_feed 110 = .ok (.iadd, 1) := by decide +kernel
theorem dX12_feed_111 : decode cX12_feed 111 = .ok (.putfield 183, 3) := by decide +kernel
theorem dX12_feed_114 : decode cX12_feed 114 = .ok (.iinc 6 1, 3) := by decide +kernel
theorem dX12_feed_117 : decode cX12_feed 117 = .ok (.goto (-94), 3) := by decide +kernel
theorem dX12_feed_120 : decode cX12_feed 120 = .ok (.aload_n 0, 1) := by decide +kernel
theorem dX12_feed_121 : decode cX12_feed 121 = .ok (.getfield 183, 3) := by decide +kernel
theorem dX12_feed_124 : decode cX12_feed 124 = .ok (.ireturn, 1) := by decide +kernel
theorem dX12_byteAt_0 : decode cX12_byteAt 0 = .ok (.iload_n 1, 1) := by decide +kernel
theorem dX12_byteAt_1 : decode cX12_byteAt 1 = .ok (.aload_n 0, 1) := by decide +kernel
theorem dX12_byteAt_2 : decode cX12_byteAt 2 = .ok (.getfield 186, 3) := by decide +kernel
theorem dX12_byteAt_5 : decode cX12_byteAt 5 = .ok (.if_icmp .lt 7, 3) := by decide +kernel
theorem dX12_byteAt_8 : decode cX12_byteAt 8 = .ok (.iconst (-1), 1) := by decide +kernel
theorem dX12_byteAt_9 : decode cX12_byteAt 9 = .ok (.goto 9, 3) := by decide +kernel
theorem dX12_byteAt_12 : decode cX12_byteAt 12 = .ok (.aload_n 0, 1) := by decide +kernel
theorem dX12_byteAt_13 : decode cX12_byteAt 13 = .ok (.getfield 17, 3) := by decide +kernel
theorem dX12_byteAt_16 : decode cX12_byteAt 16 = .ok (.iload_n 1, 1) := by decide +kernel
theorem dX12_byteAt_17 : decode cX12_byteAt 17 = .ok (.iaload, 1) := by decide +kernel
theorem dX12_byteAt_18 : decode cX12_byteAt 18 = .ok (.ireturn, 1) := by decide +kernel
theorem dX12_here_0 : decode cX12_here 0 = .ok (.aload_n 0, 1) := by decide +kernel
theorem dX12_here_1 : decode cX12_here 1 = .ok (.aload_n 0, 1) := by decide +kernel
theorem dX12_here_2 : decode cX12_here 2 = .ok (.getfield 189, 3) := by decide +kernel
theorem dX12_here_5 : decode cX12_here 5 = .ok (.invokevirtual 192, 3) := by decide +kernel
theorem dX12_here_8 : decode cX12_here 8 = .ok (.ireturn, 1) := by decide +kernel
theorem dX12_blanks_0 : decode cX12_blanks 0 = .ok (.aload_n 0, 1) := by decide +kernel
theorem dX12_blanks_1 : decode cX12_blanks 1 = .ok (.invokevirtual 196, 3) := by decide +kernel
theorem dX12_blanks_4 : decode cX12_blanks 4 = .ok (.bipush 32, 2) := by decide +kernel
theorem dX12_blanks_6 : decode cX12_blanks 6 = .ok (.if_icmp .ne 16, 3) := by decide +kernel
theorem dX12_blanks_9 : decode cX12_blanks 9 = .ok (.aload_n 0, 1) := by decide +kernel
theorem dX12_blanks_10 : decode cX12_blanks 10 = .ok (.dup, 1) := by decide +kernel
theorem dX12_blanks_11 : decode cX12_blanks 11 = .ok (.getfield 189, 3) := by decide +kernel
theorem dX12_blanks_14 : decode cX12_blanks 14 = .ok (.iconst 1, 1) := by decide +kernel
theorem dX12_blanks_15 : decode cX12_blanks 15 = .ok (.iadd, 1) := by decide +kernel
theorem dX12_blanks_16 : decode cX12_blanks 16 = .ok (.putfield 189, 3) := by decide +kernel
theorem dX12_blanks_19 : decode cX12_blanks 19 = .ok (.goto (-19), 3) := by decide +kernel
theorem dX12_blanks_22 : decode cX12_blanks 22 = .ok (.aload_n 0, 1) := by decide +kernel
theorem dX12_blanks_23 : decode cX12_blanks 23 = .ok (.invokevirtual 196, 3) := by decide +kernel
theorem dX12_blanks_26 : decode cX12_blanks 26 = .ok (.ireturn, 1) := by decide +kernel
theorem dX12_fine_0 : decode cX12_fine 0 = .ok (.aload_n 0, 1) := by decide +kernel
theorem dX12_fine_1 : decode cX12_fine 1 = .ok (.getfield 200, 3) := by decide +kernel
theorem dX12_fine_4 : decode cX12_fine 4 = .ok (.ifCond .ne 7, 3) := by decide +kernel
theorem dX12_fine_7 : decode cX12_fine 7 = .ok (.iconst 1, 1) := by decide +kernel
theorem dX12_fine_8 : decode cX12_fine 8 = .ok (.goto 4, 3) := by decide +kernel
theorem dX12_fine_11 : decode cX12_fine 11 = .ok (.iconst 0, 1) := by decide +kernel
theorem dX12_fine_12 : decode cX12_fine 12 = .ok (.ireturn, 1) := by decide +kernel
theorem dX12_wrong_0 : decode cX12_wrong 0 = .ok (.aload_n 0, 1) := by decide +kernel
theorem dX12_wrong_1 : decode cX12_wrong 1 = .ok (.getfield 200, 3) := by decide +kernel
theorem dX12_wrong_4 : decode cX12_wrong 4 = .ok (.ifCond .ne 13, 3) := by decide +kernel
theorem dX12_wrong_7 : decode cX12_wrong 7 = .ok (.aload_n 0, 1) := by decide +kernel
theorem dX12_wrong_8 : decode cX12_wrong 8 = .ok (.iload_n 1, 1) := by decide +kernel
theorem dX12_wrong_9 : decode cX12_wrong 9 = .ok (.putfield 200, 3) := by decide +kernel
theorem dX12_wrong_12 : decode cX12_wrong 12 = .ok (.aload_n 0, 1) := by decide +kernel
theorem dX12_wrong_13 : decode cX12_wrong 13 = .ok (.iload_n 2, 1) := by decide +kernel
theorem dX12_wrong_14 : decode cX12_wrong 14 = .ok (.putfield 203, 3) := by decide +kernel
theorem dX12_wrong_17 : decode cX12_wrong 17 = .ok (.return_, 1) := by decide +kernel
theorem dX12_starts_0 : decode cX12_starts 0 = .ok (.aload_n 0, 1) := by decide +kernel
theorem dX12_starts_1 : decode cX12_starts 1 = .ok (.iconst 0, 1) := by decide +kernel
theorem dX12_starts_2 : decode cX12_starts 2 = .ok (.putfield 183, 3) := by decide +kernel
theorem dX12_starts_5 : decode cX12_starts 5 = .ok (.aload_n 0, 1) := by decide +kernel
theorem dX12_starts_6 : decode cX12_starts 6 = .ok (.iload_n 1, 1) := by decide +kernel
theorem dX12_starts_7 : decode cX12_starts 7 = .ok (.putfield 186, 3) := by decide +kernel
theorem dX12_starts_10 : decode cX12_starts 10 = .ok (.aload_n 0, 1) := by decide +kernel
theorem dX12_starts_11 : decode cX12_starts 11 = .ok (.iconst 0, 1) := by decide +kernel
theorem dX12_starts_12 : decode cX12_starts 12 = .ok (.putfield 189, 3) := by decide +kernel
theorem dX12_starts_15 : decode cX12_starts 15 = .ok (.aload_n 0, 1) := by decide +kernel
theorem dX12_starts_16 : decode cX12_starts 16 = .ok (.iconst 0, 1) := by decide +kernel
theorem dX12_starts_17 : decode cX12_starts 17 = .ok (.putfield 200, 3) := by decide +kernel
theorem dX12_starts_20 : decode cX12_starts 20 = .ok (.aload_n 0, 1) := by decide +kernel
theorem dX12_starts_21 : decode cX12_starts 21 = .ok (.iconst (-1), 1) := by decide +kernel
theorem dX12_starts_22 : decode cX12_starts 22 = .ok (.putfield 203, 3) := by decide +kernel
theorem dX12_starts_25 : decode cX12_starts 25 = .ok (.return_, 1) := by decide +kernel
theorem dX12_ends_0 : decode cX12_ends 0 = .ok (.aload_n 0, 1) := by decide +kernel
theorem dX12_ends_1 : decode cX12_ends 1 = .ok (.aload_n 0, 1) := by decide +kernel
theorem dX12_ends_2 : decode cX12_ends 2 = .ok (.getfield 203, 3) := by decide +kernel
theorem dX12_ends_5 : decode cX12_ends 5 = .ok (.putfield 13, 3) := by decide +kernel
theorem dX12_ends_8 : decode cX12_ends 8 = .ok (.aload_n 0, 1) := by decide +kernel
theorem dX12_ends_9 : decode cX12_ends 9 = .ok (.invokevirtual 206, 3) := by decide +kernel
theorem dX12_ends_12 : decode cX12_ends 12 = .ok (.ifCond .eq 7, 3) := by decide +kernel
theorem dX12_ends_15 : decode cX12_ends 15 = .ok (.iload_n 1, 1) := by decide +kernel
theorem dX12_ends_16 : decode cX12_ends 16 = .ok (.goto 10, 3) := by decide +kernel
theorem dX12_ends_19 : decode cX12_ends 19 = .ok (.aload_n 0, 1) := by decide +kernel
theorem dX12_ends_20 : decode cX12_ends 20 = .ok (.getfield 200, 3) := by decide +kernel
theorem dX12_ends_23 : decode cX12_ends 23 = .ok (.bipush 10, 2) := by decide +kernel
theorem dX12_ends_25 : decode cX12_ends 25 = .ok (.isub, 1) := by decide +kernel
theorem dX12_ends_26 : decode cX12_ends 26 = .ok (.ireturn, 1) := by decide +kernel
theorem dX12_isDigit_0 : decode cX12_isDigit 0 = .ok (.iload_n 0, 1) := by decide +kernel
theorem dX12_isDigit_1 : decode cX12_isDigit 1 = .ok (.bipush 48, 2) := by decide +kernel
theorem dX12_isDigit_3 : decode cX12_isDigit 3 = .ok (.if_icmp .lt 13, 3) := by decide +kernel
theorem dX12_isDigit_6 : decode cX12_isDigit 6 = .ok (.iload_n 0, 1) := by decide +kernel
theorem dX12_isDigit_7 : decode cX12_isDigit 7 = .ok (.bipush 57, 2) := by decide +kernel
theorem dX12_isDigit_9 : decode cX12_isDigit 9 = .ok (.if_icmp .gt 7, 3) := by decide +kernel
theorem dX12_isDigit_12 : decode cX12_isDigit 12 = .ok (.iconst 1, 1) := by decide +kernel
theorem dX12_isDigit_13 : decode cX12_isDigit 13 = .ok (.goto 4, 3) := by decide +kernel
theorem dX12_isDigit_16 : decode cX12_isDigit 16 = .ok (.iconst 0, 1) := by decide +kernel
theorem dX12_isDigit_17 : decode cX12_isDigit 17 = .ok (.ireturn, 1) := by decide +kernel
theorem dX12_isSmall_0 : decode cX12_isSmall 0 = .ok (.iload_n 0, 1) := by decide +kernel
theorem dX12_isSmall_1 : decode cX12_isSmall 1 = .ok (.bipush 97, 2) := by decide +kernel
theorem dX12_isSmall_3 : decode cX12_isSmall 3 = .ok (.if_icmp .lt 13, 3) := by decide +kernel
theorem dX12_isSmall_6 : decode cX12_isSmall 6 = .ok (.iload_n 0, 1) := by decide +kernel
theorem dX12_isSmall_7 : decode cX12_isSmall 7 = .ok (.bipush 122, 2) := by decide +kernel
theorem dX12_isSmall_9 : decode cX12_isSmall 9 = .ok (.if_icmp .gt 7, 3) := by decide +kernel
theorem dX12_isSmall_12 : decode cX12_isSmall 12 = .ok (.iconst 1, 1) := by decide +kernel
theorem dX12_isSmall_13 : decode cX12_isSmall 13 = .ok (.goto 4, 3) := by decide +kernel
theorem dX12_isSmall_16 : decode cX12_isSmall 16 = .ok (.iconst 0, 1) := by decide +kernel
theorem dX12_isSmall_17 : decode cX12_isSmall 17 = .ok (.ireturn, 1) := by decide +kernel
theorem dX12_number_0 : decode cX12_number 0 = .ok (.aload_n 0, 1) := by decide +kernel
theorem dX12_number_1 : decode cX12_number 1 = .ok (.invokevirtual 206, 3) := by decide +kernel
theorem dX12_number_4 : decode cX12_number 4 = .ok (.ifCond .ne 5, 3) := by decide +kernel
theorem dX12_number_7 : decode cX12_number 7 = .ok (.iload_n 1, 1) := by decide +kernel
theorem dX12_number_8 : decode cX12_number 8 = .ok (.ireturn, 1) := by decide +kernel
theorem dX12_number_9 : decode cX12_number 9 = .ok (.aload_n 0, 1) := by decide +kernel
theorem dX12_number_10 : decode cX12_number 10 = .ok (.invokevirtual 196, 3) := by decide +kernel
theorem dX12_number_13 : decode cX12_number 13 = .ok (.invokestatic 210, 3) := by decide +kernel
theorem dX12_number_16 : decode cX12_number 16 = .ok (.ifCond .ne 12, 3) := by decide +kernel
theorem dX12_number_19 : decode cX12_number 19 = .ok (.aload_n 0, 1) := by decide +kernel
theorem dX12_number_20 : decode cX12_number 20 = .ok (.iconst 1, 1) := by decide +kernel
theorem dX12_number_21 : decode cX12_number 21 = .ok (.aload_n 0, 1) := by decide +kernel
theorem dX12_number_22 : decode cX12_number 22 = .ok (.getfield 189, 3) := by decide +kernel
theorem dX12_number_25 : decode cX12_number 25 = .ok (.invokevirtual 214, 3) := by decide +kernel
theorem dX12_number_28 : decode cX12_number 28 = .ok (.aload_n 0, 1) := by decide +kernel
theorem dX12_number_29 : decode cX12_number 29 = .ok (.getfield 189, 3) := by decide +kernel
theorem dX12_number_32 : decode cX12_number 32 = .ok (.istore_n 3, 1) := by decide +kernel
theorem dX12_number_33 : decode cX12_number 33 = .ok (.iconst 0, 1) := by decide +kernel
theorem dX12_number_34 : decode cX12_number 34 = .ok (.istore 4, 2) := by decide +kernel
theorem dX12_number_36 : decode cX12_number 36 = .ok (.aload_n 0, 1) := by decide +kernel
theorem dX12_number_37 : decode cX12_number 37 = .ok (.invokevirtual 196, 3) := by decide +kernel
theorem dX12_number_40 : decode cX12_number 40 = .ok (.invokestatic 210, 3) := by decide +kernel
theorem dX12_number_43 : decode cX12_number 43 = .ok (.ifCond .eq 36, 3) := by decide +kernel
theorem dX12_number_46 : decode cX12_number 46 = .ok (.ldc 218, 2) := by decide +kernel
theorem dX12_number_48 : decode cX12_number 48 = .ok (.bipush 10, 2) := by decide +kernel
theorem dX12_number_50 : decode cX12_number 50 = .ok (.iload 4, 2) := by decide +kernel
theorem dX12_number_52 : decode cX12_number 52 = .ok (.imul, 1) := by decide +kernel
theorem dX12_number_53 : decode cX12_number 53 = .ok (.aload_n 0, 1) := by decide +kernel
theorem dX12_number_54 : decode cX12_number 54 = .ok (.invokevirtual 196, 3) := by decide +kernel
theorem dX12_number_57 : decode cX12_number 57 = .ok (.iadd, 1) := by decide +kernel
theorem dX12_number_58 : decode cX12_number 58 = .ok (.bipush 48, 2) := by decide +kernel
theorem dX12_number_60 : decode cX12_number 60 = .ok (.isub, 1) := by decide +kernel
theorem dX12_number_61 : decode cX12_number 61 = .ok (.invokestatic 219, 3) := by decide +kernel
theorem dX12_number_64 : decode cX12_number 64 = .ok (.istore 4, 2) := by decide +kernel
theorem dX12_number_66 : decode cX12_number 66 = .ok (.aload_n 0, 1) := by decide +kernel
theorem dX12_number_67 : decode cX12_number 67 = .ok (.dup, 1) := by decide +kernel
theorem dX12_number_68 : decode cX12_number 68 = .ok (.getfield 189, 3) := by decide +kernel
theorem dX12_number_71 : decode cX12_number 71 = .ok (.iconst 1, 1) := by decide +kernel
theorem dX12_number_72 : decode cX12_number 72 = .ok (.iadd, 1) := by decide +kernel
theorem dX12_number_73 : decode cX12_number 73 = .ok (.putfield 189, 3) := by decide +kernel
theorem dX12_number_76 : decode cX12_number 76 = .ok (.goto (-40), 3) := by decide +kernel
theorem dX12_number_79 : decode cX12_number 79 = .ok (.iload 4, 2) := by decide +kernel
theorem dX12_number_81 : decode cX12_number 81 = .ok (.iload_n 1, 1) := by decide +kernel
theorem dX12_number_82 : decode cX12_number 82 = .ok (.iload_n 2, 1) := by decide +kernel
theorem dX12_number_83 : decode cX12_number 83 = .ok (.invokestatic 223, 3) := by decide +kernel
theorem dX12_number_86 : decode cX12_number 86 = .ok (.ifCond .ne 9, 3) := by decide +kernel
theorem dX12_number_89 : decode cX12_number 89 = .ok (.aload_n 0, 1) := by decide +kernel
theorem dX12_number_90 : decode cX12_number 90 = .ok (.iconst 2, 1) := by decide +kernel
theorem dX12_number_91 : decode cX12_number 91 = .ok (.iload_n 3, 1) := by decide +kernel
theorem dX12_number_92 : decode cX12_number 92 = .ok (.invokevirtual 214, 3) := by decide +kernel
theorem dX12_number_95 : decode cX12_number 95 = .ok (.aload_n 0, 1) := by decide +kernel
theorem dX12_number_96 : decode cX12_number 96 = .ok (.invokevirtual 206, 3) := by decide +kernel
theorem dX12_number_99 : decode cX12_number 99 = .ok (.ifCond .eq 8, 3) := by decide +kernel
theorem dX12_number_102 : decode cX12_number 102 = .ok (.iload 4, 2) := by decide +kernel
theorem dX12_number_104 : decode cX12_number 104 = .ok (.goto 4, 3) := by decide +kernel
theorem dX12_number_107 : decode cX12_number 107 = .ok (.iload_n 1, 1) := by decide +kernel
theorem dX12_number_108 : decode cX12_number 108 = .ok (.ireturn, 1) := by decide +kernel
theorem dX12_closes_0 : decode cX12_closes 0 = .ok (.aload_n 0, 1) := by decide +kernel
theorem dX12_closes_1 : decode cX12_closes 1 = .ok (.invokevirtual 206, 3) := by decide +kernel
theorem dX12_closes_4 : decode cX12_closes 4 = .ok (.ifCond .ne 4, 3) := by decide +kernel
theorem dX12_closes_7 : decode cX12_closes 7 = .ok (.return_, 1) := by decide +kernel
theorem dX12_closes_8 : decode cX12_closes 8 = .ok (.aload_n 0, 1) := by decide +kernel
theorem dX12_closes_9 : decode cX12_closes 9 = .ok (.invokevirtual 227, 3) := by decide +kernel
theorem dX12_closes_12 : decode cX12_closes 12 = .ok (.bipush 59, 2) := by decide +kernel
theorem dX12_closes_14 : decode cX12_closes 14 = .ok (.if_icmp .ne 16, 3) := by decide +kernel
theorem dX12_closes_17 : decode cX12_closes 17 = .ok (.aload_n 0, 1) := by decide +kernel
theorem dX12_closes_18 : decode cX12_closes 18 = .ok (.dup, 1) := by decide +kernel
theorem dX12_closes_19 : decode cX12_closes 19 = .ok (.getfield 189, 3) := by decide +kernel
theorem dX12_closes_22 : decode cX12_closes 22 = .ok (.iconst 1, 1) := by decide +kernel
theorem dX12_closes_23 : decode cX12_closes 23 = .ok (.iadd, 1) := by decide +kernel
theorem dX12_closes_24 : decode cX12_closes 24 = .ok (.putfield 189, 3) := by decide +kernel
theorem dX12_closes_27 : decode cX12_closes 27 = .ok (.goto 12, 3) := by decide +kernel
theorem dX12_closes_30 : decode cX12_closes 30 = .ok (.aload_n 0, 1) := by decide +kernel
theorem dX12_closes_31 : decode cX12_closes 31 = .ok (.iconst 1, 1) := by decide +kernel
theorem dX12_closes_32 : decode cX12_closes 32 = .ok (.aload_n 0, 1) := by decide +kernel
theorem dX12_closes_33 : decode cX12_closes 33 = .ok (.getfield 189, 3) := by decide +kernel
theorem dX12_closes_36 : decode cX12_closes 36 = .ok (.invokevirtual 214, 3) := by decide +kernel
theorem dX12_closes_39 : decode cX12_closes 39 = .ok (.return_, 1) := by decide +kernel
theorem dX12_readsSigns_0 : decode cX12_readsSigns 0 = .ok (.iconst 0, 1) := by decide +kernel
theorem dX12_readsSigns_1 : decode cX12_readsSigns 1 = .ok (.istore_n 2, 1) := by decide +kernel
theorem dX12_readsSigns_2 : decode cX12_readsSigns 2 = .ok (.aload_n 0, 1) := by decide +kernel
theorem dX12_readsSigns_3 : decode cX12_readsSigns 3 = .ok (.invokevirtual 206, 3) := by decide +kernel
theorem dX12_readsSigns_6 : decode cX12_readsSigns 6 = .ok (.ifCond .eq 78, 3) := by decide +kernel
theorem dX12_readsSigns_9 : decode cX12_readsSigns 9 = .ok (.aload_n 0, 1) := by decide +kernel
theorem dX12_readsSigns_10 : decode cX12_readsSigns 10 = .ok (.invokevirtual 196, 3) := by decide +kernel
theorem dX12_readsSigns_13 : decode cX12_readsSigns 13 = .ok (.invokestatic 230, 3) := by decide +kernel
theorem dX12_readsSigns_16 : decode cX12_readsSigns 16 = .ok (.ifCond .ne 16, 3) := by decide +kernel
theorem dX12_readsSigns_19 : decode cX12_readsSigns 19 = .ok (.iload_n 2, 1) := by decide +kernel
theorem dX12_readsSigns_20 : decode cX12_readsSigns 20 = .ok (.ifCond .le 64, 3) := by decide +kernel
theorem dX12_readsSigns_23 : decode cX12_readsSigns 23 = .ok (.aload_n 0, 1) := by decide +kernel
theorem dX12_readsSigns_24 : decode cX12_readsSigns 24 = .ok (.invokevirtual 196, 3) := by decide +kernel
theorem dX12_readsSigns_27 : decode cX12_readsSigns 27 = .ok (.bipush 45, 2) := by decide +kernel
theorem dX12_readsSigns_29 : decode cX12_readsSigns 29 = .ok (.if_icmp .ne 55, 3) := by decide +kernel
theorem dX12_readsSigns_32 : decode cX12_readsSigns 32 = .ok (.iload_n 2, 1) := by decide +kernel
theorem dX12_readsSigns_33 : decode cX12_readsSigns 33 = .ok (.bipush 12, 2) := by decide +kernel
theorem dX12_readsSigns_35 : decode cX12_readsSigns 35 = .ok (.if_icmp .ne 12, 3) := by decide +kernel
theorem dX12_readsSigns_38 : decode cX12_readsSigns 38 = .ok (.aload_n 0, 1) := by decide +kernel
theorem dX12_readsSigns_39 : decode cX12_readsSigns 39 = .ok (.iconst 3, 1) := by decide +kernel
theorem dX12_readsSigns_40 : decode cX12_readsSigns 40 = .ok (.aload_n 0, 1) := by decide +kernel
theorem dX12_readsSigns_41 : decode cX12_readsSigns 41 = .ok (.getfield 189, 3) := by decide +kernel
theorem dX12_readsSigns_44 : decode cX12_readsSigns 44 = .ok (.invokevirtual 214, 3) := by decide +kernel
theorem dX12_readsSigns_47 : decode cX12_readsSigns 47 = .ok (.aload_n 0, 1) := by decide +kernel
theorem dX12_readsSigns_48 : decode cX12_readsSigns 48 = .ok (.invokevirtual 206, 3) := by decide +kernel
theorem dX12_readsSigns_51 : decode cX12_readsSigns 51 = .ok (.ifCond .ne 5, 3) := by decide +kernel
theorem dX12_readsSigns_54 : decode cX12_readsSigns 54 = .ok (.iload_n 2, 1) := by decide +kernel
theorem dX12_readsSigns_55 : decode cX12_readsSigns 55 = .ok (.ireturn, 1) := by decide +kernel
theorem dX12_readsSigns_56 : decode cX12_readsSigns 56 = .ok (.aload_n 0, 1) := by decide +kernel
theorem dX12_readsSigns_57 : decode cX12_readsSigns 57 = .ok (.getfield 25, 3) := by decide +kernel
theorem dX12_readsSigns_60 : decode cX12_readsSigns 60 = .ok (.iload_n 1, 1) := by decide +kernel
theorem dX12_readsSigns_61 : decode cX12_readsSigns 61 = .ok (.aaload, 1) := by decide +kernel
theorem dX12_readsSigns_62 : decode cX12_readsSigns 62 = .ok (.iload_n 2, 1) := by decide +kernel
theorem dX12_readsSigns_63 : decode cX12_readsSigns 63 = .ok (.aload_n 0, 1) := by decide +kernel
theorem dX12_readsSigns_64 : decode cX12_readsSigns 64 = .ok (.invokevirtual 196, 3) := by decide +kernel
theorem dX12_readsSigns_67 : decode cX12_readsSigns 67 = .ok (.iastore, 1) := by decide +kernel
theorem dX12_readsSigns_68 : decode cX12_readsSigns 68 = .ok (.iinc 2 1, 3) := by decide +kernel
theorem dX12_readsSigns_71 : decode cX12_readsSigns 71 = .ok (.aload_n 0, 1) := by decide +kernel
theorem dX12_readsSigns_72 : decode cX12_readsSigns 72 = .ok (.dup, 1) := by decide +kernel
theorem dX12_readsSigns_73 : decode cX12_readsSigns 73 = .ok (.getfield 189, 3) := by decide +kernel
theorem dX12_readsSigns_76 : decode cX12_readsSigns 76 = .ok (.iconst 1, 1) := by decide +kernel
theorem dX12_readsSigns_77 : decode cX12_readsSigns 77 = .ok (.iadd, 1) := by decide +kernel
theorem dX12_readsSigns_78 : decode cX12_readsSigns 78 = .ok (.putfield 189, 3) := by decide +kernel
theorem dX12_readsSigns_81 : decode cX12_readsSigns 81 = .ok (.goto (-79), 3) := by decide +kernel
theorem dX12_readsSigns_84 : decode cX12_readsSigns 84 = .ok (.aload_n 0, 1) := by decide +kernel
theorem dX12_readsSigns_85 : decode cX12_readsSigns 85 = .ok (.getfield 28, 3) := by decide +kernel
theorem dX12_readsSigns_88 : decode cX12_readsSigns 88 = .ok (.iload_n 1, 1) := by decide +kernel
theorem dX12_readsSigns_89 : decode cX12_readsSigns 89 = .ok (.iload_n 2, 1) := by decide +kernel
theorem dX12_readsSigns_90 : decode cX12_readsSigns 90 = .ok (.iastore, 1) := by decide +kernel
theorem dX12_readsSigns_91 : decode cX12_readsSigns 91 = .ok (.iload_n 2, 1) := by decide +kernel
theorem dX12_readsSigns_92 : decode cX12_readsSigns 92 = .ok (.ifCond .le 27, 3) := by decide +kernel
theorem dX12_readsSigns_95 : decode cX12_readsSigns 95 = .ok (.aload_n 0, 1) := by decide +kernel
theorem dX12_readsSigns_96 : decode cX12_readsSigns 96 = .ok (.getfield 25, 3) := by decide +kernel
theorem dX12_readsSigns_99 : decode cX12_readsSigns 99 = .ok (.iload_n 1, 1) := by decide +kernel
theorem dX12_readsSigns_100 : decode cX12_readsSigns 100 = .ok (.aaload, 1) := by decide +kernel
theorem dX12_readsSigns_101 : decode cX12_readsSigns 101 = .ok (.iload_n 2, 1) := by decide +kernel
theorem dX12_readsSigns_102 : decode cX12_readsSigns 102 = .ok (.iconst 1, 1) := by decide +kernel
theorem dX12_readsSigns_103 : decode cX12_readsSigns 103 = .ok (.isub, 1) := by decide +kernel
theorem dX12_readsSigns_104 : decode cX12_readsSigns 104 = .ok (.iaload, 1) := by decide +kernel
theorem dX12_readsSigns_105 : decode cX12_readsSigns 105 = .ok (.bipush 45, 2) := by decide +kernel
theorem dX12_readsSigns_107 : decode cX12_readsSigns 107 = .ok (.if_icmp .ne 12, 3) := by decide +kernel
theorem dX12_readsSigns_110 : decode cX12_readsSigns 110 = .ok (.aload_n 0, 1) := by decide +kernel
theorem dX12_readsSigns_111 : decode cX12_readsSigns 111 = .ok (.iconst 1, 1) := by decide +kernel
theorem dX12_readsSigns_112 : decode cX12_readsSigns 112 = .ok (.aload_n 0, 1) := by decide +kernel
theorem dX12_readsSigns_113 : decode cX12_readsSigns 113 = .ok (.getfield 189, 3) := by decide +kernel
theorem dX12_readsSigns_116 : decode cX12_readsSigns 116 = .ok (.invokevirtual 214, 3) := by decide +kernel
theorem dX12_readsSigns_119 : decode cX12_readsSigns 119 = .ok (.iload_n 2, 1) := by decide +kernel
theorem dX12_readsSigns_120 : decode cX12_readsSigns 120 = .ok (.ireturn, 1) := by decide +kernel
theorem dX12_readsWord_0 : decode cX12_readsWord 0 = .ok (.aload_n 0, 1) := by decide +kernel
theorem dX12_readsWord_1 : decode cX12_readsWord 1 = .ok (.getfield 189, 3) := by decide +kernel
theorem dX12_readsWord_4 : decode cX12_readsWord 4 = .ok (.istore_n 2, 1) := by decide +kernel
theorem dX12_readsWord_5 : decode cX12_readsWord 5 = .ok (.aload_n 0, 1) := by decide +kernel
theorem dX12_readsWord_6 : decode cX12_readsWord 6 = .ok (.iload_n 1, 1) := by decide +kernel
theorem dX12_readsWord_7 : decode cX12_readsWord 7 = .ok (.invokevirtual 233, 3) := by decide +kernel
theorem dX12_readsWord_10 : decode cX12_readsWord 10 = .ok (.pop, 1) := by decide +kernel
theorem dX12_readsWord_11 : decode cX12_readsWord 11 = .ok (.aload_n 0, 1) := by decide +kernel
theorem dX12_readsWord_12 : decode cX12_readsWord 12 = .ok (.invokevirtual 206, 3) := by decide +kernel
theorem dX12_readsWord_15 : decode cX12_readsWord 15 = .ok (.ifCond .eq 18, 3) := by decide +kernel
theorem dX12_readsWord_18 : decode cX12_readsWord 18 = .ok (.aload_n 0, 1) := by decide +kernel
theorem dX12_readsWord_19 : decode cX12_readsWord 19 = .ok (.iload_n 1, 1) := by decide +kernel
theorem dX12_readsWord_20 : decode cX12_readsWord 20 = .ok (.invokevirtual 236, 3) := by decide +kernel
theorem dX12_readsWord_23 : decode cX12_readsWord 23 = .ok (.iconst (-1), 1) := by decide +kernel
theorem dX12_readsWord_24 : decode cX12_readsWord 24 = .ok (.if_icmp .eq 9, 3) := by decide +kernel
theorem dX12_readsWord_27 : decode cX12_readsWord 27 = .ok (.aload_n 0, 1) := by decide +kernel
theorem dX12_readsWord_28 : decode cX12_readsWord 28 = .ok (.iconst 4, 1) := by decide +kernel
theorem dX12_readsWord_29 : decode cX12_readsWord 29 = .ok (.iload_n 2, 1) := by decide +kernel
theorem dX12_readsWord_30 : decode cX12_readsWord 30 = .ok (.invokevirtual 214, 3) := by decide +kernel
theorem dX12_readsWord_33 : decode cX12_readsWord 33 = .ok (.aload_n 0, 1) := by decide +kernel
theorem dX12_readsWord_34 : decode cX12_readsWord 34 = .ok (.getfield 31, 3) := by decide +kernel
theorem dX12_readsWord_37 : decode cX12_readsWord 37 = .ok (.iload_n 1, 1) := by decide +kernel
theorem dX12_readsWord_38 : decode cX12_readsWord 38 = .ok (.iconst 0, 1) := by decide +kernel
theorem dX12_readsWord_39 : decode cX12_readsWord 39 = .ok (.iastore, 1) := by decide +kernel
theorem dX12_readsWord_40 : decode cX12_readsWord 40 = .ok (.aload_n 0, 1) := by decide +kernel
theorem dX12_readsWord_41 : decode cX12_readsWord 41 = .ok (.invokevirtual 206, 3) := by decide +kernel
theorem dX12_readsWord_44 : decode cX12_readsWord 44 = .ok (.ifCond .eq 26, 3) := by decide +kernel
theorem dX12_readsWord_47 : decode cX12_readsWord 47 = .ok (.aload_n 0, 1) := by decide +kernel
theorem dX12_readsWord_48 : decode cX12_readsWord 48 = .ok (.invokevirtual 227, 3) := by decide +kernel
theorem dX12_readsWord_51 : decode cX12_readsWord 51 = .ok (.invokestatic 210, 3) := by decide +kernel
theorem dX12_readsWord_54 : decode cX12_readsWord 54 = .ok (.ifCond .eq 16, 3) := by decide +kernel
theorem dX12_readsWord_57 : decode cX12_readsWord 57 = .ok (.aload_n 0, 1) := by decide +kernel
theorem dX12_readsWord_58 : decode cX12_readsWord 58 = .ok (.getfield 31, 3) := by decide +kernel
theorem dX12_readsWord_61 : decode cX12_readsWord 61 = .ok (.iload_n 1, 1) := by decide +kernel
theorem dX12_readsWord_62 : decode cX12_readsWord 62 = .ok (.aload_n 0, 1) := by decide +kernel
theorem dX12_readsWord_63 : decode cX12_readsWord 63 = .ok (.iconst 0, 1) := by decide +kernel
theorem dX12_readsWord_64 : decode cX12_readsWord 64 = .ok (.bipush 99, 2) := by decide +kernel
theorem dX12_readsWord_66 : decode cX12_readsWord 66 = .ok (.invokevirtual 239, 3) := by decide +kernel
theorem dX12_readsWord_69 : decode cX12_readsWord 69 = .ok (.iastore, 1) := by decide +kernel
theorem dX12_readsWord_70 : decode cX12_readsWord 70 = .ok (.aload_n 0, 1) := by decide +kernel
theorem dX12_readsWord_71 : decode cX12_readsWord 71 = .ok (.invokevirtual 242, 3) := by decide +kernel
theorem dX12_readsWord_74 : decode cX12_readsWord 74 = .ok (.return_, 1) := by decide +kernel
theorem dX12_areSame_0 : decode cX12_areSame 0 = .ok (.aload_n 0, 1) := by decide +kernel
theorem dX12_areSame_1 : decode cX12_areSame 1 = .ok (.getfield 28, 3) := by decide +kernel
theorem dX12_areSame_4 : decode cX12_areSame 4 = .ok (.iload_n 1, 1) := by decide +kernel
theorem dX12_areSame_5 : decode cX12_areSame 5 = .ok (.iaload, 1) := by decide +kernel
theorem dX12_areSame_6 : decode cX12_areSame 6 = .ok (.aload_n 0, 1) := by decide +kernel
theorem dX12_areSame_7 : decode cX12_areSame 7 = .ok (.getfield 28, 3) := by decide +kernel
theorem dX12_areSame_10 : decode cX12_areSame 10 = .ok (.iload_n 2, 1) := by decide +kernel
theorem dX12_areSame_11 : decode cX12_areSame 11 = .ok (.iaload, 1) := by decide +kernel
theorem dX12_areSame_12 : decode cX12_areSame 12 = .ok (.if_icmp .eq 5, 3) := by decide +kernel
theorem dX12_areSame_15 : decode cX12_areSame 15 = .ok (.iconst 0, 1) := by decide +kernel
theorem dX12_areSame_16 : decode cX12_areSame 16 = .ok (.ireturn, 1) := by decide +kernel
theorem dX12_areSame_17 : decode cX12_areSame 17 = .ok (.iconst 0, 1) := by decide +kernel
theorem dX12_areSame_18 : decode cX12_areSame 18 = .ok (.istore_n 3, 1) := by decide +kernel
theorem dX12_areSame_19 : decode cX12_areSame 19 = .ok (.iload_n 3, 1) := by decide +kernel
theorem dX12_areSame_20 : decode cX12_areSame 20 = .ok (.aload_n 0, 1) := by decide +kernel
theorem dX12_areSame_21 : decode cX12_areSame 21 = .ok (.getfield 28, 3) := by decide +kernel
theorem dX12_areSame_24 : decode cX12_areSame 24 = .ok (.iload_n 1, 1) := by decide +kernel
theorem dX12_areSame_25 : decode cX12_areSame 25 = .ok (.iaload, 1) := by decide +kernel
theorem dX12_areSame_26 : decode cX12_areSame 26 = .ok (.if_icmp .ge 30, 3) := by decide +kernel
theorem dX12_areSame_29 : decode cX12_areSame 29 = .ok (.aload_n 0, 1) := by decide +kernel
theorem dX12_areSame_30 : decode cX12_areSame 30 = .ok (.getfield 25, 3) := by decide +kernel
theorem dX12_areSame_33 : decode cX12_areSame 33 = .ok (.iload_n 1, 1) := by decide +kernel
theorem dX12_areSame_34 : decode cX12_areSame 34 = .ok (.aaload, 1) := by decide +kernel
theorem dX12_areSame_35 : decode cX12_areSame 35 = .ok (.iload_n 3, 1) := by decide +kernel
theorem dX12_areSame_36 : decode cX12_areSame 36 = .ok (.iaload, 1) := by decide +kernel
theorem dX12_areSame_37 : decode cX12_areSame 37 = .ok (.aload_n 0, 1) := by decide +kernel
theorem dX12_areSame_38 : decode cX12_areSame 38 = .ok (.getfield 25, 3) := by decide +kernel
theorem dX12_areSame_41 : decode cX12_areSame 41 = .ok (.iload_n 2, 1) := by decide +kernel
theorem dX12_areSame_42 : decode cX12_areSame 42 = .ok (.aaload, 1) := by decide +kernel
theorem dX12_areSame_43 : decode cX12_areSame 43 = .ok (.iload_n 3, 1) := by decide +kernel
theorem dX12_areSame_44 : decode cX12_areSame 44 = .ok (.iaload, 1) := by decide +kernel
theorem dX12_areSame_45 : decode cX12_areSame 45 = .ok (.if_icmp .eq 5, 3) := by decide +kernel
theorem dX12_areSame_48 : decode cX12_areSame 48 = .ok (.iconst 0, 1) := by decide +kernel
theorem dX12_areSame_49 : decode cX12_areSame 49 = .ok (.ireturn, 1) := by decide +kernel
theorem dX12_areSame_50 : decode cX12_areSame 50 = .ok (.iinc 3 1, 3) := by decide +kernel
theorem dX12_areSame_53 : decode cX12_areSame 53 = .ok (.goto (-34), 3) := by decide +kernel
theorem dX12_areSame_56 : decode cX12_areSame 56 = .ok (.iconst 1, 1) := by decide +kernel
theorem dX12_areSame_57 : decode cX12_areSame 57 = .ok (.ireturn, 1) := by decide +kernel
theorem dX12_sameAs_0 : decode cX12_sameAs 0 = .ok (.iconst 0, 1) := by decide +kernel
theorem dX12_sameAs_1 : decode cX12_sameAs 1 = .ok (.istore_n 2, 1) := by decide +kernel
theorem dX12_sameAs_2 : decode cX12_sameAs 2 = .ok (.iload_n 2, 1) := by decide +kernel
theorem dX12_sameAs_3 : decode cX12_sameAs 3 = .ok (.iload_n 1, 1) := by decide +kernel
theorem dX12_sameAs_4 : decode cX12_sameAs 4 = .ok (.if_icmp .ge 20, 3) := by decide +kernel
theorem dX12_sameAs_7 : decode cX12_sameAs 7 = .ok (.aload_n 0, 1) := by decide +kernel
theorem dX12_sameAs_8 : decode cX12_sameAs 8 = .ok (.iload_n 2, 1) := by decide +kernel
theorem dX12_sameAs_9 : decode cX12_sameAs 9 = .ok (.iload_n 1, 1) := by decide +kernel
theorem dX12_sameAs_10 : decode cX12_sameAs 10 = .ok (.invokevirtual 245, 3) := by decide +kernel
theorem dX12_sameAs_13 : decode cX12_sameAs 13 = .ok (.ifCond .eq 5, 3) := by decide +kernel
theorem dX12_sameAs_16 : decode cX12_sameAs 16 = .ok (.iload_n 2, 1) := by decide +kernel
theorem dX12_sameAs_17 : decode cX12_sameAs 17 = .ok (.ireturn, 1) := by decide +kernel
theorem dX12_sameAs_18 : decode cX12_sameAs 18 = .ok (.iinc 2 1, 3) := by decide +kernel
theorem dX12_sameAs_21 : decode cX12_sameAs 21 = .ok (.goto (-19), 3) := by decide +kernel
theorem dX12_sameAs_24 : decode cX12_sameAs 24 = .ok (.iconst (-1), 1) := by decide +kernel
theorem dX12_sameAs_25 : decode cX12_sameAs 25 = .ok (.ireturn, 1) := by decide +kernel
theorem dX12_lexicon_0 : decode cX12_lexicon 0 = .ok (.aload_n 0, 1) := by decide +kernel
theorem dX12_lexicon_1 : decode cX12_lexicon 1 = .ok (.iconst 0, 1) := by decide +kernel
theorem dX12_lexicon_2 : decode cX12_lexicon 2 = .ok (.putfield 180, 3) := by decide +kernel
theorem dX12_lexicon_5 : decode cX12_lexicon 5 = .ok (.aload_n 0, 1) := by decide +kernel
theorem dX12_lexicon_6 : decode cX12_lexicon 6 = .ok (.iload_n 1, 1) := by decide +kernel
theorem dX12_lexicon_7 : decode cX12_lexicon 7 = .ok (.iconst 0, 1) := by decide +kernel
theorem dX12_lexicon_8 : decode cX12_lexicon 8 = .ok (.aload_n 0, 1) := by decide +kernel
theorem dX12_lexicon_9 : decode cX12_lexicon 9 = .ok (.getfield 183, 3) := by decide +kernel
theorem dX12_lexicon_12 : decode cX12_lexicon 12 = .ok (.invokestatic 223, 3) := by decide +kernel
theorem dX12_lexicon_15 : decode cX12_lexicon 15 = .ok (.ifCond .ne 7, 3) := by decide +kernel
theorem dX12_lexicon_18 : decode cX12_lexicon 18 = .ok (.iconst 1, 1) := by decide +kernel
theorem dX12_lexicon_19 : decode cX12_lexicon 19 = .ok (.goto 4, 3) := by decide +kernel
theorem dX12_lexicon_22 : decode cX12_lexicon 22 = .ok (.iconst 0, 1) := by decide +kernel
theorem dX12_lexicon_23 : decode cX12_lexicon 23 = .ok (.iconst 1, 1) := by decide +kernel
theorem dX12_lexicon_24 : decode cX12_lexicon 24 = .ok (.iconst 1, 1) := by decide +kernel
theorem dX12_lexicon_25 : decode cX12_lexicon 25 = .ok (.invokevirtual 249, 3) := by decide +kernel
theorem dX12_lexicon_28 : decode cX12_lexicon 28 = .ok (.ifCond .eq 5, 3) := by decide +kernel
theorem dX12_lexicon_31 : decode cX12_lexicon 31 = .ok (.iconst 0, 1) := by decide +kernel
theorem dX12_lexicon_32 : decode cX12_lexicon 32 = .ok (.ireturn, 1) := by decide +kernel
theorem dX12_lexicon_33 : decode cX12_lexicon 33 = .ok (.aload_n 0, 1) := by decide +kernel
theorem dX12_lexicon_34 : decode cX12_lexicon 34 = .ok (.iload_n 1, 1) := by decide +kernel
theorem dX12_lexicon_35 : decode cX12_lexicon 35 = .ok (.invokevirtual 253, 3) := by decide +kernel
theorem dX12_lexicon_38 : decode cX12_lexicon 38 = .ok (.aload_n 0, 1) := by decide +kernel
theorem dX12_lexicon_39 : decode cX12_lexicon 39 = .ok (.getfield 257, 3) := by decide +kernel
theorem dX12_lexicon_42 : decode cX12_lexicon 42 = .ok (.istore_n 2, 1) := by decide +kernel
theorem dX12_lexicon_43 : decode cX12_lexicon 43 = .ok (.aload_n 0, 1) := by decide +kernel
theorem dX12_lexicon_44 : decode cX12_lexicon 44 = .ok (.getfield 257, 3) := by decide +kernel
theorem dX12_lexicon_47 : decode cX12_lexicon 47 = .ok (.istore_n 3, 1) := by decide +kernel
theorem dX12_lexicon_48 : decode cX12_lexicon 48 = .ok (.aload_n 0, 1) := by decide +kernel
theorem dX12_lexicon_49 : decode cX12_lexicon 49 = .ok (.invokevirtual 206, 3) := by decide +kernel
theorem dX12_lexicon_52 : decode cX12_lexicon 52 = .ok (.ifCond .eq 69, 3) := by decide +kernel
theorem dX12_lexicon_55 : decode cX12_lexicon 55 = .ok (.aload_n 0, 1) := by decide +kernel
theorem dX12_lexicon_56 : decode cX12_lexicon 56 = .ok (.invokevirtual 227, 3) := by decide +kernel
theorem dX12_lexicon_59 : decode cX12_lexicon 59 = .ok (.iconst (-1), 1) := by decide +kernel
theorem dX12_lexicon_60 : decode cX12_lexicon 60 = .ok (.if_icmp .eq 61, 3) := by decide +kernel
theorem dX12_lexicon_63 : decode cX12_lexicon 63 = .ok (.aload_n 0, 1) := by decide +kernel
theorem dX12_lexicon_64 : decode cX12_lexicon 64 = .ok (.invokevirtual 196, 3) := by decide +kernel
theorem dX12_lexicon_67 : decode cX12_lexicon 67 = .ok (.invokestatic 230, 3) := by decide +kernel
theorem dX12_lexicon_70 : decode cX12_lexicon 70 = .ok (.ifCond .ne 15, 3) := by decide +kernel
theorem dX12_lexicon_73 : decode cX12_lexicon 73 = .ok (.aload_n 0, 1) := by decide +kernel
theorem dX12_lexicon_74 : decode cX12_lexicon 74 = .ok (.iconst 1, 1) := by decide +kernel
theorem dX12_lexicon_75 : decode cX12_lexicon 75 = .ok (.aload_n 0, 1) := by decide +kernel
theorem dX12_lexicon_76 : decode cX12_lexicon 76 = .ok (.getfield 189, 3) := by decide +kernel
theorem dX12_lexicon_79 : decode cX12_lexicon 79 = .ok (.invokevirtual 214, 3) := by decide +kernel
theorem dX12_lexicon_82 : decode cX12_lexicon 82 = .ok (.goto 18, 3) := by decide +kernel
theorem dX12_lexicon_85 : decode cX12_lexicon 85 = .ok (.iload_n 3, 1) := by decide +kernel
theorem dX12_lexicon_86 : decode cX12_lexicon 86 = .ok (.bipush 60, 2) := by decide +kernel
theorem dX12_lexicon_88 : decode cX12_lexicon 88 = .ok (.if_icmp .ne 12, 3) := by decide +kernel
theorem dX12_lexicon_91 : decode cX12_lexicon 91 = .ok (.aload_n 0, 1) := by decide +kernel
theorem dX12_lexicon_92 : decode cX12_lexicon 92 = .ok (.iconst 3, 1) := by decide +kernel
theorem dX12_lexicon_93 : decode cX12_lexicon 93 = .ok (.aload_n 0, 1) := by decide +kernel
theorem dX12_lexicon_94 : decode cX12_lexicon 94 = .ok (.getfield 189, 3) := by decide +kernel
theorem dX12_lexicon_97 : decode cX12_lexicon 97 = .ok (.invokevirtual 214, 3) := by decide +kernel
theorem dX12_lexicon_100 : decode cX12_lexicon 100 = .ok (.aload_n 0, 1) := by decide +kernel
theorem dX12_lexicon_101 : decode cX12_lexicon 101 = .ok (.invokevirtual 206, 3) := by decide +kernel
theorem dX12_lexicon_104 : decode cX12_lexicon 104 = .ok (.ifCond .ne 6, 3) := by decide +kernel
theorem dX12_lexicon_107 : decode cX12_lexicon 107 = .ok (.goto 14, 3) := by decide +kernel
theorem dX12_lexicon_110 : decode cX12_lexicon 110 = .ok (.aload_n 0, 1) := by decide +kernel
theorem dX12_lexicon_111 : decode cX12_lexicon 111 = .ok (.iload_n 3, 1) := by decide +kernel
theorem dX12_lexicon_112 : decode cX12_lexicon 112 = .ok (.invokevirtual 260, 3) := by decide +kernel
theorem dX12_lexicon_115 : decode cX12_lexicon 115 = .ok (.iinc 3 1, 3) := by decide +kernel
theorem dX12_lexicon_118 : decode cX12_lexicon 118 = .ok (.goto (-70), 3) := by decide +kernel
theorem dX12_lexicon_121 : decode cX12_lexicon 121 = .ok (.aload_n 0, 1) := by decide +kernel
theorem dX12_lexicon_122 : decode cX12_lexicon 122 = .ok (.invokevirtual 206, 3) := by decide +kernel
theorem dX12_lexicon_125 : decode cX12_lexicon 125 = .ok (.ifCond .ne 9, 3) := by decide +kernel
theorem dX12_lexicon_128 : decode cX12_lexicon 128 = .ok (.aload_n 0, 1) := by decide +kernel
theorem dX12_lexicon_129 : decode cX12_lexicon 129 = .ok (.iconst 0, 1) := by decide +kernel
theorem dX12_lexicon_130 : decode cX12_lexicon 130 = .ok (.invokevirtual 263, 3) := by decide +kernel
theorem dX12_lexicon_133 : decode cX12_lexicon 133 = .ok (.ireturn, 1) := by decide +kernel
theorem dX12_lexicon_134 : decode cX12_lexicon 134 = .ok (.aload_n 0, 1) := by decide +kernel
theorem dX12_lexicon_135 : decode cX12_lexicon 135 = .ok (.iload_n 3, 1) := by decide +kernel
theorem dX12_lexicon_136 : decode cX12_lexicon 136 = .ok (.putfield 257, 3) := by decide +kernel
theorem dX12_lexicon_139 : decode cX12_lexicon 139 = .ok (.iload_n 2, 1) := by decide +kernel
theorem dX12_lexicon_140 : decode cX12_lexicon 140 = .ok (.istore 4, 2) := by decide +kernel
theorem dX12_lexicon_142 : decode cX12_lexicon 142 = .ok (.iload 4, 2) := by decide +kernel
theorem dX12_lexicon_144 : decode cX12_lexicon 144 = .ok (.aload_n 0, 1) := by decide +kernel
theorem dX12_lexicon_145 : decode cX12_lexicon 145 = .ok (.getfield 257, 3) := by decide +kernel
theorem dX12_lexicon_148 : decode cX12_lexicon 148 = .ok (.if_icmp .ge 15, 3) := by decide +kernel
theorem dX12_lexicon_151 : decode cX12_lexicon 151 = .ok (.aload_n 0, 1) := by decide +kernel
theorem dX12_lexicon_152 : decode cX12_lexicon 152 = .ok (.iload 4, 2) := by decide +kernel
theorem dX12_lexicon_154 : decode cX12_lexicon 154 = .ok (.invokevirtual 266, 3) := by decide +kernel
theorem dX12_lexicon_157 : decode cX12_lexicon 157 = .ok (.iinc 4 1, 3) := by decide +kernel
theorem dX12_lexicon_160 : decode cX12_lexicon 160 = .ok (.goto (-18), 3) := by decide +kernel
theorem dX12_lexicon_163 : decode cX12_lexicon 163 = .ok (.aload_n 0, 1) := by decide +kernel
theorem dX12_lexicon_164 : decode cX12_lexicon 164 = .ok (.invokevirtual 269, 3) := by decide +kernel
theorem dX12_lexicon_167 : decode cX12_lexicon 167 = .ok (.aload_n 0, 1) := by decide +kernel
theorem dX12_lexicon_168 : decode cX12_lexicon 168 = .ok (.aload_n 0, 1) := by decide +kernel
theorem dX12_lexicon_169 : decode cX12_lexicon 169 = .ok (.getfield 257, 3) := by decide +kernel
theorem dX12_lexicon_172 : decode cX12_lexicon 172 = .ok (.invokevirtual 263, 3) := by decide +kernel
theorem dX12_lexicon_175 : decode cX12_lexicon 175 = .ok (.ireturn, 1) := by decide +kernel
theorem dX12_plants_0 : decode cX12_plants 0 = .ok (.aload_n 0, 1) := by decide +kernel
theorem dX12_plants_1 : decode cX12_plants 1 = .ok (.iconst 1, 1) := by decide +kernel
theorem dX12_plants_2 : decode cX12_plants 2 = .ok (.putfield 37, 3) := by decide +kernel
theorem dX12_plants_5 : decode cX12_plants 5 = .ok (.aload_n 0, 1) := by decide +kernel
theorem dX12_plants_6 : decode cX12_plants 6 = .ok (.getfield 40, 3) := by decide +kernel
theorem dX12_plants_9 : decode cX12_plants 9 = .ok (.iconst 0, 1) := by decide +kernel
theorem dX12_plants_10 : decode cX12_plants 10 = .ok (.iconst (-1), 1) := by decide +kernel
theorem dX12_plants_11 : decode cX12_plants 11 = .ok (.iastore, 1) := by decide +kernel
theorem dX12_plants_12 : decode cX12_plants 12 = .ok (.aload_n 0, 1) := by decide +kernel
theorem dX12_plants_13 : decode cX12_plants 13 = .ok (.getfield 43, 3) := by decide +kernel
theorem dX12_plants_16 : decode cX12_plants 16 = .ok (.iconst 0, 1) := by decide +kernel
theorem dX12_plants_17 : decode cX12_plants 17 = .ok (.iconst 0, 1) := by decide +kernel
theorem dX12_plants_18 : decode cX12_plants 18 = .ok (.iastore, 1) := by decide +kernel
theorem dX12_plants_19 : decode cX12_plants 19 = .ok (.aload_n 0, 1) := by decide +kernel
theorem dX12_plants_20 : decode cX12_plants 20 = .ok (.getfield 46, 3) := by decide +kernel
theorem dX12_plants_23 : decode cX12_plants 23 = .ok (.iconst 0, 1) := by decide +kernel
theorem dX12_plants_24 : decode cX12_plants 24 = .ok (.iconst (-1), 1) := by decide +kernel
theorem dX12_plants_25 : decode cX12_plants 25 = .ok (.iastore, 1) := by decide +kernel
theorem dX12_plants_26 : decode cX12_plants 26 = .ok (.aload_n 0, 1) := by decide +kernel
theorem dX12_plants_27 : decode cX12_plants 27 = .ok (.invokevirtual 269, 3) := by decide +kernel
theorem dX12_plants_30 : decode cX12_plants 30 = .ok (.return_, 1) := by decide +kernel
theorem dX12_childOf_0 : decode cX12_childOf 0 = .ok (.iload_n 1, 1) := by decide +kernel
theorem dX12_childOf_1 : decode cX12_childOf 1 = .ok (.iconst 1, 1) := by decide +kernel
theorem dX12_childOf_2 : decode cX12_childOf 2 = .ok (.iadd, 1) := by decide +kernel
theorem dX12_childOf_3 : decode cX12_childOf 3 = .ok (.istore_n 3, 1) := by decide +kernel
theorem dX12_childOf_4 : decode cX12_childOf 4 = .ok (.iload_n 3, 1) := by decide +kernel
theorem dX12_childOf_5 : decode cX12_childOf 5 = .ok (.aload_n 0, 1) := by decide +kernel
theorem dX12_childOf_6 : decode cX12_childOf 6 = .ok (.getfield 37, 3) := by decide +kernel
theorem dX12_childOf_9 : decode cX12_childOf 9 = .ok (.if_icmp .ge 31, 3) := by decide +kernel
theorem dX12_childOf_12 : decode cX12_childOf 12 = .ok (.aload_n 0, 1) := by decide +kernel
theorem dX12_childOf_13 : decode cX12_childOf 13 = .ok (.getfield 40, 3) := by decide +kernel
theorem dX12_childOf_16 : decode cX12_childOf 16 = .ok (.iload_n 3, 1) := by decide +kernel
theorem dX12_childOf_17 : decode cX12_childOf 17 = .ok (.iaload, 1) := by decide +kernel
theorem dX12_childOf_18 : decode cX12_childOf 18 = .ok (.iload_n 1, 1) := by decide +kernel
theorem dX12_childOf_19 : decode cX12_childOf 19 = .ok (.if_icmp .ne 15, 3) := by decide +kernel
theorem dX12_childOf_22 : decode cX12_childOf 22 = .ok (.aload_n 0, 1) := by decide +kernel
theorem dX12_childOf_23 : decode cX12_childOf 23 = .ok (.getfield 43, 3) := by decide +kernel
theorem dX12_childOf_26 : decode cX12_childOf 26 = .ok (.iload_n 3, 1) := by decide +kernel
theorem dX12_childOf_27 : decode cX12_childOf 27 = .ok (.iaload, 1) := by decide +kernel
theorem dX12_childOf_28 : decode cX12_childOf 28 = .ok (.iload_n 2, 1) := by decide +kernel
theorem dX12_childOf_29 : decode cX12_childOf 29 = .ok (.if_icmp .ne 5, 3) := by decide +kernel
theorem dX12_childOf_32 : decode cX12_childOf 32 = .ok (.iload_n 3, 1) := by decide +kernel
theorem dX12_childOf_33 : decode cX12_childOf 33 = .ok (.ireturn, 1) := by decide +kernel
theorem dX12_childOf_34 : decode cX12_childOf 34 = .ok (.iinc 3 1, 3) := by decide +kernel
theorem dX12_childOf_37 : decode cX12_childOf 37 = .ok (.goto (-33), 3) := by decide +kernel
theorem dX12_childOf_40 : decode cX12_childOf 40 = .ok (.iconst (-1), 1) := by decide +kernel
theorem dX12_childOf_41 : decode cX12_childOf 41 = .ok (.ireturn, 1) := by decide +kernel
theorem dX12_grows_0 : decode cX12_grows 0 = .ok (.iconst 0, 1) := by decide +kernel
theorem dX12_grows_1 : decode cX12_grows 1 = .ok (.istore_n 2, 1) := by decide +kernel
theorem dX12_grows_2 : decode cX12_grows 2 = .ok (.iconst 0, 1) := by decide +kernel
theorem dX12_grows_3 : decode cX12_grows 3 = .ok (.istore_n 3, 1) := by decide +kernel
theorem dX12_grows_4 : decode cX12_grows 4 = .ok (.iload_n 3, 1) := by decide +kernel
theorem dX12_grows_5 : decode cX12_grows 5 = .ok (.aload_n 0, 1) := by decide +kernel
theorem dX12_grows_6 : decode cX12_grows 6 = .ok (.getfield 28, 3) := by decide +kernel
theorem dX12_grows_9 : decode cX12_grows 9 = .ok (.iload_n 1, 1) := by decide +kernel
theorem dX12_grows_10 : decode cX12_grows 10 = .ok (.iaload, 1) := by decide +kernel
theorem dX12_grows_11 : decode cX12_grows 11 = .ok (.if_icmp .ge 80, 3) := by decide +kernel
theorem dX12_grows_14 : decode cX12_grows 14 = .ok (.aload_n 0, 1) := by decide +kernel
theorem dX12_grows_15 : decode cX12_grows 15 = .ok (.iload_n 2, 1) := by decide +kernel
theorem dX12_grows_16 : decode cX12_grows 16 = .ok (.aload_n 0, 1) := by decide +kernel
theorem dX12_grows_17 : decode cX12_grows 17 = .ok (.getfield 25, 3) := by decide +kernel
theorem dX12_grows_20 : decode cX12_grows 20 = .ok (.iload_n 1, 1) := by decide +kernel
theorem dX12_grows_21 : decode cX12_grows 21 = .ok (.aaload, 1) := by decide +kernel
theorem dX12_grows_22 : decode cX12_grows 22 = .ok (.iload_n 3, 1) := by decide +kernel
theorem dX12_grows_23 : decode cX12_grows 23 = .ok (.iaload, 1) := by decide +kernel
theorem dX12_grows_24 : decode cX12_grows 24 = .ok (.invokevirtual 272, 3) := by decide +kernel
theorem dX12_grows_27 : decode cX12_grows 27 = .ok (.istore 4, 2) := by decide +kernel
theorem dX12_grows_29 : decode cX12_grows 29 = .ok (.iload 4, 2) := by decide +kernel
theorem dX12_grows_31 : decode cX12_grows 31 = .ok (.iconst (-1), 1) := by decide +kernel
theorem dX12_grows_32 : decode cX12_grows 32 = .ok (.if_icmp .ne 50, 3) := by decide +kernel
theorem dX12_grows_35 : decode cX12_grows 35 = .ok (.aload_n 0, 1) := by decide +kernel
theorem dX12_grows_36 : decode cX12_grows 36 = .ok (.getfield 37, 3) := by decide +kernel
theorem dX12_grows_39 : decode cX12_grows 39 = .ok (.istore 4, 2) := by decide +kernel
theorem dX12_grows_41 : decode cX12_grows 41 = .ok (.aload_n 0, 1) := by decide +kernel
theorem dX12_grows_42 : decode cX12_grows 42 = .ok (.getfield 40, 3) := by decide +kernel
theorem dX12_grows_45 : decode cX12_grows 45 = .ok (.iload 4, 2) := by decide +kernel
theorem dX12_grows_47 : decode cX12_grows 47 = .ok (.iload_n 2, 1) := by decide +kernel
theorem dX12_grows_48 : decode cX12_grows 48 = .ok (.iastore, 1) := by decide +kernel
theorem dX12_grows_49 : decode cX12_grows 49 = .ok (.aload_n 0, 1) := by decide +kernel
theorem dX12_grows_50 : decode cX12_grows 50 = .ok (.getfield 43, 3) := by decide +kernel
theorem dX12_grows_53 : decode cX12_grows 53 = .ok (.iload 4, 2) := by decide +kernel
theorem dX12_grows_55 : decode cX12_grows 55 = .ok (.aload_n 0, 1) := by decide +kernel
theorem dX12_grows_56 : decode cX12_grows 56 = .ok (.getfield 25, 3) := by decide +kernel
theorem dX12_grows_59 : decode cX12_grows 59 = .ok (.iload_n 1, 1) := by decide +kernel
theorem dX12_grows_60 : decode cX12_grows 60 = .ok (.aaload, 1) := by decide +kernel
theorem dX12_grows_61 : decode cX12_grows 61 = .ok (.iload_n 3, 1) := by decide +kernel
theorem dX12_grows_62 : decode cX12_grows 62 = .ok (.iaload, 1) := by decide +kernel
theorem dX12_grows_63 : decode cX12_grows 63 = .ok (.iastore, 1) := by decide +kernel
theorem dX12_grows_64 : decode cX12_grows 64 = .ok (.aload_n 0, 1) := by decide +kernel
theorem dX12_grows_65 : decode cX12_grows 65 = .ok (.getfield 46, 3) := by decide +kernel
theorem dX12_grows_68 : decode cX12_grows 68 = .ok (.iload 4, 2) := by decide +kernel
theorem dX12_grows_70 : decode cX12_grows 70 = .ok (.iconst (-1), 1) := by decide +kernel
theorem dX12_grows_71 : decode cX12_grows 71 = .ok (.iastore, 1) := by decide +kernel
theorem dX12_grows_72 : decode cX12_grows 72 = .ok (.aload_n 0, 1) := by decide +kernel
theorem dX12_grows_73 : decode cX12_grows 73 = .ok (.dup, 1) := by decide +kernel
theorem dX12_grows_74 : decode cX12_grows 74 = .ok (.getfield 37, 3) := by decide +kernel
theorem dX12_grows_77 : decode cX12_grows 77 = .ok (.iconst 1, 1) := by decide +kernel
theorem dX12_grows_78 : decode cX12_grows 78 = .ok (.iadd, 1) := by decide +kernel
theorem dX12_grows_79 : decode cX12_grows 79 = .ok (.putfield 37, 3) := by decide +kernel
theorem dX12_grows_82 : decode cX12_grows 82 = .ok (.iload 4, 2) := by decide +kernel
theorem dX12_grows_84 : decode cX12_grows 84 = .ok (.istore_n 2, 1) := by decide +kernel
theorem dX12_grows_85 : decode cX12_grows 85 = .ok (.iinc 3 1, 3) := by decide +kernel
theorem dX12_grows_88 : decode cX12_grows 88 = .ok (.goto (-84), 3) := by decide +kernel
theorem dX12_grows_91 : decode cX12_grows 91 = .ok (.aload_n 0, 1) := by decide +kernel
theorem dX12_grows_92 : decode cX12_grows 92 = .ok (.getfield 46, 3) := by decide +kernel
theorem dX12_grows_95 : decode cX12_grows 95 = .ok (.iload_n 2, 1) := by decide +kernel
theorem dX12_grows_96 : decode cX12_grows 96 = .ok (.iload_n 1, 1) := by decide +kernel
theorem dX12_grows_97 : decode cX12_grows 97 = .ok (.iastore, 1) := by decide +kernel
theorem dX12_grows_98 : decode cX12_grows 98 = .ok (.aload_n 0, 1) := by decide +kernel
theorem dX12_grows_99 : decode cX12_grows 99 = .ok (.getfield 34, 3) := by decide +kernel
theorem dX12_grows_102 : decode cX12_grows 102 = .ok (.iload_n 1, 1) := by decide +kernel
theorem dX12_grows_103 : decode cX12_grows 103 = .ok (.iload_n 2, 1) := by decide +kernel
theorem dX12_grows_104 : decode cX12_grows 104 = .ok (.iastore, 1) := by decide +kernel
theorem dX12_grows_105 : decode cX12_grows 105 = .ok (.return_, 1) := by decide +kernel
theorem dX12_weighs_0 : decode cX12_weighs 0 = .ok (.iconst 0, 1) := by decide +kernel
theorem dX12_weighs_1 : decode cX12_weighs 1 = .ok (.istore_n 1, 1) := by decide +kernel
theorem dX12_weighs_2 : decode cX12_weighs 2 = .ok (.iload_n 1, 1) := by decide +kernel
theorem dX12_weighs_3 : decode cX12_weighs 3 = .ok (.aload_n 0, 1) := by decide +kernel
theorem dX12_weighs_4 : decode cX12_weighs 4 = .ok (.getfield 37, 3) := by decide +kernel
theorem dX12_weighs_7 : decode cX12_weighs 7 = .ok (.if_icmp .ge 23, 3) := by decide +kernel
theorem dX12_weighs_10 : decode cX12_weighs 10 = .ok (.aload_n 0, 1) := by decide +kernel
theorem dX12_weighs_11 : decode cX12_weighs 11 = .ok (.getfield 49, 3) := by decide +kernel
theorem dX12_weighs_14 : decode cX12_weighs 14 = .ok (.iload_n 1, 1) := by decide +kernel
theorem dX12_weighs_15 : decode cX12_weighs 15 = .ok (.iconst (-1), 1) := by decide +kernel
theorem dX12_weighs_16 : decode cX12_weighs 16 = .ok (.iastore, 1) := by decide +kernel
theorem dX12_weighs_17 : decode cX12_weighs 17 = .ok (.aload_n 0, 1) := by decide +kernel
theorem dX12_weighs_18 : decode cX12_weighs 18 = .ok (.getfield 52, 3) := by decide +kernel
theorem dX12_weighs_21 : decode cX12_weighs 21 = .ok (.iload_n 1, 1) := by decide +kernel
theorem dX12_weighs_22 : decode cX12_weighs 22 = .ok (.iconst 0, 1) := by decide +kernel
theorem dX12_weighs_23 : decode cX12_weighs 23 = .ok (.iastore, 1) := by decide +kernel
theorem dX12_weighs_24 : decode cX12_weighs 24 = .ok (.iinc 1 1, 3) := by decide +kernel
theorem dX12_weighs_27 : decode cX12_weighs 27 = .ok (.goto (-25), 3) := by decide +kernel
theorem dX12_weighs_30 : decode cX12_weighs 30 = .ok (.iconst 0, 1) := by decide +kernel
theorem dX12_weighs_31 : decode cX12_weighs 31 = .ok (.istore_n 1, 1) := by decide +kernel
theorem dX12_weighs_32 : decode cX12_weighs 32 = .ok (.iload_n 1, 1) := by decide +kernel
theorem dX12_weighs_33 : decode cX12_weighs 33 = .ok (.aload_n 0, 1) := by decide +kernel
theorem dX12_weighs_34 : decode cX12_weighs 34 = .ok (.getfield 257, 3) := by decide +kernel
theorem dX12_weighs_37 : decode cX12_weighs 37 = .ok (.if_icmp .ge 81, 3) := by decide +kernel
theorem dX12_weighs_40 : decode cX12_weighs 40 = .ok (.aload_n 0, 1) := by decide +kernel
theorem dX12_weighs_41 : decode cX12_weighs 41 = .ok (.getfield 34, 3) := by decide +kernel
theorem dX12_weighs_44 : decode cX12_weighs 44 = .ok (.iload_n 1, 1) := by decide +kernel
theorem dX12_weighs_45 : decode cX12_weighs 45 = .ok (.iaload, 1) := by decide +kernel
theorem dX12_weighs_46 : decode cX12_weighs 46 = .ok (.istore_n 2, 1) := by decide +kernel
theorem dX12_weighs_47 : decode cX12_weighs 47 = .ok (.iload_n 2, 1) := by decide +kernel
theorem dX12_weighs_48 : decode cX12_weighs 48 = .ok (.iconst (-1), 1) := by decide +kernel
theorem dX12_weighs_49 : decode cX12_weighs 49 = .ok (.if_icmp .eq 63, 3) := by decide +kernel
theorem dX12_weighs_52 : decode cX12_weighs 52 = .ok (.aload_n 0, 1) := by decide +kernel
theorem dX12_weighs_53 : decode cX12_weighs 53 = .ok (.getfield 49, 3) := by decide +kernel
theorem dX12_weighs_56 : decode cX12_weighs 56 = .ok (.iload_n 2, 1) := by decide +kernel
theorem dX12_weighs_57 : decode cX12_weighs 57 = .ok (.aload_n 0, 1) := by decide +kernel
theorem dX12_weighs_58 : decode cX12_weighs 58 = .ok (.getfield 49, 3) := by decide +kernel
theorem dX12_weighs_61 : decode cX12_weighs 61 = .ok (.iload_n 2, 1) := by decide +kernel
theorem dX12_weighs_62 : decode cX12_weighs 62 = .ok (.iaload, 1) := by decide +kernel
theorem dX12_weighs_63 : decode cX12_weighs 63 = .ok (.iconst (-1), 1) := by decide +kernel
theorem dX12_weighs_64 : decode cX12_weighs 64 = .ok (.if_icmp .ne 12, 3) := by decide +kernel
theorem dX12_weighs_67 : decode cX12_weighs 67 = .ok (.aload_n 0, 1) := by decide +kernel
theorem dX12_weighs_68 : decode cX12_weighs 68 = .ok (.getfield 31, 3) := by decide +kernel
theorem dX12_weighs_71 : decode cX12_weighs 71 = .ok (.iload_n 1, 1) := by decide +kernel
theorem dX12_weighs_72 : decode cX12_weighs 72 = .ok (.iaload, 1) := by decide +kernel
theorem dX12_weighs_73 : decode cX12_weighs 73 = .ok (.goto 18, 3) := by decide +kernel
theorem dX12_weighs_76 : decode cX12_weighs 76 = .ok (.aload_n 0, 1) := by decide +kernel
theorem dX12_weighs_77 : decode cX12_weighs 77 = .ok (.getfield 49, 3) := by decide +kernel
theorem dX12_weighs_80 : decode cX12_weighs 80 = .ok (.iload_n 2, 1) := by decide +kernel
theorem dX12_weighs_81 : decode cX12_weighs 81 = .ok (.iaload, 1) := by decide +kernel
theorem dX12_weighs_82 : decode cX12_weighs 82 = .ok (.aload_n 0, 1) := by decide +kernel
theorem dX12_weighs_83 : decode cX12_weighs 83 = .ok (.getfield 31, 3) := by decide +kernel
theorem dX12_weighs_86 : decode cX12_weighs 86 = .ok (.iload_n 1, 1) := by decide +kernel
theorem dX12_weighs_87 : decode cX12_weighs 87 = .ok (.iaload, 1) := by decide +kernel
theorem dX12_weighs_88 : decode cX12_weighs 88 = .ok (.invokestatic 219, 3) := by decide +kernel
theorem dX12_weighs_91 : decode cX12_weighs 91 = .ok (.iastore, 1) := by decide +kernel
theorem dX12_weighs_92 : decode cX12_weighs 92 = .ok (.aload_n 0, 1) := by decide +kernel
theorem dX12_weighs_93 : decode cX12_weighs 93 = .ok (.getfield 52, 3) := by decide +kernel
theorem dX12_weighs_96 : decode cX12_weighs 96 = .ok (.iload_n 2, 1) := by decide +kernel
theorem dX12_weighs_97 : decode cX12_weighs 97 = .ok (.dup2, 1) := by decide +kernel
theorem dX12_weighs_98 : decode cX12_weighs 98 = .ok (.iaload, 1) := by decide +kernel
theorem dX12_weighs_99 : decode cX12_weighs 99 = .ok (.iconst 1, 1) := by decide +kernel
theorem dX12_weighs_100 : decode cX12_weighs 100 = .ok (.iadd, 1) := by decide +kernel
theorem dX12_weighs_101 : decode cX12_weighs 101 = .ok (.iastore, 1) := by decide +kernel
theorem dX12_weighs_102 : decode cX12_weighs 102 = .ok (.aload_n 0, 1) := by decide +kernel
theorem dX12_weighs_103 : decode cX12_weighs 103 = .ok (.getfield 40, 3) := by decide +kernel
theorem dX12_weighs_106 : decode cX12_weighs 106 = .ok (.iload_n 2, 1) := by decide +kernel
theorem dX12_weighs_107 : decode cX12_weighs 107 = .ok (.iaload, 1) := by decide +kernel
theorem dX12_weighs_108 : decode cX12_weighs 108 = .ok (.istore_n 2, 1) := by decide +kernel
theorem dX12_weighs_109 : decode cX12_weighs 109 = .ok (.goto (-62), 3) := by decide +kernel
theorem dX12_weighs_112 : decode cX12_weighs 112 = .ok (.iinc 1 1, 3) := by decide +kernel
theorem dX12_weighs_115 : decode cX12_weighs 115 = .ok (.goto (-83), 3) := by decide +kernel
theorem dX12_weighs_118 : decode cX12_weighs 118 = .ok (.return_, 1) := by decide +kernel
theorem dX12_forget_0 : decode cX12_forget 0 = .ok (.aload_n 0, 1) := by decide +kernel
theorem dX12_forget_1 : decode cX12_forget 1 = .ok (.iconst 0, 1) := by decide +kernel
theorem dX12_forget_2 : decode cX12_forget 2 = .ok (.putfield 180, 3) := by decide +kernel
theorem dX12_forget_5 : decode cX12_forget 5 = .ok (.aload_n 0, 1) := by decide +kernel
theorem dX12_forget_6 : decode cX12_forget 6 = .ok (.getfield 257, 3) := by decide +kernel
theorem dX12_forget_9 : decode cX12_forget 9 = .ok (.istore_n 1, 1) := by decide +kernel
theorem dX12_forget_10 : decode cX12_forget 10 = .ok (.aload_n 0, 1) := by decide +kernel
theorem dX12_forget_11 : decode cX12_forget 11 = .ok (.iconst 0, 1) := by decide +kernel
theorem dX12_forget_12 : decode cX12_forget 12 = .ok (.putfield 257, 3) := by decide +kernel
theorem dX12_forget_15 : decode cX12_forget 15 = .ok (.aload_n 0, 1) := by decide +kernel
theorem dX12_forget_16 : decode cX12_forget 16 = .ok (.getfield 86, 3) := by decide +kernel
theorem dX12_forget_19 : decode cX12_forget 19 = .ok (.iconst 0, 1) := by decide +kernel
theorem dX12_forget_20 : decode cX12_forget 20 = .ok (.iconst 0, 1) := by decide +kernel
theorem dX12_forget_21 : decode cX12_forget 21 = .ok (.iastore, 1) := by decide +kernel
theorem dX12_forget_22 : decode cX12_forget 22 = .ok (.aload_n 0, 1) := by decide +kernel
theorem dX12_forget_23 : decode cX12_forget 23 = .ok (.invokevirtual 177, 3) := by decide +kernel
theorem dX12_forget_26 : decode cX12_forget 26 = .ok (.iload_n 1, 1) := by decide +kernel
theorem dX12_forget_27 : decode cX12_forget 27 = .ok (.ireturn, 1) := by decide +kernel
theorem dX12_wordHere_0 : decode cX12_wordHere 0 = .ok (.aload_n 0, 1) := by decide +kernel
theorem dX12_wordHere_1 : decode cX12_wordHere 1 = .ok (.invokevirtual 227, 3) := by decide +kernel
theorem dX12_wordHere_4 : decode cX12_wordHere 4 = .ok (.invokestatic 230, 3) := by decide +kernel
theorem dX12_wordHere_7 : decode cX12_wordHere 7 = .ok (.ifCond .ne 12, 3) := by decide +kernel
theorem dX12_wordHere_10 : decode cX12_wordHere 10 = .ok (.aload_n 0, 1) := by decide +kernel
theorem dX12_wordHere_11 : decode cX12_wordHere 11 = .ok (.iconst 1, 1) := by decide +kernel
theorem dX12_wordHere_12 : decode cX12_wordHere 12 = .ok (.aload_n 0, 1) := by decide +kernel
theorem dX12_wordHere_13 : decode cX12_wordHere 13 = .ok (.getfield 189, 3) := by decide +kernel
theorem dX12_wordHere_16 : decode cX12_wordHere 16 = .ok (.invokevirtual 214, 3) := by decide +kernel
theorem dX12_wordHere_19 : decode cX12_wordHere 19 = .ok (.aload_n 0, 1) := by decide +kernel
theorem dX12_wordHere_20 : decode cX12_wordHere 20 = .ok (.invokevirtual 206, 3) := by decide +kernel
theorem dX12_wordHere_23 : decode cX12_wordHere 23 = .ok (.ifCond .ne 5, 3) := by decide +kernel
theorem dX12_wordHere_26 : decode cX12_wordHere 26 = .ok (.iconst (-1), 1) := by decide +kernel
theorem dX12_wordHere_27 : decode cX12_wordHere 27 = .ok (.ireturn, 1) := by decide +kernel
theorem dX12_wordHere_28 : decode cX12_wordHere 28 = .ok (.aload_n 0, 1) := by decide +kernel
theorem dX12_wordHere_29 : decode cX12_wordHere 29 = .ok (.getfield 189, 3) := by decide +kernel
theorem dX12_wordHere_32 : decode cX12_wordHere 32 = .ok (.istore_n 1, 1) := by decide +kernel
theorem dX12_wordHere_33 : decode cX12_wordHere 33 = .ok (.iconst 0, 1) := by decide +kernel
theorem dX12_wordHere_34 : decode cX12_wordHere 34 = .ok (.istore_n 2, 1) := by decide +kernel
theorem dX12_wordHere_35 : decode cX12_wordHere 35 = .ok (.aload_n 0, 1) := by decide +kernel
theorem dX12_wordHere_36 : decode cX12_wordHere 36 = .ok (.invokevirtual 196, 3) := by decide +kernel
theorem dX12_wordHere_39 : decode cX12_wordHere 39 = .ok (.invokestatic 230, 3) := by decide +kernel
theorem dX12_wordHere_42 : decode cX12_wordHere 42 = .ok (.ifCond .ne 12, 3) := by decide +kernel
theorem dX12_wordHere_45 : decode cX12_wordHere 45 = .ok (.aload_n 0, 1) := by decide +kernel
theorem dX12_wordHere_46 : decode cX12_wordHere 46 = .ok (.invokevirtual 196, 3) := by decide +kernel
theorem dX12_wordHere_49 : decode cX12_wordHere 49 = .ok (.bipush 45, 2) := by decide +kernel
theorem dX12_wordHere_51 : decode cX12_wordHere 51 = .ok (.if_icmp .ne 38, 3) := by decide +kernel
theorem dX12_wordHere_54 : decode cX12_wordHere 54 = .ok (.iload_n 2, 1) := by decide +kernel
theorem dX12_wordHere_55 : decode cX12_wordHere 55 = .ok (.bipush 12, 2) := by decide +kernel
theorem dX12_wordHere_57 : decode cX12_wordHere 57 = .ok (.if_icmp .ge 16, 3) := by decide +kernel
theorem dX12_wordHere_60 : decode cX12_wordHere 60 = .ok (.aload_n 0, 1) := by decide +kernel
theorem dX12_wordHere_61 : decode cX12_wordHere 61 = .ok (.getfield 25, 3) := by decide +kernel
theorem dX12_wordHere_64 : decode cX12_wordHere 64 = .ok (.bipush 60, 2) := by decide +kernel
theorem dX12_wordHere_66 : decode cX12_wordHere 66 = .ok (.aaload, 1) := by decide +kernel
theorem dX12_wordHere_67 : decode cX12_wordHere 67 = .ok (.iload_n 2, 1) := by decide +kernel
theorem dX12_wordHere_68 : decode cX12_wordHere 68 = .ok (.aload_n 0, 1) := by decide +kernel
theorem dX12_wordHere_69 : decode cX12_wordHere 69 = .ok (.invokevirtual 196, 3) := by decide +kernel
theorem dX12_wordHere_72 : decode cX12_wordHere 72 = .ok (.iastore, 1) := by decide +kernel
theorem dX12_wordHere_73 : decode cX12_wordHere 73 = .ok (.iinc 2 1, 3) := by decide +kernel
theorem dX12_wordHere_76 : decode cX12_wordHere 76 = .ok (.aload_n 0, 1) := by decide +kernel
theorem dX12_wordHere_77 : decode cX12_wordHere 77 = .ok (.dup, 1) := by decide +kernel
theorem dX12_wordHere_78 : decode cX12_wordHere 78 = .ok (.getfield 189, 3) := by decide +kernel
theorem dX12_wordHere_81 : decode cX12_wordHere 81 = .ok (.iconst 1, 1) := by decide +kernel
theorem dX12_wordHere_82 : decode cX12_wordHere 82 = .ok (.iadd, 1) := by decide +kernel
theorem dX12_wordHere_83 : decode cX12_wordHere 83 = .ok (.putfield 189, 3) := by decide +kernel
theorem dX12_wordHere_86 : decode cX12_wordHere 86 = .ok (.goto (-51), 3) := by decide +kernel
theorem dX12_wordHere_89 : decode cX12_wordHere 89 = .ok (.aload_n 0, 1) := by decide +kernel
theorem dX12_wordHere_90 : decode cX12_wordHere 90 = .ok (.getfield 28, 3) := by decide +kernel
theorem dX12_wordHere_93 : decode cX12_wordHere 93 = .ok (.bipush 60, 2) := by decide +kernel
theorem dX12_wordHere_95 : decode cX12_wordHere 95 = .ok (.iload_n 2, 1) := by decide +kernel
theorem dX12_wordHere_96 : decode cX12_wordHere 96 = .ok (.iastore, 1) := by decide +kernel
theorem dX12_wordHere_97 : decode cX12_wordHere 97 = .ok (.iconst 0, 1) := by decide +kernel
theorem dX12_wordHere_98 : decode cX12_wordHere 98 = .ok (.istore_n 3, 1) := by decide +kernel
theorem dX12_wordHere_99 : decode cX12_wordHere 99 = .ok (.iload_n 3, 1) := by decide +kernel
theorem dX12_wordHere_100 : decode cX12_wordHere 100 = .ok (.aload_n 0, 1) := by decide +kernel
theorem dX12_wordHere_101 : decode cX12_wordHere 101 = .ok (.getfield 257, 3) := by decide +kernel
theorem dX12_wordHere_104 : decode cX12_wordHere 104 = .ok (.if_icmp .ge 19, 3) := by decide +kernel
theorem dX12_wordHere_107 : decode cX12_wordHere 107 = .ok (.aload_n 0, 1) := by decide +kernel
theorem dX12_wordHere_108 : decode cX12_wordHere 108 = .ok (.iload_n 3, 1) := by decide +kernel
theorem dX12_wordHere_109 : decode cX12_wordHere 109 = .ok (.bipush 60, 2) := by decide +kernel
theorem dX12_wordHere_111 : decode cX12_wordHere 111 = .ok (.invokevirtual 245, 3) := by decide +kernel
theorem dX12_wordHere_114 : decode cX12_wordHere 114 = .ok (.ifCond .ne 9, 3) := by decide +kernel
theorem dX12_wordHere_117 : decode cX12_wordHere 117 = .ok (.iinc 3 1, 3) := by decide +kernel
theorem dX12_wordHere_120 : decode cX12_wordHere 120 = .ok (.goto (-21), 3) := by decide +kernel
theorem dX12_wordHere_123 : decode cX12_wordHere 123 = .ok (.iload_n 3, 1) := by decide +kernel
theorem dX12_wordHere_124 : decode cX12_wordHere 124 = .ok (.aload_n 0, 1) := by decide +kernel
theorem dX12_wordHere_125 : decode cX12_wordHere 125 = .ok (.getfield 257, 3) := by decide +kernel
theorem dX12_wordHere_128 : decode cX12_wordHere 128 = .ok (.if_icmp .ne 9, 3) := by decide +kernel
theorem dX12_wordHere_131 : decode cX12_wordHere 131 = .ok (.aload_n 0, 1) := by decide +kernel
theorem dX12_wordHere_132 : decode cX12_wordHere 132 = .ok (.iconst 5, 1) := by decide +kernel
theorem dX12_wordHere_133 : decode cX12_wordHere 133 = .ok (.iload_n 1, 1) := by decide +kernel
theorem dX12_wordHere_134 : decode cX12_wordHere 134 = .ok (.invokevirtual 214, 3) := by decide +kernel
theorem dX12_wordHere_137 : decode cX12_wordHere 137 = .ok (.iload_n 3, 1) := by decide +kernel
theorem dX12_wordHere_138 : decode cX12_wordHere 138 = .ok (.ireturn, 1) := by decide +kernel
theorem dX12_readsFollow_0 : decode cX12_readsFollow 0 = .ok (.aload_n 1, 1) := by decide +kernel
theorem dX12_readsFollow_1 : decode cX12_readsFollow 1 = .ok (.iconst 0, 1) := by decide +kernel
theorem dX12_readsFollow_2 : decode cX12_readsFollow 2 = .ok (.aload_n 0, 1) := by decide +kernel
theorem dX12_readsFollow_3 : decode cX12_readsFollow 3 = .ok (.invokevirtual 275, 3) := by decide +kernel
theorem dX12_readsFollow_6 : decode cX12_readsFollow 6 = .ok (.iastore, 1) := by decide +kernel
theorem dX12_readsFollow_7 : decode cX12_readsFollow 7 = .ok (.aload_n 0, 1) := by decide +kernel
theorem dX12_readsFollow_8 : decode cX12_readsFollow 8 = .ok (.invokevirtual 206, 3) := by decide +kernel
theorem dX12_readsFollow_11 : decode cX12_readsFollow 11 = .ok (.ifCond .eq 21, 3) := by decide +kernel
theorem dX12_readsFollow_14 : decode cX12_readsFollow 14 = .ok (.aload_n 0, 1) := by decide +kernel
theorem dX12_readsFollow_15 : decode cX12_readsFollow 15 = .ok (.invokevirtual 196, 3) := by decide +kernel
theorem dX12_readsFollow_18 : decode cX12_readsFollow 18 = .ok (.bipush 32, 2) := by decide +kernel
theorem dX12_readsFollow_20 : decode cX12_readsFollow 20 = .ok (.if_icmp .eq 12, 3) := by decide +kernel
theorem dX12_readsFollow_23 : decode cX12_readsFollow 23 = .ok (.aload_n 0, 1) := by decide +kernel
theorem dX12_readsFollow_24 : decode cX12_readsFollow 24 = .ok (.iconst 1, 1) := by decide +kernel
theorem dX12_readsFollow_25 : decode cX12_readsFollow 25 = .ok (.aload_n 0, 1) := by decide +kernel
theorem dX12_readsFollow_26 : decode cX12_readsFollow 26 = .ok (.getfield 189, 3) := by decide +kernel
theorem dX12_readsFollow_29 : decode cX12_readsFollow 29 = .ok (.invokevirtual 214, 3) := by decide +kernel
theorem dX12_readsFollow_32 : decode cX12_readsFollow 32 = .ok (.aload_n 1, 1) := by decide +kernel
theorem dX12_readsFollow_33 : decode cX12_readsFollow 33 = .ok (.iconst 1, 1) := by decide +kernel
theorem dX12_readsFollow_34 : decode cX12_readsFollow 34 = .ok (.aload_n 0, 1) := by decide +kernel
theorem dX12_readsFollow_35 : decode cX12_readsFollow 35 = .ok (.invokevirtual 206, 3) := by decide +kernel
theorem dX12_readsFollow_38 : decode cX12_readsFollow 38 = .ok (.ifCond .eq 10, 3) := by decide +kernel
theorem dX12_readsFollow_41 : decode cX12_readsFollow 41 = .ok (.aload_n 0, 1) := by decide +kernel
theorem dX12_readsFollow_42 : decode cX12_readsFollow 42 = .ok (.invokevirtual 275, 3) := by decide +kernel
theorem dX12_readsFollow_45 : decode cX12_readsFollow 45 = .ok (.goto 4, 3) := by decide +kernel
theorem dX12_readsFollow_48 : decode cX12_readsFollow 48 = .ok (.iconst (-1), 1) := by decide +kernel
theorem dX12_readsFollow_49 : decode cX12_readsFollow 49 = .ok (.iastore, 1) := by decide +kernel
theorem dX12_readsFollow_50 : decode cX12_readsFollow 50 = .ok (.aload_n 0, 1) := by decide +kernel
theorem dX12_readsFollow_51 : decode cX12_readsFollow 51 = .ok (.invokevirtual 227, 3) := by decide +kernel
theorem dX12_readsFollow_54 : decode cX12_readsFollow 54 = .ok (.pop, 1) := by decide +kernel
theorem dX12_readsFollow_55 : decode cX12_readsFollow 55 = .ok (.aload_n 1, 1) := by decide +kernel
theorem dX12_readsFollow_56 : decode cX12_readsFollow 56 = .ok (.iconst 2, 1) := by decide +kernel
theorem dX12_readsFollow_57 : decode cX12_readsFollow 57 = .ok (.aload_n 0, 1) := by decide +kernel
theorem dX12_readsFollow_58 : decode cX12_readsFollow 58 = .ok (.iconst 0, 1) := by decide +kernel
theorem dX12_readsFollow_59 : decode cX12_readsFollow 59 = .ok (.bipush 99, 2) := by decide +kernel
theorem dX12_readsFollow_61 : decode cX12_readsFollow 61 = .ok (.invokevirtual 239, 3) := by decide +kernel
theorem dX12_readsFollow_64 : decode cX12_readsFollow 64 = .ok (.iastore, 1) := by decide +kernel
theorem dX12_readsFollow_65 : decode cX12_readsFollow 65 = .ok (.aload_n 0, 1) := by decide +kernel
theorem dX12_readsFollow_66 : decode cX12_readsFollow 66 = .ok (.invokevirtual 242, 3) := by decide +kernel
theorem dX12_readsFollow_69 : decode cX12_readsFollow 69 = .ok (.return_, 1) := by decide +kernel
theorem dX12_follows_0 : decode cX12_follows 0 = .ok (.aload_n 0, 1) := by decide +kernel
theorem dX12_follows_1 : decode cX12_follows 1 = .ok (.iconst 0, 1) := by decide +kernel
theorem dX12_follows_2 : decode cX12_follows 2 = .ok (.putfield 180, 3) := by decide +kernel
theorem dX12_follows_5 : decode cX12_follows 5 = .ok (.aload_n 0, 1) := by decide +kernel
theorem dX12_follows_6 : decode cX12_follows 6 = .ok (.iload_n 1, 1) := by decide +kernel
theorem dX12_follows_7 : decode cX12_follows 7 = .ok (.iconst 0, 1) := by decide +kernel
theorem dX12_follows_8 : decode cX12_follows 8 = .ok (.aload_n 0, 1) := by decide +kernel
theorem dX12_follows_9 : decode cX12_follows 9 = .ok (.getfield 183, 3) := by decide +kernel
theorem dX12_follows_12 : decode cX12_follows 12 = .ok (.invokestatic 223, 3) := by decide +kernel
theorem dX12_follows_15 : decode cX12_follows 15 = .ok (.ifCond .ne 7, 3) := by decide +kernel
theorem dX12_follows_18 : decode cX12_follows 18 = .ok (.iconst 1, 1) := by decide +kernel
theorem dX12_follows_19 : decode cX12_follows 19 = .ok (.goto 4, 3) := by decide +kernel
theorem dX12_follows_22 : decode cX12_follows 22 = .ok (.iconst 0, 1) := by decide +kernel
theorem dX12_follows_23 : decode cX12_follows 23 = .ok (.iconst 1, 1) := by decide +kernel
theorem dX12_follows_24 : decode cX12_follows 24 = .ok (.iconst 1, 1) := by decide +kernel
theorem dX12_follows_25 : decode cX12_follows 25 = .ok (.invokevirtual 249, 3) := by decide +kernel
theorem dX12_follows_28 : decode cX12_follows 28 = .ok (.ifCond .eq 5, 3) := by decide +kernel
theorem dX12_follows_31 : decode cX12_follows 31 = .ok (.iconst 0, 1) := by decide +kernel
theorem dX12_follows_32 : decode cX12_follows 32 = .ok (.ireturn, 1) := by decide +kernel
theorem dX12_follows_33 : decode cX12_follows 33 = .ok (.aload_n 0, 1) := by decide +kernel
theorem dX12_follows_34 : decode cX12_follows 34 = .ok (.iload_n 1, 1) := by decide +kernel
theorem dX12_follows_35 : decode cX12_follows 35 = .ok (.invokevirtual 253, 3) := by decide +kernel
theorem dX12_follows_38 : decode cX12_follows 38 = .ok (.aload_n 0, 1) := by decide +kernel
theorem dX12_follows_39 : decode cX12_follows 39 = .ok (.getfield 86, 3) := by decide +kernel
theorem dX12_follows_42 : decode cX12_follows 42 = .ok (.iconst 1, 1) := by decide +kernel
theorem dX12_follows_43 : decode cX12_follows 43 = .ok (.iconst 0, 1) := by decide +kernel
theorem dX12_follows_44 : decode cX12_follows 44 = .ok (.iastore, 1) := by decide +kernel
theorem dX12_follows_45 : decode cX12_follows 45 = .ok (.aload_n 0, 1) := by decide +kernel
theorem dX12_follows_46 : decode cX12_follows 46 = .ok (.invokevirtual 206, 3) := by decide +kernel
theorem dX12_follows_49 : decode cX12_follows 49 = .ok (.ifCond .eq 93, 3) := by decide +kernel
theorem dX12_follows_52 : decode cX12_follows 52 = .ok (.aload_n 0, 1) := by decide +kernel
theorem dX12_follows_53 : decode cX12_follows 53 = .ok (.invokevirtual 227, 3) := by decide +kernel
theorem dX12_follows_56 : decode cX12_follows 56 = .ok (.iconst (-1), 1) := by decide +kernel
theorem dX12_follows_57 : decode cX12_follows 57 = .ok (.if_icmp .eq 85, 3) := by decide +kernel
theorem dX12_follows_60 : decode cX12_follows 60 = .ok (.aload_n 0, 1) := by decide +kernel
theorem dX12_follows_61 : decode cX12_follows 61 = .ok (.invokevirtual 196, 3) := by decide +kernel
theorem dX12_follows_64 : decode cX12_follows 64 = .ok (.invokestatic 230, 3) := by decide +kernel
theorem dX12_follows_67 : decode cX12_follows 67 = .ok (.ifCond .ne 15, 3) := by decide +kernel
theorem dX12_follows_70 : decode cX12_follows 70 = .ok (.aload_n 0, 1) := by decide +kernel
theorem dX12_follows_71 : decode cX12_follows 71 = .ok (.iconst 1, 1) := by decide +kernel
theorem dX12_follows_72 : decode cX12_follows 72 = .ok (.aload_n 0, 1) := by decide +kernel
theorem dX12_follows_73 : decode cX12_follows 73 = .ok (.getfield 189, 3) := by decide +kernel
theorem dX12_follows_76 : decode cX12_follows 76 = .ok (.invokevirtual 214, 3) := by decide +kernel
theorem dX12_follows_79 : decode cX12_follows 79 = .ok (.goto 23, 3) := by decide +kernel
theorem dX12_follows_82 : decode cX12_follows 82 = .ok (.aload_n 0, 1) := by decide +kernel
theorem dX12_follows_83 : decode cX12_follows 83 = .ok (.getfield 86, 3) := by decide +kernel
theorem dX12_follows_86 : decode cX12_follows 86 = .ok (.iconst 1, 1) := by decide +kernel
theorem dX12_follows_87 : decode cX12_follows 87 = .ok (.iaload, 1) := by decide +kernel
theorem dX12_follows_88 : decode cX12_follows 88 = .ok (.bipush 60, 2) := by decide +kernel
theorem dX12_follows_90 : decode cX12_follows 90 = .ok (.if_icmp .ne 12, 3) := by decide +kernel
theorem dX12_follows_93 : decode cX12_follows 93 = .ok (.aload_n 0, 1) := by decide +kernel
theorem dX12_follows_94 : decode cX12_follows 94 = .ok (.iconst 3, 1) := by decide +kernel
theorem dX12_follows_95 : decode cX12_follows 95 = .ok (.aload_n 0, 1) := by decide +kernel
theorem dX12_follows_96 : decode cX12_follows 96 = .ok (.getfield 189, 3) := by decide +kernel
theorem dX12_follows_99 : decode cX12_follows 99 = .ok (.invokevirtual 214, 3) := by decide +kernel
theorem dX12_follows_102 : decode cX12_follows 102 = .ok (.aload_n 0, 1) := by decide +kernel
theorem dX12_follows_103 : decode cX12_follows 103 = .ok (.invokevirtual 206, 3) := by decide +kernel
theorem dX12_follows_106 : decode cX12_follows 106 = .ok (.ifCond .ne 6, 3) := by decide +kernel
theorem dX12_follows_109 : decode cX12_follows 109 = .ok (.goto 33, 3) := by decide +kernel
theorem dX12_follows_112 : decode cX12_follows 112 = .ok (.aload_n 0, 1) := by decide +kernel
theorem dX12_follows_113 : decode cX12_follows 113 = .ok (.aload_n 0, 1) := by decide +kernel
theorem dX12_follows_114 : decode cX12_follows 114 = .ok (.getfield 89, 3) := by decide +kernel
theorem dX12_follows_117 : decode cX12_follows 117 = .ok (.iconst 1, 1) := by decide +kernel
theorem dX12_follows_118 : decode cX12_follows 118 = .ok (.aaload, 1) := by decide +kernel
theorem dX12_follows_119 : decode cX12_follows 119 = .ok (.aload_n 0, 1) := by decide +kernel
theorem dX12_follows_120 : decode cX12_follows 120 = .ok (.getfield 86, 3) := by decide +kernel
theorem dX12_follows_123 : decode cX12_follows 123 = .ok (.iconst 1, 1) := by decide +kernel
theorem dX12_follows_124 : decode cX12_follows 124 = .ok (.iaload, 1) := by decide +kernel
theorem dX12_follows_125 : decode cX12_follows 125 = .ok (.aaload, 1) := by decide +kernel
theorem dX12_follows_126 : decode cX12_follows 126 = .ok (.invokevirtual 278, 3) := by decide +kernel
theorem dX12_follows_129 : decode cX12_follows 129 = .ok (.aload_n 0, 1) := by decide +kernel
theorem dX12_follows_130 : decode cX12_follows 130 = .ok (.getfield 86, 3) := by decide +kernel
theorem dX12_follows_133 : decode cX12_follows 133 = .ok (.iconst 1, 1) := by decide +kernel
theorem dX12_follows_134 : decode cX12_follows 134 = .ok (.dup2, 1) := by decide +kernel
theorem dX12_follows_135 : decode cX12_follows 135 = .ok (.iaload, 1) := by decide +kernel
theorem dX12_follows_136 : decode cX12_follows 136 = .ok (.iconst 1, 1) := by decide +kernel
theorem dX12_follows_137 : decode cX12_follows 137 = .ok (.iadd, 1) := by decide +kernel
theorem dX12_follows_138 : decode cX12_follows 138 = .ok (.iastore, 1) := by decide +kernel
theorem dX12_follows_139 : decode cX12_follows 139 = .ok (.goto (-94), 3) := by decide +kernel
theorem dX12_follows_142 : decode cX12_follows 142 = .ok (.aload_n 0, 1) := by decide +kernel
theorem dX12_follows_143 : decode cX12_follows 143 = .ok (.invokevirtual 206, 3) := by decide +kernel
theorem dX12_follows_146 : decode cX12_follows 146 = .ok (.ifCond .ne 9, 3) := by decide +kernel
theorem dX12_follows_149 : decode cX12_follows 149 = .ok (.aload_n 0, 1) := by decide +kernel
theorem dX12_follows_150 : decode cX12_follows 150 = .ok (.iconst 0, 1) := by decide +kernel
theorem dX12_follows_151 : decode cX12_follows 151 = .ok (.invokevirtual 263, 3) := by decide +kernel
theorem dX12_follows_154 : decode cX12_follows 154 = .ok (.ireturn, 1) := by decide +kernel
theorem dX12_follows_155 : decode cX12_follows 155 = .ok (.aload_n 0, 1) := by decide +kernel
theorem dX12_follows_156 : decode cX12_follows 156 = .ok (.getfield 86, 3) := by decide +kernel
theorem dX12_follows_159 : decode cX12_follows 159 = .ok (.iconst 0, 1) := by decide +kernel
theorem dX12_follows_160 : decode cX12_follows 160 = .ok (.aload_n 0, 1) := by decide +kernel
theorem dX12_follows_161 : decode cX12_follows 161 = .ok (.getfield 86, 3) := by decide +kernel
theorem dX12_follows_164 : decode cX12_follows 164 = .ok (.iconst 1, 1) := by decide +kernel
theorem dX12_follows_165 : decode cX12_follows 165 = .ok (.iaload, 1) := by decide +kernel
theorem dX12_follows_166 : decode cX12_follows 166 = .ok (.iastore, 1) := by decide +kernel
theorem dX12_follows_167 : decode cX12_follows 167 = .ok (.iconst 0, 1) := by decide +kernel
theorem dX12_follows_168 : decode cX12_follows 168 = .ok (.istore_n 2, 1) := by decide +kernel
theorem dX12_follows_169 : decode cX12_follows 169 = .ok (.iload_n 2, 1) := by decide +kernel
theorem dX12_follows_170 : decode cX12_follows 170 = .ok (.aload_n 0, 1) := by decide +kernel
theorem dX12_follows_171 : decode cX12_follows 171 = .ok (.getfield 86, 3) := by decide +kernel
theorem dX12_follows_174 : decode cX12_follows 174 = .ok (.iconst 0, 1) := by decide +kernel
theorem dX12_follows_175 : decode cX12_follows 175 = .ok (.iaload, 1) := by decide +kernel
theorem dX12_follows_176 : decode cX12_follows 176 = .ok (.if_icmp .ge 42, 3) := by decide +kernel
theorem dX12_follows_179 : decode cX12_follows 179 = .ok (.iconst 0, 1) := by decide +kernel
theorem dX12_follows_180 : decode cX12_follows 180 = .ok (.istore_n 3, 1) := by decide +kernel
theorem dX12_follows_181 : decode cX12_follows 181 = .ok (.iload_n 3, 1) := by decide +kernel
theorem dX12_follows_182 : decode cX12_follows 182 = .ok (.iconst 3, 1) := by decide +kernel
theorem dX12_follows_183 : decode cX12_follows 183 = .ok (.if_icmp .ge 29, 3) := by decide +kernel
theorem dX12_follows_186 : decode cX12_follows 186 = .ok (.aload_n 0, 1) := by decide +kernel
theorem dX12_follows_187 : decode cX12_follows 187 = .ok (.getfield 89, 3) := by decide +kernel
theorem dX12_follows_190 : decode cX12_follows 190 = .ok (.iconst 0, 1) := by decide +kernel
theorem dX12_follows_191 : decode cX12_follows 191 = .ok (.aaload, 1) := by decide +kernel
theorem dX12_follows_192 : decode cX12_follows 192 = .ok (.iload_n 2, 1) := by decide +kernel
theorem dX12_follows_193 : decode cX12_follows 193 = .ok (.aaload, 1) := by decide +kernel
theorem dX12_follows_194 : decode cX12_follows 194 = .ok (.iload_n 3, 1) := by decide +kernel
theorem dX12_follows_195 : decode cX12_follows 195 = .ok (.aload_n 0, 1) := by decide +kernel
theorem dX12_follows_196 : decode cX12_follows 196 = .ok (.getfield 89, 3) := by decide +kernel
theorem dX12_follows_199 : decode cX12_follows 199 = .ok (.iconst 1, 1) := by decide +kernel
theorem dX12_follows_200 : decode cX12_follows 200 = .ok (.aaload, 1) := by decide +kernel
theorem dX12_follows_201 : decode cX12_follows 201 = .ok (.iload_n 2, 1) := by decide +kernel
theorem dX12_follows_202 : decode cX12_follows 202 = .ok (.aaload, 1) := by decide +kernel
theorem dX12_follows_203 : decode cX12_follows 203 = .ok (.iload_n 3, 1) := by decide +kernel
theorem dX12_follows_204 : decode cX12_follows 204 = .ok (.iaload, 1) := by decide +kernel
theorem dX12_follows_205 : decode cX12_follows 205 = .ok (.iastore, 1) := by decide +kernel
theorem dX12_follows_206 : decode cX12_follows 206 = .ok (.iinc 3 1, 3) := by decide +kernel
theorem dX12_follows_209 : decode cX12_follows 209 = .ok (.goto (-28), 3) := by decide +kernel
theorem dX12_follows_212 : decode cX12_follows 212 = .ok (.iinc 2 1, 3) := by decide +kernel
theorem dX12_follows_215 : decode cX12_follows 215 = .ok (.goto (-46), 3) := by decide +kernel
theorem dX12_follows_218 : decode cX12_follows 218 = .ok (.aload_n 0, 1) := by decide +kernel
theorem dX12_follows_219 : decode cX12_follows 219 = .ok (.aload_n 0, 1) := by decide +kernel
theorem dX12_follows_220 : decode cX12_follows 220 = .ok (.getfield 86, 3) := by decide +kernel
theorem dX12_follows_223 : decode cX12_follows 223 = .ok (.iconst 0, 1) := by decide +kernel
theorem dX12_follows_224 : decode cX12_follows 224 = .ok (.iaload, 1) := by decide +kernel
theorem dX12_follows_225 : decode cX12_follows 225 = .ok (.invokevirtual 263, 3) := by decide +kernel
theorem dX12_follows_228 : decode cX12_follows 228 = .ok (.ireturn, 1) := by decide +kernel
theorem dX12_dearOf_0 : decode cX12_dearOf 0 = .ok (.aload_n 0, 1) := by decide +kernel
theorem dX12_dearOf_1 : decode cX12_dearOf 1 = .ok (.getfield 86, 3) := by decide +kernel
theorem dX12_dearOf_4 : decode cX12_dearOf 4 = .ok (.iconst 0, 1) := by decide +kernel
theorem dX12_dearOf_5 : decode cX12_dearOf 5 = .ok (.iaload, 1) := by decide +kernel
theorem dX12_dearOf_6 : decode cX12_dearOf 6 = .ok (.iconst 1, 1) := by decide +kernel
theorem dX12_dearOf_7 : decode cX12_dearOf 7 = .ok (.isub, 1) := by decide +kernel
theorem dX12_dearOf_8 : decode cX12_dearOf 8 = .ok (.istore_n 3, 1) := by decide +kernel
theorem dX12_dearOf_9 : decode cX12_dearOf 9 = .ok (.iload_n 3, 1) := by decide +kernel
theorem dX12_dearOf_10 : decode cX12_dearOf 10 = .ok (.ifCond .lt 48, 3) := by decide +kernel
theorem dX12_dearOf_13 : decode cX12_dearOf 13 = .ok (.aload_n 0, 1) := by decide +kernel
theorem dX12_dearOf_14 : decode cX12_dearOf 14 = .ok (.getfield 89, 3) := by decide +kernel
theorem dX12_dearOf_17 : decode cX12_dearOf 17 = .ok (.iconst 0, 1) := by decide +kernel
theorem dX12_dearOf_18 : decode cX12_dearOf 18 = .ok (.aaload, 1) := by decide +kernel
theorem dX12_dearOf_19 : decode cX12_dearOf 19 = .ok (.iload_n 3, 1) := by decide +kernel
theorem dX12_dearOf_20 : decode cX12_dearOf 20 = .ok (.aaload, 1) := by decide +kernel
theorem dX12_dearOf_21 : decode cX12_dearOf 21 = .ok (.iconst 0, 1) := by decide +kernel
theorem dX12_dearOf_22 : decode cX12_dearOf 22 = .ok (.iaload, 1) := by decide +kernel
theorem dX12_dearOf_23 : decode cX12_dearOf 23 = .ok (.iload_n 1, 1) := by decide +kernel
theorem dX12_dearOf_24 : decode cX12_dearOf 24 = .ok (.if_icmp .ne 28, 3) := by decide +kernel
theorem dX12_dearOf_27 : decode cX12_dearOf 27 = .ok (.aload_n 0, 1) := by decide +kernel
theorem dX12_dearOf_28 : decode cX12_dearOf 28 = .ok (.getfield 89, 3) := by decide +kernel
theorem dX12_dearOf_31 : decode cX12_dearOf 31 = .ok (.iconst 0, 1) := by decide +kernel
theorem dX12_dearOf_32 : decode cX12_dearOf 32 = .ok (.aaload, 1) := by decide +kernel
theorem dX12_dearOf_33 : decode cX12_dearOf 33 = .ok (.iload_n 3, 1) := by decide +kernel
theorem dX12_dearOf_34 : decode cX12_dearOf 34 = .ok (.aaload, 1) := by decide +kernel
theorem dX12_dearOf_35 : decode cX12_dearOf 35 = .ok (.iconst 1, 1) := by decide +kernel
theorem dX12_dearOf_36 : decode cX12_dearOf 36 = .ok (.iaload, 1) := by decide +kernel
theorem dX12_dearOf_37 : decode cX12_dearOf 37 = .ok (.iload_n 2, 1) := by decide +kernel
theorem dX12_dearOf_38 : decode cX12_dearOf 38 = .ok (.if_icmp .ne 14, 3) := by decide +kernel
theorem dX12_dearOf_41 : decode cX12_dearOf 41 = .ok (.aload_n 0, 1) := by decide +kernel
theorem dX12_dearOf_42 : decode cX12_dearOf 42 = .ok (.getfield 89, 3) := by decide +kernel
theorem dX12_dearOf_45 : decode cX12_dearOf 45 = .ok (.iconst 0, 1) := by decide +kernel
theorem dX12_dearOf_46 : decode cX12_dearOf 46 = .ok (.aaload, 1) := by decide +kernel
theorem dX12_dearOf_47 : decode cX12_dearOf 47 = .ok (.iload_n 3, 1) := by decide +kernel
theorem dX12_dearOf_48 : decode cX12_dearOf 48 = .ok (.aaload, 1) := by decide +kernel
theorem dX12_dearOf_49 : decode cX12_dearOf 49 = .ok (.iconst 2, 1) := by decide +kernel
theorem dX12_dearOf_50 : decode cX12_dearOf 50 = .ok (.iaload, 1) := by decide +kernel
theorem dX12_dearOf_51 : decode cX12_dearOf 51 = .ok (.ireturn, 1) := by decide +kernel
theorem dX12_dearOf_52 : decode cX12_dearOf 52 = .ok (.iinc 3 (-1), 3) := by decide +kernel
theorem dX12_dearOf_55 : decode cX12_dearOf 55 = .ok (.goto (-46), 3) := by decide +kernel
theorem dX12_dearOf_58 : decode cX12_dearOf 58 = .ok (.aload_n 0, 1) := by decide +kernel
theorem dX12_dearOf_59 : decode cX12_dearOf 59 = .ok (.getfield 20, 3) := by decide +kernel
theorem dX12_dearOf_62 : decode cX12_dearOf 62 = .ok (.bipush 6, 2) := by decide +kernel
theorem dX12_dearOf_64 : decode cX12_dearOf 64 = .ok (.iaload, 1) := by decide +kernel
theorem dX12_dearOf_65 : decode cX12_dearOf 65 = .ok (.ireturn, 1) := by decide +kernel
theorem dX12_dear_0 : decode cX12_dear 0 = .ok (.aload_n 0, 1) := by decide +kernel
theorem dX12_dear_1 : decode cX12_dear 1 = .ok (.iconst 0, 1) := by decide +kernel
theorem dX12_dear_2 : decode cX12_dear 2 = .ok (.putfield 180, 3) := by decide +kernel
theorem dX12_dear_5 : decode cX12_dear 5 = .ok (.aload_n 0, 1) := by decide +kernel
theorem dX12_dear_6 : decode cX12_dear 6 = .ok (.aload_n 0, 1) := by decide +kernel
theorem dX12_dear_7 : decode cX12_dear 7 = .ok (.iload_n 1, 1) := by decide +kernel
theorem dX12_dear_8 : decode cX12_dear 8 = .ok (.invokevirtual 282, 3) := by decide +kernel
theorem dX12_dear_11 : decode cX12_dear 11 = .ok (.ifCond .eq 11, 3) := by decide +kernel
theorem dX12_dear_14 : decode cX12_dear 14 = .ok (.aload_n 0, 1) := by decide +kernel
theorem dX12_dear_15 : decode cX12_dear 15 = .ok (.iload_n 2, 1) := by decide +kernel
theorem dX12_dear_16 : decode cX12_dear 16 = .ok (.invokevirtual 282, 3) := by decide +kernel
theorem dX12_dear_19 : decode cX12_dear 19 = .ok (.ifCond .ne 7, 3) := by decide +kernel
theorem dX12_dear_22 : decode cX12_dear 22 = .ok (.iconst 1, 1) := by decide +kernel
theorem dX12_dear_23 : decode cX12_dear 23 = .ok (.goto 4, 3) := by decide +kernel
theorem dX12_dear_26 : decode cX12_dear 26 = .ok (.iconst 0, 1) := by decide +kernel
theorem dX12_dear_27 : decode cX12_dear 27 = .ok (.iconst 1, 1) := by decide +kernel
theorem dX12_dear_28 : decode cX12_dear 28 = .ok (.iconst 0, 1) := by decide +kernel
theorem dX12_dear_29 : decode cX12_dear 29 = .ok (.invokevirtual 249, 3) := by decide +kernel
theorem dX12_dear_32 : decode cX12_dear 32 = .ok (.ifCond .eq 5, 3) := by decide +kernel
theorem dX12_dear_35 : decode cX12_dear 35 = .ok (.iconst 0, 1) := by decide +kernel
theorem dX12_dear_36 : decode cX12_dear 36 = .ok (.ireturn, 1) := by decide +kernel
theorem dX12_dear_37 : decode cX12_dear 37 = .ok (.aload_n 0, 1) := by decide +kernel
theorem dX12_dear_38 : decode cX12_dear 38 = .ok (.iload_n 1, 1) := by decide +kernel
theorem dX12_dear_39 : decode cX12_dear 39 = .ok (.iload_n 2, 1) := by decide +kernel
theorem dX12_dear_40 : decode cX12_dear 40 = .ok (.invokevirtual 285, 3) := by decide +kernel
theorem dX12_dear_43 : decode cX12_dear 43 = .ok (.ireturn, 1) := by decide +kernel
theorem dX12_readsPart_0 : decode cX12_readsPart 0 = .ok (.iconst 0, 1) := by decide +kernel
theorem dX12_readsPart_1 : decode cX12_readsPart 1 = .ok (.istore_n 3, 1) := by decide +kernel
theorem dX12_readsPart_2 : decode cX12_readsPart 2 = .ok (.aload_n 0, 1) := by decide +kernel
theorem dX12_readsPart_3 : decode cX12_readsPart 3 = .ok (.invokevirtual 227, 3) := by decide +kernel
theorem dX12_readsPart_6 : decode cX12_readsPart 6 = .ok (.invokestatic 230, 3) := by decide +kernel
theorem dX12_readsPart_9 : decode cX12_readsPart 9 = .ok (.ifCond .ne 12, 3) := by decide +kernel
theorem dX12_readsPart_12 : decode cX12_readsPart 12 = .ok (.aload_n 0, 1) := by decide +kernel
theorem dX12_readsPart_13 : decode cX12_readsPart 13 = .ok (.iconst 1, 1) := by decide +kernel
theorem dX12_readsPart_14 : decode cX12_readsPart 14 = .ok (.aload_n 0, 1) := by decide +kernel
theorem dX12_readsPart_15 : decode cX12_readsPart 15 = .ok (.getfield 189, 3) := by decide +kernel
theorem dX12_readsPart_18 : decode cX12_readsPart 18 = .ok (.invokevirtual 214, 3) := by decide +kernel
theorem dX12_readsPart_21 : decode cX12_readsPart 21 = .ok (.aload_n 0, 1) := by decide +kernel
theorem dX12_readsPart_22 : decode cX12_readsPart 22 = .ok (.invokevirtual 206, 3) := by decide +kernel
theorem dX12_readsPart_25 : decode cX12_readsPart 25 = .ok (.ifCond .eq 61, 3) := by decide +kernel
theorem dX12_readsPart_28 : decode cX12_readsPart 28 = .ok (.aload_n 0, 1) := by decide +kernel
theorem dX12_readsPart_29 : decode cX12_readsPart 29 = .ok (.invokevirtual 196, 3) := by decide +kernel
theorem dX12_readsPart_32 : decode cX12_readsPart 32 = .ok (.invokestatic 230, 3) := by decide +kernel
theorem dX12_readsPart_35 : decode cX12_readsPart 35 = .ok (.ifCond .eq 51, 3) := by decide +kernel
theorem dX12_readsPart_38 : decode cX12_readsPart 38 = .ok (.iload_n 3, 1) := by decide +kernel
theorem dX12_readsPart_39 : decode cX12_readsPart 39 = .ok (.iconst 3, 1) := by decide +kernel
theorem dX12_readsPart_40 : decode cX12_readsPart 40 = .ok (.if_icmp .ne 12, 3) := by decide +kernel
theorem dX12_readsPart_43 : decode cX12_readsPart 43 = .ok (.aload_n 0, 1) := by decide +kernel
theorem dX12_readsPart_44 : decode cX12_readsPart 44 = .ok (.iconst 3, 1) := by decide +kernel
theorem dX12_readsPart_45 : decode cX12_readsPart 45 = .ok (.aload_n 0, 1) := by decide +kernel
theorem dX12_readsPart_46 : decode cX12_readsPart 46 = .ok (.getfield 189, 3) := by decide +kernel
theorem dX12_readsPart_49 : decode cX12_readsPart 49 = .ok (.invokevirtual 214, 3) := by decide +kernel
theorem dX12_readsPart_52 : decode cX12_readsPart 52 = .ok (.aload_n 0, 1) := by decide +kernel
theorem dX12_readsPart_53 : decode cX12_readsPart 53 = .ok (.invokevirtual 206, 3) := by decide +kernel
theorem dX12_readsPart_56 : decode cX12_readsPart 56 = .ok (.ifCond .ne 5, 3) := by decide +kernel
theorem dX12_readsPart_59 : decode cX12_readsPart 59 = .ok (.iload_n 3, 1) := by decide +kernel
theorem dX12_readsPart_60 : decode cX12_readsPart 60 = .ok (.ireturn, 1) := by decide +kernel
theorem dX12_readsPart_61 : decode cX12_readsPart 61 = .ok (.aload_n 1, 1) := by decide +kernel
theorem dX12_readsPart_62 : decode cX12_readsPart 62 = .ok (.iload_n 2, 1) := by decide +kernel
theorem dX12_readsPart_63 : decode cX12_readsPart 63 = .ok (.iload_n 3, 1) := by decide +kernel
theorem dX12_readsPart_64 : decode cX12_readsPart 64 = .ok (.iadd, 1) := by decide +kernel
theorem dX12_readsPart_65 : decode cX12_readsPart 65 = .ok (.aload_n 0, 1) := by decide +kernel
theorem dX12_readsPart_66 : decode cX12_readsPart 66 = .ok (.invokevirtual 196, 3) := by decide +kernel
theorem dX12_readsPart_69 : decode cX12_readsPart 69 = .ok (.iastore, 1) := by decide +kernel
theorem dX12_readsPart_70 : decode cX12_readsPart 70 = .ok (.iinc 3 1, 3) := by decide +kernel
theorem dX12_readsPart_73 : decode cX12_readsPart 73 = .ok (.aload_n 0, 1) := by decide +kernel
theorem dX12_readsPart_74 : decode cX12_readsPart 74 = .ok (.dup, 1) := by decide +kernel
theorem dX12_readsPart_75 : decode cX12_readsPart 75 = .ok (.getfield 189, 3) := by decide +kernel
theorem dX12_readsPart_78 : decode cX12_readsPart 78 = .ok (.iconst 1, 1) := by decide +kernel
theorem dX12_readsPart_79 : decode cX12_readsPart 79 = .ok (.iadd, 1) := by decide +kernel
theorem dX12_readsPart_80 : decode cX12_readsPart 80 = .ok (.putfield 189, 3) := by decide +kernel
theorem dX12_readsPart_83 : decode cX12_readsPart 83 = .ok (.goto (-62), 3) := by decide +kernel
theorem dX12_readsPart_86 : decode cX12_readsPart 86 = .ok (.iload_n 3, 1) := by decide +kernel
theorem dX12_readsPart_87 : decode cX12_readsPart 87 = .ok (.ireturn, 1) := by decide +kernel
theorem dX12_readsShape_0 : decode cX12_readsShape 0 = .ok (.aload_n 0, 1) := by decide +kernel
theorem dX12_readsShape_1 : decode cX12_readsShape 1 = .ok (.getfield 60, 3) := by decide +kernel
theorem dX12_readsShape_4 : decode cX12_readsShape 4 = .ok (.iconst 1, 1) := by decide +kernel
theorem dX12_readsShape_5 : decode cX12_readsShape 5 = .ok (.aaload, 1) := by decide +kernel
theorem dX12_readsShape_6 : decode cX12_readsShape 6 = .ok (.iload_n 1, 1) := by decide +kernel
theorem dX12_readsShape_7 : decode cX12_readsShape 7 = .ok (.aaload, 1) := by decide +kernel
theorem dX12_readsShape_8 : decode cX12_readsShape 8 = .ok (.astore_n 2, 1) := by decide +kernel
theorem dX12_readsShape_9 : decode cX12_readsShape 9 = .ok (.aload_n 0, 1) := by decide +kernel
theorem dX12_readsShape_10 : decode cX12_readsShape 10 = .ok (.getfield 63, 3) := by decide +kernel
theorem dX12_readsShape_13 : decode cX12_readsShape 13 = .ok (.iconst 1, 1) := by decide +kernel
theorem dX12_readsShape_14 : decode cX12_readsShape 14 = .ok (.aaload, 1) := by decide +kernel
theorem dX12_readsShape_15 : decode cX12_readsShape 15 = .ok (.iload_n 1, 1) := by decide +kernel
theorem dX12_readsShape_16 : decode cX12_readsShape 16 = .ok (.aaload, 1) := by decide +kernel
theorem dX12_readsShape_17 : decode cX12_readsShape 17 = .ok (.astore_n 3, 1) := by decide +kernel
theorem dX12_readsShape_18 : decode cX12_readsShape 18 = .ok (.aload_n 3, 1) := by decide +kernel
theorem dX12_readsShape_19 : decode cX12_readsShape 19 = .ok (.iconst 1, 1) := by decide +kernel
theorem dX12_readsShape_20 : decode cX12_readsShape 20 = .ok (.aload_n 0, 1) := by decide +kernel
theorem dX12_readsShape_21 : decode cX12_readsShape 21 = .ok (.aload_n 2, 1) := by decide +kernel
theorem dX12_readsShape_22 : decode cX12_readsShape 22 = .ok (.iconst 0, 1) := by decide +kernel
theorem dX12_readsShape_23 : decode cX12_readsShape 23 = .ok (.invokevirtual 288, 3) := by decide +kernel
theorem dX12_readsShape_26 : decode cX12_readsShape 26 = .ok (.iastore, 1) := by decide +kernel
theorem dX12_readsShape_27 : decode cX12_readsShape 27 = .ok (.aload_n 0, 1) := by decide +kernel
theorem dX12_readsShape_28 : decode cX12_readsShape 28 = .ok (.invokevirtual 206, 3) := by decide +kernel
theorem dX12_readsShape_31 : decode cX12_readsShape 31 = .ok (.ifCond .eq 21, 3) := by decide +kernel
theorem dX12_readsShape_34 : decode cX12_readsShape 34 = .ok (.aload_n 0, 1) := by decide +kernel
theorem dX12_readsShape_35 : decode cX12_readsShape 35 = .ok (.invokevirtual 196, 3) := by decide +kernel
theorem dX12_readsShape_38 : decode cX12_readsShape 38 = .ok (.bipush 61, 2) := by decide +kernel
theorem dX12_readsShape_40 : decode cX12_readsShape 40 = .ok (.if_icmp .eq 12, 3) := by decide +kernel
theorem dX12_readsShape_43 : decode cX12_readsShape 43 = .ok (.aload_n 0, 1) := by decide +kernel
theorem dX12_readsShape_44 : decode cX12_readsShape 44 = .ok (.iconst 1, 1) := by decide +kernel
theorem dX12_readsShape_45 : decode cX12_readsShape 45 = .ok (.aload_n 0, 1) := by decide +kernel
theorem dX12_readsShape_46 : decode cX12_readsShape 46 = .ok (.getfield 189, 3) := by decide +kernel
theorem dX12_readsShape_49 : decode cX12_readsShape 49 = .ok (.invokevirtual 214, 3) := by decide +kernel
theorem dX12_readsShape_52 : decode cX12_readsShape 52 = .ok (.aload_n 0, 1) := by decide +kernel
theorem dX12_readsShape_53 : decode cX12_readsShape 53 = .ok (.dup, 1) := by decide +kernel
theorem dX12_readsShape_54 : decode cX12_readsShape 54 = .ok (.getfield 189, 3) := by decide +kernel
theorem dX12_readsShape_57 : decode cX12_readsShape 57 = .ok (.iconst 1, 1) := by decide +kernel
theorem dX12_readsShape_58 : decode cX12_readsShape 58 = .ok (.iadd, 1) := by decide +kernel
theorem dX12_readsShape_59 : decode cX12_readsShape 59 = .ok (.putfield 189, 3) := by decide +kernel
theorem dX12_readsShape_62 : decode cX12_readsShape 62 = .ok (.aload_n 0, 1) := by decide +kernel
theorem dX12_readsShape_63 : decode cX12_readsShape 63 = .ok (.invokevirtual 206, 3) := by decide +kernel
theorem dX12_readsShape_66 : decode cX12_readsShape 66 = .ok (.ifCond .ne 4, 3) := by decide +kernel
theorem dX12_readsShape_69 : decode cX12_readsShape 69 = .ok (.return_, 1) := by decide +kernel
theorem dX12_readsShape_70 : decode cX12_readsShape 70 = .ok (.aload_n 0, 1) := by decide +kernel
theorem dX12_readsShape_71 : decode cX12_readsShape 71 = .ok (.invokevirtual 227, 3) := by decide +kernel
theorem dX12_readsShape_74 : decode cX12_readsShape 74 = .ok (.pop, 1) := by decide +kernel
theorem dX12_readsShape_75 : decode cX12_readsShape 75 = .ok (.aload_n 0, 1) := by decide +kernel
theorem dX12_readsShape_76 : decode cX12_readsShape 76 = .ok (.getfield 189, 3) := by decide +kernel
theorem dX12_readsShape_79 : decode cX12_readsShape 79 = .ok (.istore 4, 2) := by decide +kernel
theorem dX12_readsShape_81 : decode cX12_readsShape 81 = .ok (.aload_n 3, 1) := by decide +kernel
theorem dX12_readsShape_82 : decode cX12_readsShape 82 = .ok (.iconst 2, 1) := by decide +kernel
theorem dX12_readsShape_83 : decode cX12_readsShape 83 = .ok (.aload_n 0, 1) := by decide +kernel
theorem dX12_readsShape_84 : decode cX12_readsShape 84 = .ok (.aload_n 2, 1) := by decide +kernel
theorem dX12_readsShape_85 : decode cX12_readsShape 85 = .ok (.iconst 3, 1) := by decide +kernel
theorem dX12_readsShape_86 : decode cX12_readsShape 86 = .ok (.invokevirtual 288, 3) := by decide +kernel
theorem dX12_readsShape_89 : decode cX12_readsShape 89 = .ok (.iastore, 1) := by decide +kernel
theorem dX12_readsShape_90 : decode cX12_readsShape 90 = .ok (.aload_n 3, 1) := by decide +kernel
theorem dX12_readsShape_91 : decode cX12_readsShape 91 = .ok (.iconst 1, 1) := by decide +kernel
theorem dX12_readsShape_92 : decode cX12_readsShape 92 = .ok (.iaload, 1) := by decide +kernel
theorem dX12_readsShape_93 : decode cX12_readsShape 93 = .ok (.aload_n 3, 1) := by decide +kernel
theorem dX12_readsShape_94 : decode cX12_readsShape 94 = .ok (.iconst 2, 1) := by decide +kernel
theorem dX12_readsShape_95 : decode cX12_readsShape 95 = .ok (.iaload, 1) := by decide +kernel
theorem dX12_readsShape_96 : decode cX12_readsShape 96 = .ok (.if_icmp .ne 7, 3) := by decide +kernel
theorem dX12_readsShape_99 : decode cX12_readsShape 99 = .ok (.iconst 1, 1) := by decide +kernel
theorem dX12_readsShape_100 : decode cX12_readsShape 100 = .ok (.goto 4, 3) := by decide +kernel
theorem dX12_readsShape_103 : decode cX12_readsShape 103 = .ok (.iconst 0, 1) := by decide +kernel
theorem dX12_readsShape_104 : decode cX12_readsShape 104 = .ok (.istore 5, 2) := by decide +kernel
theorem dX12_readsShape_106 : decode cX12_readsShape 106 = .ok (.iconst 0, 1) := by decide +kernel
theorem dX12_readsShape_107 : decode cX12_readsShape 107 = .ok (.istore 6, 2) := by decide +kernel
theorem dX12_readsShape_109 : decode cX12_readsShape 109 = .ok (.iload 6, 2) := by decide +kernel
theorem dX12_readsShape_111 : decode cX12_readsShape 111 = .ok (.aload_n 3, 1) := by decide +kernel
theorem dX12_readsShape_112 : decode cX12_readsShape 112 = .ok (.iconst 1, 1) := by decide +kernel
theorem dX12_readsShape_113 : decode cX12_readsShape 113 = .ok (.iaload, 1) := by decide +kernel
theorem dX12_readsShape_114 : decode cX12_readsShape 114 = .ok (.if_icmp .ge 32, 3) := by decide +kernel
theorem dX12_readsShape_117 : decode cX12_readsShape 117 = .ok (.iload 5, 2) := by decide +kernel
theorem dX12_readsShape_119 : decode cX12_readsShape 119 = .ok (.aload_n 2, 1) := by decide +kernel
theorem dX12_readsShape_120 : decode cX12_readsShape 120 = .ok (.iload 6, 2) := by decide +kernel
theorem dX12_readsShape_122 : decode cX12_readsShape 122 = .ok (.iaload, 1) := by decide +kernel
theorem dX12_readsShape_123 : decode cX12_readsShape 123 = .ok (.aload_n 2, 1) := by decide +kernel
theorem dX12_readsShape_124 : decode cX12_readsShape 124 = .ok (.iconst 3, 1) := by decide +kernel
theorem dX12_readsShape_125 : decode cX12_readsShape 125 = .ok (.iload 6, 2) := by decide +kernel
theorem dX12_readsShape_127 : decode cX12_readsShape 127 = .ok (.iadd, 1) := by decide +kernel
theorem dX12_readsShape_128 : decode cX12_readsShape 128 = .ok (.iaload, 1) := by decide +kernel
theorem dX12_readsShape_129 : decode cX12_readsShape 129 = .ok (.if_icmp .ne 7, 3) := by decide +kernel
theorem dX12_readsShape_132 : decode cX12_readsShape 132 = .ok (.iconst 1, 1) := by decide +kernel
theorem dX12_readsShape_133 : decode cX12_readsShape 133 = .ok (.goto 4, 3) := by decide +kernel
theorem dX12_readsShape_136 : decode cX12_readsShape 136 = .ok (.iconst 0, 1) := by decide +kernel
theorem dX12_readsShape_137 : decode cX12_readsShape 137 = .ok (.iand, 1) := by decide +kernel
theorem dX12_readsShape_138 : decode cX12_readsShape 138 = .ok (.istore 5, 2) := by decide +kernel
theorem dX12_readsShape_140 : decode cX12_readsShape 140 = .ok (.iinc 6 1, 3) := by decide +kernel
theorem dX12_readsShape_143 : decode cX12_readsShape 143 = .ok (.goto (-34), 3) := by decide +kernel
theorem dX12_readsShape_146 : decode cX12_readsShape 146 = .ok (.iload 5, 2) := by decide +kernel
theorem dX12_readsShape_148 : decode cX12_readsShape 148 = .ok (.ifCond .eq 10, 3) := by decide +kernel
theorem dX12_readsShape_151 : decode cX12_readsShape 151 = .ok (.aload_n 0, 1) := by decide +kernel
theorem dX12_readsShape_152 : decode cX12_readsShape 152 = .ok (.iconst 1, 1) := by decide +kernel
theorem dX12_readsShape_153 : decode cX12_readsShape 153 = .ok (.iload 4, 2) := by decide +kernel
theorem dX12_readsShape_155 : decode cX12_readsShape 155 = .ok (.invokevirtual 214, 3) := by decide +kernel
theorem dX12_readsShape_158 : decode cX12_readsShape 158 = .ok (.aload_n 3, 1) := by decide +kernel
theorem dX12_readsShape_159 : decode cX12_readsShape 159 = .ok (.iconst 0, 1) := by decide +kernel
theorem dX12_readsShape_160 : decode cX12_readsShape 160 = .ok (.aload_n 0, 1) := by decide +kernel
theorem dX12_readsShape_161 : decode cX12_readsShape 161 = .ok (.invokevirtual 206, 3) := by decide +kernel
theorem dX12_readsShape_164 : decode cX12_readsShape 164 = .ok (.ifCond .eq 23, 3) := by decide +kernel
theorem dX12_readsShape_167 : decode cX12_readsShape 167 = .ok (.aload_n 0, 1) := by decide +kernel
theorem dX12_readsShape_168 : decode cX12_readsShape 168 = .ok (.invokevirtual 227, 3) := by decide +kernel
theorem dX12_readsShape_171 : decode cX12_readsShape 171 = .ok (.invokestatic 210, 3) := by decide +kernel
theorem dX12_readsShape_174 : decode cX12_readsShape 174 = .ok (.ifCond .eq 13, 3) := by decide +kernel
theorem dX12_readsShape_177 : decode cX12_readsShape 177 = .ok (.aload_n 0, 1) := by decide +kernel
theorem dX12_readsShape_178 : decode cX12_readsShape 178 = .ok (.iconst 1, 1) := by decide +kernel
theorem dX12_readsShape_179 : decode cX12_readsShape 179 = .ok (.bipush 99, 2) := by decide +kernel
theorem dX12_readsShape_181 : decode cX12_readsShape 181 = .ok (.invokevirtual 239, 3) := by decide +kernel
theorem dX12_readsShape_184 : decode cX12_readsShape 184 = .ok (.goto 4, 3) := by decide +kernel
theorem dX12_readsShape_187 : decode cX12_readsShape 187 = .ok (.iconst 5, 1) := by decide +kernel
theorem dX12_readsShape_188 : decode cX12_readsShape 188 = .ok (.iastore, 1) := by decide +kernel
theorem dX12_readsShape_189 : decode cX12_readsShape 189 = .ok (.aload_n 0, 1) := by decide +kernel
theorem dX12_readsShape_190 : decode cX12_readsShape 190 = .ok (.invokevirtual 242, 3) := by decide +kernel
theorem dX12_readsShape_193 : decode cX12_readsShape 193 = .ok (.return_, 1) := by decide +kernel
theorem dX12_shapes_0 : decode cX12_shapes 0 = .ok (.aload_n 0, 1) := by decide +kernel
theorem dX12_shapes_1 : decode cX12_shapes 1 = .ok (.iconst 0, 1) := by decide +kernel
theorem dX12_shapes_2 : decode cX12_shapes 2 = .ok (.putfield 180, 3) := by decide +kernel
theorem dX12_shapes_5 : decode cX12_shapes 5 = .ok (.aload_n 0, 1) := by decide +kernel
theorem dX12_shapes_6 : decode cX12_shapes 6 = .ok (.iload_n 1, 1) := by decide +kernel
theorem dX12_shapes_7 : decode cX12_shapes 7 = .ok (.iconst 0, 1) := by decide +kernel
theorem dX12_shapes_8 : decode cX12_shapes 8 = .ok (.aload_n 0, 1) := by decide +kernel
theorem dX12_shapes_9 : decode cX12_shapes 9 = .ok (.getfield 183, 3) := by decide +kernel
theorem dX12_shapes_12 : decode cX12_shapes 12 = .ok (.invokestatic 223, 3) := by decide +kernel
theorem dX12_shapes_15 : decode cX12_shapes 15 = .ok (.ifCond .ne 7, 3) := by decide +kernel
theorem dX12_shapes_18 : decode cX12_shapes 18 = .ok (.iconst 1, 1) := by decide +kernel
theorem dX12_shapes_19 : decode cX12_shapes 19 = .ok (.goto 4, 3) := by decide +kernel
theorem dX12_shapes_22 : decode cX12_shapes 22 = .ok (.iconst 0, 1) := by decide +kernel
theorem dX12_shapes_23 : decode cX12_shapes 23 = .ok (.iconst 1, 1) := by decide +kernel
theorem dX12_shapes_24 : decode cX12_shapes 24 = .ok (.iconst 1, 1) := by decide +kernel
theorem dX12_shapes_25 : decode cX12_shapes 25 = .ok (.invokevirtual 249, 3) := by decide +kernel
theorem dX12_shapes_28 : decode cX12_shapes 28 = .ok (.ifCond .eq 5, 3) := by decide +kernel
theorem dX12_shapes_31 : decode cX12_shapes 31 = .ok (.iconst 0, 1) := by decide +kernel
theorem dX12_shapes_32 : decode cX12_shapes 32 = .ok (.ireturn, 1) := by decide +kernel
theorem dX12_shapes_33 : decode cX12_shapes 33 = .ok (.aload_n 0, 1) := by decide +kernel
theorem dX12_shapes_34 : decode cX12_shapes 34 = .ok (.iload_n 1, 1) := by decide +kernel
theorem dX12_shapes_35 : decode cX12_shapes 35 = .ok (.invokevirtual 253, 3) := by decide +kernel
theorem dX12_shapes_38 : decode cX12_shapes 38 = .ok (.aload_n 0, 1) := by decide +kernel
theorem dX12_shapes_39 : decode cX12_shapes 39 = .ok (.getfield 55, 3) := by decide +kernel
theorem dX12_shapes_42 : decode cX12_shapes 42 = .ok (.iconst 1, 1) := by decide +kernel
theorem dX12_shapes_43 : decode cX12_shapes 43 = .ok (.iconst 0, 1) := by decide +kernel
theorem dX12_shapes_44 : decode cX12_shapes 44 = .ok (.iastore, 1) := by decide +kernel
theorem dX12_shapes_45 : decode cX12_shapes 45 = .ok (.aload_n 0, 1) := by decide +kernel
theorem dX12_shapes_46 : decode cX12_shapes 46 = .ok (.invokevirtual 206, 3) := by decide +kernel
theorem dX12_shapes_49 : decode cX12_shapes 49 = .ok (.ifCond .eq 86, 3) := by decide +kernel
theorem dX12_shapes_52 : decode cX12_shapes 52 = .ok (.aload_n 0, 1) := by decide +kernel
theorem dX12_shapes_53 : decode cX12_shapes 53 = .ok (.invokevirtual 227, 3) := by decide +kernel
theorem dX12_shapes_56 : decode cX12_shapes 56 = .ok (.iconst (-1), 1) := by decide +kernel
theorem dX12_shapes_57 : decode cX12_shapes 57 = .ok (.if_icmp .eq 78, 3) := by decide +kernel
theorem dX12_shapes_60 : decode cX12_shapes 60 = .ok (.aload_n 0, 1) := by decide +kernel
theorem dX12_shapes_61 : decode cX12_shapes 61 = .ok (.invokevirtual 196, 3) := by decide +kernel
theorem dX12_shapes_64 : decode cX12_shapes 64 = .ok (.invokestatic 230, 3) := by decide +kernel
theorem dX12_shapes_67 : decode cX12_shapes 67 = .ok (.ifCond .ne 15, 3) := by decide +kernel
theorem dX12_shapes_70 : decode cX12_shapes 70 = .ok (.aload_n 0, 1) := by decide +kernel
theorem dX12_shapes_71 : decode cX12_shapes 71 = .ok (.iconst 1, 1) := by decide +kernel
theorem dX12_shapes_72 : decode cX12_shapes 72 = .ok (.aload_n 0, 1) := by decide +kernel
theorem dX12_shapes_73 : decode cX12_shapes 73 = .ok (.getfield 189, 3) := by decide +kernel
theorem dX12_shapes_76 : decode cX12_shapes 76 = .ok (.invokevirtual 214, 3) := by decide +kernel
theorem dX12_shapes_79 : decode cX12_shapes 79 = .ok (.goto 23, 3) := by decide +kernel
theorem dX12_shapes_82 : decode cX12_shapes 82 = .ok (.aload_n 0, 1) := by decide +kernel
theorem dX12_shapes_83 : decode cX12_shapes 83 = .ok (.getfield 55, 3) := by decide +kernel
theorem dX12_shapes_86 : decode cX12_shapes 86 = .ok (.iconst 1, 1) := by decide +kernel
theorem dX12_shapes_87 : decode cX12_shapes 87 = .ok (.iaload, 1) := by decide +kernel
theorem dX12_shapes_88 : decode cX12_shapes 88 = .ok (.bipush 20, 2) := by decide +kernel
theorem dX12_shapes_90 : decode cX12_shapes 90 = .ok (.if_icmp .ne 12, 3) := by decide +kernel
theorem dX12_shapes_93 : decode cX12_shapes 93 = .ok (.aload_n 0, 1) := by decide +kernel
theorem dX12_shapes_94 : decode cX12_shapes 94 = .ok (.iconst 3, 1) := by decide +kernel
theorem dX12_shapes_95 : decode cX12_shapes 95 = .ok (.aload_n 0, 1) := by decide +kernel
theorem dX12_shapes_96 : decode cX12_shapes 96 = .ok (.getfield 189, 3) := by decide +kernel
theorem dX12_shapes_99 : decode cX12_shapes 99 = .ok (.invokevirtual 214, 3) := by decide +kernel
theorem dX12_shapes_102 : decode cX12_shapes 102 = .ok (.aload_n 0, 1) := by decide +kernel
theorem dX12_shapes_103 : decode cX12_shapes 103 = .ok (.invokevirtual 206, 3) := by decide +kernel
theorem dX12_shapes_106 : decode cX12_shapes 106 = .ok (.ifCond .ne 6, 3) := by decide +kernel
theorem dX12_shapes_109 : decode cX12_shapes 109 = .ok (.goto 26, 3) := by decide +kernel
theorem dX12_shapes_112 : decode cX12_shapes 112 = .ok (.aload_n 0, 1) := by decide +kernel
theorem dX12_shapes_113 : decode cX12_shapes 113 = .ok (.aload_n 0, 1) := by decide +kernel
theorem dX12_shapes_114 : decode cX12_shapes 114 = .ok (.getfield 55, 3) := by decide +kernel
theorem dX12_shapes_117 : decode cX12_shapes 117 = .ok (.iconst 1, 1) := by decide +kernel
theorem dX12_shapes_118 : decode cX12_shapes 118 = .ok (.iaload, 1) := by decide +kernel
theorem dX12_shapes_119 : decode cX12_shapes 119 = .ok (.invokevirtual 292, 3) := by decide +kernel
theorem dX12_shapes_122 : decode cX12_shapes 122 = .ok (.aload_n 0, 1) := by decide +kernel
theorem dX12_shapes_123 : decode cX12_shapes 123 = .ok (.getfield 55, 3) := by decide +kernel
theorem dX12_shapes_126 : decode cX12_shapes 126 = .ok (.iconst 1, 1) := by decide +kernel
theorem dX12_shapes_127 : decode cX12_shapes 127 = .ok (.dup2, 1) := by decide +kernel
theorem dX12_shapes_128 : decode cX12_shapes 128 = .ok (.iaload, 1) := by decide +kernel
theorem dX12_shapes_129 : decode cX12_shapes 129 = .ok (.iconst 1, 1) := by decide +kernel
theorem dX12_shapes_130 : decode cX12_shapes 130 = .ok (.iadd, 1) := by decide +kernel
theorem dX12_shapes_131 : decode cX12_shapes 131 = .ok (.iastore, 1) := by decide +kernel
theorem dX12_shapes_132 : decode cX12_shapes 132 = .ok (.goto (-87), 3) := by decide +kernel
theorem dX12_shapes_135 : decode cX12_shapes 135 = .ok (.aload_n 0, 1) := by decide +kernel
theorem dX12_shapes_136 : decode cX12_shapes 136 = .ok (.invokevirtual 206, 3) := by decide +kernel
theorem dX12_shapes_139 : decode cX12_shapes 139 = .ok (.ifCond .ne 9, 3) := by decide +kernel
theorem dX12_shapes_142 : decode cX12_shapes 142 = .ok (.aload_n 0, 1) := by decide +kernel
theorem dX12_shapes_143 : decode cX12_shapes 143 = .ok (.iconst 0, 1) := by decide +kernel
theorem dX12_shapes_144 : decode cX12_shapes 144 = .ok (.invokevirtual 263, 3) := by decide +kernel
theorem dX12_shapes_147 : decode cX12_shapes 147 = .ok (.ireturn, 1) := by decide +kernel
theorem dX12_shapes_148 : decode cX12_shapes 148 = .ok (.aload_n 0, 1) := by decide +kernel
theorem dX12_shapes_149 : decode cX12_shapes 149 = .ok (.getfield 55, 3) := by decide +kernel
theorem dX12_shapes_152 : decode cX12_shapes 152 = .ok (.iconst 0, 1) := by decide +kernel
theorem dX12_shapes_153 : decode cX12_shapes 153 = .ok (.aload_n 0, 1) := by decide +kernel
theorem dX12_shapes_154 : decode cX12_shapes 154 = .ok (.getfield 55, 3) := by decide +kernel
theorem dX12_shapes_157 : decode cX12_shapes 157 = .ok (.iconst 1, 1) := by decide +kernel
theorem dX12_shapes_158 : decode cX12_shapes 158 = .ok (.iaload, 1) := by decide +kernel
theorem dX12_shapes_159 : decode cX12_shapes 159 = .ok (.iastore, 1) := by decide +kernel
theorem dX12_shapes_160 : decode cX12_shapes 160 = .ok (.iconst 0, 1) := by decide +kernel
theorem dX12_shapes_161 : decode cX12_shapes 161 = .ok (.istore_n 2, 1) := by decide +kernel
theorem dX12_shapes_162 : decode cX12_shapes 162 = .ok (.iload_n 2, 1) := by decide +kernel
theorem dX12_shapes_163 : decode cX12_shapes 163 = .ok (.aload_n 0, 1) := by decide +kernel
theorem dX12_shapes_164 : decode cX12_shapes 164 = .ok (.getfield 55, 3) := by decide +kernel
theorem dX12_shapes_167 : decode cX12_shapes 167 = .ok (.iconst 0, 1) := by decide +kernel
theorem dX12_shapes_168 : decode cX12_shapes 168 = .ok (.iaload, 1) := by decide +kernel
theorem dX12_shapes_169 : decode cX12_shapes 169 = .ok (.if_icmp .ge 76, 3) := by decide +kernel
theorem dX12_shapes_172 : decode cX12_shapes 172 = .ok (.iconst 0, 1) := by decide +kernel
theorem dX12_shapes_173 : decode cX12_shapes 173 = .ok (.istore_n 3, 1) := by decide +kernel
theorem dX12_shapes_174 : decode cX12_shapes 174 = .ok (.iload_n 3, 1) := by decide +kernel
theorem dX12_shapes_175 : decode cX12_shapes 175 = .ok (.bipush 6, 2) := by decide +kernel
theorem dX12_shapes_177 : decode cX12_shapes 177 = .ok (.if_icmp .ge 29, 3) := by decide +kernel
theorem dX12_shapes_180 : decode cX12_shapes 180 = .ok (.aload_n 0, 1) := by decide +kernel
theorem dX12_shapes_181 : decode cX12_shapes 181 = .ok (.getfield 60, 3) := by decide +kernel
theorem dX12_shapes_184 : decode cX12_shapes 184 = .ok (.iconst 0, 1) := by decide +kernel
theorem dX12_shapes_185 : decode cX12_shapes 185 = .ok (.aaload, 1) := by decide +kernel
theorem dX12_shapes_186 : decode cX12_shapes 186 = .ok (.iload_n 2, 1) := by decide +kernel
theorem dX12_shapes_187 : decode cX12_shapes 187 = .ok (.aaload, 1) := by decide +kernel
theorem dX12_shapes_188 : decode cX12_shapes 188 = .ok (.iload_n 3, 1) := by decide +kernel
theorem dX12_shapes_189 : decode cX12_shapes 189 = .ok (.aload_n 0, 1) := by decide +kernel
theorem dX12_shapes_190 : decode cX12_shapes 190 = .ok (.getfield 60, 3) := by decide +kernel
theorem dX12_shapes_193 : decode cX12_shapes 193 = .ok (.iconst 1, 1) := by decide +kernel
theorem dX12_shapes_194 : decode cX12_shapes 194 = .ok (.aaload, 1) := by decide +kernel
theorem dX12_shapes_195 : decode cX12_shapes 195 = .ok (.iload_n 2, 1) := by decide +kernel
theorem dX12_shapes_196 : decode cX12_shapes 196 = .ok (.aaload, 1) := by decide +kernel
theorem dX12_shapes_197 : decode cX12_shapes 197 = .ok (.iload_n 3, 1) := by decide +kernel
theorem dX12_shapes_198 : decode cX12_shapes 198 = .ok (.iaload, 1) := by decide +kernel
theorem dX12_shapes_199 : decode cX12_shapes 199 = .ok (.iastore, 1) := by decide +kernel
theorem dX12_shapes_200 : decode cX12_shapes 200 = .ok (.iinc 3 1, 3) := by decide +kernel
theorem dX12_shapes_203 : decode cX12_shapes 203 = .ok (.goto (-29), 3) := by decide +kernel
theorem dX12_shapes_206 : decode cX12_shapes 206 = .ok (.iconst 0, 1) := by decide +kernel
theorem dX12_shapes_207 : decode cX12_shapes 207 = .ok (.istore_n 3, 1) := by decide +kernel
theorem dX12_shapes_208 : decode cX12_shapes 208 = .ok (.iload_n 3, 1) := by decide +kernel
theorem dX12_shapes_209 : decode cX12_shapes 209 = .ok (.iconst 3, 1) := by decide +kernel
theorem dX12_shapes_210 : decode cX12_shapes 210 = .ok (.if_icmp .ge 29, 3) := by decide +kernel
theorem dX12_shapes_213 : decode cX12_shapes 213 = .ok (.aload_n 0, 1) := by decide +kernel
theorem dX12_shapes_214 : decode cX12_shapes 214 = .ok (.getfield 63, 3) := by decide +kernel
theorem dX12_shapes_217 : decode cX12_shapes 217 = .ok (.iconst 0, 1) := by decide +kernel
theorem dX12_shapes_218 : decode cX12_shapes 218 = .ok (.aaload, 1) := by decide +kernel
theorem dX12_shapes_219 : decode cX12_shapes 219 = .ok (.iload_n 2, 1) := by decide +kernel
theorem dX12_shapes_220 : decode cX12_shapes 220 = .ok (.aaload, 1) := by decide +kernel
theorem dX12_shapes_221 : decode cX12_shapes 221 = .ok (.iload_n 3, 1) := by decide +kernel
theorem dX12_shapes_222 : decode cX12_shapes 222 = .ok (.aload_n 0, 1) := by decide +kernel
theorem dX12_shapes_223 : decode cX12_shapes 223 = .ok (.getfield 63, 3) := by decide +kernel
theorem dX12_shapes_226 : decode cX12_shapes 226 = .ok (.iconst 1, 1) := by decide +kernel
theorem dX12_shapes_227 : decode cX12_shapes 227 = .ok (.aaload, 1) := by decide +kernel
theorem dX12_shapes_228 : decode cX12_shapes 228 = .ok (.iload_n 2, 1) := by decide +kernel
theorem dX12_shapes_229 : decode cX12_shapes 229 = .ok (.aaload, 1) := by decide +kernel
theorem dX12_shapes_230 : decode cX12_shapes 230 = .ok (.iload_n 3, 1) := by decide +kernel
theorem dX12_shapes_231 : decode cX12_shapes 231 = .ok (.iaload, 1) := by decide +kernel
theorem dX12_shapes_232 : decode cX12_shapes 232 = .ok (.iastore, 1) := by decide +kernel
theorem dX12_shapes_233 : decode cX12_shapes 233 = .ok (.iinc 3 1, 3) := by decide +kernel
theorem dX12_shapes_236 : decode cX12_shapes 236 = .ok (.goto (-28), 3) := by decide +kernel
theorem dX12_shapes_239 : decode cX12_shapes 239 = .ok (.iinc 2 1, 3) := by decide +kernel
theorem dX12_shapes_242 : decode cX12_shapes 242 = .ok (.goto (-80), 3) := by decide +kernel
theorem dX12_shapes_245 : decode cX12_shapes 245 = .ok (.aload_n 0, 1) := by decide +kernel
theorem dX12_shapes_246 : decode cX12_shapes 246 = .ok (.aload_n 0, 1) := by decide +kernel
theorem dX12_shapes_247 : decode cX12_shapes 247 = .ok (.getfield 55, 3) := by decide +kernel
theorem dX12_shapes_250 : decode cX12_shapes 250 = .ok (.iconst 0, 1) := by decide +kernel
theorem dX12_shapes_251 : decode cX12_shapes 251 = .ok (.iaload, 1) := by decide +kernel
theorem dX12_shapes_252 : decode cX12_shapes 252 = .ok (.invokevirtual 263, 3) := by decide +kernel
theorem dX12_shapes_255 : decode cX12_shapes 255 = .ok (.ireturn, 1) := by decide +kernel
theorem dX12_isCell_0 : decode cX12_isCell 0 = .ok (.iload_n 0, 1) := by decide +kernel
theorem dX12_isCell_1 : decode cX12_isCell 1 = .ok (.invokestatic 230, 3) := by decide +kernel
theorem dX12_isCell_4 : decode cX12_isCell 4 = .ok (.ifCond .ne 15, 3) := by decide +kernel
theorem dX12_isCell_7 : decode cX12_isCell 7 = .ok (.iload_n 0, 1) := by decide +kernel
theorem dX12_isCell_8 : decode cX12_isCell 8 = .ok (.bipush 63, 2) := by decide +kernel
theorem dX12_isCell_10 : decode cX12_isCell 10 = .ok (.if_icmp .eq 9, 3) := by decide +kernel
theorem dX12_isCell_13 : decode cX12_isCell 13 = .ok (.iload_n 0, 1) := by decide +kernel
theorem dX12_isCell_14 : decode cX12_isCell 14 = .ok (.bipush 45, 2) := by decide +kernel
theorem dX12_isCell_16 : decode cX12_isCell 16 = .ok (.if_icmp .ne 7, 3) := by decide +kernel
theorem dX12_isCell_19 : decode cX12_isCell 19 = .ok (.iconst 1, 1) := by decide +kernel
theorem dX12_isCell_20 : decode cX12_isCell 20 = .ok (.goto 4, 3) := by decide +kernel
theorem dX12_isCell_23 : decode cX12_isCell 23 = .ok (.iconst 0, 1) := by decide +kernel
theorem dX12_isCell_24 : decode cX12_isCell 24 = .ok (.ireturn, 1) := by decide +kernel
theorem dX12_readsOthers_0 : decode cX12_readsOthers 0 = .ok (.aload_n 0, 1) := by decide +kernel
theorem dX12_readsOthers_1 : decode cX12_readsOthers 1 = .ok (.dup, 1) := by decide +kernel
theorem dX12_readsOthers_2 : decode cX12_readsOthers 2 = .ok (.getfield 189, 3) := by decide +kernel
theorem dX12_readsOthers_5 : decode cX12_readsOthers 5 = .ok (.iconst 1, 1) := by decide +kernel
theorem dX12_readsOthers_6 : decode cX12_readsOthers 6 = .ok (.iadd, 1) := by decide +kernel
theorem dX12_readsOthers_7 : decode cX12_readsOthers 7 = .ok (.putfield 189, 3) := by decide +kernel
theorem dX12_readsOthers_10 : decode cX12_readsOthers 10 = .ok (.aload_n 0, 1) := by decide +kernel
theorem dX12_readsOthers_11 : decode cX12_readsOthers 11 = .ok (.invokevirtual 206, 3) := by decide +kernel
theorem dX12_readsOthers_14 : decode cX12_readsOthers 14 = .ok (.ifCond .eq 136, 3) := by decide +kernel
theorem dX12_readsOthers_17 : decode cX12_readsOthers 17 = .ok (.aload_n 0, 1) := by decide +kernel
theorem dX12_readsOthers_18 : decode cX12_readsOthers 18 = .ok (.invokevirtual 196, 3) := by decide +kernel
theorem dX12_readsOthers_21 : decode cX12_readsOthers 21 = .ok (.bipush 93, 2) := by decide +kernel
theorem dX12_readsOthers_23 : decode cX12_readsOthers 23 = .ok (.if_icmp .eq 127, 3) := by decide +kernel
theorem dX12_readsOthers_26 : decode cX12_readsOthers 26 = .ok (.aload_n 1, 1) := by decide +kernel
theorem dX12_readsOthers_27 : decode cX12_readsOthers 27 = .ok (.iconst 1, 1) := by decide +kernel
theorem dX12_readsOthers_28 : decode cX12_readsOthers 28 = .ok (.iaload, 1) := by decide +kernel
theorem dX12_readsOthers_29 : decode cX12_readsOthers 29 = .ok (.ifCond .le 26, 3) := by decide +kernel
theorem dX12_readsOthers_32 : decode cX12_readsOthers 32 = .ok (.aload_n 0, 1) := by decide +kernel
theorem dX12_readsOthers_33 : decode cX12_readsOthers 33 = .ok (.invokevirtual 196, 3) := by decide +kernel
theorem dX12_readsOthers_36 : decode cX12_readsOthers 36 = .ok (.bipush 32, 2) := by decide +kernel
theorem dX12_readsOthers_38 : decode cX12_readsOthers 38 = .ok (.if_icmp .eq 12, 3) := by decide +kernel
theorem dX12_readsOthers_41 : decode cX12_readsOthers 41 = .ok (.aload_n 0, 1) := by decide +kernel
theorem dX12_readsOthers_42 : decode cX12_readsOthers 42 = .ok (.iconst 1, 1) := by decide +kernel
theorem dX12_readsOthers_43 : decode cX12_readsOthers 43 = .ok (.aload_n 0, 1) := by decide +kernel
theorem dX12_readsOthers_44 : decode cX12_readsOthers 44 = .ok (.getfield 189, 3) := by decide +kernel
theorem dX12_readsOthers_47 : decode cX12_readsOthers 47 = .ok (.invokevirtual 214, 3) := by decide +kernel
theorem dX12_readsOthers_50 : decode cX12_readsOthers 50 = .ok (.aload_n 0, 1) := by decide +kernel
theorem dX12_readsOthers_51 : decode cX12_readsOthers 51 = .ok (.invokevirtual 227, 3) := by decide +kernel
theorem dX12_readsOthers_54 : decode cX12_readsOthers 54 = .ok (.pop, 1) := by decide +kernel
theorem dX12_readsOthers_55 : decode cX12_readsOthers 55 = .ok (.aload_n 0, 1) := by decide +kernel
theorem dX12_readsOthers_56 : decode cX12_readsOthers 56 = .ok (.invokevirtual 196, 3) := by decide +kernel
theorem dX12_readsOthers_59 : decode cX12_readsOthers 59 = .ok (.invokestatic 230, 3) := by decide +kernel
theorem dX12_readsOthers_62 : decode cX12_readsOthers 62 = .ok (.ifCond .ne 15, 3) := by decide +kernel
theorem dX12_readsOthers_65 : decode cX12_readsOthers 65 = .ok (.aload_n 0, 1) := by decide +kernel
theorem dX12_readsOthers_66 : decode cX12_readsOthers 66 = .ok (.iconst 1, 1) := by decide +kernel
theorem dX12_readsOthers_67 : decode cX12_readsOthers 67 = .ok (.aload_n 0, 1) := by decide +kernel
theorem dX12_readsOthers_68 : decode cX12_readsOthers 68 = .ok (.getfield 189, 3) := by decide +kernel
theorem dX12_readsOthers_71 : decode cX12_readsOthers 71 = .ok (.invokevirtual 214, 3) := by decide +kernel
theorem dX12_readsOthers_74 : decode cX12_readsOthers 74 = .ok (.goto 19, 3) := by decide +kernel
theorem dX12_readsOthers_77 : decode cX12_readsOthers 77 = .ok (.aload_n 1, 1) := by decide +kernel
theorem dX12_readsOthers_78 : decode cX12_readsOthers 78 = .ok (.iconst 1, 1) := by decide +kernel
theorem dX12_readsOthers_79 : decode cX12_readsOthers 79 = .ok (.iaload, 1) := by decide +kernel
theorem dX12_readsOthers_80 : decode cX12_readsOthers 80 = .ok (.iconst 3, 1) := by decide +kernel
theorem dX12_readsOthers_81 : decode cX12_readsOthers 81 = .ok (.if_icmp .ne 12, 3) := by decide +kernel
theorem dX12_readsOthers_84 : decode cX12_readsOthers 84 = .ok (.aload_n 0, 1) := by decide +kernel
theorem dX12_readsOthers_85 : decode cX12_readsOthers 85 = .ok (.iconst 3, 1) := by decide +kernel
theorem dX12_readsOthers_86 : decode cX12_readsOthers 86 = .ok (.aload_n 0, 1) := by decide +kernel
theorem dX12_readsOthers_87 : decode cX12_readsOthers 87 = .ok (.getfield 189, 3) := by decide +kernel
theorem dX12_readsOthers_90 : decode cX12_readsOthers 90 = .ok (.invokevirtual 214, 3) := by decide +kernel
theorem dX12_readsOthers_93 : decode cX12_readsOthers 93 = .ok (.aload_n 0, 1) := by decide +kernel
theorem dX12_readsOthers_94 : decode cX12_readsOthers 94 = .ok (.invokevirtual 206, 3) := by decide +kernel
theorem dX12_readsOthers_97 : decode cX12_readsOthers 97 = .ok (.ifCond .ne 4, 3) := by decide +kernel
theorem dX12_readsOthers_100 : decode cX12_readsOthers 100 = .ok (.return_, 1) := by decide +kernel
theorem dX12_readsOthers_101 : decode cX12_readsOthers 101 = .ok (.aload_n 1, 1) := by decide +kernel
theorem dX12_readsOthers_102 : decode cX12_readsOthers 102 = .ok (.iconst 2, 1) := by decide +kernel
theorem dX12_readsOthers_103 : decode cX12_readsOthers 103 = .ok (.iconst 2, 1) := by decide +kernel
theorem dX12_readsOthers_104 : decode cX12_readsOthers 104 = .ok (.aload_n 1, 1) := by decide +kernel
theorem dX12_readsOthers_105 : decode cX12_readsOthers 105 = .ok (.iconst 1, 1) := by decide +kernel
theorem dX12_readsOthers_106 : decode cX12_readsOthers 106 = .ok (.iaload, 1) := by decide +kernel
theorem dX12_readsOthers_107 : decode cX12_readsOthers 107 = .ok (.imul, 1) := by decide +kernel
theorem dX12_readsOthers_108 : decode cX12_readsOthers 108 = .ok (.iadd, 1) := by decide +kernel
theorem dX12_readsOthers_109 : decode cX12_readsOthers 109 = .ok (.aload_n 0, 1) := by decide +kernel
theorem dX12_readsOthers_110 : decode cX12_readsOthers 110 = .ok (.invokevirtual 196, 3) := by decide +kernel
theorem dX12_readsOthers_113 : decode cX12_readsOthers 113 = .ok (.iastore, 1) := by decide +kernel
theorem dX12_readsOthers_114 : decode cX12_readsOthers 114 = .ok (.aload_n 0, 1) := by decide +kernel
theorem dX12_readsOthers_115 : decode cX12_readsOthers 115 = .ok (.dup, 1) := by decide +kernel
theorem dX12_readsOthers_116 : decode cX12_readsOthers 116 = .ok (.getfield 189, 3) := by decide +kernel
theorem dX12_readsOthers_119 : decode cX12_readsOthers 119 = .ok (.iconst 1, 1) := by decide +kernel
theorem dX12_readsOthers_120 : decode cX12_readsOthers 120 = .ok (.iadd, 1) := by decide +kernel
theorem dX12_readsOthers_121 : decode cX12_readsOthers 121 = .ok (.putfield 189, 3) := by decide +kernel
theorem dX12_readsOthers_124 : decode cX12_readsOthers 124 = .ok (.aload_n 1, 1) := by decide +kernel
theorem dX12_readsOthers_125 : decode cX12_readsOthers 125 = .ok (.iconst 3, 1) := by decide +kernel
theorem dX12_readsOthers_126 : decode cX12_readsOthers 126 = .ok (.iconst 2, 1) := by decide +kernel
theorem dX12_readsOthers_127 : decode cX12_readsOthers 127 = .ok (.aload_n 1, 1) := by decide +kernel
theorem dX12_readsOthers_128 : decode cX12_readsOthers 128 = .ok (.iconst 1, 1) := by decide +kernel
theorem dX12_readsOthers_129 : decode cX12_readsOthers 129 = .ok (.iaload, 1) := by decide +kernel
theorem dX12_readsOthers_130 : decode cX12_readsOthers 130 = .ok (.imul, 1) := by decide +kernel
theorem dX12_readsOthers_131 : decode cX12_readsOthers 131 = .ok (.iadd, 1) := by decide +kernel
theorem dX12_readsOthers_132 : decode cX12_readsOthers 132 = .ok (.aload_n 0, 1) := by decide +kernel
theorem dX12_readsOthers_133 : decode cX12_readsOthers 133 = .ok (.iconst 1, 1) := by decide +kernel
theorem dX12_readsOthers_134 : decode cX12_readsOthers 134 = .ok (.bipush 99, 2) := by decide +kernel
theorem dX12_readsOthers_136 : decode cX12_readsOthers 136 = .ok (.invokevirtual 239, 3) := by decide +kernel
theorem dX12_readsOthers_139 : decode cX12_readsOthers 139 = .ok (.iastore, 1) := by decide +kernel
theorem dX12_readsOthers_140 : decode cX12_readsOthers 140 = .ok (.aload_n 1, 1) := by decide +kernel
theorem dX12_readsOthers_141 : decode cX12_readsOthers 141 = .ok (.iconst 1, 1) := by decide +kernel
theorem dX12_readsOthers_142 : decode cX12_readsOthers 142 = .ok (.dup2, 1) := by decide +kernel
theorem dX12_readsOthers_143 : decode cX12_readsOthers 143 = .ok (.iaload, 1) := by decide +kernel
theorem dX12_readsOthers_144 : decode cX12_readsOthers 144 = .ok (.iconst 1, 1) := by decide +kernel
theorem dX12_readsOthers_145 : decode cX12_readsOthers 145 = .ok (.iadd, 1) := by decide +kernel
theorem dX12_readsOthers_146 : decode cX12_readsOthers 146 = .ok (.iastore, 1) := by decide +kernel
theorem dX12_readsOthers_147 : decode cX12_readsOthers 147 = .ok (.goto (-137), 3) := by decide +kernel
theorem dX12_readsOthers_150 : decode cX12_readsOthers 150 = .ok (.aload_n 0, 1) := by decide +kernel
theorem dX12_readsOthers_151 : decode cX12_readsOthers 151 = .ok (.dup, 1) := by decide +kernel
theorem dX12_readsOthers_152 : decode cX12_readsOthers 152 = .ok (.getfield 189, 3) := by decide +kernel
theorem dX12_readsOthers_155 : decode cX12_readsOthers 155 = .ok (.iconst 1, 1) := by decide +kernel
theorem dX12_readsOthers_156 : decode cX12_readsOthers 156 = .ok (.iadd, 1) := by decide +kernel
theorem dX12_readsOthers_157 : decode cX12_readsOthers 157 = .ok (.putfield 189, 3) := by decide +kernel
theorem dX12_readsOthers_160 : decode cX12_readsOthers 160 = .ok (.return_, 1) := by decide +kernel
theorem dX12_readsCell_0 : decode cX12_readsCell 0 = .ok (.aload_n 1, 1) := by decide +kernel
theorem dX12_readsCell_1 : decode cX12_readsCell 1 = .ok (.iconst 0, 1) := by decide +kernel
theorem dX12_readsCell_2 : decode cX12_readsCell 2 = .ok (.aload_n 0, 1) := by decide +kernel
theorem dX12_readsCell_3 : decode cX12_readsCell 3 = .ok (.invokevirtual 196, 3) := by decide +kernel
theorem dX12_readsCell_6 : decode cX12_readsCell 6 = .ok (.iastore, 1) := by decide +kernel
theorem dX12_readsCell_7 : decode cX12_readsCell 7 = .ok (.aload_n 1, 1) := by decide +kernel
theorem dX12_readsCell_8 : decode cX12_readsCell 8 = .ok (.iconst 1, 1) := by decide +kernel
theorem dX12_readsCell_9 : decode cX12_readsCell 9 = .ok (.iconst 0, 1) := by decide +kernel
theorem dX12_readsCell_10 : decode cX12_readsCell 10 = .ok (.iastore, 1) := by decide +kernel
theorem dX12_readsCell_11 : decode cX12_readsCell 11 = .ok (.aload_n 0, 1) := by decide +kernel
theorem dX12_readsCell_12 : decode cX12_readsCell 12 = .ok (.dup, 1) := by decide +kernel
theorem dX12_readsCell_13 : decode cX12_readsCell 13 = .ok (.getfield 189, 3) := by decide +kernel
theorem dX12_readsCell_16 : decode cX12_readsCell 16 = .ok (.iconst 1, 1) := by decide +kernel
theorem dX12_readsCell_17 : decode cX12_readsCell 17 = .ok (.iadd, 1) := by decide +kernel
theorem dX12_readsCell_18 : decode cX12_readsCell 18 = .ok (.putfield 189, 3) := by decide +kernel
theorem dX12_readsCell_21 : decode cX12_readsCell 21 = .ok (.aload_n 1, 1) := by decide +kernel
theorem dX12_readsCell_22 : decode cX12_readsCell 22 = .ok (.iconst 0, 1) := by decide +kernel
theorem dX12_readsCell_23 : decode cX12_readsCell 23 = .ok (.iaload, 1) := by decide +kernel
theorem dX12_readsCell_24 : decode cX12_readsCell 24 = .ok (.invokestatic 230, 3) := by decide +kernel
theorem dX12_readsCell_27 : decode cX12_readsCell 27 = .ok (.ifCond .eq 17, 3) := by decide +kernel
theorem dX12_readsCell_30 : decode cX12_readsCell 30 = .ok (.aload_n 0, 1) := by decide +kernel
theorem dX12_readsCell_31 : decode cX12_readsCell 31 = .ok (.invokevirtual 196, 3) := by decide +kernel
theorem dX12_readsCell_34 : decode cX12_readsCell 34 = .ok (.bipush 91, 2) := by decide +kernel
theorem dX12_readsCell_36 : decode cX12_readsCell 36 = .ok (.if_icmp .ne 8, 3) := by decide +kernel
theorem dX12_readsCell_39 : decode cX12_readsCell 39 = .ok (.aload_n 0, 1) := by decide +kernel
theorem dX12_readsCell_40 : decode cX12_readsCell 40 = .ok (.aload_n 1, 1) := by decide +kernel
theorem dX12_readsCell_41 : decode cX12_readsCell 41 = .ok (.invokevirtual 295, 3) := by decide +kernel
theorem dX12_readsCell_44 : decode cX12_readsCell 44 = .ok (.aload_n 1, 1) := by decide +kernel
theorem dX12_readsCell_45 : decode cX12_readsCell 45 = .ok (.iconst 0, 1) := by decide +kernel
theorem dX12_readsCell_46 : decode cX12_readsCell 46 = .ok (.iaload, 1) := by decide +kernel
theorem dX12_readsCell_47 : decode cX12_readsCell 47 = .ok (.bipush 45, 2) := by decide +kernel
theorem dX12_readsCell_49 : decode cX12_readsCell 49 = .ok (.if_icmp .ne 68, 3) := by decide +kernel
theorem dX12_readsCell_52 : decode cX12_readsCell 52 = .ok (.aload_n 0, 1) := by decide +kernel
theorem dX12_readsCell_53 : decode cX12_readsCell 53 = .ok (.invokevirtual 196, 3) := by decide +kernel
theorem dX12_readsCell_56 : decode cX12_readsCell 56 = .ok (.bipush 10, 2) := by decide +kernel
theorem dX12_readsCell_58 : decode cX12_readsCell 58 = .ok (.if_icmp .ne 59, 3) := by decide +kernel
theorem dX12_readsCell_61 : decode cX12_readsCell 61 = .ok (.aload_n 0, 1) := by decide +kernel
theorem dX12_readsCell_62 : decode cX12_readsCell 62 = .ok (.aload_n 0, 1) := by decide +kernel
theorem dX12_readsCell_63 : decode cX12_readsCell 63 = .ok (.getfield 189, 3) := by decide +kernel
theorem dX12_readsCell_66 : decode cX12_readsCell 66 = .ok (.iconst 1, 1) := by decide +kernel
theorem dX12_readsCell_67 : decode cX12_readsCell 67 = .ok (.iadd, 1) := by decide +kernel
theorem dX12_readsCell_68 : decode cX12_readsCell 68 = .ok (.invokevirtual 192, 3) := by decide +kernel
theorem dX12_readsCell_71 : decode cX12_readsCell 71 = .ok (.invokestatic 230, 3) := by decide +kernel
theorem dX12_readsCell_74 : decode cX12_readsCell 74 = .ok (.ifCond .ne 18, 3) := by decide +kernel
theorem dX12_readsCell_77 : decode cX12_readsCell 77 = .ok (.aload_n 0, 1) := by decide +kernel
theorem dX12_readsCell_78 : decode cX12_readsCell 78 = .ok (.aload_n 0, 1) := by decide +kernel
theorem dX12_readsCell_79 : decode cX12_readsCell 79 = .ok (.getfield 189, 3) := by decide +kernel
theorem dX12_readsCell_82 : decode cX12_readsCell 82 = .ok (.iconst 1, 1) := by decide +kernel
theorem dX12_readsCell_83 : decode cX12_readsCell 83 = .ok (.iadd, 1) := by decide +kernel
theorem dX12_readsCell_84 : decode cX12_readsCell 84 = .ok (.invokevirtual 192, 3) := by decide +kernel
theorem dX12_readsCell_87 : decode cX12_readsCell 87 = .ok (.bipush 63, 2) := by decide +kernel
theorem dX12_readsCell_89 : decode cX12_readsCell 89 = .ok (.if_icmp .ne 28, 3) := by decide +kernel
theorem dX12_readsCell_92 : decode cX12_readsCell 92 = .ok (.aload_n 1, 1) := by decide +kernel
theorem dX12_readsCell_93 : decode cX12_readsCell 93 = .ok (.iconst 0, 1) := by decide +kernel
theorem dX12_readsCell_94 : decode cX12_readsCell 94 = .ok (.bipush 10, 2) := by decide +kernel
theorem dX12_readsCell_96 : decode cX12_readsCell 96 = .ok (.iastore, 1) := by decide +kernel
theorem dX12_readsCell_97 : decode cX12_readsCell 97 = .ok (.aload_n 0, 1) := by decide +kernel
theorem dX12_readsCell_98 : decode cX12_readsCell 98 = .ok (.getfield 69, 3) := by decide +kernel
theorem dX12_readsCell_101 : decode cX12_readsCell 101 = .ok (.iconst 1, 1) := by decide +kernel
theorem dX12_readsCell_102 : decode cX12_readsCell 102 = .ok (.dup2, 1) := by decide +kernel
theorem dX12_readsCell_103 : decode cX12_readsCell 103 = .ok (.iaload, 1) := by decide +kernel
theorem dX12_readsCell_104 : decode cX12_readsCell 104 = .ok (.iconst 1, 1) := by decide +kernel
theorem dX12_readsCell_105 : decode cX12_readsCell 105 = .ok (.iadd, 1) := by decide +kernel
theorem dX12_readsCell_106 : decode cX12_readsCell 106 = .ok (.iastore, 1) := by decide +kernel
theorem dX12_readsCell_107 : decode cX12_readsCell 107 = .ok (.aload_n 0, 1) := by decide +kernel
theorem dX12_readsCell_108 : decode cX12_readsCell 108 = .ok (.dup, 1) := by decide +kernel
theorem dX12_readsCell_109 : decode cX12_readsCell 109 = .ok (.getfield 189, 3) := by decide +kernel
theorem dX12_readsCell_112 : decode cX12_readsCell 112 = .ok (.iconst 1, 1) := by decide +kernel
theorem dX12_readsCell_113 : decode cX12_readsCell 113 = .ok (.iadd, 1) := by decide +kernel
theorem dX12_readsCell_114 : decode cX12_readsCell 114 = .ok (.putfield 189, 3) := by decide +kernel
theorem dX12_readsCell_117 : decode cX12_readsCell 117 = .ok (.return_, 1) := by decide +kernel
theorem dX12_readsToken_0 : decode cX12_readsToken 0 = .ok (.aload_n 0, 1) := by decide +kernel
theorem dX12_readsToken_1 : decode cX12_readsToken 1 = .ok (.getfield 75, 3) := by decide +kernel
theorem dX12_readsToken_4 : decode cX12_readsToken 4 = .ok (.iconst 1, 1) := by decide +kernel
theorem dX12_readsToken_5 : decode cX12_readsToken 5 = .ok (.aaload, 1) := by decide +kernel
theorem dX12_readsToken_6 : decode cX12_readsToken 6 = .ok (.iload_n 1, 1) := by decide +kernel
theorem dX12_readsToken_7 : decode cX12_readsToken 7 = .ok (.aload_n 0, 1) := by decide +kernel
theorem dX12_readsToken_8 : decode cX12_readsToken 8 = .ok (.getfield 69, 3) := by decide +kernel
theorem dX12_readsToken_11 : decode cX12_readsToken 11 = .ok (.iconst 1, 1) := by decide +kernel
theorem dX12_readsToken_12 : decode cX12_readsToken 12 = .ok (.iaload, 1) := by decide +kernel
theorem dX12_readsToken_13 : decode cX12_readsToken 13 = .ok (.iastore, 1) := by decide +kernel
theorem dX12_readsToken_14 : decode cX12_readsToken 14 = .ok (.iconst 0, 1) := by decide +kernel
theorem dX12_readsToken_15 : decode cX12_readsToken 15 = .ok (.istore_n 2, 1) := by decide +kernel
theorem dX12_readsToken_16 : decode cX12_readsToken 16 = .ok (.aload_n 0, 1) := by decide +kernel
theorem dX12_readsToken_17 : decode cX12_readsToken 17 = .ok (.invokevirtual 206, 3) := by decide +kernel
theorem dX12_readsToken_20 : decode cX12_readsToken 20 = .ok (.ifCond .eq 56, 3) := by decide +kernel
theorem dX12_readsToken_23 : decode cX12_readsToken 23 = .ok (.aload_n 0, 1) := by decide +kernel
theorem dX12_readsToken_24 : decode cX12_readsToken 24 = .ok (.invokevirtual 196, 3) := by decide +kernel
theorem dX12_readsToken_27 : decode cX12_readsToken 27 = .ok (.invokestatic 298, 3) := by decide +kernel
theorem dX12_readsToken_30 : decode cX12_readsToken 30 = .ok (.ifCond .eq 46, 3) := by decide +kernel
theorem dX12_readsToken_33 : decode cX12_readsToken 33 = .ok (.iload_n 2, 1) := by decide +kernel
theorem dX12_readsToken_34 : decode cX12_readsToken 34 = .ok (.bipush 24, 2) := by decide +kernel
theorem dX12_readsToken_36 : decode cX12_readsToken 36 = .ok (.if_icmp .ne 12, 3) := by decide +kernel
theorem dX12_readsToken_39 : decode cX12_readsToken 39 = .ok (.aload_n 0, 1) := by decide +kernel
theorem dX12_readsToken_40 : decode cX12_readsToken 40 = .ok (.iconst 3, 1) := by decide +kernel
theorem dX12_readsToken_41 : decode cX12_readsToken 41 = .ok (.aload_n 0, 1) := by decide +kernel
theorem dX12_readsToken_42 : decode cX12_readsToken 42 = .ok (.getfield 189, 3) := by decide +kernel
theorem dX12_readsToken_45 : decode cX12_readsToken 45 = .ok (.invokevirtual 214, 3) := by decide +kernel
theorem dX12_readsToken_48 : decode cX12_readsToken 48 = .ok (.aload_n 0, 1) := by decide +kernel
theorem dX12_readsToken_49 : decode cX12_readsToken 49 = .ok (.invokevirtual 206, 3) := by decide +kernel
theorem dX12_readsToken_52 : decode cX12_readsToken 52 = .ok (.ifCond .ne 4, 3) := by decide +kernel
theorem dX12_readsToken_55 : decode cX12_readsToken 55 = .ok (.return_, 1) := by decide +kernel
theorem dX12_readsToken_56 : decode cX12_readsToken 56 = .ok (.aload_n 0, 1) := by decide +kernel
theorem dX12_readsToken_57 : decode cX12_readsToken 57 = .ok (.aload_n 0, 1) := by decide +kernel
theorem dX12_readsToken_58 : decode cX12_readsToken 58 = .ok (.getfield 83, 3) := by decide +kernel
theorem dX12_readsToken_61 : decode cX12_readsToken 61 = .ok (.iconst 1, 1) := by decide +kernel
theorem dX12_readsToken_62 : decode cX12_readsToken 62 = .ok (.aaload, 1) := by decide +kernel
theorem dX12_readsToken_63 : decode cX12_readsToken 63 = .ok (.iload_n 1, 1) := by decide +kernel
theorem dX12_readsToken_64 : decode cX12_readsToken 64 = .ok (.aaload, 1) := by decide +kernel
theorem dX12_readsToken_65 : decode cX12_readsToken 65 = .ok (.iload_n 2, 1) := by decide +kernel
theorem dX12_readsToken_66 : decode cX12_readsToken 66 = .ok (.aaload, 1) := by decide +kernel
theorem dX12_readsToken_67 : decode cX12_readsToken 67 = .ok (.invokevirtual 301, 3) := by decide +kernel
theorem dX12_readsToken_70 : decode cX12_readsToken 70 = .ok (.iinc 2 1, 3) := by decide +kernel
theorem dX12_readsToken_73 : decode cX12_readsToken 73 = .ok (.goto (-57), 3) := by decide +kernel
theorem dX12_readsToken_76 : decode cX12_readsToken 76 = .ok (.aload_n 0, 1) := by decide +kernel
theorem dX12_readsToken_77 : decode cX12_readsToken 77 = .ok (.getfield 72, 3) := by decide +kernel
theorem dX12_readsToken_80 : decode cX12_readsToken 80 = .ok (.iconst 1, 1) := by decide +kernel
theorem dX12_readsToken_81 : decode cX12_readsToken 81 = .ok (.aaload, 1) := by decide +kernel
theorem dX12_readsToken_82 : decode cX12_readsToken 82 = .ok (.iload_n 1, 1) := by decide +kernel
theorem dX12_readsToken_83 : decode cX12_readsToken 83 = .ok (.iload_n 2, 1) := by decide +kernel
theorem dX12_readsToken_84 : decode cX12_readsToken 84 = .ok (.iastore, 1) := by decide +kernel
theorem dX12_readsToken_85 : decode cX12_readsToken 85 = .ok (.return_, 1) := by decide +kernel
theorem dX12_standsBetween_0 : decode cX12_standsBetween 0 = .ok (.iconst 0, 1) := by decide +kernel
theorem dX12_standsBetween_1 : decode cX12_standsBetween 1 = .ok (.istore_n 1, 1) := by decide +kernel
theorem dX12_standsBetween_2 : decode cX12_standsBetween 2 = .ok (.iconst 0, 1) := by decide +kernel
theorem dX12_standsBetween_3 : decode cX12_standsBetween 3 = .ok (.istore_n 2, 1) := by decide +kernel
theorem dX12_standsBetween_4 : decode cX12_standsBetween 4 = .ok (.aload_n 0, 1) := by decide +kernel
theorem dX12_standsBetween_5 : decode cX12_standsBetween 5 = .ok (.invokevirtual 196, 3) := by decide +kernel
theorem dX12_standsBetween_8 : decode cX12_standsBetween 8 = .ok (.bipush 32, 2) := by decide +kernel
theorem dX12_standsBetween_10 : decode cX12_standsBetween 10 = .ok (.if_icmp .eq 12, 3) := by decide +kernel
theorem dX12_standsBetween_13 : decode cX12_standsBetween 13 = .ok (.aload_n 0, 1) := by decide +kernel
theorem dX12_standsBetween_14 : decode cX12_standsBetween 14 = .ok (.invokevirtual 196, 3) := by decide +kernel
theorem dX12_standsBetween_17 : decode cX12_standsBetween 17 = .ok (.bipush 10, 2) := by decide +kernel
theorem dX12_standsBetween_19 : decode cX12_standsBetween 19 = .ok (.if_icmp .ne 50, 3) := by decide +kernel
theorem dX12_standsBetween_22 : decode cX12_standsBetween 22 = .ok (.iload_n 1, 1) := by decide +kernel
theorem dX12_standsBetween_23 : decode cX12_standsBetween 23 = .ok (.aload_n 0, 1) := by decide +kernel
theorem dX12_standsBetween_24 : decode cX12_standsBetween 24 = .ok (.invokevirtual 196, 3) := by decide +kernel
theorem dX12_standsBetween_27 : decode cX12_standsBetween 27 = .ok (.bipush 10, 2) := by decide +kernel
theorem dX12_standsBetween_29 : decode cX12_standsBetween 29 = .ok (.if_icmp .ne 7, 3) := by decide +kernel
theorem dX12_standsBetween_32 : decode cX12_standsBetween 32 = .ok (.iconst 1, 1) := by decide +kernel
theorem dX12_standsBetween_33 : decode cX12_standsBetween 33 = .ok (.goto 4, 3) := by decide +kernel
theorem dX12_standsBetween_36 : decode cX12_standsBetween 36 = .ok (.iconst 0, 1) := by decide +kernel
theorem dX12_standsBetween_37 : decode cX12_standsBetween 37 = .ok (.iadd, 1) := by decide +kernel
theorem dX12_standsBetween_38 : decode cX12_standsBetween 38 = .ok (.istore_n 1, 1) := by decide +kernel
theorem dX12_standsBetween_39 : decode cX12_standsBetween 39 = .ok (.iload_n 2, 1) := by decide +kernel
theorem dX12_standsBetween_40 : decode cX12_standsBetween 40 = .ok (.aload_n 0, 1) := by decide +kernel
theorem dX12_standsBetween_41 : decode cX12_standsBetween 41 = .ok (.invokevirtual 196, 3) := by decide +kernel
theorem dX12_standsBetween_44 : decode cX12_standsBetween 44 = .ok (.bipush 10, 2) := by decide +kernel
theorem dX12_standsBetween_46 : decode cX12_standsBetween 46 = .ok (.if_icmp .ne 7, 3) := by decide +kernel
theorem dX12_standsBetween_49 : decode cX12_standsBetween 49 = .ok (.iconst 0, 1) := by decide +kernel
theorem dX12_standsBetween_50 : decode cX12_standsBetween 50 = .ok (.goto 4, 3) := by decide +kernel
theorem dX12_standsBetween_53 : decode cX12_standsBetween 53 = .ok (.iconst 1, 1) := by decide +kernel
theorem dX12_standsBetween_54 : decode cX12_standsBetween 54 = .ok (.iadd, 1) := by decide +kernel
theorem dX12_standsBetween_55 : decode cX12_standsBetween 55 = .ok (.istore_n 2, 1) := by decide +kernel
theorem dX12_standsBetween_56 : decode cX12_standsBetween 56 = .ok (.aload_n 0, 1) := by decide +kernel
theorem dX12_standsBetween_57 : decode cX12_standsBetween 57 = .ok (.dup, 1) := by decide +kernel
theorem dX12_standsBetween_58 : decode cX12_standsBetween 58 = .ok (.getfield 189, 3) := by decide +kernel
theorem dX12_standsBetween_61 : decode cX12_standsBetween 61 = .ok (.iconst 1, 1) := by decide +kernel
theorem dX12_standsBetween_62 : decode cX12_standsBetween 62 = .ok (.iadd, 1) := by decide +kernel
theorem dX12_standsBetween_63 : decode cX12_standsBetween 63 = .ok (.putfield 189, 3) := by decide +kernel
theorem dX12_standsBetween_66 : decode cX12_standsBetween 66 = .ok (.goto (-62), 3) := by decide +kernel
theorem dX12_standsBetween_69 : decode cX12_standsBetween 69 = .ok (.aload_n 0, 1) := by decide +kernel
theorem dX12_standsBetween_70 : decode cX12_standsBetween 70 = .ok (.getfield 69, 3) := by decide +kernel
theorem dX12_standsBetween_73 : decode cX12_standsBetween 73 = .ok (.iconst 1, 1) := by decide +kernel
theorem dX12_standsBetween_74 : decode cX12_standsBetween 74 = .ok (.dup2, 1) := by decide +kernel
theorem dX12_standsBetween_75 : decode cX12_standsBetween 75 = .ok (.iaload, 1) := by decide +kernel
theorem dX12_standsBetween_76 : decode cX12_standsBetween 76 = .ok (.iload_n 1, 1) := by decide +kernel
theorem dX12_standsBetween_77 : decode cX12_standsBetween 77 = .ok (.iadd, 1) := by decide +kernel
theorem dX12_standsBetween_78 : decode cX12_standsBetween 78 = .ok (.iastore, 1) := by decide +kernel
theorem dX12_standsBetween_79 : decode cX12_standsBetween 79 = .ok (.iload_n 1, 1) := by decide +kernel
theorem dX12_standsBetween_80 : decode cX12_standsBetween 80 = .ok (.ifCond .ne 7, 3) := by decide +kernel
theorem dX12_standsBetween_83 : decode cX12_standsBetween 83 = .ok (.iconst 0, 1) := by decide +kernel
theorem dX12_standsBetween_84 : decode cX12_standsBetween 84 = .ok (.goto 17, 3) := by decide +kernel
theorem dX12_standsBetween_87 : decode cX12_standsBetween 87 = .ok (.iload_n 1, 1) := by decide +kernel
theorem dX12_standsBetween_88 : decode cX12_standsBetween 88 = .ok (.iconst 1, 1) := by decide +kernel
theorem dX12_standsBetween_89 : decode cX12_standsBetween 89 = .ok (.if_icmp .ne 11, 3) := by decide +kernel
theorem dX12_standsBetween_92 : decode cX12_standsBetween 92 = .ok (.iload_n 2, 1) := by decide +kernel
theorem dX12_standsBetween_93 : decode cX12_standsBetween 93 = .ok (.ifCond .ne 7, 3) := by decide +kernel
theorem dX12_standsBetween_96 : decode cX12_standsBetween 96 = .ok (.iconst 1, 1) := by decide +kernel
theorem dX12_standsBetween_97 : decode cX12_standsBetween 97 = .ok (.goto 4, 3) := by decide +kernel
theorem dX12_standsBetween_100 : decode cX12_standsBetween 100 = .ok (.iconst 2, 1) := by decide +kernel
theorem dX12_standsBetween_101 : decode cX12_standsBetween 101 = .ok (.ireturn, 1) := by decide +kernel
theorem dX12_reading_0 : decode cX12_reading 0 = .ok (.aload_n 0, 1) := by decide +kernel
theorem dX12_reading_1 : decode cX12_reading 1 = .ok (.iconst 0, 1) := by decide +kernel
theorem dX12_reading_2 : decode cX12_reading 2 = .ok (.putfield 180, 3) := by decide +kernel
theorem dX12_reading_5 : decode cX12_reading 5 = .ok (.aload_n 0, 1) := by decide +kernel
theorem dX12_reading_6 : decode cX12_reading 6 = .ok (.iload_n 1, 1) := by decide +kernel
theorem dX12_reading_7 : decode cX12_reading 7 = .ok (.iconst 0, 1) := by decide +kernel
theorem dX12_reading_8 : decode cX12_reading 8 = .ok (.aload_n 0, 1) := by decide +kernel
theorem dX12_reading_9 : decode cX12_reading 9 = .ok (.getfield 183, 3) := by decide +kernel
theorem dX12_reading_12 : decode cX12_reading 12 = .ok (.invokestatic 223, 3) := by decide +kernel
theorem dX12_reading_15 : decode cX12_reading 15 = .ok (.ifCond .ne 7, 3) := by decide +kernel
theorem dX12_reading_18 : decode cX12_reading 18 = .ok (.iconst 1, 1) := by decide +kernel
theorem dX12_reading_19 : decode cX12_reading 19 = .ok (.goto 4, 3) := by decide +kernel
theorem dX12_reading_22 : decode cX12_reading 22 = .ok (.iconst 0, 1) := by decide +kernel
theorem dX12_reading_23 : decode cX12_reading 23 = .ok (.iconst 1, 1) := by decide +kernel
theorem dX12_reading_24 : decode cX12_reading 24 = .ok (.iconst 1, 1) := by decide +kernel
theorem dX12_reading_25 : decode cX12_reading 25 = .ok (.invokevirtual 249, 3) := by decide +kernel
theorem dX12_reading_28 : decode cX12_reading 28 = .ok (.ifCond .eq 5, 3) := by decide +kernel
theorem dX12_reading_31 : decode cX12_reading 31 = .ok (.iconst 0, 1) := by decide +kernel
theorem dX12_reading_32 : decode cX12_reading 32 = .ok (.ireturn, 1) := by decide +kernel
theorem dX12_reading_33 : decode cX12_reading 33 = .ok (.aload_n 0, 1) := by decide +kernel
theorem dX12_reading_34 : decode cX12_reading 34 = .ok (.iload_n 1, 1) := by decide +kernel
theorem dX12_reading_35 : decode cX12_reading 35 = .ok (.invokevirtual 253, 3) := by decide +kernel
theorem dX12_reading_38 : decode cX12_reading 38 = .ok (.aload_n 0, 1) := by decide +kernel
theorem dX12_reading_39 : decode cX12_reading 39 = .ok (.getfield 66, 3) := by decide +kernel
theorem dX12_reading_42 : decode cX12_reading 42 = .ok (.iconst 1, 1) := by decide +kernel
theorem dX12_reading_43 : decode cX12_reading 43 = .ok (.iconst 0, 1) := by decide +kernel
theorem dX12_reading_44 : decode cX12_reading 44 = .ok (.iastore, 1) := by decide +kernel
theorem dX12_reading_45 : decode cX12_reading 45 = .ok (.aload_n 0, 1) := by decide +kernel
theorem dX12_reading_46 : decode cX12_reading 46 = .ok (.getfield 69, 3) := by decide +kernel
theorem dX12_reading_49 : decode cX12_reading 49 = .ok (.iconst 1, 1) := by decide +kernel
theorem dX12_reading_50 : decode cX12_reading 50 = .ok (.iconst 0, 1) := by decide +kernel
theorem dX12_reading_51 : decode cX12_reading 51 = .ok (.iastore, 1) := by decide +kernel
theorem dX12_reading_52 : decode cX12_reading 52 = .ok (.aload_n 0, 1) := by decide +kernel
theorem dX12_reading_53 : decode cX12_reading 53 = .ok (.invokevirtual 304, 3) := by decide +kernel
theorem dX12_reading_56 : decode cX12_reading 56 = .ok (.pop, 1) := by decide +kernel
theorem dX12_reading_57 : decode cX12_reading 57 = .ok (.aload_n 0, 1) := by decide +kernel
theorem dX12_reading_58 : decode cX12_reading 58 = .ok (.invokevirtual 206, 3) := by decide +kernel
theorem dX12_reading_61 : decode cX12_reading 61 = .ok (.ifCond .eq 147, 3) := by decide +kernel
theorem dX12_reading_64 : decode cX12_reading 64 = .ok (.aload_n 0, 1) := by decide +kernel
theorem dX12_reading_65 : decode cX12_reading 65 = .ok (.invokevirtual 196, 3) := by decide +kernel
theorem dX12_reading_68 : decode cX12_reading 68 = .ok (.iconst (-1), 1) := by decide +kernel
theorem dX12_reading_69 : decode cX12_reading 69 = .ok (.if_icmp .eq 139, 3) := by decide +kernel
theorem dX12_reading_72 : decode cX12_reading 72 = .ok (.aload_n 0, 1) := by decide +kernel
theorem dX12_reading_73 : decode cX12_reading 73 = .ok (.invokevirtual 196, 3) := by decide +kernel
theorem dX12_reading_76 : decode cX12_reading 76 = .ok (.invokestatic 298, 3) := by decide +kernel
theorem dX12_reading_79 : decode cX12_reading 79 = .ok (.ifCond .ne 15, 3) := by decide +kernel
theorem dX12_reading_82 : decode cX12_reading 82 = .ok (.aload_n 0, 1) := by decide +kernel
theorem dX12_reading_83 : decode cX12_reading 83 = .ok (.iconst 1, 1) := by decide +kernel
theorem dX12_reading_84 : decode cX12_reading 84 = .ok (.aload_n 0, 1) := by decide +kernel
theorem dX12_reading_85 : decode cX12_reading 85 = .ok (.getfield 189, 3) := by decide +kernel
theorem dX12_reading_88 : decode cX12_reading 88 = .ok (.invokevirtual 214, 3) := by decide +kernel
theorem dX12_reading_91 : decode cX12_reading 91 = .ok (.goto 23, 3) := by decide +kernel
theorem dX12_reading_94 : decode cX12_reading 94 = .ok (.aload_n 0, 1) := by decide +kernel
theorem dX12_reading_95 : decode cX12_reading 95 = .ok (.getfield 66, 3) := by decide +kernel
theorem dX12_reading_98 : decode cX12_reading 98 = .ok (.iconst 1, 1) := by decide +kernel
theorem dX12_reading_99 : decode cX12_reading 99 = .ok (.iaload, 1) := by decide +kernel
theorem dX12_reading_100 : decode cX12_reading 100 = .ok (.bipush 40, 2) := by decide +kernel
theorem dX12_reading_102 : decode cX12_reading 102 = .ok (.if_icmp .ne 12, 3) := by decide +kernel
theorem dX12_reading_105 : decode cX12_reading 105 = .ok (.aload_n 0, 1) := by decide +kernel
theorem dX12_reading_106 : decode cX12_reading 106 = .ok (.iconst 3, 1) := by decide +kernel
theorem dX12_reading_107 : decode cX12_reading 107 = .ok (.aload_n 0, 1) := by decide +kernel
theorem dX12_reading_108 : decode cX12_reading 108 = .ok (.getfield 189, 3) := by decide +kernel
theorem dX12_reading_111 : decode cX12_reading 111 = .ok (.invokevirtual 214, 3) := by decide +kernel
theorem dX12_reading_114 : decode cX12_reading 114 = .ok (.aload_n 0, 1) := by decide +kernel
theorem dX12_reading_115 : decode cX12_reading 115 = .ok (.invokevirtual 206, 3) := by decide +kernel
theorem dX12_reading_118 : decode cX12_reading 118 = .ok (.ifCond .ne 6, 3) := by decide +kernel
theorem dX12_reading_121 : decode cX12_reading 121 = .ok (.goto 87, 3) := by decide +kernel
theorem dX12_reading_124 : decode cX12_reading 124 = .ok (.aload_n 0, 1) := by decide +kernel
theorem dX12_reading_125 : decode cX12_reading 125 = .ok (.aload_n 0, 1) := by decide +kernel
theorem dX12_reading_126 : decode cX12_reading 126 = .ok (.getfield 66, 3) := by decide +kernel
theorem dX12_reading_129 : decode cX12_reading 129 = .ok (.iconst 1, 1) := by decide +kernel
theorem dX12_reading_130 : decode cX12_reading 130 = .ok (.iaload, 1) := by decide +kernel
theorem dX12_reading_131 : decode cX12_reading 131 = .ok (.invokevirtual 307, 3) := by decide +kernel
theorem dX12_reading_134 : decode cX12_reading 134 = .ok (.aload_n 0, 1) := by decide +kernel
theorem dX12_reading_135 : decode cX12_reading 135 = .ok (.getfield 189, 3) := by decide +kernel
theorem dX12_reading_138 : decode cX12_reading 138 = .ok (.istore_n 2, 1) := by decide +kernel
theorem dX12_reading_139 : decode cX12_reading 139 = .ok (.aload_n 0, 1) := by decide +kernel
theorem dX12_reading_140 : decode cX12_reading 140 = .ok (.invokevirtual 206, 3) := by decide +kernel
theorem dX12_reading_143 : decode cX12_reading 143 = .ok (.ifCond .eq 20, 3) := by decide +kernel
theorem dX12_reading_146 : decode cX12_reading 146 = .ok (.aload_n 0, 1) := by decide +kernel
theorem dX12_reading_147 : decode cX12_reading 147 = .ok (.getfield 78, 3) := by decide +kernel
theorem dX12_reading_150 : decode cX12_reading 150 = .ok (.iconst 1, 1) := by decide +kernel
theorem dX12_reading_151 : decode cX12_reading 151 = .ok (.aaload, 1) := by decide +kernel
theorem dX12_reading_152 : decode cX12_reading 152 = .ok (.aload_n 0, 1) := by decide +kernel
theorem dX12_reading_153 : decode cX12_reading 153 = .ok (.getfield 66, 3) := by decide +kernel
theorem dX12_reading_156 : decode cX12_reading 156 = .ok (.iconst 1, 1) := by decide +kernel
theorem dX12_reading_157 : decode cX12_reading 157 = .ok (.iaload, 1) := by decide +kernel
theorem dX12_reading_158 : decode cX12_reading 158 = .ok (.aload_n 0, 1) := by decide +kernel
theorem dX12_reading_159 : decode cX12_reading 159 = .ok (.invokevirtual 304, 3) := by decide +kernel
theorem dX12_reading_162 : decode cX12_reading 162 = .ok (.iastore, 1) := by decide +kernel
theorem dX12_reading_163 : decode cX12_reading 163 = .ok (.aload_n 0, 1) := by decide +kernel
theorem dX12_reading_164 : decode cX12_reading 164 = .ok (.invokevirtual 206, 3) := by decide +kernel
theorem dX12_reading_167 : decode cX12_reading 167 = .ok (.ifCond .eq 28, 3) := by decide +kernel
theorem dX12_reading_170 : decode cX12_reading 170 = .ok (.aload_n 0, 1) := by decide +kernel
theorem dX12_reading_171 : decode cX12_reading 171 = .ok (.invokevirtual 196, 3) := by decide +kernel
theorem dX12_reading_174 : decode cX12_reading 174 = .ok (.iconst (-1), 1) := by decide +kernel
theorem dX12_reading_175 : decode cX12_reading 175 = .ok (.if_icmp .eq 20, 3) := by decide +kernel
theorem dX12_reading_178 : decode cX12_reading 178 = .ok (.aload_n 0, 1) := by decide +kernel
theorem dX12_reading_179 : decode cX12_reading 179 = .ok (.getfield 189, 3) := by decide +kernel
theorem dX12_reading_182 : decode cX12_reading 182 = .ok (.iload_n 2, 1) := by decide +kernel
theorem dX12_reading_183 : decode cX12_reading 183 = .ok (.if_icmp .ne 12, 3) := by decide +kernel
theorem dX12_reading_186 : decode cX12_reading 186 = .ok (.aload_n 0, 1) := by decide +kernel
theorem dX12_reading_187 : decode cX12_reading 187 = .ok (.iconst 1, 1) := by decide +kernel
theorem dX12_reading_188 : decode cX12_reading 188 = .ok (.aload_n 0, 1) := by decide +kernel
theorem dX12_reading_189 : decode cX12_reading 189 = .ok (.getfield 189, 3) := by decide +kernel
theorem dX12_reading_192 : decode cX12_reading 192 = .ok (.invokevirtual 214, 3) := by decide +kernel
theorem dX12_reading_195 : decode cX12_reading 195 = .ok (.aload_n 0, 1) := by decide +kernel
theorem dX12_reading_196 : decode cX12_reading 196 = .ok (.getfield 66, 3) := by decide +kernel
theorem dX12_reading_199 : decode cX12_reading 199 = .ok (.iconst 1, 1) := by decide +kernel
theorem dX12_reading_200 : decode cX12_reading 200 = .ok (.dup2, 1) := by decide +kernel
theorem dX12_reading_201 : decode cX12_reading 201 = .ok (.iaload, 1) := by decide +kernel
theorem dX12_reading_202 : decode cX12_reading 202 = .ok (.iconst 1, 1) := by decide +kernel
theorem dX12_reading_203 : decode cX12_reading 203 = .ok (.iadd, 1) := by decide +kernel
theorem dX12_reading_204 : decode cX12_reading 204 = .ok (.iastore, 1) := by decide +kernel
theorem dX12_reading_205 : decode cX12_reading 205 = .ok (.goto (-148), 3) := by decide +kernel
theorem dX12_reading_208 : decode cX12_reading 208 = .ok (.aload_n 0, 1) := by decide +kernel
theorem dX12_reading_209 : decode cX12_reading 209 = .ok (.invokevirtual 206, 3) := by decide +kernel
theorem dX12_reading_212 : decode cX12_reading 212 = .ok (.ifCond .ne 9, 3) := by decide +kernel
theorem dX12_reading_215 : decode cX12_reading 215 = .ok (.aload_n 0, 1) := by decide +kernel
theorem dX12_reading_216 : decode cX12_reading 216 = .ok (.iconst 0, 1) := by decide +kernel
theorem dX12_reading_217 : decode cX12_reading 217 = .ok (.invokevirtual 263, 3) := by decide +kernel
theorem dX12_reading_220 : decode cX12_reading 220 = .ok (.ireturn, 1) := by decide +kernel
theorem dX12_reading_221 : decode cX12_reading 221 = .ok (.aload_n 0, 1) := by decide +kernel
theorem dX12_reading_222 : decode cX12_reading 222 = .ok (.iconst 1, 1) := by decide +kernel
theorem dX12_reading_223 : decode cX12_reading 223 = .ok (.putfield 310, 3) := by decide +kernel
theorem dX12_reading_226 : decode cX12_reading 226 = .ok (.aload_n 0, 1) := by decide +kernel
theorem dX12_reading_227 : decode cX12_reading 227 = .ok (.getfield 66, 3) := by decide +kernel
theorem dX12_reading_230 : decode cX12_reading 230 = .ok (.iconst 0, 1) := by decide +kernel
theorem dX12_reading_231 : decode cX12_reading 231 = .ok (.aload_n 0, 1) := by decide +kernel
theorem dX12_reading_232 : decode cX12_reading 232 = .ok (.getfield 66, 3) := by decide +kernel
theorem dX12_reading_235 : decode cX12_reading 235 = .ok (.iconst 1, 1) := by decide +kernel
theorem dX12_reading_236 : decode cX12_reading 236 = .ok (.iaload, 1) := by decide +kernel
theorem dX12_reading_237 : decode cX12_reading 237 = .ok (.iastore, 1) := by decide +kernel
theorem dX12_reading_238 : decode cX12_reading 238 = .ok (.aload_n 0, 1) := by decide +kernel
theorem dX12_reading_239 : decode cX12_reading 239 = .ok (.getfield 69, 3) := by decide +kernel
theorem dX12_reading_242 : decode cX12_reading 242 = .ok (.iconst 0, 1) := by decide +kernel
theorem dX12_reading_243 : decode cX12_reading 243 = .ok (.aload_n 0, 1) := by decide +kernel
theorem dX12_reading_244 : decode cX12_reading 244 = .ok (.getfield 69, 3) := by decide +kernel
theorem dX12_reading_247 : decode cX12_reading 247 = .ok (.iconst 1, 1) := by decide +kernel
theorem dX12_reading_248 : decode cX12_reading 248 = .ok (.iaload, 1) := by decide +kernel
theorem dX12_reading_249 : decode cX12_reading 249 = .ok (.iastore, 1) := by decide +kernel
theorem dX12_reading_250 : decode cX12_reading 250 = .ok (.iconst 0, 1) := by decide +kernel
theorem dX12_reading_251 : decode cX12_reading 251 = .ok (.istore_n 2, 1) := by decide +kernel
theorem dX12_reading_252 : decode cX12_reading 252 = .ok (.iload_n 2, 1) := by decide +kernel
theorem dX12_reading_253 : decode cX12_reading 253 = .ok (.aload_n 0, 1) := by decide +kernel
theorem dX12_reading_254 : decode cX12_reading 254 = .ok (.getfield 66, 3) := by decide +kernel
theorem dX12_reading_257 : decode cX12_reading 257 = .ok (.iconst 0, 1) := by decide +kernel
theorem dX12_reading_258 : decode cX12_reading 258 = .ok (.iaload, 1) := by decide +kernel
theorem dX12_reading_259 : decode cX12_reading 259 = .ok (.if_icmp .ge 119, 3) := by decide +kernel
theorem dX12_reading_262 : decode cX12_reading 262 = .ok (.aload_n 0, 1) := by decide +kernel
theorem dX12_reading_263 : decode cX12_reading 263 = .ok (.getfield 72, 3) := by decide +kernel
theorem dX12_reading_266 : decode cX12_reading 266 = .ok (.iconst 0, 1) := by decide +kernel
theorem dX12_reading_267 : decode cX12_reading 267 = .ok (.aaload, 1) := by decide +kernel
theorem dX12_reading_268 : decode cX12_reading 268 = .ok (.iload_n 2, 1) := by decide +kernel
theorem dX12_reading_269 : decode cX12_reading 269 = .ok (.aload_n 0, 1) := by decide +kernel
theorem dX12_reading_270 : decode cX12_reading 270 = .ok (.getfield 72, 3) := by decide +kernel
theorem dX12_reading_273 : decode cX12_reading 273 = .ok (.iconst 1, 1) := by decide +kernel
theorem dX12_reading_274 : decode cX12_reading 274 = .ok (.aaload, 1) := by decide +kernel
theorem dX12_reading_275 : decode cX12_reading 275 = .ok (.iload_n 2, 1) := by decide +kernel
theorem dX12_reading_276 : decode cX12_reading 276 = .ok (.iaload, 1) := by decide +kernel
theorem dX12_reading_277 : decode cX12_reading 277 = .ok (.iastore, 1) := by decide +kernel
theorem dX12_reading_278 : decode cX12_reading 278 = .ok (.aload_n 0, 1) := by decide +kernel
theorem dX12_reading_279 : decode cX12_reading 279 = .ok (.getfield 75, 3) := by decide +kernel
theorem dX12_reading_282 : decode cX12_reading 282 = .ok (.iconst 0, 1) := by decide +kernel
theorem dX12_reading_283 : decode cX12_reading 283 = .ok (.aaload, 1) := by decide +kernel
theorem dX12_reading_284 : decode cX12_reading 284 = .ok (.iload_n 2, 1) := by decide +kernel
theorem dX12_reading_285 : decode cX12_reading 285 = .ok (.aload_n 0, 1) := by decide +kernel
theorem dX12_reading_286 : decode cX12_reading 286 = .ok (.getfield 75, 3) := by decide +kernel
theorem dX12_reading_289 : decode cX12_reading 289 = .ok (.iconst 1, 1) := by decide +kernel
theorem dX12_reading_290 : decode cX12_reading 290 = .ok (.aaload, 1) := by decide +kernel
theorem dX12_reading_291 : decode cX12_reading 291 = .ok (.iload_n 2, 1) := by decide +kernel
theorem dX12_reading_292 : decode cX12_reading 292 = .ok (.iaload, 1) := by decide +kernel
theorem dX12_reading_293 : decode cX12_reading 293 = .ok (.iastore, 1) := by decide +kernel
theorem dX12_reading_294 : decode cX12_reading 294 = .ok (.aload_n 0, 1) := by decide +kernel
theorem dX12_reading_295 : decode cX12_reading 295 = .ok (.getfield 78, 3) := by decide +kernel
theorem dX12_reading_298 : decode cX12_reading 298 = .ok (.iconst 0, 1) := by decide +kernel
theorem dX12_reading_299 : decode cX12_reading 299 = .ok (.aaload, 1) := by decide +kernel
theorem dX12_reading_300 : decode cX12_reading 300 = .ok (.iload_n 2, 1) := by decide +kernel
theorem dX12_reading_301 : decode cX12_reading 301 = .ok (.aload_n 0, 1) := by decide +kernel
theorem dX12_reading_302 : decode cX12_reading 302 = .ok (.getfield 78, 3) := by decide +kernel
theorem dX12_reading_305 : decode cX12_reading 305 = .ok (.iconst 1, 1) := by decide +kernel
theorem dX12_reading_306 : decode cX12_reading 306 = .ok (.aaload, 1) := by decide +kernel
theorem dX12_reading_307 : decode cX12_reading 307 = .ok (.iload_n 2, 1) := by decide +kernel
theorem dX12_reading_308 : decode cX12_reading 308 = .ok (.iaload, 1) := by decide +kernel
theorem dX12_reading_309 : decode cX12_reading 309 = .ok (.iastore, 1) := by decide +kernel
theorem dX12_reading_310 : decode cX12_reading 310 = .ok (.iconst 0, 1) := by decide +kernel
theorem dX12_reading_311 : decode cX12_reading 311 = .ok (.istore_n 3, 1) := by decide +kernel
theorem dX12_reading_312 : decode cX12_reading 312 = .ok (.iload_n 3, 1) := by decide +kernel
theorem dX12_reading_313 : decode cX12_reading 313 = .ok (.aload_n 0, 1) := by decide +kernel
theorem dX12_reading_314 : decode cX12_reading 314 = .ok (.getfield 72, 3) := by decide +kernel
theorem dX12_reading_317 : decode cX12_reading 317 = .ok (.iconst 0, 1) := by decide +kernel
theorem dX12_reading_318 : decode cX12_reading 318 = .ok (.aaload, 1) := by decide +kernel
theorem dX12_reading_319 : decode cX12_reading 319 = .ok (.iload_n 2, 1) := by decide +kernel
theorem dX12_reading_320 : decode cX12_reading 320 = .ok (.iaload, 1) := by decide +kernel
theorem dX12_reading_321 : decode cX12_reading 321 = .ok (.if_icmp .ge 51, 3) := by decide +kernel
theorem dX12_reading_324 : decode cX12_reading 324 = .ok (.iconst 0, 1) := by decide +kernel
theorem dX12_reading_325 : decode cX12_reading 325 = .ok (.istore 4, 2) := by decide +kernel
theorem dX12_reading_327 : decode cX12_reading 327 = .ok (.iload 4, 2) := by decide +kernel
theorem dX12_reading_329 : decode cX12_reading 329 = .ok (.bipush 8, 2) := by decide +kernel
theorem dX12_reading_331 : decode cX12_reading 331 = .ok (.if_icmp .ge 35, 3) := by decide +kernel
theorem dX12_reading_334 : decode cX12_reading 334 = .ok (.aload_n 0, 1) := by decide +kernel
theorem dX12_reading_335 : decode cX12_reading 335 = .ok (.getfield 83, 3) := by decide +kernel
theorem dX12_reading_338 : decode cX12_reading 338 = .ok (.iconst 0, 1) := by decide +kernel
theorem dX12_reading_339 : decode cX12_reading 339 = .ok (.aaload, 1) := by decide +kernel
theorem dX12_reading_340 : decode cX12_reading 340 = .ok (.iload_n 2, 1) := by decide +kernel
theorem dX12_reading_341 : decode cX12_reading 341 = .ok (.aaload, 1) := by decide +kernel
theorem dX12_reading_342 : decode cX12_reading 342 = .ok (.iload_n 3, 1) := by decide +kernel
theorem dX12_reading_343 : decode cX12_reading 343 = .ok (.aaload, 1) := by decide +kernel
theorem dX12_reading_344 : decode cX12_reading 344 = .ok (.iload 4, 2) := by decide +kernel
theorem dX12_reading_346 : decode cX12_reading 346 = .ok (.aload_n 0, 1) := by decide +kernel
theorem dX12_reading_347 : decode cX12_reading 347 = .ok (.getfield 83, 3) := by decide +kernel
theorem dX12_reading_350 : decode cX12_reading 350 = .ok (.iconst 1, 1) := by decide +kernel
theorem dX12_reading_351 : decode cX12_reading 351 = .ok (.aaload, 1) := by decide +kernel
theorem dX12_reading_352 : decode cX12_reading 352 = .ok (.iload_n 2, 1) := by decide +kernel
theorem dX12_reading_353 : decode cX12_reading 353 = .ok (.aaload, 1) := by decide +kernel
theorem dX12_reading_354 : decode cX12_reading 354 = .ok (.iload_n 3, 1) := by decide +kernel
theorem dX12_reading_355 : decode cX12_reading 355 = .ok (.aaload, 1) := by decide +kernel
theorem dX12_reading_356 : decode cX12_reading 356 = .ok (.iload 4, 2) := by decide +kernel
theorem dX12_reading_358 : decode cX12_reading 358 = .ok (.iaload, 1) := by decide +kernel
theorem dX12_reading_359 : decode cX12_reading 359 = .ok (.iastore, 1) := by decide +kernel
theorem dX12_reading_360 : decode cX12_reading 360 = .ok (.iinc 4 1, 3) := by decide +kernel
theorem dX12_reading_363 : decode cX12_reading 363 = .ok (.goto (-36), 3) := by decide +kernel
theorem dX12_reading_366 : decode cX12_reading 366 = .ok (.iinc 3 1, 3) := by decide +kernel
theorem dX12_reading_369 : decode cX12_reading 369 = .ok (.goto (-57), 3) := by decide +kernel
theorem dX12_reading_372 : decode cX12_reading 372 = .ok (.iinc 2 1, 3) := by decide +kernel
theorem dX12_reading_375 : decode cX12_reading 375 = .ok (.goto (-123), 3) := by decide +kernel
theorem dX12_reading_378 : decode cX12_reading 378 = .ok (.aload_n 0, 1) := by decide +kernel
theorem dX12_reading_379 : decode cX12_reading 379 = .ok (.aload_n 0, 1) := by decide +kernel
theorem dX12_reading_380 : decode cX12_reading 380 = .ok (.getfield 66, 3) := by decide +kernel
theorem dX12_reading_383 : decode cX12_reading 383 = .ok (.iconst 0, 1) := by decide +kernel
theorem dX12_reading_384 : decode cX12_reading 384 = .ok (.iaload, 1) := by decide +kernel
theorem dX12_reading_385 : decode cX12_reading 385 = .ok (.invokevirtual 263, 3) := by decide +kernel
theorem dX12_reading_388 : decode cX12_reading 388 = .ok (.ireturn, 1) := by decide +kernel
theorem dX12_fault_0 : decode cX12_fault 0 = .ok (.aload_n 0, 1) := by decide +kernel
theorem dX12_fault_1 : decode cX12_fault 1 = .ok (.iconst 0, 1) := by decide +kernel
theorem dX12_fault_2 : decode cX12_fault 2 = .ok (.putfield 180, 3) := by decide +kernel
theorem dX12_fault_5 : decode cX12_fault 5 = .ok (.aload_n 0, 1) := by decide +kernel
theorem dX12_fault_6 : decode cX12_fault 6 = .ok (.getfield 13, 3) := by decide +kernel
theorem dX12_fault_9 : decode cX12_fault 9 = .ok (.ireturn, 1) := by decide +kernel
theorem dX12_set_0 : decode cX12_set 0 = .ok (.aload_n 0, 1) := by decide +kernel
theorem dX12_set_1 : decode cX12_set 1 = .ok (.iconst 0, 1) := by decide +kernel
theorem dX12_set_2 : decode cX12_set 2 = .ok (.putfield 180, 3) := by decide +kernel
theorem dX12_set_5 : decode cX12_set 5 = .ok (.aload_n 0, 1) := by decide +kernel
theorem dX12_set_6 : decode cX12_set 6 = .ok (.iload_n 1, 1) := by decide +kernel
theorem dX12_set_7 : decode cX12_set 7 = .ok (.iconst 0, 1) := by decide +kernel
theorem dX12_set_8 : decode cX12_set 8 = .ok (.bipush 6, 2) := by decide +kernel
theorem dX12_set_10 : decode cX12_set 10 = .ok (.invokestatic 223, 3) := by decide +kernel
theorem dX12_set_13 : decode cX12_set 13 = .ok (.ifCond .eq 23, 3) := by decide +kernel
theorem dX12_set_16 : decode cX12_set 16 = .ok (.iload_n 2, 1) := by decide +kernel
theorem dX12_set_17 : decode cX12_set 17 = .ok (.iconst 0, 1) := by decide +kernel
theorem dX12_set_18 : decode cX12_set 18 = .ok (.iload_n 1, 1) := by decide +kernel
theorem dX12_set_19 : decode cX12_set 19 = .ok (.ifCond .ne 9, 3) := by decide +kernel
theorem dX12_set_22 : decode cX12_set 22 = .ok (.sipush 999, 3) := by decide +kernel
theorem dX12_set_25 : decode cX12_set 25 = .ok (.goto 5, 3) := by decide +kernel
theorem dX12_set_28 : decode cX12_set 28 = .ok (.bipush 99, 2) := by decide +kernel
theorem dX12_set_30 : decode cX12_set 30 = .ok (.invokestatic 223, 3) := by decide +kernel
theorem dX12_set_33 : decode cX12_set 33 = .ok (.ifCond .ne 7, 3) := by decide +kernel
theorem dX12_set_36 : decode cX12_set 36 = .ok (.iconst 1, 1) := by decide +kernel
theorem dX12_set_37 : decode cX12_set 37 = .ok (.goto 4, 3) := by decide +kernel
theorem dX12_set_40 : decode cX12_set 40 = .ok (.iconst 0, 1) := by decide +kernel
theorem dX12_set_41 : decode cX12_set 41 = .ok (.iconst 1, 1) := by decide +kernel
theorem dX12_set_42 : decode cX12_set 42 = .ok (.iconst 1, 1) := by decide +kernel
theorem dX12_set_43 : decode cX12_set 43 = .ok (.invokevirtual 249, 3) := by decide +kernel
theorem dX12_set_46 : decode cX12_set 46 = .ok (.ifCond .eq 5, 3) := by decide +kernel
theorem dX12_set_49 : decode cX12_set 49 = .ok (.iconst 0, 1) := by decide +kernel
theorem dX12_set_50 : decode cX12_set 50 = .ok (.ireturn, 1) := by decide +kernel
theorem dX12_set_51 : decode cX12_set 51 = .ok (.aload_n 0, 1) := by decide +kernel
theorem dX12_set_52 : decode cX12_set 52 = .ok (.getfield 20, 3) := by decide +kernel
theorem dX12_set_55 : decode cX12_set 55 = .ok (.iload_n 1, 1) := by decide +kernel
theorem dX12_set_56 : decode cX12_set 56 = .ok (.iaload, 1) := by decide +kernel
theorem dX12_set_57 : decode cX12_set 57 = .ok (.istore_n 3, 1) := by decide +kernel
theorem dX12_set_58 : decode cX12_set 58 = .ok (.aload_n 0, 1) := by decide +kernel
theorem dX12_set_59 : decode cX12_set 59 = .ok (.getfield 20, 3) := by decide +kernel
theorem dX12_set_62 : decode cX12_set 62 = .ok (.iload_n 1, 1) := by decide +kernel
theorem dX12_set_63 : decode cX12_set 63 = .ok (.iload_n 2, 1) := by decide +kernel
theorem dX12_set_64 : decode cX12_set 64 = .ok (.iastore, 1) := by decide +kernel
theorem dX12_set_65 : decode cX12_set 65 = .ok (.iload_n 3, 1) := by decide +kernel
theorem dX12_set_66 : decode cX12_set 66 = .ok (.ireturn, 1) := by decide +kernel
theorem dX12_isWord_0 : decode cX12_isWord 0 = .ok (.iload_n 1, 1) := by decide +kernel
theorem dX12_isWord_1 : decode cX12_isWord 1 = .ok (.iconst 0, 1) := by decide +kernel
theorem dX12_isWord_2 : decode cX12_isWord 2 = .ok (.aload_n 0, 1) := by decide +kernel
theorem dX12_isWord_3 : decode cX12_isWord 3 = .ok (.getfield 257, 3) := by decide +kernel
theorem dX12_isWord_6 : decode cX12_isWord 6 = .ok (.iconst 1, 1) := by decide +kernel
theorem dX12_isWord_7 : decode cX12_isWord 7 = .ok (.isub, 1) := by decide +kernel
theorem dX12_isWord_8 : decode cX12_isWord 8 = .ok (.invokestatic 223, 3) := by decide +kernel
theorem dX12_isWord_11 : decode cX12_isWord 11 = .ok (.ireturn, 1) := by decide +kernel
theorem dX12_weigh_0 : decode cX12_weigh 0 = .ok (.aload_n 0, 1) := by decide +kernel
theorem dX12_weigh_1 : decode cX12_weigh 1 = .ok (.iconst 0, 1) := by decide +kernel
theorem dX12_weigh_2 : decode cX12_weigh 2 = .ok (.putfield 180, 3) := by decide +kernel
theorem dX12_weigh_5 : decode cX12_weigh 5 = .ok (.aload_n 0, 1) := by decide +kernel
theorem dX12_weigh_6 : decode cX12_weigh 6 = .ok (.aload_n 0, 1) := by decide +kernel
theorem dX12_weigh_7 : decode cX12_weigh 7 = .ok (.iload_n 1, 1) := by decide +kernel
theorem dX12_weigh_8 : decode cX12_weigh 8 = .ok (.invokevirtual 282, 3) := by decide +kernel
theorem dX12_weigh_11 : decode cX12_weigh 11 = .ok (.ifCond .ne 7, 3) := by decide +kernel
theorem dX12_weigh_14 : decode cX12_weigh 14 = .ok (.iconst 1, 1) := by decide +kernel
theorem dX12_weigh_15 : decode cX12_weigh 15 = .ok (.goto 4, 3) := by decide +kernel
theorem dX12_weigh_18 : decode cX12_weigh 18 = .ok (.iconst 0, 1) := by decide +kernel
theorem dX12_weigh_19 : decode cX12_weigh 19 = .ok (.iconst 1, 1) := by decide +kernel
theorem dX12_weigh_20 : decode cX12_weigh 20 = .ok (.iconst 0, 1) := by decide +kernel
theorem dX12_weigh_21 : decode cX12_weigh 21 = .ok (.invokevirtual 249, 3) := by decide +kernel
theorem dX12_weigh_24 : decode cX12_weigh 24 = .ok (.ifCond .ne 27, 3) := by decide +kernel
theorem dX12_weigh_27 : decode cX12_weigh 27 = .ok (.aload_n 0, 1) := by decide +kernel
theorem dX12_weigh_28 : decode cX12_weigh 28 = .ok (.iload_n 2, 1) := by decide +kernel
theorem dX12_weigh_29 : decode cX12_weigh 29 = .ok (.iconst 0, 1) := by decide +kernel
theorem dX12_weigh_30 : decode cX12_weigh 30 = .ok (.bipush 99, 2) := by decide +kernel
theorem dX12_weigh_32 : decode cX12_weigh 32 = .ok (.invokestatic 223, 3) := by decide +kernel
theorem dX12_weigh_35 : decode cX12_weigh 35 = .ok (.ifCond .ne 7, 3) := by decide +kernel
theorem dX12_weigh_38 : decode cX12_weigh 38 = .ok (.iconst 1, 1) := by decide +kernel
theorem dX12_weigh_39 : decode cX12_weigh 39 = .ok (.goto 4, 3) := by decide +kernel
theorem dX12_weigh_42 : decode cX12_weigh 42 = .ok (.iconst 0, 1) := by decide +kernel
theorem dX12_weigh_43 : decode cX12_weigh 43 = .ok (.iconst 2, 1) := by decide +kernel
theorem dX12_weigh_44 : decode cX12_weigh 44 = .ok (.iconst 1, 1) := by decide +kernel
theorem dX12_weigh_45 : decode cX12_weigh 45 = .ok (.invokevirtual 249, 3) := by decide +kernel
theorem dX12_weigh_48 : decode cX12_weigh 48 = .ok (.ifCond .eq 5, 3) := by decide +kernel
theorem dX12_weigh_51 : decode cX12_weigh 51 = .ok (.iconst 0, 1) := by decide +kernel
theorem dX12_weigh_52 : decode cX12_weigh 52 = .ok (.ireturn, 1) := by decide +kernel
theorem dX12_weigh_53 : decode cX12_weigh 53 = .ok (.aload_n 0, 1) := by decide +kernel
theorem dX12_weigh_54 : decode cX12_weigh 54 = .ok (.getfield 31, 3) := by decide +kernel
theorem dX12_weigh_57 : decode cX12_weigh 57 = .ok (.iload_n 1, 1) := by decide +kernel
theorem dX12_weigh_58 : decode cX12_weigh 58 = .ok (.iaload, 1) := by decide +kernel
theorem dX12_weigh_59 : decode cX12_weigh 59 = .ok (.istore_n 3, 1) := by decide +kernel
theorem dX12_weigh_60 : decode cX12_weigh 60 = .ok (.aload_n 0, 1) := by decide +kernel
theorem dX12_weigh_61 : decode cX12_weigh 61 = .ok (.getfield 31, 3) := by decide +kernel
theorem dX12_weigh_64 : decode cX12_weigh 64 = .ok (.iload_n 1, 1) := by decide +kernel
theorem dX12_weigh_65 : decode cX12_weigh 65 = .ok (.iload_n 2, 1) := by decide +kernel
theorem dX12_weigh_66 : decode cX12_weigh 66 = .ok (.iastore, 1) := by decide +kernel
theorem dX12_weigh_67 : decode cX12_weigh 67 = .ok (.aload_n 0, 1) := by decide +kernel
theorem dX12_weigh_68 : decode cX12_weigh 68 = .ok (.invokevirtual 269, 3) := by decide +kernel
theorem dX12_weigh_71 : decode cX12_weigh 71 = .ok (.iload_n 3, 1) := by decide +kernel
theorem dX12_weigh_72 : decode cX12_weigh 72 = .ok (.ireturn, 1) := by decide +kernel
theorem dX12_edge_0 : decode cX12_edge 0 = .ok (.aload_n 0, 1) := by decide +kernel
theorem dX12_edge_1 : decode cX12_edge 1 = .ok (.getfield 101, 3) := by decide +kernel
theorem dX12_edge_4 : decode cX12_edge 4 = .ok (.iload_n 1, 1) := by decide +kernel
theorem dX12_edge_5 : decode cX12_edge 5 = .ok (.aaload, 1) := by decide +kernel
theorem dX12_edge_6 : decode cX12_edge 6 = .ok (.aload_n 0, 1) := by decide +kernel
theorem dX12_edge_7 : decode cX12_edge 7 = .ok (.getfield 95, 3) := by decide +kernel
theorem dX12_edge_10 : decode cX12_edge 10 = .ok (.iload_n 1, 1) := by decide +kernel
theorem dX12_edge_11 : decode cX12_edge 11 = .ok (.iaload, 1) := by decide +kernel
theorem dX12_edge_12 : decode cX12_edge 12 = .ok (.aaload, 1) := by decide +kernel
theorem dX12_edge_13 : decode cX12_edge 13 = .ok (.astore 9, 2) := by decide +kernel
theorem dX12_edge_15 : decode cX12_edge 15 = .ok (.aload 9, 2) := by decide +kernel
theorem dX12_edge_17 : decode cX12_edge 17 = .ok (.iconst 0, 1) := by decide +kernel
theorem dX12_edge_18 : decode cX12_edge 18 = .ok (.iload_n 2, 1) := by decide +kernel
theorem dX12_edge_19 : decode cX12_edge 19 = .ok (.iastore, 1) := by decide +kernel
theorem dX12_edge_20 : decode cX12_edge 20 = .ok (.aload 9, 2) := by decide +kernel
theorem dX12_edge_22 : decode cX12_edge 22 = .ok (.iconst 1, 1) := by decide +kernel
theorem dX12_edge_23 : decode cX12_edge 23 = .ok (.iload_n 3, 1) := by decide +kernel
theorem dX12_edge_24 : decode cX12_edge 24 = .ok (.iastore, 1) := by decide +kernel
theorem dX12_edge_25 : decode cX12_edge 25 = .ok (.aload 9, 2) := by decide +kernel
theorem dX12_edge_27 : decode cX12_edge 27 = .ok (.iconst 2, 1) := by decide +kernel
theorem dX12_edge_28 : decode cX12_edge 28 = .ok (.iload 4, 2) := by decide +kernel
theorem dX12_edge_30 : decode cX12_edge 30 = .ok (.iastore, 1) := by decide +kernel
theorem dX12_edge_31 : decode cX12_edge 31 = .ok (.aload 9, 2) := by decide +kernel
theorem dX12_edge_33 : decode cX12_edge 33 = .ok (.iconst 3, 1) := by decide +kernel
theorem dX12_edge_34 : decode cX12_edge 34 = .ok (.iload 5, 2) := by decide +kernel
theorem dX12_edge_36 : decode cX12_edge 36 = .ok (.iastore, 1) := by decide +kernel
theorem dX12_edge_37 : decode cX12_edge 37 = .ok (.aload 9, 2) := by decide +kernel
theorem dX12_edge_39 : decode cX12_edge 39 = .ok (.iconst 4, 1) := by decide +kernel
theorem dX12_edge_40 : decode cX12_edge 40 = .ok (.iload 6, 2) := by decide +kernel
theorem dX12_edge_42 : decode cX12_edge 42 = .ok (.iastore, 1) := by decide +kernel
theorem dX12_edge_43 : decode cX12_edge 43 = .ok (.aload 9, 2) := by decide +kernel
theorem dX12_edge_45 : decode cX12_edge 45 = .ok (.iconst 5, 1) := by decide +kernel
theorem dX12_edge_46 : decode cX12_edge 46 = .ok (.iload 7, 2) := by decide +kernel
theorem dX12_edge_48 : decode cX12_edge 48 = .ok (.iastore, 1) := by decide +kernel
theorem dX12_edge_49 : decode cX12_edge 49 = .ok (.aload 9, 2) := by decide +kernel
theorem dX12_edge_51 : decode cX12_edge 51 = .ok (.bipush 6, 2) := by decide +kernel
theorem dX12_edge_53 : decode cX12_edge 53 = .ok (.iload 8, 2) := by decide +kernel
theorem dX12_edge_55 : decode cX12_edge 55 = .ok (.iastore, 1) := by decide +kernel
theorem dX12_edge_56 : decode cX12_edge 56 = .ok (.aload_n 0, 1) := by decide +kernel
theorem dX12_edge_57 : decode cX12_edge 57 = .ok (.getfield 95, 3) := by decide +kernel
theorem dX12_edge_60 : decode cX12_edge 60 = .ok (.iload_n 1, 1) := by decide +kernel
theorem dX12_edge_61 : decode cX12_edge 61 = .ok (.dup2, 1) := by decide +kernel
theorem dX12_edge_62 : decode cX12_edge 62 = .ok (.iaload, 1) := by decide +kernel
theorem dX12_edge_63 : decode cX12_edge 63 = .ok (.iconst 1, 1) := by decide +kernel
theorem dX12_edge_64 : decode cX12_edge 64 = .ok (.iadd, 1) := by decide +kernel
theorem dX12_edge_65 : decode cX12_edge 65 = .ok (.iastore, 1) := by decide +kernel
theorem dX12_edge_66 : decode cX12_edge 66 = .ok (.return_, 1) := by decide +kernel
theorem dX12_isShapeAt_0 : decode cX12_isShapeAt 0 = .ok (.aload_n 0, 1) := by decide +kernel
theorem dX12_isShapeAt_1 : decode cX12_isShapeAt 1 = .ok (.getfield 63, 3) := by decide +kernel
theorem dX12_isShapeAt_4 : decode cX12_isShapeAt 4 = .ok (.iconst 0, 1) := by decide +kernel
theorem dX12_isShapeAt_5 : decode cX12_isShapeAt 5 = .ok (.aaload, 1) := by decide +kernel
theorem dX12_isShapeAt_6 : decode cX12_isShapeAt 6 = .ok (.iload_n 1, 1) := by decide +kernel
theorem dX12_isShapeAt_7 : decode cX12_isShapeAt 7 = .ok (.aaload, 1) := by decide +kernel
theorem dX12_isShapeAt_8 : decode cX12_isShapeAt 8 = .ok (.iconst 1, 1) := by decide +kernel
theorem dX12_isShapeAt_9 : decode cX12_isShapeAt 9 = .ok (.iaload, 1) := by decide +kernel
theorem dX12_isShapeAt_10 : decode cX12_isShapeAt 10 = .ok (.istore_n 3, 1) := by decide +kernel
theorem dX12_isShapeAt_11 : decode cX12_isShapeAt 11 = .ok (.iload_n 2, 1) := by decide +kernel
theorem dX12_isShapeAt_12 : decode cX12_isShapeAt 12 = .ok (.iload_n 3, 1) := by decide +kernel
theorem dX12_isShapeAt_13 : decode cX12_isShapeAt 13 = .ok (.iadd, 1) := by decide +kernel
theorem dX12_isShapeAt_14 : decode cX12_isShapeAt 14 = .ok (.aload_n 0, 1) := by decide +kernel
theorem dX12_isShapeAt_15 : decode cX12_isShapeAt 15 = .ok (.getfield 314, 3) := by decide +kernel
theorem dX12_isShapeAt_18 : decode cX12_isShapeAt 18 = .ok (.if_icmp .le 5, 3) := by decide +kernel
theorem dX12_isShapeAt_21 : decode cX12_isShapeAt 21 = .ok (.iconst 0, 1) := by decide +kernel
theorem dX12_isShapeAt_22 : decode cX12_isShapeAt 22 = .ok (.ireturn, 1) := by decide +kernel
theorem dX12_isShapeAt_23 : decode cX12_isShapeAt 23 = .ok (.iconst 0, 1) := by decide +kernel
theorem dX12_isShapeAt_24 : decode cX12_isShapeAt 24 = .ok (.istore 4, 2) := by decide +kernel
theorem dX12_isShapeAt_26 : decode cX12_isShapeAt 26 = .ok (.iload 4, 2) := by decide +kernel
theorem dX12_isShapeAt_28 : decode cX12_isShapeAt 28 = .ok (.iload_n 3, 1) := by decide +kernel
theorem dX12_isShapeAt_29 : decode cX12_isShapeAt 29 = .ok (.if_icmp .ge 36, 3) := by decide +kernel
theorem dX12_isShapeAt_32 : decode cX12_isShapeAt 32 = .ok (.aload_n 0, 1) := by decide +kernel
theorem dX12_isShapeAt_33 : decode cX12_isShapeAt 33 = .ok (.getfield 92, 3) := by decide +kernel
theorem dX12_isShapeAt_36 : decode cX12_isShapeAt 36 = .ok (.iload_n 2, 1) := by decide +kernel
theorem dX12_isShapeAt_37 : decode cX12_isShapeAt 37 = .ok (.iload 4, 2) := by decide +kernel
theorem dX12_isShapeAt_39 : decode cX12_isShapeAt 39 = .ok (.iadd, 1) := by decide +kernel
theorem dX12_isShapeAt_40 : decode cX12_isShapeAt 40 = .ok (.aaload, 1) := by decide +kernel
theorem dX12_isShapeAt_41 : decode cX12_isShapeAt 41 = .ok (.iconst 0, 1) := by decide +kernel
theorem dX12_isShapeAt_42 : decode cX12_isShapeAt 42 = .ok (.iaload, 1) := by decide +kernel
theorem dX12_isShapeAt_43 : decode cX12_isShapeAt 43 = .ok (.aload_n 0, 1) := by decide +kernel
theorem dX12_isShapeAt_44 : decode cX12_isShapeAt 44 = .ok (.getfield 60, 3) := by decide +kernel
theorem dX12_isShapeAt_47 : decode cX12_isShapeAt 47 = .ok (.iconst 0, 1) := by decide +kernel
theorem dX12_isShapeAt_48 : decode cX12_isShapeAt 48 = .ok (.aaload, 1) := by decide +kernel
theorem dX12_isShapeAt_49 : decode cX12_isShapeAt 49 = .ok (.iload_n 1, 1) := by decide +kernel
theorem dX12_isShapeAt_50 : decode cX12_isShapeAt 50 = .ok (.aaload, 1) := by decide +kernel
theorem dX12_isShapeAt_51 : decode cX12_isShapeAt 51 = .ok (.iload 4, 2) := by decide +kernel
theorem dX12_isShapeAt_53 : decode cX12_isShapeAt 53 = .ok (.iaload, 1) := by decide +kernel
theorem dX12_isShapeAt_54 : decode cX12_isShapeAt 54 = .ok (.if_icmp .eq 5, 3) := by decide +kernel
theorem dX12_isShapeAt_57 : decode cX12_isShapeAt 57 = .ok (.iconst 0, 1) := by decide +kernel
theorem dX12_isShapeAt_58 : decode cX12_isShapeAt 58 = .ok (.ireturn, 1) := by decide +kernel
theorem dX12_isShapeAt_59 : decode cX12_isShapeAt 59 = .ok (.iinc 4 1, 3) := by decide +kernel
theorem dX12_isShapeAt_62 : decode cX12_isShapeAt 62 = .ok (.goto (-36), 3) := by decide +kernel
theorem dX12_isShapeAt_65 : decode cX12_isShapeAt 65 = .ok (.iconst 1, 1) := by decide +kernel
theorem dX12_isShapeAt_66 : decode cX12_isShapeAt 66 = .ok (.ireturn, 1) := by decide +kernel
theorem dX12_laysEdges_0 : decode cX12_laysEdges 0 = .ok (.aload_n 0, 1) := by decide +kernel
theorem dX12_laysEdges_1 : decode cX12_laysEdges 1 = .ok (.getfield 92, 3) := by decide +kernel
theorem dX12_laysEdges_4 : decode cX12_laysEdges 4 = .ok (.iload_n 1, 1) := by decide +kernel
theorem dX12_laysEdges_5 : decode cX12_laysEdges 5 = .ok (.aaload, 1) := by decide +kernel
theorem dX12_laysEdges_6 : decode cX12_laysEdges 6 = .ok (.astore_n 2, 1) := by decide +kernel
theorem dX12_laysEdges_7 : decode cX12_laysEdges 7 = .ok (.aload_n 0, 1) := by decide +kernel
theorem dX12_laysEdges_8 : decode cX12_laysEdges 8 = .ok (.getfield 95, 3) := by decide +kernel
theorem dX12_laysEdges_11 : decode cX12_laysEdges 11 = .ok (.iload_n 1, 1) := by decide +kernel
theorem dX12_laysEdges_12 : decode cX12_laysEdges 12 = .ok (.iconst 0, 1) := by decide +kernel
theorem dX12_laysEdges_13 : decode cX12_laysEdges 13 = .ok (.iastore, 1) := by decide +kernel
theorem dX12_laysEdges_14 : decode cX12_laysEdges 14 = .ok (.aload_n 2, 1) := by decide +kernel
theorem dX12_laysEdges_15 : decode cX12_laysEdges 15 = .ok (.iconst 0, 1) := by decide +kernel
theorem dX12_laysEdges_16 : decode cX12_laysEdges 16 = .ok (.iaload, 1) := by decide +kernel
theorem dX12_laysEdges_17 : decode cX12_laysEdges 17 = .ok (.invokestatic 230, 3) := by decide +kernel
theorem dX12_laysEdges_20 : decode cX12_laysEdges 20 = .ok (.ifCond .eq 19, 3) := by decide +kernel
theorem dX12_laysEdges_23 : decode cX12_laysEdges 23 = .ok (.aload_n 0, 1) := by decide +kernel
theorem dX12_laysEdges_24 : decode cX12_laysEdges 24 = .ok (.iload_n 1, 1) := by decide +kernel
theorem dX12_laysEdges_25 : decode cX12_laysEdges 25 = .ok (.iload_n 1, 1) := by decide +kernel
theorem dX12_laysEdges_26 : decode cX12_laysEdges 26 = .ok (.iconst 1, 1) := by decide +kernel
theorem dX12_laysEdges_27 : decode cX12_laysEdges 27 = .ok (.iadd, 1) := by decide +kernel
theorem dX12_laysEdges_28 : decode cX12_laysEdges 28 = .ok (.iconst 0, 1) := by decide +kernel
theorem dX12_laysEdges_29 : decode cX12_laysEdges 29 = .ok (.iconst 1, 1) := by decide +kernel
theorem dX12_laysEdges_30 : decode cX12_laysEdges 30 = .ok (.aload_n 2, 1) := by decide +kernel
theorem dX12_laysEdges_31 : decode cX12_laysEdges 31 = .ok (.iconst 0, 1) := by decide +kernel
theorem dX12_laysEdges_32 : decode cX12_laysEdges 32 = .ok (.iaload, 1) := by decide +kernel
theorem dX12_laysEdges_33 : decode cX12_laysEdges 33 = .ok (.iconst 0, 1) := by decide +kernel
theorem dX12_laysEdges_34 : decode cX12_laysEdges 34 = .ok (.iconst 0, 1) := by decide +kernel
theorem dX12_laysEdges_35 : decode cX12_laysEdges 35 = .ok (.iconst (-1), 1) := by decide +kernel
theorem dX12_laysEdges_36 : decode cX12_laysEdges 36 = .ok (.invokevirtual 317, 3) := by decide +kernel
theorem dX12_laysEdges_39 : decode cX12_laysEdges 39 = .ok (.iconst 0, 1) := by decide +kernel
theorem dX12_laysEdges_40 : decode cX12_laysEdges 40 = .ok (.istore_n 3, 1) := by decide +kernel
theorem dX12_laysEdges_41 : decode cX12_laysEdges 41 = .ok (.iload_n 3, 1) := by decide +kernel
theorem dX12_laysEdges_42 : decode cX12_laysEdges 42 = .ok (.aload_n 2, 1) := by decide +kernel
theorem dX12_laysEdges_43 : decode cX12_laysEdges 43 = .ok (.iconst 1, 1) := by decide +kernel
theorem dX12_laysEdges_44 : decode cX12_laysEdges 44 = .ok (.iaload, 1) := by decide +kernel
theorem dX12_laysEdges_45 : decode cX12_laysEdges 45 = .ok (.if_icmp .ge 35, 3) := by decide +kernel
theorem dX12_laysEdges_48 : decode cX12_laysEdges 48 = .ok (.aload_n 0, 1) := by decide +kernel
theorem dX12_laysEdges_49 : decode cX12_laysEdges 49 = .ok (.iload_n 1, 1) := by decide +kernel
theorem dX12_laysEdges_50 : decode cX12_laysEdges 50 = .ok (.iload_n 1, 1) := by decide +kernel
theorem dX12_laysEdges_51 : decode cX12_laysEdges 51 = .ok (.iconst 1, 1) := by decide +kernel
theorem dX12_laysEdges_52 : decode cX12_laysEdges 52 = .ok (.iadd, 1) := by decide +kernel
theorem dX12_laysEdges_53 : decode cX12_laysEdges 53 = .ok (.aload_n 2, 1) := by decide +kernel
theorem dX12_laysEdges_54 : decode cX12_laysEdges 54 = .ok (.iconst 3, 1) := by decide +kernel
theorem dX12_laysEdges_55 : decode cX12_laysEdges 55 = .ok (.iconst 2, 1) := by decide +kernel
theorem dX12_laysEdges_56 : decode cX12_laysEdges 56 = .ok (.iload_n 3, 1) := by decide +kernel
theorem dX12_laysEdges_57 : decode cX12_laysEdges 57 = .ok (.imul, 1) := by decide +kernel
theorem dX12_laysEdges_58 : decode cX12_laysEdges 58 = .ok (.iadd, 1) := by decide +kernel
theorem dX12_laysEdges_59 : decode cX12_laysEdges 59 = .ok (.iaload, 1) := by decide +kernel
theorem dX12_laysEdges_60 : decode cX12_laysEdges 60 = .ok (.iconst 1, 1) := by decide +kernel
theorem dX12_laysEdges_61 : decode cX12_laysEdges 61 = .ok (.aload_n 2, 1) := by decide +kernel
theorem dX12_laysEdges_62 : decode cX12_laysEdges 62 = .ok (.iconst 2, 1) := by decide +kernel
theorem dX12_laysEdges_63 : decode cX12_laysEdges 63 = .ok (.iconst 2, 1) := by decide +kernel
theorem dX12_laysEdges_64 : decode cX12_laysEdges 64 = .ok (.iload_n 3, 1) := by decide +kernel
theorem dX12_laysEdges_65 : decode cX12_laysEdges 65 = .ok (.imul, 1) := by decide +kernel
theorem dX12_laysEdges_66 : decode cX12_laysEdges 66 = .ok (.iadd, 1) := by decide +kernel
theorem dX12_laysEdges_67 : decode cX12_laysEdges 67 = .ok (.iaload, 1) := by decide +kernel
theorem dX12_laysEdges_68 : decode cX12_laysEdges 68 = .ok (.iconst 0, 1) := by decide +kernel
theorem dX12_laysEdges_69 : decode cX12_laysEdges 69 = .ok (.iconst 0, 1) := by decide +kernel
theorem dX12_laysEdges_70 : decode cX12_laysEdges 70 = .ok (.iconst (-1), 1) := by decide +kernel
theorem dX12_laysEdges_71 : decode cX12_laysEdges 71 = .ok (.invokevirtual 317, 3) := by decide +kernel
theorem dX12_laysEdges_74 : decode cX12_laysEdges 74 = .ok (.iinc 3 1, 3) := by decide +kernel
theorem dX12_laysEdges_77 : decode cX12_laysEdges 77 = .ok (.goto (-36), 3) := by decide +kernel
theorem dX12_laysEdges_80 : decode cX12_laysEdges 80 = .ok (.bipush 97, 2) := by decide +kernel
theorem dX12_laysEdges_82 : decode cX12_laysEdges 82 = .ok (.istore_n 3, 1) := by decide +kernel
theorem dX12_laysEdges_83 : decode cX12_laysEdges 83 = .ok (.iload_n 3, 1) := by decide +kernel
theorem dX12_laysEdges_84 : decode cX12_laysEdges 84 = .ok (.bipush 122, 2) := by decide +kernel
theorem dX12_laysEdges_86 : decode cX12_laysEdges 86 = .ok (.if_icmp .gt 36, 3) := by decide +kernel
theorem dX12_laysEdges_89 : decode cX12_laysEdges 89 = .ok (.aload_n 2, 1) := by decide +kernel
theorem dX12_laysEdges_90 : decode cX12_laysEdges 90 = .ok (.iconst 0, 1) := by decide +kernel
theorem dX12_laysEdges_91 : decode cX12_laysEdges 91 = .ok (.iaload, 1) := by decide +kernel
theorem dX12_laysEdges_92 : decode cX12_laysEdges 92 = .ok (.bipush 63, 2) := by decide +kernel
theorem dX12_laysEdges_94 : decode cX12_laysEdges 94 = .ok (.if_icmp .ne 28, 3) := by decide +kernel
theorem dX12_laysEdges_97 : decode cX12_laysEdges 97 = .ok (.aload_n 0, 1) := by decide +kernel
theorem dX12_laysEdges_98 : decode cX12_laysEdges 98 = .ok (.iload_n 1, 1) := by decide +kernel
theorem dX12_laysEdges_99 : decode cX12_laysEdges 99 = .ok (.iload_n 1, 1) := by decide +kernel
theorem dX12_laysEdges_100 : decode cX12_laysEdges 100 = .ok (.iconst 1, 1) := by decide +kernel
theorem dX12_laysEdges_101 : decode cX12_laysEdges 101 = .ok (.iadd, 1) := by decide +kernel
theorem dX12_laysEdges_102 : decode cX12_laysEdges 102 = .ok (.aload_n 0, 1) := by decide +kernel
theorem dX12_laysEdges_103 : decode cX12_laysEdges 103 = .ok (.getfield 20, 3) := by decide +kernel
theorem dX12_laysEdges_106 : decode cX12_laysEdges 106 = .ok (.iconst 2, 1) := by decide +kernel
theorem dX12_laysEdges_107 : decode cX12_laysEdges 107 = .ok (.iaload, 1) := by decide +kernel
theorem dX12_laysEdges_108 : decode cX12_laysEdges 108 = .ok (.iconst 1, 1) := by decide +kernel
theorem dX12_laysEdges_109 : decode cX12_laysEdges 109 = .ok (.iload_n 3, 1) := by decide +kernel
theorem dX12_laysEdges_110 : decode cX12_laysEdges 110 = .ok (.iconst 0, 1) := by decide +kernel
theorem dX12_laysEdges_111 : decode cX12_laysEdges 111 = .ok (.iconst 0, 1) := by decide +kernel
theorem dX12_laysEdges_112 : decode cX12_laysEdges 112 = .ok (.iconst (-1), 1) := by decide +kernel
theorem dX12_laysEdges_113 : decode cX12_laysEdges 113 = .ok (.invokevirtual 317, 3) := by decide +kernel
theorem dX12_laysEdges_116 : decode cX12_laysEdges 116 = .ok (.iinc 3 1, 3) := by decide +kernel
theorem dX12_laysEdges_119 : decode cX12_laysEdges 119 = .ok (.goto (-36), 3) := by decide +kernel
theorem dX12_laysEdges_122 : decode cX12_laysEdges 122 = .ok (.aload_n 2, 1) := by decide +kernel
theorem dX12_laysEdges_123 : decode cX12_laysEdges 123 = .ok (.iconst 0, 1) := by decide +kernel
theorem dX12_laysEdges_124 : decode cX12_laysEdges 124 = .ok (.iaload, 1) := by decide +kernel
theorem dX12_laysEdges_125 : decode cX12_laysEdges 125 = .ok (.bipush 45, 2) := by decide +kernel
theorem dX12_laysEdges_127 : decode cX12_laysEdges 127 = .ok (.if_icmp .ne 37, 3) := by decide +kernel
theorem dX12_laysEdges_130 : decode cX12_laysEdges 130 = .ok (.aload_n 0, 1) := by decide +kernel
theorem dX12_laysEdges_131 : decode cX12_laysEdges 131 = .ok (.iload_n 1, 1) := by decide +kernel
theorem dX12_laysEdges_132 : decode cX12_laysEdges 132 = .ok (.iload_n 1, 1) := by decide +kernel
theorem dX12_laysEdges_133 : decode cX12_laysEdges 133 = .ok (.iconst 1, 1) := by decide +kernel
theorem dX12_laysEdges_134 : decode cX12_laysEdges 134 = .ok (.iadd, 1) := by decide +kernel
theorem dX12_laysEdges_135 : decode cX12_laysEdges 135 = .ok (.iconst 0, 1) := by decide +kernel
theorem dX12_laysEdges_136 : decode cX12_laysEdges 136 = .ok (.iconst 1, 1) := by decide +kernel
theorem dX12_laysEdges_137 : decode cX12_laysEdges 137 = .ok (.bipush 45, 2) := by decide +kernel
theorem dX12_laysEdges_139 : decode cX12_laysEdges 139 = .ok (.iconst 0, 1) := by decide +kernel
theorem dX12_laysEdges_140 : decode cX12_laysEdges 140 = .ok (.iconst 0, 1) := by decide +kernel
theorem dX12_laysEdges_141 : decode cX12_laysEdges 141 = .ok (.iconst (-1), 1) := by decide +kernel
theorem dX12_laysEdges_142 : decode cX12_laysEdges 142 = .ok (.invokevirtual 317, 3) := by decide +kernel
theorem dX12_laysEdges_145 : decode cX12_laysEdges 145 = .ok (.aload_n 0, 1) := by decide +kernel
theorem dX12_laysEdges_146 : decode cX12_laysEdges 146 = .ok (.iload_n 1, 1) := by decide +kernel
theorem dX12_laysEdges_147 : decode cX12_laysEdges 147 = .ok (.iload_n 1, 1) := by decide +kernel
theorem dX12_laysEdges_148 : decode cX12_laysEdges 148 = .ok (.iconst 1, 1) := by decide +kernel
theorem dX12_laysEdges_149 : decode cX12_laysEdges 149 = .ok (.iadd, 1) := by decide +kernel
theorem dX12_laysEdges_150 : decode cX12_laysEdges 150 = .ok (.aload_n 0, 1) := by decide +kernel
theorem dX12_laysEdges_151 : decode cX12_laysEdges 151 = .ok (.getfield 20, 3) := by decide +kernel
theorem dX12_laysEdges_154 : decode cX12_laysEdges 154 = .ok (.iconst 3, 1) := by decide +kernel
theorem dX12_laysEdges_155 : decode cX12_laysEdges 155 = .ok (.iaload, 1) := by decide +kernel
theorem dX12_laysEdges_156 : decode cX12_laysEdges 156 = .ok (.iconst 0, 1) := by decide +kernel
theorem dX12_laysEdges_157 : decode cX12_laysEdges 157 = .ok (.iconst 0, 1) := by decide +kernel
theorem dX12_laysEdges_158 : decode cX12_laysEdges 158 = .ok (.iconst 0, 1) := by decide +kernel
theorem dX12_laysEdges_159 : decode cX12_laysEdges 159 = .ok (.iconst 0, 1) := by decide +kernel
theorem dX12_laysEdges_160 : decode cX12_laysEdges 160 = .ok (.iconst (-1), 1) := by decide +kernel
theorem dX12_laysEdges_161 : decode cX12_laysEdges 161 = .ok (.invokevirtual 317, 3) := by decide +kernel
theorem dX12_laysEdges_164 : decode cX12_laysEdges 164 = .ok (.aload_n 2, 1) := by decide +kernel
theorem dX12_laysEdges_165 : decode cX12_laysEdges 165 = .ok (.iconst 0, 1) := by decide +kernel
theorem dX12_laysEdges_166 : decode cX12_laysEdges 166 = .ok (.iaload, 1) := by decide +kernel
theorem dX12_laysEdges_167 : decode cX12_laysEdges 167 = .ok (.bipush 10, 2) := by decide +kernel
theorem dX12_laysEdges_169 : decode cX12_laysEdges 169 = .ok (.if_icmp .ne 37, 3) := by decide +kernel
theorem dX12_laysEdges_172 : decode cX12_laysEdges 172 = .ok (.aload_n 0, 1) := by decide +kernel
theorem dX12_laysEdges_173 : decode cX12_laysEdges 173 = .ok (.iload_n 1, 1) := by decide +kernel
theorem dX12_laysEdges_174 : decode cX12_laysEdges 174 = .ok (.iload_n 1, 1) := by decide +kernel
theorem dX12_laysEdges_175 : decode cX12_laysEdges 175 = .ok (.iconst 1, 1) := by decide +kernel
theorem dX12_laysEdges_176 : decode cX12_laysEdges 176 = .ok (.iadd, 1) := by decide +kernel
theorem dX12_laysEdges_177 : decode cX12_laysEdges 177 = .ok (.iconst 0, 1) := by decide +kernel
theorem dX12_laysEdges_178 : decode cX12_laysEdges 178 = .ok (.iconst 0, 1) := by decide +kernel
theorem dX12_laysEdges_179 : decode cX12_laysEdges 179 = .ok (.iconst 0, 1) := by decide +kernel
theorem dX12_laysEdges_180 : decode cX12_laysEdges 180 = .ok (.iconst 0, 1) := by decide +kernel
theorem dX12_laysEdges_181 : decode cX12_laysEdges 181 = .ok (.iconst 0, 1) := by decide +kernel
theorem dX12_laysEdges_182 : decode cX12_laysEdges 182 = .ok (.iconst (-1), 1) := by decide +kernel
theorem dX12_laysEdges_183 : decode cX12_laysEdges 183 = .ok (.invokevirtual 317, 3) := by decide +kernel
theorem dX12_laysEdges_186 : decode cX12_laysEdges 186 = .ok (.aload_n 0, 1) := by decide +kernel
theorem dX12_laysEdges_187 : decode cX12_laysEdges 187 = .ok (.iload_n 1, 1) := by decide +kernel
theorem dX12_laysEdges_188 : decode cX12_laysEdges 188 = .ok (.iload_n 1, 1) := by decide +kernel
theorem dX12_laysEdges_189 : decode cX12_laysEdges 189 = .ok (.iconst 1, 1) := by decide +kernel
theorem dX12_laysEdges_190 : decode cX12_laysEdges 190 = .ok (.iadd, 1) := by decide +kernel
theorem dX12_laysEdges_191 : decode cX12_laysEdges 191 = .ok (.aload_n 0, 1) := by decide +kernel
theorem dX12_laysEdges_192 : decode cX12_laysEdges 192 = .ok (.getfield 20, 3) := by decide +kernel
theorem dX12_laysEdges_195 : decode cX12_laysEdges 195 = .ok (.iconst 4, 1) := by decide +kernel
theorem dX12_laysEdges_196 : decode cX12_laysEdges 196 = .ok (.iaload, 1) := by decide +kernel
theorem dX12_laysEdges_197 : decode cX12_laysEdges 197 = .ok (.iconst 1, 1) := by decide +kernel
theorem dX12_laysEdges_198 : decode cX12_laysEdges 198 = .ok (.bipush 45, 2) := by decide +kernel
theorem dX12_laysEdges_200 : decode cX12_laysEdges 200 = .ok (.iconst 0, 1) := by decide +kernel
theorem dX12_laysEdges_201 : decode cX12_laysEdges 201 = .ok (.iconst 0, 1) := by decide +kernel
theorem dX12_laysEdges_202 : decode cX12_laysEdges 202 = .ok (.iconst (-1), 1) := by decide +kernel
theorem dX12_laysEdges_203 : decode cX12_laysEdges 203 = .ok (.invokevirtual 317, 3) := by decide +kernel
theorem dX12_laysEdges_206 : decode cX12_laysEdges 206 = .ok (.iconst 0, 1) := by decide +kernel
theorem dX12_laysEdges_207 : decode cX12_laysEdges 207 = .ok (.istore_n 3, 1) := by decide +kernel
theorem dX12_laysEdges_208 : decode cX12_laysEdges 208 = .ok (.iload_n 3, 1) := by decide +kernel
theorem dX12_laysEdges_209 : decode cX12_laysEdges 209 = .ok (.aload_n 0, 1) := by decide +kernel
theorem dX12_laysEdges_210 : decode cX12_laysEdges 210 = .ok (.getfield 55, 3) := by decide +kernel
theorem dX12_laysEdges_213 : decode cX12_laysEdges 213 = .ok (.iconst 0, 1) := by decide +kernel
theorem dX12_laysEdges_214 : decode cX12_laysEdges 214 = .ok (.iaload, 1) := by decide +kernel
theorem dX12_laysEdges_215 : decode cX12_laysEdges 215 = .ok (.if_icmp .ge 86, 3) := by decide +kernel
theorem dX12_laysEdges_218 : decode cX12_laysEdges 218 = .ok (.aload_n 0, 1) := by decide +kernel
theorem dX12_laysEdges_219 : decode cX12_laysEdges 219 = .ok (.iload_n 3, 1) := by decide +kernel
theorem dX12_laysEdges_220 : decode cX12_laysEdges 220 = .ok (.iload_n 1, 1) := by decide +kernel
theorem dX12_laysEdges_221 : decode cX12_laysEdges 221 = .ok (.invokevirtual 320, 3) := by decide +kernel
theorem dX12_laysEdges_224 : decode cX12_laysEdges 224 = .ok (.ifCond .eq 71, 3) := by decide +kernel
theorem dX12_laysEdges_227 : decode cX12_laysEdges 227 = .ok (.aload_n 0, 1) := by decide +kernel
theorem dX12_laysEdges_228 : decode cX12_laysEdges 228 = .ok (.iload_n 1, 1) := by decide +kernel
theorem dX12_laysEdges_229 : decode cX12_laysEdges 229 = .ok (.iload_n 1, 1) := by decide +kernel
theorem dX12_laysEdges_230 : decode cX12_laysEdges 230 = .ok (.aload_n 0, 1) := by decide +kernel
theorem dX12_laysEdges_231 : decode cX12_laysEdges 231 = .ok (.getfield 63, 3) := by decide +kernel
theorem dX12_laysEdges_234 : decode cX12_laysEdges 234 = .ok (.iconst 0, 1) := by decide +kernel
theorem dX12_laysEdges_235 : decode cX12_laysEdges 235 = .ok (.aaload, 1) := by decide +kernel
theorem dX12_laysEdges_236 : decode cX12_laysEdges 236 = .ok (.iload_n 3, 1) := by decide +kernel
theorem dX12_laysEdges_237 : decode cX12_laysEdges 237 = .ok (.aaload, 1) := by decide +kernel
theorem dX12_laysEdges_238 : decode cX12_laysEdges 238 = .ok (.iconst 1, 1) := by decide +kernel
theorem dX12_laysEdges_239 : decode cX12_laysEdges 239 = .ok (.iaload, 1) := by decide +kernel
theorem dX12_laysEdges_240 : decode cX12_laysEdges 240 = .ok (.iadd, 1) := by decide +kernel
theorem dX12_laysEdges_241 : decode cX12_laysEdges 241 = .ok (.aload_n 0, 1) := by decide +kernel
theorem dX12_laysEdges_242 : decode cX12_laysEdges 242 = .ok (.getfield 63, 3) := by decide +kernel
theorem dX12_laysEdges_245 : decode cX12_laysEdges 245 = .ok (.iconst 0, 1) := by decide +kernel
theorem dX12_laysEdges_246 : decode cX12_laysEdges 246 = .ok (.aaload, 1) := by decide +kernel
theorem dX12_laysEdges_247 : decode cX12_laysEdges 247 = .ok (.iload_n 3, 1) := by decide +kernel
theorem dX12_laysEdges_248 : decode cX12_laysEdges 248 = .ok (.aaload, 1) := by decide +kernel
theorem dX12_laysEdges_249 : decode cX12_laysEdges 249 = .ok (.iconst 0, 1) := by decide +kernel
theorem dX12_laysEdges_250 : decode cX12_laysEdges 250 = .ok (.iaload, 1) := by decide +kernel
theorem dX12_laysEdges_251 : decode cX12_laysEdges 251 = .ok (.aload_n 0, 1) := by decide +kernel
theorem dX12_laysEdges_252 : decode cX12_laysEdges 252 = .ok (.getfield 63, 3) := by decide +kernel
theorem dX12_laysEdges_255 : decode cX12_laysEdges 255 = .ok (.iconst 0, 1) := by decide +kernel
theorem dX12_laysEdges_256 : decode cX12_laysEdges 256 = .ok (.aaload, 1) := by decide +kernel
theorem dX12_laysEdges_257 : decode cX12_laysEdges 257 = .ok (.iload_n 3, 1) := by decide +kernel
theorem dX12_laysEdges_258 : decode cX12_laysEdges 258 = .ok (.aaload, 1) := by decide +kernel
theorem dX12_laysEdges_259 : decode cX12_laysEdges 259 = .ok (.iconst 2, 1) := by decide +kernel
theorem dX12_laysEdges_260 : decode cX12_laysEdges 260 = .ok (.iaload, 1) := by decide +kernel
theorem dX12_laysEdges_261 : decode cX12_laysEdges 261 = .ok (.aload_n 0, 1) := by decide +kernel
theorem dX12_laysEdges_262 : decode cX12_laysEdges 262 = .ok (.getfield 60, 3) := by decide +kernel
theorem dX12_laysEdges_265 : decode cX12_laysEdges 265 = .ok (.iconst 0, 1) := by decide +kernel
theorem dX12_laysEdges_266 : decode cX12_laysEdges 266 = .ok (.aaload, 1) := by decide +kernel
theorem dX12_laysEdges_267 : decode cX12_laysEdges 267 = .ok (.iload_n 3, 1) := by decide +kernel
theorem dX12_laysEdges_268 : decode cX12_laysEdges 268 = .ok (.aaload, 1) := by decide +kernel
theorem dX12_laysEdges_269 : decode cX12_laysEdges 269 = .ok (.iconst 3, 1) := by decide +kernel
theorem dX12_laysEdges_270 : decode cX12_laysEdges 270 = .ok (.iaload, 1) := by decide +kernel
theorem dX12_laysEdges_271 : decode cX12_laysEdges 271 = .ok (.aload_n 0, 1) := by decide +kernel
theorem dX12_laysEdges_272 : decode cX12_laysEdges 272 = .ok (.getfield 60, 3) := by decide +kernel
theorem dX12_laysEdges_275 : decode cX12_laysEdges 275 = .ok (.iconst 0, 1) := by decide +kernel
theorem dX12_laysEdges_276 : decode cX12_laysEdges 276 = .ok (.aaload, 1) := by decide +kernel
theorem dX12_laysEdges_277 : decode cX12_laysEdges 277 = .ok (.iload_n 3, 1) := by decide +kernel
theorem dX12_laysEdges_278 : decode cX12_laysEdges 278 = .ok (.aaload, 1) := by decide +kernel
theorem dX12_laysEdges_279 : decode cX12_laysEdges 279 = .ok (.iconst 4, 1) := by decide +kernel
theorem dX12_laysEdges_280 : decode cX12_laysEdges 280 = .ok (.iaload, 1) := by decide +kernel
theorem dX12_laysEdges_281 : decode cX12_laysEdges 281 = .ok (.aload_n 0, 1) := by decide +kernel
theorem dX12_laysEdges_282 : decode cX12_laysEdges 282 = .ok (.getfield 60, 3) := by decide +kernel
theorem dX12_laysEdges_285 : decode cX12_laysEdges 285 = .ok (.iconst 0, 1) := by decide +kernel
theorem dX12_laysEdges_286 : decode cX12_laysEdges 286 = .ok (.aaload, 1) := by decide +kernel
theorem dX12_laysEdges_287 : decode cX12_laysEdges 287 = .ok (.iload_n 3, 1) := by decide +kernel
theorem dX12_laysEdges_288 : decode cX12_laysEdges 288 = .ok (.aaload, 1) := by decide +kernel
theorem dX12_laysEdges_289 : decode cX12_laysEdges 289 = .ok (.iconst 5, 1) := by decide +kernel
theorem dX12_laysEdges_290 : decode cX12_laysEdges 290 = .ok (.iaload, 1) := by decide +kernel
theorem dX12_laysEdges_291 : decode cX12_laysEdges 291 = .ok (.iload_n 3, 1) := by decide +kernel
theorem dX12_laysEdges_292 : decode cX12_laysEdges 292 = .ok (.invokevirtual 317, 3) := by decide +kernel
theorem dX12_laysEdges_295 : decode cX12_laysEdges 295 = .ok (.iinc 3 1, 3) := by decide +kernel
theorem dX12_laysEdges_298 : decode cX12_laysEdges 298 = .ok (.goto (-90), 3) := by decide +kernel
theorem dX12_laysEdges_301 : decode cX12_laysEdges 301 = .ok (.return_, 1) := by decide +kernel
theorem dX12_laysNet_0 : decode cX12_laysNet 0 = .ok (.aload_n 0, 1) := by decide +kernel
theorem dX12_laysNet_1 : decode cX12_laysNet 1 = .ok (.getfield 98, 3) := by decide +kernel
theorem dX12_laysNet_4 : decode cX12_laysNet 4 = .ok (.aload_n 0, 1) := by decide +kernel
theorem dX12_laysNet_5 : decode cX12_laysNet 5 = .ok (.getfield 314, 3) := by decide +kernel
theorem dX12_laysNet_8 : decode cX12_laysNet 8 = .ok (.iconst 0, 1) := by decide +kernel
theorem dX12_laysNet_9 : decode cX12_laysNet 9 = .ok (.iastore, 1) := by decide +kernel
theorem dX12_laysNet_10 : decode cX12_laysNet 10 = .ok (.aload_n 0, 1) := by decide +kernel
theorem dX12_laysNet_11 : decode cX12_laysNet 11 = .ok (.getfield 314, 3) := by decide +kernel
theorem dX12_laysNet_14 : decode cX12_laysNet 14 = .ok (.iconst 1, 1) := by decide +kernel
theorem dX12_laysNet_15 : decode cX12_laysNet 15 = .ok (.isub, 1) := by decide +kernel
theorem dX12_laysNet_16 : decode cX12_laysNet 16 = .ok (.istore_n 1, 1) := by decide +kernel
theorem dX12_laysNet_17 : decode cX12_laysNet 17 = .ok (.iload_n 1, 1) := by decide +kernel
theorem dX12_laysNet_18 : decode cX12_laysNet 18 = .ok (.ifCond .lt 82, 3) := by decide +kernel
theorem dX12_laysNet_21 : decode cX12_laysNet 21 = .ok (.aload_n 0, 1) := by decide +kernel
theorem dX12_laysNet_22 : decode cX12_laysNet 22 = .ok (.iload_n 1, 1) := by decide +kernel
theorem dX12_laysNet_23 : decode cX12_laysNet 23 = .ok (.invokevirtual 323, 3) := by decide +kernel
theorem dX12_laysNet_26 : decode cX12_laysNet 26 = .ok (.aload_n 0, 1) := by decide +kernel
theorem dX12_laysNet_27 : decode cX12_laysNet 27 = .ok (.getfield 98, 3) := by decide +kernel
theorem dX12_laysNet_30 : decode cX12_laysNet 30 = .ok (.iload_n 1, 1) := by decide +kernel
theorem dX12_laysNet_31 : decode cX12_laysNet 31 = .ok (.ldc_w 326, 3) := by decide +kernel
theorem dX12_laysNet_34 : decode cX12_laysNet 34 = .ok (.iastore, 1) := by decide +kernel
theorem dX12_laysNet_35 : decode cX12_laysNet 35 = .ok (.iconst 0, 1) := by decide +kernel
theorem dX12_laysNet_36 : decode cX12_laysNet 36 = .ok (.istore_n 2, 1) := by decide +kernel
theorem dX12_laysNet_37 : decode cX12_laysNet 37 = .ok (.iload_n 2, 1) := by decide +kernel
theorem dX12_laysNet_38 : decode cX12_laysNet 38 = .ok (.aload_n 0, 1) := by decide +kernel
theorem dX12_laysNet_39 : decode cX12_laysNet 39 = .ok (.getfield 95, 3) := by decide +kernel
theorem dX12_laysNet_42 : decode cX12_laysNet 42 = .ok (.iload_n 1, 1) := by decide +kernel
theorem dX12_laysNet_43 : decode cX12_laysNet 43 = .ok (.iaload, 1) := by decide +kernel
theorem dX12_laysNet_44 : decode cX12_laysNet 44 = .ok (.if_icmp .ge 50, 3) := by decide +kernel
theorem dX12_laysNet_47 : decode cX12_laysNet 47 = .ok (.aload_n 0, 1) := by decide +kernel
theorem dX12_laysNet_48 : decode cX12_laysNet 48 = .ok (.getfield 98, 3) := by decide +kernel
theorem dX12_laysNet_51 : decode cX12_laysNet 51 = .ok (.iload_n 1, 1) := by decide +kernel
theorem dX12_laysNet_52 : decode cX12_laysNet 52 = .ok (.aload_n 0, 1) := by decide +kernel
theorem dX12_laysNet_53 : decode cX12_laysNet 53 = .ok (.getfield 98, 3) := by decide +kernel
theorem dX12_laysNet_56 : decode cX12_laysNet 56 = .ok (.iload_n 1, 1) := by decide +kernel
theorem dX12_laysNet_57 : decode cX12_laysNet 57 = .ok (.iaload, 1) := by decide +kernel
theorem dX12_laysNet_58 : decode cX12_laysNet 58 = .ok (.aload_n 0, 1) := by decide +kernel
theorem dX12_laysNet_59 : decode cX12_laysNet 59 = .ok (.getfield 101, 3) := by decide +kernel
theorem dX12_laysNet_62 : decode cX12_laysNet 62 = .ok (.iload_n 1, 1) := by decide +kernel
theorem dX12_laysNet_63 : decode cX12_laysNet 63 = .ok (.aaload, 1) := by decide +kernel
theorem dX12_laysNet_64 : decode cX12_laysNet 64 = .ok (.iload_n 2, 1) := by decide +kernel
theorem dX12_laysNet_65 : decode cX12_laysNet 65 = .ok (.aaload, 1) := by decide +kernel
theorem dX12_laysNet_66 : decode cX12_laysNet 66 = .ok (.iconst 1, 1) := by decide +kernel
theorem dX12_laysNet_67 : decode cX12_laysNet 67 = .ok (.iaload, 1) := by decide +kernel
theorem dX12_laysNet_68 : decode cX12_laysNet 68 = .ok (.aload_n 0, 1) := by decide +kernel
theorem dX12_laysNet_69 : decode cX12_laysNet 69 = .ok (.getfield 98, 3) := by decide +kernel
theorem dX12_laysNet_72 : decode cX12_laysNet 72 = .ok (.aload_n 0, 1) := by decide +kernel
theorem dX12_laysNet_73 : decode cX12_laysNet 73 = .ok (.getfield 101, 3) := by decide +kernel
theorem dX12_laysNet_76 : decode cX12_laysNet 76 = .ok (.iload_n 1, 1) := by decide +kernel
theorem dX12_laysNet_77 : decode cX12_laysNet 77 = .ok (.aaload, 1) := by decide +kernel
theorem dX12_laysNet_78 : decode cX12_laysNet 78 = .ok (.iload_n 2, 1) := by decide +kernel
theorem dX12_laysNet_79 : decode cX12_laysNet 79 = .ok (.aaload, 1) := by decide +kernel
theorem dX12_laysNet_80 : decode cX12_laysNet 80 = .ok (.iconst 0, 1) := by decide +kernel
theorem dX12_laysNet_81 : decode cX12_laysNet 81 = .ok (.iaload, 1) := by decide +kernel
theorem dX12_laysNet_82 : decode cX12_laysNet 82 = .ok (.iaload, 1) := by decide +kernel
theorem dX12_laysNet_83 : decode cX12_laysNet 83 = .ok (.iadd, 1) := by decide +kernel
theorem dX12_laysNet_84 : decode cX12_laysNet 84 = .ok (.invokestatic 219, 3) := by decide +kernel
theorem dX12_laysNet_87 : decode cX12_laysNet 87 = .ok (.iastore, 1) := by decide +kernel
theorem dX12_laysNet_88 : decode cX12_laysNet 88 = .ok (.iinc 2 1, 3) := by decide +kernel
theorem dX12_laysNet_91 : decode cX12_laysNet 91 = .ok (.goto (-54), 3) := by decide +kernel
theorem dX12_laysNet_94 : decode cX12_laysNet 94 = .ok (.iinc 1 (-1), 3) := by decide +kernel
theorem dX12_laysNet_97 : decode cX12_laysNet 97 = .ok (.goto (-80), 3) := by decide +kernel
theorem dX12_laysNet_100 : decode cX12_laysNet 100 = .ok (.return_, 1) := by decide +kernel
theorem dX12_copiesCell_0 : decode cX12_copiesCell 0 = .ok (.iconst 0, 1) := by decide +kernel
theorem dX12_copiesCell_1 : decode cX12_copiesCell 1 = .ok (.istore_n 3, 1) := by decide +kernel
theorem dX12_copiesCell_2 : decode cX12_copiesCell 2 = .ok (.iload_n 3, 1) := by decide +kernel
theorem dX12_copiesCell_3 : decode cX12_copiesCell 3 = .ok (.bipush 8, 2) := by decide +kernel
theorem dX12_copiesCell_5 : decode cX12_copiesCell 5 = .ok (.if_icmp .ge 15, 3) := by decide +kernel
theorem dX12_copiesCell_8 : decode cX12_copiesCell 8 = .ok (.aload_n 2, 1) := by decide +kernel
theorem dX12_copiesCell_9 : decode cX12_copiesCell 9 = .ok (.iload_n 3, 1) := by decide +kernel
theorem dX12_copiesCell_10 : decode cX12_copiesCell 10 = .ok (.aload_n 1, 1) := by decide +kernel
theorem dX12_copiesCell_11 : decode cX12_copiesCell 11 = .ok (.iload_n 3, 1) := by decide +kernel
theorem dX12_copiesCell_12 : decode cX12_copiesCell 12 = .ok (.iaload, 1) := by decide +kernel
theorem dX12_copiesCell_13 : decode cX12_copiesCell 13 = .ok (.iastore, 1) := by decide +kernel
theorem dX12_copiesCell_14 : decode cX12_copiesCell 14 = .ok (.iinc 3 1, 3) := by decide +kernel
theorem dX12_copiesCell_17 : decode cX12_copiesCell 17 = .ok (.goto (-15), 3) := by decide +kernel
theorem dX12_copiesCell_20 : decode cX12_copiesCell 20 = .ok (.return_, 1) := by decide +kernel
theorem dX12_laysToken_0 : decode cX12_laysToken 0 = .ok (.aload_n 0, 1) := by decide +kernel
theorem dX12_laysToken_1 : decode cX12_laysToken 1 = .ok (.iconst 0, 1) := by decide +kernel
theorem dX12_laysToken_2 : decode cX12_laysToken 2 = .ok (.putfield 314, 3) := by decide +kernel
theorem dX12_laysToken_5 : decode cX12_laysToken 5 = .ok (.iload_n 1, 1) := by decide +kernel
theorem dX12_laysToken_6 : decode cX12_laysToken 6 = .ok (.istore_n 3, 1) := by decide +kernel
theorem dX12_laysToken_7 : decode cX12_laysToken 7 = .ok (.iload_n 3, 1) := by decide +kernel
theorem dX12_laysToken_8 : decode cX12_laysToken 8 = .ok (.iload_n 2, 1) := by decide +kernel
theorem dX12_laysToken_9 : decode cX12_laysToken 9 = .ok (.ifCond .eq 9, 3) := by decide +kernel
theorem dX12_laysToken_12 : decode cX12_laysToken 12 = .ok (.iload_n 1, 1) := by decide +kernel
theorem dX12_laysToken_13 : decode cX12_laysToken 13 = .ok (.iconst 1, 1) := by decide +kernel
theorem dX12_laysToken_14 : decode cX12_laysToken 14 = .ok (.iadd, 1) := by decide +kernel
theorem dX12_laysToken_15 : decode cX12_laysToken 15 = .ok (.goto 4, 3) := by decide +kernel
theorem dX12_laysToken_18 : decode cX12_laysToken 18 = .ok (.iload_n 1, 1) := by decide +kernel
theorem dX12_laysToken_19 : decode cX12_laysToken 19 = .ok (.if_icmp .gt 65, 3) := by decide +kernel
theorem dX12_laysToken_22 : decode cX12_laysToken 22 = .ok (.iconst 0, 1) := by decide +kernel
theorem dX12_laysToken_23 : decode cX12_laysToken 23 = .ok (.istore 4, 2) := by decide +kernel
theorem dX12_laysToken_25 : decode cX12_laysToken 25 = .ok (.iload 4, 2) := by decide +kernel
theorem dX12_laysToken_27 : decode cX12_laysToken 27 = .ok (.aload_n 0, 1) := by decide +kernel
theorem dX12_laysToken_28 : decode cX12_laysToken 28 = .ok (.getfield 72, 3) := by decide +kernel
theorem dX12_laysToken_31 : decode cX12_laysToken 31 = .ok (.iconst 0, 1) := by decide +kernel
theorem dX12_laysToken_32 : decode cX12_laysToken 32 = .ok (.aaload, 1) := by decide +kernel
theorem dX12_laysToken_33 : decode cX12_laysToken 33 = .ok (.iload_n 3, 1) := by decide +kernel
theorem dX12_laysToken_34 : decode cX12_laysToken 34 = .ok (.iaload, 1) := by decide +kernel
theorem dX12_laysToken_35 : decode cX12_laysToken 35 = .ok (.if_icmp .ge 43, 3) := by decide +kernel
theorem dX12_laysToken_38 : decode cX12_laysToken 38 = .ok (.aload_n 0, 1) := by decide +kernel
theorem dX12_laysToken_39 : decode cX12_laysToken 39 = .ok (.aload_n 0, 1) := by decide +kernel
theorem dX12_laysToken_40 : decode cX12_laysToken 40 = .ok (.getfield 83, 3) := by decide +kernel
theorem dX12_laysToken_43 : decode cX12_laysToken 43 = .ok (.iconst 0, 1) := by decide +kernel
theorem dX12_laysToken_44 : decode cX12_laysToken 44 = .ok (.aaload, 1) := by decide +kernel
theorem dX12_laysToken_45 : decode cX12_laysToken 45 = .ok (.iload_n 3, 1) := by decide +kernel
theorem dX12_laysToken_46 : decode cX12_laysToken 46 = .ok (.aaload, 1) := by decide +kernel
theorem dX12_laysToken_47 : decode cX12_laysToken 47 = .ok (.iload 4, 2) := by decide +kernel
theorem dX12_laysToken_49 : decode cX12_laysToken 49 = .ok (.aaload, 1) := by decide +kernel
theorem dX12_laysToken_50 : decode cX12_laysToken 50 = .ok (.aload_n 0, 1) := by decide +kernel
theorem dX12_laysToken_51 : decode cX12_laysToken 51 = .ok (.getfield 92, 3) := by decide +kernel
theorem dX12_laysToken_54 : decode cX12_laysToken 54 = .ok (.aload_n 0, 1) := by decide +kernel
theorem dX12_laysToken_55 : decode cX12_laysToken 55 = .ok (.getfield 314, 3) := by decide +kernel
theorem dX12_laysToken_58 : decode cX12_laysToken 58 = .ok (.aaload, 1) := by decide +kernel
theorem dX12_laysToken_59 : decode cX12_laysToken 59 = .ok (.invokevirtual 327, 3) := by decide +kernel
theorem dX12_laysToken_62 : decode cX12_laysToken 62 = .ok (.aload_n 0, 1) := by decide +kernel
theorem dX12_laysToken_63 : decode cX12_laysToken 63 = .ok (.dup, 1) := by decide +kernel
theorem dX12_laysToken_64 : decode cX12_laysToken 64 = .ok (.getfield 314, 3) := by decide +kernel
theorem dX12_laysToken_67 : decode cX12_laysToken 67 = .ok (.iconst 1, 1) := by decide +kernel
theorem dX12_laysToken_68 : decode cX12_laysToken 68 = .ok (.iadd, 1) := by decide +kernel
theorem dX12_laysToken_69 : decode cX12_laysToken 69 = .ok (.putfield 314, 3) := by decide +kernel
theorem dX12_laysToken_72 : decode cX12_laysToken 72 = .ok (.iinc 4 1, 3) := by decide +kernel
theorem dX12_laysToken_75 : decode cX12_laysToken 75 = .ok (.goto (-50), 3) := by decide +kernel
theorem dX12_laysToken_78 : decode cX12_laysToken 78 = .ok (.iinc 3 1, 3) := by decide +kernel
theorem dX12_laysToken_81 : decode cX12_laysToken 81 = .ok (.goto (-74), 3) := by decide +kernel
theorem dX12_laysToken_84 : decode cX12_laysToken 84 = .ok (.aload_n 0, 1) := by decide +kernel
theorem dX12_laysToken_85 : decode cX12_laysToken 85 = .ok (.invokevirtual 331, 3) := by decide +kernel
theorem dX12_laysToken_88 : decode cX12_laysToken 88 = .ok (.return_, 1) := by decide +kernel
theorem dX12_laysWord_0 : decode cX12_laysWord 0 = .ok (.aload_n 0, 1) := by decide +kernel
theorem dX12_laysWord_1 : decode cX12_laysWord 1 = .ok (.aload_n 0, 1) := by decide +kernel
theorem dX12_laysWord_2 : decode cX12_laysWord 2 = .ok (.getfield 28, 3) := by decide +kernel
theorem dX12_laysWord_5 : decode cX12_laysWord 5 = .ok (.iload_n 1, 1) := by decide +kernel
theorem dX12_laysWord_6 : decode cX12_laysWord 6 = .ok (.iaload, 1) := by decide +kernel
theorem dX12_laysWord_7 : decode cX12_laysWord 7 = .ok (.putfield 314, 3) := by decide +kernel
theorem dX12_laysWord_10 : decode cX12_laysWord 10 = .ok (.iconst 0, 1) := by decide +kernel
theorem dX12_laysWord_11 : decode cX12_laysWord 11 = .ok (.istore_n 2, 1) := by decide +kernel
theorem dX12_laysWord_12 : decode cX12_laysWord 12 = .ok (.iload_n 2, 1) := by decide +kernel
theorem dX12_laysWord_13 : decode cX12_laysWord 13 = .ok (.aload_n 0, 1) := by decide +kernel
theorem dX12_laysWord_14 : decode cX12_laysWord 14 = .ok (.getfield 314, 3) := by decide +kernel
theorem dX12_laysWord_17 : decode cX12_laysWord 17 = .ok (.if_icmp .ge 34, 3) := by decide +kernel
theorem dX12_laysWord_20 : decode cX12_laysWord 20 = .ok (.aload_n 0, 1) := by decide +kernel
theorem dX12_laysWord_21 : decode cX12_laysWord 21 = .ok (.getfield 92, 3) := by decide +kernel
theorem dX12_laysWord_24 : decode cX12_laysWord 24 = .ok (.iload_n 2, 1) := by decide +kernel
theorem dX12_laysWord_25 : decode cX12_laysWord 25 = .ok (.aaload, 1) := by decide +kernel
theorem dX12_laysWord_26 : decode cX12_laysWord 26 = .ok (.iconst 0, 1) := by decide +kernel
theorem dX12_laysWord_27 : decode cX12_laysWord 27 = .ok (.aload_n 0, 1) := by decide +kernel
theorem dX12_laysWord_28 : decode cX12_laysWord 28 = .ok (.getfield 25, 3) := by decide +kernel
theorem dX12_laysWord_31 : decode cX12_laysWord 31 = .ok (.iload_n 1, 1) := by decide +kernel
theorem dX12_laysWord_32 : decode cX12_laysWord 32 = .ok (.aaload, 1) := by decide +kernel
theorem dX12_laysWord_33 : decode cX12_laysWord 33 = .ok (.iload_n 2, 1) := by decide +kernel
theorem dX12_laysWord_34 : decode cX12_laysWord 34 = .ok (.iaload, 1) := by decide +kernel
theorem dX12_laysWord_35 : decode cX12_laysWord 35 = .ok (.iastore, 1) := by decide +kernel
theorem dX12_laysWord_36 : decode cX12_laysWord 36 = .ok (.aload_n 0, 1) := by decide +kernel
theorem dX12_laysWord_37 : decode cX12_laysWord 37 = .ok (.getfield 92, 3) := by decide +kernel
theorem dX12_laysWord_40 : decode cX12_laysWord 40 = .ok (.iload_n 2, 1) := by decide +kernel
theorem dX12_laysWord_41 : decode cX12_laysWord 41 = .ok (.aaload, 1) := by decide +kernel
theorem dX12_laysWord_42 : decode cX12_laysWord 42 = .ok (.iconst 1, 1) := by decide +kernel
theorem dX12_laysWord_43 : decode cX12_laysWord 43 = .ok (.iconst 0, 1) := by decide +kernel
theorem dX12_laysWord_44 : decode cX12_laysWord 44 = .ok (.iastore, 1) := by decide +kernel
theorem dX12_laysWord_45 : decode cX12_laysWord 45 = .ok (.iinc 2 1, 3) := by decide +kernel
theorem dX12_laysWord_48 : decode cX12_laysWord 48 = .ok (.goto (-36), 3) := by decide +kernel
theorem dX12_laysWord_51 : decode cX12_laysWord 51 = .ok (.aload_n 0, 1) := by decide +kernel
theorem dX12_laysWord_52 : decode cX12_laysWord 52 = .ok (.invokevirtual 331, 3) := by decide +kernel
theorem dX12_laysWord_55 : decode cX12_laysWord 55 = .ok (.return_, 1) := by decide +kernel
theorem dX12_fits_0 : decode cX12_fits 0 = .ok (.iload_n 3, 1) := by decide +kernel
theorem dX12_fits_1 : decode cX12_fits 1 = .ok (.aload_n 1, 1) := by decide +kernel
theorem dX12_fits_2 : decode cX12_fits 2 = .ok (.iconst 2, 1) := by decide +kernel
theorem dX12_fits_3 : decode cX12_fits 3 = .ok (.iaload, 1) := by decide +kernel
theorem dX12_fits_4 : decode cX12_fits 4 = .ok (.iadd, 1) := by decide +kernel
theorem dX12_fits_5 : decode cX12_fits 5 = .ok (.aload_n 0, 1) := by decide +kernel
theorem dX12_fits_6 : decode cX12_fits 6 = .ok (.getfield 28, 3) := by decide +kernel
theorem dX12_fits_9 : decode cX12_fits 9 = .ok (.iload_n 2, 1) := by decide +kernel
theorem dX12_fits_10 : decode cX12_fits 10 = .ok (.iaload, 1) := by decide +kernel
theorem dX12_fits_11 : decode cX12_fits 11 = .ok (.if_icmp .le 5, 3) := by decide +kernel
theorem dX12_fits_14 : decode cX12_fits 14 = .ok (.iconst 0, 1) := by decide +kernel
theorem dX12_fits_15 : decode cX12_fits 15 = .ok (.ireturn, 1) := by decide +kernel
theorem dX12_fits_16 : decode cX12_fits 16 = .ok (.iconst 0, 1) := by decide +kernel
theorem dX12_fits_17 : decode cX12_fits 17 = .ok (.istore 4, 2) := by decide +kernel
theorem dX12_fits_19 : decode cX12_fits 19 = .ok (.iload 4, 2) := by decide +kernel
theorem dX12_fits_21 : decode cX12_fits 21 = .ok (.aload_n 1, 1) := by decide +kernel
theorem dX12_fits_22 : decode cX12_fits 22 = .ok (.iconst 2, 1) := by decide +kernel
theorem dX12_fits_23 : decode cX12_fits 23 = .ok (.iaload, 1) := by decide +kernel
theorem dX12_fits_24 : decode cX12_fits 24 = .ok (.if_icmp .ge 31, 3) := by decide +kernel
theorem dX12_fits_27 : decode cX12_fits 27 = .ok (.aload_n 0, 1) := by decide +kernel
theorem dX12_fits_28 : decode cX12_fits 28 = .ok (.getfield 25, 3) := by decide +kernel
theorem dX12_fits_31 : decode cX12_fits 31 = .ok (.iload_n 2, 1) := by decide +kernel
theorem dX12_fits_32 : decode cX12_fits 32 = .ok (.aaload, 1) := by decide +kernel
theorem dX12_fits_33 : decode cX12_fits 33 = .ok (.iload_n 3, 1) := by decide +kernel
theorem dX12_fits_34 : decode cX12_fits 34 = .ok (.iload 4, 2) := by decide +kernel
theorem dX12_fits_36 : decode cX12_fits 36 = .ok (.iadd, 1) := by decide +kernel
theorem dX12_fits_37 : decode cX12_fits 37 = .ok (.iaload, 1) := by decide +kernel
theorem dX12_fits_38 : decode cX12_fits 38 = .ok (.aload_n 1, 1) := by decide +kernel
theorem dX12_fits_39 : decode cX12_fits 39 = .ok (.iconst 3, 1) := by decide +kernel
theorem dX12_fits_40 : decode cX12_fits 40 = .ok (.iload 4, 2) := by decide +kernel
theorem dX12_fits_42 : decode cX12_fits 42 = .ok (.iadd, 1) := by decide +kernel
theorem dX12_fits_43 : decode cX12_fits 43 = .ok (.iaload, 1) := by decide +kernel
theorem dX12_fits_44 : decode cX12_fits 44 = .ok (.if_icmp .eq 5, 3) := by decide +kernel
theorem dX12_fits_47 : decode cX12_fits 47 = .ok (.iconst 0, 1) := by decide +kernel
theorem dX12_fits_48 : decode cX12_fits 48 = .ok (.ireturn, 1) := by decide +kernel
theorem dX12_fits_49 : decode cX12_fits 49 = .ok (.iinc 4 1, 3) := by decide +kernel
theorem dX12_fits_52 : decode cX12_fits 52 = .ok (.goto (-33), 3) := by decide +kernel
theorem dX12_fits_55 : decode cX12_fits 55 = .ok (.iconst 1, 1) := by decide +kernel
theorem dX12_fits_56 : decode cX12_fits 56 = .ok (.ireturn, 1) := by decide +kernel
theorem dX12_spells_0 : decode cX12_spells 0 = .ok (.aload_n 0, 1) := by decide +kernel
theorem dX12_spells_1 : decode cX12_spells 1 = .ok (.getfield 314, 3) := by decide +kernel
theorem dX12_spells_4 : decode cX12_spells 4 = .ok (.istore_n 2, 1) := by decide +kernel
theorem dX12_spells_5 : decode cX12_spells 5 = .ok (.iload_n 2, 1) := by decide +kernel
theorem dX12_spells_6 : decode cX12_spells 6 = .ok (.ifCond .lt 158, 3) := by decide +kernel
theorem dX12_spells_9 : decode cX12_spells 9 = .ok (.aload_n 0, 1) := by decide +kernel
theorem dX12_spells_10 : decode cX12_spells 10 = .ok (.getfield 28, 3) := by decide +kernel
theorem dX12_spells_13 : decode cX12_spells 13 = .ok (.iload_n 1, 1) := by decide +kernel
theorem dX12_spells_14 : decode cX12_spells 14 = .ok (.iaload, 1) := by decide +kernel
theorem dX12_spells_15 : decode cX12_spells 15 = .ok (.istore_n 3, 1) := by decide +kernel
theorem dX12_spells_16 : decode cX12_spells 16 = .ok (.iload_n 3, 1) := by decide +kernel
theorem dX12_spells_17 : decode cX12_spells 17 = .ok (.ifCond .lt 141, 3) := by decide +kernel
theorem dX12_spells_20 : decode cX12_spells 20 = .ok (.iload_n 2, 1) := by decide +kernel
theorem dX12_spells_21 : decode cX12_spells 21 = .ok (.aload_n 0, 1) := by decide +kernel
theorem dX12_spells_22 : decode cX12_spells 22 = .ok (.getfield 314, 3) := by decide +kernel
theorem dX12_spells_25 : decode cX12_spells 25 = .ok (.if_icmp .ne 17, 3) := by decide +kernel
theorem dX12_spells_28 : decode cX12_spells 28 = .ok (.iload_n 3, 1) := by decide +kernel
theorem dX12_spells_29 : decode cX12_spells 29 = .ok (.aload_n 0, 1) := by decide +kernel
theorem dX12_spells_30 : decode cX12_spells 30 = .ok (.getfield 28, 3) := by decide +kernel
theorem dX12_spells_33 : decode cX12_spells 33 = .ok (.iload_n 1, 1) := by decide +kernel
theorem dX12_spells_34 : decode cX12_spells 34 = .ok (.iaload, 1) := by decide +kernel
theorem dX12_spells_35 : decode cX12_spells 35 = .ok (.if_icmp .ne 7, 3) := by decide +kernel
theorem dX12_spells_38 : decode cX12_spells 38 = .ok (.iconst 0, 1) := by decide +kernel
theorem dX12_spells_39 : decode cX12_spells 39 = .ok (.goto 6, 3) := by decide +kernel
theorem dX12_spells_42 : decode cX12_spells 42 = .ok (.ldc_w 326, 3) := by decide +kernel
theorem dX12_spells_45 : decode cX12_spells 45 = .ok (.istore 4, 2) := by decide +kernel
theorem dX12_spells_47 : decode cX12_spells 47 = .ok (.iconst 0, 1) := by decide +kernel
theorem dX12_spells_48 : decode cX12_spells 48 = .ok (.istore 5, 2) := by decide +kernel
theorem dX12_spells_50 : decode cX12_spells 50 = .ok (.iload_n 2, 1) := by decide +kernel
theorem dX12_spells_51 : decode cX12_spells 51 = .ok (.aload_n 0, 1) := by decide +kernel
theorem dX12_spells_52 : decode cX12_spells 52 = .ok (.getfield 314, 3) := by decide +kernel
theorem dX12_spells_55 : decode cX12_spells 55 = .ok (.if_icmp .ge 87, 3) := by decide +kernel
theorem dX12_spells_58 : decode cX12_spells 58 = .ok (.iload 5, 2) := by decide +kernel
theorem dX12_spells_60 : decode cX12_spells 60 = .ok (.aload_n 0, 1) := by decide +kernel
theorem dX12_spells_61 : decode cX12_spells 61 = .ok (.getfield 95, 3) := by decide +kernel
theorem dX12_spells_64 : decode cX12_spells 64 = .ok (.iload_n 2, 1) := by decide +kernel
theorem dX12_spells_65 : decode cX12_spells 65 = .ok (.iaload, 1) := by decide +kernel
theorem dX12_spells_66 : decode cX12_spells 66 = .ok (.if_icmp .ge 76, 3) := by decide +kernel
theorem dX12_spells_69 : decode cX12_spells 69 = .ok (.aload_n 0, 1) := by decide +kernel
theorem dX12_spells_70 : decode cX12_spells 70 = .ok (.aload_n 0, 1) := by decide +kernel
theorem dX12_spells_71 : decode cX12_spells 71 = .ok (.getfield 101, 3) := by decide +kernel
theorem dX12_spells_74 : decode cX12_spells 74 = .ok (.iload_n 2, 1) := by decide +kernel
theorem dX12_spells_75 : decode cX12_spells 75 = .ok (.aaload, 1) := by decide +kernel
theorem dX12_spells_76 : decode cX12_spells 76 = .ok (.iload 5, 2) := by decide +kernel
theorem dX12_spells_78 : decode cX12_spells 78 = .ok (.aaload, 1) := by decide +kernel
theorem dX12_spells_79 : decode cX12_spells 79 = .ok (.iload_n 1, 1) := by decide +kernel
theorem dX12_spells_80 : decode cX12_spells 80 = .ok (.iload_n 3, 1) := by decide +kernel
theorem dX12_spells_81 : decode cX12_spells 81 = .ok (.invokevirtual 334, 3) := by decide +kernel
theorem dX12_spells_84 : decode cX12_spells 84 = .ok (.ifCond .eq 52, 3) := by decide +kernel
theorem dX12_spells_87 : decode cX12_spells 87 = .ok (.iload 4, 2) := by decide +kernel
theorem dX12_spells_89 : decode cX12_spells 89 = .ok (.aload_n 0, 1) := by decide +kernel
theorem dX12_spells_90 : decode cX12_spells 90 = .ok (.getfield 101, 3) := by decide +kernel
theorem dX12_spells_93 : decode cX12_spells 93 = .ok (.iload_n 2, 1) := by decide +kernel
theorem dX12_spells_94 : decode cX12_spells 94 = .ok (.aaload, 1) := by decide +kernel
theorem dX12_spells_95 : decode cX12_spells 95 = .ok (.iload 5, 2) := by decide +kernel
theorem dX12_spells_97 : decode cX12_spells 97 = .ok (.aaload, 1) := by decide +kernel
theorem dX12_spells_98 : decode cX12_spells 98 = .ok (.iconst 1, 1) := by decide +kernel
theorem dX12_spells_99 : decode cX12_spells 99 = .ok (.iaload, 1) := by decide +kernel
theorem dX12_spells_100 : decode cX12_spells 100 = .ok (.aload_n 0, 1) := by decide +kernel
theorem dX12_spells_101 : decode cX12_spells 101 = .ok (.getfield 104, 3) := by decide +kernel
theorem dX12_spells_104 : decode cX12_spells 104 = .ok (.aload_n 0, 1) := by decide +kernel
theorem dX12_spells_105 : decode cX12_spells 105 = .ok (.getfield 101, 3) := by decide +kernel
theorem dX12_spells_108 : decode cX12_spells 108 = .ok (.iload_n 2, 1) := by decide +kernel
theorem dX12_spells_109 : decode cX12_spells 109 = .ok (.aaload, 1) := by decide +kernel
theorem dX12_spells_110 : decode cX12_spells 110 = .ok (.iload 5, 2) := by decide +kernel
theorem dX12_spells_112 : decode cX12_spells 112 = .ok (.aaload, 1) := by decide +kernel
theorem dX12_spells_113 : decode cX12_spells 113 = .ok (.iconst 0, 1) := by decide +kernel
theorem dX12_spells_114 : decode cX12_spells 114 = .ok (.iaload, 1) := by decide +kernel
theorem dX12_spells_115 : decode cX12_spells 115 = .ok (.aaload, 1) := by decide +kernel
theorem dX12_spells_116 : decode cX12_spells 116 = .ok (.iload_n 3, 1) := by decide +kernel
theorem dX12_spells_117 : decode cX12_spells 117 = .ok (.aload_n 0, 1) := by decide +kernel
theorem dX12_spells_118 : decode cX12_spells 118 = .ok (.getfield 101, 3) := by decide +kernel
theorem dX12_spells_121 : decode cX12_spells 121 = .ok (.iload_n 2, 1) := by decide +kernel
theorem dX12_spells_122 : decode cX12_spells 122 = .ok (.aaload, 1) := by decide +kernel
theorem dX12_spells_123 : decode cX12_spells 123 = .ok (.iload 5, 2) := by decide +kernel
theorem dX12_spells_125 : decode cX12_spells 125 = .ok (.aaload, 1) := by decide +kernel
theorem dX12_spells_126 : decode cX12_spells 126 = .ok (.iconst 2, 1) := by decide +kernel
theorem dX12_spells_127 : decode cX12_spells 127 = .ok (.iaload, 1) := by decide +kernel
theorem dX12_spells_128 : decode cX12_spells 128 = .ok (.iadd, 1) := by decide +kernel
theorem dX12_spells_129 : decode cX12_spells 129 = .ok (.iaload, 1) := by decide +kernel
theorem dX12_spells_130 : decode cX12_spells 130 = .ok (.iadd, 1) := by decide +kernel
theorem dX12_spells_131 : decode cX12_spells 131 = .ok (.invokestatic 219, 3) := by decide +kernel
theorem dX12_spells_134 : decode cX12_spells 134 = .ok (.istore 4, 2) := by decide +kernel
theorem dX12_spells_136 : decode cX12_spells 136 = .ok (.iinc 5 1, 3) := by decide +kernel
theorem dX12_spells_139 : decode cX12_spells 139 = .ok (.goto (-89), 3) := by decide +kernel
theorem dX12_spells_142 : decode cX12_spells 142 = .ok (.aload_n 0, 1) := by decide +kernel
theorem dX12_spells_143 : decode cX12_spells 143 = .ok (.getfield 104, 3) := by decide +kernel
theorem dX12_spells_146 : decode cX12_spells 146 = .ok (.iload_n 2, 1) := by decide +kernel
theorem dX12_spells_147 : decode cX12_spells 147 = .ok (.aaload, 1) := by decide +kernel
theorem dX12_spells_148 : decode cX12_spells 148 = .ok (.iload_n 3, 1) := by decide +kernel
theorem dX12_spells_149 : decode cX12_spells 149 = .ok (.iload 4, 2) := by decide +kernel
theorem dX12_spells_151 : decode cX12_spells 151 = .ok (.iastore, 1) := by decide +kernel
theorem dX12_spells_152 : decode cX12_spells 152 = .ok (.iinc 3 (-1), 3) := by decide +kernel
theorem dX12_spells_155 : decode cX12_spells 155 = .ok (.goto (-139), 3) := by decide +kernel
theorem dX12_spells_158 : decode cX12_spells 158 = .ok (.iinc 2 (-1), 3) := by decide +kernel
theorem dX12_spells_161 : decode cX12_spells 161 = .ok (.goto (-156), 3) := by decide +kernel
theorem dX12_spells_164 : decode cX12_spells 164 = .ok (.aload_n 0, 1) := by decide +kernel
theorem dX12_spells_165 : decode cX12_spells 165 = .ok (.getfield 104, 3) := by decide +kernel
theorem dX12_spells_168 : decode cX12_spells 168 = .ok (.iconst 0, 1) := by decide +kernel
theorem dX12_spells_169 : decode cX12_spells 169 = .ok (.aaload, 1) := by decide +kernel
theorem dX12_spells_170 : decode cX12_spells 170 = .ok (.iconst 0, 1) := by decide +kernel
theorem dX12_spells_171 : decode cX12_spells 171 = .ok (.iaload, 1) := by decide +kernel
theorem dX12_spells_172 : decode cX12_spells 172 = .ok (.ireturn, 1) := by decide +kernel
theorem dX12_boundOf_0 : decode cX12_boundOf 0 = .ok (.aload_n 0, 1) := by decide +kernel
theorem dX12_boundOf_1 : decode cX12_boundOf 1 = .ok (.getfield 107, 3) := by decide +kernel
theorem dX12_boundOf_4 : decode cX12_boundOf 4 = .ok (.iload_n 1, 1) := by decide +kernel
theorem dX12_boundOf_5 : decode cX12_boundOf 5 = .ok (.iaload, 1) := by decide +kernel
theorem dX12_boundOf_6 : decode cX12_boundOf 6 = .ok (.aload_n 0, 1) := by decide +kernel
theorem dX12_boundOf_7 : decode cX12_boundOf 7 = .ok (.getfield 98, 3) := by decide +kernel
theorem dX12_boundOf_10 : decode cX12_boundOf 10 = .ok (.iload_n 1, 1) := by decide +kernel
theorem dX12_boundOf_11 : decode cX12_boundOf 11 = .ok (.sipush 721, 3) := by decide +kernel
theorem dX12_boundOf_14 : decode cX12_boundOf 14 = .ok (.idiv, 1) := by decide +kernel
theorem dX12_boundOf_15 : decode cX12_boundOf 15 = .ok (.iaload, 1) := by decide +kernel
theorem dX12_boundOf_16 : decode cX12_boundOf 16 = .ok (.iadd, 1) := by decide +kernel
theorem dX12_boundOf_17 : decode cX12_boundOf 17 = .ok (.aload_n 0, 1) := by decide +kernel
theorem dX12_boundOf_18 : decode cX12_boundOf 18 = .ok (.getfield 49, 3) := by decide +kernel
theorem dX12_boundOf_21 : decode cX12_boundOf 21 = .ok (.iload_n 1, 1) := by decide +kernel
theorem dX12_boundOf_22 : decode cX12_boundOf 22 = .ok (.sipush 721, 3) := by decide +kernel
theorem dX12_boundOf_25 : decode cX12_boundOf 25 = .ok (.irem, 1) := by decide +kernel
theorem dX12_boundOf_26 : decode cX12_boundOf 26 = .ok (.iaload, 1) := by decide +kernel
theorem dX12_boundOf_27 : decode cX12_boundOf 27 = .ok (.iadd, 1) := by decide +kernel
theorem dX12_boundOf_28 : decode cX12_boundOf 28 = .ok (.ireturn, 1) := by decide +kernel
theorem dX12_waitsFor_0 : decode cX12_waitsFor 0 = .ok (.aload_n 0, 1) := by decide +kernel
theorem dX12_waitsFor_1 : decode cX12_waitsFor 1 = .ok (.getfield 110, 3) := by decide +kernel
theorem dX12_waitsFor_4 : decode cX12_waitsFor 4 = .ok (.iload_n 1, 1) := by decide +kernel
theorem dX12_waitsFor_5 : decode cX12_waitsFor 5 = .ok (.iaload, 1) := by decide +kernel
theorem dX12_waitsFor_6 : decode cX12_waitsFor 6 = .ok (.iconst 2, 1) := by decide +kernel
theorem dX12_waitsFor_7 : decode cX12_waitsFor 7 = .ok (.if_icmp .eq 23, 3) := by decide +kernel
theorem dX12_waitsFor_10 : decode cX12_waitsFor 10 = .ok (.aload_n 0, 1) := by decide +kernel
theorem dX12_waitsFor_11 : decode cX12_waitsFor 11 = .ok (.getfield 110, 3) := by decide +kernel
theorem dX12_waitsFor_14 : decode cX12_waitsFor 14 = .ok (.iload_n 1, 1) := by decide +kernel
theorem dX12_waitsFor_15 : decode cX12_waitsFor 15 = .ok (.iaload, 1) := by decide +kernel
theorem dX12_waitsFor_16 : decode cX12_waitsFor 16 = .ok (.iconst 1, 1) := by decide +kernel
theorem dX12_waitsFor_17 : decode cX12_waitsFor 17 = .ok (.if_icmp .ne 14, 3) := by decide +kernel
theorem dX12_waitsFor_20 : decode cX12_waitsFor 20 = .ok (.aload_n 0, 1) := by decide +kernel
theorem dX12_waitsFor_21 : decode cX12_waitsFor 21 = .ok (.getfield 107, 3) := by decide +kernel
theorem dX12_waitsFor_24 : decode cX12_waitsFor 24 = .ok (.iload_n 1, 1) := by decide +kernel
theorem dX12_waitsFor_25 : decode cX12_waitsFor 25 = .ok (.iaload, 1) := by decide +kernel
theorem dX12_waitsFor_26 : decode cX12_waitsFor 26 = .ok (.iload_n 2, 1) := by decide +kernel
theorem dX12_waitsFor_27 : decode cX12_waitsFor 27 = .ok (.if_icmp .gt 4, 3) := by decide +kernel
theorem dX12_waitsFor_30 : decode cX12_waitsFor 30 = .ok (.return_, 1) := by decide +kernel
theorem dX12_waitsFor_31 : decode cX12_waitsFor 31 = .ok (.aload_n 0, 1) := by decide +kernel
theorem dX12_waitsFor_32 : decode cX12_waitsFor 32 = .ok (.getfield 110, 3) := by decide +kernel
theorem dX12_waitsFor_35 : decode cX12_waitsFor 35 = .ok (.iload_n 1, 1) := by decide +kernel
theorem dX12_waitsFor_36 : decode cX12_waitsFor 36 = .ok (.iaload, 1) := by decide +kernel
theorem dX12_waitsFor_37 : decode cX12_waitsFor 37 = .ok (.ifCond .ne 23, 3) := by decide +kernel
theorem dX12_waitsFor_40 : decode cX12_waitsFor 40 = .ok (.aload_n 0, 1) := by decide +kernel
theorem dX12_waitsFor_41 : decode cX12_waitsFor 41 = .ok (.getfield 113, 3) := by decide +kernel
theorem dX12_waitsFor_44 : decode cX12_waitsFor 44 = .ok (.aload_n 0, 1) := by decide +kernel
theorem dX12_waitsFor_45 : decode cX12_waitsFor 45 = .ok (.getfield 338, 3) := by decide +kernel
theorem dX12_waitsFor_48 : decode cX12_waitsFor 48 = .ok (.iload_n 1, 1) := by decide +kernel
theorem dX12_waitsFor_49 : decode cX12_waitsFor 49 = .ok (.iastore, 1) := by decide +kernel
theorem dX12_waitsFor_50 : decode cX12_waitsFor 50 = .ok (.aload_n 0, 1) := by decide +kernel
theorem dX12_waitsFor_51 : decode cX12_waitsFor 51 = .ok (.dup, 1) := by decide +kernel
theorem dX12_waitsFor_52 : decode cX12_waitsFor 52 = .ok (.getfield 338, 3) := by decide +kernel
theorem dX12_waitsFor_55 : decode cX12_waitsFor 55 = .ok (.iconst 1, 1) := by decide +kernel
theorem dX12_waitsFor_56 : decode cX12_waitsFor 56 = .ok (.iadd, 1) := by decide +kernel
theorem dX12_waitsFor_57 : decode cX12_waitsFor 57 = .ok (.putfield 338, 3) := by decide +kernel
theorem dX12_waitsFor_60 : decode cX12_waitsFor 60 = .ok (.aload_n 0, 1) := by decide +kernel
theorem dX12_waitsFor_61 : decode cX12_waitsFor 61 = .ok (.getfield 110, 3) := by decide +kernel
theorem dX12_waitsFor_64 : decode cX12_waitsFor 64 = .ok (.iload_n 1, 1) := by decide +kernel
theorem dX12_waitsFor_65 : decode cX12_waitsFor 65 = .ok (.iconst 1, 1) := by decide +kernel
theorem dX12_waitsFor_66 : decode cX12_waitsFor 66 = .ok (.iastore, 1) := by decide +kernel
theorem dX12_waitsFor_67 : decode cX12_waitsFor 67 = .ok (.aload_n 0, 1) := by decide +kernel
theorem dX12_waitsFor_68 : decode cX12_waitsFor 68 = .ok (.getfield 107, 3) := by decide +kernel
theorem dX12_waitsFor_71 : decode cX12_waitsFor 71 = .ok (.iload_n 1, 1) := by decide +kernel
theorem dX12_waitsFor_72 : decode cX12_waitsFor 72 = .ok (.iload_n 2, 1) := by decide +kernel
theorem dX12_waitsFor_73 : decode cX12_waitsFor 73 = .ok (.iastore, 1) := by decide +kernel
theorem dX12_waitsFor_74 : decode cX12_waitsFor 74 = .ok (.return_, 1) := by decide +kernel
theorem dX12_firstState_0 : decode cX12_firstState 0 = .ok (.iconst (-1), 1) := by decide +kernel
theorem dX12_firstState_1 : decode cX12_firstState 1 = .ok (.istore_n 1, 1) := by decide +kernel
theorem dX12_firstState_2 : decode cX12_firstState 2 = .ok (.iconst 0, 1) := by decide +kernel
theorem dX12_firstState_3 : decode cX12_firstState 3 = .ok (.istore_n 2, 1) := by decide +kernel
theorem dX12_firstState_4 : decode cX12_firstState 4 = .ok (.iload_n 2, 1) := by decide +kernel
theorem dX12_firstState_5 : decode cX12_firstState 5 = .ok (.aload_n 0, 1) := by decide +kernel
theorem dX12_firstState_6 : decode cX12_firstState 6 = .ok (.getfield 338, 3) := by decide +kernel
theorem dX12_firstState_9 : decode cX12_firstState 9 = .ok (.if_icmp .ge 109, 3) := by decide +kernel
theorem dX12_firstState_12 : decode cX12_firstState 12 = .ok (.iload_n 1, 1) := by decide +kernel
theorem dX12_firstState_13 : decode cX12_firstState 13 = .ok (.iconst (-1), 1) := by decide +kernel
theorem dX12_firstState_14 : decode cX12_firstState 14 = .ok (.if_icmp .ne 8, 3) := by decide +kernel
theorem dX12_firstState_17 : decode cX12_firstState 17 = .ok (.iload_n 2, 1) := by decide +kernel
theorem dX12_firstState_18 : decode cX12_firstState 18 = .ok (.istore_n 1, 1) := by decide +kernel
theorem dX12_firstState_19 : decode cX12_firstState 19 = .ok (.goto 93, 3) := by decide +kernel
theorem dX12_firstState_22 : decode cX12_firstState 22 = .ok (.aload_n 0, 1) := by decide +kernel
theorem dX12_firstState_23 : decode cX12_firstState 23 = .ok (.aload_n 0, 1) := by decide +kernel
theorem dX12_firstState_24 : decode cX12_firstState 24 = .ok (.getfield 113, 3) := by decide +kernel
theorem dX12_firstState_27 : decode cX12_firstState 27 = .ok (.iload_n 2, 1) := by decide +kernel
theorem dX12_firstState_28 : decode cX12_firstState 28 = .ok (.iaload, 1) := by decide +kernel
theorem dX12_firstState_29 : decode cX12_firstState 29 = .ok (.invokevirtual 341, 3) := by decide +kernel
theorem dX12_firstState_32 : decode cX12_firstState 32 = .ok (.istore_n 3, 1) := by decide +kernel
theorem dX12_firstState_33 : decode cX12_firstState 33 = .ok (.aload_n 0, 1) := by decide +kernel
theorem dX12_firstState_34 : decode cX12_firstState 34 = .ok (.aload_n 0, 1) := by decide +kernel
theorem dX12_firstState_35 : decode cX12_firstState 35 = .ok (.getfield 113, 3) := by decide +kernel
theorem dX12_firstState_38 : decode cX12_firstState 38 = .ok (.iload_n 1, 1) := by decide +kernel
theorem dX12_firstState_39 : decode cX12_firstState 39 = .ok (.iaload, 1) := by decide +kernel
theorem dX12_firstState_40 : decode cX12_firstState 40 = .ok (.invokevirtual 341, 3) := by decide +kernel
theorem dX12_firstState_43 : decode cX12_firstState 43 = .ok (.istore 4, 2) := by decide +kernel
theorem dX12_firstState_45 : decode cX12_firstState 45 = .ok (.aload_n 0, 1) := by decide +kernel
theorem dX12_firstState_46 : decode cX12_firstState 46 = .ok (.getfield 113, 3) := by decide +kernel
theorem dX12_firstState_49 : decode cX12_firstState 49 = .ok (.iload_n 2, 1) := by decide +kernel
theorem dX12_firstState_50 : decode cX12_firstState 50 = .ok (.iaload, 1) := by decide +kernel
theorem dX12_firstState_51 : decode cX12_firstState 51 = .ok (.sipush 721, 3) := by decide +kernel
theorem dX12_firstState_54 : decode cX12_firstState 54 = .ok (.idiv, 1) := by decide +kernel
theorem dX12_firstState_55 : decode cX12_firstState 55 = .ok (.istore 5, 2) := by decide +kernel
theorem dX12_firstState_57 : decode cX12_firstState 57 = .ok (.aload_n 0, 1) := by decide +kernel
theorem dX12_firstState_58 : decode cX12_firstState 58 = .ok (.getfield 113, 3) := by decide +kernel
theorem dX12_firstState_61 : decode cX12_firstState 61 = .ok (.iload_n 1, 1) := by decide +kernel
theorem dX12_firstState_62 : decode cX12_firstState 62 = .ok (.iaload, 1) := by decide +kernel
theorem dX12_firstState_63 : decode cX12_firstState 63 = .ok (.sipush 721, 3) := by decide +kernel
theorem dX12_firstState_66 : decode cX12_firstState 66 = .ok (.idiv, 1) := by decide +kernel
theorem dX12_firstState_67 : decode cX12_firstState 67 = .ok (.istore 6, 2) := by decide +kernel
theorem dX12_firstState_69 : decode cX12_firstState 69 = .ok (.iload_n 3, 1) := by decide +kernel
theorem dX12_firstState_70 : decode cX12_firstState 70 = .ok (.iload 4, 2) := by decide +kernel
theorem dX12_firstState_72 : decode cX12_firstState 72 = .ok (.if_icmp .lt 38, 3) := by decide +kernel
theorem dX12_firstState_75 : decode cX12_firstState 75 = .ok (.iload_n 3, 1) := by decide +kernel
theorem dX12_firstState_76 : decode cX12_firstState 76 = .ok (.iload 4, 2) := by decide +kernel
theorem dX12_firstState_78 : decode cX12_firstState 78 = .ok (.if_icmp .ne 34, 3) := by decide +kernel
theorem dX12_firstState_81 : decode cX12_firstState 81 = .ok (.iload 5, 2) := by decide +kernel
theorem dX12_firstState_83 : decode cX12_firstState 83 = .ok (.iload 6, 2) := by decide +kernel
theorem dX12_firstState_85 : decode cX12_firstState 85 = .ok (.if_icmp .gt 25, 3) := by decide +kernel
theorem dX12_firstState_88 : decode cX12_firstState 88 = .ok (.iload 5, 2) := by decide +kernel
theorem dX12_firstState_90 : decode cX12_firstState 90 = .ok (.iload 6, 2) := by decide +kernel
theorem dX12_firstState_92 : decode cX12_firstState 92 = .ok (.if_icmp .ne 20, 3) := by decide +kernel
theorem dX12_firstState_95 : decode cX12_firstState 95 = .ok (.aload_n 0, 1) := by decide +kernel
theorem dX12_firstState_96 : decode cX12_firstState 96 = .ok (.getfield 113, 3) := by decide +kernel
theorem dX12_firstState_99 : decode cX12_firstState 99 = .ok (.iload_n 2, 1) := by decide +kernel
theorem dX12_firstState_100 : decode cX12_firstState 100 = .ok (.iaload, 1) := by decide +kernel
theorem dX12_firstState_101 : decode cX12_firstState 101 = .ok (.aload_n 0, 1) := by decide +kernel
theorem dX12_firstState_102 : decode cX12_firstState 102 = .ok (.getfield 113, 3) := by decide +kernel
theorem dX12_firstState_105 : decode cX12_firstState 105 = .ok (.iload_n 1, 1) := by decide +kernel
theorem dX12_firstState_106 : decode cX12_firstState 106 = .ok (.iaload, 1) := by decide +kernel
theorem dX12_firstState_107 : decode cX12_firstState 107 = .ok (.if_icmp .ge 5, 3) := by decide +kernel
theorem dX12_firstState_110 : decode cX12_firstState 110 = .ok (.iload_n 2, 1) := by decide +kernel
theorem dX12_firstState_111 : decode cX12_firstState 111 = .ok (.istore_n 1, 1) := by decide +kernel
theorem dX12_firstState_112 : decode cX12_firstState 112 = .ok (.iinc 2 1, 3) := by decide +kernel
theorem dX12_firstState_115 : decode cX12_firstState 115 = .ok (.goto (-111), 3) := by decide +kernel
theorem dX12_firstState_118 : decode cX12_firstState 118 = .ok (.iload_n 1, 1) := by decide +kernel
theorem dX12_firstState_119 : decode cX12_firstState 119 = .ok (.ireturn, 1) := by decide +kernel
theorem dX12_firstAnswer_0 : decode cX12_firstAnswer 0 = .ok (.iconst (-1), 1) := by decide +kernel
theorem dX12_firstAnswer_1 : decode cX12_firstAnswer 1 = .ok (.istore_n 1, 1) := by decide +kernel
theorem dX12_firstAnswer_2 : decode cX12_firstAnswer 2 = .ok (.iconst 0, 1) := by decide +kernel
theorem dX12_firstAnswer_3 : decode cX12_firstAnswer 3 = .ok (.istore_n 2, 1) := by decide +kernel
theorem dX12_firstAnswer_4 : decode cX12_firstAnswer 4 = .ok (.iload_n 2, 1) := by decide +kernel
theorem dX12_firstAnswer_5 : decode cX12_firstAnswer 5 = .ok (.aload_n 0, 1) := by decide +kernel
theorem dX12_firstAnswer_6 : decode cX12_firstAnswer 6 = .ok (.getfield 257, 3) := by decide +kernel
theorem dX12_firstAnswer_9 : decode cX12_firstAnswer 9 = .ok (.if_icmp .ge 40, 3) := by decide +kernel
theorem dX12_firstAnswer_12 : decode cX12_firstAnswer 12 = .ok (.aload_n 0, 1) := by decide +kernel
theorem dX12_firstAnswer_13 : decode cX12_firstAnswer 13 = .ok (.getfield 116, 3) := by decide +kernel
theorem dX12_firstAnswer_16 : decode cX12_firstAnswer 16 = .ok (.iload_n 2, 1) := by decide +kernel
theorem dX12_firstAnswer_17 : decode cX12_firstAnswer 17 = .ok (.iaload, 1) := by decide +kernel
theorem dX12_firstAnswer_18 : decode cX12_firstAnswer 18 = .ok (.ifCond .lt 25, 3) := by decide +kernel
theorem dX12_firstAnswer_21 : decode cX12_firstAnswer 21 = .ok (.iload_n 1, 1) := by decide +kernel
theorem dX12_firstAnswer_22 : decode cX12_firstAnswer 22 = .ok (.iconst (-1), 1) := by decide +kernel
theorem dX12_firstAnswer_23 : decode cX12_firstAnswer 23 = .ok (.if_icmp .eq 18, 3) := by decide +kernel
theorem dX12_firstAnswer_26 : decode cX12_firstAnswer 26 = .ok (.aload_n 0, 1) := by decide +kernel
theorem dX12_firstAnswer_27 : decode cX12_firstAnswer 27 = .ok (.getfield 116, 3) := by decide +kernel
theorem dX12_firstAnswer_30 : decode cX12_firstAnswer 30 = .ok (.iload_n 2, 1) := by decide +kernel
theorem dX12_firstAnswer_31 : decode cX12_firstAnswer 31 = .ok (.iaload, 1) := by decide +kernel
theorem dX12_firstAnswer_32 : decode cX12_firstAnswer 32 = .ok (.aload_n 0, 1) := by decide +kernel
theorem dX12_firstAnswer_33 : decode cX12_firstAnswer 33 = .ok (.getfield 116, 3) := by decide +kernel
theorem dX12_firstAnswer_36 : decode cX12_firstAnswer 36 = .ok (.iload_n 1, 1) := by decide +kernel
theorem dX12_firstAnswer_37 : decode cX12_firstAnswer 37 = .ok (.iaload, 1) := by decide +kernel
theorem dX12_firstAnswer_38 : decode cX12_firstAnswer 38 = .ok (.if_icmp .ge 5, 3) := by decide +kernel
theorem dX12_firstAnswer_41 : decode cX12_firstAnswer 41 = .ok (.iload_n 2, 1) := by decide +kernel
theorem dX12_firstAnswer_42 : decode cX12_firstAnswer 42 = .ok (.istore_n 1, 1) := by decide +kernel
theorem dX12_firstAnswer_43 : decode cX12_firstAnswer 43 = .ok (.iinc 2 1, 3) := by decide +kernel
theorem dX12_firstAnswer_46 : decode cX12_firstAnswer 46 = .ok (.goto (-42), 3) := by decide +kernel
theorem dX12_firstAnswer_49 : decode cX12_firstAnswer 49 = .ok (.iload_n 1, 1) := by decide +kernel
theorem dX12_firstAnswer_50 : decode cX12_firstAnswer 50 = .ok (.ireturn, 1) := by decide +kernel
theorem dX12_opens_0 : decode cX12_opens 0 = .ok (.aload_n 0, 1) := by decide +kernel
theorem dX12_opens_1 : decode cX12_opens 1 = .ok (.getfield 113, 3) := by decide +kernel
theorem dX12_opens_4 : decode cX12_opens 4 = .ok (.iload_n 1, 1) := by decide +kernel
theorem dX12_opens_5 : decode cX12_opens 5 = .ok (.iaload, 1) := by decide +kernel
theorem dX12_opens_6 : decode cX12_opens 6 = .ok (.istore_n 2, 1) := by decide +kernel
theorem dX12_opens_7 : decode cX12_opens 7 = .ok (.iload_n 2, 1) := by decide +kernel
theorem dX12_opens_8 : decode cX12_opens 8 = .ok (.sipush 721, 3) := by decide +kernel
theorem dX12_opens_11 : decode cX12_opens 11 = .ok (.idiv, 1) := by decide +kernel
theorem dX12_opens_12 : decode cX12_opens 12 = .ok (.istore_n 3, 1) := by decide +kernel
theorem dX12_opens_13 : decode cX12_opens 13 = .ok (.iload_n 2, 1) := by decide +kernel
theorem dX12_opens_14 : decode cX12_opens 14 = .ok (.sipush 721, 3) := by decide +kernel
theorem dX12_opens_17 : decode cX12_opens 17 = .ok (.irem, 1) := by decide +kernel
theorem dX12_opens_18 : decode cX12_opens 18 = .ok (.istore 4, 2) := by decide +kernel
theorem dX12_opens_20 : decode cX12_opens 20 = .ok (.aload_n 0, 1) := by decide +kernel
theorem dX12_opens_21 : decode cX12_opens 21 = .ok (.dup, 1) := by decide +kernel
theorem dX12_opens_22 : decode cX12_opens 22 = .ok (.getfield 338, 3) := by decide +kernel
theorem dX12_opens_25 : decode cX12_opens 25 = .ok (.iconst 1, 1) := by decide +kernel
theorem dX12_opens_26 : decode cX12_opens 26 = .ok (.isub, 1) := by decide +kernel
theorem dX12_opens_27 : decode cX12_opens 27 = .ok (.putfield 338, 3) := by decide +kernel
theorem dX12_opens_30 : decode cX12_opens 30 = .ok (.aload_n 0, 1) := by decide +kernel
theorem dX12_opens_31 : decode cX12_opens 31 = .ok (.getfield 113, 3) := by decide +kernel
theorem dX12_opens_34 : decode cX12_opens 34 = .ok (.iload_n 1, 1) := by decide +kernel
theorem dX12_opens_35 : decode cX12_opens 35 = .ok (.aload_n 0, 1) := by decide +kernel
theorem dX12_opens_36 : decode cX12_opens 36 = .ok (.getfield 113, 3) := by decide +kernel
theorem dX12_opens_39 : decode cX12_opens 39 = .ok (.aload_n 0, 1) := by decide +kernel
theorem dX12_opens_40 : decode cX12_opens 40 = .ok (.getfield 338, 3) := by decide +kernel
theorem dX12_opens_43 : decode cX12_opens 43 = .ok (.iaload, 1) := by decide +kernel
theorem dX12_opens_44 : decode cX12_opens 44 = .ok (.iastore, 1) := by decide +kernel
theorem dX12_opens_45 : decode cX12_opens 45 = .ok (.aload_n 0, 1) := by decide +kernel
theorem dX12_opens_46 : decode cX12_opens 46 = .ok (.getfield 110, 3) := by decide +kernel
theorem dX12_opens_49 : decode cX12_opens 49 = .ok (.iload_n 2, 1) := by decide +kernel
theorem dX12_opens_50 : decode cX12_opens 50 = .ok (.iconst 2, 1) := by decide +kernel
theorem dX12_opens_51 : decode cX12_opens 51 = .ok (.iastore, 1) := by decide +kernel
theorem dX12_opens_52 : decode cX12_opens 52 = .ok (.aload_n 0, 1) := by decide +kernel
theorem dX12_opens_53 : decode cX12_opens 53 = .ok (.dup, 1) := by decide +kernel
theorem dX12_opens_54 : decode cX12_opens 54 = .ok (.getfield 344, 3) := by decide +kernel
theorem dX12_opens_57 : decode cX12_opens 57 = .ok (.iconst 1, 1) := by decide +kernel
theorem dX12_opens_58 : decode cX12_opens 58 = .ok (.iadd, 1) := by decide +kernel
theorem dX12_opens_59 : decode cX12_opens 59 = .ok (.putfield 344, 3) := by decide +kernel
theorem dX12_opens_62 : decode cX12_opens 62 = .ok (.iload_n 3, 1) := by decide +kernel
theorem dX12_opens_63 : decode cX12_opens 63 = .ok (.aload_n 0, 1) := by decide +kernel
theorem dX12_opens_64 : decode cX12_opens 64 = .ok (.getfield 314, 3) := by decide +kernel
theorem dX12_opens_67 : decode cX12_opens 67 = .ok (.if_icmp .ne 45, 3) := by decide +kernel
theorem dX12_opens_70 : decode cX12_opens 70 = .ok (.aload_n 0, 1) := by decide +kernel
theorem dX12_opens_71 : decode cX12_opens 71 = .ok (.getfield 46, 3) := by decide +kernel
theorem dX12_opens_74 : decode cX12_opens 74 = .ok (.iload 4, 2) := by decide +kernel
theorem dX12_opens_76 : decode cX12_opens 76 = .ok (.iaload, 1) := by decide +kernel
theorem dX12_opens_77 : decode cX12_opens 77 = .ok (.iconst (-1), 1) := by decide +kernel
theorem dX12_opens_78 : decode cX12_opens 78 = .ok (.if_icmp .eq 34, 3) := by decide +kernel
theorem dX12_opens_81 : decode cX12_opens 81 = .ok (.aload_n 0, 1) := by decide +kernel
theorem dX12_opens_82 : decode cX12_opens 82 = .ok (.getfield 116, 3) := by decide +kernel
theorem dX12_opens_85 : decode cX12_opens 85 = .ok (.aload_n 0, 1) := by decide +kernel
theorem dX12_opens_86 : decode cX12_opens 86 = .ok (.getfield 46, 3) := by decide +kernel
theorem dX12_opens_89 : decode cX12_opens 89 = .ok (.iload 4, 2) := by decide +kernel
theorem dX12_opens_91 : decode cX12_opens 91 = .ok (.iaload, 1) := by decide +kernel
theorem dX12_opens_92 : decode cX12_opens 92 = .ok (.aload_n 0, 1) := by decide +kernel
theorem dX12_opens_93 : decode cX12_opens 93 = .ok (.getfield 107, 3) := by decide +kernel
theorem dX12_opens_96 : decode cX12_opens 96 = .ok (.iload_n 2, 1) := by decide +kernel
theorem dX12_opens_97 : decode cX12_opens 97 = .ok (.iaload, 1) := by decide +kernel
theorem dX12_opens_98 : decode cX12_opens 98 = .ok (.aload_n 0, 1) := by decide +kernel
theorem dX12_opens_99 : decode cX12_opens 99 = .ok (.getfield 31, 3) := by decide +kernel
theorem dX12_opens_102 : decode cX12_opens 102 = .ok (.aload_n 0, 1) := by decide +kernel
theorem dX12_opens_103 : decode cX12_opens 103 = .ok (.getfield 46, 3) := by decide +kernel
theorem dX12_opens_106 : decode cX12_opens 106 = .ok (.iload 4, 2) := by decide +kernel
theorem dX12_opens_108 : decode cX12_opens 108 = .ok (.iaload, 1) := by decide +kernel
theorem dX12_opens_109 : decode cX12_opens 109 = .ok (.iaload, 1) := by decide +kernel
theorem dX12_opens_110 : decode cX12_opens 110 = .ok (.iadd, 1) := by decide +kernel
theorem dX12_opens_111 : decode cX12_opens 111 = .ok (.iastore, 1) := by decide +kernel
theorem dX12_opens_112 : decode cX12_opens 112 = .ok (.iconst 0, 1) := by decide +kernel
theorem dX12_opens_113 : decode cX12_opens 113 = .ok (.istore 5, 2) := by decide +kernel
theorem dX12_opens_115 : decode cX12_opens 115 = .ok (.iload_n 3, 1) := by decide +kernel
theorem dX12_opens_116 : decode cX12_opens 116 = .ok (.aload_n 0, 1) := by decide +kernel
theorem dX12_opens_117 : decode cX12_opens 117 = .ok (.getfield 314, 3) := by decide +kernel
theorem dX12_opens_120 : decode cX12_opens 120 = .ok (.if_icmp .ge 106, 3) := by decide +kernel
theorem dX12_opens_123 : decode cX12_opens 123 = .ok (.iload 5, 2) := by decide +kernel
theorem dX12_opens_125 : decode cX12_opens 125 = .ok (.aload_n 0, 1) := by decide +kernel
theorem dX12_opens_126 : decode cX12_opens 126 = .ok (.getfield 95, 3) := by decide +kernel
theorem dX12_opens_129 : decode cX12_opens 129 = .ok (.iload_n 3, 1) := by decide +kernel
theorem dX12_opens_130 : decode cX12_opens 130 = .ok (.iaload, 1) := by decide +kernel
theorem dX12_opens_131 : decode cX12_opens 131 = .ok (.if_icmp .ge 95, 3) := by decide +kernel
theorem dX12_opens_134 : decode cX12_opens 134 = .ok (.aload_n 0, 1) := by decide +kernel
theorem dX12_opens_135 : decode cX12_opens 135 = .ok (.getfield 101, 3) := by decide +kernel
theorem dX12_opens_138 : decode cX12_opens 138 = .ok (.iload_n 3, 1) := by decide +kernel
theorem dX12_opens_139 : decode cX12_opens 139 = .ok (.aaload, 1) := by decide +kernel
theorem dX12_opens_140 : decode cX12_opens 140 = .ok (.iload 5, 2) := by decide +kernel
theorem dX12_opens_142 : decode cX12_opens 142 = .ok (.aaload, 1) := by decide +kernel
theorem dX12_opens_143 : decode cX12_opens 143 = .ok (.astore 6, 2) := by decide +kernel
theorem dX12_opens_145 : decode cX12_opens 145 = .ok (.iload 4, 2) := by decide +kernel
theorem dX12_opens_147 : decode cX12_opens 147 = .ok (.istore 7, 2) := by decide +kernel
theorem dX12_opens_149 : decode cX12_opens 149 = .ok (.iconst 0, 1) := by decide +kernel
theorem dX12_opens_150 : decode cX12_opens 150 = .ok (.istore 8, 2) := by decide +kernel
theorem dX12_opens_152 : decode cX12_opens 152 = .ok (.iload 8, 2) := by decide +kernel
theorem dX12_opens_154 : decode cX12_opens 154 = .ok (.aload 6, 2) := by decide +kernel
theorem dX12_opens_156 : decode cX12_opens 156 = .ok (.iconst 2, 1) := by decide +kernel
theorem dX12_opens_157 : decode cX12_opens 157 = .ok (.iaload, 1) := by decide +kernel
theorem dX12_opens_158 : decode cX12_opens 158 = .ok (.if_icmp .ge 30, 3) := by decide +kernel
theorem dX12_opens_161 : decode cX12_opens 161 = .ok (.iload 7, 2) := by decide +kernel
theorem dX12_opens_163 : decode cX12_opens 163 = .ok (.iconst (-1), 1) := by decide +kernel
theorem dX12_opens_164 : decode cX12_opens 164 = .ok (.if_icmp .eq 24, 3) := by decide +kernel
theorem dX12_opens_167 : decode cX12_opens 167 = .ok (.aload_n 0, 1) := by decide +kernel
theorem dX12_opens_168 : decode cX12_opens 168 = .ok (.iload 7, 2) := by decide +kernel
theorem dX12_opens_170 : decode cX12_opens 170 = .ok (.aload 6, 2) := by decide +kernel
theorem dX12_opens_172 : decode cX12_opens 172 = .ok (.iconst 3, 1) := by decide +kernel
theorem dX12_opens_173 : decode cX12_opens 173 = .ok (.iload 8, 2) := by decide +kernel
theorem dX12_opens_175 : decode cX12_opens 175 = .ok (.iadd, 1) := by decide +kernel
theorem dX12_opens_176 : decode cX12_opens 176 = .ok (.iaload, 1) := by decide +kernel
theorem dX12_opens_177 : decode cX12_opens 177 = .ok (.invokevirtual 272, 3) := by decide +kernel
theorem dX12_opens_180 : decode cX12_opens 180 = .ok (.istore 7, 2) := by decide +kernel
theorem dX12_opens_182 : decode cX12_opens 182 = .ok (.iinc 8 1, 3) := by decide +kernel
theorem dX12_opens_185 : decode cX12_opens 185 = .ok (.goto (-33), 3) := by decide +kernel
theorem dX12_opens_188 : decode cX12_opens 188 = .ok (.iload 7, 2) := by decide +kernel
theorem dX12_opens_190 : decode cX12_opens 190 = .ok (.iconst (-1), 1) := by decide +kernel
theorem dX12_opens_191 : decode cX12_opens 191 = .ok (.if_icmp .eq 29, 3) := by decide +kernel
theorem dX12_opens_194 : decode cX12_opens 194 = .ok (.aload_n 0, 1) := by decide +kernel
theorem dX12_opens_195 : decode cX12_opens 195 = .ok (.aload 6, 2) := by decide +kernel
theorem dX12_opens_197 : decode cX12_opens 197 = .ok (.iconst 0, 1) := by decide +kernel
theorem dX12_opens_198 : decode cX12_opens 198 = .ok (.iaload, 1) := by decide +kernel
theorem dX12_opens_199 : decode cX12_opens 199 = .ok (.sipush 721, 3) := by decide +kernel
theorem dX12_opens_202 : decode cX12_opens 202 = .ok (.imul, 1) := by decide +kernel
theorem dX12_opens_203 : decode cX12_opens 203 = .ok (.iload 7, 2) := by decide +kernel
theorem dX12_opens_205 : decode cX12_opens 205 = .ok (.iadd, 1) := by decide +kernel
theorem dX12_opens_206 : decode cX12_opens 206 = .ok (.aload_n 0, 1) := by decide +kernel
theorem dX12_opens_207 : decode cX12_opens 207 = .ok (.getfield 107, 3) := by decide +kernel
theorem dX12_opens_210 : decode cX12_opens 210 = .ok (.iload_n 2, 1) := by decide +kernel
theorem dX12_opens_211 : decode cX12_opens 211 = .ok (.iaload, 1) := by decide +kernel
theorem dX12_opens_212 : decode cX12_opens 212 = .ok (.aload 6, 2) := by decide +kernel
theorem dX12_opens_214 : decode cX12_opens 214 = .ok (.iconst 1, 1) := by decide +kernel
theorem dX12_opens_215 : decode cX12_opens 215 = .ok (.iaload, 1) := by decide +kernel
theorem dX12_opens_216 : decode cX12_opens 216 = .ok (.iadd, 1) := by decide +kernel
theorem dX12_opens_217 : decode cX12_opens 217 = .ok (.invokevirtual 347, 3) := by decide +kernel
theorem dX12_opens_220 : decode cX12_opens 220 = .ok (.iinc 5 1, 3) := by decide +kernel
theorem dX12_opens_223 : decode cX12_opens 223 = .ok (.goto (-108), 3) := by decide +kernel
theorem dX12_opens_226 : decode cX12_opens 226 = .ok (.return_, 1) := by decide +kernel
theorem dX12_searches_0 : decode cX12_searches 0 = .ok (.aload_n 0, 1) := by decide +kernel
theorem dX12_searches_1 : decode cX12_searches 1 = .ok (.iconst 0, 1) := by decide +kernel
theorem dX12_searches_2 : decode cX12_searches 2 = .ok (.putfield 338, 3) := by decide +kernel
theorem dX12_searches_5 : decode cX12_searches 5 = .ok (.aload_n 0, 1) := by decide +kernel
theorem dX12_searches_6 : decode cX12_searches 6 = .ok (.iconst 0, 1) := by decide +kernel
theorem dX12_searches_7 : decode cX12_searches 7 = .ok (.putfield 344, 3) := by decide +kernel
theorem dX12_searches_10 : decode cX12_searches 10 = .ok (.aload_n 0, 1) := by decide +kernel
theorem dX12_searches_11 : decode cX12_searches 11 = .ok (.iconst 0, 1) := by decide +kernel
theorem dX12_searches_12 : decode cX12_searches 12 = .ok (.putfield 350, 3) := by decide +kernel
theorem dX12_searches_15 : decode cX12_searches 15 = .ok (.iconst 0, 1) := by decide +kernel
theorem dX12_searches_16 : decode cX12_searches 16 = .ok (.istore_n 2, 1) := by decide +kernel
theorem dX12_searches_17 : decode cX12_searches 17 = .ok (.iload_n 2, 1) := by decide +kernel
theorem dX12_searches_18 : decode cX12_searches 18 = .ok (.aload_n 0, 1) := by decide +kernel
theorem dX12_searches_19 : decode cX12_searches 19 = .ok (.getfield 314, 3) := by decide +kernel
theorem dX12_searches_22 : decode cX12_searches 22 = .ok (.iconst 1, 1) := by decide +kernel
theorem dX12_searches_23 : decode cX12_searches 23 = .ok (.iadd, 1) := by decide +kernel
theorem dX12_searches_24 : decode cX12_searches 24 = .ok (.sipush 721, 3) := by decide +kernel
theorem dX12_searches_27 : decode cX12_searches 27 = .ok (.imul, 1) := by decide +kernel
theorem dX12_searches_28 : decode cX12_searches 28 = .ok (.if_icmp .ge 16, 3) := by decide +kernel
theorem dX12_searches_31 : decode cX12_searches 31 = .ok (.aload_n 0, 1) := by decide +kernel
theorem dX12_searches_32 : decode cX12_searches 32 = .ok (.getfield 110, 3) := by decide +kernel
theorem dX12_searches_35 : decode cX12_searches 35 = .ok (.iload_n 2, 1) := by decide +kernel
theorem dX12_searches_36 : decode cX12_searches 36 = .ok (.iconst 0, 1) := by decide +kernel
theorem dX12_searches_37 : decode cX12_searches 37 = .ok (.iastore, 1) := by decide +kernel
theorem dX12_searches_38 : decode cX12_searches 38 = .ok (.iinc 2 1, 3) := by decide +kernel
theorem dX12_searches_41 : decode cX12_searches 41 = .ok (.goto (-24), 3) := by decide +kernel
theorem dX12_searches_44 : decode cX12_searches 44 = .ok (.iconst 0, 1) := by decide +kernel
theorem dX12_searches_45 : decode cX12_searches 45 = .ok (.istore_n 2, 1) := by decide +kernel
theorem dX12_searches_46 : decode cX12_searches 46 = .ok (.iload_n 2, 1) := by decide +kernel
theorem dX12_searches_47 : decode cX12_searches 47 = .ok (.aload_n 0, 1) := by decide +kernel
theorem dX12_searches_48 : decode cX12_searches 48 = .ok (.getfield 257, 3) := by decide +kernel
theorem dX12_searches_51 : decode cX12_searches 51 = .ok (.if_icmp .ge 16, 3) := by decide +kernel
theorem dX12_searches_54 : decode cX12_searches 54 = .ok (.aload_n 0, 1) := by decide +kernel
theorem dX12_searches_55 : decode cX12_searches 55 = .ok (.getfield 116, 3) := by decide +kernel
theorem dX12_searches_58 : decode cX12_searches 58 = .ok (.iload_n 2, 1) := by decide +kernel
theorem dX12_searches_59 : decode cX12_searches 59 = .ok (.iconst (-1), 1) := by decide +kernel
theorem dX12_searches_60 : decode cX12_searches 60 = .ok (.iastore, 1) := by decide +kernel
theorem dX12_searches_61 : decode cX12_searches 61 = .ok (.iinc 2 1, 3) := by decide +kernel
theorem dX12_searches_64 : decode cX12_searches 64 = .ok (.goto (-18), 3) := by decide +kernel
theorem dX12_searches_67 : decode cX12_searches 67 = .ok (.aload_n 0, 1) := by decide +kernel
theorem dX12_searches_68 : decode cX12_searches 68 = .ok (.getfield 257, 3) := by decide +kernel
theorem dX12_searches_71 : decode cX12_searches 71 = .ok (.ifCond .le 9, 3) := by decide +kernel
theorem dX12_searches_74 : decode cX12_searches 74 = .ok (.aload_n 0, 1) := by decide +kernel
theorem dX12_searches_75 : decode cX12_searches 75 = .ok (.iconst 0, 1) := by decide +kernel
theorem dX12_searches_76 : decode cX12_searches 76 = .ok (.iconst 0, 1) := by decide +kernel
theorem dX12_searches_77 : decode cX12_searches 77 = .ok (.invokevirtual 347, 3) := by decide +kernel
theorem dX12_searches_80 : decode cX12_searches 80 = .ok (.aload_n 0, 1) := by decide +kernel
theorem dX12_searches_81 : decode cX12_searches 81 = .ok (.getfield 350, 3) := by decide +kernel
theorem dX12_searches_84 : decode cX12_searches 84 = .ok (.iload_n 1, 1) := by decide +kernel
theorem dX12_searches_85 : decode cX12_searches 85 = .ok (.if_icmp .ge 119, 3) := by decide +kernel
theorem dX12_searches_88 : decode cX12_searches 88 = .ok (.aload_n 0, 1) := by decide +kernel
theorem dX12_searches_89 : decode cX12_searches 89 = .ok (.invokevirtual 353, 3) := by decide +kernel
theorem dX12_searches_92 : decode cX12_searches 92 = .ok (.istore_n 2, 1) := by decide +kernel
theorem dX12_searches_93 : decode cX12_searches 93 = .ok (.aload_n 0, 1) := by decide +kernel
theorem dX12_searches_94 : decode cX12_searches 94 = .ok (.invokevirtual 356, 3) := by decide +kernel
theorem dX12_searches_97 : decode cX12_searches 97 = .ok (.istore_n 3, 1) := by decide +kernel
theorem dX12_searches_98 : decode cX12_searches 98 = .ok (.iload_n 2, 1) := by decide +kernel
theorem dX12_searches_99 : decode cX12_searches 99 = .ok (.iconst (-1), 1) := by decide +kernel
theorem dX12_searches_100 : decode cX12_searches 100 = .ok (.if_icmp .ne 9, 3) := by decide +kernel
theorem dX12_searches_103 : decode cX12_searches 103 = .ok (.iload_n 3, 1) := by decide +kernel
theorem dX12_searches_104 : decode cX12_searches 104 = .ok (.iconst (-1), 1) := by decide +kernel
theorem dX12_searches_105 : decode cX12_searches 105 = .ok (.if_icmp .ne 4, 3) := by decide +kernel
theorem dX12_searches_108 : decode cX12_searches 108 = .ok (.return_, 1) := by decide +kernel
theorem dX12_searches_109 : decode cX12_searches 109 = .ok (.iload_n 2, 1) := by decide +kernel
theorem dX12_searches_110 : decode cX12_searches 110 = .ok (.iconst (-1), 1) := by decide +kernel
theorem dX12_searches_111 : decode cX12_searches 111 = .ok (.if_icmp .eq 85, 3) := by decide +kernel
theorem dX12_searches_114 : decode cX12_searches 114 = .ok (.iload_n 3, 1) := by decide +kernel
theorem dX12_searches_115 : decode cX12_searches 115 = .ok (.iconst (-1), 1) := by decide +kernel
theorem dX12_searches_116 : decode cX12_searches 116 = .ok (.if_icmp .eq 22, 3) := by decide +kernel
theorem dX12_searches_119 : decode cX12_searches 119 = .ok (.aload_n 0, 1) := by decide +kernel
theorem dX12_searches_120 : decode cX12_searches 120 = .ok (.getfield 116, 3) := by decide +kernel
theorem dX12_searches_123 : decode cX12_searches 123 = .ok (.iload_n 2, 1) := by decide +kernel
theorem dX12_searches_124 : decode cX12_searches 124 = .ok (.iaload, 1) := by decide +kernel
theorem dX12_searches_125 : decode cX12_searches 125 = .ok (.aload_n 0, 1) := by decide +kernel
theorem dX12_searches_126 : decode cX12_searches 126 = .ok (.aload_n 0, 1) := by decide +kernel
theorem dX12_searches_127 : decode cX12_searches 127 = .ok (.getfield 113, 3) := by decide +kernel
theorem dX12_searches_130 : decode cX12_searches 130 = .ok (.iload_n 3, 1) := by decide +kernel
theorem dX12_searches_131 : decode cX12_searches 131 = .ok (.iaload, 1) := by decide +kernel
theorem dX12_searches_132 : decode cX12_searches 132 = .ok (.invokevirtual 341, 3) := by decide +kernel
theorem dX12_searches_135 : decode cX12_searches 135 = .ok (.if_icmp .gt 61, 3) := by decide +kernel
theorem dX12_searches_138 : decode cX12_searches 138 = .ok (.aload_n 0, 1) := by decide +kernel
theorem dX12_searches_139 : decode cX12_searches 139 = .ok (.getfield 119, 3) := by decide +kernel
theorem dX12_searches_142 : decode cX12_searches 142 = .ok (.aload_n 0, 1) := by decide +kernel
theorem dX12_searches_143 : decode cX12_searches 143 = .ok (.getfield 350, 3) := by decide +kernel
theorem dX12_searches_146 : decode cX12_searches 146 = .ok (.iload_n 2, 1) := by decide +kernel
theorem dX12_searches_147 : decode cX12_searches 147 = .ok (.iastore, 1) := by decide +kernel
theorem dX12_searches_148 : decode cX12_searches 148 = .ok (.aload_n 0, 1) := by decide +kernel
theorem dX12_searches_149 : decode cX12_searches 149 = .ok (.getfield 122, 3) := by decide +kernel
theorem dX12_searches_152 : decode cX12_searches 152 = .ok (.aload_n 0, 1) := by decide +kernel
theorem dX12_searches_153 : decode cX12_searches 153 = .ok (.getfield 350, 3) := by decide +kernel
theorem dX12_searches_156 : decode cX12_searches 156 = .ok (.aload_n 0, 1) := by decide +kernel
theorem dX12_searches_157 : decode cX12_searches 157 = .ok (.getfield 116, 3) := by decide +kernel
theorem dX12_searches_160 : decode cX12_searches 160 = .ok (.iload_n 2, 1) := by decide +kernel
theorem dX12_searches_161 : decode cX12_searches 161 = .ok (.iaload, 1) := by decide +kernel
theorem dX12_searches_162 : decode cX12_searches 162 = .ok (.iastore, 1) := by decide +kernel
theorem dX12_searches_163 : decode cX12_searches 163 = .ok (.aload_n 0, 1) := by decide +kernel
theorem dX12_searches_164 : decode cX12_searches 164 = .ok (.getfield 125, 3) := by decide +kernel
theorem dX12_searches_167 : decode cX12_searches 167 = .ok (.aload_n 0, 1) := by decide +kernel
theorem dX12_searches_168 : decode cX12_searches 168 = .ok (.getfield 350, 3) := by decide +kernel
theorem dX12_searches_171 : decode cX12_searches 171 = .ok (.aload_n 0, 1) := by decide +kernel
theorem dX12_searches_172 : decode cX12_searches 172 = .ok (.getfield 344, 3) := by decide +kernel
theorem dX12_searches_175 : decode cX12_searches 175 = .ok (.iastore, 1) := by decide +kernel
theorem dX12_searches_176 : decode cX12_searches 176 = .ok (.aload_n 0, 1) := by decide +kernel
theorem dX12_searches_177 : decode cX12_searches 177 = .ok (.dup, 1) := by decide +kernel
theorem dX12_searches_178 : decode cX12_searches 178 = .ok (.getfield 350, 3) := by decide +kernel
theorem dX12_searches_181 : decode cX12_searches 181 = .ok (.iconst 1, 1) := by decide +kernel
theorem dX12_searches_182 : decode cX12_searches 182 = .ok (.iadd, 1) := by decide +kernel
theorem dX12_searches_183 : decode cX12_searches 183 = .ok (.putfield 350, 3) := by decide +kernel
theorem dX12_searches_186 : decode cX12_searches 186 = .ok (.aload_n 0, 1) := by decide +kernel
theorem dX12_searches_187 : decode cX12_searches 187 = .ok (.getfield 116, 3) := by decide +kernel
theorem dX12_searches_190 : decode cX12_searches 190 = .ok (.iload_n 2, 1) := by decide +kernel
theorem dX12_searches_191 : decode cX12_searches 191 = .ok (.iconst (-1), 1) := by decide +kernel
theorem dX12_searches_192 : decode cX12_searches 192 = .ok (.iastore, 1) := by decide +kernel
theorem dX12_searches_193 : decode cX12_searches 193 = .ok (.goto 8, 3) := by decide +kernel
theorem dX12_searches_196 : decode cX12_searches 196 = .ok (.aload_n 0, 1) := by decide +kernel
theorem dX12_searches_197 : decode cX12_searches 197 = .ok (.iload_n 3, 1) := by decide +kernel
theorem dX12_searches_198 : decode cX12_searches 198 = .ok (.invokevirtual 359, 3) := by decide +kernel
theorem dX12_searches_201 : decode cX12_searches 201 = .ok (.goto (-121), 3) := by decide +kernel
theorem dX12_searches_204 : decode cX12_searches 204 = .ok (.return_, 1) := by decide +kernel
theorem dX12_outside_0 : decode cX12_outside 0 = .ok (.aload_n 0, 1) := by decide +kernel
theorem dX12_outside_1 : decode cX12_outside 1 = .ok (.getfield 20, 3) := by decide +kernel
theorem dX12_outside_4 : decode cX12_outside 4 = .ok (.iconst 0, 1) := by decide +kernel
theorem dX12_outside_5 : decode cX12_outside 5 = .ok (.iaload, 1) := by decide +kernel
theorem dX12_outside_6 : decode cX12_outside 6 = .ok (.aload_n 0, 1) := by decide +kernel
theorem dX12_outside_7 : decode cX12_outside 7 = .ok (.getfield 20, 3) := by decide +kernel
theorem dX12_outside_10 : decode cX12_outside 10 = .ok (.iconst 1, 1) := by decide +kernel
theorem dX12_outside_11 : decode cX12_outside 11 = .ok (.iaload, 1) := by decide +kernel
theorem dX12_outside_12 : decode cX12_outside 12 = .ok (.aload_n 0, 1) := by decide +kernel
theorem dX12_outside_13 : decode cX12_outside 13 = .ok (.getfield 314, 3) := by decide +kernel
theorem dX12_outside_16 : decode cX12_outside 16 = .ok (.imul, 1) := by decide +kernel
theorem dX12_outside_17 : decode cX12_outside 17 = .ok (.iadd, 1) := by decide +kernel
theorem dX12_outside_18 : decode cX12_outside 18 = .ok (.ireturn, 1) := by decide +kernel
theorem dX12_told_0 : decode cX12_told 0 = .ok (.aload_n 0, 1) := by decide +kernel
theorem dX12_told_1 : decode cX12_told 1 = .ok (.iconst 0, 1) := by decide +kernel
theorem dX12_told_2 : decode cX12_told 2 = .ok (.putfield 180, 3) := by decide +kernel
theorem dX12_told_5 : decode cX12_told 5 = .ok (.aload_n 0, 1) := by decide +kernel
theorem dX12_told_6 : decode cX12_told 6 = .ok (.iload_n 1, 1) := by decide +kernel
theorem dX12_told_7 : decode cX12_told 7 = .ok (.iconst 0, 1) := by decide +kernel
theorem dX12_told_8 : decode cX12_told 8 = .ok (.bipush 12, 2) := by decide +kernel
theorem dX12_told_10 : decode cX12_told 10 = .ok (.invokestatic 223, 3) := by decide +kernel
theorem dX12_told_13 : decode cX12_told 13 = .ok (.ifCond .ne 7, 3) := by decide +kernel
theorem dX12_told_16 : decode cX12_told 16 = .ok (.iconst 1, 1) := by decide +kernel
theorem dX12_told_17 : decode cX12_told 17 = .ok (.goto 4, 3) := by decide +kernel
theorem dX12_told_20 : decode cX12_told 20 = .ok (.iconst 0, 1) := by decide +kernel
theorem dX12_told_21 : decode cX12_told 21 = .ok (.iconst 1, 1) := by decide +kernel
theorem dX12_told_22 : decode cX12_told 22 = .ok (.iconst 1, 1) := by decide +kernel
theorem dX12_told_23 : decode cX12_told 23 = .ok (.invokevirtual 249, 3) := by decide +kernel
theorem dX12_told_26 : decode cX12_told 26 = .ok (.ifCond .eq 5, 3) := by decide +kernel
theorem dX12_told_29 : decode cX12_told 29 = .ok (.iconst 0, 1) := by decide +kernel
theorem dX12_told_30 : decode cX12_told 30 = .ok (.ireturn, 1) := by decide +kernel
theorem dX12_told_31 : decode cX12_told 31 = .ok (.iload_n 1, 1) := by decide +kernel
theorem dX12_told_32 : decode cX12_told 32 = .ok (.tableswitch 125 0 12 #[68, 73, 78, 85, 92, 125, 125, 125, 125, 125, 125, 112, 117], 68) := by decide +kernel
theorem dX12_told_100 : decode cX12_told 100 = .ok (.aload_n 0, 1) := by decide +kernel
theorem dX12_told_101 : decode cX12_told 101 = .ok (.getfield 257, 3) := by decide +kernel
theorem dX12_told_104 : decode cX12_told 104 = .ok (.ireturn, 1) := by decide +kernel
theorem dX12_told_105 : decode cX12_told 105 = .ok (.aload_n 0, 1) := by decide +kernel
theorem dX12_told_106 : decode cX12_told 106 = .ok (.getfield 37, 3) := by decide +kernel
theorem dX12_told_109 : decode cX12_told 109 = .ok (.ireturn, 1) := by decide +kernel
theorem dX12_told_110 : decode cX12_told 110 = .ok (.aload_n 0, 1) := by decide +kernel
theorem dX12_told_111 : decode cX12_told 111 = .ok (.getfield 55, 3) := by decide +kernel
theorem dX12_told_114 : decode cX12_told 114 = .ok (.iconst 0, 1) := by decide +kernel
theorem dX12_told_115 : decode cX12_told 115 = .ok (.iaload, 1) := by decide +kernel
theorem dX12_told_116 : decode cX12_told 116 = .ok (.ireturn, 1) := by decide +kernel
theorem dX12_told_117 : decode cX12_told 117 = .ok (.aload_n 0, 1) := by decide +kernel
theorem dX12_told_118 : decode cX12_told 118 = .ok (.getfield 66, 3) := by decide +kernel
theorem dX12_told_121 : decode cX12_told 121 = .ok (.iconst 0, 1) := by decide +kernel
theorem dX12_told_122 : decode cX12_told 122 = .ok (.iaload, 1) := by decide +kernel
theorem dX12_told_123 : decode cX12_told 123 = .ok (.ireturn, 1) := by decide +kernel
theorem dX12_told_124 : decode cX12_told 124 = .ok (.aload_n 0, 1) := by decide +kernel
theorem dX12_told_125 : decode cX12_told 125 = .ok (.getfield 310, 3) := by decide +kernel
theorem dX12_told_128 : decode cX12_told 128 = .ok (.ifCond .eq 14, 3) := by decide +kernel
theorem dX12_told_131 : decode cX12_told 131 = .ok (.aload_n 0, 1) := by decide +kernel
theorem dX12_told_132 : decode cX12_told 132 = .ok (.getfield 69, 3) := by decide +kernel
theorem dX12_told_135 : decode cX12_told 135 = .ok (.iconst 0, 1) := by decide +kernel
theorem dX12_told_136 : decode cX12_told 136 = .ok (.iaload, 1) := by decide +kernel
theorem dX12_told_137 : decode cX12_told 137 = .ok (.iconst 1, 1) := by decide +kernel
theorem dX12_told_138 : decode cX12_told 138 = .ok (.iadd, 1) := by decide +kernel
theorem dX12_told_139 : decode cX12_told 139 = .ok (.goto 4, 3) := by decide +kernel
theorem dX12_told_142 : decode cX12_told 142 = .ok (.iconst 0, 1) := by decide +kernel
theorem dX12_told_143 : decode cX12_told 143 = .ok (.ireturn, 1) := by decide +kernel
theorem dX12_told_144 : decode cX12_told 144 = .ok (.aload_n 0, 1) := by decide +kernel
theorem dX12_told_145 : decode cX12_told 145 = .ok (.getfield 183, 3) := by decide +kernel
theorem dX12_told_148 : decode cX12_told 148 = .ok (.ireturn, 1) := by decide +kernel
theorem dX12_told_149 : decode cX12_told 149 = .ok (.aload_n 0, 1) := by decide +kernel
theorem dX12_told_150 : decode cX12_told 150 = .ok (.getfield 20, 3) := by decide +kernel
theorem dX12_told_153 : decode cX12_told 153 = .ok (.bipush 6, 2) := by decide +kernel
theorem dX12_told_155 : decode cX12_told 155 = .ok (.iaload, 1) := by decide +kernel
theorem dX12_told_156 : decode cX12_told 156 = .ok (.ireturn, 1) := by decide +kernel
theorem dX12_told_157 : decode cX12_told 157 = .ok (.aload_n 0, 1) := by decide +kernel
theorem dX12_told_158 : decode cX12_told 158 = .ok (.getfield 20, 3) := by decide +kernel
theorem dX12_told_161 : decode cX12_told 161 = .ok (.iload_n 1, 1) := by decide +kernel
theorem dX12_told_162 : decode cX12_told 162 = .ok (.iconst 5, 1) := by decide +kernel
theorem dX12_told_163 : decode cX12_told 163 = .ok (.isub, 1) := by decide +kernel
theorem dX12_told_164 : decode cX12_told 164 = .ok (.iaload, 1) := by decide +kernel
theorem dX12_told_165 : decode cX12_told 165 = .ok (.ireturn, 1) := by decide +kernel
theorem dX12_word_0 : decode cX12_word 0 = .ok (.aload_n 0, 1) := by decide +kernel
theorem dX12_word_1 : decode cX12_word 1 = .ok (.iconst 0, 1) := by decide +kernel
theorem dX12_word_2 : decode cX12_word 2 = .ok (.putfield 180, 3) := by decide +kernel
theorem dX12_word_5 : decode cX12_word 5 = .ok (.aload_n 0, 1) := by decide +kernel
theorem dX12_word_6 : decode cX12_word 6 = .ok (.aload_n 0, 1) := by decide +kernel
theorem dX12_word_7 : decode cX12_word 7 = .ok (.iload_n 1, 1) := by decide +kernel
theorem dX12_word_8 : decode cX12_word 8 = .ok (.invokevirtual 282, 3) := by decide +kernel
theorem dX12_word_11 : decode cX12_word 11 = .ok (.ifCond .ne 7, 3) := by decide +kernel
theorem dX12_word_14 : decode cX12_word 14 = .ok (.iconst 1, 1) := by decide +kernel
theorem dX12_word_15 : decode cX12_word 15 = .ok (.goto 4, 3) := by decide +kernel
theorem dX12_word_18 : decode cX12_word 18 = .ok (.iconst 0, 1) := by decide +kernel
theorem dX12_word_19 : decode cX12_word 19 = .ok (.iconst 1, 1) := by decide +kernel
theorem dX12_word_20 : decode cX12_word 20 = .ok (.iconst 0, 1) := by decide +kernel
theorem dX12_word_21 : decode cX12_word 21 = .ok (.invokevirtual 249, 3) := by decide +kernel
theorem dX12_word_24 : decode cX12_word 24 = .ok (.ifCond .ne 26, 3) := by decide +kernel
theorem dX12_word_27 : decode cX12_word 27 = .ok (.aload_n 0, 1) := by decide +kernel
theorem dX12_word_28 : decode cX12_word 28 = .ok (.iload_n 2, 1) := by decide +kernel
theorem dX12_word_29 : decode cX12_word 29 = .ok (.iconst 0, 1) := by decide +kernel
theorem dX12_word_30 : decode cX12_word 30 = .ok (.iconst 3, 1) := by decide +kernel
theorem dX12_word_31 : decode cX12_word 31 = .ok (.invokestatic 223, 3) := by decide +kernel
theorem dX12_word_34 : decode cX12_word 34 = .ok (.ifCond .ne 7, 3) := by decide +kernel
theorem dX12_word_37 : decode cX12_word 37 = .ok (.iconst 1, 1) := by decide +kernel
theorem dX12_word_38 : decode cX12_word 38 = .ok (.goto 4, 3) := by decide +kernel
theorem dX12_word_41 : decode cX12_word 41 = .ok (.iconst 0, 1) := by decide +kernel
theorem dX12_word_42 : decode cX12_word 42 = .ok (.iconst 2, 1) := by decide +kernel
theorem dX12_word_43 : decode cX12_word 43 = .ok (.iconst 1, 1) := by decide +kernel
theorem dX12_word_44 : decode cX12_word 44 = .ok (.invokevirtual 249, 3) := by decide +kernel
theorem dX12_word_47 : decode cX12_word 47 = .ok (.ifCond .eq 5, 3) := by decide +kernel
theorem dX12_word_50 : decode cX12_word 50 = .ok (.iconst 0, 1) := by decide +kernel
theorem dX12_word_51 : decode cX12_word 51 = .ok (.ireturn, 1) := by decide +kernel
theorem dX12_word_52 : decode cX12_word 52 = .ok (.iload_n 2, 1) := by decide +kernel
theorem dX12_word_53 : decode cX12_word 53 = .ok (.ifCond .ne 12, 3) := by decide +kernel
theorem dX12_word_56 : decode cX12_word 56 = .ok (.aload_n 0, 1) := by decide +kernel
theorem dX12_word_57 : decode cX12_word 57 = .ok (.getfield 28, 3) := by decide +kernel
theorem dX12_word_60 : decode cX12_word 60 = .ok (.iload_n 1, 1) := by decide +kernel
theorem dX12_word_61 : decode cX12_word 61 = .ok (.iaload, 1) := by decide +kernel
theorem dX12_word_62 : decode cX12_word 62 = .ok (.goto 44, 3) := by decide +kernel
theorem dX12_word_65 : decode cX12_word 65 = .ok (.iload_n 2, 1) := by decide +kernel
theorem dX12_word_66 : decode cX12_word 66 = .ok (.iconst 1, 1) := by decide +kernel
theorem dX12_word_67 : decode cX12_word 67 = .ok (.if_icmp .ne 12, 3) := by decide +kernel
theorem dX12_word_70 : decode cX12_word 70 = .ok (.aload_n 0, 1) := by decide +kernel
theorem dX12_word_71 : decode cX12_word 71 = .ok (.getfield 31, 3) := by decide +kernel
theorem dX12_word_74 : decode cX12_word 74 = .ok (.iload_n 1, 1) := by decide +kernel
theorem dX12_word_75 : decode cX12_word 75 = .ok (.iaload, 1) := by decide +kernel
theorem dX12_word_76 : decode cX12_word 76 = .ok (.goto 30, 3) := by decide +kernel
theorem dX12_word_79 : decode cX12_word 79 = .ok (.iload_n 2, 1) := by decide +kernel
theorem dX12_word_80 : decode cX12_word 80 = .ok (.iconst 2, 1) := by decide +kernel
theorem dX12_word_81 : decode cX12_word 81 = .ok (.if_icmp .ne 12, 3) := by decide +kernel
theorem dX12_word_84 : decode cX12_word 84 = .ok (.aload_n 0, 1) := by decide +kernel
theorem dX12_word_85 : decode cX12_word 85 = .ok (.getfield 34, 3) := by decide +kernel
theorem dX12_word_88 : decode cX12_word 88 = .ok (.iload_n 1, 1) := by decide +kernel
theorem dX12_word_89 : decode cX12_word 89 = .ok (.iaload, 1) := by decide +kernel
theorem dX12_word_90 : decode cX12_word 90 = .ok (.goto 16, 3) := by decide +kernel
theorem dX12_word_93 : decode cX12_word 93 = .ok (.aload_n 0, 1) := by decide +kernel
theorem dX12_word_94 : decode cX12_word 94 = .ok (.getfield 52, 3) := by decide +kernel
theorem dX12_word_97 : decode cX12_word 97 = .ok (.aload_n 0, 1) := by decide +kernel
theorem dX12_word_98 : decode cX12_word 98 = .ok (.getfield 34, 3) := by decide +kernel
theorem dX12_word_101 : decode cX12_word 101 = .ok (.iload_n 1, 1) := by decide +kernel
theorem dX12_word_102 : decode cX12_word 102 = .ok (.iaload, 1) := by decide +kernel
theorem dX12_word_103 : decode cX12_word 103 = .ok (.iaload, 1) := by decide +kernel
theorem dX12_word_104 : decode cX12_word 104 = .ok (.iconst 1, 1) := by decide +kernel
theorem dX12_word_105 : decode cX12_word 105 = .ok (.isub, 1) := by decide +kernel
theorem dX12_word_106 : decode cX12_word 106 = .ok (.ireturn, 1) := by decide +kernel
theorem dX12_sign_0 : decode cX12_sign 0 = .ok (.aload_n 0, 1) := by decide +kernel
theorem dX12_sign_1 : decode cX12_sign 1 = .ok (.iconst 0, 1) := by decide +kernel
theorem dX12_sign_2 : decode cX12_sign 2 = .ok (.putfield 180, 3) := by decide +kernel
theorem dX12_sign_5 : decode cX12_sign 5 = .ok (.aload_n 0, 1) := by decide +kernel
theorem dX12_sign_6 : decode cX12_sign 6 = .ok (.aload_n 0, 1) := by decide +kernel
theorem dX12_sign_7 : decode cX12_sign 7 = .ok (.iload_n 1, 1) := by decide +kernel
theorem dX12_sign_8 : decode cX12_sign 8 = .ok (.invokevirtual 282, 3) := by decide +kernel
theorem dX12_sign_11 : decode cX12_sign 11 = .ok (.ifCond .ne 7, 3) := by decide +kernel
theorem dX12_sign_14 : decode cX12_sign 14 = .ok (.iconst 1, 1) := by decide +kernel
theorem dX12_sign_15 : decode cX12_sign 15 = .ok (.goto 4, 3) := by decide +kernel
theorem dX12_sign_18 : decode cX12_sign 18 = .ok (.iconst 0, 1) := by decide +kernel
theorem dX12_sign_19 : decode cX12_sign 19 = .ok (.iconst 1, 1) := by decide +kernel
theorem dX12_sign_20 : decode cX12_sign 20 = .ok (.iconst 0, 1) := by decide +kernel
theorem dX12_sign_21 : decode cX12_sign 21 = .ok (.invokevirtual 249, 3) := by decide +kernel
theorem dX12_sign_24 : decode cX12_sign 24 = .ok (.ifCond .eq 5, 3) := by decide +kernel
theorem dX12_sign_27 : decode cX12_sign 27 = .ok (.iconst 0, 1) := by decide +kernel
theorem dX12_sign_28 : decode cX12_sign 28 = .ok (.ireturn, 1) := by decide +kernel
theorem dX12_sign_29 : decode cX12_sign 29 = .ok (.iload_n 2, 1) := by decide +kernel
theorem dX12_sign_30 : decode cX12_sign 30 = .ok (.iconst 0, 1) := by decide +kernel
theorem dX12_sign_31 : decode cX12_sign 31 = .ok (.aload_n 0, 1) := by decide +kernel
theorem dX12_sign_32 : decode cX12_sign 32 = .ok (.getfield 28, 3) := by decide +kernel
theorem dX12_sign_35 : decode cX12_sign 35 = .ok (.iload_n 1, 1) := by decide +kernel
theorem dX12_sign_36 : decode cX12_sign 36 = .ok (.iaload, 1) := by decide +kernel
theorem dX12_sign_37 : decode cX12_sign 37 = .ok (.iconst 1, 1) := by decide +kernel
theorem dX12_sign_38 : decode cX12_sign 38 = .ok (.isub, 1) := by decide +kernel
theorem dX12_sign_39 : decode cX12_sign 39 = .ok (.invokestatic 223, 3) := by decide +kernel
theorem dX12_sign_42 : decode cX12_sign 42 = .ok (.ifCond .eq 14, 3) := by decide +kernel
theorem dX12_sign_45 : decode cX12_sign 45 = .ok (.aload_n 0, 1) := by decide +kernel
theorem dX12_sign_46 : decode cX12_sign 46 = .ok (.getfield 25, 3) := by decide +kernel
theorem dX12_sign_49 : decode cX12_sign 49 = .ok (.iload_n 1, 1) := by decide +kernel
theorem dX12_sign_50 : decode cX12_sign 50 = .ok (.aaload, 1) := by decide +kernel
theorem dX12_sign_51 : decode cX12_sign 51 = .ok (.iload_n 2, 1) := by decide +kernel
theorem dX12_sign_52 : decode cX12_sign 52 = .ok (.iaload, 1) := by decide +kernel
theorem dX12_sign_53 : decode cX12_sign 53 = .ok (.goto 4, 3) := by decide +kernel
theorem dX12_sign_56 : decode cX12_sign 56 = .ok (.iconst (-1), 1) := by decide +kernel
theorem dX12_sign_57 : decode cX12_sign 57 = .ok (.ireturn, 1) := by decide +kernel
theorem dX12_find_0 : decode cX12_find 0 = .ok (.aload_n 0, 1) := by decide +kernel
theorem dX12_find_1 : decode cX12_find 1 = .ok (.iconst 0, 1) := by decide +kernel
theorem dX12_find_2 : decode cX12_find 2 = .ok (.putfield 180, 3) := by decide +kernel
theorem dX12_find_5 : decode cX12_find 5 = .ok (.aload_n 0, 1) := by decide +kernel
theorem dX12_find_6 : decode cX12_find 6 = .ok (.iload_n 1, 1) := by decide +kernel
theorem dX12_find_7 : decode cX12_find 7 = .ok (.iconst 0, 1) := by decide +kernel
theorem dX12_find_8 : decode cX12_find 8 = .ok (.aload_n 0, 1) := by decide +kernel
theorem dX12_find_9 : decode cX12_find 9 = .ok (.getfield 183, 3) := by decide +kernel
theorem dX12_find_12 : decode cX12_find 12 = .ok (.invokestatic 223, 3) := by decide +kernel
theorem dX12_find_15 : decode cX12_find 15 = .ok (.ifCond .ne 7, 3) := by decide +kernel
theorem dX12_find_18 : decode cX12_find 18 = .ok (.iconst 1, 1) := by decide +kernel
theorem dX12_find_19 : decode cX12_find 19 = .ok (.goto 4, 3) := by decide +kernel
theorem dX12_find_22 : decode cX12_find 22 = .ok (.iconst 0, 1) := by decide +kernel
theorem dX12_find_23 : decode cX12_find 23 = .ok (.iconst 1, 1) := by decide +kernel
theorem dX12_find_24 : decode cX12_find 24 = .ok (.iconst 1, 1) := by decide +kernel
theorem dX12_find_25 : decode cX12_find 25 = .ok (.invokevirtual 249, 3) := by decide +kernel
theorem dX12_find_28 : decode cX12_find 28 = .ok (.ifCond .eq 5, 3) := by decide +kernel
theorem dX12_find_31 : decode cX12_find 31 = .ok (.iconst 0, 1) := by decide +kernel
theorem dX12_find_32 : decode cX12_find 32 = .ok (.ireturn, 1) := by decide +kernel
theorem dX12_find_33 : decode cX12_find 33 = .ok (.iconst 0, 1) := by decide +kernel
theorem dX12_find_34 : decode cX12_find 34 = .ok (.istore_n 2, 1) := by decide +kernel
theorem dX12_find_35 : decode cX12_find 35 = .ok (.iconst 0, 1) := by decide +kernel
theorem dX12_find_36 : decode cX12_find 36 = .ok (.istore_n 3, 1) := by decide +kernel
theorem dX12_find_37 : decode cX12_find 37 = .ok (.iload_n 3, 1) := by decide +kernel
theorem dX12_find_38 : decode cX12_find 38 = .ok (.iload_n 1, 1) := by decide +kernel
theorem dX12_find_39 : decode cX12_find 39 = .ok (.if_icmp .ge 26, 3) := by decide +kernel
theorem dX12_find_42 : decode cX12_find 42 = .ok (.iload_n 2, 1) := by decide +kernel
theorem dX12_find_43 : decode cX12_find 43 = .ok (.iconst (-1), 1) := by decide +kernel
theorem dX12_find_44 : decode cX12_find 44 = .ok (.if_icmp .eq 21, 3) := by decide +kernel
theorem dX12_find_47 : decode cX12_find 47 = .ok (.aload_n 0, 1) := by decide +kernel
theorem dX12_find_48 : decode cX12_find 48 = .ok (.iload_n 2, 1) := by decide +kernel
theorem dX12_find_49 : decode cX12_find 49 = .ok (.aload_n 0, 1) := by decide +kernel
theorem dX12_find_50 : decode cX12_find 50 = .ok (.getfield 17, 3) := by decide +kernel
theorem dX12_find_53 : decode cX12_find 53 = .ok (.iload_n 3, 1) := by decide +kernel
theorem dX12_find_54 : decode cX12_find 54 = .ok (.iaload, 1) := by decide +kernel
theorem dX12_find_55 : decode cX12_find 55 = .ok (.invokevirtual 272, 3) := by decide +kernel
theorem dX12_find_58 : decode cX12_find 58 = .ok (.istore_n 2, 1) := by decide +kernel
theorem dX12_find_59 : decode cX12_find 59 = .ok (.iinc 3 1, 3) := by decide +kernel
theorem dX12_find_62 : decode cX12_find 62 = .ok (.goto (-25), 3) := by decide +kernel
theorem dX12_find_65 : decode cX12_find 65 = .ok (.iload_n 2, 1) := by decide +kernel
theorem dX12_find_66 : decode cX12_find 66 = .ok (.iconst (-1), 1) := by decide +kernel
theorem dX12_find_67 : decode cX12_find 67 = .ok (.if_icmp .ne 7, 3) := by decide +kernel
theorem dX12_find_70 : decode cX12_find 70 = .ok (.iconst (-1), 1) := by decide +kernel
theorem dX12_find_71 : decode cX12_find 71 = .ok (.goto 9, 3) := by decide +kernel
theorem dX12_find_74 : decode cX12_find 74 = .ok (.aload_n 0, 1) := by decide +kernel
theorem dX12_find_75 : decode cX12_find 75 = .ok (.getfield 46, 3) := by decide +kernel
theorem dX12_find_78 : decode cX12_find 78 = .ok (.iload_n 2, 1) := by decide +kernel
theorem dX12_find_79 : decode cX12_find 79 = .ok (.iaload, 1) := by decide +kernel
theorem dX12_find_80 : decode cX12_find 80 = .ok (.ireturn, 1) := by decide +kernel
theorem dX12_isNode_0 : decode cX12_isNode 0 = .ok (.iload_n 1, 1) := by decide +kernel
theorem dX12_isNode_1 : decode cX12_isNode 1 = .ok (.iconst 0, 1) := by decide +kernel
theorem dX12_isNode_2 : decode cX12_isNode 2 = .ok (.aload_n 0, 1) := by decide +kernel
theorem dX12_isNode_3 : decode cX12_isNode 3 = .ok (.getfield 37, 3) := by decide +kernel
theorem dX12_isNode_6 : decode cX12_isNode 6 = .ok (.iconst 1, 1) := by decide +kernel
theorem dX12_isNode_7 : decode cX12_isNode 7 = .ok (.isub, 1) := by decide +kernel
theorem dX12_isNode_8 : decode cX12_isNode 8 = .ok (.invokestatic 223, 3) := by decide +kernel
theorem dX12_isNode_11 : decode cX12_isNode 11 = .ok (.ireturn, 1) := by decide +kernel
theorem dX12_children_0 : decode cX12_children 0 = .ok (.iconst 0, 1) := by decide +kernel
theorem dX12_children_1 : decode cX12_children 1 = .ok (.istore_n 2, 1) := by decide +kernel
theorem dX12_children_2 : decode cX12_children 2 = .ok (.iload_n 1, 1) := by decide +kernel
theorem dX12_children_3 : decode cX12_children 3 = .ok (.iconst 1, 1) := by decide +kernel
theorem dX12_children_4 : decode cX12_children 4 = .ok (.iadd, 1) := by decide +kernel
theorem dX12_children_5 : decode cX12_children 5 = .ok (.istore_n 3, 1) := by decide +kernel
theorem dX12_children_6 : decode cX12_children 6 = .ok (.iload_n 3, 1) := by decide +kernel
theorem dX12_children_7 : decode cX12_children 7 = .ok (.aload_n 0, 1) := by decide +kernel
theorem dX12_children_8 : decode cX12_children 8 = .ok (.getfield 37, 3) := by decide +kernel
theorem dX12_children_11 : decode cX12_children 11 = .ok (.if_icmp .ge 27, 3) := by decide +kernel
theorem dX12_children_14 : decode cX12_children 14 = .ok (.iload_n 2, 1) := by decide +kernel
theorem dX12_children_15 : decode cX12_children 15 = .ok (.aload_n 0, 1) := by decide +kernel
theorem dX12_children_16 : decode cX12_children 16 = .ok (.getfield 40, 3) := by decide +kernel
theorem dX12_children_19 : decode cX12_children 19 = .ok (.iload_n 3, 1) := by decide +kernel
theorem dX12_children_20 : decode cX12_children 20 = .ok (.iaload, 1) := by decide +kernel
theorem dX12_children_21 : decode cX12_children 21 = .ok (.iload_n 1, 1) := by decide +kernel
theorem dX12_children_22 : decode cX12_children 22 = .ok (.if_icmp .ne 7, 3) := by decide +kernel
theorem dX12_children_25 : decode cX12_children 25 = .ok (.iconst 1, 1) := by decide +kernel
theorem dX12_children_26 : decode cX12_children 26 = .ok (.goto 4, 3) := by decide +kernel
theorem dX12_children_29 : decode cX12_children 29 = .ok (.iconst 0, 1) := by decide +kernel
theorem dX12_children_30 : decode cX12_children 30 = .ok (.iadd, 1) := by decide +kernel
theorem dX12_children_31 : decode cX12_children 31 = .ok (.istore_n 2, 1) := by decide +kernel
theorem dX12_children_32 : decode cX12_children 32 = .ok (.iinc 3 1, 3) := by decide +kernel
theorem dX12_children_35 : decode cX12_children 35 = .ok (.goto (-29), 3) := by decide +kernel
theorem dX12_children_38 : decode cX12_children 38 = .ok (.iload_n 2, 1) := by decide +kernel
theorem dX12_children_39 : decode cX12_children 39 = .ok (.ireturn, 1) := by decide +kernel
theorem dX12_node_0 : decode cX12_node 0 = .ok (.aload_n 0, 1) := by decide +kernel
theorem dX12_node_1 : decode cX12_node 1 = .ok (.iconst 0, 1) := by decide +kernel
theorem dX12_node_2 : decode cX12_node 2 = .ok (.putfield 180, 3) := by decide +kernel
theorem dX12_node_5 : decode cX12_node 5 = .ok (.aload_n 0, 1) := by decide +kernel
theorem dX12_node_6 : decode cX12_node 6 = .ok (.aload_n 0, 1) := by decide +kernel
theorem dX12_node_7 : decode cX12_node 7 = .ok (.iload_n 1, 1) := by decide +kernel
theorem dX12_node_8 : decode cX12_node 8 = .ok (.invokevirtual 362, 3) := by decide +kernel
theorem dX12_node_11 : decode cX12_node 11 = .ok (.ifCond .ne 7, 3) := by decide +kernel
theorem dX12_node_14 : decode cX12_node 14 = .ok (.iconst 1, 1) := by decide +kernel
theorem dX12_node_15 : decode cX12_node 15 = .ok (.goto 4, 3) := by decide +kernel
theorem dX12_node_18 : decode cX12_node 18 = .ok (.iconst 0, 1) := by decide +kernel
theorem dX12_node_19 : decode cX12_node 19 = .ok (.iconst 1, 1) := by decide +kernel
theorem dX12_node_20 : decode cX12_node 20 = .ok (.iconst 0, 1) := by decide +kernel
theorem dX12_node_21 : decode cX12_node 21 = .ok (.invokevirtual 249, 3) := by decide +kernel
theorem dX12_node_24 : decode cX12_node 24 = .ok (.ifCond .ne 26, 3) := by decide +kernel
theorem dX12_node_27 : decode cX12_node 27 = .ok (.aload_n 0, 1) := by decide +kernel
theorem dX12_node_28 : decode cX12_node 28 = .ok (.iload_n 2, 1) := by decide +kernel
theorem dX12_node_29 : decode cX12_node 29 = .ok (.iconst 0, 1) := by decide +kernel
theorem dX12_node_30 : decode cX12_node 30 = .ok (.iconst 5, 1) := by decide +kernel
theorem dX12_node_31 : decode cX12_node 31 = .ok (.invokestatic 223, 3) := by decide +kernel
theorem dX12_node_34 : decode cX12_node 34 = .ok (.ifCond .ne 7, 3) := by decide +kernel
theorem dX12_node_37 : decode cX12_node 37 = .ok (.iconst 1, 1) := by decide +kernel
theorem dX12_node_38 : decode cX12_node 38 = .ok (.goto 4, 3) := by decide +kernel
theorem dX12_node_41 : decode cX12_node 41 = .ok (.iconst 0, 1) := by decide +kernel
theorem dX12_node_42 : decode cX12_node 42 = .ok (.iconst 2, 1) := by decide +kernel
theorem dX12_node_43 : decode cX12_node 43 = .ok (.iconst 1, 1) := by decide +kernel
theorem dX12_node_44 : decode cX12_node 44 = .ok (.invokevirtual 249, 3) := by decide +kernel
theorem dX12_node_47 : decode cX12_node 47 = .ok (.ifCond .eq 5, 3) := by decide +kernel
theorem dX12_node_50 : decode cX12_node 50 = .ok (.iconst 0, 1) := by decide +kernel
theorem dX12_node_51 : decode cX12_node 51 = .ok (.ireturn, 1) := by decide +kernel
theorem dX12_node_52 : decode cX12_node 52 = .ok (.iload_n 2, 1) := by decide +kernel
theorem dX12_node_53 : decode cX12_node 53 = .ok (.tableswitch 69 0 4 #[35, 42, 49, 56, 63], 35) := by decide +kernel
theorem dX12_node_88 : decode cX12_node 88 = .ok (.aload_n 0, 1) := by decide +kernel
theorem dX12_node_89 : decode cX12_node 89 = .ok (.getfield 40, 3) := by decide +kernel
theorem dX12_node_92 : decode cX12_node 92 = .ok (.iload_n 1, 1) := by decide +kernel
theorem dX12_node_93 : decode cX12_node 93 = .ok (.iaload, 1) := by decide +kernel
theorem dX12_node_94 : decode cX12_node 94 = .ok (.ireturn, 1) := by decide +kernel
theorem dX12_node_95 : decode cX12_node 95 = .ok (.aload_n 0, 1) := by decide +kernel
theorem dX12_node_96 : decode cX12_node 96 = .ok (.getfield 43, 3) := by decide +kernel
theorem dX12_node_99 : decode cX12_node 99 = .ok (.iload_n 1, 1) := by decide +kernel
theorem dX12_node_100 : decode cX12_node 100 = .ok (.iaload, 1) := by decide +kernel
theorem dX12_node_101 : decode cX12_node 101 = .ok (.ireturn, 1) := by decide +kernel
theorem dX12_node_102 : decode cX12_node 102 = .ok (.aload_n 0, 1) := by decide +kernel
theorem dX12_node_103 : decode cX12_node 103 = .ok (.getfield 46, 3) := by decide +kernel
theorem dX12_node_106 : decode cX12_node 106 = .ok (.iload_n 1, 1) := by decide +kernel
theorem dX12_node_107 : decode cX12_node 107 = .ok (.iaload, 1) := by decide +kernel
theorem dX12_node_108 : decode cX12_node 108 = .ok (.ireturn, 1) := by decide +kernel
theorem dX12_node_109 : decode cX12_node 109 = .ok (.aload_n 0, 1) := by decide +kernel
theorem dX12_node_110 : decode cX12_node 110 = .ok (.getfield 49, 3) := by decide +kernel
theorem dX12_node_113 : decode cX12_node 113 = .ok (.iload_n 1, 1) := by decide +kernel
theorem dX12_node_114 : decode cX12_node 114 = .ok (.iaload, 1) := by decide +kernel
theorem dX12_node_115 : decode cX12_node 115 = .ok (.ireturn, 1) := by decide +kernel
theorem dX12_node_116 : decode cX12_node 116 = .ok (.aload_n 0, 1) := by decide +kernel
theorem dX12_node_117 : decode cX12_node 117 = .ok (.iload_n 1, 1) := by decide +kernel
theorem dX12_node_118 : decode cX12_node 118 = .ok (.invokevirtual 365, 3) := by decide +kernel
theorem dX12_node_121 : decode cX12_node 121 = .ok (.ireturn, 1) := by decide +kernel
theorem dX12_node_122 : decode cX12_node 122 = .ok (.aload_n 0, 1) := by decide +kernel
theorem dX12_node_123 : decode cX12_node 123 = .ok (.getfield 52, 3) := by decide +kernel
theorem dX12_node_126 : decode cX12_node 126 = .ok (.iload_n 1, 1) := by decide +kernel
theorem dX12_node_127 : decode cX12_node 127 = .ok (.iaload, 1) := by decide +kernel
theorem dX12_node_128 : decode cX12_node 128 = .ok (.ireturn, 1) := by decide +kernel
theorem dX12_child_0 : decode cX12_child 0 = .ok (.aload_n 0, 1) := by decide +kernel
theorem dX12_child_1 : decode cX12_child 1 = .ok (.iconst 0, 1) := by decide +kernel
theorem dX12_child_2 : decode cX12_child 2 = .ok (.putfield 180, 3) := by decide +kernel
theorem dX12_child_5 : decode cX12_child 5 = .ok (.aload_n 0, 1) := by decide +kernel
theorem dX12_child_6 : decode cX12_child 6 = .ok (.aload_n 0, 1) := by decide +kernel
theorem dX12_child_7 : decode cX12_child 7 = .ok (.iload_n 1, 1) := by decide +kernel
theorem dX12_child_8 : decode cX12_child 8 = .ok (.invokevirtual 362, 3) := by decide +kernel
theorem dX12_child_11 : decode cX12_child 11 = .ok (.ifCond .ne 7, 3) := by decide +kernel
theorem dX12_child_14 : decode cX12_child 14 = .ok (.iconst 1, 1) := by decide +kernel
theorem dX12_child_15 : decode cX12_child 15 = .ok (.goto 4, 3) := by decide +kernel
theorem dX12_child_18 : decode cX12_child 18 = .ok (.iconst 0, 1) := by decide +kernel
theorem dX12_child_19 : decode cX12_child 19 = .ok (.iconst 1, 1) := by decide +kernel
theorem dX12_child_20 : decode cX12_child 20 = .ok (.iconst 0, 1) := by decide +kernel
theorem dX12_child_21 : decode cX12_child 21 = .ok (.invokevirtual 249, 3) := by decide +kernel
theorem dX12_child_24 : decode cX12_child 24 = .ok (.ifCond .eq 5, 3) := by decide +kernel
theorem dX12_child_27 : decode cX12_child 27 = .ok (.iconst 0, 1) := by decide +kernel
theorem dX12_child_28 : decode cX12_child 28 = .ok (.ireturn, 1) := by decide +kernel
theorem dX12_child_29 : decode cX12_child 29 = .ok (.aload_n 0, 1) := by decide +kernel
theorem dX12_child_30 : decode cX12_child 30 = .ok (.iload_n 1, 1) := by decide +kernel
theorem dX12_child_31 : decode cX12_child 31 = .ok (.iload_n 2, 1) := by decide +kernel
theorem dX12_child_32 : decode cX12_child 32 = .ok (.invokevirtual 272, 3) := by decide +kernel
theorem dX12_child_35 : decode cX12_child 35 = .ok (.ireturn, 1) := by decide +kernel
theorem dX12_shape_0 : decode cX12_shape 0 = .ok (.aload_n 0, 1) := by decide +kernel
theorem dX12_shape_1 : decode cX12_shape 1 = .ok (.iconst 0, 1) := by decide +kernel
theorem dX12_shape_2 : decode cX12_shape 2 = .ok (.putfield 180, 3) := by decide +kernel
theorem dX12_shape_5 : decode cX12_shape 5 = .ok (.aload_n 0, 1) := by decide +kernel
theorem dX12_shape_6 : decode cX12_shape 6 = .ok (.iload_n 1, 1) := by decide +kernel
theorem dX12_shape_7 : decode cX12_shape 7 = .ok (.iconst 0, 1) := by decide +kernel
theorem dX12_shape_8 : decode cX12_shape 8 = .ok (.aload_n 0, 1) := by decide +kernel
theorem dX12_shape_9 : decode cX12_shape 9 = .ok (.getfield 55, 3) := by decide +kernel
theorem dX12_shape_12 : decode cX12_shape 12 = .ok (.iconst 0, 1) := by decide +kernel
theorem dX12_shape_13 : decode cX12_shape 13 = .ok (.iaload, 1) := by decide +kernel
theorem dX12_shape_14 : decode cX12_shape 14 = .ok (.iconst 1, 1) := by decide +kernel
theorem dX12_shape_15 : decode cX12_shape 15 = .ok (.isub, 1) := by decide +kernel
theorem dX12_shape_16 : decode cX12_shape 16 = .ok (.invokestatic 223, 3) := by decide +kernel
theorem dX12_shape_19 : decode cX12_shape 19 = .ok (.ifCond .ne 7, 3) := by decide +kernel
theorem dX12_shape_22 : decode cX12_shape 22 = .ok (.iconst 1, 1) := by decide +kernel
theorem dX12_shape_23 : decode cX12_shape 23 = .ok (.goto 4, 3) := by decide +kernel
theorem dX12_shape_26 : decode cX12_shape 26 = .ok (.iconst 0, 1) := by decide +kernel
theorem dX12_shape_27 : decode cX12_shape 27 = .ok (.iconst 1, 1) := by decide +kernel
theorem dX12_shape_28 : decode cX12_shape 28 = .ok (.iconst 0, 1) := by decide +kernel
theorem dX12_shape_29 : decode cX12_shape 29 = .ok (.invokevirtual 249, 3) := by decide +kernel
theorem dX12_shape_32 : decode cX12_shape 32 = .ok (.ifCond .ne 26, 3) := by decide +kernel
theorem dX12_shape_35 : decode cX12_shape 35 = .ok (.aload_n 0, 1) := by decide +kernel
theorem dX12_shape_36 : decode cX12_shape 36 = .ok (.iload_n 2, 1) := by decide +kernel
theorem dX12_shape_37 : decode cX12_shape 37 = .ok (.iconst 0, 1) := by decide +kernel
theorem dX12_shape_38 : decode cX12_shape 38 = .ok (.iconst 2, 1) := by decide +kernel
theorem dX12_shape_39 : decode cX12_shape 39 = .ok (.invokestatic 223, 3) := by decide +kernel
theorem dX12_shape_42 : decode cX12_shape 42 = .ok (.ifCond .ne 7, 3) := by decide +kernel
theorem dX12_shape_45 : decode cX12_shape 45 = .ok (.iconst 1, 1) := by decide +kernel
theorem dX12_shape_46 : decode cX12_shape 46 = .ok (.goto 4, 3) := by decide +kernel
theorem dX12_shape_49 : decode cX12_shape 49 = .ok (.iconst 0, 1) := by decide +kernel
theorem dX12_shape_50 : decode cX12_shape 50 = .ok (.iconst 2, 1) := by decide +kernel
theorem dX12_shape_51 : decode cX12_shape 51 = .ok (.iconst 1, 1) := by decide +kernel
theorem dX12_shape_52 : decode cX12_shape 52 = .ok (.invokevirtual 249, 3) := by decide +kernel
theorem dX12_shape_55 : decode cX12_shape 55 = .ok (.ifCond .eq 5, 3) := by decide +kernel
theorem dX12_shape_58 : decode cX12_shape 58 = .ok (.iconst 0, 1) := by decide +kernel
theorem dX12_shape_59 : decode cX12_shape 59 = .ok (.ireturn, 1) := by decide +kernel
theorem dX12_shape_60 : decode cX12_shape 60 = .ok (.aload_n 0, 1) := by decide +kernel
theorem dX12_shape_61 : decode cX12_shape 61 = .ok (.getfield 63, 3) := by decide +kernel
theorem dX12_shape_64 : decode cX12_shape 64 = .ok (.iconst 0, 1) := by decide +kernel
theorem dX12_shape_65 : decode cX12_shape 65 = .ok (.aaload, 1) := by decide +kernel
theorem dX12_shape_66 : decode cX12_shape 66 = .ok (.iload_n 1, 1) := by decide +kernel
theorem dX12_shape_67 : decode cX12_shape 67 = .ok (.aaload, 1) := by decide +kernel
theorem dX12_shape_68 : decode cX12_shape 68 = .ok (.iload_n 2, 1) := by decide +kernel
theorem dX12_shape_69 : decode cX12_shape 69 = .ok (.iaload, 1) := by decide +kernel
theorem dX12_shape_70 : decode cX12_shape 70 = .ok (.ireturn, 1) := by decide +kernel
theorem dX12_isToken_0 : decode cX12_isToken 0 = .ok (.iload_n 1, 1) := by decide +kernel
theorem dX12_isToken_1 : decode cX12_isToken 1 = .ok (.iconst 0, 1) := by decide +kernel
theorem dX12_isToken_2 : decode cX12_isToken 2 = .ok (.aload_n 0, 1) := by decide +kernel
theorem dX12_isToken_3 : decode cX12_isToken 3 = .ok (.getfield 66, 3) := by decide +kernel
theorem dX12_isToken_6 : decode cX12_isToken 6 = .ok (.iconst 0, 1) := by decide +kernel
theorem dX12_isToken_7 : decode cX12_isToken 7 = .ok (.iaload, 1) := by decide +kernel
theorem dX12_isToken_8 : decode cX12_isToken 8 = .ok (.iconst 1, 1) := by decide +kernel
theorem dX12_isToken_9 : decode cX12_isToken 9 = .ok (.isub, 1) := by decide +kernel
theorem dX12_isToken_10 : decode cX12_isToken 10 = .ok (.invokestatic 223, 3) := by decide +kernel
theorem dX12_isToken_13 : decode cX12_isToken 13 = .ok (.ireturn, 1) := by decide +kernel
theorem dX12_edgesOfAll_0 : decode cX12_edgesOfAll 0 = .ok (.iconst 0, 1) := by decide +kernel
theorem dX12_edgesOfAll_1 : decode cX12_edgesOfAll 1 = .ok (.istore_n 1, 1) := by decide +kernel
theorem dX12_edgesOfAll_2 : decode cX12_edgesOfAll 2 = .ok (.iconst 0, 1) := by decide +kernel
theorem dX12_edgesOfAll_3 : decode cX12_edgesOfAll 3 = .ok (.istore_n 2, 1) := by decide +kernel
theorem dX12_edgesOfAll_4 : decode cX12_edgesOfAll 4 = .ok (.iload_n 2, 1) := by decide +kernel
theorem dX12_edgesOfAll_5 : decode cX12_edgesOfAll 5 = .ok (.aload_n 0, 1) := by decide +kernel
theorem dX12_edgesOfAll_6 : decode cX12_edgesOfAll 6 = .ok (.getfield 314, 3) := by decide +kernel
theorem dX12_edgesOfAll_9 : decode cX12_edgesOfAll 9 = .ok (.if_icmp .ge 18, 3) := by decide +kernel
theorem dX12_edgesOfAll_12 : decode cX12_edgesOfAll 12 = .ok (.iload_n 1, 1) := by decide +kernel
theorem dX12_edgesOfAll_13 : decode cX12_edgesOfAll 13 = .ok (.aload_n 0, 1) := by decide +kernel
theorem dX12_edgesOfAll_14 : decode cX12_edgesOfAll 14 = .ok (.getfield 95, 3) := by decide +kernel
theorem dX12_edgesOfAll_17 : decode cX12_edgesOfAll 17 = .ok (.iload_n 2, 1) := by decide +kernel
theorem dX12_edgesOfAll_18 : decode cX12_edgesOfAll 18 = .ok (.iaload, 1) := by decide +kernel
theorem dX12_edgesOfAll_19 : decode cX12_edgesOfAll 19 = .ok (.iadd, 1) := by decide +kernel
theorem dX12_edgesOfAll_20 : decode cX12_edgesOfAll 20 = .ok (.istore_n 1, 1) := by decide +kernel
theorem dX12_edgesOfAll_21 : decode cX12_edgesOfAll 21 = .ok (.iinc 2 1, 3) := by decide +kernel
theorem dX12_edgesOfAll_24 : decode cX12_edgesOfAll 24 = .ok (.goto (-20), 3) := by decide +kernel
theorem dX12_edgesOfAll_27 : decode cX12_edgesOfAll 27 = .ok (.iload_n 1, 1) := by decide +kernel
theorem dX12_edgesOfAll_28 : decode cX12_edgesOfAll 28 = .ok (.ireturn, 1) := by decide +kernel
theorem dX12_breaks_0 : decode cX12_breaks 0 = .ok (.iconst 0, 1) := by decide +kernel
theorem dX12_breaks_1 : decode cX12_breaks 1 = .ok (.istore_n 2, 1) := by decide +kernel
theorem dX12_breaks_2 : decode cX12_breaks 2 = .ok (.iconst 0, 1) := by decide +kernel
theorem dX12_breaks_3 : decode cX12_breaks 3 = .ok (.istore_n 3, 1) := by decide +kernel
theorem dX12_breaks_4 : decode cX12_breaks 4 = .ok (.iload_n 3, 1) := by decide +kernel
theorem dX12_breaks_5 : decode cX12_breaks 5 = .ok (.aload_n 0, 1) := by decide +kernel
theorem dX12_breaks_6 : decode cX12_breaks 6 = .ok (.getfield 72, 3) := by decide +kernel
theorem dX12_breaks_9 : decode cX12_breaks 9 = .ok (.iconst 0, 1) := by decide +kernel
theorem dX12_breaks_10 : decode cX12_breaks 10 = .ok (.aaload, 1) := by decide +kernel
theorem dX12_breaks_11 : decode cX12_breaks 11 = .ok (.iload_n 1, 1) := by decide +kernel
theorem dX12_breaks_12 : decode cX12_breaks 12 = .ok (.iaload, 1) := by decide +kernel
theorem dX12_breaks_13 : decode cX12_breaks 13 = .ok (.if_icmp .ge 34, 3) := by decide +kernel
theorem dX12_breaks_16 : decode cX12_breaks 16 = .ok (.iload_n 2, 1) := by decide +kernel
theorem dX12_breaks_17 : decode cX12_breaks 17 = .ok (.aload_n 0, 1) := by decide +kernel
theorem dX12_breaks_18 : decode cX12_breaks 18 = .ok (.getfield 83, 3) := by decide +kernel
theorem dX12_breaks_21 : decode cX12_breaks 21 = .ok (.iconst 0, 1) := by decide +kernel
theorem dX12_breaks_22 : decode cX12_breaks 22 = .ok (.aaload, 1) := by decide +kernel
theorem dX12_breaks_23 : decode cX12_breaks 23 = .ok (.iload_n 1, 1) := by decide +kernel
theorem dX12_breaks_24 : decode cX12_breaks 24 = .ok (.aaload, 1) := by decide +kernel
theorem dX12_breaks_25 : decode cX12_breaks 25 = .ok (.iload_n 3, 1) := by decide +kernel
theorem dX12_breaks_26 : decode cX12_breaks 26 = .ok (.aaload, 1) := by decide +kernel
theorem dX12_breaks_27 : decode cX12_breaks 27 = .ok (.iconst 0, 1) := by decide +kernel
theorem dX12_breaks_28 : decode cX12_breaks 28 = .ok (.iaload, 1) := by decide +kernel
theorem dX12_breaks_29 : decode cX12_breaks 29 = .ok (.bipush 10, 2) := by decide +kernel
theorem dX12_breaks_31 : decode cX12_breaks 31 = .ok (.if_icmp .ne 7, 3) := by decide +kernel
theorem dX12_breaks_34 : decode cX12_breaks 34 = .ok (.iconst 1, 1) := by decide +kernel
theorem dX12_breaks_35 : decode cX12_breaks 35 = .ok (.goto 4, 3) := by decide +kernel
theorem dX12_breaks_38 : decode cX12_breaks 38 = .ok (.iconst 0, 1) := by decide +kernel
theorem dX12_breaks_39 : decode cX12_breaks 39 = .ok (.iadd, 1) := by decide +kernel
theorem dX12_breaks_40 : decode cX12_breaks 40 = .ok (.istore_n 2, 1) := by decide +kernel
theorem dX12_breaks_41 : decode cX12_breaks 41 = .ok (.iinc 3 1, 3) := by decide +kernel
theorem dX12_breaks_44 : decode cX12_breaks 44 = .ok (.goto (-40), 3) := by decide +kernel
theorem dX12_breaks_47 : decode cX12_breaks 47 = .ok (.iload_n 2, 1) := by decide +kernel
theorem dX12_breaks_48 : decode cX12_breaks 48 = .ok (.ireturn, 1) := by decide +kernel
theorem dX12_readAs_0 : decode cX12_readAs 0 = .ok (.iconst 0, 1) := by decide +kernel
theorem dX12_readAs_1 : decode cX12_readAs 1 = .ok (.istore_n 1, 1) := by decide +kernel
theorem dX12_readAs_2 : decode cX12_readAs 2 = .ok (.iconst 0, 1) := by decide +kernel
theorem dX12_readAs_3 : decode cX12_readAs 3 = .ok (.istore_n 2, 1) := by decide +kernel
theorem dX12_readAs_4 : decode cX12_readAs 4 = .ok (.iload_n 2, 1) := by decide +kernel
theorem dX12_readAs_5 : decode cX12_readAs 5 = .ok (.aload_n 0, 1) := by decide +kernel
theorem dX12_readAs_6 : decode cX12_readAs 6 = .ok (.getfield 314, 3) := by decide +kernel
theorem dX12_readAs_9 : decode cX12_readAs 9 = .ok (.if_icmp .ge 41, 3) := by decide +kernel
theorem dX12_readAs_12 : decode cX12_readAs 12 = .ok (.iload_n 1, 1) := by decide +kernel
theorem dX12_readAs_13 : decode cX12_readAs 13 = .ok (.iconst (-1), 1) := by decide +kernel
theorem dX12_readAs_14 : decode cX12_readAs 14 = .ok (.if_icmp .eq 36, 3) := by decide +kernel
theorem dX12_readAs_17 : decode cX12_readAs 17 = .ok (.aload_n 0, 1) := by decide +kernel
theorem dX12_readAs_18 : decode cX12_readAs 18 = .ok (.getfield 92, 3) := by decide +kernel
theorem dX12_readAs_21 : decode cX12_readAs 21 = .ok (.iload_n 2, 1) := by decide +kernel
theorem dX12_readAs_22 : decode cX12_readAs 22 = .ok (.aaload, 1) := by decide +kernel
theorem dX12_readAs_23 : decode cX12_readAs 23 = .ok (.iconst 0, 1) := by decide +kernel
theorem dX12_readAs_24 : decode cX12_readAs 24 = .ok (.iaload, 1) := by decide +kernel
theorem dX12_readAs_25 : decode cX12_readAs 25 = .ok (.bipush 10, 2) := by decide +kernel
theorem dX12_readAs_27 : decode cX12_readAs 27 = .ok (.if_icmp .eq 17, 3) := by decide +kernel
theorem dX12_readAs_30 : decode cX12_readAs 30 = .ok (.aload_n 0, 1) := by decide +kernel
theorem dX12_readAs_31 : decode cX12_readAs 31 = .ok (.iload_n 1, 1) := by decide +kernel
theorem dX12_readAs_32 : decode cX12_readAs 32 = .ok (.aload_n 0, 1) := by decide +kernel
theorem dX12_readAs_33 : decode cX12_readAs 33 = .ok (.getfield 92, 3) := by decide +kernel
theorem dX12_readAs_36 : decode cX12_readAs 36 = .ok (.iload_n 2, 1) := by decide +kernel
theorem dX12_readAs_37 : decode cX12_readAs 37 = .ok (.aaload, 1) := by decide +kernel
theorem dX12_readAs_38 : decode cX12_readAs 38 = .ok (.iconst 0, 1) := by decide +kernel
theorem dX12_readAs_39 : decode cX12_readAs 39 = .ok (.iaload, 1) := by decide +kernel
theorem dX12_readAs_40 : decode cX12_readAs 40 = .ok (.invokevirtual 272, 3) := by decide +kernel
theorem dX12_readAs_43 : decode cX12_readAs 43 = .ok (.istore_n 1, 1) := by decide +kernel
theorem dX12_readAs_44 : decode cX12_readAs 44 = .ok (.iinc 2 1, 3) := by decide +kernel
theorem dX12_readAs_47 : decode cX12_readAs 47 = .ok (.goto (-43), 3) := by decide +kernel
theorem dX12_readAs_50 : decode cX12_readAs 50 = .ok (.iload_n 1, 1) := by decide +kernel
theorem dX12_readAs_51 : decode cX12_readAs 51 = .ok (.iconst (-1), 1) := by decide +kernel
theorem dX12_readAs_52 : decode cX12_readAs 52 = .ok (.if_icmp .ne 7, 3) := by decide +kernel
theorem dX12_readAs_55 : decode cX12_readAs 55 = .ok (.iconst (-1), 1) := by decide +kernel
theorem dX12_readAs_56 : decode cX12_readAs 56 = .ok (.goto 9, 3) := by decide +kernel
theorem dX12_readAs_59 : decode cX12_readAs 59 = .ok (.aload_n 0, 1) := by decide +kernel
theorem dX12_readAs_60 : decode cX12_readAs 60 = .ok (.getfield 46, 3) := by decide +kernel
theorem dX12_readAs_63 : decode cX12_readAs 63 = .ok (.iload_n 1, 1) := by decide +kernel
theorem dX12_readAs_64 : decode cX12_readAs 64 = .ok (.iaload, 1) := by decide +kernel
theorem dX12_readAs_65 : decode cX12_readAs 65 = .ok (.ireturn, 1) := by decide +kernel
theorem dX12_token_0 : decode cX12_token 0 = .ok (.aload_n 0, 1) := by decide +kernel
theorem dX12_token_1 : decode cX12_token 1 = .ok (.iconst 0, 1) := by decide +kernel
theorem dX12_token_2 : decode cX12_token 2 = .ok (.putfield 180, 3) := by decide +kernel
theorem dX12_token_5 : decode cX12_token 5 = .ok (.aload_n 0, 1) := by decide +kernel
theorem dX12_token_6 : decode cX12_token 6 = .ok (.aload_n 0, 1) := by decide +kernel
theorem dX12_token_7 : decode cX12_token 7 = .ok (.iload_n 1, 1) := by decide +kernel
theorem dX12_token_8 : decode cX12_token 8 = .ok (.invokevirtual 368, 3) := by decide +kernel
theorem dX12_token_11 : decode cX12_token 11 = .ok (.ifCond .ne 7, 3) := by decide +kernel
theorem dX12_token_14 : decode cX12_token 14 = .ok (.iconst 1, 1) := by decide +kernel
theorem dX12_token_15 : decode cX12_token 15 = .ok (.goto 4, 3) := by decide +kernel
theorem dX12_token_18 : decode cX12_token 18 = .ok (.iconst 0, 1) := by decide +kernel
theorem dX12_token_19 : decode cX12_token 19 = .ok (.iconst 1, 1) := by decide +kernel
theorem dX12_token_20 : decode cX12_token 20 = .ok (.iconst 0, 1) := by decide +kernel
theorem dX12_token_21 : decode cX12_token 21 = .ok (.invokevirtual 249, 3) := by decide +kernel
theorem dX12_token_24 : decode cX12_token 24 = .ok (.ifCond .ne 27, 3) := by decide +kernel
theorem dX12_token_27 : decode cX12_token 27 = .ok (.aload_n 0, 1) := by decide +kernel
theorem dX12_token_28 : decode cX12_token 28 = .ok (.iload_n 2, 1) := by decide +kernel
theorem dX12_token_29 : decode cX12_token 29 = .ok (.iconst 0, 1) := by decide +kernel
theorem dX12_token_30 : decode cX12_token 30 = .ok (.bipush 6, 2) := by decide +kernel
theorem dX12_token_32 : decode cX12_token 32 = .ok (.invokestatic 223, 3) := by decide +kernel
theorem dX12_token_35 : decode cX12_token 35 = .ok (.ifCond .ne 7, 3) := by decide +kernel
theorem dX12_token_38 : decode cX12_token 38 = .ok (.iconst 1, 1) := by decide +kernel
theorem dX12_token_39 : decode cX12_token 39 = .ok (.goto 4, 3) := by decide +kernel
theorem dX12_token_42 : decode cX12_token 42 = .ok (.iconst 0, 1) := by decide +kernel
theorem dX12_token_43 : decode cX12_token 43 = .ok (.iconst 2, 1) := by decide +kernel
theorem dX12_token_44 : decode cX12_token 44 = .ok (.iconst 1, 1) := by decide +kernel
theorem dX12_token_45 : decode cX12_token 45 = .ok (.invokevirtual 249, 3) := by decide +kernel
theorem dX12_token_48 : decode cX12_token 48 = .ok (.ifCond .eq 5, 3) := by decide +kernel
theorem dX12_token_51 : decode cX12_token 51 = .ok (.iconst 0, 1) := by decide +kernel
theorem dX12_token_52 : decode cX12_token 52 = .ok (.ireturn, 1) := by decide +kernel
theorem dX12_token_53 : decode cX12_token 53 = .ok (.aload_n 0, 1) := by decide +kernel
theorem dX12_token_54 : decode cX12_token 54 = .ok (.iload_n 1, 1) := by decide +kernel
theorem dX12_token_55 : decode cX12_token 55 = .ok (.iconst 0, 1) := by decide +kernel
theorem dX12_token_56 : decode cX12_token 56 = .ok (.invokevirtual 371, 3) := by decide +kernel
theorem dX12_token_59 : decode cX12_token 59 = .ok (.iload_n 2, 1) := by decide +kernel
theorem dX12_token_60 : decode cX12_token 60 = .ok (.tableswitch 100 0 5 #[40, 45, 54, 60, 65, 70], 40) := by decide +kernel
theorem dX12_token_100 : decode cX12_token 100 = .ok (.aload_n 0, 1) := by decide +kernel
theorem dX12_token_101 : decode cX12_token 101 = .ok (.getfield 314, 3) := by decide +kernel
theorem dX12_token_104 : decode cX12_token 104 = .ok (.ireturn, 1) := by decide +kernel
theorem dX12_token_105 : decode cX12_token 105 = .ok (.aload_n 0, 1) := by decide +kernel
theorem dX12_token_106 : decode cX12_token 106 = .ok (.getfield 75, 3) := by decide +kernel
theorem dX12_token_109 : decode cX12_token 109 = .ok (.iconst 0, 1) := by decide +kernel
theorem dX12_token_110 : decode cX12_token 110 = .ok (.aaload, 1) := by decide +kernel
theorem dX12_token_111 : decode cX12_token 111 = .ok (.iload_n 1, 1) := by decide +kernel
theorem dX12_token_112 : decode cX12_token 112 = .ok (.iaload, 1) := by decide +kernel
theorem dX12_token_113 : decode cX12_token 113 = .ok (.ireturn, 1) := by decide +kernel
theorem dX12_token_114 : decode cX12_token 114 = .ok (.aload_n 0, 1) := by decide +kernel
theorem dX12_token_115 : decode cX12_token 115 = .ok (.iload_n 1, 1) := by decide +kernel
theorem dX12_token_116 : decode cX12_token 116 = .ok (.invokevirtual 375, 3) := by decide +kernel
theorem dX12_token_119 : decode cX12_token 119 = .ok (.ireturn, 1) := by decide +kernel
theorem dX12_token_120 : decode cX12_token 120 = .ok (.aload_n 0, 1) := by decide +kernel
theorem dX12_token_121 : decode cX12_token 121 = .ok (.invokevirtual 378, 3) := by decide +kernel
theorem dX12_token_124 : decode cX12_token 124 = .ok (.ireturn, 1) := by decide +kernel
theorem dX12_token_125 : decode cX12_token 125 = .ok (.aload_n 0, 1) := by decide +kernel
theorem dX12_token_126 : decode cX12_token 126 = .ok (.invokevirtual 381, 3) := by decide +kernel
theorem dX12_token_129 : decode cX12_token 129 = .ok (.ireturn, 1) := by decide +kernel
theorem dX12_token_130 : decode cX12_token 130 = .ok (.iload_n 1, 1) := by decide +kernel
theorem dX12_token_131 : decode cX12_token 131 = .ok (.iconst 1, 1) := by decide +kernel
theorem dX12_token_132 : decode cX12_token 132 = .ok (.iadd, 1) := by decide +kernel
theorem dX12_token_133 : decode cX12_token 133 = .ok (.aload_n 0, 1) := by decide +kernel
theorem dX12_token_134 : decode cX12_token 134 = .ok (.getfield 66, 3) := by decide +kernel
theorem dX12_token_137 : decode cX12_token 137 = .ok (.iconst 0, 1) := by decide +kernel
theorem dX12_token_138 : decode cX12_token 138 = .ok (.iaload, 1) := by decide +kernel
theorem dX12_token_139 : decode cX12_token 139 = .ok (.if_icmp .ge 19, 3) := by decide +kernel
theorem dX12_token_142 : decode cX12_token 142 = .ok (.aload_n 0, 1) := by decide +kernel
theorem dX12_token_143 : decode cX12_token 143 = .ok (.getfield 78, 3) := by decide +kernel
theorem dX12_token_146 : decode cX12_token 146 = .ok (.iconst 0, 1) := by decide +kernel
theorem dX12_token_147 : decode cX12_token 147 = .ok (.aaload, 1) := by decide +kernel
theorem dX12_token_148 : decode cX12_token 148 = .ok (.iload_n 1, 1) := by decide +kernel
theorem dX12_token_149 : decode cX12_token 149 = .ok (.iaload, 1) := by decide +kernel
theorem dX12_token_150 : decode cX12_token 150 = .ok (.iconst 1, 1) := by decide +kernel
theorem dX12_token_151 : decode cX12_token 151 = .ok (.if_icmp .ne 7, 3) := by decide +kernel
theorem dX12_token_154 : decode cX12_token 154 = .ok (.iconst 1, 1) := by decide +kernel
theorem dX12_token_155 : decode cX12_token 155 = .ok (.goto 4, 3) := by decide +kernel
theorem dX12_token_158 : decode cX12_token 158 = .ok (.iconst 0, 1) := by decide +kernel
theorem dX12_token_159 : decode cX12_token 159 = .ok (.ireturn, 1) := by decide +kernel
theorem dX12_token_160 : decode cX12_token 160 = .ok (.aload_n 0, 1) := by decide +kernel
theorem dX12_token_161 : decode cX12_token 161 = .ok (.invokevirtual 384, 3) := by decide +kernel
theorem dX12_token_164 : decode cX12_token 164 = .ok (.iconst (-1), 1) := by decide +kernel
theorem dX12_token_165 : decode cX12_token 165 = .ok (.if_icmp .eq 7, 3) := by decide +kernel
theorem dX12_token_168 : decode cX12_token 168 = .ok (.iconst 1, 1) := by decide +kernel
theorem dX12_token_169 : decode cX12_token 169 = .ok (.goto 4, 3) := by decide +kernel
theorem dX12_token_172 : decode cX12_token 172 = .ok (.iconst 0, 1) := by decide +kernel
theorem dX12_token_173 : decode cX12_token 173 = .ok (.ireturn, 1) := by decide +kernel
theorem dX12_cell_0 : decode cX12_cell 0 = .ok (.aload_n 0, 1) := by decide +kernel
theorem dX12_cell_1 : decode cX12_cell 1 = .ok (.iconst 0, 1) := by decide +kernel
theorem dX12_cell_2 : decode cX12_cell 2 = .ok (.putfield 180, 3) := by decide +kernel
theorem dX12_cell_5 : decode cX12_cell 5 = .ok (.aload_n 0, 1) := by decide +kernel
theorem dX12_cell_6 : decode cX12_cell 6 = .ok (.iload_n 1, 1) := by decide +kernel
theorem dX12_cell_7 : decode cX12_cell 7 = .ok (.invokevirtual 368, 3) := by decide +kernel
theorem dX12_cell_10 : decode cX12_cell 10 = .ok (.ifCond .eq 25, 3) := by decide +kernel
theorem dX12_cell_13 : decode cX12_cell 13 = .ok (.iload_n 2, 1) := by decide +kernel
theorem dX12_cell_14 : decode cX12_cell 14 = .ok (.iconst 0, 1) := by decide +kernel
theorem dX12_cell_15 : decode cX12_cell 15 = .ok (.aload_n 0, 1) := by decide +kernel
theorem dX12_cell_16 : decode cX12_cell 16 = .ok (.getfield 72, 3) := by decide +kernel
theorem dX12_cell_19 : decode cX12_cell 19 = .ok (.iconst 0, 1) := by decide +kernel
theorem dX12_cell_20 : decode cX12_cell 20 = .ok (.aaload, 1) := by decide +kernel
theorem dX12_cell_21 : decode cX12_cell 21 = .ok (.iload_n 1, 1) := by decide +kernel
theorem dX12_cell_22 : decode cX12_cell 22 = .ok (.iaload, 1) := by decide +kernel
theorem dX12_cell_23 : decode cX12_cell 23 = .ok (.iconst 1, 1) := by decide +kernel
theorem dX12_cell_24 : decode cX12_cell 24 = .ok (.isub, 1) := by decide +kernel
theorem dX12_cell_25 : decode cX12_cell 25 = .ok (.invokestatic 223, 3) := by decide +kernel
theorem dX12_cell_28 : decode cX12_cell 28 = .ok (.ifCond .eq 7, 3) := by decide +kernel
theorem dX12_cell_31 : decode cX12_cell 31 = .ok (.iconst 1, 1) := by decide +kernel
theorem dX12_cell_32 : decode cX12_cell 32 = .ok (.goto 4, 3) := by decide +kernel
theorem dX12_cell_35 : decode cX12_cell 35 = .ok (.iconst 0, 1) := by decide +kernel
theorem dX12_cell_36 : decode cX12_cell 36 = .ok (.istore 4, 2) := by decide +kernel
theorem dX12_cell_38 : decode cX12_cell 38 = .ok (.aload_n 0, 1) := by decide +kernel
theorem dX12_cell_39 : decode cX12_cell 39 = .ok (.iload 4, 2) := by decide +kernel
theorem dX12_cell_41 : decode cX12_cell 41 = .ok (.ifCond .ne 7, 3) := by decide +kernel
theorem dX12_cell_44 : decode cX12_cell 44 = .ok (.iconst 1, 1) := by decide +kernel
theorem dX12_cell_45 : decode cX12_cell 45 = .ok (.goto 4, 3) := by decide +kernel
theorem dX12_cell_48 : decode cX12_cell 48 = .ok (.iconst 0, 1) := by decide +kernel
theorem dX12_cell_49 : decode cX12_cell 49 = .ok (.iconst 1, 1) := by decide +kernel
theorem dX12_cell_50 : decode cX12_cell 50 = .ok (.iconst 0, 1) := by decide +kernel
theorem dX12_cell_51 : decode cX12_cell 51 = .ok (.invokevirtual 249, 3) := by decide +kernel
theorem dX12_cell_54 : decode cX12_cell 54 = .ok (.ifCond .ne 26, 3) := by decide +kernel
theorem dX12_cell_57 : decode cX12_cell 57 = .ok (.aload_n 0, 1) := by decide +kernel
theorem dX12_cell_58 : decode cX12_cell 58 = .ok (.iload_n 3, 1) := by decide +kernel
theorem dX12_cell_59 : decode cX12_cell 59 = .ok (.iconst 0, 1) := by decide +kernel
theorem dX12_cell_60 : decode cX12_cell 60 = .ok (.iconst 2, 1) := by decide +kernel
theorem dX12_cell_61 : decode cX12_cell 61 = .ok (.invokestatic 223, 3) := by decide +kernel
theorem dX12_cell_64 : decode cX12_cell 64 = .ok (.ifCond .ne 7, 3) := by decide +kernel
theorem dX12_cell_67 : decode cX12_cell 67 = .ok (.iconst 1, 1) := by decide +kernel
theorem dX12_cell_68 : decode cX12_cell 68 = .ok (.goto 4, 3) := by decide +kernel
theorem dX12_cell_71 : decode cX12_cell 71 = .ok (.iconst 0, 1) := by decide +kernel
theorem dX12_cell_72 : decode cX12_cell 72 = .ok (.iconst 2, 1) := by decide +kernel
theorem dX12_cell_73 : decode cX12_cell 73 = .ok (.iconst 1, 1) := by decide +kernel
theorem dX12_cell_74 : decode cX12_cell 74 = .ok (.invokevirtual 249, 3) := by decide +kernel
theorem dX12_cell_77 : decode cX12_cell 77 = .ok (.ifCond .eq 5, 3) := by decide +kernel
theorem dX12_cell_80 : decode cX12_cell 80 = .ok (.iconst 0, 1) := by decide +kernel
theorem dX12_cell_81 : decode cX12_cell 81 = .ok (.ireturn, 1) := by decide +kernel
theorem dX12_cell_82 : decode cX12_cell 82 = .ok (.aload_n 0, 1) := by decide +kernel
theorem dX12_cell_83 : decode cX12_cell 83 = .ok (.getfield 83, 3) := by decide +kernel
theorem dX12_cell_86 : decode cX12_cell 86 = .ok (.iconst 0, 1) := by decide +kernel
theorem dX12_cell_87 : decode cX12_cell 87 = .ok (.aaload, 1) := by decide +kernel
theorem dX12_cell_88 : decode cX12_cell 88 = .ok (.iload_n 1, 1) := by decide +kernel
theorem dX12_cell_89 : decode cX12_cell 89 = .ok (.aaload, 1) := by decide +kernel
theorem dX12_cell_90 : decode cX12_cell 90 = .ok (.iload_n 2, 1) := by decide +kernel
theorem dX12_cell_91 : decode cX12_cell 91 = .ok (.aaload, 1) := by decide +kernel
theorem dX12_cell_92 : decode cX12_cell 92 = .ok (.astore 5, 2) := by decide +kernel
theorem dX12_cell_94 : decode cX12_cell 94 = .ok (.iload_n 3, 1) := by decide +kernel
theorem dX12_cell_95 : decode cX12_cell 95 = .ok (.iconst 2, 1) := by decide +kernel
theorem dX12_cell_96 : decode cX12_cell 96 = .ok (.if_icmp .ge 8, 3) := by decide +kernel
theorem dX12_cell_99 : decode cX12_cell 99 = .ok (.aload 5, 2) := by decide +kernel
theorem dX12_cell_101 : decode cX12_cell 101 = .ok (.iload_n 3, 1) := by decide +kernel
theorem dX12_cell_102 : decode cX12_cell 102 = .ok (.iaload, 1) := by decide +kernel
theorem dX12_cell_103 : decode cX12_cell 103 = .ok (.ireturn, 1) := by decide +kernel
theorem dX12_cell_104 : decode cX12_cell 104 = .ok (.iconst (-1), 1) := by decide +kernel
theorem dX12_cell_105 : decode cX12_cell 105 = .ok (.istore 6, 2) := by decide +kernel
theorem dX12_cell_107 : decode cX12_cell 107 = .ok (.iconst 0, 1) := by decide +kernel
theorem dX12_cell_108 : decode cX12_cell 108 = .ok (.istore 7, 2) := by decide +kernel
theorem dX12_cell_110 : decode cX12_cell 110 = .ok (.iload 7, 2) := by decide +kernel
theorem dX12_cell_112 : decode cX12_cell 112 = .ok (.aload 5, 2) := by decide +kernel
theorem dX12_cell_114 : decode cX12_cell 114 = .ok (.iconst 1, 1) := by decide +kernel
theorem dX12_cell_115 : decode cX12_cell 115 = .ok (.iaload, 1) := by decide +kernel
theorem dX12_cell_116 : decode cX12_cell 116 = .ok (.if_icmp .ge 43, 3) := by decide +kernel
theorem dX12_cell_119 : decode cX12_cell 119 = .ok (.iload 6, 2) := by decide +kernel
theorem dX12_cell_121 : decode cX12_cell 121 = .ok (.iconst (-1), 1) := by decide +kernel
theorem dX12_cell_122 : decode cX12_cell 122 = .ok (.if_icmp .ne 15, 3) := by decide +kernel
theorem dX12_cell_125 : decode cX12_cell 125 = .ok (.aload 5, 2) := by decide +kernel
theorem dX12_cell_127 : decode cX12_cell 127 = .ok (.iconst 3, 1) := by decide +kernel
theorem dX12_cell_128 : decode cX12_cell 128 = .ok (.iconst 2, 1) := by decide +kernel
theorem dX12_cell_129 : decode cX12_cell 129 = .ok (.iload 7, 2) := by decide +kernel
theorem dX12_cell_131 : decode cX12_cell 131 = .ok (.imul, 1) := by decide +kernel
theorem dX12_cell_132 : decode cX12_cell 132 = .ok (.iadd, 1) := by decide +kernel
theorem dX12_cell_133 : decode cX12_cell 133 = .ok (.iaload, 1) := by decide +kernel
theorem dX12_cell_134 : decode cX12_cell 134 = .ok (.goto 17, 3) := by decide +kernel
theorem dX12_cell_137 : decode cX12_cell 137 = .ok (.iload 6, 2) := by decide +kernel
theorem dX12_cell_139 : decode cX12_cell 139 = .ok (.aload 5, 2) := by decide +kernel
theorem dX12_cell_141 : decode cX12_cell 141 = .ok (.iconst 3, 1) := by decide +kernel
theorem dX12_cell_142 : decode cX12_cell 142 = .ok (.iconst 2, 1) := by decide +kernel
theorem dX12_cell_143 : decode cX12_cell 143 = .ok (.iload 7, 2) := by decide +kernel
theorem dX12_cell_145 : decode cX12_cell 145 = .ok (.imul, 1) := by decide +kernel
theorem dX12_cell_146 : decode cX12_cell 146 = .ok (.iadd, 1) := by decide +kernel
theorem dX12_cell_147 : decode cX12_cell 147 = .ok (.iaload, 1) := by decide +kernel
theorem dX12_cell_148 : decode cX12_cell 148 = .ok (.invokestatic 219, 3) := by decide +kernel
theorem dX12_cell_151 : decode cX12_cell 151 = .ok (.istore 6, 2) := by decide +kernel
theorem dX12_cell_153 : decode cX12_cell 153 = .ok (.iinc 7 1, 3) := by decide +kernel
theorem dX12_cell_156 : decode cX12_cell 156 = .ok (.goto (-46), 3) := by decide +kernel
theorem dX12_cell_159 : decode cX12_cell 159 = .ok (.iload 6, 2) := by decide +kernel
theorem dX12_cell_161 : decode cX12_cell 161 = .ok (.ireturn, 1) := by decide +kernel
theorem dX12_rest_0 : decode cX12_rest 0 = .ok (.aload_n 0, 1) := by decide +kernel
theorem dX12_rest_1 : decode cX12_rest 1 = .ok (.iconst 0, 1) := by decide +kernel
theorem dX12_rest_2 : decode cX12_rest 2 = .ok (.putfield 180, 3) := by decide +kernel
theorem dX12_rest_5 : decode cX12_rest 5 = .ok (.aload_n 0, 1) := by decide +kernel
theorem dX12_rest_6 : decode cX12_rest 6 = .ok (.iload_n 1, 1) := by decide +kernel
theorem dX12_rest_7 : decode cX12_rest 7 = .ok (.invokevirtual 368, 3) := by decide +kernel
theorem dX12_rest_10 : decode cX12_rest 10 = .ok (.ifCond .eq 23, 3) := by decide +kernel
theorem dX12_rest_13 : decode cX12_rest 13 = .ok (.iload_n 2, 1) := by decide +kernel
theorem dX12_rest_14 : decode cX12_rest 14 = .ok (.iconst 0, 1) := by decide +kernel
theorem dX12_rest_15 : decode cX12_rest 15 = .ok (.aload_n 0, 1) := by decide +kernel
theorem dX12_rest_16 : decode cX12_rest 16 = .ok (.getfield 72, 3) := by decide +kernel
theorem dX12_rest_19 : decode cX12_rest 19 = .ok (.iconst 0, 1) := by decide +kernel
theorem dX12_rest_20 : decode cX12_rest 20 = .ok (.aaload, 1) := by decide +kernel
theorem dX12_rest_21 : decode cX12_rest 21 = .ok (.iload_n 1, 1) := by decide +kernel
theorem dX12_rest_22 : decode cX12_rest 22 = .ok (.iaload, 1) := by decide +kernel
theorem dX12_rest_23 : decode cX12_rest 23 = .ok (.invokestatic 223, 3) := by decide +kernel
theorem dX12_rest_26 : decode cX12_rest 26 = .ok (.ifCond .eq 7, 3) := by decide +kernel
theorem dX12_rest_29 : decode cX12_rest 29 = .ok (.iconst 1, 1) := by decide +kernel
theorem dX12_rest_30 : decode cX12_rest 30 = .ok (.goto 4, 3) := by decide +kernel
theorem dX12_rest_33 : decode cX12_rest 33 = .ok (.iconst 0, 1) := by decide +kernel
theorem dX12_rest_34 : decode cX12_rest 34 = .ok (.istore_n 3, 1) := by decide +kernel
theorem dX12_rest_35 : decode cX12_rest 35 = .ok (.aload_n 0, 1) := by decide +kernel
theorem dX12_rest_36 : decode cX12_rest 36 = .ok (.iload_n 3, 1) := by decide +kernel
theorem dX12_rest_37 : decode cX12_rest 37 = .ok (.ifCond .ne 7, 3) := by decide +kernel
theorem dX12_rest_40 : decode cX12_rest 40 = .ok (.iconst 1, 1) := by decide +kernel
theorem dX12_rest_41 : decode cX12_rest 41 = .ok (.goto 4, 3) := by decide +kernel
theorem dX12_rest_44 : decode cX12_rest 44 = .ok (.iconst 0, 1) := by decide +kernel
theorem dX12_rest_45 : decode cX12_rest 45 = .ok (.iconst 1, 1) := by decide +kernel
theorem dX12_rest_46 : decode cX12_rest 46 = .ok (.iconst 0, 1) := by decide +kernel
theorem dX12_rest_47 : decode cX12_rest 47 = .ok (.invokevirtual 249, 3) := by decide +kernel
theorem dX12_rest_50 : decode cX12_rest 50 = .ok (.ifCond .eq 5, 3) := by decide +kernel
theorem dX12_rest_53 : decode cX12_rest 53 = .ok (.iconst 0, 1) := by decide +kernel
theorem dX12_rest_54 : decode cX12_rest 54 = .ok (.ireturn, 1) := by decide +kernel
theorem dX12_rest_55 : decode cX12_rest 55 = .ok (.aload_n 0, 1) := by decide +kernel
theorem dX12_rest_56 : decode cX12_rest 56 = .ok (.iload_n 1, 1) := by decide +kernel
theorem dX12_rest_57 : decode cX12_rest 57 = .ok (.iconst 0, 1) := by decide +kernel
theorem dX12_rest_58 : decode cX12_rest 58 = .ok (.invokevirtual 371, 3) := by decide +kernel
theorem dX12_rest_61 : decode cX12_rest 61 = .ok (.aload_n 0, 1) := by decide +kernel
theorem dX12_rest_62 : decode cX12_rest 62 = .ok (.getfield 98, 3) := by decide +kernel
theorem dX12_rest_65 : decode cX12_rest 65 = .ok (.iload_n 2, 1) := by decide +kernel
theorem dX12_rest_66 : decode cX12_rest 66 = .ok (.iaload, 1) := by decide +kernel
theorem dX12_rest_67 : decode cX12_rest 67 = .ok (.ireturn, 1) := by decide +kernel
theorem dX12_best_0 : decode cX12_best 0 = .ok (.aload_n 0, 1) := by decide +kernel
theorem dX12_best_1 : decode cX12_best 1 = .ok (.iconst 0, 1) := by decide +kernel
theorem dX12_best_2 : decode cX12_best 2 = .ok (.putfield 180, 3) := by decide +kernel
theorem dX12_best_5 : decode cX12_best 5 = .ok (.aload_n 0, 1) := by decide +kernel
theorem dX12_best_6 : decode cX12_best 6 = .ok (.aload_n 0, 1) := by decide +kernel
theorem dX12_best_7 : decode cX12_best 7 = .ok (.iload_n 1, 1) := by decide +kernel
theorem dX12_best_8 : decode cX12_best 8 = .ok (.invokevirtual 368, 3) := by decide +kernel
theorem dX12_best_11 : decode cX12_best 11 = .ok (.ifCond .ne 7, 3) := by decide +kernel
theorem dX12_best_14 : decode cX12_best 14 = .ok (.iconst 1, 1) := by decide +kernel
theorem dX12_best_15 : decode cX12_best 15 = .ok (.goto 4, 3) := by decide +kernel
theorem dX12_best_18 : decode cX12_best 18 = .ok (.iconst 0, 1) := by decide +kernel
theorem dX12_best_19 : decode cX12_best 19 = .ok (.iconst 1, 1) := by decide +kernel
theorem dX12_best_20 : decode cX12_best 20 = .ok (.iconst 0, 1) := by decide +kernel
theorem dX12_best_21 : decode cX12_best 21 = .ok (.invokevirtual 249, 3) := by decide +kernel
theorem dX12_best_24 : decode cX12_best 24 = .ok (.ifCond .ne 26, 3) := by decide +kernel
theorem dX12_best_27 : decode cX12_best 27 = .ok (.aload_n 0, 1) := by decide +kernel
theorem dX12_best_28 : decode cX12_best 28 = .ok (.iload_n 3, 1) := by decide +kernel
theorem dX12_best_29 : decode cX12_best 29 = .ok (.iconst 0, 1) := by decide +kernel
theorem dX12_best_30 : decode cX12_best 30 = .ok (.iconst 2, 1) := by decide +kernel
theorem dX12_best_31 : decode cX12_best 31 = .ok (.invokestatic 223, 3) := by decide +kernel
theorem dX12_best_34 : decode cX12_best 34 = .ok (.ifCond .ne 7, 3) := by decide +kernel
theorem dX12_best_37 : decode cX12_best 37 = .ok (.iconst 1, 1) := by decide +kernel
theorem dX12_best_38 : decode cX12_best 38 = .ok (.goto 4, 3) := by decide +kernel
theorem dX12_best_41 : decode cX12_best 41 = .ok (.iconst 0, 1) := by decide +kernel
theorem dX12_best_42 : decode cX12_best 42 = .ok (.iconst 2, 1) := by decide +kernel
theorem dX12_best_43 : decode cX12_best 43 = .ok (.iconst 1, 1) := by decide +kernel
theorem dX12_best_44 : decode cX12_best 44 = .ok (.invokevirtual 249, 3) := by decide +kernel
theorem dX12_best_47 : decode cX12_best 47 = .ok (.ifCond .eq 5, 3) := by decide +kernel
theorem dX12_best_50 : decode cX12_best 50 = .ok (.iconst 0, 1) := by decide +kernel
theorem dX12_best_51 : decode cX12_best 51 = .ok (.ireturn, 1) := by decide +kernel
theorem dX12_best_52 : decode cX12_best 52 = .ok (.iload_n 2, 1) := by decide +kernel
theorem dX12_best_53 : decode cX12_best 53 = .ok (.iconst 0, 1) := by decide +kernel
theorem dX12_best_54 : decode cX12_best 54 = .ok (.bipush 59, 2) := by decide +kernel
theorem dX12_best_56 : decode cX12_best 56 = .ok (.invokestatic 223, 3) := by decide +kernel
theorem dX12_best_59 : decode cX12_best 59 = .ok (.ifCond .ne 5, 3) := by decide +kernel
theorem dX12_best_62 : decode cX12_best 62 = .ok (.iconst (-1), 1) := by decide +kernel
theorem dX12_best_63 : decode cX12_best 63 = .ok (.ireturn, 1) := by decide +kernel
theorem dX12_best_64 : decode cX12_best 64 = .ok (.aload_n 0, 1) := by decide +kernel
theorem dX12_best_65 : decode cX12_best 65 = .ok (.iload_n 1, 1) := by decide +kernel
theorem dX12_best_66 : decode cX12_best 66 = .ok (.iconst 0, 1) := by decide +kernel
theorem dX12_best_67 : decode cX12_best 67 = .ok (.invokevirtual 371, 3) := by decide +kernel
theorem dX12_best_70 : decode cX12_best 70 = .ok (.aload_n 0, 1) := by decide +kernel
theorem dX12_best_71 : decode cX12_best 71 = .ok (.iload_n 2, 1) := by decide +kernel
theorem dX12_best_72 : decode cX12_best 72 = .ok (.iconst 1, 1) := by decide +kernel
theorem dX12_best_73 : decode cX12_best 73 = .ok (.iadd, 1) := by decide +kernel
theorem dX12_best_74 : decode cX12_best 74 = .ok (.invokevirtual 387, 3) := by decide +kernel
theorem dX12_best_77 : decode cX12_best 77 = .ok (.aload_n 0, 1) := by decide +kernel
theorem dX12_best_78 : decode cX12_best 78 = .ok (.getfield 350, 3) := by decide +kernel
theorem dX12_best_81 : decode cX12_best 81 = .ok (.iload_n 2, 1) := by decide +kernel
theorem dX12_best_82 : decode cX12_best 82 = .ok (.if_icmp .gt 5, 3) := by decide +kernel
theorem dX12_best_85 : decode cX12_best 85 = .ok (.iconst (-1), 1) := by decide +kernel
theorem dX12_best_86 : decode cX12_best 86 = .ok (.ireturn, 1) := by decide +kernel
theorem dX12_best_87 : decode cX12_best 87 = .ok (.iload_n 3, 1) := by decide +kernel
theorem dX12_best_88 : decode cX12_best 88 = .ok (.ifCond .ne 12, 3) := by decide +kernel
theorem dX12_best_91 : decode cX12_best 91 = .ok (.aload_n 0, 1) := by decide +kernel
theorem dX12_best_92 : decode cX12_best 92 = .ok (.getfield 119, 3) := by decide +kernel
theorem dX12_best_95 : decode cX12_best 95 = .ok (.iload_n 2, 1) := by decide +kernel
theorem dX12_best_96 : decode cX12_best 96 = .ok (.iaload, 1) := by decide +kernel
theorem dX12_best_97 : decode cX12_best 97 = .ok (.goto 23, 3) := by decide +kernel
theorem dX12_best_100 : decode cX12_best 100 = .ok (.iload_n 3, 1) := by decide +kernel
theorem dX12_best_101 : decode cX12_best 101 = .ok (.iconst 1, 1) := by decide +kernel
theorem dX12_best_102 : decode cX12_best 102 = .ok (.if_icmp .ne 12, 3) := by decide +kernel
theorem dX12_best_105 : decode cX12_best 105 = .ok (.aload_n 0, 1) := by decide +kernel
theorem dX12_best_106 : decode cX12_best 106 = .ok (.getfield 122, 3) := by decide +kernel
theorem dX12_best_109 : decode cX12_best 109 = .ok (.iload_n 2, 1) := by decide +kernel
theorem dX12_best_110 : decode cX12_best 110 = .ok (.iaload, 1) := by decide +kernel
theorem dX12_best_111 : decode cX12_best 111 = .ok (.goto 9, 3) := by decide +kernel
theorem dX12_best_114 : decode cX12_best 114 = .ok (.aload_n 0, 1) := by decide +kernel
theorem dX12_best_115 : decode cX12_best 115 = .ok (.getfield 125, 3) := by decide +kernel
theorem dX12_best_118 : decode cX12_best 118 = .ok (.iload_n 2, 1) := by decide +kernel
theorem dX12_best_119 : decode cX12_best 119 = .ok (.iaload, 1) := by decide +kernel
theorem dX12_best_120 : decode cX12_best 120 = .ok (.ireturn, 1) := by decide +kernel
theorem dX12_priceOf_0 : decode cX12_priceOf 0 = .ok (.aload_n 0, 1) := by decide +kernel
theorem dX12_priceOf_1 : decode cX12_priceOf 1 = .ok (.iload_n 1, 1) := by decide +kernel
theorem dX12_priceOf_2 : decode cX12_priceOf 2 = .ok (.invokevirtual 390, 3) := by decide +kernel
theorem dX12_priceOf_5 : decode cX12_priceOf 5 = .ok (.istore_n 2, 1) := by decide +kernel
theorem dX12_priceOf_6 : decode cX12_priceOf 6 = .ok (.iload_n 2, 1) := by decide +kernel
theorem dX12_priceOf_7 : decode cX12_priceOf 7 = .ok (.ldc_w 326, 3) := by decide +kernel
theorem dX12_priceOf_10 : decode cX12_priceOf 10 = .ok (.if_icmp .lt 7, 3) := by decide +kernel
theorem dX12_priceOf_13 : decode cX12_priceOf 13 = .ok (.iconst (-1), 1) := by decide +kernel
theorem dX12_priceOf_14 : decode cX12_priceOf 14 = .ok (.goto 11, 3) := by decide +kernel
theorem dX12_priceOf_17 : decode cX12_priceOf 17 = .ok (.iload_n 2, 1) := by decide +kernel
theorem dX12_priceOf_18 : decode cX12_priceOf 18 = .ok (.aload_n 0, 1) := by decide +kernel
theorem dX12_priceOf_19 : decode cX12_priceOf 19 = .ok (.getfield 31, 3) := by decide +kernel
theorem dX12_priceOf_22 : decode cX12_priceOf 22 = .ok (.iload_n 1, 1) := by decide +kernel
theorem dX12_priceOf_23 : decode cX12_priceOf 23 = .ok (.iaload, 1) := by decide +kernel
theorem dX12_priceOf_24 : decode cX12_priceOf 24 = .ok (.iadd, 1) := by decide +kernel
theorem dX12_priceOf_25 : decode cX12_priceOf 25 = .ok (.ireturn, 1) := by decide +kernel
theorem dX12_price_0 : decode cX12_price 0 = .ok (.aload_n 0, 1) := by decide +kernel
theorem dX12_price_1 : decode cX12_price 1 = .ok (.iconst 0, 1) := by decide +kernel
theorem dX12_price_2 : decode cX12_price 2 = .ok (.putfield 180, 3) := by decide +kernel
theorem dX12_price_5 : decode cX12_price 5 = .ok (.aload_n 0, 1) := by decide +kernel
theorem dX12_price_6 : decode cX12_price 6 = .ok (.aload_n 0, 1) := by decide +kernel
theorem dX12_price_7 : decode cX12_price 7 = .ok (.iload_n 1, 1) := by decide +kernel
theorem dX12_price_8 : decode cX12_price 8 = .ok (.invokevirtual 368, 3) := by decide +kernel
theorem dX12_price_11 : decode cX12_price 11 = .ok (.ifCond .eq 11, 3) := by decide +kernel
theorem dX12_price_14 : decode cX12_price 14 = .ok (.aload_n 0, 1) := by decide +kernel
theorem dX12_price_15 : decode cX12_price 15 = .ok (.iload_n 2, 1) := by decide +kernel
theorem dX12_price_16 : decode cX12_price 16 = .ok (.invokevirtual 282, 3) := by decide +kernel
theorem dX12_price_19 : decode cX12_price 19 = .ok (.ifCond .ne 7, 3) := by decide +kernel
theorem dX12_price_22 : decode cX12_price 22 = .ok (.iconst 1, 1) := by decide +kernel
theorem dX12_price_23 : decode cX12_price 23 = .ok (.goto 4, 3) := by decide +kernel
theorem dX12_price_26 : decode cX12_price 26 = .ok (.iconst 0, 1) := by decide +kernel
theorem dX12_price_27 : decode cX12_price 27 = .ok (.iconst 1, 1) := by decide +kernel
theorem dX12_price_28 : decode cX12_price 28 = .ok (.iconst 0, 1) := by decide +kernel
theorem dX12_price_29 : decode cX12_price 29 = .ok (.invokevirtual 249, 3) := by decide +kernel
theorem dX12_price_32 : decode cX12_price 32 = .ok (.ifCond .eq 5, 3) := by decide +kernel
theorem dX12_price_35 : decode cX12_price 35 = .ok (.iconst 0, 1) := by decide +kernel
theorem dX12_price_36 : decode cX12_price 36 = .ok (.ireturn, 1) := by decide +kernel
theorem dX12_price_37 : decode cX12_price 37 = .ok (.aload_n 0, 1) := by decide +kernel
theorem dX12_price_38 : decode cX12_price 38 = .ok (.iload_n 1, 1) := by decide +kernel
theorem dX12_price_39 : decode cX12_price 39 = .ok (.iconst 0, 1) := by decide +kernel
theorem dX12_price_40 : decode cX12_price 40 = .ok (.invokevirtual 371, 3) := by decide +kernel
theorem dX12_price_43 : decode cX12_price 43 = .ok (.aload_n 0, 1) := by decide +kernel
theorem dX12_price_44 : decode cX12_price 44 = .ok (.iload_n 2, 1) := by decide +kernel
theorem dX12_price_45 : decode cX12_price 45 = .ok (.invokevirtual 393, 3) := by decide +kernel
theorem dX12_price_48 : decode cX12_price 48 = .ok (.ireturn, 1) := by decide +kernel
theorem dX12_within_0 : decode cX12_within 0 = .ok (.aload_n 0, 1) := by decide +kernel
theorem dX12_within_1 : decode cX12_within 1 = .ok (.iconst 0, 1) := by decide +kernel
theorem dX12_within_2 : decode cX12_within 2 = .ok (.putfield 180, 3) := by decide +kernel
theorem dX12_within_5 : decode cX12_within 5 = .ok (.aload_n 0, 1) := by decide +kernel
theorem dX12_within_6 : decode cX12_within 6 = .ok (.aload_n 0, 1) := by decide +kernel
theorem dX12_within_7 : decode cX12_within 7 = .ok (.iload_n 1, 1) := by decide +kernel
theorem dX12_within_8 : decode cX12_within 8 = .ok (.invokevirtual 368, 3) := by decide +kernel
theorem dX12_within_11 : decode cX12_within 11 = .ok (.ifCond .ne 7, 3) := by decide +kernel
theorem dX12_within_14 : decode cX12_within 14 = .ok (.iconst 1, 1) := by decide +kernel
theorem dX12_within_15 : decode cX12_within 15 = .ok (.goto 4, 3) := by decide +kernel
theorem dX12_within_18 : decode cX12_within 18 = .ok (.iconst 0, 1) := by decide +kernel
theorem dX12_within_19 : decode cX12_within 19 = .ok (.iconst 1, 1) := by decide +kernel
theorem dX12_within_20 : decode cX12_within 20 = .ok (.iconst 0, 1) := by decide +kernel
theorem dX12_within_21 : decode cX12_within 21 = .ok (.invokevirtual 249, 3) := by decide +kernel
theorem dX12_within_24 : decode cX12_within 24 = .ok (.ifCond .ne 28, 3) := by decide +kernel
theorem dX12_within_27 : decode cX12_within 27 = .ok (.aload_n 0, 1) := by decide +kernel
theorem dX12_within_28 : decode cX12_within 28 = .ok (.iload_n 2, 1) := by decide +kernel
theorem dX12_within_29 : decode cX12_within 29 = .ok (.iconst 0, 1) := by decide +kernel
theorem dX12_within_30 : decode cX12_within 30 = .ok (.sipush 9999, 3) := by decide +kernel
theorem dX12_within_33 : decode cX12_within 33 = .ok (.invokestatic 223, 3) := by decide +kernel
theorem dX12_within_36 : decode cX12_within 36 = .ok (.ifCond .ne 7, 3) := by decide +kernel
theorem dX12_within_39 : decode cX12_within 39 = .ok (.iconst 1, 1) := by decide +kernel
theorem dX12_within_40 : decode cX12_within 40 = .ok (.goto 4, 3) := by decide +kernel
theorem dX12_within_43 : decode cX12_within 43 = .ok (.iconst 0, 1) := by decide +kernel
theorem dX12_within_44 : decode cX12_within 44 = .ok (.iconst 2, 1) := by decide +kernel
theorem dX12_within_45 : decode cX12_within 45 = .ok (.iconst 1, 1) := by decide +kernel
theorem dX12_within_46 : decode cX12_within 46 = .ok (.invokevirtual 249, 3) := by decide +kernel
theorem dX12_within_49 : decode cX12_within 49 = .ok (.ifCond .eq 5, 3) := by decide +kernel
theorem dX12_within_52 : decode cX12_within 52 = .ok (.iconst 0, 1) := by decide +kernel
theorem dX12_within_53 : decode cX12_within 53 = .ok (.ireturn, 1) := by decide +kernel
theorem dX12_within_54 : decode cX12_within 54 = .ok (.aload_n 0, 1) := by decide +kernel
theorem dX12_within_55 : decode cX12_within 55 = .ok (.iload_n 1, 1) := by decide +kernel
theorem dX12_within_56 : decode cX12_within 56 = .ok (.iconst 0, 1) := by decide +kernel
theorem dX12_within_57 : decode cX12_within 57 = .ok (.invokevirtual 371, 3) := by decide +kernel
theorem dX12_within_60 : decode cX12_within 60 = .ok (.iconst 0, 1) := by decide +kernel
theorem dX12_within_61 : decode cX12_within 61 = .ok (.istore_n 3, 1) := by decide +kernel
theorem dX12_within_62 : decode cX12_within 62 = .ok (.iconst 0, 1) := by decide +kernel
theorem dX12_within_63 : decode cX12_within 63 = .ok (.istore 4, 2) := by decide +kernel
theorem dX12_within_65 : decode cX12_within 65 = .ok (.iload 4, 2) := by decide +kernel
theorem dX12_within_67 : decode cX12_within 67 = .ok (.aload_n 0, 1) := by decide +kernel
theorem dX12_within_68 : decode cX12_within 68 = .ok (.getfield 257, 3) := by decide +kernel
theorem dX12_within_71 : decode cX12_within 71 = .ok (.if_icmp .ge 31, 3) := by decide +kernel
theorem dX12_within_74 : decode cX12_within 74 = .ok (.iload_n 3, 1) := by decide +kernel
theorem dX12_within_75 : decode cX12_within 75 = .ok (.aload_n 0, 1) := by decide +kernel
theorem dX12_within_76 : decode cX12_within 76 = .ok (.iload 4, 2) := by decide +kernel
theorem dX12_within_78 : decode cX12_within 78 = .ok (.invokevirtual 393, 3) := by decide +kernel
theorem dX12_within_81 : decode cX12_within 81 = .ok (.iconst 0, 1) := by decide +kernel
theorem dX12_within_82 : decode cX12_within 82 = .ok (.iload_n 2, 1) := by decide +kernel
theorem dX12_within_83 : decode cX12_within 83 = .ok (.invokestatic 223, 3) := by decide +kernel
theorem dX12_within_86 : decode cX12_within 86 = .ok (.ifCond .eq 7, 3) := by decide +kernel
theorem dX12_within_89 : decode cX12_within 89 = .ok (.iconst 1, 1) := by decide +kernel
theorem dX12_within_90 : decode cX12_within 90 = .ok (.goto 4, 3) := by decide +kernel
theorem dX12_within_93 : decode cX12_within 93 = .ok (.iconst 0, 1) := by decide +kernel
theorem dX12_within_94 : decode cX12_within 94 = .ok (.iadd, 1) := by decide +kernel
theorem dX12_within_95 : decode cX12_within 95 = .ok (.istore_n 3, 1) := by decide +kernel
theorem dX12_within_96 : decode cX12_within 96 = .ok (.iinc 4 1, 3) := by decide +kernel
theorem dX12_within_99 : decode cX12_within 99 = .ok (.goto (-34), 3) := by decide +kernel
theorem dX12_within_102 : decode cX12_within 102 = .ok (.iload_n 3, 1) := by decide +kernel
theorem dX12_within_103 : decode cX12_within 103 = .ok (.ireturn, 1) := by decide +kernel
theorem dX12_mends_0 : decode cX12_mends 0 = .ok (.aload_n 0, 1) := by decide +kernel
theorem dX12_mends_1 : decode cX12_mends 1 = .ok (.iload_n 1, 1) := by decide +kernel
theorem dX12_mends_2 : decode cX12_mends 2 = .ok (.invokevirtual 387, 3) := by decide +kernel
theorem dX12_mends_5 : decode cX12_mends 5 = .ok (.aload_n 0, 1) := by decide +kernel
theorem dX12_mends_6 : decode cX12_mends 6 = .ok (.invokevirtual 381, 3) := by decide +kernel
theorem dX12_mends_9 : decode cX12_mends 9 = .ok (.istore_n 2, 1) := by decide +kernel
theorem dX12_mends_10 : decode cX12_mends 10 = .ok (.aload_n 0, 1) := by decide +kernel
theorem dX12_mends_11 : decode cX12_mends 11 = .ok (.aload_n 0, 1) := by decide +kernel
theorem dX12_mends_12 : decode cX12_mends 12 = .ok (.getfield 350, 3) := by decide +kernel
theorem dX12_mends_15 : decode cX12_mends 15 = .ok (.ifCond .le 22, 3) := by decide +kernel
theorem dX12_mends_18 : decode cX12_mends 18 = .ok (.aload_n 0, 1) := by decide +kernel
theorem dX12_mends_19 : decode cX12_mends 19 = .ok (.getfield 122, 3) := by decide +kernel
theorem dX12_mends_22 : decode cX12_mends 22 = .ok (.iconst 0, 1) := by decide +kernel
theorem dX12_mends_23 : decode cX12_mends 23 = .ok (.iaload, 1) := by decide +kernel
theorem dX12_mends_24 : decode cX12_mends 24 = .ok (.iload_n 2, 1) := by decide +kernel
theorem dX12_mends_25 : decode cX12_mends 25 = .ok (.if_icmp .gt 12, 3) := by decide +kernel
theorem dX12_mends_28 : decode cX12_mends 28 = .ok (.aload_n 0, 1) := by decide +kernel
theorem dX12_mends_29 : decode cX12_mends 29 = .ok (.getfield 119, 3) := by decide +kernel
theorem dX12_mends_32 : decode cX12_mends 32 = .ok (.iconst 0, 1) := by decide +kernel
theorem dX12_mends_33 : decode cX12_mends 33 = .ok (.iaload, 1) := by decide +kernel
theorem dX12_mends_34 : decode cX12_mends 34 = .ok (.goto 4, 3) := by decide +kernel
theorem dX12_mends_37 : decode cX12_mends 37 = .ok (.iconst (-1), 1) := by decide +kernel
theorem dX12_mends_38 : decode cX12_mends 38 = .ok (.putfield 396, 3) := by decide +kernel
theorem dX12_mends_41 : decode cX12_mends 41 = .ok (.aload_n 0, 1) := by decide +kernel
theorem dX12_mends_42 : decode cX12_mends 42 = .ok (.aload_n 0, 1) := by decide +kernel
theorem dX12_mends_43 : decode cX12_mends 43 = .ok (.getfield 396, 3) := by decide +kernel
theorem dX12_mends_46 : decode cX12_mends 46 = .ok (.iconst (-1), 1) := by decide +kernel
theorem dX12_mends_47 : decode cX12_mends 47 = .ok (.if_icmp .ne 7, 3) := by decide +kernel
theorem dX12_mends_50 : decode cX12_mends 50 = .ok (.iload_n 2, 1) := by decide +kernel
theorem dX12_mends_51 : decode cX12_mends 51 = .ok (.goto 9, 3) := by decide +kernel
theorem dX12_mends_54 : decode cX12_mends 54 = .ok (.aload_n 0, 1) := by decide +kernel
theorem dX12_mends_55 : decode cX12_mends 55 = .ok (.getfield 122, 3) := by decide +kernel
theorem dX12_mends_58 : decode cX12_mends 58 = .ok (.iconst 0, 1) := by decide +kernel
theorem dX12_mends_59 : decode cX12_mends 59 = .ok (.iaload, 1) := by decide +kernel
theorem dX12_mends_60 : decode cX12_mends 60 = .ok (.putfield 399, 3) := by decide +kernel
theorem dX12_mends_63 : decode cX12_mends 63 = .ok (.aload_n 0, 1) := by decide +kernel
theorem dX12_mends_64 : decode cX12_mends 64 = .ok (.getfield 396, 3) := by decide +kernel
theorem dX12_mends_67 : decode cX12_mends 67 = .ok (.iconst (-1), 1) := by decide +kernel
theorem dX12_mends_68 : decode cX12_mends 68 = .ok (.if_icmp .ne 29, 3) := by decide +kernel
theorem dX12_mends_71 : decode cX12_mends 71 = .ok (.aload_n 0, 1) := by decide +kernel
theorem dX12_mends_72 : decode cX12_mends 72 = .ok (.aload_n 0, 1) := by decide +kernel
theorem dX12_mends_73 : decode cX12_mends 73 = .ok (.getfield 350, 3) := by decide +kernel
theorem dX12_mends_76 : decode cX12_mends 76 = .ok (.ifCond .le 14, 3) := by decide +kernel
theorem dX12_mends_79 : decode cX12_mends 79 = .ok (.aload_n 0, 1) := by decide +kernel
theorem dX12_mends_80 : decode cX12_mends 80 = .ok (.getfield 122, 3) := by decide +kernel
theorem dX12_mends_83 : decode cX12_mends 83 = .ok (.iconst 0, 1) := by decide +kernel
theorem dX12_mends_84 : decode cX12_mends 84 = .ok (.iaload, 1) := by decide +kernel
theorem dX12_mends_85 : decode cX12_mends 85 = .ok (.iload_n 2, 1) := by decide +kernel
theorem dX12_mends_86 : decode cX12_mends 86 = .ok (.isub, 1) := by decide +kernel
theorem dX12_mends_87 : decode cX12_mends 87 = .ok (.goto 4, 3) := by decide +kernel
theorem dX12_mends_90 : decode cX12_mends 90 = .ok (.iconst (-1), 1) := by decide +kernel
theorem dX12_mends_91 : decode cX12_mends 91 = .ok (.putfield 402, 3) := by decide +kernel
theorem dX12_mends_94 : decode cX12_mends 94 = .ok (.goto 36, 3) := by decide +kernel
theorem dX12_mends_97 : decode cX12_mends 97 = .ok (.aload_n 0, 1) := by decide +kernel
theorem dX12_mends_98 : decode cX12_mends 98 = .ok (.aload_n 0, 1) := by decide +kernel
theorem dX12_mends_99 : decode cX12_mends 99 = .ok (.getfield 350, 3) := by decide +kernel
theorem dX12_mends_102 : decode cX12_mends 102 = .ok (.iconst 1, 1) := by decide +kernel
theorem dX12_mends_103 : decode cX12_mends 103 = .ok (.if_icmp .le 16, 3) := by decide +kernel
theorem dX12_mends_106 : decode cX12_mends 106 = .ok (.aload_n 0, 1) := by decide +kernel
theorem dX12_mends_107 : decode cX12_mends 107 = .ok (.getfield 122, 3) := by decide +kernel
theorem dX12_mends_110 : decode cX12_mends 110 = .ok (.iconst 1, 1) := by decide +kernel
theorem dX12_mends_111 : decode cX12_mends 111 = .ok (.iaload, 1) := by decide +kernel
theorem dX12_mends_112 : decode cX12_mends 112 = .ok (.iload_n 2, 1) := by decide +kernel
theorem dX12_mends_113 : decode cX12_mends 113 = .ok (.invokestatic 219, 3) := by decide +kernel
theorem dX12_mends_116 : decode cX12_mends 116 = .ok (.goto 4, 3) := by decide +kernel
theorem dX12_mends_119 : decode cX12_mends 119 = .ok (.iload_n 2, 1) := by decide +kernel
theorem dX12_mends_120 : decode cX12_mends 120 = .ok (.aload_n 0, 1) := by decide +kernel
theorem dX12_mends_121 : decode cX12_mends 121 = .ok (.getfield 122, 3) := by decide +kernel
theorem dX12_mends_124 : decode cX12_mends 124 = .ok (.iconst 0, 1) := by decide +kernel
theorem dX12_mends_125 : decode cX12_mends 125 = .ok (.iaload, 1) := by decide +kernel
theorem dX12_mends_126 : decode cX12_mends 126 = .ok (.isub, 1) := by decide +kernel
theorem dX12_mends_127 : decode cX12_mends 127 = .ok (.putfield 402, 3) := by decide +kernel
theorem dX12_mends_130 : decode cX12_mends 130 = .ok (.return_, 1) := by decide +kernel
theorem dX12_mended_0 : decode cX12_mended 0 = .ok (.aload_n 0, 1) := by decide +kernel
theorem dX12_mended_1 : decode cX12_mended 1 = .ok (.iconst 0, 1) := by decide +kernel
theorem dX12_mended_2 : decode cX12_mended 2 = .ok (.putfield 180, 3) := by decide +kernel
theorem dX12_mended_5 : decode cX12_mended 5 = .ok (.aload_n 0, 1) := by decide +kernel
theorem dX12_mended_6 : decode cX12_mended 6 = .ok (.aload_n 0, 1) := by decide +kernel
theorem dX12_mended_7 : decode cX12_mended 7 = .ok (.iload_n 1, 1) := by decide +kernel
theorem dX12_mended_8 : decode cX12_mended 8 = .ok (.invokevirtual 368, 3) := by decide +kernel
theorem dX12_mended_11 : decode cX12_mended 11 = .ok (.ifCond .ne 7, 3) := by decide +kernel
theorem dX12_mended_14 : decode cX12_mended 14 = .ok (.iconst 1, 1) := by decide +kernel
theorem dX12_mended_15 : decode cX12_mended 15 = .ok (.goto 4, 3) := by decide +kernel
theorem dX12_mended_18 : decode cX12_mended 18 = .ok (.iconst 0, 1) := by decide +kernel
theorem dX12_mended_19 : decode cX12_mended 19 = .ok (.iconst 1, 1) := by decide +kernel
theorem dX12_mended_20 : decode cX12_mended 20 = .ok (.iconst 0, 1) := by decide +kernel
theorem dX12_mended_21 : decode cX12_mended 21 = .ok (.invokevirtual 249, 3) := by decide +kernel
theorem dX12_mended_24 : decode cX12_mended 24 = .ok (.ifCond .ne 26, 3) := by decide +kernel
theorem dX12_mended_27 : decode cX12_mended 27 = .ok (.aload_n 0, 1) := by decide +kernel
theorem dX12_mended_28 : decode cX12_mended 28 = .ok (.iload_n 2, 1) := by decide +kernel
theorem dX12_mended_29 : decode cX12_mended 29 = .ok (.iconst 0, 1) := by decide +kernel
theorem dX12_mended_30 : decode cX12_mended 30 = .ok (.iconst 2, 1) := by decide +kernel
theorem dX12_mended_31 : decode cX12_mended 31 = .ok (.invokestatic 223, 3) := by decide +kernel
theorem dX12_mended_34 : decode cX12_mended 34 = .ok (.ifCond .ne 7, 3) := by decide +kernel
theorem dX12_mended_37 : decode cX12_mended 37 = .ok (.iconst 1, 1) := by decide +kernel
theorem dX12_mended_38 : decode cX12_mended 38 = .ok (.goto 4, 3) := by decide +kernel
theorem dX12_mended_41 : decode cX12_mended 41 = .ok (.iconst 0, 1) := by decide +kernel
theorem dX12_mended_42 : decode cX12_mended 42 = .ok (.iconst 2, 1) := by decide +kernel
theorem dX12_mended_43 : decode cX12_mended 43 = .ok (.iconst 1, 1) := by decide +kernel
theorem dX12_mended_44 : decode cX12_mended 44 = .ok (.invokevirtual 249, 3) := by decide +kernel
theorem dX12_mended_47 : decode cX12_mended 47 = .ok (.ifCond .eq 5, 3) := by decide +kernel
theorem dX12_mended_50 : decode cX12_mended 50 = .ok (.iconst 0, 1) := by decide +kernel
theorem dX12_mended_51 : decode cX12_mended 51 = .ok (.ireturn, 1) := by decide +kernel
theorem dX12_mended_52 : decode cX12_mended 52 = .ok (.aload_n 0, 1) := by decide +kernel
theorem dX12_mended_53 : decode cX12_mended 53 = .ok (.iload_n 1, 1) := by decide +kernel
theorem dX12_mended_54 : decode cX12_mended 54 = .ok (.iconst 0, 1) := by decide +kernel
theorem dX12_mended_55 : decode cX12_mended 55 = .ok (.invokevirtual 371, 3) := by decide +kernel
theorem dX12_mended_58 : decode cX12_mended 58 = .ok (.aload_n 0, 1) := by decide +kernel
theorem dX12_mended_59 : decode cX12_mended 59 = .ok (.iconst 2, 1) := by decide +kernel
theorem dX12_mended_60 : decode cX12_mended 60 = .ok (.invokevirtual 405, 3) := by decide +kernel
theorem dX12_mended_63 : decode cX12_mended 63 = .ok (.iload_n 2, 1) := by decide +kernel
theorem dX12_mended_64 : decode cX12_mended 64 = .ok (.ifCond .ne 10, 3) := by decide +kernel
theorem dX12_mended_67 : decode cX12_mended 67 = .ok (.aload_n 0, 1) := by decide +kernel
theorem dX12_mended_68 : decode cX12_mended 68 = .ok (.getfield 396, 3) := by decide +kernel
theorem dX12_mended_71 : decode cX12_mended 71 = .ok (.goto 19, 3) := by decide +kernel
theorem dX12_mended_74 : decode cX12_mended 74 = .ok (.iload_n 2, 1) := by decide +kernel
theorem dX12_mended_75 : decode cX12_mended 75 = .ok (.iconst 1, 1) := by decide +kernel
theorem dX12_mended_76 : decode cX12_mended 76 = .ok (.if_icmp .ne 10, 3) := by decide +kernel
theorem dX12_mended_79 : decode cX12_mended 79 = .ok (.aload_n 0, 1) := by decide +kernel
theorem dX12_mended_80 : decode cX12_mended 80 = .ok (.getfield 399, 3) := by decide +kernel
theorem dX12_mended_83 : decode cX12_mended 83 = .ok (.goto 7, 3) := by decide +kernel
theorem dX12_mended_86 : decode cX12_mended 86 = .ok (.aload_n 0, 1) := by decide +kernel
theorem dX12_mended_87 : decode cX12_mended 87 = .ok (.getfield 402, 3) := by decide +kernel
theorem dX12_mended_90 : decode cX12_mended 90 = .ok (.ireturn, 1) := by decide +kernel
theorem dX12_laysWay_0 : decode cX12_laysWay 0 = .ok (.aload_n 0, 1) := by decide +kernel
theorem dX12_laysWay_1 : decode cX12_laysWay 1 = .ok (.iload_n 1, 1) := by decide +kernel
theorem dX12_laysWay_2 : decode cX12_laysWay 2 = .ok (.iconst 0, 1) := by decide +kernel
theorem dX12_laysWay_3 : decode cX12_laysWay 3 = .ok (.invokevirtual 371, 3) := by decide +kernel
theorem dX12_laysWay_6 : decode cX12_laysWay 6 = .ok (.aload_n 0, 1) := by decide +kernel
theorem dX12_laysWay_7 : decode cX12_laysWay 7 = .ok (.iconst 1, 1) := by decide +kernel
theorem dX12_laysWay_8 : decode cX12_laysWay 8 = .ok (.invokevirtual 405, 3) := by decide +kernel
theorem dX12_laysWay_11 : decode cX12_laysWay 11 = .ok (.aload_n 0, 1) := by decide +kernel
theorem dX12_laysWay_12 : decode cX12_laysWay 12 = .ok (.iconst 0, 1) := by decide +kernel
theorem dX12_laysWay_13 : decode cX12_laysWay 13 = .ok (.putfield 408, 3) := by decide +kernel
theorem dX12_laysWay_16 : decode cX12_laysWay 16 = .ok (.aload_n 0, 1) := by decide +kernel
theorem dX12_laysWay_17 : decode cX12_laysWay 17 = .ok (.getfield 396, 3) := by decide +kernel
theorem dX12_laysWay_20 : decode cX12_laysWay 20 = .ok (.iconst (-1), 1) := by decide +kernel
theorem dX12_laysWay_21 : decode cX12_laysWay 21 = .ok (.if_icmp .ne 5, 3) := by decide +kernel
theorem dX12_laysWay_24 : decode cX12_laysWay 24 = .ok (.iconst 0, 1) := by decide +kernel
theorem dX12_laysWay_25 : decode cX12_laysWay 25 = .ok (.ireturn, 1) := by decide +kernel
theorem dX12_laysWay_26 : decode cX12_laysWay 26 = .ok (.aload_n 0, 1) := by decide +kernel
theorem dX12_laysWay_27 : decode cX12_laysWay 27 = .ok (.aload_n 0, 1) := by decide +kernel
theorem dX12_laysWay_28 : decode cX12_laysWay 28 = .ok (.getfield 396, 3) := by decide +kernel
theorem dX12_laysWay_31 : decode cX12_laysWay 31 = .ok (.invokevirtual 390, 3) := by decide +kernel
theorem dX12_laysWay_34 : decode cX12_laysWay 34 = .ok (.pop, 1) := by decide +kernel
theorem dX12_laysWay_35 : decode cX12_laysWay 35 = .ok (.iconst 0, 1) := by decide +kernel
theorem dX12_laysWay_36 : decode cX12_laysWay 36 = .ok (.istore_n 2, 1) := by decide +kernel
theorem dX12_laysWay_37 : decode cX12_laysWay 37 = .ok (.iconst 0, 1) := by decide +kernel
theorem dX12_laysWay_38 : decode cX12_laysWay 38 = .ok (.istore_n 3, 1) := by decide +kernel
theorem dX12_laysWay_39 : decode cX12_laysWay 39 = .ok (.iload_n 2, 1) := by decide +kernel
theorem dX12_laysWay_40 : decode cX12_laysWay 40 = .ok (.aload_n 0, 1) := by decide +kernel
theorem dX12_laysWay_41 : decode cX12_laysWay 41 = .ok (.getfield 314, 3) := by decide +kernel
theorem dX12_laysWay_44 : decode cX12_laysWay 44 = .ok (.if_icmp .ge 143, 3) := by decide +kernel
theorem dX12_laysWay_47 : decode cX12_laysWay 47 = .ok (.iconst 0, 1) := by decide +kernel
theorem dX12_laysWay_48 : decode cX12_laysWay 48 = .ok (.istore 4, 2) := by decide +kernel
theorem dX12_laysWay_50 : decode cX12_laysWay 50 = .ok (.aload_n 0, 1) := by decide +kernel
theorem dX12_laysWay_51 : decode cX12_laysWay 51 = .ok (.aload_n 0, 1) := by decide +kernel
theorem dX12_laysWay_52 : decode cX12_laysWay 52 = .ok (.getfield 101, 3) := by decide +kernel
theorem dX12_laysWay_55 : decode cX12_laysWay 55 = .ok (.iload_n 2, 1) := by decide +kernel
theorem dX12_laysWay_56 : decode cX12_laysWay 56 = .ok (.aaload, 1) := by decide +kernel
theorem dX12_laysWay_57 : decode cX12_laysWay 57 = .ok (.iload 4, 2) := by decide +kernel
theorem dX12_laysWay_59 : decode cX12_laysWay 59 = .ok (.aaload, 1) := by decide +kernel
theorem dX12_laysWay_60 : decode cX12_laysWay 60 = .ok (.aload_n 0, 1) := by decide +kernel
theorem dX12_laysWay_61 : decode cX12_laysWay 61 = .ok (.getfield 396, 3) := by decide +kernel
theorem dX12_laysWay_64 : decode cX12_laysWay 64 = .ok (.iload_n 3, 1) := by decide +kernel
theorem dX12_laysWay_65 : decode cX12_laysWay 65 = .ok (.invokevirtual 334, 3) := by decide +kernel
theorem dX12_laysWay_68 : decode cX12_laysWay 68 = .ok (.ifCond .eq 56, 3) := by decide +kernel
theorem dX12_laysWay_71 : decode cX12_laysWay 71 = .ok (.aload_n 0, 1) := by decide +kernel
theorem dX12_laysWay_72 : decode cX12_laysWay 72 = .ok (.getfield 101, 3) := by decide +kernel
theorem dX12_laysWay_75 : decode cX12_laysWay 75 = .ok (.iload_n 2, 1) := by decide +kernel
theorem dX12_laysWay_76 : decode cX12_laysWay 76 = .ok (.aaload, 1) := by decide +kernel
theorem dX12_laysWay_77 : decode cX12_laysWay 77 = .ok (.iload 4, 2) := by decide +kernel
theorem dX12_laysWay_79 : decode cX12_laysWay 79 = .ok (.aaload, 1) := by decide +kernel
theorem dX12_laysWay_80 : decode cX12_laysWay 80 = .ok (.iconst 1, 1) := by decide +kernel
theorem dX12_laysWay_81 : decode cX12_laysWay 81 = .ok (.iaload, 1) := by decide +kernel
theorem dX12_laysWay_82 : decode cX12_laysWay 82 = .ok (.aload_n 0, 1) := by decide +kernel
theorem dX12_laysWay_83 : decode cX12_laysWay 83 = .ok (.getfield 104, 3) := by decide +kernel
theorem dX12_laysWay_86 : decode cX12_laysWay 86 = .ok (.aload_n 0, 1) := by decide +kernel
theorem dX12_laysWay_87 : decode cX12_laysWay 87 = .ok (.getfield 101, 3) := by decide +kernel
theorem dX12_laysWay_90 : decode cX12_laysWay 90 = .ok (.iload_n 2, 1) := by decide +kernel
theorem dX12_laysWay_91 : decode cX12_laysWay 91 = .ok (.aaload, 1) := by decide +kernel
theorem dX12_laysWay_92 : decode cX12_laysWay 92 = .ok (.iload 4, 2) := by decide +kernel
theorem dX12_laysWay_94 : decode cX12_laysWay 94 = .ok (.aaload, 1) := by decide +kernel
theorem dX12_laysWay_95 : decode cX12_laysWay 95 = .ok (.iconst 0, 1) := by decide +kernel
theorem dX12_laysWay_96 : decode cX12_laysWay 96 = .ok (.iaload, 1) := by decide +kernel
theorem dX12_laysWay_97 : decode cX12_laysWay 97 = .ok (.aaload, 1) := by decide +kernel
theorem dX12_laysWay_98 : decode cX12_laysWay 98 = .ok (.iload_n 3, 1) := by decide +kernel
theorem dX12_laysWay_99 : decode cX12_laysWay 99 = .ok (.aload_n 0, 1) := by decide +kernel
theorem dX12_laysWay_100 : decode cX12_laysWay 100 = .ok (.getfield 101, 3) := by decide +kernel
theorem dX12_laysWay_103 : decode cX12_laysWay 103 = .ok (.iload_n 2, 1) := by decide +kernel
theorem dX12_laysWay_104 : decode cX12_laysWay 104 = .ok (.aaload, 1) := by decide +kernel
theorem dX12_laysWay_105 : decode cX12_laysWay 105 = .ok (.iload 4, 2) := by decide +kernel
theorem dX12_laysWay_107 : decode cX12_laysWay 107 = .ok (.aaload, 1) := by decide +kernel
theorem dX12_laysWay_108 : decode cX12_laysWay 108 = .ok (.iconst 2, 1) := by decide +kernel
theorem dX12_laysWay_109 : decode cX12_laysWay 109 = .ok (.iaload, 1) := by decide +kernel
theorem dX12_laysWay_110 : decode cX12_laysWay 110 = .ok (.iadd, 1) := by decide +kernel
theorem dX12_laysWay_111 : decode cX12_laysWay 111 = .ok (.iaload, 1) := by decide +kernel
theorem dX12_laysWay_112 : decode cX12_laysWay 112 = .ok (.iadd, 1) := by decide +kernel
theorem dX12_laysWay_113 : decode cX12_laysWay 113 = .ok (.aload_n 0, 1) := by decide +kernel
theorem dX12_laysWay_114 : decode cX12_laysWay 114 = .ok (.getfield 104, 3) := by decide +kernel
theorem dX12_laysWay_117 : decode cX12_laysWay 117 = .ok (.iload_n 2, 1) := by decide +kernel
theorem dX12_laysWay_118 : decode cX12_laysWay 118 = .ok (.aaload, 1) := by decide +kernel
theorem dX12_laysWay_119 : decode cX12_laysWay 119 = .ok (.iload_n 3, 1) := by decide +kernel
theorem dX12_laysWay_120 : decode cX12_laysWay 120 = .ok (.iaload, 1) := by decide +kernel
theorem dX12_laysWay_121 : decode cX12_laysWay 121 = .ok (.if_icmp .eq 9, 3) := by decide +kernel
theorem dX12_laysWay_124 : decode cX12_laysWay 124 = .ok (.iinc 4 1, 3) := by decide +kernel
theorem dX12_laysWay_127 : decode cX12_laysWay 127 = .ok (.goto (-77), 3) := by decide +kernel
theorem dX12_laysWay_130 : decode cX12_laysWay 130 = .ok (.aload_n 0, 1) := by decide +kernel
theorem dX12_laysWay_131 : decode cX12_laysWay 131 = .ok (.getfield 128, 3) := by decide +kernel
theorem dX12_laysWay_134 : decode cX12_laysWay 134 = .ok (.aload_n 0, 1) := by decide +kernel
theorem dX12_laysWay_135 : decode cX12_laysWay 135 = .ok (.getfield 408, 3) := by decide +kernel
theorem dX12_laysWay_138 : decode cX12_laysWay 138 = .ok (.iload_n 2, 1) := by decide +kernel
theorem dX12_laysWay_139 : decode cX12_laysWay 139 = .ok (.iastore, 1) := by decide +kernel
theorem dX12_laysWay_140 : decode cX12_laysWay 140 = .ok (.aload_n 0, 1) := by decide +kernel
theorem dX12_laysWay_141 : decode cX12_laysWay 141 = .ok (.getfield 131, 3) := by decide +kernel
theorem dX12_laysWay_144 : decode cX12_laysWay 144 = .ok (.aload_n 0, 1) := by decide +kernel
theorem dX12_laysWay_145 : decode cX12_laysWay 145 = .ok (.getfield 408, 3) := by decide +kernel
theorem dX12_laysWay_148 : decode cX12_laysWay 148 = .ok (.iload 4, 2) := by decide +kernel
theorem dX12_laysWay_150 : decode cX12_laysWay 150 = .ok (.iastore, 1) := by decide +kernel
theorem dX12_laysWay_151 : decode cX12_laysWay 151 = .ok (.aload_n 0, 1) := by decide +kernel
theorem dX12_laysWay_152 : decode cX12_laysWay 152 = .ok (.dup, 1) := by decide +kernel
theorem dX12_laysWay_153 : decode cX12_laysWay 153 = .ok (.getfield 408, 3) := by decide +kernel
theorem dX12_laysWay_156 : decode cX12_laysWay 156 = .ok (.iconst 1, 1) := by decide +kernel
theorem dX12_laysWay_157 : decode cX12_laysWay 157 = .ok (.iadd, 1) := by decide +kernel
theorem dX12_laysWay_158 : decode cX12_laysWay 158 = .ok (.putfield 408, 3) := by decide +kernel
theorem dX12_laysWay_161 : decode cX12_laysWay 161 = .ok (.aload_n 0, 1) := by decide +kernel
theorem dX12_laysWay_162 : decode cX12_laysWay 162 = .ok (.getfield 101, 3) := by decide +kernel
theorem dX12_laysWay_165 : decode cX12_laysWay 165 = .ok (.iload_n 2, 1) := by decide +kernel
theorem dX12_laysWay_166 : decode cX12_laysWay 166 = .ok (.aaload, 1) := by decide +kernel
theorem dX12_laysWay_167 : decode cX12_laysWay 167 = .ok (.iload 4, 2) := by decide +kernel
theorem dX12_laysWay_169 : decode cX12_laysWay 169 = .ok (.aaload, 1) := by decide +kernel
theorem dX12_laysWay_170 : decode cX12_laysWay 170 = .ok (.astore 5, 2) := by decide +kernel
theorem dX12_laysWay_172 : decode cX12_laysWay 172 = .ok (.aload 5, 2) := by decide +kernel
theorem dX12_laysWay_174 : decode cX12_laysWay 174 = .ok (.iconst 0, 1) := by decide +kernel
theorem dX12_laysWay_175 : decode cX12_laysWay 175 = .ok (.iaload, 1) := by decide +kernel
theorem dX12_laysWay_176 : decode cX12_laysWay 176 = .ok (.istore_n 2, 1) := by decide +kernel
theorem dX12_laysWay_177 : decode cX12_laysWay 177 = .ok (.iload_n 3, 1) := by decide +kernel
theorem dX12_laysWay_178 : decode cX12_laysWay 178 = .ok (.aload 5, 2) := by decide +kernel
theorem dX12_laysWay_180 : decode cX12_laysWay 180 = .ok (.iconst 2, 1) := by decide +kernel
theorem dX12_laysWay_181 : decode cX12_laysWay 181 = .ok (.iaload, 1) := by decide +kernel
theorem dX12_laysWay_182 : decode cX12_laysWay 182 = .ok (.iadd, 1) := by decide +kernel
theorem dX12_laysWay_183 : decode cX12_laysWay 183 = .ok (.istore_n 3, 1) := by decide +kernel
theorem dX12_laysWay_184 : decode cX12_laysWay 184 = .ok (.goto (-145), 3) := by decide +kernel
theorem dX12_laysWay_187 : decode cX12_laysWay 187 = .ok (.iconst 1, 1) := by decide +kernel
theorem dX12_laysWay_188 : decode cX12_laysWay 188 = .ok (.ireturn, 1) := by decide +kernel
theorem dX12_way_0 : decode cX12_way 0 = .ok (.aload_n 0, 1) := by decide +kernel
theorem dX12_way_1 : decode cX12_way 1 = .ok (.iconst 0, 1) := by decide +kernel
theorem dX12_way_2 : decode cX12_way 2 = .ok (.putfield 180, 3) := by decide +kernel
theorem dX12_way_5 : decode cX12_way 5 = .ok (.aload_n 0, 1) := by decide +kernel
theorem dX12_way_6 : decode cX12_way 6 = .ok (.aload_n 0, 1) := by decide +kernel
theorem dX12_way_7 : decode cX12_way 7 = .ok (.iload_n 1, 1) := by decide +kernel
theorem dX12_way_8 : decode cX12_way 8 = .ok (.invokevirtual 368, 3) := by decide +kernel
theorem dX12_way_11 : decode cX12_way 11 = .ok (.ifCond .ne 7, 3) := by decide +kernel
theorem dX12_way_14 : decode cX12_way 14 = .ok (.iconst 1, 1) := by decide +kernel
theorem dX12_way_15 : decode cX12_way 15 = .ok (.goto 4, 3) := by decide +kernel
theorem dX12_way_18 : decode cX12_way 18 = .ok (.iconst 0, 1) := by decide +kernel
theorem dX12_way_19 : decode cX12_way 19 = .ok (.iconst 1, 1) := by decide +kernel
theorem dX12_way_20 : decode cX12_way 20 = .ok (.iconst 0, 1) := by decide +kernel
theorem dX12_way_21 : decode cX12_way 21 = .ok (.invokevirtual 249, 3) := by decide +kernel
theorem dX12_way_24 : decode cX12_way 24 = .ok (.ifCond .ne 26, 3) := by decide +kernel
theorem dX12_way_27 : decode cX12_way 27 = .ok (.aload_n 0, 1) := by decide +kernel
theorem dX12_way_28 : decode cX12_way 28 = .ok (.iload_n 2, 1) := by decide +kernel
theorem dX12_way_29 : decode cX12_way 29 = .ok (.iconst 0, 1) := by decide +kernel
theorem dX12_way_30 : decode cX12_way 30 = .ok (.iconst 1, 1) := by decide +kernel
theorem dX12_way_31 : decode cX12_way 31 = .ok (.invokestatic 223, 3) := by decide +kernel
theorem dX12_way_34 : decode cX12_way 34 = .ok (.ifCond .ne 7, 3) := by decide +kernel
theorem dX12_way_37 : decode cX12_way 37 = .ok (.iconst 1, 1) := by decide +kernel
theorem dX12_way_38 : decode cX12_way 38 = .ok (.goto 4, 3) := by decide +kernel
theorem dX12_way_41 : decode cX12_way 41 = .ok (.iconst 0, 1) := by decide +kernel
theorem dX12_way_42 : decode cX12_way 42 = .ok (.iconst 2, 1) := by decide +kernel
theorem dX12_way_43 : decode cX12_way 43 = .ok (.iconst 1, 1) := by decide +kernel
theorem dX12_way_44 : decode cX12_way 44 = .ok (.invokevirtual 249, 3) := by decide +kernel
theorem dX12_way_47 : decode cX12_way 47 = .ok (.ifCond .eq 5, 3) := by decide +kernel
theorem dX12_way_50 : decode cX12_way 50 = .ok (.iconst 0, 1) := by decide +kernel
theorem dX12_way_51 : decode cX12_way 51 = .ok (.ireturn, 1) := by decide +kernel
theorem dX12_way_52 : decode cX12_way 52 = .ok (.aload_n 0, 1) := by decide +kernel
theorem dX12_way_53 : decode cX12_way 53 = .ok (.iload_n 1, 1) := by decide +kernel
theorem dX12_way_54 : decode cX12_way 54 = .ok (.invokevirtual 411, 3) := by decide +kernel
theorem dX12_way_57 : decode cX12_way 57 = .ok (.ifCond .ne 5, 3) := by decide +kernel
theorem dX12_way_60 : decode cX12_way 60 = .ok (.iconst (-1), 1) := by decide +kernel
theorem dX12_way_61 : decode cX12_way 61 = .ok (.ireturn, 1) := by decide +kernel
theorem dX12_way_62 : decode cX12_way 62 = .ok (.iload_n 2, 1) := by decide +kernel
theorem dX12_way_63 : decode cX12_way 63 = .ok (.ifCond .ne 10, 3) := by decide +kernel
theorem dX12_way_66 : decode cX12_way 66 = .ok (.aload_n 0, 1) := by decide +kernel
theorem dX12_way_67 : decode cX12_way 67 = .ok (.getfield 408, 3) := by decide +kernel
theorem dX12_way_70 : decode cX12_way 70 = .ok (.goto 11, 3) := by decide +kernel
theorem dX12_way_73 : decode cX12_way 73 = .ok (.aload_n 0, 1) := by decide +kernel
theorem dX12_way_74 : decode cX12_way 74 = .ok (.getfield 104, 3) := by decide +kernel
theorem dX12_way_77 : decode cX12_way 77 = .ok (.iconst 0, 1) := by decide +kernel
theorem dX12_way_78 : decode cX12_way 78 = .ok (.aaload, 1) := by decide +kernel
theorem dX12_way_79 : decode cX12_way 79 = .ok (.iconst 0, 1) := by decide +kernel
theorem dX12_way_80 : decode cX12_way 80 = .ok (.iaload, 1) := by decide +kernel
theorem dX12_way_81 : decode cX12_way 81 = .ok (.ireturn, 1) := by decide +kernel
theorem dX12_edge__0 : decode cX12_edge_ 0 = .ok (.aload_n 0, 1) := by decide +kernel
theorem dX12_edge__1 : decode cX12_edge_ 1 = .ok (.iconst 0, 1) := by decide +kernel
theorem dX12_edge__2 : decode cX12_edge_ 2 = .ok (.putfield 180, 3) := by decide +kernel
theorem dX12_edge__5 : decode cX12_edge_ 5 = .ok (.aload_n 0, 1) := by decide +kernel
theorem dX12_edge__6 : decode cX12_edge_ 6 = .ok (.iload_n 1, 1) := by decide +kernel
theorem dX12_edge__7 : decode cX12_edge_ 7 = .ok (.invokevirtual 368, 3) := by decide +kernel
theorem dX12_edge__10 : decode cX12_edge_ 10 = .ok (.istore 4, 2) := by decide +kernel
theorem dX12_edge__12 : decode cX12_edge_ 12 = .ok (.iload 4, 2) := by decide +kernel
theorem dX12_edge__14 : decode cX12_edge_ 14 = .ok (.ifCond .eq 9, 3) := by decide +kernel
theorem dX12_edge__17 : decode cX12_edge_ 17 = .ok (.aload_n 0, 1) := by decide +kernel
theorem dX12_edge__18 : decode cX12_edge_ 18 = .ok (.iload_n 1, 1) := by decide +kernel
theorem dX12_edge__19 : decode cX12_edge_ 19 = .ok (.invokevirtual 411, 3) := by decide +kernel
theorem dX12_edge__22 : decode cX12_edge_ 22 = .ok (.pop, 1) := by decide +kernel
theorem dX12_edge__23 : decode cX12_edge_ 23 = .ok (.aload_n 0, 1) := by decide +kernel
theorem dX12_edge__24 : decode cX12_edge_ 24 = .ok (.iload 4, 2) := by decide +kernel
theorem dX12_edge__26 : decode cX12_edge_ 26 = .ok (.ifCond .eq 17, 3) := by decide +kernel
theorem dX12_edge__29 : decode cX12_edge_ 29 = .ok (.iload_n 2, 1) := by decide +kernel
theorem dX12_edge__30 : decode cX12_edge_ 30 = .ok (.iconst 0, 1) := by decide +kernel
theorem dX12_edge__31 : decode cX12_edge_ 31 = .ok (.aload_n 0, 1) := by decide +kernel
theorem dX12_edge__32 : decode cX12_edge_ 32 = .ok (.getfield 408, 3) := by decide +kernel
theorem dX12_edge__35 : decode cX12_edge_ 35 = .ok (.iconst 1, 1) := by decide +kernel
theorem dX12_edge__36 : decode cX12_edge_ 36 = .ok (.isub, 1) := by decide +kernel
theorem dX12_edge__37 : decode cX12_edge_ 37 = .ok (.invokestatic 223, 3) := by decide +kernel
theorem dX12_edge__40 : decode cX12_edge_ 40 = .ok (.ifCond .ne 7, 3) := by decide +kernel
theorem dX12_edge__43 : decode cX12_edge_ 43 = .ok (.iconst 1, 1) := by decide +kernel
theorem dX12_edge__44 : decode cX12_edge_ 44 = .ok (.goto 4, 3) := by decide +kernel
theorem dX12_edge__47 : decode cX12_edge_ 47 = .ok (.iconst 0, 1) := by decide +kernel
theorem dX12_edge__48 : decode cX12_edge_ 48 = .ok (.iconst 1, 1) := by decide +kernel
theorem dX12_edge__49 : decode cX12_edge_ 49 = .ok (.iconst 0, 1) := by decide +kernel
theorem dX12_edge__50 : decode cX12_edge_ 50 = .ok (.invokevirtual 249, 3) := by decide +kernel
theorem dX12_edge__53 : decode cX12_edge_ 53 = .ok (.ifCond .ne 26, 3) := by decide +kernel
theorem dX12_edge__56 : decode cX12_edge_ 56 = .ok (.aload_n 0, 1) := by decide +kernel
theorem dX12_edge__57 : decode cX12_edge_ 57 = .ok (.iload_n 3, 1) := by decide +kernel
theorem dX12_edge__58 : decode cX12_edge_ 58 = .ok (.iconst 0, 1) := by decide +kernel
theorem dX12_edge__59 : decode cX12_edge_ 59 = .ok (.iconst 4, 1) := by decide +kernel
theorem dX12_edge__60 : decode cX12_edge_ 60 = .ok (.invokestatic 223, 3) := by decide +kernel
theorem dX12_edge__63 : decode cX12_edge_ 63 = .ok (.ifCond .ne 7, 3) := by decide +kernel
theorem dX12_edge__66 : decode cX12_edge_ 66 = .ok (.iconst 1, 1) := by decide +kernel
theorem dX12_edge__67 : decode cX12_edge_ 67 = .ok (.goto 4, 3) := by decide +kernel
theorem dX12_edge__70 : decode cX12_edge_ 70 = .ok (.iconst 0, 1) := by decide +kernel
theorem dX12_edge__71 : decode cX12_edge_ 71 = .ok (.iconst 2, 1) := by decide +kernel
theorem dX12_edge__72 : decode cX12_edge_ 72 = .ok (.iconst 1, 1) := by decide +kernel
theorem dX12_edge__73 : decode cX12_edge_ 73 = .ok (.invokevirtual 249, 3) := by decide +kernel
theorem dX12_edge__76 : decode cX12_edge_ 76 = .ok (.ifCond .eq 5, 3) := by decide +kernel
theorem dX12_edge__79 : decode cX12_edge_ 79 = .ok (.iconst 0, 1) := by decide +kernel
theorem dX12_edge__80 : decode cX12_edge_ 80 = .ok (.ireturn, 1) := by decide +kernel
theorem dX12_edge__81 : decode cX12_edge_ 81 = .ok (.aload_n 0, 1) := by decide +kernel
theorem dX12_edge__82 : decode cX12_edge_ 82 = .ok (.getfield 101, 3) := by decide +kernel
theorem dX12_edge__85 : decode cX12_edge_ 85 = .ok (.aload_n 0, 1) := by decide +kernel
theorem dX12_edge__86 : decode cX12_edge_ 86 = .ok (.getfield 128, 3) := by decide +kernel
theorem dX12_edge__89 : decode cX12_edge_ 89 = .ok (.iload_n 2, 1) := by decide +kernel
theorem dX12_edge__90 : decode cX12_edge_ 90 = .ok (.iaload, 1) := by decide +kernel
theorem dX12_edge__91 : decode cX12_edge_ 91 = .ok (.aaload, 1) := by decide +kernel
theorem dX12_edge__92 : decode cX12_edge_ 92 = .ok (.aload_n 0, 1) := by decide +kernel
theorem dX12_edge__93 : decode cX12_edge_ 93 = .ok (.getfield 131, 3) := by decide +kernel
theorem dX12_edge__96 : decode cX12_edge_ 96 = .ok (.iload_n 2, 1) := by decide +kernel
theorem dX12_edge__97 : decode cX12_edge_ 97 = .ok (.iaload, 1) := by decide +kernel
theorem dX12_edge__98 : decode cX12_edge_ 98 = .ok (.aaload, 1) := by decide +kernel
theorem dX12_edge__99 : decode cX12_edge_ 99 = .ok (.astore 5, 2) := by decide +kernel
theorem dX12_edge__101 : decode cX12_edge_ 101 = .ok (.iload_n 3, 1) := by decide +kernel
theorem dX12_edge__102 : decode cX12_edge_ 102 = .ok (.ifCond .ne 12, 3) := by decide +kernel
theorem dX12_edge__105 : decode cX12_edge_ 105 = .ok (.aload_n 0, 1) := by decide +kernel
theorem dX12_edge__106 : decode cX12_edge_ 106 = .ok (.getfield 128, 3) := by decide +kernel
theorem dX12_edge__109 : decode cX12_edge_ 109 = .ok (.iload_n 2, 1) := by decide +kernel
theorem dX12_edge__110 : decode cX12_edge_ 110 = .ok (.iaload, 1) := by decide +kernel
theorem dX12_edge__111 : decode cX12_edge_ 111 = .ok (.goto 44, 3) := by decide +kernel
theorem dX12_edge__114 : decode cX12_edge_ 114 = .ok (.iload_n 3, 1) := by decide +kernel
theorem dX12_edge__115 : decode cX12_edge_ 115 = .ok (.iconst 1, 1) := by decide +kernel
theorem dX12_edge__116 : decode cX12_edge_ 116 = .ok (.if_icmp .ne 10, 3) := by decide +kernel
theorem dX12_edge__119 : decode cX12_edge_ 119 = .ok (.aload 5, 2) := by decide +kernel
theorem dX12_edge__121 : decode cX12_edge_ 121 = .ok (.iconst 0, 1) := by decide +kernel
theorem dX12_edge__122 : decode cX12_edge_ 122 = .ok (.iaload, 1) := by decide +kernel
theorem dX12_edge__123 : decode cX12_edge_ 123 = .ok (.goto 32, 3) := by decide +kernel
theorem dX12_edge__126 : decode cX12_edge_ 126 = .ok (.iload_n 3, 1) := by decide +kernel
theorem dX12_edge__127 : decode cX12_edge_ 127 = .ok (.iconst 2, 1) := by decide +kernel
theorem dX12_edge__128 : decode cX12_edge_ 128 = .ok (.if_icmp .ne 10, 3) := by decide +kernel
theorem dX12_edge__131 : decode cX12_edge_ 131 = .ok (.aload 5, 2) := by decide +kernel
theorem dX12_edge__133 : decode cX12_edge_ 133 = .ok (.iconst 1, 1) := by decide +kernel
theorem dX12_edge__134 : decode cX12_edge_ 134 = .ok (.iaload, 1) := by decide +kernel
theorem dX12_edge__135 : decode cX12_edge_ 135 = .ok (.goto 20, 3) := by decide +kernel
theorem dX12_edge__138 : decode cX12_edge_ 138 = .ok (.iload_n 3, 1) := by decide +kernel
theorem dX12_edge__139 : decode cX12_edge_ 139 = .ok (.iconst 3, 1) := by decide +kernel
theorem dX12_edge__140 : decode cX12_edge_ 140 = .ok (.if_icmp .ne 10, 3) := by decide +kernel
theorem dX12_edge__143 : decode cX12_edge_ 143 = .ok (.aload 5, 2) := by decide +kernel
theorem dX12_edge__145 : decode cX12_edge_ 145 = .ok (.iconst 2, 1) := by decide +kernel
theorem dX12_edge__146 : decode cX12_edge_ 146 = .ok (.iaload, 1) := by decide +kernel
theorem dX12_edge__147 : decode cX12_edge_ 147 = .ok (.goto 8, 3) := by decide +kernel
theorem dX12_edge__150 : decode cX12_edge_ 150 = .ok (.aload 5, 2) := by decide +kernel
theorem dX12_edge__152 : decode cX12_edge_ 152 = .ok (.bipush 6, 2) := by decide +kernel
theorem dX12_edge__154 : decode cX12_edge_ 154 = .ok (.iaload, 1) := by decide +kernel
theorem dX12_edge__155 : decode cX12_edge_ 155 = .ok (.ireturn, 1) := by decide +kernel
theorem dX12_used_0 : decode cX12_used 0 = .ok (.aload_n 0, 1) := by decide +kernel
theorem dX12_used_1 : decode cX12_used 1 = .ok (.iconst 0, 1) := by decide +kernel
theorem dX12_used_2 : decode cX12_used 2 = .ok (.putfield 180, 3) := by decide +kernel
theorem dX12_used_5 : decode cX12_used 5 = .ok (.aload_n 0, 1) := by decide +kernel
theorem dX12_used_6 : decode cX12_used 6 = .ok (.iload_n 1, 1) := by decide +kernel
theorem dX12_used_7 : decode cX12_used 7 = .ok (.iconst 0, 1) := by decide +kernel
theorem dX12_used_8 : decode cX12_used 8 = .ok (.aload_n 0, 1) := by decide +kernel
theorem dX12_used_9 : decode cX12_used 9 = .ok (.getfield 55, 3) := by decide +kernel
theorem dX12_used_12 : decode cX12_used 12 = .ok (.iconst 0, 1) := by decide +kernel
theorem dX12_used_13 : decode cX12_used 13 = .ok (.iaload, 1) := by decide +kernel
theorem dX12_used_14 : decode cX12_used 14 = .ok (.iconst 1, 1) := by decide +kernel
theorem dX12_used_15 : decode cX12_used 15 = .ok (.isub, 1) := by decide +kernel
theorem dX12_used_16 : decode cX12_used 16 = .ok (.invokestatic 223, 3) := by decide +kernel
theorem dX12_used_19 : decode cX12_used 19 = .ok (.ifCond .ne 7, 3) := by decide +kernel
theorem dX12_used_22 : decode cX12_used 22 = .ok (.iconst 1, 1) := by decide +kernel
theorem dX12_used_23 : decode cX12_used 23 = .ok (.goto 4, 3) := by decide +kernel
theorem dX12_used_26 : decode cX12_used 26 = .ok (.iconst 0, 1) := by decide +kernel
theorem dX12_used_27 : decode cX12_used 27 = .ok (.iconst 1, 1) := by decide +kernel
theorem dX12_used_28 : decode cX12_used 28 = .ok (.iconst 0, 1) := by decide +kernel
theorem dX12_used_29 : decode cX12_used 29 = .ok (.invokevirtual 249, 3) := by decide +kernel
theorem dX12_used_32 : decode cX12_used 32 = .ok (.ifCond .eq 5, 3) := by decide +kernel
theorem dX12_used_35 : decode cX12_used 35 = .ok (.iconst 0, 1) := by decide +kernel
theorem dX12_used_36 : decode cX12_used 36 = .ok (.ireturn, 1) := by decide +kernel
theorem dX12_used_37 : decode cX12_used 37 = .ok (.iconst 0, 1) := by decide +kernel
theorem dX12_used_38 : decode cX12_used 38 = .ok (.istore_n 2, 1) := by decide +kernel
theorem dX12_used_39 : decode cX12_used 39 = .ok (.iconst 0, 1) := by decide +kernel
theorem dX12_used_40 : decode cX12_used 40 = .ok (.istore_n 3, 1) := by decide +kernel
theorem dX12_used_41 : decode cX12_used 41 = .ok (.iload_n 3, 1) := by decide +kernel
theorem dX12_used_42 : decode cX12_used 42 = .ok (.aload_n 0, 1) := by decide +kernel
theorem dX12_used_43 : decode cX12_used 43 = .ok (.getfield 66, 3) := by decide +kernel
theorem dX12_used_46 : decode cX12_used 46 = .ok (.iconst 0, 1) := by decide +kernel
theorem dX12_used_47 : decode cX12_used 47 = .ok (.iaload, 1) := by decide +kernel
theorem dX12_used_48 : decode cX12_used 48 = .ok (.if_icmp .ge 68, 3) := by decide +kernel
theorem dX12_used_51 : decode cX12_used 51 = .ok (.aload_n 0, 1) := by decide +kernel
theorem dX12_used_52 : decode cX12_used 52 = .ok (.iload_n 3, 1) := by decide +kernel
theorem dX12_used_53 : decode cX12_used 53 = .ok (.invokevirtual 411, 3) := by decide +kernel
theorem dX12_used_56 : decode cX12_used 56 = .ok (.pop, 1) := by decide +kernel
theorem dX12_used_57 : decode cX12_used 57 = .ok (.iconst 0, 1) := by decide +kernel
theorem dX12_used_58 : decode cX12_used 58 = .ok (.istore 4, 2) := by decide +kernel
theorem dX12_used_60 : decode cX12_used 60 = .ok (.iload 4, 2) := by decide +kernel
theorem dX12_used_62 : decode cX12_used 62 = .ok (.aload_n 0, 1) := by decide +kernel
theorem dX12_used_63 : decode cX12_used 63 = .ok (.getfield 408, 3) := by decide +kernel
theorem dX12_used_66 : decode cX12_used 66 = .ok (.if_icmp .ge 44, 3) := by decide +kernel
theorem dX12_used_69 : decode cX12_used 69 = .ok (.iload_n 2, 1) := by decide +kernel
theorem dX12_used_70 : decode cX12_used 70 = .ok (.aload_n 0, 1) := by decide +kernel
theorem dX12_used_71 : decode cX12_used 71 = .ok (.getfield 101, 3) := by decide +kernel
theorem dX12_used_74 : decode cX12_used 74 = .ok (.aload_n 0, 1) := by decide +kernel
theorem dX12_used_75 : decode cX12_used 75 = .ok (.getfield 128, 3) := by decide +kernel
theorem dX12_used_78 : decode cX12_used 78 = .ok (.iload 4, 2) := by decide +kernel
theorem dX12_used_80 : decode cX12_used 80 = .ok (.iaload, 1) := by decide +kernel
theorem dX12_used_81 : decode cX12_used 81 = .ok (.aaload, 1) := by decide +kernel
theorem dX12_used_82 : decode cX12_used 82 = .ok (.aload_n 0, 1) := by decide +kernel
theorem dX12_used_83 : decode cX12_used 83 = .ok (.getfield 131, 3) := by decide +kernel
theorem dX12_used_86 : decode cX12_used 86 = .ok (.iload 4, 2) := by decide +kernel
theorem dX12_used_88 : decode cX12_used 88 = .ok (.iaload, 1) := by decide +kernel
theorem dX12_used_89 : decode cX12_used 89 = .ok (.aaload, 1) := by decide +kernel
theorem dX12_used_90 : decode cX12_used 90 = .ok (.bipush 6, 2) := by decide +kernel
theorem dX12_used_92 : decode cX12_used 92 = .ok (.iaload, 1) := by decide +kernel
theorem dX12_used_93 : decode cX12_used 93 = .ok (.iload_n 1, 1) := by decide +kernel
theorem dX12_used_94 : decode cX12_used 94 = .ok (.if_icmp .ne 7, 3) := by decide +kernel
theorem dX12_used_97 : decode cX12_used 97 = .ok (.iconst 1, 1) := by decide +kernel
theorem dX12_used_98 : decode cX12_used 98 = .ok (.goto 4, 3) := by decide +kernel
theorem dX12_used_101 : decode cX12_used 101 = .ok (.iconst 0, 1) := by decide +kernel
theorem dX12_used_102 : decode cX12_used 102 = .ok (.iadd, 1) := by decide +kernel
theorem dX12_used_103 : decode cX12_used 103 = .ok (.istore_n 2, 1) := by decide +kernel
theorem dX12_used_104 : decode cX12_used 104 = .ok (.iinc 4 1, 3) := by decide +kernel
theorem dX12_used_107 : decode cX12_used 107 = .ok (.goto (-47), 3) := by decide +kernel
theorem dX12_used_110 : decode cX12_used 110 = .ok (.iinc 3 1, 3) := by decide +kernel
theorem dX12_used_113 : decode cX12_used 113 = .ok (.goto (-72), 3) := by decide +kernel
theorem dX12_used_116 : decode cX12_used 116 = .ok (.iload_n 2, 1) := by decide +kernel
theorem dX12_used_117 : decode cX12_used 117 = .ok (.ireturn, 1) := by decide +kernel
theorem dX12_laysChoices_0 : decode cX12_laysChoices 0 = .ok (.aload_n 0, 1) := by decide +kernel
theorem dX12_laysChoices_1 : decode cX12_laysChoices 1 = .ok (.iload_n 1, 1) := by decide +kernel
theorem dX12_laysChoices_2 : decode cX12_laysChoices 2 = .ok (.iconst 0, 1) := by decide +kernel
theorem dX12_laysChoices_3 : decode cX12_laysChoices 3 = .ok (.invokevirtual 371, 3) := by decide +kernel
theorem dX12_laysChoices_6 : decode cX12_laysChoices 6 = .ok (.aload_n 0, 1) := by decide +kernel
theorem dX12_laysChoices_7 : decode cX12_laysChoices 7 = .ok (.iconst 4, 1) := by decide +kernel
theorem dX12_laysChoices_8 : decode cX12_laysChoices 8 = .ok (.invokevirtual 387, 3) := by decide +kernel
theorem dX12_laysChoices_11 : decode cX12_laysChoices 11 = .ok (.iconst 0, 1) := by decide +kernel
theorem dX12_laysChoices_12 : decode cX12_laysChoices 12 = .ok (.istore_n 2, 1) := by decide +kernel
theorem dX12_laysChoices_13 : decode cX12_laysChoices 13 = .ok (.iconst 0, 1) := by decide +kernel
theorem dX12_laysChoices_14 : decode cX12_laysChoices 14 = .ok (.istore_n 3, 1) := by decide +kernel
theorem dX12_laysChoices_15 : decode cX12_laysChoices 15 = .ok (.iload_n 3, 1) := by decide +kernel
theorem dX12_laysChoices_16 : decode cX12_laysChoices 16 = .ok (.aload_n 0, 1) := by decide +kernel
theorem dX12_laysChoices_17 : decode cX12_laysChoices 17 = .ok (.getfield 350, 3) := by decide +kernel
theorem dX12_laysChoices_20 : decode cX12_laysChoices 20 = .ok (.if_icmp .ge 56, 3) := by decide +kernel
theorem dX12_laysChoices_23 : decode cX12_laysChoices 23 = .ok (.aload_n 0, 1) := by decide +kernel
theorem dX12_laysChoices_24 : decode cX12_laysChoices 24 = .ok (.getfield 122, 3) := by decide +kernel
theorem dX12_laysChoices_27 : decode cX12_laysChoices 27 = .ok (.iload_n 3, 1) := by decide +kernel
theorem dX12_laysChoices_28 : decode cX12_laysChoices 28 = .ok (.iaload, 1) := by decide +kernel
theorem dX12_laysChoices_29 : decode cX12_laysChoices 29 = .ok (.aload_n 0, 1) := by decide +kernel
theorem dX12_laysChoices_30 : decode cX12_laysChoices 30 = .ok (.invokevirtual 381, 3) := by decide +kernel
theorem dX12_laysChoices_33 : decode cX12_laysChoices 33 = .ok (.if_icmp .le 6, 3) := by decide +kernel
theorem dX12_laysChoices_36 : decode cX12_laysChoices 36 = .ok (.goto 34, 3) := by decide +kernel
theorem dX12_laysChoices_39 : decode cX12_laysChoices 39 = .ok (.aload_n 0, 1) := by decide +kernel
theorem dX12_laysChoices_40 : decode cX12_laysChoices 40 = .ok (.getfield 137, 3) := by decide +kernel
theorem dX12_laysChoices_43 : decode cX12_laysChoices 43 = .ok (.iload_n 1, 1) := by decide +kernel
theorem dX12_laysChoices_44 : decode cX12_laysChoices 44 = .ok (.aaload, 1) := by decide +kernel
theorem dX12_laysChoices_45 : decode cX12_laysChoices 45 = .ok (.iload_n 2, 1) := by decide +kernel
theorem dX12_laysChoices_46 : decode cX12_laysChoices 46 = .ok (.aload_n 0, 1) := by decide +kernel
theorem dX12_laysChoices_47 : decode cX12_laysChoices 47 = .ok (.getfield 119, 3) := by decide +kernel
theorem dX12_laysChoices_50 : decode cX12_laysChoices 50 = .ok (.iload_n 3, 1) := by decide +kernel
theorem dX12_laysChoices_51 : decode cX12_laysChoices 51 = .ok (.iaload, 1) := by decide +kernel
theorem dX12_laysChoices_52 : decode cX12_laysChoices 52 = .ok (.iastore, 1) := by decide +kernel
theorem dX12_laysChoices_53 : decode cX12_laysChoices 53 = .ok (.aload_n 0, 1) := by decide +kernel
theorem dX12_laysChoices_54 : decode cX12_laysChoices 54 = .ok (.getfield 140, 3) := by decide +kernel
theorem dX12_laysChoices_57 : decode cX12_laysChoices 57 = .ok (.iload_n 1, 1) := by decide +kernel
theorem dX12_laysChoices_58 : decode cX12_laysChoices 58 = .ok (.aaload, 1) := by decide +kernel
theorem dX12_laysChoices_59 : decode cX12_laysChoices 59 = .ok (.iload_n 2, 1) := by decide +kernel
theorem dX12_laysChoices_60 : decode cX12_laysChoices 60 = .ok (.aload_n 0, 1) := by decide +kernel
theorem dX12_laysChoices_61 : decode cX12_laysChoices 61 = .ok (.getfield 122, 3) := by decide +kernel
theorem dX12_laysChoices_64 : decode cX12_laysChoices 64 = .ok (.iload_n 3, 1) := by decide +kernel
theorem dX12_laysChoices_65 : decode cX12_laysChoices 65 = .ok (.iaload, 1) := by decide +kernel
theorem dX12_laysChoices_66 : decode cX12_laysChoices 66 = .ok (.iastore, 1) := by decide +kernel
theorem dX12_laysChoices_67 : decode cX12_laysChoices 67 = .ok (.iinc 2 1, 3) := by decide +kernel
theorem dX12_laysChoices_70 : decode cX12_laysChoices 70 = .ok (.iinc 3 1, 3) := by decide +kernel
theorem dX12_laysChoices_73 : decode cX12_laysChoices 73 = .ok (.goto (-58), 3) := by decide +kernel
theorem dX12_laysChoices_76 : decode cX12_laysChoices 76 = .ok (.aload_n 0, 1) := by decide +kernel
theorem dX12_laysChoices_77 : decode cX12_laysChoices 77 = .ok (.getfield 137, 3) := by decide +kernel
theorem dX12_laysChoices_80 : decode cX12_laysChoices 80 = .ok (.iload_n 1, 1) := by decide +kernel
theorem dX12_laysChoices_81 : decode cX12_laysChoices 81 = .ok (.aaload, 1) := by decide +kernel
theorem dX12_laysChoices_82 : decode cX12_laysChoices 82 = .ok (.iload_n 2, 1) := by decide +kernel
theorem dX12_laysChoices_83 : decode cX12_laysChoices 83 = .ok (.iconst (-1), 1) := by decide +kernel
theorem dX12_laysChoices_84 : decode cX12_laysChoices 84 = .ok (.iastore, 1) := by decide +kernel
theorem dX12_laysChoices_85 : decode cX12_laysChoices 85 = .ok (.aload_n 0, 1) := by decide +kernel
theorem dX12_laysChoices_86 : decode cX12_laysChoices 86 = .ok (.getfield 140, 3) := by decide +kernel
theorem dX12_laysChoices_89 : decode cX12_laysChoices 89 = .ok (.iload_n 1, 1) := by decide +kernel
theorem dX12_laysChoices_90 : decode cX12_laysChoices 90 = .ok (.aaload, 1) := by decide +kernel
theorem dX12_laysChoices_91 : decode cX12_laysChoices 91 = .ok (.iload_n 2, 1) := by decide +kernel
theorem dX12_laysChoices_92 : decode cX12_laysChoices 92 = .ok (.aload_n 0, 1) := by decide +kernel
theorem dX12_laysChoices_93 : decode cX12_laysChoices 93 = .ok (.invokevirtual 381, 3) := by decide +kernel
theorem dX12_laysChoices_96 : decode cX12_laysChoices 96 = .ok (.iastore, 1) := by decide +kernel
theorem dX12_laysChoices_97 : decode cX12_laysChoices 97 = .ok (.aload_n 0, 1) := by decide +kernel
theorem dX12_laysChoices_98 : decode cX12_laysChoices 98 = .ok (.getfield 134, 3) := by decide +kernel
theorem dX12_laysChoices_101 : decode cX12_laysChoices 101 = .ok (.iload_n 1, 1) := by decide +kernel
theorem dX12_laysChoices_102 : decode cX12_laysChoices 102 = .ok (.iload_n 2, 1) := by decide +kernel
theorem dX12_laysChoices_103 : decode cX12_laysChoices 103 = .ok (.iconst 1, 1) := by decide +kernel
theorem dX12_laysChoices_104 : decode cX12_laysChoices 104 = .ok (.iadd, 1) := by decide +kernel
theorem dX12_laysChoices_105 : decode cX12_laysChoices 105 = .ok (.iastore, 1) := by decide +kernel
theorem dX12_laysChoices_106 : decode cX12_laysChoices 106 = .ok (.return_, 1) := by decide +kernel
theorem dX12_between_0 : decode cX12_between 0 = .ok (.iload_n 1, 1) := by decide +kernel
theorem dX12_between_1 : decode cX12_between 1 = .ok (.iconst (-1), 1) := by decide +kernel
theorem dX12_between_2 : decode cX12_between 2 = .ok (.if_icmp .eq 8, 3) := by decide +kernel
theorem dX12_between_5 : decode cX12_between 5 = .ok (.iload_n 2, 1) := by decide +kernel
theorem dX12_between_6 : decode cX12_between 6 = .ok (.iconst (-1), 1) := by decide +kernel
theorem dX12_between_7 : decode cX12_between 7 = .ok (.if_icmp .ne 7, 3) := by decide +kernel
theorem dX12_between_10 : decode cX12_between 10 = .ok (.iconst 0, 1) := by decide +kernel
theorem dX12_between_11 : decode cX12_between 11 = .ok (.goto 9, 3) := by decide +kernel
theorem dX12_between_14 : decode cX12_between 14 = .ok (.aload_n 0, 1) := by decide +kernel
theorem dX12_between_15 : decode cX12_between 15 = .ok (.iload_n 1, 1) := by decide +kernel
theorem dX12_between_16 : decode cX12_between 16 = .ok (.iload_n 2, 1) := by decide +kernel
theorem dX12_between_17 : decode cX12_between 17 = .ok (.invokevirtual 285, 3) := by decide +kernel
theorem dX12_between_20 : decode cX12_between 20 = .ok (.ireturn, 1) := by decide +kernel
theorem dX12_says_0 : decode cX12_says 0 = .ok (.aload_n 0, 1) := by decide +kernel
theorem dX12_says_1 : decode cX12_says 1 = .ok (.getfield 66, 3) := by decide +kernel
theorem dX12_says_4 : decode cX12_says 4 = .ok (.iconst 0, 1) := by decide +kernel
theorem dX12_says_5 : decode cX12_says 5 = .ok (.iaload, 1) := by decide +kernel
theorem dX12_says_6 : decode cX12_says 6 = .ok (.istore_n 1, 1) := by decide +kernel
theorem dX12_says_7 : decode cX12_says 7 = .ok (.iconst 0, 1) := by decide +kernel
theorem dX12_says_8 : decode cX12_says 8 = .ok (.istore_n 2, 1) := by decide +kernel
theorem dX12_says_9 : decode cX12_says 9 = .ok (.iload_n 2, 1) := by decide +kernel
theorem dX12_says_10 : decode cX12_says 10 = .ok (.iload_n 1, 1) := by decide +kernel
theorem dX12_says_11 : decode cX12_says 11 = .ok (.if_icmp .ge 14, 3) := by decide +kernel
theorem dX12_says_14 : decode cX12_says 14 = .ok (.aload_n 0, 1) := by decide +kernel
theorem dX12_says_15 : decode cX12_says 15 = .ok (.iload_n 2, 1) := by decide +kernel
theorem dX12_says_16 : decode cX12_says 16 = .ok (.invokevirtual 414, 3) := by decide +kernel
theorem dX12_says_19 : decode cX12_says 19 = .ok (.iinc 2 1, 3) := by decide +kernel
theorem dX12_says_22 : decode cX12_says 22 = .ok (.goto (-13), 3) := by decide +kernel
theorem dX12_says_25 : decode cX12_says 25 = .ok (.iload_n 1, 1) := by decide +kernel
theorem dX12_says_26 : decode cX12_says 26 = .ok (.iconst 1, 1) := by decide +kernel
theorem dX12_says_27 : decode cX12_says 27 = .ok (.isub, 1) := by decide +kernel
theorem dX12_says_28 : decode cX12_says 28 = .ok (.istore_n 2, 1) := by decide +kernel
theorem dX12_says_29 : decode cX12_says 29 = .ok (.iload_n 2, 1) := by decide +kernel
theorem dX12_says_30 : decode cX12_says 30 = .ok (.ifCond .lt 152, 3) := by decide +kernel
theorem dX12_says_33 : decode cX12_says 33 = .ok (.iconst 0, 1) := by decide +kernel
theorem dX12_says_34 : decode cX12_says 34 = .ok (.istore_n 3, 1) := by decide +kernel
theorem dX12_says_35 : decode cX12_says 35 = .ok (.iload_n 3, 1) := by decide +kernel
theorem dX12_says_36 : decode cX12_says 36 = .ok (.aload_n 0, 1) := by decide +kernel
theorem dX12_says_37 : decode cX12_says 37 = .ok (.getfield 134, 3) := by decide +kernel
theorem dX12_says_40 : decode cX12_says 40 = .ok (.iload_n 2, 1) := by decide +kernel
theorem dX12_says_41 : decode cX12_says 41 = .ok (.iaload, 1) := by decide +kernel
theorem dX12_says_42 : decode cX12_says 42 = .ok (.if_icmp .ge 134, 3) := by decide +kernel
theorem dX12_says_45 : decode cX12_says 45 = .ok (.iconst (-1), 1) := by decide +kernel
theorem dX12_says_46 : decode cX12_says 46 = .ok (.istore 4, 2) := by decide +kernel
theorem dX12_says_48 : decode cX12_says 48 = .ok (.iconst 0, 1) := by decide +kernel
theorem dX12_says_49 : decode cX12_says 49 = .ok (.istore 5, 2) := by decide +kernel
theorem dX12_says_51 : decode cX12_says 51 = .ok (.iconst 0, 1) := by decide +kernel
theorem dX12_says_52 : decode cX12_says 52 = .ok (.istore 6, 2) := by decide +kernel
theorem dX12_says_54 : decode cX12_says 54 = .ok (.iload_n 2, 1) := by decide +kernel
theorem dX12_says_55 : decode cX12_says 55 = .ok (.iconst 1, 1) := by decide +kernel
theorem dX12_says_56 : decode cX12_says 56 = .ok (.iadd, 1) := by decide +kernel
theorem dX12_says_57 : decode cX12_says 57 = .ok (.iload_n 1, 1) := by decide +kernel
theorem dX12_says_58 : decode cX12_says 58 = .ok (.if_icmp .ge 83, 3) := by decide +kernel
theorem dX12_says_61 : decode cX12_says 61 = .ok (.iload 6, 2) := by decide +kernel
theorem dX12_says_63 : decode cX12_says 63 = .ok (.aload_n 0, 1) := by decide +kernel
theorem dX12_says_64 : decode cX12_says 64 = .ok (.getfield 134, 3) := by decide +kernel
theorem dX12_says_67 : decode cX12_says 67 = .ok (.iload_n 2, 1) := by decide +kernel
theorem dX12_says_68 : decode cX12_says 68 = .ok (.iconst 1, 1) := by decide +kernel
theorem dX12_says_69 : decode cX12_says 69 = .ok (.iadd, 1) := by decide +kernel
theorem dX12_says_70 : decode cX12_says 70 = .ok (.iaload, 1) := by decide +kernel
theorem dX12_says_71 : decode cX12_says 71 = .ok (.if_icmp .ge 70, 3) := by decide +kernel
theorem dX12_says_74 : decode cX12_says 74 = .ok (.aload_n 0, 1) := by decide +kernel
theorem dX12_says_75 : decode cX12_says 75 = .ok (.aload_n 0, 1) := by decide +kernel
theorem dX12_says_76 : decode cX12_says 76 = .ok (.getfield 137, 3) := by decide +kernel
theorem dX12_says_79 : decode cX12_says 79 = .ok (.iload_n 2, 1) := by decide +kernel
theorem dX12_says_80 : decode cX12_says 80 = .ok (.aaload, 1) := by decide +kernel
theorem dX12_says_81 : decode cX12_says 81 = .ok (.iload_n 3, 1) := by decide +kernel
theorem dX12_says_82 : decode cX12_says 82 = .ok (.iaload, 1) := by decide +kernel
theorem dX12_says_83 : decode cX12_says 83 = .ok (.aload_n 0, 1) := by decide +kernel
theorem dX12_says_84 : decode cX12_says 84 = .ok (.getfield 137, 3) := by decide +kernel
theorem dX12_says_87 : decode cX12_says 87 = .ok (.iload_n 2, 1) := by decide +kernel
theorem dX12_says_88 : decode cX12_says 88 = .ok (.iconst 1, 1) := by decide +kernel
theorem dX12_says_89 : decode cX12_says 89 = .ok (.iadd, 1) := by decide +kernel
theorem dX12_says_90 : decode cX12_says 90 = .ok (.aaload, 1) := by decide +kernel
theorem dX12_says_91 : decode cX12_says 91 = .ok (.iload 6, 2) := by decide +kernel
theorem dX12_says_93 : decode cX12_says 93 = .ok (.iaload, 1) := by decide +kernel
theorem dX12_says_94 : decode cX12_says 94 = .ok (.invokevirtual 417, 3) := by decide +kernel
theorem dX12_says_97 : decode cX12_says 97 = .ok (.aload_n 0, 1) := by decide +kernel
theorem dX12_says_98 : decode cX12_says 98 = .ok (.getfield 143, 3) := by decide +kernel
theorem dX12_says_101 : decode cX12_says 101 = .ok (.iload_n 2, 1) := by decide +kernel
theorem dX12_says_102 : decode cX12_says 102 = .ok (.iconst 1, 1) := by decide +kernel
theorem dX12_says_103 : decode cX12_says 103 = .ok (.iadd, 1) := by decide +kernel
theorem dX12_says_104 : decode cX12_says 104 = .ok (.aaload, 1) := by decide +kernel
theorem dX12_says_105 : decode cX12_says 105 = .ok (.iload 6, 2) := by decide +kernel
theorem dX12_says_107 : decode cX12_says 107 = .ok (.iaload, 1) := by decide +kernel
theorem dX12_says_108 : decode cX12_says 108 = .ok (.iadd, 1) := by decide +kernel
theorem dX12_says_109 : decode cX12_says 109 = .ok (.istore 7, 2) := by decide +kernel
theorem dX12_says_111 : decode cX12_says 111 = .ok (.iload 4, 2) := by decide +kernel
theorem dX12_says_113 : decode cX12_says 113 = .ok (.iconst (-1), 1) := by decide +kernel
theorem dX12_says_114 : decode cX12_says 114 = .ok (.if_icmp .eq 13, 3) := by decide +kernel
theorem dX12_says_117 : decode cX12_says 117 = .ok (.iload 7, 2) := by decide +kernel
theorem dX12_says_119 : decode cX12_says 119 = .ok (.iload 5, 2) := by decide +kernel
theorem dX12_says_121 : decode cX12_says 121 = .ok (.if_icmp .lt 6, 3) := by decide +kernel
theorem dX12_says_124 : decode cX12_says 124 = .ok (.goto 11, 3) := by decide +kernel
theorem dX12_says_127 : decode cX12_says 127 = .ok (.iload 6, 2) := by decide +kernel
theorem dX12_says_129 : decode cX12_says 129 = .ok (.istore 4, 2) := by decide +kernel
theorem dX12_says_131 : decode cX12_says 131 = .ok (.iload 7, 2) := by decide +kernel
theorem dX12_says_133 : decode cX12_says 133 = .ok (.istore 5, 2) := by decide +kernel
theorem dX12_says_135 : decode cX12_says 135 = .ok (.iinc 6 1, 3) := by decide +kernel
theorem dX12_says_138 : decode cX12_says 138 = .ok (.goto (-84), 3) := by decide +kernel
theorem dX12_says_141 : decode cX12_says 141 = .ok (.aload_n 0, 1) := by decide +kernel
theorem dX12_says_142 : decode cX12_says 142 = .ok (.getfield 143, 3) := by decide +kernel
theorem dX12_says_145 : decode cX12_says 145 = .ok (.iload_n 2, 1) := by decide +kernel
theorem dX12_says_146 : decode cX12_says 146 = .ok (.aaload, 1) := by decide +kernel
theorem dX12_says_147 : decode cX12_says 147 = .ok (.iload_n 3, 1) := by decide +kernel
theorem dX12_says_148 : decode cX12_says 148 = .ok (.aload_n 0, 1) := by decide +kernel
theorem dX12_says_149 : decode cX12_says 149 = .ok (.getfield 140, 3) := by decide +kernel
theorem dX12_says_152 : decode cX12_says 152 = .ok (.iload_n 2, 1) := by decide +kernel
theorem dX12_says_153 : decode cX12_says 153 = .ok (.aaload, 1) := by decide +kernel
theorem dX12_says_154 : decode cX12_says 154 = .ok (.iload_n 3, 1) := by decide +kernel
theorem dX12_says_155 : decode cX12_says 155 = .ok (.iaload, 1) := by decide +kernel
theorem dX12_says_156 : decode cX12_says 156 = .ok (.iload 5, 2) := by decide +kernel
theorem dX12_says_158 : decode cX12_says 158 = .ok (.iadd, 1) := by decide +kernel
theorem dX12_says_159 : decode cX12_says 159 = .ok (.iastore, 1) := by decide +kernel
theorem dX12_says_160 : decode cX12_says 160 = .ok (.aload_n 0, 1) := by decide +kernel
theorem dX12_says_161 : decode cX12_says 161 = .ok (.getfield 146, 3) := by decide +kernel
theorem dX12_says_164 : decode cX12_says 164 = .ok (.iload_n 2, 1) := by decide +kernel
theorem dX12_says_165 : decode cX12_says 165 = .ok (.aaload, 1) := by decide +kernel
theorem dX12_says_166 : decode cX12_says 166 = .ok (.iload_n 3, 1) := by decide +kernel
theorem dX12_says_167 : decode cX12_says 167 = .ok (.iload 4, 2) := by decide +kernel
theorem dX12_says_169 : decode cX12_says 169 = .ok (.iastore, 1) := by decide +kernel
theorem dX12_says_170 : decode cX12_says 170 = .ok (.iinc 3 1, 3) := by decide +kernel
theorem dX12_says_173 : decode cX12_says 173 = .ok (.goto (-138), 3) := by decide +kernel
theorem dX12_says_176 : decode cX12_says 176 = .ok (.iinc 2 (-1), 3) := by decide +kernel
theorem dX12_says_179 : decode cX12_says 179 = .ok (.goto (-150), 3) := by decide +kernel
theorem dX12_says_182 : decode cX12_says 182 = .ok (.iconst 0, 1) := by decide +kernel
theorem dX12_says_183 : decode cX12_says 183 = .ok (.istore_n 2, 1) := by decide +kernel
theorem dX12_says_184 : decode cX12_says 184 = .ok (.iconst 1, 1) := by decide +kernel
theorem dX12_says_185 : decode cX12_says 185 = .ok (.istore_n 3, 1) := by decide +kernel
theorem dX12_says_186 : decode cX12_says 186 = .ok (.iload_n 1, 1) := by decide +kernel
theorem dX12_says_187 : decode cX12_says 187 = .ok (.ifCond .le 40, 3) := by decide +kernel
theorem dX12_says_190 : decode cX12_says 190 = .ok (.iload_n 3, 1) := by decide +kernel
theorem dX12_says_191 : decode cX12_says 191 = .ok (.aload_n 0, 1) := by decide +kernel
theorem dX12_says_192 : decode cX12_says 192 = .ok (.getfield 134, 3) := by decide +kernel
theorem dX12_says_195 : decode cX12_says 195 = .ok (.iconst 0, 1) := by decide +kernel
theorem dX12_says_196 : decode cX12_says 196 = .ok (.iaload, 1) := by decide +kernel
theorem dX12_says_197 : decode cX12_says 197 = .ok (.if_icmp .ge 30, 3) := by decide +kernel
theorem dX12_says_200 : decode cX12_says 200 = .ok (.aload_n 0, 1) := by decide +kernel
theorem dX12_says_201 : decode cX12_says 201 = .ok (.getfield 143, 3) := by decide +kernel
theorem dX12_says_204 : decode cX12_says 204 = .ok (.iconst 0, 1) := by decide +kernel
theorem dX12_says_205 : decode cX12_says 205 = .ok (.aaload, 1) := by decide +kernel
theorem dX12_says_206 : decode cX12_says 206 = .ok (.iload_n 3, 1) := by decide +kernel
theorem dX12_says_207 : decode cX12_says 207 = .ok (.iaload, 1) := by decide +kernel
theorem dX12_says_208 : decode cX12_says 208 = .ok (.aload_n 0, 1) := by decide +kernel
theorem dX12_says_209 : decode cX12_says 209 = .ok (.getfield 143, 3) := by decide +kernel
theorem dX12_says_212 : decode cX12_says 212 = .ok (.iconst 0, 1) := by decide +kernel
theorem dX12_says_213 : decode cX12_says 213 = .ok (.aaload, 1) := by decide +kernel
theorem dX12_says_214 : decode cX12_says 214 = .ok (.iload_n 2, 1) := by decide +kernel
theorem dX12_says_215 : decode cX12_says 215 = .ok (.iaload, 1) := by decide +kernel
theorem dX12_says_216 : decode cX12_says 216 = .ok (.if_icmp .ge 5, 3) := by decide +kernel
theorem dX12_says_219 : decode cX12_says 219 = .ok (.iload_n 3, 1) := by decide +kernel
theorem dX12_says_220 : decode cX12_says 220 = .ok (.istore_n 2, 1) := by decide +kernel
theorem dX12_says_221 : decode cX12_says 221 = .ok (.iinc 3 1, 3) := by decide +kernel
theorem dX12_says_224 : decode cX12_says 224 = .ok (.goto (-38), 3) := by decide +kernel
theorem dX12_says_227 : decode cX12_says 227 = .ok (.aload_n 0, 1) := by decide +kernel
theorem dX12_says_228 : decode cX12_says 228 = .ok (.iload_n 1, 1) := by decide +kernel
theorem dX12_says_229 : decode cX12_says 229 = .ok (.ifCond .ne 7, 3) := by decide +kernel
theorem dX12_says_232 : decode cX12_says 232 = .ok (.iconst 0, 1) := by decide +kernel
theorem dX12_says_233 : decode cX12_says 233 = .ok (.goto 11, 3) := by decide +kernel
theorem dX12_says_236 : decode cX12_says 236 = .ok (.aload_n 0, 1) := by decide +kernel
theorem dX12_says_237 : decode cX12_says 237 = .ok (.getfield 143, 3) := by decide +kernel
theorem dX12_says_240 : decode cX12_says 240 = .ok (.iconst 0, 1) := by decide +kernel
theorem dX12_says_241 : decode cX12_says 241 = .ok (.aaload, 1) := by decide +kernel
theorem dX12_says_242 : decode cX12_says 242 = .ok (.iload_n 2, 1) := by decide +kernel
theorem dX12_says_243 : decode cX12_says 243 = .ok (.iaload, 1) := by decide +kernel
theorem dX12_says_244 : decode cX12_says 244 = .ok (.putfield 420, 3) := by decide +kernel
theorem dX12_says_247 : decode cX12_says 247 = .ok (.iconst 0, 1) := by decide +kernel
theorem dX12_says_248 : decode cX12_says 248 = .ok (.istore_n 3, 1) := by decide +kernel
theorem dX12_says_249 : decode cX12_says 249 = .ok (.iload_n 3, 1) := by decide +kernel
theorem dX12_says_250 : decode cX12_says 250 = .ok (.iload_n 1, 1) := by decide +kernel
theorem dX12_says_251 : decode cX12_says 251 = .ok (.if_icmp .ge 32, 3) := by decide +kernel
theorem dX12_says_254 : decode cX12_says 254 = .ok (.aload_n 0, 1) := by decide +kernel
theorem dX12_says_255 : decode cX12_says 255 = .ok (.getfield 149, 3) := by decide +kernel
theorem dX12_says_258 : decode cX12_says 258 = .ok (.iload_n 3, 1) := by decide +kernel
theorem dX12_says_259 : decode cX12_says 259 = .ok (.aload_n 0, 1) := by decide +kernel
theorem dX12_says_260 : decode cX12_says 260 = .ok (.getfield 137, 3) := by decide +kernel
theorem dX12_says_263 : decode cX12_says 263 = .ok (.iload_n 3, 1) := by decide +kernel
theorem dX12_says_264 : decode cX12_says 264 = .ok (.aaload, 1) := by decide +kernel
theorem dX12_says_265 : decode cX12_says 265 = .ok (.iload_n 2, 1) := by decide +kernel
theorem dX12_says_266 : decode cX12_says 266 = .ok (.iaload, 1) := by decide +kernel
theorem dX12_says_267 : decode cX12_says 267 = .ok (.iastore, 1) := by decide +kernel
theorem dX12_says_268 : decode cX12_says 268 = .ok (.aload_n 0, 1) := by decide +kernel
theorem dX12_says_269 : decode cX12_says 269 = .ok (.getfield 146, 3) := by decide +kernel
theorem dX12_says_272 : decode cX12_says 272 = .ok (.iload_n 3, 1) := by decide +kernel
theorem dX12_says_273 : decode cX12_says 273 = .ok (.aaload, 1) := by decide +kernel
theorem dX12_says_274 : decode cX12_says 274 = .ok (.iload_n 2, 1) := by decide +kernel
theorem dX12_says_275 : decode cX12_says 275 = .ok (.iaload, 1) := by decide +kernel
theorem dX12_says_276 : decode cX12_says 276 = .ok (.istore_n 2, 1) := by decide +kernel
theorem dX12_says_277 : decode cX12_says 277 = .ok (.iinc 3 1, 3) := by decide +kernel
theorem dX12_says_280 : decode cX12_says 280 = .ok (.goto (-31), 3) := by decide +kernel
theorem dX12_says_283 : decode cX12_says 283 = .ok (.return_, 1) := by decide +kernel
theorem dX12_sentence_0 : decode cX12_sentence 0 = .ok (.aload_n 0, 1) := by decide +kernel
theorem dX12_sentence_1 : decode cX12_sentence 1 = .ok (.iconst 0, 1) := by decide +kernel
theorem dX12_sentence_2 : decode cX12_sentence 2 = .ok (.putfield 180, 3) := by decide +kernel
theorem dX12_sentence_5 : decode cX12_sentence 5 = .ok (.aload_n 0, 1) := by decide +kernel
theorem dX12_sentence_6 : decode cX12_sentence 6 = .ok (.iload_n 1, 1) := by decide +kernel
theorem dX12_sentence_7 : decode cX12_sentence 7 = .ok (.iconst 0, 1) := by decide +kernel
theorem dX12_sentence_8 : decode cX12_sentence 8 = .ok (.iconst 2, 1) := by decide +kernel
theorem dX12_sentence_9 : decode cX12_sentence 9 = .ok (.invokestatic 223, 3) := by decide +kernel
theorem dX12_sentence_12 : decode cX12_sentence 12 = .ok (.ifCond .ne 7, 3) := by decide +kernel
theorem dX12_sentence_15 : decode cX12_sentence 15 = .ok (.iconst 1, 1) := by decide +kernel
theorem dX12_sentence_16 : decode cX12_sentence 16 = .ok (.goto 4, 3) := by decide +kernel
theorem dX12_sentence_19 : decode cX12_sentence 19 = .ok (.iconst 0, 1) := by decide +kernel
theorem dX12_sentence_20 : decode cX12_sentence 20 = .ok (.iconst 1, 1) := by decide +kernel
theorem dX12_sentence_21 : decode cX12_sentence 21 = .ok (.iconst 1, 1) := by decide +kernel
theorem dX12_sentence_22 : decode cX12_sentence 22 = .ok (.invokevirtual 249, 3) := by decide +kernel
theorem dX12_sentence_25 : decode cX12_sentence 25 = .ok (.ifCond .eq 5, 3) := by decide +kernel
theorem dX12_sentence_28 : decode cX12_sentence 28 = .ok (.iconst 0, 1) := by decide +kernel
theorem dX12_sentence_29 : decode cX12_sentence 29 = .ok (.ireturn, 1) := by decide +kernel
theorem dX12_sentence_30 : decode cX12_sentence 30 = .ok (.aload_n 0, 1) := by decide +kernel
theorem dX12_sentence_31 : decode cX12_sentence 31 = .ok (.invokevirtual 423, 3) := by decide +kernel
theorem dX12_sentence_34 : decode cX12_sentence 34 = .ok (.iload_n 1, 1) := by decide +kernel
theorem dX12_sentence_35 : decode cX12_sentence 35 = .ok (.ifCond .ne 8, 3) := by decide +kernel
theorem dX12_sentence_38 : decode cX12_sentence 38 = .ok (.aload_n 0, 1) := by decide +kernel
theorem dX12_sentence_39 : decode cX12_sentence 39 = .ok (.getfield 420, 3) := by decide +kernel
theorem dX12_sentence_42 : decode cX12_sentence 42 = .ok (.ireturn, 1) := by decide +kernel
theorem dX12_sentence_43 : decode cX12_sentence 43 = .ok (.iconst 0, 1) := by decide +kernel
theorem dX12_sentence_44 : decode cX12_sentence 44 = .ok (.istore_n 2, 1) := by decide +kernel
theorem dX12_sentence_45 : decode cX12_sentence 45 = .ok (.iconst 0, 1) := by decide +kernel
theorem dX12_sentence_46 : decode cX12_sentence 46 = .ok (.istore_n 3, 1) := by decide +kernel
theorem dX12_sentence_47 : decode cX12_sentence 47 = .ok (.iload_n 3, 1) := by decide +kernel
theorem dX12_sentence_48 : decode cX12_sentence 48 = .ok (.aload_n 0, 1) := by decide +kernel
theorem dX12_sentence_49 : decode cX12_sentence 49 = .ok (.getfield 66, 3) := by decide +kernel
theorem dX12_sentence_52 : decode cX12_sentence 52 = .ok (.iconst 0, 1) := by decide +kernel
theorem dX12_sentence_53 : decode cX12_sentence 53 = .ok (.iaload, 1) := by decide +kernel
theorem dX12_sentence_54 : decode cX12_sentence 54 = .ok (.if_icmp .ge 64, 3) := by decide +kernel
theorem dX12_sentence_57 : decode cX12_sentence 57 = .ok (.aload_n 0, 1) := by decide +kernel
theorem dX12_sentence_58 : decode cX12_sentence 58 = .ok (.iload_n 3, 1) := by decide +kernel
theorem dX12_sentence_59 : decode cX12_sentence 59 = .ok (.iconst 0, 1) := by decide +kernel
theorem dX12_sentence_60 : decode cX12_sentence 60 = .ok (.invokevirtual 371, 3) := by decide +kernel
theorem dX12_sentence_63 : decode cX12_sentence 63 = .ok (.aload_n 0, 1) := by decide +kernel
theorem dX12_sentence_64 : decode cX12_sentence 64 = .ok (.iconst 1, 1) := by decide +kernel
theorem dX12_sentence_65 : decode cX12_sentence 65 = .ok (.invokevirtual 405, 3) := by decide +kernel
theorem dX12_sentence_68 : decode cX12_sentence 68 = .ok (.iload_n 2, 1) := by decide +kernel
theorem dX12_sentence_69 : decode cX12_sentence 69 = .ok (.iload_n 1, 1) := by decide +kernel
theorem dX12_sentence_70 : decode cX12_sentence 70 = .ok (.iconst 1, 1) := by decide +kernel
theorem dX12_sentence_71 : decode cX12_sentence 71 = .ok (.if_icmp .ne 24, 3) := by decide +kernel
theorem dX12_sentence_74 : decode cX12_sentence 74 = .ok (.aload_n 0, 1) := by decide +kernel
theorem dX12_sentence_75 : decode cX12_sentence 75 = .ok (.getfield 149, 3) := by decide +kernel
theorem dX12_sentence_78 : decode cX12_sentence 78 = .ok (.iload_n 3, 1) := by decide +kernel
theorem dX12_sentence_79 : decode cX12_sentence 79 = .ok (.iaload, 1) := by decide +kernel
theorem dX12_sentence_80 : decode cX12_sentence 80 = .ok (.aload_n 0, 1) := by decide +kernel
theorem dX12_sentence_81 : decode cX12_sentence 81 = .ok (.getfield 396, 3) := by decide +kernel
theorem dX12_sentence_84 : decode cX12_sentence 84 = .ok (.if_icmp .eq 7, 3) := by decide +kernel
theorem dX12_sentence_87 : decode cX12_sentence 87 = .ok (.iconst 1, 1) := by decide +kernel
theorem dX12_sentence_88 : decode cX12_sentence 88 = .ok (.goto 22, 3) := by decide +kernel
theorem dX12_sentence_91 : decode cX12_sentence 91 = .ok (.iconst 0, 1) := by decide +kernel
theorem dX12_sentence_92 : decode cX12_sentence 92 = .ok (.goto 18, 3) := by decide +kernel
theorem dX12_sentence_95 : decode cX12_sentence 95 = .ok (.aload_n 0, 1) := by decide +kernel
theorem dX12_sentence_96 : decode cX12_sentence 96 = .ok (.getfield 149, 3) := by decide +kernel
theorem dX12_sentence_99 : decode cX12_sentence 99 = .ok (.iload_n 3, 1) := by decide +kernel
theorem dX12_sentence_100 : decode cX12_sentence 100 = .ok (.iaload, 1) := by decide +kernel
theorem dX12_sentence_101 : decode cX12_sentence 101 = .ok (.iconst (-1), 1) := by decide +kernel
theorem dX12_sentence_102 : decode cX12_sentence 102 = .ok (.if_icmp .ne 7, 3) := by decide +kernel
theorem dX12_sentence_105 : decode cX12_sentence 105 = .ok (.iconst 1, 1) := by decide +kernel
theorem dX12_sentence_106 : decode cX12_sentence 106 = .ok (.goto 4, 3) := by decide +kernel
theorem dX12_sentence_109 : decode cX12_sentence 109 = .ok (.iconst 0, 1) := by decide +kernel
theorem dX12_sentence_110 : decode cX12_sentence 110 = .ok (.iadd, 1) := by decide +kernel
theorem dX12_sentence_111 : decode cX12_sentence 111 = .ok (.istore_n 2, 1) := by decide +kernel
theorem dX12_sentence_112 : decode cX12_sentence 112 = .ok (.iinc 3 1, 3) := by decide +kernel
theorem dX12_sentence_115 : decode cX12_sentence 115 = .ok (.goto (-68), 3) := by decide +kernel
theorem dX12_sentence_118 : decode cX12_sentence 118 = .ok (.iload_n 2, 1) := by decide +kernel
theorem dX12_sentence_119 : decode cX12_sentence 119 = .ok (.ireturn, 1) := by decide +kernel
theorem dX12_said_0 : decode cX12_said 0 = .ok (.aload_n 0, 1) := by decide +kernel
theorem dX12_said_1 : decode cX12_said 1 = .ok (.iconst 0, 1) := by decide +kernel
theorem dX12_said_2 : decode cX12_said 2 = .ok (.putfield 180, 3) := by decide +kernel
theorem dX12_said_5 : decode cX12_said 5 = .ok (.aload_n 0, 1) := by decide +kernel
theorem dX12_said_6 : decode cX12_said 6 = .ok (.aload_n 0, 1) := by decide +kernel
theorem dX12_said_7 : decode cX12_said 7 = .ok (.iload_n 1, 1) := by decide +kernel
theorem dX12_said_8 : decode cX12_said 8 = .ok (.invokevirtual 368, 3) := by decide +kernel
theorem dX12_said_11 : decode cX12_said 11 = .ok (.ifCond .ne 7, 3) := by decide +kernel
theorem dX12_said_14 : decode cX12_said 14 = .ok (.iconst 1, 1) := by decide +kernel
theorem dX12_said_15 : decode cX12_said 15 = .ok (.goto 4, 3) := by decide +kernel
theorem dX12_said_18 : decode cX12_said 18 = .ok (.iconst 0, 1) := by decide +kernel
theorem dX12_said_19 : decode cX12_said 19 = .ok (.iconst 1, 1) := by decide +kernel
theorem dX12_said_20 : decode cX12_said 20 = .ok (.iconst 0, 1) := by decide +kernel
theorem dX12_said_21 : decode cX12_said 21 = .ok (.invokevirtual 249, 3) := by decide +kernel
theorem dX12_said_24 : decode cX12_said 24 = .ok (.ifCond .eq 5, 3) := by decide +kernel
theorem dX12_said_27 : decode cX12_said 27 = .ok (.iconst 0, 1) := by decide +kernel
theorem dX12_said_28 : decode cX12_said 28 = .ok (.ireturn, 1) := by decide +kernel
theorem dX12_said_29 : decode cX12_said 29 = .ok (.aload_n 0, 1) := by decide +kernel
theorem dX12_said_30 : decode cX12_said 30 = .ok (.invokevirtual 423, 3) := by decide +kernel
theorem dX12_said_33 : decode cX12_said 33 = .ok (.aload_n 0, 1) := by decide +kernel
theorem dX12_said_34 : decode cX12_said 34 = .ok (.getfield 149, 3) := by decide +kernel
theorem dX12_said_37 : decode cX12_said 37 = .ok (.iload_n 1, 1) := by decide +kernel
theorem dX12_said_38 : decode cX12_said 38 = .ok (.iaload, 1) := by decide +kernel
theorem dX12_said_39 : decode cX12_said 39 = .ok (.ireturn, 1) := by decide +kernel
theorem dX12_learn_0 : decode cX12_learn 0 = .ok (.aload_n 0, 1) := by decide +kernel
theorem dX12_learn_1 : decode cX12_learn 1 = .ok (.iconst 0, 1) := by decide +kernel
theorem dX12_learn_2 : decode cX12_learn 2 = .ok (.putfield 180, 3) := by decide +kernel
theorem dX12_learn_5 : decode cX12_learn 5 = .ok (.aload_n 0, 1) := by decide +kernel
theorem dX12_learn_6 : decode cX12_learn 6 = .ok (.aload_n 0, 1) := by decide +kernel
theorem dX12_learn_7 : decode cX12_learn 7 = .ok (.iload_n 1, 1) := by decide +kernel
theorem dX12_learn_8 : decode cX12_learn 8 = .ok (.invokevirtual 368, 3) := by decide +kernel
theorem dX12_learn_11 : decode cX12_learn 11 = .ok (.ifCond .ne 7, 3) := by decide +kernel
theorem dX12_learn_14 : decode cX12_learn 14 = .ok (.iconst 1, 1) := by decide +kernel
theorem dX12_learn_15 : decode cX12_learn 15 = .ok (.goto 4, 3) := by decide +kernel
theorem dX12_learn_18 : decode cX12_learn 18 = .ok (.iconst 0, 1) := by decide +kernel
theorem dX12_learn_19 : decode cX12_learn 19 = .ok (.iconst 1, 1) := by decide +kernel
theorem dX12_learn_20 : decode cX12_learn 20 = .ok (.iconst 0, 1) := by decide +kernel
theorem dX12_learn_21 : decode cX12_learn 21 = .ok (.invokevirtual 249, 3) := by decide +kernel
theorem dX12_learn_24 : decode cX12_learn 24 = .ok (.ifCond .eq 5, 3) := by decide +kernel
theorem dX12_learn_27 : decode cX12_learn 27 = .ok (.iconst 0, 1) := by decide +kernel
theorem dX12_learn_28 : decode cX12_learn 28 = .ok (.ireturn, 1) := by decide +kernel
theorem dX12_learn_29 : decode cX12_learn 29 = .ok (.aload_n 0, 1) := by decide +kernel
theorem dX12_learn_30 : decode cX12_learn 30 = .ok (.iload_n 1, 1) := by decide +kernel
theorem dX12_learn_31 : decode cX12_learn 31 = .ok (.iconst 0, 1) := by decide +kernel
theorem dX12_learn_32 : decode cX12_learn 32 = .ok (.invokevirtual 371, 3) := by decide +kernel
theorem dX12_learn_35 : decode cX12_learn 35 = .ok (.aload_n 0, 1) := by decide +kernel
theorem dX12_learn_36 : decode cX12_learn 36 = .ok (.iconst 2, 1) := by decide +kernel
theorem dX12_learn_37 : decode cX12_learn 37 = .ok (.invokevirtual 405, 3) := by decide +kernel
theorem dX12_learn_40 : decode cX12_learn 40 = .ok (.aload_n 0, 1) := by decide +kernel
theorem dX12_learn_41 : decode cX12_learn 41 = .ok (.getfield 396, 3) := by decide +kernel
theorem dX12_learn_44 : decode cX12_learn 44 = .ok (.iconst (-1), 1) := by decide +kernel
theorem dX12_learn_45 : decode cX12_learn 45 = .ok (.if_icmp .ne 5, 3) := by decide +kernel
theorem dX12_learn_48 : decode cX12_learn 48 = .ok (.iconst (-1), 1) := by decide +kernel
theorem dX12_learn_49 : decode cX12_learn 49 = .ok (.ireturn, 1) := by decide +kernel
theorem dX12_learn_50 : decode cX12_learn 50 = .ok (.aload_n 0, 1) := by decide +kernel
theorem dX12_learn_51 : decode cX12_learn 51 = .ok (.getfield 31, 3) := by decide +kernel
theorem dX12_learn_54 : decode cX12_learn 54 = .ok (.aload_n 0, 1) := by decide +kernel
theorem dX12_learn_55 : decode cX12_learn 55 = .ok (.getfield 396, 3) := by decide +kernel
theorem dX12_learn_58 : decode cX12_learn 58 = .ok (.iconst 0, 1) := by decide +kernel
theorem dX12_learn_59 : decode cX12_learn 59 = .ok (.aload_n 0, 1) := by decide +kernel
theorem dX12_learn_60 : decode cX12_learn 60 = .ok (.getfield 31, 3) := by decide +kernel
theorem dX12_learn_63 : decode cX12_learn 63 = .ok (.aload_n 0, 1) := by decide +kernel
theorem dX12_learn_64 : decode cX12_learn 64 = .ok (.getfield 396, 3) := by decide +kernel
theorem dX12_learn_67 : decode cX12_learn 67 = .ok (.iaload, 1) := by decide +kernel
theorem dX12_learn_68 : decode cX12_learn 68 = .ok (.iconst 1, 1) := by decide +kernel
theorem dX12_learn_69 : decode cX12_learn 69 = .ok (.isub, 1) := by decide +kernel
theorem dX12_learn_70 : decode cX12_learn 70 = .ok (.invokestatic 426, 3) := by decide +kernel
theorem dX12_learn_73 : decode cX12_learn 73 = .ok (.iastore, 1) := by decide +kernel
theorem dX12_learn_74 : decode cX12_learn 74 = .ok (.aload_n 0, 1) := by decide +kernel
theorem dX12_learn_75 : decode cX12_learn 75 = .ok (.getfield 350, 3) := by decide +kernel
theorem dX12_learn_78 : decode cX12_learn 78 = .ok (.iconst 1, 1) := by decide +kernel
theorem dX12_learn_79 : decode cX12_learn 79 = .ok (.if_icmp .le 32, 3) := by decide +kernel
theorem dX12_learn_82 : decode cX12_learn 82 = .ok (.aload_n 0, 1) := by decide +kernel
theorem dX12_learn_83 : decode cX12_learn 83 = .ok (.getfield 31, 3) := by decide +kernel
theorem dX12_learn_86 : decode cX12_learn 86 = .ok (.aload_n 0, 1) := by decide +kernel
theorem dX12_learn_87 : decode cX12_learn 87 = .ok (.getfield 119, 3) := by decide +kernel
theorem dX12_learn_90 : decode cX12_learn 90 = .ok (.iconst 1, 1) := by decide +kernel
theorem dX12_learn_91 : decode cX12_learn 91 = .ok (.iaload, 1) := by decide +kernel
theorem dX12_learn_92 : decode cX12_learn 92 = .ok (.bipush 99, 2) := by decide +kernel
theorem dX12_learn_94 : decode cX12_learn 94 = .ok (.aload_n 0, 1) := by decide +kernel
theorem dX12_learn_95 : decode cX12_learn 95 = .ok (.getfield 31, 3) := by decide +kernel
theorem dX12_learn_98 : decode cX12_learn 98 = .ok (.aload_n 0, 1) := by decide +kernel
theorem dX12_learn_99 : decode cX12_learn 99 = .ok (.getfield 119, 3) := by decide +kernel
theorem dX12_learn_102 : decode cX12_learn 102 = .ok (.iconst 1, 1) := by decide +kernel
theorem dX12_learn_103 : decode cX12_learn 103 = .ok (.iaload, 1) := by decide +kernel
theorem dX12_learn_104 : decode cX12_learn 104 = .ok (.iaload, 1) := by decide +kernel
theorem dX12_learn_105 : decode cX12_learn 105 = .ok (.iconst 1, 1) := by decide +kernel
theorem dX12_learn_106 : decode cX12_learn 106 = .ok (.iadd, 1) := by decide +kernel
theorem dX12_learn_107 : decode cX12_learn 107 = .ok (.invokestatic 219, 3) := by decide +kernel
theorem dX12_learn_110 : decode cX12_learn 110 = .ok (.iastore, 1) := by decide +kernel
theorem dX12_learn_111 : decode cX12_learn 111 = .ok (.aload_n 0, 1) := by decide +kernel
theorem dX12_learn_112 : decode cX12_learn 112 = .ok (.invokevirtual 269, 3) := by decide +kernel
theorem dX12_learn_115 : decode cX12_learn 115 = .ok (.aload_n 0, 1) := by decide +kernel
theorem dX12_learn_116 : decode cX12_learn 116 = .ok (.getfield 396, 3) := by decide +kernel
theorem dX12_learn_119 : decode cX12_learn 119 = .ok (.ireturn, 1) := by decide +kernel
theorem dX12_laysAlone_0 : decode cX12_laysAlone 0 = .ok (.aload_n 0, 1) := by decide +kernel
theorem dX12_laysAlone_1 : decode cX12_laysAlone 1 = .ok (.iload_n 1, 1) := by decide +kernel
theorem dX12_laysAlone_2 : decode cX12_laysAlone 2 = .ok (.iconst 0, 1) := by decide +kernel
theorem dX12_laysAlone_3 : decode cX12_laysAlone 3 = .ok (.invokevirtual 371, 3) := by decide +kernel
theorem dX12_laysAlone_6 : decode cX12_laysAlone 6 = .ok (.aload_n 0, 1) := by decide +kernel
theorem dX12_laysAlone_7 : decode cX12_laysAlone 7 = .ok (.iconst 1, 1) := by decide +kernel
theorem dX12_laysAlone_8 : decode cX12_laysAlone 8 = .ok (.invokevirtual 405, 3) := by decide +kernel
theorem dX12_laysAlone_11 : decode cX12_laysAlone 11 = .ok (.aload_n 0, 1) := by decide +kernel
theorem dX12_laysAlone_12 : decode cX12_laysAlone 12 = .ok (.getfield 152, 3) := by decide +kernel
theorem dX12_laysAlone_15 : decode cX12_laysAlone 15 = .ok (.iload_n 1, 1) := by decide +kernel
theorem dX12_laysAlone_16 : decode cX12_laysAlone 16 = .ok (.aload_n 0, 1) := by decide +kernel
theorem dX12_laysAlone_17 : decode cX12_laysAlone 17 = .ok (.getfield 396, 3) := by decide +kernel
theorem dX12_laysAlone_20 : decode cX12_laysAlone 20 = .ok (.iastore, 1) := by decide +kernel
theorem dX12_laysAlone_21 : decode cX12_laysAlone 21 = .ok (.aload_n 0, 1) := by decide +kernel
theorem dX12_laysAlone_22 : decode cX12_laysAlone 22 = .ok (.getfield 155, 3) := by decide +kernel
theorem dX12_laysAlone_25 : decode cX12_laysAlone 25 = .ok (.iload_n 1, 1) := by decide +kernel
theorem dX12_laysAlone_26 : decode cX12_laysAlone 26 = .ok (.aload_n 0, 1) := by decide +kernel
theorem dX12_laysAlone_27 : decode cX12_laysAlone 27 = .ok (.getfield 399, 3) := by decide +kernel
theorem dX12_laysAlone_30 : decode cX12_laysAlone 30 = .ok (.iastore, 1) := by decide +kernel
theorem dX12_laysAlone_31 : decode cX12_laysAlone 31 = .ok (.aload_n 0, 1) := by decide +kernel
theorem dX12_laysAlone_32 : decode cX12_laysAlone 32 = .ok (.getfield 158, 3) := by decide +kernel
theorem dX12_laysAlone_35 : decode cX12_laysAlone 35 = .ok (.iload_n 1, 1) := by decide +kernel
theorem dX12_laysAlone_36 : decode cX12_laysAlone 36 = .ok (.iconst (-1), 1) := by decide +kernel
theorem dX12_laysAlone_37 : decode cX12_laysAlone 37 = .ok (.iastore, 1) := by decide +kernel
theorem dX12_laysAlone_38 : decode cX12_laysAlone 38 = .ok (.iload_n 1, 1) := by decide +kernel
theorem dX12_laysAlone_39 : decode cX12_laysAlone 39 = .ok (.iconst 1, 1) := by decide +kernel
theorem dX12_laysAlone_40 : decode cX12_laysAlone 40 = .ok (.iadd, 1) := by decide +kernel
theorem dX12_laysAlone_41 : decode cX12_laysAlone 41 = .ok (.aload_n 0, 1) := by decide +kernel
theorem dX12_laysAlone_42 : decode cX12_laysAlone 42 = .ok (.getfield 66, 3) := by decide +kernel
theorem dX12_laysAlone_45 : decode cX12_laysAlone 45 = .ok (.iconst 0, 1) := by decide +kernel
theorem dX12_laysAlone_46 : decode cX12_laysAlone 46 = .ok (.iaload, 1) := by decide +kernel
theorem dX12_laysAlone_47 : decode cX12_laysAlone 47 = .ok (.if_icmp .ge 39, 3) := by decide +kernel
theorem dX12_laysAlone_50 : decode cX12_laysAlone 50 = .ok (.aload_n 0, 1) := by decide +kernel
theorem dX12_laysAlone_51 : decode cX12_laysAlone 51 = .ok (.getfield 78, 3) := by decide +kernel
theorem dX12_laysAlone_54 : decode cX12_laysAlone 54 = .ok (.iconst 0, 1) := by decide +kernel
theorem dX12_laysAlone_55 : decode cX12_laysAlone 55 = .ok (.aaload, 1) := by decide +kernel
theorem dX12_laysAlone_56 : decode cX12_laysAlone 56 = .ok (.iload_n 1, 1) := by decide +kernel
theorem dX12_laysAlone_57 : decode cX12_laysAlone 57 = .ok (.iaload, 1) := by decide +kernel
theorem dX12_laysAlone_58 : decode cX12_laysAlone 58 = .ok (.iconst 1, 1) := by decide +kernel
theorem dX12_laysAlone_59 : decode cX12_laysAlone 59 = .ok (.if_icmp .ne 27, 3) := by decide +kernel
theorem dX12_laysAlone_62 : decode cX12_laysAlone 62 = .ok (.aload_n 0, 1) := by decide +kernel
theorem dX12_laysAlone_63 : decode cX12_laysAlone 63 = .ok (.getfield 72, 3) := by decide +kernel
theorem dX12_laysAlone_66 : decode cX12_laysAlone 66 = .ok (.iconst 0, 1) := by decide +kernel
theorem dX12_laysAlone_67 : decode cX12_laysAlone 67 = .ok (.aaload, 1) := by decide +kernel
theorem dX12_laysAlone_68 : decode cX12_laysAlone 68 = .ok (.iload_n 1, 1) := by decide +kernel
theorem dX12_laysAlone_69 : decode cX12_laysAlone 69 = .ok (.iaload, 1) := by decide +kernel
theorem dX12_laysAlone_70 : decode cX12_laysAlone 70 = .ok (.aload_n 0, 1) := by decide +kernel
theorem dX12_laysAlone_71 : decode cX12_laysAlone 71 = .ok (.getfield 72, 3) := by decide +kernel
theorem dX12_laysAlone_74 : decode cX12_laysAlone 74 = .ok (.iconst 0, 1) := by decide +kernel
theorem dX12_laysAlone_75 : decode cX12_laysAlone 75 = .ok (.aaload, 1) := by decide +kernel
theorem dX12_laysAlone_76 : decode cX12_laysAlone 76 = .ok (.iload_n 1, 1) := by decide +kernel
theorem dX12_laysAlone_77 : decode cX12_laysAlone 77 = .ok (.iconst 1, 1) := by decide +kernel
theorem dX12_laysAlone_78 : decode cX12_laysAlone 78 = .ok (.iadd, 1) := by decide +kernel
theorem dX12_laysAlone_79 : decode cX12_laysAlone 79 = .ok (.iaload, 1) := by decide +kernel
theorem dX12_laysAlone_80 : decode cX12_laysAlone 80 = .ok (.iadd, 1) := by decide +kernel
theorem dX12_laysAlone_81 : decode cX12_laysAlone 81 = .ok (.bipush 24, 2) := by decide +kernel
theorem dX12_laysAlone_83 : decode cX12_laysAlone 83 = .ok (.if_icmp .le 4, 3) := by decide +kernel
theorem dX12_laysAlone_86 : decode cX12_laysAlone 86 = .ok (.return_, 1) := by decide +kernel
theorem dX12_laysAlone_87 : decode cX12_laysAlone 87 = .ok (.aload_n 0, 1) := by decide +kernel
theorem dX12_laysAlone_88 : decode cX12_laysAlone 88 = .ok (.iload_n 1, 1) := by decide +kernel
theorem dX12_laysAlone_89 : decode cX12_laysAlone 89 = .ok (.iconst 1, 1) := by decide +kernel
theorem dX12_laysAlone_90 : decode cX12_laysAlone 90 = .ok (.invokevirtual 371, 3) := by decide +kernel
theorem dX12_laysAlone_93 : decode cX12_laysAlone 93 = .ok (.aload_n 0, 1) := by decide +kernel
theorem dX12_laysAlone_94 : decode cX12_laysAlone 94 = .ok (.iconst 1, 1) := by decide +kernel
theorem dX12_laysAlone_95 : decode cX12_laysAlone 95 = .ok (.invokevirtual 405, 3) := by decide +kernel
theorem dX12_laysAlone_98 : decode cX12_laysAlone 98 = .ok (.aload_n 0, 1) := by decide +kernel
theorem dX12_laysAlone_99 : decode cX12_laysAlone 99 = .ok (.getfield 158, 3) := by decide +kernel
theorem dX12_laysAlone_102 : decode cX12_laysAlone 102 = .ok (.iload_n 1, 1) := by decide +kernel
theorem dX12_laysAlone_103 : decode cX12_laysAlone 103 = .ok (.aload_n 0, 1) := by decide +kernel
theorem dX12_laysAlone_104 : decode cX12_laysAlone 104 = .ok (.getfield 396, 3) := by decide +kernel
theorem dX12_laysAlone_107 : decode cX12_laysAlone 107 = .ok (.iastore, 1) := by decide +kernel
theorem dX12_laysAlone_108 : decode cX12_laysAlone 108 = .ok (.aload_n 0, 1) := by decide +kernel
theorem dX12_laysAlone_109 : decode cX12_laysAlone 109 = .ok (.getfield 161, 3) := by decide +kernel
theorem dX12_laysAlone_112 : decode cX12_laysAlone 112 = .ok (.iload_n 1, 1) := by decide +kernel
theorem dX12_laysAlone_113 : decode cX12_laysAlone 113 = .ok (.aload_n 0, 1) := by decide +kernel
theorem dX12_laysAlone_114 : decode cX12_laysAlone 114 = .ok (.getfield 399, 3) := by decide +kernel
theorem dX12_laysAlone_117 : decode cX12_laysAlone 117 = .ok (.aload_n 0, 1) := by decide +kernel
theorem dX12_laysAlone_118 : decode cX12_laysAlone 118 = .ok (.getfield 20, 3) := by decide +kernel
theorem dX12_laysAlone_121 : decode cX12_laysAlone 121 = .ok (.iconst 5, 1) := by decide +kernel
theorem dX12_laysAlone_122 : decode cX12_laysAlone 122 = .ok (.iaload, 1) := by decide +kernel
theorem dX12_laysAlone_123 : decode cX12_laysAlone 123 = .ok (.iadd, 1) := by decide +kernel
theorem dX12_laysAlone_124 : decode cX12_laysAlone 124 = .ok (.iastore, 1) := by decide +kernel
theorem dX12_laysAlone_125 : decode cX12_laysAlone 125 = .ok (.return_, 1) := by decide +kernel
theorem dX12_writes_0 : decode cX12_writes 0 = .ok (.aload_n 0, 1) := by decide +kernel
theorem dX12_writes_1 : decode cX12_writes 1 = .ok (.getfield 171, 3) := by decide +kernel
theorem dX12_writes_4 : decode cX12_writes 4 = .ok (.aload_n 0, 1) := by decide +kernel
theorem dX12_writes_5 : decode cX12_writes 5 = .ok (.getfield 429, 3) := by decide +kernel
theorem dX12_writes_8 : decode cX12_writes 8 = .ok (.iload_n 1, 1) := by decide +kernel
theorem dX12_writes_9 : decode cX12_writes 9 = .ok (.iastore, 1) := by decide +kernel
theorem dX12_writes_10 : decode cX12_writes 10 = .ok (.aload_n 0, 1) := by decide +kernel
theorem dX12_writes_11 : decode cX12_writes 11 = .ok (.dup, 1) := by decide +kernel
theorem dX12_writes_12 : decode cX12_writes 12 = .ok (.getfield 429, 3) := by decide +kernel
theorem dX12_writes_15 : decode cX12_writes 15 = .ok (.iconst 1, 1) := by decide +kernel
theorem dX12_writes_16 : decode cX12_writes 16 = .ok (.iadd, 1) := by decide +kernel
theorem dX12_writes_17 : decode cX12_writes 17 = .ok (.putfield 429, 3) := by decide +kernel
theorem dX12_writes_20 : decode cX12_writes 20 = .ok (.return_, 1) := by decide +kernel
theorem dX12_writesOne_0 : decode cX12_writesOne 0 = .ok (.iconst 0, 1) := by decide +kernel
theorem dX12_writesOne_1 : decode cX12_writesOne 1 = .ok (.istore_n 3, 1) := by decide +kernel
theorem dX12_writesOne_2 : decode cX12_writesOne 2 = .ok (.iload_n 2, 1) := by decide +kernel
theorem dX12_writesOne_3 : decode cX12_writesOne 3 = .ok (.iconst (-1), 1) := by decide +kernel
theorem dX12_writesOne_4 : decode cX12_writesOne 4 = .ok (.if_icmp .eq 31, 3) := by decide +kernel
theorem dX12_writesOne_7 : decode cX12_writesOne 7 = .ok (.iload_n 3, 1) := by decide +kernel
theorem dX12_writesOne_8 : decode cX12_writesOne 8 = .ok (.aload_n 0, 1) := by decide +kernel
theorem dX12_writesOne_9 : decode cX12_writesOne 9 = .ok (.getfield 28, 3) := by decide +kernel
theorem dX12_writesOne_12 : decode cX12_writesOne 12 = .ok (.iload_n 2, 1) := by decide +kernel
theorem dX12_writesOne_13 : decode cX12_writesOne 13 = .ok (.iaload, 1) := by decide +kernel
theorem dX12_writesOne_14 : decode cX12_writesOne 14 = .ok (.if_icmp .ge 21, 3) := by decide +kernel
theorem dX12_writesOne_17 : decode cX12_writesOne 17 = .ok (.aload_n 0, 1) := by decide +kernel
theorem dX12_writesOne_18 : decode cX12_writesOne 18 = .ok (.aload_n 0, 1) := by decide +kernel
theorem dX12_writesOne_19 : decode cX12_writesOne 19 = .ok (.getfield 25, 3) := by decide +kernel
theorem dX12_writesOne_22 : decode cX12_writesOne 22 = .ok (.iload_n 2, 1) := by decide +kernel
theorem dX12_writesOne_23 : decode cX12_writesOne 23 = .ok (.aaload, 1) := by decide +kernel
theorem dX12_writesOne_24 : decode cX12_writesOne 24 = .ok (.iload_n 3, 1) := by decide +kernel
theorem dX12_writesOne_25 : decode cX12_writesOne 25 = .ok (.iaload, 1) := by decide +kernel
theorem dX12_writesOne_26 : decode cX12_writesOne 26 = .ok (.invokevirtual 432, 3) := by decide +kernel
theorem dX12_writesOne_29 : decode cX12_writesOne 29 = .ok (.iinc 3 1, 3) := by decide +kernel
theorem dX12_writesOne_32 : decode cX12_writesOne 32 = .ok (.goto (-30), 3) := by decide +kernel
theorem dX12_writesOne_35 : decode cX12_writesOne 35 = .ok (.iconst 0, 1) := by decide +kernel
theorem dX12_writesOne_36 : decode cX12_writesOne 36 = .ok (.istore_n 3, 1) := by decide +kernel
theorem dX12_writesOne_37 : decode cX12_writesOne 37 = .ok (.iload_n 2, 1) := by decide +kernel
theorem dX12_writesOne_38 : decode cX12_writesOne 38 = .ok (.iconst (-1), 1) := by decide +kernel
theorem dX12_writesOne_39 : decode cX12_writesOne 39 = .ok (.if_icmp .ne 54, 3) := by decide +kernel
theorem dX12_writesOne_42 : decode cX12_writesOne 42 = .ok (.iload_n 3, 1) := by decide +kernel
theorem dX12_writesOne_43 : decode cX12_writesOne 43 = .ok (.aload_n 0, 1) := by decide +kernel
theorem dX12_writesOne_44 : decode cX12_writesOne 44 = .ok (.getfield 72, 3) := by decide +kernel
theorem dX12_writesOne_47 : decode cX12_writesOne 47 = .ok (.iconst 0, 1) := by decide +kernel
theorem dX12_writesOne_48 : decode cX12_writesOne 48 = .ok (.aaload, 1) := by decide +kernel
theorem dX12_writesOne_49 : decode cX12_writesOne 49 = .ok (.iload_n 1, 1) := by decide +kernel
theorem dX12_writesOne_50 : decode cX12_writesOne 50 = .ok (.iaload, 1) := by decide +kernel
theorem dX12_writesOne_51 : decode cX12_writesOne 51 = .ok (.if_icmp .ge 42, 3) := by decide +kernel
theorem dX12_writesOne_54 : decode cX12_writesOne 54 = .ok (.aload_n 0, 1) := by decide +kernel
theorem dX12_writesOne_55 : decode cX12_writesOne 55 = .ok (.getfield 83, 3) := by decide +kernel
theorem dX12_writesOne_58 : decode cX12_writesOne 58 = .ok (.iconst 0, 1) := by decide +kernel
theorem dX12_writesOne_59 : decode cX12_writesOne 59 = .ok (.aaload, 1) := by decide +kernel
theorem dX12_writesOne_60 : decode cX12_writesOne 60 = .ok (.iload_n 1, 1) := by decide +kernel
theorem dX12_writesOne_61 : decode cX12_writesOne 61 = .ok (.aaload, 1) := by decide +kernel
theorem dX12_writesOne_62 : decode cX12_writesOne 62 = .ok (.iload_n 3, 1) := by decide +kernel
theorem dX12_writesOne_63 : decode cX12_writesOne 63 = .ok (.aaload, 1) := by decide +kernel
theorem dX12_writesOne_64 : decode cX12_writesOne 64 = .ok (.iconst 0, 1) := by decide +kernel
theorem dX12_writesOne_65 : decode cX12_writesOne 65 = .ok (.iaload, 1) := by decide +kernel
theorem dX12_writesOne_66 : decode cX12_writesOne 66 = .ok (.bipush 10, 2) := by decide +kernel
theorem dX12_writesOne_68 : decode cX12_writesOne 68 = .ok (.if_icmp .eq 19, 3) := by decide +kernel
theorem dX12_writesOne_71 : decode cX12_writesOne 71 = .ok (.aload_n 0, 1) := by decide +kernel
theorem dX12_writesOne_72 : decode cX12_writesOne 72 = .ok (.aload_n 0, 1) := by decide +kernel
theorem dX12_writesOne_73 : decode cX12_writesOne 73 = .ok (.getfield 83, 3) := by decide +kernel
theorem dX12_writesOne_76 : decode cX12_writesOne 76 = .ok (.iconst 0, 1) := by decide +kernel
theorem dX12_writesOne_77 : decode cX12_writesOne 77 = .ok (.aaload, 1) := by decide +kernel
theorem dX12_writesOne_78 : decode cX12_writesOne 78 = .ok (.iload_n 1, 1) := by decide +kernel
theorem dX12_writesOne_79 : decode cX12_writesOne 79 = .ok (.aaload, 1) := by decide +kernel
theorem dX12_writesOne_80 : decode cX12_writesOne 80 = .ok (.iload_n 3, 1) := by decide +kernel
theorem dX12_writesOne_81 : decode cX12_writesOne 81 = .ok (.aaload, 1) := by decide +kernel
theorem dX12_writesOne_82 : decode cX12_writesOne 82 = .ok (.iconst 0, 1) := by decide +kernel
theorem dX12_writesOne_83 : decode cX12_writesOne 83 = .ok (.iaload, 1) := by decide +kernel
theorem dX12_writesOne_84 : decode cX12_writesOne 84 = .ok (.invokevirtual 432, 3) := by decide +kernel
theorem dX12_writesOne_87 : decode cX12_writesOne 87 = .ok (.iinc 3 1, 3) := by decide +kernel
theorem dX12_writesOne_90 : decode cX12_writesOne 90 = .ok (.goto (-53), 3) := by decide +kernel
theorem dX12_writesOne_93 : decode cX12_writesOne 93 = .ok (.return_, 1) := by decide +kernel
theorem dX12_mendsAll_0 : decode cX12_mendsAll 0 = .ok (.aload_n 0, 1) := by decide +kernel
theorem dX12_mendsAll_1 : decode cX12_mendsAll 1 = .ok (.getfield 66, 3) := by decide +kernel
theorem dX12_mendsAll_4 : decode cX12_mendsAll 4 = .ok (.iconst 0, 1) := by decide +kernel
theorem dX12_mendsAll_5 : decode cX12_mendsAll 5 = .ok (.iaload, 1) := by decide +kernel
theorem dX12_mendsAll_6 : decode cX12_mendsAll 6 = .ok (.istore_n 1, 1) := by decide +kernel
theorem dX12_mendsAll_7 : decode cX12_mendsAll 7 = .ok (.iconst 0, 1) := by decide +kernel
theorem dX12_mendsAll_8 : decode cX12_mendsAll 8 = .ok (.istore_n 2, 1) := by decide +kernel
theorem dX12_mendsAll_9 : decode cX12_mendsAll 9 = .ok (.iload_n 2, 1) := by decide +kernel
theorem dX12_mendsAll_10 : decode cX12_mendsAll 10 = .ok (.iload_n 1, 1) := by decide +kernel
theorem dX12_mendsAll_11 : decode cX12_mendsAll 11 = .ok (.if_icmp .ge 14, 3) := by decide +kernel
theorem dX12_mendsAll_14 : decode cX12_mendsAll 14 = .ok (.aload_n 0, 1) := by decide +kernel
theorem dX12_mendsAll_15 : decode cX12_mendsAll 15 = .ok (.iload_n 2, 1) := by decide +kernel
theorem dX12_mendsAll_16 : decode cX12_mendsAll 16 = .ok (.invokevirtual 435, 3) := by decide +kernel
theorem dX12_mendsAll_19 : decode cX12_mendsAll 19 = .ok (.iinc 2 1, 3) := by decide +kernel
theorem dX12_mendsAll_22 : decode cX12_mendsAll 22 = .ok (.goto (-13), 3) := by decide +kernel
theorem dX12_mendsAll_25 : decode cX12_mendsAll 25 = .ok (.aload_n 0, 1) := by decide +kernel
theorem dX12_mendsAll_26 : decode cX12_mendsAll 26 = .ok (.getfield 164, 3) := by decide +kernel
theorem dX12_mendsAll_29 : decode cX12_mendsAll 29 = .ok (.iload_n 1, 1) := by decide +kernel
theorem dX12_mendsAll_30 : decode cX12_mendsAll 30 = .ok (.iconst 0, 1) := by decide +kernel
theorem dX12_mendsAll_31 : decode cX12_mendsAll 31 = .ok (.iastore, 1) := by decide +kernel
theorem dX12_mendsAll_32 : decode cX12_mendsAll 32 = .ok (.iload_n 1, 1) := by decide +kernel
theorem dX12_mendsAll_33 : decode cX12_mendsAll 33 = .ok (.iconst 1, 1) := by decide +kernel
theorem dX12_mendsAll_34 : decode cX12_mendsAll 34 = .ok (.isub, 1) := by decide +kernel
theorem dX12_mendsAll_35 : decode cX12_mendsAll 35 = .ok (.istore_n 2, 1) := by decide +kernel
theorem dX12_mendsAll_36 : decode cX12_mendsAll 36 = .ok (.iload_n 2, 1) := by decide +kernel
theorem dX12_mendsAll_37 : decode cX12_mendsAll 37 = .ok (.ifCond .lt 116, 3) := by decide +kernel
theorem dX12_mendsAll_40 : decode cX12_mendsAll 40 = .ok (.aload_n 0, 1) := by decide +kernel
theorem dX12_mendsAll_41 : decode cX12_mendsAll 41 = .ok (.getfield 164, 3) := by decide +kernel
theorem dX12_mendsAll_44 : decode cX12_mendsAll 44 = .ok (.iload_n 2, 1) := by decide +kernel
theorem dX12_mendsAll_45 : decode cX12_mendsAll 45 = .ok (.aload_n 0, 1) := by decide +kernel
theorem dX12_mendsAll_46 : decode cX12_mendsAll 46 = .ok (.getfield 155, 3) := by decide +kernel
theorem dX12_mendsAll_49 : decode cX12_mendsAll 49 = .ok (.iload_n 2, 1) := by decide +kernel
theorem dX12_mendsAll_50 : decode cX12_mendsAll 50 = .ok (.iaload, 1) := by decide +kernel
theorem dX12_mendsAll_51 : decode cX12_mendsAll 51 = .ok (.aload_n 0, 1) := by decide +kernel
theorem dX12_mendsAll_52 : decode cX12_mendsAll 52 = .ok (.getfield 164, 3) := by decide +kernel
theorem dX12_mendsAll_55 : decode cX12_mendsAll 55 = .ok (.iload_n 2, 1) := by decide +kernel
theorem dX12_mendsAll_56 : decode cX12_mendsAll 56 = .ok (.iconst 1, 1) := by decide +kernel
theorem dX12_mendsAll_57 : decode cX12_mendsAll 57 = .ok (.iadd, 1) := by decide +kernel
theorem dX12_mendsAll_58 : decode cX12_mendsAll 58 = .ok (.iaload, 1) := by decide +kernel
theorem dX12_mendsAll_59 : decode cX12_mendsAll 59 = .ok (.iadd, 1) := by decide +kernel
theorem dX12_mendsAll_60 : decode cX12_mendsAll 60 = .ok (.iastore, 1) := by decide +kernel
theorem dX12_mendsAll_61 : decode cX12_mendsAll 61 = .ok (.aload_n 0, 1) := by decide +kernel
theorem dX12_mendsAll_62 : decode cX12_mendsAll 62 = .ok (.getfield 167, 3) := by decide +kernel
theorem dX12_mendsAll_65 : decode cX12_mendsAll 65 = .ok (.iload_n 2, 1) := by decide +kernel
theorem dX12_mendsAll_66 : decode cX12_mendsAll 66 = .ok (.aload_n 0, 1) := by decide +kernel
theorem dX12_mendsAll_67 : decode cX12_mendsAll 67 = .ok (.getfield 158, 3) := by decide +kernel
theorem dX12_mendsAll_70 : decode cX12_mendsAll 70 = .ok (.iload_n 2, 1) := by decide +kernel
theorem dX12_mendsAll_71 : decode cX12_mendsAll 71 = .ok (.iaload, 1) := by decide +kernel
theorem dX12_mendsAll_72 : decode cX12_mendsAll 72 = .ok (.iconst (-1), 1) := by decide +kernel
theorem dX12_mendsAll_73 : decode cX12_mendsAll 73 = .ok (.if_icmp .eq 42, 3) := by decide +kernel
theorem dX12_mendsAll_76 : decode cX12_mendsAll 76 = .ok (.aload_n 0, 1) := by decide +kernel
theorem dX12_mendsAll_77 : decode cX12_mendsAll 77 = .ok (.getfield 161, 3) := by decide +kernel
theorem dX12_mendsAll_80 : decode cX12_mendsAll 80 = .ok (.iload_n 2, 1) := by decide +kernel
theorem dX12_mendsAll_81 : decode cX12_mendsAll 81 = .ok (.iaload, 1) := by decide +kernel
theorem dX12_mendsAll_82 : decode cX12_mendsAll 82 = .ok (.aload_n 0, 1) := by decide +kernel
theorem dX12_mendsAll_83 : decode cX12_mendsAll 83 = .ok (.getfield 164, 3) := by decide +kernel
theorem dX12_mendsAll_86 : decode cX12_mendsAll 86 = .ok (.iload_n 2, 1) := by decide +kernel
theorem dX12_mendsAll_87 : decode cX12_mendsAll 87 = .ok (.iconst 2, 1) := by decide +kernel
theorem dX12_mendsAll_88 : decode cX12_mendsAll 88 = .ok (.iadd, 1) := by decide +kernel
theorem dX12_mendsAll_89 : decode cX12_mendsAll 89 = .ok (.iload_n 1, 1) := by decide +kernel
theorem dX12_mendsAll_90 : decode cX12_mendsAll 90 = .ok (.if_icmp .le 7, 3) := by decide +kernel
theorem dX12_mendsAll_93 : decode cX12_mendsAll 93 = .ok (.iload_n 1, 1) := by decide +kernel
theorem dX12_mendsAll_94 : decode cX12_mendsAll 94 = .ok (.goto 6, 3) := by decide +kernel
theorem dX12_mendsAll_97 : decode cX12_mendsAll 97 = .ok (.iload_n 2, 1) := by decide +kernel
theorem dX12_mendsAll_98 : decode cX12_mendsAll 98 = .ok (.iconst 2, 1) := by decide +kernel
theorem dX12_mendsAll_99 : decode cX12_mendsAll 99 = .ok (.iadd, 1) := by decide +kernel
theorem dX12_mendsAll_100 : decode cX12_mendsAll 100 = .ok (.iaload, 1) := by decide +kernel
theorem dX12_mendsAll_101 : decode cX12_mendsAll 101 = .ok (.iadd, 1) := by decide +kernel
theorem dX12_mendsAll_102 : decode cX12_mendsAll 102 = .ok (.aload_n 0, 1) := by decide +kernel
theorem dX12_mendsAll_103 : decode cX12_mendsAll 103 = .ok (.getfield 164, 3) := by decide +kernel
theorem dX12_mendsAll_106 : decode cX12_mendsAll 106 = .ok (.iload_n 2, 1) := by decide +kernel
theorem dX12_mendsAll_107 : decode cX12_mendsAll 107 = .ok (.iaload, 1) := by decide +kernel
theorem dX12_mendsAll_108 : decode cX12_mendsAll 108 = .ok (.if_icmp .ge 7, 3) := by decide +kernel
theorem dX12_mendsAll_111 : decode cX12_mendsAll 111 = .ok (.iconst 1, 1) := by decide +kernel
theorem dX12_mendsAll_112 : decode cX12_mendsAll 112 = .ok (.goto 4, 3) := by decide +kernel
theorem dX12_mendsAll_115 : decode cX12_mendsAll 115 = .ok (.iconst 0, 1) := by decide +kernel
theorem dX12_mendsAll_116 : decode cX12_mendsAll 116 = .ok (.bastore, 1) := by decide +kernel
theorem dX12_mendsAll_117 : decode cX12_mendsAll 117 = .ok (.aload_n 0, 1) := by decide +kernel
theorem dX12_mendsAll_118 : decode cX12_mendsAll 118 = .ok (.getfield 167, 3) := by decide +kernel
theorem dX12_mendsAll_121 : decode cX12_mendsAll 121 = .ok (.iload_n 2, 1) := by decide +kernel
theorem dX12_mendsAll_122 : decode cX12_mendsAll 122 = .ok (.baload, 1) := by decide +kernel
theorem dX12_mendsAll_123 : decode cX12_mendsAll 123 = .ok (.ifCond .eq 24, 3) := by decide +kernel
theorem dX12_mendsAll_126 : decode cX12_mendsAll 126 = .ok (.aload_n 0, 1) := by decide +kernel
theorem dX12_mendsAll_127 : decode cX12_mendsAll 127 = .ok (.getfield 164, 3) := by decide +kernel
theorem dX12_mendsAll_130 : decode cX12_mendsAll 130 = .ok (.iload_n 2, 1) := by decide +kernel
theorem dX12_mendsAll_131 : decode cX12_mendsAll 131 = .ok (.aload_n 0, 1) := by decide +kernel
theorem dX12_mendsAll_132 : decode cX12_mendsAll 132 = .ok (.getfield 161, 3) := by decide +kernel
theorem dX12_mendsAll_135 : decode cX12_mendsAll 135 = .ok (.iload_n 2, 1) := by decide +kernel
theorem dX12_mendsAll_136 : decode cX12_mendsAll 136 = .ok (.iaload, 1) := by decide +kernel
theorem dX12_mendsAll_137 : decode cX12_mendsAll 137 = .ok (.aload_n 0, 1) := by decide +kernel
theorem dX12_mendsAll_138 : decode cX12_mendsAll 138 = .ok (.getfield 164, 3) := by decide +kernel
theorem dX12_mendsAll_141 : decode cX12_mendsAll 141 = .ok (.iload_n 2, 1) := by decide +kernel
theorem dX12_mendsAll_142 : decode cX12_mendsAll 142 = .ok (.iconst 2, 1) := by decide +kernel
theorem dX12_mendsAll_143 : decode cX12_mendsAll 143 = .ok (.iadd, 1) := by decide +kernel
theorem dX12_mendsAll_144 : decode cX12_mendsAll 144 = .ok (.iaload, 1) := by decide +kernel
theorem dX12_mendsAll_145 : decode cX12_mendsAll 145 = .ok (.iadd, 1) := by decide +kernel
theorem dX12_mendsAll_146 : decode cX12_mendsAll 146 = .ok (.iastore, 1) := by decide +kernel
theorem dX12_mendsAll_147 : decode cX12_mendsAll 147 = .ok (.iinc 2 (-1), 3) := by decide +kernel
theorem dX12_mendsAll_150 : decode cX12_mendsAll 150 = .ok (.goto (-114), 3) := by decide +kernel
theorem dX12_mendsAll_153 : decode cX12_mendsAll 153 = .ok (.aload_n 0, 1) := by decide +kernel
theorem dX12_mendsAll_154 : decode cX12_mendsAll 154 = .ok (.iconst 0, 1) := by decide +kernel
theorem dX12_mendsAll_155 : decode cX12_mendsAll 155 = .ok (.putfield 429, 3) := by decide +kernel
theorem dX12_mendsAll_158 : decode cX12_mendsAll 158 = .ok (.aload_n 0, 1) := by decide +kernel
theorem dX12_mendsAll_159 : decode cX12_mendsAll 159 = .ok (.iconst 0, 1) := by decide +kernel
theorem dX12_mendsAll_160 : decode cX12_mendsAll 160 = .ok (.putfield 438, 3) := by decide +kernel
theorem dX12_mendsAll_163 : decode cX12_mendsAll 163 = .ok (.aload_n 0, 1) := by decide +kernel
theorem dX12_mendsAll_164 : decode cX12_mendsAll 164 = .ok (.iconst 0, 1) := by decide +kernel
theorem dX12_mendsAll_165 : decode cX12_mendsAll 165 = .ok (.putfield 441, 3) := by decide +kernel
theorem dX12_mendsAll_168 : decode cX12_mendsAll 168 = .ok (.iconst 0, 1) := by decide +kernel
theorem dX12_mendsAll_169 : decode cX12_mendsAll 169 = .ok (.istore_n 2, 1) := by decide +kernel
theorem dX12_mendsAll_170 : decode cX12_mendsAll 170 = .ok (.iload_n 2, 1) := by decide +kernel
theorem dX12_mendsAll_171 : decode cX12_mendsAll 171 = .ok (.iload_n 1, 1) := by decide +kernel
theorem dX12_mendsAll_172 : decode cX12_mendsAll 172 = .ok (.if_icmp .ge 131, 3) := by decide +kernel
theorem dX12_mendsAll_175 : decode cX12_mendsAll 175 = .ok (.aload_n 0, 1) := by decide +kernel
theorem dX12_mendsAll_176 : decode cX12_mendsAll 176 = .ok (.getfield 167, 3) := by decide +kernel
theorem dX12_mendsAll_179 : decode cX12_mendsAll 179 = .ok (.iload_n 2, 1) := by decide +kernel
theorem dX12_mendsAll_180 : decode cX12_mendsAll 180 = .ok (.baload, 1) := by decide +kernel
theorem dX12_mendsAll_181 : decode cX12_mendsAll 181 = .ok (.istore_n 3, 1) := by decide +kernel
theorem dX12_mendsAll_182 : decode cX12_mendsAll 182 = .ok (.aload_n 0, 1) := by decide +kernel
theorem dX12_mendsAll_183 : decode cX12_mendsAll 183 = .ok (.iload_n 2, 1) := by decide +kernel
theorem dX12_mendsAll_184 : decode cX12_mendsAll 184 = .ok (.iload_n 3, 1) := by decide +kernel
theorem dX12_mendsAll_185 : decode cX12_mendsAll 185 = .ok (.ifCond .eq 12, 3) := by decide +kernel
theorem dX12_mendsAll_188 : decode cX12_mendsAll 188 = .ok (.aload_n 0, 1) := by decide +kernel
theorem dX12_mendsAll_189 : decode cX12_mendsAll 189 = .ok (.getfield 158, 3) := by decide +kernel
theorem dX12_mendsAll_192 : decode cX12_mendsAll 192 = .ok (.iload_n 2, 1) := by decide +kernel
theorem dX12_mendsAll_193 : decode cX12_mendsAll 193 = .ok (.iaload, 1) := by decide +kernel
theorem dX12_mendsAll_194 : decode cX12_mendsAll 194 = .ok (.goto 9, 3) := by decide +kernel
theorem dX12_mendsAll_197 : decode cX12_mendsAll 197 = .ok (.aload_n 0, 1) := by decide +kernel
theorem dX12_mendsAll_198 : decode cX12_mendsAll 198 = .ok (.getfield 152, 3) := by decide +kernel
theorem dX12_mendsAll_201 : decode cX12_mendsAll 201 = .ok (.iload_n 2, 1) := by decide +kernel
theorem dX12_mendsAll_202 : decode cX12_mendsAll 202 = .ok (.iaload, 1) := by decide +kernel
theorem dX12_mendsAll_203 : decode cX12_mendsAll 203 = .ok (.invokevirtual 444, 3) := by decide +kernel
theorem dX12_mendsAll_206 : decode cX12_mendsAll 206 = .ok (.aload_n 0, 1) := by decide +kernel
theorem dX12_mendsAll_207 : decode cX12_mendsAll 207 = .ok (.dup, 1) := by decide +kernel
theorem dX12_mendsAll_208 : decode cX12_mendsAll 208 = .ok (.getfield 438, 3) := by decide +kernel
theorem dX12_mendsAll_211 : decode cX12_mendsAll 211 = .ok (.iload_n 3, 1) := by decide +kernel
theorem dX12_mendsAll_212 : decode cX12_mendsAll 212 = .ok (.ifCond .eq 7, 3) := by decide +kernel
theorem dX12_mendsAll_215 : decode cX12_mendsAll 215 = .ok (.iconst 1, 1) := by decide +kernel
theorem dX12_mendsAll_216 : decode cX12_mendsAll 216 = .ok (.goto 4, 3) := by decide +kernel
theorem dX12_mendsAll_219 : decode cX12_mendsAll 219 = .ok (.iconst 0, 1) := by decide +kernel
theorem dX12_mendsAll_220 : decode cX12_mendsAll 220 = .ok (.iadd, 1) := by decide +kernel
theorem dX12_mendsAll_221 : decode cX12_mendsAll 221 = .ok (.putfield 438, 3) := by decide +kernel
theorem dX12_mendsAll_224 : decode cX12_mendsAll 224 = .ok (.aload_n 0, 1) := by decide +kernel
theorem dX12_mendsAll_225 : decode cX12_mendsAll 225 = .ok (.dup, 1) := by decide +kernel
theorem dX12_mendsAll_226 : decode cX12_mendsAll 226 = .ok (.getfield 441, 3) := by decide +kernel
theorem dX12_mendsAll_229 : decode cX12_mendsAll 229 = .ok (.iload_n 3, 1) := by decide +kernel
theorem dX12_mendsAll_230 : decode cX12_mendsAll 230 = .ok (.ifCond .ne 17, 3) := by decide +kernel
theorem dX12_mendsAll_233 : decode cX12_mendsAll 233 = .ok (.aload_n 0, 1) := by decide +kernel
theorem dX12_mendsAll_234 : decode cX12_mendsAll 234 = .ok (.getfield 152, 3) := by decide +kernel
theorem dX12_mendsAll_237 : decode cX12_mendsAll 237 = .ok (.iload_n 2, 1) := by decide +kernel
theorem dX12_mendsAll_238 : decode cX12_mendsAll 238 = .ok (.iaload, 1) := by decide +kernel
theorem dX12_mendsAll_239 : decode cX12_mendsAll 239 = .ok (.iconst (-1), 1) := by decide +kernel
theorem dX12_mendsAll_240 : decode cX12_mendsAll 240 = .ok (.if_icmp .ne 7, 3) := by decide +kernel
theorem dX12_mendsAll_243 : decode cX12_mendsAll 243 = .ok (.iconst 1, 1) := by decide +kernel
theorem dX12_mendsAll_244 : decode cX12_mendsAll 244 = .ok (.goto 4, 3) := by decide +kernel
theorem dX12_mendsAll_247 : decode cX12_mendsAll 247 = .ok (.iconst 0, 1) := by decide +kernel
theorem dX12_mendsAll_248 : decode cX12_mendsAll 248 = .ok (.iadd, 1) := by decide +kernel
theorem dX12_mendsAll_249 : decode cX12_mendsAll 249 = .ok (.putfield 441, 3) := by decide +kernel
theorem dX12_mendsAll_252 : decode cX12_mendsAll 252 = .ok (.aload_n 0, 1) := by decide +kernel
theorem dX12_mendsAll_253 : decode cX12_mendsAll 253 = .ok (.getfield 174, 3) := by decide +kernel
theorem dX12_mendsAll_256 : decode cX12_mendsAll 256 = .ok (.iload_n 2, 1) := by decide +kernel
theorem dX12_mendsAll_257 : decode cX12_mendsAll 257 = .ok (.iload_n 3, 1) := by decide +kernel
theorem dX12_mendsAll_258 : decode cX12_mendsAll 258 = .ok (.bastore, 1) := by decide +kernel
theorem dX12_mendsAll_259 : decode cX12_mendsAll 259 = .ok (.iload_n 2, 1) := by decide +kernel
theorem dX12_mendsAll_260 : decode cX12_mendsAll 260 = .ok (.iload_n 3, 1) := by decide +kernel
theorem dX12_mendsAll_261 : decode cX12_mendsAll 261 = .ok (.ifCond .eq 7, 3) := by decide +kernel
theorem dX12_mendsAll_264 : decode cX12_mendsAll 264 = .ok (.iconst 2, 1) := by decide +kernel
theorem dX12_mendsAll_265 : decode cX12_mendsAll 265 = .ok (.goto 4, 3) := by decide +kernel
theorem dX12_mendsAll_268 : decode cX12_mendsAll 268 = .ok (.iconst 1, 1) := by decide +kernel
theorem dX12_mendsAll_269 : decode cX12_mendsAll 269 = .ok (.iadd, 1) := by decide +kernel
theorem dX12_mendsAll_270 : decode cX12_mendsAll 270 = .ok (.istore_n 2, 1) := by decide +kernel
theorem dX12_mendsAll_271 : decode cX12_mendsAll 271 = .ok (.iload_n 2, 1) := by decide +kernel
theorem dX12_mendsAll_272 : decode cX12_mendsAll 272 = .ok (.iload_n 1, 1) := by decide +kernel
theorem dX12_mendsAll_273 : decode cX12_mendsAll 273 = .ok (.if_icmp .ge 27, 3) := by decide +kernel
theorem dX12_mendsAll_276 : decode cX12_mendsAll 276 = .ok (.aload_n 0, 1) := by decide +kernel
theorem dX12_mendsAll_277 : decode cX12_mendsAll 277 = .ok (.aload_n 0, 1) := by decide +kernel
theorem dX12_mendsAll_278 : decode cX12_mendsAll 278 = .ok (.getfield 78, 3) := by decide +kernel
theorem dX12_mendsAll_281 : decode cX12_mendsAll 281 = .ok (.iconst 0, 1) := by decide +kernel
theorem dX12_mendsAll_282 : decode cX12_mendsAll 282 = .ok (.aaload, 1) := by decide +kernel
theorem dX12_mendsAll_283 : decode cX12_mendsAll 283 = .ok (.iload_n 2, 1) := by decide +kernel
theorem dX12_mendsAll_284 : decode cX12_mendsAll 284 = .ok (.iconst 1, 1) := by decide +kernel
theorem dX12_mendsAll_285 : decode cX12_mendsAll 285 = .ok (.isub, 1) := by decide +kernel
theorem dX12_mendsAll_286 : decode cX12_mendsAll 286 = .ok (.iaload, 1) := by decide +kernel
theorem dX12_mendsAll_287 : decode cX12_mendsAll 287 = .ok (.ifCond .ne 8, 3) := by decide +kernel
theorem dX12_mendsAll_290 : decode cX12_mendsAll 290 = .ok (.bipush 32, 2) := by decide +kernel
theorem dX12_mendsAll_292 : decode cX12_mendsAll 292 = .ok (.goto 5, 3) := by decide +kernel
theorem dX12_mendsAll_295 : decode cX12_mendsAll 295 = .ok (.bipush 10, 2) := by decide +kernel
theorem dX12_mendsAll_297 : decode cX12_mendsAll 297 = .ok (.invokevirtual 432, 3) := by decide +kernel
theorem dX12_mendsAll_300 : decode cX12_mendsAll 300 = .ok (.goto (-130), 3) := by decide +kernel
theorem dX12_mendsAll_303 : decode cX12_mendsAll 303 = .ok (.return_, 1) := by decide +kernel
theorem dX12_text_0 : decode cX12_text 0 = .ok (.aload_n 0, 1) := by decide +kernel
theorem dX12_text_1 : decode cX12_text 1 = .ok (.iconst 0, 1) := by decide +kernel
theorem dX12_text_2 : decode cX12_text 2 = .ok (.putfield 180, 3) := by decide +kernel
theorem dX12_text_5 : decode cX12_text 5 = .ok (.aload_n 0, 1) := by decide +kernel
theorem dX12_text_6 : decode cX12_text 6 = .ok (.iload_n 1, 1) := by decide +kernel
theorem dX12_text_7 : decode cX12_text 7 = .ok (.iconst 0, 1) := by decide +kernel
theorem dX12_text_8 : decode cX12_text 8 = .ok (.iconst 3, 1) := by decide +kernel
theorem dX12_text_9 : decode cX12_text 9 = .ok (.invokestatic 223, 3) := by decide +kernel
theorem dX12_text_12 : decode cX12_text 12 = .ok (.ifCond .ne 7, 3) := by decide +kernel
theorem dX12_text_15 : decode cX12_text 15 = .ok (.iconst 1, 1) := by decide +kernel
theorem dX12_text_16 : decode cX12_text 16 = .ok (.goto 4, 3) := by decide +kernel
theorem dX12_text_19 : decode cX12_text 19 = .ok (.iconst 0, 1) := by decide +kernel
theorem dX12_text_20 : decode cX12_text 20 = .ok (.iconst 1, 1) := by decide +kernel
theorem dX12_text_21 : decode cX12_text 21 = .ok (.iconst 1, 1) := by decide +kernel
theorem dX12_text_22 : decode cX12_text 22 = .ok (.invokevirtual 249, 3) := by decide +kernel
theorem dX12_text_25 : decode cX12_text 25 = .ok (.ifCond .eq 5, 3) := by decide +kernel
theorem dX12_text_28 : decode cX12_text 28 = .ok (.iconst 0, 1) := by decide +kernel
theorem dX12_text_29 : decode cX12_text 29 = .ok (.ireturn, 1) := by decide +kernel
theorem dX12_text_30 : decode cX12_text 30 = .ok (.aload_n 0, 1) := by decide +kernel
theorem dX12_text_31 : decode cX12_text 31 = .ok (.invokevirtual 447, 3) := by decide +kernel
theorem dX12_text_34 : decode cX12_text 34 = .ok (.iload_n 1, 1) := by decide +kernel
theorem dX12_text_35 : decode cX12_text 35 = .ok (.ifCond .ne 10, 3) := by decide +kernel
theorem dX12_text_38 : decode cX12_text 38 = .ok (.aload_n 0, 1) := by decide +kernel
theorem dX12_text_39 : decode cX12_text 39 = .ok (.getfield 429, 3) := by decide +kernel
theorem dX12_text_42 : decode cX12_text 42 = .ok (.goto 33, 3) := by decide +kernel
theorem dX12_text_45 : decode cX12_text 45 = .ok (.iload_n 1, 1) := by decide +kernel
theorem dX12_text_46 : decode cX12_text 46 = .ok (.iconst 1, 1) := by decide +kernel
theorem dX12_text_47 : decode cX12_text 47 = .ok (.if_icmp .ne 12, 3) := by decide +kernel
theorem dX12_text_50 : decode cX12_text 50 = .ok (.aload_n 0, 1) := by decide +kernel
theorem dX12_text_51 : decode cX12_text 51 = .ok (.getfield 164, 3) := by decide +kernel
theorem dX12_text_54 : decode cX12_text 54 = .ok (.iconst 0, 1) := by decide +kernel
theorem dX12_text_55 : decode cX12_text 55 = .ok (.iaload, 1) := by decide +kernel
theorem dX12_text_56 : decode cX12_text 56 = .ok (.goto 19, 3) := by decide +kernel
theorem dX12_text_59 : decode cX12_text 59 = .ok (.iload_n 1, 1) := by decide +kernel
theorem dX12_text_60 : decode cX12_text 60 = .ok (.iconst 2, 1) := by decide +kernel
theorem dX12_text_61 : decode cX12_text 61 = .ok (.if_icmp .ne 10, 3) := by decide +kernel
theorem dX12_text_64 : decode cX12_text 64 = .ok (.aload_n 0, 1) := by decide +kernel
theorem dX12_text_65 : decode cX12_text 65 = .ok (.getfield 438, 3) := by decide +kernel
theorem dX12_text_68 : decode cX12_text 68 = .ok (.goto 7, 3) := by decide +kernel
theorem dX12_text_71 : decode cX12_text 71 = .ok (.aload_n 0, 1) := by decide +kernel
theorem dX12_text_72 : decode cX12_text 72 = .ok (.getfield 441, 3) := by decide +kernel
theorem dX12_text_75 : decode cX12_text 75 = .ok (.ireturn, 1) := by decide +kernel
theorem dX12_at_0 : decode cX12_at 0 = .ok (.aload_n 0, 1) := by decide +kernel
theorem dX12_at_1 : decode cX12_at 1 = .ok (.iconst 0, 1) := by decide +kernel
theorem dX12_at_2 : decode cX12_at 2 = .ok (.putfield 180, 3) := by decide +kernel
theorem dX12_at_5 : decode cX12_at 5 = .ok (.aload_n 0, 1) := by decide +kernel
theorem dX12_at_6 : decode cX12_at 6 = .ok (.invokevirtual 447, 3) := by decide +kernel
theorem dX12_at_9 : decode cX12_at 9 = .ok (.iload_n 1, 1) := by decide +kernel
theorem dX12_at_10 : decode cX12_at 10 = .ok (.iconst 0, 1) := by decide +kernel
theorem dX12_at_11 : decode cX12_at 11 = .ok (.aload_n 0, 1) := by decide +kernel
theorem dX12_at_12 : decode cX12_at 12 = .ok (.getfield 429, 3) := by decide +kernel
theorem dX12_at_15 : decode cX12_at 15 = .ok (.iconst 1, 1) := by decide +kernel
theorem dX12_at_16 : decode cX12_at 16 = .ok (.isub, 1) := by decide +kernel
theorem dX12_at_17 : decode cX12_at 17 = .ok (.invokestatic 223, 3) := by decide +kernel
theorem dX12_at_20 : decode cX12_at 20 = .ok (.ifCond .eq 12, 3) := by decide +kernel
theorem dX12_at_23 : decode cX12_at 23 = .ok (.aload_n 0, 1) := by decide +kernel
theorem dX12_at_24 : decode cX12_at 24 = .ok (.getfield 171, 3) := by decide +kernel
theorem dX12_at_27 : decode cX12_at 27 = .ok (.iload_n 1, 1) := by decide +kernel
theorem dX12_at_28 : decode cX12_at 28 = .ok (.iaload, 1) := by decide +kernel
theorem dX12_at_29 : decode cX12_at 29 = .ok (.goto 4, 3) := by decide +kernel
theorem dX12_at_32 : decode cX12_at 32 = .ok (.iconst (-1), 1) := by decide +kernel
theorem dX12_at_33 : decode cX12_at 33 = .ok (.ireturn, 1) := by decide +kernel
theorem dX12_isLostAt_0 : decode cX12_isLostAt 0 = .ok (.iconst 0, 1) := by decide +kernel
theorem dX12_isLostAt_1 : decode cX12_isLostAt 1 = .ok (.istore_n 2, 1) := by decide +kernel
theorem dX12_isLostAt_2 : decode cX12_isLostAt 2 = .ok (.iload_n 2, 1) := by decide +kernel
theorem dX12_isLostAt_3 : decode cX12_isLostAt 3 = .ok (.iload_n 1, 1) := by decide +kernel
theorem dX12_isLostAt_4 : decode cX12_isLostAt 4 = .ok (.if_icmp .ge 23, 3) := by decide +kernel
theorem dX12_isLostAt_7 : decode cX12_isLostAt 7 = .ok (.iload_n 2, 1) := by decide +kernel
theorem dX12_isLostAt_8 : decode cX12_isLostAt 8 = .ok (.aload_n 0, 1) := by decide +kernel
theorem dX12_isLostAt_9 : decode cX12_isLostAt 9 = .ok (.getfield 167, 3) := by decide +kernel
theorem dX12_isLostAt_12 : decode cX12_isLostAt 12 = .ok (.iload_n 2, 1) := by decide +kernel
theorem dX12_isLostAt_13 : decode cX12_isLostAt 13 = .ok (.baload, 1) := by decide +kernel
theorem dX12_isLostAt_14 : decode cX12_isLostAt 14 = .ok (.ifCond .eq 7, 3) := by decide +kernel
theorem dX12_isLostAt_17 : decode cX12_isLostAt 17 = .ok (.iconst 2, 1) := by decide +kernel
theorem dX12_isLostAt_18 : decode cX12_isLostAt 18 = .ok (.goto 4, 3) := by decide +kernel
theorem dX12_isLostAt_21 : decode cX12_isLostAt 21 = .ok (.iconst 1, 1) := by decide +kernel
theorem dX12_isLostAt_22 : decode cX12_isLostAt 22 = .ok (.iadd, 1) := by decide +kernel
theorem dX12_isLostAt_23 : decode cX12_isLostAt 23 = .ok (.istore_n 2, 1) := by decide +kernel
theorem dX12_isLostAt_24 : decode cX12_isLostAt 24 = .ok (.goto (-22), 3) := by decide +kernel
theorem dX12_isLostAt_27 : decode cX12_isLostAt 27 = .ok (.iload_n 2, 1) := by decide +kernel
theorem dX12_isLostAt_28 : decode cX12_isLostAt 28 = .ok (.iload_n 1, 1) := by decide +kernel
theorem dX12_isLostAt_29 : decode cX12_isLostAt 29 = .ok (.if_icmp .ne 30, 3) := by decide +kernel
theorem dX12_isLostAt_32 : decode cX12_isLostAt 32 = .ok (.iload_n 1, 1) := by decide +kernel
theorem dX12_isLostAt_33 : decode cX12_isLostAt 33 = .ok (.ifCond .lt 26, 3) := by decide +kernel
theorem dX12_isLostAt_36 : decode cX12_isLostAt 36 = .ok (.iload_n 1, 1) := by decide +kernel
theorem dX12_isLostAt_37 : decode cX12_isLostAt 37 = .ok (.aload_n 0, 1) := by decide +kernel
theorem dX12_isLostAt_38 : decode cX12_isLostAt 38 = .ok (.getfield 66, 3) := by decide +kernel
theorem dX12_isLostAt_41 : decode cX12_isLostAt 41 = .ok (.iconst 0, 1) := by decide +kernel
theorem dX12_isLostAt_42 : decode cX12_isLostAt 42 = .ok (.iaload, 1) := by decide +kernel
theorem dX12_isLostAt_43 : decode cX12_isLostAt 43 = .ok (.if_icmp .ge 16, 3) := by decide +kernel
theorem dX12_isLostAt_46 : decode cX12_isLostAt 46 = .ok (.aload_n 0, 1) := by decide +kernel
theorem dX12_isLostAt_47 : decode cX12_isLostAt 47 = .ok (.getfield 167, 3) := by decide +kernel
theorem dX12_isLostAt_50 : decode cX12_isLostAt 50 = .ok (.iload_n 1, 1) := by decide +kernel
theorem dX12_isLostAt_51 : decode cX12_isLostAt 51 = .ok (.baload, 1) := by decide +kernel
theorem dX12_isLostAt_52 : decode cX12_isLostAt 52 = .ok (.ifCond .eq 7, 3) := by decide +kernel
theorem dX12_isLostAt_55 : decode cX12_isLostAt 55 = .ok (.iconst 1, 1) := by decide +kernel
theorem dX12_isLostAt_56 : decode cX12_isLostAt 56 = .ok (.goto 4, 3) := by decide +kernel
theorem dX12_isLostAt_59 : decode cX12_isLostAt 59 = .ok (.iconst 0, 1) := by decide +kernel
theorem dX12_isLostAt_60 : decode cX12_isLostAt 60 = .ok (.ireturn, 1) := by decide +kernel
theorem dX12_lost_0 : decode cX12_lost 0 = .ok (.aload_n 0, 1) := by decide +kernel
theorem dX12_lost_1 : decode cX12_lost 1 = .ok (.iconst 0, 1) := by decide +kernel
theorem dX12_lost_2 : decode cX12_lost 2 = .ok (.putfield 180, 3) := by decide +kernel
theorem dX12_lost_5 : decode cX12_lost 5 = .ok (.aload_n 0, 1) := by decide +kernel
theorem dX12_lost_6 : decode cX12_lost 6 = .ok (.aload_n 0, 1) := by decide +kernel
theorem dX12_lost_7 : decode cX12_lost 7 = .ok (.iload_n 1, 1) := by decide +kernel
theorem dX12_lost_8 : decode cX12_lost 8 = .ok (.invokevirtual 368, 3) := by decide +kernel
theorem dX12_lost_11 : decode cX12_lost 11 = .ok (.ifCond .ne 7, 3) := by decide +kernel
theorem dX12_lost_14 : decode cX12_lost 14 = .ok (.iconst 1, 1) := by decide +kernel
theorem dX12_lost_15 : decode cX12_lost 15 = .ok (.goto 4, 3) := by decide +kernel
theorem dX12_lost_18 : decode cX12_lost 18 = .ok (.iconst 0, 1) := by decide +kernel
theorem dX12_lost_19 : decode cX12_lost 19 = .ok (.iconst 1, 1) := by decide +kernel
theorem dX12_lost_20 : decode cX12_lost 20 = .ok (.iconst 0, 1) := by decide +kernel
theorem dX12_lost_21 : decode cX12_lost 21 = .ok (.invokevirtual 249, 3) := by decide +kernel
theorem dX12_lost_24 : decode cX12_lost 24 = .ok (.ifCond .ne 26, 3) := by decide +kernel
theorem dX12_lost_27 : decode cX12_lost 27 = .ok (.aload_n 0, 1) := by decide +kernel
theorem dX12_lost_28 : decode cX12_lost 28 = .ok (.iload_n 2, 1) := by decide +kernel
theorem dX12_lost_29 : decode cX12_lost 29 = .ok (.iconst 0, 1) := by decide +kernel
theorem dX12_lost_30 : decode cX12_lost 30 = .ok (.iconst 1, 1) := by decide +kernel
theorem dX12_lost_31 : decode cX12_lost 31 = .ok (.invokestatic 223, 3) := by decide +kernel
theorem dX12_lost_34 : decode cX12_lost 34 = .ok (.ifCond .ne 7, 3) := by decide +kernel
theorem dX12_lost_37 : decode cX12_lost 37 = .ok (.iconst 1, 1) := by decide +kernel
theorem dX12_lost_38 : decode cX12_lost 38 = .ok (.goto 4, 3) := by decide +kernel
theorem dX12_lost_41 : decode cX12_lost 41 = .ok (.iconst 0, 1) := by decide +kernel
theorem dX12_lost_42 : decode cX12_lost 42 = .ok (.iconst 2, 1) := by decide +kernel
theorem dX12_lost_43 : decode cX12_lost 43 = .ok (.iconst 1, 1) := by decide +kernel
theorem dX12_lost_44 : decode cX12_lost 44 = .ok (.invokevirtual 249, 3) := by decide +kernel
theorem dX12_lost_47 : decode cX12_lost 47 = .ok (.ifCond .eq 5, 3) := by decide +kernel
theorem dX12_lost_50 : decode cX12_lost 50 = .ok (.iconst 0, 1) := by decide +kernel
theorem dX12_lost_51 : decode cX12_lost 51 = .ok (.ireturn, 1) := by decide +kernel
theorem dX12_lost_52 : decode cX12_lost 52 = .ok (.aload_n 0, 1) := by decide +kernel
theorem dX12_lost_53 : decode cX12_lost 53 = .ok (.invokevirtual 447, 3) := by decide +kernel
theorem dX12_lost_56 : decode cX12_lost 56 = .ok (.aload_n 0, 1) := by decide +kernel
theorem dX12_lost_57 : decode cX12_lost 57 = .ok (.iload_n 2, 1) := by decide +kernel
theorem dX12_lost_58 : decode cX12_lost 58 = .ok (.ifCond .ne 7, 3) := by decide +kernel
theorem dX12_lost_61 : decode cX12_lost 61 = .ok (.iload_n 1, 1) := by decide +kernel
theorem dX12_lost_62 : decode cX12_lost 62 = .ok (.goto 6, 3) := by decide +kernel
theorem dX12_lost_65 : decode cX12_lost 65 = .ok (.iload_n 1, 1) := by decide +kernel
theorem dX12_lost_66 : decode cX12_lost 66 = .ok (.iconst 1, 1) := by decide +kernel
theorem dX12_lost_67 : decode cX12_lost 67 = .ok (.isub, 1) := by decide +kernel
theorem dX12_lost_68 : decode cX12_lost 68 = .ok (.invokevirtual 450, 3) := by decide +kernel
theorem dX12_lost_71 : decode cX12_lost 71 = .ok (.ireturn, 1) := by decide +kernel
theorem dX12_apartOf_0 : decode cX12_apartOf 0 = .ok (.aload_n 0, 1) := by decide +kernel
theorem dX12_apartOf_1 : decode cX12_apartOf 1 = .ok (.iload_n 1, 1) := by decide +kernel
theorem dX12_apartOf_2 : decode cX12_apartOf 2 = .ok (.invokevirtual 453, 3) := by decide +kernel
theorem dX12_apartOf_5 : decode cX12_apartOf 5 = .ok (.aload_n 0, 1) := by decide +kernel
theorem dX12_apartOf_6 : decode cX12_apartOf 6 = .ok (.iload_n 2, 1) := by decide +kernel
theorem dX12_apartOf_7 : decode cX12_apartOf 7 = .ok (.invokevirtual 390, 3) := by decide +kernel
theorem dX12_apartOf_10 : decode cX12_apartOf 10 = .ok (.istore_n 3, 1) := by decide +kernel
theorem dX12_apartOf_11 : decode cX12_apartOf 11 = .ok (.iload_n 3, 1) := by decide +kernel
theorem dX12_apartOf_12 : decode cX12_apartOf 12 = .ok (.ldc_w 326, 3) := by decide +kernel
theorem dX12_apartOf_15 : decode cX12_apartOf 15 = .ok (.if_icmp .lt 7, 3) := by decide +kernel
theorem dX12_apartOf_18 : decode cX12_apartOf 18 = .ok (.iconst (-1), 1) := by decide +kernel
theorem dX12_apartOf_19 : decode cX12_apartOf 19 = .ok (.goto 4, 3) := by decide +kernel
theorem dX12_apartOf_22 : decode cX12_apartOf 22 = .ok (.iload_n 3, 1) := by decide +kernel
theorem dX12_apartOf_23 : decode cX12_apartOf 23 = .ok (.ireturn, 1) := by decide +kernel
theorem dX12_apart_0 : decode cX12_apart 0 = .ok (.aload_n 0, 1) := by decide +kernel
theorem dX12_apart_1 : decode cX12_apart 1 = .ok (.iconst 0, 1) := by decide +kernel
theorem dX12_apart_2 : decode cX12_apart 2 = .ok (.putfield 180, 3) := by decide +kernel
theorem dX12_apart_5 : decode cX12_apart 5 = .ok (.aload_n 0, 1) := by decide +kernel
theorem dX12_apart_6 : decode cX12_apart 6 = .ok (.aload_n 0, 1) := by decide +kernel
theorem dX12_apart_7 : decode cX12_apart 7 = .ok (.iload_n 1, 1) := by decide +kernel
theorem dX12_apart_8 : decode cX12_apart 8 = .ok (.invokevirtual 282, 3) := by decide +kernel
theorem dX12_apart_11 : decode cX12_apart 11 = .ok (.ifCond .eq 11, 3) := by decide +kernel
theorem dX12_apart_14 : decode cX12_apart 14 = .ok (.aload_n 0, 1) := by decide +kernel
theorem dX12_apart_15 : decode cX12_apart 15 = .ok (.iload_n 2, 1) := by decide +kernel
theorem dX12_apart_16 : decode cX12_apart 16 = .ok (.invokevirtual 282, 3) := by decide +kernel
theorem dX12_apart_19 : decode cX12_apart 19 = .ok (.ifCond .ne 7, 3) := by decide +kernel
theorem dX12_apart_22 : decode cX12_apart 22 = .ok (.iconst 1, 1) := by decide +kernel
theorem dX12_apart_23 : decode cX12_apart 23 = .ok (.goto 4, 3) := by decide +kernel
theorem dX12_apart_26 : decode cX12_apart 26 = .ok (.iconst 0, 1) := by decide +kernel
theorem dX12_apart_27 : decode cX12_apart 27 = .ok (.iconst 1, 1) := by decide +kernel
theorem dX12_apart_28 : decode cX12_apart 28 = .ok (.iconst 0, 1) := by decide +kernel
theorem dX12_apart_29 : decode cX12_apart 29 = .ok (.invokevirtual 249, 3) := by decide +kernel
theorem dX12_apart_32 : decode cX12_apart 32 = .ok (.ifCond .eq 5, 3) := by decide +kernel
theorem dX12_apart_35 : decode cX12_apart 35 = .ok (.iconst 0, 1) := by decide +kernel
theorem dX12_apart_36 : decode cX12_apart 36 = .ok (.ireturn, 1) := by decide +kernel
theorem dX12_apart_37 : decode cX12_apart 37 = .ok (.aload_n 0, 1) := by decide +kernel
theorem dX12_apart_38 : decode cX12_apart 38 = .ok (.iload_n 1, 1) := by decide +kernel
theorem dX12_apart_39 : decode cX12_apart 39 = .ok (.iload_n 2, 1) := by decide +kernel
theorem dX12_apart_40 : decode cX12_apart 40 = .ok (.invokevirtual 456, 3) := by decide +kernel
theorem dX12_apart_43 : decode cX12_apart 43 = .ok (.ireturn, 1) := by decide +kernel
theorem dX12_twin_0 : decode cX12_twin 0 = .ok (.aload_n 0, 1) := by decide +kernel
theorem dX12_twin_1 : decode cX12_twin 1 = .ok (.iconst 0, 1) := by decide +kernel
theorem dX12_twin_2 : decode cX12_twin 2 = .ok (.putfield 180, 3) := by decide +kernel
theorem dX12_twin_5 : decode cX12_twin 5 = .ok (.aload_n 0, 1) := by decide +kernel
theorem dX12_twin_6 : decode cX12_twin 6 = .ok (.aload_n 0, 1) := by decide +kernel
theorem dX12_twin_7 : decode cX12_twin 7 = .ok (.iload_n 1, 1) := by decide +kernel
theorem dX12_twin_8 : decode cX12_twin 8 = .ok (.invokevirtual 282, 3) := by decide +kernel
theorem dX12_twin_11 : decode cX12_twin 11 = .ok (.ifCond .ne 7, 3) := by decide +kernel
theorem dX12_twin_14 : decode cX12_twin 14 = .ok (.iconst 1, 1) := by decide +kernel
theorem dX12_twin_15 : decode cX12_twin 15 = .ok (.goto 4, 3) := by decide +kernel
theorem dX12_twin_18 : decode cX12_twin 18 = .ok (.iconst 0, 1) := by decide +kernel
theorem dX12_twin_19 : decode cX12_twin 19 = .ok (.iconst 1, 1) := by decide +kernel
theorem dX12_twin_20 : decode cX12_twin 20 = .ok (.iconst 0, 1) := by decide +kernel
theorem dX12_twin_21 : decode cX12_twin 21 = .ok (.invokevirtual 249, 3) := by decide +kernel
theorem dX12_twin_24 : decode cX12_twin 24 = .ok (.ifCond .ne 26, 3) := by decide +kernel
theorem dX12_twin_27 : decode cX12_twin 27 = .ok (.aload_n 0, 1) := by decide +kernel
theorem dX12_twin_28 : decode cX12_twin 28 = .ok (.iload_n 2, 1) := by decide +kernel
theorem dX12_twin_29 : decode cX12_twin 29 = .ok (.iconst 0, 1) := by decide +kernel
theorem dX12_twin_30 : decode cX12_twin 30 = .ok (.iconst 1, 1) := by decide +kernel
theorem dX12_twin_31 : decode cX12_twin 31 = .ok (.invokestatic 223, 3) := by decide +kernel
theorem dX12_twin_34 : decode cX12_twin 34 = .ok (.ifCond .ne 7, 3) := by decide +kernel
theorem dX12_twin_37 : decode cX12_twin 37 = .ok (.iconst 1, 1) := by decide +kernel
theorem dX12_twin_38 : decode cX12_twin 38 = .ok (.goto 4, 3) := by decide +kernel
theorem dX12_twin_41 : decode cX12_twin 41 = .ok (.iconst 0, 1) := by decide +kernel
theorem dX12_twin_42 : decode cX12_twin 42 = .ok (.iconst 2, 1) := by decide +kernel
theorem dX12_twin_43 : decode cX12_twin 43 = .ok (.iconst 1, 1) := by decide +kernel
theorem dX12_twin_44 : decode cX12_twin 44 = .ok (.invokevirtual 249, 3) := by decide +kernel
theorem dX12_twin_47 : decode cX12_twin 47 = .ok (.ifCond .eq 5, 3) := by decide +kernel
theorem dX12_twin_50 : decode cX12_twin 50 = .ok (.iconst 0, 1) := by decide +kernel
theorem dX12_twin_51 : decode cX12_twin 51 = .ok (.ireturn, 1) := by decide +kernel
theorem dX12_twin_52 : decode cX12_twin 52 = .ok (.iconst (-1), 1) := by decide +kernel
theorem dX12_twin_53 : decode cX12_twin 53 = .ok (.istore_n 3, 1) := by decide +kernel
theorem dX12_twin_54 : decode cX12_twin 54 = .ok (.iconst (-1), 1) := by decide +kernel
theorem dX12_twin_55 : decode cX12_twin 55 = .ok (.istore 4, 2) := by decide +kernel
theorem dX12_twin_57 : decode cX12_twin 57 = .ok (.iconst 0, 1) := by decide +kernel
theorem dX12_twin_58 : decode cX12_twin 58 = .ok (.istore 5, 2) := by decide +kernel
theorem dX12_twin_60 : decode cX12_twin 60 = .ok (.iload 5, 2) := by decide +kernel
theorem dX12_twin_62 : decode cX12_twin 62 = .ok (.aload_n 0, 1) := by decide +kernel
theorem dX12_twin_63 : decode cX12_twin 63 = .ok (.getfield 257, 3) := by decide +kernel
theorem dX12_twin_66 : decode cX12_twin 66 = .ok (.if_icmp .ge 57, 3) := by decide +kernel
theorem dX12_twin_69 : decode cX12_twin 69 = .ok (.iload 5, 2) := by decide +kernel
theorem dX12_twin_71 : decode cX12_twin 71 = .ok (.iload_n 1, 1) := by decide +kernel
theorem dX12_twin_72 : decode cX12_twin 72 = .ok (.if_icmp .ne 7, 3) := by decide +kernel
theorem dX12_twin_75 : decode cX12_twin 75 = .ok (.iconst (-1), 1) := by decide +kernel
theorem dX12_twin_76 : decode cX12_twin 76 = .ok (.goto 10, 3) := by decide +kernel
theorem dX12_twin_79 : decode cX12_twin 79 = .ok (.aload_n 0, 1) := by decide +kernel
theorem dX12_twin_80 : decode cX12_twin 80 = .ok (.iload_n 1, 1) := by decide +kernel
theorem dX12_twin_81 : decode cX12_twin 81 = .ok (.iload 5, 2) := by decide +kernel
theorem dX12_twin_83 : decode cX12_twin 83 = .ok (.invokevirtual 456, 3) := by decide +kernel
theorem dX12_twin_86 : decode cX12_twin 86 = .ok (.istore 6, 2) := by decide +kernel
theorem dX12_twin_88 : decode cX12_twin 88 = .ok (.iload 6, 2) := by decide +kernel
theorem dX12_twin_90 : decode cX12_twin 90 = .ok (.iconst (-1), 1) := by decide +kernel
theorem dX12_twin_91 : decode cX12_twin 91 = .ok (.if_icmp .eq 26, 3) := by decide +kernel
theorem dX12_twin_94 : decode cX12_twin 94 = .ok (.iload 4, 2) := by decide +kernel
theorem dX12_twin_96 : decode cX12_twin 96 = .ok (.iconst (-1), 1) := by decide +kernel
theorem dX12_twin_97 : decode cX12_twin 97 = .ok (.if_icmp .eq 13, 3) := by decide +kernel
theorem dX12_twin_100 : decode cX12_twin 100 = .ok (.iload 6, 2) := by decide +kernel
theorem dX12_twin_102 : decode cX12_twin 102 = .ok (.iload 4, 2) := by decide +kernel
theorem dX12_twin_104 : decode cX12_twin 104 = .ok (.if_icmp .lt 6, 3) := by decide +kernel
theorem dX12_twin_107 : decode cX12_twin 107 = .ok (.goto 10, 3) := by decide +kernel
theorem dX12_twin_110 : decode cX12_twin 110 = .ok (.iload 5, 2) := by decide +kernel
theorem dX12_twin_112 : decode cX12_twin 112 = .ok (.istore_n 3, 1) := by decide +kernel
theorem dX12_twin_113 : decode cX12_twin 113 = .ok (.iload 6, 2) := by decide +kernel
theorem dX12_twin_115 : decode cX12_twin 115 = .ok (.istore 4, 2) := by decide +kernel
theorem dX12_twin_117 : decode cX12_twin 117 = .ok (.iinc 5 1, 3) := by decide +kernel
theorem dX12_twin_120 : decode cX12_twin 120 = .ok (.goto (-60), 3) := by decide +kernel
theorem dX12_twin_123 : decode cX12_twin 123 = .ok (.iload_n 2, 1) := by decide +kernel
theorem dX12_twin_124 : decode cX12_twin 124 = .ok (.ifCond .ne 7, 3) := by decide +kernel
theorem dX12_twin_127 : decode cX12_twin 127 = .ok (.iload_n 3, 1) := by decide +kernel
theorem dX12_twin_128 : decode cX12_twin 128 = .ok (.goto 5, 3) := by decide +kernel
theorem dX12_twin_131 : decode cX12_twin 131 = .ok (.iload 4, 2) := by decide +kernel
theorem dX12_twin_133 : decode cX12_twin 133 = .ok (.ireturn, 1) := by decide +kernel
theorem dX12_twins_0 : decode cX12_twins 0 = .ok (.aload_n 0, 1) := by decide +kernel
theorem dX12_twins_1 : decode cX12_twins 1 = .ok (.iconst 0, 1) := by decide +kernel
theorem dX12_twins_2 : decode cX12_twins 2 = .ok (.putfield 180, 3) := by decide +kernel
theorem dX12_twins_5 : decode cX12_twins 5 = .ok (.aload_n 0, 1) := by decide +kernel
theorem dX12_twins_6 : decode cX12_twins 6 = .ok (.iload_n 1, 1) := by decide +kernel
theorem dX12_twins_7 : decode cX12_twins 7 = .ok (.iconst 0, 1) := by decide +kernel
theorem dX12_twins_8 : decode cX12_twins 8 = .ok (.sipush 999, 3) := by decide +kernel
theorem dX12_twins_11 : decode cX12_twins 11 = .ok (.invokestatic 223, 3) := by decide +kernel
theorem dX12_twins_14 : decode cX12_twins 14 = .ok (.ifCond .ne 7, 3) := by decide +kernel
theorem dX12_twins_17 : decode cX12_twins 17 = .ok (.iconst 1, 1) := by decide +kernel
theorem dX12_twins_18 : decode cX12_twins 18 = .ok (.goto 4, 3) := by decide +kernel
theorem dX12_twins_21 : decode cX12_twins 21 = .ok (.iconst 0, 1) := by decide +kernel
theorem dX12_twins_22 : decode cX12_twins 22 = .ok (.iconst 1, 1) := by decide +kernel
theorem dX12_twins_23 : decode cX12_twins 23 = .ok (.iconst 1, 1) := by decide +kernel
theorem dX12_twins_24 : decode cX12_twins 24 = .ok (.invokevirtual 249, 3) := by decide +kernel
theorem dX12_twins_27 : decode cX12_twins 27 = .ok (.ifCond .eq 5, 3) := by decide +kernel
theorem dX12_twins_30 : decode cX12_twins 30 = .ok (.iconst 0, 1) := by decide +kernel
theorem dX12_twins_31 : decode cX12_twins 31 = .ok (.ireturn, 1) := by decide +kernel
theorem dX12_twins_32 : decode cX12_twins 32 = .ok (.iconst 0, 1) := by decide +kernel
theorem dX12_twins_33 : decode cX12_twins 33 = .ok (.istore_n 2, 1) := by decide +kernel
theorem dX12_twins_34 : decode cX12_twins 34 = .ok (.iconst 0, 1) := by decide +kernel
theorem dX12_twins_35 : decode cX12_twins 35 = .ok (.istore_n 3, 1) := by decide +kernel
theorem dX12_twins_36 : decode cX12_twins 36 = .ok (.iload_n 3, 1) := by decide +kernel
theorem dX12_twins_37 : decode cX12_twins 37 = .ok (.aload_n 0, 1) := by decide +kernel
theorem dX12_twins_38 : decode cX12_twins 38 = .ok (.getfield 257, 3) := by decide +kernel
theorem dX12_twins_41 : decode cX12_twins 41 = .ok (.if_icmp .ge 56, 3) := by decide +kernel
theorem dX12_twins_44 : decode cX12_twins 44 = .ok (.iconst 0, 1) := by decide +kernel
theorem dX12_twins_45 : decode cX12_twins 45 = .ok (.istore 4, 2) := by decide +kernel
theorem dX12_twins_47 : decode cX12_twins 47 = .ok (.iload 4, 2) := by decide +kernel
theorem dX12_twins_49 : decode cX12_twins 49 = .ok (.aload_n 0, 1) := by decide +kernel
theorem dX12_twins_50 : decode cX12_twins 50 = .ok (.getfield 257, 3) := by decide +kernel
theorem dX12_twins_53 : decode cX12_twins 53 = .ok (.if_icmp .ge 38, 3) := by decide +kernel
theorem dX12_twins_56 : decode cX12_twins 56 = .ok (.iload_n 2, 1) := by decide +kernel
theorem dX12_twins_57 : decode cX12_twins 57 = .ok (.iload_n 3, 1) := by decide +kernel
theorem dX12_twins_58 : decode cX12_twins 58 = .ok (.iload 4, 2) := by decide +kernel
theorem dX12_twins_60 : decode cX12_twins 60 = .ok (.if_icmp .eq 22, 3) := by decide +kernel
theorem dX12_twins_63 : decode cX12_twins 63 = .ok (.aload_n 0, 1) := by decide +kernel
theorem dX12_twins_64 : decode cX12_twins 64 = .ok (.iload_n 3, 1) := by decide +kernel
theorem dX12_twins_65 : decode cX12_twins 65 = .ok (.iload 4, 2) := by decide +kernel
theorem dX12_twins_67 : decode cX12_twins 67 = .ok (.invokevirtual 456, 3) := by decide +kernel
theorem dX12_twins_70 : decode cX12_twins 70 = .ok (.iconst 0, 1) := by decide +kernel
theorem dX12_twins_71 : decode cX12_twins 71 = .ok (.iload_n 1, 1) := by decide +kernel
theorem dX12_twins_72 : decode cX12_twins 72 = .ok (.invokestatic 223, 3) := by decide +kernel
theorem dX12_twins_75 : decode cX12_twins 75 = .ok (.ifCond .eq 7, 3) := by decide +kernel
theorem dX12_twins_78 : decode cX12_twins 78 = .ok (.iconst 1, 1) := by decide +kernel
theorem dX12_twins_79 : decode cX12_twins 79 = .ok (.goto 4, 3) := by decide +kernel
theorem dX12_twins_82 : decode cX12_twins 82 = .ok (.iconst 0, 1) := by decide +kernel
theorem dX12_twins_83 : decode cX12_twins 83 = .ok (.iadd, 1) := by decide +kernel
theorem dX12_twins_84 : decode cX12_twins 84 = .ok (.istore_n 2, 1) := by decide +kernel
theorem dX12_twins_85 : decode cX12_twins 85 = .ok (.iinc 4 1, 3) := by decide +kernel
theorem dX12_twins_88 : decode cX12_twins 88 = .ok (.goto (-41), 3) := by decide +kernel
theorem dX12_twins_91 : decode cX12_twins 91 = .ok (.iinc 3 1, 3) := by decide +kernel
theorem dX12_twins_94 : decode cX12_twins 94 = .ok (.goto (-58), 3) := by decide +kernel
theorem dX12_twins_97 : decode cX12_twins 97 = .ok (.iload_n 2, 1) := by decide +kernel
theorem dX12_twins_98 : decode cX12_twins 98 = .ok (.ireturn, 1) := by decide +kernel
theorem dX12_status_0 : decode cX12_status 0 = .ok (.aload_n 0, 1) := by decide +kernel
theorem dX12_status_1 : decode cX12_status 1 = .ok (.iconst 0, 1) := by decide +kernel
theorem dX12_status_2 : decode cX12_status 2 = .ok (.putfield 180, 3) := by decide +kernel
theorem dX12_status_5 : decode cX12_status 5 = .ok (.iload_n 1, 1) := by decide +kernel
theorem dX12_status_6 : decode cX12_status 6 = .ok (.iconst 0, 1) := by decide +kernel
theorem dX12_status_7 : decode cX12_status 7 = .ok (.iconst 1, 1) := by decide +kernel
theorem dX12_status_8 : decode cX12_status 8 = .ok (.invokestatic 223, 3) := by decide +kernel
theorem dX12_status_11 : decode cX12_status 11 = .ok (.ifCond .eq 12, 3) := by decide +kernel
theorem dX12_status_14 : decode cX12_status 14 = .ok (.aload_n 0, 1) := by decide +kernel
theorem dX12_status_15 : decode cX12_status 15 = .ok (.getfield 7, 3) := by decide +kernel
theorem dX12_status_18 : decode cX12_status 18 = .ok (.iload_n 1, 1) := by decide +kernel
theorem dX12_status_19 : decode cX12_status 19 = .ok (.iaload, 1) := by decide +kernel
theorem dX12_status_20 : decode cX12_status 20 = .ok (.goto 4, 3) := by decide +kernel
theorem dX12_status_23 : decode cX12_status 23 = .ok (.iconst (-1), 1) := by decide +kernel
theorem dX12_status_24 : decode cX12_status 24 = .ok (.ireturn, 1) := by decide +kernel
