theorem d_X12_init_0 : decode cX12_init 0 = .ok (.aload_n 0, 1) := by decide +kernel
theorem d_X12_init_1 : decode cX12_init 1 = .ok (.invokespecial 1, 3) := by decide +kernel
theorem d_X12_init_4 : decode cX12_init 4 = .ok (.aload_n 0, 1) := by decide +kernel
theorem d_X12_init_5 : decode cX12_init 5 = .ok (.bipush 41, 2) := by decide +kernel
theorem d_X12_init_7 : decode cX12_init 7 = .ok (.newarray .long, 2) := by decide +kernel
theorem d_X12_init_9 : decode cX12_init 9 = .ok (.putfield 7, 3) := by decide +kernel
theorem d_X12_init_12 : decode cX12_init 12 = .ok (.aload_n 0, 1) := by decide +kernel
theorem d_X12_init_13 : decode cX12_init 13 = .ok (.bipush 25, 2) := by decide +kernel
theorem d_X12_init_15 : decode cX12_init 15 = .ok (.newarray .int, 2) := by decide +kernel
theorem d_X12_init_17 : decode cX12_init 17 = .ok (.putfield 13, 3) := by decide +kernel
theorem d_X12_init_20 : decode cX12_init 20 = .ok (.aload_n 0, 1) := by decide +kernel
theorem d_X12_init_21 : decode cX12_init 21 = .ok (.sipush 258, 3) := by decide +kernel
theorem d_X12_init_24 : decode cX12_init 24 = .ok (.newarray .long, 2) := by decide +kernel
theorem d_X12_init_26 : decode cX12_init 26 = .ok (.putfield 17, 3) := by decide +kernel
theorem d_X12_init_29 : decode cX12_init 29 = .ok (.aload_n 0, 1) := by decide +kernel
theorem d_X12_init_30 : decode cX12_init 30 = .ok (.sipush 516, 3) := by decide +kernel
theorem d_X12_init_33 : decode cX12_init 33 = .ok (.newarray .long, 2) := by decide +kernel
theorem d_X12_init_35 : decode cX12_init 35 = .ok (.putfield 20, 3) := by decide +kernel
theorem d_X12_init_38 : decode cX12_init 38 = .ok (.aload_n 0, 1) := by decide +kernel
theorem d_X12_init_39 : decode cX12_init 39 = .ok (.sipush 400, 3) := by decide +kernel
theorem d_X12_init_42 : decode cX12_init 42 = .ok (.newarray .byte, 2) := by decide +kernel
theorem d_X12_init_44 : decode cX12_init 44 = .ok (.putfield 23, 3) := by decide +kernel
theorem d_X12_init_47 : decode cX12_init 47 = .ok (.aload_n 0, 1) := by decide +kernel
theorem d_X12_init_48 : decode cX12_init 48 = .ok (.bipush 109, 2) := by decide +kernel
theorem d_X12_init_50 : decode cX12_init 50 = .ok (.bipush 97, 2) := by decide +kernel
theorem d_X12_init_52 : decode cX12_init 52 = .ok (.bipush 114, 2) := by decide +kernel
theorem d_X12_init_54 : decode cX12_init 54 = .ok (.bipush 107, 2) := by decide +kernel
theorem d_X12_init_56 : decode cX12_init 56 = .ok (.bipush 101, 2) := by decide +kernel
theorem d_X12_init_58 : decode cX12_init 58 = .ok (.bipush 116, 2) := by decide +kernel
theorem d_X12_init_60 : decode cX12_init 60 = .ok (.invokestatic 27, 3) := by decide +kernel
theorem d_X12_init_63 : decode cX12_init 63 = .ok (.putfield 31, 3) := by decide +kernel
theorem d_X12_init_66 : decode cX12_init 66 = .ok (.aload_n 0, 1) := by decide +kernel
theorem d_X12_init_67 : decode cX12_init 67 = .ok (.bipush 112, 2) := by decide +kernel
theorem d_X12_init_69 : decode cX12_init 69 = .ok (.bipush 111, 2) := by decide +kernel
theorem d_X12_init_71 : decode cX12_init 71 = .ok (.bipush 111, 2) := by decide +kernel
theorem d_X12_init_73 : decode cX12_init 73 = .ok (.bipush 108, 2) := by decide +kernel
theorem d_X12_init_75 : decode cX12_init 75 = .ok (.iconst 0, 1) := by decide +kernel
theorem d_X12_init_76 : decode cX12_init 76 = .ok (.iconst 0, 1) := by decide +kernel
theorem d_X12_init_77 : decode cX12_init 77 = .ok (.invokestatic 27, 3) := by decide +kernel
theorem d_X12_init_80 : decode cX12_init 80 = .ok (.putfield 35, 3) := by decide +kernel
theorem d_X12_init_83 : decode cX12_init 83 = .ok (.aload_n 0, 1) := by decide +kernel
theorem d_X12_init_84 : decode cX12_init 84 = .ok (.bipush 112, 2) := by decide +kernel
theorem d_X12_init_86 : decode cX12_init 86 = .ok (.bipush 117, 2) := by decide +kernel
theorem d_X12_init_88 : decode cX12_init 88 = .ok (.bipush 114, 2) := by decide +kernel
theorem d_X12_init_90 : decode cX12_init 90 = .ok (.bipush 115, 2) := by decide +kernel
theorem d_X12_init_92 : decode cX12_init 92 = .ok (.bipush 101, 2) := by decide +kernel
theorem d_X12_init_94 : decode cX12_init 94 = .ok (.iconst 0, 1) := by decide +kernel
theorem d_X12_init_95 : decode cX12_init 95 = .ok (.invokestatic 27, 3) := by decide +kernel
theorem d_X12_init_98 : decode cX12_init 98 = .ok (.putfield 38, 3) := by decide +kernel
theorem d_X12_init_101 : decode cX12_init 101 = .ok (.aload_n 0, 1) := by decide +kernel
theorem d_X12_init_102 : decode cX12_init 102 = .ok (.bipush 105, 2) := by decide +kernel
theorem d_X12_init_104 : decode cX12_init 104 = .ok (.bipush 110, 2) := by decide +kernel
theorem d_X12_init_106 : decode cX12_init 106 = .ok (.iconst 0, 1) := by decide +kernel
theorem d_X12_init_107 : decode cX12_init 107 = .ok (.iconst 0, 1) := by decide +kernel
theorem d_X12_init_108 : decode cX12_init 108 = .ok (.iconst 0, 1) := by decide +kernel
theorem d_X12_init_109 : decode cX12_init 109 = .ok (.iconst 0, 1) := by decide +kernel
theorem d_X12_init_110 : decode cX12_init 110 = .ok (.invokestatic 27, 3) := by decide +kernel
theorem d_X12_init_113 : decode cX12_init 113 = .ok (.putfield 41, 3) := by decide +kernel
theorem d_X12_init_116 : decode cX12_init 116 = .ok (.aload_n 0, 1) := by decide +kernel
theorem d_X12_init_117 : decode cX12_init 117 = .ok (.bipush 111, 2) := by decide +kernel
theorem d_X12_init_119 : decode cX12_init 119 = .ok (.bipush 117, 2) := by decide +kernel
theorem d_X12_init_121 : decode cX12_init 121 = .ok (.bipush 116, 2) := by decide +kernel
theorem d_X12_init_123 : decode cX12_init 123 = .ok (.iconst 0, 1) := by decide +kernel
theorem d_X12_init_124 : decode cX12_init 124 = .ok (.iconst 0, 1) := by decide +kernel
theorem d_X12_init_125 : decode cX12_init 125 = .ok (.iconst 0, 1) := by decide +kernel
theorem d_X12_init_126 : decode cX12_init 126 = .ok (.invokestatic 27, 3) := by decide +kernel
theorem d_X12_init_129 : decode cX12_init 129 = .ok (.putfield 44, 3) := by decide +kernel
theorem d_X12_init_132 : decode cX12_init 132 = .ok (.aload_n 0, 1) := by decide +kernel
theorem d_X12_init_133 : decode cX12_init 133 = .ok (.bipush 97, 2) := by decide +kernel
theorem d_X12_init_135 : decode cX12_init 135 = .ok (.bipush 100, 2) := by decide +kernel
theorem d_X12_init_137 : decode cX12_init 137 = .ok (.bipush 100, 2) := by decide +kernel
theorem d_X12_init_139 : decode cX12_init 139 = .ok (.iconst 0, 1) := by decide +kernel
theorem d_X12_init_140 : decode cX12_init 140 = .ok (.iconst 0, 1) := by decide +kernel
theorem d_X12_init_141 : decode cX12_init 141 = .ok (.iconst 0, 1) := by decide +kernel
theorem d_X12_init_142 : decode cX12_init 142 = .ok (.invokestatic 27, 3) := by decide +kernel
theorem d_X12_init_145 : decode cX12_init 145 = .ok (.putfield 47, 3) := by decide +kernel
theorem d_X12_init_148 : decode cX12_init 148 = .ok (.aload_n 0, 1) := by decide +kernel
theorem d_X12_init_149 : decode cX12_init 149 = .ok (.bipush 100, 2) := by decide +kernel
theorem d_X12_init_151 : decode cX12_init 151 = .ok (.bipush 114, 2) := by decide +kernel
theorem d_X12_init_153 : decode cX12_init 153 = .ok (.bipush 111, 2) := by decide +kernel
theorem d_X12_init_155 : decode cX12_init 155 = .ok (.bipush 112, 2) := by decide +kernel
theorem d_X12_init_157 : decode cX12_init 157 = .ok (.iconst 0, 1) := by decide +kernel
theorem d_X12_init_158 : decode cX12_init 158 = .ok (.iconst 0, 1) := by decide +kernel
theorem d_X12_init_159 : decode cX12_init 159 = .ok (.invokestatic 27, 3) := by decide +kernel
theorem d_X12_init_162 : decode cX12_init 162 = .ok (.putfield 50, 3) := by decide +kernel
theorem d_X12_init_165 : decode cX12_init 165 = .ok (.aload_n 0, 1) := by decide +kernel
theorem d_X12_init_166 : decode cX12_init 166 = .ok (.bipush 108, 2) := by decide +kernel
theorem d_X12_init_168 : decode cX12_init 168 = .ok (.bipush 101, 2) := by decide +kernel
theorem d_X12_init_170 : decode cX12_init 170 = .ok (.bipush 97, 2) := by decide +kernel
theorem d_X12_init_172 : decode cX12_init 172 = .ok (.bipush 115, 2) := by decide +kernel
theorem d_X12_init_174 : decode cX12_init 174 = .ok (.bipush 116, 2) := by decide +kernel
theorem d_X12_init_176 : decode cX12_init 176 = .ok (.iconst 0, 1) := by decide +kernel
theorem d_X12_init_177 : decode cX12_init 177 = .ok (.invokestatic 27, 3) := by decide +kernel
theorem d_X12_init_180 : decode cX12_init 180 = .ok (.putfield 53, 3) := by decide +kernel
theorem d_X12_init_183 : decode cX12_init 183 = .ok (.aload_n 0, 1) := by decide +kernel
theorem d_X12_init_184 : decode cX12_init 184 = .ok (.bipush 108, 2) := by decide +kernel
theorem d_X12_init_186 : decode cX12_init 186 = .ok (.bipush 101, 2) := by decide +kernel
theorem d_X12_init_188 : decode cX12_init 188 = .ok (.bipush 110, 2) := by decide +kernel
theorem d_X12_init_190 : decode cX12_init 190 = .ok (.bipush 100, 2) := by decide +kernel
theorem d_X12_init_192 : decode cX12_init 192 = .ok (.iconst 0, 1) := by decide +kernel
theorem d_X12_init_193 : decode cX12_init 193 = .ok (.iconst 0, 1) := by decide +kernel
theorem d_X12_init_194 : decode cX12_init 194 = .ok (.invokestatic 27, 3) := by decide +kernel
theorem d_X12_init_197 : decode cX12_init 197 = .ok (.putfield 56, 3) := by decide +kernel
theorem d_X12_init_200 : decode cX12_init 200 = .ok (.aload_n 0, 1) := by decide +kernel
theorem d_X12_init_201 : decode cX12_init 201 = .ok (.bipush 116, 2) := by decide +kernel
theorem d_X12_init_203 : decode cX12_init 203 = .ok (.bipush 105, 2) := by decide +kernel
theorem d_X12_init_205 : decode cX12_init 205 = .ok (.bipush 109, 2) := by decide +kernel
theorem d_X12_init_207 : decode cX12_init 207 = .ok (.bipush 101, 2) := by decide +kernel
theorem d_X12_init_209 : decode cX12_init 209 = .ok (.bipush 115, 2) := by decide +kernel
theorem d_X12_init_211 : decode cX12_init 211 = .ok (.iconst 0, 1) := by decide +kernel
theorem d_X12_init_212 : decode cX12_init 212 = .ok (.invokestatic 27, 3) := by decide +kernel
theorem d_X12_init_215 : decode cX12_init 215 = .ok (.putfield 59, 3) := by decide +kernel
theorem d_X12_init_218 : decode cX12_init 218 = .ok (.aload_n 0, 1) := by decide +kernel
theorem d_X12_init_219 : decode cX12_init 219 = .ok (.bipush 97, 2) := by decide +kernel
theorem d_X12_init_221 : decode cX12_init 221 = .ok (.bipush 108, 2) := by decide +kernel
theorem d_X12_init_223 : decode cX12_init 223 = .ok (.bipush 108, 2) := by decide +kernel
theorem d_X12_init_225 : decode cX12_init 225 = .ok (.iconst 0, 1) := by decide +kernel
theorem d_X12_init_226 : decode cX12_init 226 = .ok (.iconst 0, 1) := by decide +kernel
theorem d_X12_init_227 : decode cX12_init 227 = .ok (.iconst 0, 1) := by decide +kernel
theorem d_X12_init_228 : decode cX12_init 228 = .ok (.invokestatic 27, 3) := by decide +kernel
theorem d_X12_init_231 : decode cX12_init 231 = .ok (.putfield 62, 3) := by decide +kernel
theorem d_X12_init_234 : decode cX12_init 234 = .ok (.aload_n 0, 1) := by decide +kernel
theorem d_X12_init_235 : decode cX12_init 235 = .ok (.bipush 103, 2) := by decide +kernel
theorem d_X12_init_237 : decode cX12_init 237 = .ok (.bipush 111, 2) := by decide +kernel
theorem d_X12_init_239 : decode cX12_init 239 = .ok (.bipush 116, 2) := by decide +kernel
theorem d_X12_init_241 : decode cX12_init 241 = .ok (.iconst 0, 1) := by decide +kernel
theorem d_X12_init_242 : decode cX12_init 242 = .ok (.iconst 0, 1) := by decide +kernel
theorem d_X12_init_243 : decode cX12_init 243 = .ok (.iconst 0, 1) := by decide +kernel
theorem d_X12_init_244 : decode cX12_init 244 = .ok (.invokestatic 27, 3) := by decide +kernel
theorem d_X12_init_247 : decode cX12_init 247 = .ok (.putfield 65, 3) := by decide +kernel
theorem d_X12_init_250 : decode cX12_init 250 = .ok (.aload_n 0, 1) := by decide +kernel
theorem d_X12_init_251 : decode cX12_init 251 = .ok (.bipush 35, 2) := by decide +kernel
theorem d_X12_init_253 : decode cX12_init 253 = .ok (.newarray .int, 2) := by decide +kernel
theorem d_X12_init_255 : decode cX12_init 255 = .ok (.putfield 68, 3) := by decide +kernel
theorem d_X12_init_258 : decode cX12_init 258 = .ok (.aload_n 0, 1) := by decide +kernel
theorem d_X12_init_259 : decode cX12_init 259 = .ok (.bipush 20, 2) := by decide +kernel
theorem d_X12_init_261 : decode cX12_init 261 = .ok (.newarray .int, 2) := by decide +kernel
theorem d_X12_init_263 : decode cX12_init 263 = .ok (.putfield 71, 3) := by decide +kernel
theorem d_X12_init_266 : decode cX12_init 266 = .ok (.aload_n 0, 1) := by decide +kernel
theorem d_X12_init_267 : decode cX12_init 267 = .ok (.bipush 40, 2) := by decide +kernel
theorem d_X12_init_269 : decode cX12_init 269 = .ok (.newarray .int, 2) := by decide +kernel
theorem d_X12_init_271 : decode cX12_init 271 = .ok (.putfield 74, 3) := by decide +kernel
theorem d_X12_init_274 : decode cX12_init 274 = .ok (.aload_n 0, 1) := by decide +kernel
theorem d_X12_init_275 : decode cX12_init 275 = .ok (.bipush 40, 2) := by decide +kernel
theorem d_X12_init_277 : decode cX12_init 277 = .ok (.newarray .int, 2) := by decide +kernel
theorem d_X12_init_279 : decode cX12_init 279 = .ok (.putfield 77, 3) := by decide +kernel
theorem d_X12_init_282 : decode cX12_init 282 = .ok (.aload_n 0, 1) := by decide +kernel
theorem d_X12_init_283 : decode cX12_init 283 = .ok (.sipush 160, 3) := by decide +kernel
theorem d_X12_init_286 : decode cX12_init 286 = .ok (.newarray .int, 2) := by decide +kernel
theorem d_X12_init_288 : decode cX12_init 288 = .ok (.putfield 80, 3) := by decide +kernel
theorem d_X12_init_291 : decode cX12_init 291 = .ok (.aload_n 0, 1) := by decide +kernel
theorem d_X12_init_292 : decode cX12_init 292 = .ok (.bipush 40, 2) := by decide +kernel
theorem d_X12_init_294 : decode cX12_init 294 = .ok (.newarray .int, 2) := by decide +kernel
theorem d_X12_init_296 : decode cX12_init 296 = .ok (.putfield 83, 3) := by decide +kernel
theorem d_X12_init_299 : decode cX12_init 299 = .ok (.aload_n 0, 1) := by decide +kernel
theorem d_X12_init_300 : decode cX12_init 300 = .ok (.bipush 40, 2) := by decide +kernel
theorem d_X12_init_302 : decode cX12_init 302 = .ok (.newarray .int, 2) := by decide +kernel
theorem d_X12_init_304 : decode cX12_init 304 = .ok (.putfield 86, 3) := by decide +kernel
theorem d_X12_init_307 : decode cX12_init 307 = .ok (.aload_n 0, 1) := by decide +kernel
theorem d_X12_init_308 : decode cX12_init 308 = .ok (.bipush 7, 2) := by decide +kernel
theorem d_X12_init_310 : decode cX12_init 310 = .ok (.newarray .long, 2) := by decide +kernel
theorem d_X12_init_312 : decode cX12_init 312 = .ok (.dup, 1) := by decide +kernel
theorem d_X12_init_313 : decode cX12_init 313 = .ok (.iconst 0, 1) := by decide +kernel
theorem d_X12_init_314 : decode cX12_init 314 = .ok (.aload_n 0, 1) := by decide +kernel
theorem d_X12_init_315 : decode cX12_init 315 = .ok (.getfield 41, 3) := by decide +kernel
theorem d_X12_init_318 : decode cX12_init 318 = .ok (.lastore, 1) := by decide +kernel
theorem d_X12_init_319 : decode cX12_init 319 = .ok (.dup, 1) := by decide +kernel
theorem d_X12_init_320 : decode cX12_init 320 = .ok (.iconst 1, 1) := by decide +kernel
theorem d_X12_init_321 : decode cX12_init 321 = .ok (.aload_n 0, 1) := by decide +kernel
theorem d_X12_init_322 : decode cX12_init 322 = .ok (.getfield 44, 3) := by decide +kernel
theorem d_X12_init_325 : decode cX12_init 325 = .ok (.lastore, 1) := by decide +kernel
theorem d_X12_init_326 : decode cX12_init 326 = .ok (.dup, 1) := by decide +kernel
theorem d_X12_init_327 : decode cX12_init 327 = .ok (.iconst 2, 1) := by decide +kernel
theorem d_X12_init_328 : decode cX12_init 328 = .ok (.aload_n 0, 1) := by decide +kernel
theorem d_X12_init_329 : decode cX12_init 329 = .ok (.getfield 47, 3) := by decide +kernel
theorem d_X12_init_332 : decode cX12_init 332 = .ok (.lastore, 1) := by decide +kernel
theorem d_X12_init_333 : decode cX12_init 333 = .ok (.dup, 1) := by decide +kernel
theorem d_X12_init_334 : decode cX12_init 334 = .ok (.iconst 3, 1) := by decide +kernel
theorem d_X12_init_335 : decode cX12_init 335 = .ok (.aload_n 0, 1) := by decide +kernel
theorem d_X12_init_336 : decode cX12_init 336 = .ok (.getfield 50, 3) := by decide +kernel
theorem d_X12_init_339 : decode cX12_init 339 = .ok (.lastore, 1) := by decide +kernel
theorem d_X12_init_340 : decode cX12_init 340 = .ok (.dup, 1) := by decide +kernel
theorem d_X12_init_341 : decode cX12_init 341 = .ok (.iconst 4, 1) := by decide +kernel
theorem d_X12_init_342 : decode cX12_init 342 = .ok (.aload_n 0, 1) := by decide +kernel
theorem d_X12_init_343 : decode cX12_init 343 = .ok (.getfield 53, 3) := by decide +kernel
theorem d_X12_init_346 : decode cX12_init 346 = .ok (.lastore, 1) := by decide +kernel
theorem d_X12_init_347 : decode cX12_init 347 = .ok (.dup, 1) := by decide +kernel
theorem d_X12_init_348 : decode cX12_init 348 = .ok (.iconst 5, 1) := by decide +kernel
theorem d_X12_init_349 : decode cX12_init 349 = .ok (.aload_n 0, 1) := by decide +kernel
theorem d_X12_init_350 : decode cX12_init 350 = .ok (.getfield 56, 3) := by decide +kernel
theorem d_X12_init_353 : decode cX12_init 353 = .ok (.lastore, 1) := by decide +kernel
theorem d_X12_init_354 : decode cX12_init 354 = .ok (.dup, 1) := by decide +kernel
theorem d_X12_init_355 : decode cX12_init 355 = .ok (.bipush 6, 2) := by decide +kernel
theorem d_X12_init_357 : decode cX12_init 357 = .ok (.aload_n 0, 1) := by decide +kernel
theorem d_X12_init_358 : decode cX12_init 358 = .ok (.getfield 59, 3) := by decide +kernel
theorem d_X12_init_361 : decode cX12_init 361 = .ok (.lastore, 1) := by decide +kernel
theorem d_X12_init_362 : decode cX12_init 362 = .ok (.putfield 89, 3) := by decide +kernel
theorem d_X12_init_365 : decode cX12_init 365 = .ok (.aload_n 0, 1) := by decide +kernel
theorem d_X12_init_366 : decode cX12_init 366 = .ok (.iconst 4, 1) := by decide +kernel
theorem d_X12_init_367 : decode cX12_init 367 = .ok (.newarray .int, 2) := by decide +kernel
theorem d_X12_init_369 : decode cX12_init 369 = .ok (.putfield 92, 3) := by decide +kernel
theorem d_X12_init_372 : decode cX12_init 372 = .ok (.aload_n 0, 1) := by decide +kernel
theorem d_X12_init_373 : decode cX12_init 373 = .ok (.iconst 4, 1) := by decide +kernel
theorem d_X12_init_374 : decode cX12_init 374 = .ok (.newarray .int, 2) := by decide +kernel
theorem d_X12_init_376 : decode cX12_init 376 = .ok (.putfield 95, 3) := by decide +kernel
theorem d_X12_init_379 : decode cX12_init 379 = .ok (.aload_n 0, 1) := by decide +kernel
theorem d_X12_init_380 : decode cX12_init 380 = .ok (.iconst 4, 1) := by decide +kernel
theorem d_X12_init_381 : decode cX12_init 381 = .ok (.newarray .int, 2) := by decide +kernel
theorem d_X12_init_383 : decode cX12_init 383 = .ok (.putfield 98, 3) := by decide +kernel
theorem d_X12_init_386 : decode cX12_init 386 = .ok (.aload_n 0, 1) := by decide +kernel
theorem d_X12_init_387 : decode cX12_init 387 = .ok (.iconst 4, 1) := by decide +kernel
theorem d_X12_init_388 : decode cX12_init 388 = .ok (.newarray .long, 2) := by decide +kernel
theorem d_X12_init_390 : decode cX12_init 390 = .ok (.putfield 101, 3) := by decide +kernel
theorem d_X12_init_393 : decode cX12_init 393 = .ok (.ldc2_w 104, 3) := by decide +kernel
theorem d_X12_init_396 : decode cX12_init 396 = .ok (.lstore_n 1, 1) := by decide +kernel
theorem d_X12_init_397 : decode cX12_init 397 = .ok (.bipush 20, 2) := by decide +kernel
theorem d_X12_init_399 : decode cX12_init 399 = .ok (.istore_n 3, 1) := by decide +kernel
theorem d_X12_init_400 : decode cX12_init 400 = .ok (.iload_n 3, 1) := by decide +kernel
theorem d_X12_init_401 : decode cX12_init 401 = .ok (.bipush 40, 2) := by decide +kernel
theorem d_X12_init_403 : decode cX12_init 403 = .ok (.if_icmp .gt 29, 3) := by decide +kernel
theorem d_X12_init_406 : decode cX12_init 406 = .ok (.aload_n 0, 1) := by decide +kernel
theorem d_X12_init_407 : decode cX12_init 407 = .ok (.getfield 7, 3) := by decide +kernel
theorem d_X12_init_410 : decode cX12_init 410 = .ok (.iload_n 3, 1) := by decide +kernel
theorem d_X12_init_411 : decode cX12_init 411 = .ok (.lload_n 1, 1) := by decide +kernel
theorem d_X12_init_412 : decode cX12_init 412 = .ok (.invokestatic 106, 3) := by decide +kernel
theorem d_X12_init_415 : decode cX12_init 415 = .ok (.lastore, 1) := by decide +kernel
theorem d_X12_init_416 : decode cX12_init 416 = .ok (.lload_n 1, 1) := by decide +kernel
theorem d_X12_init_417 : decode cX12_init 417 = .ok (.ldc2_w 110, 3) := by decide +kernel
theorem d_X12_init_420 : decode cX12_init 420 = .ok (.lmul, 1) := by decide +kernel
theorem d_X12_init_421 : decode cX12_init 421 = .ok (.ldc2_w 112, 3) := by decide +kernel
theorem d_X12_init_424 : decode cX12_init 424 = .ok (.ldiv, 1) := by decide +kernel
theorem d_X12_init_425 : decode cX12_init 425 = .ok (.lstore_n 1, 1) := by decide +kernel
theorem d_X12_init_426 : decode cX12_init 426 = .ok (.iinc 3 1, 3) := by decide +kernel
theorem d_X12_init_429 : decode cX12_init 429 = .ok (.goto (-29), 3) := by decide +kernel
theorem d_X12_init_432 : decode cX12_init 432 = .ok (.ldc2_w 104, 3) := by decide +kernel
theorem d_X12_init_435 : decode cX12_init 435 = .ok (.lstore_n 1, 1) := by decide +kernel
theorem d_X12_init_436 : decode cX12_init 436 = .ok (.bipush 20, 2) := by decide +kernel
theorem d_X12_init_438 : decode cX12_init 438 = .ok (.istore_n 3, 1) := by decide +kernel
theorem d_X12_init_439 : decode cX12_init 439 = .ok (.iload_n 3, 1) := by decide +kernel
theorem d_X12_init_440 : decode cX12_init 440 = .ok (.ifCond .lt 29, 3) := by decide +kernel
theorem d_X12_init_443 : decode cX12_init 443 = .ok (.aload_n 0, 1) := by decide +kernel
theorem d_X12_init_444 : decode cX12_init 444 = .ok (.getfield 7, 3) := by decide +kernel
theorem d_X12_init_447 : decode cX12_init 447 = .ok (.iload_n 3, 1) := by decide +kernel
theorem d_X12_init_448 : decode cX12_init 448 = .ok (.lload_n 1, 1) := by decide +kernel
theorem d_X12_init_449 : decode cX12_init 449 = .ok (.invokestatic 106, 3) := by decide +kernel
theorem d_X12_init_452 : decode cX12_init 452 = .ok (.lastore, 1) := by decide +kernel
theorem d_X12_init_453 : decode cX12_init 453 = .ok (.lload_n 1, 1) := by decide +kernel
theorem d_X12_init_454 : decode cX12_init 454 = .ok (.ldc2_w 112, 3) := by decide +kernel
theorem d_X12_init_457 : decode cX12_init 457 = .ok (.lmul, 1) := by decide +kernel
theorem d_X12_init_458 : decode cX12_init 458 = .ok (.ldc2_w 110, 3) := by decide +kernel
theorem d_X12_init_461 : decode cX12_init 461 = .ok (.ldiv, 1) := by decide +kernel
theorem d_X12_init_462 : decode cX12_init 462 = .ok (.lstore_n 1, 1) := by decide +kernel
theorem d_X12_init_463 : decode cX12_init 463 = .ok (.iinc 3 (-1), 3) := by decide +kernel
theorem d_X12_init_466 : decode cX12_init 466 = .ok (.goto (-27), 3) := by decide +kernel
theorem d_X12_init_469 : decode cX12_init 469 = .ok (.return_, 1) := by decide +kernel
theorem ki_X12_init : CalI yX12_init cX12_init 4 0 := ⟨⟨tw_12, tw_1197, by decide +kernel, by decide +kernel, by decide +kernel⟩, tw_1196, rfl⟩
abbrev pw_X12_init (cy : Nat → ClassId) (h0 : Nat) (u : Nat → Nat) : va_W := [(h0, .inr (11, [.ref (u 1), .int 0, .int 0, .int 0, .ref (u 2), .ref (u 3), .ref (u 4), .ref (u 5), .int 0, .int 0, .int 0, .int 0, .long 187429700, .long 326280, .long 8930039, .long 257, .long 11522, .long 841, .long 92275, .long 6476969, .long 240223, .long 10815598, .long 1065, .long 5528, .int 0, .int 0, .int 0, .ref (u 6), .ref (u 7), .long 0, .long 0, .long 0, .long 0, .int 0, .int 0, .ref (u 8), .ref (u 9), .ref (u 10), .ref (u 11), .ref (u 12), .ref (u 13), .ref (u 14), .int 0, .int 0, .int 0, .long 0, .int 0, .ref (u 15), .ref (u 16), .ref (u 17), .int 0, .long 0, .int 0, .long 0, .int 0])), (u 1, .inl (cy 2, 41, .inr (.inl (vp_updL (vp_updL (vp_updL (vp_updL (vp_updL (vp_updL (vp_updL (vp_updL (vp_updL (vp_updL (vp_updL (vp_updL (vp_updL (vp_updL (vp_updL (vp_updL (vp_updL (vp_updL (vp_updL (vp_updL (vp_updL (vp_updL (vp_updL (vp_updL (vp_updL (vp_updL (vp_updL (vp_updL (vp_updL (vp_updL (vp_updL (vp_updL (vp_updL (vp_updL (vp_updL (vp_updL (vp_updL (vp_updL (vp_updL (vp_updL (vp_updL (vp_updL (fun _ => 0) 20 100000) 21 104880) 22 110000) 23 115368) 24 121000) 25 126905) 26 133100) 27 139596) 28 146410) 29 153556) 30 161051) 31 168911) 32 177156) 33 185802) 34 194871) 35 204383) 36 214358) 37 224821) 38 235794) 39 247303) 40 259374) 20 100000) 19 95346) 18 90909) 17 86678) 16 82644) 15 78798) 14 75131) 13 71635) 12 68301) 11 65122) 10 62092) 9 59202) 8 56447) 7 53820) 6 51315) 5 48927) 4 46650) 3 44479) 2 42409) 1 40436) 0 38554)))), (u 2, .inl (cy 1, 25, .inl (fun _ => 0))), (u 3, .inl (cy 2, 258, .inr (.inl (fun _ => 0)))), (u 4, .inl (cy 2, 516, .inr (.inl (fun _ => 0)))), (u 5, .inl (cy 0, 400, .inl (fun _ => 0))), (u 6, .inl (cy 1, 35, .inl (fun _ => 0))), (u 7, .inl (cy 1, 20, .inl (fun _ => 0))), (u 8, .inl (cy 1, 40, .inl (fun _ => 0))), (u 9, .inl (cy 1, 40, .inl (fun _ => 0))), (u 10, .inl (cy 1, 160, .inl (fun _ => 0))), (u 11, .inl (cy 1, 40, .inl (fun _ => 0))), (u 12, .inl (cy 1, 40, .inl (fun _ => 0))), (u 13, .inl (cy 2, 7, .inr (.inl (vp_updL (vp_updL (vp_updL (vp_updL (vp_updL (vp_updL (vp_updL (fun _ => 0) 0 257) 1 11522) 2 841) 3 92275) 4 6476969) 5 240223) 6 10815598)))), (u 14, .inl (cy 1, 4, .inl (fun _ => 0))), (u 15, .inl (cy 1, 4, .inl (fun _ => 0))), (u 16, .inl (cy 1, 4, .inl (fun _ => 0))), (u 17, .inl (cy 2, 4, .inr (.inl (fun _ => 0))))]
set_option maxRecDepth 100000 in
set_option maxHeartbeats 4000000 in
theorem n_X12_init {l : Launch} {D : va_G} {cy : Nat → ClassId} {h0 : Nat} : NM l D cy yX12_init cX12_init 4 none 1 29 29 1710 [.ref h0] [(h0, .inr (11, [.null, .int 0, .int 0, .int 0, .null, .null, .null, .null, .int 0, .int 0, .int 0, .int 0, .long 0, .long 0, .long 0, .long 0, .long 0, .long 0, .long 0, .long 0, .long 0, .long 0, .long 0, .long 0, .int 0, .int 0, .int 0, .null, .null, .long 0, .long 0, .long 0, .long 0, .int 0, .int 0, .null, .null, .null, .null, .null, .null, .null, .int 0, .int 0, .int 0, .long 0, .int 0, .null, .null, .null, .int 0, .long 0, .int 0, .long 0, .int 0]))] none (pw_X12_init cy h0) := by
  refine nmet_of "TickPoolsModel" rfl (by decide +kernel) [(0, .ref h0)] rfl (Nat.le_of_ble_eq_true rfl) (fun X sz hX C hr hi hA => ?_)
  refine n_aload_n (j := 0) C d_X12_init_0 rfl ?_
  refine n_obj C tw_1198 d_X12_init_1 (by decide) (Nat.le_of_ble_eq_true rfl) ?_
  refine n_aload_n (j := 0) C d_X12_init_4 rfl ?_
  refine n_bipush (v := 41) C d_X12_init_5 (by decide) ?_
  refine n_newa (atype := .long) (ty := .long) (N := 41) (a0 := (41, .inr (.inl (fun _ => 0)))) C 2 tw_189 rfl rfl (fun _ => rfl) (by decide) (by decide +kernel) (by decide) (Nat.le_of_ble_eq_true rfl) (Nat.le_of_ble_eq_true rfl) d_X12_init_7 (fun q0 => ?_)
  refine n_eq (ws' := [(h0, .inr (11, [.null, .int 0, .int 0, .int 0, .null, .null, .null, .null, .int 0, .int 0, .int 0, .int 0, .long 0, .long 0, .long 0, .long 0, .long 0, .long 0, .long 0, .long 0, .long 0, .long 0, .long 0, .long 0, .int 0, .int 0, .int 0, .null, .null, .long 0, .long 0, .long 0, .long 0, .int 0, .int 0, .null, .null, .null, .null, .null, .null, .null, .int 0, .int 0, .int 0, .long 0, .int 0, .null, .null, .null, .int 0, .long 0, .int 0, .long 0, .int 0])), (q0, .inl (cy 2, 41, .inr (.inl (fun _ => 0))))]) rfl ?_
  refine n_putF (ref := "") (Cn := RX12) (T := TX12) (ty := tyX12 0) C hi 0 0 inX12 tyX12_ok nmX12 rfl tw_1211 rfl rfl (by decide) (by decide +kernel) rfl rfl (Nat.le_of_ble_eq_true rfl) d_X12_init_9 ?_
  refine n_eq (ws' := [(h0, .inr (11, [.ref q0, .int 0, .int 0, .int 0, .null, .null, .null, .null, .int 0, .int 0, .int 0, .int 0, .long 0, .long 0, .long 0, .long 0, .long 0, .long 0, .long 0, .long 0, .long 0, .long 0, .long 0, .long 0, .int 0, .int 0, .int 0, .null, .null, .long 0, .long 0, .long 0, .long 0, .int 0, .int 0, .null, .null, .null, .null, .null, .null, .null, .int 0, .int 0, .int 0, .long 0, .int 0, .null, .null, .null, .int 0, .long 0, .int 0, .long 0, .int 0])), (q0, .inl (cy 2, 41, .inr (.inl (fun _ => 0))))]) rfl ?_
  refine n_aload_n (j := 0) C d_X12_init_12 rfl ?_
  refine n_bipush (v := 25) C d_X12_init_13 (by decide) ?_
  refine n_newa (atype := .int) (ty := .int) (N := 25) (a0 := (25, .inl (fun _ => 0))) C 1 tw_140 rfl rfl (fun _ => rfl) (by decide) (by decide +kernel) (by decide) (Nat.le_of_ble_eq_true rfl) (Nat.le_of_ble_eq_true rfl) d_X12_init_15 (fun q1 => ?_)
  refine n_eq (ws' := [(h0, .inr (11, [.ref q0, .int 0, .int 0, .int 0, .null, .null, .null, .null, .int 0, .int 0, .int 0, .int 0, .long 0, .long 0, .long 0, .long 0, .long 0, .long 0, .long 0, .long 0, .long 0, .long 0, .long 0, .long 0, .int 0, .int 0, .int 0, .null, .null, .long 0, .long 0, .long 0, .long 0, .int 0, .int 0, .null, .null, .null, .null, .null, .null, .null, .int 0, .int 0, .int 0, .long 0, .int 0, .null, .null, .null, .int 0, .long 0, .int 0, .long 0, .int 0])), (q0, .inl (cy 2, 41, .inr (.inl (fun _ => 0)))), (q1, .inl (cy 1, 25, .inl (fun _ => 0)))]) rfl ?_
  refine n_putF (ref := "") (Cn := RX12) (T := TX12) (ty := tyX12 4) C hi 0 4 inX12 tyX12_ok nmX12 rfl tw_1215 rfl rfl (by decide) (by decide +kernel) rfl rfl (Nat.le_of_ble_eq_true rfl) d_X12_init_17 ?_
  refine n_eq (ws' := [(h0, .inr (11, [.ref q0, .int 0, .int 0, .int 0, .ref q1, .null, .null, .null, .int 0, .int 0, .int 0, .int 0, .long 0, .long 0, .long 0, .long 0, .long 0, .long 0, .long 0, .long 0, .long 0, .long 0, .long 0, .long 0, .int 0, .int 0, .int 0, .null, .null, .long 0, .long 0, .long 0, .long 0, .int 0, .int 0, .null, .null, .null, .null, .null, .null, .null, .int 0, .int 0, .int 0, .long 0, .int 0, .null, .null, .null, .int 0, .long 0, .int 0, .long 0, .int 0])), (q0, .inl (cy 2, 41, .inr (.inl (fun _ => 0)))), (q1, .inl (cy 1, 25, .inl (fun _ => 0)))]) rfl ?_
  refine n_aload_n (j := 0) C d_X12_init_20 rfl ?_
  refine n_sipush (v := 258) C d_X12_init_21 (by decide) ?_
  refine n_newa (atype := .long) (ty := .long) (N := 258) (a0 := (258, .inr (.inl (fun _ => 0)))) C 2 tw_189 rfl rfl (fun _ => rfl) (by decide) (by decide +kernel) (by decide) (Nat.le_of_ble_eq_true rfl) (Nat.le_of_ble_eq_true rfl) d_X12_init_24 (fun q2 => ?_)
  refine n_eq (ws' := [(h0, .inr (11, [.ref q0, .int 0, .int 0, .int 0, .ref q1, .null, .null, .null, .int 0, .int 0, .int 0, .int 0, .long 0, .long 0, .long 0, .long 0, .long 0, .long 0, .long 0, .long 0, .long 0, .long 0, .long 0, .long 0, .int 0, .int 0, .int 0, .null, .null, .long 0, .long 0, .long 0, .long 0, .int 0, .int 0, .null, .null, .null, .null, .null, .null, .null, .int 0, .int 0, .int 0, .long 0, .int 0, .null, .null, .null, .int 0, .long 0, .int 0, .long 0, .int 0])), (q0, .inl (cy 2, 41, .inr (.inl (fun _ => 0)))), (q1, .inl (cy 1, 25, .inl (fun _ => 0))), (q2, .inl (cy 2, 258, .inr (.inl (fun _ => 0))))]) rfl ?_
  refine n_putF (ref := "") (Cn := RX12) (T := TX12) (ty := tyX12 5) C hi 0 5 inX12 tyX12_ok nmX12 rfl tw_1216 rfl rfl (by decide) (by decide +kernel) rfl rfl (Nat.le_of_ble_eq_true rfl) d_X12_init_26 ?_
  refine n_eq (ws' := [(h0, .inr (11, [.ref q0, .int 0, .int 0, .int 0, .ref q1, .ref q2, .null, .null, .int 0, .int 0, .int 0, .int 0, .long 0, .long 0, .long 0, .long 0, .long 0, .long 0, .long 0, .long 0, .long 0, .long 0, .long 0, .long 0, .int 0, .int 0, .int 0, .null, .null, .long 0, .long 0, .long 0, .long 0, .int 0, .int 0, .null, .null, .null, .null, .null, .null, .null, .int 0, .int 0, .int 0, .long 0, .int 0, .null, .null, .null, .int 0, .long 0, .int 0, .long 0, .int 0])), (q0, .inl (cy 2, 41, .inr (.inl (fun _ => 0)))), (q1, .inl (cy 1, 25, .inl (fun _ => 0))), (q2, .inl (cy 2, 258, .inr (.inl (fun _ => 0))))]) rfl ?_
  refine n_aload_n (j := 0) C d_X12_init_29 rfl ?_
  refine n_sipush (v := 516) C d_X12_init_30 (by decide) ?_
  refine n_newa (atype := .long) (ty := .long) (N := 516) (a0 := (516, .inr (.inl (fun _ => 0)))) C 2 tw_189 rfl rfl (fun _ => rfl) (by decide) (by decide +kernel) (by decide) (Nat.le_of_ble_eq_true rfl) (Nat.le_of_ble_eq_true rfl) d_X12_init_33 (fun q3 => ?_)
  refine n_eq (ws' := [(h0, .inr (11, [.ref q0, .int 0, .int 0, .int 0, .ref q1, .ref q2, .null, .null, .int 0, .int 0, .int 0, .int 0, .long 0, .long 0, .long 0, .long 0, .long 0, .long 0, .long 0, .long 0, .long 0, .long 0, .long 0, .long 0, .int 0, .int 0, .int 0, .null, .null, .long 0, .long 0, .long 0, .long 0, .int 0, .int 0, .null, .null, .null, .null, .null, .null, .null, .int 0, .int 0, .int 0, .long 0, .int 0, .null, .null, .null, .int 0, .long 0, .int 0, .long 0, .int 0])), (q0, .inl (cy 2, 41, .inr (.inl (fun _ => 0)))), (q1, .inl (cy 1, 25, .inl (fun _ => 0))), (q2, .inl (cy 2, 258, .inr (.inl (fun _ => 0)))), (q3, .inl (cy 2, 516, .inr (.inl (fun _ => 0))))]) rfl ?_
  refine n_putF (ref := "") (Cn := RX12) (T := TX12) (ty := tyX12 6) C hi 0 6 inX12 tyX12_ok nmX12 rfl tw_1217 rfl rfl (by decide) (by decide +kernel) rfl rfl (Nat.le_of_ble_eq_true rfl) d_X12_init_35 ?_
  refine n_eq (ws' := [(h0, .inr (11, [.ref q0, .int 0, .int 0, .int 0, .ref q1, .ref q2, .ref q3, .null, .int 0, .int 0, .int 0, .int 0, .long 0, .long 0, .long 0, .long 0, .long 0, .long 0, .long 0, .long 0, .long 0, .long 0, .long 0, .long 0, .int 0, .int 0, .int 0, .null, .null, .long 0, .long 0, .long 0, .long 0, .int 0, .int 0, .null, .null, .null, .null, .null, .null, .null, .int 0, .int 0, .int 0, .long 0, .int 0, .null, .null, .null, .int 0, .long 0, .int 0, .long 0, .int 0])), (q0, .inl (cy 2, 41, .inr (.inl (fun _ => 0)))), (q1, .inl (cy 1, 25, .inl (fun _ => 0))), (q2, .inl (cy 2, 258, .inr (.inl (fun _ => 0)))), (q3, .inl (cy 2, 516, .inr (.inl (fun _ => 0))))]) rfl ?_
  refine n_aload_n (j := 0) C d_X12_init_38 rfl ?_
  refine n_sipush (v := 400) C d_X12_init_39 (by decide) ?_
  refine n_newa (atype := .byte) (ty := .byte) (N := 400) (a0 := (400, .inl (fun _ => 0))) C 0 tw_60 rfl rfl (fun _ => rfl) (by decide) (by decide +kernel) (by decide) (Nat.le_of_ble_eq_true rfl) (Nat.le_of_ble_eq_true rfl) d_X12_init_42 (fun q4 => ?_)
  refine n_eq (ws' := [(h0, .inr (11, [.ref q0, .int 0, .int 0, .int 0, .ref q1, .ref q2, .ref q3, .null, .int 0, .int 0, .int 0, .int 0, .long 0, .long 0, .long 0, .long 0, .long 0, .long 0, .long 0, .long 0, .long 0, .long 0, .long 0, .long 0, .int 0, .int 0, .int 0, .null, .null, .long 0, .long 0, .long 0, .long 0, .int 0, .int 0, .null, .null, .null, .null, .null, .null, .null, .int 0, .int 0, .int 0, .long 0, .int 0, .null, .null, .null, .int 0, .long 0, .int 0, .long 0, .int 0])), (q0, .inl (cy 2, 41, .inr (.inl (fun _ => 0)))), (q1, .inl (cy 1, 25, .inl (fun _ => 0))), (q2, .inl (cy 2, 258, .inr (.inl (fun _ => 0)))), (q3, .inl (cy 2, 516, .inr (.inl (fun _ => 0)))), (q4, .inl (cy 0, 400, .inl (fun _ => 0)))]) rfl ?_
  refine n_putF (ref := "") (Cn := RX12) (T := TX12) (ty := tyX12 7) C hi 0 7 inX12 tyX12_ok nmX12 rfl tw_1218 rfl rfl (by decide) (by decide +kernel) rfl rfl (Nat.le_of_ble_eq_true rfl) d_X12_init_44 ?_
  refine n_eq (ws' := [(h0, .inr (11, [.ref q0, .int 0, .int 0, .int 0, .ref q1, .ref q2, .ref q3, .ref q4, .int 0, .int 0, .int 0, .int 0, .long 0, .long 0, .long 0, .long 0, .long 0, .long 0, .long 0, .long 0, .long 0, .long 0, .long 0, .long 0, .int 0, .int 0, .int 0, .null, .null, .long 0, .long 0, .long 0, .long 0, .int 0, .int 0, .null, .null, .null, .null, .null, .null, .null, .int 0, .int 0, .int 0, .long 0, .int 0, .null, .null, .null, .int 0, .long 0, .int 0, .long 0, .int 0])), (q0, .inl (cy 2, 41, .inr (.inl (fun _ => 0)))), (q1, .inl (cy 1, 25, .inl (fun _ => 0))), (q2, .inl (cy 2, 258, .inr (.inl (fun _ => 0)))), (q3, .inl (cy 2, 516, .inr (.inl (fun _ => 0)))), (q4, .inl (cy 0, 400, .inl (fun _ => 0)))]) rfl ?_
  refine n_aload_n (j := 0) C d_X12_init_47 rfl ?_
  refine n_bipush (v := 109) C d_X12_init_48 (by decide) ?_
  refine n_bipush (v := 97) C d_X12_init_50 (by decide) ?_
  refine n_bipush (v := 114) C d_X12_init_52 (by decide) ?_
  refine n_bipush (v := 107) C d_X12_init_54 (by decide) ?_
  refine n_bipush (v := 101) C d_X12_init_56 (by decide) ?_
  refine n_bipush (v := 116) C d_X12_init_58 (by decide) ?_
  refine n_callS (rest := [.ref h0]) C [.int 109, .int 97, .int 114, .int 107, .int 101, .int 116] [0, 1, 2, 3, 4, 5] kk_X12_word tw_1199 rfl (by decide +kernel) ⟨by decide, by decide⟩ ⟨Nat.le_of_ble_eq_true rfl, Nat.le_of_ble_eq_true rfl⟩ (Nat.le_of_ble_eq_true rfl) d_X12_init_60 n_X12_word rfl ?_
  refine n_topl (y := 187429700) (by decide +kernel) ?_
  refine n_putF (ref := "") (Cn := RX12) (T := TX12) (ty := tyX12 12) C hi 0 12 inX12 tyX12_ok nmX12 rfl tw_1223 rfl rfl (by decide) (by decide +kernel) rfl rfl (Nat.le_of_ble_eq_true rfl) d_X12_init_63 ?_
  refine n_eq (ws' := [(h0, .inr (11, [.ref q0, .int 0, .int 0, .int 0, .ref q1, .ref q2, .ref q3, .ref q4, .int 0, .int 0, .int 0, .int 0, .long 187429700, .long 0, .long 0, .long 0, .long 0, .long 0, .long 0, .long 0, .long 0, .long 0, .long 0, .long 0, .int 0, .int 0, .int 0, .null, .null, .long 0, .long 0, .long 0, .long 0, .int 0, .int 0, .null, .null, .null, .null, .null, .null, .null, .int 0, .int 0, .int 0, .long 0, .int 0, .null, .null, .null, .int 0, .long 0, .int 0, .long 0, .int 0])), (q0, .inl (cy 2, 41, .inr (.inl (fun _ => 0)))), (q1, .inl (cy 1, 25, .inl (fun _ => 0))), (q2, .inl (cy 2, 258, .inr (.inl (fun _ => 0)))), (q3, .inl (cy 2, 516, .inr (.inl (fun _ => 0)))), (q4, .inl (cy 0, 400, .inl (fun _ => 0)))]) rfl ?_
  refine n_aload_n (j := 0) C d_X12_init_66 rfl ?_
  refine n_bipush (v := 112) C d_X12_init_67 (by decide) ?_
  refine n_bipush (v := 111) C d_X12_init_69 (by decide) ?_
  refine n_bipush (v := 111) C d_X12_init_71 (by decide) ?_
  refine n_bipush (v := 108) C d_X12_init_73 (by decide) ?_
  refine n_iconst (v := 0) C d_X12_init_75 (by decide) ?_
  refine n_iconst (v := 0) C d_X12_init_76 (by decide) ?_
  refine n_callS (rest := [.ref h0]) C [.int 112, .int 111, .int 111, .int 108, .int 0, .int 0] [0, 1, 2, 3, 4, 5] kk_X12_word tw_1199 rfl (by decide +kernel) ⟨by decide, by decide⟩ ⟨Nat.le_of_ble_eq_true rfl, Nat.le_of_ble_eq_true rfl⟩ (Nat.le_of_ble_eq_true rfl) d_X12_init_77 n_X12_word rfl ?_
  refine n_topl (y := 326280) (by decide +kernel) ?_
  refine n_putF (ref := "") (Cn := RX12) (T := TX12) (ty := tyX12 13) C hi 0 13 inX12 tyX12_ok nmX12 rfl tw_1224 rfl rfl (by decide) (by decide +kernel) rfl rfl (Nat.le_of_ble_eq_true rfl) d_X12_init_80 ?_
  refine n_eq (ws' := [(h0, .inr (11, [.ref q0, .int 0, .int 0, .int 0, .ref q1, .ref q2, .ref q3, .ref q4, .int 0, .int 0, .int 0, .int 0, .long 187429700, .long 326280, .long 0, .long 0, .long 0, .long 0, .long 0, .long 0, .long 0, .long 0, .long 0, .long 0, .int 0, .int 0, .int 0, .null, .null, .long 0, .long 0, .long 0, .long 0, .int 0, .int 0, .null, .null, .null, .null, .null, .null, .null, .int 0, .int 0, .int 0, .long 0, .int 0, .null, .null, .null, .int 0, .long 0, .int 0, .long 0, .int 0])), (q0, .inl (cy 2, 41, .inr (.inl (fun _ => 0)))), (q1, .inl (cy 1, 25, .inl (fun _ => 0))), (q2, .inl (cy 2, 258, .inr (.inl (fun _ => 0)))), (q3, .inl (cy 2, 516, .inr (.inl (fun _ => 0)))), (q4, .inl (cy 0, 400, .inl (fun _ => 0)))]) rfl ?_
  refine n_aload_n (j := 0) C d_X12_init_83 rfl ?_
  refine n_bipush (v := 112) C d_X12_init_84 (by decide) ?_
  refine n_bipush (v := 117) C d_X12_init_86 (by decide) ?_
  refine n_bipush (v := 114) C d_X12_init_88 (by decide) ?_
  refine n_bipush (v := 115) C d_X12_init_90 (by decide) ?_
  refine n_bipush (v := 101) C d_X12_init_92 (by decide) ?_
  refine n_iconst (v := 0) C d_X12_init_94 (by decide) ?_
  refine n_callS (rest := [.ref h0]) C [.int 112, .int 117, .int 114, .int 115, .int 101, .int 0] [0, 1, 2, 3, 4, 5] kk_X12_word tw_1199 rfl (by decide +kernel) ⟨by decide, by decide⟩ ⟨Nat.le_of_ble_eq_true rfl, Nat.le_of_ble_eq_true rfl⟩ (Nat.le_of_ble_eq_true rfl) d_X12_init_95 n_X12_word rfl ?_
  refine n_topl (y := 8930039) (by decide +kernel) ?_
  refine n_putF (ref := "") (Cn := RX12) (T := TX12) (ty := tyX12 14) C hi 0 14 inX12 tyX12_ok nmX12 rfl tw_1225 rfl rfl (by decide) (by decide +kernel) rfl rfl (Nat.le_of_ble_eq_true rfl) d_X12_init_98 ?_
  refine n_eq (ws' := [(h0, .inr (11, [.ref q0, .int 0, .int 0, .int 0, .ref q1, .ref q2, .ref q3, .ref q4, .int 0, .int 0, .int 0, .int 0, .long 187429700, .long 326280, .long 8930039, .long 0, .long 0, .long 0, .long 0, .long 0, .long 0, .long 0, .long 0, .long 0, .int 0, .int 0, .int 0, .null, .null, .long 0, .long 0, .long 0, .long 0, .int 0, .int 0, .null, .null, .null, .null, .null, .null, .null, .int 0, .int 0, .int 0, .long 0, .int 0, .null, .null, .null, .int 0, .long 0, .int 0, .long 0, .int 0])), (q0, .inl (cy 2, 41, .inr (.inl (fun _ => 0)))), (q1, .inl (cy 1, 25, .inl (fun _ => 0))), (q2, .inl (cy 2, 258, .inr (.inl (fun _ => 0)))), (q3, .inl (cy 2, 516, .inr (.inl (fun _ => 0)))), (q4, .inl (cy 0, 400, .inl (fun _ => 0)))]) rfl ?_
  refine n_aload_n (j := 0) C d_X12_init_101 rfl ?_
  refine n_bipush (v := 105) C d_X12_init_102 (by decide) ?_
  refine n_bipush (v := 110) C d_X12_init_104 (by decide) ?_
  refine n_iconst (v := 0) C d_X12_init_106 (by decide) ?_
  refine n_iconst (v := 0) C d_X12_init_107 (by decide) ?_
  refine n_iconst (v := 0) C d_X12_init_108 (by decide) ?_
  refine n_iconst (v := 0) C d_X12_init_109 (by decide) ?_
  refine n_callS (rest := [.ref h0]) C [.int 105, .int 110, .int 0, .int 0, .int 0, .int 0] [0, 1, 2, 3, 4, 5] kk_X12_word tw_1199 rfl (by decide +kernel) ⟨by decide, by decide⟩ ⟨Nat.le_of_ble_eq_true rfl, Nat.le_of_ble_eq_true rfl⟩ (Nat.le_of_ble_eq_true rfl) d_X12_init_110 n_X12_word rfl ?_
  refine n_topl (y := 257) (by decide +kernel) ?_
  refine n_putF (ref := "") (Cn := RX12) (T := TX12) (ty := tyX12 15) C hi 0 15 inX12 tyX12_ok nmX12 rfl tw_1226 rfl rfl (by decide) (by decide +kernel) rfl rfl (Nat.le_of_ble_eq_true rfl) d_X12_init_113 ?_
  refine n_eq (ws' := [(h0, .inr (11, [.ref q0, .int 0, .int 0, .int 0, .ref q1, .ref q2, .ref q3, .ref q4, .int 0, .int 0, .int 0, .int 0, .long 187429700, .long 326280, .long 8930039, .long 257, .long 0, .long 0, .long 0, .long 0, .long 0, .long 0, .long 0, .long 0, .int 0, .int 0, .int 0, .null, .null, .long 0, .long 0, .long 0, .long 0, .int 0, .int 0, .null, .null, .null, .null, .null, .null, .null, .int 0, .int 0, .int 0, .long 0, .int 0, .null, .null, .null, .int 0, .long 0, .int 0, .long 0, .int 0])), (q0, .inl (cy 2, 41, .inr (.inl (fun _ => 0)))), (q1, .inl (cy 1, 25, .inl (fun _ => 0))), (q2, .inl (cy 2, 258, .inr (.inl (fun _ => 0)))), (q3, .inl (cy 2, 516, .inr (.inl (fun _ => 0)))), (q4, .inl (cy 0, 400, .inl (fun _ => 0)))]) rfl ?_
  refine n_aload_n (j := 0) C d_X12_init_116 rfl ?_
  refine n_bipush (v := 111) C d_X12_init_117 (by decide) ?_
  refine n_bipush (v := 117) C d_X12_init_119 (by decide) ?_
  refine n_bipush (v := 116) C d_X12_init_121 (by decide) ?_
  refine n_iconst (v := 0) C d_X12_init_123 (by decide) ?_
  refine n_iconst (v := 0) C d_X12_init_124 (by decide) ?_
  refine n_iconst (v := 0) C d_X12_init_125 (by decide) ?_
  refine n_callS (rest := [.ref h0]) C [.int 111, .int 117, .int 116, .int 0, .int 0, .int 0] [0, 1, 2, 3, 4, 5] kk_X12_word tw_1199 rfl (by decide +kernel) ⟨by decide, by decide⟩ ⟨Nat.le_of_ble_eq_true rfl, Nat.le_of_ble_eq_true rfl⟩ (Nat.le_of_ble_eq_true rfl) d_X12_init_126 n_X12_word rfl ?_
  refine n_topl (y := 11522) (by decide +kernel) ?_
  refine n_putF (ref := "") (Cn := RX12) (T := TX12) (ty := tyX12 16) C hi 0 16 inX12 tyX12_ok nmX12 rfl tw_1227 rfl rfl (by decide) (by decide +kernel) rfl rfl (Nat.le_of_ble_eq_true rfl) d_X12_init_129 ?_
  refine n_eq (ws' := [(h0, .inr (11, [.ref q0, .int 0, .int 0, .int 0, .ref q1, .ref q2, .ref q3, .ref q4, .int 0, .int 0, .int 0, .int 0, .long 187429700, .long 326280, .long 8930039, .long 257, .long 11522, .long 0, .long 0, .long 0, .long 0, .long 0, .long 0, .long 0, .int 0, .int 0, .int 0, .null, .null, .long 0, .long 0, .long 0, .long 0, .int 0, .int 0, .null, .null, .null, .null, .null, .null, .null, .int 0, .int 0, .int 0, .long 0, .int 0, .null, .null, .null, .int 0, .long 0, .int 0, .long 0, .int 0])), (q0, .inl (cy 2, 41, .inr (.inl (fun _ => 0)))), (q1, .inl (cy 1, 25, .inl (fun _ => 0))), (q2, .inl (cy 2, 258, .inr (.inl (fun _ => 0)))), (q3, .inl (cy 2, 516, .inr (.inl (fun _ => 0)))), (q4, .inl (cy 0, 400, .inl (fun _ => 0)))]) rfl ?_
  refine n_aload_n (j := 0) C d_X12_init_132 rfl ?_
  refine n_bipush (v := 97) C d_X12_init_133 (by decide) ?_
  refine n_bipush (v := 100) C d_X12_init_135 (by decide) ?_
  refine n_bipush (v := 100) C d_X12_init_137 (by decide) ?_
  refine n_iconst (v := 0) C d_X12_init_139 (by decide) ?_
  refine n_iconst (v := 0) C d_X12_init_140 (by decide) ?_
  refine n_iconst (v := 0) C d_X12_init_141 (by decide) ?_
  refine n_callS (rest := [.ref h0]) C [.int 97, .int 100, .int 100, .int 0, .int 0, .int 0] [0, 1, 2, 3, 4, 5] kk_X12_word tw_1199 rfl (by decide +kernel) ⟨by decide, by decide⟩ ⟨Nat.le_of_ble_eq_true rfl, Nat.le_of_ble_eq_true rfl⟩ (Nat.le_of_ble_eq_true rfl) d_X12_init_142 n_X12_word rfl ?_
  refine n_topl (y := 841) (by decide +kernel) ?_
  refine n_putF (ref := "") (Cn := RX12) (T := TX12) (ty := tyX12 17) C hi 0 17 inX12 tyX12_ok nmX12 rfl tw_1228 rfl rfl (by decide) (by decide +kernel) rfl rfl (Nat.le_of_ble_eq_true rfl) d_X12_init_145 ?_
  refine n_eq (ws' := [(h0, .inr (11, [.ref q0, .int 0, .int 0, .int 0, .ref q1, .ref q2, .ref q3, .ref q4, .int 0, .int 0, .int 0, .int 0, .long 187429700, .long 326280, .long 8930039, .long 257, .long 11522, .long 841, .long 0, .long 0, .long 0, .long 0, .long 0, .long 0, .int 0, .int 0, .int 0, .null, .null, .long 0, .long 0, .long 0, .long 0, .int 0, .int 0, .null, .null, .null, .null, .null, .null, .null, .int 0, .int 0, .int 0, .long 0, .int 0, .null, .null, .null, .int 0, .long 0, .int 0, .long 0, .int 0])), (q0, .inl (cy 2, 41, .inr (.inl (fun _ => 0)))), (q1, .inl (cy 1, 25, .inl (fun _ => 0))), (q2, .inl (cy 2, 258, .inr (.inl (fun _ => 0)))), (q3, .inl (cy 2, 516, .inr (.inl (fun _ => 0)))), (q4, .inl (cy 0, 400, .inl (fun _ => 0)))]) rfl ?_
  refine n_aload_n (j := 0) C d_X12_init_148 rfl ?_
  refine n_bipush (v := 100) C d_X12_init_149 (by decide) ?_
  refine n_bipush (v := 114) C d_X12_init_151 (by decide) ?_
  refine n_bipush (v := 111) C d_X12_init_153 (by decide) ?_
  refine n_bipush (v := 112) C d_X12_init_155 (by decide) ?_
  refine n_iconst (v := 0) C d_X12_init_157 (by decide) ?_
  refine n_iconst (v := 0) C d_X12_init_158 (by decide) ?_
  refine n_callS (rest := [.ref h0]) C [.int 100, .int 114, .int 111, .int 112, .int 0, .int 0] [0, 1, 2, 3, 4, 5] kk_X12_word tw_1199 rfl (by decide +kernel) ⟨by decide, by decide⟩ ⟨Nat.le_of_ble_eq_true rfl, Nat.le_of_ble_eq_true rfl⟩ (Nat.le_of_ble_eq_true rfl) d_X12_init_159 n_X12_word rfl ?_
  refine n_topl (y := 92275) (by decide +kernel) ?_
  refine n_putF (ref := "") (Cn := RX12) (T := TX12) (ty := tyX12 18) C hi 0 18 inX12 tyX12_ok nmX12 rfl tw_1229 rfl rfl (by decide) (by decide +kernel) rfl rfl (Nat.le_of_ble_eq_true rfl) d_X12_init_162 ?_
  refine n_eq (ws' := [(h0, .inr (11, [.ref q0, .int 0, .int 0, .int 0, .ref q1, .ref q2, .ref q3, .ref q4, .int 0, .int 0, .int 0, .int 0, .long 187429700, .long 326280, .long 8930039, .long 257, .long 11522, .long 841, .long 92275, .long 0, .long 0, .long 0, .long 0, .long 0, .int 0, .int 0, .int 0, .null, .null, .long 0, .long 0, .long 0, .long 0, .int 0, .int 0, .null, .null, .null, .null, .null, .null, .null, .int 0, .int 0, .int 0, .long 0, .int 0, .null, .null, .null, .int 0, .long 0, .int 0, .long 0, .int 0])), (q0, .inl (cy 2, 41, .inr (.inl (fun _ => 0)))), (q1, .inl (cy 1, 25, .inl (fun _ => 0))), (q2, .inl (cy 2, 258, .inr (.inl (fun _ => 0)))), (q3, .inl (cy 2, 516, .inr (.inl (fun _ => 0)))), (q4, .inl (cy 0, 400, .inl (fun _ => 0)))]) rfl ?_
  refine n_aload_n (j := 0) C d_X12_init_165 rfl ?_
  refine n_bipush (v := 108) C d_X12_init_166 (by decide) ?_
  refine n_bipush (v := 101) C d_X12_init_168 (by decide) ?_
  refine n_bipush (v := 97) C d_X12_init_170 (by decide) ?_
  refine n_bipush (v := 115) C d_X12_init_172 (by decide) ?_
  refine n_bipush (v := 116) C d_X12_init_174 (by decide) ?_
  refine n_iconst (v := 0) C d_X12_init_176 (by decide) ?_
  refine n_callS (rest := [.ref h0]) C [.int 108, .int 101, .int 97, .int 115, .int 116, .int 0] [0, 1, 2, 3, 4, 5] kk_X12_word tw_1199 rfl (by decide +kernel) ⟨by decide, by decide⟩ ⟨Nat.le_of_ble_eq_true rfl, Nat.le_of_ble_eq_true rfl⟩ (Nat.le_of_ble_eq_true rfl) d_X12_init_177 n_X12_word rfl ?_
  refine n_topl (y := 6476969) (by decide +kernel) ?_
  refine n_putF (ref := "") (Cn := RX12) (T := TX12) (ty := tyX12 19) C hi 0 19 inX12 tyX12_ok nmX12 rfl tw_1230 rfl rfl (by decide) (by decide +kernel) rfl rfl (Nat.le_of_ble_eq_true rfl) d_X12_init_180 ?_
  refine n_eq (ws' := [(h0, .inr (11, [.ref q0, .int 0, .int 0, .int 0, .ref q1, .ref q2, .ref q3, .ref q4, .int 0, .int 0, .int 0, .int 0, .long 187429700, .long 326280, .long 8930039, .long 257, .long 11522, .long 841, .long 92275, .long 6476969, .long 0, .long 0, .long 0, .long 0, .int 0, .int 0, .int 0, .null, .null, .long 0, .long 0, .long 0, .long 0, .int 0, .int 0, .null, .null, .null, .null, .null, .null, .null, .int 0, .int 0, .int 0, .long 0, .int 0, .null, .null, .null, .int 0, .long 0, .int 0, .long 0, .int 0])), (q0, .inl (cy 2, 41, .inr (.inl (fun _ => 0)))), (q1, .inl (cy 1, 25, .inl (fun _ => 0))), (q2, .inl (cy 2, 258, .inr (.inl (fun _ => 0)))), (q3, .inl (cy 2, 516, .inr (.inl (fun _ => 0)))), (q4, .inl (cy 0, 400, .inl (fun _ => 0)))]) rfl ?_
  refine n_aload_n (j := 0) C d_X12_init_183 rfl ?_
  refine n_bipush (v := 108) C d_X12_init_184 (by decide) ?_
  refine n_bipush (v := 101) C d_X12_init_186 (by decide) ?_
  refine n_bipush (v := 110) C d_X12_init_188 (by decide) ?_
  refine n_bipush (v := 100) C d_X12_init_190 (by decide) ?_
  refine n_iconst (v := 0) C d_X12_init_192 (by decide) ?_
  refine n_iconst (v := 0) C d_X12_init_193 (by decide) ?_
  refine n_callS (rest := [.ref h0]) C [.int 108, .int 101, .int 110, .int 100, .int 0, .int 0] [0, 1, 2, 3, 4, 5] kk_X12_word tw_1199 rfl (by decide +kernel) ⟨by decide, by decide⟩ ⟨Nat.le_of_ble_eq_true rfl, Nat.le_of_ble_eq_true rfl⟩ (Nat.le_of_ble_eq_true rfl) d_X12_init_194 n_X12_word rfl ?_
  refine n_topl (y := 240223) (by decide +kernel) ?_
  refine n_putF (ref := "") (Cn := RX12) (T := TX12) (ty := tyX12 20) C hi 0 20 inX12 tyX12_ok nmX12 rfl tw_1231 rfl rfl (by decide) (by decide +kernel) rfl rfl (Nat.le_of_ble_eq_true rfl) d_X12_init_197 ?_
  refine n_eq (ws' := [(h0, .inr (11, [.ref q0, .int 0, .int 0, .int 0, .ref q1, .ref q2, .ref q3, .ref q4, .int 0, .int 0, .int 0, .int 0, .long 187429700, .long 326280, .long 8930039, .long 257, .long 11522, .long 841, .long 92275, .long 6476969, .long 240223, .long 0, .long 0, .long 0, .int 0, .int 0, .int 0, .null, .null, .long 0, .long 0, .long 0, .long 0, .int 0, .int 0, .null, .null, .null, .null, .null, .null, .null, .int 0, .int 0, .int 0, .long 0, .int 0, .null, .null, .null, .int 0, .long 0, .int 0, .long 0, .int 0])), (q0, .inl (cy 2, 41, .inr (.inl (fun _ => 0)))), (q1, .inl (cy 1, 25, .inl (fun _ => 0))), (q2, .inl (cy 2, 258, .inr (.inl (fun _ => 0)))), (q3, .inl (cy 2, 516, .inr (.inl (fun _ => 0)))), (q4, .inl (cy 0, 400, .inl (fun _ => 0)))]) rfl ?_
  refine n_aload_n (j := 0) C d_X12_init_200 rfl ?_
  refine n_bipush (v := 116) C d_X12_init_201 (by decide) ?_
  refine n_bipush (v := 105) C d_X12_init_203 (by decide) ?_
  refine n_bipush (v := 109) C d_X12_init_205 (by decide) ?_
  refine n_bipush (v := 101) C d_X12_init_207 (by decide) ?_
  refine n_bipush (v := 115) C d_X12_init_209 (by decide) ?_
  refine n_iconst (v := 0) C d_X12_init_211 (by decide) ?_
  refine n_callS (rest := [.ref h0]) C [.int 116, .int 105, .int 109, .int 101, .int 115, .int 0] [0, 1, 2, 3, 4, 5] kk_X12_word tw_1199 rfl (by decide +kernel) ⟨by decide, by decide⟩ ⟨Nat.le_of_ble_eq_true rfl, Nat.le_of_ble_eq_true rfl⟩ (Nat.le_of_ble_eq_true rfl) d_X12_init_212 n_X12_word rfl ?_
  refine n_topl (y := 10815598) (by decide +kernel) ?_
  refine n_putF (ref := "") (Cn := RX12) (T := TX12) (ty := tyX12 21) C hi 0 21 inX12 tyX12_ok nmX12 rfl tw_1232 rfl rfl (by decide) (by decide +kernel) rfl rfl (Nat.le_of_ble_eq_true rfl) d_X12_init_215 ?_
  refine n_eq (ws' := [(h0, .inr (11, [.ref q0, .int 0, .int 0, .int 0, .ref q1, .ref q2, .ref q3, .ref q4, .int 0, .int 0, .int 0, .int 0, .long 187429700, .long 326280, .long 8930039, .long 257, .long 11522, .long 841, .long 92275, .long 6476969, .long 240223, .long 10815598, .long 0, .long 0, .int 0, .int 0, .int 0, .null, .null, .long 0, .long 0, .long 0, .long 0, .int 0, .int 0, .null, .null, .null, .null, .null, .null, .null, .int 0, .int 0, .int 0, .long 0, .int 0, .null, .null, .null, .int 0, .long 0, .int 0, .long 0, .int 0])), (q0, .inl (cy 2, 41, .inr (.inl (fun _ => 0)))), (q1, .inl (cy 1, 25, .inl (fun _ => 0))), (q2, .inl (cy 2, 258, .inr (.inl (fun _ => 0)))), (q3, .inl (cy 2, 516, .inr (.inl (fun _ => 0)))), (q4, .inl (cy 0, 400, .inl (fun _ => 0)))]) rfl ?_
  refine n_aload_n (j := 0) C d_X12_init_218 rfl ?_
  refine n_bipush (v := 97) C d_X12_init_219 (by decide) ?_
  refine n_bipush (v := 108) C d_X12_init_221 (by decide) ?_
  refine n_bipush (v := 108) C d_X12_init_223 (by decide) ?_
  refine n_iconst (v := 0) C d_X12_init_225 (by decide) ?_
  refine n_iconst (v := 0) C d_X12_init_226 (by decide) ?_
  refine n_iconst (v := 0) C d_X12_init_227 (by decide) ?_
  refine n_callS (rest := [.ref h0]) C [.int 97, .int 108, .int 108, .int 0, .int 0, .int 0] [0, 1, 2, 3, 4, 5] kk_X12_word tw_1199 rfl (by decide +kernel) ⟨by decide, by decide⟩ ⟨Nat.le_of_ble_eq_true rfl, Nat.le_of_ble_eq_true rfl⟩ (Nat.le_of_ble_eq_true rfl) d_X12_init_228 n_X12_word rfl ?_
  refine n_topl (y := 1065) (by decide +kernel) ?_
  refine n_putF (ref := "") (Cn := RX12) (T := TX12) (ty := tyX12 22) C hi 0 22 inX12 tyX12_ok nmX12 rfl tw_1233 rfl rfl (by decide) (by decide +kernel) rfl rfl (Nat.le_of_ble_eq_true rfl) d_X12_init_231 ?_
  refine n_eq (ws' := [(h0, .inr (11, [.ref q0, .int 0, .int 0, .int 0, .ref q1, .ref q2, .ref q3, .ref q4, .int 0, .int 0, .int 0, .int 0, .long 187429700, .long 326280, .long 8930039, .long 257, .long 11522, .long 841, .long 92275, .long 6476969, .long 240223, .long 10815598, .long 1065, .long 0, .int 0, .int 0, .int 0, .null, .null, .long 0, .long 0, .long 0, .long 0, .int 0, .int 0, .null, .null, .null, .null, .null, .null, .null, .int 0, .int 0, .int 0, .long 0, .int 0, .null, .null, .null, .int 0, .long 0, .int 0, .long 0, .int 0])), (q0, .inl (cy 2, 41, .inr (.inl (fun _ => 0)))), (q1, .inl (cy 1, 25, .inl (fun _ => 0))), (q2, .inl (cy 2, 258, .inr (.inl (fun _ => 0)))), (q3, .inl (cy 2, 516, .inr (.inl (fun _ => 0)))), (q4, .inl (cy 0, 400, .inl (fun _ => 0)))]) rfl ?_
  refine n_aload_n (j := 0) C d_X12_init_234 rfl ?_
  refine n_bipush (v := 103) C d_X12_init_235 (by decide) ?_
  refine n_bipush (v := 111) C d_X12_init_237 (by decide) ?_
  refine n_bipush (v := 116) C d_X12_init_239 (by decide) ?_
  refine n_iconst (v := 0) C d_X12_init_241 (by decide) ?_
  refine n_iconst (v := 0) C d_X12_init_242 (by decide) ?_
  refine n_iconst (v := 0) C d_X12_init_243 (by decide) ?_
  refine n_callS (rest := [.ref h0]) C [.int 103, .int 111, .int 116, .int 0, .int 0, .int 0] [0, 1, 2, 3, 4, 5] kk_X12_word tw_1199 rfl (by decide +kernel) ⟨by decide, by decide⟩ ⟨Nat.le_of_ble_eq_true rfl, Nat.le_of_ble_eq_true rfl⟩ (Nat.le_of_ble_eq_true rfl) d_X12_init_244 n_X12_word rfl ?_
  refine n_topl (y := 5528) (by decide +kernel) ?_
  refine n_putF (ref := "") (Cn := RX12) (T := TX12) (ty := tyX12 23) C hi 0 23 inX12 tyX12_ok nmX12 rfl tw_1234 rfl rfl (by decide) (by decide +kernel) rfl rfl (Nat.le_of_ble_eq_true rfl) d_X12_init_247 ?_
  refine n_eq (ws' := [(h0, .inr (11, [.ref q0, .int 0, .int 0, .int 0, .ref q1, .ref q2, .ref q3, .ref q4, .int 0, .int 0, .int 0, .int 0, .long 187429700, .long 326280, .long 8930039, .long 257, .long 11522, .long 841, .long 92275, .long 6476969, .long 240223, .long 10815598, .long 1065, .long 5528, .int 0, .int 0, .int 0, .null, .null, .long 0, .long 0, .long 0, .long 0, .int 0, .int 0, .null, .null, .null, .null, .null, .null, .null, .int 0, .int 0, .int 0, .long 0, .int 0, .null, .null, .null, .int 0, .long 0, .int 0, .long 0, .int 0])), (q0, .inl (cy 2, 41, .inr (.inl (fun _ => 0)))), (q1, .inl (cy 1, 25, .inl (fun _ => 0))), (q2, .inl (cy 2, 258, .inr (.inl (fun _ => 0)))), (q3, .inl (cy 2, 516, .inr (.inl (fun _ => 0)))), (q4, .inl (cy 0, 400, .inl (fun _ => 0)))]) rfl ?_
  refine n_aload_n (j := 0) C d_X12_init_250 rfl ?_
  refine n_bipush (v := 35) C d_X12_init_251 (by decide) ?_
  refine n_newa (atype := .int) (ty := .int) (N := 35) (a0 := (35, .inl (fun _ => 0))) C 1 tw_140 rfl rfl (fun _ => rfl) (by decide) (by decide +kernel) (by decide) (Nat.le_of_ble_eq_true rfl) (Nat.le_of_ble_eq_true rfl) d_X12_init_253 (fun q5 => ?_)
  refine n_eq (ws' := [(h0, .inr (11, [.ref q0, .int 0, .int 0, .int 0, .ref q1, .ref q2, .ref q3, .ref q4, .int 0, .int 0, .int 0, .int 0, .long 187429700, .long 326280, .long 8930039, .long 257, .long 11522, .long 841, .long 92275, .long 6476969, .long 240223, .long 10815598, .long 1065, .long 5528, .int 0, .int 0, .int 0, .null, .null, .long 0, .long 0, .long 0, .long 0, .int 0, .int 0, .null, .null, .null, .null, .null, .null, .null, .int 0, .int 0, .int 0, .long 0, .int 0, .null, .null, .null, .int 0, .long 0, .int 0, .long 0, .int 0])), (q0, .inl (cy 2, 41, .inr (.inl (fun _ => 0)))), (q1, .inl (cy 1, 25, .inl (fun _ => 0))), (q2, .inl (cy 2, 258, .inr (.inl (fun _ => 0)))), (q3, .inl (cy 2, 516, .inr (.inl (fun _ => 0)))), (q4, .inl (cy 0, 400, .inl (fun _ => 0))), (q5, .inl (cy 1, 35, .inl (fun _ => 0)))]) rfl ?_
  refine n_putF (ref := "") (Cn := RX12) (T := TX12) (ty := tyX12 27) C hi 0 27 inX12 tyX12_ok nmX12 rfl tw_1238 rfl rfl (by decide) (by decide +kernel) rfl rfl (Nat.le_of_ble_eq_true rfl) d_X12_init_255 ?_
  refine n_eq (ws' := [(h0, .inr (11, [.ref q0, .int 0, .int 0, .int 0, .ref q1, .ref q2, .ref q3, .ref q4, .int 0, .int 0, .int 0, .int 0, .long 187429700, .long 326280, .long 8930039, .long 257, .long 11522, .long 841, .long 92275, .long 6476969, .long 240223, .long 10815598, .long 1065, .long 5528, .int 0, .int 0, .int 0, .ref q5, .null, .long 0, .long 0, .long 0, .long 0, .int 0, .int 0, .null, .null, .null, .null, .null, .null, .null, .int 0, .int 0, .int 0, .long 0, .int 0, .null, .null, .null, .int 0, .long 0, .int 0, .long 0, .int 0])), (q0, .inl (cy 2, 41, .inr (.inl (fun _ => 0)))), (q1, .inl (cy 1, 25, .inl (fun _ => 0))), (q2, .inl (cy 2, 258, .inr (.inl (fun _ => 0)))), (q3, .inl (cy 2, 516, .inr (.inl (fun _ => 0)))), (q4, .inl (cy 0, 400, .inl (fun _ => 0))), (q5, .inl (cy 1, 35, .inl (fun _ => 0)))]) rfl ?_
  refine n_aload_n (j := 0) C d_X12_init_258 rfl ?_
  refine n_bipush (v := 20) C d_X12_init_259 (by decide) ?_
  refine n_newa (atype := .int) (ty := .int) (N := 20) (a0 := (20, .inl (fun _ => 0))) C 1 tw_140 rfl rfl (fun _ => rfl) (by decide) (by decide +kernel) (by decide) (Nat.le_of_ble_eq_true rfl) (Nat.le_of_ble_eq_true rfl) d_X12_init_261 (fun q6 => ?_)
  refine n_eq (ws' := [(h0, .inr (11, [.ref q0, .int 0, .int 0, .int 0, .ref q1, .ref q2, .ref q3, .ref q4, .int 0, .int 0, .int 0, .int 0, .long 187429700, .long 326280, .long 8930039, .long 257, .long 11522, .long 841, .long 92275, .long 6476969, .long 240223, .long 10815598, .long 1065, .long 5528, .int 0, .int 0, .int 0, .ref q5, .null, .long 0, .long 0, .long 0, .long 0, .int 0, .int 0, .null, .null, .null, .null, .null, .null, .null, .int 0, .int 0, .int 0, .long 0, .int 0, .null, .null, .null, .int 0, .long 0, .int 0, .long 0, .int 0])), (q0, .inl (cy 2, 41, .inr (.inl (fun _ => 0)))), (q1, .inl (cy 1, 25, .inl (fun _ => 0))), (q2, .inl (cy 2, 258, .inr (.inl (fun _ => 0)))), (q3, .inl (cy 2, 516, .inr (.inl (fun _ => 0)))), (q4, .inl (cy 0, 400, .inl (fun _ => 0))), (q5, .inl (cy 1, 35, .inl (fun _ => 0))), (q6, .inl (cy 1, 20, .inl (fun _ => 0)))]) rfl ?_
  refine n_putF (ref := "") (Cn := RX12) (T := TX12) (ty := tyX12 28) C hi 0 28 inX12 tyX12_ok nmX12 rfl tw_1239 rfl rfl (by decide) (by decide +kernel) rfl rfl (Nat.le_of_ble_eq_true rfl) d_X12_init_263 ?_
  refine n_eq (ws' := [(h0, .inr (11, [.ref q0, .int 0, .int 0, .int 0, .ref q1, .ref q2, .ref q3, .ref q4, .int 0, .int 0, .int 0, .int 0, .long 187429700, .long 326280, .long 8930039, .long 257, .long 11522, .long 841, .long 92275, .long 6476969, .long 240223, .long 10815598, .long 1065, .long 5528, .int 0, .int 0, .int 0, .ref q5, .ref q6, .long 0, .long 0, .long 0, .long 0, .int 0, .int 0, .null, .null, .null, .null, .null, .null, .null, .int 0, .int 0, .int 0, .long 0, .int 0, .null, .null, .null, .int 0, .long 0, .int 0, .long 0, .int 0])), (q0, .inl (cy 2, 41, .inr (.inl (fun _ => 0)))), (q1, .inl (cy 1, 25, .inl (fun _ => 0))), (q2, .inl (cy 2, 258, .inr (.inl (fun _ => 0)))), (q3, .inl (cy 2, 516, .inr (.inl (fun _ => 0)))), (q4, .inl (cy 0, 400, .inl (fun _ => 0))), (q5, .inl (cy 1, 35, .inl (fun _ => 0))), (q6, .inl (cy 1, 20, .inl (fun _ => 0)))]) rfl ?_
  refine n_aload_n (j := 0) C d_X12_init_266 rfl ?_
  refine n_bipush (v := 40) C d_X12_init_267 (by decide) ?_
  refine n_newa (atype := .int) (ty := .int) (N := 40) (a0 := (40, .inl (fun _ => 0))) C 1 tw_140 rfl rfl (fun _ => rfl) (by decide) (by decide +kernel) (by decide) (Nat.le_of_ble_eq_true rfl) (Nat.le_of_ble_eq_true rfl) d_X12_init_269 (fun q7 => ?_)
  refine n_eq (ws' := [(h0, .inr (11, [.ref q0, .int 0, .int 0, .int 0, .ref q1, .ref q2, .ref q3, .ref q4, .int 0, .int 0, .int 0, .int 0, .long 187429700, .long 326280, .long 8930039, .long 257, .long 11522, .long 841, .long 92275, .long 6476969, .long 240223, .long 10815598, .long 1065, .long 5528, .int 0, .int 0, .int 0, .ref q5, .ref q6, .long 0, .long 0, .long 0, .long 0, .int 0, .int 0, .null, .null, .null, .null, .null, .null, .null, .int 0, .int 0, .int 0, .long 0, .int 0, .null, .null, .null, .int 0, .long 0, .int 0, .long 0, .int 0])), (q0, .inl (cy 2, 41, .inr (.inl (fun _ => 0)))), (q1, .inl (cy 1, 25, .inl (fun _ => 0))), (q2, .inl (cy 2, 258, .inr (.inl (fun _ => 0)))), (q3, .inl (cy 2, 516, .inr (.inl (fun _ => 0)))), (q4, .inl (cy 0, 400, .inl (fun _ => 0))), (q5, .inl (cy 1, 35, .inl (fun _ => 0))), (q6, .inl (cy 1, 20, .inl (fun _ => 0))), (q7, .inl (cy 1, 40, .inl (fun _ => 0)))]) rfl ?_
  refine n_putF (ref := "") (Cn := RX12) (T := TX12) (ty := tyX12 35) C hi 0 35 inX12 tyX12_ok nmX12 rfl tw_1246 rfl rfl (by decide) (by decide +kernel) rfl rfl (Nat.le_of_ble_eq_true rfl) d_X12_init_271 ?_
  refine n_eq (ws' := [(h0, .inr (11, [.ref q0, .int 0, .int 0, .int 0, .ref q1, .ref q2, .ref q3, .ref q4, .int 0, .int 0, .int 0, .int 0, .long 187429700, .long 326280, .long 8930039, .long 257, .long 11522, .long 841, .long 92275, .long 6476969, .long 240223, .long 10815598, .long 1065, .long 5528, .int 0, .int 0, .int 0, .ref q5, .ref q6, .long 0, .long 0, .long 0, .long 0, .int 0, .int 0, .ref q7, .null, .null, .null, .null, .null, .null, .int 0, .int 0, .int 0, .long 0, .int 0, .null, .null, .null, .int 0, .long 0, .int 0, .long 0, .int 0])), (q0, .inl (cy 2, 41, .inr (.inl (fun _ => 0)))), (q1, .inl (cy 1, 25, .inl (fun _ => 0))), (q2, .inl (cy 2, 258, .inr (.inl (fun _ => 0)))), (q3, .inl (cy 2, 516, .inr (.inl (fun _ => 0)))), (q4, .inl (cy 0, 400, .inl (fun _ => 0))), (q5, .inl (cy 1, 35, .inl (fun _ => 0))), (q6, .inl (cy 1, 20, .inl (fun _ => 0))), (q7, .inl (cy 1, 40, .inl (fun _ => 0)))]) rfl ?_
  refine n_aload_n (j := 0) C d_X12_init_274 rfl ?_
  refine n_bipush (v := 40) C d_X12_init_275 (by decide) ?_
  refine n_newa (atype := .int) (ty := .int) (N := 40) (a0 := (40, .inl (fun _ => 0))) C 1 tw_140 rfl rfl (fun _ => rfl) (by decide) (by decide +kernel) (by decide) (Nat.le_of_ble_eq_true rfl) (Nat.le_of_ble_eq_true rfl) d_X12_init_277 (fun q8 => ?_)
  refine n_eq (ws' := [(h0, .inr (11, [.ref q0, .int 0, .int 0, .int 0, .ref q1, .ref q2, .ref q3, .ref q4, .int 0, .int 0, .int 0, .int 0, .long 187429700, .long 326280, .long 8930039, .long 257, .long 11522, .long 841, .long 92275, .long 6476969, .long 240223, .long 10815598, .long 1065, .long 5528, .int 0, .int 0, .int 0, .ref q5, .ref q6, .long 0, .long 0, .long 0, .long 0, .int 0, .int 0, .ref q7, .null, .null, .null, .null, .null, .null, .int 0, .int 0, .int 0, .long 0, .int 0, .null, .null, .null, .int 0, .long 0, .int 0, .long 0, .int 0])), (q0, .inl (cy 2, 41, .inr (.inl (fun _ => 0)))), (q1, .inl (cy 1, 25, .inl (fun _ => 0))), (q2, .inl (cy 2, 258, .inr (.inl (fun _ => 0)))), (q3, .inl (cy 2, 516, .inr (.inl (fun _ => 0)))), (q4, .inl (cy 0, 400, .inl (fun _ => 0))), (q5, .inl (cy 1, 35, .inl (fun _ => 0))), (q6, .inl (cy 1, 20, .inl (fun _ => 0))), (q7, .inl (cy 1, 40, .inl (fun _ => 0))), (q8, .inl (cy 1, 40, .inl (fun _ => 0)))]) rfl ?_
  refine n_putF (ref := "") (Cn := RX12) (T := TX12) (ty := tyX12 36) C hi 0 36 inX12 tyX12_ok nmX12 rfl tw_1247 rfl rfl (by decide) (by decide +kernel) rfl rfl (Nat.le_of_ble_eq_true rfl) d_X12_init_279 ?_
  refine n_eq (ws' := [(h0, .inr (11, [.ref q0, .int 0, .int 0, .int 0, .ref q1, .ref q2, .ref q3, .ref q4, .int 0, .int 0, .int 0, .int 0, .long 187429700, .long 326280, .long 8930039, .long 257, .long 11522, .long 841, .long 92275, .long 6476969, .long 240223, .long 10815598, .long 1065, .long 5528, .int 0, .int 0, .int 0, .ref q5, .ref q6, .long 0, .long 0, .long 0, .long 0, .int 0, .int 0, .ref q7, .ref q8, .null, .null, .null, .null, .null, .int 0, .int 0, .int 0, .long 0, .int 0, .null, .null, .null, .int 0, .long 0, .int 0, .long 0, .int 0])), (q0, .inl (cy 2, 41, .inr (.inl (fun _ => 0)))), (q1, .inl (cy 1, 25, .inl (fun _ => 0))), (q2, .inl (cy 2, 258, .inr (.inl (fun _ => 0)))), (q3, .inl (cy 2, 516, .inr (.inl (fun _ => 0)))), (q4, .inl (cy 0, 400, .inl (fun _ => 0))), (q5, .inl (cy 1, 35, .inl (fun _ => 0))), (q6, .inl (cy 1, 20, .inl (fun _ => 0))), (q7, .inl (cy 1, 40, .inl (fun _ => 0))), (q8, .inl (cy 1, 40, .inl (fun _ => 0)))]) rfl ?_
  refine n_aload_n (j := 0) C d_X12_init_282 rfl ?_
  refine n_sipush (v := 160) C d_X12_init_283 (by decide) ?_
  refine n_newa (atype := .int) (ty := .int) (N := 160) (a0 := (160, .inl (fun _ => 0))) C 1 tw_140 rfl rfl (fun _ => rfl) (by decide) (by decide +kernel) (by decide) (Nat.le_of_ble_eq_true rfl) (Nat.le_of_ble_eq_true rfl) d_X12_init_286 (fun q9 => ?_)
  refine n_eq (ws' := [(h0, .inr (11, [.ref q0, .int 0, .int 0, .int 0, .ref q1, .ref q2, .ref q3, .ref q4, .int 0, .int 0, .int 0, .int 0, .long 187429700, .long 326280, .long 8930039, .long 257, .long 11522, .long 841, .long 92275, .long 6476969, .long 240223, .long 10815598, .long 1065, .long 5528, .int 0, .int 0, .int 0, .ref q5, .ref q6, .long 0, .long 0, .long 0, .long 0, .int 0, .int 0, .ref q7, .ref q8, .null, .null, .null, .null, .null, .int 0, .int 0, .int 0, .long 0, .int 0, .null, .null, .null, .int 0, .long 0, .int 0, .long 0, .int 0])), (q0, .inl (cy 2, 41, .inr (.inl (fun _ => 0)))), (q1, .inl (cy 1, 25, .inl (fun _ => 0))), (q2, .inl (cy 2, 258, .inr (.inl (fun _ => 0)))), (q3, .inl (cy 2, 516, .inr (.inl (fun _ => 0)))), (q4, .inl (cy 0, 400, .inl (fun _ => 0))), (q5, .inl (cy 1, 35, .inl (fun _ => 0))), (q6, .inl (cy 1, 20, .inl (fun _ => 0))), (q7, .inl (cy 1, 40, .inl (fun _ => 0))), (q8, .inl (cy 1, 40, .inl (fun _ => 0))), (q9, .inl (cy 1, 160, .inl (fun _ => 0)))]) rfl ?_
  refine n_putF (ref := "") (Cn := RX12) (T := TX12) (ty := tyX12 37) C hi 0 37 inX12 tyX12_ok nmX12 rfl tw_1248 rfl rfl (by decide) (by decide +kernel) rfl rfl (Nat.le_of_ble_eq_true rfl) d_X12_init_288 ?_
  refine n_eq (ws' := [(h0, .inr (11, [.ref q0, .int 0, .int 0, .int 0, .ref q1, .ref q2, .ref q3, .ref q4, .int 0, .int 0, .int 0, .int 0, .long 187429700, .long 326280, .long 8930039, .long 257, .long 11522, .long 841, .long 92275, .long 6476969, .long 240223, .long 10815598, .long 1065, .long 5528, .int 0, .int 0, .int 0, .ref q5, .ref q6, .long 0, .long 0, .long 0, .long 0, .int 0, .int 0, .ref q7, .ref q8, .ref q9, .null, .null, .null, .null, .int 0, .int 0, .int 0, .long 0, .int 0, .null, .null, .null, .int 0, .long 0, .int 0, .long 0, .int 0])), (q0, .inl (cy 2, 41, .inr (.inl (fun _ => 0)))), (q1, .inl (cy 1, 25, .inl (fun _ => 0))), (q2, .inl (cy 2, 258, .inr (.inl (fun _ => 0)))), (q3, .inl (cy 2, 516, .inr (.inl (fun _ => 0)))), (q4, .inl (cy 0, 400, .inl (fun _ => 0))), (q5, .inl (cy 1, 35, .inl (fun _ => 0))), (q6, .inl (cy 1, 20, .inl (fun _ => 0))), (q7, .inl (cy 1, 40, .inl (fun _ => 0))), (q8, .inl (cy 1, 40, .inl (fun _ => 0))), (q9, .inl (cy 1, 160, .inl (fun _ => 0)))]) rfl ?_
  refine n_aload_n (j := 0) C d_X12_init_291 rfl ?_
  refine n_bipush (v := 40) C d_X12_init_292 (by decide) ?_
  refine n_newa (atype := .int) (ty := .int) (N := 40) (a0 := (40, .inl (fun _ => 0))) C 1 tw_140 rfl rfl (fun _ => rfl) (by decide) (by decide +kernel) (by decide) (Nat.le_of_ble_eq_true rfl) (Nat.le_of_ble_eq_true rfl) d_X12_init_294 (fun q10 => ?_)
  refine n_eq (ws' := [(h0, .inr (11, [.ref q0, .int 0, .int 0, .int 0, .ref q1, .ref q2, .ref q3, .ref q4, .int 0, .int 0, .int 0, .int 0, .long 187429700, .long 326280, .long 8930039, .long 257, .long 11522, .long 841, .long 92275, .long 6476969, .long 240223, .long 10815598, .long 1065, .long 5528, .int 0, .int 0, .int 0, .ref q5, .ref q6, .long 0, .long 0, .long 0, .long 0, .int 0, .int 0, .ref q7, .ref q8, .ref q9, .null, .null, .null, .null, .int 0, .int 0, .int 0, .long 0, .int 0, .null, .null, .null, .int 0, .long 0, .int 0, .long 0, .int 0])), (q0, .inl (cy 2, 41, .inr (.inl (fun _ => 0)))), (q1, .inl (cy 1, 25, .inl (fun _ => 0))), (q2, .inl (cy 2, 258, .inr (.inl (fun _ => 0)))), (q3, .inl (cy 2, 516, .inr (.inl (fun _ => 0)))), (q4, .inl (cy 0, 400, .inl (fun _ => 0))), (q5, .inl (cy 1, 35, .inl (fun _ => 0))), (q6, .inl (cy 1, 20, .inl (fun _ => 0))), (q7, .inl (cy 1, 40, .inl (fun _ => 0))), (q8, .inl (cy 1, 40, .inl (fun _ => 0))), (q9, .inl (cy 1, 160, .inl (fun _ => 0))), (q10, .inl (cy 1, 40, .inl (fun _ => 0)))]) rfl ?_
  refine n_putF (ref := "") (Cn := RX12) (T := TX12) (ty := tyX12 38) C hi 0 38 inX12 tyX12_ok nmX12 rfl tw_1249 rfl rfl (by decide) (by decide +kernel) rfl rfl (Nat.le_of_ble_eq_true rfl) d_X12_init_296 ?_
  refine n_eq (ws' := [(h0, .inr (11, [.ref q0, .int 0, .int 0, .int 0, .ref q1, .ref q2, .ref q3, .ref q4, .int 0, .int 0, .int 0, .int 0, .long 187429700, .long 326280, .long 8930039, .long 257, .long 11522, .long 841, .long 92275, .long 6476969, .long 240223, .long 10815598, .long 1065, .long 5528, .int 0, .int 0, .int 0, .ref q5, .ref q6, .long 0, .long 0, .long 0, .long 0, .int 0, .int 0, .ref q7, .ref q8, .ref q9, .ref q10, .null, .null, .null, .int 0, .int 0, .int 0, .long 0, .int 0, .null, .null, .null, .int 0, .long 0, .int 0, .long 0, .int 0])), (q0, .inl (cy 2, 41, .inr (.inl (fun _ => 0)))), (q1, .inl (cy 1, 25, .inl (fun _ => 0))), (q2, .inl (cy 2, 258, .inr (.inl (fun _ => 0)))), (q3, .inl (cy 2, 516, .inr (.inl (fun _ => 0)))), (q4, .inl (cy 0, 400, .inl (fun _ => 0))), (q5, .inl (cy 1, 35, .inl (fun _ => 0))), (q6, .inl (cy 1, 20, .inl (fun _ => 0))), (q7, .inl (cy 1, 40, .inl (fun _ => 0))), (q8, .inl (cy 1, 40, .inl (fun _ => 0))), (q9, .inl (cy 1, 160, .inl (fun _ => 0))), (q10, .inl (cy 1, 40, .inl (fun _ => 0)))]) rfl ?_
  refine n_aload_n (j := 0) C d_X12_init_299 rfl ?_
  refine n_bipush (v := 40) C d_X12_init_300 (by decide) ?_
  refine n_newa (atype := .int) (ty := .int) (N := 40) (a0 := (40, .inl (fun _ => 0))) C 1 tw_140 rfl rfl (fun _ => rfl) (by decide) (by decide +kernel) (by decide) (Nat.le_of_ble_eq_true rfl) (Nat.le_of_ble_eq_true rfl) d_X12_init_302 (fun q11 => ?_)
  refine n_eq (ws' := [(h0, .inr (11, [.ref q0, .int 0, .int 0, .int 0, .ref q1, .ref q2, .ref q3, .ref q4, .int 0, .int 0, .int 0, .int 0, .long 187429700, .long 326280, .long 8930039, .long 257, .long 11522, .long 841, .long 92275, .long 6476969, .long 240223, .long 10815598, .long 1065, .long 5528, .int 0, .int 0, .int 0, .ref q5, .ref q6, .long 0, .long 0, .long 0, .long 0, .int 0, .int 0, .ref q7, .ref q8, .ref q9, .ref q10, .null, .null, .null, .int 0, .int 0, .int 0, .long 0, .int 0, .null, .null, .null, .int 0, .long 0, .int 0, .long 0, .int 0])), (q0, .inl (cy 2, 41, .inr (.inl (fun _ => 0)))), (q1, .inl (cy 1, 25, .inl (fun _ => 0))), (q2, .inl (cy 2, 258, .inr (.inl (fun _ => 0)))), (q3, .inl (cy 2, 516, .inr (.inl (fun _ => 0)))), (q4, .inl (cy 0, 400, .inl (fun _ => 0))), (q5, .inl (cy 1, 35, .inl (fun _ => 0))), (q6, .inl (cy 1, 20, .inl (fun _ => 0))), (q7, .inl (cy 1, 40, .inl (fun _ => 0))), (q8, .inl (cy 1, 40, .inl (fun _ => 0))), (q9, .inl (cy 1, 160, .inl (fun _ => 0))), (q10, .inl (cy 1, 40, .inl (fun _ => 0))), (q11, .inl (cy 1, 40, .inl (fun _ => 0)))]) rfl ?_
  refine n_putF (ref := "") (Cn := RX12) (T := TX12) (ty := tyX12 39) C hi 0 39 inX12 tyX12_ok nmX12 rfl tw_1250 rfl rfl (by decide) (by decide +kernel) rfl rfl (Nat.le_of_ble_eq_true rfl) d_X12_init_304 ?_
  refine n_eq (ws' := [(h0, .inr (11, [.ref q0, .int 0, .int 0, .int 0, .ref q1, .ref q2, .ref q3, .ref q4, .int 0, .int 0, .int 0, .int 0, .long 187429700, .long 326280, .long 8930039, .long 257, .long 11522, .long 841, .long 92275, .long 6476969, .long 240223, .long 10815598, .long 1065, .long 5528, .int 0, .int 0, .int 0, .ref q5, .ref q6, .long 0, .long 0, .long 0, .long 0, .int 0, .int 0, .ref q7, .ref q8, .ref q9, .ref q10, .ref q11, .null, .null, .int 0, .int 0, .int 0, .long 0, .int 0, .null, .null, .null, .int 0, .long 0, .int 0, .long 0, .int 0])), (q0, .inl (cy 2, 41, .inr (.inl (fun _ => 0)))), (q1, .inl (cy 1, 25, .inl (fun _ => 0))), (q2, .inl (cy 2, 258, .inr (.inl (fun _ => 0)))), (q3, .inl (cy 2, 516, .inr (.inl (fun _ => 0)))), (q4, .inl (cy 0, 400, .inl (fun _ => 0))), (q5, .inl (cy 1, 35, .inl (fun _ => 0))), (q6, .inl (cy 1, 20, .inl (fun _ => 0))), (q7, .inl (cy 1, 40, .inl (fun _ => 0))), (q8, .inl (cy 1, 40, .inl (fun _ => 0))), (q9, .inl (cy 1, 160, .inl (fun _ => 0))), (q10, .inl (cy 1, 40, .inl (fun _ => 0))), (q11, .inl (cy 1, 40, .inl (fun _ => 0)))]) rfl ?_
  refine n_aload_n (j := 0) C d_X12_init_307 rfl ?_
  refine n_bipush (v := 7) C d_X12_init_308 (by decide) ?_
  refine n_newa (atype := .long) (ty := .long) (N := 7) (a0 := (7, .inr (.inl (fun _ => 0)))) C 2 tw_189 rfl rfl (fun _ => rfl) (by decide) (by decide +kernel) (by decide) (Nat.le_of_ble_eq_true rfl) (Nat.le_of_ble_eq_true rfl) d_X12_init_310 (fun q12 => ?_)
  refine n_eq (ws' := [(h0, .inr (11, [.ref q0, .int 0, .int 0, .int 0, .ref q1, .ref q2, .ref q3, .ref q4, .int 0, .int 0, .int 0, .int 0, .long 187429700, .long 326280, .long 8930039, .long 257, .long 11522, .long 841, .long 92275, .long 6476969, .long 240223, .long 10815598, .long 1065, .long 5528, .int 0, .int 0, .int 0, .ref q5, .ref q6, .long 0, .long 0, .long 0, .long 0, .int 0, .int 0, .ref q7, .ref q8, .ref q9, .ref q10, .ref q11, .null, .null, .int 0, .int 0, .int 0, .long 0, .int 0, .null, .null, .null, .int 0, .long 0, .int 0, .long 0, .int 0])), (q0, .inl (cy 2, 41, .inr (.inl (fun _ => 0)))), (q1, .inl (cy 1, 25, .inl (fun _ => 0))), (q2, .inl (cy 2, 258, .inr (.inl (fun _ => 0)))), (q3, .inl (cy 2, 516, .inr (.inl (fun _ => 0)))), (q4, .inl (cy 0, 400, .inl (fun _ => 0))), (q5, .inl (cy 1, 35, .inl (fun _ => 0))), (q6, .inl (cy 1, 20, .inl (fun _ => 0))), (q7, .inl (cy 1, 40, .inl (fun _ => 0))), (q8, .inl (cy 1, 40, .inl (fun _ => 0))), (q9, .inl (cy 1, 160, .inl (fun _ => 0))), (q10, .inl (cy 1, 40, .inl (fun _ => 0))), (q11, .inl (cy 1, 40, .inl (fun _ => 0))), (q12, .inl (cy 2, 7, .inr (.inl (fun _ => 0))))]) rfl ?_
  refine n_dup C rfl d_X12_init_312 ?_
  refine n_iconst (v := 0) C d_X12_init_313 (by decide) ?_
  refine n_aload_n (j := 0) C d_X12_init_314 rfl ?_
  refine n_get (Cn := RX12) (T := TX12) C 0 15 inX12 rfl tw_1226 rfl rfl (by decide) rfl d_X12_init_315 ?_
  refine n_last (j := 0) C 13 rfl (inb_vp (by decide)) (by decide) d_X12_init_318 ?_
  refine n_eq (ws' := [(h0, .inr (11, [.ref q0, .int 0, .int 0, .int 0, .ref q1, .ref q2, .ref q3, .ref q4, .int 0, .int 0, .int 0, .int 0, .long 187429700, .long 326280, .long 8930039, .long 257, .long 11522, .long 841, .long 92275, .long 6476969, .long 240223, .long 10815598, .long 1065, .long 5528, .int 0, .int 0, .int 0, .ref q5, .ref q6, .long 0, .long 0, .long 0, .long 0, .int 0, .int 0, .ref q7, .ref q8, .ref q9, .ref q10, .ref q11, .null, .null, .int 0, .int 0, .int 0, .long 0, .int 0, .null, .null, .null, .int 0, .long 0, .int 0, .long 0, .int 0])), (q0, .inl (cy 2, 41, .inr (.inl (fun _ => 0)))), (q1, .inl (cy 1, 25, .inl (fun _ => 0))), (q2, .inl (cy 2, 258, .inr (.inl (fun _ => 0)))), (q3, .inl (cy 2, 516, .inr (.inl (fun _ => 0)))), (q4, .inl (cy 0, 400, .inl (fun _ => 0))), (q5, .inl (cy 1, 35, .inl (fun _ => 0))), (q6, .inl (cy 1, 20, .inl (fun _ => 0))), (q7, .inl (cy 1, 40, .inl (fun _ => 0))), (q8, .inl (cy 1, 40, .inl (fun _ => 0))), (q9, .inl (cy 1, 160, .inl (fun _ => 0))), (q10, .inl (cy 1, 40, .inl (fun _ => 0))), (q11, .inl (cy 1, 40, .inl (fun _ => 0))), (q12, .inl (cy 2, 7, .inr (.inl (vp_updL (fun _ => 0) 0 257))))]) rfl ?_
  refine n_dup C rfl d_X12_init_319 ?_
  refine n_iconst (v := 1) C d_X12_init_320 (by decide) ?_
  refine n_aload_n (j := 0) C d_X12_init_321 rfl ?_
  refine n_get (Cn := RX12) (T := TX12) C 0 16 inX12 rfl tw_1227 rfl rfl (by decide) rfl d_X12_init_322 ?_
  refine n_last (j := 1) C 13 rfl (inb_vp (by decide)) (by decide) d_X12_init_325 ?_
  refine n_eq (ws' := [(h0, .inr (11, [.ref q0, .int 0, .int 0, .int 0, .ref q1, .ref q2, .ref q3, .ref q4, .int 0, .int 0, .int 0, .int 0, .long 187429700, .long 326280, .long 8930039, .long 257, .long 11522, .long 841, .long 92275, .long 6476969, .long 240223, .long 10815598, .long 1065, .long 5528, .int 0, .int 0, .int 0, .ref q5, .ref q6, .long 0, .long 0, .long 0, .long 0, .int 0, .int 0, .ref q7, .ref q8, .ref q9, .ref q10, .ref q11, .null, .null, .int 0, .int 0, .int 0, .long 0, .int 0, .null, .null, .null, .int 0, .long 0, .int 0, .long 0, .int 0])), (q0, .inl (cy 2, 41, .inr (.inl (fun _ => 0)))), (q1, .inl (cy 1, 25, .inl (fun _ => 0))), (q2, .inl (cy 2, 258, .inr (.inl (fun _ => 0)))), (q3, .inl (cy 2, 516, .inr (.inl (fun _ => 0)))), (q4, .inl (cy 0, 400, .inl (fun _ => 0))), (q5, .inl (cy 1, 35, .inl (fun _ => 0))), (q6, .inl (cy 1, 20, .inl (fun _ => 0))), (q7, .inl (cy 1, 40, .inl (fun _ => 0))), (q8, .inl (cy 1, 40, .inl (fun _ => 0))), (q9, .inl (cy 1, 160, .inl (fun _ => 0))), (q10, .inl (cy 1, 40, .inl (fun _ => 0))), (q11, .inl (cy 1, 40, .inl (fun _ => 0))), (q12, .inl (cy 2, 7, .inr (.inl (vp_updL (vp_updL (fun _ => 0) 0 257) 1 11522))))]) rfl ?_
  refine n_dup C rfl d_X12_init_326 ?_
  refine n_iconst (v := 2) C d_X12_init_327 (by decide) ?_
  refine n_aload_n (j := 0) C d_X12_init_328 rfl ?_
  refine n_get (Cn := RX12) (T := TX12) C 0 17 inX12 rfl tw_1228 rfl rfl (by decide) rfl d_X12_init_329 ?_
  refine n_last (j := 2) C 13 rfl (inb_vp (by decide)) (by decide) d_X12_init_332 ?_
  refine n_eq (ws' := [(h0, .inr (11, [.ref q0, .int 0, .int 0, .int 0, .ref q1, .ref q2, .ref q3, .ref q4, .int 0, .int 0, .int 0, .int 0, .long 187429700, .long 326280, .long 8930039, .long 257, .long 11522, .long 841, .long 92275, .long 6476969, .long 240223, .long 10815598, .long 1065, .long 5528, .int 0, .int 0, .int 0, .ref q5, .ref q6, .long 0, .long 0, .long 0, .long 0, .int 0, .int 0, .ref q7, .ref q8, .ref q9, .ref q10, .ref q11, .null, .null, .int 0, .int 0, .int 0, .long 0, .int 0, .null, .null, .null, .int 0, .long 0, .int 0, .long 0, .int 0])), (q0, .inl (cy 2, 41, .inr (.inl (fun _ => 0)))), (q1, .inl (cy 1, 25, .inl (fun _ => 0))), (q2, .inl (cy 2, 258, .inr (.inl (fun _ => 0)))), (q3, .inl (cy 2, 516, .inr (.inl (fun _ => 0)))), (q4, .inl (cy 0, 400, .inl (fun _ => 0))), (q5, .inl (cy 1, 35, .inl (fun _ => 0))), (q6, .inl (cy 1, 20, .inl (fun _ => 0))), (q7, .inl (cy 1, 40, .inl (fun _ => 0))), (q8, .inl (cy 1, 40, .inl (fun _ => 0))), (q9, .inl (cy 1, 160, .inl (fun _ => 0))), (q10, .inl (cy 1, 40, .inl (fun _ => 0))), (q11, .inl (cy 1, 40, .inl (fun _ => 0))), (q12, .inl (cy 2, 7, .inr (.inl (vp_updL (vp_updL (vp_updL (fun _ => 0) 0 257) 1 11522) 2 841))))]) rfl ?_
  refine n_dup C rfl d_X12_init_333 ?_
  refine n_iconst (v := 3) C d_X12_init_334 (by decide) ?_
  refine n_aload_n (j := 0) C d_X12_init_335 rfl ?_
  refine n_get (Cn := RX12) (T := TX12) C 0 18 inX12 rfl tw_1229 rfl rfl (by decide) rfl d_X12_init_336 ?_
  refine n_last (j := 3) C 13 rfl (inb_vp (by decide)) (by decide) d_X12_init_339 ?_
  refine n_eq (ws' := [(h0, .inr (11, [.ref q0, .int 0, .int 0, .int 0, .ref q1, .ref q2, .ref q3, .ref q4, .int 0, .int 0, .int 0, .int 0, .long 187429700, .long 326280, .long 8930039, .long 257, .long 11522, .long 841, .long 92275, .long 6476969, .long 240223, .long 10815598, .long 1065, .long 5528, .int 0, .int 0, .int 0, .ref q5, .ref q6, .long 0, .long 0, .long 0, .long 0, .int 0, .int 0, .ref q7, .ref q8, .ref q9, .ref q10, .ref q11, .null, .null, .int 0, .int 0, .int 0, .long 0, .int 0, .null, .null, .null, .int 0, .long 0, .int 0, .long 0, .int 0])), (q0, .inl (cy 2, 41, .inr (.inl (fun _ => 0)))), (q1, .inl (cy 1, 25, .inl (fun _ => 0))), (q2, .inl (cy 2, 258, .inr (.inl (fun _ => 0)))), (q3, .inl (cy 2, 516, .inr (.inl (fun _ => 0)))), (q4, .inl (cy 0, 400, .inl (fun _ => 0))), (q5, .inl (cy 1, 35, .inl (fun _ => 0))), (q6, .inl (cy 1, 20, .inl (fun _ => 0))), (q7, .inl (cy 1, 40, .inl (fun _ => 0))), (q8, .inl (cy 1, 40, .inl (fun _ => 0))), (q9, .inl (cy 1, 160, .inl (fun _ => 0))), (q10, .inl (cy 1, 40, .inl (fun _ => 0))), (q11, .inl (cy 1, 40, .inl (fun _ => 0))), (q12, .inl (cy 2, 7, .inr (.inl (vp_updL (vp_updL (vp_updL (vp_updL (fun _ => 0) 0 257) 1 11522) 2 841) 3 92275))))]) rfl ?_
  refine n_dup C rfl d_X12_init_340 ?_
  refine n_iconst (v := 4) C d_X12_init_341 (by decide) ?_
  refine n_aload_n (j := 0) C d_X12_init_342 rfl ?_
  refine n_get (Cn := RX12) (T := TX12) C 0 19 inX12 rfl tw_1230 rfl rfl (by decide) rfl d_X12_init_343 ?_
  refine n_last (j := 4) C 13 rfl (inb_vp (by decide)) (by decide) d_X12_init_346 ?_
  refine n_eq (ws' := [(h0, .inr (11, [.ref q0, .int 0, .int 0, .int 0, .ref q1, .ref q2, .ref q3, .ref q4, .int 0, .int 0, .int 0, .int 0, .long 187429700, .long 326280, .long 8930039, .long 257, .long 11522, .long 841, .long 92275, .long 6476969, .long 240223, .long 10815598, .long 1065, .long 5528, .int 0, .int 0, .int 0, .ref q5, .ref q6, .long 0, .long 0, .long 0, .long 0, .int 0, .int 0, .ref q7, .ref q8, .ref q9, .ref q10, .ref q11, .null, .null, .int 0, .int 0, .int 0, .long 0, .int 0, .null, .null, .null, .int 0, .long 0, .int 0, .long 0, .int 0])), (q0, .inl (cy 2, 41, .inr (.inl (fun _ => 0)))), (q1, .inl (cy 1, 25, .inl (fun _ => 0))), (q2, .inl (cy 2, 258, .inr (.inl (fun _ => 0)))), (q3, .inl (cy 2, 516, .inr (.inl (fun _ => 0)))), (q4, .inl (cy 0, 400, .inl (fun _ => 0))), (q5, .inl (cy 1, 35, .inl (fun _ => 0))), (q6, .inl (cy 1, 20, .inl (fun _ => 0))), (q7, .inl (cy 1, 40, .inl (fun _ => 0))), (q8, .inl (cy 1, 40, .inl (fun _ => 0))), (q9, .inl (cy 1, 160, .inl (fun _ => 0))), (q10, .inl (cy 1, 40, .inl (fun _ => 0))), (q11, .inl (cy 1, 40, .inl (fun _ => 0))), (q12, .inl (cy 2, 7, .inr (.inl (vp_updL (vp_updL (vp_updL (vp_updL (vp_updL (fun _ => 0) 0 257) 1 11522) 2 841) 3 92275) 4 6476969))))]) rfl ?_
  refine n_dup C rfl d_X12_init_347 ?_
  refine n_iconst (v := 5) C d_X12_init_348 (by decide) ?_
  refine n_aload_n (j := 0) C d_X12_init_349 rfl ?_
  refine n_get (Cn := RX12) (T := TX12) C 0 20 inX12 rfl tw_1231 rfl rfl (by decide) rfl d_X12_init_350 ?_
  refine n_last (j := 5) C 13 rfl (inb_vp (by decide)) (by decide) d_X12_init_353 ?_
  refine n_eq (ws' := [(h0, .inr (11, [.ref q0, .int 0, .int 0, .int 0, .ref q1, .ref q2, .ref q3, .ref q4, .int 0, .int 0, .int 0, .int 0, .long 187429700, .long 326280, .long 8930039, .long 257, .long 11522, .long 841, .long 92275, .long 6476969, .long 240223, .long 10815598, .long 1065, .long 5528, .int 0, .int 0, .int 0, .ref q5, .ref q6, .long 0, .long 0, .long 0, .long 0, .int 0, .int 0, .ref q7, .ref q8, .ref q9, .ref q10, .ref q11, .null, .null, .int 0, .int 0, .int 0, .long 0, .int 0, .null, .null, .null, .int 0, .long 0, .int 0, .long 0, .int 0])), (q0, .inl (cy 2, 41, .inr (.inl (fun _ => 0)))), (q1, .inl (cy 1, 25, .inl (fun _ => 0))), (q2, .inl (cy 2, 258, .inr (.inl (fun _ => 0)))), (q3, .inl (cy 2, 516, .inr (.inl (fun _ => 0)))), (q4, .inl (cy 0, 400, .inl (fun _ => 0))), (q5, .inl (cy 1, 35, .inl (fun _ => 0))), (q6, .inl (cy 1, 20, .inl (fun _ => 0))), (q7, .inl (cy 1, 40, .inl (fun _ => 0))), (q8, .inl (cy 1, 40, .inl (fun _ => 0))), (q9, .inl (cy 1, 160, .inl (fun _ => 0))), (q10, .inl (cy 1, 40, .inl (fun _ => 0))), (q11, .inl (cy 1, 40, .inl (fun _ => 0))), (q12, .inl (cy 2, 7, .inr (.inl (vp_updL (vp_updL (vp_updL (vp_updL (vp_updL (vp_updL (fun _ => 0) 0 257) 1 11522) 2 841) 3 92275) 4 6476969) 5 240223))))]) rfl ?_
  refine n_dup C rfl d_X12_init_354 ?_
  refine n_bipush (v := 6) C d_X12_init_355 (by decide) ?_
  refine n_aload_n (j := 0) C d_X12_init_357 rfl ?_
  refine n_get (Cn := RX12) (T := TX12) C 0 21 inX12 rfl tw_1232 rfl rfl (by decide) rfl d_X12_init_358 ?_
  refine n_last (j := 6) C 13 rfl (inb_vp (by decide)) (by decide) d_X12_init_361 ?_
  refine n_eq (ws' := [(h0, .inr (11, [.ref q0, .int 0, .int 0, .int 0, .ref q1, .ref q2, .ref q3, .ref q4, .int 0, .int 0, .int 0, .int 0, .long 187429700, .long 326280, .long 8930039, .long 257, .long 11522, .long 841, .long 92275, .long 6476969, .long 240223, .long 10815598, .long 1065, .long 5528, .int 0, .int 0, .int 0, .ref q5, .ref q6, .long 0, .long 0, .long 0, .long 0, .int 0, .int 0, .ref q7, .ref q8, .ref q9, .ref q10, .ref q11, .null, .null, .int 0, .int 0, .int 0, .long 0, .int 0, .null, .null, .null, .int 0, .long 0, .int 0, .long 0, .int 0])), (q0, .inl (cy 2, 41, .inr (.inl (fun _ => 0)))), (q1, .inl (cy 1, 25, .inl (fun _ => 0))), (q2, .inl (cy 2, 258, .inr (.inl (fun _ => 0)))), (q3, .inl (cy 2, 516, .inr (.inl (fun _ => 0)))), (q4, .inl (cy 0, 400, .inl (fun _ => 0))), (q5, .inl (cy 1, 35, .inl (fun _ => 0))), (q6, .inl (cy 1, 20, .inl (fun _ => 0))), (q7, .inl (cy 1, 40, .inl (fun _ => 0))), (q8, .inl (cy 1, 40, .inl (fun _ => 0))), (q9, .inl (cy 1, 160, .inl (fun _ => 0))), (q10, .inl (cy 1, 40, .inl (fun _ => 0))), (q11, .inl (cy 1, 40, .inl (fun _ => 0))), (q12, .inl (cy 2, 7, .inr (.inl (vp_updL (vp_updL (vp_updL (vp_updL (vp_updL (vp_updL (vp_updL (fun _ => 0) 0 257) 1 11522) 2 841) 3 92275) 4 6476969) 5 240223) 6 10815598))))]) rfl ?_
  refine n_putF (ref := "") (Cn := RX12) (T := TX12) (ty := tyX12 40) C hi 0 40 inX12 tyX12_ok nmX12 rfl tw_1251 rfl rfl (by decide) (by decide +kernel) rfl rfl (Nat.le_of_ble_eq_true rfl) d_X12_init_362 ?_
  refine n_eq (ws' := [(h0, .inr (11, [.ref q0, .int 0, .int 0, .int 0, .ref q1, .ref q2, .ref q3, .ref q4, .int 0, .int 0, .int 0, .int 0, .long 187429700, .long 326280, .long 8930039, .long 257, .long 11522, .long 841, .long 92275, .long 6476969, .long 240223, .long 10815598, .long 1065, .long 5528, .int 0, .int 0, .int 0, .ref q5, .ref q6, .long 0, .long 0, .long 0, .long 0, .int 0, .int 0, .ref q7, .ref q8, .ref q9, .ref q10, .ref q11, .ref q12, .null, .int 0, .int 0, .int 0, .long 0, .int 0, .null, .null, .null, .int 0, .long 0, .int 0, .long 0, .int 0])), (q0, .inl (cy 2, 41, .inr (.inl (fun _ => 0)))), (q1, .inl (cy 1, 25, .inl (fun _ => 0))), (q2, .inl (cy 2, 258, .inr (.inl (fun _ => 0)))), (q3, .inl (cy 2, 516, .inr (.inl (fun _ => 0)))), (q4, .inl (cy 0, 400, .inl (fun _ => 0))), (q5, .inl (cy 1, 35, .inl (fun _ => 0))), (q6, .inl (cy 1, 20, .inl (fun _ => 0))), (q7, .inl (cy 1, 40, .inl (fun _ => 0))), (q8, .inl (cy 1, 40, .inl (fun _ => 0))), (q9, .inl (cy 1, 160, .inl (fun _ => 0))), (q10, .inl (cy 1, 40, .inl (fun _ => 0))), (q11, .inl (cy 1, 40, .inl (fun _ => 0))), (q12, .inl (cy 2, 7, .inr (.inl (vp_updL (vp_updL (vp_updL (vp_updL (vp_updL (vp_updL (vp_updL (fun _ => 0) 0 257) 1 11522) 2 841) 3 92275) 4 6476969) 5 240223) 6 10815598))))]) rfl ?_
  refine n_aload_n (j := 0) C d_X12_init_365 rfl ?_
  refine n_iconst (v := 4) C d_X12_init_366 (by decide) ?_
  refine n_newa (atype := .int) (ty := .int) (N := 4) (a0 := (4, .inl (fun _ => 0))) C 1 tw_140 rfl rfl (fun _ => rfl) (by decide) (by decide +kernel) (by decide) (Nat.le_of_ble_eq_true rfl) (Nat.le_of_ble_eq_true rfl) d_X12_init_367 (fun q13 => ?_)
  refine n_eq (ws' := [(h0, .inr (11, [.ref q0, .int 0, .int 0, .int 0, .ref q1, .ref q2, .ref q3, .ref q4, .int 0, .int 0, .int 0, .int 0, .long 187429700, .long 326280, .long 8930039, .long 257, .long 11522, .long 841, .long 92275, .long 6476969, .long 240223, .long 10815598, .long 1065, .long 5528, .int 0, .int 0, .int 0, .ref q5, .ref q6, .long 0, .long 0, .long 0, .long 0, .int 0, .int 0, .ref q7, .ref q8, .ref q9, .ref q10, .ref q11, .ref q12, .null, .int 0, .int 0, .int 0, .long 0, .int 0, .null, .null, .null, .int 0, .long 0, .int 0, .long 0, .int 0])), (q0, .inl (cy 2, 41, .inr (.inl (fun _ => 0)))), (q1, .inl (cy 1, 25, .inl (fun _ => 0))), (q2, .inl (cy 2, 258, .inr (.inl (fun _ => 0)))), (q3, .inl (cy 2, 516, .inr (.inl (fun _ => 0)))), (q4, .inl (cy 0, 400, .inl (fun _ => 0))), (q5, .inl (cy 1, 35, .inl (fun _ => 0))), (q6, .inl (cy 1, 20, .inl (fun _ => 0))), (q7, .inl (cy 1, 40, .inl (fun _ => 0))), (q8, .inl (cy 1, 40, .inl (fun _ => 0))), (q9, .inl (cy 1, 160, .inl (fun _ => 0))), (q10, .inl (cy 1, 40, .inl (fun _ => 0))), (q11, .inl (cy 1, 40, .inl (fun _ => 0))), (q12, .inl (cy 2, 7, .inr (.inl (vp_updL (vp_updL (vp_updL (vp_updL (vp_updL (vp_updL (vp_updL (fun _ => 0) 0 257) 1 11522) 2 841) 3 92275) 4 6476969) 5 240223) 6 10815598)))), (q13, .inl (cy 1, 4, .inl (fun _ => 0)))]) rfl ?_
  refine n_putF (ref := "") (Cn := RX12) (T := TX12) (ty := tyX12 41) C hi 0 41 inX12 tyX12_ok nmX12 rfl tw_1252 rfl rfl (by decide) (by decide +kernel) rfl rfl (Nat.le_of_ble_eq_true rfl) d_X12_init_369 ?_
  refine n_eq (ws' := [(h0, .inr (11, [.ref q0, .int 0, .int 0, .int 0, .ref q1, .ref q2, .ref q3, .ref q4, .int 0, .int 0, .int 0, .int 0, .long 187429700, .long 326280, .long 8930039, .long 257, .long 11522, .long 841, .long 92275, .long 6476969, .long 240223, .long 10815598, .long 1065, .long 5528, .int 0, .int 0, .int 0, .ref q5, .ref q6, .long 0, .long 0, .long 0, .long 0, .int 0, .int 0, .ref q7, .ref q8, .ref q9, .ref q10, .ref q11, .ref q12, .ref q13, .int 0, .int 0, .int 0, .long 0, .int 0, .null, .null, .null, .int 0, .long 0, .int 0, .long 0, .int 0])), (q0, .inl (cy 2, 41, .inr (.inl (fun _ => 0)))), (q1, .inl (cy 1, 25, .inl (fun _ => 0))), (q2, .inl (cy 2, 258, .inr (.inl (fun _ => 0)))), (q3, .inl (cy 2, 516, .inr (.inl (fun _ => 0)))), (q4, .inl (cy 0, 400, .inl (fun _ => 0))), (q5, .inl (cy 1, 35, .inl (fun _ => 0))), (q6, .inl (cy 1, 20, .inl (fun _ => 0))), (q7, .inl (cy 1, 40, .inl (fun _ => 0))), (q8, .inl (cy 1, 40, .inl (fun _ => 0))), (q9, .inl (cy 1, 160, .inl (fun _ => 0))), (q10, .inl (cy 1, 40, .inl (fun _ => 0))), (q11, .inl (cy 1, 40, .inl (fun _ => 0))), (q12, .inl (cy 2, 7, .inr (.inl (vp_updL (vp_updL (vp_updL (vp_updL (vp_updL (vp_updL (vp_updL (fun _ => 0) 0 257) 1 11522) 2 841) 3 92275) 4 6476969) 5 240223) 6 10815598)))), (q13, .inl (cy 1, 4, .inl (fun _ => 0)))]) rfl ?_
  refine n_aload_n (j := 0) C d_X12_init_372 rfl ?_
  refine n_iconst (v := 4) C d_X12_init_373 (by decide) ?_
  refine n_newa (atype := .int) (ty := .int) (N := 4) (a0 := (4, .inl (fun _ => 0))) C 1 tw_140 rfl rfl (fun _ => rfl) (by decide) (by decide +kernel) (by decide) (Nat.le_of_ble_eq_true rfl) (Nat.le_of_ble_eq_true rfl) d_X12_init_374 (fun q14 => ?_)
  refine n_eq (ws' := [(h0, .inr (11, [.ref q0, .int 0, .int 0, .int 0, .ref q1, .ref q2, .ref q3, .ref q4, .int 0, .int 0, .int 0, .int 0, .long 187429700, .long 326280, .long 8930039, .long 257, .long 11522, .long 841, .long 92275, .long 6476969, .long 240223, .long 10815598, .long 1065, .long 5528, .int 0, .int 0, .int 0, .ref q5, .ref q6, .long 0, .long 0, .long 0, .long 0, .int 0, .int 0, .ref q7, .ref q8, .ref q9, .ref q10, .ref q11, .ref q12, .ref q13, .int 0, .int 0, .int 0, .long 0, .int 0, .null, .null, .null, .int 0, .long 0, .int 0, .long 0, .int 0])), (q0, .inl (cy 2, 41, .inr (.inl (fun _ => 0)))), (q1, .inl (cy 1, 25, .inl (fun _ => 0))), (q2, .inl (cy 2, 258, .inr (.inl (fun _ => 0)))), (q3, .inl (cy 2, 516, .inr (.inl (fun _ => 0)))), (q4, .inl (cy 0, 400, .inl (fun _ => 0))), (q5, .inl (cy 1, 35, .inl (fun _ => 0))), (q6, .inl (cy 1, 20, .inl (fun _ => 0))), (q7, .inl (cy 1, 40, .inl (fun _ => 0))), (q8, .inl (cy 1, 40, .inl (fun _ => 0))), (q9, .inl (cy 1, 160, .inl (fun _ => 0))), (q10, .inl (cy 1, 40, .inl (fun _ => 0))), (q11, .inl (cy 1, 40, .inl (fun _ => 0))), (q12, .inl (cy 2, 7, .inr (.inl (vp_updL (vp_updL (vp_updL (vp_updL (vp_updL (vp_updL (vp_updL (fun _ => 0) 0 257) 1 11522) 2 841) 3 92275) 4 6476969) 5 240223) 6 10815598)))), (q13, .inl (cy 1, 4, .inl (fun _ => 0))), (q14, .inl (cy 1, 4, .inl (fun _ => 0)))]) rfl ?_
  refine n_putF (ref := "") (Cn := RX12) (T := TX12) (ty := tyX12 47) C hi 0 47 inX12 tyX12_ok nmX12 rfl tw_1258 rfl rfl (by decide) (by decide +kernel) rfl rfl (Nat.le_of_ble_eq_true rfl) d_X12_init_376 ?_
  refine n_eq (ws' := [(h0, .inr (11, [.ref q0, .int 0, .int 0, .int 0, .ref q1, .ref q2, .ref q3, .ref q4, .int 0, .int 0, .int 0, .int 0, .long 187429700, .long 326280, .long 8930039, .long 257, .long 11522, .long 841, .long 92275, .long 6476969, .long 240223, .long 10815598, .long 1065, .long 5528, .int 0, .int 0, .int 0, .ref q5, .ref q6, .long 0, .long 0, .long 0, .long 0, .int 0, .int 0, .ref q7, .ref q8, .ref q9, .ref q10, .ref q11, .ref q12, .ref q13, .int 0, .int 0, .int 0, .long 0, .int 0, .ref q14, .null, .null, .int 0, .long 0, .int 0, .long 0, .int 0])), (q0, .inl (cy 2, 41, .inr (.inl (fun _ => 0)))), (q1, .inl (cy 1, 25, .inl (fun _ => 0))), (q2, .inl (cy 2, 258, .inr (.inl (fun _ => 0)))), (q3, .inl (cy 2, 516, .inr (.inl (fun _ => 0)))), (q4, .inl (cy 0, 400, .inl (fun _ => 0))), (q5, .inl (cy 1, 35, .inl (fun _ => 0))), (q6, .inl (cy 1, 20, .inl (fun _ => 0))), (q7, .inl (cy 1, 40, .inl (fun _ => 0))), (q8, .inl (cy 1, 40, .inl (fun _ => 0))), (q9, .inl (cy 1, 160, .inl (fun _ => 0))), (q10, .inl (cy 1, 40, .inl (fun _ => 0))), (q11, .inl (cy 1, 40, .inl (fun _ => 0))), (q12, .inl (cy 2, 7, .inr (.inl (vp_updL (vp_updL (vp_updL (vp_updL (vp_updL (vp_updL (vp_updL (fun _ => 0) 0 257) 1 11522) 2 841) 3 92275) 4 6476969) 5 240223) 6 10815598)))), (q13, .inl (cy 1, 4, .inl (fun _ => 0))), (q14, .inl (cy 1, 4, .inl (fun _ => 0)))]) rfl ?_
  refine n_aload_n (j := 0) C d_X12_init_379 rfl ?_
  refine n_iconst (v := 4) C d_X12_init_380 (by decide) ?_
  refine n_newa (atype := .int) (ty := .int) (N := 4) (a0 := (4, .inl (fun _ => 0))) C 1 tw_140 rfl rfl (fun _ => rfl) (by decide) (by decide +kernel) (by decide) (Nat.le_of_ble_eq_true rfl) (Nat.le_of_ble_eq_true rfl) d_X12_init_381 (fun q15 => ?_)
  refine n_eq (ws' := [(h0, .inr (11, [.ref q0, .int 0, .int 0, .int 0, .ref q1, .ref q2, .ref q3, .ref q4, .int 0, .int 0, .int 0, .int 0, .long 187429700, .long 326280, .long 8930039, .long 257, .long 11522, .long 841, .long 92275, .long 6476969, .long 240223, .long 10815598, .long 1065, .long 5528, .int 0, .int 0, .int 0, .ref q5, .ref q6, .long 0, .long 0, .long 0, .long 0, .int 0, .int 0, .ref q7, .ref q8, .ref q9, .ref q10, .ref q11, .ref q12, .ref q13, .int 0, .int 0, .int 0, .long 0, .int 0, .ref q14, .null, .null, .int 0, .long 0, .int 0, .long 0, .int 0])), (q0, .inl (cy 2, 41, .inr (.inl (fun _ => 0)))), (q1, .inl (cy 1, 25, .inl (fun _ => 0))), (q2, .inl (cy 2, 258, .inr (.inl (fun _ => 0)))), (q3, .inl (cy 2, 516, .inr (.inl (fun _ => 0)))), (q4, .inl (cy 0, 400, .inl (fun _ => 0))), (q5, .inl (cy 1, 35, .inl (fun _ => 0))), (q6, .inl (cy 1, 20, .inl (fun _ => 0))), (q7, .inl (cy 1, 40, .inl (fun _ => 0))), (q8, .inl (cy 1, 40, .inl (fun _ => 0))), (q9, .inl (cy 1, 160, .inl (fun _ => 0))), (q10, .inl (cy 1, 40, .inl (fun _ => 0))), (q11, .inl (cy 1, 40, .inl (fun _ => 0))), (q12, .inl (cy 2, 7, .inr (.inl (vp_updL (vp_updL (vp_updL (vp_updL (vp_updL (vp_updL (vp_updL (fun _ => 0) 0 257) 1 11522) 2 841) 3 92275) 4 6476969) 5 240223) 6 10815598)))), (q13, .inl (cy 1, 4, .inl (fun _ => 0))), (q14, .inl (cy 1, 4, .inl (fun _ => 0))), (q15, .inl (cy 1, 4, .inl (fun _ => 0)))]) rfl ?_
  refine n_putF (ref := "") (Cn := RX12) (T := TX12) (ty := tyX12 48) C hi 0 48 inX12 tyX12_ok nmX12 rfl tw_1259 rfl rfl (by decide) (by decide +kernel) rfl rfl (Nat.le_of_ble_eq_true rfl) d_X12_init_383 ?_
  refine n_eq (ws' := [(h0, .inr (11, [.ref q0, .int 0, .int 0, .int 0, .ref q1, .ref q2, .ref q3, .ref q4, .int 0, .int 0, .int 0, .int 0, .long 187429700, .long 326280, .long 8930039, .long 257, .long 11522, .long 841, .long 92275, .long 6476969, .long 240223, .long 10815598, .long 1065, .long 5528, .int 0, .int 0, .int 0, .ref q5, .ref q6, .long 0, .long 0, .long 0, .long 0, .int 0, .int 0, .ref q7, .ref q8, .ref q9, .ref q10, .ref q11, .ref q12, .ref q13, .int 0, .int 0, .int 0, .long 0, .int 0, .ref q14, .ref q15, .null, .int 0, .long 0, .int 0, .long 0, .int 0])), (q0, .inl (cy 2, 41, .inr (.inl (fun _ => 0)))), (q1, .inl (cy 1, 25, .inl (fun _ => 0))), (q2, .inl (cy 2, 258, .inr (.inl (fun _ => 0)))), (q3, .inl (cy 2, 516, .inr (.inl (fun _ => 0)))), (q4, .inl (cy 0, 400, .inl (fun _ => 0))), (q5, .inl (cy 1, 35, .inl (fun _ => 0))), (q6, .inl (cy 1, 20, .inl (fun _ => 0))), (q7, .inl (cy 1, 40, .inl (fun _ => 0))), (q8, .inl (cy 1, 40, .inl (fun _ => 0))), (q9, .inl (cy 1, 160, .inl (fun _ => 0))), (q10, .inl (cy 1, 40, .inl (fun _ => 0))), (q11, .inl (cy 1, 40, .inl (fun _ => 0))), (q12, .inl (cy 2, 7, .inr (.inl (vp_updL (vp_updL (vp_updL (vp_updL (vp_updL (vp_updL (vp_updL (fun _ => 0) 0 257) 1 11522) 2 841) 3 92275) 4 6476969) 5 240223) 6 10815598)))), (q13, .inl (cy 1, 4, .inl (fun _ => 0))), (q14, .inl (cy 1, 4, .inl (fun _ => 0))), (q15, .inl (cy 1, 4, .inl (fun _ => 0)))]) rfl ?_
  refine n_aload_n (j := 0) C d_X12_init_386 rfl ?_
  refine n_iconst (v := 4) C d_X12_init_387 (by decide) ?_
  refine n_newa (atype := .long) (ty := .long) (N := 4) (a0 := (4, .inr (.inl (fun _ => 0)))) C 2 tw_189 rfl rfl (fun _ => rfl) (by decide) (by decide +kernel) (by decide) (Nat.le_of_ble_eq_true rfl) (Nat.le_of_ble_eq_true rfl) d_X12_init_388 (fun q16 => ?_)
  refine n_eq (ws' := [(h0, .inr (11, [.ref q0, .int 0, .int 0, .int 0, .ref q1, .ref q2, .ref q3, .ref q4, .int 0, .int 0, .int 0, .int 0, .long 187429700, .long 326280, .long 8930039, .long 257, .long 11522, .long 841, .long 92275, .long 6476969, .long 240223, .long 10815598, .long 1065, .long 5528, .int 0, .int 0, .int 0, .ref q5, .ref q6, .long 0, .long 0, .long 0, .long 0, .int 0, .int 0, .ref q7, .ref q8, .ref q9, .ref q10, .ref q11, .ref q12, .ref q13, .int 0, .int 0, .int 0, .long 0, .int 0, .ref q14, .ref q15, .null, .int 0, .long 0, .int 0, .long 0, .int 0])), (q0, .inl (cy 2, 41, .inr (.inl (fun _ => 0)))), (q1, .inl (cy 1, 25, .inl (fun _ => 0))), (q2, .inl (cy 2, 258, .inr (.inl (fun _ => 0)))), (q3, .inl (cy 2, 516, .inr (.inl (fun _ => 0)))), (q4, .inl (cy 0, 400, .inl (fun _ => 0))), (q5, .inl (cy 1, 35, .inl (fun _ => 0))), (q6, .inl (cy 1, 20, .inl (fun _ => 0))), (q7, .inl (cy 1, 40, .inl (fun _ => 0))), (q8, .inl (cy 1, 40, .inl (fun _ => 0))), (q9, .inl (cy 1, 160, .inl (fun _ => 0))), (q10, .inl (cy 1, 40, .inl (fun _ => 0))), (q11, .inl (cy 1, 40, .inl (fun _ => 0))), (q12, .inl (cy 2, 7, .inr (.inl (vp_updL (vp_updL (vp_updL (vp_updL (vp_updL (vp_updL (vp_updL (fun _ => 0) 0 257) 1 11522) 2 841) 3 92275) 4 6476969) 5 240223) 6 10815598)))), (q13, .inl (cy 1, 4, .inl (fun _ => 0))), (q14, .inl (cy 1, 4, .inl (fun _ => 0))), (q15, .inl (cy 1, 4, .inl (fun _ => 0))), (q16, .inl (cy 2, 4, .inr (.inl (fun _ => 0))))]) rfl ?_
  refine n_putF (ref := "") (Cn := RX12) (T := TX12) (ty := tyX12 49) C hi 0 49 inX12 tyX12_ok nmX12 rfl tw_1260 rfl rfl (by decide) (by decide +kernel) rfl rfl (Nat.le_of_ble_eq_true rfl) d_X12_init_390 ?_
  refine n_eq (ws' := [(h0, .inr (11, [.ref q0, .int 0, .int 0, .int 0, .ref q1, .ref q2, .ref q3, .ref q4, .int 0, .int 0, .int 0, .int 0, .long 187429700, .long 326280, .long 8930039, .long 257, .long 11522, .long 841, .long 92275, .long 6476969, .long 240223, .long 10815598, .long 1065, .long 5528, .int 0, .int 0, .int 0, .ref q5, .ref q6, .long 0, .long 0, .long 0, .long 0, .int 0, .int 0, .ref q7, .ref q8, .ref q9, .ref q10, .ref q11, .ref q12, .ref q13, .int 0, .int 0, .int 0, .long 0, .int 0, .ref q14, .ref q15, .ref q16, .int 0, .long 0, .int 0, .long 0, .int 0])), (q0, .inl (cy 2, 41, .inr (.inl (fun _ => 0)))), (q1, .inl (cy 1, 25, .inl (fun _ => 0))), (q2, .inl (cy 2, 258, .inr (.inl (fun _ => 0)))), (q3, .inl (cy 2, 516, .inr (.inl (fun _ => 0)))), (q4, .inl (cy 0, 400, .inl (fun _ => 0))), (q5, .inl (cy 1, 35, .inl (fun _ => 0))), (q6, .inl (cy 1, 20, .inl (fun _ => 0))), (q7, .inl (cy 1, 40, .inl (fun _ => 0))), (q8, .inl (cy 1, 40, .inl (fun _ => 0))), (q9, .inl (cy 1, 160, .inl (fun _ => 0))), (q10, .inl (cy 1, 40, .inl (fun _ => 0))), (q11, .inl (cy 1, 40, .inl (fun _ => 0))), (q12, .inl (cy 2, 7, .inr (.inl (vp_updL (vp_updL (vp_updL (vp_updL (vp_updL (vp_updL (vp_updL (fun _ => 0) 0 257) 1 11522) 2 841) 3 92275) 4 6476969) 5 240223) 6 10815598)))), (q13, .inl (cy 1, 4, .inl (fun _ => 0))), (q14, .inl (cy 1, 4, .inl (fun _ => 0))), (q15, .inl (cy 1, 4, .inl (fun _ => 0))), (q16, .inl (cy 2, 4, .inr (.inl (fun _ => 0))))]) rfl ?_
  refine n_ldc2 (v := 10000000000) C tw_1204 d_X12_init_393 ?_
  refine n_lstore_n (lv' := [(1, .long 10000000000), (0, .ref h0)]) C d_X12_init_396 (by decide) rfl ?_
  refine n_bipush (v := 20) C d_X12_init_397 (by decide) ?_
  refine n_istore_n (lv' := [(3, .int 20), (1, .long 10000000000), (0, .ref h0)]) C d_X12_init_399 (by decide) rfl ?_
  refine n_iload_n (j := 0) C d_X12_init_400 rfl ?_
  refine n_bipush (v := 40) C d_X12_init_401 (by decide) ?_
  refine n_gt_no (tgt := 432) C d_X12_init_403 (by decide) (by decide) ?_
  refine n_aload_n (j := 2) C d_X12_init_406 rfl ?_
  refine n_get (Cn := RX12) (T := TX12) C 0 0 inX12 rfl tw_1211 rfl rfl (by decide) rfl d_X12_init_407 ?_
  refine n_iload_n (j := 0) C d_X12_init_410 rfl ?_
  refine n_lload_n (j := 1) C d_X12_init_411 rfl ?_
  refine n_callS (rest := [.int 20, .ref q0]) C [.long 10000000000] [0, 1, 2, 3, 4, 5, 6, 7, 8, 9, 10, 11, 12, 13, 14, 15, 16, 17] kk_X12_rootOfNumber tw_1205 rfl (by decide +kernel) ⟨by decide, by decide⟩ ⟨Nat.le_of_ble_eq_true rfl, Nat.le_of_ble_eq_true rfl⟩ (Nat.le_of_ble_eq_true rfl) d_X12_init_412 n_X12_rootOfNumber rfl ?_
  refine n_topl (y := 100000) (by decide +kernel) ?_
  refine n_last (j := 20) C 1 rfl (inb_vp (by decide)) (by decide) d_X12_init_415 ?_
  refine n_eq (ws' := [(h0, .inr (11, [.ref q0, .int 0, .int 0, .int 0, .ref q1, .ref q2, .ref q3, .ref q4, .int 0, .int 0, .int 0, .int 0, .long 187429700, .long 326280, .long 8930039, .long 257, .long 11522, .long 841, .long 92275, .long 6476969, .long 240223, .long 10815598, .long 1065, .long 5528, .int 0, .int 0, .int 0, .ref q5, .ref q6, .long 0, .long 0, .long 0, .long 0, .int 0, .int 0, .ref q7, .ref q8, .ref q9, .ref q10, .ref q11, .ref q12, .ref q13, .int 0, .int 0, .int 0, .long 0, .int 0, .ref q14, .ref q15, .ref q16, .int 0, .long 0, .int 0, .long 0, .int 0])), (q0, .inl (cy 2, 41, .inr (.inl (vp_updL (fun _ => 0) 20 100000)))), (q1, .inl (cy 1, 25, .inl (fun _ => 0))), (q2, .inl (cy 2, 258, .inr (.inl (fun _ => 0)))), (q3, .inl (cy 2, 516, .inr (.inl (fun _ => 0)))), (q4, .inl (cy 0, 400, .inl (fun _ => 0))), (q5, .inl (cy 1, 35, .inl (fun _ => 0))), (q6, .inl (cy 1, 20, .inl (fun _ => 0))), (q7, .inl (cy 1, 40, .inl (fun _ => 0))), (q8, .inl (cy 1, 40, .inl (fun _ => 0))), (q9, .inl (cy 1, 160, .inl (fun _ => 0))), (q10, .inl (cy 1, 40, .inl (fun _ => 0))), (q11, .inl (cy 1, 40, .inl (fun _ => 0))), (q12, .inl (cy 2, 7, .inr (.inl (vp_updL (vp_updL (vp_updL (vp_updL (vp_updL (vp_updL (vp_updL (fun _ => 0) 0 257) 1 11522) 2 841) 3 92275) 4 6476969) 5 240223) 6 10815598)))), (q13, .inl (cy 1, 4, .inl (fun _ => 0))), (q14, .inl (cy 1, 4, .inl (fun _ => 0))), (q15, .inl (cy 1, 4, .inl (fun _ => 0))), (q16, .inl (cy 2, 4, .inr (.inl (fun _ => 0))))]) rfl ?_
  refine n_lload_n (j := 1) C d_X12_init_416 rfl ?_
  refine n_ldc2 (v := 11) C tw_1209 d_X12_init_417 ?_
  refine n_lmul C d_X12_init_420 ?_
  refine n_topl (y := 110000000000) (by decide +kernel) ?_
  refine n_ldc2 (v := 10) C tw_1210 d_X12_init_421 ?_
  refine n_ldiv C (by decide) d_X12_init_424 ?_
  refine n_topl (y := 11000000000) (by decide +kernel) ?_
  refine n_lstore_n (lv' := [(1, .long 11000000000), (3, .int 20), (0, .ref h0)]) C d_X12_init_425 (by decide) rfl ?_
  refine n_iinc (j := 1) (v := 21) (lv' := [(3, .int 21), (1, .long 11000000000), (0, .ref h0)]) C d_X12_init_426 rfl (by decide) (by decide) rfl ?_
  refine n_goto (tgt := 400) C d_X12_init_429 (by decide) ?_
  refine n_iload_n (j := 0) C d_X12_init_400 rfl ?_
  refine n_bipush (v := 40) C d_X12_init_401 (by decide) ?_
  refine n_gt_no (tgt := 432) C d_X12_init_403 (by decide) (by decide) ?_
  refine n_aload_n (j := 2) C d_X12_init_406 rfl ?_
  refine n_get (Cn := RX12) (T := TX12) C 0 0 inX12 rfl tw_1211 rfl rfl (by decide) rfl d_X12_init_407 ?_
  refine n_iload_n (j := 0) C d_X12_init_410 rfl ?_
  refine n_lload_n (j := 1) C d_X12_init_411 rfl ?_
  refine n_callS (rest := [.int 21, .ref q0]) C [.long 11000000000] [0, 1, 2, 3, 4, 5, 6, 7, 8, 9, 10, 11, 12, 13, 14, 15, 16, 17] kk_X12_rootOfNumber tw_1205 rfl (by decide +kernel) ⟨by decide, by decide⟩ ⟨Nat.le_of_ble_eq_true rfl, Nat.le_of_ble_eq_true rfl⟩ (Nat.le_of_ble_eq_true rfl) d_X12_init_412 n_X12_rootOfNumber rfl ?_
  refine n_topl (y := 104880) (by decide +kernel) ?_
  refine n_last (j := 21) C 1 rfl (inb_vp (by decide)) (by decide) d_X12_init_415 ?_
  refine n_eq (ws' := [(h0, .inr (11, [.ref q0, .int 0, .int 0, .int 0, .ref q1, .ref q2, .ref q3, .ref q4, .int 0, .int 0, .int 0, .int 0, .long 187429700, .long 326280, .long 8930039, .long 257, .long 11522, .long 841, .long 92275, .long 6476969, .long 240223, .long 10815598, .long 1065, .long 5528, .int 0, .int 0, .int 0, .ref q5, .ref q6, .long 0, .long 0, .long 0, .long 0, .int 0, .int 0, .ref q7, .ref q8, .ref q9, .ref q10, .ref q11, .ref q12, .ref q13, .int 0, .int 0, .int 0, .long 0, .int 0, .ref q14, .ref q15, .ref q16, .int 0, .long 0, .int 0, .long 0, .int 0])), (q0, .inl (cy 2, 41, .inr (.inl (vp_updL (vp_updL (fun _ => 0) 20 100000) 21 104880)))), (q1, .inl (cy 1, 25, .inl (fun _ => 0))), (q2, .inl (cy 2, 258, .inr (.inl (fun _ => 0)))), (q3, .inl (cy 2, 516, .inr (.inl (fun _ => 0)))), (q4, .inl (cy 0, 400, .inl (fun _ => 0))), (q5, .inl (cy 1, 35, .inl (fun _ => 0))), (q6, .inl (cy 1, 20, .inl (fun _ => 0))), (q7, .inl (cy 1, 40, .inl (fun _ => 0))), (q8, .inl (cy 1, 40, .inl (fun _ => 0))), (q9, .inl (cy 1, 160, .inl (fun _ => 0))), (q10, .inl (cy 1, 40, .inl (fun _ => 0))), (q11, .inl (cy 1, 40, .inl (fun _ => 0))), (q12, .inl (cy 2, 7, .inr (.inl (vp_updL (vp_updL (vp_updL (vp_updL (vp_updL (vp_updL (vp_updL (fun _ => 0) 0 257) 1 11522) 2 841) 3 92275) 4 6476969) 5 240223) 6 10815598)))), (q13, .inl (cy 1, 4, .inl (fun _ => 0))), (q14, .inl (cy 1, 4, .inl (fun _ => 0))), (q15, .inl (cy 1, 4, .inl (fun _ => 0))), (q16, .inl (cy 2, 4, .inr (.inl (fun _ => 0))))]) rfl ?_
  refine n_lload_n (j := 1) C d_X12_init_416 rfl ?_
  refine n_ldc2 (v := 11) C tw_1209 d_X12_init_417 ?_
  refine n_lmul C d_X12_init_420 ?_
  refine n_topl (y := 121000000000) (by decide +kernel) ?_
  refine n_ldc2 (v := 10) C tw_1210 d_X12_init_421 ?_
  refine n_ldiv C (by decide) d_X12_init_424 ?_
  refine n_topl (y := 12100000000) (by decide +kernel) ?_
  refine n_lstore_n (lv' := [(1, .long 12100000000), (3, .int 21), (0, .ref h0)]) C d_X12_init_425 (by decide) rfl ?_
  refine n_iinc (j := 1) (v := 22) (lv' := [(3, .int 22), (1, .long 12100000000), (0, .ref h0)]) C d_X12_init_426 rfl (by decide) (by decide) rfl ?_
  refine n_goto (tgt := 400) C d_X12_init_429 (by decide) ?_
  refine n_iload_n (j := 0) C d_X12_init_400 rfl ?_
  refine n_bipush (v := 40) C d_X12_init_401 (by decide) ?_
  refine n_gt_no (tgt := 432) C d_X12_init_403 (by decide) (by decide) ?_
  refine n_aload_n (j := 2) C d_X12_init_406 rfl ?_
  refine n_get (Cn := RX12) (T := TX12) C 0 0 inX12 rfl tw_1211 rfl rfl (by decide) rfl d_X12_init_407 ?_
  refine n_iload_n (j := 0) C d_X12_init_410 rfl ?_
  refine n_lload_n (j := 1) C d_X12_init_411 rfl ?_
  refine n_callS (rest := [.int 22, .ref q0]) C [.long 12100000000] [0, 1, 2, 3, 4, 5, 6, 7, 8, 9, 10, 11, 12, 13, 14, 15, 16, 17] kk_X12_rootOfNumber tw_1205 rfl (by decide +kernel) ⟨by decide, by decide⟩ ⟨Nat.le_of_ble_eq_true rfl, Nat.le_of_ble_eq_true rfl⟩ (Nat.le_of_ble_eq_true rfl) d_X12_init_412 n_X12_rootOfNumber rfl ?_
  refine n_topl (y := 110000) (by decide +kernel) ?_
  refine n_last (j := 22) C 1 rfl (inb_vp (by decide)) (by decide) d_X12_init_415 ?_
  refine n_eq (ws' := [(h0, .inr (11, [.ref q0, .int 0, .int 0, .int 0, .ref q1, .ref q2, .ref q3, .ref q4, .int 0, .int 0, .int 0, .int 0, .long 187429700, .long 326280, .long 8930039, .long 257, .long 11522, .long 841, .long 92275, .long 6476969, .long 240223, .long 10815598, .long 1065, .long 5528, .int 0, .int 0, .int 0, .ref q5, .ref q6, .long 0, .long 0, .long 0, .long 0, .int 0, .int 0, .ref q7, .ref q8, .ref q9, .ref q10, .ref q11, .ref q12, .ref q13, .int 0, .int 0, .int 0, .long 0, .int 0, .ref q14, .ref q15, .ref q16, .int 0, .long 0, .int 0, .long 0, .int 0])), (q0, .inl (cy 2, 41, .inr (.inl (vp_updL (vp_updL (vp_updL (fun _ => 0) 20 100000) 21 104880) 22 110000)))), (q1, .inl (cy 1, 25, .inl (fun _ => 0))), (q2, .inl (cy 2, 258, .inr (.inl (fun _ => 0)))), (q3, .inl (cy 2, 516, .inr (.inl (fun _ => 0)))), (q4, .inl (cy 0, 400, .inl (fun _ => 0))), (q5, .inl (cy 1, 35, .inl (fun _ => 0))), (q6, .inl (cy 1, 20, .inl (fun _ => 0))), (q7, .inl (cy 1, 40, .inl (fun _ => 0))), (q8, .inl (cy 1, 40, .inl (fun _ => 0))), (q9, .inl (cy 1, 160, .inl (fun _ => 0))), (q10, .inl (cy 1, 40, .inl (fun _ => 0))), (q11, .inl (cy 1, 40, .inl (fun _ => 0))), (q12, .inl (cy 2, 7, .inr (.inl (vp_updL (vp_updL (vp_updL (vp_updL (vp_updL (vp_updL (vp_updL (fun _ => 0) 0 257) 1 11522) 2 841) 3 92275) 4 6476969) 5 240223) 6 10815598)))), (q13, .inl (cy 1, 4, .inl (fun _ => 0))), (q14, .inl (cy 1, 4, .inl (fun _ => 0))), (q15, .inl (cy 1, 4, .inl (fun _ => 0))), (q16, .inl (cy 2, 4, .inr (.inl (fun _ => 0))))]) rfl ?_
  refine n_lload_n (j := 1) C d_X12_init_416 rfl ?_
  refine n_ldc2 (v := 11) C tw_1209 d_X12_init_417 ?_
  refine n_lmul C d_X12_init_420 ?_
  refine n_topl (y := 133100000000) (by decide +kernel) ?_
  refine n_ldc2 (v := 10) C tw_1210 d_X12_init_421 ?_
  refine n_ldiv C (by decide) d_X12_init_424 ?_
  refine n_topl (y := 13310000000) (by decide +kernel) ?_
  refine n_lstore_n (lv' := [(1, .long 13310000000), (3, .int 22), (0, .ref h0)]) C d_X12_init_425 (by decide) rfl ?_
  refine n_iinc (j := 1) (v := 23) (lv' := [(3, .int 23), (1, .long 13310000000), (0, .ref h0)]) C d_X12_init_426 rfl (by decide) (by decide) rfl ?_
  refine n_goto (tgt := 400) C d_X12_init_429 (by decide) ?_
  refine n_iload_n (j := 0) C d_X12_init_400 rfl ?_
  refine n_bipush (v := 40) C d_X12_init_401 (by decide) ?_
  refine n_gt_no (tgt := 432) C d_X12_init_403 (by decide) (by decide) ?_
  refine n_aload_n (j := 2) C d_X12_init_406 rfl ?_
  refine n_get (Cn := RX12) (T := TX12) C 0 0 inX12 rfl tw_1211 rfl rfl (by decide) rfl d_X12_init_407 ?_
  refine n_iload_n (j := 0) C d_X12_init_410 rfl ?_
  refine n_lload_n (j := 1) C d_X12_init_411 rfl ?_
  refine n_callS (rest := [.int 23, .ref q0]) C [.long 13310000000] [0, 1, 2, 3, 4, 5, 6, 7, 8, 9, 10, 11, 12, 13, 14, 15, 16, 17] kk_X12_rootOfNumber tw_1205 rfl (by decide +kernel) ⟨by decide, by decide⟩ ⟨Nat.le_of_ble_eq_true rfl, Nat.le_of_ble_eq_true rfl⟩ (Nat.le_of_ble_eq_true rfl) d_X12_init_412 n_X12_rootOfNumber rfl ?_
  refine n_topl (y := 115368) (by decide +kernel) ?_
  refine n_last (j := 23) C 1 rfl (inb_vp (by decide)) (by decide) d_X12_init_415 ?_
  refine n_eq (ws' := [(h0, .inr (11, [.ref q0, .int 0, .int 0, .int 0, .ref q1, .ref q2, .ref q3, .ref q4, .int 0, .int 0, .int 0, .int 0, .long 187429700, .long 326280, .long 8930039, .long 257, .long 11522, .long 841, .long 92275, .long 6476969, .long 240223, .long 10815598, .long 1065, .long 5528, .int 0, .int 0, .int 0, .ref q5, .ref q6, .long 0, .long 0, .long 0, .long 0, .int 0, .int 0, .ref q7, .ref q8, .ref q9, .ref q10, .ref q11, .ref q12, .ref q13, .int 0, .int 0, .int 0, .long 0, .int 0, .ref q14, .ref q15, .ref q16, .int 0, .long 0, .int 0, .long 0, .int 0])), (q0, .inl (cy 2, 41, .inr (.inl (vp_updL (vp_updL (vp_updL (vp_updL (fun _ => 0) 20 100000) 21 104880) 22 110000) 23 115368)))), (q1, .inl (cy 1, 25, .inl (fun _ => 0))), (q2, .inl (cy 2, 258, .inr (.inl (fun _ => 0)))), (q3, .inl (cy 2, 516, .inr (.inl (fun _ => 0)))), (q4, .inl (cy 0, 400, .inl (fun _ => 0))), (q5, .inl (cy 1, 35, .inl (fun _ => 0))), (q6, .inl (cy 1, 20, .inl (fun _ => 0))), (q7, .inl (cy 1, 40, .inl (fun _ => 0))), (q8, .inl (cy 1, 40, .inl (fun _ => 0))), (q9, .inl (cy 1, 160, .inl (fun _ => 0))), (q10, .inl (cy 1, 40, .inl (fun _ => 0))), (q11, .inl (cy 1, 40, .inl (fun _ => 0))), (q12, .inl (cy 2, 7, .inr (.inl (vp_updL (vp_updL (vp_updL (vp_updL (vp_updL (vp_updL (vp_updL (fun _ => 0) 0 257) 1 11522) 2 841) 3 92275) 4 6476969) 5 240223) 6 10815598)))), (q13, .inl (cy 1, 4, .inl (fun _ => 0))), (q14, .inl (cy 1, 4, .inl (fun _ => 0))), (q15, .inl (cy 1, 4, .inl (fun _ => 0))), (q16, .inl (cy 2, 4, .inr (.inl (fun _ => 0))))]) rfl ?_
  refine n_lload_n (j := 1) C d_X12_init_416 rfl ?_
  refine n_ldc2 (v := 11) C tw_1209 d_X12_init_417 ?_
  refine n_lmul C d_X12_init_420 ?_
  refine n_topl (y := 146410000000) (by decide +kernel) ?_
  refine n_ldc2 (v := 10) C tw_1210 d_X12_init_421 ?_
  refine n_ldiv C (by decide) d_X12_init_424 ?_
  refine n_topl (y := 14641000000) (by decide +kernel) ?_
  refine n_lstore_n (lv' := [(1, .long 14641000000), (3, .int 23), (0, .ref h0)]) C d_X12_init_425 (by decide) rfl ?_
  refine n_iinc (j := 1) (v := 24) (lv' := [(3, .int 24), (1, .long 14641000000), (0, .ref h0)]) C d_X12_init_426 rfl (by decide) (by decide) rfl ?_
  refine n_goto (tgt := 400) C d_X12_init_429 (by decide) ?_
  refine n_iload_n (j := 0) C d_X12_init_400 rfl ?_
  refine n_bipush (v := 40) C d_X12_init_401 (by decide) ?_
  refine n_gt_no (tgt := 432) C d_X12_init_403 (by decide) (by decide) ?_
  refine n_aload_n (j := 2) C d_X12_init_406 rfl ?_
  refine n_get (Cn := RX12) (T := TX12) C 0 0 inX12 rfl tw_1211 rfl rfl (by decide) rfl d_X12_init_407 ?_
  refine n_iload_n (j := 0) C d_X12_init_410 rfl ?_
  refine n_lload_n (j := 1) C d_X12_init_411 rfl ?_
  refine n_callS (rest := [.int 24, .ref q0]) C [.long 14641000000] [0, 1, 2, 3, 4, 5, 6, 7, 8, 9, 10, 11, 12, 13, 14, 15, 16, 17] kk_X12_rootOfNumber tw_1205 rfl (by decide +kernel) ⟨by decide, by decide⟩ ⟨Nat.le_of_ble_eq_true rfl, Nat.le_of_ble_eq_true rfl⟩ (Nat.le_of_ble_eq_true rfl) d_X12_init_412 n_X12_rootOfNumber rfl ?_
  refine n_topl (y := 121000) (by decide +kernel) ?_
  refine n_last (j := 24) C 1 rfl (inb_vp (by decide)) (by decide) d_X12_init_415 ?_
  refine n_eq (ws' := [(h0, .inr (11, [.ref q0, .int 0, .int 0, .int 0, .ref q1, .ref q2, .ref q3, .ref q4, .int 0, .int 0, .int 0, .int 0, .long 187429700, .long 326280, .long 8930039, .long 257, .long 11522, .long 841, .long 92275, .long 6476969, .long 240223, .long 10815598, .long 1065, .long 5528, .int 0, .int 0, .int 0, .ref q5, .ref q6, .long 0, .long 0, .long 0, .long 0, .int 0, .int 0, .ref q7, .ref q8, .ref q9, .ref q10, .ref q11, .ref q12, .ref q13, .int 0, .int 0, .int 0, .long 0, .int 0, .ref q14, .ref q15, .ref q16, .int 0, .long 0, .int 0, .long 0, .int 0])), (q0, .inl (cy 2, 41, .inr (.inl (vp_updL (vp_updL (vp_updL (vp_updL (vp_updL (fun _ => 0) 20 100000) 21 104880) 22 110000) 23 115368) 24 121000)))), (q1, .inl (cy 1, 25, .inl (fun _ => 0))), (q2, .inl (cy 2, 258, .inr (.inl (fun _ => 0)))), (q3, .inl (cy 2, 516, .inr (.inl (fun _ => 0)))), (q4, .inl (cy 0, 400, .inl (fun _ => 0))), (q5, .inl (cy 1, 35, .inl (fun _ => 0))), (q6, .inl (cy 1, 20, .inl (fun _ => 0))), (q7, .inl (cy 1, 40, .inl (fun _ => 0))), (q8, .inl (cy 1, 40, .inl (fun _ => 0))), (q9, .inl (cy 1, 160, .inl (fun _ => 0))), (q10, .inl (cy 1, 40, .inl (fun _ => 0))), (q11, .inl (cy 1, 40, .inl (fun _ => 0))), (q12, .inl (cy 2, 7, .inr (.inl (vp_updL (vp_updL (vp_updL (vp_updL (vp_updL (vp_updL (vp_updL (fun _ => 0) 0 257) 1 11522) 2 841) 3 92275) 4 6476969) 5 240223) 6 10815598)))), (q13, .inl (cy 1, 4, .inl (fun _ => 0))), (q14, .inl (cy 1, 4, .inl (fun _ => 0))), (q15, .inl (cy 1, 4, .inl (fun _ => 0))), (q16, .inl (cy 2, 4, .inr (.inl (fun _ => 0))))]) rfl ?_
  refine n_lload_n (j := 1) C d_X12_init_416 rfl ?_
  refine n_ldc2 (v := 11) C tw_1209 d_X12_init_417 ?_
  refine n_lmul C d_X12_init_420 ?_
  refine n_topl (y := 161051000000) (by decide +kernel) ?_
  refine n_ldc2 (v := 10) C tw_1210 d_X12_init_421 ?_
  refine n_ldiv C (by decide) d_X12_init_424 ?_
  refine n_topl (y := 16105100000) (by decide +kernel) ?_
  refine n_lstore_n (lv' := [(1, .long 16105100000), (3, .int 24), (0, .ref h0)]) C d_X12_init_425 (by decide) rfl ?_
  refine n_iinc (j := 1) (v := 25) (lv' := [(3, .int 25), (1, .long 16105100000), (0, .ref h0)]) C d_X12_init_426 rfl (by decide) (by decide) rfl ?_
  refine n_goto (tgt := 400) C d_X12_init_429 (by decide) ?_
  refine n_iload_n (j := 0) C d_X12_init_400 rfl ?_
  refine n_bipush (v := 40) C d_X12_init_401 (by decide) ?_
  refine n_gt_no (tgt := 432) C d_X12_init_403 (by decide) (by decide) ?_
  refine n_aload_n (j := 2) C d_X12_init_406 rfl ?_
  refine n_get (Cn := RX12) (T := TX12) C 0 0 inX12 rfl tw_1211 rfl rfl (by decide) rfl d_X12_init_407 ?_
  refine n_iload_n (j := 0) C d_X12_init_410 rfl ?_
  refine n_lload_n (j := 1) C d_X12_init_411 rfl ?_
  refine n_callS (rest := [.int 25, .ref q0]) C [.long 16105100000] [0, 1, 2, 3, 4, 5, 6, 7, 8, 9, 10, 11, 12, 13, 14, 15, 16, 17] kk_X12_rootOfNumber tw_1205 rfl (by decide +kernel) ⟨by decide, by decide⟩ ⟨Nat.le_of_ble_eq_true rfl, Nat.le_of_ble_eq_true rfl⟩ (Nat.le_of_ble_eq_true rfl) d_X12_init_412 n_X12_rootOfNumber rfl ?_
  refine n_topl (y := 126905) (by decide +kernel) ?_
  refine n_last (j := 25) C 1 rfl (inb_vp (by decide)) (by decide) d_X12_init_415 ?_
  refine n_eq (ws' := [(h0, .inr (11, [.ref q0, .int 0, .int 0, .int 0, .ref q1, .ref q2, .ref q3, .ref q4, .int 0, .int 0, .int 0, .int 0, .long 187429700, .long 326280, .long 8930039, .long 257, .long 11522, .long 841, .long 92275, .long 6476969, .long 240223, .long 10815598, .long 1065, .long 5528, .int 0, .int 0, .int 0, .ref q5, .ref q6, .long 0, .long 0, .long 0, .long 0, .int 0, .int 0, .ref q7, .ref q8, .ref q9, .ref q10, .ref q11, .ref q12, .ref q13, .int 0, .int 0, .int 0, .long 0, .int 0, .ref q14, .ref q15, .ref q16, .int 0, .long 0, .int 0, .long 0, .int 0])), (q0, .inl (cy 2, 41, .inr (.inl (vp_updL (vp_updL (vp_updL (vp_updL (vp_updL (vp_updL (fun _ => 0) 20 100000) 21 104880) 22 110000) 23 115368) 24 121000) 25 126905)))), (q1, .inl (cy 1, 25, .inl (fun _ => 0))), (q2, .inl (cy 2, 258, .inr (.inl (fun _ => 0)))), (q3, .inl (cy 2, 516, .inr (.inl (fun _ => 0)))), (q4, .inl (cy 0, 400, .inl (fun _ => 0))), (q5, .inl (cy 1, 35, .inl (fun _ => 0))), (q6, .inl (cy 1, 20, .inl (fun _ => 0))), (q7, .inl (cy 1, 40, .inl (fun _ => 0))), (q8, .inl (cy 1, 40, .inl (fun _ => 0))), (q9, .inl (cy 1, 160, .inl (fun _ => 0))), (q10, .inl (cy 1, 40, .inl (fun _ => 0))), (q11, .inl (cy 1, 40, .inl (fun _ => 0))), (q12, .inl (cy 2, 7, .inr (.inl (vp_updL (vp_updL (vp_updL (vp_updL (vp_updL (vp_updL (vp_updL (fun _ => 0) 0 257) 1 11522) 2 841) 3 92275) 4 6476969) 5 240223) 6 10815598)))), (q13, .inl (cy 1, 4, .inl (fun _ => 0))), (q14, .inl (cy 1, 4, .inl (fun _ => 0))), (q15, .inl (cy 1, 4, .inl (fun _ => 0))), (q16, .inl (cy 2, 4, .inr (.inl (fun _ => 0))))]) rfl ?_
  refine n_lload_n (j := 1) C d_X12_init_416 rfl ?_
  refine n_ldc2 (v := 11) C tw_1209 d_X12_init_417 ?_
  refine n_lmul C d_X12_init_420 ?_
  refine n_topl (y := 177156100000) (by decide +kernel) ?_
  refine n_ldc2 (v := 10) C tw_1210 d_X12_init_421 ?_
  refine n_ldiv C (by decide) d_X12_init_424 ?_
  refine n_topl (y := 17715610000) (by decide +kernel) ?_
  refine n_lstore_n (lv' := [(1, .long 17715610000), (3, .int 25), (0, .ref h0)]) C d_X12_init_425 (by decide) rfl ?_
  refine n_iinc (j := 1) (v := 26) (lv' := [(3, .int 26), (1, .long 17715610000), (0, .ref h0)]) C d_X12_init_426 rfl (by decide) (by decide) rfl ?_
  refine n_goto (tgt := 400) C d_X12_init_429 (by decide) ?_
  refine n_iload_n (j := 0) C d_X12_init_400 rfl ?_
  refine n_bipush (v := 40) C d_X12_init_401 (by decide) ?_
  refine n_gt_no (tgt := 432) C d_X12_init_403 (by decide) (by decide) ?_
  refine n_aload_n (j := 2) C d_X12_init_406 rfl ?_
  refine n_get (Cn := RX12) (T := TX12) C 0 0 inX12 rfl tw_1211 rfl rfl (by decide) rfl d_X12_init_407 ?_
  refine n_iload_n (j := 0) C d_X12_init_410 rfl ?_
  refine n_lload_n (j := 1) C d_X12_init_411 rfl ?_
  refine n_callS (rest := [.int 26, .ref q0]) C [.long 17715610000] [0, 1, 2, 3, 4, 5, 6, 7, 8, 9, 10, 11, 12, 13, 14, 15, 16, 17] kk_X12_rootOfNumber tw_1205 rfl (by decide +kernel) ⟨by decide, by decide⟩ ⟨Nat.le_of_ble_eq_true rfl, Nat.le_of_ble_eq_true rfl⟩ (Nat.le_of_ble_eq_true rfl) d_X12_init_412 n_X12_rootOfNumber rfl ?_
  refine n_topl (y := 133100) (by decide +kernel) ?_
  refine n_last (j := 26) C 1 rfl (inb_vp (by decide)) (by decide) d_X12_init_415 ?_
  refine n_eq (ws' := [(h0, .inr (11, [.ref q0, .int 0, .int 0, .int 0, .ref q1, .ref q2, .ref q3, .ref q4, .int 0, .int 0, .int 0, .int 0, .long 187429700, .long 326280, .long 8930039, .long 257, .long 11522, .long 841, .long 92275, .long 6476969, .long 240223, .long 10815598, .long 1065, .long 5528, .int 0, .int 0, .int 0, .ref q5, .ref q6, .long 0, .long 0, .long 0, .long 0, .int 0, .int 0, .ref q7, .ref q8, .ref q9, .ref q10, .ref q11, .ref q12, .ref q13, .int 0, .int 0, .int 0, .long 0, .int 0, .ref q14, .ref q15, .ref q16, .int 0, .long 0, .int 0, .long 0, .int 0])), (q0, .inl (cy 2, 41, .inr (.inl (vp_updL (vp_updL (vp_updL (vp_updL (vp_updL (vp_updL (vp_updL (fun _ => 0) 20 100000) 21 104880) 22 110000) 23 115368) 24 121000) 25 126905) 26 133100)))), (q1, .inl (cy 1, 25, .inl (fun _ => 0))), (q2, .inl (cy 2, 258, .inr (.inl (fun _ => 0)))), (q3, .inl (cy 2, 516, .inr (.inl (fun _ => 0)))), (q4, .inl (cy 0, 400, .inl (fun _ => 0))), (q5, .inl (cy 1, 35, .inl (fun _ => 0))), (q6, .inl (cy 1, 20, .inl (fun _ => 0))), (q7, .inl (cy 1, 40, .inl (fun _ => 0))), (q8, .inl (cy 1, 40, .inl (fun _ => 0))), (q9, .inl (cy 1, 160, .inl (fun _ => 0))), (q10, .inl (cy 1, 40, .inl (fun _ => 0))), (q11, .inl (cy 1, 40, .inl (fun _ => 0))), (q12, .inl (cy 2, 7, .inr (.inl (vp_updL (vp_updL (vp_updL (vp_updL (vp_updL (vp_updL (vp_updL (fun _ => 0) 0 257) 1 11522) 2 841) 3 92275) 4 6476969) 5 240223) 6 10815598)))), (q13, .inl (cy 1, 4, .inl (fun _ => 0))), (q14, .inl (cy 1, 4, .inl (fun _ => 0))), (q15, .inl (cy 1, 4, .inl (fun _ => 0))), (q16, .inl (cy 2, 4, .inr (.inl (fun _ => 0))))]) rfl ?_
  refine n_lload_n (j := 1) C d_X12_init_416 rfl ?_
  refine n_ldc2 (v := 11) C tw_1209 d_X12_init_417 ?_
  refine n_lmul C d_X12_init_420 ?_
  refine n_topl (y := 194871710000) (by decide +kernel) ?_
  refine n_ldc2 (v := 10) C tw_1210 d_X12_init_421 ?_
  refine n_ldiv C (by decide) d_X12_init_424 ?_
  refine n_topl (y := 19487171000) (by decide +kernel) ?_
  refine n_lstore_n (lv' := [(1, .long 19487171000), (3, .int 26), (0, .ref h0)]) C d_X12_init_425 (by decide) rfl ?_
  refine n_iinc (j := 1) (v := 27) (lv' := [(3, .int 27), (1, .long 19487171000), (0, .ref h0)]) C d_X12_init_426 rfl (by decide) (by decide) rfl ?_
  refine n_goto (tgt := 400) C d_X12_init_429 (by decide) ?_
  refine n_iload_n (j := 0) C d_X12_init_400 rfl ?_
  refine n_bipush (v := 40) C d_X12_init_401 (by decide) ?_
  refine n_gt_no (tgt := 432) C d_X12_init_403 (by decide) (by decide) ?_
  refine n_aload_n (j := 2) C d_X12_init_406 rfl ?_
  refine n_get (Cn := RX12) (T := TX12) C 0 0 inX12 rfl tw_1211 rfl rfl (by decide) rfl d_X12_init_407 ?_
  refine n_iload_n (j := 0) C d_X12_init_410 rfl ?_
  refine n_lload_n (j := 1) C d_X12_init_411 rfl ?_
  refine n_callS (rest := [.int 27, .ref q0]) C [.long 19487171000] [0, 1, 2, 3, 4, 5, 6, 7, 8, 9, 10, 11, 12, 13, 14, 15, 16, 17] kk_X12_rootOfNumber tw_1205 rfl (by decide +kernel) ⟨by decide, by decide⟩ ⟨Nat.le_of_ble_eq_true rfl, Nat.le_of_ble_eq_true rfl⟩ (Nat.le_of_ble_eq_true rfl) d_X12_init_412 n_X12_rootOfNumber rfl ?_
  refine n_topl (y := 139596) (by decide +kernel) ?_
  refine n_last (j := 27) C 1 rfl (inb_vp (by decide)) (by decide) d_X12_init_415 ?_
  refine n_eq (ws' := [(h0, .inr (11, [.ref q0, .int 0, .int 0, .int 0, .ref q1, .ref q2, .ref q3, .ref q4, .int 0, .int 0, .int 0, .int 0, .long 187429700, .long 326280, .long 8930039, .long 257, .long 11522, .long 841, .long 92275, .long 6476969, .long 240223, .long 10815598, .long 1065, .long 5528, .int 0, .int 0, .int 0, .ref q5, .ref q6, .long 0, .long 0, .long 0, .long 0, .int 0, .int 0, .ref q7, .ref q8, .ref q9, .ref q10, .ref q11, .ref q12, .ref q13, .int 0, .int 0, .int 0, .long 0, .int 0, .ref q14, .ref q15, .ref q16, .int 0, .long 0, .int 0, .long 0, .int 0])), (q0, .inl (cy 2, 41, .inr (.inl (vp_updL (vp_updL (vp_updL (vp_updL (vp_updL (vp_updL (vp_updL (vp_updL (fun _ => 0) 20 100000) 21 104880) 22 110000) 23 115368) 24 121000) 25 126905) 26 133100) 27 139596)))), (q1, .inl (cy 1, 25, .inl (fun _ => 0))), (q2, .inl (cy 2, 258, .inr (.inl (fun _ => 0)))), (q3, .inl (cy 2, 516, .inr (.inl (fun _ => 0)))), (q4, .inl (cy 0, 400, .inl (fun _ => 0))), (q5, .inl (cy 1, 35, .inl (fun _ => 0))), (q6, .inl (cy 1, 20, .inl (fun _ => 0))), (q7, .inl (cy 1, 40, .inl (fun _ => 0))), (q8, .inl (cy 1, 40, .inl (fun _ => 0))), (q9, .inl (cy 1, 160, .inl (fun _ => 0))), (q10, .inl (cy 1, 40, .inl (fun _ => 0))), (q11, .inl (cy 1, 40, .inl (fun _ => 0))), (q12, .inl (cy 2, 7, .inr (.inl (vp_updL (vp_updL (vp_updL (vp_updL (vp_updL (vp_updL (vp_updL (fun _ => 0) 0 257) 1 11522) 2 841) 3 92275) 4 6476969) 5 240223) 6 10815598)))), (q13, .inl (cy 1, 4, .inl (fun _ => 0))), (q14, .inl (cy 1, 4, .inl (fun _ => 0))), (q15, .inl (cy 1, 4, .inl (fun _ => 0))), (q16, .inl (cy 2, 4, .inr (.inl (fun _ => 0))))]) rfl ?_
  refine n_lload_n (j := 1) C d_X12_init_416 rfl ?_
  refine n_ldc2 (v := 11) C tw_1209 d_X12_init_417 ?_
  refine n_lmul C d_X12_init_420 ?_
  refine n_topl (y := 214358881000) (by decide +kernel) ?_
  refine n_ldc2 (v := 10) C tw_1210 d_X12_init_421 ?_
  refine n_ldiv C (by decide) d_X12_init_424 ?_
  refine n_topl (y := 21435888100) (by decide +kernel) ?_
  refine n_lstore_n (lv' := [(1, .long 21435888100), (3, .int 27), (0, .ref h0)]) C d_X12_init_425 (by decide) rfl ?_
  refine n_iinc (j := 1) (v := 28) (lv' := [(3, .int 28), (1, .long 21435888100), (0, .ref h0)]) C d_X12_init_426 rfl (by decide) (by decide) rfl ?_
  refine n_goto (tgt := 400) C d_X12_init_429 (by decide) ?_
  refine n_iload_n (j := 0) C d_X12_init_400 rfl ?_
  refine n_bipush (v := 40) C d_X12_init_401 (by decide) ?_
  refine n_gt_no (tgt := 432) C d_X12_init_403 (by decide) (by decide) ?_
  refine n_aload_n (j := 2) C d_X12_init_406 rfl ?_
  refine n_get (Cn := RX12) (T := TX12) C 0 0 inX12 rfl tw_1211 rfl rfl (by decide) rfl d_X12_init_407 ?_
  refine n_iload_n (j := 0) C d_X12_init_410 rfl ?_
  refine n_lload_n (j := 1) C d_X12_init_411 rfl ?_
  refine n_callS (rest := [.int 28, .ref q0]) C [.long 21435888100] [0, 1, 2, 3, 4, 5, 6, 7, 8, 9, 10, 11, 12, 13, 14, 15, 16, 17] kk_X12_rootOfNumber tw_1205 rfl (by decide +kernel) ⟨by decide, by decide⟩ ⟨Nat.le_of_ble_eq_true rfl, Nat.le_of_ble_eq_true rfl⟩ (Nat.le_of_ble_eq_true rfl) d_X12_init_412 n_X12_rootOfNumber rfl ?_
  refine n_topl (y := 146410) (by decide +kernel) ?_
  refine n_last (j := 28) C 1 rfl (inb_vp (by decide)) (by decide) d_X12_init_415 ?_
  refine n_eq (ws' := [(h0, .inr (11, [.ref q0, .int 0, .int 0, .int 0, .ref q1, .ref q2, .ref q3, .ref q4, .int 0, .int 0, .int 0, .int 0, .long 187429700, .long 326280, .long 8930039, .long 257, .long 11522, .long 841, .long 92275, .long 6476969, .long 240223, .long 10815598, .long 1065, .long 5528, .int 0, .int 0, .int 0, .ref q5, .ref q6, .long 0, .long 0, .long 0, .long 0, .int 0, .int 0, .ref q7, .ref q8, .ref q9, .ref q10, .ref q11, .ref q12, .ref q13, .int 0, .int 0, .int 0, .long 0, .int 0, .ref q14, .ref q15, .ref q16, .int 0, .long 0, .int 0, .long 0, .int 0])), (q0, .inl (cy 2, 41, .inr (.inl (vp_updL (vp_updL (vp_updL (vp_updL (vp_updL (vp_updL (vp_updL (vp_updL (vp_updL (fun _ => 0) 20 100000) 21 104880) 22 110000) 23 115368) 24 121000) 25 126905) 26 133100) 27 139596) 28 146410)))), (q1, .inl (cy 1, 25, .inl (fun _ => 0))), (q2, .inl (cy 2, 258, .inr (.inl (fun _ => 0)))), (q3, .inl (cy 2, 516, .inr (.inl (fun _ => 0)))), (q4, .inl (cy 0, 400, .inl (fun _ => 0))), (q5, .inl (cy 1, 35, .inl (fun _ => 0))), (q6, .inl (cy 1, 20, .inl (fun _ => 0))), (q7, .inl (cy 1, 40, .inl (fun _ => 0))), (q8, .inl (cy 1, 40, .inl (fun _ => 0))), (q9, .inl (cy 1, 160, .inl (fun _ => 0))), (q10, .inl (cy 1, 40, .inl (fun _ => 0))), (q11, .inl (cy 1, 40, .inl (fun _ => 0))), (q12, .inl (cy 2, 7, .inr (.inl (vp_updL (vp_updL (vp_updL (vp_updL (vp_updL (vp_updL (vp_updL (fun _ => 0) 0 257) 1 11522) 2 841) 3 92275) 4 6476969) 5 240223) 6 10815598)))), (q13, .inl (cy 1, 4, .inl (fun _ => 0))), (q14, .inl (cy 1, 4, .inl (fun _ => 0))), (q15, .inl (cy 1, 4, .inl (fun _ => 0))), (q16, .inl (cy 2, 4, .inr (.inl (fun _ => 0))))]) rfl ?_
  refine n_lload_n (j := 1) C d_X12_init_416 rfl ?_
  refine n_ldc2 (v := 11) C tw_1209 d_X12_init_417 ?_
  refine n_lmul C d_X12_init_420 ?_
  refine n_topl (y := 235794769100) (by decide +kernel) ?_
  refine n_ldc2 (v := 10) C tw_1210 d_X12_init_421 ?_
  refine n_ldiv C (by decide) d_X12_init_424 ?_
  refine n_topl (y := 23579476910) (by decide +kernel) ?_
  refine n_lstore_n (lv' := [(1, .long 23579476910), (3, .int 28), (0, .ref h0)]) C d_X12_init_425 (by decide) rfl ?_
  refine n_iinc (j := 1) (v := 29) (lv' := [(3, .int 29), (1, .long 23579476910), (0, .ref h0)]) C d_X12_init_426 rfl (by decide) (by decide) rfl ?_
  refine n_goto (tgt := 400) C d_X12_init_429 (by decide) ?_
  refine n_iload_n (j := 0) C d_X12_init_400 rfl ?_
  refine n_bipush (v := 40) C d_X12_init_401 (by decide) ?_
  refine n_gt_no (tgt := 432) C d_X12_init_403 (by decide) (by decide) ?_
  refine n_aload_n (j := 2) C d_X12_init_406 rfl ?_
  refine n_get (Cn := RX12) (T := TX12) C 0 0 inX12 rfl tw_1211 rfl rfl (by decide) rfl d_X12_init_407 ?_
  refine n_iload_n (j := 0) C d_X12_init_410 rfl ?_
  refine n_lload_n (j := 1) C d_X12_init_411 rfl ?_
  refine n_callS (rest := [.int 29, .ref q0]) C [.long 23579476910] [0, 1, 2, 3, 4, 5, 6, 7, 8, 9, 10, 11, 12, 13, 14, 15, 16, 17] kk_X12_rootOfNumber tw_1205 rfl (by decide +kernel) ⟨by decide, by decide⟩ ⟨Nat.le_of_ble_eq_true rfl, Nat.le_of_ble_eq_true rfl⟩ (Nat.le_of_ble_eq_true rfl) d_X12_init_412 n_X12_rootOfNumber rfl ?_
  refine n_topl (y := 153556) (by decide +kernel) ?_
  refine n_last (j := 29) C 1 rfl (inb_vp (by decide)) (by decide) d_X12_init_415 ?_
  refine n_eq (ws' := [(h0, .inr (11, [.ref q0, .int 0, .int 0, .int 0, .ref q1, .ref q2, .ref q3, .ref q4, .int 0, .int 0, .int 0, .int 0, .long 187429700, .long 326280, .long 8930039, .long 257, .long 11522, .long 841, .long 92275, .long 6476969, .long 240223, .long 10815598, .long 1065, .long 5528, .int 0, .int 0, .int 0, .ref q5, .ref q6, .long 0, .long 0, .long 0, .long 0, .int 0, .int 0, .ref q7, .ref q8, .ref q9, .ref q10, .ref q11, .ref q12, .ref q13, .int 0, .int 0, .int 0, .long 0, .int 0, .ref q14, .ref q15, .ref q16, .int 0, .long 0, .int 0, .long 0, .int 0])), (q0, .inl (cy 2, 41, .inr (.inl (vp_updL (vp_updL (vp_updL (vp_updL (vp_updL (vp_updL (vp_updL (vp_updL (vp_updL (vp_updL (fun _ => 0) 20 100000) 21 104880) 22 110000) 23 115368) 24 121000) 25 126905) 26 133100) 27 139596) 28 146410) 29 153556)))), (q1, .inl (cy 1, 25, .inl (fun _ => 0))), (q2, .inl (cy 2, 258, .inr (.inl (fun _ => 0)))), (q3, .inl (cy 2, 516, .inr (.inl (fun _ => 0)))), (q4, .inl (cy 0, 400, .inl (fun _ => 0))), (q5, .inl (cy 1, 35, .inl (fun _ => 0))), (q6, .inl (cy 1, 20, .inl (fun _ => 0))), (q7, .inl (cy 1, 40, .inl (fun _ => 0))), (q8, .inl (cy 1, 40, .inl (fun _ => 0))), (q9, .inl (cy 1, 160, .inl (fun _ => 0))), (q10, .inl (cy 1, 40, .inl (fun _ => 0))), (q11, .inl (cy 1, 40, .inl (fun _ => 0))), (q12, .inl (cy 2, 7, .inr (.inl (vp_updL (vp_updL (vp_updL (vp_updL (vp_updL (vp_updL (vp_updL (fun _ => 0) 0 257) 1 11522) 2 841) 3 92275) 4 6476969) 5 240223) 6 10815598)))), (q13, .inl (cy 1, 4, .inl (fun _ => 0))), (q14, .inl (cy 1, 4, .inl (fun _ => 0))), (q15, .inl (cy 1, 4, .inl (fun _ => 0))), (q16, .inl (cy 2, 4, .inr (.inl (fun _ => 0))))]) rfl ?_
  refine n_lload_n (j := 1) C d_X12_init_416 rfl ?_
  refine n_ldc2 (v := 11) C tw_1209 d_X12_init_417 ?_
  refine n_lmul C d_X12_init_420 ?_
  refine n_topl (y := 259374246010) (by decide +kernel) ?_
  refine n_ldc2 (v := 10) C tw_1210 d_X12_init_421 ?_
  refine n_ldiv C (by decide) d_X12_init_424 ?_
  refine n_topl (y := 25937424601) (by decide +kernel) ?_
  refine n_lstore_n (lv' := [(1, .long 25937424601), (3, .int 29), (0, .ref h0)]) C d_X12_init_425 (by decide) rfl ?_
  refine n_iinc (j := 1) (v := 30) (lv' := [(3, .int 30), (1, .long 25937424601), (0, .ref h0)]) C d_X12_init_426 rfl (by decide) (by decide) rfl ?_
  refine n_goto (tgt := 400) C d_X12_init_429 (by decide) ?_
  refine n_iload_n (j := 0) C d_X12_init_400 rfl ?_
  refine n_bipush (v := 40) C d_X12_init_401 (by decide) ?_
  refine n_gt_no (tgt := 432) C d_X12_init_403 (by decide) (by decide) ?_
  refine n_aload_n (j := 2) C d_X12_init_406 rfl ?_
  refine n_get (Cn := RX12) (T := TX12) C 0 0 inX12 rfl tw_1211 rfl rfl (by decide) rfl d_X12_init_407 ?_
  refine n_iload_n (j := 0) C d_X12_init_410 rfl ?_
  refine n_lload_n (j := 1) C d_X12_init_411 rfl ?_
  refine n_callS (rest := [.int 30, .ref q0]) C [.long 25937424601] [0, 1, 2, 3, 4, 5, 6, 7, 8, 9, 10, 11, 12, 13, 14, 15, 16, 17] kk_X12_rootOfNumber tw_1205 rfl (by decide +kernel) ⟨by decide, by decide⟩ ⟨Nat.le_of_ble_eq_true rfl, Nat.le_of_ble_eq_true rfl⟩ (Nat.le_of_ble_eq_true rfl) d_X12_init_412 n_X12_rootOfNumber rfl ?_
  refine n_topl (y := 161051) (by decide +kernel) ?_
  refine n_last (j := 30) C 1 rfl (inb_vp (by decide)) (by decide) d_X12_init_415 ?_
  refine n_eq (ws' := [(h0, .inr (11, [.ref q0, .int 0, .int 0, .int 0, .ref q1, .ref q2, .ref q3, .ref q4, .int 0, .int 0, .int 0, .int 0, .long 187429700, .long 326280, .long 8930039, .long 257, .long 11522, .long 841, .long 92275, .long 6476969, .long 240223, .long 10815598, .long 1065, .long 5528, .int 0, .int 0, .int 0, .ref q5, .ref q6, .long 0, .long 0, .long 0, .long 0, .int 0, .int 0, .ref q7, .ref q8, .ref q9, .ref q10, .ref q11, .ref q12, .ref q13, .int 0, .int 0, .int 0, .long 0, .int 0, .ref q14, .ref q15, .ref q16, .int 0, .long 0, .int 0, .long 0, .int 0])), (q0, .inl (cy 2, 41, .inr (.inl (vp_updL (vp_updL (vp_updL (vp_updL (vp_updL (vp_updL (vp_updL (vp_updL (vp_updL (vp_updL (vp_updL (fun _ => 0) 20 100000) 21 104880) 22 110000) 23 115368) 24 121000) 25 126905) 26 133100) 27 139596) 28 146410) 29 153556) 30 161051)))), (q1, .inl (cy 1, 25, .inl (fun _ => 0))), (q2, .inl (cy 2, 258, .inr (.inl (fun _ => 0)))), (q3, .inl (cy 2, 516, .inr (.inl (fun _ => 0)))), (q4, .inl (cy 0, 400, .inl (fun _ => 0))), (q5, .inl (cy 1, 35, .inl (fun _ => 0))), (q6, .inl (cy 1, 20, .inl (fun _ => 0))), (q7, .inl (cy 1, 40, .inl (fun _ => 0))), (q8, .inl (cy 1, 40, .inl (fun _ => 0))), (q9, .inl (cy 1, 160, .inl (fun _ => 0))), (q10, .inl (cy 1, 40, .inl (fun _ => 0))), (q11, .inl (cy 1, 40, .inl (fun _ => 0))), (q12, .inl (cy 2, 7, .inr (.inl (vp_updL (vp_updL (vp_updL (vp_updL (vp_updL (vp_updL (vp_updL (fun _ => 0) 0 257) 1 11522) 2 841) 3 92275) 4 6476969) 5 240223) 6 10815598)))), (q13, .inl (cy 1, 4, .inl (fun _ => 0))), (q14, .inl (cy 1, 4, .inl (fun _ => 0))), (q15, .inl (cy 1, 4, .inl (fun _ => 0))), (q16, .inl (cy 2, 4, .inr (.inl (fun _ => 0))))]) rfl ?_
  refine n_lload_n (j := 1) C d_X12_init_416 rfl ?_
  refine n_ldc2 (v := 11) C tw_1209 d_X12_init_417 ?_
  refine n_lmul C d_X12_init_420 ?_
  refine n_topl (y := 285311670611) (by decide +kernel) ?_
  refine n_ldc2 (v := 10) C tw_1210 d_X12_init_421 ?_
  refine n_ldiv C (by decide) d_X12_init_424 ?_
  refine n_topl (y := 28531167061) (by decide +kernel) ?_
  refine n_lstore_n (lv' := [(1, .long 28531167061), (3, .int 30), (0, .ref h0)]) C d_X12_init_425 (by decide) rfl ?_
  refine n_iinc (j := 1) (v := 31) (lv' := [(3, .int 31), (1, .long 28531167061), (0, .ref h0)]) C d_X12_init_426 rfl (by decide) (by decide) rfl ?_
  refine n_goto (tgt := 400) C d_X12_init_429 (by decide) ?_
  refine n_iload_n (j := 0) C d_X12_init_400 rfl ?_
  refine n_bipush (v := 40) C d_X12_init_401 (by decide) ?_
  refine n_gt_no (tgt := 432) C d_X12_init_403 (by decide) (by decide) ?_
  refine n_aload_n (j := 2) C d_X12_init_406 rfl ?_
  refine n_get (Cn := RX12) (T := TX12) C 0 0 inX12 rfl tw_1211 rfl rfl (by decide) rfl d_X12_init_407 ?_
  refine n_iload_n (j := 0) C d_X12_init_410 rfl ?_
  refine n_lload_n (j := 1) C d_X12_init_411 rfl ?_
  refine n_callS (rest := [.int 31, .ref q0]) C [.long 28531167061] [0, 1, 2, 3, 4, 5, 6, 7, 8, 9, 10, 11, 12, 13, 14, 15, 16, 17] kk_X12_rootOfNumber tw_1205 rfl (by decide +kernel) ⟨by decide, by decide⟩ ⟨Nat.le_of_ble_eq_true rfl, Nat.le_of_ble_eq_true rfl⟩ (Nat.le_of_ble_eq_true rfl) d_X12_init_412 n_X12_rootOfNumber rfl ?_
  refine n_topl (y := 168911) (by decide +kernel) ?_
  refine n_last (j := 31) C 1 rfl (inb_vp (by decide)) (by decide) d_X12_init_415 ?_
  refine n_eq (ws' := [(h0, .inr (11, [.ref q0, .int 0, .int 0, .int 0, .ref q1, .ref q2, .ref q3, .ref q4, .int 0, .int 0, .int 0, .int 0, .long 187429700, .long 326280, .long 8930039, .long 257, .long 11522, .long 841, .long 92275, .long 6476969, .long 240223, .long 10815598, .long 1065, .long 5528, .int 0, .int 0, .int 0, .ref q5, .ref q6, .long 0, .long 0, .long 0, .long 0, .int 0, .int 0, .ref q7, .ref q8, .ref q9, .ref q10, .ref q11, .ref q12, .ref q13, .int 0, .int 0, .int 0, .long 0, .int 0, .ref q14, .ref q15, .ref q16, .int 0, .long 0, .int 0, .long 0, .int 0])), (q0, .inl (cy 2, 41, .inr (.inl (vp_updL (vp_updL (vp_updL (vp_updL (vp_updL (vp_updL (vp_updL (vp_updL (vp_updL (vp_updL (vp_updL (vp_updL (fun _ => 0) 20 100000) 21 104880) 22 110000) 23 115368) 24 121000) 25 126905) 26 133100) 27 139596) 28 146410) 29 153556) 30 161051) 31 168911)))), (q1, .inl (cy 1, 25, .inl (fun _ => 0))), (q2, .inl (cy 2, 258, .inr (.inl (fun _ => 0)))), (q3, .inl (cy 2, 516, .inr (.inl (fun _ => 0)))), (q4, .inl (cy 0, 400, .inl (fun _ => 0))), (q5, .inl (cy 1, 35, .inl (fun _ => 0))), (q6, .inl (cy 1, 20, .inl (fun _ => 0))), (q7, .inl (cy 1, 40, .inl (fun _ => 0))), (q8, .inl (cy 1, 40, .inl (fun _ => 0))), (q9, .inl (cy 1, 160, .inl (fun _ => 0))), (q10, .inl (cy 1, 40, .inl (fun _ => 0))), (q11, .inl (cy 1, 40, .inl (fun _ => 0))), (q12, .inl (cy 2, 7, .inr (.inl (vp_updL (vp_updL (vp_updL (vp_updL (vp_updL (vp_updL (vp_updL (fun _ => 0) 0 257) 1 11522) 2 841) 3 92275) 4 6476969) 5 240223) 6 10815598)))), (q13, .inl (cy 1, 4, .inl (fun _ => 0))), (q14, .inl (cy 1, 4, .inl (fun _ => 0))), (q15, .inl (cy 1, 4, .inl (fun _ => 0))), (q16, .inl (cy 2, 4, .inr (.inl (fun _ => 0))))]) rfl ?_
  refine n_lload_n (j := 1) C d_X12_init_416 rfl ?_
  refine n_ldc2 (v := 11) C tw_1209 d_X12_init_417 ?_
  refine n_lmul C d_X12_init_420 ?_
  refine n_topl (y := 313842837671) (by decide +kernel) ?_
  refine n_ldc2 (v := 10) C tw_1210 d_X12_init_421 ?_
  refine n_ldiv C (by decide) d_X12_init_424 ?_
  refine n_topl (y := 31384283767) (by decide +kernel) ?_
  refine n_lstore_n (lv' := [(1, .long 31384283767), (3, .int 31), (0, .ref h0)]) C d_X12_init_425 (by decide) rfl ?_
  refine n_iinc (j := 1) (v := 32) (lv' := [(3, .int 32), (1, .long 31384283767), (0, .ref h0)]) C d_X12_init_426 rfl (by decide) (by decide) rfl ?_
  refine n_goto (tgt := 400) C d_X12_init_429 (by decide) ?_
  refine n_iload_n (j := 0) C d_X12_init_400 rfl ?_
  refine n_bipush (v := 40) C d_X12_init_401 (by decide) ?_
  refine n_gt_no (tgt := 432) C d_X12_init_403 (by decide) (by decide) ?_
  refine n_aload_n (j := 2) C d_X12_init_406 rfl ?_
  refine n_get (Cn := RX12) (T := TX12) C 0 0 inX12 rfl tw_1211 rfl rfl (by decide) rfl d_X12_init_407 ?_
  refine n_iload_n (j := 0) C d_X12_init_410 rfl ?_
  refine n_lload_n (j := 1) C d_X12_init_411 rfl ?_
  refine n_callS (rest := [.int 32, .ref q0]) C [.long 31384283767] [0, 1, 2, 3, 4, 5, 6, 7, 8, 9, 10, 11, 12, 13, 14, 15, 16, 17] kk_X12_rootOfNumber tw_1205 rfl (by decide +kernel) ⟨by decide, by decide⟩ ⟨Nat.le_of_ble_eq_true rfl, Nat.le_of_ble_eq_true rfl⟩ (Nat.le_of_ble_eq_true rfl) d_X12_init_412 n_X12_rootOfNumber rfl ?_
  refine n_topl (y := 177156) (by decide +kernel) ?_
  refine n_last (j := 32) C 1 rfl (inb_vp (by decide)) (by decide) d_X12_init_415 ?_
  refine n_eq (ws' := [(h0, .inr (11, [.ref q0, .int 0, .int 0, .int 0, .ref q1, .ref q2, .ref q3, .ref q4, .int 0, .int 0, .int 0, .int 0, .long 187429700, .long 326280, .long 8930039, .long 257, .long 11522, .long 841, .long 92275, .long 6476969, .long 240223, .long 10815598, .long 1065, .long 5528, .int 0, .int 0, .int 0, .ref q5, .ref q6, .long 0, .long 0, .long 0, .long 0, .int 0, .int 0, .ref q7, .ref q8, .ref q9, .ref q10, .ref q11, .ref q12, .ref q13, .int 0, .int 0, .int 0, .long 0, .int 0, .ref q14, .ref q15, .ref q16, .int 0, .long 0, .int 0, .long 0, .int 0])), (q0, .inl (cy 2, 41, .inr (.inl (vp_updL (vp_updL (vp_updL (vp_updL (vp_updL (vp_updL (vp_updL (vp_updL (vp_updL (vp_updL (vp_updL (vp_updL (vp_updL (fun _ => 0) 20 100000) 21 104880) 22 110000) 23 115368) 24 121000) 25 126905) 26 133100) 27 139596) 28 146410) 29 153556) 30 161051) 31 168911) 32 177156)))), (q1, .inl (cy 1, 25, .inl (fun _ => 0))), (q2, .inl (cy 2, 258, .inr (.inl (fun _ => 0)))), (q3, .inl (cy 2, 516, .inr (.inl (fun _ => 0)))), (q4, .inl (cy 0, 400, .inl (fun _ => 0))), (q5, .inl (cy 1, 35, .inl (fun _ => 0))), (q6, .inl (cy 1, 20, .inl (fun _ => 0))), (q7, .inl (cy 1, 40, .inl (fun _ => 0))), (q8, .inl (cy 1, 40, .inl (fun _ => 0))), (q9, .inl (cy 1, 160, .inl (fun _ => 0))), (q10, .inl (cy 1, 40, .inl (fun _ => 0))), (q11, .inl (cy 1, 40, .inl (fun _ => 0))), (q12, .inl (cy 2, 7, .inr (.inl (vp_updL (vp_updL (vp_updL (vp_updL (vp_updL (vp_updL (vp_updL (fun _ => 0) 0 257) 1 11522) 2 841) 3 92275) 4 6476969) 5 240223) 6 10815598)))), (q13, .inl (cy 1, 4, .inl (fun _ => 0))), (q14, .inl (cy 1, 4, .inl (fun _ => 0))), (q15, .inl (cy 1, 4, .inl (fun _ => 0))), (q16, .inl (cy 2, 4, .inr (.inl (fun _ => 0))))]) rfl ?_
  refine n_lload_n (j := 1) C d_X12_init_416 rfl ?_
  refine n_ldc2 (v := 11) C tw_1209 d_X12_init_417 ?_
  refine n_lmul C d_X12_init_420 ?_
  refine n_topl (y := 345227121437) (by decide +kernel) ?_
  refine n_ldc2 (v := 10) C tw_1210 d_X12_init_421 ?_
  refine n_ldiv C (by decide) d_X12_init_424 ?_
  refine n_topl (y := 34522712143) (by decide +kernel) ?_
  refine n_lstore_n (lv' := [(1, .long 34522712143), (3, .int 32), (0, .ref h0)]) C d_X12_init_425 (by decide) rfl ?_
  refine n_iinc (j := 1) (v := 33) (lv' := [(3, .int 33), (1, .long 34522712143), (0, .ref h0)]) C d_X12_init_426 rfl (by decide) (by decide) rfl ?_
  refine n_goto (tgt := 400) C d_X12_init_429 (by decide) ?_
  refine n_iload_n (j := 0) C d_X12_init_400 rfl ?_
  refine n_bipush (v := 40) C d_X12_init_401 (by decide) ?_
  refine n_gt_no (tgt := 432) C d_X12_init_403 (by decide) (by decide) ?_
  refine n_aload_n (j := 2) C d_X12_init_406 rfl ?_
  refine n_get (Cn := RX12) (T := TX12) C 0 0 inX12 rfl tw_1211 rfl rfl (by decide) rfl d_X12_init_407 ?_
  refine n_iload_n (j := 0) C d_X12_init_410 rfl ?_
  refine n_lload_n (j := 1) C d_X12_init_411 rfl ?_
  refine n_callS (rest := [.int 33, .ref q0]) C [.long 34522712143] [0, 1, 2, 3, 4, 5, 6, 7, 8, 9, 10, 11, 12, 13, 14, 15, 16, 17] kk_X12_rootOfNumber tw_1205 rfl (by decide +kernel) ⟨by decide, by decide⟩ ⟨Nat.le_of_ble_eq_true rfl, Nat.le_of_ble_eq_true rfl⟩ (Nat.le_of_ble_eq_true rfl) d_X12_init_412 n_X12_rootOfNumber rfl ?_
  refine n_topl (y := 185802) (by decide +kernel) ?_
  refine n_last (j := 33) C 1 rfl (inb_vp (by decide)) (by decide) d_X12_init_415 ?_
  refine n_eq (ws' := [(h0, .inr (11, [.ref q0, .int 0, .int 0, .int 0, .ref q1, .ref q2, .ref q3, .ref q4, .int 0, .int 0, .int 0, .int 0, .long 187429700, .long 326280, .long 8930039, .long 257, .long 11522, .long 841, .long 92275, .long 6476969, .long 240223, .long 10815598, .long 1065, .long 5528, .int 0, .int 0, .int 0, .ref q5, .ref q6, .long 0, .long 0, .long 0, .long 0, .int 0, .int 0, .ref q7, .ref q8, .ref q9, .ref q10, .ref q11, .ref q12, .ref q13, .int 0, .int 0, .int 0, .long 0, .int 0, .ref q14, .ref q15, .ref q16, .int 0, .long 0, .int 0, .long 0, .int 0])), (q0, .inl (cy 2, 41, .inr (.inl (vp_updL (vp_updL (vp_updL (vp_updL (vp_updL (vp_updL (vp_updL (vp_updL (vp_updL (vp_updL (vp_updL (vp_updL (vp_updL (vp_updL (fun _ => 0) 20 100000) 21 104880) 22 110000) 23 115368) 24 121000) 25 126905) 26 133100) 27 139596) 28 146410) 29 153556) 30 161051) 31 168911) 32 177156) 33 185802)))), (q1, .inl (cy 1, 25, .inl (fun _ => 0))), (q2, .inl (cy 2, 258, .inr (.inl (fun _ => 0)))), (q3, .inl (cy 2, 516, .inr (.inl (fun _ => 0)))), (q4, .inl (cy 0, 400, .inl (fun _ => 0))), (q5, .inl (cy 1, 35, .inl (fun _ => 0))), (q6, .inl (cy 1, 20, .inl (fun _ => 0))), (q7, .inl (cy 1, 40, .inl (fun _ => 0))), (q8, .inl (cy 1, 40, .inl (fun _ => 0))), (q9, .inl (cy 1, 160, .inl (fun _ => 0))), (q10, .inl (cy 1, 40, .inl (fun _ => 0))), (q11, .inl (cy 1, 40, .inl (fun _ => 0))), (q12, .inl (cy 2, 7, .inr (.inl (vp_updL (vp_updL (vp_updL (vp_updL (vp_updL (vp_updL (vp_updL (fun _ => 0) 0 257) 1 11522) 2 841) 3 92275) 4 6476969) 5 240223) 6 10815598)))), (q13, .inl (cy 1, 4, .inl (fun _ => 0))), (q14, .inl (cy 1, 4, .inl (fun _ => 0))), (q15, .inl (cy 1, 4, .inl (fun _ => 0))), (q16, .inl (cy 2, 4, .inr (.inl (fun _ => 0))))]) rfl ?_
  refine n_lload_n (j := 1) C d_X12_init_416 rfl ?_
  refine n_ldc2 (v := 11) C tw_1209 d_X12_init_417 ?_
  refine n_lmul C d_X12_init_420 ?_
  refine n_topl (y := 379749833573) (by decide +kernel) ?_
  refine n_ldc2 (v := 10) C tw_1210 d_X12_init_421 ?_
  refine n_ldiv C (by decide) d_X12_init_424 ?_
  refine n_topl (y := 37974983357) (by decide +kernel) ?_
  refine n_lstore_n (lv' := [(1, .long 37974983357), (3, .int 33), (0, .ref h0)]) C d_X12_init_425 (by decide) rfl ?_
  refine n_iinc (j := 1) (v := 34) (lv' := [(3, .int 34), (1, .long 37974983357), (0, .ref h0)]) C d_X12_init_426 rfl (by decide) (by decide) rfl ?_
  refine n_goto (tgt := 400) C d_X12_init_429 (by decide) ?_
  refine n_iload_n (j := 0) C d_X12_init_400 rfl ?_
  refine n_bipush (v := 40) C d_X12_init_401 (by decide) ?_
  refine n_gt_no (tgt := 432) C d_X12_init_403 (by decide) (by decide) ?_
  refine n_aload_n (j := 2) C d_X12_init_406 rfl ?_
  refine n_get (Cn := RX12) (T := TX12) C 0 0 inX12 rfl tw_1211 rfl rfl (by decide) rfl d_X12_init_407 ?_
  refine n_iload_n (j := 0) C d_X12_init_410 rfl ?_
  refine n_lload_n (j := 1) C d_X12_init_411 rfl ?_
  refine n_callS (rest := [.int 34, .ref q0]) C [.long 37974983357] [0, 1, 2, 3, 4, 5, 6, 7, 8, 9, 10, 11, 12, 13, 14, 15, 16, 17] kk_X12_rootOfNumber tw_1205 rfl (by decide +kernel) ⟨by decide, by decide⟩ ⟨Nat.le_of_ble_eq_true rfl, Nat.le_of_ble_eq_true rfl⟩ (Nat.le_of_ble_eq_true rfl) d_X12_init_412 n_X12_rootOfNumber rfl ?_
  refine n_topl (y := 194871) (by decide +kernel) ?_
  refine n_last (j := 34) C 1 rfl (inb_vp (by decide)) (by decide) d_X12_init_415 ?_
  refine n_eq (ws' := [(h0, .inr (11, [.ref q0, .int 0, .int 0, .int 0, .ref q1, .ref q2, .ref q3, .ref q4, .int 0, .int 0, .int 0, .int 0, .long 187429700, .long 326280, .long 8930039, .long 257, .long 11522, .long 841, .long 92275, .long 6476969, .long 240223, .long 10815598, .long 1065, .long 5528, .int 0, .int 0, .int 0, .ref q5, .ref q6, .long 0, .long 0, .long 0, .long 0, .int 0, .int 0, .ref q7, .ref q8, .ref q9, .ref q10, .ref q11, .ref q12, .ref q13, .int 0, .int 0, .int 0, .long 0, .int 0, .ref q14, .ref q15, .ref q16, .int 0, .long 0, .int 0, .long 0, .int 0])), (q0, .inl (cy 2, 41, .inr (.inl (vp_updL (vp_updL (vp_updL (vp_updL (vp_updL (vp_updL (vp_updL (vp_updL (vp_updL (vp_updL (vp_updL (vp_updL (vp_updL (vp_updL (vp_updL (fun _ => 0) 20 100000) 21 104880) 22 110000) 23 115368) 24 121000) 25 126905) 26 133100) 27 139596) 28 146410) 29 153556) 30 161051) 31 168911) 32 177156) 33 185802) 34 194871)))), (q1, .inl (cy 1, 25, .inl (fun _ => 0))), (q2, .inl (cy 2, 258, .inr (.inl (fun _ => 0)))), (q3, .inl (cy 2, 516, .inr (.inl (fun _ => 0)))), (q4, .inl (cy 0, 400, .inl (fun _ => 0))), (q5, .inl (cy 1, 35, .inl (fun _ => 0))), (q6, .inl (cy 1, 20, .inl (fun _ => 0))), (q7, .inl (cy 1, 40, .inl (fun _ => 0))), (q8, .inl (cy 1, 40, .inl (fun _ => 0))), (q9, .inl (cy 1, 160, .inl (fun _ => 0))), (q10, .inl (cy 1, 40, .inl (fun _ => 0))), (q11, .inl (cy 1, 40, .inl (fun _ => 0))), (q12, .inl (cy 2, 7, .inr (.inl (vp_updL (vp_updL (vp_updL (vp_updL (vp_updL (vp_updL (vp_updL (fun _ => 0) 0 257) 1 11522) 2 841) 3 92275) 4 6476969) 5 240223) 6 10815598)))), (q13, .inl (cy 1, 4, .inl (fun _ => 0))), (q14, .inl (cy 1, 4, .inl (fun _ => 0))), (q15, .inl (cy 1, 4, .inl (fun _ => 0))), (q16, .inl (cy 2, 4, .inr (.inl (fun _ => 0))))]) rfl ?_
  refine n_lload_n (j := 1) C d_X12_init_416 rfl ?_
  refine n_ldc2 (v := 11) C tw_1209 d_X12_init_417 ?_
  refine n_lmul C d_X12_init_420 ?_
  refine n_topl (y := 417724816927) (by decide +kernel) ?_
  refine n_ldc2 (v := 10) C tw_1210 d_X12_init_421 ?_
  refine n_ldiv C (by decide) d_X12_init_424 ?_
  refine n_topl (y := 41772481692) (by decide +kernel) ?_
  refine n_lstore_n (lv' := [(1, .long 41772481692), (3, .int 34), (0, .ref h0)]) C d_X12_init_425 (by decide) rfl ?_
  refine n_iinc (j := 1) (v := 35) (lv' := [(3, .int 35), (1, .long 41772481692), (0, .ref h0)]) C d_X12_init_426 rfl (by decide) (by decide) rfl ?_
  refine n_goto (tgt := 400) C d_X12_init_429 (by decide) ?_
  refine n_iload_n (j := 0) C d_X12_init_400 rfl ?_
  refine n_bipush (v := 40) C d_X12_init_401 (by decide) ?_
  refine n_gt_no (tgt := 432) C d_X12_init_403 (by decide) (by decide) ?_
  refine n_aload_n (j := 2) C d_X12_init_406 rfl ?_
  refine n_get (Cn := RX12) (T := TX12) C 0 0 inX12 rfl tw_1211 rfl rfl (by decide) rfl d_X12_init_407 ?_
  refine n_iload_n (j := 0) C d_X12_init_410 rfl ?_
  refine n_lload_n (j := 1) C d_X12_init_411 rfl ?_
  refine n_callS (rest := [.int 35, .ref q0]) C [.long 41772481692] [0, 1, 2, 3, 4, 5, 6, 7, 8, 9, 10, 11, 12, 13, 14, 15, 16, 17] kk_X12_rootOfNumber tw_1205 rfl (by decide +kernel) ⟨by decide, by decide⟩ ⟨Nat.le_of_ble_eq_true rfl, Nat.le_of_ble_eq_true rfl⟩ (Nat.le_of_ble_eq_true rfl) d_X12_init_412 n_X12_rootOfNumber rfl ?_
  refine n_topl (y := 204383) (by decide +kernel) ?_
  refine n_last (j := 35) C 1 rfl (inb_vp (by decide)) (by decide) d_X12_init_415 ?_
  refine n_eq (ws' := [(h0, .inr (11, [.ref q0, .int 0, .int 0, .int 0, .ref q1, .ref q2, .ref q3, .ref q4, .int 0, .int 0, .int 0, .int 0, .long 187429700, .long 326280, .long 8930039, .long 257, .long 11522, .long 841, .long 92275, .long 6476969, .long 240223, .long 10815598, .long 1065, .long 5528, .int 0, .int 0, .int 0, .ref q5, .ref q6, .long 0, .long 0, .long 0, .long 0, .int 0, .int 0, .ref q7, .ref q8, .ref q9, .ref q10, .ref q11, .ref q12, .ref q13, .int 0, .int 0, .int 0, .long 0, .int 0, .ref q14, .ref q15, .ref q16, .int 0, .long 0, .int 0, .long 0, .int 0])), (q0, .inl (cy 2, 41, .inr (.inl (vp_updL (vp_updL (vp_updL (vp_updL (vp_updL (vp_updL (vp_updL (vp_updL (vp_updL (vp_updL (vp_updL (vp_updL (vp_updL (vp_updL (vp_updL (vp_updL (fun _ => 0) 20 100000) 21 104880) 22 110000) 23 115368) 24 121000) 25 126905) 26 133100) 27 139596) 28 146410) 29 153556) 30 161051) 31 168911) 32 177156) 33 185802) 34 194871) 35 204383)))), (q1, .inl (cy 1, 25, .inl (fun _ => 0))), (q2, .inl (cy 2, 258, .inr (.inl (fun _ => 0)))), (q3, .inl (cy 2, 516, .inr (.inl (fun _ => 0)))), (q4, .inl (cy 0, 400, .inl (fun _ => 0))), (q5, .inl (cy 1, 35, .inl (fun _ => 0))), (q6, .inl (cy 1, 20, .inl (fun _ => 0))), (q7, .inl (cy 1, 40, .inl (fun _ => 0))), (q8, .inl (cy 1, 40, .inl (fun _ => 0))), (q9, .inl (cy 1, 160, .inl (fun _ => 0))), (q10, .inl (cy 1, 40, .inl (fun _ => 0))), (q11, .inl (cy 1, 40, .inl (fun _ => 0))), (q12, .inl (cy 2, 7, .inr (.inl (vp_updL (vp_updL (vp_updL (vp_updL (vp_updL (vp_updL (vp_updL (fun _ => 0) 0 257) 1 11522) 2 841) 3 92275) 4 6476969) 5 240223) 6 10815598)))), (q13, .inl (cy 1, 4, .inl (fun _ => 0))), (q14, .inl (cy 1, 4, .inl (fun _ => 0))), (q15, .inl (cy 1, 4, .inl (fun _ => 0))), (q16, .inl (cy 2, 4, .inr (.inl (fun _ => 0))))]) rfl ?_
  refine n_lload_n (j := 1) C d_X12_init_416 rfl ?_
  refine n_ldc2 (v := 11) C tw_1209 d_X12_init_417 ?_
  refine n_lmul C d_X12_init_420 ?_
  refine n_topl (y := 459497298612) (by decide +kernel) ?_
  refine n_ldc2 (v := 10) C tw_1210 d_X12_init_421 ?_
  refine n_ldiv C (by decide) d_X12_init_424 ?_
  refine n_topl (y := 45949729861) (by decide +kernel) ?_
  refine n_lstore_n (lv' := [(1, .long 45949729861), (3, .int 35), (0, .ref h0)]) C d_X12_init_425 (by decide) rfl ?_
  refine n_iinc (j := 1) (v := 36) (lv' := [(3, .int 36), (1, .long 45949729861), (0, .ref h0)]) C d_X12_init_426 rfl (by decide) (by decide) rfl ?_
  refine n_goto (tgt := 400) C d_X12_init_429 (by decide) ?_
  refine n_iload_n (j := 0) C d_X12_init_400 rfl ?_
  refine n_bipush (v := 40) C d_X12_init_401 (by decide) ?_
  refine n_gt_no (tgt := 432) C d_X12_init_403 (by decide) (by decide) ?_
  refine n_aload_n (j := 2) C d_X12_init_406 rfl ?_
  refine n_get (Cn := RX12) (T := TX12) C 0 0 inX12 rfl tw_1211 rfl rfl (by decide) rfl d_X12_init_407 ?_
  refine n_iload_n (j := 0) C d_X12_init_410 rfl ?_
  refine n_lload_n (j := 1) C d_X12_init_411 rfl ?_
  refine n_callS (rest := [.int 36, .ref q0]) C [.long 45949729861] [0, 1, 2, 3, 4, 5, 6, 7, 8, 9, 10, 11, 12, 13, 14, 15, 16, 17] kk_X12_rootOfNumber tw_1205 rfl (by decide +kernel) ⟨by decide, by decide⟩ ⟨Nat.le_of_ble_eq_true rfl, Nat.le_of_ble_eq_true rfl⟩ (Nat.le_of_ble_eq_true rfl) d_X12_init_412 n_X12_rootOfNumber rfl ?_
  refine n_topl (y := 214358) (by decide +kernel) ?_
  refine n_last (j := 36) C 1 rfl (inb_vp (by decide)) (by decide) d_X12_init_415 ?_
  refine n_eq (ws' := [(h0, .inr (11, [.ref q0, .int 0, .int 0, .int 0, .ref q1, .ref q2, .ref q3, .ref q4, .int 0, .int 0, .int 0, .int 0, .long 187429700, .long 326280, .long 8930039, .long 257, .long 11522, .long 841, .long 92275, .long 6476969, .long 240223, .long 10815598, .long 1065, .long 5528, .int 0, .int 0, .int 0, .ref q5, .ref q6, .long 0, .long 0, .long 0, .long 0, .int 0, .int 0, .ref q7, .ref q8, .ref q9, .ref q10, .ref q11, .ref q12, .ref q13, .int 0, .int 0, .int 0, .long 0, .int 0, .ref q14, .ref q15, .ref q16, .int 0, .long 0, .int 0, .long 0, .int 0])), (q0, .inl (cy 2, 41, .inr (.inl (vp_updL (vp_updL (vp_updL (vp_updL (vp_updL (vp_updL (vp_updL (vp_updL (vp_updL (vp_updL (vp_updL (vp_updL (vp_updL (vp_updL (vp_updL (vp_updL (vp_updL (fun _ => 0) 20 100000) 21 104880) 22 110000) 23 115368) 24 121000) 25 126905) 26 133100) 27 139596) 28 146410) 29 153556) 30 161051) 31 168911) 32 177156) 33 185802) 34 194871) 35 204383) 36 214358)))), (q1, .inl (cy 1, 25, .inl (fun _ => 0))), (q2, .inl (cy 2, 258, .inr (.inl (fun _ => 0)))), (q3, .inl (cy 2, 516, .inr (.inl (fun _ => 0)))), (q4, .inl (cy 0, 400, .inl (fun _ => 0))), (q5, .inl (cy 1, 35, .inl (fun _ => 0))), (q6, .inl (cy 1, 20, .inl (fun _ => 0))), (q7, .inl (cy 1, 40, .inl (fun _ => 0))), (q8, .inl (cy 1, 40, .inl (fun _ => 0))), (q9, .inl (cy 1, 160, .inl (fun _ => 0))), (q10, .inl (cy 1, 40, .inl (fun _ => 0))), (q11, .inl (cy 1, 40, .inl (fun _ => 0))), (q12, .inl (cy 2, 7, .inr (.inl (vp_updL (vp_updL (vp_updL (vp_updL (vp_updL (vp_updL (vp_updL (fun _ => 0) 0 257) 1 11522) 2 841) 3 92275) 4 6476969) 5 240223) 6 10815598)))), (q13, .inl (cy 1, 4, .inl (fun _ => 0))), (q14, .inl (cy 1, 4, .inl (fun _ => 0))), (q15, .inl (cy 1, 4, .inl (fun _ => 0))), (q16, .inl (cy 2, 4, .inr (.inl (fun _ => 0))))]) rfl ?_
  refine n_lload_n (j := 1) C d_X12_init_416 rfl ?_
  refine n_ldc2 (v := 11) C tw_1209 d_X12_init_417 ?_
  refine n_lmul C d_X12_init_420 ?_
  refine n_topl (y := 505447028471) (by decide +kernel) ?_
  refine n_ldc2 (v := 10) C tw_1210 d_X12_init_421 ?_
  refine n_ldiv C (by decide) d_X12_init_424 ?_
  refine n_topl (y := 50544702847) (by decide +kernel) ?_
  refine n_lstore_n (lv' := [(1, .long 50544702847), (3, .int 36), (0, .ref h0)]) C d_X12_init_425 (by decide) rfl ?_
  refine n_iinc (j := 1) (v := 37) (lv' := [(3, .int 37), (1, .long 50544702847), (0, .ref h0)]) C d_X12_init_426 rfl (by decide) (by decide) rfl ?_
  refine n_goto (tgt := 400) C d_X12_init_429 (by decide) ?_
  refine n_iload_n (j := 0) C d_X12_init_400 rfl ?_
  refine n_bipush (v := 40) C d_X12_init_401 (by decide) ?_
  refine n_gt_no (tgt := 432) C d_X12_init_403 (by decide) (by decide) ?_
  refine n_aload_n (j := 2) C d_X12_init_406 rfl ?_
  refine n_get (Cn := RX12) (T := TX12) C 0 0 inX12 rfl tw_1211 rfl rfl (by decide) rfl d_X12_init_407 ?_
  refine n_iload_n (j := 0) C d_X12_init_410 rfl ?_
  refine n_lload_n (j := 1) C d_X12_init_411 rfl ?_
  refine n_callS (rest := [.int 37, .ref q0]) C [.long 50544702847] [0, 1, 2, 3, 4, 5, 6, 7, 8, 9, 10, 11, 12, 13, 14, 15, 16, 17] kk_X12_rootOfNumber tw_1205 rfl (by decide +kernel) ⟨by decide, by decide⟩ ⟨Nat.le_of_ble_eq_true rfl, Nat.le_of_ble_eq_true rfl⟩ (Nat.le_of_ble_eq_true rfl) d_X12_init_412 n_X12_rootOfNumber rfl ?_
  refine n_topl (y := 224821) (by decide +kernel) ?_
  refine n_last (j := 37) C 1 rfl (inb_vp (by decide)) (by decide) d_X12_init_415 ?_
  refine n_eq (ws' := [(h0, .inr (11, [.ref q0, .int 0, .int 0, .int 0, .ref q1, .ref q2, .ref q3, .ref q4, .int 0, .int 0, .int 0, .int 0, .long 187429700, .long 326280, .long 8930039, .long 257, .long 11522, .long 841, .long 92275, .long 6476969, .long 240223, .long 10815598, .long 1065, .long 5528, .int 0, .int 0, .int 0, .ref q5, .ref q6, .long 0, .long 0, .long 0, .long 0, .int 0, .int 0, .ref q7, .ref q8, .ref q9, .ref q10, .ref q11, .ref q12, .ref q13, .int 0, .int 0, .int 0, .long 0, .int 0, .ref q14, .ref q15, .ref q16, .int 0, .long 0, .int 0, .long 0, .int 0])), (q0, .inl (cy 2, 41, .inr (.inl (vp_updL (vp_updL (vp_updL (vp_updL (vp_updL (vp_updL (vp_updL (vp_updL (vp_updL (vp_updL (vp_updL (vp_updL (vp_updL (vp_updL (vp_updL (vp_updL (vp_updL (vp_updL (fun _ => 0) 20 100000) 21 104880) 22 110000) 23 115368) 24 121000) 25 126905) 26 133100) 27 139596) 28 146410) 29 153556) 30 161051) 31 168911) 32 177156) 33 185802) 34 194871) 35 204383) 36 214358) 37 224821)))), (q1, .inl (cy 1, 25, .inl (fun _ => 0))), (q2, .inl (cy 2, 258, .inr (.inl (fun _ => 0)))), (q3, .inl (cy 2, 516, .inr (.inl (fun _ => 0)))), (q4, .inl (cy 0, 400, .inl (fun _ => 0))), (q5, .inl (cy 1, 35, .inl (fun _ => 0))), (q6, .inl (cy 1, 20, .inl (fun _ => 0))), (q7, .inl (cy 1, 40, .inl (fun _ => 0))), (q8, .inl (cy 1, 40, .inl (fun _ => 0))), (q9, .inl (cy 1, 160, .inl (fun _ => 0))), (q10, .inl (cy 1, 40, .inl (fun _ => 0))), (q11, .inl (cy 1, 40, .inl (fun _ => 0))), (q12, .inl (cy 2, 7, .inr (.inl (vp_updL (vp_updL (vp_updL (vp_updL (vp_updL (vp_updL (vp_updL (fun _ => 0) 0 257) 1 11522) 2 841) 3 92275) 4 6476969) 5 240223) 6 10815598)))), (q13, .inl (cy 1, 4, .inl (fun _ => 0))), (q14, .inl (cy 1, 4, .inl (fun _ => 0))), (q15, .inl (cy 1, 4, .inl (fun _ => 0))), (q16, .inl (cy 2, 4, .inr (.inl (fun _ => 0))))]) rfl ?_
  refine n_lload_n (j := 1) C d_X12_init_416 rfl ?_
  refine n_ldc2 (v := 11) C tw_1209 d_X12_init_417 ?_
  refine n_lmul C d_X12_init_420 ?_
  refine n_topl (y := 555991731317) (by decide +kernel) ?_
  refine n_ldc2 (v := 10) C tw_1210 d_X12_init_421 ?_
  refine n_ldiv C (by decide) d_X12_init_424 ?_
  refine n_topl (y := 55599173131) (by decide +kernel) ?_
  refine n_lstore_n (lv' := [(1, .long 55599173131), (3, .int 37), (0, .ref h0)]) C d_X12_init_425 (by decide) rfl ?_
  refine n_iinc (j := 1) (v := 38) (lv' := [(3, .int 38), (1, .long 55599173131), (0, .ref h0)]) C d_X12_init_426 rfl (by decide) (by decide) rfl ?_
  refine n_goto (tgt := 400) C d_X12_init_429 (by decide) ?_
  refine n_iload_n (j := 0) C d_X12_init_400 rfl ?_
  refine n_bipush (v := 40) C d_X12_init_401 (by decide) ?_
  refine n_gt_no (tgt := 432) C d_X12_init_403 (by decide) (by decide) ?_
  refine n_aload_n (j := 2) C d_X12_init_406 rfl ?_
  refine n_get (Cn := RX12) (T := TX12) C 0 0 inX12 rfl tw_1211 rfl rfl (by decide) rfl d_X12_init_407 ?_
  refine n_iload_n (j := 0) C d_X12_init_410 rfl ?_
  refine n_lload_n (j := 1) C d_X12_init_411 rfl ?_
  refine n_callS (rest := [.int 38, .ref q0]) C [.long 55599173131] [0, 1, 2, 3, 4, 5, 6, 7, 8, 9, 10, 11, 12, 13, 14, 15, 16, 17] kk_X12_rootOfNumber tw_1205 rfl (by decide +kernel) ⟨by decide, by decide⟩ ⟨Nat.le_of_ble_eq_true rfl, Nat.le_of_ble_eq_true rfl⟩ (Nat.le_of_ble_eq_true rfl) d_X12_init_412 n_X12_rootOfNumber rfl ?_
  refine n_topl (y := 235794) (by decide +kernel) ?_
  refine n_last (j := 38) C 1 rfl (inb_vp (by decide)) (by decide) d_X12_init_415 ?_
  refine n_eq (ws' := [(h0, .inr (11, [.ref q0, .int 0, .int 0, .int 0, .ref q1, .ref q2, .ref q3, .ref q4, .int 0, .int 0, .int 0, .int 0, .long 187429700, .long 326280, .long 8930039, .long 257, .long 11522, .long 841, .long 92275, .long 6476969, .long 240223, .long 10815598, .long 1065, .long 5528, .int 0, .int 0, .int 0, .ref q5, .ref q6, .long 0, .long 0, .long 0, .long 0, .int 0, .int 0, .ref q7, .ref q8, .ref q9, .ref q10, .ref q11, .ref q12, .ref q13, .int 0, .int 0, .int 0, .long 0, .int 0, .ref q14, .ref q15, .ref q16, .int 0, .long 0, .int 0, .long 0, .int 0])), (q0, .inl (cy 2, 41, .inr (.inl (vp_updL (vp_updL (vp_updL (vp_updL (vp_updL (vp_updL (vp_updL (vp_updL (vp_updL (vp_updL (vp_updL (vp_updL (vp_updL (vp_updL (vp_updL (vp_updL (vp_updL (vp_updL (vp_updL (fun _ => 0) 20 100000) 21 104880) 22 110000) 23 115368) 24 121000) 25 126905) 26 133100) 27 139596) 28 146410) 29 153556) 30 161051) 31 168911) 32 177156) 33 185802) 34 194871) 35 204383) 36 214358) 37 224821) 38 235794)))), (q1, .inl (cy 1, 25, .inl (fun _ => 0))), (q2, .inl (cy 2, 258, .inr (.inl (fun _ => 0)))), (q3, .inl (cy 2, 516, .inr (.inl (fun _ => 0)))), (q4, .inl (cy 0, 400, .inl (fun _ => 0))), (q5, .inl (cy 1, 35, .inl (fun _ => 0))), (q6, .inl (cy 1, 20, .inl (fun _ => 0))), (q7, .inl (cy 1, 40, .inl (fun _ => 0))), (q8, .inl (cy 1, 40, .inl (fun _ => 0))), (q9, .inl (cy 1, 160, .inl (fun _ => 0))), (q10, .inl (cy 1, 40, .inl (fun _ => 0))), (q11, .inl (cy 1, 40, .inl (fun _ => 0))), (q12, .inl (cy 2, 7, .inr (.inl (vp_updL (vp_updL (vp_updL (vp_updL (vp_updL (vp_updL (vp_updL (fun _ => 0) 0 257) 1 11522) 2 841) 3 92275) 4 6476969) 5 240223) 6 10815598)))), (q13, .inl (cy 1, 4, .inl (fun _ => 0))), (q14, .inl (cy 1, 4, .inl (fun _ => 0))), (q15, .inl (cy 1, 4, .inl (fun _ => 0))), (q16, .inl (cy 2, 4, .inr (.inl (fun _ => 0))))]) rfl ?_
  refine n_lload_n (j := 1) C d_X12_init_416 rfl ?_
  refine n_ldc2 (v := 11) C tw_1209 d_X12_init_417 ?_
  refine n_lmul C d_X12_init_420 ?_
  refine n_topl (y := 611590904441) (by decide +kernel) ?_
  refine n_ldc2 (v := 10) C tw_1210 d_X12_init_421 ?_
  refine n_ldiv C (by decide) d_X12_init_424 ?_
  refine n_topl (y := 61159090444) (by decide +kernel) ?_
  refine n_lstore_n (lv' := [(1, .long 61159090444), (3, .int 38), (0, .ref h0)]) C d_X12_init_425 (by decide) rfl ?_
  refine n_iinc (j := 1) (v := 39) (lv' := [(3, .int 39), (1, .long 61159090444), (0, .ref h0)]) C d_X12_init_426 rfl (by decide) (by decide) rfl ?_
  refine n_goto (tgt := 400) C d_X12_init_429 (by decide) ?_
  refine n_iload_n (j := 0) C d_X12_init_400 rfl ?_
  refine n_bipush (v := 40) C d_X12_init_401 (by decide) ?_
  refine n_gt_no (tgt := 432) C d_X12_init_403 (by decide) (by decide) ?_
  refine n_aload_n (j := 2) C d_X12_init_406 rfl ?_
  refine n_get (Cn := RX12) (T := TX12) C 0 0 inX12 rfl tw_1211 rfl rfl (by decide) rfl d_X12_init_407 ?_
  refine n_iload_n (j := 0) C d_X12_init_410 rfl ?_
  refine n_lload_n (j := 1) C d_X12_init_411 rfl ?_
  refine n_callS (rest := [.int 39, .ref q0]) C [.long 61159090444] [0, 1, 2, 3, 4, 5, 6, 7, 8, 9, 10, 11, 12, 13, 14, 15, 16, 17] kk_X12_rootOfNumber tw_1205 rfl (by decide +kernel) ⟨by decide, by decide⟩ ⟨Nat.le_of_ble_eq_true rfl, Nat.le_of_ble_eq_true rfl⟩ (Nat.le_of_ble_eq_true rfl) d_X12_init_412 n_X12_rootOfNumber rfl ?_
  refine n_topl (y := 247303) (by decide +kernel) ?_
  refine n_last (j := 39) C 1 rfl (inb_vp (by decide)) (by decide) d_X12_init_415 ?_
  refine n_eq (ws' := [(h0, .inr (11, [.ref q0, .int 0, .int 0, .int 0, .ref q1, .ref q2, .ref q3, .ref q4, .int 0, .int 0, .int 0, .int 0, .long 187429700, .long 326280, .long 8930039, .long 257, .long 11522, .long 841, .long 92275, .long 6476969, .long 240223, .long 10815598, .long 1065, .long 5528, .int 0, .int 0, .int 0, .ref q5, .ref q6, .long 0, .long 0, .long 0, .long 0, .int 0, .int 0, .ref q7, .ref q8, .ref q9, .ref q10, .ref q11, .ref q12, .ref q13, .int 0, .int 0, .int 0, .long 0, .int 0, .ref q14, .ref q15, .ref q16, .int 0, .long 0, .int 0, .long 0, .int 0])), (q0, .inl (cy 2, 41, .inr (.inl (vp_updL (vp_updL (vp_updL (vp_updL (vp_updL (vp_updL (vp_updL (vp_updL (vp_updL (vp_updL (vp_updL (vp_updL (vp_updL (vp_updL (vp_updL (vp_updL (vp_updL (vp_updL (vp_updL (vp_updL (fun _ => 0) 20 100000) 21 104880) 22 110000) 23 115368) 24 121000) 25 126905) 26 133100) 27 139596) 28 146410) 29 153556) 30 161051) 31 168911) 32 177156) 33 185802) 34 194871) 35 204383) 36 214358) 37 224821) 38 235794) 39 247303)))), (q1, .inl (cy 1, 25, .inl (fun _ => 0))), (q2, .inl (cy 2, 258, .inr (.inl (fun _ => 0)))), (q3, .inl (cy 2, 516, .inr (.inl (fun _ => 0)))), (q4, .inl (cy 0, 400, .inl (fun _ => 0))), (q5, .inl (cy 1, 35, .inl (fun _ => 0))), (q6, .inl (cy 1, 20, .inl (fun _ => 0))), (q7, .inl (cy 1, 40, .inl (fun _ => 0))), (q8, .inl (cy 1, 40, .inl (fun _ => 0))), (q9, .inl (cy 1, 160, .inl (fun _ => 0))), (q10, .inl (cy 1, 40, .inl (fun _ => 0))), (q11, .inl (cy 1, 40, .inl (fun _ => 0))), (q12, .inl (cy 2, 7, .inr (.inl (vp_updL (vp_updL (vp_updL (vp_updL (vp_updL (vp_updL (vp_updL (fun _ => 0) 0 257) 1 11522) 2 841) 3 92275) 4 6476969) 5 240223) 6 10815598)))), (q13, .inl (cy 1, 4, .inl (fun _ => 0))), (q14, .inl (cy 1, 4, .inl (fun _ => 0))), (q15, .inl (cy 1, 4, .inl (fun _ => 0))), (q16, .inl (cy 2, 4, .inr (.inl (fun _ => 0))))]) rfl ?_
  refine n_lload_n (j := 1) C d_X12_init_416 rfl ?_
  refine n_ldc2 (v := 11) C tw_1209 d_X12_init_417 ?_
  refine n_lmul C d_X12_init_420 ?_
  refine n_topl (y := 672749994884) (by decide +kernel) ?_
  refine n_ldc2 (v := 10) C tw_1210 d_X12_init_421 ?_
  refine n_ldiv C (by decide) d_X12_init_424 ?_
  refine n_topl (y := 67274999488) (by decide +kernel) ?_
  refine n_lstore_n (lv' := [(1, .long 67274999488), (3, .int 39), (0, .ref h0)]) C d_X12_init_425 (by decide) rfl ?_
  refine n_iinc (j := 1) (v := 40) (lv' := [(3, .int 40), (1, .long 67274999488), (0, .ref h0)]) C d_X12_init_426 rfl (by decide) (by decide) rfl ?_
  refine n_goto (tgt := 400) C d_X12_init_429 (by decide) ?_
  refine n_iload_n (j := 0) C d_X12_init_400 rfl ?_
  refine n_bipush (v := 40) C d_X12_init_401 (by decide) ?_
  refine n_gt_no (tgt := 432) C d_X12_init_403 (by decide) (by decide) ?_
  refine n_aload_n (j := 2) C d_X12_init_406 rfl ?_
  refine n_get (Cn := RX12) (T := TX12) C 0 0 inX12 rfl tw_1211 rfl rfl (by decide) rfl d_X12_init_407 ?_
  refine n_iload_n (j := 0) C d_X12_init_410 rfl ?_
  refine n_lload_n (j := 1) C d_X12_init_411 rfl ?_
  refine n_callS (rest := [.int 40, .ref q0]) C [.long 67274999488] [0, 1, 2, 3, 4, 5, 6, 7, 8, 9, 10, 11, 12, 13, 14, 15, 16, 17] kk_X12_rootOfNumber tw_1205 rfl (by decide +kernel) ⟨by decide, by decide⟩ ⟨Nat.le_of_ble_eq_true rfl, Nat.le_of_ble_eq_true rfl⟩ (Nat.le_of_ble_eq_true rfl) d_X12_init_412 n_X12_rootOfNumber rfl ?_
  refine n_topl (y := 259374) (by decide +kernel) ?_
  refine n_last (j := 40) C 1 rfl (inb_vp (by decide)) (by decide) d_X12_init_415 ?_
  refine n_eq (ws' := [(h0, .inr (11, [.ref q0, .int 0, .int 0, .int 0, .ref q1, .ref q2, .ref q3, .ref q4, .int 0, .int 0, .int 0, .int 0, .long 187429700, .long 326280, .long 8930039, .long 257, .long 11522, .long 841, .long 92275, .long 6476969, .long 240223, .long 10815598, .long 1065, .long 5528, .int 0, .int 0, .int 0, .ref q5, .ref q6, .long 0, .long 0, .long 0, .long 0, .int 0, .int 0, .ref q7, .ref q8, .ref q9, .ref q10, .ref q11, .ref q12, .ref q13, .int 0, .int 0, .int 0, .long 0, .int 0, .ref q14, .ref q15, .ref q16, .int 0, .long 0, .int 0, .long 0, .int 0])), (q0, .inl (cy 2, 41, .inr (.inl (vp_updL (vp_updL (vp_updL (vp_updL (vp_updL (vp_updL (vp_updL (vp_updL (vp_updL (vp_updL (vp_updL (vp_updL (vp_updL (vp_updL (vp_updL (vp_updL (vp_updL (vp_updL (vp_updL (vp_updL (vp_updL (fun _ => 0) 20 100000) 21 104880) 22 110000) 23 115368) 24 121000) 25 126905) 26 133100) 27 139596) 28 146410) 29 153556) 30 161051) 31 168911) 32 177156) 33 185802) 34 194871) 35 204383) 36 214358) 37 224821) 38 235794) 39 247303) 40 259374)))), (q1, .inl (cy 1, 25, .inl (fun _ => 0))), (q2, .inl (cy 2, 258, .inr (.inl (fun _ => 0)))), (q3, .inl (cy 2, 516, .inr (.inl (fun _ => 0)))), (q4, .inl (cy 0, 400, .inl (fun _ => 0))), (q5, .inl (cy 1, 35, .inl (fun _ => 0))), (q6, .inl (cy 1, 20, .inl (fun _ => 0))), (q7, .inl (cy 1, 40, .inl (fun _ => 0))), (q8, .inl (cy 1, 40, .inl (fun _ => 0))), (q9, .inl (cy 1, 160, .inl (fun _ => 0))), (q10, .inl (cy 1, 40, .inl (fun _ => 0))), (q11, .inl (cy 1, 40, .inl (fun _ => 0))), (q12, .inl (cy 2, 7, .inr (.inl (vp_updL (vp_updL (vp_updL (vp_updL (vp_updL (vp_updL (vp_updL (fun _ => 0) 0 257) 1 11522) 2 841) 3 92275) 4 6476969) 5 240223) 6 10815598)))), (q13, .inl (cy 1, 4, .inl (fun _ => 0))), (q14, .inl (cy 1, 4, .inl (fun _ => 0))), (q15, .inl (cy 1, 4, .inl (fun _ => 0))), (q16, .inl (cy 2, 4, .inr (.inl (fun _ => 0))))]) rfl ?_
  refine n_lload_n (j := 1) C d_X12_init_416 rfl ?_
  refine n_ldc2 (v := 11) C tw_1209 d_X12_init_417 ?_
  refine n_lmul C d_X12_init_420 ?_
  refine n_topl (y := 740024994368) (by decide +kernel) ?_
  refine n_ldc2 (v := 10) C tw_1210 d_X12_init_421 ?_
  refine n_ldiv C (by decide) d_X12_init_424 ?_
  refine n_topl (y := 74002499436) (by decide +kernel) ?_
  refine n_lstore_n (lv' := [(1, .long 74002499436), (3, .int 40), (0, .ref h0)]) C d_X12_init_425 (by decide) rfl ?_
  refine n_iinc (j := 1) (v := 41) (lv' := [(3, .int 41), (1, .long 74002499436), (0, .ref h0)]) C d_X12_init_426 rfl (by decide) (by decide) rfl ?_
  refine n_goto (tgt := 400) C d_X12_init_429 (by decide) ?_
  refine n_iload_n (j := 0) C d_X12_init_400 rfl ?_
  refine n_bipush (v := 40) C d_X12_init_401 (by decide) ?_
  refine n_gt_yes (tgt := 432) C d_X12_init_403 (by decide) (by decide) ?_
  refine n_ldc2 (v := 10000000000) C tw_1204 d_X12_init_432 ?_
  refine n_lstore_n (lv' := [(1, .long 10000000000), (3, .int 41), (0, .ref h0)]) C d_X12_init_435 (by decide) rfl ?_
  refine n_bipush (v := 20) C d_X12_init_436 (by decide) ?_
  refine n_istore_n (lv' := [(3, .int 20), (1, .long 10000000000), (0, .ref h0)]) C d_X12_init_438 (by decide) rfl ?_
  refine n_iload_n (j := 0) C d_X12_init_439 rfl ?_
  refine n_lt0_no (tgt := 469) C d_X12_init_440 (by decide) (by decide) ?_
  refine n_aload_n (j := 2) C d_X12_init_443 rfl ?_
  refine n_get (Cn := RX12) (T := TX12) C 0 0 inX12 rfl tw_1211 rfl rfl (by decide) rfl d_X12_init_444 ?_
  refine n_iload_n (j := 0) C d_X12_init_447 rfl ?_
  refine n_lload_n (j := 1) C d_X12_init_448 rfl ?_
  refine n_callS (rest := [.int 20, .ref q0]) C [.long 10000000000] [0, 1, 2, 3, 4, 5, 6, 7, 8, 9, 10, 11, 12, 13, 14, 15, 16, 17] kk_X12_rootOfNumber tw_1205 rfl (by decide +kernel) ⟨by decide, by decide⟩ ⟨Nat.le_of_ble_eq_true rfl, Nat.le_of_ble_eq_true rfl⟩ (Nat.le_of_ble_eq_true rfl) d_X12_init_449 n_X12_rootOfNumber rfl ?_
  refine n_topl (y := 100000) (by decide +kernel) ?_
  refine n_last (j := 20) C 1 rfl (inb_vp (by decide)) (by decide) d_X12_init_452 ?_
  refine n_eq (ws' := [(h0, .inr (11, [.ref q0, .int 0, .int 0, .int 0, .ref q1, .ref q2, .ref q3, .ref q4, .int 0, .int 0, .int 0, .int 0, .long 187429700, .long 326280, .long 8930039, .long 257, .long 11522, .long 841, .long 92275, .long 6476969, .long 240223, .long 10815598, .long 1065, .long 5528, .int 0, .int 0, .int 0, .ref q5, .ref q6, .long 0, .long 0, .long 0, .long 0, .int 0, .int 0, .ref q7, .ref q8, .ref q9, .ref q10, .ref q11, .ref q12, .ref q13, .int 0, .int 0, .int 0, .long 0, .int 0, .ref q14, .ref q15, .ref q16, .int 0, .long 0, .int 0, .long 0, .int 0])), (q0, .inl (cy 2, 41, .inr (.inl (vp_updL (vp_updL (vp_updL (vp_updL (vp_updL (vp_updL (vp_updL (vp_updL (vp_updL (vp_updL (vp_updL (vp_updL (vp_updL (vp_updL (vp_updL (vp_updL (vp_updL (vp_updL (vp_updL (vp_updL (vp_updL (vp_updL (fun _ => 0) 20 100000) 21 104880) 22 110000) 23 115368) 24 121000) 25 126905) 26 133100) 27 139596) 28 146410) 29 153556) 30 161051) 31 168911) 32 177156) 33 185802) 34 194871) 35 204383) 36 214358) 37 224821) 38 235794) 39 247303) 40 259374) 20 100000)))), (q1, .inl (cy 1, 25, .inl (fun _ => 0))), (q2, .inl (cy 2, 258, .inr (.inl (fun _ => 0)))), (q3, .inl (cy 2, 516, .inr (.inl (fun _ => 0)))), (q4, .inl (cy 0, 400, .inl (fun _ => 0))), (q5, .inl (cy 1, 35, .inl (fun _ => 0))), (q6, .inl (cy 1, 20, .inl (fun _ => 0))), (q7, .inl (cy 1, 40, .inl (fun _ => 0))), (q8, .inl (cy 1, 40, .inl (fun _ => 0))), (q9, .inl (cy 1, 160, .inl (fun _ => 0))), (q10, .inl (cy 1, 40, .inl (fun _ => 0))), (q11, .inl (cy 1, 40, .inl (fun _ => 0))), (q12, .inl (cy 2, 7, .inr (.inl (vp_updL (vp_updL (vp_updL (vp_updL (vp_updL (vp_updL (vp_updL (fun _ => 0) 0 257) 1 11522) 2 841) 3 92275) 4 6476969) 5 240223) 6 10815598)))), (q13, .inl (cy 1, 4, .inl (fun _ => 0))), (q14, .inl (cy 1, 4, .inl (fun _ => 0))), (q15, .inl (cy 1, 4, .inl (fun _ => 0))), (q16, .inl (cy 2, 4, .inr (.inl (fun _ => 0))))]) rfl ?_
  refine n_lload_n (j := 1) C d_X12_init_453 rfl ?_
  refine n_ldc2 (v := 10) C tw_1210 d_X12_init_454 ?_
  refine n_lmul C d_X12_init_457 ?_
  refine n_topl (y := 100000000000) (by decide +kernel) ?_
  refine n_ldc2 (v := 11) C tw_1209 d_X12_init_458 ?_
  refine n_ldiv C (by decide) d_X12_init_461 ?_
  refine n_topl (y := 9090909090) (by decide +kernel) ?_
  refine n_lstore_n (lv' := [(1, .long 9090909090), (3, .int 20), (0, .ref h0)]) C d_X12_init_462 (by decide) rfl ?_
  refine n_iinc (j := 1) (v := 19) (lv' := [(3, .int 19), (1, .long 9090909090), (0, .ref h0)]) C d_X12_init_463 rfl (by decide) (by decide) rfl ?_
  refine n_goto (tgt := 439) C d_X12_init_466 (by decide) ?_
  refine n_iload_n (j := 0) C d_X12_init_439 rfl ?_
  refine n_lt0_no (tgt := 469) C d_X12_init_440 (by decide) (by decide) ?_
  refine n_aload_n (j := 2) C d_X12_init_443 rfl ?_
  refine n_get (Cn := RX12) (T := TX12) C 0 0 inX12 rfl tw_1211 rfl rfl (by decide) rfl d_X12_init_444 ?_
  refine n_iload_n (j := 0) C d_X12_init_447 rfl ?_
  refine n_lload_n (j := 1) C d_X12_init_448 rfl ?_
  refine n_callS (rest := [.int 19, .ref q0]) C [.long 9090909090] [0, 1, 2, 3, 4, 5, 6, 7, 8, 9, 10, 11, 12, 13, 14, 15, 16, 17] kk_X12_rootOfNumber tw_1205 rfl (by decide +kernel) ⟨by decide, by decide⟩ ⟨Nat.le_of_ble_eq_true rfl, Nat.le_of_ble_eq_true rfl⟩ (Nat.le_of_ble_eq_true rfl) d_X12_init_449 n_X12_rootOfNumber rfl ?_
  refine n_topl (y := 95346) (by decide +kernel) ?_
  refine n_last (j := 19) C 1 rfl (inb_vp (by decide)) (by decide) d_X12_init_452 ?_
  refine n_eq (ws' := [(h0, .inr (11, [.ref q0, .int 0, .int 0, .int 0, .ref q1, .ref q2, .ref q3, .ref q4, .int 0, .int 0, .int 0, .int 0, .long 187429700, .long 326280, .long 8930039, .long 257, .long 11522, .long 841, .long 92275, .long 6476969, .long 240223, .long 10815598, .long 1065, .long 5528, .int 0, .int 0, .int 0, .ref q5, .ref q6, .long 0, .long 0, .long 0, .long 0, .int 0, .int 0, .ref q7, .ref q8, .ref q9, .ref q10, .ref q11, .ref q12, .ref q13, .int 0, .int 0, .int 0, .long 0, .int 0, .ref q14, .ref q15, .ref q16, .int 0, .long 0, .int 0, .long 0, .int 0])), (q0, .inl (cy 2, 41, .inr (.inl (vp_updL (vp_updL (vp_updL (vp_updL (vp_updL (vp_updL (vp_updL (vp_updL (vp_updL (vp_updL (vp_updL (vp_updL (vp_updL (vp_updL (vp_updL (vp_updL (vp_updL (vp_updL (vp_updL (vp_updL (vp_updL (vp_updL (vp_updL (fun _ => 0) 20 100000) 21 104880) 22 110000) 23 115368) 24 121000) 25 126905) 26 133100) 27 139596) 28 146410) 29 153556) 30 161051) 31 168911) 32 177156) 33 185802) 34 194871) 35 204383) 36 214358) 37 224821) 38 235794) 39 247303) 40 259374) 20 100000) 19 95346)))), (q1, .inl (cy 1, 25, .inl (fun _ => 0))), (q2, .inl (cy 2, 258, .inr (.inl (fun _ => 0)))), (q3, .inl (cy 2, 516, .inr (.inl (fun _ => 0)))), (q4, .inl (cy 0, 400, .inl (fun _ => 0))), (q5, .inl (cy 1, 35, .inl (fun _ => 0))), (q6, .inl (cy 1, 20, .inl (fun _ => 0))), (q7, .inl (cy 1, 40, .inl (fun _ => 0))), (q8, .inl (cy 1, 40, .inl (fun _ => 0))), (q9, .inl (cy 1, 160, .inl (fun _ => 0))), (q10, .inl (cy 1, 40, .inl (fun _ => 0))), (q11, .inl (cy 1, 40, .inl (fun _ => 0))), (q12, .inl (cy 2, 7, .inr (.inl (vp_updL (vp_updL (vp_updL (vp_updL (vp_updL (vp_updL (vp_updL (fun _ => 0) 0 257) 1 11522) 2 841) 3 92275) 4 6476969) 5 240223) 6 10815598)))), (q13, .inl (cy 1, 4, .inl (fun _ => 0))), (q14, .inl (cy 1, 4, .inl (fun _ => 0))), (q15, .inl (cy 1, 4, .inl (fun _ => 0))), (q16, .inl (cy 2, 4, .inr (.inl (fun _ => 0))))]) rfl ?_
  refine n_lload_n (j := 1) C d_X12_init_453 rfl ?_
  refine n_ldc2 (v := 10) C tw_1210 d_X12_init_454 ?_
  refine n_lmul C d_X12_init_457 ?_
  refine n_topl (y := 90909090900) (by decide +kernel) ?_
  refine n_ldc2 (v := 11) C tw_1209 d_X12_init_458 ?_
  refine n_ldiv C (by decide) d_X12_init_461 ?_
  refine n_topl (y := 8264462809) (by decide +kernel) ?_
  refine n_lstore_n (lv' := [(1, .long 8264462809), (3, .int 19), (0, .ref h0)]) C d_X12_init_462 (by decide) rfl ?_
  refine n_iinc (j := 1) (v := 18) (lv' := [(3, .int 18), (1, .long 8264462809), (0, .ref h0)]) C d_X12_init_463 rfl (by decide) (by decide) rfl ?_
  refine n_goto (tgt := 439) C d_X12_init_466 (by decide) ?_
  refine n_iload_n (j := 0) C d_X12_init_439 rfl ?_
  refine n_lt0_no (tgt := 469) C d_X12_init_440 (by decide) (by decide) ?_
  refine n_aload_n (j := 2) C d_X12_init_443 rfl ?_
  refine n_get (Cn := RX12) (T := TX12) C 0 0 inX12 rfl tw_1211 rfl rfl (by decide) rfl d_X12_init_444 ?_
  refine n_iload_n (j := 0) C d_X12_init_447 rfl ?_
  refine n_lload_n (j := 1) C d_X12_init_448 rfl ?_
  refine n_callS (rest := [.int 18, .ref q0]) C [.long 8264462809] [0, 1, 2, 3, 4, 5, 6, 7, 8, 9, 10, 11, 12, 13, 14, 15, 16, 17] kk_X12_rootOfNumber tw_1205 rfl (by decide +kernel) ⟨by decide, by decide⟩ ⟨Nat.le_of_ble_eq_true rfl, Nat.le_of_ble_eq_true rfl⟩ (Nat.le_of_ble_eq_true rfl) d_X12_init_449 n_X12_rootOfNumber rfl ?_
  refine n_topl (y := 90909) (by decide +kernel) ?_
  refine n_last (j := 18) C 1 rfl (inb_vp (by decide)) (by decide) d_X12_init_452 ?_
  refine n_eq (ws' := [(h0, .inr (11, [.ref q0, .int 0, .int 0, .int 0, .ref q1, .ref q2, .ref q3, .ref q4, .int 0, .int 0, .int 0, .int 0, .long 187429700, .long 326280, .long 8930039, .long 257, .long 11522, .long 841, .long 92275, .long 6476969, .long 240223, .long 10815598, .long 1065, .long 5528, .int 0, .int 0, .int 0, .ref q5, .ref q6, .long 0, .long 0, .long 0, .long 0, .int 0, .int 0, .ref q7, .ref q8, .ref q9, .ref q10, .ref q11, .ref q12, .ref q13, .int 0, .int 0, .int 0, .long 0, .int 0, .ref q14, .ref q15, .ref q16, .int 0, .long 0, .int 0, .long 0, .int 0])), (q0, .inl (cy 2, 41, .inr (.inl (vp_updL (vp_updL (vp_updL (vp_updL (vp_updL (vp_updL (vp_updL (vp_updL (vp_updL (vp_updL (vp_updL (vp_updL (vp_updL (vp_updL (vp_updL (vp_updL (vp_updL (vp_updL (vp_updL (vp_updL (vp_updL (vp_updL (vp_updL (vp_updL (fun _ => 0) 20 100000) 21 104880) 22 110000) 23 115368) 24 121000) 25 126905) 26 133100) 27 139596) 28 146410) 29 153556) 30 161051) 31 168911) 32 177156) 33 185802) 34 194871) 35 204383) 36 214358) 37 224821) 38 235794) 39 247303) 40 259374) 20 100000) 19 95346) 18 90909)))), (q1, .inl (cy 1, 25, .inl (fun _ => 0))), (q2, .inl (cy 2, 258, .inr (.inl (fun _ => 0)))), (q3, .inl (cy 2, 516, .inr (.inl (fun _ => 0)))), (q4, .inl (cy 0, 400, .inl (fun _ => 0))), (q5, .inl (cy 1, 35, .inl (fun _ => 0))), (q6, .inl (cy 1, 20, .inl (fun _ => 0))), (q7, .inl (cy 1, 40, .inl (fun _ => 0))), (q8, .inl (cy 1, 40, .inl (fun _ => 0))), (q9, .inl (cy 1, 160, .inl (fun _ => 0))), (q10, .inl (cy 1, 40, .inl (fun _ => 0))), (q11, .inl (cy 1, 40, .inl (fun _ => 0))), (q12, .inl (cy 2, 7, .inr (.inl (vp_updL (vp_updL (vp_updL (vp_updL (vp_updL (vp_updL (vp_updL (fun _ => 0) 0 257) 1 11522) 2 841) 3 92275) 4 6476969) 5 240223) 6 10815598)))), (q13, .inl (cy 1, 4, .inl (fun _ => 0))), (q14, .inl (cy 1, 4, .inl (fun _ => 0))), (q15, .inl (cy 1, 4, .inl (fun _ => 0))), (q16, .inl (cy 2, 4, .inr (.inl (fun _ => 0))))]) rfl ?_
  refine n_lload_n (j := 1) C d_X12_init_453 rfl ?_
  refine n_ldc2 (v := 10) C tw_1210 d_X12_init_454 ?_
  refine n_lmul C d_X12_init_457 ?_
  refine n_topl (y := 82644628090) (by decide +kernel) ?_
  refine n_ldc2 (v := 11) C tw_1209 d_X12_init_458 ?_
  refine n_ldiv C (by decide) d_X12_init_461 ?_
  refine n_topl (y := 7513148008) (by decide +kernel) ?_
  refine n_lstore_n (lv' := [(1, .long 7513148008), (3, .int 18), (0, .ref h0)]) C d_X12_init_462 (by decide) rfl ?_
  refine n_iinc (j := 1) (v := 17) (lv' := [(3, .int 17), (1, .long 7513148008), (0, .ref h0)]) C d_X12_init_463 rfl (by decide) (by decide) rfl ?_
  refine n_goto (tgt := 439) C d_X12_init_466 (by decide) ?_
  refine n_iload_n (j := 0) C d_X12_init_439 rfl ?_
  refine n_lt0_no (tgt := 469) C d_X12_init_440 (by decide) (by decide) ?_
  refine n_aload_n (j := 2) C d_X12_init_443 rfl ?_
  refine n_get (Cn := RX12) (T := TX12) C 0 0 inX12 rfl tw_1211 rfl rfl (by decide) rfl d_X12_init_444 ?_
  refine n_iload_n (j := 0) C d_X12_init_447 rfl ?_
  refine n_lload_n (j := 1) C d_X12_init_448 rfl ?_
  refine n_callS (rest := [.int 17, .ref q0]) C [.long 7513148008] [0, 1, 2, 3, 4, 5, 6, 7, 8, 9, 10, 11, 12, 13, 14, 15, 16, 17] kk_X12_rootOfNumber tw_1205 rfl (by decide +kernel) ⟨by decide, by decide⟩ ⟨Nat.le_of_ble_eq_true rfl, Nat.le_of_ble_eq_true rfl⟩ (Nat.le_of_ble_eq_true rfl) d_X12_init_449 n_X12_rootOfNumber rfl ?_
  refine n_topl (y := 86678) (by decide +kernel) ?_
  refine n_last (j := 17) C 1 rfl (inb_vp (by decide)) (by decide) d_X12_init_452 ?_
  refine n_eq (ws' := [(h0, .inr (11, [.ref q0, .int 0, .int 0, .int 0, .ref q1, .ref q2, .ref q3, .ref q4, .int 0, .int 0, .int 0, .int 0, .long 187429700, .long 326280, .long 8930039, .long 257, .long 11522, .long 841, .long 92275, .long 6476969, .long 240223, .long 10815598, .long 1065, .long 5528, .int 0, .int 0, .int 0, .ref q5, .ref q6, .long 0, .long 0, .long 0, .long 0, .int 0, .int 0, .ref q7, .ref q8, .ref q9, .ref q10, .ref q11, .ref q12, .ref q13, .int 0, .int 0, .int 0, .long 0, .int 0, .ref q14, .ref q15, .ref q16, .int 0, .long 0, .int 0, .long 0, .int 0])), (q0, .inl (cy 2, 41, .inr (.inl (vp_updL (vp_updL (vp_updL (vp_updL (vp_updL (vp_updL (vp_updL (vp_updL (vp_updL (vp_updL (vp_updL (vp_updL (vp_updL (vp_updL (vp_updL (vp_updL (vp_updL (vp_updL (vp_updL (vp_updL (vp_updL (vp_updL (vp_updL (vp_updL (vp_updL (fun _ => 0) 20 100000) 21 104880) 22 110000) 23 115368) 24 121000) 25 126905) 26 133100) 27 139596) 28 146410) 29 153556) 30 161051) 31 168911) 32 177156) 33 185802) 34 194871) 35 204383) 36 214358) 37 224821) 38 235794) 39 247303) 40 259374) 20 100000) 19 95346) 18 90909) 17 86678)))), (q1, .inl (cy 1, 25, .inl (fun _ => 0))), (q2, .inl (cy 2, 258, .inr (.inl (fun _ => 0)))), (q3, .inl (cy 2, 516, .inr (.inl (fun _ => 0)))), (q4, .inl (cy 0, 400, .inl (fun _ => 0))), (q5, .inl (cy 1, 35, .inl (fun _ => 0))), (q6, .inl (cy 1, 20, .inl (fun _ => 0))), (q7, .inl (cy 1, 40, .inl (fun _ => 0))), (q8, .inl (cy 1, 40, .inl (fun _ => 0))), (q9, .inl (cy 1, 160, .inl (fun _ => 0))), (q10, .inl (cy 1, 40, .inl (fun _ => 0))), (q11, .inl (cy 1, 40, .inl (fun _ => 0))), (q12, .inl (cy 2, 7, .inr (.inl (vp_updL (vp_updL (vp_updL (vp_updL (vp_updL (vp_updL (vp_updL (fun _ => 0) 0 257) 1 11522) 2 841) 3 92275) 4 6476969) 5 240223) 6 10815598)))), (q13, .inl (cy 1, 4, .inl (fun _ => 0))), (q14, .inl (cy 1, 4, .inl (fun _ => 0))), (q15, .inl (cy 1, 4, .inl (fun _ => 0))), (q16, .inl (cy 2, 4, .inr (.inl (fun _ => 0))))]) rfl ?_
  refine n_lload_n (j := 1) C d_X12_init_453 rfl ?_
  refine n_ldc2 (v := 10) C tw_1210 d_X12_init_454 ?_
  refine n_lmul C d_X12_init_457 ?_
  refine n_topl (y := 75131480080) (by decide +kernel) ?_
  refine n_ldc2 (v := 11) C tw_1209 d_X12_init_458 ?_
  refine n_ldiv C (by decide) d_X12_init_461 ?_
  refine n_topl (y := 6830134552) (by decide +kernel) ?_
  refine n_lstore_n (lv' := [(1, .long 6830134552), (3, .int 17), (0, .ref h0)]) C d_X12_init_462 (by decide) rfl ?_
  refine n_iinc (j := 1) (v := 16) (lv' := [(3, .int 16), (1, .long 6830134552), (0, .ref h0)]) C d_X12_init_463 rfl (by decide) (by decide) rfl ?_
  refine n_goto (tgt := 439) C d_X12_init_466 (by decide) ?_
  refine n_iload_n (j := 0) C d_X12_init_439 rfl ?_
  refine n_lt0_no (tgt := 469) C d_X12_init_440 (by decide) (by decide) ?_
  refine n_aload_n (j := 2) C d_X12_init_443 rfl ?_
  refine n_get (Cn := RX12) (T := TX12) C 0 0 inX12 rfl tw_1211 rfl rfl (by decide) rfl d_X12_init_444 ?_
  refine n_iload_n (j := 0) C d_X12_init_447 rfl ?_
  refine n_lload_n (j := 1) C d_X12_init_448 rfl ?_
  refine n_callS (rest := [.int 16, .ref q0]) C [.long 6830134552] [0, 1, 2, 3, 4, 5, 6, 7, 8, 9, 10, 11, 12, 13, 14, 15, 16, 17] kk_X12_rootOfNumber tw_1205 rfl (by decide +kernel) ⟨by decide, by decide⟩ ⟨Nat.le_of_ble_eq_true rfl, Nat.le_of_ble_eq_true rfl⟩ (Nat.le_of_ble_eq_true rfl) d_X12_init_449 n_X12_rootOfNumber rfl ?_
  refine n_topl (y := 82644) (by decide +kernel) ?_
  refine n_last (j := 16) C 1 rfl (inb_vp (by decide)) (by decide) d_X12_init_452 ?_
  refine n_eq (ws' := [(h0, .inr (11, [.ref q0, .int 0, .int 0, .int 0, .ref q1, .ref q2, .ref q3, .ref q4, .int 0, .int 0, .int 0, .int 0, .long 187429700, .long 326280, .long 8930039, .long 257, .long 11522, .long 841, .long 92275, .long 6476969, .long 240223, .long 10815598, .long 1065, .long 5528, .int 0, .int 0, .int 0, .ref q5, .ref q6, .long 0, .long 0, .long 0, .long 0, .int 0, .int 0, .ref q7, .ref q8, .ref q9, .ref q10, .ref q11, .ref q12, .ref q13, .int 0, .int 0, .int 0, .long 0, .int 0, .ref q14, .ref q15, .ref q16, .int 0, .long 0, .int 0, .long 0, .int 0])), (q0, .inl (cy 2, 41, .inr (.inl (vp_updL (vp_updL (vp_updL (vp_updL (vp_updL (vp_updL (vp_updL (vp_updL (vp_updL (vp_updL (vp_updL (vp_updL (vp_updL (vp_updL (vp_updL (vp_updL (vp_updL (vp_updL (vp_updL (vp_updL (vp_updL (vp_updL (vp_updL (vp_updL (vp_updL (vp_updL (fun _ => 0) 20 100000) 21 104880) 22 110000) 23 115368) 24 121000) 25 126905) 26 133100) 27 139596) 28 146410) 29 153556) 30 161051) 31 168911) 32 177156) 33 185802) 34 194871) 35 204383) 36 214358) 37 224821) 38 235794) 39 247303) 40 259374) 20 100000) 19 95346) 18 90909) 17 86678) 16 82644)))), (q1, .inl (cy 1, 25, .inl (fun _ => 0))), (q2, .inl (cy 2, 258, .inr (.inl (fun _ => 0)))), (q3, .inl (cy 2, 516, .inr (.inl (fun _ => 0)))), (q4, .inl (cy 0, 400, .inl (fun _ => 0))), (q5, .inl (cy 1, 35, .inl (fun _ => 0))), (q6, .inl (cy 1, 20, .inl (fun _ => 0))), (q7, .inl (cy 1, 40, .inl (fun _ => 0))), (q8, .inl (cy 1, 40, .inl (fun _ => 0))), (q9, .inl (cy 1, 160, .inl (fun _ => 0))), (q10, .inl (cy 1, 40, .inl (fun _ => 0))), (q11, .inl (cy 1, 40, .inl (fun _ => 0))), (q12, .inl (cy 2, 7, .inr (.inl (vp_updL (vp_updL (vp_updL (vp_updL (vp_updL (vp_updL (vp_updL (fun _ => 0) 0 257) 1 11522) 2 841) 3 92275) 4 6476969) 5 240223) 6 10815598)))), (q13, .inl (cy 1, 4, .inl (fun _ => 0))), (q14, .inl (cy 1, 4, .inl (fun _ => 0))), (q15, .inl (cy 1, 4, .inl (fun _ => 0))), (q16, .inl (cy 2, 4, .inr (.inl (fun _ => 0))))]) rfl ?_
  refine n_lload_n (j := 1) C d_X12_init_453 rfl ?_
  refine n_ldc2 (v := 10) C tw_1210 d_X12_init_454 ?_
  refine n_lmul C d_X12_init_457 ?_
  refine n_topl (y := 68301345520) (by decide +kernel) ?_
  refine n_ldc2 (v := 11) C tw_1209 d_X12_init_458 ?_
  refine n_ldiv C (by decide) d_X12_init_461 ?_
  refine n_topl (y := 6209213229) (by decide +kernel) ?_
  refine n_lstore_n (lv' := [(1, .long 6209213229), (3, .int 16), (0, .ref h0)]) C d_X12_init_462 (by decide) rfl ?_
  refine n_iinc (j := 1) (v := 15) (lv' := [(3, .int 15), (1, .long 6209213229), (0, .ref h0)]) C d_X12_init_463 rfl (by decide) (by decide) rfl ?_
  refine n_goto (tgt := 439) C d_X12_init_466 (by decide) ?_
  refine n_iload_n (j := 0) C d_X12_init_439 rfl ?_
  refine n_lt0_no (tgt := 469) C d_X12_init_440 (by decide) (by decide) ?_
  refine n_aload_n (j := 2) C d_X12_init_443 rfl ?_
  refine n_get (Cn := RX12) (T := TX12) C 0 0 inX12 rfl tw_1211 rfl rfl (by decide) rfl d_X12_init_444 ?_
  refine n_iload_n (j := 0) C d_X12_init_447 rfl ?_
  refine n_lload_n (j := 1) C d_X12_init_448 rfl ?_
  refine n_callS (rest := [.int 15, .ref q0]) C [.long 6209213229] [0, 1, 2, 3, 4, 5, 6, 7, 8, 9, 10, 11, 12, 13, 14, 15, 16, 17] kk_X12_rootOfNumber tw_1205 rfl (by decide +kernel) ⟨by decide, by decide⟩ ⟨Nat.le_of_ble_eq_true rfl, Nat.le_of_ble_eq_true rfl⟩ (Nat.le_of_ble_eq_true rfl) d_X12_init_449 n_X12_rootOfNumber rfl ?_
  refine n_topl (y := 78798) (by decide +kernel) ?_
  refine n_last (j := 15) C 1 rfl (inb_vp (by decide)) (by decide) d_X12_init_452 ?_
  refine n_eq (ws' := [(h0, .inr (11, [.ref q0, .int 0, .int 0, .int 0, .ref q1, .ref q2, .ref q3, .ref q4, .int 0, .int 0, .int 0, .int 0, .long 187429700, .long 326280, .long 8930039, .long 257, .long 11522, .long 841, .long 92275, .long 6476969, .long 240223, .long 10815598, .long 1065, .long 5528, .int 0, .int 0, .int 0, .ref q5, .ref q6, .long 0, .long 0, .long 0, .long 0, .int 0, .int 0, .ref q7, .ref q8, .ref q9, .ref q10, .ref q11, .ref q12, .ref q13, .int 0, .int 0, .int 0, .long 0, .int 0, .ref q14, .ref q15, .ref q16, .int 0, .long 0, .int 0, .long 0, .int 0])), (q0, .inl (cy 2, 41, .inr (.inl (vp_updL (vp_updL (vp_updL (vp_updL (vp_updL (vp_updL (vp_updL (vp_updL (vp_updL (vp_updL (vp_updL (vp_updL (vp_updL (vp_updL (vp_updL (vp_updL (vp_updL (vp_updL (vp_updL (vp_updL (vp_updL (vp_updL (vp_updL (vp_updL (vp_updL (vp_updL (vp_updL (fun _ => 0) 20 100000) 21 104880) 22 110000) 23 115368) 24 121000) 25 126905) 26 133100) 27 139596) 28 146410) 29 153556) 30 161051) 31 168911) 32 177156) 33 185802) 34 194871) 35 204383) 36 214358) 37 224821) 38 235794) 39 247303) 40 259374) 20 100000) 19 95346) 18 90909) 17 86678) 16 82644) 15 78798)))), (q1, .inl (cy 1, 25, .inl (fun _ => 0))), (q2, .inl (cy 2, 258, .inr (.inl (fun _ => 0)))), (q3, .inl (cy 2, 516, .inr (.inl (fun _ => 0)))), (q4, .inl (cy 0, 400, .inl (fun _ => 0))), (q5, .inl (cy 1, 35, .inl (fun _ => 0))), (q6, .inl (cy 1, 20, .inl (fun _ => 0))), (q7, .inl (cy 1, 40, .inl (fun _ => 0))), (q8, .inl (cy 1, 40, .inl (fun _ => 0))), (q9, .inl (cy 1, 160, .inl (fun _ => 0))), (q10, .inl (cy 1, 40, .inl (fun _ => 0))), (q11, .inl (cy 1, 40, .inl (fun _ => 0))), (q12, .inl (cy 2, 7, .inr (.inl (vp_updL (vp_updL (vp_updL (vp_updL (vp_updL (vp_updL (vp_updL (fun _ => 0) 0 257) 1 11522) 2 841) 3 92275) 4 6476969) 5 240223) 6 10815598)))), (q13, .inl (cy 1, 4, .inl (fun _ => 0))), (q14, .inl (cy 1, 4, .inl (fun _ => 0))), (q15, .inl (cy 1, 4, .inl (fun _ => 0))), (q16, .inl (cy 2, 4, .inr (.inl (fun _ => 0))))]) rfl ?_
  refine n_lload_n (j := 1) C d_X12_init_453 rfl ?_
  refine n_ldc2 (v := 10) C tw_1210 d_X12_init_454 ?_
  refine n_lmul C d_X12_init_457 ?_
  refine n_topl (y := 62092132290) (by decide +kernel) ?_
  refine n_ldc2 (v := 11) C tw_1209 d_X12_init_458 ?_
  refine n_ldiv C (by decide) d_X12_init_461 ?_
  refine n_topl (y := 5644739299) (by decide +kernel) ?_
  refine n_lstore_n (lv' := [(1, .long 5644739299), (3, .int 15), (0, .ref h0)]) C d_X12_init_462 (by decide) rfl ?_
  refine n_iinc (j := 1) (v := 14) (lv' := [(3, .int 14), (1, .long 5644739299), (0, .ref h0)]) C d_X12_init_463 rfl (by decide) (by decide) rfl ?_
  refine n_goto (tgt := 439) C d_X12_init_466 (by decide) ?_
  refine n_iload_n (j := 0) C d_X12_init_439 rfl ?_
  refine n_lt0_no (tgt := 469) C d_X12_init_440 (by decide) (by decide) ?_
  refine n_aload_n (j := 2) C d_X12_init_443 rfl ?_
  refine n_get (Cn := RX12) (T := TX12) C 0 0 inX12 rfl tw_1211 rfl rfl (by decide) rfl d_X12_init_444 ?_
  refine n_iload_n (j := 0) C d_X12_init_447 rfl ?_
  refine n_lload_n (j := 1) C d_X12_init_448 rfl ?_
  refine n_callS (rest := [.int 14, .ref q0]) C [.long 5644739299] [0, 1, 2, 3, 4, 5, 6, 7, 8, 9, 10, 11, 12, 13, 14, 15, 16, 17] kk_X12_rootOfNumber tw_1205 rfl (by decide +kernel) ⟨by decide, by decide⟩ ⟨Nat.le_of_ble_eq_true rfl, Nat.le_of_ble_eq_true rfl⟩ (Nat.le_of_ble_eq_true rfl) d_X12_init_449 n_X12_rootOfNumber rfl ?_
  refine n_topl (y := 75131) (by decide +kernel) ?_
  refine n_last (j := 14) C 1 rfl (inb_vp (by decide)) (by decide) d_X12_init_452 ?_
  refine n_eq (ws' := [(h0, .inr (11, [.ref q0, .int 0, .int 0, .int 0, .ref q1, .ref q2, .ref q3, .ref q4, .int 0, .int 0, .int 0, .int 0, .long 187429700, .long 326280, .long 8930039, .long 257, .long 11522, .long 841, .long 92275, .long 6476969, .long 240223, .long 10815598, .long 1065, .long 5528, .int 0, .int 0, .int 0, .ref q5, .ref q6, .long 0, .long 0, .long 0, .long 0, .int 0, .int 0, .ref q7, .ref q8, .ref q9, .ref q10, .ref q11, .ref q12, .ref q13, .int 0, .int 0, .int 0, .long 0, .int 0, .ref q14, .ref q15, .ref q16, .int 0, .long 0, .int 0, .long 0, .int 0])), (q0, .inl (cy 2, 41, .inr (.inl (vp_updL (vp_updL (vp_updL (vp_updL (vp_updL (vp_updL (vp_updL (vp_updL (vp_updL (vp_updL (vp_updL (vp_updL (vp_updL (vp_updL (vp_updL (vp_updL (vp_updL (vp_updL (vp_updL (vp_updL (vp_updL (vp_updL (vp_updL (vp_updL (vp_updL (vp_updL (vp_updL (vp_updL (fun _ => 0) 20 100000) 21 104880) 22 110000) 23 115368) 24 121000) 25 126905) 26 133100) 27 139596) 28 146410) 29 153556) 30 161051) 31 168911) 32 177156) 33 185802) 34 194871) 35 204383) 36 214358) 37 224821) 38 235794) 39 247303) 40 259374) 20 100000) 19 95346) 18 90909) 17 86678) 16 82644) 15 78798) 14 75131)))), (q1, .inl (cy 1, 25, .inl (fun _ => 0))), (q2, .inl (cy 2, 258, .inr (.inl (fun _ => 0)))), (q3, .inl (cy 2, 516, .inr (.inl (fun _ => 0)))), (q4, .inl (cy 0, 400, .inl (fun _ => 0))), (q5, .inl (cy 1, 35, .inl (fun _ => 0))), (q6, .inl (cy 1, 20, .inl (fun _ => 0))), (q7, .inl (cy 1, 40, .inl (fun _ => 0))), (q8, .inl (cy 1, 40, .inl (fun _ => 0))), (q9, .inl (cy 1, 160, .inl (fun _ => 0))), (q10, .inl (cy 1, 40, .inl (fun _ => 0))), (q11, .inl (cy 1, 40, .inl (fun _ => 0))), (q12, .inl (cy 2, 7, .inr (.inl (vp_updL (vp_updL (vp_updL (vp_updL (vp_updL (vp_updL (vp_updL (fun _ => 0) 0 257) 1 11522) 2 841) 3 92275) 4 6476969) 5 240223) 6 10815598)))), (q13, .inl (cy 1, 4, .inl (fun _ => 0))), (q14, .inl (cy 1, 4, .inl (fun _ => 0))), (q15, .inl (cy 1, 4, .inl (fun _ => 0))), (q16, .inl (cy 2, 4, .inr (.inl (fun _ => 0))))]) rfl ?_
  refine n_lload_n (j := 1) C d_X12_init_453 rfl ?_
  refine n_ldc2 (v := 10) C tw_1210 d_X12_init_454 ?_
  refine n_lmul C d_X12_init_457 ?_
  refine n_topl (y := 56447392990) (by decide +kernel) ?_
  refine n_ldc2 (v := 11) C tw_1209 d_X12_init_458 ?_
  refine n_ldiv C (by decide) d_X12_init_461 ?_
  refine n_topl (y := 5131581180) (by decide +kernel) ?_
  refine n_lstore_n (lv' := [(1, .long 5131581180), (3, .int 14), (0, .ref h0)]) C d_X12_init_462 (by decide) rfl ?_
  refine n_iinc (j := 1) (v := 13) (lv' := [(3, .int 13), (1, .long 5131581180), (0, .ref h0)]) C d_X12_init_463 rfl (by decide) (by decide) rfl ?_
  refine n_goto (tgt := 439) C d_X12_init_466 (by decide) ?_
  refine n_iload_n (j := 0) C d_X12_init_439 rfl ?_
  refine n_lt0_no (tgt := 469) C d_X12_init_440 (by decide) (by decide) ?_
  refine n_aload_n (j := 2) C d_X12_init_443 rfl ?_
  refine n_get (Cn := RX12) (T := TX12) C 0 0 inX12 rfl tw_1211 rfl rfl (by decide) rfl d_X12_init_444 ?_
  refine n_iload_n (j := 0) C d_X12_init_447 rfl ?_
  refine n_lload_n (j := 1) C d_X12_init_448 rfl ?_
  refine n_callS (rest := [.int 13, .ref q0]) C [.long 5131581180] [0, 1, 2, 3, 4, 5, 6, 7, 8, 9, 10, 11, 12, 13, 14, 15, 16, 17] kk_X12_rootOfNumber tw_1205 rfl (by decide +kernel) ⟨by decide, by decide⟩ ⟨Nat.le_of_ble_eq_true rfl, Nat.le_of_ble_eq_true rfl⟩ (Nat.le_of_ble_eq_true rfl) d_X12_init_449 n_X12_rootOfNumber rfl ?_
  refine n_topl (y := 71635) (by decide +kernel) ?_
  refine n_last (j := 13) C 1 rfl (inb_vp (by decide)) (by decide) d_X12_init_452 ?_
  refine n_eq (ws' := [(h0, .inr (11, [.ref q0, .int 0, .int 0, .int 0, .ref q1, .ref q2, .ref q3, .ref q4, .int 0, .int 0, .int 0, .int 0, .long 187429700, .long 326280, .long 8930039, .long 257, .long 11522, .long 841, .long 92275, .long 6476969, .long 240223, .long 10815598, .long 1065, .long 5528, .int 0, .int 0, .int 0, .ref q5, .ref q6, .long 0, .long 0, .long 0, .long 0, .int 0, .int 0, .ref q7, .ref q8, .ref q9, .ref q10, .ref q11, .ref q12, .ref q13, .int 0, .int 0, .int 0, .long 0, .int 0, .ref q14, .ref q15, .ref q16, .int 0, .long 0, .int 0, .long 0, .int 0])), (q0, .inl (cy 2, 41, .inr (.inl (vp_updL (vp_updL (vp_updL (vp_updL (vp_updL (vp_updL (vp_updL (vp_updL (vp_updL (vp_updL (vp_updL (vp_updL (vp_updL (vp_updL (vp_updL (vp_updL (vp_updL (vp_updL (vp_updL (vp_updL (vp_updL (vp_updL (vp_updL (vp_updL (vp_updL (vp_updL (vp_updL (vp_updL (vp_updL (fun _ => 0) 20 100000) 21 104880) 22 110000) 23 115368) 24 121000) 25 126905) 26 133100) 27 139596) 28 146410) 29 153556) 30 161051) 31 168911) 32 177156) 33 185802) 34 194871) 35 204383) 36 214358) 37 224821) 38 235794) 39 247303) 40 259374) 20 100000) 19 95346) 18 90909) 17 86678) 16 82644) 15 78798) 14 75131) 13 71635)))), (q1, .inl (cy 1, 25, .inl (fun _ => 0))), (q2, .inl (cy 2, 258, .inr (.inl (fun _ => 0)))), (q3, .inl (cy 2, 516, .inr (.inl (fun _ => 0)))), (q4, .inl (cy 0, 400, .inl (fun _ => 0))), (q5, .inl (cy 1, 35, .inl (fun _ => 0))), (q6, .inl (cy 1, 20, .inl (fun _ => 0))), (q7, .inl (cy 1, 40, .inl (fun _ => 0))), (q8, .inl (cy 1, 40, .inl (fun _ => 0))), (q9, .inl (cy 1, 160, .inl (fun _ => 0))), (q10, .inl (cy 1, 40, .inl (fun _ => 0))), (q11, .inl (cy 1, 40, .inl (fun _ => 0))), (q12, .inl (cy 2, 7, .inr (.inl (vp_updL (vp_updL (vp_updL (vp_updL (vp_updL (vp_updL (vp_updL (fun _ => 0) 0 257) 1 11522) 2 841) 3 92275) 4 6476969) 5 240223) 6 10815598)))), (q13, .inl (cy 1, 4, .inl (fun _ => 0))), (q14, .inl (cy 1, 4, .inl (fun _ => 0))), (q15, .inl (cy 1, 4, .inl (fun _ => 0))), (q16, .inl (cy 2, 4, .inr (.inl (fun _ => 0))))]) rfl ?_
  refine n_lload_n (j := 1) C d_X12_init_453 rfl ?_
  refine n_ldc2 (v := 10) C tw_1210 d_X12_init_454 ?_
  refine n_lmul C d_X12_init_457 ?_
  refine n_topl (y := 51315811800) (by decide +kernel) ?_
  refine n_ldc2 (v := 11) C tw_1209 d_X12_init_458 ?_
  refine n_ldiv C (by decide) d_X12_init_461 ?_
  refine n_topl (y := 4665073800) (by decide +kernel) ?_
  refine n_lstore_n (lv' := [(1, .long 4665073800), (3, .int 13), (0, .ref h0)]) C d_X12_init_462 (by decide) rfl ?_
  refine n_iinc (j := 1) (v := 12) (lv' := [(3, .int 12), (1, .long 4665073800), (0, .ref h0)]) C d_X12_init_463 rfl (by decide) (by decide) rfl ?_
  refine n_goto (tgt := 439) C d_X12_init_466 (by decide) ?_
  refine n_iload_n (j := 0) C d_X12_init_439 rfl ?_
  refine n_lt0_no (tgt := 469) C d_X12_init_440 (by decide) (by decide) ?_
  refine n_aload_n (j := 2) C d_X12_init_443 rfl ?_
  refine n_get (Cn := RX12) (T := TX12) C 0 0 inX12 rfl tw_1211 rfl rfl (by decide) rfl d_X12_init_444 ?_
  refine n_iload_n (j := 0) C d_X12_init_447 rfl ?_
  refine n_lload_n (j := 1) C d_X12_init_448 rfl ?_
  refine n_callS (rest := [.int 12, .ref q0]) C [.long 4665073800] [0, 1, 2, 3, 4, 5, 6, 7, 8, 9, 10, 11, 12, 13, 14, 15, 16, 17] kk_X12_rootOfNumber tw_1205 rfl (by decide +kernel) ⟨by decide, by decide⟩ ⟨Nat.le_of_ble_eq_true rfl, Nat.le_of_ble_eq_true rfl⟩ (Nat.le_of_ble_eq_true rfl) d_X12_init_449 n_X12_rootOfNumber rfl ?_
  refine n_topl (y := 68301) (by decide +kernel) ?_
  refine n_last (j := 12) C 1 rfl (inb_vp (by decide)) (by decide) d_X12_init_452 ?_
  refine n_eq (ws' := [(h0, .inr (11, [.ref q0, .int 0, .int 0, .int 0, .ref q1, .ref q2, .ref q3, .ref q4, .int 0, .int 0, .int 0, .int 0, .long 187429700, .long 326280, .long 8930039, .long 257, .long 11522, .long 841, .long 92275, .long 6476969, .long 240223, .long 10815598, .long 1065, .long 5528, .int 0, .int 0, .int 0, .ref q5, .ref q6, .long 0, .long 0, .long 0, .long 0, .int 0, .int 0, .ref q7, .ref q8, .ref q9, .ref q10, .ref q11, .ref q12, .ref q13, .int 0, .int 0, .int 0, .long 0, .int 0, .ref q14, .ref q15, .ref q16, .int 0, .long 0, .int 0, .long 0, .int 0])), (q0, .inl (cy 2, 41, .inr (.inl (vp_updL (vp_updL (vp_updL (vp_updL (vp_updL (vp_updL (vp_updL (vp_updL (vp_updL (vp_updL (vp_updL (vp_updL (vp_updL (vp_updL (vp_updL (vp_updL (vp_updL (vp_updL (vp_updL (vp_updL (vp_updL (vp_updL (vp_updL (vp_updL (vp_updL (vp_updL (vp_updL (vp_updL (vp_updL (vp_updL (fun _ => 0) 20 100000) 21 104880) 22 110000) 23 115368) 24 121000) 25 126905) 26 133100) 27 139596) 28 146410) 29 153556) 30 161051) 31 168911) 32 177156) 33 185802) 34 194871) 35 204383) 36 214358) 37 224821) 38 235794) 39 247303) 40 259374) 20 100000) 19 95346) 18 90909) 17 86678) 16 82644) 15 78798) 14 75131) 13 71635) 12 68301)))), (q1, .inl (cy 1, 25, .inl (fun _ => 0))), (q2, .inl (cy 2, 258, .inr (.inl (fun _ => 0)))), (q3, .inl (cy 2, 516, .inr (.inl (fun _ => 0)))), (q4, .inl (cy 0, 400, .inl (fun _ => 0))), (q5, .inl (cy 1, 35, .inl (fun _ => 0))), (q6, .inl (cy 1, 20, .inl (fun _ => 0))), (q7, .inl (cy 1, 40, .inl (fun _ => 0))), (q8, .inl (cy 1, 40, .inl (fun _ => 0))), (q9, .inl (cy 1, 160, .inl (fun _ => 0))), (q10, .inl (cy 1, 40, .inl (fun _ => 0))), (q11, .inl (cy 1, 40, .inl (fun _ => 0))), (q12, .inl (cy 2, 7, .inr (.inl (vp_updL (vp_updL (vp_updL (vp_updL (vp_updL (vp_updL (vp_updL (fun _ => 0) 0 257) 1 11522) 2 841) 3 92275) 4 6476969) 5 240223) 6 10815598)))), (q13, .inl (cy 1, 4, .inl (fun _ => 0))), (q14, .inl (cy 1, 4, .inl (fun _ => 0))), (q15, .inl (cy 1, 4, .inl (fun _ => 0))), (q16, .inl (cy 2, 4, .inr (.inl (fun _ => 0))))]) rfl ?_
  refine n_lload_n (j := 1) C d_X12_init_453 rfl ?_
  refine n_ldc2 (v := 10) C tw_1210 d_X12_init_454 ?_
  refine n_lmul C d_X12_init_457 ?_
  refine n_topl (y := 46650738000) (by decide +kernel) ?_
  refine n_ldc2 (v := 11) C tw_1209 d_X12_init_458 ?_
  refine n_ldiv C (by decide) d_X12_init_461 ?_
  refine n_topl (y := 4240976181) (by decide +kernel) ?_
  refine n_lstore_n (lv' := [(1, .long 4240976181), (3, .int 12), (0, .ref h0)]) C d_X12_init_462 (by decide) rfl ?_
  refine n_iinc (j := 1) (v := 11) (lv' := [(3, .int 11), (1, .long 4240976181), (0, .ref h0)]) C d_X12_init_463 rfl (by decide) (by decide) rfl ?_
  refine n_goto (tgt := 439) C d_X12_init_466 (by decide) ?_
  refine n_iload_n (j := 0) C d_X12_init_439 rfl ?_
  refine n_lt0_no (tgt := 469) C d_X12_init_440 (by decide) (by decide) ?_
  refine n_aload_n (j := 2) C d_X12_init_443 rfl ?_
  refine n_get (Cn := RX12) (T := TX12) C 0 0 inX12 rfl tw_1211 rfl rfl (by decide) rfl d_X12_init_444 ?_
  refine n_iload_n (j := 0) C d_X12_init_447 rfl ?_
  refine n_lload_n (j := 1) C d_X12_init_448 rfl ?_
  refine n_callS (rest := [.int 11, .ref q0]) C [.long 4240976181] [0, 1, 2, 3, 4, 5, 6, 7, 8, 9, 10, 11, 12, 13, 14, 15, 16, 17] kk_X12_rootOfNumber tw_1205 rfl (by decide +kernel) ⟨by decide, by decide⟩ ⟨Nat.le_of_ble_eq_true rfl, Nat.le_of_ble_eq_true rfl⟩ (Nat.le_of_ble_eq_true rfl) d_X12_init_449 n_X12_rootOfNumber rfl ?_
  refine n_topl (y := 65122) (by decide +kernel) ?_
  refine n_last (j := 11) C 1 rfl (inb_vp (by decide)) (by decide) d_X12_init_452 ?_
  refine n_eq (ws' := [(h0, .inr (11, [.ref q0, .int 0, .int 0, .int 0, .ref q1, .ref q2, .ref q3, .ref q4, .int 0, .int 0, .int 0, .int 0, .long 187429700, .long 326280, .long 8930039, .long 257, .long 11522, .long 841, .long 92275, .long 6476969, .long 240223, .long 10815598, .long 1065, .long 5528, .int 0, .int 0, .int 0, .ref q5, .ref q6, .long 0, .long 0, .long 0, .long 0, .int 0, .int 0, .ref q7, .ref q8, .ref q9, .ref q10, .ref q11, .ref q12, .ref q13, .int 0, .int 0, .int 0, .long 0, .int 0, .ref q14, .ref q15, .ref q16, .int 0, .long 0, .int 0, .long 0, .int 0])), (q0, .inl (cy 2, 41, .inr (.inl (vp_updL (vp_updL (vp_updL (vp_updL (vp_updL (vp_updL (vp_updL (vp_updL (vp_updL (vp_updL (vp_updL (vp_updL (vp_updL (vp_updL (vp_updL (vp_updL (vp_updL (vp_updL (vp_updL (vp_updL (vp_updL (vp_updL (vp_updL (vp_updL (vp_updL (vp_updL (vp_updL (vp_updL (vp_updL (vp_updL (vp_updL (fun _ => 0) 20 100000) 21 104880) 22 110000) 23 115368) 24 121000) 25 126905) 26 133100) 27 139596) 28 146410) 29 153556) 30 161051) 31 168911) 32 177156) 33 185802) 34 194871) 35 204383) 36 214358) 37 224821) 38 235794) 39 247303) 40 259374) 20 100000) 19 95346) 18 90909) 17 86678) 16 82644) 15 78798) 14 75131) 13 71635) 12 68301) 11 65122)))), (q1, .inl (cy 1, 25, .inl (fun _ => 0))), (q2, .inl (cy 2, 258, .inr (.inl (fun _ => 0)))), (q3, .inl (cy 2, 516, .inr (.inl (fun _ => 0)))), (q4, .inl (cy 0, 400, .inl (fun _ => 0))), (q5, .inl (cy 1, 35, .inl (fun _ => 0))), (q6, .inl (cy 1, 20, .inl (fun _ => 0))), (q7, .inl (cy 1, 40, .inl (fun _ => 0))), (q8, .inl (cy 1, 40, .inl (fun _ => 0))), (q9, .inl (cy 1, 160, .inl (fun _ => 0))), (q10, .inl (cy 1, 40, .inl (fun _ => 0))), (q11, .inl (cy 1, 40, .inl (fun _ => 0))), (q12, .inl (cy 2, 7, .inr (.inl (vp_updL (vp_updL (vp_updL (vp_updL (vp_updL (vp_updL (vp_updL (fun _ => 0) 0 257) 1 11522) 2 841) 3 92275) 4 6476969) 5 240223) 6 10815598)))), (q13, .inl (cy 1, 4, .inl (fun _ => 0))), (q14, .inl (cy 1, 4, .inl (fun _ => 0))), (q15, .inl (cy 1, 4, .inl (fun _ => 0))), (q16, .inl (cy 2, 4, .inr (.inl (fun _ => 0))))]) rfl ?_
  refine n_lload_n (j := 1) C d_X12_init_453 rfl ?_
  refine n_ldc2 (v := 10) C tw_1210 d_X12_init_454 ?_
  refine n_lmul C d_X12_init_457 ?_
  refine n_topl (y := 42409761810) (by decide +kernel) ?_
  refine n_ldc2 (v := 11) C tw_1209 d_X12_init_458 ?_
  refine n_ldiv C (by decide) d_X12_init_461 ?_
  refine n_topl (y := 3855432891) (by decide +kernel) ?_
  refine n_lstore_n (lv' := [(1, .long 3855432891), (3, .int 11), (0, .ref h0)]) C d_X12_init_462 (by decide) rfl ?_
  refine n_iinc (j := 1) (v := 10) (lv' := [(3, .int 10), (1, .long 3855432891), (0, .ref h0)]) C d_X12_init_463 rfl (by decide) (by decide) rfl ?_
  refine n_goto (tgt := 439) C d_X12_init_466 (by decide) ?_
  refine n_iload_n (j := 0) C d_X12_init_439 rfl ?_
  refine n_lt0_no (tgt := 469) C d_X12_init_440 (by decide) (by decide) ?_
  refine n_aload_n (j := 2) C d_X12_init_443 rfl ?_
  refine n_get (Cn := RX12) (T := TX12) C 0 0 inX12 rfl tw_1211 rfl rfl (by decide) rfl d_X12_init_444 ?_
  refine n_iload_n (j := 0) C d_X12_init_447 rfl ?_
  refine n_lload_n (j := 1) C d_X12_init_448 rfl ?_
  refine n_callS (rest := [.int 10, .ref q0]) C [.long 3855432891] [0, 1, 2, 3, 4, 5, 6, 7, 8, 9, 10, 11, 12, 13, 14, 15, 16, 17] kk_X12_rootOfNumber tw_1205 rfl (by decide +kernel) ⟨by decide, by decide⟩ ⟨Nat.le_of_ble_eq_true rfl, Nat.le_of_ble_eq_true rfl⟩ (Nat.le_of_ble_eq_true rfl) d_X12_init_449 n_X12_rootOfNumber rfl ?_
  refine n_topl (y := 62092) (by decide +kernel) ?_
  refine n_last (j := 10) C 1 rfl (inb_vp (by decide)) (by decide) d_X12_init_452 ?_
  refine n_eq (ws' := [(h0, .inr (11, [.ref q0, .int 0, .int 0, .int 0, .ref q1, .ref q2, .ref q3, .ref q4, .int 0, .int 0, .int 0, .int 0, .long 187429700, .long 326280, .long 8930039, .long 257, .long 11522, .long 841, .long 92275, .long 6476969, .long 240223, .long 10815598, .long 1065, .long 5528, .int 0, .int 0, .int 0, .ref q5, .ref q6, .long 0, .long 0, .long 0, .long 0, .int 0, .int 0, .ref q7, .ref q8, .ref q9, .ref q10, .ref q11, .ref q12, .ref q13, .int 0, .int 0, .int 0, .long 0, .int 0, .ref q14, .ref q15, .ref q16, .int 0, .long 0, .int 0, .long 0, .int 0])), (q0, .inl (cy 2, 41, .inr (.inl (vp_updL (vp_updL (vp_updL (vp_updL (vp_updL (vp_updL (vp_updL (vp_updL (vp_updL (vp_updL (vp_updL (vp_updL (vp_updL (vp_updL (vp_updL (vp_updL (vp_updL (vp_updL (vp_updL (vp_updL (vp_updL (vp_updL (vp_updL (vp_updL (vp_updL (vp_updL (vp_updL (vp_updL (vp_updL (vp_updL (vp_updL (vp_updL (fun _ => 0) 20 100000) 21 104880) 22 110000) 23 115368) 24 121000) 25 126905) 26 133100) 27 139596) 28 146410) 29 153556) 30 161051) 31 168911) 32 177156) 33 185802) 34 194871) 35 204383) 36 214358) 37 224821) 38 235794) 39 247303) 40 259374) 20 100000) 19 95346) 18 90909) 17 86678) 16 82644) 15 78798) 14 75131) 13 71635) 12 68301) 11 65122) 10 62092)))), (q1, .inl (cy 1, 25, .inl (fun _ => 0))), (q2, .inl (cy 2, 258, .inr (.inl (fun _ => 0)))), (q3, .inl (cy 2, 516, .inr (.inl (fun _ => 0)))), (q4, .inl (cy 0, 400, .inl (fun _ => 0))), (q5, .inl (cy 1, 35, .inl (fun _ => 0))), (q6, .inl (cy 1, 20, .inl (fun _ => 0))), (q7, .inl (cy 1, 40, .inl (fun _ => 0))), (q8, .inl (cy 1, 40, .inl (fun _ => 0))), (q9, .inl (cy 1, 160, .inl (fun _ => 0))), (q10, .inl (cy 1, 40, .inl (fun _ => 0))), (q11, .inl (cy 1, 40, .inl (fun _ => 0))), (q12, .inl (cy 2, 7, .inr (.inl (vp_updL (vp_updL (vp_updL (vp_updL (vp_updL (vp_updL (vp_updL (fun _ => 0) 0 257) 1 11522) 2 841) 3 92275) 4 6476969) 5 240223) 6 10815598)))), (q13, .inl (cy 1, 4, .inl (fun _ => 0))), (q14, .inl (cy 1, 4, .inl (fun _ => 0))), (q15, .inl (cy 1, 4, .inl (fun _ => 0))), (q16, .inl (cy 2, 4, .inr (.inl (fun _ => 0))))]) rfl ?_
  refine n_lload_n (j := 1) C d_X12_init_453 rfl ?_
  refine n_ldc2 (v := 10) C tw_1210 d_X12_init_454 ?_
  refine n_lmul C d_X12_init_457 ?_
  refine n_topl (y := 38554328910) (by decide +kernel) ?_
  refine n_ldc2 (v := 11) C tw_1209 d_X12_init_458 ?_
  refine n_ldiv C (by decide) d_X12_init_461 ?_
  refine n_topl (y := 3504938991) (by decide +kernel) ?_
  refine n_lstore_n (lv' := [(1, .long 3504938991), (3, .int 10), (0, .ref h0)]) C d_X12_init_462 (by decide) rfl ?_
  refine n_iinc (j := 1) (v := 9) (lv' := [(3, .int 9), (1, .long 3504938991), (0, .ref h0)]) C d_X12_init_463 rfl (by decide) (by decide) rfl ?_
  refine n_goto (tgt := 439) C d_X12_init_466 (by decide) ?_
  refine n_iload_n (j := 0) C d_X12_init_439 rfl ?_
  refine n_lt0_no (tgt := 469) C d_X12_init_440 (by decide) (by decide) ?_
  refine n_aload_n (j := 2) C d_X12_init_443 rfl ?_
  refine n_get (Cn := RX12) (T := TX12) C 0 0 inX12 rfl tw_1211 rfl rfl (by decide) rfl d_X12_init_444 ?_
  refine n_iload_n (j := 0) C d_X12_init_447 rfl ?_
  refine n_lload_n (j := 1) C d_X12_init_448 rfl ?_
  refine n_callS (rest := [.int 9, .ref q0]) C [.long 3504938991] [0, 1, 2, 3, 4, 5, 6, 7, 8, 9, 10, 11, 12, 13, 14, 15, 16, 17] kk_X12_rootOfNumber tw_1205 rfl (by decide +kernel) ⟨by decide, by decide⟩ ⟨Nat.le_of_ble_eq_true rfl, Nat.le_of_ble_eq_true rfl⟩ (Nat.le_of_ble_eq_true rfl) d_X12_init_449 n_X12_rootOfNumber rfl ?_
  refine n_topl (y := 59202) (by decide +kernel) ?_
  refine n_last (j := 9) C 1 rfl (inb_vp (by decide)) (by decide) d_X12_init_452 ?_
  refine n_eq (ws' := [(h0, .inr (11, [.ref q0, .int 0, .int 0, .int 0, .ref q1, .ref q2, .ref q3, .ref q4, .int 0, .int 0, .int 0, .int 0, .long 187429700, .long 326280, .long 8930039, .long 257, .long 11522, .long 841, .long 92275, .long 6476969, .long 240223, .long 10815598, .long 1065, .long 5528, .int 0, .int 0, .int 0, .ref q5, .ref q6, .long 0, .long 0, .long 0, .long 0, .int 0, .int 0, .ref q7, .ref q8, .ref q9, .ref q10, .ref q11, .ref q12, .ref q13, .int 0, .int 0, .int 0, .long 0, .int 0, .ref q14, .ref q15, .ref q16, .int 0, .long 0, .int 0, .long 0, .int 0])), (q0, .inl (cy 2, 41, .inr (.inl (vp_updL (vp_updL (vp_updL (vp_updL (vp_updL (vp_updL (vp_updL (vp_updL (vp_updL (vp_updL (vp_updL (vp_updL (vp_updL (vp_updL (vp_updL (vp_updL (vp_updL (vp_updL (vp_updL (vp_updL (vp_updL (vp_updL (vp_updL (vp_updL (vp_updL (vp_updL (vp_updL (vp_updL (vp_updL (vp_updL (vp_updL (vp_updL (vp_updL (fun _ => 0) 20 100000) 21 104880) 22 110000) 23 115368) 24 121000) 25 126905) 26 133100) 27 139596) 28 146410) 29 153556) 30 161051) 31 168911) 32 177156) 33 185802) 34 194871) 35 204383) 36 214358) 37 224821) 38 235794) 39 247303) 40 259374) 20 100000) 19 95346) 18 90909) 17 86678) 16 82644) 15 78798) 14 75131) 13 71635) 12 68301) 11 65122) 10 62092) 9 59202)))), (q1, .inl (cy 1, 25, .inl (fun _ => 0))), (q2, .inl (cy 2, 258, .inr (.inl (fun _ => 0)))), (q3, .inl (cy 2, 516, .inr (.inl (fun _ => 0)))), (q4, .inl (cy 0, 400, .inl (fun _ => 0))), (q5, .inl (cy 1, 35, .inl (fun _ => 0))), (q6, .inl (cy 1, 20, .inl (fun _ => 0))), (q7, .inl (cy 1, 40, .inl (fun _ => 0))), (q8, .inl (cy 1, 40, .inl (fun _ => 0))), (q9, .inl (cy 1, 160, .inl (fun _ => 0))), (q10, .inl (cy 1, 40, .inl (fun _ => 0))), (q11, .inl (cy 1, 40, .inl (fun _ => 0))), (q12, .inl (cy 2, 7, .inr (.inl (vp_updL (vp_updL (vp_updL (vp_updL (vp_updL (vp_updL (vp_updL (fun _ => 0) 0 257) 1 11522) 2 841) 3 92275) 4 6476969) 5 240223) 6 10815598)))), (q13, .inl (cy 1, 4, .inl (fun _ => 0))), (q14, .inl (cy 1, 4, .inl (fun _ => 0))), (q15, .inl (cy 1, 4, .inl (fun _ => 0))), (q16, .inl (cy 2, 4, .inr (.inl (fun _ => 0))))]) rfl ?_
  refine n_lload_n (j := 1) C d_X12_init_453 rfl ?_
  refine n_ldc2 (v := 10) C tw_1210 d_X12_init_454 ?_
  refine n_lmul C d_X12_init_457 ?_
  refine n_topl (y := 35049389910) (by decide +kernel) ?_
  refine n_ldc2 (v := 11) C tw_1209 d_X12_init_458 ?_
  refine n_ldiv C (by decide) d_X12_init_461 ?_
  refine n_topl (y := 3186308173) (by decide +kernel) ?_
  refine n_lstore_n (lv' := [(1, .long 3186308173), (3, .int 9), (0, .ref h0)]) C d_X12_init_462 (by decide) rfl ?_
  refine n_iinc (j := 1) (v := 8) (lv' := [(3, .int 8), (1, .long 3186308173), (0, .ref h0)]) C d_X12_init_463 rfl (by decide) (by decide) rfl ?_
  refine n_goto (tgt := 439) C d_X12_init_466 (by decide) ?_
  refine n_iload_n (j := 0) C d_X12_init_439 rfl ?_
  refine n_lt0_no (tgt := 469) C d_X12_init_440 (by decide) (by decide) ?_
  refine n_aload_n (j := 2) C d_X12_init_443 rfl ?_
  refine n_get (Cn := RX12) (T := TX12) C 0 0 inX12 rfl tw_1211 rfl rfl (by decide) rfl d_X12_init_444 ?_
  refine n_iload_n (j := 0) C d_X12_init_447 rfl ?_
  refine n_lload_n (j := 1) C d_X12_init_448 rfl ?_
  refine n_callS (rest := [.int 8, .ref q0]) C [.long 3186308173] [0, 1, 2, 3, 4, 5, 6, 7, 8, 9, 10, 11, 12, 13, 14, 15, 16, 17] kk_X12_rootOfNumber tw_1205 rfl (by decide +kernel) ⟨by decide, by decide⟩ ⟨Nat.le_of_ble_eq_true rfl, Nat.le_of_ble_eq_true rfl⟩ (Nat.le_of_ble_eq_true rfl) d_X12_init_449 n_X12_rootOfNumber rfl ?_
  refine n_topl (y := 56447) (by decide +kernel) ?_
  refine n_last (j := 8) C 1 rfl (inb_vp (by decide)) (by decide) d_X12_init_452 ?_
  refine n_eq (ws' := [(h0, .inr (11, [.ref q0, .int 0, .int 0, .int 0, .ref q1, .ref q2, .ref q3, .ref q4, .int 0, .int 0, .int 0, .int 0, .long 187429700, .long 326280, .long 8930039, .long 257, .long 11522, .long 841, .long 92275, .long 6476969, .long 240223, .long 10815598, .long 1065, .long 5528, .int 0, .int 0, .int 0, .ref q5, .ref q6, .long 0, .long 0, .long 0, .long 0, .int 0, .int 0, .ref q7, .ref q8, .ref q9, .ref q10, .ref q11, .ref q12, .ref q13, .int 0, .int 0, .int 0, .long 0, .int 0, .ref q14, .ref q15, .ref q16, .int 0, .long 0, .int 0, .long 0, .int 0])), (q0, .inl (cy 2, 41, .inr (.inl (vp_updL (vp_updL (vp_updL (vp_updL (vp_updL (vp_updL (vp_updL (vp_updL (vp_updL (vp_updL (vp_updL (vp_updL (vp_updL (vp_updL (vp_updL (vp_updL (vp_updL (vp_updL (vp_updL (vp_updL (vp_updL (vp_updL (vp_updL (vp_updL (vp_updL (vp_updL (vp_updL (vp_updL (vp_updL (vp_updL (vp_updL (vp_updL (vp_updL (vp_updL (fun _ => 0) 20 100000) 21 104880) 22 110000) 23 115368) 24 121000) 25 126905) 26 133100) 27 139596) 28 146410) 29 153556) 30 161051) 31 168911) 32 177156) 33 185802) 34 194871) 35 204383) 36 214358) 37 224821) 38 235794) 39 247303) 40 259374) 20 100000) 19 95346) 18 90909) 17 86678) 16 82644) 15 78798) 14 75131) 13 71635) 12 68301) 11 65122) 10 62092) 9 59202) 8 56447)))), (q1, .inl (cy 1, 25, .inl (fun _ => 0))), (q2, .inl (cy 2, 258, .inr (.inl (fun _ => 0)))), (q3, .inl (cy 2, 516, .inr (.inl (fun _ => 0)))), (q4, .inl (cy 0, 400, .inl (fun _ => 0))), (q5, .inl (cy 1, 35, .inl (fun _ => 0))), (q6, .inl (cy 1, 20, .inl (fun _ => 0))), (q7, .inl (cy 1, 40, .inl (fun _ => 0))), (q8, .inl (cy 1, 40, .inl (fun _ => 0))), (q9, .inl (cy 1, 160, .inl (fun _ => 0))), (q10, .inl (cy 1, 40, .inl (fun _ => 0))), (q11, .inl (cy 1, 40, .inl (fun _ => 0))), (q12, .inl (cy 2, 7, .inr (.inl (vp_updL (vp_updL (vp_updL (vp_updL (vp_updL (vp_updL (vp_updL (fun _ => 0) 0 257) 1 11522) 2 841) 3 92275) 4 6476969) 5 240223) 6 10815598)))), (q13, .inl (cy 1, 4, .inl (fun _ => 0))), (q14, .inl (cy 1, 4, .inl (fun _ => 0))), (q15, .inl (cy 1, 4, .inl (fun _ => 0))), (q16, .inl (cy 2, 4, .inr (.inl (fun _ => 0))))]) rfl ?_
  refine n_lload_n (j := 1) C d_X12_init_453 rfl ?_
  refine n_ldc2 (v := 10) C tw_1210 d_X12_init_454 ?_
  refine n_lmul C d_X12_init_457 ?_
  refine n_topl (y := 31863081730) (by decide +kernel) ?_
  refine n_ldc2 (v := 11) C tw_1209 d_X12_init_458 ?_
  refine n_ldiv C (by decide) d_X12_init_461 ?_
  refine n_topl (y := 2896643793) (by decide +kernel) ?_
  refine n_lstore_n (lv' := [(1, .long 2896643793), (3, .int 8), (0, .ref h0)]) C d_X12_init_462 (by decide) rfl ?_
  refine n_iinc (j := 1) (v := 7) (lv' := [(3, .int 7), (1, .long 2896643793), (0, .ref h0)]) C d_X12_init_463 rfl (by decide) (by decide) rfl ?_
  refine n_goto (tgt := 439) C d_X12_init_466 (by decide) ?_
  refine n_iload_n (j := 0) C d_X12_init_439 rfl ?_
  refine n_lt0_no (tgt := 469) C d_X12_init_440 (by decide) (by decide) ?_
  refine n_aload_n (j := 2) C d_X12_init_443 rfl ?_
  refine n_get (Cn := RX12) (T := TX12) C 0 0 inX12 rfl tw_1211 rfl rfl (by decide) rfl d_X12_init_444 ?_
  refine n_iload_n (j := 0) C d_X12_init_447 rfl ?_
  refine n_lload_n (j := 1) C d_X12_init_448 rfl ?_
  refine n_callS (rest := [.int 7, .ref q0]) C [.long 2896643793] [0, 1, 2, 3, 4, 5, 6, 7, 8, 9, 10, 11, 12, 13, 14, 15, 16, 17] kk_X12_rootOfNumber tw_1205 rfl (by decide +kernel) ⟨by decide, by decide⟩ ⟨Nat.le_of_ble_eq_true rfl, Nat.le_of_ble_eq_true rfl⟩ (Nat.le_of_ble_eq_true rfl) d_X12_init_449 n_X12_rootOfNumber rfl ?_
  refine n_topl (y := 53820) (by decide +kernel) ?_
  refine n_last (j := 7) C 1 rfl (inb_vp (by decide)) (by decide) d_X12_init_452 ?_
  refine n_eq (ws' := [(h0, .inr (11, [.ref q0, .int 0, .int 0, .int 0, .ref q1, .ref q2, .ref q3, .ref q4, .int 0, .int 0, .int 0, .int 0, .long 187429700, .long 326280, .long 8930039, .long 257, .long 11522, .long 841, .long 92275, .long 6476969, .long 240223, .long 10815598, .long 1065, .long 5528, .int 0, .int 0, .int 0, .ref q5, .ref q6, .long 0, .long 0, .long 0, .long 0, .int 0, .int 0, .ref q7, .ref q8, .ref q9, .ref q10, .ref q11, .ref q12, .ref q13, .int 0, .int 0, .int 0, .long 0, .int 0, .ref q14, .ref q15, .ref q16, .int 0, .long 0, .int 0, .long 0, .int 0])), (q0, .inl (cy 2, 41, .inr (.inl (vp_updL (vp_updL (vp_updL (vp_updL (vp_updL (vp_updL (vp_updL (vp_updL (vp_updL (vp_updL (vp_updL (vp_updL (vp_updL (vp_updL (vp_updL (vp_updL (vp_updL (vp_updL (vp_updL (vp_updL (vp_updL (vp_updL (vp_updL (vp_updL (vp_updL (vp_updL (vp_updL (vp_updL (vp_updL (vp_updL (vp_updL (vp_updL (vp_updL (vp_updL (vp_updL (fun _ => 0) 20 100000) 21 104880) 22 110000) 23 115368) 24 121000) 25 126905) 26 133100) 27 139596) 28 146410) 29 153556) 30 161051) 31 168911) 32 177156) 33 185802) 34 194871) 35 204383) 36 214358) 37 224821) 38 235794) 39 247303) 40 259374) 20 100000) 19 95346) 18 90909) 17 86678) 16 82644) 15 78798) 14 75131) 13 71635) 12 68301) 11 65122) 10 62092) 9 59202) 8 56447) 7 53820)))), (q1, .inl (cy 1, 25, .inl (fun _ => 0))), (q2, .inl (cy 2, 258, .inr (.inl (fun _ => 0)))), (q3, .inl (cy 2, 516, .inr (.inl (fun _ => 0)))), (q4, .inl (cy 0, 400, .inl (fun _ => 0))), (q5, .inl (cy 1, 35, .inl (fun _ => 0))), (q6, .inl (cy 1, 20, .inl (fun _ => 0))), (q7, .inl (cy 1, 40, .inl (fun _ => 0))), (q8, .inl (cy 1, 40, .inl (fun _ => 0))), (q9, .inl (cy 1, 160, .inl (fun _ => 0))), (q10, .inl (cy 1, 40, .inl (fun _ => 0))), (q11, .inl (cy 1, 40, .inl (fun _ => 0))), (q12, .inl (cy 2, 7, .inr (.inl (vp_updL (vp_updL (vp_updL (vp_updL (vp_updL (vp_updL (vp_updL (fun _ => 0) 0 257) 1 11522) 2 841) 3 92275) 4 6476969) 5 240223) 6 10815598)))), (q13, .inl (cy 1, 4, .inl (fun _ => 0))), (q14, .inl (cy 1, 4, .inl (fun _ => 0))), (q15, .inl (cy 1, 4, .inl (fun _ => 0))), (q16, .inl (cy 2, 4, .inr (.inl (fun _ => 0))))]) rfl ?_
  refine n_lload_n (j := 1) C d_X12_init_453 rfl ?_
  refine n_ldc2 (v := 10) C tw_1210 d_X12_init_454 ?_
  refine n_lmul C d_X12_init_457 ?_
  refine n_topl (y := 28966437930) (by decide +kernel) ?_
  refine n_ldc2 (v := 11) C tw_1209 d_X12_init_458 ?_
  refine n_ldiv C (by decide) d_X12_init_461 ?_
  refine n_topl (y := 2633312539) (by decide +kernel) ?_
  refine n_lstore_n (lv' := [(1, .long 2633312539), (3, .int 7), (0, .ref h0)]) C d_X12_init_462 (by decide) rfl ?_
  refine n_iinc (j := 1) (v := 6) (lv' := [(3, .int 6), (1, .long 2633312539), (0, .ref h0)]) C d_X12_init_463 rfl (by decide) (by decide) rfl ?_
  refine n_goto (tgt := 439) C d_X12_init_466 (by decide) ?_
  refine n_iload_n (j := 0) C d_X12_init_439 rfl ?_
  refine n_lt0_no (tgt := 469) C d_X12_init_440 (by decide) (by decide) ?_
  refine n_aload_n (j := 2) C d_X12_init_443 rfl ?_
  refine n_get (Cn := RX12) (T := TX12) C 0 0 inX12 rfl tw_1211 rfl rfl (by decide) rfl d_X12_init_444 ?_
  refine n_iload_n (j := 0) C d_X12_init_447 rfl ?_
  refine n_lload_n (j := 1) C d_X12_init_448 rfl ?_
  refine n_callS (rest := [.int 6, .ref q0]) C [.long 2633312539] [0, 1, 2, 3, 4, 5, 6, 7, 8, 9, 10, 11, 12, 13, 14, 15, 16, 17] kk_X12_rootOfNumber tw_1205 rfl (by decide +kernel) ⟨by decide, by decide⟩ ⟨Nat.le_of_ble_eq_true rfl, Nat.le_of_ble_eq_true rfl⟩ (Nat.le_of_ble_eq_true rfl) d_X12_init_449 n_X12_rootOfNumber rfl ?_
  refine n_topl (y := 51315) (by decide +kernel) ?_
  refine n_last (j := 6) C 1 rfl (inb_vp (by decide)) (by decide) d_X12_init_452 ?_
  refine n_eq (ws' := [(h0, .inr (11, [.ref q0, .int 0, .int 0, .int 0, .ref q1, .ref q2, .ref q3, .ref q4, .int 0, .int 0, .int 0, .int 0, .long 187429700, .long 326280, .long 8930039, .long 257, .long 11522, .long 841, .long 92275, .long 6476969, .long 240223, .long 10815598, .long 1065, .long 5528, .int 0, .int 0, .int 0, .ref q5, .ref q6, .long 0, .long 0, .long 0, .long 0, .int 0, .int 0, .ref q7, .ref q8, .ref q9, .ref q10, .ref q11, .ref q12, .ref q13, .int 0, .int 0, .int 0, .long 0, .int 0, .ref q14, .ref q15, .ref q16, .int 0, .long 0, .int 0, .long 0, .int 0])), (q0, .inl (cy 2, 41, .inr (.inl (vp_updL (vp_updL (vp_updL (vp_updL (vp_updL (vp_updL (vp_updL (vp_updL (vp_updL (vp_updL (vp_updL (vp_updL (vp_updL (vp_updL (vp_updL (vp_updL (vp_updL (vp_updL (vp_updL (vp_updL (vp_updL (vp_updL (vp_updL (vp_updL (vp_updL (vp_updL (vp_updL (vp_updL (vp_updL (vp_updL (vp_updL (vp_updL (vp_updL (vp_updL (vp_updL (vp_updL (fun _ => 0) 20 100000) 21 104880) 22 110000) 23 115368) 24 121000) 25 126905) 26 133100) 27 139596) 28 146410) 29 153556) 30 161051) 31 168911) 32 177156) 33 185802) 34 194871) 35 204383) 36 214358) 37 224821) 38 235794) 39 247303) 40 259374) 20 100000) 19 95346) 18 90909) 17 86678) 16 82644) 15 78798) 14 75131) 13 71635) 12 68301) 11 65122) 10 62092) 9 59202) 8 56447) 7 53820) 6 51315)))), (q1, .inl (cy 1, 25, .inl (fun _ => 0))), (q2, .inl (cy 2, 258, .inr (.inl (fun _ => 0)))), (q3, .inl (cy 2, 516, .inr (.inl (fun _ => 0)))), (q4, .inl (cy 0, 400, .inl (fun _ => 0))), (q5, .inl (cy 1, 35, .inl (fun _ => 0))), (q6, .inl (cy 1, 20, .inl (fun _ => 0))), (q7, .inl (cy 1, 40, .inl (fun _ => 0))), (q8, .inl (cy 1, 40, .inl (fun _ => 0))), (q9, .inl (cy 1, 160, .inl (fun _ => 0))), (q10, .inl (cy 1, 40, .inl (fun _ => 0))), (q11, .inl (cy 1, 40, .inl (fun _ => 0))), (q12, .inl (cy 2, 7, .inr (.inl (vp_updL (vp_updL (vp_updL (vp_updL (vp_updL (vp_updL (vp_updL (fun _ => 0) 0 257) 1 11522) 2 841) 3 92275) 4 6476969) 5 240223) 6 10815598)))), (q13, .inl (cy 1, 4, .inl (fun _ => 0))), (q14, .inl (cy 1, 4, .inl (fun _ => 0))), (q15, .inl (cy 1, 4, .inl (fun _ => 0))), (q16, .inl (cy 2, 4, .inr (.inl (fun _ => 0))))]) rfl ?_
  refine n_lload_n (j := 1) C d_X12_init_453 rfl ?_
  refine n_ldc2 (v := 10) C tw_1210 d_X12_init_454 ?_
  refine n_lmul C d_X12_init_457 ?_
  refine n_topl (y := 26333125390) (by decide +kernel) ?_
  refine n_ldc2 (v := 11) C tw_1209 d_X12_init_458 ?_
  refine n_ldiv C (by decide) d_X12_init_461 ?_
  refine n_topl (y := 2393920490) (by decide +kernel) ?_
  refine n_lstore_n (lv' := [(1, .long 2393920490), (3, .int 6), (0, .ref h0)]) C d_X12_init_462 (by decide) rfl ?_
  refine n_iinc (j := 1) (v := 5) (lv' := [(3, .int 5), (1, .long 2393920490), (0, .ref h0)]) C d_X12_init_463 rfl (by decide) (by decide) rfl ?_
  refine n_goto (tgt := 439) C d_X12_init_466 (by decide) ?_
  refine n_iload_n (j := 0) C d_X12_init_439 rfl ?_
  refine n_lt0_no (tgt := 469) C d_X12_init_440 (by decide) (by decide) ?_
  refine n_aload_n (j := 2) C d_X12_init_443 rfl ?_
  refine n_get (Cn := RX12) (T := TX12) C 0 0 inX12 rfl tw_1211 rfl rfl (by decide) rfl d_X12_init_444 ?_
  refine n_iload_n (j := 0) C d_X12_init_447 rfl ?_
  refine n_lload_n (j := 1) C d_X12_init_448 rfl ?_
  refine n_callS (rest := [.int 5, .ref q0]) C [.long 2393920490] [0, 1, 2, 3, 4, 5, 6, 7, 8, 9, 10, 11, 12, 13, 14, 15, 16, 17] kk_X12_rootOfNumber tw_1205 rfl (by decide +kernel) ⟨by decide, by decide⟩ ⟨Nat.le_of_ble_eq_true rfl, Nat.le_of_ble_eq_true rfl⟩ (Nat.le_of_ble_eq_true rfl) d_X12_init_449 n_X12_rootOfNumber rfl ?_
  refine n_topl (y := 48927) (by decide +kernel) ?_
  refine n_last (j := 5) C 1 rfl (inb_vp (by decide)) (by decide) d_X12_init_452 ?_
  refine n_eq (ws' := [(h0, .inr (11, [.ref q0, .int 0, .int 0, .int 0, .ref q1, .ref q2, .ref q3, .ref q4, .int 0, .int 0, .int 0, .int 0, .long 187429700, .long 326280, .long 8930039, .long 257, .long 11522, .long 841, .long 92275, .long 6476969, .long 240223, .long 10815598, .long 1065, .long 5528, .int 0, .int 0, .int 0, .ref q5, .ref q6, .long 0, .long 0, .long 0, .long 0, .int 0, .int 0, .ref q7, .ref q8, .ref q9, .ref q10, .ref q11, .ref q12, .ref q13, .int 0, .int 0, .int 0, .long 0, .int 0, .ref q14, .ref q15, .ref q16, .int 0, .long 0, .int 0, .long 0, .int 0])), (q0, .inl (cy 2, 41, .inr (.inl (vp_updL (vp_updL (vp_updL (vp_updL (vp_updL (vp_updL (vp_updL (vp_updL (vp_updL (vp_updL (vp_updL (vp_updL (vp_updL (vp_updL (vp_updL (vp_updL (vp_updL (vp_updL (vp_updL (vp_updL (vp_updL (vp_updL (vp_updL (vp_updL (vp_updL (vp_updL (vp_updL (vp_updL (vp_updL (vp_updL (vp_updL (vp_updL (vp_updL (vp_updL (vp_updL (vp_updL (vp_updL (fun _ => 0) 20 100000) 21 104880) 22 110000) 23 115368) 24 121000) 25 126905) 26 133100) 27 139596) 28 146410) 29 153556) 30 161051) 31 168911) 32 177156) 33 185802) 34 194871) 35 204383) 36 214358) 37 224821) 38 235794) 39 247303) 40 259374) 20 100000) 19 95346) 18 90909) 17 86678) 16 82644) 15 78798) 14 75131) 13 71635) 12 68301) 11 65122) 10 62092) 9 59202) 8 56447) 7 53820) 6 51315) 5 48927)))), (q1, .inl (cy 1, 25, .inl (fun _ => 0))), (q2, .inl (cy 2, 258, .inr (.inl (fun _ => 0)))), (q3, .inl (cy 2, 516, .inr (.inl (fun _ => 0)))), (q4, .inl (cy 0, 400, .inl (fun _ => 0))), (q5, .inl (cy 1, 35, .inl (fun _ => 0))), (q6, .inl (cy 1, 20, .inl (fun _ => 0))), (q7, .inl (cy 1, 40, .inl (fun _ => 0))), (q8, .inl (cy 1, 40, .inl (fun _ => 0))), (q9, .inl (cy 1, 160, .inl (fun _ => 0))), (q10, .inl (cy 1, 40, .inl (fun _ => 0))), (q11, .inl (cy 1, 40, .inl (fun _ => 0))), (q12, .inl (cy 2, 7, .inr (.inl (vp_updL (vp_updL (vp_updL (vp_updL (vp_updL (vp_updL (vp_updL (fun _ => 0) 0 257) 1 11522) 2 841) 3 92275) 4 6476969) 5 240223) 6 10815598)))), (q13, .inl (cy 1, 4, .inl (fun _ => 0))), (q14, .inl (cy 1, 4, .inl (fun _ => 0))), (q15, .inl (cy 1, 4, .inl (fun _ => 0))), (q16, .inl (cy 2, 4, .inr (.inl (fun _ => 0))))]) rfl ?_
  refine n_lload_n (j := 1) C d_X12_init_453 rfl ?_
  refine n_ldc2 (v := 10) C tw_1210 d_X12_init_454 ?_
  refine n_lmul C d_X12_init_457 ?_
  refine n_topl (y := 23939204900) (by decide +kernel) ?_
  refine n_ldc2 (v := 11) C tw_1209 d_X12_init_458 ?_
  refine n_ldiv C (by decide) d_X12_init_461 ?_
  refine n_topl (y := 2176291354) (by decide +kernel) ?_
  refine n_lstore_n (lv' := [(1, .long 2176291354), (3, .int 5), (0, .ref h0)]) C d_X12_init_462 (by decide) rfl ?_
  refine n_iinc (j := 1) (v := 4) (lv' := [(3, .int 4), (1, .long 2176291354), (0, .ref h0)]) C d_X12_init_463 rfl (by decide) (by decide) rfl ?_
  refine n_goto (tgt := 439) C d_X12_init_466 (by decide) ?_
  refine n_iload_n (j := 0) C d_X12_init_439 rfl ?_
  refine n_lt0_no (tgt := 469) C d_X12_init_440 (by decide) (by decide) ?_
  refine n_aload_n (j := 2) C d_X12_init_443 rfl ?_
  refine n_get (Cn := RX12) (T := TX12) C 0 0 inX12 rfl tw_1211 rfl rfl (by decide) rfl d_X12_init_444 ?_
  refine n_iload_n (j := 0) C d_X12_init_447 rfl ?_
  refine n_lload_n (j := 1) C d_X12_init_448 rfl ?_
  refine n_callS (rest := [.int 4, .ref q0]) C [.long 2176291354] [0, 1, 2, 3, 4, 5, 6, 7, 8, 9, 10, 11, 12, 13, 14, 15, 16, 17] kk_X12_rootOfNumber tw_1205 rfl (by decide +kernel) ⟨by decide, by decide⟩ ⟨Nat.le_of_ble_eq_true rfl, Nat.le_of_ble_eq_true rfl⟩ (Nat.le_of_ble_eq_true rfl) d_X12_init_449 n_X12_rootOfNumber rfl ?_
  refine n_topl (y := 46650) (by decide +kernel) ?_
  refine n_last (j := 4) C 1 rfl (inb_vp (by decide)) (by decide) d_X12_init_452 ?_
  refine n_eq (ws' := [(h0, .inr (11, [.ref q0, .int 0, .int 0, .int 0, .ref q1, .ref q2, .ref q3, .ref q4, .int 0, .int 0, .int 0, .int 0, .long 187429700, .long 326280, .long 8930039, .long 257, .long 11522, .long 841, .long 92275, .long 6476969, .long 240223, .long 10815598, .long 1065, .long 5528, .int 0, .int 0, .int 0, .ref q5, .ref q6, .long 0, .long 0, .long 0, .long 0, .int 0, .int 0, .ref q7, .ref q8, .ref q9, .ref q10, .ref q11, .ref q12, .ref q13, .int 0, .int 0, .int 0, .long 0, .int 0, .ref q14, .ref q15, .ref q16, .int 0, .long 0, .int 0, .long 0, .int 0])), (q0, .inl (cy 2, 41, .inr (.inl (vp_updL (vp_updL (vp_updL (vp_updL (vp_updL (vp_updL (vp_updL (vp_updL (vp_updL (vp_updL (vp_updL (vp_updL (vp_updL (vp_updL (vp_updL (vp_updL (vp_updL (vp_updL (vp_updL (vp_updL (vp_updL (vp_updL (vp_updL (vp_updL (vp_updL (vp_updL (vp_updL (vp_updL (vp_updL (vp_updL (vp_updL (vp_updL (vp_updL (vp_updL (vp_updL (vp_updL (vp_updL (vp_updL (fun _ => 0) 20 100000) 21 104880) 22 110000) 23 115368) 24 121000) 25 126905) 26 133100) 27 139596) 28 146410) 29 153556) 30 161051) 31 168911) 32 177156) 33 185802) 34 194871) 35 204383) 36 214358) 37 224821) 38 235794) 39 247303) 40 259374) 20 100000) 19 95346) 18 90909) 17 86678) 16 82644) 15 78798) 14 75131) 13 71635) 12 68301) 11 65122) 10 62092) 9 59202) 8 56447) 7 53820) 6 51315) 5 48927) 4 46650)))), (q1, .inl (cy 1, 25, .inl (fun _ => 0))), (q2, .inl (cy 2, 258, .inr (.inl (fun _ => 0)))), (q3, .inl (cy 2, 516, .inr (.inl (fun _ => 0)))), (q4, .inl (cy 0, 400, .inl (fun _ => 0))), (q5, .inl (cy 1, 35, .inl (fun _ => 0))), (q6, .inl (cy 1, 20, .inl (fun _ => 0))), (q7, .inl (cy 1, 40, .inl (fun _ => 0))), (q8, .inl (cy 1, 40, .inl (fun _ => 0))), (q9, .inl (cy 1, 160, .inl (fun _ => 0))), (q10, .inl (cy 1, 40, .inl (fun _ => 0))), (q11, .inl (cy 1, 40, .inl (fun _ => 0))), (q12, .inl (cy 2, 7, .inr (.inl (vp_updL (vp_updL (vp_updL (vp_updL (vp_updL (vp_updL (vp_updL (fun _ => 0) 0 257) 1 11522) 2 841) 3 92275) 4 6476969) 5 240223) 6 10815598)))), (q13, .inl (cy 1, 4, .inl (fun _ => 0))), (q14, .inl (cy 1, 4, .inl (fun _ => 0))), (q15, .inl (cy 1, 4, .inl (fun _ => 0))), (q16, .inl (cy 2, 4, .inr (.inl (fun _ => 0))))]) rfl ?_
  refine n_lload_n (j := 1) C d_X12_init_453 rfl ?_
  refine n_ldc2 (v := 10) C tw_1210 d_X12_init_454 ?_
  refine n_lmul C d_X12_init_457 ?_
  refine n_topl (y := 21762913540) (by decide +kernel) ?_
  refine n_ldc2 (v := 11) C tw_1209 d_X12_init_458 ?_
  refine n_ldiv C (by decide) d_X12_init_461 ?_
  refine n_topl (y := 1978446685) (by decide +kernel) ?_
  refine n_lstore_n (lv' := [(1, .long 1978446685), (3, .int 4), (0, .ref h0)]) C d_X12_init_462 (by decide) rfl ?_
  refine n_iinc (j := 1) (v := 3) (lv' := [(3, .int 3), (1, .long 1978446685), (0, .ref h0)]) C d_X12_init_463 rfl (by decide) (by decide) rfl ?_
  refine n_goto (tgt := 439) C d_X12_init_466 (by decide) ?_
  refine n_iload_n (j := 0) C d_X12_init_439 rfl ?_
  refine n_lt0_no (tgt := 469) C d_X12_init_440 (by decide) (by decide) ?_
  refine n_aload_n (j := 2) C d_X12_init_443 rfl ?_
  refine n_get (Cn := RX12) (T := TX12) C 0 0 inX12 rfl tw_1211 rfl rfl (by decide) rfl d_X12_init_444 ?_
  refine n_iload_n (j := 0) C d_X12_init_447 rfl ?_
  refine n_lload_n (j := 1) C d_X12_init_448 rfl ?_
  refine n_callS (rest := [.int 3, .ref q0]) C [.long 1978446685] [0, 1, 2, 3, 4, 5, 6, 7, 8, 9, 10, 11, 12, 13, 14, 15, 16, 17] kk_X12_rootOfNumber tw_1205 rfl (by decide +kernel) ⟨by decide, by decide⟩ ⟨Nat.le_of_ble_eq_true rfl, Nat.le_of_ble_eq_true rfl⟩ (Nat.le_of_ble_eq_true rfl) d_X12_init_449 n_X12_rootOfNumber rfl ?_
  refine n_topl (y := 44479) (by decide +kernel) ?_
  refine n_last (j := 3) C 1 rfl (inb_vp (by decide)) (by decide) d_X12_init_452 ?_
  refine n_eq (ws' := [(h0, .inr (11, [.ref q0, .int 0, .int 0, .int 0, .ref q1, .ref q2, .ref q3, .ref q4, .int 0, .int 0, .int 0, .int 0, .long 187429700, .long 326280, .long 8930039, .long 257, .long 11522, .long 841, .long 92275, .long 6476969, .long 240223, .long 10815598, .long 1065, .long 5528, .int 0, .int 0, .int 0, .ref q5, .ref q6, .long 0, .long 0, .long 0, .long 0, .int 0, .int 0, .ref q7, .ref q8, .ref q9, .ref q10, .ref q11, .ref q12, .ref q13, .int 0, .int 0, .int 0, .long 0, .int 0, .ref q14, .ref q15, .ref q16, .int 0, .long 0, .int 0, .long 0, .int 0])), (q0, .inl (cy 2, 41, .inr (.inl (vp_updL (vp_updL (vp_updL (vp_updL (vp_updL (vp_updL (vp_updL (vp_updL (vp_updL (vp_updL (vp_updL (vp_updL (vp_updL (vp_updL (vp_updL (vp_updL (vp_updL (vp_updL (vp_updL (vp_updL (vp_updL (vp_updL (vp_updL (vp_updL (vp_updL (vp_updL (vp_updL (vp_updL (vp_updL (vp_updL (vp_updL (vp_updL (vp_updL (vp_updL (vp_updL (vp_updL (vp_updL (vp_updL (vp_updL (fun _ => 0) 20 100000) 21 104880) 22 110000) 23 115368) 24 121000) 25 126905) 26 133100) 27 139596) 28 146410) 29 153556) 30 161051) 31 168911) 32 177156) 33 185802) 34 194871) 35 204383) 36 214358) 37 224821) 38 235794) 39 247303) 40 259374) 20 100000) 19 95346) 18 90909) 17 86678) 16 82644) 15 78798) 14 75131) 13 71635) 12 68301) 11 65122) 10 62092) 9 59202) 8 56447) 7 53820) 6 51315) 5 48927) 4 46650) 3 44479)))), (q1, .inl (cy 1, 25, .inl (fun _ => 0))), (q2, .inl (cy 2, 258, .inr (.inl (fun _ => 0)))), (q3, .inl (cy 2, 516, .inr (.inl (fun _ => 0)))), (q4, .inl (cy 0, 400, .inl (fun _ => 0))), (q5, .inl (cy 1, 35, .inl (fun _ => 0))), (q6, .inl (cy 1, 20, .inl (fun _ => 0))), (q7, .inl (cy 1, 40, .inl (fun _ => 0))), (q8, .inl (cy 1, 40, .inl (fun _ => 0))), (q9, .inl (cy 1, 160, .inl (fun _ => 0))), (q10, .inl (cy 1, 40, .inl (fun _ => 0))), (q11, .inl (cy 1, 40, .inl (fun _ => 0))), (q12, .inl (cy 2, 7, .inr (.inl (vp_updL (vp_updL (vp_updL (vp_updL (vp_updL (vp_updL (vp_updL (fun _ => 0) 0 257) 1 11522) 2 841) 3 92275) 4 6476969) 5 240223) 6 10815598)))), (q13, .inl (cy 1, 4, .inl (fun _ => 0))), (q14, .inl (cy 1, 4, .inl (fun _ => 0))), (q15, .inl (cy 1, 4, .inl (fun _ => 0))), (q16, .inl (cy 2, 4, .inr (.inl (fun _ => 0))))]) rfl ?_
  refine n_lload_n (j := 1) C d_X12_init_453 rfl ?_
  refine n_ldc2 (v := 10) C tw_1210 d_X12_init_454 ?_
  refine n_lmul C d_X12_init_457 ?_
  refine n_topl (y := 19784466850) (by decide +kernel) ?_
  refine n_ldc2 (v := 11) C tw_1209 d_X12_init_458 ?_
  refine n_ldiv C (by decide) d_X12_init_461 ?_
  refine n_topl (y := 1798587895) (by decide +kernel) ?_
  refine n_lstore_n (lv' := [(1, .long 1798587895), (3, .int 3), (0, .ref h0)]) C d_X12_init_462 (by decide) rfl ?_
  refine n_iinc (j := 1) (v := 2) (lv' := [(3, .int 2), (1, .long 1798587895), (0, .ref h0)]) C d_X12_init_463 rfl (by decide) (by decide) rfl ?_
  refine n_goto (tgt := 439) C d_X12_init_466 (by decide) ?_
  refine n_iload_n (j := 0) C d_X12_init_439 rfl ?_
  refine n_lt0_no (tgt := 469) C d_X12_init_440 (by decide) (by decide) ?_
  refine n_aload_n (j := 2) C d_X12_init_443 rfl ?_
  refine n_get (Cn := RX12) (T := TX12) C 0 0 inX12 rfl tw_1211 rfl rfl (by decide) rfl d_X12_init_444 ?_
  refine n_iload_n (j := 0) C d_X12_init_447 rfl ?_
  refine n_lload_n (j := 1) C d_X12_init_448 rfl ?_
  refine n_callS (rest := [.int 2, .ref q0]) C [.long 1798587895] [0, 1, 2, 3, 4, 5, 6, 7, 8, 9, 10, 11, 12, 13, 14, 15, 16, 17] kk_X12_rootOfNumber tw_1205 rfl (by decide +kernel) ⟨by decide, by decide⟩ ⟨Nat.le_of_ble_eq_true rfl, Nat.le_of_ble_eq_true rfl⟩ (Nat.le_of_ble_eq_true rfl) d_X12_init_449 n_X12_rootOfNumber rfl ?_
  refine n_topl (y := 42409) (by decide +kernel) ?_
  refine n_last (j := 2) C 1 rfl (inb_vp (by decide)) (by decide) d_X12_init_452 ?_
  refine n_eq (ws' := [(h0, .inr (11, [.ref q0, .int 0, .int 0, .int 0, .ref q1, .ref q2, .ref q3, .ref q4, .int 0, .int 0, .int 0, .int 0, .long 187429700, .long 326280, .long 8930039, .long 257, .long 11522, .long 841, .long 92275, .long 6476969, .long 240223, .long 10815598, .long 1065, .long 5528, .int 0, .int 0, .int 0, .ref q5, .ref q6, .long 0, .long 0, .long 0, .long 0, .int 0, .int 0, .ref q7, .ref q8, .ref q9, .ref q10, .ref q11, .ref q12, .ref q13, .int 0, .int 0, .int 0, .long 0, .int 0, .ref q14, .ref q15, .ref q16, .int 0, .long 0, .int 0, .long 0, .int 0])), (q0, .inl (cy 2, 41, .inr (.inl (vp_updL (vp_updL (vp_updL (vp_updL (vp_updL (vp_updL (vp_updL (vp_updL (vp_updL (vp_updL (vp_updL (vp_updL (vp_updL (vp_updL (vp_updL (vp_updL (vp_updL (vp_updL (vp_updL (vp_updL (vp_updL (vp_updL (vp_updL (vp_updL (vp_updL (vp_updL (vp_updL (vp_updL (vp_updL (vp_updL (vp_updL (vp_updL (vp_updL (vp_updL (vp_updL (vp_updL (vp_updL (vp_updL (vp_updL (vp_updL (fun _ => 0) 20 100000) 21 104880) 22 110000) 23 115368) 24 121000) 25 126905) 26 133100) 27 139596) 28 146410) 29 153556) 30 161051) 31 168911) 32 177156) 33 185802) 34 194871) 35 204383) 36 214358) 37 224821) 38 235794) 39 247303) 40 259374) 20 100000) 19 95346) 18 90909) 17 86678) 16 82644) 15 78798) 14 75131) 13 71635) 12 68301) 11 65122) 10 62092) 9 59202) 8 56447) 7 53820) 6 51315) 5 48927) 4 46650) 3 44479) 2 42409)))), (q1, .inl (cy 1, 25, .inl (fun _ => 0))), (q2, .inl (cy 2, 258, .inr (.inl (fun _ => 0)))), (q3, .inl (cy 2, 516, .inr (.inl (fun _ => 0)))), (q4, .inl (cy 0, 400, .inl (fun _ => 0))), (q5, .inl (cy 1, 35, .inl (fun _ => 0))), (q6, .inl (cy 1, 20, .inl (fun _ => 0))), (q7, .inl (cy 1, 40, .inl (fun _ => 0))), (q8, .inl (cy 1, 40, .inl (fun _ => 0))), (q9, .inl (cy 1, 160, .inl (fun _ => 0))), (q10, .inl (cy 1, 40, .inl (fun _ => 0))), (q11, .inl (cy 1, 40, .inl (fun _ => 0))), (q12, .inl (cy 2, 7, .inr (.inl (vp_updL (vp_updL (vp_updL (vp_updL (vp_updL (vp_updL (vp_updL (fun _ => 0) 0 257) 1 11522) 2 841) 3 92275) 4 6476969) 5 240223) 6 10815598)))), (q13, .inl (cy 1, 4, .inl (fun _ => 0))), (q14, .inl (cy 1, 4, .inl (fun _ => 0))), (q15, .inl (cy 1, 4, .inl (fun _ => 0))), (q16, .inl (cy 2, 4, .inr (.inl (fun _ => 0))))]) rfl ?_
  refine n_lload_n (j := 1) C d_X12_init_453 rfl ?_
  refine n_ldc2 (v := 10) C tw_1210 d_X12_init_454 ?_
  refine n_lmul C d_X12_init_457 ?_
  refine n_topl (y := 17985878950) (by decide +kernel) ?_
  refine n_ldc2 (v := 11) C tw_1209 d_X12_init_458 ?_
  refine n_ldiv C (by decide) d_X12_init_461 ?_
  refine n_topl (y := 1635079904) (by decide +kernel) ?_
  refine n_lstore_n (lv' := [(1, .long 1635079904), (3, .int 2), (0, .ref h0)]) C d_X12_init_462 (by decide) rfl ?_
  refine n_iinc (j := 1) (v := 1) (lv' := [(3, .int 1), (1, .long 1635079904), (0, .ref h0)]) C d_X12_init_463 rfl (by decide) (by decide) rfl ?_
  refine n_goto (tgt := 439) C d_X12_init_466 (by decide) ?_
  refine n_iload_n (j := 0) C d_X12_init_439 rfl ?_
  refine n_lt0_no (tgt := 469) C d_X12_init_440 (by decide) (by decide) ?_
  refine n_aload_n (j := 2) C d_X12_init_443 rfl ?_
  refine n_get (Cn := RX12) (T := TX12) C 0 0 inX12 rfl tw_1211 rfl rfl (by decide) rfl d_X12_init_444 ?_
  refine n_iload_n (j := 0) C d_X12_init_447 rfl ?_
  refine n_lload_n (j := 1) C d_X12_init_448 rfl ?_
  refine n_callS (rest := [.int 1, .ref q0]) C [.long 1635079904] [0, 1, 2, 3, 4, 5, 6, 7, 8, 9, 10, 11, 12, 13, 14, 15, 16, 17] kk_X12_rootOfNumber tw_1205 rfl (by decide +kernel) ⟨by decide, by decide⟩ ⟨Nat.le_of_ble_eq_true rfl, Nat.le_of_ble_eq_true rfl⟩ (Nat.le_of_ble_eq_true rfl) d_X12_init_449 n_X12_rootOfNumber rfl ?_
  refine n_topl (y := 40436) (by decide +kernel) ?_
  refine n_last (j := 1) C 1 rfl (inb_vp (by decide)) (by decide) d_X12_init_452 ?_
  refine n_eq (ws' := [(h0, .inr (11, [.ref q0, .int 0, .int 0, .int 0, .ref q1, .ref q2, .ref q3, .ref q4, .int 0, .int 0, .int 0, .int 0, .long 187429700, .long 326280, .long 8930039, .long 257, .long 11522, .long 841, .long 92275, .long 6476969, .long 240223, .long 10815598, .long 1065, .long 5528, .int 0, .int 0, .int 0, .ref q5, .ref q6, .long 0, .long 0, .long 0, .long 0, .int 0, .int 0, .ref q7, .ref q8, .ref q9, .ref q10, .ref q11, .ref q12, .ref q13, .int 0, .int 0, .int 0, .long 0, .int 0, .ref q14, .ref q15, .ref q16, .int 0, .long 0, .int 0, .long 0, .int 0])), (q0, .inl (cy 2, 41, .inr (.inl (vp_updL (vp_updL (vp_updL (vp_updL (vp_updL (vp_updL (vp_updL (vp_updL (vp_updL (vp_updL (vp_updL (vp_updL (vp_updL (vp_updL (vp_updL (vp_updL (vp_updL (vp_updL (vp_updL (vp_updL (vp_updL (vp_updL (vp_updL (vp_updL (vp_updL (vp_updL (vp_updL (vp_updL (vp_updL (vp_updL (vp_updL (vp_updL (vp_updL (vp_updL (vp_updL (vp_updL (vp_updL (vp_updL (vp_updL (vp_updL (vp_updL (fun _ => 0) 20 100000) 21 104880) 22 110000) 23 115368) 24 121000) 25 126905) 26 133100) 27 139596) 28 146410) 29 153556) 30 161051) 31 168911) 32 177156) 33 185802) 34 194871) 35 204383) 36 214358) 37 224821) 38 235794) 39 247303) 40 259374) 20 100000) 19 95346) 18 90909) 17 86678) 16 82644) 15 78798) 14 75131) 13 71635) 12 68301) 11 65122) 10 62092) 9 59202) 8 56447) 7 53820) 6 51315) 5 48927) 4 46650) 3 44479) 2 42409) 1 40436)))), (q1, .inl (cy 1, 25, .inl (fun _ => 0))), (q2, .inl (cy 2, 258, .inr (.inl (fun _ => 0)))), (q3, .inl (cy 2, 516, .inr (.inl (fun _ => 0)))), (q4, .inl (cy 0, 400, .inl (fun _ => 0))), (q5, .inl (cy 1, 35, .inl (fun _ => 0))), (q6, .inl (cy 1, 20, .inl (fun _ => 0))), (q7, .inl (cy 1, 40, .inl (fun _ => 0))), (q8, .inl (cy 1, 40, .inl (fun _ => 0))), (q9, .inl (cy 1, 160, .inl (fun _ => 0))), (q10, .inl (cy 1, 40, .inl (fun _ => 0))), (q11, .inl (cy 1, 40, .inl (fun _ => 0))), (q12, .inl (cy 2, 7, .inr (.inl (vp_updL (vp_updL (vp_updL (vp_updL (vp_updL (vp_updL (vp_updL (fun _ => 0) 0 257) 1 11522) 2 841) 3 92275) 4 6476969) 5 240223) 6 10815598)))), (q13, .inl (cy 1, 4, .inl (fun _ => 0))), (q14, .inl (cy 1, 4, .inl (fun _ => 0))), (q15, .inl (cy 1, 4, .inl (fun _ => 0))), (q16, .inl (cy 2, 4, .inr (.inl (fun _ => 0))))]) rfl ?_
  refine n_lload_n (j := 1) C d_X12_init_453 rfl ?_
  refine n_ldc2 (v := 10) C tw_1210 d_X12_init_454 ?_
  refine n_lmul C d_X12_init_457 ?_
  refine n_topl (y := 16350799040) (by decide +kernel) ?_
  refine n_ldc2 (v := 11) C tw_1209 d_X12_init_458 ?_
  refine n_ldiv C (by decide) d_X12_init_461 ?_
  refine n_topl (y := 1486436276) (by decide +kernel) ?_
  refine n_lstore_n (lv' := [(1, .long 1486436276), (3, .int 1), (0, .ref h0)]) C d_X12_init_462 (by decide) rfl ?_
  refine n_iinc (j := 1) (v := 0) (lv' := [(3, .int 0), (1, .long 1486436276), (0, .ref h0)]) C d_X12_init_463 rfl (by decide) (by decide) rfl ?_
  refine n_goto (tgt := 439) C d_X12_init_466 (by decide) ?_
  refine n_iload_n (j := 0) C d_X12_init_439 rfl ?_
  refine n_lt0_no (tgt := 469) C d_X12_init_440 (by decide) (by decide) ?_
  refine n_aload_n (j := 2) C d_X12_init_443 rfl ?_
  refine n_get (Cn := RX12) (T := TX12) C 0 0 inX12 rfl tw_1211 rfl rfl (by decide) rfl d_X12_init_444 ?_
  refine n_iload_n (j := 0) C d_X12_init_447 rfl ?_
  refine n_lload_n (j := 1) C d_X12_init_448 rfl ?_
  refine n_callS (rest := [.int 0, .ref q0]) C [.long 1486436276] [0, 1, 2, 3, 4, 5, 6, 7, 8, 9, 10, 11, 12, 13, 14, 15, 16, 17] kk_X12_rootOfNumber tw_1205 rfl (by decide +kernel) ⟨by decide, by decide⟩ ⟨Nat.le_of_ble_eq_true rfl, Nat.le_of_ble_eq_true rfl⟩ (Nat.le_of_ble_eq_true rfl) d_X12_init_449 n_X12_rootOfNumber rfl ?_
  refine n_topl (y := 38554) (by decide +kernel) ?_
  refine n_last (j := 0) C 1 rfl (inb_vp (by decide)) (by decide) d_X12_init_452 ?_
  refine n_eq (ws' := [(h0, .inr (11, [.ref q0, .int 0, .int 0, .int 0, .ref q1, .ref q2, .ref q3, .ref q4, .int 0, .int 0, .int 0, .int 0, .long 187429700, .long 326280, .long 8930039, .long 257, .long 11522, .long 841, .long 92275, .long 6476969, .long 240223, .long 10815598, .long 1065, .long 5528, .int 0, .int 0, .int 0, .ref q5, .ref q6, .long 0, .long 0, .long 0, .long 0, .int 0, .int 0, .ref q7, .ref q8, .ref q9, .ref q10, .ref q11, .ref q12, .ref q13, .int 0, .int 0, .int 0, .long 0, .int 0, .ref q14, .ref q15, .ref q16, .int 0, .long 0, .int 0, .long 0, .int 0])), (q0, .inl (cy 2, 41, .inr (.inl (vp_updL (vp_updL (vp_updL (vp_updL (vp_updL (vp_updL (vp_updL (vp_updL (vp_updL (vp_updL (vp_updL (vp_updL (vp_updL (vp_updL (vp_updL (vp_updL (vp_updL (vp_updL (vp_updL (vp_updL (vp_updL (vp_updL (vp_updL (vp_updL (vp_updL (vp_updL (vp_updL (vp_updL (vp_updL (vp_updL (vp_updL (vp_updL (vp_updL (vp_updL (vp_updL (vp_updL (vp_updL (vp_updL (vp_updL (vp_updL (vp_updL (vp_updL (fun _ => 0) 20 100000) 21 104880) 22 110000) 23 115368) 24 121000) 25 126905) 26 133100) 27 139596) 28 146410) 29 153556) 30 161051) 31 168911) 32 177156) 33 185802) 34 194871) 35 204383) 36 214358) 37 224821) 38 235794) 39 247303) 40 259374) 20 100000) 19 95346) 18 90909) 17 86678) 16 82644) 15 78798) 14 75131) 13 71635) 12 68301) 11 65122) 10 62092) 9 59202) 8 56447) 7 53820) 6 51315) 5 48927) 4 46650) 3 44479) 2 42409) 1 40436) 0 38554)))), (q1, .inl (cy 1, 25, .inl (fun _ => 0))), (q2, .inl (cy 2, 258, .inr (.inl (fun _ => 0)))), (q3, .inl (cy 2, 516, .inr (.inl (fun _ => 0)))), (q4, .inl (cy 0, 400, .inl (fun _ => 0))), (q5, .inl (cy 1, 35, .inl (fun _ => 0))), (q6, .inl (cy 1, 20, .inl (fun _ => 0))), (q7, .inl (cy 1, 40, .inl (fun _ => 0))), (q8, .inl (cy 1, 40, .inl (fun _ => 0))), (q9, .inl (cy 1, 160, .inl (fun _ => 0))), (q10, .inl (cy 1, 40, .inl (fun _ => 0))), (q11, .inl (cy 1, 40, .inl (fun _ => 0))), (q12, .inl (cy 2, 7, .inr (.inl (vp_updL (vp_updL (vp_updL (vp_updL (vp_updL (vp_updL (vp_updL (fun _ => 0) 0 257) 1 11522) 2 841) 3 92275) 4 6476969) 5 240223) 6 10815598)))), (q13, .inl (cy 1, 4, .inl (fun _ => 0))), (q14, .inl (cy 1, 4, .inl (fun _ => 0))), (q15, .inl (cy 1, 4, .inl (fun _ => 0))), (q16, .inl (cy 2, 4, .inr (.inl (fun _ => 0))))]) rfl ?_
  refine n_lload_n (j := 1) C d_X12_init_453 rfl ?_
  refine n_ldc2 (v := 10) C tw_1210 d_X12_init_454 ?_
  refine n_lmul C d_X12_init_457 ?_
  refine n_topl (y := 14864362760) (by decide +kernel) ?_
  refine n_ldc2 (v := 11) C tw_1209 d_X12_init_458 ?_
  refine n_ldiv C (by decide) d_X12_init_461 ?_
  refine n_topl (y := 1351305705) (by decide +kernel) ?_
  refine n_lstore_n (lv' := [(1, .long 1351305705), (3, .int 0), (0, .ref h0)]) C d_X12_init_462 (by decide) rfl ?_
  refine n_iinc (j := 1) (v := (-1)) (lv' := [(3, .int (-1)), (1, .long 1351305705), (0, .ref h0)]) C d_X12_init_463 rfl (by decide) (by decide) rfl ?_
  refine n_goto (tgt := 439) C d_X12_init_466 (by decide) ?_
  refine n_iload_n (j := 0) C d_X12_init_439 rfl ?_
  refine n_lt0_yes (tgt := 469) C d_X12_init_440 (by decide) (by decide) ?_
  exact n_ret C hr hA (fun k => ([h0, q0, q1, q2, q3, q4, q5, q6, q7, q8, q9, q10, q11, q12, q13, q14, q15, q16] : List Nat).getD k 0) rfl d_X12_init_469 rfl rfl
