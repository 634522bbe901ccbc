abbrev M_La_law : zM := ("MergeGraphsLaw", code, 7, (some .boolean), 1680)
theorem d_La_law_0 : decode code 0 = .ok (.new 8, 3) := by decide +kernel
theorem d_La_law_3 : decode code 3 = .ok (.dup, 1) := by decide +kernel
theorem d_La_law_4 : decode code 4 = .ok (.invokespecial 74, 3) := by decide +kernel
theorem d_La_law_7 : decode code 7 = .ok (.astore_n 1, 1) := by decide +kernel
theorem d_La_law_8 : decode code 8 = .ok (.new 75, 3) := by decide +kernel
theorem d_La_law_11 : decode code 11 = .ok (.dup, 1) := by decide +kernel
theorem d_La_law_12 : decode code 12 = .ok (.invokespecial 77, 3) := by decide +kernel
theorem d_La_law_15 : decode code 15 = .ok (.astore_n 2, 1) := by decide +kernel
theorem d_La_law_16 : decode code 16 = .ok (.iconst 1, 1) := by decide +kernel
theorem d_La_law_17 : decode code 17 = .ok (.newarray .long, 2) := by decide +kernel
theorem d_La_law_19 : decode code 19 = .ok (.astore_n 3, 1) := by decide +kernel
theorem d_La_law_20 : decode code 20 = .ok (.iconst 0, 1) := by decide +kernel
theorem d_La_law_21 : decode code 21 = .ok (.istore 4, 2) := by decide +kernel
theorem d_La_law_23 : decode code 23 = .ok (.iload 4, 2) := by decide +kernel
theorem d_La_law_25 : decode code 25 = .ok (.aload_n 0, 1) := by decide +kernel
theorem d_La_law_26 : decode code 26 = .ok (.arraylength, 1) := by decide +kernel
theorem d_La_law_27 : decode code 27 = .ok (.iconst 5, 1) := by decide +kernel
theorem d_La_law_28 : decode code 28 = .ok (.isub, 1) := by decide +kernel
theorem d_La_law_29 : decode code 29 = .ok (.if_icmp .gt 1446, 3) := by decide +kernel
theorem d_La_law_32 : decode code 32 = .ok (.aload_n 0, 1) := by decide +kernel
theorem d_La_law_33 : decode code 33 = .ok (.iload 4, 2) := by decide +kernel
theorem d_La_law_35 : decode code 35 = .ok (.iaload, 1) := by decide +kernel
theorem d_La_law_36 : decode code 36 = .ok (.bipush 31, 2) := by decide +kernel
theorem d_La_law_38 : decode code 38 = .ok (.iand, 1) := by decide +kernel
theorem d_La_law_39 : decode code 39 = .ok (.tableswitch 1430 0 17 #[85, 177, 269, 337, 405, 473, 548, 628, 696, 771, 851, 914, 970, 1050, 1142, 1210, 1278, 1346], 85) := by decide +kernel
theorem d_La_law_124 : decode code 124 = .ok (.aload_n 1, 1) := by decide +kernel
theorem d_La_law_125 : decode code 125 = .ok (.aload_n 0, 1) := by decide +kernel
theorem d_La_law_126 : decode code 126 = .ok (.iload 4, 2) := by decide +kernel
theorem d_La_law_128 : decode code 128 = .ok (.iconst 1, 1) := by decide +kernel
theorem d_La_law_129 : decode code 129 = .ok (.iadd, 1) := by decide +kernel
theorem d_La_law_130 : decode code 130 = .ok (.iaload, 1) := by decide +kernel
theorem d_La_law_131 : decode code 131 = .ok (.aload_n 0, 1) := by decide +kernel
theorem d_La_law_132 : decode code 132 = .ok (.iload 4, 2) := by decide +kernel
theorem d_La_law_134 : decode code 134 = .ok (.iconst 2, 1) := by decide +kernel
theorem d_La_law_135 : decode code 135 = .ok (.iadd, 1) := by decide +kernel
theorem d_La_law_136 : decode code 136 = .ok (.iaload, 1) := by decide +kernel
theorem d_La_law_137 : decode code 137 = .ok (.aload_n 0, 1) := by decide +kernel
theorem d_La_law_138 : decode code 138 = .ok (.iload 4, 2) := by decide +kernel
theorem d_La_law_140 : decode code 140 = .ok (.iconst 3, 1) := by decide +kernel
theorem d_La_law_141 : decode code 141 = .ok (.iadd, 1) := by decide +kernel
theorem d_La_law_142 : decode code 142 = .ok (.iaload, 1) := by decide +kernel
theorem d_La_law_143 : decode code 143 = .ok (.aload_n 0, 1) := by decide +kernel
theorem d_La_law_144 : decode code 144 = .ok (.iload 4, 2) := by decide +kernel
theorem d_La_law_146 : decode code 146 = .ok (.iconst 4, 1) := by decide +kernel
theorem d_La_law_147 : decode code 147 = .ok (.iadd, 1) := by decide +kernel
theorem d_La_law_148 : decode code 148 = .ok (.iaload, 1) := by decide +kernel
theorem d_La_law_149 : decode code 149 = .ok (.aload_n 3, 1) := by decide +kernel
theorem d_La_law_150 : decode code 150 = .ok (.invokestatic 78, 3) := by decide +kernel
theorem d_La_law_153 : decode code 153 = .ok (.istore 5, 2) := by decide +kernel
theorem d_La_law_155 : decode code 155 = .ok (.aload_n 2, 1) := by decide +kernel
theorem d_La_law_156 : decode code 156 = .ok (.aload_n 0, 1) := by decide +kernel
theorem d_La_law_157 : decode code 157 = .ok (.iload 4, 2) := by decide +kernel
theorem d_La_law_159 : decode code 159 = .ok (.iconst 1, 1) := by decide +kernel
theorem d_La_law_160 : decode code 160 = .ok (.iadd, 1) := by decide +kernel
theorem d_La_law_161 : decode code 161 = .ok (.iaload, 1) := by decide +kernel
theorem d_La_law_162 : decode code 162 = .ok (.aload_n 0, 1) := by decide +kernel
theorem d_La_law_163 : decode code 163 = .ok (.iload 4, 2) := by decide +kernel
theorem d_La_law_165 : decode code 165 = .ok (.iconst 2, 1) := by decide +kernel
theorem d_La_law_166 : decode code 166 = .ok (.iadd, 1) := by decide +kernel
theorem d_La_law_167 : decode code 167 = .ok (.iaload, 1) := by decide +kernel
theorem d_La_law_168 : decode code 168 = .ok (.aload_n 0, 1) := by decide +kernel
theorem d_La_law_169 : decode code 169 = .ok (.iload 4, 2) := by decide +kernel
theorem d_La_law_171 : decode code 171 = .ok (.iconst 3, 1) := by decide +kernel
theorem d_La_law_172 : decode code 172 = .ok (.iadd, 1) := by decide +kernel
theorem d_La_law_173 : decode code 173 = .ok (.iaload, 1) := by decide +kernel
theorem d_La_law_174 : decode code 174 = .ok (.aload_n 0, 1) := by decide +kernel
theorem d_La_law_175 : decode code 175 = .ok (.iload 4, 2) := by decide +kernel
theorem d_La_law_177 : decode code 177 = .ok (.iconst 4, 1) := by decide +kernel
theorem d_La_law_178 : decode code 178 = .ok (.iadd, 1) := by decide +kernel
theorem d_La_law_179 : decode code 179 = .ok (.iaload, 1) := by decide +kernel
theorem d_La_law_180 : decode code 180 = .ok (.invokevirtual 83, 3) := by decide +kernel
theorem d_La_law_183 : decode code 183 = .ok (.istore 6, 2) := by decide +kernel
theorem d_La_law_185 : decode code 185 = .ok (.aload_n 2, 1) := by decide +kernel
theorem d_La_law_186 : decode code 186 = .ok (.invokevirtual 84, 3) := by decide +kernel
theorem d_La_law_189 : decode code 189 = .ok (.iload 5, 2) := by decide +kernel
theorem d_La_law_191 : decode code 191 = .ok (.if_icmp .eq 5, 3) := by decide +kernel
theorem d_La_law_194 : decode code 194 = .ok (.iconst 0, 1) := by decide +kernel
theorem d_La_law_195 : decode code 195 = .ok (.ireturn, 1) := by decide +kernel
theorem d_La_law_196 : decode code 196 = .ok (.iload 5, 2) := by decide +kernel
theorem d_La_law_198 : decode code 198 = .ok (.ifCond .ne 15, 3) := by decide +kernel
theorem d_La_law_201 : decode code 201 = .ok (.aload_n 3, 1) := by decide +kernel
theorem d_La_law_202 : decode code 202 = .ok (.iconst 0, 1) := by decide +kernel
theorem d_La_law_203 : decode code 203 = .ok (.laload, 1) := by decide +kernel
theorem d_La_law_204 : decode code 204 = .ok (.iload 6, 2) := by decide +kernel
theorem d_La_law_206 : decode code 206 = .ok (.i2l, 1) := by decide +kernel
theorem d_La_law_207 : decode code 207 = .ok (.lcmp, 1) := by decide +kernel
theorem d_La_law_208 : decode code 208 = .ok (.ifCond .eq 5, 3) := by decide +kernel
theorem d_La_law_211 : decode code 211 = .ok (.iconst 0, 1) := by decide +kernel
theorem d_La_law_212 : decode code 212 = .ok (.ireturn, 1) := by decide +kernel
theorem d_La_law_213 : decode code 213 = .ok (.goto 1256, 3) := by decide +kernel
theorem d_La_law_216 : decode code 216 = .ok (.aload_n 1, 1) := by decide +kernel
theorem d_La_law_217 : decode code 217 = .ok (.aload_n 0, 1) := by decide +kernel
theorem d_La_law_218 : decode code 218 = .ok (.iload 4, 2) := by decide +kernel
theorem d_La_law_220 : decode code 220 = .ok (.iconst 1, 1) := by decide +kernel
theorem d_La_law_221 : decode code 221 = .ok (.iadd, 1) := by decide +kernel
theorem d_La_law_222 : decode code 222 = .ok (.iaload, 1) := by decide +kernel
theorem d_La_law_223 : decode code 223 = .ok (.aload_n 0, 1) := by decide +kernel
theorem d_La_law_224 : decode code 224 = .ok (.iload 4, 2) := by decide +kernel
theorem d_La_law_226 : decode code 226 = .ok (.iconst 2, 1) := by decide +kernel
theorem d_La_law_227 : decode code 227 = .ok (.iadd, 1) := by decide +kernel
theorem d_La_law_228 : decode code 228 = .ok (.iaload, 1) := by decide +kernel
theorem d_La_law_229 : decode code 229 = .ok (.aload_n 0, 1) := by decide +kernel
theorem d_La_law_230 : decode code 230 = .ok (.iload 4, 2) := by decide +kernel
theorem d_La_law_232 : decode code 232 = .ok (.iconst 3, 1) := by decide +kernel
theorem d_La_law_233 : decode code 233 = .ok (.iadd, 1) := by decide +kernel
theorem d_La_law_234 : decode code 234 = .ok (.iaload, 1) := by decide +kernel
theorem d_La_law_235 : decode code 235 = .ok (.aload_n 0, 1) := by decide +kernel
theorem d_La_law_236 : decode code 236 = .ok (.iload 4, 2) := by decide +kernel
theorem d_La_law_238 : decode code 238 = .ok (.iconst 4, 1) := by decide +kernel
theorem d_La_law_239 : decode code 239 = .ok (.iadd, 1) := by decide +kernel
theorem d_La_law_240 : decode code 240 = .ok (.iaload, 1) := by decide +kernel
theorem d_La_law_241 : decode code 241 = .ok (.aload_n 3, 1) := by decide +kernel
theorem d_La_law_242 : decode code 242 = .ok (.invokestatic 88, 3) := by decide +kernel
theorem d_La_law_245 : decode code 245 = .ok (.istore 5, 2) := by decide +kernel
theorem d_La_law_247 : decode code 247 = .ok (.aload_n 2, 1) := by decide +kernel
theorem d_La_law_248 : decode code 248 = .ok (.aload_n 0, 1) := by decide +kernel
theorem d_La_law_249 : decode code 249 = .ok (.iload 4, 2) := by decide +kernel
theorem d_La_law_251 : decode code 251 = .ok (.iconst 1, 1) := by decide +kernel
theorem d_La_law_252 : decode code 252 = .ok (.iadd, 1) := by decide +kernel
theorem d_La_law_253 : decode code 253 = .ok (.iaload, 1) := by decide +kernel
theorem d_La_law_254 : decode code 254 = .ok (.aload_n 0, 1) := by decide +kernel
theorem d_La_law_255 : decode code 255 = .ok (.iload 4, 2) := by decide +kernel
theorem d_La_law_257 : decode code 257 = .ok (.iconst 2, 1) := by decide +kernel
theorem d_La_law_258 : decode code 258 = .ok (.iadd, 1) := by decide +kernel
theorem d_La_law_259 : decode code 259 = .ok (.iaload, 1) := by decide +kernel
theorem d_La_law_260 : decode code 260 = .ok (.aload_n 0, 1) := by decide +kernel
theorem d_La_law_261 : decode code 261 = .ok (.iload 4, 2) := by decide +kernel
theorem d_La_law_263 : decode code 263 = .ok (.iconst 3, 1) := by decide +kernel
theorem d_La_law_264 : decode code 264 = .ok (.iadd, 1) := by decide +kernel
theorem d_La_law_265 : decode code 265 = .ok (.iaload, 1) := by decide +kernel
theorem d_La_law_266 : decode code 266 = .ok (.aload_n 0, 1) := by decide +kernel
theorem d_La_law_267 : decode code 267 = .ok (.iload 4, 2) := by decide +kernel
theorem d_La_law_269 : decode code 269 = .ok (.iconst 4, 1) := by decide +kernel
theorem d_La_law_270 : decode code 270 = .ok (.iadd, 1) := by decide +kernel
theorem d_La_law_271 : decode code 271 = .ok (.iaload, 1) := by decide +kernel
theorem d_La_law_272 : decode code 272 = .ok (.invokevirtual 90, 3) := by decide +kernel
theorem d_La_law_275 : decode code 275 = .ok (.istore 6, 2) := by decide +kernel
theorem d_La_law_277 : decode code 277 = .ok (.aload_n 2, 1) := by decide +kernel
theorem d_La_law_278 : decode code 278 = .ok (.invokevirtual 84, 3) := by decide +kernel
theorem d_La_law_281 : decode code 281 = .ok (.iload 5, 2) := by decide +kernel
theorem d_La_law_283 : decode code 283 = .ok (.if_icmp .eq 5, 3) := by decide +kernel
theorem d_La_law_286 : decode code 286 = .ok (.iconst 0, 1) := by decide +kernel
theorem d_La_law_287 : decode code 287 = .ok (.ireturn, 1) := by decide +kernel
theorem d_La_law_288 : decode code 288 = .ok (.iload 5, 2) := by decide +kernel
theorem d_La_law_290 : decode code 290 = .ok (.ifCond .ne 15, 3) := by decide +kernel
theorem d_La_law_293 : decode code 293 = .ok (.aload_n 3, 1) := by decide +kernel
theorem d_La_law_294 : decode code 294 = .ok (.iconst 0, 1) := by decide +kernel
theorem d_La_law_295 : decode code 295 = .ok (.laload, 1) := by decide +kernel
theorem d_La_law_296 : decode code 296 = .ok (.iload 6, 2) := by decide +kernel
theorem d_La_law_298 : decode code 298 = .ok (.i2l, 1) := by decide +kernel
theorem d_La_law_299 : decode code 299 = .ok (.lcmp, 1) := by decide +kernel
theorem d_La_law_300 : decode code 300 = .ok (.ifCond .eq 5, 3) := by decide +kernel
theorem d_La_law_303 : decode code 303 = .ok (.iconst 0, 1) := by decide +kernel
theorem d_La_law_304 : decode code 304 = .ok (.ireturn, 1) := by decide +kernel
theorem d_La_law_305 : decode code 305 = .ok (.goto 1164, 3) := by decide +kernel
theorem d_La_law_308 : decode code 308 = .ok (.aload_n 1, 1) := by decide +kernel
theorem d_La_law_309 : decode code 309 = .ok (.aload_n 0, 1) := by decide +kernel
theorem d_La_law_310 : decode code 310 = .ok (.iload 4, 2) := by decide +kernel
theorem d_La_law_312 : decode code 312 = .ok (.iconst 1, 1) := by decide +kernel
theorem d_La_law_313 : decode code 313 = .ok (.iadd, 1) := by decide +kernel
theorem d_La_law_314 : decode code 314 = .ok (.iaload, 1) := by decide +kernel
theorem d_La_law_315 : decode code 315 = .ok (.aload_n 0, 1) := by decide +kernel
theorem d_La_law_316 : decode code 316 = .ok (.iload 4, 2) := by decide +kernel
theorem d_La_law_318 : decode code 318 = .ok (.iconst 2, 1) := by decide +kernel
theorem d_La_law_319 : decode code 319 = .ok (.iadd, 1) := by decide +kernel
theorem d_La_law_320 : decode code 320 = .ok (.iaload, 1) := by decide +kernel
theorem d_La_law_321 : decode code 321 = .ok (.aload_n 3, 1) := by decide +kernel
theorem d_La_law_322 : decode code 322 = .ok (.invokestatic 91, 3) := by decide +kernel
theorem d_La_law_325 : decode code 325 = .ok (.istore 5, 2) := by decide +kernel
theorem d_La_law_327 : decode code 327 = .ok (.aload_n 2, 1) := by decide +kernel
theorem d_La_law_328 : decode code 328 = .ok (.aload_n 0, 1) := by decide +kernel
theorem d_La_law_329 : decode code 329 = .ok (.iload 4, 2) := by decide +kernel
theorem d_La_law_331 : decode code 331 = .ok (.iconst 1, 1) := by decide +kernel
theorem d_La_law_332 : decode code 332 = .ok (.iadd, 1) := by decide +kernel
theorem d_La_law_333 : decode code 333 = .ok (.iaload, 1) := by decide +kernel
theorem d_La_law_334 : decode code 334 = .ok (.aload_n 0, 1) := by decide +kernel
theorem d_La_law_335 : decode code 335 = .ok (.iload 4, 2) := by decide +kernel
theorem d_La_law_337 : decode code 337 = .ok (.iconst 2, 1) := by decide +kernel
theorem d_La_law_338 : decode code 338 = .ok (.iadd, 1) := by decide +kernel
theorem d_La_law_339 : decode code 339 = .ok (.iaload, 1) := by decide +kernel
theorem d_La_law_340 : decode code 340 = .ok (.invokevirtual 94, 3) := by decide +kernel
theorem d_La_law_343 : decode code 343 = .ok (.istore 6, 2) := by decide +kernel
theorem d_La_law_345 : decode code 345 = .ok (.aload_n 2, 1) := by decide +kernel
theorem d_La_law_346 : decode code 346 = .ok (.invokevirtual 84, 3) := by decide +kernel
theorem d_La_law_349 : decode code 349 = .ok (.iload 5, 2) := by decide +kernel
theorem d_La_law_351 : decode code 351 = .ok (.if_icmp .eq 5, 3) := by decide +kernel
theorem d_La_law_354 : decode code 354 = .ok (.iconst 0, 1) := by decide +kernel
theorem d_La_law_355 : decode code 355 = .ok (.ireturn, 1) := by decide +kernel
theorem d_La_law_356 : decode code 356 = .ok (.iload 5, 2) := by decide +kernel
theorem d_La_law_358 : decode code 358 = .ok (.ifCond .ne 15, 3) := by decide +kernel
theorem d_La_law_361 : decode code 361 = .ok (.aload_n 3, 1) := by decide +kernel
theorem d_La_law_362 : decode code 362 = .ok (.iconst 0, 1) := by decide +kernel
theorem d_La_law_363 : decode code 363 = .ok (.laload, 1) := by decide +kernel
theorem d_La_law_364 : decode code 364 = .ok (.iload 6, 2) := by decide +kernel
theorem d_La_law_366 : decode code 366 = .ok (.i2l, 1) := by decide +kernel
theorem d_La_law_367 : decode code 367 = .ok (.lcmp, 1) := by decide +kernel
theorem d_La_law_368 : decode code 368 = .ok (.ifCond .eq 5, 3) := by decide +kernel
theorem d_La_law_371 : decode code 371 = .ok (.iconst 0, 1) := by decide +kernel
theorem d_La_law_372 : decode code 372 = .ok (.ireturn, 1) := by decide +kernel
theorem d_La_law_373 : decode code 373 = .ok (.goto 1096, 3) := by decide +kernel
theorem d_La_law_376 : decode code 376 = .ok (.aload_n 1, 1) := by decide +kernel
theorem d_La_law_377 : decode code 377 = .ok (.aload_n 0, 1) := by decide +kernel
theorem d_La_law_378 : decode code 378 = .ok (.iload 4, 2) := by decide +kernel
theorem d_La_law_380 : decode code 380 = .ok (.iconst 1, 1) := by decide +kernel
theorem d_La_law_381 : decode code 381 = .ok (.iadd, 1) := by decide +kernel
theorem d_La_law_382 : decode code 382 = .ok (.iaload, 1) := by decide +kernel
theorem d_La_law_383 : decode code 383 = .ok (.aload_n 0, 1) := by decide +kernel
theorem d_La_law_384 : decode code 384 = .ok (.iload 4, 2) := by decide +kernel
theorem d_La_law_386 : decode code 386 = .ok (.iconst 2, 1) := by decide +kernel
theorem d_La_law_387 : decode code 387 = .ok (.iadd, 1) := by decide +kernel
theorem d_La_law_388 : decode code 388 = .ok (.iaload, 1) := by decide +kernel
theorem d_La_law_389 : decode code 389 = .ok (.aload_n 3, 1) := by decide +kernel
theorem d_La_law_390 : decode code 390 = .ok (.invokestatic 95, 3) := by decide +kernel
theorem d_La_law_393 : decode code 393 = .ok (.istore 5, 2) := by decide +kernel
theorem d_La_law_395 : decode code 395 = .ok (.aload_n 2, 1) := by decide +kernel
theorem d_La_law_396 : decode code 396 = .ok (.aload_n 0, 1) := by decide +kernel
theorem d_La_law_397 : decode code 397 = .ok (.iload 4, 2) := by decide +kernel
theorem d_La_law_399 : decode code 399 = .ok (.iconst 1, 1) := by decide +kernel
theorem d_La_law_400 : decode code 400 = .ok (.iadd, 1) := by decide +kernel
theorem d_La_law_401 : decode code 401 = .ok (.iaload, 1) := by decide +kernel
theorem d_La_law_402 : decode code 402 = .ok (.aload_n 0, 1) := by decide +kernel
theorem d_La_law_403 : decode code 403 = .ok (.iload 4, 2) := by decide +kernel
theorem d_La_law_405 : decode code 405 = .ok (.iconst 2, 1) := by decide +kernel
theorem d_La_law_406 : decode code 406 = .ok (.iadd, 1) := by decide +kernel
theorem d_La_law_407 : decode code 407 = .ok (.iaload, 1) := by decide +kernel
theorem d_La_law_408 : decode code 408 = .ok (.invokevirtual 97, 3) := by decide +kernel
theorem d_La_law_411 : decode code 411 = .ok (.istore 6, 2) := by decide +kernel
theorem d_La_law_413 : decode code 413 = .ok (.aload_n 2, 1) := by decide +kernel
theorem d_La_law_414 : decode code 414 = .ok (.invokevirtual 84, 3) := by decide +kernel
theorem d_La_law_417 : decode code 417 = .ok (.iload 5, 2) := by decide +kernel
theorem d_La_law_419 : decode code 419 = .ok (.if_icmp .eq 5, 3) := by decide +kernel
theorem d_La_law_422 : decode code 422 = .ok (.iconst 0, 1) := by decide +kernel
theorem d_La_law_423 : decode code 423 = .ok (.ireturn, 1) := by decide +kernel
theorem d_La_law_424 : decode code 424 = .ok (.iload 5, 2) := by decide +kernel
theorem d_La_law_426 : decode code 426 = .ok (.ifCond .ne 15, 3) := by decide +kernel
theorem d_La_law_429 : decode code 429 = .ok (.aload_n 3, 1) := by decide +kernel
theorem d_La_law_430 : decode code 430 = .ok (.iconst 0, 1) := by decide +kernel
theorem d_La_law_431 : decode code 431 = .ok (.laload, 1) := by decide +kernel
theorem d_La_law_432 : decode code 432 = .ok (.iload 6, 2) := by decide +kernel
theorem d_La_law_434 : decode code 434 = .ok (.i2l, 1) := by decide +kernel
theorem d_La_law_435 : decode code 435 = .ok (.lcmp, 1) := by decide +kernel
theorem d_La_law_436 : decode code 436 = .ok (.ifCond .eq 5, 3) := by decide +kernel
theorem d_La_law_439 : decode code 439 = .ok (.iconst 0, 1) := by decide +kernel
theorem d_La_law_440 : decode code 440 = .ok (.ireturn, 1) := by decide +kernel
theorem d_La_law_441 : decode code 441 = .ok (.goto 1028, 3) := by decide +kernel
theorem d_La_law_444 : decode code 444 = .ok (.aload_n 1, 1) := by decide +kernel
theorem d_La_law_445 : decode code 445 = .ok (.aload_n 0, 1) := by decide +kernel
theorem d_La_law_446 : decode code 446 = .ok (.iload 4, 2) := by decide +kernel
theorem d_La_law_448 : decode code 448 = .ok (.iconst 1, 1) := by decide +kernel
theorem d_La_law_449 : decode code 449 = .ok (.iadd, 1) := by decide +kernel
theorem d_La_law_450 : decode code 450 = .ok (.iaload, 1) := by decide +kernel
theorem d_La_law_451 : decode code 451 = .ok (.aload_n 0, 1) := by decide +kernel
theorem d_La_law_452 : decode code 452 = .ok (.iload 4, 2) := by decide +kernel
theorem d_La_law_454 : decode code 454 = .ok (.iconst 2, 1) := by decide +kernel
theorem d_La_law_455 : decode code 455 = .ok (.iadd, 1) := by decide +kernel
theorem d_La_law_456 : decode code 456 = .ok (.iaload, 1) := by decide +kernel
theorem d_La_law_457 : decode code 457 = .ok (.aload_n 3, 1) := by decide +kernel
theorem d_La_law_458 : decode code 458 = .ok (.invokestatic 98, 3) := by decide +kernel
theorem d_La_law_461 : decode code 461 = .ok (.istore 5, 2) := by decide +kernel
theorem d_La_law_463 : decode code 463 = .ok (.aload_n 2, 1) := by decide +kernel
theorem d_La_law_464 : decode code 464 = .ok (.aload_n 0, 1) := by decide +kernel
theorem d_La_law_465 : decode code 465 = .ok (.iload 4, 2) := by decide +kernel
theorem d_La_law_467 : decode code 467 = .ok (.iconst 1, 1) := by decide +kernel
theorem d_La_law_468 : decode code 468 = .ok (.iadd, 1) := by decide +kernel
theorem d_La_law_469 : decode code 469 = .ok (.iaload, 1) := by decide +kernel
theorem d_La_law_470 : decode code 470 = .ok (.aload_n 0, 1) := by decide +kernel
theorem d_La_law_471 : decode code 471 = .ok (.iload 4, 2) := by decide +kernel
theorem d_La_law_473 : decode code 473 = .ok (.iconst 2, 1) := by decide +kernel
theorem d_La_law_474 : decode code 474 = .ok (.iadd, 1) := by decide +kernel
theorem d_La_law_475 : decode code 475 = .ok (.iaload, 1) := by decide +kernel
theorem d_La_law_476 : decode code 476 = .ok (.invokevirtual 100, 3) := by decide +kernel
theorem d_La_law_479 : decode code 479 = .ok (.istore 6, 2) := by decide +kernel
theorem d_La_law_481 : decode code 481 = .ok (.aload_n 2, 1) := by decide +kernel
theorem d_La_law_482 : decode code 482 = .ok (.invokevirtual 84, 3) := by decide +kernel
theorem d_La_law_485 : decode code 485 = .ok (.iload 5, 2) := by decide +kernel
theorem d_La_law_487 : decode code 487 = .ok (.if_icmp .eq 5, 3) := by decide +kernel
theorem d_La_law_490 : decode code 490 = .ok (.iconst 0, 1) := by decide +kernel
theorem d_La_law_491 : decode code 491 = .ok (.ireturn, 1) := by decide +kernel
theorem d_La_law_492 : decode code 492 = .ok (.iload 5, 2) := by decide +kernel
theorem d_La_law_494 : decode code 494 = .ok (.ifCond .ne 15, 3) := by decide +kernel
theorem d_La_law_497 : decode code 497 = .ok (.aload_n 3, 1) := by decide +kernel
theorem d_La_law_498 : decode code 498 = .ok (.iconst 0, 1) := by decide +kernel
theorem d_La_law_499 : decode code 499 = .ok (.laload, 1) := by decide +kernel
theorem d_La_law_500 : decode code 500 = .ok (.iload 6, 2) := by decide +kernel
theorem d_La_law_502 : decode code 502 = .ok (.i2l, 1) := by decide +kernel
theorem d_La_law_503 : decode code 503 = .ok (.lcmp, 1) := by decide +kernel
theorem d_La_law_504 : decode code 504 = .ok (.ifCond .eq 5, 3) := by decide +kernel
theorem d_La_law_507 : decode code 507 = .ok (.iconst 0, 1) := by decide +kernel
theorem d_La_law_508 : decode code 508 = .ok (.ireturn, 1) := by decide +kernel
theorem d_La_law_509 : decode code 509 = .ok (.goto 960, 3) := by decide +kernel
theorem d_La_law_512 : decode code 512 = .ok (.aload_n 1, 1) := by decide +kernel
theorem d_La_law_513 : decode code 513 = .ok (.aload_n 0, 1) := by decide +kernel
theorem d_La_law_514 : decode code 514 = .ok (.iload 4, 2) := by decide +kernel
theorem d_La_law_516 : decode code 516 = .ok (.iconst 1, 1) := by decide +kernel
theorem d_La_law_517 : decode code 517 = .ok (.iadd, 1) := by decide +kernel
theorem d_La_law_518 : decode code 518 = .ok (.iaload, 1) := by decide +kernel
theorem d_La_law_519 : decode code 519 = .ok (.aload_n 0, 1) := by decide +kernel
theorem d_La_law_520 : decode code 520 = .ok (.iload 4, 2) := by decide +kernel
theorem d_La_law_522 : decode code 522 = .ok (.iconst 2, 1) := by decide +kernel
theorem d_La_law_523 : decode code 523 = .ok (.iadd, 1) := by decide +kernel
theorem d_La_law_524 : decode code 524 = .ok (.iaload, 1) := by decide +kernel
theorem d_La_law_525 : decode code 525 = .ok (.aload_n 3, 1) := by decide +kernel
theorem d_La_law_526 : decode code 526 = .ok (.invokestatic 101, 3) := by decide +kernel
theorem d_La_law_529 : decode code 529 = .ok (.istore 5, 2) := by decide +kernel
theorem d_La_law_531 : decode code 531 = .ok (.aload_n 2, 1) := by decide +kernel
theorem d_La_law_532 : decode code 532 = .ok (.aload_n 0, 1) := by decide +kernel
theorem d_La_law_533 : decode code 533 = .ok (.iload 4, 2) := by decide +kernel
theorem d_La_law_535 : decode code 535 = .ok (.iconst 1, 1) := by decide +kernel
theorem d_La_law_536 : decode code 536 = .ok (.iadd, 1) := by decide +kernel
theorem d_La_law_537 : decode code 537 = .ok (.iaload, 1) := by decide +kernel
theorem d_La_law_538 : decode code 538 = .ok (.aload_n 0, 1) := by decide +kernel
theorem d_La_law_539 : decode code 539 = .ok (.iload 4, 2) := by decide +kernel
theorem d_La_law_541 : decode code 541 = .ok (.iconst 2, 1) := by decide +kernel
theorem d_La_law_542 : decode code 542 = .ok (.iadd, 1) := by decide +kernel
theorem d_La_law_543 : decode code 543 = .ok (.iaload, 1) := by decide +kernel
theorem d_La_law_544 : decode code 544 = .ok (.invokevirtual 103, 3) := by decide +kernel
theorem d_La_law_547 : decode code 547 = .ok (.istore 6, 2) := by decide +kernel
theorem d_La_law_549 : decode code 549 = .ok (.aload_n 2, 1) := by decide +kernel
theorem d_La_law_550 : decode code 550 = .ok (.invokevirtual 84, 3) := by decide +kernel
theorem d_La_law_553 : decode code 553 = .ok (.iload 5, 2) := by decide +kernel
theorem d_La_law_555 : decode code 555 = .ok (.if_icmp .eq 5, 3) := by decide +kernel
theorem d_La_law_558 : decode code 558 = .ok (.iconst 0, 1) := by decide +kernel
theorem d_La_law_559 : decode code 559 = .ok (.ireturn, 1) := by decide +kernel
theorem d_La_law_560 : decode code 560 = .ok (.iload 5, 2) := by decide +kernel
theorem d_La_law_562 : decode code 562 = .ok (.ifCond .ne 22, 3) := by decide +kernel
theorem d_La_law_565 : decode code 565 = .ok (.aload_n 3, 1) := by decide +kernel
theorem d_La_law_566 : decode code 566 = .ok (.iconst 0, 1) := by decide +kernel
theorem d_La_law_567 : decode code 567 = .ok (.laload, 1) := by decide +kernel
theorem d_La_law_568 : decode code 568 = .ok (.iload 6, 2) := by decide +kernel
theorem d_La_law_570 : decode code 570 = .ok (.ifCond .eq 7, 3) := by decide +kernel
theorem d_La_law_573 : decode code 573 = .ok (.lconst 1, 1) := by decide +kernel
theorem d_La_law_574 : decode code 574 = .ok (.goto 4, 3) := by decide +kernel
theorem d_La_law_577 : decode code 577 = .ok (.lconst 0, 1) := by decide +kernel
theorem d_La_law_578 : decode code 578 = .ok (.lcmp, 1) := by decide +kernel
theorem d_La_law_579 : decode code 579 = .ok (.ifCond .eq 5, 3) := by decide +kernel
theorem d_La_law_582 : decode code 582 = .ok (.iconst 0, 1) := by decide +kernel
theorem d_La_law_583 : decode code 583 = .ok (.ireturn, 1) := by decide +kernel
theorem d_La_law_584 : decode code 584 = .ok (.goto 885, 3) := by decide +kernel
theorem d_La_law_587 : decode code 587 = .ok (.aload_n 1, 1) := by decide +kernel
theorem d_La_law_588 : decode code 588 = .ok (.aload_n 0, 1) := by decide +kernel
theorem d_La_law_589 : decode code 589 = .ok (.iload 4, 2) := by decide +kernel
theorem d_La_law_591 : decode code 591 = .ok (.iconst 1, 1) := by decide +kernel
theorem d_La_law_592 : decode code 592 = .ok (.iadd, 1) := by decide +kernel
theorem d_La_law_593 : decode code 593 = .ok (.iaload, 1) := by decide +kernel
theorem d_La_law_594 : decode code 594 = .ok (.aload_n 0, 1) := by decide +kernel
theorem d_La_law_595 : decode code 595 = .ok (.iload 4, 2) := by decide +kernel
theorem d_La_law_597 : decode code 597 = .ok (.iconst 2, 1) := by decide +kernel
theorem d_La_law_598 : decode code 598 = .ok (.iadd, 1) := by decide +kernel
theorem d_La_law_599 : decode code 599 = .ok (.iaload, 1) := by decide +kernel
theorem d_La_law_600 : decode code 600 = .ok (.aload_n 0, 1) := by decide +kernel
theorem d_La_law_601 : decode code 601 = .ok (.iload 4, 2) := by decide +kernel
theorem d_La_law_603 : decode code 603 = .ok (.iconst 3, 1) := by decide +kernel
theorem d_La_law_604 : decode code 604 = .ok (.iadd, 1) := by decide +kernel
theorem d_La_law_605 : decode code 605 = .ok (.iaload, 1) := by decide +kernel
theorem d_La_law_606 : decode code 606 = .ok (.aload_n 3, 1) := by decide +kernel
theorem d_La_law_607 : decode code 607 = .ok (.invokestatic 104, 3) := by decide +kernel
theorem d_La_law_610 : decode code 610 = .ok (.istore 5, 2) := by decide +kernel
theorem d_La_law_612 : decode code 612 = .ok (.aload_n 2, 1) := by decide +kernel
theorem d_La_law_613 : decode code 613 = .ok (.aload_n 0, 1) := by decide +kernel
theorem d_La_law_614 : decode code 614 = .ok (.iload 4, 2) := by decide +kernel
theorem d_La_law_616 : decode code 616 = .ok (.iconst 1, 1) := by decide +kernel
theorem d_La_law_617 : decode code 617 = .ok (.iadd, 1) := by decide +kernel
theorem d_La_law_618 : decode code 618 = .ok (.iaload, 1) := by decide +kernel
theorem d_La_law_619 : decode code 619 = .ok (.aload_n 0, 1) := by decide +kernel
theorem d_La_law_620 : decode code 620 = .ok (.iload 4, 2) := by decide +kernel
theorem d_La_law_622 : decode code 622 = .ok (.iconst 2, 1) := by decide +kernel
theorem d_La_law_623 : decode code 623 = .ok (.iadd, 1) := by decide +kernel
theorem d_La_law_624 : decode code 624 = .ok (.iaload, 1) := by decide +kernel
theorem d_La_law_625 : decode code 625 = .ok (.aload_n 0, 1) := by decide +kernel
theorem d_La_law_626 : decode code 626 = .ok (.iload 4, 2) := by decide +kernel
theorem d_La_law_628 : decode code 628 = .ok (.iconst 3, 1) := by decide +kernel
theorem d_La_law_629 : decode code 629 = .ok (.iadd, 1) := by decide +kernel
theorem d_La_law_630 : decode code 630 = .ok (.iaload, 1) := by decide +kernel
theorem d_La_law_631 : decode code 631 = .ok (.invokevirtual 107, 3) := by decide +kernel
theorem d_La_law_634 : decode code 634 = .ok (.istore 6, 2) := by decide +kernel
theorem d_La_law_636 : decode code 636 = .ok (.aload_n 2, 1) := by decide +kernel
theorem d_La_law_637 : decode code 637 = .ok (.invokevirtual 84, 3) := by decide +kernel
theorem d_La_law_640 : decode code 640 = .ok (.iload 5, 2) := by decide +kernel
theorem d_La_law_642 : decode code 642 = .ok (.if_icmp .eq 5, 3) := by decide +kernel
theorem d_La_law_645 : decode code 645 = .ok (.iconst 0, 1) := by decide +kernel
theorem d_La_law_646 : decode code 646 = .ok (.ireturn, 1) := by decide +kernel
theorem d_La_law_647 : decode code 647 = .ok (.iload 5, 2) := by decide +kernel
theorem d_La_law_649 : decode code 649 = .ok (.ifCond .ne 15, 3) := by decide +kernel
theorem d_La_law_652 : decode code 652 = .ok (.aload_n 3, 1) := by decide +kernel
theorem d_La_law_653 : decode code 653 = .ok (.iconst 0, 1) := by decide +kernel
theorem d_La_law_654 : decode code 654 = .ok (.laload, 1) := by decide +kernel
theorem d_La_law_655 : decode code 655 = .ok (.iload 6, 2) := by decide +kernel
theorem d_La_law_657 : decode code 657 = .ok (.i2l, 1) := by decide +kernel
theorem d_La_law_658 : decode code 658 = .ok (.lcmp, 1) := by decide +kernel
theorem d_La_law_659 : decode code 659 = .ok (.ifCond .eq 5, 3) := by decide +kernel
theorem d_La_law_662 : decode code 662 = .ok (.iconst 0, 1) := by decide +kernel
theorem d_La_law_663 : decode code 663 = .ok (.ireturn, 1) := by decide +kernel
theorem d_La_law_664 : decode code 664 = .ok (.goto 805, 3) := by decide +kernel
theorem d_La_law_667 : decode code 667 = .ok (.aload_n 1, 1) := by decide +kernel
theorem d_La_law_668 : decode code 668 = .ok (.aload_n 0, 1) := by decide +kernel
theorem d_La_law_669 : decode code 669 = .ok (.iload 4, 2) := by decide +kernel
theorem d_La_law_671 : decode code 671 = .ok (.iconst 1, 1) := by decide +kernel
theorem d_La_law_672 : decode code 672 = .ok (.iadd, 1) := by decide +kernel
theorem d_La_law_673 : decode code 673 = .ok (.iaload, 1) := by decide +kernel
theorem d_La_law_674 : decode code 674 = .ok (.aload_n 0, 1) := by decide +kernel
theorem d_La_law_675 : decode code 675 = .ok (.iload 4, 2) := by decide +kernel
theorem d_La_law_677 : decode code 677 = .ok (.iconst 2, 1) := by decide +kernel
theorem d_La_law_678 : decode code 678 = .ok (.iadd, 1) := by decide +kernel
theorem d_La_law_679 : decode code 679 = .ok (.iaload, 1) := by decide +kernel
theorem d_La_law_680 : decode code 680 = .ok (.aload_n 3, 1) := by decide +kernel
theorem d_La_law_681 : decode code 681 = .ok (.invokestatic 108, 3) := by decide +kernel
theorem d_La_law_684 : decode code 684 = .ok (.istore 5, 2) := by decide +kernel
theorem d_La_law_686 : decode code 686 = .ok (.aload_n 2, 1) := by decide +kernel
theorem d_La_law_687 : decode code 687 = .ok (.aload_n 0, 1) := by decide +kernel
theorem d_La_law_688 : decode code 688 = .ok (.iload 4, 2) := by decide +kernel
theorem d_La_law_690 : decode code 690 = .ok (.iconst 1, 1) := by decide +kernel
theorem d_La_law_691 : decode code 691 = .ok (.iadd, 1) := by decide +kernel
theorem d_La_law_692 : decode code 692 = .ok (.iaload, 1) := by decide +kernel
theorem d_La_law_693 : decode code 693 = .ok (.aload_n 0, 1) := by decide +kernel
theorem d_La_law_694 : decode code 694 = .ok (.iload 4, 2) := by decide +kernel
theorem d_La_law_696 : decode code 696 = .ok (.iconst 2, 1) := by decide +kernel
theorem d_La_law_697 : decode code 697 = .ok (.iadd, 1) := by decide +kernel
theorem d_La_law_698 : decode code 698 = .ok (.iaload, 1) := by decide +kernel
theorem d_La_law_699 : decode code 699 = .ok (.invokevirtual 110, 3) := by decide +kernel
theorem d_La_law_702 : decode code 702 = .ok (.istore 6, 2) := by decide +kernel
theorem d_La_law_704 : decode code 704 = .ok (.aload_n 2, 1) := by decide +kernel
theorem d_La_law_705 : decode code 705 = .ok (.invokevirtual 84, 3) := by decide +kernel
theorem d_La_law_708 : decode code 708 = .ok (.iload 5, 2) := by decide +kernel
theorem d_La_law_710 : decode code 710 = .ok (.if_icmp .eq 5, 3) := by decide +kernel
theorem d_La_law_713 : decode code 713 = .ok (.iconst 0, 1) := by decide +kernel
theorem d_La_law_714 : decode code 714 = .ok (.ireturn, 1) := by decide +kernel
theorem d_La_law_715 : decode code 715 = .ok (.iload 5, 2) := by decide +kernel
theorem d_La_law_717 : decode code 717 = .ok (.ifCond .ne 15, 3) := by decide +kernel
theorem d_La_law_720 : decode code 720 = .ok (.aload_n 3, 1) := by decide +kernel
theorem d_La_law_721 : decode code 721 = .ok (.iconst 0, 1) := by decide +kernel
theorem d_La_law_722 : decode code 722 = .ok (.laload, 1) := by decide +kernel
theorem d_La_law_723 : decode code 723 = .ok (.iload 6, 2) := by decide +kernel
theorem d_La_law_725 : decode code 725 = .ok (.i2l, 1) := by decide +kernel
theorem d_La_law_726 : decode code 726 = .ok (.lcmp, 1) := by decide +kernel
theorem d_La_law_727 : decode code 727 = .ok (.ifCond .eq 5, 3) := by decide +kernel
theorem d_La_law_730 : decode code 730 = .ok (.iconst 0, 1) := by decide +kernel
theorem d_La_law_731 : decode code 731 = .ok (.ireturn, 1) := by decide +kernel
theorem d_La_law_732 : decode code 732 = .ok (.goto 737, 3) := by decide +kernel
theorem d_La_law_735 : decode code 735 = .ok (.aload_n 1, 1) := by decide +kernel
theorem d_La_law_736 : decode code 736 = .ok (.aload_n 0, 1) := by decide +kernel
theorem d_La_law_737 : decode code 737 = .ok (.iload 4, 2) := by decide +kernel
theorem d_La_law_739 : decode code 739 = .ok (.iconst 1, 1) := by decide +kernel
theorem d_La_law_740 : decode code 740 = .ok (.iadd, 1) := by decide +kernel
theorem d_La_law_741 : decode code 741 = .ok (.iaload, 1) := by decide +kernel
theorem d_La_law_742 : decode code 742 = .ok (.aload_n 0, 1) := by decide +kernel
theorem d_La_law_743 : decode code 743 = .ok (.iload 4, 2) := by decide +kernel
theorem d_La_law_745 : decode code 745 = .ok (.iconst 2, 1) := by decide +kernel
theorem d_La_law_746 : decode code 746 = .ok (.iadd, 1) := by decide +kernel
theorem d_La_law_747 : decode code 747 = .ok (.iaload, 1) := by decide +kernel
theorem d_La_law_748 : decode code 748 = .ok (.aload_n 3, 1) := by decide +kernel
theorem d_La_law_749 : decode code 749 = .ok (.invokestatic 111, 3) := by decide +kernel
theorem d_La_law_752 : decode code 752 = .ok (.istore 5, 2) := by decide +kernel
theorem d_La_law_754 : decode code 754 = .ok (.aload_n 2, 1) := by decide +kernel
theorem d_La_law_755 : decode code 755 = .ok (.aload_n 0, 1) := by decide +kernel
theorem d_La_law_756 : decode code 756 = .ok (.iload 4, 2) := by decide +kernel
theorem d_La_law_758 : decode code 758 = .ok (.iconst 1, 1) := by decide +kernel
theorem d_La_law_759 : decode code 759 = .ok (.iadd, 1) := by decide +kernel
theorem d_La_law_760 : decode code 760 = .ok (.iaload, 1) := by decide +kernel
theorem d_La_law_761 : decode code 761 = .ok (.aload_n 0, 1) := by decide +kernel
theorem d_La_law_762 : decode code 762 = .ok (.iload 4, 2) := by decide +kernel
theorem d_La_law_764 : decode code 764 = .ok (.iconst 2, 1) := by decide +kernel
theorem d_La_law_765 : decode code 765 = .ok (.iadd, 1) := by decide +kernel
theorem d_La_law_766 : decode code 766 = .ok (.iaload, 1) := by decide +kernel
theorem d_La_law_767 : decode code 767 = .ok (.invokevirtual 113, 3) := by decide +kernel
theorem d_La_law_770 : decode code 770 = .ok (.istore 6, 2) := by decide +kernel
theorem d_La_law_772 : decode code 772 = .ok (.aload_n 2, 1) := by decide +kernel
theorem d_La_law_773 : decode code 773 = .ok (.invokevirtual 84, 3) := by decide +kernel
theorem d_La_law_776 : decode code 776 = .ok (.iload 5, 2) := by decide +kernel
theorem d_La_law_778 : decode code 778 = .ok (.if_icmp .eq 5, 3) := by decide +kernel
theorem d_La_law_781 : decode code 781 = .ok (.iconst 0, 1) := by decide +kernel
theorem d_La_law_782 : decode code 782 = .ok (.ireturn, 1) := by decide +kernel
theorem d_La_law_783 : decode code 783 = .ok (.iload 5, 2) := by decide +kernel
theorem d_La_law_785 : decode code 785 = .ok (.ifCond .ne 22, 3) := by decide +kernel
theorem d_La_law_788 : decode code 788 = .ok (.aload_n 3, 1) := by decide +kernel
theorem d_La_law_789 : decode code 789 = .ok (.iconst 0, 1) := by decide +kernel
theorem d_La_law_790 : decode code 790 = .ok (.laload, 1) := by decide +kernel
theorem d_La_law_791 : decode code 791 = .ok (.iload 6, 2) := by decide +kernel
theorem d_La_law_793 : decode code 793 = .ok (.ifCond .eq 7, 3) := by decide +kernel
theorem d_La_law_796 : decode code 796 = .ok (.lconst 1, 1) := by decide +kernel
theorem d_La_law_797 : decode code 797 = .ok (.goto 4, 3) := by decide +kernel
theorem d_La_law_800 : decode code 800 = .ok (.lconst 0, 1) := by decide +kernel
theorem d_La_law_801 : decode code 801 = .ok (.lcmp, 1) := by decide +kernel
theorem d_La_law_802 : decode code 802 = .ok (.ifCond .eq 5, 3) := by decide +kernel
theorem d_La_law_805 : decode code 805 = .ok (.iconst 0, 1) := by decide +kernel
theorem d_La_law_806 : decode code 806 = .ok (.ireturn, 1) := by decide +kernel
theorem d_La_law_807 : decode code 807 = .ok (.goto 662, 3) := by decide +kernel
theorem d_La_law_810 : decode code 810 = .ok (.aload_n 1, 1) := by decide +kernel
theorem d_La_law_811 : decode code 811 = .ok (.aload_n 0, 1) := by decide +kernel
theorem d_La_law_812 : decode code 812 = .ok (.iload 4, 2) := by decide +kernel
theorem d_La_law_814 : decode code 814 = .ok (.iconst 1, 1) := by decide +kernel
theorem d_La_law_815 : decode code 815 = .ok (.iadd, 1) := by decide +kernel
theorem d_La_law_816 : decode code 816 = .ok (.iaload, 1) := by decide +kernel
theorem d_La_law_817 : decode code 817 = .ok (.aload_n 0, 1) := by decide +kernel
theorem d_La_law_818 : decode code 818 = .ok (.iload 4, 2) := by decide +kernel
theorem d_La_law_820 : decode code 820 = .ok (.iconst 2, 1) := by decide +kernel
theorem d_La_law_821 : decode code 821 = .ok (.iadd, 1) := by decide +kernel
theorem d_La_law_822 : decode code 822 = .ok (.iaload, 1) := by decide +kernel
theorem d_La_law_823 : decode code 823 = .ok (.aload_n 0, 1) := by decide +kernel
theorem d_La_law_824 : decode code 824 = .ok (.iload 4, 2) := by decide +kernel
theorem d_La_law_826 : decode code 826 = .ok (.iconst 3, 1) := by decide +kernel
theorem d_La_law_827 : decode code 827 = .ok (.iadd, 1) := by decide +kernel
theorem d_La_law_828 : decode code 828 = .ok (.iaload, 1) := by decide +kernel
theorem d_La_law_829 : decode code 829 = .ok (.aload_n 3, 1) := by decide +kernel
theorem d_La_law_830 : decode code 830 = .ok (.invokestatic 114, 3) := by decide +kernel
theorem d_La_law_833 : decode code 833 = .ok (.istore 5, 2) := by decide +kernel
theorem d_La_law_835 : decode code 835 = .ok (.aload_n 2, 1) := by decide +kernel
theorem d_La_law_836 : decode code 836 = .ok (.aload_n 0, 1) := by decide +kernel
theorem d_La_law_837 : decode code 837 = .ok (.iload 4, 2) := by decide +kernel
theorem d_La_law_839 : decode code 839 = .ok (.iconst 1, 1) := by decide +kernel
theorem d_La_law_840 : decode code 840 = .ok (.iadd, 1) := by decide +kernel
theorem d_La_law_841 : decode code 841 = .ok (.iaload, 1) := by decide +kernel
theorem d_La_law_842 : decode code 842 = .ok (.aload_n 0, 1) := by decide +kernel
theorem d_La_law_843 : decode code 843 = .ok (.iload 4, 2) := by decide +kernel
theorem d_La_law_845 : decode code 845 = .ok (.iconst 2, 1) := by decide +kernel
theorem d_La_law_846 : decode code 846 = .ok (.iadd, 1) := by decide +kernel
theorem d_La_law_847 : decode code 847 = .ok (.iaload, 1) := by decide +kernel
theorem d_La_law_848 : decode code 848 = .ok (.aload_n 0, 1) := by decide +kernel
theorem d_La_law_849 : decode code 849 = .ok (.iload 4, 2) := by decide +kernel
theorem d_La_law_851 : decode code 851 = .ok (.iconst 3, 1) := by decide +kernel
theorem d_La_law_852 : decode code 852 = .ok (.iadd, 1) := by decide +kernel
theorem d_La_law_853 : decode code 853 = .ok (.iaload, 1) := by decide +kernel
theorem d_La_law_854 : decode code 854 = .ok (.invokevirtual 116, 3) := by decide +kernel
theorem d_La_law_857 : decode code 857 = .ok (.istore 6, 2) := by decide +kernel
theorem d_La_law_859 : decode code 859 = .ok (.aload_n 2, 1) := by decide +kernel
theorem d_La_law_860 : decode code 860 = .ok (.invokevirtual 84, 3) := by decide +kernel
theorem d_La_law_863 : decode code 863 = .ok (.iload 5, 2) := by decide +kernel
theorem d_La_law_865 : decode code 865 = .ok (.if_icmp .eq 5, 3) := by decide +kernel
theorem d_La_law_868 : decode code 868 = .ok (.iconst 0, 1) := by decide +kernel
theorem d_La_law_869 : decode code 869 = .ok (.ireturn, 1) := by decide +kernel
theorem d_La_law_870 : decode code 870 = .ok (.iload 5, 2) := by decide +kernel
theorem d_La_law_872 : decode code 872 = .ok (.ifCond .ne 15, 3) := by decide +kernel
theorem d_La_law_875 : decode code 875 = .ok (.aload_n 3, 1) := by decide +kernel
theorem d_La_law_876 : decode code 876 = .ok (.iconst 0, 1) := by decide +kernel
theorem d_La_law_877 : decode code 877 = .ok (.laload, 1) := by decide +kernel
theorem d_La_law_878 : decode code 878 = .ok (.iload 6, 2) := by decide +kernel
theorem d_La_law_880 : decode code 880 = .ok (.i2l, 1) := by decide +kernel
theorem d_La_law_881 : decode code 881 = .ok (.lcmp, 1) := by decide +kernel
theorem d_La_law_882 : decode code 882 = .ok (.ifCond .eq 5, 3) := by decide +kernel
theorem d_La_law_885 : decode code 885 = .ok (.iconst 0, 1) := by decide +kernel
theorem d_La_law_886 : decode code 886 = .ok (.ireturn, 1) := by decide +kernel
theorem d_La_law_887 : decode code 887 = .ok (.goto 582, 3) := by decide +kernel
theorem d_La_law_890 : decode code 890 = .ok (.aload_n 1, 1) := by decide +kernel
theorem d_La_law_891 : decode code 891 = .ok (.aload_n 0, 1) := by decide +kernel
theorem d_La_law_892 : decode code 892 = .ok (.iload 4, 2) := by decide +kernel
theorem d_La_law_894 : decode code 894 = .ok (.iconst 1, 1) := by decide +kernel
theorem d_La_law_895 : decode code 895 = .ok (.iadd, 1) := by decide +kernel
theorem d_La_law_896 : decode code 896 = .ok (.iaload, 1) := by decide +kernel
theorem d_La_law_897 : decode code 897 = .ok (.aload_n 3, 1) := by decide +kernel
theorem d_La_law_898 : decode code 898 = .ok (.invokestatic 117, 3) := by decide +kernel
theorem d_La_law_901 : decode code 901 = .ok (.istore 5, 2) := by decide +kernel
theorem d_La_law_903 : decode code 903 = .ok (.aload_n 2, 1) := by decide +kernel
theorem d_La_law_904 : decode code 904 = .ok (.aload_n 0, 1) := by decide +kernel
theorem d_La_law_905 : decode code 905 = .ok (.iload 4, 2) := by decide +kernel
theorem d_La_law_907 : decode code 907 = .ok (.iconst 1, 1) := by decide +kernel
theorem d_La_law_908 : decode code 908 = .ok (.iadd, 1) := by decide +kernel
theorem d_La_law_909 : decode code 909 = .ok (.iaload, 1) := by decide +kernel
theorem d_La_law_910 : decode code 910 = .ok (.invokevirtual 120, 3) := by decide +kernel
theorem d_La_law_913 : decode code 913 = .ok (.istore 6, 2) := by decide +kernel
theorem d_La_law_915 : decode code 915 = .ok (.aload_n 2, 1) := by decide +kernel
theorem d_La_law_916 : decode code 916 = .ok (.invokevirtual 84, 3) := by decide +kernel
theorem d_La_law_919 : decode code 919 = .ok (.iload 5, 2) := by decide +kernel
theorem d_La_law_921 : decode code 921 = .ok (.if_icmp .eq 5, 3) := by decide +kernel
theorem d_La_law_924 : decode code 924 = .ok (.iconst 0, 1) := by decide +kernel
theorem d_La_law_925 : decode code 925 = .ok (.ireturn, 1) := by decide +kernel
theorem d_La_law_926 : decode code 926 = .ok (.iload 5, 2) := by decide +kernel
theorem d_La_law_928 : decode code 928 = .ok (.ifCond .ne 22, 3) := by decide +kernel
theorem d_La_law_931 : decode code 931 = .ok (.aload_n 3, 1) := by decide +kernel
theorem d_La_law_932 : decode code 932 = .ok (.iconst 0, 1) := by decide +kernel
theorem d_La_law_933 : decode code 933 = .ok (.laload, 1) := by decide +kernel
theorem d_La_law_934 : decode code 934 = .ok (.iload 6, 2) := by decide +kernel
theorem d_La_law_936 : decode code 936 = .ok (.ifCond .eq 7, 3) := by decide +kernel
theorem d_La_law_939 : decode code 939 = .ok (.lconst 1, 1) := by decide +kernel
theorem d_La_law_940 : decode code 940 = .ok (.goto 4, 3) := by decide +kernel
theorem d_La_law_943 : decode code 943 = .ok (.lconst 0, 1) := by decide +kernel
theorem d_La_law_944 : decode code 944 = .ok (.lcmp, 1) := by decide +kernel
theorem d_La_law_945 : decode code 945 = .ok (.ifCond .eq 5, 3) := by decide +kernel
theorem d_La_law_948 : decode code 948 = .ok (.iconst 0, 1) := by decide +kernel
theorem d_La_law_949 : decode code 949 = .ok (.ireturn, 1) := by decide +kernel
theorem d_La_law_950 : decode code 950 = .ok (.goto 519, 3) := by decide +kernel
theorem d_La_law_953 : decode code 953 = .ok (.aload_n 1, 1) := by decide +kernel
theorem d_La_law_954 : decode code 954 = .ok (.aload_n 0, 1) := by decide +kernel
theorem d_La_law_955 : decode code 955 = .ok (.iload 4, 2) := by decide +kernel
theorem d_La_law_957 : decode code 957 = .ok (.iconst 1, 1) := by decide +kernel
theorem d_La_law_958 : decode code 958 = .ok (.iadd, 1) := by decide +kernel
theorem d_La_law_959 : decode code 959 = .ok (.iaload, 1) := by decide +kernel
theorem d_La_law_960 : decode code 960 = .ok (.aload_n 3, 1) := by decide +kernel
theorem d_La_law_961 : decode code 961 = .ok (.invokestatic 121, 3) := by decide +kernel
theorem d_La_law_964 : decode code 964 = .ok (.istore 5, 2) := by decide +kernel
theorem d_La_law_966 : decode code 966 = .ok (.aload_n 2, 1) := by decide +kernel
theorem d_La_law_967 : decode code 967 = .ok (.aload_n 0, 1) := by decide +kernel
theorem d_La_law_968 : decode code 968 = .ok (.iload 4, 2) := by decide +kernel
theorem d_La_law_970 : decode code 970 = .ok (.iconst 1, 1) := by decide +kernel
theorem d_La_law_971 : decode code 971 = .ok (.iadd, 1) := by decide +kernel
theorem d_La_law_972 : decode code 972 = .ok (.iaload, 1) := by decide +kernel
theorem d_La_law_973 : decode code 973 = .ok (.invokevirtual 123, 3) := by decide +kernel
theorem d_La_law_976 : decode code 976 = .ok (.istore 6, 2) := by decide +kernel
theorem d_La_law_978 : decode code 978 = .ok (.aload_n 2, 1) := by decide +kernel
theorem d_La_law_979 : decode code 979 = .ok (.invokevirtual 84, 3) := by decide +kernel
theorem d_La_law_982 : decode code 982 = .ok (.iload 5, 2) := by decide +kernel
theorem d_La_law_984 : decode code 984 = .ok (.if_icmp .eq 5, 3) := by decide +kernel
theorem d_La_law_987 : decode code 987 = .ok (.iconst 0, 1) := by decide +kernel
theorem d_La_law_988 : decode code 988 = .ok (.ireturn, 1) := by decide +kernel
theorem d_La_law_989 : decode code 989 = .ok (.iload 5, 2) := by decide +kernel
theorem d_La_law_991 : decode code 991 = .ok (.ifCond .ne 15, 3) := by decide +kernel
theorem d_La_law_994 : decode code 994 = .ok (.aload_n 3, 1) := by decide +kernel
theorem d_La_law_995 : decode code 995 = .ok (.iconst 0, 1) := by decide +kernel
theorem d_La_law_996 : decode code 996 = .ok (.laload, 1) := by decide +kernel
theorem d_La_law_997 : decode code 997 = .ok (.iload 6, 2) := by decide +kernel
theorem d_La_law_999 : decode code 999 = .ok (.i2l, 1) := by decide +kernel
theorem d_La_law_1000 : decode code 1000 = .ok (.lcmp, 1) := by decide +kernel
theorem d_La_law_1001 : decode code 1001 = .ok (.ifCond .eq 5, 3) := by decide +kernel
theorem d_La_law_1004 : decode code 1004 = .ok (.iconst 0, 1) := by decide +kernel
theorem d_La_law_1005 : decode code 1005 = .ok (.ireturn, 1) := by decide +kernel
theorem d_La_law_1006 : decode code 1006 = .ok (.goto 463, 3) := by decide +kernel
theorem d_La_law_1009 : decode code 1009 = .ok (.aload_n 1, 1) := by decide +kernel
theorem d_La_law_1010 : decode code 1010 = .ok (.aload_n 0, 1) := by decide +kernel
theorem d_La_law_1011 : decode code 1011 = .ok (.iload 4, 2) := by decide +kernel
theorem d_La_law_1013 : decode code 1013 = .ok (.iconst 1, 1) := by decide +kernel
theorem d_La_law_1014 : decode code 1014 = .ok (.iadd, 1) := by decide +kernel
theorem d_La_law_1015 : decode code 1015 = .ok (.iaload, 1) := by decide +kernel
theorem d_La_law_1016 : decode code 1016 = .ok (.aload_n 0, 1) := by decide +kernel
theorem d_La_law_1017 : decode code 1017 = .ok (.iload 4, 2) := by decide +kernel
theorem d_La_law_1019 : decode code 1019 = .ok (.iconst 2, 1) := by decide +kernel
theorem d_La_law_1020 : decode code 1020 = .ok (.iadd, 1) := by decide +kernel
theorem d_La_law_1021 : decode code 1021 = .ok (.iaload, 1) := by decide +kernel
theorem d_La_law_1022 : decode code 1022 = .ok (.aload_n 0, 1) := by decide +kernel
theorem d_La_law_1023 : decode code 1023 = .ok (.iload 4, 2) := by decide +kernel
theorem d_La_law_1025 : decode code 1025 = .ok (.iconst 3, 1) := by decide +kernel
theorem d_La_law_1026 : decode code 1026 = .ok (.iadd, 1) := by decide +kernel
theorem d_La_law_1027 : decode code 1027 = .ok (.iaload, 1) := by decide +kernel
theorem d_La_law_1028 : decode code 1028 = .ok (.aload_n 3, 1) := by decide +kernel
theorem d_La_law_1029 : decode code 1029 = .ok (.invokestatic 124, 3) := by decide +kernel
theorem d_La_law_1032 : decode code 1032 = .ok (.istore 5, 2) := by decide +kernel
theorem d_La_law_1034 : decode code 1034 = .ok (.aload_n 2, 1) := by decide +kernel
theorem d_La_law_1035 : decode code 1035 = .ok (.aload_n 0, 1) := by decide +kernel
theorem d_La_law_1036 : decode code 1036 = .ok (.iload 4, 2) := by decide +kernel
theorem d_La_law_1038 : decode code 1038 = .ok (.iconst 1, 1) := by decide +kernel
theorem d_La_law_1039 : decode code 1039 = .ok (.iadd, 1) := by decide +kernel
theorem d_La_law_1040 : decode code 1040 = .ok (.iaload, 1) := by decide +kernel
theorem d_La_law_1041 : decode code 1041 = .ok (.aload_n 0, 1) := by decide +kernel
theorem d_La_law_1042 : decode code 1042 = .ok (.iload 4, 2) := by decide +kernel
theorem d_La_law_1044 : decode code 1044 = .ok (.iconst 2, 1) := by decide +kernel
theorem d_La_law_1045 : decode code 1045 = .ok (.iadd, 1) := by decide +kernel
theorem d_La_law_1046 : decode code 1046 = .ok (.iaload, 1) := by decide +kernel
theorem d_La_law_1047 : decode code 1047 = .ok (.aload_n 0, 1) := by decide +kernel
theorem d_La_law_1048 : decode code 1048 = .ok (.iload 4, 2) := by decide +kernel
theorem d_La_law_1050 : decode code 1050 = .ok (.iconst 3, 1) := by decide +kernel
theorem d_La_law_1051 : decode code 1051 = .ok (.iadd, 1) := by decide +kernel
theorem d_La_law_1052 : decode code 1052 = .ok (.iaload, 1) := by decide +kernel
theorem d_La_law_1053 : decode code 1053 = .ok (.invokevirtual 126, 3) := by decide +kernel
theorem d_La_law_1056 : decode code 1056 = .ok (.istore 6, 2) := by decide +kernel
theorem d_La_law_1058 : decode code 1058 = .ok (.aload_n 2, 1) := by decide +kernel
theorem d_La_law_1059 : decode code 1059 = .ok (.invokevirtual 84, 3) := by decide +kernel
theorem d_La_law_1062 : decode code 1062 = .ok (.iload 5, 2) := by decide +kernel
theorem d_La_law_1064 : decode code 1064 = .ok (.if_icmp .eq 5, 3) := by decide +kernel
theorem d_La_law_1067 : decode code 1067 = .ok (.iconst 0, 1) := by decide +kernel
theorem d_La_law_1068 : decode code 1068 = .ok (.ireturn, 1) := by decide +kernel
theorem d_La_law_1069 : decode code 1069 = .ok (.iload 5, 2) := by decide +kernel
theorem d_La_law_1071 : decode code 1071 = .ok (.ifCond .ne 15, 3) := by decide +kernel
theorem d_La_law_1074 : decode code 1074 = .ok (.aload_n 3, 1) := by decide +kernel
theorem d_La_law_1075 : decode code 1075 = .ok (.iconst 0, 1) := by decide +kernel
theorem d_La_law_1076 : decode code 1076 = .ok (.laload, 1) := by decide +kernel
theorem d_La_law_1077 : decode code 1077 = .ok (.iload 6, 2) := by decide +kernel
theorem d_La_law_1079 : decode code 1079 = .ok (.i2l, 1) := by decide +kernel
theorem d_La_law_1080 : decode code 1080 = .ok (.lcmp, 1) := by decide +kernel
theorem d_La_law_1081 : decode code 1081 = .ok (.ifCond .eq 5, 3) := by decide +kernel
theorem d_La_law_1084 : decode code 1084 = .ok (.iconst 0, 1) := by decide +kernel
theorem d_La_law_1085 : decode code 1085 = .ok (.ireturn, 1) := by decide +kernel
theorem d_La_law_1086 : decode code 1086 = .ok (.goto 383, 3) := by decide +kernel
theorem d_La_law_1089 : decode code 1089 = .ok (.aload_n 1, 1) := by decide +kernel
theorem d_La_law_1090 : decode code 1090 = .ok (.aload_n 0, 1) := by decide +kernel
theorem d_La_law_1091 : decode code 1091 = .ok (.iload 4, 2) := by decide +kernel
theorem d_La_law_1093 : decode code 1093 = .ok (.iconst 1, 1) := by decide +kernel
theorem d_La_law_1094 : decode code 1094 = .ok (.iadd, 1) := by decide +kernel
theorem d_La_law_1095 : decode code 1095 = .ok (.iaload, 1) := by decide +kernel
theorem d_La_law_1096 : decode code 1096 = .ok (.aload_n 0, 1) := by decide +kernel
theorem d_La_law_1097 : decode code 1097 = .ok (.iload 4, 2) := by decide +kernel
theorem d_La_law_1099 : decode code 1099 = .ok (.iconst 2, 1) := by decide +kernel
theorem d_La_law_1100 : decode code 1100 = .ok (.iadd, 1) := by decide +kernel
theorem d_La_law_1101 : decode code 1101 = .ok (.iaload, 1) := by decide +kernel
theorem d_La_law_1102 : decode code 1102 = .ok (.aload_n 0, 1) := by decide +kernel
theorem d_La_law_1103 : decode code 1103 = .ok (.iload 4, 2) := by decide +kernel
theorem d_La_law_1105 : decode code 1105 = .ok (.iconst 3, 1) := by decide +kernel
theorem d_La_law_1106 : decode code 1106 = .ok (.iadd, 1) := by decide +kernel
theorem d_La_law_1107 : decode code 1107 = .ok (.iaload, 1) := by decide +kernel
theorem d_La_law_1108 : decode code 1108 = .ok (.aload_n 0, 1) := by decide +kernel
theorem d_La_law_1109 : decode code 1109 = .ok (.iload 4, 2) := by decide +kernel
theorem d_La_law_1111 : decode code 1111 = .ok (.iconst 4, 1) := by decide +kernel
theorem d_La_law_1112 : decode code 1112 = .ok (.iadd, 1) := by decide +kernel
theorem d_La_law_1113 : decode code 1113 = .ok (.iaload, 1) := by decide +kernel
theorem d_La_law_1114 : decode code 1114 = .ok (.aload_n 3, 1) := by decide +kernel
theorem d_La_law_1115 : decode code 1115 = .ok (.invokestatic 127, 3) := by decide +kernel
theorem d_La_law_1118 : decode code 1118 = .ok (.istore 5, 2) := by decide +kernel
theorem d_La_law_1120 : decode code 1120 = .ok (.aload_n 2, 1) := by decide +kernel
theorem d_La_law_1121 : decode code 1121 = .ok (.aload_n 0, 1) := by decide +kernel
theorem d_La_law_1122 : decode code 1122 = .ok (.iload 4, 2) := by decide +kernel
theorem d_La_law_1124 : decode code 1124 = .ok (.iconst 1, 1) := by decide +kernel
theorem d_La_law_1125 : decode code 1125 = .ok (.iadd, 1) := by decide +kernel
theorem d_La_law_1126 : decode code 1126 = .ok (.iaload, 1) := by decide +kernel
theorem d_La_law_1127 : decode code 1127 = .ok (.aload_n 0, 1) := by decide +kernel
theorem d_La_law_1128 : decode code 1128 = .ok (.iload 4, 2) := by decide +kernel
theorem d_La_law_1130 : decode code 1130 = .ok (.iconst 2, 1) := by decide +kernel
theorem d_La_law_1131 : decode code 1131 = .ok (.iadd, 1) := by decide +kernel
theorem d_La_law_1132 : decode code 1132 = .ok (.iaload, 1) := by decide +kernel
theorem d_La_law_1133 : decode code 1133 = .ok (.aload_n 0, 1) := by decide +kernel
theorem d_La_law_1134 : decode code 1134 = .ok (.iload 4, 2) := by decide +kernel
theorem d_La_law_1136 : decode code 1136 = .ok (.iconst 3, 1) := by decide +kernel
theorem d_La_law_1137 : decode code 1137 = .ok (.iadd, 1) := by decide +kernel
theorem d_La_law_1138 : decode code 1138 = .ok (.iaload, 1) := by decide +kernel
theorem d_La_law_1139 : decode code 1139 = .ok (.aload_n 0, 1) := by decide +kernel
theorem d_La_law_1140 : decode code 1140 = .ok (.iload 4, 2) := by decide +kernel
theorem d_La_law_1142 : decode code 1142 = .ok (.iconst 4, 1) := by decide +kernel
theorem d_La_law_1143 : decode code 1143 = .ok (.iadd, 1) := by decide +kernel
theorem d_La_law_1144 : decode code 1144 = .ok (.iaload, 1) := by decide +kernel
theorem d_La_law_1145 : decode code 1145 = .ok (.invokevirtual 129, 3) := by decide +kernel
theorem d_La_law_1148 : decode code 1148 = .ok (.istore 6, 2) := by decide +kernel
theorem d_La_law_1150 : decode code 1150 = .ok (.aload_n 2, 1) := by decide +kernel
theorem d_La_law_1151 : decode code 1151 = .ok (.invokevirtual 84, 3) := by decide +kernel
theorem d_La_law_1154 : decode code 1154 = .ok (.iload 5, 2) := by decide +kernel
theorem d_La_law_1156 : decode code 1156 = .ok (.if_icmp .eq 5, 3) := by decide +kernel
theorem d_La_law_1159 : decode code 1159 = .ok (.iconst 0, 1) := by decide +kernel
theorem d_La_law_1160 : decode code 1160 = .ok (.ireturn, 1) := by decide +kernel
theorem d_La_law_1161 : decode code 1161 = .ok (.iload 5, 2) := by decide +kernel
theorem d_La_law_1163 : decode code 1163 = .ok (.ifCond .ne 15, 3) := by decide +kernel
theorem d_La_law_1166 : decode code 1166 = .ok (.aload_n 3, 1) := by decide +kernel
theorem d_La_law_1167 : decode code 1167 = .ok (.iconst 0, 1) := by decide +kernel
theorem d_La_law_1168 : decode code 1168 = .ok (.laload, 1) := by decide +kernel
theorem d_La_law_1169 : decode code 1169 = .ok (.iload 6, 2) := by decide +kernel
theorem d_La_law_1171 : decode code 1171 = .ok (.i2l, 1) := by decide +kernel
theorem d_La_law_1172 : decode code 1172 = .ok (.lcmp, 1) := by decide +kernel
theorem d_La_law_1173 : decode code 1173 = .ok (.ifCond .eq 5, 3) := by decide +kernel
theorem d_La_law_1176 : decode code 1176 = .ok (.iconst 0, 1) := by decide +kernel
theorem d_La_law_1177 : decode code 1177 = .ok (.ireturn, 1) := by decide +kernel
theorem d_La_law_1178 : decode code 1178 = .ok (.goto 291, 3) := by decide +kernel
theorem d_La_law_1181 : decode code 1181 = .ok (.aload_n 1, 1) := by decide +kernel
theorem d_La_law_1182 : decode code 1182 = .ok (.aload_n 0, 1) := by decide +kernel
theorem d_La_law_1183 : decode code 1183 = .ok (.iload 4, 2) := by decide +kernel
theorem d_La_law_1185 : decode code 1185 = .ok (.iconst 1, 1) := by decide +kernel
theorem d_La_law_1186 : decode code 1186 = .ok (.iadd, 1) := by decide +kernel
theorem d_La_law_1187 : decode code 1187 = .ok (.iaload, 1) := by decide +kernel
theorem d_La_law_1188 : decode code 1188 = .ok (.aload_n 0, 1) := by decide +kernel
theorem d_La_law_1189 : decode code 1189 = .ok (.iload 4, 2) := by decide +kernel
theorem d_La_law_1191 : decode code 1191 = .ok (.iconst 2, 1) := by decide +kernel
theorem d_La_law_1192 : decode code 1192 = .ok (.iadd, 1) := by decide +kernel
theorem d_La_law_1193 : decode code 1193 = .ok (.iaload, 1) := by decide +kernel
theorem d_La_law_1194 : decode code 1194 = .ok (.aload_n 3, 1) := by decide +kernel
theorem d_La_law_1195 : decode code 1195 = .ok (.invokestatic 130, 3) := by decide +kernel
theorem d_La_law_1198 : decode code 1198 = .ok (.istore 5, 2) := by decide +kernel
theorem d_La_law_1200 : decode code 1200 = .ok (.aload_n 2, 1) := by decide +kernel
theorem d_La_law_1201 : decode code 1201 = .ok (.aload_n 0, 1) := by decide +kernel
theorem d_La_law_1202 : decode code 1202 = .ok (.iload 4, 2) := by decide +kernel
theorem d_La_law_1204 : decode code 1204 = .ok (.iconst 1, 1) := by decide +kernel
theorem d_La_law_1205 : decode code 1205 = .ok (.iadd, 1) := by decide +kernel
theorem d_La_law_1206 : decode code 1206 = .ok (.iaload, 1) := by decide +kernel
theorem d_La_law_1207 : decode code 1207 = .ok (.aload_n 0, 1) := by decide +kernel
theorem d_La_law_1208 : decode code 1208 = .ok (.iload 4, 2) := by decide +kernel
theorem d_La_law_1210 : decode code 1210 = .ok (.iconst 2, 1) := by decide +kernel
theorem d_La_law_1211 : decode code 1211 = .ok (.iadd, 1) := by decide +kernel
theorem d_La_law_1212 : decode code 1212 = .ok (.iaload, 1) := by decide +kernel
theorem d_La_law_1213 : decode code 1213 = .ok (.invokevirtual 132, 3) := by decide +kernel
theorem d_La_law_1216 : decode code 1216 = .ok (.istore 6, 2) := by decide +kernel
theorem d_La_law_1218 : decode code 1218 = .ok (.aload_n 2, 1) := by decide +kernel
theorem d_La_law_1219 : decode code 1219 = .ok (.invokevirtual 84, 3) := by decide +kernel
theorem d_La_law_1222 : decode code 1222 = .ok (.iload 5, 2) := by decide +kernel
theorem d_La_law_1224 : decode code 1224 = .ok (.if_icmp .eq 5, 3) := by decide +kernel
theorem d_La_law_1227 : decode code 1227 = .ok (.iconst 0, 1) := by decide +kernel
theorem d_La_law_1228 : decode code 1228 = .ok (.ireturn, 1) := by decide +kernel
theorem d_La_law_1229 : decode code 1229 = .ok (.iload 5, 2) := by decide +kernel
theorem d_La_law_1231 : decode code 1231 = .ok (.ifCond .ne 15, 3) := by decide +kernel
theorem d_La_law_1234 : decode code 1234 = .ok (.aload_n 3, 1) := by decide +kernel
theorem d_La_law_1235 : decode code 1235 = .ok (.iconst 0, 1) := by decide +kernel
theorem d_La_law_1236 : decode code 1236 = .ok (.laload, 1) := by decide +kernel
theorem d_La_law_1237 : decode code 1237 = .ok (.iload 6, 2) := by decide +kernel
theorem d_La_law_1239 : decode code 1239 = .ok (.i2l, 1) := by decide +kernel
theorem d_La_law_1240 : decode code 1240 = .ok (.lcmp, 1) := by decide +kernel
theorem d_La_law_1241 : decode code 1241 = .ok (.ifCond .eq 5, 3) := by decide +kernel
theorem d_La_law_1244 : decode code 1244 = .ok (.iconst 0, 1) := by decide +kernel
theorem d_La_law_1245 : decode code 1245 = .ok (.ireturn, 1) := by decide +kernel
theorem d_La_law_1246 : decode code 1246 = .ok (.goto 223, 3) := by decide +kernel
theorem d_La_law_1249 : decode code 1249 = .ok (.aload_n 1, 1) := by decide +kernel
theorem d_La_law_1250 : decode code 1250 = .ok (.aload_n 0, 1) := by decide +kernel
theorem d_La_law_1251 : decode code 1251 = .ok (.iload 4, 2) := by decide +kernel
theorem d_La_law_1253 : decode code 1253 = .ok (.iconst 1, 1) := by decide +kernel
theorem d_La_law_1254 : decode code 1254 = .ok (.iadd, 1) := by decide +kernel
theorem d_La_law_1255 : decode code 1255 = .ok (.iaload, 1) := by decide +kernel
theorem d_La_law_1256 : decode code 1256 = .ok (.aload_n 0, 1) := by decide +kernel
theorem d_La_law_1257 : decode code 1257 = .ok (.iload 4, 2) := by decide +kernel
theorem d_La_law_1259 : decode code 1259 = .ok (.iconst 2, 1) := by decide +kernel
theorem d_La_law_1260 : decode code 1260 = .ok (.iadd, 1) := by decide +kernel
theorem d_La_law_1261 : decode code 1261 = .ok (.iaload, 1) := by decide +kernel
theorem d_La_law_1262 : decode code 1262 = .ok (.aload_n 3, 1) := by decide +kernel
theorem d_La_law_1263 : decode code 1263 = .ok (.invokestatic 133, 3) := by decide +kernel
theorem d_La_law_1266 : decode code 1266 = .ok (.istore 5, 2) := by decide +kernel
theorem d_La_law_1268 : decode code 1268 = .ok (.aload_n 2, 1) := by decide +kernel
theorem d_La_law_1269 : decode code 1269 = .ok (.aload_n 0, 1) := by decide +kernel
theorem d_La_law_1270 : decode code 1270 = .ok (.iload 4, 2) := by decide +kernel
theorem d_La_law_1272 : decode code 1272 = .ok (.iconst 1, 1) := by decide +kernel
theorem d_La_law_1273 : decode code 1273 = .ok (.iadd, 1) := by decide +kernel
theorem d_La_law_1274 : decode code 1274 = .ok (.iaload, 1) := by decide +kernel
theorem d_La_law_1275 : decode code 1275 = .ok (.aload_n 0, 1) := by decide +kernel
theorem d_La_law_1276 : decode code 1276 = .ok (.iload 4, 2) := by decide +kernel
theorem d_La_law_1278 : decode code 1278 = .ok (.iconst 2, 1) := by decide +kernel
theorem d_La_law_1279 : decode code 1279 = .ok (.iadd, 1) := by decide +kernel
theorem d_La_law_1280 : decode code 1280 = .ok (.iaload, 1) := by decide +kernel
theorem d_La_law_1281 : decode code 1281 = .ok (.invokevirtual 135, 3) := by decide +kernel
theorem d_La_law_1284 : decode code 1284 = .ok (.istore 6, 2) := by decide +kernel
theorem d_La_law_1286 : decode code 1286 = .ok (.aload_n 2, 1) := by decide +kernel
theorem d_La_law_1287 : decode code 1287 = .ok (.invokevirtual 84, 3) := by decide +kernel
theorem d_La_law_1290 : decode code 1290 = .ok (.iload 5, 2) := by decide +kernel
theorem d_La_law_1292 : decode code 1292 = .ok (.if_icmp .eq 5, 3) := by decide +kernel
theorem d_La_law_1295 : decode code 1295 = .ok (.iconst 0, 1) := by decide +kernel
theorem d_La_law_1296 : decode code 1296 = .ok (.ireturn, 1) := by decide +kernel
theorem d_La_law_1297 : decode code 1297 = .ok (.iload 5, 2) := by decide +kernel
theorem d_La_law_1299 : decode code 1299 = .ok (.ifCond .ne 15, 3) := by decide +kernel
theorem d_La_law_1302 : decode code 1302 = .ok (.aload_n 3, 1) := by decide +kernel
theorem d_La_law_1303 : decode code 1303 = .ok (.iconst 0, 1) := by decide +kernel
theorem d_La_law_1304 : decode code 1304 = .ok (.laload, 1) := by decide +kernel
theorem d_La_law_1305 : decode code 1305 = .ok (.iload 6, 2) := by decide +kernel
theorem d_La_law_1307 : decode code 1307 = .ok (.i2l, 1) := by decide +kernel
theorem d_La_law_1308 : decode code 1308 = .ok (.lcmp, 1) := by decide +kernel
theorem d_La_law_1309 : decode code 1309 = .ok (.ifCond .eq 5, 3) := by decide +kernel
theorem d_La_law_1312 : decode code 1312 = .ok (.iconst 0, 1) := by decide +kernel
theorem d_La_law_1313 : decode code 1313 = .ok (.ireturn, 1) := by decide +kernel
theorem d_La_law_1314 : decode code 1314 = .ok (.goto 155, 3) := by decide +kernel
theorem d_La_law_1317 : decode code 1317 = .ok (.aload_n 1, 1) := by decide +kernel
theorem d_La_law_1318 : decode code 1318 = .ok (.aload_n 0, 1) := by decide +kernel
theorem d_La_law_1319 : decode code 1319 = .ok (.iload 4, 2) := by decide +kernel
theorem d_La_law_1321 : decode code 1321 = .ok (.iconst 1, 1) := by decide +kernel
theorem d_La_law_1322 : decode code 1322 = .ok (.iadd, 1) := by decide +kernel
theorem d_La_law_1323 : decode code 1323 = .ok (.iaload, 1) := by decide +kernel
theorem d_La_law_1324 : decode code 1324 = .ok (.aload_n 0, 1) := by decide +kernel
theorem d_La_law_1325 : decode code 1325 = .ok (.iload 4, 2) := by decide +kernel
theorem d_La_law_1327 : decode code 1327 = .ok (.iconst 2, 1) := by decide +kernel
theorem d_La_law_1328 : decode code 1328 = .ok (.iadd, 1) := by decide +kernel
theorem d_La_law_1329 : decode code 1329 = .ok (.iaload, 1) := by decide +kernel
theorem d_La_law_1330 : decode code 1330 = .ok (.aload_n 3, 1) := by decide +kernel
theorem d_La_law_1331 : decode code 1331 = .ok (.invokestatic 136, 3) := by decide +kernel
theorem d_La_law_1334 : decode code 1334 = .ok (.istore 5, 2) := by decide +kernel
theorem d_La_law_1336 : decode code 1336 = .ok (.aload_n 2, 1) := by decide +kernel
theorem d_La_law_1337 : decode code 1337 = .ok (.aload_n 0, 1) := by decide +kernel
theorem d_La_law_1338 : decode code 1338 = .ok (.iload 4, 2) := by decide +kernel
theorem d_La_law_1340 : decode code 1340 = .ok (.iconst 1, 1) := by decide +kernel
theorem d_La_law_1341 : decode code 1341 = .ok (.iadd, 1) := by decide +kernel
theorem d_La_law_1342 : decode code 1342 = .ok (.iaload, 1) := by decide +kernel
theorem d_La_law_1343 : decode code 1343 = .ok (.aload_n 0, 1) := by decide +kernel
theorem d_La_law_1344 : decode code 1344 = .ok (.iload 4, 2) := by decide +kernel
theorem d_La_law_1346 : decode code 1346 = .ok (.iconst 2, 1) := by decide +kernel
theorem d_La_law_1347 : decode code 1347 = .ok (.iadd, 1) := by decide +kernel
theorem d_La_law_1348 : decode code 1348 = .ok (.iaload, 1) := by decide +kernel
theorem d_La_law_1349 : decode code 1349 = .ok (.invokevirtual 138, 3) := by decide +kernel
theorem d_La_law_1352 : decode code 1352 = .ok (.istore 6, 2) := by decide +kernel
theorem d_La_law_1354 : decode code 1354 = .ok (.aload_n 2, 1) := by decide +kernel
theorem d_La_law_1355 : decode code 1355 = .ok (.invokevirtual 84, 3) := by decide +kernel
theorem d_La_law_1358 : decode code 1358 = .ok (.iload 5, 2) := by decide +kernel
theorem d_La_law_1360 : decode code 1360 = .ok (.if_icmp .eq 5, 3) := by decide +kernel
theorem d_La_law_1363 : decode code 1363 = .ok (.iconst 0, 1) := by decide +kernel
theorem d_La_law_1364 : decode code 1364 = .ok (.ireturn, 1) := by decide +kernel
theorem d_La_law_1365 : decode code 1365 = .ok (.iload 5, 2) := by decide +kernel
theorem d_La_law_1367 : decode code 1367 = .ok (.ifCond .ne 15, 3) := by decide +kernel
theorem d_La_law_1370 : decode code 1370 = .ok (.aload_n 3, 1) := by decide +kernel
theorem d_La_law_1371 : decode code 1371 = .ok (.iconst 0, 1) := by decide +kernel
theorem d_La_law_1372 : decode code 1372 = .ok (.laload, 1) := by decide +kernel
theorem d_La_law_1373 : decode code 1373 = .ok (.iload 6, 2) := by decide +kernel
theorem d_La_law_1375 : decode code 1375 = .ok (.i2l, 1) := by decide +kernel
theorem d_La_law_1376 : decode code 1376 = .ok (.lcmp, 1) := by decide +kernel
theorem d_La_law_1377 : decode code 1377 = .ok (.ifCond .eq 5, 3) := by decide +kernel
theorem d_La_law_1380 : decode code 1380 = .ok (.iconst 0, 1) := by decide +kernel
theorem d_La_law_1381 : decode code 1381 = .ok (.ireturn, 1) := by decide +kernel
theorem d_La_law_1382 : decode code 1382 = .ok (.goto 87, 3) := by decide +kernel
theorem d_La_law_1385 : decode code 1385 = .ok (.aload_n 1, 1) := by decide +kernel
theorem d_La_law_1386 : decode code 1386 = .ok (.aload_n 0, 1) := by decide +kernel
theorem d_La_law_1387 : decode code 1387 = .ok (.iload 4, 2) := by decide +kernel
theorem d_La_law_1389 : decode code 1389 = .ok (.iconst 1, 1) := by decide +kernel
theorem d_La_law_1390 : decode code 1390 = .ok (.iadd, 1) := by decide +kernel
theorem d_La_law_1391 : decode code 1391 = .ok (.iaload, 1) := by decide +kernel
theorem d_La_law_1392 : decode code 1392 = .ok (.aload_n 0, 1) := by decide +kernel
theorem d_La_law_1393 : decode code 1393 = .ok (.iload 4, 2) := by decide +kernel
theorem d_La_law_1395 : decode code 1395 = .ok (.iconst 2, 1) := by decide +kernel
theorem d_La_law_1396 : decode code 1396 = .ok (.iadd, 1) := by decide +kernel
theorem d_La_law_1397 : decode code 1397 = .ok (.iaload, 1) := by decide +kernel
theorem d_La_law_1398 : decode code 1398 = .ok (.ifCond .eq 7, 3) := by decide +kernel
theorem d_La_law_1401 : decode code 1401 = .ok (.iconst 1, 1) := by decide +kernel
theorem d_La_law_1402 : decode code 1402 = .ok (.goto 4, 3) := by decide +kernel
theorem d_La_law_1405 : decode code 1405 = .ok (.iconst 0, 1) := by decide +kernel
theorem d_La_law_1406 : decode code 1406 = .ok (.aload_n 3, 1) := by decide +kernel
theorem d_La_law_1407 : decode code 1407 = .ok (.invokestatic 139, 3) := by decide +kernel
theorem d_La_law_1410 : decode code 1410 = .ok (.istore 5, 2) := by decide +kernel
theorem d_La_law_1412 : decode code 1412 = .ok (.aload_n 2, 1) := by decide +kernel
theorem d_La_law_1413 : decode code 1413 = .ok (.aload_n 0, 1) := by decide +kernel
theorem d_La_law_1414 : decode code 1414 = .ok (.iload 4, 2) := by decide +kernel
theorem d_La_law_1416 : decode code 1416 = .ok (.iconst 1, 1) := by decide +kernel
theorem d_La_law_1417 : decode code 1417 = .ok (.iadd, 1) := by decide +kernel
theorem d_La_law_1418 : decode code 1418 = .ok (.iaload, 1) := by decide +kernel
theorem d_La_law_1419 : decode code 1419 = .ok (.aload_n 0, 1) := by decide +kernel
theorem d_La_law_1420 : decode code 1420 = .ok (.iload 4, 2) := by decide +kernel
theorem d_La_law_1422 : decode code 1422 = .ok (.iconst 2, 1) := by decide +kernel
theorem d_La_law_1423 : decode code 1423 = .ok (.iadd, 1) := by decide +kernel
theorem d_La_law_1424 : decode code 1424 = .ok (.iaload, 1) := by decide +kernel
theorem d_La_law_1425 : decode code 1425 = .ok (.ifCond .eq 7, 3) := by decide +kernel
theorem d_La_law_1428 : decode code 1428 = .ok (.iconst 1, 1) := by decide +kernel
theorem d_La_law_1429 : decode code 1429 = .ok (.goto 4, 3) := by decide +kernel
theorem d_La_law_1432 : decode code 1432 = .ok (.iconst 0, 1) := by decide +kernel
theorem d_La_law_1433 : decode code 1433 = .ok (.invokevirtual 142, 3) := by decide +kernel
theorem d_La_law_1436 : decode code 1436 = .ok (.istore 6, 2) := by decide +kernel
theorem d_La_law_1438 : decode code 1438 = .ok (.aload_n 2, 1) := by decide +kernel
theorem d_La_law_1439 : decode code 1439 = .ok (.invokevirtual 84, 3) := by decide +kernel
theorem d_La_law_1442 : decode code 1442 = .ok (.iload 5, 2) := by decide +kernel
theorem d_La_law_1444 : decode code 1444 = .ok (.if_icmp .eq 5, 3) := by decide +kernel
theorem d_La_law_1447 : decode code 1447 = .ok (.iconst 0, 1) := by decide +kernel
theorem d_La_law_1448 : decode code 1448 = .ok (.ireturn, 1) := by decide +kernel
theorem d_La_law_1449 : decode code 1449 = .ok (.iload 5, 2) := by decide +kernel
theorem d_La_law_1451 : decode code 1451 = .ok (.ifCond .ne 15, 3) := by decide +kernel
theorem d_La_law_1454 : decode code 1454 = .ok (.aload_n 3, 1) := by decide +kernel
theorem d_La_law_1455 : decode code 1455 = .ok (.iconst 0, 1) := by decide +kernel
theorem d_La_law_1456 : decode code 1456 = .ok (.laload, 1) := by decide +kernel
theorem d_La_law_1457 : decode code 1457 = .ok (.iload 6, 2) := by decide +kernel
theorem d_La_law_1459 : decode code 1459 = .ok (.i2l, 1) := by decide +kernel
theorem d_La_law_1460 : decode code 1460 = .ok (.lcmp, 1) := by decide +kernel
theorem d_La_law_1461 : decode code 1461 = .ok (.ifCond .eq 5, 3) := by decide +kernel
theorem d_La_law_1464 : decode code 1464 = .ok (.iconst 0, 1) := by decide +kernel
theorem d_La_law_1465 : decode code 1465 = .ok (.ireturn, 1) := by decide +kernel
theorem d_La_law_1466 : decode code 1466 = .ok (.goto 3, 3) := by decide +kernel
theorem d_La_law_1469 : decode code 1469 = .ok (.iinc 4 5, 3) := by decide +kernel
theorem d_La_law_1472 : decode code 1472 = .ok (.goto (-1449), 3) := by decide +kernel
theorem d_La_law_1475 : decode code 1475 = .ok (.iconst 1, 1) := by decide +kernel
theorem d_La_law_1476 : decode code 1476 = .ok (.ireturn, 1) := by decide +kernel
theorem zt_47 : (Cond.initialized "MergeGraphsLaw") ∈ zTg := zmem 47 (by decide +kernel) (by decide +kernel)
theorem zt_59 : (Cond.classLink "MergeGraphsLaw" (8 : Nat) "MergeGraphs") ∈ zTg := zmem 59 (by decide +kernel) (by decide +kernel)
theorem zt_60 : (Cond.instantiable "MergeGraphs" (9 : Nat)) ∈ zTg := zmem 60 (by decide +kernel) (by decide +kernel)
theorem zt_61 : (Cond.methodLink "MergeGraphsLaw" (74 : Nat) (⟨"MergeGraphs", "<init>", "()V"⟩ : MethodName)) ∈ zTg := zmem 61 (by decide +kernel) (by decide +kernel)
theorem zt_62 : (Cond.instanceMethod (⟨"MergeGraphs", "<init>", "()V"⟩ : MethodName)) ∈ zTg := zmem 62 (by decide +kernel) (by decide +kernel)
theorem zt_173 : (Cond.methodLink "MergeGraphsLaw" (78 : Nat) (⟨"MergeGraphsLaw", "put", "(LMergeGraphs;IIII[J)I"⟩ : MethodName)) ∈ zTg := zmem 173 (by decide +kernel) (by decide +kernel)
theorem zt_174 : (Cond.static (⟨"MergeGraphsLaw", "put", "(LMergeGraphs;IIII[J)I"⟩ : MethodName)) ∈ zTg := zmem 174 (by decide +kernel) (by decide +kernel)
theorem zt_288 : (Cond.methodLink "MergeGraphsLaw" (88 : Nat) (⟨"MergeGraphsLaw", "drop", "(LMergeGraphs;IIII[J)I"⟩ : MethodName)) ∈ zTg := zmem 288 (by decide +kernel) (by decide +kernel)
theorem zt_289 : (Cond.static (⟨"MergeGraphsLaw", "drop", "(LMergeGraphs;IIII[J)I"⟩ : MethodName)) ∈ zTg := zmem 289 (by decide +kernel) (by decide +kernel)
theorem zt_299 : (Cond.methodLink "MergeGraphsLaw" (91 : Nat) (⟨"MergeGraphsLaw", "copy", "(LMergeGraphs;II[J)I"⟩ : MethodName)) ∈ zTg := zmem 299 (by decide +kernel) (by decide +kernel)
theorem zt_300 : (Cond.static (⟨"MergeGraphsLaw", "copy", "(LMergeGraphs;II[J)I"⟩ : MethodName)) ∈ zTg := zmem 300 (by decide +kernel) (by decide +kernel)
theorem zt_314 : (Cond.methodLink "MergeGraphsLaw" (95 : Nat) (⟨"MergeGraphsLaw", "size", "(LMergeGraphs;II[J)I"⟩ : MethodName)) ∈ zTg := zmem 314 (by decide +kernel) (by decide +kernel)
theorem zt_315 : (Cond.static (⟨"MergeGraphsLaw", "size", "(LMergeGraphs;II[J)I"⟩ : MethodName)) ∈ zTg := zmem 315 (by decide +kernel) (by decide +kernel)
theorem zt_344 : (Cond.methodLink "MergeGraphsLaw" (98 : Nat) (⟨"MergeGraphsLaw", "fact", "(LMergeGraphs;II[J)I"⟩ : MethodName)) ∈ zTg := zmem 344 (by decide +kernel) (by decide +kernel)
theorem zt_345 : (Cond.static (⟨"MergeGraphsLaw", "fact", "(LMergeGraphs;II[J)I"⟩ : MethodName)) ∈ zTg := zmem 345 (by decide +kernel) (by decide +kernel)
theorem zt_356 : (Cond.methodLink "MergeGraphsLaw" (101 : Nat) (⟨"MergeGraphsLaw", "alike", "(LMergeGraphs;II[J)I"⟩ : MethodName)) ∈ zTg := zmem 356 (by decide +kernel) (by decide +kernel)
theorem zt_357 : (Cond.static (⟨"MergeGraphsLaw", "alike", "(LMergeGraphs;II[J)I"⟩ : MethodName)) ∈ zTg := zmem 357 (by decide +kernel) (by decide +kernel)
theorem zt_453 : (Cond.methodLink "MergeGraphsLaw" (104 : Nat) (⟨"MergeGraphsLaw", "image", "(LMergeGraphs;III[J)I"⟩ : MethodName)) ∈ zTg := zmem 453 (by decide +kernel) (by decide +kernel)
theorem zt_454 : (Cond.static (⟨"MergeGraphsLaw", "image", "(LMergeGraphs;III[J)I"⟩ : MethodName)) ∈ zTg := zmem 454 (by decide +kernel) (by decide +kernel)
theorem zt_464 : (Cond.methodLink "MergeGraphsLaw" (108 : Nat) (⟨"MergeGraphsLaw", "form", "(LMergeGraphs;II[J)I"⟩ : MethodName)) ∈ zTg := zmem 464 (by decide +kernel) (by decide +kernel)
theorem zt_465 : (Cond.static (⟨"MergeGraphsLaw", "form", "(LMergeGraphs;II[J)I"⟩ : MethodName)) ∈ zTg := zmem 465 (by decide +kernel) (by decide +kernel)
theorem zt_525 : (Cond.methodLink "MergeGraphsLaw" (111 : Nat) (⟨"MergeGraphsLaw", "follows", "(LMergeGraphs;II[J)I"⟩ : MethodName)) ∈ zTg := zmem 525 (by decide +kernel) (by decide +kernel)
theorem zt_526 : (Cond.static (⟨"MergeGraphsLaw", "follows", "(LMergeGraphs;II[J)I"⟩ : MethodName)) ∈ zTg := zmem 526 (by decide +kernel) (by decide +kernel)
theorem zt_532 : (Cond.methodLink "MergeGraphsLaw" (114 : Nat) (⟨"MergeGraphsLaw", "putting", "(LMergeGraphs;III[J)I"⟩ : MethodName)) ∈ zTg := zmem 532 (by decide +kernel) (by decide +kernel)
theorem zt_533 : (Cond.static (⟨"MergeGraphsLaw", "putting", "(LMergeGraphs;III[J)I"⟩ : MethodName)) ∈ zTg := zmem 533 (by decide +kernel) (by decide +kernel)
theorem zt_539 : (Cond.methodLink "MergeGraphsLaw" (117 : Nat) (⟨"MergeGraphsLaw", "lean", "(LMergeGraphs;I[J)I"⟩ : MethodName)) ∈ zTg := zmem 539 (by decide +kernel) (by decide +kernel)
theorem zt_540 : (Cond.static (⟨"MergeGraphsLaw", "lean", "(LMergeGraphs;I[J)I"⟩ : MethodName)) ∈ zTg := zmem 540 (by decide +kernel) (by decide +kernel)
theorem zt_561 : (Cond.methodLink "MergeGraphsLaw" (121 : Nat) (⟨"MergeGraphsLaw", "core", "(LMergeGraphs;I[J)I"⟩ : MethodName)) ∈ zTg := zmem 561 (by decide +kernel) (by decide +kernel)
theorem zt_562 : (Cond.static (⟨"MergeGraphsLaw", "core", "(LMergeGraphs;I[J)I"⟩ : MethodName)) ∈ zTg := zmem 562 (by decide +kernel) (by decide +kernel)
theorem zt_578 : (Cond.methodLink "MergeGraphsLaw" (124 : Nat) (⟨"MergeGraphsLaw", "join", "(LMergeGraphs;III[J)I"⟩ : MethodName)) ∈ zTg := zmem 578 (by decide +kernel) (by decide +kernel)
theorem zt_579 : (Cond.static (⟨"MergeGraphsLaw", "join", "(LMergeGraphs;III[J)I"⟩ : MethodName)) ∈ zTg := zmem 579 (by decide +kernel) (by decide +kernel)
theorem zt_591 : (Cond.methodLink "MergeGraphsLaw" (127 : Nat) (⟨"MergeGraphsLaw", "merge", "(LMergeGraphs;IIII[J)I"⟩ : MethodName)) ∈ zTg := zmem 591 (by decide +kernel) (by decide +kernel)
theorem zt_592 : (Cond.static (⟨"MergeGraphsLaw", "merge", "(LMergeGraphs;IIII[J)I"⟩ : MethodName)) ∈ zTg := zmem 592 (by decide +kernel) (by decide +kernel)
theorem zt_629 : (Cond.methodLink "MergeGraphsLaw" (130 : Nat) (⟨"MergeGraphsLaw", "clash", "(LMergeGraphs;II[J)I"⟩ : MethodName)) ∈ zTg := zmem 629 (by decide +kernel) (by decide +kernel)
theorem zt_630 : (Cond.static (⟨"MergeGraphsLaw", "clash", "(LMergeGraphs;II[J)I"⟩ : MethodName)) ∈ zTg := zmem 630 (by decide +kernel) (by decide +kernel)
theorem zt_640 : (Cond.methodLink "MergeGraphsLaw" (133 : Nat) (⟨"MergeGraphsLaw", "change", "(LMergeGraphs;II[J)I"⟩ : MethodName)) ∈ zTg := zmem 640 (by decide +kernel) (by decide +kernel)
theorem zt_641 : (Cond.static (⟨"MergeGraphsLaw", "change", "(LMergeGraphs;II[J)I"⟩ : MethodName)) ∈ zTg := zmem 641 (by decide +kernel) (by decide +kernel)
theorem zt_647 : (Cond.methodLink "MergeGraphsLaw" (136 : Nat) (⟨"MergeGraphsLaw", "part", "(LMergeGraphs;II[J)I"⟩ : MethodName)) ∈ zTg := zmem 647 (by decide +kernel) (by decide +kernel)
theorem zt_648 : (Cond.static (⟨"MergeGraphsLaw", "part", "(LMergeGraphs;II[J)I"⟩ : MethodName)) ∈ zTg := zmem 648 (by decide +kernel) (by decide +kernel)
theorem zt_654 : (Cond.methodLink "MergeGraphsLaw" (139 : Nat) (⟨"MergeGraphsLaw", "apply", "(LMergeGraphs;IZ[J)I"⟩ : MethodName)) ∈ zTg := zmem 654 (by decide +kernel) (by decide +kernel)
theorem zt_655 : (Cond.static (⟨"MergeGraphsLaw", "apply", "(LMergeGraphs;IZ[J)I"⟩ : MethodName)) ∈ zTg := zmem 655 (by decide +kernel) (by decide +kernel)
theorem zt_674 : (Cond.classLink "MergeGraphsLaw" (75 : Nat) "MergeGraphsModel") ∈ zTg := zmem 674 (by decide +kernel) (by decide +kernel)
theorem zt_675 : (Cond.instantiable "MergeGraphsModel" (19 : Nat)) ∈ zTg := zmem 675 (by decide +kernel) (by decide +kernel)
theorem zt_676 : (Cond.methodLink "MergeGraphsLaw" (77 : Nat) (⟨"MergeGraphsModel", "<init>", "()V"⟩ : MethodName)) ∈ zTg := zmem 676 (by decide +kernel) (by decide +kernel)
theorem zt_677 : (Cond.instanceMethod (⟨"MergeGraphsModel", "<init>", "()V"⟩ : MethodName)) ∈ zTg := zmem 677 (by decide +kernel) (by decide +kernel)
theorem zt_738 : (Cond.methodLink "MergeGraphsLaw" (84 : Nat) (⟨"MergeGraphsModel", "thrown", "()I"⟩ : MethodName)) ∈ zTg := zmem 738 (by decide +kernel) (by decide +kernel)
theorem zt_739 : (Cond.instanceMethod (⟨"MergeGraphsModel", "thrown", "()I"⟩ : MethodName)) ∈ zTg := zmem 739 (by decide +kernel) (by decide +kernel)
theorem zt_740 : (Cond.selects "MergeGraphsModel" (⟨"MergeGraphsModel", "thrown", "()I"⟩ : MethodName) (⟨"MergeGraphsModel", "thrown", "()I"⟩ : MethodName)) ∈ zTg := zmem 740 (by decide +kernel) (by decide +kernel)
theorem zt_742 : (Cond.methodLink "MergeGraphsLaw" (83 : Nat) (⟨"MergeGraphsModel", "put", "(IIII)I"⟩ : MethodName)) ∈ zTg := zmem 742 (by decide +kernel) (by decide +kernel)
theorem zt_743 : (Cond.instanceMethod (⟨"MergeGraphsModel", "put", "(IIII)I"⟩ : MethodName)) ∈ zTg := zmem 743 (by decide +kernel) (by decide +kernel)
theorem zt_744 : (Cond.selects "MergeGraphsModel" (⟨"MergeGraphsModel", "put", "(IIII)I"⟩ : MethodName) (⟨"MergeGraphsModel", "put", "(IIII)I"⟩ : MethodName)) ∈ zTg := zmem 744 (by decide +kernel) (by decide +kernel)
theorem zt_772 : (Cond.methodLink "MergeGraphsLaw" (90 : Nat) (⟨"MergeGraphsModel", "drop", "(IIII)I"⟩ : MethodName)) ∈ zTg := zmem 772 (by decide +kernel) (by decide +kernel)
theorem zt_773 : (Cond.instanceMethod (⟨"MergeGraphsModel", "drop", "(IIII)I"⟩ : MethodName)) ∈ zTg := zmem 773 (by decide +kernel) (by decide +kernel)
theorem zt_774 : (Cond.selects "MergeGraphsModel" (⟨"MergeGraphsModel", "drop", "(IIII)I"⟩ : MethodName) (⟨"MergeGraphsModel", "drop", "(IIII)I"⟩ : MethodName)) ∈ zTg := zmem 774 (by decide +kernel) (by decide +kernel)
theorem zt_776 : (Cond.methodLink "MergeGraphsLaw" (94 : Nat) (⟨"MergeGraphsModel", "copy", "(II)I"⟩ : MethodName)) ∈ zTg := zmem 776 (by decide +kernel) (by decide +kernel)
theorem zt_777 : (Cond.instanceMethod (⟨"MergeGraphsModel", "copy", "(II)I"⟩ : MethodName)) ∈ zTg := zmem 777 (by decide +kernel) (by decide +kernel)
theorem zt_778 : (Cond.selects "MergeGraphsModel" (⟨"MergeGraphsModel", "copy", "(II)I"⟩ : MethodName) (⟨"MergeGraphsModel", "copy", "(II)I"⟩ : MethodName)) ∈ zTg := zmem 778 (by decide +kernel) (by decide +kernel)
theorem zt_784 : (Cond.methodLink "MergeGraphsLaw" (97 : Nat) (⟨"MergeGraphsModel", "size", "(II)I"⟩ : MethodName)) ∈ zTg := zmem 784 (by decide +kernel) (by decide +kernel)
theorem zt_785 : (Cond.instanceMethod (⟨"MergeGraphsModel", "size", "(II)I"⟩ : MethodName)) ∈ zTg := zmem 785 (by decide +kernel) (by decide +kernel)
theorem zt_786 : (Cond.selects "MergeGraphsModel" (⟨"MergeGraphsModel", "size", "(II)I"⟩ : MethodName) (⟨"MergeGraphsModel", "size", "(II)I"⟩ : MethodName)) ∈ zTg := zmem 786 (by decide +kernel) (by decide +kernel)
theorem zt_802 : (Cond.methodLink "MergeGraphsLaw" (100 : Nat) (⟨"MergeGraphsModel", "fact", "(II)I"⟩ : MethodName)) ∈ zTg := zmem 802 (by decide +kernel) (by decide +kernel)
theorem zt_803 : (Cond.instanceMethod (⟨"MergeGraphsModel", "fact", "(II)I"⟩ : MethodName)) ∈ zTg := zmem 803 (by decide +kernel) (by decide +kernel)
theorem zt_804 : (Cond.selects "MergeGraphsModel" (⟨"MergeGraphsModel", "fact", "(II)I"⟩ : MethodName) (⟨"MergeGraphsModel", "fact", "(II)I"⟩ : MethodName)) ∈ zTg := zmem 804 (by decide +kernel) (by decide +kernel)
theorem zt_806 : (Cond.methodLink "MergeGraphsLaw" (103 : Nat) (⟨"MergeGraphsModel", "alike", "(II)Z"⟩ : MethodName)) ∈ zTg := zmem 806 (by decide +kernel) (by decide +kernel)
theorem zt_807 : (Cond.instanceMethod (⟨"MergeGraphsModel", "alike", "(II)Z"⟩ : MethodName)) ∈ zTg := zmem 807 (by decide +kernel) (by decide +kernel)
theorem zt_808 : (Cond.selects "MergeGraphsModel" (⟨"MergeGraphsModel", "alike", "(II)Z"⟩ : MethodName) (⟨"MergeGraphsModel", "alike", "(II)Z"⟩ : MethodName)) ∈ zTg := zmem 808 (by decide +kernel) (by decide +kernel)
theorem zt_846 : (Cond.methodLink "MergeGraphsLaw" (107 : Nat) (⟨"MergeGraphsModel", "image", "(III)I"⟩ : MethodName)) ∈ zTg := zmem 846 (by decide +kernel) (by decide +kernel)
theorem zt_847 : (Cond.instanceMethod (⟨"MergeGraphsModel", "image", "(III)I"⟩ : MethodName)) ∈ zTg := zmem 847 (by decide +kernel) (by decide +kernel)
theorem zt_848 : (Cond.selects "MergeGraphsModel" (⟨"MergeGraphsModel", "image", "(III)I"⟩ : MethodName) (⟨"MergeGraphsModel", "image", "(III)I"⟩ : MethodName)) ∈ zTg := zmem 848 (by decide +kernel) (by decide +kernel)
theorem zt_850 : (Cond.methodLink "MergeGraphsLaw" (113 : Nat) (⟨"MergeGraphsModel", "follows", "(II)Z"⟩ : MethodName)) ∈ zTg := zmem 850 (by decide +kernel) (by decide +kernel)
theorem zt_851 : (Cond.instanceMethod (⟨"MergeGraphsModel", "follows", "(II)Z"⟩ : MethodName)) ∈ zTg := zmem 851 (by decide +kernel) (by decide +kernel)
theorem zt_852 : (Cond.selects "MergeGraphsModel" (⟨"MergeGraphsModel", "follows", "(II)Z"⟩ : MethodName) (⟨"MergeGraphsModel", "follows", "(II)Z"⟩ : MethodName)) ∈ zTg := zmem 852 (by decide +kernel) (by decide +kernel)
theorem zt_854 : (Cond.methodLink "MergeGraphsLaw" (116 : Nat) (⟨"MergeGraphsModel", "putting", "(III)I"⟩ : MethodName)) ∈ zTg := zmem 854 (by decide +kernel) (by decide +kernel)
theorem zt_855 : (Cond.instanceMethod (⟨"MergeGraphsModel", "putting", "(III)I"⟩ : MethodName)) ∈ zTg := zmem 855 (by decide +kernel) (by decide +kernel)
theorem zt_856 : (Cond.selects "MergeGraphsModel" (⟨"MergeGraphsModel", "putting", "(III)I"⟩ : MethodName) (⟨"MergeGraphsModel", "putting", "(III)I"⟩ : MethodName)) ∈ zTg := zmem 856 (by decide +kernel) (by decide +kernel)
theorem zt_858 : (Cond.methodLink "MergeGraphsLaw" (120 : Nat) (⟨"MergeGraphsModel", "lean", "(I)Z"⟩ : MethodName)) ∈ zTg := zmem 858 (by decide +kernel) (by decide +kernel)
theorem zt_859 : (Cond.instanceMethod (⟨"MergeGraphsModel", "lean", "(I)Z"⟩ : MethodName)) ∈ zTg := zmem 859 (by decide +kernel) (by decide +kernel)
theorem zt_860 : (Cond.selects "MergeGraphsModel" (⟨"MergeGraphsModel", "lean", "(I)Z"⟩ : MethodName) (⟨"MergeGraphsModel", "lean", "(I)Z"⟩ : MethodName)) ∈ zTg := zmem 860 (by decide +kernel) (by decide +kernel)
theorem zt_862 : (Cond.methodLink "MergeGraphsLaw" (123 : Nat) (⟨"MergeGraphsModel", "core", "(I)I"⟩ : MethodName)) ∈ zTg := zmem 862 (by decide +kernel) (by decide +kernel)
theorem zt_863 : (Cond.instanceMethod (⟨"MergeGraphsModel", "core", "(I)I"⟩ : MethodName)) ∈ zTg := zmem 863 (by decide +kernel) (by decide +kernel)
theorem zt_864 : (Cond.selects "MergeGraphsModel" (⟨"MergeGraphsModel", "core", "(I)I"⟩ : MethodName) (⟨"MergeGraphsModel", "core", "(I)I"⟩ : MethodName)) ∈ zTg := zmem 864 (by decide +kernel) (by decide +kernel)
theorem zt_866 : (Cond.methodLink "MergeGraphsLaw" (110 : Nat) (⟨"MergeGraphsModel", "form", "(II)I"⟩ : MethodName)) ∈ zTg := zmem 866 (by decide +kernel) (by decide +kernel)
theorem zt_867 : (Cond.instanceMethod (⟨"MergeGraphsModel", "form", "(II)I"⟩ : MethodName)) ∈ zTg := zmem 867 (by decide +kernel) (by decide +kernel)
theorem zt_868 : (Cond.selects "MergeGraphsModel" (⟨"MergeGraphsModel", "form", "(II)I"⟩ : MethodName) (⟨"MergeGraphsModel", "form", "(II)I"⟩ : MethodName)) ∈ zTg := zmem 868 (by decide +kernel) (by decide +kernel)
theorem zt_878 : (Cond.methodLink "MergeGraphsLaw" (126 : Nat) (⟨"MergeGraphsModel", "join", "(III)I"⟩ : MethodName)) ∈ zTg := zmem 878 (by decide +kernel) (by decide +kernel)
theorem zt_879 : (Cond.instanceMethod (⟨"MergeGraphsModel", "join", "(III)I"⟩ : MethodName)) ∈ zTg := zmem 879 (by decide +kernel) (by decide +kernel)
theorem zt_880 : (Cond.selects "MergeGraphsModel" (⟨"MergeGraphsModel", "join", "(III)I"⟩ : MethodName) (⟨"MergeGraphsModel", "join", "(III)I"⟩ : MethodName)) ∈ zTg := zmem 880 (by decide +kernel) (by decide +kernel)
theorem zt_882 : (Cond.methodLink "MergeGraphsLaw" (129 : Nat) (⟨"MergeGraphsModel", "merge", "(IIII)I"⟩ : MethodName)) ∈ zTg := zmem 882 (by decide +kernel) (by decide +kernel)
theorem zt_883 : (Cond.instanceMethod (⟨"MergeGraphsModel", "merge", "(IIII)I"⟩ : MethodName)) ∈ zTg := zmem 883 (by decide +kernel) (by decide +kernel)
theorem zt_884 : (Cond.selects "MergeGraphsModel" (⟨"MergeGraphsModel", "merge", "(IIII)I"⟩ : MethodName) (⟨"MergeGraphsModel", "merge", "(IIII)I"⟩ : MethodName)) ∈ zTg := zmem 884 (by decide +kernel) (by decide +kernel)
theorem zt_894 : (Cond.methodLink "MergeGraphsLaw" (132 : Nat) (⟨"MergeGraphsModel", "clash", "(II)I"⟩ : MethodName)) ∈ zTg := zmem 894 (by decide +kernel) (by decide +kernel)
theorem zt_895 : (Cond.instanceMethod (⟨"MergeGraphsModel", "clash", "(II)I"⟩ : MethodName)) ∈ zTg := zmem 895 (by decide +kernel) (by decide +kernel)
theorem zt_896 : (Cond.selects "MergeGraphsModel" (⟨"MergeGraphsModel", "clash", "(II)I"⟩ : MethodName) (⟨"MergeGraphsModel", "clash", "(II)I"⟩ : MethodName)) ∈ zTg := zmem 896 (by decide +kernel) (by decide +kernel)
theorem zt_898 : (Cond.methodLink "MergeGraphsLaw" (135 : Nat) (⟨"MergeGraphsModel", "change", "(II)I"⟩ : MethodName)) ∈ zTg := zmem 898 (by decide +kernel) (by decide +kernel)
theorem zt_899 : (Cond.instanceMethod (⟨"MergeGraphsModel", "change", "(II)I"⟩ : MethodName)) ∈ zTg := zmem 899 (by decide +kernel) (by decide +kernel)
theorem zt_900 : (Cond.selects "MergeGraphsModel" (⟨"MergeGraphsModel", "change", "(II)I"⟩ : MethodName) (⟨"MergeGraphsModel", "change", "(II)I"⟩ : MethodName)) ∈ zTg := zmem 900 (by decide +kernel) (by decide +kernel)
theorem zt_902 : (Cond.methodLink "MergeGraphsLaw" (138 : Nat) (⟨"MergeGraphsModel", "part", "(II)I"⟩ : MethodName)) ∈ zTg := zmem 902 (by decide +kernel) (by decide +kernel)
theorem zt_903 : (Cond.instanceMethod (⟨"MergeGraphsModel", "part", "(II)I"⟩ : MethodName)) ∈ zTg := zmem 903 (by decide +kernel) (by decide +kernel)
theorem zt_904 : (Cond.selects "MergeGraphsModel" (⟨"MergeGraphsModel", "part", "(II)I"⟩ : MethodName) (⟨"MergeGraphsModel", "part", "(II)I"⟩ : MethodName)) ∈ zTg := zmem 904 (by decide +kernel) (by decide +kernel)
theorem zt_906 : (Cond.methodLink "MergeGraphsLaw" (142 : Nat) (⟨"MergeGraphsModel", "apply", "(IZ)I"⟩ : MethodName)) ∈ zTg := zmem 906 (by decide +kernel) (by decide +kernel)
theorem zt_907 : (Cond.instanceMethod (⟨"MergeGraphsModel", "apply", "(IZ)I"⟩ : MethodName)) ∈ zTg := zmem 907 (by decide +kernel) (by decide +kernel)
theorem zt_908 : (Cond.selects "MergeGraphsModel" (⟨"MergeGraphsModel", "apply", "(IZ)I"⟩ : MethodName) (⟨"MergeGraphsModel", "apply", "(IZ)I"⟩ : MethodName)) ∈ zTg := zmem 908 (by decide +kernel) (by decide +kernel)
