/-! Decode rows, meanings and rows of: L_law. Written by program. -/
theorem d_L_law_0 : decode code 0 = .ok (.new 8, 3) := by decide +kernel
theorem d_L_law_3 : decode code 3 = .ok (.dup, 1) := by decide +kernel
theorem d_L_law_4 : decode code 4 = .ok (.invokespecial 64, 3) := by decide +kernel
theorem d_L_law_7 : decode code 7 = .ok (.astore_n 1, 1) := by decide +kernel
theorem d_L_law_8 : decode code 8 = .ok (.new 65, 3) := by decide +kernel
theorem d_L_law_11 : decode code 11 = .ok (.dup, 1) := by decide +kernel
theorem d_L_law_12 : decode code 12 = .ok (.invokespecial 67, 3) := by decide +kernel
theorem d_L_law_15 : decode code 15 = .ok (.astore_n 2, 1) := by decide +kernel
theorem d_L_law_16 : decode code 16 = .ok (.iconst 1, 1) := by decide +kernel
theorem d_L_law_17 : decode code 17 = .ok (.newarray .long, 2) := by decide +kernel
theorem d_L_law_19 : decode code 19 = .ok (.astore_n 3, 1) := by decide +kernel
theorem d_L_law_20 : decode code 20 = .ok (.iconst 0, 1) := by decide +kernel
theorem d_L_law_21 : decode code 21 = .ok (.istore 4, 2) := by decide +kernel
theorem d_L_law_23 : decode code 23 = .ok (.iload 4, 2) := by decide +kernel
theorem d_L_law_25 : decode code 25 = .ok (.aload_n 0, 1) := by decide +kernel
theorem d_L_law_26 : decode code 26 = .ok (.arraylength, 1) := by decide +kernel
theorem d_L_law_27 : decode code 27 = .ok (.iconst 5, 1) := by decide +kernel
theorem d_L_law_28 : decode code 28 = .ok (.isub, 1) := by decide +kernel
theorem d_L_law_29 : decode code 29 = .ok (.if_icmp .gt 949, 3) := by decide +kernel
theorem d_L_law_32 : decode code 32 = .ok (.aload_n 0, 1) := by decide +kernel
theorem d_L_law_33 : decode code 33 = .ok (.iload 4, 2) := by decide +kernel
theorem d_L_law_35 : decode code 35 = .ok (.iaload, 1) := by decide +kernel
theorem d_L_law_36 : decode code 36 = .ok (.bipush 31, 2) := by decide +kernel
theorem d_L_law_38 : decode code 38 = .ok (.iand, 1) := by decide +kernel
theorem d_L_law_39 : decode code 39 = .ok (.tableswitch 933 0 17 #[85, 121, 169, 225, 281, 294, 378, 433, 525, 583, 641, 654, 709, 772, 785, 829, 865, 889], 85) := by decide +kernel
theorem d_L_law_124 : decode code 124 = .ok (.aload_n 1, 1) := by decide +kernel
theorem d_L_law_125 : decode code 125 = .ok (.aload_n 0, 1) := by decide +kernel
theorem d_L_law_126 : decode code 126 = .ok (.iload 4, 2) := by decide +kernel
theorem d_L_law_128 : decode code 128 = .ok (.iconst 1, 1) := by decide +kernel
theorem d_L_law_129 : decode code 129 = .ok (.iadd, 1) := by decide +kernel
theorem d_L_law_130 : decode code 130 = .ok (.iaload, 1) := by decide +kernel
theorem d_L_law_131 : decode code 131 = .ok (.invokestatic 68, 3) := by decide +kernel
theorem d_L_law_134 : decode code 134 = .ok (.istore 5, 2) := by decide +kernel
theorem d_L_law_136 : decode code 136 = .ok (.aload_n 2, 1) := by decide +kernel
theorem d_L_law_137 : decode code 137 = .ok (.aload_n 0, 1) := by decide +kernel
theorem d_L_law_138 : decode code 138 = .ok (.iload 4, 2) := by decide +kernel
theorem d_L_law_140 : decode code 140 = .ok (.iconst 1, 1) := by decide +kernel
theorem d_L_law_141 : decode code 141 = .ok (.iadd, 1) := by decide +kernel
theorem d_L_law_142 : decode code 142 = .ok (.iaload, 1) := by decide +kernel
theorem d_L_law_143 : decode code 143 = .ok (.invokevirtual 73, 3) := by decide +kernel
theorem d_L_law_146 : decode code 146 = .ok (.aload_n 2, 1) := by decide +kernel
theorem d_L_law_147 : decode code 147 = .ok (.invokevirtual 74, 3) := by decide +kernel
theorem d_L_law_150 : decode code 150 = .ok (.iload 5, 2) := by decide +kernel
theorem d_L_law_152 : decode code 152 = .ok (.if_icmp .eq 5, 3) := by decide +kernel
theorem d_L_law_155 : decode code 155 = .ok (.iconst 0, 1) := by decide +kernel
theorem d_L_law_156 : decode code 156 = .ok (.ireturn, 1) := by decide +kernel
theorem d_L_law_157 : decode code 157 = .ok (.goto 815, 3) := by decide +kernel
theorem d_L_law_160 : decode code 160 = .ok (.aload_n 1, 1) := by decide +kernel
theorem d_L_law_161 : decode code 161 = .ok (.aload_n 0, 1) := by decide +kernel
theorem d_L_law_162 : decode code 162 = .ok (.iload 4, 2) := by decide +kernel
theorem d_L_law_164 : decode code 164 = .ok (.iconst 1, 1) := by decide +kernel
theorem d_L_law_165 : decode code 165 = .ok (.iadd, 1) := by decide +kernel
theorem d_L_law_166 : decode code 166 = .ok (.iaload, 1) := by decide +kernel
theorem d_L_law_167 : decode code 167 = .ok (.aload_n 0, 1) := by decide +kernel
theorem d_L_law_168 : decode code 168 = .ok (.iload 4, 2) := by decide +kernel
theorem d_L_law_170 : decode code 170 = .ok (.iconst 2, 1) := by decide +kernel
theorem d_L_law_171 : decode code 171 = .ok (.iadd, 1) := by decide +kernel
theorem d_L_law_172 : decode code 172 = .ok (.iaload, 1) := by decide +kernel
theorem d_L_law_173 : decode code 173 = .ok (.invokestatic 77, 3) := by decide +kernel
theorem d_L_law_176 : decode code 176 = .ok (.istore 5, 2) := by decide +kernel
theorem d_L_law_178 : decode code 178 = .ok (.aload_n 2, 1) := by decide +kernel
theorem d_L_law_179 : decode code 179 = .ok (.aload_n 0, 1) := by decide +kernel
theorem d_L_law_180 : decode code 180 = .ok (.iload 4, 2) := by decide +kernel
theorem d_L_law_182 : decode code 182 = .ok (.iconst 1, 1) := by decide +kernel
theorem d_L_law_183 : decode code 183 = .ok (.iadd, 1) := by decide +kernel
theorem d_L_law_184 : decode code 184 = .ok (.iaload, 1) := by decide +kernel
theorem d_L_law_185 : decode code 185 = .ok (.aload_n 0, 1) := by decide +kernel
theorem d_L_law_186 : decode code 186 = .ok (.iload 4, 2) := by decide +kernel
theorem d_L_law_188 : decode code 188 = .ok (.iconst 2, 1) := by decide +kernel
theorem d_L_law_189 : decode code 189 = .ok (.iadd, 1) := by decide +kernel
theorem d_L_law_190 : decode code 190 = .ok (.iaload, 1) := by decide +kernel
theorem d_L_law_191 : decode code 191 = .ok (.invokevirtual 80, 3) := by decide +kernel
theorem d_L_law_194 : decode code 194 = .ok (.aload_n 2, 1) := by decide +kernel
theorem d_L_law_195 : decode code 195 = .ok (.invokevirtual 74, 3) := by decide +kernel
theorem d_L_law_198 : decode code 198 = .ok (.iload 5, 2) := by decide +kernel
theorem d_L_law_200 : decode code 200 = .ok (.if_icmp .eq 5, 3) := by decide +kernel
theorem d_L_law_203 : decode code 203 = .ok (.iconst 0, 1) := by decide +kernel
theorem d_L_law_204 : decode code 204 = .ok (.ireturn, 1) := by decide +kernel
theorem d_L_law_205 : decode code 205 = .ok (.goto 767, 3) := by decide +kernel
theorem d_L_law_208 : decode code 208 = .ok (.aload_n 1, 1) := by decide +kernel
theorem d_L_law_209 : decode code 209 = .ok (.aload_n 0, 1) := by decide +kernel
theorem d_L_law_210 : decode code 210 = .ok (.iload 4, 2) := by decide +kernel
theorem d_L_law_212 : decode code 212 = .ok (.iconst 1, 1) := by decide +kernel
theorem d_L_law_213 : decode code 213 = .ok (.iadd, 1) := by decide +kernel
theorem d_L_law_214 : decode code 214 = .ok (.iaload, 1) := by decide +kernel
theorem d_L_law_215 : decode code 215 = .ok (.aload_n 3, 1) := by decide +kernel
theorem d_L_law_216 : decode code 216 = .ok (.invokestatic 81, 3) := by decide +kernel
theorem d_L_law_219 : decode code 219 = .ok (.istore 5, 2) := by decide +kernel
theorem d_L_law_221 : decode code 221 = .ok (.aload_n 2, 1) := by decide +kernel
theorem d_L_law_222 : decode code 222 = .ok (.aload_n 0, 1) := by decide +kernel
theorem d_L_law_223 : decode code 223 = .ok (.iload 4, 2) := by decide +kernel
theorem d_L_law_225 : decode code 225 = .ok (.iconst 1, 1) := by decide +kernel
theorem d_L_law_226 : decode code 226 = .ok (.iadd, 1) := by decide +kernel
theorem d_L_law_227 : decode code 227 = .ok (.iaload, 1) := by decide +kernel
theorem d_L_law_228 : decode code 228 = .ok (.invokevirtual 84, 3) := by decide +kernel
theorem d_L_law_231 : decode code 231 = .ok (.istore 6, 2) := by decide +kernel
theorem d_L_law_233 : decode code 233 = .ok (.aload_n 2, 1) := by decide +kernel
theorem d_L_law_234 : decode code 234 = .ok (.invokevirtual 74, 3) := by decide +kernel
theorem d_L_law_237 : decode code 237 = .ok (.iload 5, 2) := by decide +kernel
theorem d_L_law_239 : decode code 239 = .ok (.if_icmp .eq 5, 3) := by decide +kernel
theorem d_L_law_242 : decode code 242 = .ok (.iconst 0, 1) := by decide +kernel
theorem d_L_law_243 : decode code 243 = .ok (.ireturn, 1) := by decide +kernel
theorem d_L_law_244 : decode code 244 = .ok (.iload 5, 2) := by decide +kernel
theorem d_L_law_246 : decode code 246 = .ok (.ifCond .ne 15, 3) := by decide +kernel
theorem d_L_law_249 : decode code 249 = .ok (.aload_n 3, 1) := by decide +kernel
theorem d_L_law_250 : decode code 250 = .ok (.iconst 0, 1) := by decide +kernel
theorem d_L_law_251 : decode code 251 = .ok (.laload, 1) := by decide +kernel
theorem d_L_law_252 : decode code 252 = .ok (.iload 6, 2) := by decide +kernel
theorem d_L_law_254 : decode code 254 = .ok (.i2l, 1) := by decide +kernel
theorem d_L_law_255 : decode code 255 = .ok (.lcmp, 1) := by decide +kernel
theorem d_L_law_256 : decode code 256 = .ok (.ifCond .eq 5, 3) := by decide +kernel
theorem d_L_law_259 : decode code 259 = .ok (.iconst 0, 1) := by decide +kernel
theorem d_L_law_260 : decode code 260 = .ok (.ireturn, 1) := by decide +kernel
theorem d_L_law_261 : decode code 261 = .ok (.goto 711, 3) := by decide +kernel
theorem d_L_law_264 : decode code 264 = .ok (.aload_n 1, 1) := by decide +kernel
theorem d_L_law_265 : decode code 265 = .ok (.aload_n 0, 1) := by decide +kernel
theorem d_L_law_266 : decode code 266 = .ok (.iload 4, 2) := by decide +kernel
theorem d_L_law_268 : decode code 268 = .ok (.iconst 1, 1) := by decide +kernel
theorem d_L_law_269 : decode code 269 = .ok (.iadd, 1) := by decide +kernel
theorem d_L_law_270 : decode code 270 = .ok (.iaload, 1) := by decide +kernel
theorem d_L_law_271 : decode code 271 = .ok (.aload_n 3, 1) := by decide +kernel
theorem d_L_law_272 : decode code 272 = .ok (.invokestatic 85, 3) := by decide +kernel
theorem d_L_law_275 : decode code 275 = .ok (.istore 5, 2) := by decide +kernel
theorem d_L_law_277 : decode code 277 = .ok (.aload_n 2, 1) := by decide +kernel
theorem d_L_law_278 : decode code 278 = .ok (.aload_n 0, 1) := by decide +kernel
theorem d_L_law_279 : decode code 279 = .ok (.iload 4, 2) := by decide +kernel
theorem d_L_law_281 : decode code 281 = .ok (.iconst 1, 1) := by decide +kernel
theorem d_L_law_282 : decode code 282 = .ok (.iadd, 1) := by decide +kernel
theorem d_L_law_283 : decode code 283 = .ok (.iaload, 1) := by decide +kernel
theorem d_L_law_284 : decode code 284 = .ok (.invokevirtual 87, 3) := by decide +kernel
theorem d_L_law_287 : decode code 287 = .ok (.istore 6, 2) := by decide +kernel
theorem d_L_law_289 : decode code 289 = .ok (.aload_n 2, 1) := by decide +kernel
theorem d_L_law_290 : decode code 290 = .ok (.invokevirtual 74, 3) := by decide +kernel
theorem d_L_law_293 : decode code 293 = .ok (.iload 5, 2) := by decide +kernel
theorem d_L_law_295 : decode code 295 = .ok (.if_icmp .eq 5, 3) := by decide +kernel
theorem d_L_law_298 : decode code 298 = .ok (.iconst 0, 1) := by decide +kernel
theorem d_L_law_299 : decode code 299 = .ok (.ireturn, 1) := by decide +kernel
theorem d_L_law_300 : decode code 300 = .ok (.iload 5, 2) := by decide +kernel
theorem d_L_law_302 : decode code 302 = .ok (.ifCond .ne 15, 3) := by decide +kernel
theorem d_L_law_305 : decode code 305 = .ok (.aload_n 3, 1) := by decide +kernel
theorem d_L_law_306 : decode code 306 = .ok (.iconst 0, 1) := by decide +kernel
theorem d_L_law_307 : decode code 307 = .ok (.laload, 1) := by decide +kernel
theorem d_L_law_308 : decode code 308 = .ok (.iload 6, 2) := by decide +kernel
theorem d_L_law_310 : decode code 310 = .ok (.i2l, 1) := by decide +kernel
theorem d_L_law_311 : decode code 311 = .ok (.lcmp, 1) := by decide +kernel
theorem d_L_law_312 : decode code 312 = .ok (.ifCond .eq 5, 3) := by decide +kernel
theorem d_L_law_315 : decode code 315 = .ok (.iconst 0, 1) := by decide +kernel
theorem d_L_law_316 : decode code 316 = .ok (.ireturn, 1) := by decide +kernel
theorem d_L_law_317 : decode code 317 = .ok (.goto 655, 3) := by decide +kernel
theorem d_L_law_320 : decode code 320 = .ok (.aload_n 1, 1) := by decide +kernel
theorem d_L_law_321 : decode code 321 = .ok (.invokevirtual 88, 3) := by decide +kernel
theorem d_L_law_324 : decode code 324 = .ok (.aload_n 2, 1) := by decide +kernel
theorem d_L_law_325 : decode code 325 = .ok (.invokevirtual 91, 3) := by decide +kernel
theorem d_L_law_328 : decode code 328 = .ok (.if_icmp .eq 644, 3) := by decide +kernel
theorem d_L_law_331 : decode code 331 = .ok (.iconst 0, 1) := by decide +kernel
theorem d_L_law_332 : decode code 332 = .ok (.ireturn, 1) := by decide +kernel
theorem d_L_law_333 : decode code 333 = .ok (.aload_n 1, 1) := by decide +kernel
theorem d_L_law_334 : decode code 334 = .ok (.aload_n 0, 1) := by decide +kernel
theorem d_L_law_335 : decode code 335 = .ok (.iload 4, 2) := by decide +kernel
theorem d_L_law_337 : decode code 337 = .ok (.iconst 1, 1) := by decide +kernel
theorem d_L_law_338 : decode code 338 = .ok (.iadd, 1) := by decide +kernel
theorem d_L_law_339 : decode code 339 = .ok (.iaload, 1) := by decide +kernel
theorem d_L_law_340 : decode code 340 = .ok (.aload_n 0, 1) := by decide +kernel
theorem d_L_law_341 : decode code 341 = .ok (.iload 4, 2) := by decide +kernel
theorem d_L_law_343 : decode code 343 = .ok (.iconst 2, 1) := by decide +kernel
theorem d_L_law_344 : decode code 344 = .ok (.iadd, 1) := by decide +kernel
theorem d_L_law_345 : decode code 345 = .ok (.iaload, 1) := by decide +kernel
theorem d_L_law_346 : decode code 346 = .ok (.ifCond .eq 7, 3) := by decide +kernel
theorem d_L_law_349 : decode code 349 = .ok (.iconst 1, 1) := by decide +kernel
theorem d_L_law_350 : decode code 350 = .ok (.goto 4, 3) := by decide +kernel
theorem d_L_law_353 : decode code 353 = .ok (.iconst 0, 1) := by decide +kernel
theorem d_L_law_354 : decode code 354 = .ok (.aload_n 3, 1) := by decide +kernel
theorem d_L_law_355 : decode code 355 = .ok (.invokestatic 92, 3) := by decide +kernel
theorem d_L_law_358 : decode code 358 = .ok (.istore 5, 2) := by decide +kernel
theorem d_L_law_360 : decode code 360 = .ok (.aload_n 2, 1) := by decide +kernel
theorem d_L_law_361 : decode code 361 = .ok (.aload_n 0, 1) := by decide +kernel
theorem d_L_law_362 : decode code 362 = .ok (.iload 4, 2) := by decide +kernel
theorem d_L_law_364 : decode code 364 = .ok (.iconst 1, 1) := by decide +kernel
theorem d_L_law_365 : decode code 365 = .ok (.iadd, 1) := by decide +kernel
theorem d_L_law_366 : decode code 366 = .ok (.iaload, 1) := by decide +kernel
theorem d_L_law_367 : decode code 367 = .ok (.aload_n 0, 1) := by decide +kernel
theorem d_L_law_368 : decode code 368 = .ok (.iload 4, 2) := by decide +kernel
theorem d_L_law_370 : decode code 370 = .ok (.iconst 2, 1) := by decide +kernel
theorem d_L_law_371 : decode code 371 = .ok (.iadd, 1) := by decide +kernel
theorem d_L_law_372 : decode code 372 = .ok (.iaload, 1) := by decide +kernel
theorem d_L_law_373 : decode code 373 = .ok (.ifCond .eq 7, 3) := by decide +kernel
theorem d_L_law_376 : decode code 376 = .ok (.iconst 1, 1) := by decide +kernel
theorem d_L_law_377 : decode code 377 = .ok (.goto 4, 3) := by decide +kernel
theorem d_L_law_380 : decode code 380 = .ok (.iconst 0, 1) := by decide +kernel
theorem d_L_law_381 : decode code 381 = .ok (.invokevirtual 95, 3) := by decide +kernel
theorem d_L_law_384 : decode code 384 = .ok (.istore 6, 2) := by decide +kernel
theorem d_L_law_386 : decode code 386 = .ok (.aload_n 2, 1) := by decide +kernel
theorem d_L_law_387 : decode code 387 = .ok (.invokevirtual 74, 3) := by decide +kernel
theorem d_L_law_390 : decode code 390 = .ok (.iload 5, 2) := by decide +kernel
theorem d_L_law_392 : decode code 392 = .ok (.if_icmp .eq 5, 3) := by decide +kernel
theorem d_L_law_395 : decode code 395 = .ok (.iconst 0, 1) := by decide +kernel
theorem d_L_law_396 : decode code 396 = .ok (.ireturn, 1) := by decide +kernel
theorem d_L_law_397 : decode code 397 = .ok (.iload 5, 2) := by decide +kernel
theorem d_L_law_399 : decode code 399 = .ok (.ifCond .ne 15, 3) := by decide +kernel
theorem d_L_law_402 : decode code 402 = .ok (.aload_n 3, 1) := by decide +kernel
theorem d_L_law_403 : decode code 403 = .ok (.iconst 0, 1) := by decide +kernel
theorem d_L_law_404 : decode code 404 = .ok (.laload, 1) := by decide +kernel
theorem d_L_law_405 : decode code 405 = .ok (.iload 6, 2) := by decide +kernel
theorem d_L_law_407 : decode code 407 = .ok (.i2l, 1) := by decide +kernel
theorem d_L_law_408 : decode code 408 = .ok (.lcmp, 1) := by decide +kernel
theorem d_L_law_409 : decode code 409 = .ok (.ifCond .eq 5, 3) := by decide +kernel
theorem d_L_law_412 : decode code 412 = .ok (.iconst 0, 1) := by decide +kernel
theorem d_L_law_413 : decode code 413 = .ok (.ireturn, 1) := by decide +kernel
theorem d_L_law_414 : decode code 414 = .ok (.goto 558, 3) := by decide +kernel
theorem d_L_law_417 : decode code 417 = .ok (.aload_n 1, 1) := by decide +kernel
theorem d_L_law_418 : decode code 418 = .ok (.aload_n 0, 1) := by decide +kernel
theorem d_L_law_419 : decode code 419 = .ok (.iload 4, 2) := by decide +kernel
theorem d_L_law_421 : decode code 421 = .ok (.iconst 1, 1) := by decide +kernel
theorem d_L_law_422 : decode code 422 = .ok (.iadd, 1) := by decide +kernel
theorem d_L_law_423 : decode code 423 = .ok (.iaload, 1) := by decide +kernel
theorem d_L_law_424 : decode code 424 = .ok (.aload_n 3, 1) := by decide +kernel
theorem d_L_law_425 : decode code 425 = .ok (.invokestatic 96, 3) := by decide +kernel
theorem d_L_law_428 : decode code 428 = .ok (.istore 5, 2) := by decide +kernel
theorem d_L_law_430 : decode code 430 = .ok (.aload_n 2, 1) := by decide +kernel
theorem d_L_law_431 : decode code 431 = .ok (.aload_n 0, 1) := by decide +kernel
theorem d_L_law_432 : decode code 432 = .ok (.iload 4, 2) := by decide +kernel
theorem d_L_law_434 : decode code 434 = .ok (.iconst 1, 1) := by decide +kernel
theorem d_L_law_435 : decode code 435 = .ok (.iadd, 1) := by decide +kernel
theorem d_L_law_436 : decode code 436 = .ok (.iaload, 1) := by decide +kernel
theorem d_L_law_437 : decode code 437 = .ok (.invokevirtual 98, 3) := by decide +kernel
theorem d_L_law_440 : decode code 440 = .ok (.lstore 6, 2) := by decide +kernel
theorem d_L_law_442 : decode code 442 = .ok (.aload_n 2, 1) := by decide +kernel
theorem d_L_law_443 : decode code 443 = .ok (.invokevirtual 74, 3) := by decide +kernel
theorem d_L_law_446 : decode code 446 = .ok (.iload 5, 2) := by decide +kernel
theorem d_L_law_448 : decode code 448 = .ok (.if_icmp .eq 5, 3) := by decide +kernel
theorem d_L_law_451 : decode code 451 = .ok (.iconst 0, 1) := by decide +kernel
theorem d_L_law_452 : decode code 452 = .ok (.ireturn, 1) := by decide +kernel
theorem d_L_law_453 : decode code 453 = .ok (.iload 5, 2) := by decide +kernel
theorem d_L_law_455 : decode code 455 = .ok (.ifCond .ne 14, 3) := by decide +kernel
theorem d_L_law_458 : decode code 458 = .ok (.aload_n 3, 1) := by decide +kernel
theorem d_L_law_459 : decode code 459 = .ok (.iconst 0, 1) := by decide +kernel
theorem d_L_law_460 : decode code 460 = .ok (.laload, 1) := by decide +kernel
theorem d_L_law_461 : decode code 461 = .ok (.lload 6, 2) := by decide +kernel
theorem d_L_law_463 : decode code 463 = .ok (.lcmp, 1) := by decide +kernel
theorem d_L_law_464 : decode code 464 = .ok (.ifCond .eq 5, 3) := by decide +kernel
theorem d_L_law_467 : decode code 467 = .ok (.iconst 0, 1) := by decide +kernel
theorem d_L_law_468 : decode code 468 = .ok (.ireturn, 1) := by decide +kernel
theorem d_L_law_469 : decode code 469 = .ok (.goto 503, 3) := by decide +kernel
theorem d_L_law_472 : decode code 472 = .ok (.aload_n 1, 1) := by decide +kernel
theorem d_L_law_473 : decode code 473 = .ok (.aload_n 0, 1) := by decide +kernel
theorem d_L_law_474 : decode code 474 = .ok (.iload 4, 2) := by decide +kernel
theorem d_L_law_476 : decode code 476 = .ok (.iconst 1, 1) := by decide +kernel
theorem d_L_law_477 : decode code 477 = .ok (.iadd, 1) := by decide +kernel
theorem d_L_law_478 : decode code 478 = .ok (.iaload, 1) := by decide +kernel
theorem d_L_law_479 : decode code 479 = .ok (.aload_n 0, 1) := by decide +kernel
theorem d_L_law_480 : decode code 480 = .ok (.iload 4, 2) := by decide +kernel
theorem d_L_law_482 : decode code 482 = .ok (.iconst 2, 1) := by decide +kernel
theorem d_L_law_483 : decode code 483 = .ok (.iadd, 1) := by decide +kernel
theorem d_L_law_484 : decode code 484 = .ok (.iaload, 1) := by decide +kernel
theorem d_L_law_485 : decode code 485 = .ok (.aload_n 0, 1) := by decide +kernel
theorem d_L_law_486 : decode code 486 = .ok (.iload 4, 2) := by decide +kernel
theorem d_L_law_488 : decode code 488 = .ok (.iconst 3, 1) := by decide +kernel
theorem d_L_law_489 : decode code 489 = .ok (.iadd, 1) := by decide +kernel
theorem d_L_law_490 : decode code 490 = .ok (.iaload, 1) := by decide +kernel
theorem d_L_law_491 : decode code 491 = .ok (.i2l, 1) := by decide +kernel
theorem d_L_law_492 : decode code 492 = .ok (.bipush 32, 2) := by decide +kernel
theorem d_L_law_494 : decode code 494 = .ok (.lshl, 1) := by decide +kernel
theorem d_L_law_495 : decode code 495 = .ok (.aload_n 0, 1) := by decide +kernel
theorem d_L_law_496 : decode code 496 = .ok (.iload 4, 2) := by decide +kernel
theorem d_L_law_498 : decode code 498 = .ok (.iconst 4, 1) := by decide +kernel
theorem d_L_law_499 : decode code 499 = .ok (.iadd, 1) := by decide +kernel
theorem d_L_law_500 : decode code 500 = .ok (.iaload, 1) := by decide +kernel
theorem d_L_law_501 : decode code 501 = .ok (.i2l, 1) := by decide +kernel
theorem d_L_law_502 : decode code 502 = .ok (.ldc2_w 99, 3) := by decide +kernel
theorem d_L_law_505 : decode code 505 = .ok (.land, 1) := by decide +kernel
theorem d_L_law_506 : decode code 506 = .ok (.lor, 1) := by decide +kernel
theorem d_L_law_507 : decode code 507 = .ok (.invokestatic 101, 3) := by decide +kernel
theorem d_L_law_510 : decode code 510 = .ok (.istore 5, 2) := by decide +kernel
theorem d_L_law_512 : decode code 512 = .ok (.aload_n 2, 1) := by decide +kernel
theorem d_L_law_513 : decode code 513 = .ok (.aload_n 0, 1) := by decide +kernel
theorem d_L_law_514 : decode code 514 = .ok (.iload 4, 2) := by decide +kernel
theorem d_L_law_516 : decode code 516 = .ok (.iconst 1, 1) := by decide +kernel
theorem d_L_law_517 : decode code 517 = .ok (.iadd, 1) := by decide +kernel
theorem d_L_law_518 : decode code 518 = .ok (.iaload, 1) := by decide +kernel
theorem d_L_law_519 : decode code 519 = .ok (.aload_n 0, 1) := by decide +kernel
theorem d_L_law_520 : decode code 520 = .ok (.iload 4, 2) := by decide +kernel
theorem d_L_law_522 : decode code 522 = .ok (.iconst 2, 1) := by decide +kernel
theorem d_L_law_523 : decode code 523 = .ok (.iadd, 1) := by decide +kernel
theorem d_L_law_524 : decode code 524 = .ok (.iaload, 1) := by decide +kernel
theorem d_L_law_525 : decode code 525 = .ok (.aload_n 0, 1) := by decide +kernel
theorem d_L_law_526 : decode code 526 = .ok (.iload 4, 2) := by decide +kernel
theorem d_L_law_528 : decode code 528 = .ok (.iconst 3, 1) := by decide +kernel
theorem d_L_law_529 : decode code 529 = .ok (.iadd, 1) := by decide +kernel
theorem d_L_law_530 : decode code 530 = .ok (.iaload, 1) := by decide +kernel
theorem d_L_law_531 : decode code 531 = .ok (.i2l, 1) := by decide +kernel
theorem d_L_law_532 : decode code 532 = .ok (.bipush 32, 2) := by decide +kernel
theorem d_L_law_534 : decode code 534 = .ok (.lshl, 1) := by decide +kernel
theorem d_L_law_535 : decode code 535 = .ok (.aload_n 0, 1) := by decide +kernel
theorem d_L_law_536 : decode code 536 = .ok (.iload 4, 2) := by decide +kernel
theorem d_L_law_538 : decode code 538 = .ok (.iconst 4, 1) := by decide +kernel
theorem d_L_law_539 : decode code 539 = .ok (.iadd, 1) := by decide +kernel
theorem d_L_law_540 : decode code 540 = .ok (.iaload, 1) := by decide +kernel
theorem d_L_law_541 : decode code 541 = .ok (.i2l, 1) := by decide +kernel
theorem d_L_law_542 : decode code 542 = .ok (.ldc2_w 99, 3) := by decide +kernel
theorem d_L_law_545 : decode code 545 = .ok (.land, 1) := by decide +kernel
theorem d_L_law_546 : decode code 546 = .ok (.lor, 1) := by decide +kernel
theorem d_L_law_547 : decode code 547 = .ok (.invokevirtual 104, 3) := by decide +kernel
theorem d_L_law_550 : decode code 550 = .ok (.aload_n 2, 1) := by decide +kernel
theorem d_L_law_551 : decode code 551 = .ok (.invokevirtual 74, 3) := by decide +kernel
theorem d_L_law_554 : decode code 554 = .ok (.iload 5, 2) := by decide +kernel
theorem d_L_law_556 : decode code 556 = .ok (.if_icmp .eq 5, 3) := by decide +kernel
theorem d_L_law_559 : decode code 559 = .ok (.iconst 0, 1) := by decide +kernel
theorem d_L_law_560 : decode code 560 = .ok (.ireturn, 1) := by decide +kernel
theorem d_L_law_561 : decode code 561 = .ok (.goto 411, 3) := by decide +kernel
theorem d_L_law_564 : decode code 564 = .ok (.aload_n 1, 1) := by decide +kernel
theorem d_L_law_565 : decode code 565 = .ok (.aload_n 0, 1) := by decide +kernel
theorem d_L_law_566 : decode code 566 = .ok (.iload 4, 2) := by decide +kernel
theorem d_L_law_568 : decode code 568 = .ok (.iconst 1, 1) := by decide +kernel
theorem d_L_law_569 : decode code 569 = .ok (.iadd, 1) := by decide +kernel
theorem d_L_law_570 : decode code 570 = .ok (.iaload, 1) := by decide +kernel
theorem d_L_law_571 : decode code 571 = .ok (.i2l, 1) := by decide +kernel
theorem d_L_law_572 : decode code 572 = .ok (.bipush 32, 2) := by decide +kernel
theorem d_L_law_574 : decode code 574 = .ok (.lshl, 1) := by decide +kernel
theorem d_L_law_575 : decode code 575 = .ok (.aload_n 0, 1) := by decide +kernel
theorem d_L_law_576 : decode code 576 = .ok (.iload 4, 2) := by decide +kernel
theorem d_L_law_578 : decode code 578 = .ok (.iconst 2, 1) := by decide +kernel
theorem d_L_law_579 : decode code 579 = .ok (.iadd, 1) := by decide +kernel
theorem d_L_law_580 : decode code 580 = .ok (.iaload, 1) := by decide +kernel
theorem d_L_law_581 : decode code 581 = .ok (.i2l, 1) := by decide +kernel
theorem d_L_law_582 : decode code 582 = .ok (.ldc2_w 99, 3) := by decide +kernel
theorem d_L_law_585 : decode code 585 = .ok (.land, 1) := by decide +kernel
theorem d_L_law_586 : decode code 586 = .ok (.lor, 1) := by decide +kernel
theorem d_L_law_587 : decode code 587 = .ok (.invokevirtual 105, 3) := by decide +kernel
theorem d_L_law_590 : decode code 590 = .ok (.aload_n 2, 1) := by decide +kernel
theorem d_L_law_591 : decode code 591 = .ok (.aload_n 0, 1) := by decide +kernel
theorem d_L_law_592 : decode code 592 = .ok (.iload 4, 2) := by decide +kernel
theorem d_L_law_594 : decode code 594 = .ok (.iconst 1, 1) := by decide +kernel
theorem d_L_law_595 : decode code 595 = .ok (.iadd, 1) := by decide +kernel
theorem d_L_law_596 : decode code 596 = .ok (.iaload, 1) := by decide +kernel
theorem d_L_law_597 : decode code 597 = .ok (.i2l, 1) := by decide +kernel
theorem d_L_law_598 : decode code 598 = .ok (.bipush 32, 2) := by decide +kernel
theorem d_L_law_600 : decode code 600 = .ok (.lshl, 1) := by decide +kernel
theorem d_L_law_601 : decode code 601 = .ok (.aload_n 0, 1) := by decide +kernel
theorem d_L_law_602 : decode code 602 = .ok (.iload 4, 2) := by decide +kernel
theorem d_L_law_604 : decode code 604 = .ok (.iconst 2, 1) := by decide +kernel
theorem d_L_law_605 : decode code 605 = .ok (.iadd, 1) := by decide +kernel
theorem d_L_law_606 : decode code 606 = .ok (.iaload, 1) := by decide +kernel
theorem d_L_law_607 : decode code 607 = .ok (.i2l, 1) := by decide +kernel
theorem d_L_law_608 : decode code 608 = .ok (.ldc2_w 99, 3) := by decide +kernel
theorem d_L_law_611 : decode code 611 = .ok (.land, 1) := by decide +kernel
theorem d_L_law_612 : decode code 612 = .ok (.lor, 1) := by decide +kernel
theorem d_L_law_613 : decode code 613 = .ok (.invokevirtual 109, 3) := by decide +kernel
theorem d_L_law_616 : decode code 616 = .ok (.lcmp, 1) := by decide +kernel
theorem d_L_law_617 : decode code 617 = .ok (.ifCond .eq 355, 3) := by decide +kernel
theorem d_L_law_620 : decode code 620 = .ok (.iconst 0, 1) := by decide +kernel
theorem d_L_law_621 : decode code 621 = .ok (.ireturn, 1) := by decide +kernel
theorem d_L_law_622 : decode code 622 = .ok (.aload_n 1, 1) := by decide +kernel
theorem d_L_law_623 : decode code 623 = .ok (.aload_n 0, 1) := by decide +kernel
theorem d_L_law_624 : decode code 624 = .ok (.iload 4, 2) := by decide +kernel
theorem d_L_law_626 : decode code 626 = .ok (.iconst 1, 1) := by decide +kernel
theorem d_L_law_627 : decode code 627 = .ok (.iadd, 1) := by decide +kernel
theorem d_L_law_628 : decode code 628 = .ok (.iaload, 1) := by decide +kernel
theorem d_L_law_629 : decode code 629 = .ok (.i2l, 1) := by decide +kernel
theorem d_L_law_630 : decode code 630 = .ok (.bipush 32, 2) := by decide +kernel
theorem d_L_law_632 : decode code 632 = .ok (.lshl, 1) := by decide +kernel
theorem d_L_law_633 : decode code 633 = .ok (.aload_n 0, 1) := by decide +kernel
theorem d_L_law_634 : decode code 634 = .ok (.iload 4, 2) := by decide +kernel
theorem d_L_law_636 : decode code 636 = .ok (.iconst 2, 1) := by decide +kernel
theorem d_L_law_637 : decode code 637 = .ok (.iadd, 1) := by decide +kernel
theorem d_L_law_638 : decode code 638 = .ok (.iaload, 1) := by decide +kernel
theorem d_L_law_639 : decode code 639 = .ok (.i2l, 1) := by decide +kernel
theorem d_L_law_640 : decode code 640 = .ok (.ldc2_w 99, 3) := by decide +kernel
theorem d_L_law_643 : decode code 643 = .ok (.land, 1) := by decide +kernel
theorem d_L_law_644 : decode code 644 = .ok (.lor, 1) := by decide +kernel
theorem d_L_law_645 : decode code 645 = .ok (.invokevirtual 110, 3) := by decide +kernel
theorem d_L_law_648 : decode code 648 = .ok (.aload_n 2, 1) := by decide +kernel
theorem d_L_law_649 : decode code 649 = .ok (.aload_n 0, 1) := by decide +kernel
theorem d_L_law_650 : decode code 650 = .ok (.iload 4, 2) := by decide +kernel
theorem d_L_law_652 : decode code 652 = .ok (.iconst 1, 1) := by decide +kernel
theorem d_L_law_653 : decode code 653 = .ok (.iadd, 1) := by decide +kernel
theorem d_L_law_654 : decode code 654 = .ok (.iaload, 1) := by decide +kernel
theorem d_L_law_655 : decode code 655 = .ok (.i2l, 1) := by decide +kernel
theorem d_L_law_656 : decode code 656 = .ok (.bipush 32, 2) := by decide +kernel
theorem d_L_law_658 : decode code 658 = .ok (.lshl, 1) := by decide +kernel
theorem d_L_law_659 : decode code 659 = .ok (.aload_n 0, 1) := by decide +kernel
theorem d_L_law_660 : decode code 660 = .ok (.iload 4, 2) := by decide +kernel
theorem d_L_law_662 : decode code 662 = .ok (.iconst 2, 1) := by decide +kernel
theorem d_L_law_663 : decode code 663 = .ok (.iadd, 1) := by decide +kernel
theorem d_L_law_664 : decode code 664 = .ok (.iaload, 1) := by decide +kernel
theorem d_L_law_665 : decode code 665 = .ok (.i2l, 1) := by decide +kernel
theorem d_L_law_666 : decode code 666 = .ok (.ldc2_w 99, 3) := by decide +kernel
theorem d_L_law_669 : decode code 669 = .ok (.land, 1) := by decide +kernel
theorem d_L_law_670 : decode code 670 = .ok (.lor, 1) := by decide +kernel
theorem d_L_law_671 : decode code 671 = .ok (.invokevirtual 113, 3) := by decide +kernel
theorem d_L_law_674 : decode code 674 = .ok (.lcmp, 1) := by decide +kernel
theorem d_L_law_675 : decode code 675 = .ok (.ifCond .eq 297, 3) := by decide +kernel
theorem d_L_law_678 : decode code 678 = .ok (.iconst 0, 1) := by decide +kernel
theorem d_L_law_679 : decode code 679 = .ok (.ireturn, 1) := by decide +kernel
theorem d_L_law_680 : decode code 680 = .ok (.aload_n 1, 1) := by decide +kernel
theorem d_L_law_681 : decode code 681 = .ok (.invokevirtual 114, 3) := by decide +kernel
theorem d_L_law_684 : decode code 684 = .ok (.aload_n 2, 1) := by decide +kernel
theorem d_L_law_685 : decode code 685 = .ok (.invokevirtual 117, 3) := by decide +kernel
theorem d_L_law_688 : decode code 688 = .ok (.if_icmp .eq 284, 3) := by decide +kernel
theorem d_L_law_691 : decode code 691 = .ok (.iconst 0, 1) := by decide +kernel
theorem d_L_law_692 : decode code 692 = .ok (.ireturn, 1) := by decide +kernel
theorem d_L_law_693 : decode code 693 = .ok (.aload_n 1, 1) := by decide +kernel
theorem d_L_law_694 : decode code 694 = .ok (.aload_n 0, 1) := by decide +kernel
theorem d_L_law_695 : decode code 695 = .ok (.iload 4, 2) := by decide +kernel
theorem d_L_law_697 : decode code 697 = .ok (.iconst 1, 1) := by decide +kernel
theorem d_L_law_698 : decode code 698 = .ok (.iadd, 1) := by decide +kernel
theorem d_L_law_699 : decode code 699 = .ok (.iaload, 1) := by decide +kernel
theorem d_L_law_700 : decode code 700 = .ok (.aload_n 3, 1) := by decide +kernel
theorem d_L_law_701 : decode code 701 = .ok (.invokestatic 118, 3) := by decide +kernel
theorem d_L_law_704 : decode code 704 = .ok (.istore 5, 2) := by decide +kernel
theorem d_L_law_706 : decode code 706 = .ok (.aload_n 2, 1) := by decide +kernel
theorem d_L_law_707 : decode code 707 = .ok (.aload_n 0, 1) := by decide +kernel
theorem d_L_law_708 : decode code 708 = .ok (.iload 4, 2) := by decide +kernel
theorem d_L_law_710 : decode code 710 = .ok (.iconst 1, 1) := by decide +kernel
theorem d_L_law_711 : decode code 711 = .ok (.iadd, 1) := by decide +kernel
theorem d_L_law_712 : decode code 712 = .ok (.iaload, 1) := by decide +kernel
theorem d_L_law_713 : decode code 713 = .ok (.invokevirtual 120, 3) := by decide +kernel
theorem d_L_law_716 : decode code 716 = .ok (.lstore 6, 2) := by decide +kernel
theorem d_L_law_718 : decode code 718 = .ok (.aload_n 2, 1) := by decide +kernel
theorem d_L_law_719 : decode code 719 = .ok (.invokevirtual 74, 3) := by decide +kernel
theorem d_L_law_722 : decode code 722 = .ok (.iload 5, 2) := by decide +kernel
theorem d_L_law_724 : decode code 724 = .ok (.if_icmp .eq 5, 3) := by decide +kernel
theorem d_L_law_727 : decode code 727 = .ok (.iconst 0, 1) := by decide +kernel
theorem d_L_law_728 : decode code 728 = .ok (.ireturn, 1) := by decide +kernel
theorem d_L_law_729 : decode code 729 = .ok (.iload 5, 2) := by decide +kernel
theorem d_L_law_731 : decode code 731 = .ok (.ifCond .ne 14, 3) := by decide +kernel
theorem d_L_law_734 : decode code 734 = .ok (.aload_n 3, 1) := by decide +kernel
theorem d_L_law_735 : decode code 735 = .ok (.iconst 0, 1) := by decide +kernel
theorem d_L_law_736 : decode code 736 = .ok (.laload, 1) := by decide +kernel
theorem d_L_law_737 : decode code 737 = .ok (.lload 6, 2) := by decide +kernel
theorem d_L_law_739 : decode code 739 = .ok (.lcmp, 1) := by decide +kernel
theorem d_L_law_740 : decode code 740 = .ok (.ifCond .eq 5, 3) := by decide +kernel
theorem d_L_law_743 : decode code 743 = .ok (.iconst 0, 1) := by decide +kernel
theorem d_L_law_744 : decode code 744 = .ok (.ireturn, 1) := by decide +kernel
theorem d_L_law_745 : decode code 745 = .ok (.goto 227, 3) := by decide +kernel
theorem d_L_law_748 : decode code 748 = .ok (.aload_n 1, 1) := by decide +kernel
theorem d_L_law_749 : decode code 749 = .ok (.aload_n 0, 1) := by decide +kernel
theorem d_L_law_750 : decode code 750 = .ok (.iload 4, 2) := by decide +kernel
theorem d_L_law_752 : decode code 752 = .ok (.iconst 1, 1) := by decide +kernel
theorem d_L_law_753 : decode code 753 = .ok (.iadd, 1) := by decide +kernel
theorem d_L_law_754 : decode code 754 = .ok (.iaload, 1) := by decide +kernel
theorem d_L_law_755 : decode code 755 = .ok (.aload_n 3, 1) := by decide +kernel
theorem d_L_law_756 : decode code 756 = .ok (.invokestatic 121, 3) := by decide +kernel
theorem d_L_law_759 : decode code 759 = .ok (.istore 5, 2) := by decide +kernel
theorem d_L_law_761 : decode code 761 = .ok (.aload_n 2, 1) := by decide +kernel
theorem d_L_law_762 : decode code 762 = .ok (.aload_n 0, 1) := by decide +kernel
theorem d_L_law_763 : decode code 763 = .ok (.iload 4, 2) := by decide +kernel
theorem d_L_law_765 : decode code 765 = .ok (.iconst 1, 1) := by decide +kernel
theorem d_L_law_766 : decode code 766 = .ok (.iadd, 1) := by decide +kernel
theorem d_L_law_767 : decode code 767 = .ok (.iaload, 1) := by decide +kernel
theorem d_L_law_768 : decode code 768 = .ok (.invokevirtual 123, 3) := by decide +kernel
theorem d_L_law_771 : decode code 771 = .ok (.istore 6, 2) := by decide +kernel
theorem d_L_law_773 : decode code 773 = .ok (.aload_n 2, 1) := by decide +kernel
theorem d_L_law_774 : decode code 774 = .ok (.invokevirtual 74, 3) := by decide +kernel
theorem d_L_law_777 : decode code 777 = .ok (.iload 5, 2) := by decide +kernel
theorem d_L_law_779 : decode code 779 = .ok (.if_icmp .eq 5, 3) := by decide +kernel
theorem d_L_law_782 : decode code 782 = .ok (.iconst 0, 1) := by decide +kernel
theorem d_L_law_783 : decode code 783 = .ok (.ireturn, 1) := by decide +kernel
theorem d_L_law_784 : decode code 784 = .ok (.iload 5, 2) := by decide +kernel
theorem d_L_law_786 : decode code 786 = .ok (.ifCond .ne 22, 3) := by decide +kernel
theorem d_L_law_789 : decode code 789 = .ok (.aload_n 3, 1) := by decide +kernel
theorem d_L_law_790 : decode code 790 = .ok (.iconst 0, 1) := by decide +kernel
theorem d_L_law_791 : decode code 791 = .ok (.laload, 1) := by decide +kernel
theorem d_L_law_792 : decode code 792 = .ok (.iload 6, 2) := by decide +kernel
theorem d_L_law_794 : decode code 794 = .ok (.ifCond .eq 7, 3) := by decide +kernel
theorem d_L_law_797 : decode code 797 = .ok (.lconst 1, 1) := by decide +kernel
theorem d_L_law_798 : decode code 798 = .ok (.goto 4, 3) := by decide +kernel
theorem d_L_law_801 : decode code 801 = .ok (.lconst 0, 1) := by decide +kernel
theorem d_L_law_802 : decode code 802 = .ok (.lcmp, 1) := by decide +kernel
theorem d_L_law_803 : decode code 803 = .ok (.ifCond .eq 5, 3) := by decide +kernel
theorem d_L_law_806 : decode code 806 = .ok (.iconst 0, 1) := by decide +kernel
theorem d_L_law_807 : decode code 807 = .ok (.ireturn, 1) := by decide +kernel
theorem d_L_law_808 : decode code 808 = .ok (.goto 164, 3) := by decide +kernel
theorem d_L_law_811 : decode code 811 = .ok (.aload_n 1, 1) := by decide +kernel
theorem d_L_law_812 : decode code 812 = .ok (.invokevirtual 124, 3) := by decide +kernel
theorem d_L_law_815 : decode code 815 = .ok (.aload_n 2, 1) := by decide +kernel
theorem d_L_law_816 : decode code 816 = .ok (.invokevirtual 127, 3) := by decide +kernel
theorem d_L_law_819 : decode code 819 = .ok (.if_icmp .eq 153, 3) := by decide +kernel
theorem d_L_law_822 : decode code 822 = .ok (.iconst 0, 1) := by decide +kernel
theorem d_L_law_823 : decode code 823 = .ok (.ireturn, 1) := by decide +kernel
theorem d_L_law_824 : decode code 824 = .ok (.aload_n 1, 1) := by decide +kernel
theorem d_L_law_825 : decode code 825 = .ok (.aload_n 3, 1) := by decide +kernel
theorem d_L_law_826 : decode code 826 = .ok (.invokestatic 128, 3) := by decide +kernel
theorem d_L_law_829 : decode code 829 = .ok (.istore 5, 2) := by decide +kernel
theorem d_L_law_831 : decode code 831 = .ok (.aload_n 2, 1) := by decide +kernel
theorem d_L_law_832 : decode code 832 = .ok (.invokevirtual 131, 3) := by decide +kernel
theorem d_L_law_835 : decode code 835 = .ok (.istore 6, 2) := by decide +kernel
theorem d_L_law_837 : decode code 837 = .ok (.aload_n 2, 1) := by decide +kernel
theorem d_L_law_838 : decode code 838 = .ok (.invokevirtual 74, 3) := by decide +kernel
theorem d_L_law_841 : decode code 841 = .ok (.iload 5, 2) := by decide +kernel
theorem d_L_law_843 : decode code 843 = .ok (.if_icmp .eq 5, 3) := by decide +kernel
theorem d_L_law_846 : decode code 846 = .ok (.iconst 0, 1) := by decide +kernel
theorem d_L_law_847 : decode code 847 = .ok (.ireturn, 1) := by decide +kernel
theorem d_L_law_848 : decode code 848 = .ok (.iload 5, 2) := by decide +kernel
theorem d_L_law_850 : decode code 850 = .ok (.ifCond .ne 15, 3) := by decide +kernel
theorem d_L_law_853 : decode code 853 = .ok (.aload_n 3, 1) := by decide +kernel
theorem d_L_law_854 : decode code 854 = .ok (.iconst 0, 1) := by decide +kernel
theorem d_L_law_855 : decode code 855 = .ok (.laload, 1) := by decide +kernel
theorem d_L_law_856 : decode code 856 = .ok (.iload 6, 2) := by decide +kernel
theorem d_L_law_858 : decode code 858 = .ok (.i2l, 1) := by decide +kernel
theorem d_L_law_859 : decode code 859 = .ok (.lcmp, 1) := by decide +kernel
theorem d_L_law_860 : decode code 860 = .ok (.ifCond .eq 5, 3) := by decide +kernel
theorem d_L_law_863 : decode code 863 = .ok (.iconst 0, 1) := by decide +kernel
theorem d_L_law_864 : decode code 864 = .ok (.ireturn, 1) := by decide +kernel
theorem d_L_law_865 : decode code 865 = .ok (.goto 107, 3) := by decide +kernel
theorem d_L_law_868 : decode code 868 = .ok (.aload_n 1, 1) := by decide +kernel
theorem d_L_law_869 : decode code 869 = .ok (.aload_n 0, 1) := by decide +kernel
theorem d_L_law_870 : decode code 870 = .ok (.iload 4, 2) := by decide +kernel
theorem d_L_law_872 : decode code 872 = .ok (.iconst 1, 1) := by decide +kernel
theorem d_L_law_873 : decode code 873 = .ok (.iadd, 1) := by decide +kernel
theorem d_L_law_874 : decode code 874 = .ok (.iaload, 1) := by decide +kernel
theorem d_L_law_875 : decode code 875 = .ok (.invokestatic 132, 3) := by decide +kernel
theorem d_L_law_878 : decode code 878 = .ok (.istore 5, 2) := by decide +kernel
theorem d_L_law_880 : decode code 880 = .ok (.aload_n 2, 1) := by decide +kernel
theorem d_L_law_881 : decode code 881 = .ok (.aload_n 0, 1) := by decide +kernel
theorem d_L_law_882 : decode code 882 = .ok (.iload 4, 2) := by decide +kernel
theorem d_L_law_884 : decode code 884 = .ok (.iconst 1, 1) := by decide +kernel
theorem d_L_law_885 : decode code 885 = .ok (.iadd, 1) := by decide +kernel
theorem d_L_law_886 : decode code 886 = .ok (.iaload, 1) := by decide +kernel
theorem d_L_law_887 : decode code 887 = .ok (.invokevirtual 134, 3) := by decide +kernel
theorem d_L_law_890 : decode code 890 = .ok (.aload_n 2, 1) := by decide +kernel
theorem d_L_law_891 : decode code 891 = .ok (.invokevirtual 74, 3) := by decide +kernel
theorem d_L_law_894 : decode code 894 = .ok (.iload 5, 2) := by decide +kernel
theorem d_L_law_896 : decode code 896 = .ok (.if_icmp .eq 5, 3) := by decide +kernel
theorem d_L_law_899 : decode code 899 = .ok (.iconst 0, 1) := by decide +kernel
theorem d_L_law_900 : decode code 900 = .ok (.ireturn, 1) := by decide +kernel
theorem d_L_law_901 : decode code 901 = .ok (.goto 71, 3) := by decide +kernel
theorem d_L_law_904 : decode code 904 = .ok (.aload_n 1, 1) := by decide +kernel
theorem d_L_law_905 : decode code 905 = .ok (.invokestatic 135, 3) := by decide +kernel
theorem d_L_law_908 : decode code 908 = .ok (.istore 5, 2) := by decide +kernel
theorem d_L_law_910 : decode code 910 = .ok (.aload_n 2, 1) := by decide +kernel
theorem d_L_law_911 : decode code 911 = .ok (.invokevirtual 138, 3) := by decide +kernel
theorem d_L_law_914 : decode code 914 = .ok (.aload_n 2, 1) := by decide +kernel
theorem d_L_law_915 : decode code 915 = .ok (.invokevirtual 74, 3) := by decide +kernel
theorem d_L_law_918 : decode code 918 = .ok (.iload 5, 2) := by decide +kernel
theorem d_L_law_920 : decode code 920 = .ok (.if_icmp .eq 5, 3) := by decide +kernel
theorem d_L_law_923 : decode code 923 = .ok (.iconst 0, 1) := by decide +kernel
theorem d_L_law_924 : decode code 924 = .ok (.ireturn, 1) := by decide +kernel
theorem d_L_law_925 : decode code 925 = .ok (.goto 47, 3) := by decide +kernel
theorem d_L_law_928 : decode code 928 = .ok (.aload_n 1, 1) := by decide +kernel
theorem d_L_law_929 : decode code 929 = .ok (.aload_n 3, 1) := by decide +kernel
theorem d_L_law_930 : decode code 930 = .ok (.invokestatic 139, 3) := by decide +kernel
theorem d_L_law_933 : decode code 933 = .ok (.istore 5, 2) := by decide +kernel
theorem d_L_law_935 : decode code 935 = .ok (.aload_n 2, 1) := by decide +kernel
theorem d_L_law_936 : decode code 936 = .ok (.invokevirtual 141, 3) := by decide +kernel
theorem d_L_law_939 : decode code 939 = .ok (.istore 6, 2) := by decide +kernel
theorem d_L_law_941 : decode code 941 = .ok (.aload_n 2, 1) := by decide +kernel
theorem d_L_law_942 : decode code 942 = .ok (.invokevirtual 74, 3) := by decide +kernel
theorem d_L_law_945 : decode code 945 = .ok (.iload 5, 2) := by decide +kernel
theorem d_L_law_947 : decode code 947 = .ok (.if_icmp .eq 5, 3) := by decide +kernel
theorem d_L_law_950 : decode code 950 = .ok (.iconst 0, 1) := by decide +kernel
theorem d_L_law_951 : decode code 951 = .ok (.ireturn, 1) := by decide +kernel
theorem d_L_law_952 : decode code 952 = .ok (.iload 5, 2) := by decide +kernel
theorem d_L_law_954 : decode code 954 = .ok (.ifCond .ne 15, 3) := by decide +kernel
theorem d_L_law_957 : decode code 957 = .ok (.aload_n 3, 1) := by decide +kernel
theorem d_L_law_958 : decode code 958 = .ok (.iconst 0, 1) := by decide +kernel
theorem d_L_law_959 : decode code 959 = .ok (.laload, 1) := by decide +kernel
theorem d_L_law_960 : decode code 960 = .ok (.iload 6, 2) := by decide +kernel
theorem d_L_law_962 : decode code 962 = .ok (.i2l, 1) := by decide +kernel
theorem d_L_law_963 : decode code 963 = .ok (.lcmp, 1) := by decide +kernel
theorem d_L_law_964 : decode code 964 = .ok (.ifCond .eq 5, 3) := by decide +kernel
theorem d_L_law_967 : decode code 967 = .ok (.iconst 0, 1) := by decide +kernel
theorem d_L_law_968 : decode code 968 = .ok (.ireturn, 1) := by decide +kernel
theorem d_L_law_969 : decode code 969 = .ok (.goto 3, 3) := by decide +kernel
theorem d_L_law_972 : decode code 972 = .ok (.iinc 4 5, 3) := by decide +kernel
theorem d_L_law_975 : decode code 975 = .ok (.goto (-952), 3) := by decide +kernel
theorem d_L_law_978 : decode code 978 = .ok (.iconst 1, 1) := by decide +kernel
theorem d_L_law_979 : decode code 979 = .ok (.ireturn, 1) := by decide +kernel
def w_L_law_972 (Φ : bs_R → bs_H → Prop) (nx23 : Nat → Nat → Nat → Nat → Int32 → bs_H → Prop) (x0 : Nat) (x1 : Nat) (x2 : Nat) (x3 : Nat) (x4 : Int32) (h : bs_H) : Prop :=
  nx23 x0 x1 x2 x3 (x4 + 5) h
def w_L_law_969 (Φ : bs_R → bs_H → Prop) (nx23 : Nat → Nat → Nat → Nat → Int32 → bs_H → Prop) (x0 : Nat) (x1 : Nat) (x2 : Nat) (x3 : Nat) (x4 : Int32) (h : bs_H) : Prop :=
  w_L_law_972 Φ nx23 x0 x1 x2 x3 x4 h
def w_L_law_865 (Φ : bs_R → bs_H → Prop) (nx23 : Nat → Nat → Nat → Nat → Int32 → bs_H → Prop) (x0 : Nat) (x1 : Nat) (x2 : Nat) (x3 : Nat) (x4 : Int32) (h : bs_H) : Prop :=
  w_L_law_972 Φ nx23 x0 x1 x2 x3 x4 h
def w_L_law_808 (Φ : bs_R → bs_H → Prop) (nx23 : Nat → Nat → Nat → Nat → Int32 → bs_H → Prop) (x0 : Nat) (x1 : Nat) (x2 : Nat) (x3 : Nat) (x4 : Int32) (h : bs_H) : Prop :=
  w_L_law_972 Φ nx23 x0 x1 x2 x3 x4 h
def w_L_law_802 (Φ : bs_R → bs_H → Prop) (nx23 : Nat → Nat → Nat → Nat → Int32 → bs_H → Prop) (x0 : Nat) (x1 : Nat) (x2 : Nat) (x3 : Nat) (x4 : Int32) (s0 : Int64) (s1 : Int64) (h : bs_H) : Prop :=
  bs_if (s0 = s1) (w_L_law_808 Φ nx23 x0 x1 x2 x3 x4 h) (bs_rZ Φ 0 h)
def w_L_law_745 (Φ : bs_R → bs_H → Prop) (nx23 : Nat → Nat → Nat → Nat → Int32 → bs_H → Prop) (x0 : Nat) (x1 : Nat) (x2 : Nat) (x3 : Nat) (x4 : Int32) (h : bs_H) : Prop :=
  w_L_law_972 Φ nx23 x0 x1 x2 x3 x4 h
def w_L_law_469 (Φ : bs_R → bs_H → Prop) (nx23 : Nat → Nat → Nat → Nat → Int32 → bs_H → Prop) (x0 : Nat) (x1 : Nat) (x2 : Nat) (x3 : Nat) (x4 : Int32) (h : bs_H) : Prop :=
  w_L_law_972 Φ nx23 x0 x1 x2 x3 x4 h
def w_L_law_414 (Φ : bs_R → bs_H → Prop) (nx23 : Nat → Nat → Nat → Nat → Int32 → bs_H → Prop) (x0 : Nat) (x1 : Nat) (x2 : Nat) (x3 : Nat) (x4 : Int32) (h : bs_H) : Prop :=
  w_L_law_972 Φ nx23 x0 x1 x2 x3 x4 h
def w_L_law_381 (Φ : bs_R → bs_H → Prop) (nx23 : Nat → Nat → Nat → Nat → Int32 → bs_H → Prop) (x0 : Nat) (x1 : Nat) (x2 : Nat) (x3 : Nat) (x4 : Int32) (x5 : Int32) (s0 : Nat) (s1 : Int32) (s2 : Int32) (h : bs_H) : Prop :=
  bs_on h s0 7 (w_R_step (bs_kI Φ fun v1 h2 => (bs_on h2 x2 7 (w_R_thrown (bs_kI Φ fun v3 h4 => (bs_if (v3 = x5) (bs_if (x5 = 0) (bs_lL h4 x3 0 (fun v5 => bs_if (v5 = v1.toInt64) (w_L_law_414 Φ nx23 x0 x1 x2 x3 x4 h4) (bs_rZ Φ 0 h4))) (w_L_law_414 Φ nx23 x0 x1 x2 x3 x4 h4)) (bs_rZ Φ 0 h4))) x2 h2))) s0 s1 s2 h)
def w_L_law_354 (Φ : bs_R → bs_H → Prop) (nx23 : Nat → Nat → Nat → Nat → Int32 → bs_H → Prop) (x0 : Nat) (x1 : Nat) (x2 : Nat) (x3 : Nat) (x4 : Int32) (s0 : Nat) (s1 : Int32) (s2 : Int32) (h : bs_H) : Prop :=
  w_L_step (bs_kI Φ fun v1 h2 => (bs_lX h2 x0 (x4 + 1) (fun v3 => bs_lX h2 x0 (x4 + 2) (fun v4 => bs_if (v4 = 0) (w_L_law_381 Φ nx23 x0 x1 x2 x3 x4 v1 x2 v3 0 h2) (w_L_law_381 Φ nx23 x0 x1 x2 x3 x4 v1 x2 v3 1 h2))))) s0 s1 s2 x3 h
def w_L_law_317 (Φ : bs_R → bs_H → Prop) (nx23 : Nat → Nat → Nat → Nat → Int32 → bs_H → Prop) (x0 : Nat) (x1 : Nat) (x2 : Nat) (x3 : Nat) (x4 : Int32) (h : bs_H) : Prop :=
  w_L_law_972 Φ nx23 x0 x1 x2 x3 x4 h
def w_L_law_261 (Φ : bs_R → bs_H → Prop) (nx23 : Nat → Nat → Nat → Nat → Int32 → bs_H → Prop) (x0 : Nat) (x1 : Nat) (x2 : Nat) (x3 : Nat) (x4 : Int32) (h : bs_H) : Prop :=
  w_L_law_972 Φ nx23 x0 x1 x2 x3 x4 h
def w_L_law_23_s (Φ : bs_R → bs_H → Prop) (nx23 : Nat → Nat → Nat → Nat → Int32 → bs_H → Prop) (x0 : Nat) (x1 : Nat) (x2 : Nat) (x3 : Nat) (x4 : Int32) (h : bs_H) : Prop :=
  bs_xl h x0 (fun v1 => bs_if ((v1 - 5) < x4) (bs_rZ Φ 1 h) (bs_lX h x0 x4 (fun v2 => bs_if ((v2 &&& 31) = 0) (bs_lX h x0 (x4 + 1) (fun v3 => w_L_width (bs_kI Φ fun v4 h5 => (bs_lX h5 x0 (x4 + 1) (fun v6 => bs_on h5 x2 7 (w_R_width (bs_kV Φ fun h7 => (bs_on h7 x2 7 (w_R_thrown (bs_kI Φ fun v8 h9 => (bs_if (v8 = v4) (w_L_law_972 Φ nx23 x0 x1 x2 x3 x4 h9) (bs_rZ Φ 0 h9))) x2 h7))) x2 v6 h5)))) x1 v3 h)) (bs_if ((v2 &&& 31) = 1) (bs_lX h x0 (x4 + 1) (fun v10 => bs_lX h x0 (x4 + 2) (fun v11 => w_L_target (bs_kI Φ fun v12 h13 => (bs_lX h13 x0 (x4 + 1) (fun v14 => bs_lX h13 x0 (x4 + 2) (fun v15 => bs_on h13 x2 7 (w_R_target (bs_kV Φ fun h16 => (bs_on h16 x2 7 (w_R_thrown (bs_kI Φ fun v17 h18 => (bs_if (v17 = v12) (w_L_law_972 Φ nx23 x0 x1 x2 x3 x4 h18) (bs_rZ Φ 0 h18))) x2 h16))) x2 v14 v15 h13))))) x1 v10 v11 h))) (bs_if ((v2 &&& 31) = 2) (bs_lX h x0 (x4 + 1) (fun v19 => w_L_source (bs_kI Φ fun v20 h21 => (bs_lX h21 x0 (x4 + 1) (fun v22 => bs_on h21 x2 7 (w_R_source (bs_kI Φ fun v23 h24 => (bs_on h24 x2 7 (w_R_thrown (bs_kI Φ fun v25 h26 => (bs_if (v25 = v20) (bs_if (v20 = 0) (bs_lL h26 x3 0 (fun v27 => bs_if (v27 = v23.toInt64) (w_L_law_261 Φ nx23 x0 x1 x2 x3 x4 h26) (bs_rZ Φ 0 h26))) (w_L_law_261 Φ nx23 x0 x1 x2 x3 x4 h26)) (bs_rZ Φ 0 h26))) x2 h24))) x2 v22 h21)))) x1 v19 x3 h)) (bs_if ((v2 &&& 31) = 3) (bs_lX h x0 (x4 + 1) (fun v28 => w_L_make (bs_kI Φ fun v29 h30 => (bs_lX h30 x0 (x4 + 1) (fun v31 => bs_on h30 x2 7 (w_R_make (bs_kI Φ fun v32 h33 => (bs_on h33 x2 7 (w_R_thrown (bs_kI Φ fun v34 h35 => (bs_if (v34 = v29) (bs_if (v29 = 0) (bs_lL h35 x3 0 (fun v36 => bs_if (v36 = v32.toInt64) (w_L_law_317 Φ nx23 x0 x1 x2 x3 x4 h35) (bs_rZ Φ 0 h35))) (w_L_law_317 Φ nx23 x0 x1 x2 x3 x4 h35)) (bs_rZ Φ 0 h35))) x2 h33))) x2 v31 h30)))) x1 v28 x3 h)) (bs_if ((v2 &&& 31) = 4) (bs_on h x1 0 (w_B_size (bs_kI Φ fun v37 h38 => (bs_on h38 x2 7 (w_R_size (bs_kI Φ fun v39 h40 => (bs_if (v37 = v39) (w_L_law_972 Φ nx23 x0 x1 x2 x3 x4 h40) (bs_rZ Φ 0 h40))) x2 h38))) x1 h)) (bs_if ((v2 &&& 31) = 5) (bs_lX h x0 (x4 + 1) (fun v41 => bs_lX h x0 (x4 + 2) (fun v42 => bs_if (v42 = 0) (w_L_law_354 Φ nx23 x0 x1 x2 x3 x4 x1 v41 0 h) (w_L_law_354 Φ nx23 x0 x1 x2 x3 x4 x1 v41 1 h)))) (bs_if ((v2 &&& 31) = 6) (bs_lX h x0 (x4 + 1) (fun v43 => w_L_mask (bs_kI Φ fun v44 h45 => (bs_lX h45 x0 (x4 + 1) (fun v46 => bs_on h45 x2 7 (w_R_mask (bs_kL Φ fun v47 h48 => (bs_on h48 x2 7 (w_R_thrown (bs_kI Φ fun v49 h50 => (bs_if (v49 = v44) (bs_if (v44 = 0) (bs_lL h50 x3 0 (fun v51 => bs_if (v51 = v47) (w_L_law_469 Φ nx23 x0 x1 x2 x3 x4 h50) (bs_rZ Φ 0 h50))) (w_L_law_469 Φ nx23 x0 x1 x2 x3 x4 h50)) (bs_rZ Φ 0 h50))) x2 h48))) x2 v46 h45)))) x1 v43 x3 h)) (bs_if ((v2 &&& 31) = 7) (bs_lX h x0 (x4 + 1) (fun v52 => bs_lX h x0 (x4 + 2) (fun v53 => bs_lX h x0 (x4 + 3) (fun v54 => bs_lX h x0 (x4 + 4) (fun v55 => w_L_patch (bs_kI Φ fun v56 h57 => (bs_lX h57 x0 (x4 + 1) (fun v58 => bs_lX h57 x0 (x4 + 2) (fun v59 => bs_lX h57 x0 (x4 + 3) (fun v60 => bs_lX h57 x0 (x4 + 4) (fun v61 => bs_on h57 x2 7 (w_R_patch (bs_kV Φ fun h62 => (bs_on h62 x2 7 (w_R_thrown (bs_kI Φ fun v63 h64 => (bs_if (v63 = v56) (w_L_law_972 Φ nx23 x0 x1 x2 x3 x4 h64) (bs_rZ Φ 0 h64))) x2 h62))) x2 v58 v59 ((bs_shl v60.toInt64 32) ||| (v61.toInt64 &&& 4294967295)) h57))))))) x1 v52 v53 ((bs_shl v54.toInt64 32) ||| (v55.toInt64 &&& 4294967295)) h))))) (bs_if ((v2 &&& 31) = 8) (bs_lX h x0 (x4 + 1) (fun v65 => bs_lX h x0 (x4 + 2) (fun v66 => bs_on h x1 0 (w_B_run (bs_kL Φ fun v67 h68 => (bs_lX h68 x0 (x4 + 1) (fun v69 => bs_lX h68 x0 (x4 + 2) (fun v70 => bs_on h68 x2 7 (w_R_run (bs_kL Φ fun v71 h72 => (bs_if (v67 = v71) (w_L_law_972 Φ nx23 x0 x1 x2 x3 x4 h72) (bs_rZ Φ 0 h72))) x2 ((bs_shl v69.toInt64 32) ||| (v70.toInt64 &&& 4294967295)) h68))))) x1 ((bs_shl v65.toInt64 32) ||| (v66.toInt64 &&& 4294967295)) h)))) (bs_if ((v2 &&& 31) = 9) (bs_lX h x0 (x4 + 1) (fun v73 => bs_lX h x0 (x4 + 2) (fun v74 => bs_on h x1 0 (w_B_direct (bs_kL Φ fun v75 h76 => (bs_lX h76 x0 (x4 + 1) (fun v77 => bs_lX h76 x0 (x4 + 2) (fun v78 => bs_on h76 x2 7 (w_R_direct (bs_kL Φ fun v79 h80 => (bs_if (v75 = v79) (w_L_law_972 Φ nx23 x0 x1 x2 x3 x4 h80) (bs_rZ Φ 0 h80))) x2 ((bs_shl v77.toInt64 32) ||| (v78.toInt64 &&& 4294967295)) h76))))) x1 ((bs_shl v73.toInt64 32) ||| (v74.toInt64 &&& 4294967295)) h)))) (bs_if ((v2 &&& 31) = 10) (bs_on h x1 0 (w_B_check (bs_kI Φ fun v81 h82 => (bs_on h82 x2 7 (w_R_check (bs_kI Φ fun v83 h84 => (bs_if (v81 = v83) (w_L_law_972 Φ nx23 x0 x1 x2 x3 x4 h84) (bs_rZ Φ 0 h84))) x2 h82))) x1 h)) (bs_if ((v2 &&& 31) = 11) (bs_lX h x0 (x4 + 1) (fun v85 => w_L_origins (bs_kI Φ fun v86 h87 => (bs_lX h87 x0 (x4 + 1) (fun v88 => bs_on h87 x2 7 (w_R_origins (bs_kL Φ fun v89 h90 => (bs_on h90 x2 7 (w_R_thrown (bs_kI Φ fun v91 h92 => (bs_if (v91 = v86) (bs_if (v86 = 0) (bs_lL h92 x3 0 (fun v93 => bs_if (v93 = v89) (w_L_law_745 Φ nx23 x0 x1 x2 x3 x4 h92) (bs_rZ Φ 0 h92))) (w_L_law_745 Φ nx23 x0 x1 x2 x3 x4 h92)) (bs_rZ Φ 0 h92))) x2 h90))) x2 v88 h87)))) x1 v85 x3 h)) (bs_if ((v2 &&& 31) = 12) (bs_lX h x0 (x4 + 1) (fun v94 => w_L_constant (bs_kI Φ fun v95 h96 => (bs_lX h96 x0 (x4 + 1) (fun v97 => bs_on h96 x2 7 (w_R_constant (bs_kI Φ fun v98 h99 => (bs_on h99 x2 7 (w_R_thrown (bs_kI Φ fun v100 h101 => (bs_if (v100 = v95) (bs_if (v95 = 0) (bs_lL h101 x3 0 (fun v102 => bs_if (v98 = 0) (w_L_law_802 Φ nx23 x0 x1 x2 x3 x4 v102 0 h101) (w_L_law_802 Φ nx23 x0 x1 x2 x3 x4 v102 1 h101))) (w_L_law_808 Φ nx23 x0 x1 x2 x3 x4 h101)) (bs_rZ Φ 0 h101))) x2 h99))) x2 v97 h96)))) x1 v94 x3 h)) (bs_if ((v2 &&& 31) = 13) (bs_on h x1 0 (w_B_ticks (bs_kI Φ fun v103 h104 => (bs_on h104 x2 7 (w_R_ticks (bs_kI Φ fun v105 h106 => (bs_if (v103 = v105) (w_L_law_972 Φ nx23 x0 x1 x2 x3 x4 h106) (bs_rZ Φ 0 h106))) x2 h104))) x1 h)) (bs_if ((v2 &&& 31) = 14) (w_L_keep (bs_kI Φ fun v107 h108 => (bs_on h108 x2 7 (w_R_keep (bs_kI Φ fun v109 h110 => (bs_on h110 x2 7 (w_R_thrown (bs_kI Φ fun v111 h112 => (bs_if (v111 = v107) (bs_if (v107 = 0) (bs_lL h112 x3 0 (fun v113 => bs_if (v113 = v109.toInt64) (w_L_law_865 Φ nx23 x0 x1 x2 x3 x4 h112) (bs_rZ Φ 0 h112))) (w_L_law_865 Φ nx23 x0 x1 x2 x3 x4 h112)) (bs_rZ Φ 0 h112))) x2 h110))) x2 h108))) x1 x3 h) (bs_if ((v2 &&& 31) = 15) (bs_lX h x0 (x4 + 1) (fun v114 => w_L_join (bs_kI Φ fun v115 h116 => (bs_lX h116 x0 (x4 + 1) (fun v117 => bs_on h116 x2 7 (w_R_join (bs_kV Φ fun h118 => (bs_on h118 x2 7 (w_R_thrown (bs_kI Φ fun v119 h120 => (bs_if (v119 = v115) (w_L_law_972 Φ nx23 x0 x1 x2 x3 x4 h120) (bs_rZ Φ 0 h120))) x2 h118))) x2 v117 h116)))) x1 v114 h)) (bs_if ((v2 &&& 31) = 16) (w_L_invert (bs_kI Φ fun v121 h122 => (bs_on h122 x2 7 (w_R_invert (bs_kV Φ fun h123 => (bs_on h123 x2 7 (w_R_thrown (bs_kI Φ fun v124 h125 => (bs_if (v124 = v121) (w_L_law_972 Φ nx23 x0 x1 x2 x3 x4 h125) (bs_rZ Φ 0 h125))) x2 h123))) x2 h122))) x1 h) (bs_if ((v2 &&& 31) = 17) (w_L_least (bs_kI Φ fun v126 h127 => (bs_on h127 x2 7 (w_R_least (bs_kI Φ fun v128 h129 => (bs_on h129 x2 7 (w_R_thrown (bs_kI Φ fun v130 h131 => (bs_if (v130 = v126) (bs_if (v126 = 0) (bs_lL h131 x3 0 (fun v132 => bs_if (v132 = v128.toInt64) (w_L_law_969 Φ nx23 x0 x1 x2 x3 x4 h131) (bs_rZ Φ 0 h131))) (w_L_law_969 Φ nx23 x0 x1 x2 x3 x4 h131)) (bs_rZ Φ 0 h131))) x2 h129))) x2 h127))) x1 x3 h) (w_L_law_972 Φ nx23 x0 x1 x2 x3 x4 h)))))))))))))))))))))
def w_L_law_23 (Φ : bs_R → bs_H → Prop) : Nat → Nat → Nat → Nat → Nat → Int32 → bs_H → Prop
  | 0 => fun _ _ _ _ _ _ => False
  | n + 1 => fun x0 x1 x2 x3 x4 h => w_L_law_23_s Φ (w_L_law_23 Φ n) x0 x1 x2 x3 x4 h
def w_L_law (Φ : bs_R → bs_H → Prop) (x0 : Nat) (h : bs_H) : Prop :=
  bs_nO h 0 9 z_B (fun v1 h2 => w_B_init (bs_kV Φ fun h3 => (bs_nO h3 7 27 z_R (fun v4 h5 => w_R_init (bs_kV Φ fun h6 => (bs_nA h6 1 (bs_la 1 fun _ => 0) (fun v7 h8 => w_L_law_23 Φ 1000 x0 v1 v4 v7 0 h8))) v4 h5))) v1 h2)
theorem m_L_law_972 {l : Launch} {R : Room} {Φ : bs_R → bs_H → Prop} (hR : bs_rm 13 R) {nx23 : Nat → Nat → Nat → Nat → Int32 → bs_H → Prop} (hnx23 : ∀ (x0 : Nat) (x1 : Nat) (x2 : Nat) (x3 : Nat) (x4 : Int32) (h : bs_H), nx23 x0 x1 x2 x3 x4 h → bs_J l K_L_law R Φ 23 [(0, .ref x0), (1, .ref x1), (2, .ref x2), (3, .ref x3), (4, .int x4)] [] h) {x0 : Nat} {x1 : Nat} {x2 : Nat} {x3 : Nat} {x4 : Int32} {h : bs_H} (hw : w_L_law_972 Φ nx23 x0 x1 x2 x3 x4 h) : bs_J l K_L_law R Φ 972 [(0, .ref x0), (1, .ref x1), (2, .ref x2), (3, .ref x3), (4, .int x4)] [] h := by
  unfold w_L_law_972 at hw
  refine bj_iinc (pc := 972) (v := (x4 + 5)) (lo' := [(4, .int (x4 + 5)), (0, .ref x0), (1, .ref x1), (2, .ref x2), (3, .ref x3)]) 4 d_L_law_972 rfl rfl (by decide) rfl ?_
  refine bj_goto (pc := 975) (tgt := 23) d_L_law_975 (by decide) ?_
  refine bj_sub [1, 2, 3, 4, 0] (lo' := [(0, .ref x0), (1, .ref x1), (2, .ref x2), (3, .ref x3), (4, .int (x4 + 5))]) rfl ?_
  exact hnx23 _ _ _ _ _ _ hw
theorem m_L_law_969 {l : Launch} {R : Room} {Φ : bs_R → bs_H → Prop} (hR : bs_rm 13 R) {nx23 : Nat → Nat → Nat → Nat → Int32 → bs_H → Prop} (hnx23 : ∀ (x0 : Nat) (x1 : Nat) (x2 : Nat) (x3 : Nat) (x4 : Int32) (h : bs_H), nx23 x0 x1 x2 x3 x4 h → bs_J l K_L_law R Φ 23 [(0, .ref x0), (1, .ref x1), (2, .ref x2), (3, .ref x3), (4, .int x4)] [] h) {x0 : Nat} {x1 : Nat} {x2 : Nat} {x3 : Nat} {x4 : Int32} {h : bs_H} (hw : w_L_law_969 Φ nx23 x0 x1 x2 x3 x4 h) : bs_J l K_L_law R Φ 969 [(0, .ref x0), (1, .ref x1), (2, .ref x2), (3, .ref x3), (4, .int x4)] [] h := by
  unfold w_L_law_969 at hw
  refine bj_goto (pc := 969) (tgt := 972) d_L_law_969 (by decide) ?_
  exact m_L_law_972 hR hnx23 hw
theorem m_L_law_865 {l : Launch} {R : Room} {Φ : bs_R → bs_H → Prop} (hR : bs_rm 13 R) {nx23 : Nat → Nat → Nat → Nat → Int32 → bs_H → Prop} (hnx23 : ∀ (x0 : Nat) (x1 : Nat) (x2 : Nat) (x3 : Nat) (x4 : Int32) (h : bs_H), nx23 x0 x1 x2 x3 x4 h → bs_J l K_L_law R Φ 23 [(0, .ref x0), (1, .ref x1), (2, .ref x2), (3, .ref x3), (4, .int x4)] [] h) {x0 : Nat} {x1 : Nat} {x2 : Nat} {x3 : Nat} {x4 : Int32} {h : bs_H} (hw : w_L_law_865 Φ nx23 x0 x1 x2 x3 x4 h) : bs_J l K_L_law R Φ 865 [(0, .ref x0), (1, .ref x1), (2, .ref x2), (3, .ref x3), (4, .int x4)] [] h := by
  unfold w_L_law_865 at hw
  refine bj_goto (pc := 865) (tgt := 972) d_L_law_865 (by decide) ?_
  exact m_L_law_972 hR hnx23 hw
theorem m_L_law_808 {l : Launch} {R : Room} {Φ : bs_R → bs_H → Prop} (hR : bs_rm 13 R) {nx23 : Nat → Nat → Nat → Nat → Int32 → bs_H → Prop} (hnx23 : ∀ (x0 : Nat) (x1 : Nat) (x2 : Nat) (x3 : Nat) (x4 : Int32) (h : bs_H), nx23 x0 x1 x2 x3 x4 h → bs_J l K_L_law R Φ 23 [(0, .ref x0), (1, .ref x1), (2, .ref x2), (3, .ref x3), (4, .int x4)] [] h) {x0 : Nat} {x1 : Nat} {x2 : Nat} {x3 : Nat} {x4 : Int32} {h : bs_H} (hw : w_L_law_808 Φ nx23 x0 x1 x2 x3 x4 h) : bs_J l K_L_law R Φ 808 [(0, .ref x0), (1, .ref x1), (2, .ref x2), (3, .ref x3), (4, .int x4)] [] h := by
  unfold w_L_law_808 at hw
  refine bj_goto (pc := 808) (tgt := 972) d_L_law_808 (by decide) ?_
  exact m_L_law_972 hR hnx23 hw
theorem m_L_law_802 {l : Launch} {R : Room} {Φ : bs_R → bs_H → Prop} (hR : bs_rm 13 R) {nx23 : Nat → Nat → Nat → Nat → Int32 → bs_H → Prop} (hnx23 : ∀ (x0 : Nat) (x1 : Nat) (x2 : Nat) (x3 : Nat) (x4 : Int32) (h : bs_H), nx23 x0 x1 x2 x3 x4 h → bs_J l K_L_law R Φ 23 [(0, .ref x0), (1, .ref x1), (2, .ref x2), (3, .ref x3), (4, .int x4)] [] h) {x0 : Nat} {x1 : Nat} {x2 : Nat} {x3 : Nat} {x4 : Int32} {s0 : Int64} {s1 : Int64} {h : bs_H} (hw : w_L_law_802 Φ nx23 x0 x1 x2 x3 x4 s0 s1 h) : bs_J l K_L_law R Φ 802 [(0, .ref x0), (1, .ref x1), (2, .ref x2), (3, .ref x3), (4, .int x4)] [.long s1, .long s0] h := by
  unfold w_L_law_802 at hw
  refine bj_lc_eq (pc := 802) (tgt := 808) d_L_law_802 d_L_law_803 (by decide) (fun hc => ?_) (fun hc => ?_)
  · replace hw := hw.1 hc
    exact m_L_law_808 hR hnx23 hw
  · replace hw := hw.2 hc
    refine bj_iconst (pc := 806) (v := 0) d_L_law_806 (by decide) ?_
    exact bj_zret (pc := 807) d_L_law_807 rfl hw.1 hw.2
theorem m_L_law_745 {l : Launch} {R : Room} {Φ : bs_R → bs_H → Prop} (hR : bs_rm 13 R) {nx23 : Nat → Nat → Nat → Nat → Int32 → bs_H → Prop} (hnx23 : ∀ (x0 : Nat) (x1 : Nat) (x2 : Nat) (x3 : Nat) (x4 : Int32) (h : bs_H), nx23 x0 x1 x2 x3 x4 h → bs_J l K_L_law R Φ 23 [(0, .ref x0), (1, .ref x1), (2, .ref x2), (3, .ref x3), (4, .int x4)] [] h) {x0 : Nat} {x1 : Nat} {x2 : Nat} {x3 : Nat} {x4 : Int32} {h : bs_H} (hw : w_L_law_745 Φ nx23 x0 x1 x2 x3 x4 h) : bs_J l K_L_law R Φ 745 [(0, .ref x0), (1, .ref x1), (2, .ref x2), (3, .ref x3), (4, .int x4)] [] h := by
  unfold w_L_law_745 at hw
  refine bj_goto (pc := 745) (tgt := 972) d_L_law_745 (by decide) ?_
  exact m_L_law_972 hR hnx23 hw
theorem m_L_law_469 {l : Launch} {R : Room} {Φ : bs_R → bs_H → Prop} (hR : bs_rm 13 R) {nx23 : Nat → Nat → Nat → Nat → Int32 → bs_H → Prop} (hnx23 : ∀ (x0 : Nat) (x1 : Nat) (x2 : Nat) (x3 : Nat) (x4 : Int32) (h : bs_H), nx23 x0 x1 x2 x3 x4 h → bs_J l K_L_law R Φ 23 [(0, .ref x0), (1, .ref x1), (2, .ref x2), (3, .ref x3), (4, .int x4)] [] h) {x0 : Nat} {x1 : Nat} {x2 : Nat} {x3 : Nat} {x4 : Int32} {h : bs_H} (hw : w_L_law_469 Φ nx23 x0 x1 x2 x3 x4 h) : bs_J l K_L_law R Φ 469 [(0, .ref x0), (1, .ref x1), (2, .ref x2), (3, .ref x3), (4, .int x4)] [] h := by
  unfold w_L_law_469 at hw
  refine bj_goto (pc := 469) (tgt := 972) d_L_law_469 (by decide) ?_
  exact m_L_law_972 hR hnx23 hw
theorem m_L_law_414 {l : Launch} {R : Room} {Φ : bs_R → bs_H → Prop} (hR : bs_rm 13 R) {nx23 : Nat → Nat → Nat → Nat → Int32 → bs_H → Prop} (hnx23 : ∀ (x0 : Nat) (x1 : Nat) (x2 : Nat) (x3 : Nat) (x4 : Int32) (h : bs_H), nx23 x0 x1 x2 x3 x4 h → bs_J l K_L_law R Φ 23 [(0, .ref x0), (1, .ref x1), (2, .ref x2), (3, .ref x3), (4, .int x4)] [] h) {x0 : Nat} {x1 : Nat} {x2 : Nat} {x3 : Nat} {x4 : Int32} {h : bs_H} (hw : w_L_law_414 Φ nx23 x0 x1 x2 x3 x4 h) : bs_J l K_L_law R Φ 414 [(0, .ref x0), (1, .ref x1), (2, .ref x2), (3, .ref x3), (4, .int x4)] [] h := by
  unfold w_L_law_414 at hw
  refine bj_goto (pc := 414) (tgt := 972) d_L_law_414 (by decide) ?_
  exact m_L_law_972 hR hnx23 hw
theorem m_L_law_381 {l : Launch} {R : Room} {Φ : bs_R → bs_H → Prop} (hR : bs_rm 13 R) {nx23 : Nat → Nat → Nat → Nat → Int32 → bs_H → Prop} (hnx23 : ∀ (x0 : Nat) (x1 : Nat) (x2 : Nat) (x3 : Nat) (x4 : Int32) (h : bs_H), nx23 x0 x1 x2 x3 x4 h → bs_J l K_L_law R Φ 23 [(0, .ref x0), (1, .ref x1), (2, .ref x2), (3, .ref x3), (4, .int x4)] [] h) {x0 : Nat} {x1 : Nat} {x2 : Nat} {x3 : Nat} {x4 : Int32} {x5 : Int32} {s0 : Nat} {s1 : Int32} {s2 : Int32} {h : bs_H} (hw : w_L_law_381 Φ nx23 x0 x1 x2 x3 x4 x5 s0 s1 s2 h) : bs_J l K_L_law R Φ 381 [(0, .ref x0), (1, .ref x1), (2, .ref x2), (3, .ref x3), (4, .int x4), (5, .int x5)] [.int s2, .int s1, .ref s0] h := by
  unfold w_L_law_381 at hw
  obtain ⟨⟨fs, hx⟩, hw⟩ := hw
  refine bj_callV (pc := 381) (np := 2) (K' := K_R_step) (argsL := [.int s1, .int s2]) (st := []) (d1 := 2) (ci := 7) (fs := fs) rfl d_L_law_381 (Or.inl q_895) q_896 rfl q_897 c_R_step n_R_step hR (by decide) (by decide) rfl (Nat.le_of_ble_eq_true rfl) rfl (Nat.le_of_ble_eq_true rfl) hx (fun R' hR' => m_R_step hR' hw) (bs_kI_ok fun v1 h2 hw => ?_) (fun _ _ z => z)
  refine bj_istore (pc := 384) (lo' := [(6, .int v1), (0, .ref x0), (1, .ref x1), (2, .ref x2), (3, .ref x3), (4, .int x4), (5, .int x5)]) d_L_law_384 (by decide) rfl ?_
  refine bj_aload_n (pc := 386) 3 d_L_law_386 rfl rfl ?_
  obtain ⟨⟨fs, hx⟩, hw⟩ := hw
  refine bj_callV (pc := 387) (np := 0) (K' := K_R_thrown) (argsL := []) (st := []) (d1 := 1) (ci := 7) (fs := fs) rfl d_L_law_387 (Or.inl q_831) q_832 rfl q_833 c_R_thrown n_R_thrown hR (by decide) (by decide) rfl (Nat.le_of_ble_eq_true rfl) rfl (Nat.le_of_ble_eq_true rfl) hx (fun R' hR' => m_R_thrown hR' hw) (bs_kI_ok fun v3 h4 hw => ?_) (fun _ _ z => z)
  refine bj_iload (pc := 390) 6 d_L_law_390 rfl ?_
  refine bj_icmp_eq (pc := 392) (tgt := 397) d_L_law_392 (by decide) (fun hc => ?_) (fun hc => ?_)
  · replace hw := hw.1 hc
    refine bj_iload (pc := 397) 6 d_L_law_397 rfl ?_
    refine bj_if_ne (pc := 399) (tgt := 414) d_L_law_399 (by decide) (fun hc => ?_) (fun hc => ?_)
    · replace hw := hw.2 hc
      refine bj_sub [1, 2, 3, 4, 5] (lo' := [(0, .ref x0), (1, .ref x1), (2, .ref x2), (3, .ref x3), (4, .int x4)]) rfl ?_
      exact m_L_law_414 hR hnx23 hw
    · replace hw := hw.1 hc
      refine bj_aload_n (pc := 402) 4 d_L_law_402 rfl rfl ?_
      refine bj_iconst (pc := 403) (v := 0) d_L_law_403 (by decide) ?_
      obtain ⟨n, f, v5, hx, hin, hv, hw⟩ := hw
      refine bj_lald (pc := 404) (n := n) (f := f) d_L_law_404 hx hin hv ?_
      refine bj_iload (pc := 405) 0 d_L_law_405 rfl ?_
      refine bj_i2l (pc := 407) d_L_law_407 ?_
      refine bj_lc_eq (pc := 408) (tgt := 414) d_L_law_408 d_L_law_409 (by decide) (fun hc => ?_) (fun hc => ?_)
      · replace hw := hw.1 hc
        refine bj_sub [1, 2, 3, 4, 5] (lo' := [(0, .ref x0), (1, .ref x1), (2, .ref x2), (3, .ref x3), (4, .int x4)]) rfl ?_
        exact m_L_law_414 hR hnx23 hw
      · replace hw := hw.2 hc
        refine bj_iconst (pc := 412) (v := 0) d_L_law_412 (by decide) ?_
        exact bj_zret (pc := 413) d_L_law_413 rfl hw.1 hw.2
  · replace hw := hw.2 hc
    refine bj_iconst (pc := 395) (v := 0) d_L_law_395 (by decide) ?_
    exact bj_zret (pc := 396) d_L_law_396 rfl hw.1 hw.2
theorem m_L_law_354 {l : Launch} {R : Room} {Φ : bs_R → bs_H → Prop} (hR : bs_rm 13 R) {nx23 : Nat → Nat → Nat → Nat → Int32 → bs_H → Prop} (hnx23 : ∀ (x0 : Nat) (x1 : Nat) (x2 : Nat) (x3 : Nat) (x4 : Int32) (h : bs_H), nx23 x0 x1 x2 x3 x4 h → bs_J l K_L_law R Φ 23 [(0, .ref x0), (1, .ref x1), (2, .ref x2), (3, .ref x3), (4, .int x4)] [] h) {x0 : Nat} {x1 : Nat} {x2 : Nat} {x3 : Nat} {x4 : Int32} {s0 : Nat} {s1 : Int32} {s2 : Int32} {h : bs_H} (hw : w_L_law_354 Φ nx23 x0 x1 x2 x3 x4 s0 s1 s2 h) : bs_J l K_L_law R Φ 354 [(0, .ref x0), (1, .ref x1), (2, .ref x2), (3, .ref x3), (4, .int x4)] [.int s2, .int s1, .ref s0] h := by
  unfold w_L_law_354 at hw
  refine bj_aload_n (pc := 354) 3 d_L_law_354 rfl rfl ?_
  refine bj_callS (pc := 355) (np := 4) (K' := K_L_step) (argsL := [.ref s0, .int s1, .int s2, .ref x3]) (st := []) (d1 := 4) rfl d_L_law_355 (Or.inl q_592) q_593 q_45 c_L_step n_L_step hR (by decide) (by decide) rfl (Nat.le_of_ble_eq_true rfl) rfl (Nat.le_of_ble_eq_true rfl) (fun R' hR' => m_L_step hR' hw) (bs_kI_ok fun v1 h2 hw => ?_) (fun _ _ z => z)
  refine bj_istore (pc := 358) (lo' := [(5, .int v1), (0, .ref x0), (1, .ref x1), (2, .ref x2), (3, .ref x3), (4, .int x4)]) d_L_law_358 (by decide) rfl ?_
  refine bj_aload_n (pc := 360) 3 d_L_law_360 rfl rfl ?_
  refine bj_aload_n (pc := 361) 1 d_L_law_361 rfl rfl ?_
  refine bj_iload (pc := 362) 5 d_L_law_362 rfl ?_
  refine bj_iconst (pc := 364) (v := 1) d_L_law_364 (by decide) ?_
  refine bj_iadd (pc := 365) d_L_law_365 ?_
  obtain ⟨n, f, v3, hx, hin, hv, hw⟩ := hw
  refine bj_xald (pc := 366) (n := n) (f := f) d_L_law_366 hx hin hv ?_
  refine bj_aload_n (pc := 367) 1 d_L_law_367 rfl rfl ?_
  refine bj_iload (pc := 368) 5 d_L_law_368 rfl ?_
  refine bj_iconst (pc := 370) (v := 2) d_L_law_370 (by decide) ?_
  refine bj_iadd (pc := 371) d_L_law_371 ?_
  obtain ⟨n, f, v4, hx, hin, hv, hw⟩ := hw
  refine bj_xald (pc := 372) (n := n) (f := f) d_L_law_372 hx hin hv ?_
  refine bj_if_eq (pc := 373) (tgt := 380) d_L_law_373 (by decide) (fun hc => ?_) (fun hc => ?_)
  · replace hw := hw.1 hc
    refine bj_iconst (pc := 380) (v := 0) d_L_law_380 (by decide) ?_
    refine bj_sub [1, 2, 3, 4, 5, 0] (lo' := [(0, .ref x0), (1, .ref x1), (2, .ref x2), (3, .ref x3), (4, .int x4), (5, .int v1)]) rfl ?_
    exact m_L_law_381 hR hnx23 hw
  · replace hw := hw.2 hc
    refine bj_iconst (pc := 376) (v := 1) d_L_law_376 (by decide) ?_
    refine bj_goto (pc := 377) (tgt := 381) d_L_law_377 (by decide) ?_
    refine bj_sub [1, 2, 3, 4, 5, 0] (lo' := [(0, .ref x0), (1, .ref x1), (2, .ref x2), (3, .ref x3), (4, .int x4), (5, .int v1)]) rfl ?_
    exact m_L_law_381 hR hnx23 hw
theorem m_L_law_317 {l : Launch} {R : Room} {Φ : bs_R → bs_H → Prop} (hR : bs_rm 13 R) {nx23 : Nat → Nat → Nat → Nat → Int32 → bs_H → Prop} (hnx23 : ∀ (x0 : Nat) (x1 : Nat) (x2 : Nat) (x3 : Nat) (x4 : Int32) (h : bs_H), nx23 x0 x1 x2 x3 x4 h → bs_J l K_L_law R Φ 23 [(0, .ref x0), (1, .ref x1), (2, .ref x2), (3, .ref x3), (4, .int x4)] [] h) {x0 : Nat} {x1 : Nat} {x2 : Nat} {x3 : Nat} {x4 : Int32} {h : bs_H} (hw : w_L_law_317 Φ nx23 x0 x1 x2 x3 x4 h) : bs_J l K_L_law R Φ 317 [(0, .ref x0), (1, .ref x1), (2, .ref x2), (3, .ref x3), (4, .int x4)] [] h := by
  unfold w_L_law_317 at hw
  refine bj_goto (pc := 317) (tgt := 972) d_L_law_317 (by decide) ?_
  exact m_L_law_972 hR hnx23 hw
theorem m_L_law_261 {l : Launch} {R : Room} {Φ : bs_R → bs_H → Prop} (hR : bs_rm 13 R) {nx23 : Nat → Nat → Nat → Nat → Int32 → bs_H → Prop} (hnx23 : ∀ (x0 : Nat) (x1 : Nat) (x2 : Nat) (x3 : Nat) (x4 : Int32) (h : bs_H), nx23 x0 x1 x2 x3 x4 h → bs_J l K_L_law R Φ 23 [(0, .ref x0), (1, .ref x1), (2, .ref x2), (3, .ref x3), (4, .int x4)] [] h) {x0 : Nat} {x1 : Nat} {x2 : Nat} {x3 : Nat} {x4 : Int32} {h : bs_H} (hw : w_L_law_261 Φ nx23 x0 x1 x2 x3 x4 h) : bs_J l K_L_law R Φ 261 [(0, .ref x0), (1, .ref x1), (2, .ref x2), (3, .ref x3), (4, .int x4)] [] h := by
  unfold w_L_law_261 at hw
  refine bj_goto (pc := 261) (tgt := 972) d_L_law_261 (by decide) ?_
  exact m_L_law_972 hR hnx23 hw
theorem m_L_law_23 {l : Launch} {R : Room} {Φ : bs_R → bs_H → Prop} (hR : bs_rm 13 R) : ∀ (n : Nat) (x0 : Nat) (x1 : Nat) (x2 : Nat) (x3 : Nat) (x4 : Int32) (h : bs_H), w_L_law_23 Φ n x0 x1 x2 x3 x4 h → bs_J l K_L_law R Φ 23 [(0, .ref x0), (1, .ref x1), (2, .ref x2), (3, .ref x3), (4, .int x4)] [] h := by
  intro n
  induction n with
  | zero => intro x0 x1 x2 x3 x4 h hw; exact hw.elim
  | succ n ih =>
    have hnx23 := ih
    intro x0 x1 x2 x3 x4 h hw
    replace hw : w_L_law_23_s Φ (w_L_law_23 Φ n) x0 x1 x2 x3 x4 h := hw
    unfold w_L_law_23_s at hw
    refine bj_iload (pc := 23) 4 d_L_law_23 rfl ?_
    refine bj_aload_n (pc := 25) 0 d_L_law_25 rfl rfl ?_
    obtain ⟨n, f, v1, hx, hv, hw⟩ := hw
    refine bj_xlen (pc := 26) (n := n) (f := f) d_L_law_26 hx hv ?_
    refine bj_iconst (pc := 27) (v := 5) d_L_law_27 (by decide) ?_
    refine bj_isub (pc := 28) d_L_law_28 ?_
    refine bj_icmp_gt (pc := 29) (tgt := 978) d_L_law_29 (by decide) (fun hc => ?_) (fun hc => ?_)
    · replace hw := hw.1 hc
      refine bj_iconst (pc := 978) (v := 1) d_L_law_978 (by decide) ?_
      exact bj_zret (pc := 979) d_L_law_979 rfl hw.1 hw.2
    · replace hw := hw.2 hc
      refine bj_aload_n (pc := 32) 0 d_L_law_32 rfl rfl ?_
      refine bj_iload (pc := 33) 4 d_L_law_33 rfl ?_
      obtain ⟨n, f, v2, hx, hin, hv, hw⟩ := hw
      refine bj_xald (pc := 35) (n := n) (f := f) d_L_law_35 hx hin hv ?_
      refine bj_bipush (pc := 36) (v := 31) d_L_law_36 (by decide) ?_
      refine bj_iand (pc := 38) d_L_law_38 ?_
      by_cases hc0 : (v2 &&& 31) = 0
      · replace hw := hw.1 hc0
        refine bj_tableIn (pc := 39) (tgt := 124) d_L_law_39 (by rw [hc0]; decide) (by rw [hc0]; decide) (by rw [hc0]; rfl) (by decide) ?_
        refine bj_aload_n (pc := 124) 1 d_L_law_124 rfl rfl ?_
        refine bj_aload_n (pc := 125) 0 d_L_law_125 rfl rfl ?_
        refine bj_iload (pc := 126) 4 d_L_law_126 rfl ?_
        refine bj_iconst (pc := 128) (v := 1) d_L_law_128 (by decide) ?_
        refine bj_iadd (pc := 129) d_L_law_129 ?_
        obtain ⟨n, f, v3, hx, hin, hv, hw⟩ := hw
        refine bj_xald (pc := 130) (n := n) (f := f) d_L_law_130 hx hin hv ?_
        refine bj_callS (pc := 131) (np := 2) (K' := K_L_width) (argsL := [.ref x1, .int v3]) (st := []) (d1 := 3) rfl d_L_law_131 (Or.inl q_373) q_374 q_45 c_L_width n_L_width hR (by decide) (by decide) rfl (Nat.le_of_ble_eq_true rfl) rfl (Nat.le_of_ble_eq_true rfl) (fun R' hR' => m_L_width hR' hw) (bs_kI_ok fun v4 h5 hw => ?_) (fun _ _ z => z)
        refine bj_istore (pc := 134) (lo' := [(5, .int v4), (0, .ref x0), (1, .ref x1), (2, .ref x2), (3, .ref x3), (4, .int x4)]) d_L_law_134 (by decide) rfl ?_
        refine bj_aload_n (pc := 136) 3 d_L_law_136 rfl rfl ?_
        refine bj_aload_n (pc := 137) 1 d_L_law_137 rfl rfl ?_
        refine bj_iload (pc := 138) 5 d_L_law_138 rfl ?_
        refine bj_iconst (pc := 140) (v := 1) d_L_law_140 (by decide) ?_
        refine bj_iadd (pc := 141) d_L_law_141 ?_
        obtain ⟨n, f, v6, hx, hin, hv, hw⟩ := hw
        refine bj_xald (pc := 142) (n := n) (f := f) d_L_law_142 hx hin hv ?_
        obtain ⟨⟨fs, hx⟩, hw⟩ := hw
        refine bj_callV (pc := 143) (np := 1) (K' := K_R_width) (argsL := [.int v6]) (st := []) (d1 := 2) (ci := 7) (fs := fs) rfl d_L_law_143 (Or.inl q_835) q_836 rfl q_837 c_R_width n_R_width hR (by decide) (by decide) rfl (Nat.le_of_ble_eq_true rfl) rfl (Nat.le_of_ble_eq_true rfl) hx (fun R' hR' => m_R_width hR' hw) (bs_kV_ok fun h7 hw => ?_) (fun _ _ z => z)
        refine bj_aload_n (pc := 146) 3 d_L_law_146 rfl rfl ?_
        obtain ⟨⟨fs, hx⟩, hw⟩ := hw
        refine bj_callV (pc := 147) (np := 0) (K' := K_R_thrown) (argsL := []) (st := []) (d1 := 1) (ci := 7) (fs := fs) rfl d_L_law_147 (Or.inl q_831) q_832 rfl q_833 c_R_thrown n_R_thrown hR (by decide) (by decide) rfl (Nat.le_of_ble_eq_true rfl) rfl (Nat.le_of_ble_eq_true rfl) hx (fun R' hR' => m_R_thrown hR' hw) (bs_kI_ok fun v8 h9 hw => ?_) (fun _ _ z => z)
        refine bj_iload (pc := 150) 0 d_L_law_150 rfl ?_
        refine bj_icmp_eq (pc := 152) (tgt := 157) d_L_law_152 (by decide) (fun hc => ?_) (fun hc => ?_)
        · replace hw := hw.1 hc
          refine bj_goto (pc := 157) (tgt := 972) d_L_law_157 (by decide) ?_
          refine bj_sub [1, 2, 3, 4, 5] (lo' := [(0, .ref x0), (1, .ref x1), (2, .ref x2), (3, .ref x3), (4, .int x4)]) rfl ?_
          exact m_L_law_972 hR hnx23 hw
        · replace hw := hw.2 hc
          refine bj_iconst (pc := 155) (v := 0) d_L_law_155 (by decide) ?_
          exact bj_zret (pc := 156) d_L_law_156 rfl hw.1 hw.2
      replace hw := hw.2 hc0
      by_cases hc1 : (v2 &&& 31) = 1
      · replace hw := hw.1 hc1
        refine bj_tableIn (pc := 39) (tgt := 160) d_L_law_39 (by rw [hc1]; decide) (by rw [hc1]; decide) (by rw [hc1]; rfl) (by decide) ?_
        refine bj_aload_n (pc := 160) 1 d_L_law_160 rfl rfl ?_
        refine bj_aload_n (pc := 161) 0 d_L_law_161 rfl rfl ?_
        refine bj_iload (pc := 162) 4 d_L_law_162 rfl ?_
        refine bj_iconst (pc := 164) (v := 1) d_L_law_164 (by decide) ?_
        refine bj_iadd (pc := 165) d_L_law_165 ?_
        obtain ⟨n, f, v10, hx, hin, hv, hw⟩ := hw
        refine bj_xald (pc := 166) (n := n) (f := f) d_L_law_166 hx hin hv ?_
        refine bj_aload_n (pc := 167) 0 d_L_law_167 rfl rfl ?_
        refine bj_iload (pc := 168) 4 d_L_law_168 rfl ?_
        refine bj_iconst (pc := 170) (v := 2) d_L_law_170 (by decide) ?_
        refine bj_iadd (pc := 171) d_L_law_171 ?_
        obtain ⟨n, f, v11, hx, hin, hv, hw⟩ := hw
        refine bj_xald (pc := 172) (n := n) (f := f) d_L_law_172 hx hin hv ?_
        refine bj_callS (pc := 173) (np := 3) (K' := K_L_target) (argsL := [.ref x1, .int v10, .int v11]) (st := []) (d1 := 4) rfl d_L_law_173 (Or.inl q_449) q_450 q_45 c_L_target n_L_target hR (by decide) (by decide) rfl (Nat.le_of_ble_eq_true rfl) rfl (Nat.le_of_ble_eq_true rfl) (fun R' hR' => m_L_target hR' hw) (bs_kI_ok fun v12 h13 hw => ?_) (fun _ _ z => z)
        refine bj_istore (pc := 176) (lo' := [(5, .int v12), (0, .ref x0), (1, .ref x1), (2, .ref x2), (3, .ref x3), (4, .int x4)]) d_L_law_176 (by decide) rfl ?_
        refine bj_aload_n (pc := 178) 3 d_L_law_178 rfl rfl ?_
        refine bj_aload_n (pc := 179) 1 d_L_law_179 rfl rfl ?_
        refine bj_iload (pc := 180) 5 d_L_law_180 rfl ?_
        refine bj_iconst (pc := 182) (v := 1) d_L_law_182 (by decide) ?_
        refine bj_iadd (pc := 183) d_L_law_183 ?_
        obtain ⟨n, f, v14, hx, hin, hv, hw⟩ := hw
        refine bj_xald (pc := 184) (n := n) (f := f) d_L_law_184 hx hin hv ?_
        refine bj_aload_n (pc := 185) 1 d_L_law_185 rfl rfl ?_
        refine bj_iload (pc := 186) 5 d_L_law_186 rfl ?_
        refine bj_iconst (pc := 188) (v := 2) d_L_law_188 (by decide) ?_
        refine bj_iadd (pc := 189) d_L_law_189 ?_
        obtain ⟨n, f, v15, hx, hin, hv, hw⟩ := hw
        refine bj_xald (pc := 190) (n := n) (f := f) d_L_law_190 hx hin hv ?_
        obtain ⟨⟨fs, hx⟩, hw⟩ := hw
        refine bj_callV (pc := 191) (np := 2) (K' := K_R_target) (argsL := [.int v14, .int v15]) (st := []) (d1 := 2) (ci := 7) (fs := fs) rfl d_L_law_191 (Or.inl q_839) q_840 rfl q_841 c_R_target n_R_target hR (by decide) (by decide) rfl (Nat.le_of_ble_eq_true rfl) rfl (Nat.le_of_ble_eq_true rfl) hx (fun R' hR' => m_R_target hR' hw) (bs_kV_ok fun h16 hw => ?_) (fun _ _ z => z)
        refine bj_aload_n (pc := 194) 3 d_L_law_194 rfl rfl ?_
        obtain ⟨⟨fs, hx⟩, hw⟩ := hw
        refine bj_callV (pc := 195) (np := 0) (K' := K_R_thrown) (argsL := []) (st := []) (d1 := 1) (ci := 7) (fs := fs) rfl d_L_law_195 (Or.inl q_831) q_832 rfl q_833 c_R_thrown n_R_thrown hR (by decide) (by decide) rfl (Nat.le_of_ble_eq_true rfl) rfl (Nat.le_of_ble_eq_true rfl) hx (fun R' hR' => m_R_thrown hR' hw) (bs_kI_ok fun v17 h18 hw => ?_) (fun _ _ z => z)
        refine bj_iload (pc := 198) 0 d_L_law_198 rfl ?_
        refine bj_icmp_eq (pc := 200) (tgt := 205) d_L_law_200 (by decide) (fun hc => ?_) (fun hc => ?_)
        · replace hw := hw.1 hc
          refine bj_goto (pc := 205) (tgt := 972) d_L_law_205 (by decide) ?_
          refine bj_sub [1, 2, 3, 4, 5] (lo' := [(0, .ref x0), (1, .ref x1), (2, .ref x2), (3, .ref x3), (4, .int x4)]) rfl ?_
          exact m_L_law_972 hR hnx23 hw
        · replace hw := hw.2 hc
          refine bj_iconst (pc := 203) (v := 0) d_L_law_203 (by decide) ?_
          exact bj_zret (pc := 204) d_L_law_204 rfl hw.1 hw.2
      replace hw := hw.2 hc1
      by_cases hc2 : (v2 &&& 31) = 2
      · replace hw := hw.1 hc2
        refine bj_tableIn (pc := 39) (tgt := 208) d_L_law_39 (by rw [hc2]; decide) (by rw [hc2]; decide) (by rw [hc2]; rfl) (by decide) ?_
        refine bj_aload_n (pc := 208) 1 d_L_law_208 rfl rfl ?_
        refine bj_aload_n (pc := 209) 0 d_L_law_209 rfl rfl ?_
        refine bj_iload (pc := 210) 4 d_L_law_210 rfl ?_
        refine bj_iconst (pc := 212) (v := 1) d_L_law_212 (by decide) ?_
        refine bj_iadd (pc := 213) d_L_law_213 ?_
        obtain ⟨n, f, v19, hx, hin, hv, hw⟩ := hw
        refine bj_xald (pc := 214) (n := n) (f := f) d_L_law_214 hx hin hv ?_
        refine bj_aload_n (pc := 215) 3 d_L_law_215 rfl rfl ?_
        refine bj_callS (pc := 216) (np := 3) (K' := K_L_source) (argsL := [.ref x1, .int v19, .ref x3]) (st := []) (d1 := 4) rfl d_L_law_216 (Or.inl q_473) q_474 q_45 c_L_source n_L_source hR (by decide) (by decide) rfl (Nat.le_of_ble_eq_true rfl) rfl (Nat.le_of_ble_eq_true rfl) (fun R' hR' => m_L_source hR' hw) (bs_kI_ok fun v20 h21 hw => ?_) (fun _ _ z => z)
        refine bj_istore (pc := 219) (lo' := [(5, .int v20), (0, .ref x0), (1, .ref x1), (2, .ref x2), (3, .ref x3), (4, .int x4)]) d_L_law_219 (by decide) rfl ?_
        refine bj_aload_n (pc := 221) 3 d_L_law_221 rfl rfl ?_
        refine bj_aload_n (pc := 222) 1 d_L_law_222 rfl rfl ?_
        refine bj_iload (pc := 223) 5 d_L_law_223 rfl ?_
        refine bj_iconst (pc := 225) (v := 1) d_L_law_225 (by decide) ?_
        refine bj_iadd (pc := 226) d_L_law_226 ?_
        obtain ⟨n, f, v22, hx, hin, hv, hw⟩ := hw
        refine bj_xald (pc := 227) (n := n) (f := f) d_L_law_227 hx hin hv ?_
        obtain ⟨⟨fs, hx⟩, hw⟩ := hw
        refine bj_callV (pc := 228) (np := 1) (K' := K_R_source) (argsL := [.int v22]) (st := []) (d1 := 2) (ci := 7) (fs := fs) rfl d_L_law_228 (Or.inl q_847) q_848 rfl q_849 c_R_source n_R_source hR (by decide) (by decide) rfl (Nat.le_of_ble_eq_true rfl) rfl (Nat.le_of_ble_eq_true rfl) hx (fun R' hR' => m_R_source hR' hw) (bs_kI_ok fun v23 h24 hw => ?_) (fun _ _ z => z)
        refine bj_istore (pc := 231) (lo' := [(6, .int v23), (5, .int v20), (0, .ref x0), (1, .ref x1), (2, .ref x2), (3, .ref x3), (4, .int x4)]) d_L_law_231 (by decide) rfl ?_
        refine bj_aload_n (pc := 233) 4 d_L_law_233 rfl rfl ?_
        obtain ⟨⟨fs, hx⟩, hw⟩ := hw
        refine bj_callV (pc := 234) (np := 0) (K' := K_R_thrown) (argsL := []) (st := []) (d1 := 1) (ci := 7) (fs := fs) rfl d_L_law_234 (Or.inl q_831) q_832 rfl q_833 c_R_thrown n_R_thrown hR (by decide) (by decide) rfl (Nat.le_of_ble_eq_true rfl) rfl (Nat.le_of_ble_eq_true rfl) hx (fun R' hR' => m_R_thrown hR' hw) (bs_kI_ok fun v25 h26 hw => ?_) (fun _ _ z => z)
        refine bj_iload (pc := 237) 1 d_L_law_237 rfl ?_
        refine bj_icmp_eq (pc := 239) (tgt := 244) d_L_law_239 (by decide) (fun hc => ?_) (fun hc => ?_)
        · replace hw := hw.1 hc
          refine bj_iload (pc := 244) 1 d_L_law_244 rfl ?_
          refine bj_if_ne (pc := 246) (tgt := 261) d_L_law_246 (by decide) (fun hc => ?_) (fun hc => ?_)
          · replace hw := hw.2 hc
            refine bj_sub [2, 3, 4, 5, 6] (lo' := [(0, .ref x0), (1, .ref x1), (2, .ref x2), (3, .ref x3), (4, .int x4)]) rfl ?_
            exact m_L_law_261 hR hnx23 hw
          · replace hw := hw.1 hc
            refine bj_aload_n (pc := 249) 5 d_L_law_249 rfl rfl ?_
            refine bj_iconst (pc := 250) (v := 0) d_L_law_250 (by decide) ?_
            obtain ⟨n, f, v27, hx, hin, hv, hw⟩ := hw
            refine bj_lald (pc := 251) (n := n) (f := f) d_L_law_251 hx hin hv ?_
            refine bj_iload (pc := 252) 0 d_L_law_252 rfl ?_
            refine bj_i2l (pc := 254) d_L_law_254 ?_
            refine bj_lc_eq (pc := 255) (tgt := 261) d_L_law_255 d_L_law_256 (by decide) (fun hc => ?_) (fun hc => ?_)
            · replace hw := hw.1 hc
              refine bj_sub [2, 3, 4, 5, 6] (lo' := [(0, .ref x0), (1, .ref x1), (2, .ref x2), (3, .ref x3), (4, .int x4)]) rfl ?_
              exact m_L_law_261 hR hnx23 hw
            · replace hw := hw.2 hc
              refine bj_iconst (pc := 259) (v := 0) d_L_law_259 (by decide) ?_
              exact bj_zret (pc := 260) d_L_law_260 rfl hw.1 hw.2
        · replace hw := hw.2 hc
          refine bj_iconst (pc := 242) (v := 0) d_L_law_242 (by decide) ?_
          exact bj_zret (pc := 243) d_L_law_243 rfl hw.1 hw.2
      replace hw := hw.2 hc2
      by_cases hc3 : (v2 &&& 31) = 3
      · replace hw := hw.1 hc3
        refine bj_tableIn (pc := 39) (tgt := 264) d_L_law_39 (by rw [hc3]; decide) (by rw [hc3]; decide) (by rw [hc3]; rfl) (by decide) ?_
        refine bj_aload_n (pc := 264) 1 d_L_law_264 rfl rfl ?_
        refine bj_aload_n (pc := 265) 0 d_L_law_265 rfl rfl ?_
        refine bj_iload (pc := 266) 4 d_L_law_266 rfl ?_
        refine bj_iconst (pc := 268) (v := 1) d_L_law_268 (by decide) ?_
        refine bj_iadd (pc := 269) d_L_law_269 ?_
        obtain ⟨n, f, v28, hx, hin, hv, hw⟩ := hw
        refine bj_xald (pc := 270) (n := n) (f := f) d_L_law_270 hx hin hv ?_
        refine bj_aload_n (pc := 271) 3 d_L_law_271 rfl rfl ?_
        refine bj_callS (pc := 272) (np := 3) (K' := K_L_make) (argsL := [.ref x1, .int v28, .ref x3]) (st := []) (d1 := 6) rfl d_L_law_272 (Or.inl q_480) q_481 q_45 c_L_make n_L_make hR (by decide) (by decide) rfl (Nat.le_of_ble_eq_true rfl) rfl (Nat.le_of_ble_eq_true rfl) (fun R' hR' => m_L_make hR' hw) (bs_kI_ok fun v29 h30 hw => ?_) (fun _ _ z => z)
        refine bj_istore (pc := 275) (lo' := [(5, .int v29), (0, .ref x0), (1, .ref x1), (2, .ref x2), (3, .ref x3), (4, .int x4)]) d_L_law_275 (by decide) rfl ?_
        refine bj_aload_n (pc := 277) 3 d_L_law_277 rfl rfl ?_
        refine bj_aload_n (pc := 278) 1 d_L_law_278 rfl rfl ?_
        refine bj_iload (pc := 279) 5 d_L_law_279 rfl ?_
        refine bj_iconst (pc := 281) (v := 1) d_L_law_281 (by decide) ?_
        refine bj_iadd (pc := 282) d_L_law_282 ?_
        obtain ⟨n, f, v31, hx, hin, hv, hw⟩ := hw
        refine bj_xald (pc := 283) (n := n) (f := f) d_L_law_283 hx hin hv ?_
        obtain ⟨⟨fs, hx⟩, hw⟩ := hw
        refine bj_callV (pc := 284) (np := 1) (K' := K_R_make) (argsL := [.int v31]) (st := []) (d1 := 5) (ci := 7) (fs := fs) rfl d_L_law_284 (Or.inl q_851) q_852 rfl q_853 c_R_make n_R_make hR (by decide) (by decide) rfl (Nat.le_of_ble_eq_true rfl) rfl (Nat.le_of_ble_eq_true rfl) hx (fun R' hR' => m_R_make hR' hw) (bs_kI_ok fun v32 h33 hw => ?_) (fun _ _ z => z)
        refine bj_istore (pc := 287) (lo' := [(6, .int v32), (5, .int v29), (0, .ref x0), (1, .ref x1), (2, .ref x2), (3, .ref x3), (4, .int x4)]) d_L_law_287 (by decide) rfl ?_
        refine bj_aload_n (pc := 289) 4 d_L_law_289 rfl rfl ?_
        obtain ⟨⟨fs, hx⟩, hw⟩ := hw
        refine bj_callV (pc := 290) (np := 0) (K' := K_R_thrown) (argsL := []) (st := []) (d1 := 1) (ci := 7) (fs := fs) rfl d_L_law_290 (Or.inl q_831) q_832 rfl q_833 c_R_thrown n_R_thrown hR (by decide) (by decide) rfl (Nat.le_of_ble_eq_true rfl) rfl (Nat.le_of_ble_eq_true rfl) hx (fun R' hR' => m_R_thrown hR' hw) (bs_kI_ok fun v34 h35 hw => ?_) (fun _ _ z => z)
        refine bj_iload (pc := 293) 1 d_L_law_293 rfl ?_
        refine bj_icmp_eq (pc := 295) (tgt := 300) d_L_law_295 (by decide) (fun hc => ?_) (fun hc => ?_)
        · replace hw := hw.1 hc
          refine bj_iload (pc := 300) 1 d_L_law_300 rfl ?_
          refine bj_if_ne (pc := 302) (tgt := 317) d_L_law_302 (by decide) (fun hc => ?_) (fun hc => ?_)
          · replace hw := hw.2 hc
            refine bj_sub [2, 3, 4, 5, 6] (lo' := [(0, .ref x0), (1, .ref x1), (2, .ref x2), (3, .ref x3), (4, .int x4)]) rfl ?_
            exact m_L_law_317 hR hnx23 hw
          · replace hw := hw.1 hc
            refine bj_aload_n (pc := 305) 5 d_L_law_305 rfl rfl ?_
            refine bj_iconst (pc := 306) (v := 0) d_L_law_306 (by decide) ?_
            obtain ⟨n, f, v36, hx, hin, hv, hw⟩ := hw
            refine bj_lald (pc := 307) (n := n) (f := f) d_L_law_307 hx hin hv ?_
            refine bj_iload (pc := 308) 0 d_L_law_308 rfl ?_
            refine bj_i2l (pc := 310) d_L_law_310 ?_
            refine bj_lc_eq (pc := 311) (tgt := 317) d_L_law_311 d_L_law_312 (by decide) (fun hc => ?_) (fun hc => ?_)
            · replace hw := hw.1 hc
              refine bj_sub [2, 3, 4, 5, 6] (lo' := [(0, .ref x0), (1, .ref x1), (2, .ref x2), (3, .ref x3), (4, .int x4)]) rfl ?_
              exact m_L_law_317 hR hnx23 hw
            · replace hw := hw.2 hc
              refine bj_iconst (pc := 315) (v := 0) d_L_law_315 (by decide) ?_
              exact bj_zret (pc := 316) d_L_law_316 rfl hw.1 hw.2
        · replace hw := hw.2 hc
          refine bj_iconst (pc := 298) (v := 0) d_L_law_298 (by decide) ?_
          exact bj_zret (pc := 299) d_L_law_299 rfl hw.1 hw.2
      replace hw := hw.2 hc3
      by_cases hc4 : (v2 &&& 31) = 4
      · replace hw := hw.1 hc4
        refine bj_tableIn (pc := 39) (tgt := 320) d_L_law_39 (by rw [hc4]; decide) (by rw [hc4]; decide) (by rw [hc4]; rfl) (by decide) ?_
        refine bj_aload_n (pc := 320) 1 d_L_law_320 rfl rfl ?_
        obtain ⟨⟨fs, hx⟩, hw⟩ := hw
        refine bj_callV (pc := 321) (np := 0) (K' := K_B_size) (argsL := []) (st := []) (d1 := 2) (ci := 0) (fs := fs) rfl d_L_law_321 (Or.inl q_224) q_225 rfl q_226 c_B_size n_B_size hR (by decide) (by decide) rfl (Nat.le_of_ble_eq_true rfl) rfl (Nat.le_of_ble_eq_true rfl) hx (fun R' hR' => m_B_size hR' hw) (bs_kI_ok fun v37 h38 hw => ?_) (fun _ _ z => z)
        refine bj_aload_n (pc := 324) 2 d_L_law_324 rfl rfl ?_
        obtain ⟨⟨fs, hx⟩, hw⟩ := hw
        refine bj_callV (pc := 325) (np := 0) (K' := K_R_size) (argsL := []) (st := [.int v37]) (d1 := 1) (ci := 7) (fs := fs) rfl d_L_law_325 (Or.inl q_891) q_892 rfl q_893 c_R_size n_R_size hR (by decide) (by decide) rfl (Nat.le_of_ble_eq_true rfl) rfl (Nat.le_of_ble_eq_true rfl) hx (fun R' hR' => m_R_size hR' hw) (bs_kI_ok fun v39 h40 hw => ?_) (fun _ _ z => z)
        refine bj_icmp_eq (pc := 328) (tgt := 972) d_L_law_328 (by decide) (fun hc => ?_) (fun hc => ?_)
        · replace hw := hw.1 hc
          exact m_L_law_972 hR hnx23 hw
        · replace hw := hw.2 hc
          refine bj_iconst (pc := 331) (v := 0) d_L_law_331 (by decide) ?_
          exact bj_zret (pc := 332) d_L_law_332 rfl hw.1 hw.2
      replace hw := hw.2 hc4
      by_cases hc5 : (v2 &&& 31) = 5
      · replace hw := hw.1 hc5
        refine bj_tableIn (pc := 39) (tgt := 333) d_L_law_39 (by rw [hc5]; decide) (by rw [hc5]; decide) (by rw [hc5]; rfl) (by decide) ?_
        refine bj_aload_n (pc := 333) 1 d_L_law_333 rfl rfl ?_
        refine bj_aload_n (pc := 334) 0 d_L_law_334 rfl rfl ?_
        refine bj_iload (pc := 335) 4 d_L_law_335 rfl ?_
        refine bj_iconst (pc := 337) (v := 1) d_L_law_337 (by decide) ?_
        refine bj_iadd (pc := 338) d_L_law_338 ?_
        obtain ⟨n, f, v41, hx, hin, hv, hw⟩ := hw
        refine bj_xald (pc := 339) (n := n) (f := f) d_L_law_339 hx hin hv ?_
        refine bj_aload_n (pc := 340) 0 d_L_law_340 rfl rfl ?_
        refine bj_iload (pc := 341) 4 d_L_law_341 rfl ?_
        refine bj_iconst (pc := 343) (v := 2) d_L_law_343 (by decide) ?_
        refine bj_iadd (pc := 344) d_L_law_344 ?_
        obtain ⟨n, f, v42, hx, hin, hv, hw⟩ := hw
        refine bj_xald (pc := 345) (n := n) (f := f) d_L_law_345 hx hin hv ?_
        refine bj_if_eq (pc := 346) (tgt := 353) d_L_law_346 (by decide) (fun hc => ?_) (fun hc => ?_)
        · replace hw := hw.1 hc
          refine bj_iconst (pc := 353) (v := 0) d_L_law_353 (by decide) ?_
          exact m_L_law_354 hR hnx23 hw
        · replace hw := hw.2 hc
          refine bj_iconst (pc := 349) (v := 1) d_L_law_349 (by decide) ?_
          refine bj_goto (pc := 350) (tgt := 354) d_L_law_350 (by decide) ?_
          exact m_L_law_354 hR hnx23 hw
      replace hw := hw.2 hc5
      by_cases hc6 : (v2 &&& 31) = 6
      · replace hw := hw.1 hc6
        refine bj_tableIn (pc := 39) (tgt := 417) d_L_law_39 (by rw [hc6]; decide) (by rw [hc6]; decide) (by rw [hc6]; rfl) (by decide) ?_
        refine bj_aload_n (pc := 417) 1 d_L_law_417 rfl rfl ?_
        refine bj_aload_n (pc := 418) 0 d_L_law_418 rfl rfl ?_
        refine bj_iload (pc := 419) 4 d_L_law_419 rfl ?_
        refine bj_iconst (pc := 421) (v := 1) d_L_law_421 (by decide) ?_
        refine bj_iadd (pc := 422) d_L_law_422 ?_
        obtain ⟨n, f, v43, hx, hin, hv, hw⟩ := hw
        refine bj_xald (pc := 423) (n := n) (f := f) d_L_law_423 hx hin hv ?_
        refine bj_aload_n (pc := 424) 3 d_L_law_424 rfl rfl ?_
        refine bj_callS (pc := 425) (np := 3) (K' := K_L_mask) (argsL := [.ref x1, .int v43, .ref x3]) (st := []) (d1 := 4) rfl d_L_law_425 (Or.inl q_621) q_622 q_45 c_L_mask n_L_mask hR (by decide) (by decide) rfl (Nat.le_of_ble_eq_true rfl) rfl (Nat.le_of_ble_eq_true rfl) (fun R' hR' => m_L_mask hR' hw) (bs_kI_ok fun v44 h45 hw => ?_) (fun _ _ z => z)
        refine bj_istore (pc := 428) (lo' := [(5, .int v44), (0, .ref x0), (1, .ref x1), (2, .ref x2), (3, .ref x3), (4, .int x4)]) d_L_law_428 (by decide) rfl ?_
        refine bj_aload_n (pc := 430) 3 d_L_law_430 rfl rfl ?_
        refine bj_aload_n (pc := 431) 1 d_L_law_431 rfl rfl ?_
        refine bj_iload (pc := 432) 5 d_L_law_432 rfl ?_
        refine bj_iconst (pc := 434) (v := 1) d_L_law_434 (by decide) ?_
        refine bj_iadd (pc := 435) d_L_law_435 ?_
        obtain ⟨n, f, v46, hx, hin, hv, hw⟩ := hw
        refine bj_xald (pc := 436) (n := n) (f := f) d_L_law_436 hx hin hv ?_
        obtain ⟨⟨fs, hx⟩, hw⟩ := hw
        refine bj_callV (pc := 437) (np := 1) (K' := K_R_mask) (argsL := [.int v46]) (st := []) (d1 := 2) (ci := 7) (fs := fs) rfl d_L_law_437 (Or.inl q_903) q_904 rfl q_905 c_R_mask n_R_mask hR (by decide) (by decide) rfl (Nat.le_of_ble_eq_true rfl) rfl (Nat.le_of_ble_eq_true rfl) hx (fun R' hR' => m_R_mask hR' hw) (bs_kL_ok fun v47 h48 hw => ?_) (fun _ _ z => z)
        refine bj_lstore (pc := 440) (lo' := [(6, .long v47), (5, .int v44), (0, .ref x0), (1, .ref x1), (2, .ref x2), (3, .ref x3), (4, .int x4)]) d_L_law_440 (by decide) rfl ?_
        refine bj_aload_n (pc := 442) 4 d_L_law_442 rfl rfl ?_
        obtain ⟨⟨fs, hx⟩, hw⟩ := hw
        refine bj_callV (pc := 443) (np := 0) (K' := K_R_thrown) (argsL := []) (st := []) (d1 := 1) (ci := 7) (fs := fs) rfl d_L_law_443 (Or.inl q_831) q_832 rfl q_833 c_R_thrown n_R_thrown hR (by decide) (by decide) rfl (Nat.le_of_ble_eq_true rfl) rfl (Nat.le_of_ble_eq_true rfl) hx (fun R' hR' => m_R_thrown hR' hw) (bs_kI_ok fun v49 h50 hw => ?_) (fun _ _ z => z)
        refine bj_iload (pc := 446) 1 d_L_law_446 rfl ?_
        refine bj_icmp_eq (pc := 448) (tgt := 453) d_L_law_448 (by decide) (fun hc => ?_) (fun hc => ?_)
        · replace hw := hw.1 hc
          refine bj_iload (pc := 453) 1 d_L_law_453 rfl ?_
          refine bj_if_ne (pc := 455) (tgt := 469) d_L_law_455 (by decide) (fun hc => ?_) (fun hc => ?_)
          · replace hw := hw.2 hc
            refine bj_sub [2, 3, 4, 5, 6] (lo' := [(0, .ref x0), (1, .ref x1), (2, .ref x2), (3, .ref x3), (4, .int x4)]) rfl ?_
            exact m_L_law_469 hR hnx23 hw
          · replace hw := hw.1 hc
            refine bj_aload_n (pc := 458) 5 d_L_law_458 rfl rfl ?_
            refine bj_iconst (pc := 459) (v := 0) d_L_law_459 (by decide) ?_
            obtain ⟨n, f, v51, hx, hin, hv, hw⟩ := hw
            refine bj_lald (pc := 460) (n := n) (f := f) d_L_law_460 hx hin hv ?_
            refine bj_lload (pc := 461) 0 d_L_law_461 rfl ?_
            refine bj_lc_eq (pc := 463) (tgt := 469) d_L_law_463 d_L_law_464 (by decide) (fun hc => ?_) (fun hc => ?_)
            · replace hw := hw.1 hc
              refine bj_sub [2, 3, 4, 5, 6] (lo' := [(0, .ref x0), (1, .ref x1), (2, .ref x2), (3, .ref x3), (4, .int x4)]) rfl ?_
              exact m_L_law_469 hR hnx23 hw
            · replace hw := hw.2 hc
              refine bj_iconst (pc := 467) (v := 0) d_L_law_467 (by decide) ?_
              exact bj_zret (pc := 468) d_L_law_468 rfl hw.1 hw.2
        · replace hw := hw.2 hc
          refine bj_iconst (pc := 451) (v := 0) d_L_law_451 (by decide) ?_
          exact bj_zret (pc := 452) d_L_law_452 rfl hw.1 hw.2
      replace hw := hw.2 hc6
      by_cases hc7 : (v2 &&& 31) = 7
      · replace hw := hw.1 hc7
        refine bj_tableIn (pc := 39) (tgt := 472) d_L_law_39 (by rw [hc7]; decide) (by rw [hc7]; decide) (by rw [hc7]; rfl) (by decide) ?_
        refine bj_aload_n (pc := 472) 1 d_L_law_472 rfl rfl ?_
        refine bj_aload_n (pc := 473) 0 d_L_law_473 rfl rfl ?_
        refine bj_iload (pc := 474) 4 d_L_law_474 rfl ?_
        refine bj_iconst (pc := 476) (v := 1) d_L_law_476 (by decide) ?_
        refine bj_iadd (pc := 477) d_L_law_477 ?_
        obtain ⟨n, f, v52, hx, hin, hv, hw⟩ := hw
        refine bj_xald (pc := 478) (n := n) (f := f) d_L_law_478 hx hin hv ?_
        refine bj_aload_n (pc := 479) 0 d_L_law_479 rfl rfl ?_
        refine bj_iload (pc := 480) 4 d_L_law_480 rfl ?_
        refine bj_iconst (pc := 482) (v := 2) d_L_law_482 (by decide) ?_
        refine bj_iadd (pc := 483) d_L_law_483 ?_
        obtain ⟨n, f, v53, hx, hin, hv, hw⟩ := hw
        refine bj_xald (pc := 484) (n := n) (f := f) d_L_law_484 hx hin hv ?_
        refine bj_aload_n (pc := 485) 0 d_L_law_485 rfl rfl ?_
        refine bj_iload (pc := 486) 4 d_L_law_486 rfl ?_
        refine bj_iconst (pc := 488) (v := 3) d_L_law_488 (by decide) ?_
        refine bj_iadd (pc := 489) d_L_law_489 ?_
        obtain ⟨n, f, v54, hx, hin, hv, hw⟩ := hw
        refine bj_xald (pc := 490) (n := n) (f := f) d_L_law_490 hx hin hv ?_
        refine bj_i2l (pc := 491) d_L_law_491 ?_
        refine bj_bipush (pc := 492) (v := 32) d_L_law_492 (by decide) ?_
        refine bj_lshl (pc := 494) d_L_law_494 ?_
        refine bj_aload_n (pc := 495) 0 d_L_law_495 rfl rfl ?_
        refine bj_iload (pc := 496) 4 d_L_law_496 rfl ?_
        refine bj_iconst (pc := 498) (v := 4) d_L_law_498 (by decide) ?_
        refine bj_iadd (pc := 499) d_L_law_499 ?_
        obtain ⟨n, f, v55, hx, hin, hv, hw⟩ := hw
        refine bj_xald (pc := 500) (n := n) (f := f) d_L_law_500 hx hin hv ?_
        refine bj_i2l (pc := 501) d_L_law_501 ?_
        refine bj_ldc2 (pc := 502) (v := 4294967295) d_L_law_502 q_991 ?_
        refine bj_land (pc := 505) d_L_law_505 ?_
        refine bj_lor (pc := 506) d_L_law_506 ?_
        refine bj_callS (pc := 507) (np := 4) (K' := K_L_patch) (argsL := [.ref x1, .int v52, .int v53, .long ((bs_shl v54.toInt64 32) ||| (v55.toInt64 &&& 4294967295))]) (st := []) (d1 := 6) rfl d_L_law_507 (Or.inl q_629) q_630 q_45 c_L_patch n_L_patch hR (by decide) (by decide) rfl (Nat.le_of_ble_eq_true rfl) rfl (Nat.le_of_ble_eq_true rfl) (fun R' hR' => m_L_patch hR' hw) (bs_kI_ok fun v56 h57 hw => ?_) (fun _ _ z => z)
        refine bj_istore (pc := 510) (lo' := [(5, .int v56), (0, .ref x0), (1, .ref x1), (2, .ref x2), (3, .ref x3), (4, .int x4)]) d_L_law_510 (by decide) rfl ?_
        refine bj_aload_n (pc := 512) 3 d_L_law_512 rfl rfl ?_
        refine bj_aload_n (pc := 513) 1 d_L_law_513 rfl rfl ?_
        refine bj_iload (pc := 514) 5 d_L_law_514 rfl ?_
        refine bj_iconst (pc := 516) (v := 1) d_L_law_516 (by decide) ?_
        refine bj_iadd (pc := 517) d_L_law_517 ?_
        obtain ⟨n, f, v58, hx, hin, hv, hw⟩ := hw
        refine bj_xald (pc := 518) (n := n) (f := f) d_L_law_518 hx hin hv ?_
        refine bj_aload_n (pc := 519) 1 d_L_law_519 rfl rfl ?_
        refine bj_iload (pc := 520) 5 d_L_law_520 rfl ?_
        refine bj_iconst (pc := 522) (v := 2) d_L_law_522 (by decide) ?_
        refine bj_iadd (pc := 523) d_L_law_523 ?_
        obtain ⟨n, f, v59, hx, hin, hv, hw⟩ := hw
        refine bj_xald (pc := 524) (n := n) (f := f) d_L_law_524 hx hin hv ?_
        refine bj_aload_n (pc := 525) 1 d_L_law_525 rfl rfl ?_
        refine bj_iload (pc := 526) 5 d_L_law_526 rfl ?_
        refine bj_iconst (pc := 528) (v := 3) d_L_law_528 (by decide) ?_
        refine bj_iadd (pc := 529) d_L_law_529 ?_
        obtain ⟨n, f, v60, hx, hin, hv, hw⟩ := hw
        refine bj_xald (pc := 530) (n := n) (f := f) d_L_law_530 hx hin hv ?_
        refine bj_i2l (pc := 531) d_L_law_531 ?_
        refine bj_bipush (pc := 532) (v := 32) d_L_law_532 (by decide) ?_
        refine bj_lshl (pc := 534) d_L_law_534 ?_
        refine bj_aload_n (pc := 535) 1 d_L_law_535 rfl rfl ?_
        refine bj_iload (pc := 536) 5 d_L_law_536 rfl ?_
        refine bj_iconst (pc := 538) (v := 4) d_L_law_538 (by decide) ?_
        refine bj_iadd (pc := 539) d_L_law_539 ?_
        obtain ⟨n, f, v61, hx, hin, hv, hw⟩ := hw
        refine bj_xald (pc := 540) (n := n) (f := f) d_L_law_540 hx hin hv ?_
        refine bj_i2l (pc := 541) d_L_law_541 ?_
        refine bj_ldc2 (pc := 542) (v := 4294967295) d_L_law_542 q_991 ?_
        refine bj_land (pc := 545) d_L_law_545 ?_
        refine bj_lor (pc := 546) d_L_law_546 ?_
        obtain ⟨⟨fs, hx⟩, hw⟩ := hw
        refine bj_callV (pc := 547) (np := 3) (K' := K_R_patch) (argsL := [.int v58, .int v59, .long ((bs_shl v60.toInt64 32) ||| (v61.toInt64 &&& 4294967295))]) (st := []) (d1 := 3) (ci := 7) (fs := fs) rfl d_L_law_547 (Or.inl q_907) q_908 rfl q_909 c_R_patch n_R_patch hR (by decide) (by decide) rfl (Nat.le_of_ble_eq_true rfl) rfl (Nat.le_of_ble_eq_true rfl) hx (fun R' hR' => m_R_patch hR' hw) (bs_kV_ok fun h62 hw => ?_) (fun _ _ z => z)
        refine bj_aload_n (pc := 550) 3 d_L_law_550 rfl rfl ?_
        obtain ⟨⟨fs, hx⟩, hw⟩ := hw
        refine bj_callV (pc := 551) (np := 0) (K' := K_R_thrown) (argsL := []) (st := []) (d1 := 1) (ci := 7) (fs := fs) rfl d_L_law_551 (Or.inl q_831) q_832 rfl q_833 c_R_thrown n_R_thrown hR (by decide) (by decide) rfl (Nat.le_of_ble_eq_true rfl) rfl (Nat.le_of_ble_eq_true rfl) hx (fun R' hR' => m_R_thrown hR' hw) (bs_kI_ok fun v63 h64 hw => ?_) (fun _ _ z => z)
        refine bj_iload (pc := 554) 0 d_L_law_554 rfl ?_
        refine bj_icmp_eq (pc := 556) (tgt := 561) d_L_law_556 (by decide) (fun hc => ?_) (fun hc => ?_)
        · replace hw := hw.1 hc
          refine bj_goto (pc := 561) (tgt := 972) d_L_law_561 (by decide) ?_
          refine bj_sub [1, 2, 3, 4, 5] (lo' := [(0, .ref x0), (1, .ref x1), (2, .ref x2), (3, .ref x3), (4, .int x4)]) rfl ?_
          exact m_L_law_972 hR hnx23 hw
        · replace hw := hw.2 hc
          refine bj_iconst (pc := 559) (v := 0) d_L_law_559 (by decide) ?_
          exact bj_zret (pc := 560) d_L_law_560 rfl hw.1 hw.2
      replace hw := hw.2 hc7
      by_cases hc8 : (v2 &&& 31) = 8
      · replace hw := hw.1 hc8
        refine bj_tableIn (pc := 39) (tgt := 564) d_L_law_39 (by rw [hc8]; decide) (by rw [hc8]; decide) (by rw [hc8]; rfl) (by decide) ?_
        refine bj_aload_n (pc := 564) 1 d_L_law_564 rfl rfl ?_
        refine bj_aload_n (pc := 565) 0 d_L_law_565 rfl rfl ?_
        refine bj_iload (pc := 566) 4 d_L_law_566 rfl ?_
        refine bj_iconst (pc := 568) (v := 1) d_L_law_568 (by decide) ?_
        refine bj_iadd (pc := 569) d_L_law_569 ?_
        obtain ⟨n, f, v65, hx, hin, hv, hw⟩ := hw
        refine bj_xald (pc := 570) (n := n) (f := f) d_L_law_570 hx hin hv ?_
        refine bj_i2l (pc := 571) d_L_law_571 ?_
        refine bj_bipush (pc := 572) (v := 32) d_L_law_572 (by decide) ?_
        refine bj_lshl (pc := 574) d_L_law_574 ?_
        refine bj_aload_n (pc := 575) 0 d_L_law_575 rfl rfl ?_
        refine bj_iload (pc := 576) 4 d_L_law_576 rfl ?_
        refine bj_iconst (pc := 578) (v := 2) d_L_law_578 (by decide) ?_
        refine bj_iadd (pc := 579) d_L_law_579 ?_
        obtain ⟨n, f, v66, hx, hin, hv, hw⟩ := hw
        refine bj_xald (pc := 580) (n := n) (f := f) d_L_law_580 hx hin hv ?_
        refine bj_i2l (pc := 581) d_L_law_581 ?_
        refine bj_ldc2 (pc := 582) (v := 4294967295) d_L_law_582 q_991 ?_
        refine bj_land (pc := 585) d_L_law_585 ?_
        refine bj_lor (pc := 586) d_L_law_586 ?_
        obtain ⟨⟨fs, hx⟩, hw⟩ := hw
        refine bj_callV (pc := 587) (np := 1) (K' := K_B_run) (argsL := [.long ((bs_shl v65.toInt64 32) ||| (v66.toInt64 &&& 4294967295))]) (st := []) (d1 := 5) (ci := 0) (fs := fs) rfl d_L_law_587 (Or.inl q_232) q_233 rfl q_234 c_B_run n_B_run hR (by decide) (by decide) rfl (Nat.le_of_ble_eq_true rfl) rfl (Nat.le_of_ble_eq_true rfl) hx (fun R' hR' => m_B_run hR' hw) (bs_kL_ok fun v67 h68 hw => ?_) (fun _ _ z => z)
        refine bj_aload_n (pc := 590) 2 d_L_law_590 rfl rfl ?_
        refine bj_aload_n (pc := 591) 0 d_L_law_591 rfl rfl ?_
        refine bj_iload (pc := 592) 4 d_L_law_592 rfl ?_
        refine bj_iconst (pc := 594) (v := 1) d_L_law_594 (by decide) ?_
        refine bj_iadd (pc := 595) d_L_law_595 ?_
        obtain ⟨n, f, v69, hx, hin, hv, hw⟩ := hw
        refine bj_xald (pc := 596) (n := n) (f := f) d_L_law_596 hx hin hv ?_
        refine bj_i2l (pc := 597) d_L_law_597 ?_
        refine bj_bipush (pc := 598) (v := 32) d_L_law_598 (by decide) ?_
        refine bj_lshl (pc := 600) d_L_law_600 ?_
        refine bj_aload_n (pc := 601) 0 d_L_law_601 rfl rfl ?_
        refine bj_iload (pc := 602) 4 d_L_law_602 rfl ?_
        refine bj_iconst (pc := 604) (v := 2) d_L_law_604 (by decide) ?_
        refine bj_iadd (pc := 605) d_L_law_605 ?_
        obtain ⟨n, f, v70, hx, hin, hv, hw⟩ := hw
        refine bj_xald (pc := 606) (n := n) (f := f) d_L_law_606 hx hin hv ?_
        refine bj_i2l (pc := 607) d_L_law_607 ?_
        refine bj_ldc2 (pc := 608) (v := 4294967295) d_L_law_608 q_991 ?_
        refine bj_land (pc := 611) d_L_law_611 ?_
        refine bj_lor (pc := 612) d_L_law_612 ?_
        obtain ⟨⟨fs, hx⟩, hw⟩ := hw
        refine bj_callV (pc := 613) (np := 1) (K' := K_R_run) (argsL := [.long ((bs_shl v69.toInt64 32) ||| (v70.toInt64 &&& 4294967295))]) (st := [.long v67]) (d1 := 5) (ci := 7) (fs := fs) rfl d_L_law_613 (Or.inl q_919) q_920 rfl q_921 c_R_run n_R_run hR (by decide) (by decide) rfl (Nat.le_of_ble_eq_true rfl) rfl (Nat.le_of_ble_eq_true rfl) hx (fun R' hR' => m_R_run hR' hw) (bs_kL_ok fun v71 h72 hw => ?_) (fun _ _ z => z)
        refine bj_lc_eq (pc := 616) (tgt := 972) d_L_law_616 d_L_law_617 (by decide) (fun hc => ?_) (fun hc => ?_)
        · replace hw := hw.1 hc
          exact m_L_law_972 hR hnx23 hw
        · replace hw := hw.2 hc
          refine bj_iconst (pc := 620) (v := 0) d_L_law_620 (by decide) ?_
          exact bj_zret (pc := 621) d_L_law_621 rfl hw.1 hw.2
      replace hw := hw.2 hc8
      by_cases hc9 : (v2 &&& 31) = 9
      · replace hw := hw.1 hc9
        refine bj_tableIn (pc := 39) (tgt := 622) d_L_law_39 (by rw [hc9]; decide) (by rw [hc9]; decide) (by rw [hc9]; rfl) (by decide) ?_
        refine bj_aload_n (pc := 622) 1 d_L_law_622 rfl rfl ?_
        refine bj_aload_n (pc := 623) 0 d_L_law_623 rfl rfl ?_
        refine bj_iload (pc := 624) 4 d_L_law_624 rfl ?_
        refine bj_iconst (pc := 626) (v := 1) d_L_law_626 (by decide) ?_
        refine bj_iadd (pc := 627) d_L_law_627 ?_
        obtain ⟨n, f, v73, hx, hin, hv, hw⟩ := hw
        refine bj_xald (pc := 628) (n := n) (f := f) d_L_law_628 hx hin hv ?_
        refine bj_i2l (pc := 629) d_L_law_629 ?_
        refine bj_bipush (pc := 630) (v := 32) d_L_law_630 (by decide) ?_
        refine bj_lshl (pc := 632) d_L_law_632 ?_
        refine bj_aload_n (pc := 633) 0 d_L_law_633 rfl rfl ?_
        refine bj_iload (pc := 634) 4 d_L_law_634 rfl ?_
        refine bj_iconst (pc := 636) (v := 2) d_L_law_636 (by decide) ?_
        refine bj_iadd (pc := 637) d_L_law_637 ?_
        obtain ⟨n, f, v74, hx, hin, hv, hw⟩ := hw
        refine bj_xald (pc := 638) (n := n) (f := f) d_L_law_638 hx hin hv ?_
        refine bj_i2l (pc := 639) d_L_law_639 ?_
        refine bj_ldc2 (pc := 640) (v := 4294967295) d_L_law_640 q_991 ?_
        refine bj_land (pc := 643) d_L_law_643 ?_
        refine bj_lor (pc := 644) d_L_law_644 ?_
        obtain ⟨⟨fs, hx⟩, hw⟩ := hw
        refine bj_callV (pc := 645) (np := 1) (K' := K_B_direct) (argsL := [.long ((bs_shl v73.toInt64 32) ||| (v74.toInt64 &&& 4294967295))]) (st := []) (d1 := 3) (ci := 0) (fs := fs) rfl d_L_law_645 (Or.inl q_283) q_284 rfl q_285 c_B_direct n_B_direct hR (by decide) (by decide) rfl (Nat.le_of_ble_eq_true rfl) rfl (Nat.le_of_ble_eq_true rfl) hx (fun R' hR' => m_B_direct hR' hw) (bs_kL_ok fun v75 h76 hw => ?_) (fun _ _ z => z)
        refine bj_aload_n (pc := 648) 2 d_L_law_648 rfl rfl ?_
        refine bj_aload_n (pc := 649) 0 d_L_law_649 rfl rfl ?_
        refine bj_iload (pc := 650) 4 d_L_law_650 rfl ?_
        refine bj_iconst (pc := 652) (v := 1) d_L_law_652 (by decide) ?_
        refine bj_iadd (pc := 653) d_L_law_653 ?_
        obtain ⟨n, f, v77, hx, hin, hv, hw⟩ := hw
        refine bj_xald (pc := 654) (n := n) (f := f) d_L_law_654 hx hin hv ?_
        refine bj_i2l (pc := 655) d_L_law_655 ?_
        refine bj_bipush (pc := 656) (v := 32) d_L_law_656 (by decide) ?_
        refine bj_lshl (pc := 658) d_L_law_658 ?_
        refine bj_aload_n (pc := 659) 0 d_L_law_659 rfl rfl ?_
        refine bj_iload (pc := 660) 4 d_L_law_660 rfl ?_
        refine bj_iconst (pc := 662) (v := 2) d_L_law_662 (by decide) ?_
        refine bj_iadd (pc := 663) d_L_law_663 ?_
        obtain ⟨n, f, v78, hx, hin, hv, hw⟩ := hw
        refine bj_xald (pc := 664) (n := n) (f := f) d_L_law_664 hx hin hv ?_
        refine bj_i2l (pc := 665) d_L_law_665 ?_
        refine bj_ldc2 (pc := 666) (v := 4294967295) d_L_law_666 q_991 ?_
        refine bj_land (pc := 669) d_L_law_669 ?_
        refine bj_lor (pc := 670) d_L_law_670 ?_
        obtain ⟨⟨fs, hx⟩, hw⟩ := hw
        refine bj_callV (pc := 671) (np := 1) (K' := K_R_direct) (argsL := [.long ((bs_shl v77.toInt64 32) ||| (v78.toInt64 &&& 4294967295))]) (st := [.long v75]) (d1 := 2) (ci := 7) (fs := fs) rfl d_L_law_671 (Or.inl q_947) q_948 rfl q_949 c_R_direct n_R_direct hR (by decide) (by decide) rfl (Nat.le_of_ble_eq_true rfl) rfl (Nat.le_of_ble_eq_true rfl) hx (fun R' hR' => m_R_direct hR' hw) (bs_kL_ok fun v79 h80 hw => ?_) (fun _ _ z => z)
        refine bj_lc_eq (pc := 674) (tgt := 972) d_L_law_674 d_L_law_675 (by decide) (fun hc => ?_) (fun hc => ?_)
        · replace hw := hw.1 hc
          exact m_L_law_972 hR hnx23 hw
        · replace hw := hw.2 hc
          refine bj_iconst (pc := 678) (v := 0) d_L_law_678 (by decide) ?_
          exact bj_zret (pc := 679) d_L_law_679 rfl hw.1 hw.2
      replace hw := hw.2 hc9
      by_cases hc10 : (v2 &&& 31) = 10
      · replace hw := hw.1 hc10
        refine bj_tableIn (pc := 39) (tgt := 680) d_L_law_39 (by rw [hc10]; decide) (by rw [hc10]; decide) (by rw [hc10]; rfl) (by decide) ?_
        refine bj_aload_n (pc := 680) 1 d_L_law_680 rfl rfl ?_
        obtain ⟨⟨fs, hx⟩, hw⟩ := hw
        refine bj_callV (pc := 681) (np := 0) (K' := K_B_check) (argsL := []) (st := []) (d1 := 5) (ci := 0) (fs := fs) rfl d_L_law_681 (Or.inl q_300) q_301 rfl q_302 c_B_check n_B_check hR (by decide) (by decide) rfl (Nat.le_of_ble_eq_true rfl) rfl (Nat.le_of_ble_eq_true rfl) hx (fun R' hR' => m_B_check hR' hw) (bs_kI_ok fun v81 h82 hw => ?_) (fun _ _ z => z)
        refine bj_aload_n (pc := 684) 2 d_L_law_684 rfl rfl ?_
        obtain ⟨⟨fs, hx⟩, hw⟩ := hw
        refine bj_callV (pc := 685) (np := 0) (K' := K_R_check) (argsL := []) (st := [.int v81]) (d1 := 5) (ci := 7) (fs := fs) rfl d_L_law_685 (Or.inl q_951) q_952 rfl q_953 c_R_check n_R_check hR (by decide) (by decide) rfl (Nat.le_of_ble_eq_true rfl) rfl (Nat.le_of_ble_eq_true rfl) hx (fun R' hR' => m_R_check hR' hw) (bs_kI_ok fun v83 h84 hw => ?_) (fun _ _ z => z)
        refine bj_icmp_eq (pc := 688) (tgt := 972) d_L_law_688 (by decide) (fun hc => ?_) (fun hc => ?_)
        · replace hw := hw.1 hc
          exact m_L_law_972 hR hnx23 hw
        · replace hw := hw.2 hc
          refine bj_iconst (pc := 691) (v := 0) d_L_law_691 (by decide) ?_
          exact bj_zret (pc := 692) d_L_law_692 rfl hw.1 hw.2
      replace hw := hw.2 hc10
      by_cases hc11 : (v2 &&& 31) = 11
      · replace hw := hw.1 hc11
        refine bj_tableIn (pc := 39) (tgt := 693) d_L_law_39 (by rw [hc11]; decide) (by rw [hc11]; decide) (by rw [hc11]; rfl) (by decide) ?_
        refine bj_aload_n (pc := 693) 1 d_L_law_693 rfl rfl ?_
        refine bj_aload_n (pc := 694) 0 d_L_law_694 rfl rfl ?_
        refine bj_iload (pc := 695) 4 d_L_law_695 rfl ?_
        refine bj_iconst (pc := 697) (v := 1) d_L_law_697 (by decide) ?_
        refine bj_iadd (pc := 698) d_L_law_698 ?_
        obtain ⟨n, f, v85, hx, hin, hv, hw⟩ := hw
        refine bj_xald (pc := 699) (n := n) (f := f) d_L_law_699 hx hin hv ?_
        refine bj_aload_n (pc := 700) 3 d_L_law_700 rfl rfl ?_
        refine bj_callS (pc := 701) (np := 3) (K' := K_L_origins) (argsL := [.ref x1, .int v85, .ref x3]) (st := []) (d1 := 6) rfl d_L_law_701 (Or.inl q_647) q_648 q_45 c_L_origins n_L_origins hR (by decide) (by decide) rfl (Nat.le_of_ble_eq_true rfl) rfl (Nat.le_of_ble_eq_true rfl) (fun R' hR' => m_L_origins hR' hw) (bs_kI_ok fun v86 h87 hw => ?_) (fun _ _ z => z)
        refine bj_istore (pc := 704) (lo' := [(5, .int v86), (0, .ref x0), (1, .ref x1), (2, .ref x2), (3, .ref x3), (4, .int x4)]) d_L_law_704 (by decide) rfl ?_
        refine bj_aload_n (pc := 706) 3 d_L_law_706 rfl rfl ?_
        refine bj_aload_n (pc := 707) 1 d_L_law_707 rfl rfl ?_
        refine bj_iload (pc := 708) 5 d_L_law_708 rfl ?_
        refine bj_iconst (pc := 710) (v := 1) d_L_law_710 (by decide) ?_
        refine bj_iadd (pc := 711) d_L_law_711 ?_
        obtain ⟨n, f, v88, hx, hin, hv, hw⟩ := hw
        refine bj_xald (pc := 712) (n := n) (f := f) d_L_law_712 hx hin hv ?_
        obtain ⟨⟨fs, hx⟩, hw⟩ := hw
        refine bj_callV (pc := 713) (np := 1) (K' := K_R_origins) (argsL := [.int v88]) (st := []) (d1 := 5) (ci := 7) (fs := fs) rfl d_L_law_713 (Or.inl q_955) q_956 rfl q_957 c_R_origins n_R_origins hR (by decide) (by decide) rfl (Nat.le_of_ble_eq_true rfl) rfl (Nat.le_of_ble_eq_true rfl) hx (fun R' hR' => m_R_origins hR' hw) (bs_kL_ok fun v89 h90 hw => ?_) (fun _ _ z => z)
        refine bj_lstore (pc := 716) (lo' := [(6, .long v89), (5, .int v86), (0, .ref x0), (1, .ref x1), (2, .ref x2), (3, .ref x3), (4, .int x4)]) d_L_law_716 (by decide) rfl ?_
        refine bj_aload_n (pc := 718) 4 d_L_law_718 rfl rfl ?_
        obtain ⟨⟨fs, hx⟩, hw⟩ := hw
        refine bj_callV (pc := 719) (np := 0) (K' := K_R_thrown) (argsL := []) (st := []) (d1 := 1) (ci := 7) (fs := fs) rfl d_L_law_719 (Or.inl q_831) q_832 rfl q_833 c_R_thrown n_R_thrown hR (by decide) (by decide) rfl (Nat.le_of_ble_eq_true rfl) rfl (Nat.le_of_ble_eq_true rfl) hx (fun R' hR' => m_R_thrown hR' hw) (bs_kI_ok fun v91 h92 hw => ?_) (fun _ _ z => z)
        refine bj_iload (pc := 722) 1 d_L_law_722 rfl ?_
        refine bj_icmp_eq (pc := 724) (tgt := 729) d_L_law_724 (by decide) (fun hc => ?_) (fun hc => ?_)
        · replace hw := hw.1 hc
          refine bj_iload (pc := 729) 1 d_L_law_729 rfl ?_
          refine bj_if_ne (pc := 731) (tgt := 745) d_L_law_731 (by decide) (fun hc => ?_) (fun hc => ?_)
          · replace hw := hw.2 hc
            refine bj_sub [2, 3, 4, 5, 6] (lo' := [(0, .ref x0), (1, .ref x1), (2, .ref x2), (3, .ref x3), (4, .int x4)]) rfl ?_
            exact m_L_law_745 hR hnx23 hw
          · replace hw := hw.1 hc
            refine bj_aload_n (pc := 734) 5 d_L_law_734 rfl rfl ?_
            refine bj_iconst (pc := 735) (v := 0) d_L_law_735 (by decide) ?_
            obtain ⟨n, f, v93, hx, hin, hv, hw⟩ := hw
            refine bj_lald (pc := 736) (n := n) (f := f) d_L_law_736 hx hin hv ?_
            refine bj_lload (pc := 737) 0 d_L_law_737 rfl ?_
            refine bj_lc_eq (pc := 739) (tgt := 745) d_L_law_739 d_L_law_740 (by decide) (fun hc => ?_) (fun hc => ?_)
            · replace hw := hw.1 hc
              refine bj_sub [2, 3, 4, 5, 6] (lo' := [(0, .ref x0), (1, .ref x1), (2, .ref x2), (3, .ref x3), (4, .int x4)]) rfl ?_
              exact m_L_law_745 hR hnx23 hw
            · replace hw := hw.2 hc
              refine bj_iconst (pc := 743) (v := 0) d_L_law_743 (by decide) ?_
              exact bj_zret (pc := 744) d_L_law_744 rfl hw.1 hw.2
        · replace hw := hw.2 hc
          refine bj_iconst (pc := 727) (v := 0) d_L_law_727 (by decide) ?_
          exact bj_zret (pc := 728) d_L_law_728 rfl hw.1 hw.2
      replace hw := hw.2 hc11
      by_cases hc12 : (v2 &&& 31) = 12
      · replace hw := hw.1 hc12
        refine bj_tableIn (pc := 39) (tgt := 748) d_L_law_39 (by rw [hc12]; decide) (by rw [hc12]; decide) (by rw [hc12]; rfl) (by decide) ?_
        refine bj_aload_n (pc := 748) 1 d_L_law_748 rfl rfl ?_
        refine bj_aload_n (pc := 749) 0 d_L_law_749 rfl rfl ?_
        refine bj_iload (pc := 750) 4 d_L_law_750 rfl ?_
        refine bj_iconst (pc := 752) (v := 1) d_L_law_752 (by decide) ?_
        refine bj_iadd (pc := 753) d_L_law_753 ?_
        obtain ⟨n, f, v94, hx, hin, hv, hw⟩ := hw
        refine bj_xald (pc := 754) (n := n) (f := f) d_L_law_754 hx hin hv ?_
        refine bj_aload_n (pc := 755) 3 d_L_law_755 rfl rfl ?_
        refine bj_callS (pc := 756) (np := 3) (K' := K_L_constant) (argsL := [.ref x1, .int v94, .ref x3]) (st := []) (d1 := 6) rfl d_L_law_756 (Or.inl q_658) q_659 q_45 c_L_constant n_L_constant hR (by decide) (by decide) rfl (Nat.le_of_ble_eq_true rfl) rfl (Nat.le_of_ble_eq_true rfl) (fun R' hR' => m_L_constant hR' hw) (bs_kI_ok fun v95 h96 hw => ?_) (fun _ _ z => z)
        refine bj_istore (pc := 759) (lo' := [(5, .int v95), (0, .ref x0), (1, .ref x1), (2, .ref x2), (3, .ref x3), (4, .int x4)]) d_L_law_759 (by decide) rfl ?_
        refine bj_aload_n (pc := 761) 3 d_L_law_761 rfl rfl ?_
        refine bj_aload_n (pc := 762) 1 d_L_law_762 rfl rfl ?_
        refine bj_iload (pc := 763) 5 d_L_law_763 rfl ?_
        refine bj_iconst (pc := 765) (v := 1) d_L_law_765 (by decide) ?_
        refine bj_iadd (pc := 766) d_L_law_766 ?_
        obtain ⟨n, f, v97, hx, hin, hv, hw⟩ := hw
        refine bj_xald (pc := 767) (n := n) (f := f) d_L_law_767 hx hin hv ?_
        obtain ⟨⟨fs, hx⟩, hw⟩ := hw
        refine bj_callV (pc := 768) (np := 1) (K' := K_R_constant) (argsL := [.int v97]) (st := []) (d1 := 5) (ci := 7) (fs := fs) rfl d_L_law_768 (Or.inl q_959) q_960 rfl q_961 c_R_constant n_R_constant hR (by decide) (by decide) rfl (Nat.le_of_ble_eq_true rfl) rfl (Nat.le_of_ble_eq_true rfl) hx (fun R' hR' => m_R_constant hR' hw) (bs_kI_ok fun v98 h99 hw => ?_) (fun _ _ z => z)
        refine bj_istore (pc := 771) (lo' := [(6, .int v98), (5, .int v95), (0, .ref x0), (1, .ref x1), (2, .ref x2), (3, .ref x3), (4, .int x4)]) d_L_law_771 (by decide) rfl ?_
        refine bj_aload_n (pc := 773) 4 d_L_law_773 rfl rfl ?_
        obtain ⟨⟨fs, hx⟩, hw⟩ := hw
        refine bj_callV (pc := 774) (np := 0) (K' := K_R_thrown) (argsL := []) (st := []) (d1 := 1) (ci := 7) (fs := fs) rfl d_L_law_774 (Or.inl q_831) q_832 rfl q_833 c_R_thrown n_R_thrown hR (by decide) (by decide) rfl (Nat.le_of_ble_eq_true rfl) rfl (Nat.le_of_ble_eq_true rfl) hx (fun R' hR' => m_R_thrown hR' hw) (bs_kI_ok fun v100 h101 hw => ?_) (fun _ _ z => z)
        refine bj_iload (pc := 777) 1 d_L_law_777 rfl ?_
        refine bj_icmp_eq (pc := 779) (tgt := 784) d_L_law_779 (by decide) (fun hc => ?_) (fun hc => ?_)
        · replace hw := hw.1 hc
          refine bj_iload (pc := 784) 1 d_L_law_784 rfl ?_
          refine bj_if_ne (pc := 786) (tgt := 808) d_L_law_786 (by decide) (fun hc => ?_) (fun hc => ?_)
          · replace hw := hw.2 hc
            refine bj_sub [2, 3, 4, 5, 6] (lo' := [(0, .ref x0), (1, .ref x1), (2, .ref x2), (3, .ref x3), (4, .int x4)]) rfl ?_
            exact m_L_law_808 hR hnx23 hw
          · replace hw := hw.1 hc
            refine bj_aload_n (pc := 789) 5 d_L_law_789 rfl rfl ?_
            refine bj_iconst (pc := 790) (v := 0) d_L_law_790 (by decide) ?_
            obtain ⟨n, f, v102, hx, hin, hv, hw⟩ := hw
            refine bj_lald (pc := 791) (n := n) (f := f) d_L_law_791 hx hin hv ?_
            refine bj_iload (pc := 792) 0 d_L_law_792 rfl ?_
            refine bj_if_eq (pc := 794) (tgt := 801) d_L_law_794 (by decide) (fun hc => ?_) (fun hc => ?_)
            · replace hw := hw.1 hc
              refine bj_lconst (pc := 801) (v := 0) d_L_law_801 (by decide) ?_
              refine bj_sub [2, 3, 4, 5, 6] (lo' := [(0, .ref x0), (1, .ref x1), (2, .ref x2), (3, .ref x3), (4, .int x4)]) rfl ?_
              exact m_L_law_802 hR hnx23 hw
            · replace hw := hw.2 hc
              refine bj_lconst (pc := 797) (v := 1) d_L_law_797 (by decide) ?_
              refine bj_goto (pc := 798) (tgt := 802) d_L_law_798 (by decide) ?_
              refine bj_sub [2, 3, 4, 5, 6] (lo' := [(0, .ref x0), (1, .ref x1), (2, .ref x2), (3, .ref x3), (4, .int x4)]) rfl ?_
              exact m_L_law_802 hR hnx23 hw
        · replace hw := hw.2 hc
          refine bj_iconst (pc := 782) (v := 0) d_L_law_782 (by decide) ?_
          exact bj_zret (pc := 783) d_L_law_783 rfl hw.1 hw.2
      replace hw := hw.2 hc12
      by_cases hc13 : (v2 &&& 31) = 13
      · replace hw := hw.1 hc13
        refine bj_tableIn (pc := 39) (tgt := 811) d_L_law_39 (by rw [hc13]; decide) (by rw [hc13]; decide) (by rw [hc13]; rfl) (by decide) ?_
        refine bj_aload_n (pc := 811) 1 d_L_law_811 rfl rfl ?_
        obtain ⟨⟨fs, hx⟩, hw⟩ := hw
        refine bj_callV (pc := 812) (np := 0) (K' := K_B_ticks) (argsL := []) (st := []) (d1 := 2) (ci := 0) (fs := fs) rfl d_L_law_812 (Or.inl q_363) q_364 rfl q_365 c_B_ticks n_B_ticks hR (by decide) (by decide) rfl (Nat.le_of_ble_eq_true rfl) rfl (Nat.le_of_ble_eq_true rfl) hx (fun R' hR' => m_B_ticks hR' hw) (bs_kI_ok fun v103 h104 hw => ?_) (fun _ _ z => z)
        refine bj_aload_n (pc := 815) 2 d_L_law_815 rfl rfl ?_
        obtain ⟨⟨fs, hx⟩, hw⟩ := hw
        refine bj_callV (pc := 816) (np := 0) (K' := K_R_ticks) (argsL := []) (st := [.int v103]) (d1 := 1) (ci := 7) (fs := fs) rfl d_L_law_816 (Or.inl q_963) q_964 rfl q_965 c_R_ticks n_R_ticks hR (by decide) (by decide) rfl (Nat.le_of_ble_eq_true rfl) rfl (Nat.le_of_ble_eq_true rfl) hx (fun R' hR' => m_R_ticks hR' hw) (bs_kI_ok fun v105 h106 hw => ?_) (fun _ _ z => z)
        refine bj_icmp_eq (pc := 819) (tgt := 972) d_L_law_819 (by decide) (fun hc => ?_) (fun hc => ?_)
        · replace hw := hw.1 hc
          exact m_L_law_972 hR hnx23 hw
        · replace hw := hw.2 hc
          refine bj_iconst (pc := 822) (v := 0) d_L_law_822 (by decide) ?_
          exact bj_zret (pc := 823) d_L_law_823 rfl hw.1 hw.2
      replace hw := hw.2 hc13
      by_cases hc14 : (v2 &&& 31) = 14
      · replace hw := hw.1 hc14
        refine bj_tableIn (pc := 39) (tgt := 824) d_L_law_39 (by rw [hc14]; decide) (by rw [hc14]; decide) (by rw [hc14]; rfl) (by decide) ?_
        refine bj_aload_n (pc := 824) 1 d_L_law_824 rfl rfl ?_
        refine bj_aload_n (pc := 825) 3 d_L_law_825 rfl rfl ?_
        refine bj_callS (pc := 826) (np := 2) (K' := K_L_keep) (argsL := [.ref x1, .ref x3]) (st := []) (d1 := 3) rfl d_L_law_826 (Or.inl q_666) q_667 q_45 c_L_keep n_L_keep hR (by decide) (by decide) rfl (Nat.le_of_ble_eq_true rfl) rfl (Nat.le_of_ble_eq_true rfl) (fun R' hR' => m_L_keep hR' hw) (bs_kI_ok fun v107 h108 hw => ?_) (fun _ _ z => z)
        refine bj_istore (pc := 829) (lo' := [(5, .int v107), (0, .ref x0), (1, .ref x1), (2, .ref x2), (3, .ref x3), (4, .int x4)]) d_L_law_829 (by decide) rfl ?_
        refine bj_aload_n (pc := 831) 3 d_L_law_831 rfl rfl ?_
        obtain ⟨⟨fs, hx⟩, hw⟩ := hw
        refine bj_callV (pc := 832) (np := 0) (K' := K_R_keep) (argsL := []) (st := []) (d1 := 1) (ci := 7) (fs := fs) rfl d_L_law_832 (Or.inl q_967) q_968 rfl q_969 c_R_keep n_R_keep hR (by decide) (by decide) rfl (Nat.le_of_ble_eq_true rfl) rfl (Nat.le_of_ble_eq_true rfl) hx (fun R' hR' => m_R_keep hR' hw) (bs_kI_ok fun v109 h110 hw => ?_) (fun _ _ z => z)
        refine bj_istore (pc := 835) (lo' := [(6, .int v109), (5, .int v107), (0, .ref x0), (1, .ref x1), (2, .ref x2), (3, .ref x3), (4, .int x4)]) d_L_law_835 (by decide) rfl ?_
        refine bj_aload_n (pc := 837) 4 d_L_law_837 rfl rfl ?_
        obtain ⟨⟨fs, hx⟩, hw⟩ := hw
        refine bj_callV (pc := 838) (np := 0) (K' := K_R_thrown) (argsL := []) (st := []) (d1 := 1) (ci := 7) (fs := fs) rfl d_L_law_838 (Or.inl q_831) q_832 rfl q_833 c_R_thrown n_R_thrown hR (by decide) (by decide) rfl (Nat.le_of_ble_eq_true rfl) rfl (Nat.le_of_ble_eq_true rfl) hx (fun R' hR' => m_R_thrown hR' hw) (bs_kI_ok fun v111 h112 hw => ?_) (fun _ _ z => z)
        refine bj_iload (pc := 841) 1 d_L_law_841 rfl ?_
        refine bj_icmp_eq (pc := 843) (tgt := 848) d_L_law_843 (by decide) (fun hc => ?_) (fun hc => ?_)
        · replace hw := hw.1 hc
          refine bj_iload (pc := 848) 1 d_L_law_848 rfl ?_
          refine bj_if_ne (pc := 850) (tgt := 865) d_L_law_850 (by decide) (fun hc => ?_) (fun hc => ?_)
          · replace hw := hw.2 hc
            refine bj_sub [2, 3, 4, 5, 6] (lo' := [(0, .ref x0), (1, .ref x1), (2, .ref x2), (3, .ref x3), (4, .int x4)]) rfl ?_
            exact m_L_law_865 hR hnx23 hw
          · replace hw := hw.1 hc
            refine bj_aload_n (pc := 853) 5 d_L_law_853 rfl rfl ?_
            refine bj_iconst (pc := 854) (v := 0) d_L_law_854 (by decide) ?_
            obtain ⟨n, f, v113, hx, hin, hv, hw⟩ := hw
            refine bj_lald (pc := 855) (n := n) (f := f) d_L_law_855 hx hin hv ?_
            refine bj_iload (pc := 856) 0 d_L_law_856 rfl ?_
            refine bj_i2l (pc := 858) d_L_law_858 ?_
            refine bj_lc_eq (pc := 859) (tgt := 865) d_L_law_859 d_L_law_860 (by decide) (fun hc => ?_) (fun hc => ?_)
            · replace hw := hw.1 hc
              refine bj_sub [2, 3, 4, 5, 6] (lo' := [(0, .ref x0), (1, .ref x1), (2, .ref x2), (3, .ref x3), (4, .int x4)]) rfl ?_
              exact m_L_law_865 hR hnx23 hw
            · replace hw := hw.2 hc
              refine bj_iconst (pc := 863) (v := 0) d_L_law_863 (by decide) ?_
              exact bj_zret (pc := 864) d_L_law_864 rfl hw.1 hw.2
        · replace hw := hw.2 hc
          refine bj_iconst (pc := 846) (v := 0) d_L_law_846 (by decide) ?_
          exact bj_zret (pc := 847) d_L_law_847 rfl hw.1 hw.2
      replace hw := hw.2 hc14
      by_cases hc15 : (v2 &&& 31) = 15
      · replace hw := hw.1 hc15
        refine bj_tableIn (pc := 39) (tgt := 868) d_L_law_39 (by rw [hc15]; decide) (by rw [hc15]; decide) (by rw [hc15]; rfl) (by decide) ?_
        refine bj_aload_n (pc := 868) 1 d_L_law_868 rfl rfl ?_
        refine bj_aload_n (pc := 869) 0 d_L_law_869 rfl rfl ?_
        refine bj_iload (pc := 870) 4 d_L_law_870 rfl ?_
        refine bj_iconst (pc := 872) (v := 1) d_L_law_872 (by decide) ?_
        refine bj_iadd (pc := 873) d_L_law_873 ?_
        obtain ⟨n, f, v114, hx, hin, hv, hw⟩ := hw
        refine bj_xald (pc := 874) (n := n) (f := f) d_L_law_874 hx hin hv ?_
        refine bj_callS (pc := 875) (np := 2) (K' := K_L_join) (argsL := [.ref x1, .int v114]) (st := []) (d1 := 4) rfl d_L_law_875 (Or.inl q_696) q_697 q_45 c_L_join n_L_join hR (by decide) (by decide) rfl (Nat.le_of_ble_eq_true rfl) rfl (Nat.le_of_ble_eq_true rfl) (fun R' hR' => m_L_join hR' hw) (bs_kI_ok fun v115 h116 hw => ?_) (fun _ _ z => z)
        refine bj_istore (pc := 878) (lo' := [(5, .int v115), (0, .ref x0), (1, .ref x1), (2, .ref x2), (3, .ref x3), (4, .int x4)]) d_L_law_878 (by decide) rfl ?_
        refine bj_aload_n (pc := 880) 3 d_L_law_880 rfl rfl ?_
        refine bj_aload_n (pc := 881) 1 d_L_law_881 rfl rfl ?_
        refine bj_iload (pc := 882) 5 d_L_law_882 rfl ?_
        refine bj_iconst (pc := 884) (v := 1) d_L_law_884 (by decide) ?_
        refine bj_iadd (pc := 885) d_L_law_885 ?_
        obtain ⟨n, f, v117, hx, hin, hv, hw⟩ := hw
        refine bj_xald (pc := 886) (n := n) (f := f) d_L_law_886 hx hin hv ?_
        obtain ⟨⟨fs, hx⟩, hw⟩ := hw
        refine bj_callV (pc := 887) (np := 1) (K' := K_R_join) (argsL := [.int v117]) (st := []) (d1 := 1) (ci := 7) (fs := fs) rfl d_L_law_887 (Or.inl q_971) q_972 rfl q_973 c_R_join n_R_join hR (by decide) (by decide) rfl (Nat.le_of_ble_eq_true rfl) rfl (Nat.le_of_ble_eq_true rfl) hx (fun R' hR' => m_R_join hR' hw) (bs_kV_ok fun h118 hw => ?_) (fun _ _ z => z)
        refine bj_aload_n (pc := 890) 3 d_L_law_890 rfl rfl ?_
        obtain ⟨⟨fs, hx⟩, hw⟩ := hw
        refine bj_callV (pc := 891) (np := 0) (K' := K_R_thrown) (argsL := []) (st := []) (d1 := 1) (ci := 7) (fs := fs) rfl d_L_law_891 (Or.inl q_831) q_832 rfl q_833 c_R_thrown n_R_thrown hR (by decide) (by decide) rfl (Nat.le_of_ble_eq_true rfl) rfl (Nat.le_of_ble_eq_true rfl) hx (fun R' hR' => m_R_thrown hR' hw) (bs_kI_ok fun v119 h120 hw => ?_) (fun _ _ z => z)
        refine bj_iload (pc := 894) 0 d_L_law_894 rfl ?_
        refine bj_icmp_eq (pc := 896) (tgt := 901) d_L_law_896 (by decide) (fun hc => ?_) (fun hc => ?_)
        · replace hw := hw.1 hc
          refine bj_goto (pc := 901) (tgt := 972) d_L_law_901 (by decide) ?_
          refine bj_sub [1, 2, 3, 4, 5] (lo' := [(0, .ref x0), (1, .ref x1), (2, .ref x2), (3, .ref x3), (4, .int x4)]) rfl ?_
          exact m_L_law_972 hR hnx23 hw
        · replace hw := hw.2 hc
          refine bj_iconst (pc := 899) (v := 0) d_L_law_899 (by decide) ?_
          exact bj_zret (pc := 900) d_L_law_900 rfl hw.1 hw.2
      replace hw := hw.2 hc15
      by_cases hc16 : (v2 &&& 31) = 16
      · replace hw := hw.1 hc16
        refine bj_tableIn (pc := 39) (tgt := 904) d_L_law_39 (by rw [hc16]; decide) (by rw [hc16]; decide) (by rw [hc16]; rfl) (by decide) ?_
        refine bj_aload_n (pc := 904) 1 d_L_law_904 rfl rfl ?_
        refine bj_callS (pc := 905) (np := 1) (K' := K_L_invert) (argsL := [.ref x1]) (st := []) (d1 := 4) rfl d_L_law_905 (Or.inl q_707) q_708 q_45 c_L_invert n_L_invert hR (by decide) (by decide) rfl (Nat.le_of_ble_eq_true rfl) rfl (Nat.le_of_ble_eq_true rfl) (fun R' hR' => m_L_invert hR' hw) (bs_kI_ok fun v121 h122 hw => ?_) (fun _ _ z => z)
        refine bj_istore (pc := 908) (lo' := [(5, .int v121), (0, .ref x0), (1, .ref x1), (2, .ref x2), (3, .ref x3), (4, .int x4)]) d_L_law_908 (by decide) rfl ?_
        refine bj_aload_n (pc := 910) 3 d_L_law_910 rfl rfl ?_
        obtain ⟨⟨fs, hx⟩, hw⟩ := hw
        refine bj_callV (pc := 911) (np := 0) (K' := K_R_invert) (argsL := []) (st := []) (d1 := 2) (ci := 7) (fs := fs) rfl d_L_law_911 (Or.inl q_975) q_976 rfl q_977 c_R_invert n_R_invert hR (by decide) (by decide) rfl (Nat.le_of_ble_eq_true rfl) rfl (Nat.le_of_ble_eq_true rfl) hx (fun R' hR' => m_R_invert hR' hw) (bs_kV_ok fun h123 hw => ?_) (fun _ _ z => z)
        refine bj_aload_n (pc := 914) 3 d_L_law_914 rfl rfl ?_
        obtain ⟨⟨fs, hx⟩, hw⟩ := hw
        refine bj_callV (pc := 915) (np := 0) (K' := K_R_thrown) (argsL := []) (st := []) (d1 := 1) (ci := 7) (fs := fs) rfl d_L_law_915 (Or.inl q_831) q_832 rfl q_833 c_R_thrown n_R_thrown hR (by decide) (by decide) rfl (Nat.le_of_ble_eq_true rfl) rfl (Nat.le_of_ble_eq_true rfl) hx (fun R' hR' => m_R_thrown hR' hw) (bs_kI_ok fun v124 h125 hw => ?_) (fun _ _ z => z)
        refine bj_iload (pc := 918) 0 d_L_law_918 rfl ?_
        refine bj_icmp_eq (pc := 920) (tgt := 925) d_L_law_920 (by decide) (fun hc => ?_) (fun hc => ?_)
        · replace hw := hw.1 hc
          refine bj_goto (pc := 925) (tgt := 972) d_L_law_925 (by decide) ?_
          refine bj_sub [1, 2, 3, 4, 5] (lo' := [(0, .ref x0), (1, .ref x1), (2, .ref x2), (3, .ref x3), (4, .int x4)]) rfl ?_
          exact m_L_law_972 hR hnx23 hw
        · replace hw := hw.2 hc
          refine bj_iconst (pc := 923) (v := 0) d_L_law_923 (by decide) ?_
          exact bj_zret (pc := 924) d_L_law_924 rfl hw.1 hw.2
      replace hw := hw.2 hc16
      by_cases hc17 : (v2 &&& 31) = 17
      · replace hw := hw.1 hc17
        refine bj_tableIn (pc := 39) (tgt := 928) d_L_law_39 (by rw [hc17]; decide) (by rw [hc17]; decide) (by rw [hc17]; rfl) (by decide) ?_
        refine bj_aload_n (pc := 928) 1 d_L_law_928 rfl rfl ?_
        refine bj_aload_n (pc := 929) 3 d_L_law_929 rfl rfl ?_
        refine bj_callS (pc := 930) (np := 2) (K' := K_L_least) (argsL := [.ref x1, .ref x3]) (st := []) (d1 := 12) rfl d_L_law_930 (Or.inl q_718) q_719 q_45 c_L_least n_L_least hR (by decide) (by decide) rfl (Nat.le_of_ble_eq_true rfl) rfl (Nat.le_of_ble_eq_true rfl) (fun R' hR' => m_L_least hR' hw) (bs_kI_ok fun v126 h127 hw => ?_) (fun _ _ z => z)
        refine bj_istore (pc := 933) (lo' := [(5, .int v126), (0, .ref x0), (1, .ref x1), (2, .ref x2), (3, .ref x3), (4, .int x4)]) d_L_law_933 (by decide) rfl ?_
        refine bj_aload_n (pc := 935) 3 d_L_law_935 rfl rfl ?_
        obtain ⟨⟨fs, hx⟩, hw⟩ := hw
        refine bj_callV (pc := 936) (np := 0) (K' := K_R_least) (argsL := []) (st := []) (d1 := 4) (ci := 7) (fs := fs) rfl d_L_law_936 (Or.inl q_979) q_980 rfl q_981 c_R_least n_R_least hR (by decide) (by decide) rfl (Nat.le_of_ble_eq_true rfl) rfl (Nat.le_of_ble_eq_true rfl) hx (fun R' hR' => m_R_least hR' hw) (bs_kI_ok fun v128 h129 hw => ?_) (fun _ _ z => z)
        refine bj_istore (pc := 939) (lo' := [(6, .int v128), (5, .int v126), (0, .ref x0), (1, .ref x1), (2, .ref x2), (3, .ref x3), (4, .int x4)]) d_L_law_939 (by decide) rfl ?_
        refine bj_aload_n (pc := 941) 4 d_L_law_941 rfl rfl ?_
        obtain ⟨⟨fs, hx⟩, hw⟩ := hw
        refine bj_callV (pc := 942) (np := 0) (K' := K_R_thrown) (argsL := []) (st := []) (d1 := 1) (ci := 7) (fs := fs) rfl d_L_law_942 (Or.inl q_831) q_832 rfl q_833 c_R_thrown n_R_thrown hR (by decide) (by decide) rfl (Nat.le_of_ble_eq_true rfl) rfl (Nat.le_of_ble_eq_true rfl) hx (fun R' hR' => m_R_thrown hR' hw) (bs_kI_ok fun v130 h131 hw => ?_) (fun _ _ z => z)
        refine bj_iload (pc := 945) 1 d_L_law_945 rfl ?_
        refine bj_icmp_eq (pc := 947) (tgt := 952) d_L_law_947 (by decide) (fun hc => ?_) (fun hc => ?_)
        · replace hw := hw.1 hc
          refine bj_iload (pc := 952) 1 d_L_law_952 rfl ?_
          refine bj_if_ne (pc := 954) (tgt := 969) d_L_law_954 (by decide) (fun hc => ?_) (fun hc => ?_)
          · replace hw := hw.2 hc
            refine bj_sub [2, 3, 4, 5, 6] (lo' := [(0, .ref x0), (1, .ref x1), (2, .ref x2), (3, .ref x3), (4, .int x4)]) rfl ?_
            exact m_L_law_969 hR hnx23 hw
          · replace hw := hw.1 hc
            refine bj_aload_n (pc := 957) 5 d_L_law_957 rfl rfl ?_
            refine bj_iconst (pc := 958) (v := 0) d_L_law_958 (by decide) ?_
            obtain ⟨n, f, v132, hx, hin, hv, hw⟩ := hw
            refine bj_lald (pc := 959) (n := n) (f := f) d_L_law_959 hx hin hv ?_
            refine bj_iload (pc := 960) 0 d_L_law_960 rfl ?_
            refine bj_i2l (pc := 962) d_L_law_962 ?_
            refine bj_lc_eq (pc := 963) (tgt := 969) d_L_law_963 d_L_law_964 (by decide) (fun hc => ?_) (fun hc => ?_)
            · replace hw := hw.1 hc
              refine bj_sub [2, 3, 4, 5, 6] (lo' := [(0, .ref x0), (1, .ref x1), (2, .ref x2), (3, .ref x3), (4, .int x4)]) rfl ?_
              exact m_L_law_969 hR hnx23 hw
            · replace hw := hw.2 hc
              refine bj_iconst (pc := 967) (v := 0) d_L_law_967 (by decide) ?_
              exact bj_zret (pc := 968) d_L_law_968 rfl hw.1 hw.2
        · replace hw := hw.2 hc
          refine bj_iconst (pc := 950) (v := 0) d_L_law_950 (by decide) ?_
          exact bj_zret (pc := 951) d_L_law_951 rfl hw.1 hw.2
      replace hw := hw.2 hc17
      refine bj_tableOut (pc := 39) (tgt := 972) d_L_law_39 ?_ (by decide) ?_
      · have n0 := lv_neT (k := 0) (a := 0) hc0 (by decide) ; have n1 := lv_neT (k := 1) (a := 1) hc1 (by decide) ; have n2 := lv_neT (k := 2) (a := 2) hc2 (by decide) ; have n3 := lv_neT (k := 3) (a := 3) hc3 (by decide) ; have n4 := lv_neT (k := 4) (a := 4) hc4 (by decide) ; have n5 := lv_neT (k := 5) (a := 5) hc5 (by decide) ; have n6 := lv_neT (k := 6) (a := 6) hc6 (by decide) ; have n7 := lv_neT (k := 7) (a := 7) hc7 (by decide) ; have n8 := lv_neT (k := 8) (a := 8) hc8 (by decide) ; have n9 := lv_neT (k := 9) (a := 9) hc9 (by decide) ; have n10 := lv_neT (k := 10) (a := 10) hc10 (by decide) ; have n11 := lv_neT (k := 11) (a := 11) hc11 (by decide) ; have n12 := lv_neT (k := 12) (a := 12) hc12 (by decide) ; have n13 := lv_neT (k := 13) (a := 13) hc13 (by decide) ; have n14 := lv_neT (k := 14) (a := 14) hc14 (by decide) ; have n15 := lv_neT (k := 15) (a := 15) hc15 (by decide) ; have n16 := lv_neT (k := 16) (a := 16) hc16 (by decide) ; have n17 := lv_neT (k := 17) (a := 17) hc17 (by decide) ; omega
      exact m_L_law_972 hR hnx23 hw
theorem m_L_law {l : Launch} {R : Room} (hR : bs_rm 13 R) {Φ : bs_R → bs_H → Prop} {x0 : Nat} {h : bs_H} (hw : w_L_law Φ x0 h) : bs_J l K_L_law R Φ 0 [(0, .ref x0)] [] h := by
  unfold w_L_law at hw
  obtain ⟨v1, ha, h1, h2, hw⟩ := hw
  refine bj_new (pc := 0) (ci := 0) (fs := z_B) d_L_law_0 rfl q_64 q_65 q_46 t_B tt_B zz_B ha h1 h2 ?_
  refine bj_dup (pc := 3) d_L_law_3 rfl ?_
  refine bj_callI (pc := 4) (np := 0) (K' := K_B_init) (argsL := []) (st := [.ref v1]) (d1 := 2) rfl d_L_law_4 (Or.inl q_66) q_67 rfl q_68 rfl rfl rfl n_B_init hR (by decide) (by decide) rfl (Nat.le_of_ble_eq_true rfl) rfl (Nat.le_of_ble_eq_true rfl) (fun R' hR' => m_B_init hR' hw) (bs_kV_ok fun h3 hw => ?_) (fun _ _ z => z)
  refine bj_astore_n (pc := 7) (lo' := [(1, .ref v1), (0, .ref x0)]) d_L_law_7 rfl (by decide) rfl ?_
  obtain ⟨v4, ha, h1, h2, hw⟩ := hw
  refine bj_new (pc := 8) (ci := 7) (fs := z_R) d_L_law_8 rfl q_738 q_739 q_53 t_R tt_R zz_R ha h1 h2 ?_
  refine bj_dup (pc := 11) d_L_law_11 rfl ?_
  refine bj_callI (pc := 12) (np := 0) (K' := K_R_init) (argsL := []) (st := [.ref v4]) (d1 := 2) rfl d_L_law_12 (Or.inl q_740) q_741 rfl q_742 rfl rfl rfl n_R_init hR (by decide) (by decide) rfl (Nat.le_of_ble_eq_true rfl) rfl (Nat.le_of_ble_eq_true rfl) (fun R' hR' => m_R_init hR' hw) (bs_kV_ok fun h6 hw => ?_) (fun _ _ z => z)
  refine bj_astore_n (pc := 15) (lo' := [(2, .ref v4), (1, .ref v1), (0, .ref x0)]) d_L_law_15 rfl (by decide) rfl ?_
  refine bj_iconst (pc := 16) (v := 1) d_L_law_16 (by decide) ?_
  obtain ⟨v7, ha, h1, h2, hw⟩ := hw
  refine bj_newl (pc := 17) (N := 1) d_L_law_17 q_106 (by decide) (by decide) (by decide) ha h1 h2 ?_
  refine bj_astore_n (pc := 19) (lo' := [(3, .ref v7), (2, .ref v4), (1, .ref v1), (0, .ref x0)]) d_L_law_19 rfl (by decide) rfl ?_
  refine bj_iconst (pc := 20) (v := 0) d_L_law_20 (by decide) ?_
  refine bj_istore (pc := 21) (lo' := [(4, .int 0), (3, .ref v7), (2, .ref v4), (1, .ref v1), (0, .ref x0)]) d_L_law_21 (by decide) rfl ?_
  refine bj_sub [4, 3, 2, 1, 0] (lo' := [(0, .ref x0), (1, .ref v1), (2, .ref v4), (3, .ref v7), (4, .int 0)]) rfl ?_
  exact m_L_law_23 hR 1000 _ _ _ _ _ _ hw
