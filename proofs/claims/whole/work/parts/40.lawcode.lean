abbrev cZL_law : ByteArray := code
theorem dZL_law_0 : decode cZL_law 0 = .ok (.new 8, 3) := by decide +kernel
theorem dZL_law_3 : decode cZL_law 3 = .ok (.dup, 1) := by decide +kernel
theorem dZL_law_4 : decode cZL_law 4 = .ok (.aload_n 0, 1) := by decide +kernel
theorem dZL_law_5 : decode cZL_law 5 = .ok (.iconst 0, 1) := by decide +kernel
theorem dZL_law_6 : decode cZL_law 6 = .ok (.invokestatic 69, 3) := by decide +kernel
theorem dZL_law_9 : decode cZL_law 9 = .ok (.aload_n 0, 1) := by decide +kernel
theorem dZL_law_10 : decode cZL_law 10 = .ok (.iconst 1, 1) := by decide +kernel
theorem dZL_law_11 : decode cZL_law 11 = .ok (.invokestatic 69, 3) := by decide +kernel
theorem dZL_law_14 : decode cZL_law 14 = .ok (.invokespecial 75, 3) := by decide +kernel
theorem dZL_law_17 : decode cZL_law 17 = .ok (.astore_n 1, 1) := by decide +kernel
theorem dZL_law_18 : decode cZL_law 18 = .ok (.new 78, 3) := by decide +kernel
theorem dZL_law_21 : decode cZL_law 21 = .ok (.dup, 1) := by decide +kernel
theorem dZL_law_22 : decode cZL_law 22 = .ok (.aload_n 0, 1) := by decide +kernel
theorem dZL_law_23 : decode cZL_law 23 = .ok (.iconst 0, 1) := by decide +kernel
theorem dZL_law_24 : decode cZL_law 24 = .ok (.invokestatic 69, 3) := by decide +kernel
theorem dZL_law_27 : decode cZL_law 27 = .ok (.aload_n 0, 1) := by decide +kernel
theorem dZL_law_28 : decode cZL_law 28 = .ok (.iconst 1, 1) := by decide +kernel
theorem dZL_law_29 : decode cZL_law 29 = .ok (.invokestatic 69, 3) := by decide +kernel
theorem dZL_law_32 : decode cZL_law 32 = .ok (.invokespecial 80, 3) := by decide +kernel
theorem dZL_law_35 : decode cZL_law 35 = .ok (.astore_n 2, 1) := by decide +kernel
theorem dZL_law_36 : decode cZL_law 36 = .ok (.iconst 1, 1) := by decide +kernel
theorem dZL_law_37 : decode cZL_law 37 = .ok (.newarray .long, 2) := by decide +kernel
theorem dZL_law_39 : decode cZL_law 39 = .ok (.astore_n 3, 1) := by decide +kernel
theorem dZL_law_40 : decode cZL_law 40 = .ok (.iconst 2, 1) := by decide +kernel
theorem dZL_law_41 : decode cZL_law 41 = .ok (.istore 4, 2) := by decide +kernel
theorem dZL_law_43 : decode cZL_law 43 = .ok (.iload 4, 2) := by decide +kernel
theorem dZL_law_45 : decode cZL_law 45 = .ok (.aload_n 0, 1) := by decide +kernel
theorem dZL_law_46 : decode cZL_law 46 = .ok (.arraylength, 1) := by decide +kernel
theorem dZL_law_47 : decode cZL_law 47 = .ok (.bipush 6, 2) := by decide +kernel
theorem dZL_law_49 : decode cZL_law 49 = .ok (.isub, 1) := by decide +kernel
theorem dZL_law_50 : decode cZL_law 50 = .ok (.if_icmp .gt 1338, 3) := by decide +kernel
theorem dZL_law_53 : decode cZL_law 53 = .ok (.aload_n 0, 1) := by decide +kernel
theorem dZL_law_54 : decode cZL_law 54 = .ok (.iload 4, 2) := by decide +kernel
theorem dZL_law_56 : decode cZL_law 56 = .ok (.iaload, 1) := by decide +kernel
theorem dZL_law_57 : decode cZL_law 57 = .ok (.bipush 31, 2) := by decide +kernel
theorem dZL_law_59 : decode cZL_law 59 = .ok (.iand, 1) := by decide +kernel
theorem dZL_law_60 : decode cZL_law 60 = .ok (.tableswitch 1322 0 18 #[92, 172, 276, 289, 357, 437, 529, 633, 713, 793, 849, 862, 918, 986, 999, 1055, 1130, 1210, 1266], 92) := by decide +kernel
theorem dZL_law_152 : decode cZL_law 152 = .ok (.aload_n 1, 1) := by decide +kernel
theorem dZL_law_153 : decode cZL_law 153 = .ok (.aload_n 0, 1) := by decide +kernel
theorem dZL_law_154 : decode cZL_law 154 = .ok (.iload 4, 2) := by decide +kernel
theorem dZL_law_156 : decode cZL_law 156 = .ok (.iconst 1, 1) := by decide +kernel
theorem dZL_law_157 : decode cZL_law 157 = .ok (.iadd, 1) := by decide +kernel
theorem dZL_law_158 : decode cZL_law 158 = .ok (.iaload, 1) := by decide +kernel
theorem dZL_law_159 : decode cZL_law 159 = .ok (.aload_n 0, 1) := by decide +kernel
theorem dZL_law_160 : decode cZL_law 160 = .ok (.iload 4, 2) := by decide +kernel
theorem dZL_law_162 : decode cZL_law 162 = .ok (.iconst 2, 1) := by decide +kernel
theorem dZL_law_163 : decode cZL_law 163 = .ok (.iadd, 1) := by decide +kernel
theorem dZL_law_164 : decode cZL_law 164 = .ok (.iaload, 1) := by decide +kernel
theorem dZL_law_165 : decode cZL_law 165 = .ok (.aload_n 0, 1) := by decide +kernel
theorem dZL_law_166 : decode cZL_law 166 = .ok (.iload 4, 2) := by decide +kernel
theorem dZL_law_168 : decode cZL_law 168 = .ok (.iconst 3, 1) := by decide +kernel
theorem dZL_law_169 : decode cZL_law 169 = .ok (.iadd, 1) := by decide +kernel
theorem dZL_law_170 : decode cZL_law 170 = .ok (.iaload, 1) := by decide +kernel
theorem dZL_law_171 : decode cZL_law 171 = .ok (.aload_n 3, 1) := by decide +kernel
theorem dZL_law_172 : decode cZL_law 172 = .ok (.invokestatic 81, 3) := by decide +kernel
theorem dZL_law_175 : decode cZL_law 175 = .ok (.istore 5, 2) := by decide +kernel
theorem dZL_law_177 : decode cZL_law 177 = .ok (.aload_n 2, 1) := by decide +kernel
theorem dZL_law_178 : decode cZL_law 178 = .ok (.aload_n 0, 1) := by decide +kernel
theorem dZL_law_179 : decode cZL_law 179 = .ok (.iload 4, 2) := by decide +kernel
theorem dZL_law_181 : decode cZL_law 181 = .ok (.iconst 1, 1) := by decide +kernel
theorem dZL_law_182 : decode cZL_law 182 = .ok (.iadd, 1) := by decide +kernel
theorem dZL_law_183 : decode cZL_law 183 = .ok (.iaload, 1) := by decide +kernel
theorem dZL_law_184 : decode cZL_law 184 = .ok (.aload_n 0, 1) := by decide +kernel
theorem dZL_law_185 : decode cZL_law 185 = .ok (.iload 4, 2) := by decide +kernel
theorem dZL_law_187 : decode cZL_law 187 = .ok (.iconst 2, 1) := by decide +kernel
theorem dZL_law_188 : decode cZL_law 188 = .ok (.iadd, 1) := by decide +kernel
theorem dZL_law_189 : decode cZL_law 189 = .ok (.iaload, 1) := by decide +kernel
theorem dZL_law_190 : decode cZL_law 190 = .ok (.aload_n 0, 1) := by decide +kernel
theorem dZL_law_191 : decode cZL_law 191 = .ok (.iload 4, 2) := by decide +kernel
theorem dZL_law_193 : decode cZL_law 193 = .ok (.iconst 3, 1) := by decide +kernel
theorem dZL_law_194 : decode cZL_law 194 = .ok (.iadd, 1) := by decide +kernel
theorem dZL_law_195 : decode cZL_law 195 = .ok (.iaload, 1) := by decide +kernel
theorem dZL_law_196 : decode cZL_law 196 = .ok (.invokevirtual 84, 3) := by decide +kernel
theorem dZL_law_199 : decode cZL_law 199 = .ok (.istore 6, 2) := by decide +kernel
theorem dZL_law_201 : decode cZL_law 201 = .ok (.aload_n 2, 1) := by decide +kernel
theorem dZL_law_202 : decode cZL_law 202 = .ok (.invokevirtual 85, 3) := by decide +kernel
theorem dZL_law_205 : decode cZL_law 205 = .ok (.iload 5, 2) := by decide +kernel
theorem dZL_law_207 : decode cZL_law 207 = .ok (.if_icmp .eq 5, 3) := by decide +kernel
theorem dZL_law_210 : decode cZL_law 210 = .ok (.iconst 0, 1) := by decide +kernel
theorem dZL_law_211 : decode cZL_law 211 = .ok (.ireturn, 1) := by decide +kernel
theorem dZL_law_212 : decode cZL_law 212 = .ok (.iload 5, 2) := by decide +kernel
theorem dZL_law_214 : decode cZL_law 214 = .ok (.ifCond .ne 15, 3) := by decide +kernel
theorem dZL_law_217 : decode cZL_law 217 = .ok (.aload_n 3, 1) := by decide +kernel
theorem dZL_law_218 : decode cZL_law 218 = .ok (.iconst 0, 1) := by decide +kernel
theorem dZL_law_219 : decode cZL_law 219 = .ok (.laload, 1) := by decide +kernel
theorem dZL_law_220 : decode cZL_law 220 = .ok (.iload 6, 2) := by decide +kernel
theorem dZL_law_222 : decode cZL_law 222 = .ok (.i2l, 1) := by decide +kernel
theorem dZL_law_223 : decode cZL_law 223 = .ok (.lcmp, 1) := by decide +kernel
theorem dZL_law_224 : decode cZL_law 224 = .ok (.ifCond .eq 5, 3) := by decide +kernel
theorem dZL_law_227 : decode cZL_law 227 = .ok (.iconst 0, 1) := by decide +kernel
theorem dZL_law_228 : decode cZL_law 228 = .ok (.ireturn, 1) := by decide +kernel
theorem dZL_law_229 : decode cZL_law 229 = .ok (.goto 1153, 3) := by decide +kernel
theorem dZL_law_232 : decode cZL_law 232 = .ok (.aload_n 1, 1) := by decide +kernel
theorem dZL_law_233 : decode cZL_law 233 = .ok (.aload_n 0, 1) := by decide +kernel
theorem dZL_law_234 : decode cZL_law 234 = .ok (.iload 4, 2) := by decide +kernel
theorem dZL_law_236 : decode cZL_law 236 = .ok (.iconst 1, 1) := by decide +kernel
theorem dZL_law_237 : decode cZL_law 237 = .ok (.iadd, 1) := by decide +kernel
theorem dZL_law_238 : decode cZL_law 238 = .ok (.iaload, 1) := by decide +kernel
theorem dZL_law_239 : decode cZL_law 239 = .ok (.aload_n 0, 1) := by decide +kernel
theorem dZL_law_240 : decode cZL_law 240 = .ok (.iload 4, 2) := by decide +kernel
theorem dZL_law_242 : decode cZL_law 242 = .ok (.iconst 2, 1) := by decide +kernel
theorem dZL_law_243 : decode cZL_law 243 = .ok (.iadd, 1) := by decide +kernel
theorem dZL_law_244 : decode cZL_law 244 = .ok (.iaload, 1) := by decide +kernel
theorem dZL_law_245 : decode cZL_law 245 = .ok (.aload_n 0, 1) := by decide +kernel
theorem dZL_law_246 : decode cZL_law 246 = .ok (.iload 4, 2) := by decide +kernel
theorem dZL_law_248 : decode cZL_law 248 = .ok (.iconst 3, 1) := by decide +kernel
theorem dZL_law_249 : decode cZL_law 249 = .ok (.iadd, 1) := by decide +kernel
theorem dZL_law_250 : decode cZL_law 250 = .ok (.iaload, 1) := by decide +kernel
theorem dZL_law_251 : decode cZL_law 251 = .ok (.aload_n 0, 1) := by decide +kernel
theorem dZL_law_252 : decode cZL_law 252 = .ok (.iload 4, 2) := by decide +kernel
theorem dZL_law_254 : decode cZL_law 254 = .ok (.iconst 4, 1) := by decide +kernel
theorem dZL_law_255 : decode cZL_law 255 = .ok (.iadd, 1) := by decide +kernel
theorem dZL_law_256 : decode cZL_law 256 = .ok (.iaload, 1) := by decide +kernel
theorem dZL_law_257 : decode cZL_law 257 = .ok (.aload_n 0, 1) := by decide +kernel
theorem dZL_law_258 : decode cZL_law 258 = .ok (.iload 4, 2) := by decide +kernel
theorem dZL_law_260 : decode cZL_law 260 = .ok (.iconst 5, 1) := by decide +kernel
theorem dZL_law_261 : decode cZL_law 261 = .ok (.iadd, 1) := by decide +kernel
theorem dZL_law_262 : decode cZL_law 262 = .ok (.iaload, 1) := by decide +kernel
theorem dZL_law_263 : decode cZL_law 263 = .ok (.aload_n 3, 1) := by decide +kernel
theorem dZL_law_264 : decode cZL_law 264 = .ok (.invokestatic 89, 3) := by decide +kernel
theorem dZL_law_267 : decode cZL_law 267 = .ok (.istore 5, 2) := by decide +kernel
theorem dZL_law_269 : decode cZL_law 269 = .ok (.aload_n 2, 1) := by decide +kernel
theorem dZL_law_270 : decode cZL_law 270 = .ok (.aload_n 0, 1) := by decide +kernel
theorem dZL_law_271 : decode cZL_law 271 = .ok (.iload 4, 2) := by decide +kernel
theorem dZL_law_273 : decode cZL_law 273 = .ok (.iconst 1, 1) := by decide +kernel
theorem dZL_law_274 : decode cZL_law 274 = .ok (.iadd, 1) := by decide +kernel
theorem dZL_law_275 : decode cZL_law 275 = .ok (.iaload, 1) := by decide +kernel
theorem dZL_law_276 : decode cZL_law 276 = .ok (.aload_n 0, 1) := by decide +kernel
theorem dZL_law_277 : decode cZL_law 277 = .ok (.iload 4, 2) := by decide +kernel
theorem dZL_law_279 : decode cZL_law 279 = .ok (.iconst 2, 1) := by decide +kernel
theorem dZL_law_280 : decode cZL_law 280 = .ok (.iadd, 1) := by decide +kernel
theorem dZL_law_281 : decode cZL_law 281 = .ok (.iaload, 1) := by decide +kernel
theorem dZL_law_282 : decode cZL_law 282 = .ok (.aload_n 0, 1) := by decide +kernel
theorem dZL_law_283 : decode cZL_law 283 = .ok (.iload 4, 2) := by decide +kernel
theorem dZL_law_285 : decode cZL_law 285 = .ok (.iconst 3, 1) := by decide +kernel
theorem dZL_law_286 : decode cZL_law 286 = .ok (.iadd, 1) := by decide +kernel
theorem dZL_law_287 : decode cZL_law 287 = .ok (.iaload, 1) := by decide +kernel
theorem dZL_law_288 : decode cZL_law 288 = .ok (.aload_n 0, 1) := by decide +kernel
theorem dZL_law_289 : decode cZL_law 289 = .ok (.iload 4, 2) := by decide +kernel
theorem dZL_law_291 : decode cZL_law 291 = .ok (.iconst 4, 1) := by decide +kernel
theorem dZL_law_292 : decode cZL_law 292 = .ok (.iadd, 1) := by decide +kernel
theorem dZL_law_293 : decode cZL_law 293 = .ok (.iaload, 1) := by decide +kernel
theorem dZL_law_294 : decode cZL_law 294 = .ok (.aload_n 0, 1) := by decide +kernel
theorem dZL_law_295 : decode cZL_law 295 = .ok (.iload 4, 2) := by decide +kernel
theorem dZL_law_297 : decode cZL_law 297 = .ok (.iconst 5, 1) := by decide +kernel
theorem dZL_law_298 : decode cZL_law 298 = .ok (.iadd, 1) := by decide +kernel
theorem dZL_law_299 : decode cZL_law 299 = .ok (.iaload, 1) := by decide +kernel
theorem dZL_law_300 : decode cZL_law 300 = .ok (.invokevirtual 92, 3) := by decide +kernel
theorem dZL_law_303 : decode cZL_law 303 = .ok (.istore 6, 2) := by decide +kernel
theorem dZL_law_305 : decode cZL_law 305 = .ok (.aload_n 2, 1) := by decide +kernel
theorem dZL_law_306 : decode cZL_law 306 = .ok (.invokevirtual 85, 3) := by decide +kernel
theorem dZL_law_309 : decode cZL_law 309 = .ok (.iload 5, 2) := by decide +kernel
theorem dZL_law_311 : decode cZL_law 311 = .ok (.if_icmp .eq 5, 3) := by decide +kernel
theorem dZL_law_314 : decode cZL_law 314 = .ok (.iconst 0, 1) := by decide +kernel
theorem dZL_law_315 : decode cZL_law 315 = .ok (.ireturn, 1) := by decide +kernel
theorem dZL_law_316 : decode cZL_law 316 = .ok (.iload 5, 2) := by decide +kernel
theorem dZL_law_318 : decode cZL_law 318 = .ok (.ifCond .ne 15, 3) := by decide +kernel
theorem dZL_law_321 : decode cZL_law 321 = .ok (.aload_n 3, 1) := by decide +kernel
theorem dZL_law_322 : decode cZL_law 322 = .ok (.iconst 0, 1) := by decide +kernel
theorem dZL_law_323 : decode cZL_law 323 = .ok (.laload, 1) := by decide +kernel
theorem dZL_law_324 : decode cZL_law 324 = .ok (.iload 6, 2) := by decide +kernel
theorem dZL_law_326 : decode cZL_law 326 = .ok (.i2l, 1) := by decide +kernel
theorem dZL_law_327 : decode cZL_law 327 = .ok (.lcmp, 1) := by decide +kernel
theorem dZL_law_328 : decode cZL_law 328 = .ok (.ifCond .eq 5, 3) := by decide +kernel
theorem dZL_law_331 : decode cZL_law 331 = .ok (.iconst 0, 1) := by decide +kernel
theorem dZL_law_332 : decode cZL_law 332 = .ok (.ireturn, 1) := by decide +kernel
theorem dZL_law_333 : decode cZL_law 333 = .ok (.goto 1049, 3) := by decide +kernel
theorem dZL_law_336 : decode cZL_law 336 = .ok (.aload_n 1, 1) := by decide +kernel
theorem dZL_law_337 : decode cZL_law 337 = .ok (.invokevirtual 93, 3) := by decide +kernel
theorem dZL_law_340 : decode cZL_law 340 = .ok (.aload_n 2, 1) := by decide +kernel
theorem dZL_law_341 : decode cZL_law 341 = .ok (.invokevirtual 96, 3) := by decide +kernel
theorem dZL_law_344 : decode cZL_law 344 = .ok (.if_icmp .eq 1038, 3) := by decide +kernel
theorem dZL_law_347 : decode cZL_law 347 = .ok (.iconst 0, 1) := by decide +kernel
theorem dZL_law_348 : decode cZL_law 348 = .ok (.ireturn, 1) := by decide +kernel
theorem dZL_law_349 : decode cZL_law 349 = .ok (.aload_n 1, 1) := by decide +kernel
theorem dZL_law_350 : decode cZL_law 350 = .ok (.aload_n 0, 1) := by decide +kernel
theorem dZL_law_351 : decode cZL_law 351 = .ok (.iload 4, 2) := by decide +kernel
theorem dZL_law_353 : decode cZL_law 353 = .ok (.iconst 1, 1) := by decide +kernel
theorem dZL_law_354 : decode cZL_law 354 = .ok (.iadd, 1) := by decide +kernel
theorem dZL_law_355 : decode cZL_law 355 = .ok (.iaload, 1) := by decide +kernel
theorem dZL_law_356 : decode cZL_law 356 = .ok (.aload_n 0, 1) := by decide +kernel
theorem dZL_law_357 : decode cZL_law 357 = .ok (.iload 4, 2) := by decide +kernel
theorem dZL_law_359 : decode cZL_law 359 = .ok (.iconst 2, 1) := by decide +kernel
theorem dZL_law_360 : decode cZL_law 360 = .ok (.iadd, 1) := by decide +kernel
theorem dZL_law_361 : decode cZL_law 361 = .ok (.iaload, 1) := by decide +kernel
theorem dZL_law_362 : decode cZL_law 362 = .ok (.aload_n 3, 1) := by decide +kernel
theorem dZL_law_363 : decode cZL_law 363 = .ok (.invokestatic 97, 3) := by decide +kernel
theorem dZL_law_366 : decode cZL_law 366 = .ok (.istore 5, 2) := by decide +kernel
theorem dZL_law_368 : decode cZL_law 368 = .ok (.aload_n 2, 1) := by decide +kernel
theorem dZL_law_369 : decode cZL_law 369 = .ok (.aload_n 0, 1) := by decide +kernel
theorem dZL_law_370 : decode cZL_law 370 = .ok (.iload 4, 2) := by decide +kernel
theorem dZL_law_372 : decode cZL_law 372 = .ok (.iconst 1, 1) := by decide +kernel
theorem dZL_law_373 : decode cZL_law 373 = .ok (.iadd, 1) := by decide +kernel
theorem dZL_law_374 : decode cZL_law 374 = .ok (.iaload, 1) := by decide +kernel
theorem dZL_law_375 : decode cZL_law 375 = .ok (.aload_n 0, 1) := by decide +kernel
theorem dZL_law_376 : decode cZL_law 376 = .ok (.iload 4, 2) := by decide +kernel
theorem dZL_law_378 : decode cZL_law 378 = .ok (.iconst 2, 1) := by decide +kernel
theorem dZL_law_379 : decode cZL_law 379 = .ok (.iadd, 1) := by decide +kernel
theorem dZL_law_380 : decode cZL_law 380 = .ok (.iaload, 1) := by decide +kernel
theorem dZL_law_381 : decode cZL_law 381 = .ok (.invokevirtual 100, 3) := by decide +kernel
theorem dZL_law_384 : decode cZL_law 384 = .ok (.istore 6, 2) := by decide +kernel
theorem dZL_law_386 : decode cZL_law 386 = .ok (.aload_n 2, 1) := by decide +kernel
theorem dZL_law_387 : decode cZL_law 387 = .ok (.invokevirtual 85, 3) := by decide +kernel
theorem dZL_law_390 : decode cZL_law 390 = .ok (.iload 5, 2) := by decide +kernel
theorem dZL_law_392 : decode cZL_law 392 = .ok (.if_icmp .eq 5, 3) := by decide +kernel
theorem dZL_law_395 : decode cZL_law 395 = .ok (.iconst 0, 1) := by decide +kernel
theorem dZL_law_396 : decode cZL_law 396 = .ok (.ireturn, 1) := by decide +kernel
theorem dZL_law_397 : decode cZL_law 397 = .ok (.iload 5, 2) := by decide +kernel
theorem dZL_law_399 : decode cZL_law 399 = .ok (.ifCond .ne 15, 3) := by decide +kernel
theorem dZL_law_402 : decode cZL_law 402 = .ok (.aload_n 3, 1) := by decide +kernel
theorem dZL_law_403 : decode cZL_law 403 = .ok (.iconst 0, 1) := by decide +kernel
theorem dZL_law_404 : decode cZL_law 404 = .ok (.laload, 1) := by decide +kernel
theorem dZL_law_405 : decode cZL_law 405 = .ok (.iload 6, 2) := by decide +kernel
theorem dZL_law_407 : decode cZL_law 407 = .ok (.i2l, 1) := by decide +kernel
theorem dZL_law_408 : decode cZL_law 408 = .ok (.lcmp, 1) := by decide +kernel
theorem dZL_law_409 : decode cZL_law 409 = .ok (.ifCond .eq 5, 3) := by decide +kernel
theorem dZL_law_412 : decode cZL_law 412 = .ok (.iconst 0, 1) := by decide +kernel
theorem dZL_law_413 : decode cZL_law 413 = .ok (.ireturn, 1) := by decide +kernel
theorem dZL_law_414 : decode cZL_law 414 = .ok (.goto 968, 3) := by decide +kernel
theorem dZL_law_417 : decode cZL_law 417 = .ok (.aload_n 1, 1) := by decide +kernel
theorem dZL_law_418 : decode cZL_law 418 = .ok (.aload_n 0, 1) := by decide +kernel
theorem dZL_law_419 : decode cZL_law 419 = .ok (.iload 4, 2) := by decide +kernel
theorem dZL_law_421 : decode cZL_law 421 = .ok (.iconst 1, 1) := by decide +kernel
theorem dZL_law_422 : decode cZL_law 422 = .ok (.iadd, 1) := by decide +kernel
theorem dZL_law_423 : decode cZL_law 423 = .ok (.iaload, 1) := by decide +kernel
theorem dZL_law_424 : decode cZL_law 424 = .ok (.aload_n 0, 1) := by decide +kernel
theorem dZL_law_425 : decode cZL_law 425 = .ok (.iload 4, 2) := by decide +kernel
theorem dZL_law_427 : decode cZL_law 427 = .ok (.iconst 2, 1) := by decide +kernel
theorem dZL_law_428 : decode cZL_law 428 = .ok (.iadd, 1) := by decide +kernel
theorem dZL_law_429 : decode cZL_law 429 = .ok (.iaload, 1) := by decide +kernel
theorem dZL_law_430 : decode cZL_law 430 = .ok (.aload_n 0, 1) := by decide +kernel
theorem dZL_law_431 : decode cZL_law 431 = .ok (.iload 4, 2) := by decide +kernel
theorem dZL_law_433 : decode cZL_law 433 = .ok (.iconst 3, 1) := by decide +kernel
theorem dZL_law_434 : decode cZL_law 434 = .ok (.iadd, 1) := by decide +kernel
theorem dZL_law_435 : decode cZL_law 435 = .ok (.iaload, 1) := by decide +kernel
theorem dZL_law_436 : decode cZL_law 436 = .ok (.aload_n 3, 1) := by decide +kernel
theorem dZL_law_437 : decode cZL_law 437 = .ok (.invokestatic 101, 3) := by decide +kernel
theorem dZL_law_440 : decode cZL_law 440 = .ok (.istore 5, 2) := by decide +kernel
theorem dZL_law_442 : decode cZL_law 442 = .ok (.aload_n 2, 1) := by decide +kernel
theorem dZL_law_443 : decode cZL_law 443 = .ok (.aload_n 0, 1) := by decide +kernel
theorem dZL_law_444 : decode cZL_law 444 = .ok (.iload 4, 2) := by decide +kernel
theorem dZL_law_446 : decode cZL_law 446 = .ok (.iconst 1, 1) := by decide +kernel
theorem dZL_law_447 : decode cZL_law 447 = .ok (.iadd, 1) := by decide +kernel
theorem dZL_law_448 : decode cZL_law 448 = .ok (.iaload, 1) := by decide +kernel
theorem dZL_law_449 : decode cZL_law 449 = .ok (.aload_n 0, 1) := by decide +kernel
theorem dZL_law_450 : decode cZL_law 450 = .ok (.iload 4, 2) := by decide +kernel
theorem dZL_law_452 : decode cZL_law 452 = .ok (.iconst 2, 1) := by decide +kernel
theorem dZL_law_453 : decode cZL_law 453 = .ok (.iadd, 1) := by decide +kernel
theorem dZL_law_454 : decode cZL_law 454 = .ok (.iaload, 1) := by decide +kernel
theorem dZL_law_455 : decode cZL_law 455 = .ok (.aload_n 0, 1) := by decide +kernel
theorem dZL_law_456 : decode cZL_law 456 = .ok (.iload 4, 2) := by decide +kernel
theorem dZL_law_458 : decode cZL_law 458 = .ok (.iconst 3, 1) := by decide +kernel
theorem dZL_law_459 : decode cZL_law 459 = .ok (.iadd, 1) := by decide +kernel
theorem dZL_law_460 : decode cZL_law 460 = .ok (.iaload, 1) := by decide +kernel
theorem dZL_law_461 : decode cZL_law 461 = .ok (.invokevirtual 103, 3) := by decide +kernel
theorem dZL_law_464 : decode cZL_law 464 = .ok (.istore 6, 2) := by decide +kernel
theorem dZL_law_466 : decode cZL_law 466 = .ok (.aload_n 2, 1) := by decide +kernel
theorem dZL_law_467 : decode cZL_law 467 = .ok (.invokevirtual 85, 3) := by decide +kernel
theorem dZL_law_470 : decode cZL_law 470 = .ok (.iload 5, 2) := by decide +kernel
theorem dZL_law_472 : decode cZL_law 472 = .ok (.if_icmp .eq 5, 3) := by decide +kernel
theorem dZL_law_475 : decode cZL_law 475 = .ok (.iconst 0, 1) := by decide +kernel
theorem dZL_law_476 : decode cZL_law 476 = .ok (.ireturn, 1) := by decide +kernel
theorem dZL_law_477 : decode cZL_law 477 = .ok (.iload 5, 2) := by decide +kernel
theorem dZL_law_479 : decode cZL_law 479 = .ok (.ifCond .ne 15, 3) := by decide +kernel
theorem dZL_law_482 : decode cZL_law 482 = .ok (.aload_n 3, 1) := by decide +kernel
theorem dZL_law_483 : decode cZL_law 483 = .ok (.iconst 0, 1) := by decide +kernel
theorem dZL_law_484 : decode cZL_law 484 = .ok (.laload, 1) := by decide +kernel
theorem dZL_law_485 : decode cZL_law 485 = .ok (.iload 6, 2) := by decide +kernel
theorem dZL_law_487 : decode cZL_law 487 = .ok (.i2l, 1) := by decide +kernel
theorem dZL_law_488 : decode cZL_law 488 = .ok (.lcmp, 1) := by decide +kernel
theorem dZL_law_489 : decode cZL_law 489 = .ok (.ifCond .eq 5, 3) := by decide +kernel
theorem dZL_law_492 : decode cZL_law 492 = .ok (.iconst 0, 1) := by decide +kernel
theorem dZL_law_493 : decode cZL_law 493 = .ok (.ireturn, 1) := by decide +kernel
theorem dZL_law_494 : decode cZL_law 494 = .ok (.goto 888, 3) := by decide +kernel
theorem dZL_law_497 : decode cZL_law 497 = .ok (.aload_n 1, 1) := by decide +kernel
theorem dZL_law_498 : decode cZL_law 498 = .ok (.aload_n 0, 1) := by decide +kernel
theorem dZL_law_499 : decode cZL_law 499 = .ok (.iload 4, 2) := by decide +kernel
theorem dZL_law_501 : decode cZL_law 501 = .ok (.iconst 1, 1) := by decide +kernel
theorem dZL_law_502 : decode cZL_law 502 = .ok (.iadd, 1) := by decide +kernel
theorem dZL_law_503 : decode cZL_law 503 = .ok (.iaload, 1) := by decide +kernel
theorem dZL_law_504 : decode cZL_law 504 = .ok (.aload_n 0, 1) := by decide +kernel
theorem dZL_law_505 : decode cZL_law 505 = .ok (.iload 4, 2) := by decide +kernel
theorem dZL_law_507 : decode cZL_law 507 = .ok (.iconst 2, 1) := by decide +kernel
theorem dZL_law_508 : decode cZL_law 508 = .ok (.iadd, 1) := by decide +kernel
theorem dZL_law_509 : decode cZL_law 509 = .ok (.iaload, 1) := by decide +kernel
theorem dZL_law_510 : decode cZL_law 510 = .ok (.aload_n 0, 1) := by decide +kernel
theorem dZL_law_511 : decode cZL_law 511 = .ok (.iload 4, 2) := by decide +kernel
theorem dZL_law_513 : decode cZL_law 513 = .ok (.iconst 3, 1) := by decide +kernel
theorem dZL_law_514 : decode cZL_law 514 = .ok (.iadd, 1) := by decide +kernel
theorem dZL_law_515 : decode cZL_law 515 = .ok (.iaload, 1) := by decide +kernel
theorem dZL_law_516 : decode cZL_law 516 = .ok (.aload_n 0, 1) := by decide +kernel
theorem dZL_law_517 : decode cZL_law 517 = .ok (.iload 4, 2) := by decide +kernel
theorem dZL_law_519 : decode cZL_law 519 = .ok (.iconst 4, 1) := by decide +kernel
theorem dZL_law_520 : decode cZL_law 520 = .ok (.iadd, 1) := by decide +kernel
theorem dZL_law_521 : decode cZL_law 521 = .ok (.iaload, 1) := by decide +kernel
theorem dZL_law_522 : decode cZL_law 522 = .ok (.aload_n 3, 1) := by decide +kernel
theorem dZL_law_523 : decode cZL_law 523 = .ok (.invokestatic 104, 3) := by decide +kernel
theorem dZL_law_526 : decode cZL_law 526 = .ok (.istore 5, 2) := by decide +kernel
theorem dZL_law_528 : decode cZL_law 528 = .ok (.aload_n 2, 1) := by decide +kernel
theorem dZL_law_529 : decode cZL_law 529 = .ok (.aload_n 0, 1) := by decide +kernel
theorem dZL_law_530 : decode cZL_law 530 = .ok (.iload 4, 2) := by decide +kernel
theorem dZL_law_532 : decode cZL_law 532 = .ok (.iconst 1, 1) := by decide +kernel
theorem dZL_law_533 : decode cZL_law 533 = .ok (.iadd, 1) := by decide +kernel
theorem dZL_law_534 : decode cZL_law 534 = .ok (.iaload, 1) := by decide +kernel
theorem dZL_law_535 : decode cZL_law 535 = .ok (.aload_n 0, 1) := by decide +kernel
theorem dZL_law_536 : decode cZL_law 536 = .ok (.iload 4, 2) := by decide +kernel
theorem dZL_law_538 : decode cZL_law 538 = .ok (.iconst 2, 1) := by decide +kernel
theorem dZL_law_539 : decode cZL_law 539 = .ok (.iadd, 1) := by decide +kernel
theorem dZL_law_540 : decode cZL_law 540 = .ok (.iaload, 1) := by decide +kernel
theorem dZL_law_541 : decode cZL_law 541 = .ok (.aload_n 0, 1) := by decide +kernel
theorem dZL_law_542 : decode cZL_law 542 = .ok (.iload 4, 2) := by decide +kernel
theorem dZL_law_544 : decode cZL_law 544 = .ok (.iconst 3, 1) := by decide +kernel
theorem dZL_law_545 : decode cZL_law 545 = .ok (.iadd, 1) := by decide +kernel
theorem dZL_law_546 : decode cZL_law 546 = .ok (.iaload, 1) := by decide +kernel
theorem dZL_law_547 : decode cZL_law 547 = .ok (.aload_n 0, 1) := by decide +kernel
theorem dZL_law_548 : decode cZL_law 548 = .ok (.iload 4, 2) := by decide +kernel
theorem dZL_law_550 : decode cZL_law 550 = .ok (.iconst 4, 1) := by decide +kernel
theorem dZL_law_551 : decode cZL_law 551 = .ok (.iadd, 1) := by decide +kernel
theorem dZL_law_552 : decode cZL_law 552 = .ok (.iaload, 1) := by decide +kernel
theorem dZL_law_553 : decode cZL_law 553 = .ok (.invokevirtual 107, 3) := by decide +kernel
theorem dZL_law_556 : decode cZL_law 556 = .ok (.istore 6, 2) := by decide +kernel
theorem dZL_law_558 : decode cZL_law 558 = .ok (.aload_n 2, 1) := by decide +kernel
theorem dZL_law_559 : decode cZL_law 559 = .ok (.invokevirtual 85, 3) := by decide +kernel
theorem dZL_law_562 : decode cZL_law 562 = .ok (.iload 5, 2) := by decide +kernel
theorem dZL_law_564 : decode cZL_law 564 = .ok (.if_icmp .eq 5, 3) := by decide +kernel
theorem dZL_law_567 : decode cZL_law 567 = .ok (.iconst 0, 1) := by decide +kernel
theorem dZL_law_568 : decode cZL_law 568 = .ok (.ireturn, 1) := by decide +kernel
theorem dZL_law_569 : decode cZL_law 569 = .ok (.iload 5, 2) := by decide +kernel
theorem dZL_law_571 : decode cZL_law 571 = .ok (.ifCond .ne 15, 3) := by decide +kernel
theorem dZL_law_574 : decode cZL_law 574 = .ok (.aload_n 3, 1) := by decide +kernel
theorem dZL_law_575 : decode cZL_law 575 = .ok (.iconst 0, 1) := by decide +kernel
theorem dZL_law_576 : decode cZL_law 576 = .ok (.laload, 1) := by decide +kernel
theorem dZL_law_577 : decode cZL_law 577 = .ok (.iload 6, 2) := by decide +kernel
theorem dZL_law_579 : decode cZL_law 579 = .ok (.i2l, 1) := by decide +kernel
theorem dZL_law_580 : decode cZL_law 580 = .ok (.lcmp, 1) := by decide +kernel
theorem dZL_law_581 : decode cZL_law 581 = .ok (.ifCond .eq 5, 3) := by decide +kernel
theorem dZL_law_584 : decode cZL_law 584 = .ok (.iconst 0, 1) := by decide +kernel
theorem dZL_law_585 : decode cZL_law 585 = .ok (.ireturn, 1) := by decide +kernel
theorem dZL_law_586 : decode cZL_law 586 = .ok (.goto 796, 3) := by decide +kernel
theorem dZL_law_589 : decode cZL_law 589 = .ok (.aload_n 1, 1) := by decide +kernel
theorem dZL_law_590 : decode cZL_law 590 = .ok (.aload_n 0, 1) := by decide +kernel
theorem dZL_law_591 : decode cZL_law 591 = .ok (.iload 4, 2) := by decide +kernel
theorem dZL_law_593 : decode cZL_law 593 = .ok (.iconst 1, 1) := by decide +kernel
theorem dZL_law_594 : decode cZL_law 594 = .ok (.iadd, 1) := by decide +kernel
theorem dZL_law_595 : decode cZL_law 595 = .ok (.iaload, 1) := by decide +kernel
theorem dZL_law_596 : decode cZL_law 596 = .ok (.aload_n 0, 1) := by decide +kernel
theorem dZL_law_597 : decode cZL_law 597 = .ok (.iload 4, 2) := by decide +kernel
theorem dZL_law_599 : decode cZL_law 599 = .ok (.iconst 2, 1) := by decide +kernel
theorem dZL_law_600 : decode cZL_law 600 = .ok (.iadd, 1) := by decide +kernel
theorem dZL_law_601 : decode cZL_law 601 = .ok (.iaload, 1) := by decide +kernel
theorem dZL_law_602 : decode cZL_law 602 = .ok (.aload_n 0, 1) := by decide +kernel
theorem dZL_law_603 : decode cZL_law 603 = .ok (.iload 4, 2) := by decide +kernel
theorem dZL_law_605 : decode cZL_law 605 = .ok (.iconst 3, 1) := by decide +kernel
theorem dZL_law_606 : decode cZL_law 606 = .ok (.iadd, 1) := by decide +kernel
theorem dZL_law_607 : decode cZL_law 607 = .ok (.iaload, 1) := by decide +kernel
theorem dZL_law_608 : decode cZL_law 608 = .ok (.aload_n 0, 1) := by decide +kernel
theorem dZL_law_609 : decode cZL_law 609 = .ok (.iload 4, 2) := by decide +kernel
theorem dZL_law_611 : decode cZL_law 611 = .ok (.iconst 4, 1) := by decide +kernel
theorem dZL_law_612 : decode cZL_law 612 = .ok (.iadd, 1) := by decide +kernel
theorem dZL_law_613 : decode cZL_law 613 = .ok (.iaload, 1) := by decide +kernel
theorem dZL_law_614 : decode cZL_law 614 = .ok (.aload_n 0, 1) := by decide +kernel
theorem dZL_law_615 : decode cZL_law 615 = .ok (.iload 4, 2) := by decide +kernel
theorem dZL_law_617 : decode cZL_law 617 = .ok (.iconst 5, 1) := by decide +kernel
theorem dZL_law_618 : decode cZL_law 618 = .ok (.iadd, 1) := by decide +kernel
theorem dZL_law_619 : decode cZL_law 619 = .ok (.iaload, 1) := by decide +kernel
theorem dZL_law_620 : decode cZL_law 620 = .ok (.aload_n 3, 1) := by decide +kernel
theorem dZL_law_621 : decode cZL_law 621 = .ok (.invokestatic 108, 3) := by decide +kernel
theorem dZL_law_624 : decode cZL_law 624 = .ok (.istore 5, 2) := by decide +kernel
theorem dZL_law_626 : decode cZL_law 626 = .ok (.aload_n 2, 1) := by decide +kernel
theorem dZL_law_627 : decode cZL_law 627 = .ok (.aload_n 0, 1) := by decide +kernel
theorem dZL_law_628 : decode cZL_law 628 = .ok (.iload 4, 2) := by decide +kernel
theorem dZL_law_630 : decode cZL_law 630 = .ok (.iconst 1, 1) := by decide +kernel
theorem dZL_law_631 : decode cZL_law 631 = .ok (.iadd, 1) := by decide +kernel
theorem dZL_law_632 : decode cZL_law 632 = .ok (.iaload, 1) := by decide +kernel
theorem dZL_law_633 : decode cZL_law 633 = .ok (.aload_n 0, 1) := by decide +kernel
theorem dZL_law_634 : decode cZL_law 634 = .ok (.iload 4, 2) := by decide +kernel
theorem dZL_law_636 : decode cZL_law 636 = .ok (.iconst 2, 1) := by decide +kernel
theorem dZL_law_637 : decode cZL_law 637 = .ok (.iadd, 1) := by decide +kernel
theorem dZL_law_638 : decode cZL_law 638 = .ok (.iaload, 1) := by decide +kernel
theorem dZL_law_639 : decode cZL_law 639 = .ok (.aload_n 0, 1) := by decide +kernel
theorem dZL_law_640 : decode cZL_law 640 = .ok (.iload 4, 2) := by decide +kernel
theorem dZL_law_642 : decode cZL_law 642 = .ok (.iconst 3, 1) := by decide +kernel
theorem dZL_law_643 : decode cZL_law 643 = .ok (.iadd, 1) := by decide +kernel
theorem dZL_law_644 : decode cZL_law 644 = .ok (.iaload, 1) := by decide +kernel
theorem dZL_law_645 : decode cZL_law 645 = .ok (.aload_n 0, 1) := by decide +kernel
theorem dZL_law_646 : decode cZL_law 646 = .ok (.iload 4, 2) := by decide +kernel
theorem dZL_law_648 : decode cZL_law 648 = .ok (.iconst 4, 1) := by decide +kernel
theorem dZL_law_649 : decode cZL_law 649 = .ok (.iadd, 1) := by decide +kernel
theorem dZL_law_650 : decode cZL_law 650 = .ok (.iaload, 1) := by decide +kernel
theorem dZL_law_651 : decode cZL_law 651 = .ok (.aload_n 0, 1) := by decide +kernel
theorem dZL_law_652 : decode cZL_law 652 = .ok (.iload 4, 2) := by decide +kernel
theorem dZL_law_654 : decode cZL_law 654 = .ok (.iconst 5, 1) := by decide +kernel
theorem dZL_law_655 : decode cZL_law 655 = .ok (.iadd, 1) := by decide +kernel
theorem dZL_law_656 : decode cZL_law 656 = .ok (.iaload, 1) := by decide +kernel
theorem dZL_law_657 : decode cZL_law 657 = .ok (.invokevirtual 110, 3) := by decide +kernel
theorem dZL_law_660 : decode cZL_law 660 = .ok (.istore 6, 2) := by decide +kernel
theorem dZL_law_662 : decode cZL_law 662 = .ok (.aload_n 2, 1) := by decide +kernel
theorem dZL_law_663 : decode cZL_law 663 = .ok (.invokevirtual 85, 3) := by decide +kernel
theorem dZL_law_666 : decode cZL_law 666 = .ok (.iload 5, 2) := by decide +kernel
theorem dZL_law_668 : decode cZL_law 668 = .ok (.if_icmp .eq 5, 3) := by decide +kernel
theorem dZL_law_671 : decode cZL_law 671 = .ok (.iconst 0, 1) := by decide +kernel
theorem dZL_law_672 : decode cZL_law 672 = .ok (.ireturn, 1) := by decide +kernel
theorem dZL_law_673 : decode cZL_law 673 = .ok (.iload 5, 2) := by decide +kernel
theorem dZL_law_675 : decode cZL_law 675 = .ok (.ifCond .ne 15, 3) := by decide +kernel
theorem dZL_law_678 : decode cZL_law 678 = .ok (.aload_n 3, 1) := by decide +kernel
theorem dZL_law_679 : decode cZL_law 679 = .ok (.iconst 0, 1) := by decide +kernel
theorem dZL_law_680 : decode cZL_law 680 = .ok (.laload, 1) := by decide +kernel
theorem dZL_law_681 : decode cZL_law 681 = .ok (.iload 6, 2) := by decide +kernel
theorem dZL_law_683 : decode cZL_law 683 = .ok (.i2l, 1) := by decide +kernel
theorem dZL_law_684 : decode cZL_law 684 = .ok (.lcmp, 1) := by decide +kernel
theorem dZL_law_685 : decode cZL_law 685 = .ok (.ifCond .eq 5, 3) := by decide +kernel
theorem dZL_law_688 : decode cZL_law 688 = .ok (.iconst 0, 1) := by decide +kernel
theorem dZL_law_689 : decode cZL_law 689 = .ok (.ireturn, 1) := by decide +kernel
theorem dZL_law_690 : decode cZL_law 690 = .ok (.goto 692, 3) := by decide +kernel
theorem dZL_law_693 : decode cZL_law 693 = .ok (.aload_n 1, 1) := by decide +kernel
theorem dZL_law_694 : decode cZL_law 694 = .ok (.aload_n 0, 1) := by decide +kernel
theorem dZL_law_695 : decode cZL_law 695 = .ok (.iload 4, 2) := by decide +kernel
theorem dZL_law_697 : decode cZL_law 697 = .ok (.iconst 1, 1) := by decide +kernel
theorem dZL_law_698 : decode cZL_law 698 = .ok (.iadd, 1) := by decide +kernel
theorem dZL_law_699 : decode cZL_law 699 = .ok (.iaload, 1) := by decide +kernel
theorem dZL_law_700 : decode cZL_law 700 = .ok (.aload_n 0, 1) := by decide +kernel
theorem dZL_law_701 : decode cZL_law 701 = .ok (.iload 4, 2) := by decide +kernel
theorem dZL_law_703 : decode cZL_law 703 = .ok (.iconst 2, 1) := by decide +kernel
theorem dZL_law_704 : decode cZL_law 704 = .ok (.iadd, 1) := by decide +kernel
theorem dZL_law_705 : decode cZL_law 705 = .ok (.iaload, 1) := by decide +kernel
theorem dZL_law_706 : decode cZL_law 706 = .ok (.aload_n 0, 1) := by decide +kernel
theorem dZL_law_707 : decode cZL_law 707 = .ok (.iload 4, 2) := by decide +kernel
theorem dZL_law_709 : decode cZL_law 709 = .ok (.iconst 3, 1) := by decide +kernel
theorem dZL_law_710 : decode cZL_law 710 = .ok (.iadd, 1) := by decide +kernel
theorem dZL_law_711 : decode cZL_law 711 = .ok (.iaload, 1) := by decide +kernel
theorem dZL_law_712 : decode cZL_law 712 = .ok (.aload_n 3, 1) := by decide +kernel
theorem dZL_law_713 : decode cZL_law 713 = .ok (.invokestatic 111, 3) := by decide +kernel
theorem dZL_law_716 : decode cZL_law 716 = .ok (.istore 5, 2) := by decide +kernel
theorem dZL_law_718 : decode cZL_law 718 = .ok (.aload_n 2, 1) := by decide +kernel
theorem dZL_law_719 : decode cZL_law 719 = .ok (.aload_n 0, 1) := by decide +kernel
theorem dZL_law_720 : decode cZL_law 720 = .ok (.iload 4, 2) := by decide +kernel
theorem dZL_law_722 : decode cZL_law 722 = .ok (.iconst 1, 1) := by decide +kernel
theorem dZL_law_723 : decode cZL_law 723 = .ok (.iadd, 1) := by decide +kernel
theorem dZL_law_724 : decode cZL_law 724 = .ok (.iaload, 1) := by decide +kernel
theorem dZL_law_725 : decode cZL_law 725 = .ok (.aload_n 0, 1) := by decide +kernel
theorem dZL_law_726 : decode cZL_law 726 = .ok (.iload 4, 2) := by decide +kernel
theorem dZL_law_728 : decode cZL_law 728 = .ok (.iconst 2, 1) := by decide +kernel
theorem dZL_law_729 : decode cZL_law 729 = .ok (.iadd, 1) := by decide +kernel
theorem dZL_law_730 : decode cZL_law 730 = .ok (.iaload, 1) := by decide +kernel
theorem dZL_law_731 : decode cZL_law 731 = .ok (.aload_n 0, 1) := by decide +kernel
theorem dZL_law_732 : decode cZL_law 732 = .ok (.iload 4, 2) := by decide +kernel
theorem dZL_law_734 : decode cZL_law 734 = .ok (.iconst 3, 1) := by decide +kernel
theorem dZL_law_735 : decode cZL_law 735 = .ok (.iadd, 1) := by decide +kernel
theorem dZL_law_736 : decode cZL_law 736 = .ok (.iaload, 1) := by decide +kernel
theorem dZL_law_737 : decode cZL_law 737 = .ok (.invokevirtual 113, 3) := by decide +kernel
theorem dZL_law_740 : decode cZL_law 740 = .ok (.istore 6, 2) := by decide +kernel
theorem dZL_law_742 : decode cZL_law 742 = .ok (.aload_n 2, 1) := by decide +kernel
theorem dZL_law_743 : decode cZL_law 743 = .ok (.invokevirtual 85, 3) := by decide +kernel
theorem dZL_law_746 : decode cZL_law 746 = .ok (.iload 5, 2) := by decide +kernel
theorem dZL_law_748 : decode cZL_law 748 = .ok (.if_icmp .eq 5, 3) := by decide +kernel
theorem dZL_law_751 : decode cZL_law 751 = .ok (.iconst 0, 1) := by decide +kernel
theorem dZL_law_752 : decode cZL_law 752 = .ok (.ireturn, 1) := by decide +kernel
theorem dZL_law_753 : decode cZL_law 753 = .ok (.iload 5, 2) := by decide +kernel
theorem dZL_law_755 : decode cZL_law 755 = .ok (.ifCond .ne 15, 3) := by decide +kernel
theorem dZL_law_758 : decode cZL_law 758 = .ok (.aload_n 3, 1) := by decide +kernel
theorem dZL_law_759 : decode cZL_law 759 = .ok (.iconst 0, 1) := by decide +kernel
theorem dZL_law_760 : decode cZL_law 760 = .ok (.laload, 1) := by decide +kernel
theorem dZL_law_761 : decode cZL_law 761 = .ok (.iload 6, 2) := by decide +kernel
theorem dZL_law_763 : decode cZL_law 763 = .ok (.i2l, 1) := by decide +kernel
theorem dZL_law_764 : decode cZL_law 764 = .ok (.lcmp, 1) := by decide +kernel
theorem dZL_law_765 : decode cZL_law 765 = .ok (.ifCond .eq 5, 3) := by decide +kernel
theorem dZL_law_768 : decode cZL_law 768 = .ok (.iconst 0, 1) := by decide +kernel
theorem dZL_law_769 : decode cZL_law 769 = .ok (.ireturn, 1) := by decide +kernel
theorem dZL_law_770 : decode cZL_law 770 = .ok (.goto 612, 3) := by decide +kernel
theorem dZL_law_773 : decode cZL_law 773 = .ok (.aload_n 1, 1) := by decide +kernel
theorem dZL_law_774 : decode cZL_law 774 = .ok (.aload_n 0, 1) := by decide +kernel
theorem dZL_law_775 : decode cZL_law 775 = .ok (.iload 4, 2) := by decide +kernel
theorem dZL_law_777 : decode cZL_law 777 = .ok (.iconst 1, 1) := by decide +kernel
theorem dZL_law_778 : decode cZL_law 778 = .ok (.iadd, 1) := by decide +kernel
theorem dZL_law_779 : decode cZL_law 779 = .ok (.iaload, 1) := by decide +kernel
theorem dZL_law_780 : decode cZL_law 780 = .ok (.aload_n 0, 1) := by decide +kernel
theorem dZL_law_781 : decode cZL_law 781 = .ok (.iload 4, 2) := by decide +kernel
theorem dZL_law_783 : decode cZL_law 783 = .ok (.iconst 2, 1) := by decide +kernel
theorem dZL_law_784 : decode cZL_law 784 = .ok (.iadd, 1) := by decide +kernel
theorem dZL_law_785 : decode cZL_law 785 = .ok (.iaload, 1) := by decide +kernel
theorem dZL_law_786 : decode cZL_law 786 = .ok (.aload_n 0, 1) := by decide +kernel
theorem dZL_law_787 : decode cZL_law 787 = .ok (.iload 4, 2) := by decide +kernel
theorem dZL_law_789 : decode cZL_law 789 = .ok (.iconst 3, 1) := by decide +kernel
theorem dZL_law_790 : decode cZL_law 790 = .ok (.iadd, 1) := by decide +kernel
theorem dZL_law_791 : decode cZL_law 791 = .ok (.iaload, 1) := by decide +kernel
theorem dZL_law_792 : decode cZL_law 792 = .ok (.aload_n 3, 1) := by decide +kernel
theorem dZL_law_793 : decode cZL_law 793 = .ok (.invokestatic 114, 3) := by decide +kernel
theorem dZL_law_796 : decode cZL_law 796 = .ok (.istore 5, 2) := by decide +kernel
theorem dZL_law_798 : decode cZL_law 798 = .ok (.aload_n 2, 1) := by decide +kernel
theorem dZL_law_799 : decode cZL_law 799 = .ok (.aload_n 0, 1) := by decide +kernel
theorem dZL_law_800 : decode cZL_law 800 = .ok (.iload 4, 2) := by decide +kernel
theorem dZL_law_802 : decode cZL_law 802 = .ok (.iconst 1, 1) := by decide +kernel
theorem dZL_law_803 : decode cZL_law 803 = .ok (.iadd, 1) := by decide +kernel
theorem dZL_law_804 : decode cZL_law 804 = .ok (.iaload, 1) := by decide +kernel
theorem dZL_law_805 : decode cZL_law 805 = .ok (.aload_n 0, 1) := by decide +kernel
theorem dZL_law_806 : decode cZL_law 806 = .ok (.iload 4, 2) := by decide +kernel
theorem dZL_law_808 : decode cZL_law 808 = .ok (.iconst 2, 1) := by decide +kernel
theorem dZL_law_809 : decode cZL_law 809 = .ok (.iadd, 1) := by decide +kernel
theorem dZL_law_810 : decode cZL_law 810 = .ok (.iaload, 1) := by decide +kernel
theorem dZL_law_811 : decode cZL_law 811 = .ok (.aload_n 0, 1) := by decide +kernel
theorem dZL_law_812 : decode cZL_law 812 = .ok (.iload 4, 2) := by decide +kernel
theorem dZL_law_814 : decode cZL_law 814 = .ok (.iconst 3, 1) := by decide +kernel
theorem dZL_law_815 : decode cZL_law 815 = .ok (.iadd, 1) := by decide +kernel
theorem dZL_law_816 : decode cZL_law 816 = .ok (.iaload, 1) := by decide +kernel
theorem dZL_law_817 : decode cZL_law 817 = .ok (.invokevirtual 116, 3) := by decide +kernel
theorem dZL_law_820 : decode cZL_law 820 = .ok (.istore 6, 2) := by decide +kernel
theorem dZL_law_822 : decode cZL_law 822 = .ok (.aload_n 2, 1) := by decide +kernel
theorem dZL_law_823 : decode cZL_law 823 = .ok (.invokevirtual 85, 3) := by decide +kernel
theorem dZL_law_826 : decode cZL_law 826 = .ok (.iload 5, 2) := by decide +kernel
theorem dZL_law_828 : decode cZL_law 828 = .ok (.if_icmp .eq 5, 3) := by decide +kernel
theorem dZL_law_831 : decode cZL_law 831 = .ok (.iconst 0, 1) := by decide +kernel
theorem dZL_law_832 : decode cZL_law 832 = .ok (.ireturn, 1) := by decide +kernel
theorem dZL_law_833 : decode cZL_law 833 = .ok (.iload 5, 2) := by decide +kernel
theorem dZL_law_835 : decode cZL_law 835 = .ok (.ifCond .ne 15, 3) := by decide +kernel
theorem dZL_law_838 : decode cZL_law 838 = .ok (.aload_n 3, 1) := by decide +kernel
theorem dZL_law_839 : decode cZL_law 839 = .ok (.iconst 0, 1) := by decide +kernel
theorem dZL_law_840 : decode cZL_law 840 = .ok (.laload, 1) := by decide +kernel
theorem dZL_law_841 : decode cZL_law 841 = .ok (.iload 6, 2) := by decide +kernel
theorem dZL_law_843 : decode cZL_law 843 = .ok (.i2l, 1) := by decide +kernel
theorem dZL_law_844 : decode cZL_law 844 = .ok (.lcmp, 1) := by decide +kernel
theorem dZL_law_845 : decode cZL_law 845 = .ok (.ifCond .eq 5, 3) := by decide +kernel
theorem dZL_law_848 : decode cZL_law 848 = .ok (.iconst 0, 1) := by decide +kernel
theorem dZL_law_849 : decode cZL_law 849 = .ok (.ireturn, 1) := by decide +kernel
theorem dZL_law_850 : decode cZL_law 850 = .ok (.goto 532, 3) := by decide +kernel
theorem dZL_law_853 : decode cZL_law 853 = .ok (.aload_n 1, 1) := by decide +kernel
theorem dZL_law_854 : decode cZL_law 854 = .ok (.aload_n 0, 1) := by decide +kernel
theorem dZL_law_855 : decode cZL_law 855 = .ok (.iload 4, 2) := by decide +kernel
theorem dZL_law_857 : decode cZL_law 857 = .ok (.iconst 1, 1) := by decide +kernel
theorem dZL_law_858 : decode cZL_law 858 = .ok (.iadd, 1) := by decide +kernel
theorem dZL_law_859 : decode cZL_law 859 = .ok (.iaload, 1) := by decide +kernel
theorem dZL_law_860 : decode cZL_law 860 = .ok (.aload_n 3, 1) := by decide +kernel
theorem dZL_law_861 : decode cZL_law 861 = .ok (.invokestatic 117, 3) := by decide +kernel
theorem dZL_law_864 : decode cZL_law 864 = .ok (.istore 5, 2) := by decide +kernel
theorem dZL_law_866 : decode cZL_law 866 = .ok (.aload_n 2, 1) := by decide +kernel
theorem dZL_law_867 : decode cZL_law 867 = .ok (.aload_n 0, 1) := by decide +kernel
theorem dZL_law_868 : decode cZL_law 868 = .ok (.iload 4, 2) := by decide +kernel
theorem dZL_law_870 : decode cZL_law 870 = .ok (.iconst 1, 1) := by decide +kernel
theorem dZL_law_871 : decode cZL_law 871 = .ok (.iadd, 1) := by decide +kernel
theorem dZL_law_872 : decode cZL_law 872 = .ok (.iaload, 1) := by decide +kernel
theorem dZL_law_873 : decode cZL_law 873 = .ok (.invokevirtual 120, 3) := by decide +kernel
theorem dZL_law_876 : decode cZL_law 876 = .ok (.istore 6, 2) := by decide +kernel
theorem dZL_law_878 : decode cZL_law 878 = .ok (.aload_n 2, 1) := by decide +kernel
theorem dZL_law_879 : decode cZL_law 879 = .ok (.invokevirtual 85, 3) := by decide +kernel
theorem dZL_law_882 : decode cZL_law 882 = .ok (.iload 5, 2) := by decide +kernel
theorem dZL_law_884 : decode cZL_law 884 = .ok (.if_icmp .eq 5, 3) := by decide +kernel
theorem dZL_law_887 : decode cZL_law 887 = .ok (.iconst 0, 1) := by decide +kernel
theorem dZL_law_888 : decode cZL_law 888 = .ok (.ireturn, 1) := by decide +kernel
theorem dZL_law_889 : decode cZL_law 889 = .ok (.iload 5, 2) := by decide +kernel
theorem dZL_law_891 : decode cZL_law 891 = .ok (.ifCond .ne 15, 3) := by decide +kernel
theorem dZL_law_894 : decode cZL_law 894 = .ok (.aload_n 3, 1) := by decide +kernel
theorem dZL_law_895 : decode cZL_law 895 = .ok (.iconst 0, 1) := by decide +kernel
theorem dZL_law_896 : decode cZL_law 896 = .ok (.laload, 1) := by decide +kernel
theorem dZL_law_897 : decode cZL_law 897 = .ok (.iload 6, 2) := by decide +kernel
theorem dZL_law_899 : decode cZL_law 899 = .ok (.i2l, 1) := by decide +kernel
theorem dZL_law_900 : decode cZL_law 900 = .ok (.lcmp, 1) := by decide +kernel
theorem dZL_law_901 : decode cZL_law 901 = .ok (.ifCond .eq 5, 3) := by decide +kernel
theorem dZL_law_904 : decode cZL_law 904 = .ok (.iconst 0, 1) := by decide +kernel
theorem dZL_law_905 : decode cZL_law 905 = .ok (.ireturn, 1) := by decide +kernel
theorem dZL_law_906 : decode cZL_law 906 = .ok (.goto 476, 3) := by decide +kernel
theorem dZL_law_909 : decode cZL_law 909 = .ok (.aload_n 1, 1) := by decide +kernel
theorem dZL_law_910 : decode cZL_law 910 = .ok (.invokevirtual 121, 3) := by decide +kernel
theorem dZL_law_913 : decode cZL_law 913 = .ok (.aload_n 2, 1) := by decide +kernel
theorem dZL_law_914 : decode cZL_law 914 = .ok (.invokevirtual 124, 3) := by decide +kernel
theorem dZL_law_917 : decode cZL_law 917 = .ok (.if_icmp .eq 465, 3) := by decide +kernel
theorem dZL_law_920 : decode cZL_law 920 = .ok (.iconst 0, 1) := by decide +kernel
theorem dZL_law_921 : decode cZL_law 921 = .ok (.ireturn, 1) := by decide +kernel
theorem dZL_law_922 : decode cZL_law 922 = .ok (.aload_n 1, 1) := by decide +kernel
theorem dZL_law_923 : decode cZL_law 923 = .ok (.aload_n 0, 1) := by decide +kernel
theorem dZL_law_924 : decode cZL_law 924 = .ok (.iload 4, 2) := by decide +kernel
theorem dZL_law_926 : decode cZL_law 926 = .ok (.iconst 1, 1) := by decide +kernel
theorem dZL_law_927 : decode cZL_law 927 = .ok (.iadd, 1) := by decide +kernel
theorem dZL_law_928 : decode cZL_law 928 = .ok (.iaload, 1) := by decide +kernel
theorem dZL_law_929 : decode cZL_law 929 = .ok (.aload_n 3, 1) := by decide +kernel
theorem dZL_law_930 : decode cZL_law 930 = .ok (.invokestatic 125, 3) := by decide +kernel
theorem dZL_law_933 : decode cZL_law 933 = .ok (.istore 5, 2) := by decide +kernel
theorem dZL_law_935 : decode cZL_law 935 = .ok (.aload_n 2, 1) := by decide +kernel
theorem dZL_law_936 : decode cZL_law 936 = .ok (.aload_n 0, 1) := by decide +kernel
theorem dZL_law_937 : decode cZL_law 937 = .ok (.iload 4, 2) := by decide +kernel
theorem dZL_law_939 : decode cZL_law 939 = .ok (.iconst 1, 1) := by decide +kernel
theorem dZL_law_940 : decode cZL_law 940 = .ok (.iadd, 1) := by decide +kernel
theorem dZL_law_941 : decode cZL_law 941 = .ok (.iaload, 1) := by decide +kernel
theorem dZL_law_942 : decode cZL_law 942 = .ok (.invokevirtual 127, 3) := by decide +kernel
theorem dZL_law_945 : decode cZL_law 945 = .ok (.istore 6, 2) := by decide +kernel
theorem dZL_law_947 : decode cZL_law 947 = .ok (.aload_n 2, 1) := by decide +kernel
theorem dZL_law_948 : decode cZL_law 948 = .ok (.invokevirtual 85, 3) := by decide +kernel
theorem dZL_law_951 : decode cZL_law 951 = .ok (.iload 5, 2) := by decide +kernel
theorem dZL_law_953 : decode cZL_law 953 = .ok (.if_icmp .eq 5, 3) := by decide +kernel
theorem dZL_law_956 : decode cZL_law 956 = .ok (.iconst 0, 1) := by decide +kernel
theorem dZL_law_957 : decode cZL_law 957 = .ok (.ireturn, 1) := by decide +kernel
theorem dZL_law_958 : decode cZL_law 958 = .ok (.iload 5, 2) := by decide +kernel
theorem dZL_law_960 : decode cZL_law 960 = .ok (.ifCond .ne 15, 3) := by decide +kernel
theorem dZL_law_963 : decode cZL_law 963 = .ok (.aload_n 3, 1) := by decide +kernel
theorem dZL_law_964 : decode cZL_law 964 = .ok (.iconst 0, 1) := by decide +kernel
theorem dZL_law_965 : decode cZL_law 965 = .ok (.laload, 1) := by decide +kernel
theorem dZL_law_966 : decode cZL_law 966 = .ok (.iload 6, 2) := by decide +kernel
theorem dZL_law_968 : decode cZL_law 968 = .ok (.i2l, 1) := by decide +kernel
theorem dZL_law_969 : decode cZL_law 969 = .ok (.lcmp, 1) := by decide +kernel
theorem dZL_law_970 : decode cZL_law 970 = .ok (.ifCond .eq 5, 3) := by decide +kernel
theorem dZL_law_973 : decode cZL_law 973 = .ok (.iconst 0, 1) := by decide +kernel
theorem dZL_law_974 : decode cZL_law 974 = .ok (.ireturn, 1) := by decide +kernel
theorem dZL_law_975 : decode cZL_law 975 = .ok (.goto 407, 3) := by decide +kernel
theorem dZL_law_978 : decode cZL_law 978 = .ok (.aload_n 1, 1) := by decide +kernel
theorem dZL_law_979 : decode cZL_law 979 = .ok (.aload_n 0, 1) := by decide +kernel
theorem dZL_law_980 : decode cZL_law 980 = .ok (.iload 4, 2) := by decide +kernel
theorem dZL_law_982 : decode cZL_law 982 = .ok (.iconst 1, 1) := by decide +kernel
theorem dZL_law_983 : decode cZL_law 983 = .ok (.iadd, 1) := by decide +kernel
theorem dZL_law_984 : decode cZL_law 984 = .ok (.iaload, 1) := by decide +kernel
theorem dZL_law_985 : decode cZL_law 985 = .ok (.aload_n 0, 1) := by decide +kernel
theorem dZL_law_986 : decode cZL_law 986 = .ok (.iload 4, 2) := by decide +kernel
theorem dZL_law_988 : decode cZL_law 988 = .ok (.iconst 2, 1) := by decide +kernel
theorem dZL_law_989 : decode cZL_law 989 = .ok (.iadd, 1) := by decide +kernel
theorem dZL_law_990 : decode cZL_law 990 = .ok (.iaload, 1) := by decide +kernel
theorem dZL_law_991 : decode cZL_law 991 = .ok (.aload_n 3, 1) := by decide +kernel
theorem dZL_law_992 : decode cZL_law 992 = .ok (.invokestatic 128, 3) := by decide +kernel
theorem dZL_law_995 : decode cZL_law 995 = .ok (.istore 5, 2) := by decide +kernel
theorem dZL_law_997 : decode cZL_law 997 = .ok (.aload_n 2, 1) := by decide +kernel
theorem dZL_law_998 : decode cZL_law 998 = .ok (.aload_n 0, 1) := by decide +kernel
theorem dZL_law_999 : decode cZL_law 999 = .ok (.iload 4, 2) := by decide +kernel
theorem dZL_law_1001 : decode cZL_law 1001 = .ok (.iconst 1, 1) := by decide +kernel
theorem dZL_law_1002 : decode cZL_law 1002 = .ok (.iadd, 1) := by decide +kernel
theorem dZL_law_1003 : decode cZL_law 1003 = .ok (.iaload, 1) := by decide +kernel
theorem dZL_law_1004 : decode cZL_law 1004 = .ok (.aload_n 0, 1) := by decide +kernel
theorem dZL_law_1005 : decode cZL_law 1005 = .ok (.iload 4, 2) := by decide +kernel
theorem dZL_law_1007 : decode cZL_law 1007 = .ok (.iconst 2, 1) := by decide +kernel
theorem dZL_law_1008 : decode cZL_law 1008 = .ok (.iadd, 1) := by decide +kernel
theorem dZL_law_1009 : decode cZL_law 1009 = .ok (.iaload, 1) := by decide +kernel
theorem dZL_law_1010 : decode cZL_law 1010 = .ok (.invokevirtual 130, 3) := by decide +kernel
theorem dZL_law_1013 : decode cZL_law 1013 = .ok (.istore 6, 2) := by decide +kernel
theorem dZL_law_1015 : decode cZL_law 1015 = .ok (.aload_n 2, 1) := by decide +kernel
theorem dZL_law_1016 : decode cZL_law 1016 = .ok (.invokevirtual 85, 3) := by decide +kernel
theorem dZL_law_1019 : decode cZL_law 1019 = .ok (.iload 5, 2) := by decide +kernel
theorem dZL_law_1021 : decode cZL_law 1021 = .ok (.if_icmp .eq 5, 3) := by decide +kernel
theorem dZL_law_1024 : decode cZL_law 1024 = .ok (.iconst 0, 1) := by decide +kernel
theorem dZL_law_1025 : decode cZL_law 1025 = .ok (.ireturn, 1) := by decide +kernel
theorem dZL_law_1026 : decode cZL_law 1026 = .ok (.iload 5, 2) := by decide +kernel
theorem dZL_law_1028 : decode cZL_law 1028 = .ok (.ifCond .ne 15, 3) := by decide +kernel
theorem dZL_law_1031 : decode cZL_law 1031 = .ok (.aload_n 3, 1) := by decide +kernel
theorem dZL_law_1032 : decode cZL_law 1032 = .ok (.iconst 0, 1) := by decide +kernel
theorem dZL_law_1033 : decode cZL_law 1033 = .ok (.laload, 1) := by decide +kernel
theorem dZL_law_1034 : decode cZL_law 1034 = .ok (.iload 6, 2) := by decide +kernel
theorem dZL_law_1036 : decode cZL_law 1036 = .ok (.i2l, 1) := by decide +kernel
theorem dZL_law_1037 : decode cZL_law 1037 = .ok (.lcmp, 1) := by decide +kernel
theorem dZL_law_1038 : decode cZL_law 1038 = .ok (.ifCond .eq 5, 3) := by decide +kernel
theorem dZL_law_1041 : decode cZL_law 1041 = .ok (.iconst 0, 1) := by decide +kernel
theorem dZL_law_1042 : decode cZL_law 1042 = .ok (.ireturn, 1) := by decide +kernel
theorem dZL_law_1043 : decode cZL_law 1043 = .ok (.goto 339, 3) := by decide +kernel
theorem dZL_law_1046 : decode cZL_law 1046 = .ok (.aload_n 1, 1) := by decide +kernel
theorem dZL_law_1047 : decode cZL_law 1047 = .ok (.invokevirtual 131, 3) := by decide +kernel
theorem dZL_law_1050 : decode cZL_law 1050 = .ok (.aload_n 2, 1) := by decide +kernel
theorem dZL_law_1051 : decode cZL_law 1051 = .ok (.invokevirtual 134, 3) := by decide +kernel
theorem dZL_law_1054 : decode cZL_law 1054 = .ok (.if_icmp .eq 328, 3) := by decide +kernel
theorem dZL_law_1057 : decode cZL_law 1057 = .ok (.iconst 0, 1) := by decide +kernel
theorem dZL_law_1058 : decode cZL_law 1058 = .ok (.ireturn, 1) := by decide +kernel
theorem dZL_law_1059 : decode cZL_law 1059 = .ok (.aload_n 1, 1) := by decide +kernel
theorem dZL_law_1060 : decode cZL_law 1060 = .ok (.aload_n 0, 1) := by decide +kernel
theorem dZL_law_1061 : decode cZL_law 1061 = .ok (.iload 4, 2) := by decide +kernel
theorem dZL_law_1063 : decode cZL_law 1063 = .ok (.iconst 1, 1) := by decide +kernel
theorem dZL_law_1064 : decode cZL_law 1064 = .ok (.iadd, 1) := by decide +kernel
theorem dZL_law_1065 : decode cZL_law 1065 = .ok (.iaload, 1) := by decide +kernel
theorem dZL_law_1066 : decode cZL_law 1066 = .ok (.aload_n 3, 1) := by decide +kernel
theorem dZL_law_1067 : decode cZL_law 1067 = .ok (.invokestatic 135, 3) := by decide +kernel
theorem dZL_law_1070 : decode cZL_law 1070 = .ok (.istore 5, 2) := by decide +kernel
theorem dZL_law_1072 : decode cZL_law 1072 = .ok (.aload_n 2, 1) := by decide +kernel
theorem dZL_law_1073 : decode cZL_law 1073 = .ok (.aload_n 0, 1) := by decide +kernel
theorem dZL_law_1074 : decode cZL_law 1074 = .ok (.iload 4, 2) := by decide +kernel
theorem dZL_law_1076 : decode cZL_law 1076 = .ok (.iconst 1, 1) := by decide +kernel
theorem dZL_law_1077 : decode cZL_law 1077 = .ok (.iadd, 1) := by decide +kernel
theorem dZL_law_1078 : decode cZL_law 1078 = .ok (.iaload, 1) := by decide +kernel
theorem dZL_law_1079 : decode cZL_law 1079 = .ok (.invokevirtual 137, 3) := by decide +kernel
theorem dZL_law_1082 : decode cZL_law 1082 = .ok (.istore 6, 2) := by decide +kernel
theorem dZL_law_1084 : decode cZL_law 1084 = .ok (.aload_n 2, 1) := by decide +kernel
theorem dZL_law_1085 : decode cZL_law 1085 = .ok (.invokevirtual 85, 3) := by decide +kernel
theorem dZL_law_1088 : decode cZL_law 1088 = .ok (.iload 5, 2) := by decide +kernel
theorem dZL_law_1090 : decode cZL_law 1090 = .ok (.if_icmp .eq 5, 3) := by decide +kernel
theorem dZL_law_1093 : decode cZL_law 1093 = .ok (.iconst 0, 1) := by decide +kernel
theorem dZL_law_1094 : decode cZL_law 1094 = .ok (.ireturn, 1) := by decide +kernel
theorem dZL_law_1095 : decode cZL_law 1095 = .ok (.iload 5, 2) := by decide +kernel
theorem dZL_law_1097 : decode cZL_law 1097 = .ok (.ifCond .ne 15, 3) := by decide +kernel
theorem dZL_law_1100 : decode cZL_law 1100 = .ok (.aload_n 3, 1) := by decide +kernel
theorem dZL_law_1101 : decode cZL_law 1101 = .ok (.iconst 0, 1) := by decide +kernel
theorem dZL_law_1102 : decode cZL_law 1102 = .ok (.laload, 1) := by decide +kernel
theorem dZL_law_1103 : decode cZL_law 1103 = .ok (.iload 6, 2) := by decide +kernel
theorem dZL_law_1105 : decode cZL_law 1105 = .ok (.i2l, 1) := by decide +kernel
theorem dZL_law_1106 : decode cZL_law 1106 = .ok (.lcmp, 1) := by decide +kernel
theorem dZL_law_1107 : decode cZL_law 1107 = .ok (.ifCond .eq 5, 3) := by decide +kernel
theorem dZL_law_1110 : decode cZL_law 1110 = .ok (.iconst 0, 1) := by decide +kernel
theorem dZL_law_1111 : decode cZL_law 1111 = .ok (.ireturn, 1) := by decide +kernel
theorem dZL_law_1112 : decode cZL_law 1112 = .ok (.goto 270, 3) := by decide +kernel
theorem dZL_law_1115 : decode cZL_law 1115 = .ok (.aload_n 1, 1) := by decide +kernel
theorem dZL_law_1116 : decode cZL_law 1116 = .ok (.aload_n 0, 1) := by decide +kernel
theorem dZL_law_1117 : decode cZL_law 1117 = .ok (.iload 4, 2) := by decide +kernel
theorem dZL_law_1119 : decode cZL_law 1119 = .ok (.iconst 1, 1) := by decide +kernel
theorem dZL_law_1120 : decode cZL_law 1120 = .ok (.iadd, 1) := by decide +kernel
theorem dZL_law_1121 : decode cZL_law 1121 = .ok (.iaload, 1) := by decide +kernel
theorem dZL_law_1122 : decode cZL_law 1122 = .ok (.aload_n 0, 1) := by decide +kernel
theorem dZL_law_1123 : decode cZL_law 1123 = .ok (.iload 4, 2) := by decide +kernel
theorem dZL_law_1125 : decode cZL_law 1125 = .ok (.iconst 2, 1) := by decide +kernel
theorem dZL_law_1126 : decode cZL_law 1126 = .ok (.iadd, 1) := by decide +kernel
theorem dZL_law_1127 : decode cZL_law 1127 = .ok (.iaload, 1) := by decide +kernel
theorem dZL_law_1128 : decode cZL_law 1128 = .ok (.aload_n 3, 1) := by decide +kernel
theorem dZL_law_1129 : decode cZL_law 1129 = .ok (.invokestatic 138, 3) := by decide +kernel
theorem dZL_law_1132 : decode cZL_law 1132 = .ok (.istore 5, 2) := by decide +kernel
theorem dZL_law_1134 : decode cZL_law 1134 = .ok (.aload_n 2, 1) := by decide +kernel
theorem dZL_law_1135 : decode cZL_law 1135 = .ok (.aload_n 0, 1) := by decide +kernel
theorem dZL_law_1136 : decode cZL_law 1136 = .ok (.iload 4, 2) := by decide +kernel
theorem dZL_law_1138 : decode cZL_law 1138 = .ok (.iconst 1, 1) := by decide +kernel
theorem dZL_law_1139 : decode cZL_law 1139 = .ok (.iadd, 1) := by decide +kernel
theorem dZL_law_1140 : decode cZL_law 1140 = .ok (.iaload, 1) := by decide +kernel
theorem dZL_law_1141 : decode cZL_law 1141 = .ok (.aload_n 0, 1) := by decide +kernel
theorem dZL_law_1142 : decode cZL_law 1142 = .ok (.iload 4, 2) := by decide +kernel
theorem dZL_law_1144 : decode cZL_law 1144 = .ok (.iconst 2, 1) := by decide +kernel
theorem dZL_law_1145 : decode cZL_law 1145 = .ok (.iadd, 1) := by decide +kernel
theorem dZL_law_1146 : decode cZL_law 1146 = .ok (.iaload, 1) := by decide +kernel
theorem dZL_law_1147 : decode cZL_law 1147 = .ok (.invokevirtual 140, 3) := by decide +kernel
theorem dZL_law_1150 : decode cZL_law 1150 = .ok (.istore 6, 2) := by decide +kernel
theorem dZL_law_1152 : decode cZL_law 1152 = .ok (.aload_n 2, 1) := by decide +kernel
theorem dZL_law_1153 : decode cZL_law 1153 = .ok (.invokevirtual 85, 3) := by decide +kernel
theorem dZL_law_1156 : decode cZL_law 1156 = .ok (.iload 5, 2) := by decide +kernel
theorem dZL_law_1158 : decode cZL_law 1158 = .ok (.if_icmp .eq 5, 3) := by decide +kernel
theorem dZL_law_1161 : decode cZL_law 1161 = .ok (.iconst 0, 1) := by decide +kernel
theorem dZL_law_1162 : decode cZL_law 1162 = .ok (.ireturn, 1) := by decide +kernel
theorem dZL_law_1163 : decode cZL_law 1163 = .ok (.iload 5, 2) := by decide +kernel
theorem dZL_law_1165 : decode cZL_law 1165 = .ok (.ifCond .ne 22, 3) := by decide +kernel
theorem dZL_law_1168 : decode cZL_law 1168 = .ok (.aload_n 3, 1) := by decide +kernel
theorem dZL_law_1169 : decode cZL_law 1169 = .ok (.iconst 0, 1) := by decide +kernel
theorem dZL_law_1170 : decode cZL_law 1170 = .ok (.laload, 1) := by decide +kernel
theorem dZL_law_1171 : decode cZL_law 1171 = .ok (.iload 6, 2) := by decide +kernel
theorem dZL_law_1173 : decode cZL_law 1173 = .ok (.ifCond .eq 7, 3) := by decide +kernel
theorem dZL_law_1176 : decode cZL_law 1176 = .ok (.lconst 1, 1) := by decide +kernel
theorem dZL_law_1177 : decode cZL_law 1177 = .ok (.goto 4, 3) := by decide +kernel
theorem dZL_law_1180 : decode cZL_law 1180 = .ok (.lconst 0, 1) := by decide +kernel
theorem dZL_law_1181 : decode cZL_law 1181 = .ok (.lcmp, 1) := by decide +kernel
theorem dZL_law_1182 : decode cZL_law 1182 = .ok (.ifCond .eq 5, 3) := by decide +kernel
theorem dZL_law_1185 : decode cZL_law 1185 = .ok (.iconst 0, 1) := by decide +kernel
theorem dZL_law_1186 : decode cZL_law 1186 = .ok (.ireturn, 1) := by decide +kernel
theorem dZL_law_1187 : decode cZL_law 1187 = .ok (.goto 195, 3) := by decide +kernel
theorem dZL_law_1190 : decode cZL_law 1190 = .ok (.aload_n 1, 1) := by decide +kernel
theorem dZL_law_1191 : decode cZL_law 1191 = .ok (.aload_n 0, 1) := by decide +kernel
theorem dZL_law_1192 : decode cZL_law 1192 = .ok (.iload 4, 2) := by decide +kernel
theorem dZL_law_1194 : decode cZL_law 1194 = .ok (.iconst 1, 1) := by decide +kernel
theorem dZL_law_1195 : decode cZL_law 1195 = .ok (.iadd, 1) := by decide +kernel
theorem dZL_law_1196 : decode cZL_law 1196 = .ok (.iaload, 1) := by decide +kernel
theorem dZL_law_1197 : decode cZL_law 1197 = .ok (.aload_n 0, 1) := by decide +kernel
theorem dZL_law_1198 : decode cZL_law 1198 = .ok (.iload 4, 2) := by decide +kernel
theorem dZL_law_1200 : decode cZL_law 1200 = .ok (.iconst 2, 1) := by decide +kernel
theorem dZL_law_1201 : decode cZL_law 1201 = .ok (.iadd, 1) := by decide +kernel
theorem dZL_law_1202 : decode cZL_law 1202 = .ok (.iaload, 1) := by decide +kernel
theorem dZL_law_1203 : decode cZL_law 1203 = .ok (.aload_n 0, 1) := by decide +kernel
theorem dZL_law_1204 : decode cZL_law 1204 = .ok (.iload 4, 2) := by decide +kernel
theorem dZL_law_1206 : decode cZL_law 1206 = .ok (.iconst 3, 1) := by decide +kernel
theorem dZL_law_1207 : decode cZL_law 1207 = .ok (.iadd, 1) := by decide +kernel
theorem dZL_law_1208 : decode cZL_law 1208 = .ok (.iaload, 1) := by decide +kernel
theorem dZL_law_1209 : decode cZL_law 1209 = .ok (.aload_n 3, 1) := by decide +kernel
theorem dZL_law_1210 : decode cZL_law 1210 = .ok (.invokestatic 141, 3) := by decide +kernel
theorem dZL_law_1213 : decode cZL_law 1213 = .ok (.istore 5, 2) := by decide +kernel
theorem dZL_law_1215 : decode cZL_law 1215 = .ok (.aload_n 2, 1) := by decide +kernel
theorem dZL_law_1216 : decode cZL_law 1216 = .ok (.aload_n 0, 1) := by decide +kernel
theorem dZL_law_1217 : decode cZL_law 1217 = .ok (.iload 4, 2) := by decide +kernel
theorem dZL_law_1219 : decode cZL_law 1219 = .ok (.iconst 1, 1) := by decide +kernel
theorem dZL_law_1220 : decode cZL_law 1220 = .ok (.iadd, 1) := by decide +kernel
theorem dZL_law_1221 : decode cZL_law 1221 = .ok (.iaload, 1) := by decide +kernel
theorem dZL_law_1222 : decode cZL_law 1222 = .ok (.aload_n 0, 1) := by decide +kernel
theorem dZL_law_1223 : decode cZL_law 1223 = .ok (.iload 4, 2) := by decide +kernel
theorem dZL_law_1225 : decode cZL_law 1225 = .ok (.iconst 2, 1) := by decide +kernel
theorem dZL_law_1226 : decode cZL_law 1226 = .ok (.iadd, 1) := by decide +kernel
theorem dZL_law_1227 : decode cZL_law 1227 = .ok (.iaload, 1) := by decide +kernel
theorem dZL_law_1228 : decode cZL_law 1228 = .ok (.aload_n 0, 1) := by decide +kernel
theorem dZL_law_1229 : decode cZL_law 1229 = .ok (.iload 4, 2) := by decide +kernel
theorem dZL_law_1231 : decode cZL_law 1231 = .ok (.iconst 3, 1) := by decide +kernel
theorem dZL_law_1232 : decode cZL_law 1232 = .ok (.iadd, 1) := by decide +kernel
theorem dZL_law_1233 : decode cZL_law 1233 = .ok (.iaload, 1) := by decide +kernel
theorem dZL_law_1234 : decode cZL_law 1234 = .ok (.invokevirtual 143, 3) := by decide +kernel
theorem dZL_law_1237 : decode cZL_law 1237 = .ok (.istore 6, 2) := by decide +kernel
theorem dZL_law_1239 : decode cZL_law 1239 = .ok (.aload_n 2, 1) := by decide +kernel
theorem dZL_law_1240 : decode cZL_law 1240 = .ok (.invokevirtual 85, 3) := by decide +kernel
theorem dZL_law_1243 : decode cZL_law 1243 = .ok (.iload 5, 2) := by decide +kernel
theorem dZL_law_1245 : decode cZL_law 1245 = .ok (.if_icmp .eq 5, 3) := by decide +kernel
theorem dZL_law_1248 : decode cZL_law 1248 = .ok (.iconst 0, 1) := by decide +kernel
theorem dZL_law_1249 : decode cZL_law 1249 = .ok (.ireturn, 1) := by decide +kernel
theorem dZL_law_1250 : decode cZL_law 1250 = .ok (.iload 5, 2) := by decide +kernel
theorem dZL_law_1252 : decode cZL_law 1252 = .ok (.ifCond .ne 15, 3) := by decide +kernel
theorem dZL_law_1255 : decode cZL_law 1255 = .ok (.aload_n 3, 1) := by decide +kernel
theorem dZL_law_1256 : decode cZL_law 1256 = .ok (.iconst 0, 1) := by decide +kernel
theorem dZL_law_1257 : decode cZL_law 1257 = .ok (.laload, 1) := by decide +kernel
theorem dZL_law_1258 : decode cZL_law 1258 = .ok (.iload 6, 2) := by decide +kernel
theorem dZL_law_1260 : decode cZL_law 1260 = .ok (.i2l, 1) := by decide +kernel
theorem dZL_law_1261 : decode cZL_law 1261 = .ok (.lcmp, 1) := by decide +kernel
theorem dZL_law_1262 : decode cZL_law 1262 = .ok (.ifCond .eq 5, 3) := by decide +kernel
theorem dZL_law_1265 : decode cZL_law 1265 = .ok (.iconst 0, 1) := by decide +kernel
theorem dZL_law_1266 : decode cZL_law 1266 = .ok (.ireturn, 1) := by decide +kernel
theorem dZL_law_1267 : decode cZL_law 1267 = .ok (.goto 115, 3) := by decide +kernel
theorem dZL_law_1270 : decode cZL_law 1270 = .ok (.aload_n 1, 1) := by decide +kernel
theorem dZL_law_1271 : decode cZL_law 1271 = .ok (.aload_n 0, 1) := by decide +kernel
theorem dZL_law_1272 : decode cZL_law 1272 = .ok (.iload 4, 2) := by decide +kernel
theorem dZL_law_1274 : decode cZL_law 1274 = .ok (.iconst 1, 1) := by decide +kernel
theorem dZL_law_1275 : decode cZL_law 1275 = .ok (.iadd, 1) := by decide +kernel
theorem dZL_law_1276 : decode cZL_law 1276 = .ok (.iaload, 1) := by decide +kernel
theorem dZL_law_1277 : decode cZL_law 1277 = .ok (.aload_n 3, 1) := by decide +kernel
theorem dZL_law_1278 : decode cZL_law 1278 = .ok (.invokestatic 144, 3) := by decide +kernel
theorem dZL_law_1281 : decode cZL_law 1281 = .ok (.istore 5, 2) := by decide +kernel
theorem dZL_law_1283 : decode cZL_law 1283 = .ok (.aload_n 2, 1) := by decide +kernel
theorem dZL_law_1284 : decode cZL_law 1284 = .ok (.aload_n 0, 1) := by decide +kernel
theorem dZL_law_1285 : decode cZL_law 1285 = .ok (.iload 4, 2) := by decide +kernel
theorem dZL_law_1287 : decode cZL_law 1287 = .ok (.iconst 1, 1) := by decide +kernel
theorem dZL_law_1288 : decode cZL_law 1288 = .ok (.iadd, 1) := by decide +kernel
theorem dZL_law_1289 : decode cZL_law 1289 = .ok (.iaload, 1) := by decide +kernel
theorem dZL_law_1290 : decode cZL_law 1290 = .ok (.invokevirtual 146, 3) := by decide +kernel
theorem dZL_law_1293 : decode cZL_law 1293 = .ok (.istore 6, 2) := by decide +kernel
theorem dZL_law_1295 : decode cZL_law 1295 = .ok (.aload_n 2, 1) := by decide +kernel
theorem dZL_law_1296 : decode cZL_law 1296 = .ok (.invokevirtual 85, 3) := by decide +kernel
theorem dZL_law_1299 : decode cZL_law 1299 = .ok (.iload 5, 2) := by decide +kernel
theorem dZL_law_1301 : decode cZL_law 1301 = .ok (.if_icmp .eq 5, 3) := by decide +kernel
theorem dZL_law_1304 : decode cZL_law 1304 = .ok (.iconst 0, 1) := by decide +kernel
theorem dZL_law_1305 : decode cZL_law 1305 = .ok (.ireturn, 1) := by decide +kernel
theorem dZL_law_1306 : decode cZL_law 1306 = .ok (.iload 5, 2) := by decide +kernel
theorem dZL_law_1308 : decode cZL_law 1308 = .ok (.ifCond .ne 15, 3) := by decide +kernel
theorem dZL_law_1311 : decode cZL_law 1311 = .ok (.aload_n 3, 1) := by decide +kernel
theorem dZL_law_1312 : decode cZL_law 1312 = .ok (.iconst 0, 1) := by decide +kernel
theorem dZL_law_1313 : decode cZL_law 1313 = .ok (.laload, 1) := by decide +kernel
theorem dZL_law_1314 : decode cZL_law 1314 = .ok (.iload 6, 2) := by decide +kernel
theorem dZL_law_1316 : decode cZL_law 1316 = .ok (.i2l, 1) := by decide +kernel
theorem dZL_law_1317 : decode cZL_law 1317 = .ok (.lcmp, 1) := by decide +kernel
theorem dZL_law_1318 : decode cZL_law 1318 = .ok (.ifCond .eq 5, 3) := by decide +kernel
theorem dZL_law_1321 : decode cZL_law 1321 = .ok (.iconst 0, 1) := by decide +kernel
theorem dZL_law_1322 : decode cZL_law 1322 = .ok (.ireturn, 1) := by decide +kernel
theorem dZL_law_1323 : decode cZL_law 1323 = .ok (.goto 59, 3) := by decide +kernel
theorem dZL_law_1326 : decode cZL_law 1326 = .ok (.aload_n 1, 1) := by decide +kernel
theorem dZL_law_1327 : decode cZL_law 1327 = .ok (.aload_n 0, 1) := by decide +kernel
theorem dZL_law_1328 : decode cZL_law 1328 = .ok (.iload 4, 2) := by decide +kernel
theorem dZL_law_1330 : decode cZL_law 1330 = .ok (.iconst 1, 1) := by decide +kernel
theorem dZL_law_1331 : decode cZL_law 1331 = .ok (.iadd, 1) := by decide +kernel
theorem dZL_law_1332 : decode cZL_law 1332 = .ok (.iaload, 1) := by decide +kernel
theorem dZL_law_1333 : decode cZL_law 1333 = .ok (.aload_n 3, 1) := by decide +kernel
theorem dZL_law_1334 : decode cZL_law 1334 = .ok (.invokestatic 147, 3) := by decide +kernel
theorem dZL_law_1337 : decode cZL_law 1337 = .ok (.istore 5, 2) := by decide +kernel
theorem dZL_law_1339 : decode cZL_law 1339 = .ok (.aload_n 2, 1) := by decide +kernel
theorem dZL_law_1340 : decode cZL_law 1340 = .ok (.aload_n 0, 1) := by decide +kernel
theorem dZL_law_1341 : decode cZL_law 1341 = .ok (.iload 4, 2) := by decide +kernel
theorem dZL_law_1343 : decode cZL_law 1343 = .ok (.iconst 1, 1) := by decide +kernel
theorem dZL_law_1344 : decode cZL_law 1344 = .ok (.iadd, 1) := by decide +kernel
theorem dZL_law_1345 : decode cZL_law 1345 = .ok (.iaload, 1) := by decide +kernel
theorem dZL_law_1346 : decode cZL_law 1346 = .ok (.invokevirtual 149, 3) := by decide +kernel
theorem dZL_law_1349 : decode cZL_law 1349 = .ok (.istore 6, 2) := by decide +kernel
theorem dZL_law_1351 : decode cZL_law 1351 = .ok (.aload_n 2, 1) := by decide +kernel
theorem dZL_law_1352 : decode cZL_law 1352 = .ok (.invokevirtual 85, 3) := by decide +kernel
theorem dZL_law_1355 : decode cZL_law 1355 = .ok (.iload 5, 2) := by decide +kernel
theorem dZL_law_1357 : decode cZL_law 1357 = .ok (.if_icmp .eq 5, 3) := by decide +kernel
theorem dZL_law_1360 : decode cZL_law 1360 = .ok (.iconst 0, 1) := by decide +kernel
theorem dZL_law_1361 : decode cZL_law 1361 = .ok (.ireturn, 1) := by decide +kernel
theorem dZL_law_1362 : decode cZL_law 1362 = .ok (.iload 5, 2) := by decide +kernel
theorem dZL_law_1364 : decode cZL_law 1364 = .ok (.ifCond .ne 15, 3) := by decide +kernel
theorem dZL_law_1367 : decode cZL_law 1367 = .ok (.aload_n 3, 1) := by decide +kernel
theorem dZL_law_1368 : decode cZL_law 1368 = .ok (.iconst 0, 1) := by decide +kernel
theorem dZL_law_1369 : decode cZL_law 1369 = .ok (.laload, 1) := by decide +kernel
theorem dZL_law_1370 : decode cZL_law 1370 = .ok (.iload 6, 2) := by decide +kernel
theorem dZL_law_1372 : decode cZL_law 1372 = .ok (.i2l, 1) := by decide +kernel
theorem dZL_law_1373 : decode cZL_law 1373 = .ok (.lcmp, 1) := by decide +kernel
theorem dZL_law_1374 : decode cZL_law 1374 = .ok (.ifCond .eq 5, 3) := by decide +kernel
theorem dZL_law_1377 : decode cZL_law 1377 = .ok (.iconst 0, 1) := by decide +kernel
theorem dZL_law_1378 : decode cZL_law 1378 = .ok (.ireturn, 1) := by decide +kernel
theorem dZL_law_1379 : decode cZL_law 1379 = .ok (.goto 3, 3) := by decide +kernel
theorem dZL_law_1382 : decode cZL_law 1382 = .ok (.iinc 4 6, 3) := by decide +kernel
theorem dZL_law_1385 : decode cZL_law 1385 = .ok (.goto (-1342), 3) := by decide +kernel
theorem dZL_law_1388 : decode cZL_law 1388 = .ok (.iconst 1, 1) := by decide +kernel
theorem dZL_law_1389 : decode cZL_law 1389 = .ok (.ireturn, 1) := by decide +kernel
