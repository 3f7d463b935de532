-- DECODE ROWS of the methods, as the claim's program prints them
theorem d_L_about_0 : decode y_L_about.2.1 0 = .ok (.aload_n 3, 1) := by decide +kernel
theorem d_L_about_1 : decode y_L_about.2.1 1 = .ok (.iconst 0, 1) := by decide +kernel
theorem d_L_about_2 : decode y_L_about.2.1 2 = .ok (.aload_n 0, 1) := by decide +kernel
theorem d_L_about_3 : decode y_L_about.2.1 3 = .ok (.iload_n 1, 1) := by decide +kernel
theorem d_L_about_4 : decode y_L_about.2.1 4 = .ok (.iload_n 2, 1) := by decide +kernel
theorem d_L_about_5 : decode y_L_about.2.1 5 = .ok (.invokevirtual 7, 3) := by decide +kernel
theorem d_L_about_8 : decode y_L_about.2.1 8 = .ok (.i2l, 1) := by decide +kernel
theorem d_L_about_9 : decode y_L_about.2.1 9 = .ok (.lastore, 1) := by decide +kernel
theorem d_L_about_10 : decode y_L_about.2.1 10 = .ok (.goto 7, 3) := by decide +kernel
theorem d_L_about_13 : decode y_L_about.2.1 13 = .ok (.astore 4, 2) := by decide +kernel
theorem d_L_about_15 : decode y_L_about.2.1 15 = .ok (.iconst 1, 1) := by decide +kernel
theorem d_L_about_16 : decode y_L_about.2.1 16 = .ok (.ireturn, 1) := by decide +kernel
theorem d_L_about_17 : decode y_L_about.2.1 17 = .ok (.iconst 0, 1) := by decide +kernel
theorem d_L_about_18 : decode y_L_about.2.1 18 = .ok (.ireturn, 1) := by decide +kernel
theorem d_L_value_0 : decode y_L_value.2.1 0 = .ok (.aload_n 3, 1) := by decide +kernel
theorem d_L_value_1 : decode y_L_value.2.1 1 = .ok (.iconst 0, 1) := by decide +kernel
theorem d_L_value_2 : decode y_L_value.2.1 2 = .ok (.aload_n 0, 1) := by decide +kernel
theorem d_L_value_3 : decode y_L_value.2.1 3 = .ok (.iload_n 1, 1) := by decide +kernel
theorem d_L_value_4 : decode y_L_value.2.1 4 = .ok (.iload_n 2, 1) := by decide +kernel
theorem d_L_value_5 : decode y_L_value.2.1 5 = .ok (.invokevirtual 15, 3) := by decide +kernel
theorem d_L_value_8 : decode y_L_value.2.1 8 = .ok (.i2l, 1) := by decide +kernel
theorem d_L_value_9 : decode y_L_value.2.1 9 = .ok (.lastore, 1) := by decide +kernel
theorem d_L_value_10 : decode y_L_value.2.1 10 = .ok (.goto 7, 3) := by decide +kernel
theorem d_L_value_13 : decode y_L_value.2.1 13 = .ok (.astore 4, 2) := by decide +kernel
theorem d_L_value_15 : decode y_L_value.2.1 15 = .ok (.iconst 1, 1) := by decide +kernel
theorem d_L_value_16 : decode y_L_value.2.1 16 = .ok (.ireturn, 1) := by decide +kernel
theorem d_L_value_17 : decode y_L_value.2.1 17 = .ok (.iconst 0, 1) := by decide +kernel
theorem d_L_value_18 : decode y_L_value.2.1 18 = .ok (.ireturn, 1) := by decide +kernel
theorem d_L_of_0 : decode y_L_of.2.1 0 = .ok (.aload_n 3, 1) := by decide +kernel
theorem d_L_of_1 : decode y_L_of.2.1 1 = .ok (.iconst 0, 1) := by decide +kernel
theorem d_L_of_2 : decode y_L_of.2.1 2 = .ok (.aload_n 0, 1) := by decide +kernel
theorem d_L_of_3 : decode y_L_of.2.1 3 = .ok (.iload_n 1, 1) := by decide +kernel
theorem d_L_of_4 : decode y_L_of.2.1 4 = .ok (.iload_n 2, 1) := by decide +kernel
theorem d_L_of_5 : decode y_L_of.2.1 5 = .ok (.invokevirtual 18, 3) := by decide +kernel
theorem d_L_of_8 : decode y_L_of.2.1 8 = .ok (.i2l, 1) := by decide +kernel
theorem d_L_of_9 : decode y_L_of.2.1 9 = .ok (.lastore, 1) := by decide +kernel
theorem d_L_of_10 : decode y_L_of.2.1 10 = .ok (.goto 7, 3) := by decide +kernel
theorem d_L_of_13 : decode y_L_of.2.1 13 = .ok (.astore 4, 2) := by decide +kernel
theorem d_L_of_15 : decode y_L_of.2.1 15 = .ok (.iconst 1, 1) := by decide +kernel
theorem d_L_of_16 : decode y_L_of.2.1 16 = .ok (.ireturn, 1) := by decide +kernel
theorem d_L_of_17 : decode y_L_of.2.1 17 = .ok (.iconst 0, 1) := by decide +kernel
theorem d_L_of_18 : decode y_L_of.2.1 18 = .ok (.ireturn, 1) := by decide +kernel
theorem d_L_row_0 : decode y_L_row.2.1 0 = .ok (.aload_n 2, 1) := by decide +kernel
theorem d_L_row_1 : decode y_L_row.2.1 1 = .ok (.iconst 0, 1) := by decide +kernel
theorem d_L_row_2 : decode y_L_row.2.1 2 = .ok (.aload_n 0, 1) := by decide +kernel
theorem d_L_row_3 : decode y_L_row.2.1 3 = .ok (.iload_n 1, 1) := by decide +kernel
theorem d_L_row_4 : decode y_L_row.2.1 4 = .ok (.invokevirtual 21, 3) := by decide +kernel
theorem d_L_row_7 : decode y_L_row.2.1 7 = .ok (.i2l, 1) := by decide +kernel
theorem d_L_row_8 : decode y_L_row.2.1 8 = .ok (.lastore, 1) := by decide +kernel
theorem d_L_row_9 : decode y_L_row.2.1 9 = .ok (.goto 6, 3) := by decide +kernel
theorem d_L_row_12 : decode y_L_row.2.1 12 = .ok (.astore_n 3, 1) := by decide +kernel
theorem d_L_row_13 : decode y_L_row.2.1 13 = .ok (.iconst 1, 1) := by decide +kernel
theorem d_L_row_14 : decode y_L_row.2.1 14 = .ok (.ireturn, 1) := by decide +kernel
theorem d_L_row_15 : decode y_L_row.2.1 15 = .ok (.iconst 0, 1) := by decide +kernel
theorem d_L_row_16 : decode y_L_row.2.1 16 = .ok (.ireturn, 1) := by decide +kernel
theorem d_L_law_0 : decode y_L_law.2.1 0 = .ok (.new 8, 3) := by decide +kernel
theorem d_L_law_3 : decode y_L_law.2.1 3 = .ok (.dup, 1) := by decide +kernel
theorem d_L_law_4 : decode y_L_law.2.1 4 = .ok (.invokespecial 25, 3) := by decide +kernel
theorem d_L_law_7 : decode y_L_law.2.1 7 = .ok (.astore_n 1, 1) := by decide +kernel
theorem d_L_law_8 : decode y_L_law.2.1 8 = .ok (.new 26, 3) := by decide +kernel
theorem d_L_law_11 : decode y_L_law.2.1 11 = .ok (.dup, 1) := by decide +kernel
theorem d_L_law_12 : decode y_L_law.2.1 12 = .ok (.invokespecial 28, 3) := by decide +kernel
theorem d_L_law_15 : decode y_L_law.2.1 15 = .ok (.astore_n 2, 1) := by decide +kernel
theorem d_L_law_16 : decode y_L_law.2.1 16 = .ok (.iconst 1, 1) := by decide +kernel
theorem d_L_law_17 : decode y_L_law.2.1 17 = .ok (.newarray .long, 2) := by decide +kernel
theorem d_L_law_19 : decode y_L_law.2.1 19 = .ok (.astore_n 3, 1) := by decide +kernel
theorem d_L_law_20 : decode y_L_law.2.1 20 = .ok (.iconst 0, 1) := by decide +kernel
theorem d_L_law_21 : decode y_L_law.2.1 21 = .ok (.istore 4, 2) := by decide +kernel
theorem d_L_law_23 : decode y_L_law.2.1 23 = .ok (.iload 4, 2) := by decide +kernel
theorem d_L_law_25 : decode y_L_law.2.1 25 = .ok (.aload_n 0, 1) := by decide +kernel
theorem d_L_law_26 : decode y_L_law.2.1 26 = .ok (.arraylength, 1) := by decide +kernel
theorem d_L_law_27 : decode y_L_law.2.1 27 = .ok (.iconst 5, 1) := by decide +kernel
theorem d_L_law_28 : decode y_L_law.2.1 28 = .ok (.isub, 1) := by decide +kernel
theorem d_L_law_29 : decode y_L_law.2.1 29 = .ok (.if_icmp .gt 1510, 3) := by decide +kernel
theorem d_L_law_32 : decode y_L_law.2.1 32 = .ok (.aload_n 0, 1) := by decide +kernel
theorem d_L_law_33 : decode y_L_law.2.1 33 = .ok (.iload 4, 2) := by decide +kernel
theorem d_L_law_35 : decode y_L_law.2.1 35 = .ok (.iaload, 1) := by decide +kernel
theorem d_L_law_36 : decode y_L_law.2.1 36 = .ok (.bipush 63, 2) := by decide +kernel
theorem d_L_law_38 : decode y_L_law.2.1 38 = .ok (.iand, 1) := by decide +kernel
theorem d_L_law_39 : decode y_L_law.2.1 39 = .ok (.tableswitch 1494 0 40 #[177, 202, 227, 252, 265, 314, 375, 443, 468, 536, 561, 586, 599, 624, 673, 710, 747, 784, 852, 877, 902, 915, 928, 965, 1002, 1039, 1064, 1089, 1114, 1151, 1176, 1213, 1250, 1263, 1288, 1337, 1350, 1363, 1388, 1413, 1438], 177) := by decide +kernel
theorem d_L_law_216 : decode y_L_law.2.1 216 = .ok (.aload_n 1, 1) := by decide +kernel
theorem d_L_law_217 : decode y_L_law.2.1 217 = .ok (.aload_n 0, 1) := by decide +kernel
theorem d_L_law_218 : decode y_L_law.2.1 218 = .ok (.iload 4, 2) := by decide +kernel
theorem d_L_law_220 : decode y_L_law.2.1 220 = .ok (.iconst 1, 1) := by decide +kernel
theorem d_L_law_221 : decode y_L_law.2.1 221 = .ok (.iadd, 1) := by decide +kernel
theorem d_L_law_222 : decode y_L_law.2.1 222 = .ok (.iaload, 1) := by decide +kernel
theorem d_L_law_223 : decode y_L_law.2.1 223 = .ok (.invokevirtual 29, 3) := by decide +kernel
theorem d_L_law_226 : decode y_L_law.2.1 226 = .ok (.aload_n 2, 1) := by decide +kernel
theorem d_L_law_227 : decode y_L_law.2.1 227 = .ok (.aload_n 0, 1) := by decide +kernel
theorem d_L_law_228 : decode y_L_law.2.1 228 = .ok (.iload 4, 2) := by decide +kernel
theorem d_L_law_230 : decode y_L_law.2.1 230 = .ok (.iconst 1, 1) := by decide +kernel
theorem d_L_law_231 : decode y_L_law.2.1 231 = .ok (.iadd, 1) := by decide +kernel
theorem d_L_law_232 : decode y_L_law.2.1 232 = .ok (.iaload, 1) := by decide +kernel
theorem d_L_law_233 : decode y_L_law.2.1 233 = .ok (.invokevirtual 32, 3) := by decide +kernel
theorem d_L_law_236 : decode y_L_law.2.1 236 = .ok (.if_icmp .eq 1297, 3) := by decide +kernel
theorem d_L_law_239 : decode y_L_law.2.1 239 = .ok (.iconst 0, 1) := by decide +kernel
theorem d_L_law_240 : decode y_L_law.2.1 240 = .ok (.ireturn, 1) := by decide +kernel
theorem d_L_law_241 : decode y_L_law.2.1 241 = .ok (.aload_n 1, 1) := by decide +kernel
theorem d_L_law_242 : decode y_L_law.2.1 242 = .ok (.aload_n 0, 1) := by decide +kernel
theorem d_L_law_243 : decode y_L_law.2.1 243 = .ok (.iload 4, 2) := by decide +kernel
theorem d_L_law_245 : decode y_L_law.2.1 245 = .ok (.iconst 1, 1) := by decide +kernel
theorem d_L_law_246 : decode y_L_law.2.1 246 = .ok (.iadd, 1) := by decide +kernel
theorem d_L_law_247 : decode y_L_law.2.1 247 = .ok (.iaload, 1) := by decide +kernel
theorem d_L_law_248 : decode y_L_law.2.1 248 = .ok (.invokevirtual 33, 3) := by decide +kernel
theorem d_L_law_251 : decode y_L_law.2.1 251 = .ok (.aload_n 2, 1) := by decide +kernel
theorem d_L_law_252 : decode y_L_law.2.1 252 = .ok (.aload_n 0, 1) := by decide +kernel
theorem d_L_law_253 : decode y_L_law.2.1 253 = .ok (.iload 4, 2) := by decide +kernel
theorem d_L_law_255 : decode y_L_law.2.1 255 = .ok (.iconst 1, 1) := by decide +kernel
theorem d_L_law_256 : decode y_L_law.2.1 256 = .ok (.iadd, 1) := by decide +kernel
theorem d_L_law_257 : decode y_L_law.2.1 257 = .ok (.iaload, 1) := by decide +kernel
theorem d_L_law_258 : decode y_L_law.2.1 258 = .ok (.invokevirtual 37, 3) := by decide +kernel
theorem d_L_law_261 : decode y_L_law.2.1 261 = .ok (.if_icmp .eq 1272, 3) := by decide +kernel
theorem d_L_law_264 : decode y_L_law.2.1 264 = .ok (.iconst 0, 1) := by decide +kernel
theorem d_L_law_265 : decode y_L_law.2.1 265 = .ok (.ireturn, 1) := by decide +kernel
theorem d_L_law_266 : decode y_L_law.2.1 266 = .ok (.aload_n 1, 1) := by decide +kernel
theorem d_L_law_267 : decode y_L_law.2.1 267 = .ok (.aload_n 0, 1) := by decide +kernel
theorem d_L_law_268 : decode y_L_law.2.1 268 = .ok (.iload 4, 2) := by decide +kernel
theorem d_L_law_270 : decode y_L_law.2.1 270 = .ok (.iconst 1, 1) := by decide +kernel
theorem d_L_law_271 : decode y_L_law.2.1 271 = .ok (.iadd, 1) := by decide +kernel
theorem d_L_law_272 : decode y_L_law.2.1 272 = .ok (.iaload, 1) := by decide +kernel
theorem d_L_law_273 : decode y_L_law.2.1 273 = .ok (.invokevirtual 38, 3) := by decide +kernel
theorem d_L_law_276 : decode y_L_law.2.1 276 = .ok (.aload_n 2, 1) := by decide +kernel
theorem d_L_law_277 : decode y_L_law.2.1 277 = .ok (.aload_n 0, 1) := by decide +kernel
theorem d_L_law_278 : decode y_L_law.2.1 278 = .ok (.iload 4, 2) := by decide +kernel
theorem d_L_law_280 : decode y_L_law.2.1 280 = .ok (.iconst 1, 1) := by decide +kernel
theorem d_L_law_281 : decode y_L_law.2.1 281 = .ok (.iadd, 1) := by decide +kernel
theorem d_L_law_282 : decode y_L_law.2.1 282 = .ok (.iaload, 1) := by decide +kernel
theorem d_L_law_283 : decode y_L_law.2.1 283 = .ok (.invokevirtual 41, 3) := by decide +kernel
theorem d_L_law_286 : decode y_L_law.2.1 286 = .ok (.if_icmp .eq 1247, 3) := by decide +kernel
theorem d_L_law_289 : decode y_L_law.2.1 289 = .ok (.iconst 0, 1) := by decide +kernel
theorem d_L_law_290 : decode y_L_law.2.1 290 = .ok (.ireturn, 1) := by decide +kernel
theorem d_L_law_291 : decode y_L_law.2.1 291 = .ok (.aload_n 1, 1) := by decide +kernel
theorem d_L_law_292 : decode y_L_law.2.1 292 = .ok (.invokevirtual 42, 3) := by decide +kernel
theorem d_L_law_295 : decode y_L_law.2.1 295 = .ok (.aload_n 2, 1) := by decide +kernel
theorem d_L_law_296 : decode y_L_law.2.1 296 = .ok (.invokevirtual 46, 3) := by decide +kernel
theorem d_L_law_299 : decode y_L_law.2.1 299 = .ok (.if_icmp .eq 1234, 3) := by decide +kernel
theorem d_L_law_302 : decode y_L_law.2.1 302 = .ok (.iconst 0, 1) := by decide +kernel
theorem d_L_law_303 : decode y_L_law.2.1 303 = .ok (.ireturn, 1) := by decide +kernel
theorem d_L_law_304 : decode y_L_law.2.1 304 = .ok (.aload_n 1, 1) := by decide +kernel
theorem d_L_law_305 : decode y_L_law.2.1 305 = .ok (.aload_n 0, 1) := by decide +kernel
theorem d_L_law_306 : decode y_L_law.2.1 306 = .ok (.iload 4, 2) := by decide +kernel
theorem d_L_law_308 : decode y_L_law.2.1 308 = .ok (.iconst 1, 1) := by decide +kernel
theorem d_L_law_309 : decode y_L_law.2.1 309 = .ok (.iadd, 1) := by decide +kernel
theorem d_L_law_310 : decode y_L_law.2.1 310 = .ok (.iaload, 1) := by decide +kernel
theorem d_L_law_311 : decode y_L_law.2.1 311 = .ok (.aload_n 0, 1) := by decide +kernel
theorem d_L_law_312 : decode y_L_law.2.1 312 = .ok (.iload 4, 2) := by decide +kernel
theorem d_L_law_314 : decode y_L_law.2.1 314 = .ok (.iconst 2, 1) := by decide +kernel
theorem d_L_law_315 : decode y_L_law.2.1 315 = .ok (.iadd, 1) := by decide +kernel
theorem d_L_law_316 : decode y_L_law.2.1 316 = .ok (.iaload, 1) := by decide +kernel
theorem d_L_law_317 : decode y_L_law.2.1 317 = .ok (.aload_n 0, 1) := by decide +kernel
theorem d_L_law_318 : decode y_L_law.2.1 318 = .ok (.iload 4, 2) := by decide +kernel
theorem d_L_law_320 : decode y_L_law.2.1 320 = .ok (.iconst 3, 1) := by decide +kernel
theorem d_L_law_321 : decode y_L_law.2.1 321 = .ok (.iadd, 1) := by decide +kernel
theorem d_L_law_322 : decode y_L_law.2.1 322 = .ok (.iaload, 1) := by decide +kernel
theorem d_L_law_323 : decode y_L_law.2.1 323 = .ok (.invokevirtual 47, 3) := by decide +kernel
theorem d_L_law_326 : decode y_L_law.2.1 326 = .ok (.aload_n 2, 1) := by decide +kernel
theorem d_L_law_327 : decode y_L_law.2.1 327 = .ok (.aload_n 0, 1) := by decide +kernel
theorem d_L_law_328 : decode y_L_law.2.1 328 = .ok (.iload 4, 2) := by decide +kernel
theorem d_L_law_330 : decode y_L_law.2.1 330 = .ok (.iconst 1, 1) := by decide +kernel
theorem d_L_law_331 : decode y_L_law.2.1 331 = .ok (.iadd, 1) := by decide +kernel
theorem d_L_law_332 : decode y_L_law.2.1 332 = .ok (.iaload, 1) := by decide +kernel
theorem d_L_law_333 : decode y_L_law.2.1 333 = .ok (.aload_n 0, 1) := by decide +kernel
theorem d_L_law_334 : decode y_L_law.2.1 334 = .ok (.iload 4, 2) := by decide +kernel
theorem d_L_law_336 : decode y_L_law.2.1 336 = .ok (.iconst 2, 1) := by decide +kernel
theorem d_L_law_337 : decode y_L_law.2.1 337 = .ok (.iadd, 1) := by decide +kernel
theorem d_L_law_338 : decode y_L_law.2.1 338 = .ok (.iaload, 1) := by decide +kernel
theorem d_L_law_339 : decode y_L_law.2.1 339 = .ok (.aload_n 0, 1) := by decide +kernel
theorem d_L_law_340 : decode y_L_law.2.1 340 = .ok (.iload 4, 2) := by decide +kernel
theorem d_L_law_342 : decode y_L_law.2.1 342 = .ok (.iconst 3, 1) := by decide +kernel
theorem d_L_law_343 : decode y_L_law.2.1 343 = .ok (.iadd, 1) := by decide +kernel
theorem d_L_law_344 : decode y_L_law.2.1 344 = .ok (.iaload, 1) := by decide +kernel
theorem d_L_law_345 : decode y_L_law.2.1 345 = .ok (.invokevirtual 51, 3) := by decide +kernel
theorem d_L_law_348 : decode y_L_law.2.1 348 = .ok (.if_icmp .eq 1185, 3) := by decide +kernel
theorem d_L_law_351 : decode y_L_law.2.1 351 = .ok (.iconst 0, 1) := by decide +kernel
theorem d_L_law_352 : decode y_L_law.2.1 352 = .ok (.ireturn, 1) := by decide +kernel
theorem d_L_law_353 : decode y_L_law.2.1 353 = .ok (.aload_n 1, 1) := by decide +kernel
theorem d_L_law_354 : decode y_L_law.2.1 354 = .ok (.aload_n 0, 1) := by decide +kernel
theorem d_L_law_355 : decode y_L_law.2.1 355 = .ok (.iload 4, 2) := by decide +kernel
theorem d_L_law_357 : decode y_L_law.2.1 357 = .ok (.iconst 1, 1) := by decide +kernel
theorem d_L_law_358 : decode y_L_law.2.1 358 = .ok (.iadd, 1) := by decide +kernel
theorem d_L_law_359 : decode y_L_law.2.1 359 = .ok (.iaload, 1) := by decide +kernel
theorem d_L_law_360 : decode y_L_law.2.1 360 = .ok (.aload_n 0, 1) := by decide +kernel
theorem d_L_law_361 : decode y_L_law.2.1 361 = .ok (.iload 4, 2) := by decide +kernel
theorem d_L_law_363 : decode y_L_law.2.1 363 = .ok (.iconst 2, 1) := by decide +kernel
theorem d_L_law_364 : decode y_L_law.2.1 364 = .ok (.iadd, 1) := by decide +kernel
theorem d_L_law_365 : decode y_L_law.2.1 365 = .ok (.iaload, 1) := by decide +kernel
theorem d_L_law_366 : decode y_L_law.2.1 366 = .ok (.aload_n 0, 1) := by decide +kernel
theorem d_L_law_367 : decode y_L_law.2.1 367 = .ok (.iload 4, 2) := by decide +kernel
theorem d_L_law_369 : decode y_L_law.2.1 369 = .ok (.iconst 3, 1) := by decide +kernel
theorem d_L_law_370 : decode y_L_law.2.1 370 = .ok (.iadd, 1) := by decide +kernel
theorem d_L_law_371 : decode y_L_law.2.1 371 = .ok (.iaload, 1) := by decide +kernel
theorem d_L_law_372 : decode y_L_law.2.1 372 = .ok (.aload_n 0, 1) := by decide +kernel
theorem d_L_law_373 : decode y_L_law.2.1 373 = .ok (.iload 4, 2) := by decide +kernel
theorem d_L_law_375 : decode y_L_law.2.1 375 = .ok (.iconst 4, 1) := by decide +kernel
theorem d_L_law_376 : decode y_L_law.2.1 376 = .ok (.iadd, 1) := by decide +kernel
theorem d_L_law_377 : decode y_L_law.2.1 377 = .ok (.iaload, 1) := by decide +kernel
theorem d_L_law_378 : decode y_L_law.2.1 378 = .ok (.invokevirtual 52, 3) := by decide +kernel
theorem d_L_law_381 : decode y_L_law.2.1 381 = .ok (.aload_n 2, 1) := by decide +kernel
theorem d_L_law_382 : decode y_L_law.2.1 382 = .ok (.aload_n 0, 1) := by decide +kernel
theorem d_L_law_383 : decode y_L_law.2.1 383 = .ok (.iload 4, 2) := by decide +kernel
theorem d_L_law_385 : decode y_L_law.2.1 385 = .ok (.iconst 1, 1) := by decide +kernel
theorem d_L_law_386 : decode y_L_law.2.1 386 = .ok (.iadd, 1) := by decide +kernel
theorem d_L_law_387 : decode y_L_law.2.1 387 = .ok (.iaload, 1) := by decide +kernel
theorem d_L_law_388 : decode y_L_law.2.1 388 = .ok (.aload_n 0, 1) := by decide +kernel
theorem d_L_law_389 : decode y_L_law.2.1 389 = .ok (.iload 4, 2) := by decide +kernel
theorem d_L_law_391 : decode y_L_law.2.1 391 = .ok (.iconst 2, 1) := by decide +kernel
theorem d_L_law_392 : decode y_L_law.2.1 392 = .ok (.iadd, 1) := by decide +kernel
theorem d_L_law_393 : decode y_L_law.2.1 393 = .ok (.iaload, 1) := by decide +kernel
theorem d_L_law_394 : decode y_L_law.2.1 394 = .ok (.aload_n 0, 1) := by decide +kernel
theorem d_L_law_395 : decode y_L_law.2.1 395 = .ok (.iload 4, 2) := by decide +kernel
theorem d_L_law_397 : decode y_L_law.2.1 397 = .ok (.iconst 3, 1) := by decide +kernel
theorem d_L_law_398 : decode y_L_law.2.1 398 = .ok (.iadd, 1) := by decide +kernel
theorem d_L_law_399 : decode y_L_law.2.1 399 = .ok (.iaload, 1) := by decide +kernel
theorem d_L_law_400 : decode y_L_law.2.1 400 = .ok (.aload_n 0, 1) := by decide +kernel
theorem d_L_law_401 : decode y_L_law.2.1 401 = .ok (.iload 4, 2) := by decide +kernel
theorem d_L_law_403 : decode y_L_law.2.1 403 = .ok (.iconst 4, 1) := by decide +kernel
theorem d_L_law_404 : decode y_L_law.2.1 404 = .ok (.iadd, 1) := by decide +kernel
theorem d_L_law_405 : decode y_L_law.2.1 405 = .ok (.iaload, 1) := by decide +kernel
theorem d_L_law_406 : decode y_L_law.2.1 406 = .ok (.invokevirtual 56, 3) := by decide +kernel
theorem d_L_law_409 : decode y_L_law.2.1 409 = .ok (.if_icmp .eq 1124, 3) := by decide +kernel
theorem d_L_law_412 : decode y_L_law.2.1 412 = .ok (.iconst 0, 1) := by decide +kernel
theorem d_L_law_413 : decode y_L_law.2.1 413 = .ok (.ireturn, 1) := by decide +kernel
theorem d_L_law_414 : decode y_L_law.2.1 414 = .ok (.aload_n 1, 1) := by decide +kernel
theorem d_L_law_415 : decode y_L_law.2.1 415 = .ok (.aload_n 0, 1) := by decide +kernel
theorem d_L_law_416 : decode y_L_law.2.1 416 = .ok (.iload 4, 2) := by decide +kernel
theorem d_L_law_418 : decode y_L_law.2.1 418 = .ok (.iconst 1, 1) := by decide +kernel
theorem d_L_law_419 : decode y_L_law.2.1 419 = .ok (.iadd, 1) := by decide +kernel
theorem d_L_law_420 : decode y_L_law.2.1 420 = .ok (.iaload, 1) := by decide +kernel
theorem d_L_law_421 : decode y_L_law.2.1 421 = .ok (.aload_n 0, 1) := by decide +kernel
theorem d_L_law_422 : decode y_L_law.2.1 422 = .ok (.iload 4, 2) := by decide +kernel
theorem d_L_law_424 : decode y_L_law.2.1 424 = .ok (.iconst 2, 1) := by decide +kernel
theorem d_L_law_425 : decode y_L_law.2.1 425 = .ok (.iadd, 1) := by decide +kernel
theorem d_L_law_426 : decode y_L_law.2.1 426 = .ok (.iaload, 1) := by decide +kernel
theorem d_L_law_427 : decode y_L_law.2.1 427 = .ok (.aload_n 3, 1) := by decide +kernel
theorem d_L_law_428 : decode y_L_law.2.1 428 = .ok (.invokestatic 57, 3) := by decide +kernel
theorem d_L_law_431 : decode y_L_law.2.1 431 = .ok (.istore 5, 2) := by decide +kernel
theorem d_L_law_433 : decode y_L_law.2.1 433 = .ok (.aload_n 2, 1) := by decide +kernel
theorem d_L_law_434 : decode y_L_law.2.1 434 = .ok (.aload_n 0, 1) := by decide +kernel
theorem d_L_law_435 : decode y_L_law.2.1 435 = .ok (.iload 4, 2) := by decide +kernel
theorem d_L_law_437 : decode y_L_law.2.1 437 = .ok (.iconst 1, 1) := by decide +kernel
theorem d_L_law_438 : decode y_L_law.2.1 438 = .ok (.iadd, 1) := by decide +kernel
theorem d_L_law_439 : decode y_L_law.2.1 439 = .ok (.iaload, 1) := by decide +kernel
theorem d_L_law_440 : decode y_L_law.2.1 440 = .ok (.aload_n 0, 1) := by decide +kernel
theorem d_L_law_441 : decode y_L_law.2.1 441 = .ok (.iload 4, 2) := by decide +kernel
theorem d_L_law_443 : decode y_L_law.2.1 443 = .ok (.iconst 2, 1) := by decide +kernel
theorem d_L_law_444 : decode y_L_law.2.1 444 = .ok (.iadd, 1) := by decide +kernel
theorem d_L_law_445 : decode y_L_law.2.1 445 = .ok (.iaload, 1) := by decide +kernel
theorem d_L_law_446 : decode y_L_law.2.1 446 = .ok (.invokevirtual 62, 3) := by decide +kernel
theorem d_L_law_449 : decode y_L_law.2.1 449 = .ok (.istore 6, 2) := by decide +kernel
theorem d_L_law_451 : decode y_L_law.2.1 451 = .ok (.aload_n 2, 1) := by decide +kernel
theorem d_L_law_452 : decode y_L_law.2.1 452 = .ok (.invokevirtual 63, 3) := by decide +kernel
theorem d_L_law_455 : decode y_L_law.2.1 455 = .ok (.iload 5, 2) := by decide +kernel
theorem d_L_law_457 : decode y_L_law.2.1 457 = .ok (.if_icmp .eq 5, 3) := by decide +kernel
theorem d_L_law_460 : decode y_L_law.2.1 460 = .ok (.iconst 0, 1) := by decide +kernel
theorem d_L_law_461 : decode y_L_law.2.1 461 = .ok (.ireturn, 1) := by decide +kernel
theorem d_L_law_462 : decode y_L_law.2.1 462 = .ok (.iload 5, 2) := by decide +kernel
theorem d_L_law_464 : decode y_L_law.2.1 464 = .ok (.ifCond .ne 15, 3) := by decide +kernel
theorem d_L_law_467 : decode y_L_law.2.1 467 = .ok (.aload_n 3, 1) := by decide +kernel
theorem d_L_law_468 : decode y_L_law.2.1 468 = .ok (.iconst 0, 1) := by decide +kernel
theorem d_L_law_469 : decode y_L_law.2.1 469 = .ok (.laload, 1) := by decide +kernel
theorem d_L_law_470 : decode y_L_law.2.1 470 = .ok (.iload 6, 2) := by decide +kernel
theorem d_L_law_472 : decode y_L_law.2.1 472 = .ok (.i2l, 1) := by decide +kernel
theorem d_L_law_473 : decode y_L_law.2.1 473 = .ok (.lcmp, 1) := by decide +kernel
theorem d_L_law_474 : decode y_L_law.2.1 474 = .ok (.ifCond .eq 5, 3) := by decide +kernel
theorem d_L_law_477 : decode y_L_law.2.1 477 = .ok (.iconst 0, 1) := by decide +kernel
theorem d_L_law_478 : decode y_L_law.2.1 478 = .ok (.ireturn, 1) := by decide +kernel
theorem d_L_law_479 : decode y_L_law.2.1 479 = .ok (.goto 1054, 3) := by decide +kernel
theorem d_L_law_482 : decode y_L_law.2.1 482 = .ok (.aload_n 1, 1) := by decide +kernel
theorem d_L_law_483 : decode y_L_law.2.1 483 = .ok (.aload_n 0, 1) := by decide +kernel
theorem d_L_law_484 : decode y_L_law.2.1 484 = .ok (.iload 4, 2) := by decide +kernel
theorem d_L_law_486 : decode y_L_law.2.1 486 = .ok (.iconst 1, 1) := by decide +kernel
theorem d_L_law_487 : decode y_L_law.2.1 487 = .ok (.iadd, 1) := by decide +kernel
theorem d_L_law_488 : decode y_L_law.2.1 488 = .ok (.iaload, 1) := by decide +kernel
theorem d_L_law_489 : decode y_L_law.2.1 489 = .ok (.invokevirtual 66, 3) := by decide +kernel
theorem d_L_law_492 : decode y_L_law.2.1 492 = .ok (.aload_n 2, 1) := by decide +kernel
theorem d_L_law_493 : decode y_L_law.2.1 493 = .ok (.aload_n 0, 1) := by decide +kernel
theorem d_L_law_494 : decode y_L_law.2.1 494 = .ok (.iload 4, 2) := by decide +kernel
theorem d_L_law_496 : decode y_L_law.2.1 496 = .ok (.iconst 1, 1) := by decide +kernel
theorem d_L_law_497 : decode y_L_law.2.1 497 = .ok (.iadd, 1) := by decide +kernel
theorem d_L_law_498 : decode y_L_law.2.1 498 = .ok (.iaload, 1) := by decide +kernel
theorem d_L_law_499 : decode y_L_law.2.1 499 = .ok (.invokevirtual 69, 3) := by decide +kernel
theorem d_L_law_502 : decode y_L_law.2.1 502 = .ok (.if_icmp .eq 1031, 3) := by decide +kernel
theorem d_L_law_505 : decode y_L_law.2.1 505 = .ok (.iconst 0, 1) := by decide +kernel
theorem d_L_law_506 : decode y_L_law.2.1 506 = .ok (.ireturn, 1) := by decide +kernel
theorem d_L_law_507 : decode y_L_law.2.1 507 = .ok (.aload_n 1, 1) := by decide +kernel
theorem d_L_law_508 : decode y_L_law.2.1 508 = .ok (.aload_n 0, 1) := by decide +kernel
theorem d_L_law_509 : decode y_L_law.2.1 509 = .ok (.iload 4, 2) := by decide +kernel
theorem d_L_law_511 : decode y_L_law.2.1 511 = .ok (.iconst 1, 1) := by decide +kernel
theorem d_L_law_512 : decode y_L_law.2.1 512 = .ok (.iadd, 1) := by decide +kernel
theorem d_L_law_513 : decode y_L_law.2.1 513 = .ok (.iaload, 1) := by decide +kernel
theorem d_L_law_514 : decode y_L_law.2.1 514 = .ok (.aload_n 0, 1) := by decide +kernel
theorem d_L_law_515 : decode y_L_law.2.1 515 = .ok (.iload 4, 2) := by decide +kernel
theorem d_L_law_517 : decode y_L_law.2.1 517 = .ok (.iconst 2, 1) := by decide +kernel
theorem d_L_law_518 : decode y_L_law.2.1 518 = .ok (.iadd, 1) := by decide +kernel
theorem d_L_law_519 : decode y_L_law.2.1 519 = .ok (.iaload, 1) := by decide +kernel
theorem d_L_law_520 : decode y_L_law.2.1 520 = .ok (.aload_n 3, 1) := by decide +kernel
theorem d_L_law_521 : decode y_L_law.2.1 521 = .ok (.invokestatic 70, 3) := by decide +kernel
theorem d_L_law_524 : decode y_L_law.2.1 524 = .ok (.istore 5, 2) := by decide +kernel
theorem d_L_law_526 : decode y_L_law.2.1 526 = .ok (.aload_n 2, 1) := by decide +kernel
theorem d_L_law_527 : decode y_L_law.2.1 527 = .ok (.aload_n 0, 1) := by decide +kernel
theorem d_L_law_528 : decode y_L_law.2.1 528 = .ok (.iload 4, 2) := by decide +kernel
theorem d_L_law_530 : decode y_L_law.2.1 530 = .ok (.iconst 1, 1) := by decide +kernel
theorem d_L_law_531 : decode y_L_law.2.1 531 = .ok (.iadd, 1) := by decide +kernel
theorem d_L_law_532 : decode y_L_law.2.1 532 = .ok (.iaload, 1) := by decide +kernel
theorem d_L_law_533 : decode y_L_law.2.1 533 = .ok (.aload_n 0, 1) := by decide +kernel
theorem d_L_law_534 : decode y_L_law.2.1 534 = .ok (.iload 4, 2) := by decide +kernel
theorem d_L_law_536 : decode y_L_law.2.1 536 = .ok (.iconst 2, 1) := by decide +kernel
theorem d_L_law_537 : decode y_L_law.2.1 537 = .ok (.iadd, 1) := by decide +kernel
theorem d_L_law_538 : decode y_L_law.2.1 538 = .ok (.iaload, 1) := by decide +kernel
theorem d_L_law_539 : decode y_L_law.2.1 539 = .ok (.invokevirtual 72, 3) := by decide +kernel
theorem d_L_law_542 : decode y_L_law.2.1 542 = .ok (.istore 6, 2) := by decide +kernel
theorem d_L_law_544 : decode y_L_law.2.1 544 = .ok (.aload_n 2, 1) := by decide +kernel
theorem d_L_law_545 : decode y_L_law.2.1 545 = .ok (.invokevirtual 63, 3) := by decide +kernel
theorem d_L_law_548 : decode y_L_law.2.1 548 = .ok (.iload 5, 2) := by decide +kernel
theorem d_L_law_550 : decode y_L_law.2.1 550 = .ok (.if_icmp .eq 5, 3) := by decide +kernel
theorem d_L_law_553 : decode y_L_law.2.1 553 = .ok (.iconst 0, 1) := by decide +kernel
theorem d_L_law_554 : decode y_L_law.2.1 554 = .ok (.ireturn, 1) := by decide +kernel
theorem d_L_law_555 : decode y_L_law.2.1 555 = .ok (.iload 5, 2) := by decide +kernel
theorem d_L_law_557 : decode y_L_law.2.1 557 = .ok (.ifCond .ne 15, 3) := by decide +kernel
theorem d_L_law_560 : decode y_L_law.2.1 560 = .ok (.aload_n 3, 1) := by decide +kernel
theorem d_L_law_561 : decode y_L_law.2.1 561 = .ok (.iconst 0, 1) := by decide +kernel
theorem d_L_law_562 : decode y_L_law.2.1 562 = .ok (.laload, 1) := by decide +kernel
theorem d_L_law_563 : decode y_L_law.2.1 563 = .ok (.iload 6, 2) := by decide +kernel
theorem d_L_law_565 : decode y_L_law.2.1 565 = .ok (.i2l, 1) := by decide +kernel
theorem d_L_law_566 : decode y_L_law.2.1 566 = .ok (.lcmp, 1) := by decide +kernel
theorem d_L_law_567 : decode y_L_law.2.1 567 = .ok (.ifCond .eq 5, 3) := by decide +kernel
theorem d_L_law_570 : decode y_L_law.2.1 570 = .ok (.iconst 0, 1) := by decide +kernel
theorem d_L_law_571 : decode y_L_law.2.1 571 = .ok (.ireturn, 1) := by decide +kernel
theorem d_L_law_572 : decode y_L_law.2.1 572 = .ok (.goto 961, 3) := by decide +kernel
theorem d_L_law_575 : decode y_L_law.2.1 575 = .ok (.aload_n 1, 1) := by decide +kernel
theorem d_L_law_576 : decode y_L_law.2.1 576 = .ok (.aload_n 0, 1) := by decide +kernel
theorem d_L_law_577 : decode y_L_law.2.1 577 = .ok (.iload 4, 2) := by decide +kernel
theorem d_L_law_579 : decode y_L_law.2.1 579 = .ok (.iconst 1, 1) := by decide +kernel
theorem d_L_law_580 : decode y_L_law.2.1 580 = .ok (.iadd, 1) := by decide +kernel
theorem d_L_law_581 : decode y_L_law.2.1 581 = .ok (.iaload, 1) := by decide +kernel
theorem d_L_law_582 : decode y_L_law.2.1 582 = .ok (.invokevirtual 73, 3) := by decide +kernel
theorem d_L_law_585 : decode y_L_law.2.1 585 = .ok (.aload_n 2, 1) := by decide +kernel
theorem d_L_law_586 : decode y_L_law.2.1 586 = .ok (.aload_n 0, 1) := by decide +kernel
theorem d_L_law_587 : decode y_L_law.2.1 587 = .ok (.iload 4, 2) := by decide +kernel
theorem d_L_law_589 : decode y_L_law.2.1 589 = .ok (.iconst 1, 1) := by decide +kernel
theorem d_L_law_590 : decode y_L_law.2.1 590 = .ok (.iadd, 1) := by decide +kernel
theorem d_L_law_591 : decode y_L_law.2.1 591 = .ok (.iaload, 1) := by decide +kernel
theorem d_L_law_592 : decode y_L_law.2.1 592 = .ok (.invokevirtual 76, 3) := by decide +kernel
theorem d_L_law_595 : decode y_L_law.2.1 595 = .ok (.if_icmp .eq 938, 3) := by decide +kernel
theorem d_L_law_598 : decode y_L_law.2.1 598 = .ok (.iconst 0, 1) := by decide +kernel
theorem d_L_law_599 : decode y_L_law.2.1 599 = .ok (.ireturn, 1) := by decide +kernel
theorem d_L_law_600 : decode y_L_law.2.1 600 = .ok (.aload_n 1, 1) := by decide +kernel
theorem d_L_law_601 : decode y_L_law.2.1 601 = .ok (.aload_n 0, 1) := by decide +kernel
theorem d_L_law_602 : decode y_L_law.2.1 602 = .ok (.iload 4, 2) := by decide +kernel
theorem d_L_law_604 : decode y_L_law.2.1 604 = .ok (.iconst 1, 1) := by decide +kernel
theorem d_L_law_605 : decode y_L_law.2.1 605 = .ok (.iadd, 1) := by decide +kernel
theorem d_L_law_606 : decode y_L_law.2.1 606 = .ok (.iaload, 1) := by decide +kernel
theorem d_L_law_607 : decode y_L_law.2.1 607 = .ok (.invokevirtual 77, 3) := by decide +kernel
theorem d_L_law_610 : decode y_L_law.2.1 610 = .ok (.aload_n 2, 1) := by decide +kernel
theorem d_L_law_611 : decode y_L_law.2.1 611 = .ok (.aload_n 0, 1) := by decide +kernel
theorem d_L_law_612 : decode y_L_law.2.1 612 = .ok (.iload 4, 2) := by decide +kernel
theorem d_L_law_614 : decode y_L_law.2.1 614 = .ok (.iconst 1, 1) := by decide +kernel
theorem d_L_law_615 : decode y_L_law.2.1 615 = .ok (.iadd, 1) := by decide +kernel
theorem d_L_law_616 : decode y_L_law.2.1 616 = .ok (.iaload, 1) := by decide +kernel
theorem d_L_law_617 : decode y_L_law.2.1 617 = .ok (.invokevirtual 80, 3) := by decide +kernel
theorem d_L_law_620 : decode y_L_law.2.1 620 = .ok (.if_icmp .eq 913, 3) := by decide +kernel
theorem d_L_law_623 : decode y_L_law.2.1 623 = .ok (.iconst 0, 1) := by decide +kernel
theorem d_L_law_624 : decode y_L_law.2.1 624 = .ok (.ireturn, 1) := by decide +kernel
theorem d_L_law_625 : decode y_L_law.2.1 625 = .ok (.aload_n 1, 1) := by decide +kernel
theorem d_L_law_626 : decode y_L_law.2.1 626 = .ok (.invokevirtual 81, 3) := by decide +kernel
theorem d_L_law_629 : decode y_L_law.2.1 629 = .ok (.aload_n 2, 1) := by decide +kernel
theorem d_L_law_630 : decode y_L_law.2.1 630 = .ok (.invokevirtual 84, 3) := by decide +kernel
theorem d_L_law_633 : decode y_L_law.2.1 633 = .ok (.if_icmp .eq 900, 3) := by decide +kernel
theorem d_L_law_636 : decode y_L_law.2.1 636 = .ok (.iconst 0, 1) := by decide +kernel
theorem d_L_law_637 : decode y_L_law.2.1 637 = .ok (.ireturn, 1) := by decide +kernel
theorem d_L_law_638 : decode y_L_law.2.1 638 = .ok (.aload_n 1, 1) := by decide +kernel
theorem d_L_law_639 : decode y_L_law.2.1 639 = .ok (.aload_n 0, 1) := by decide +kernel
theorem d_L_law_640 : decode y_L_law.2.1 640 = .ok (.iload 4, 2) := by decide +kernel
theorem d_L_law_642 : decode y_L_law.2.1 642 = .ok (.iconst 1, 1) := by decide +kernel
theorem d_L_law_643 : decode y_L_law.2.1 643 = .ok (.iadd, 1) := by decide +kernel
theorem d_L_law_644 : decode y_L_law.2.1 644 = .ok (.iaload, 1) := by decide +kernel
theorem d_L_law_645 : decode y_L_law.2.1 645 = .ok (.invokevirtual 85, 3) := by decide +kernel
theorem d_L_law_648 : decode y_L_law.2.1 648 = .ok (.aload_n 2, 1) := by decide +kernel
theorem d_L_law_649 : decode y_L_law.2.1 649 = .ok (.aload_n 0, 1) := by decide +kernel
theorem d_L_law_650 : decode y_L_law.2.1 650 = .ok (.iload 4, 2) := by decide +kernel
theorem d_L_law_652 : decode y_L_law.2.1 652 = .ok (.iconst 1, 1) := by decide +kernel
theorem d_L_law_653 : decode y_L_law.2.1 653 = .ok (.iadd, 1) := by decide +kernel
theorem d_L_law_654 : decode y_L_law.2.1 654 = .ok (.iaload, 1) := by decide +kernel
theorem d_L_law_655 : decode y_L_law.2.1 655 = .ok (.invokevirtual 88, 3) := by decide +kernel
theorem d_L_law_658 : decode y_L_law.2.1 658 = .ok (.if_icmp .eq 875, 3) := by decide +kernel
theorem d_L_law_661 : decode y_L_law.2.1 661 = .ok (.iconst 0, 1) := by decide +kernel
theorem d_L_law_662 : decode y_L_law.2.1 662 = .ok (.ireturn, 1) := by decide +kernel
theorem d_L_law_663 : decode y_L_law.2.1 663 = .ok (.aload_n 1, 1) := by decide +kernel
theorem d_L_law_664 : decode y_L_law.2.1 664 = .ok (.aload_n 0, 1) := by decide +kernel
theorem d_L_law_665 : decode y_L_law.2.1 665 = .ok (.iload 4, 2) := by decide +kernel
theorem d_L_law_667 : decode y_L_law.2.1 667 = .ok (.iconst 1, 1) := by decide +kernel
theorem d_L_law_668 : decode y_L_law.2.1 668 = .ok (.iadd, 1) := by decide +kernel
theorem d_L_law_669 : decode y_L_law.2.1 669 = .ok (.iaload, 1) := by decide +kernel
theorem d_L_law_670 : decode y_L_law.2.1 670 = .ok (.aload_n 0, 1) := by decide +kernel
theorem d_L_law_671 : decode y_L_law.2.1 671 = .ok (.iload 4, 2) := by decide +kernel
theorem d_L_law_673 : decode y_L_law.2.1 673 = .ok (.iconst 2, 1) := by decide +kernel
theorem d_L_law_674 : decode y_L_law.2.1 674 = .ok (.iadd, 1) := by decide +kernel
theorem d_L_law_675 : decode y_L_law.2.1 675 = .ok (.iaload, 1) := by decide +kernel
theorem d_L_law_676 : decode y_L_law.2.1 676 = .ok (.aload_n 0, 1) := by decide +kernel
theorem d_L_law_677 : decode y_L_law.2.1 677 = .ok (.iload 4, 2) := by decide +kernel
theorem d_L_law_679 : decode y_L_law.2.1 679 = .ok (.iconst 3, 1) := by decide +kernel
theorem d_L_law_680 : decode y_L_law.2.1 680 = .ok (.iadd, 1) := by decide +kernel
theorem d_L_law_681 : decode y_L_law.2.1 681 = .ok (.iaload, 1) := by decide +kernel
theorem d_L_law_682 : decode y_L_law.2.1 682 = .ok (.invokevirtual 89, 3) := by decide +kernel
theorem d_L_law_685 : decode y_L_law.2.1 685 = .ok (.aload_n 2, 1) := by decide +kernel
theorem d_L_law_686 : decode y_L_law.2.1 686 = .ok (.aload_n 0, 1) := by decide +kernel
theorem d_L_law_687 : decode y_L_law.2.1 687 = .ok (.iload 4, 2) := by decide +kernel
theorem d_L_law_689 : decode y_L_law.2.1 689 = .ok (.iconst 1, 1) := by decide +kernel
theorem d_L_law_690 : decode y_L_law.2.1 690 = .ok (.iadd, 1) := by decide +kernel
theorem d_L_law_691 : decode y_L_law.2.1 691 = .ok (.iaload, 1) := by decide +kernel
theorem d_L_law_692 : decode y_L_law.2.1 692 = .ok (.aload_n 0, 1) := by decide +kernel
theorem d_L_law_693 : decode y_L_law.2.1 693 = .ok (.iload 4, 2) := by decide +kernel
theorem d_L_law_695 : decode y_L_law.2.1 695 = .ok (.iconst 2, 1) := by decide +kernel
theorem d_L_law_696 : decode y_L_law.2.1 696 = .ok (.iadd, 1) := by decide +kernel
theorem d_L_law_697 : decode y_L_law.2.1 697 = .ok (.iaload, 1) := by decide +kernel
theorem d_L_law_698 : decode y_L_law.2.1 698 = .ok (.aload_n 0, 1) := by decide +kernel
theorem d_L_law_699 : decode y_L_law.2.1 699 = .ok (.iload 4, 2) := by decide +kernel
theorem d_L_law_701 : decode y_L_law.2.1 701 = .ok (.iconst 3, 1) := by decide +kernel
theorem d_L_law_702 : decode y_L_law.2.1 702 = .ok (.iadd, 1) := by decide +kernel
theorem d_L_law_703 : decode y_L_law.2.1 703 = .ok (.iaload, 1) := by decide +kernel
theorem d_L_law_704 : decode y_L_law.2.1 704 = .ok (.invokevirtual 92, 3) := by decide +kernel
theorem d_L_law_707 : decode y_L_law.2.1 707 = .ok (.if_icmp .eq 826, 3) := by decide +kernel
theorem d_L_law_710 : decode y_L_law.2.1 710 = .ok (.iconst 0, 1) := by decide +kernel
theorem d_L_law_711 : decode y_L_law.2.1 711 = .ok (.ireturn, 1) := by decide +kernel
theorem d_L_law_712 : decode y_L_law.2.1 712 = .ok (.aload_n 1, 1) := by decide +kernel
theorem d_L_law_713 : decode y_L_law.2.1 713 = .ok (.aload_n 0, 1) := by decide +kernel
theorem d_L_law_714 : decode y_L_law.2.1 714 = .ok (.iload 4, 2) := by decide +kernel
theorem d_L_law_716 : decode y_L_law.2.1 716 = .ok (.iconst 1, 1) := by decide +kernel
theorem d_L_law_717 : decode y_L_law.2.1 717 = .ok (.iadd, 1) := by decide +kernel
theorem d_L_law_718 : decode y_L_law.2.1 718 = .ok (.iaload, 1) := by decide +kernel
theorem d_L_law_719 : decode y_L_law.2.1 719 = .ok (.aload_n 0, 1) := by decide +kernel
theorem d_L_law_720 : decode y_L_law.2.1 720 = .ok (.iload 4, 2) := by decide +kernel
theorem d_L_law_722 : decode y_L_law.2.1 722 = .ok (.iconst 2, 1) := by decide +kernel
theorem d_L_law_723 : decode y_L_law.2.1 723 = .ok (.iadd, 1) := by decide +kernel
theorem d_L_law_724 : decode y_L_law.2.1 724 = .ok (.iaload, 1) := by decide +kernel
theorem d_L_law_725 : decode y_L_law.2.1 725 = .ok (.invokevirtual 93, 3) := by decide +kernel
theorem d_L_law_728 : decode y_L_law.2.1 728 = .ok (.aload_n 2, 1) := by decide +kernel
theorem d_L_law_729 : decode y_L_law.2.1 729 = .ok (.aload_n 0, 1) := by decide +kernel
theorem d_L_law_730 : decode y_L_law.2.1 730 = .ok (.iload 4, 2) := by decide +kernel
theorem d_L_law_732 : decode y_L_law.2.1 732 = .ok (.iconst 1, 1) := by decide +kernel
theorem d_L_law_733 : decode y_L_law.2.1 733 = .ok (.iadd, 1) := by decide +kernel
theorem d_L_law_734 : decode y_L_law.2.1 734 = .ok (.iaload, 1) := by decide +kernel
theorem d_L_law_735 : decode y_L_law.2.1 735 = .ok (.aload_n 0, 1) := by decide +kernel
theorem d_L_law_736 : decode y_L_law.2.1 736 = .ok (.iload 4, 2) := by decide +kernel
theorem d_L_law_738 : decode y_L_law.2.1 738 = .ok (.iconst 2, 1) := by decide +kernel
theorem d_L_law_739 : decode y_L_law.2.1 739 = .ok (.iadd, 1) := by decide +kernel
theorem d_L_law_740 : decode y_L_law.2.1 740 = .ok (.iaload, 1) := by decide +kernel
theorem d_L_law_741 : decode y_L_law.2.1 741 = .ok (.invokevirtual 96, 3) := by decide +kernel
theorem d_L_law_744 : decode y_L_law.2.1 744 = .ok (.if_icmp .eq 789, 3) := by decide +kernel
theorem d_L_law_747 : decode y_L_law.2.1 747 = .ok (.iconst 0, 1) := by decide +kernel
theorem d_L_law_748 : decode y_L_law.2.1 748 = .ok (.ireturn, 1) := by decide +kernel
theorem d_L_law_749 : decode y_L_law.2.1 749 = .ok (.aload_n 1, 1) := by decide +kernel
theorem d_L_law_750 : decode y_L_law.2.1 750 = .ok (.aload_n 0, 1) := by decide +kernel
theorem d_L_law_751 : decode y_L_law.2.1 751 = .ok (.iload 4, 2) := by decide +kernel
theorem d_L_law_753 : decode y_L_law.2.1 753 = .ok (.iconst 1, 1) := by decide +kernel
theorem d_L_law_754 : decode y_L_law.2.1 754 = .ok (.iadd, 1) := by decide +kernel
theorem d_L_law_755 : decode y_L_law.2.1 755 = .ok (.iaload, 1) := by decide +kernel
theorem d_L_law_756 : decode y_L_law.2.1 756 = .ok (.aload_n 0, 1) := by decide +kernel
theorem d_L_law_757 : decode y_L_law.2.1 757 = .ok (.iload 4, 2) := by decide +kernel
theorem d_L_law_759 : decode y_L_law.2.1 759 = .ok (.iconst 2, 1) := by decide +kernel
theorem d_L_law_760 : decode y_L_law.2.1 760 = .ok (.iadd, 1) := by decide +kernel
theorem d_L_law_761 : decode y_L_law.2.1 761 = .ok (.iaload, 1) := by decide +kernel
theorem d_L_law_762 : decode y_L_law.2.1 762 = .ok (.invokevirtual 97, 3) := by decide +kernel
theorem d_L_law_765 : decode y_L_law.2.1 765 = .ok (.aload_n 2, 1) := by decide +kernel
theorem d_L_law_766 : decode y_L_law.2.1 766 = .ok (.aload_n 0, 1) := by decide +kernel
theorem d_L_law_767 : decode y_L_law.2.1 767 = .ok (.iload 4, 2) := by decide +kernel
theorem d_L_law_769 : decode y_L_law.2.1 769 = .ok (.iconst 1, 1) := by decide +kernel
theorem d_L_law_770 : decode y_L_law.2.1 770 = .ok (.iadd, 1) := by decide +kernel
theorem d_L_law_771 : decode y_L_law.2.1 771 = .ok (.iaload, 1) := by decide +kernel
theorem d_L_law_772 : decode y_L_law.2.1 772 = .ok (.aload_n 0, 1) := by decide +kernel
theorem d_L_law_773 : decode y_L_law.2.1 773 = .ok (.iload 4, 2) := by decide +kernel
theorem d_L_law_775 : decode y_L_law.2.1 775 = .ok (.iconst 2, 1) := by decide +kernel
theorem d_L_law_776 : decode y_L_law.2.1 776 = .ok (.iadd, 1) := by decide +kernel
theorem d_L_law_777 : decode y_L_law.2.1 777 = .ok (.iaload, 1) := by decide +kernel
theorem d_L_law_778 : decode y_L_law.2.1 778 = .ok (.invokevirtual 100, 3) := by decide +kernel
theorem d_L_law_781 : decode y_L_law.2.1 781 = .ok (.if_icmp .eq 752, 3) := by decide +kernel
theorem d_L_law_784 : decode y_L_law.2.1 784 = .ok (.iconst 0, 1) := by decide +kernel
theorem d_L_law_785 : decode y_L_law.2.1 785 = .ok (.ireturn, 1) := by decide +kernel
theorem d_L_law_786 : decode y_L_law.2.1 786 = .ok (.aload_n 1, 1) := by decide +kernel
theorem d_L_law_787 : decode y_L_law.2.1 787 = .ok (.aload_n 0, 1) := by decide +kernel
theorem d_L_law_788 : decode y_L_law.2.1 788 = .ok (.iload 4, 2) := by decide +kernel
theorem d_L_law_790 : decode y_L_law.2.1 790 = .ok (.iconst 1, 1) := by decide +kernel
theorem d_L_law_791 : decode y_L_law.2.1 791 = .ok (.iadd, 1) := by decide +kernel
theorem d_L_law_792 : decode y_L_law.2.1 792 = .ok (.iaload, 1) := by decide +kernel
theorem d_L_law_793 : decode y_L_law.2.1 793 = .ok (.aload_n 0, 1) := by decide +kernel
theorem d_L_law_794 : decode y_L_law.2.1 794 = .ok (.iload 4, 2) := by decide +kernel
theorem d_L_law_796 : decode y_L_law.2.1 796 = .ok (.iconst 2, 1) := by decide +kernel
theorem d_L_law_797 : decode y_L_law.2.1 797 = .ok (.iadd, 1) := by decide +kernel
theorem d_L_law_798 : decode y_L_law.2.1 798 = .ok (.iaload, 1) := by decide +kernel
theorem d_L_law_799 : decode y_L_law.2.1 799 = .ok (.invokevirtual 101, 3) := by decide +kernel
theorem d_L_law_802 : decode y_L_law.2.1 802 = .ok (.aload_n 2, 1) := by decide +kernel
theorem d_L_law_803 : decode y_L_law.2.1 803 = .ok (.aload_n 0, 1) := by decide +kernel
theorem d_L_law_804 : decode y_L_law.2.1 804 = .ok (.iload 4, 2) := by decide +kernel
theorem d_L_law_806 : decode y_L_law.2.1 806 = .ok (.iconst 1, 1) := by decide +kernel
theorem d_L_law_807 : decode y_L_law.2.1 807 = .ok (.iadd, 1) := by decide +kernel
theorem d_L_law_808 : decode y_L_law.2.1 808 = .ok (.iaload, 1) := by decide +kernel
theorem d_L_law_809 : decode y_L_law.2.1 809 = .ok (.aload_n 0, 1) := by decide +kernel
theorem d_L_law_810 : decode y_L_law.2.1 810 = .ok (.iload 4, 2) := by decide +kernel
theorem d_L_law_812 : decode y_L_law.2.1 812 = .ok (.iconst 2, 1) := by decide +kernel
theorem d_L_law_813 : decode y_L_law.2.1 813 = .ok (.iadd, 1) := by decide +kernel
theorem d_L_law_814 : decode y_L_law.2.1 814 = .ok (.iaload, 1) := by decide +kernel
theorem d_L_law_815 : decode y_L_law.2.1 815 = .ok (.invokevirtual 104, 3) := by decide +kernel
theorem d_L_law_818 : decode y_L_law.2.1 818 = .ok (.if_icmp .eq 715, 3) := by decide +kernel
theorem d_L_law_821 : decode y_L_law.2.1 821 = .ok (.iconst 0, 1) := by decide +kernel
theorem d_L_law_822 : decode y_L_law.2.1 822 = .ok (.ireturn, 1) := by decide +kernel
theorem d_L_law_823 : decode y_L_law.2.1 823 = .ok (.aload_n 1, 1) := by decide +kernel
theorem d_L_law_824 : decode y_L_law.2.1 824 = .ok (.aload_n 0, 1) := by decide +kernel
theorem d_L_law_825 : decode y_L_law.2.1 825 = .ok (.iload 4, 2) := by decide +kernel
theorem d_L_law_827 : decode y_L_law.2.1 827 = .ok (.iconst 1, 1) := by decide +kernel
theorem d_L_law_828 : decode y_L_law.2.1 828 = .ok (.iadd, 1) := by decide +kernel
theorem d_L_law_829 : decode y_L_law.2.1 829 = .ok (.iaload, 1) := by decide +kernel
theorem d_L_law_830 : decode y_L_law.2.1 830 = .ok (.aload_n 0, 1) := by decide +kernel
theorem d_L_law_831 : decode y_L_law.2.1 831 = .ok (.iload 4, 2) := by decide +kernel
theorem d_L_law_833 : decode y_L_law.2.1 833 = .ok (.iconst 2, 1) := by decide +kernel
theorem d_L_law_834 : decode y_L_law.2.1 834 = .ok (.iadd, 1) := by decide +kernel
theorem d_L_law_835 : decode y_L_law.2.1 835 = .ok (.iaload, 1) := by decide +kernel
theorem d_L_law_836 : decode y_L_law.2.1 836 = .ok (.aload_n 3, 1) := by decide +kernel
theorem d_L_law_837 : decode y_L_law.2.1 837 = .ok (.invokestatic 105, 3) := by decide +kernel
theorem d_L_law_840 : decode y_L_law.2.1 840 = .ok (.istore 5, 2) := by decide +kernel
theorem d_L_law_842 : decode y_L_law.2.1 842 = .ok (.aload_n 2, 1) := by decide +kernel
theorem d_L_law_843 : decode y_L_law.2.1 843 = .ok (.aload_n 0, 1) := by decide +kernel
theorem d_L_law_844 : decode y_L_law.2.1 844 = .ok (.iload 4, 2) := by decide +kernel
theorem d_L_law_846 : decode y_L_law.2.1 846 = .ok (.iconst 1, 1) := by decide +kernel
theorem d_L_law_847 : decode y_L_law.2.1 847 = .ok (.iadd, 1) := by decide +kernel
theorem d_L_law_848 : decode y_L_law.2.1 848 = .ok (.iaload, 1) := by decide +kernel
theorem d_L_law_849 : decode y_L_law.2.1 849 = .ok (.aload_n 0, 1) := by decide +kernel
theorem d_L_law_850 : decode y_L_law.2.1 850 = .ok (.iload 4, 2) := by decide +kernel
theorem d_L_law_852 : decode y_L_law.2.1 852 = .ok (.iconst 2, 1) := by decide +kernel
theorem d_L_law_853 : decode y_L_law.2.1 853 = .ok (.iadd, 1) := by decide +kernel
theorem d_L_law_854 : decode y_L_law.2.1 854 = .ok (.iaload, 1) := by decide +kernel
theorem d_L_law_855 : decode y_L_law.2.1 855 = .ok (.invokevirtual 107, 3) := by decide +kernel
theorem d_L_law_858 : decode y_L_law.2.1 858 = .ok (.istore 6, 2) := by decide +kernel
theorem d_L_law_860 : decode y_L_law.2.1 860 = .ok (.aload_n 2, 1) := by decide +kernel
theorem d_L_law_861 : decode y_L_law.2.1 861 = .ok (.invokevirtual 63, 3) := by decide +kernel
theorem d_L_law_864 : decode y_L_law.2.1 864 = .ok (.iload 5, 2) := by decide +kernel
theorem d_L_law_866 : decode y_L_law.2.1 866 = .ok (.if_icmp .eq 5, 3) := by decide +kernel
theorem d_L_law_869 : decode y_L_law.2.1 869 = .ok (.iconst 0, 1) := by decide +kernel
theorem d_L_law_870 : decode y_L_law.2.1 870 = .ok (.ireturn, 1) := by decide +kernel
theorem d_L_law_871 : decode y_L_law.2.1 871 = .ok (.iload 5, 2) := by decide +kernel
theorem d_L_law_873 : decode y_L_law.2.1 873 = .ok (.ifCond .ne 15, 3) := by decide +kernel
theorem d_L_law_876 : decode y_L_law.2.1 876 = .ok (.aload_n 3, 1) := by decide +kernel
theorem d_L_law_877 : decode y_L_law.2.1 877 = .ok (.iconst 0, 1) := by decide +kernel
theorem d_L_law_878 : decode y_L_law.2.1 878 = .ok (.laload, 1) := by decide +kernel
theorem d_L_law_879 : decode y_L_law.2.1 879 = .ok (.iload 6, 2) := by decide +kernel
theorem d_L_law_881 : decode y_L_law.2.1 881 = .ok (.i2l, 1) := by decide +kernel
theorem d_L_law_882 : decode y_L_law.2.1 882 = .ok (.lcmp, 1) := by decide +kernel
theorem d_L_law_883 : decode y_L_law.2.1 883 = .ok (.ifCond .eq 5, 3) := by decide +kernel
theorem d_L_law_886 : decode y_L_law.2.1 886 = .ok (.iconst 0, 1) := by decide +kernel
theorem d_L_law_887 : decode y_L_law.2.1 887 = .ok (.ireturn, 1) := by decide +kernel
theorem d_L_law_888 : decode y_L_law.2.1 888 = .ok (.goto 645, 3) := by decide +kernel
theorem d_L_law_891 : decode y_L_law.2.1 891 = .ok (.aload_n 1, 1) := by decide +kernel
theorem d_L_law_892 : decode y_L_law.2.1 892 = .ok (.aload_n 0, 1) := by decide +kernel
theorem d_L_law_893 : decode y_L_law.2.1 893 = .ok (.iload 4, 2) := by decide +kernel
theorem d_L_law_895 : decode y_L_law.2.1 895 = .ok (.iconst 1, 1) := by decide +kernel
theorem d_L_law_896 : decode y_L_law.2.1 896 = .ok (.iadd, 1) := by decide +kernel
theorem d_L_law_897 : decode y_L_law.2.1 897 = .ok (.iaload, 1) := by decide +kernel
theorem d_L_law_898 : decode y_L_law.2.1 898 = .ok (.invokevirtual 108, 3) := by decide +kernel
theorem d_L_law_901 : decode y_L_law.2.1 901 = .ok (.aload_n 2, 1) := by decide +kernel
theorem d_L_law_902 : decode y_L_law.2.1 902 = .ok (.aload_n 0, 1) := by decide +kernel
theorem d_L_law_903 : decode y_L_law.2.1 903 = .ok (.iload 4, 2) := by decide +kernel
theorem d_L_law_905 : decode y_L_law.2.1 905 = .ok (.iconst 1, 1) := by decide +kernel
theorem d_L_law_906 : decode y_L_law.2.1 906 = .ok (.iadd, 1) := by decide +kernel
theorem d_L_law_907 : decode y_L_law.2.1 907 = .ok (.iaload, 1) := by decide +kernel
theorem d_L_law_908 : decode y_L_law.2.1 908 = .ok (.invokevirtual 111, 3) := by decide +kernel
theorem d_L_law_911 : decode y_L_law.2.1 911 = .ok (.if_icmp .eq 622, 3) := by decide +kernel
theorem d_L_law_914 : decode y_L_law.2.1 914 = .ok (.iconst 0, 1) := by decide +kernel
theorem d_L_law_915 : decode y_L_law.2.1 915 = .ok (.ireturn, 1) := by decide +kernel
theorem d_L_law_916 : decode y_L_law.2.1 916 = .ok (.aload_n 1, 1) := by decide +kernel
theorem d_L_law_917 : decode y_L_law.2.1 917 = .ok (.aload_n 0, 1) := by decide +kernel
theorem d_L_law_918 : decode y_L_law.2.1 918 = .ok (.iload 4, 2) := by decide +kernel
theorem d_L_law_920 : decode y_L_law.2.1 920 = .ok (.iconst 1, 1) := by decide +kernel
theorem d_L_law_921 : decode y_L_law.2.1 921 = .ok (.iadd, 1) := by decide +kernel
theorem d_L_law_922 : decode y_L_law.2.1 922 = .ok (.iaload, 1) := by decide +kernel
theorem d_L_law_923 : decode y_L_law.2.1 923 = .ok (.invokevirtual 112, 3) := by decide +kernel
theorem d_L_law_926 : decode y_L_law.2.1 926 = .ok (.aload_n 2, 1) := by decide +kernel
theorem d_L_law_927 : decode y_L_law.2.1 927 = .ok (.aload_n 0, 1) := by decide +kernel
theorem d_L_law_928 : decode y_L_law.2.1 928 = .ok (.iload 4, 2) := by decide +kernel
theorem d_L_law_930 : decode y_L_law.2.1 930 = .ok (.iconst 1, 1) := by decide +kernel
theorem d_L_law_931 : decode y_L_law.2.1 931 = .ok (.iadd, 1) := by decide +kernel
theorem d_L_law_932 : decode y_L_law.2.1 932 = .ok (.iaload, 1) := by decide +kernel
theorem d_L_law_933 : decode y_L_law.2.1 933 = .ok (.invokevirtual 115, 3) := by decide +kernel
theorem d_L_law_936 : decode y_L_law.2.1 936 = .ok (.if_icmp .eq 597, 3) := by decide +kernel
theorem d_L_law_939 : decode y_L_law.2.1 939 = .ok (.iconst 0, 1) := by decide +kernel
theorem d_L_law_940 : decode y_L_law.2.1 940 = .ok (.ireturn, 1) := by decide +kernel
theorem d_L_law_941 : decode y_L_law.2.1 941 = .ok (.aload_n 1, 1) := by decide +kernel
theorem d_L_law_942 : decode y_L_law.2.1 942 = .ok (.invokevirtual 116, 3) := by decide +kernel
theorem d_L_law_945 : decode y_L_law.2.1 945 = .ok (.aload_n 2, 1) := by decide +kernel
theorem d_L_law_946 : decode y_L_law.2.1 946 = .ok (.invokevirtual 119, 3) := by decide +kernel
theorem d_L_law_949 : decode y_L_law.2.1 949 = .ok (.if_icmp .eq 584, 3) := by decide +kernel
theorem d_L_law_952 : decode y_L_law.2.1 952 = .ok (.iconst 0, 1) := by decide +kernel
theorem d_L_law_953 : decode y_L_law.2.1 953 = .ok (.ireturn, 1) := by decide +kernel
theorem d_L_law_954 : decode y_L_law.2.1 954 = .ok (.aload_n 1, 1) := by decide +kernel
theorem d_L_law_955 : decode y_L_law.2.1 955 = .ok (.invokevirtual 120, 3) := by decide +kernel
theorem d_L_law_958 : decode y_L_law.2.1 958 = .ok (.aload_n 2, 1) := by decide +kernel
theorem d_L_law_959 : decode y_L_law.2.1 959 = .ok (.invokevirtual 123, 3) := by decide +kernel
theorem d_L_law_962 : decode y_L_law.2.1 962 = .ok (.if_icmp .eq 571, 3) := by decide +kernel
theorem d_L_law_965 : decode y_L_law.2.1 965 = .ok (.iconst 0, 1) := by decide +kernel
theorem d_L_law_966 : decode y_L_law.2.1 966 = .ok (.ireturn, 1) := by decide +kernel
theorem d_L_law_967 : decode y_L_law.2.1 967 = .ok (.aload_n 1, 1) := by decide +kernel
theorem d_L_law_968 : decode y_L_law.2.1 968 = .ok (.aload_n 0, 1) := by decide +kernel
theorem d_L_law_969 : decode y_L_law.2.1 969 = .ok (.iload 4, 2) := by decide +kernel
theorem d_L_law_971 : decode y_L_law.2.1 971 = .ok (.iconst 1, 1) := by decide +kernel
theorem d_L_law_972 : decode y_L_law.2.1 972 = .ok (.iadd, 1) := by decide +kernel
theorem d_L_law_973 : decode y_L_law.2.1 973 = .ok (.iaload, 1) := by decide +kernel
theorem d_L_law_974 : decode y_L_law.2.1 974 = .ok (.aload_n 0, 1) := by decide +kernel
theorem d_L_law_975 : decode y_L_law.2.1 975 = .ok (.iload 4, 2) := by decide +kernel
theorem d_L_law_977 : decode y_L_law.2.1 977 = .ok (.iconst 2, 1) := by decide +kernel
theorem d_L_law_978 : decode y_L_law.2.1 978 = .ok (.iadd, 1) := by decide +kernel
theorem d_L_law_979 : decode y_L_law.2.1 979 = .ok (.iaload, 1) := by decide +kernel
theorem d_L_law_980 : decode y_L_law.2.1 980 = .ok (.invokevirtual 124, 3) := by decide +kernel
theorem d_L_law_983 : decode y_L_law.2.1 983 = .ok (.aload_n 2, 1) := by decide +kernel
theorem d_L_law_984 : decode y_L_law.2.1 984 = .ok (.aload_n 0, 1) := by decide +kernel
theorem d_L_law_985 : decode y_L_law.2.1 985 = .ok (.iload 4, 2) := by decide +kernel
theorem d_L_law_987 : decode y_L_law.2.1 987 = .ok (.iconst 1, 1) := by decide +kernel
theorem d_L_law_988 : decode y_L_law.2.1 988 = .ok (.iadd, 1) := by decide +kernel
theorem d_L_law_989 : decode y_L_law.2.1 989 = .ok (.iaload, 1) := by decide +kernel
theorem d_L_law_990 : decode y_L_law.2.1 990 = .ok (.aload_n 0, 1) := by decide +kernel
theorem d_L_law_991 : decode y_L_law.2.1 991 = .ok (.iload 4, 2) := by decide +kernel
theorem d_L_law_993 : decode y_L_law.2.1 993 = .ok (.iconst 2, 1) := by decide +kernel
theorem d_L_law_994 : decode y_L_law.2.1 994 = .ok (.iadd, 1) := by decide +kernel
theorem d_L_law_995 : decode y_L_law.2.1 995 = .ok (.iaload, 1) := by decide +kernel
theorem d_L_law_996 : decode y_L_law.2.1 996 = .ok (.invokevirtual 127, 3) := by decide +kernel
theorem d_L_law_999 : decode y_L_law.2.1 999 = .ok (.if_icmp .eq 534, 3) := by decide +kernel
theorem d_L_law_1002 : decode y_L_law.2.1 1002 = .ok (.iconst 0, 1) := by decide +kernel
theorem d_L_law_1003 : decode y_L_law.2.1 1003 = .ok (.ireturn, 1) := by decide +kernel
theorem d_L_law_1004 : decode y_L_law.2.1 1004 = .ok (.aload_n 1, 1) := by decide +kernel
theorem d_L_law_1005 : decode y_L_law.2.1 1005 = .ok (.aload_n 0, 1) := by decide +kernel
theorem d_L_law_1006 : decode y_L_law.2.1 1006 = .ok (.iload 4, 2) := by decide +kernel
theorem d_L_law_1008 : decode y_L_law.2.1 1008 = .ok (.iconst 1, 1) := by decide +kernel
theorem d_L_law_1009 : decode y_L_law.2.1 1009 = .ok (.iadd, 1) := by decide +kernel
theorem d_L_law_1010 : decode y_L_law.2.1 1010 = .ok (.iaload, 1) := by decide +kernel
theorem d_L_law_1011 : decode y_L_law.2.1 1011 = .ok (.aload_n 0, 1) := by decide +kernel
theorem d_L_law_1012 : decode y_L_law.2.1 1012 = .ok (.iload 4, 2) := by decide +kernel
theorem d_L_law_1014 : decode y_L_law.2.1 1014 = .ok (.iconst 2, 1) := by decide +kernel
theorem d_L_law_1015 : decode y_L_law.2.1 1015 = .ok (.iadd, 1) := by decide +kernel
theorem d_L_law_1016 : decode y_L_law.2.1 1016 = .ok (.iaload, 1) := by decide +kernel
theorem d_L_law_1017 : decode y_L_law.2.1 1017 = .ok (.invokevirtual 128, 3) := by decide +kernel
theorem d_L_law_1020 : decode y_L_law.2.1 1020 = .ok (.aload_n 2, 1) := by decide +kernel
theorem d_L_law_1021 : decode y_L_law.2.1 1021 = .ok (.aload_n 0, 1) := by decide +kernel
theorem d_L_law_1022 : decode y_L_law.2.1 1022 = .ok (.iload 4, 2) := by decide +kernel
theorem d_L_law_1024 : decode y_L_law.2.1 1024 = .ok (.iconst 1, 1) := by decide +kernel
theorem d_L_law_1025 : decode y_L_law.2.1 1025 = .ok (.iadd, 1) := by decide +kernel
theorem d_L_law_1026 : decode y_L_law.2.1 1026 = .ok (.iaload, 1) := by decide +kernel
theorem d_L_law_1027 : decode y_L_law.2.1 1027 = .ok (.aload_n 0, 1) := by decide +kernel
theorem d_L_law_1028 : decode y_L_law.2.1 1028 = .ok (.iload 4, 2) := by decide +kernel
theorem d_L_law_1030 : decode y_L_law.2.1 1030 = .ok (.iconst 2, 1) := by decide +kernel
theorem d_L_law_1031 : decode y_L_law.2.1 1031 = .ok (.iadd, 1) := by decide +kernel
theorem d_L_law_1032 : decode y_L_law.2.1 1032 = .ok (.iaload, 1) := by decide +kernel
theorem d_L_law_1033 : decode y_L_law.2.1 1033 = .ok (.invokevirtual 131, 3) := by decide +kernel
theorem d_L_law_1036 : decode y_L_law.2.1 1036 = .ok (.if_icmp .eq 497, 3) := by decide +kernel
theorem d_L_law_1039 : decode y_L_law.2.1 1039 = .ok (.iconst 0, 1) := by decide +kernel
theorem d_L_law_1040 : decode y_L_law.2.1 1040 = .ok (.ireturn, 1) := by decide +kernel
theorem d_L_law_1041 : decode y_L_law.2.1 1041 = .ok (.aload_n 1, 1) := by decide +kernel
theorem d_L_law_1042 : decode y_L_law.2.1 1042 = .ok (.aload_n 0, 1) := by decide +kernel
theorem d_L_law_1043 : decode y_L_law.2.1 1043 = .ok (.iload 4, 2) := by decide +kernel
theorem d_L_law_1045 : decode y_L_law.2.1 1045 = .ok (.iconst 1, 1) := by decide +kernel
theorem d_L_law_1046 : decode y_L_law.2.1 1046 = .ok (.iadd, 1) := by decide +kernel
theorem d_L_law_1047 : decode y_L_law.2.1 1047 = .ok (.iaload, 1) := by decide +kernel
theorem d_L_law_1048 : decode y_L_law.2.1 1048 = .ok (.aload_n 0, 1) := by decide +kernel
theorem d_L_law_1049 : decode y_L_law.2.1 1049 = .ok (.iload 4, 2) := by decide +kernel
theorem d_L_law_1051 : decode y_L_law.2.1 1051 = .ok (.iconst 2, 1) := by decide +kernel
theorem d_L_law_1052 : decode y_L_law.2.1 1052 = .ok (.iadd, 1) := by decide +kernel
theorem d_L_law_1053 : decode y_L_law.2.1 1053 = .ok (.iaload, 1) := by decide +kernel
theorem d_L_law_1054 : decode y_L_law.2.1 1054 = .ok (.invokevirtual 132, 3) := by decide +kernel
theorem d_L_law_1057 : decode y_L_law.2.1 1057 = .ok (.aload_n 2, 1) := by decide +kernel
theorem d_L_law_1058 : decode y_L_law.2.1 1058 = .ok (.aload_n 0, 1) := by decide +kernel
theorem d_L_law_1059 : decode y_L_law.2.1 1059 = .ok (.iload 4, 2) := by decide +kernel
theorem d_L_law_1061 : decode y_L_law.2.1 1061 = .ok (.iconst 1, 1) := by decide +kernel
theorem d_L_law_1062 : decode y_L_law.2.1 1062 = .ok (.iadd, 1) := by decide +kernel
theorem d_L_law_1063 : decode y_L_law.2.1 1063 = .ok (.iaload, 1) := by decide +kernel
theorem d_L_law_1064 : decode y_L_law.2.1 1064 = .ok (.aload_n 0, 1) := by decide +kernel
theorem d_L_law_1065 : decode y_L_law.2.1 1065 = .ok (.iload 4, 2) := by decide +kernel
theorem d_L_law_1067 : decode y_L_law.2.1 1067 = .ok (.iconst 2, 1) := by decide +kernel
theorem d_L_law_1068 : decode y_L_law.2.1 1068 = .ok (.iadd, 1) := by decide +kernel
theorem d_L_law_1069 : decode y_L_law.2.1 1069 = .ok (.iaload, 1) := by decide +kernel
theorem d_L_law_1070 : decode y_L_law.2.1 1070 = .ok (.invokevirtual 135, 3) := by decide +kernel
theorem d_L_law_1073 : decode y_L_law.2.1 1073 = .ok (.if_icmp .eq 460, 3) := by decide +kernel
theorem d_L_law_1076 : decode y_L_law.2.1 1076 = .ok (.iconst 0, 1) := by decide +kernel
theorem d_L_law_1077 : decode y_L_law.2.1 1077 = .ok (.ireturn, 1) := by decide +kernel
theorem d_L_law_1078 : decode y_L_law.2.1 1078 = .ok (.aload_n 1, 1) := by decide +kernel
theorem d_L_law_1079 : decode y_L_law.2.1 1079 = .ok (.aload_n 0, 1) := by decide +kernel
theorem d_L_law_1080 : decode y_L_law.2.1 1080 = .ok (.iload 4, 2) := by decide +kernel
theorem d_L_law_1082 : decode y_L_law.2.1 1082 = .ok (.iconst 1, 1) := by decide +kernel
theorem d_L_law_1083 : decode y_L_law.2.1 1083 = .ok (.iadd, 1) := by decide +kernel
theorem d_L_law_1084 : decode y_L_law.2.1 1084 = .ok (.iaload, 1) := by decide +kernel
theorem d_L_law_1085 : decode y_L_law.2.1 1085 = .ok (.invokevirtual 136, 3) := by decide +kernel
theorem d_L_law_1088 : decode y_L_law.2.1 1088 = .ok (.aload_n 2, 1) := by decide +kernel
theorem d_L_law_1089 : decode y_L_law.2.1 1089 = .ok (.aload_n 0, 1) := by decide +kernel
theorem d_L_law_1090 : decode y_L_law.2.1 1090 = .ok (.iload 4, 2) := by decide +kernel
theorem d_L_law_1092 : decode y_L_law.2.1 1092 = .ok (.iconst 1, 1) := by decide +kernel
theorem d_L_law_1093 : decode y_L_law.2.1 1093 = .ok (.iadd, 1) := by decide +kernel
theorem d_L_law_1094 : decode y_L_law.2.1 1094 = .ok (.iaload, 1) := by decide +kernel
theorem d_L_law_1095 : decode y_L_law.2.1 1095 = .ok (.invokevirtual 139, 3) := by decide +kernel
theorem d_L_law_1098 : decode y_L_law.2.1 1098 = .ok (.if_icmp .eq 435, 3) := by decide +kernel
theorem d_L_law_1101 : decode y_L_law.2.1 1101 = .ok (.iconst 0, 1) := by decide +kernel
theorem d_L_law_1102 : decode y_L_law.2.1 1102 = .ok (.ireturn, 1) := by decide +kernel
theorem d_L_law_1103 : decode y_L_law.2.1 1103 = .ok (.aload_n 1, 1) := by decide +kernel
theorem d_L_law_1104 : decode y_L_law.2.1 1104 = .ok (.aload_n 0, 1) := by decide +kernel
theorem d_L_law_1105 : decode y_L_law.2.1 1105 = .ok (.iload 4, 2) := by decide +kernel
theorem d_L_law_1107 : decode y_L_law.2.1 1107 = .ok (.iconst 1, 1) := by decide +kernel
theorem d_L_law_1108 : decode y_L_law.2.1 1108 = .ok (.iadd, 1) := by decide +kernel
theorem d_L_law_1109 : decode y_L_law.2.1 1109 = .ok (.iaload, 1) := by decide +kernel
theorem d_L_law_1110 : decode y_L_law.2.1 1110 = .ok (.invokevirtual 140, 3) := by decide +kernel
theorem d_L_law_1113 : decode y_L_law.2.1 1113 = .ok (.aload_n 2, 1) := by decide +kernel
theorem d_L_law_1114 : decode y_L_law.2.1 1114 = .ok (.aload_n 0, 1) := by decide +kernel
theorem d_L_law_1115 : decode y_L_law.2.1 1115 = .ok (.iload 4, 2) := by decide +kernel
theorem d_L_law_1117 : decode y_L_law.2.1 1117 = .ok (.iconst 1, 1) := by decide +kernel
theorem d_L_law_1118 : decode y_L_law.2.1 1118 = .ok (.iadd, 1) := by decide +kernel
theorem d_L_law_1119 : decode y_L_law.2.1 1119 = .ok (.iaload, 1) := by decide +kernel
theorem d_L_law_1120 : decode y_L_law.2.1 1120 = .ok (.invokevirtual 143, 3) := by decide +kernel
theorem d_L_law_1123 : decode y_L_law.2.1 1123 = .ok (.if_icmp .eq 410, 3) := by decide +kernel
theorem d_L_law_1126 : decode y_L_law.2.1 1126 = .ok (.iconst 0, 1) := by decide +kernel
theorem d_L_law_1127 : decode y_L_law.2.1 1127 = .ok (.ireturn, 1) := by decide +kernel
theorem d_L_law_1128 : decode y_L_law.2.1 1128 = .ok (.aload_n 1, 1) := by decide +kernel
theorem d_L_law_1129 : decode y_L_law.2.1 1129 = .ok (.aload_n 0, 1) := by decide +kernel
theorem d_L_law_1130 : decode y_L_law.2.1 1130 = .ok (.iload 4, 2) := by decide +kernel
theorem d_L_law_1132 : decode y_L_law.2.1 1132 = .ok (.iconst 1, 1) := by decide +kernel
theorem d_L_law_1133 : decode y_L_law.2.1 1133 = .ok (.iadd, 1) := by decide +kernel
theorem d_L_law_1134 : decode y_L_law.2.1 1134 = .ok (.iaload, 1) := by decide +kernel
theorem d_L_law_1135 : decode y_L_law.2.1 1135 = .ok (.invokevirtual 144, 3) := by decide +kernel
theorem d_L_law_1138 : decode y_L_law.2.1 1138 = .ok (.aload_n 2, 1) := by decide +kernel
theorem d_L_law_1139 : decode y_L_law.2.1 1139 = .ok (.aload_n 0, 1) := by decide +kernel
theorem d_L_law_1140 : decode y_L_law.2.1 1140 = .ok (.iload 4, 2) := by decide +kernel
theorem d_L_law_1142 : decode y_L_law.2.1 1142 = .ok (.iconst 1, 1) := by decide +kernel
theorem d_L_law_1143 : decode y_L_law.2.1 1143 = .ok (.iadd, 1) := by decide +kernel
theorem d_L_law_1144 : decode y_L_law.2.1 1144 = .ok (.iaload, 1) := by decide +kernel
theorem d_L_law_1145 : decode y_L_law.2.1 1145 = .ok (.invokevirtual 147, 3) := by decide +kernel
theorem d_L_law_1148 : decode y_L_law.2.1 1148 = .ok (.if_icmp .eq 385, 3) := by decide +kernel
theorem d_L_law_1151 : decode y_L_law.2.1 1151 = .ok (.iconst 0, 1) := by decide +kernel
theorem d_L_law_1152 : decode y_L_law.2.1 1152 = .ok (.ireturn, 1) := by decide +kernel
theorem d_L_law_1153 : decode y_L_law.2.1 1153 = .ok (.aload_n 1, 1) := by decide +kernel
theorem d_L_law_1154 : decode y_L_law.2.1 1154 = .ok (.aload_n 0, 1) := by decide +kernel
theorem d_L_law_1155 : decode y_L_law.2.1 1155 = .ok (.iload 4, 2) := by decide +kernel
theorem d_L_law_1157 : decode y_L_law.2.1 1157 = .ok (.iconst 1, 1) := by decide +kernel
theorem d_L_law_1158 : decode y_L_law.2.1 1158 = .ok (.iadd, 1) := by decide +kernel
theorem d_L_law_1159 : decode y_L_law.2.1 1159 = .ok (.iaload, 1) := by decide +kernel
theorem d_L_law_1160 : decode y_L_law.2.1 1160 = .ok (.aload_n 0, 1) := by decide +kernel
theorem d_L_law_1161 : decode y_L_law.2.1 1161 = .ok (.iload 4, 2) := by decide +kernel
theorem d_L_law_1163 : decode y_L_law.2.1 1163 = .ok (.iconst 2, 1) := by decide +kernel
theorem d_L_law_1164 : decode y_L_law.2.1 1164 = .ok (.iadd, 1) := by decide +kernel
theorem d_L_law_1165 : decode y_L_law.2.1 1165 = .ok (.iaload, 1) := by decide +kernel
theorem d_L_law_1166 : decode y_L_law.2.1 1166 = .ok (.invokevirtual 148, 3) := by decide +kernel
theorem d_L_law_1169 : decode y_L_law.2.1 1169 = .ok (.aload_n 2, 1) := by decide +kernel
theorem d_L_law_1170 : decode y_L_law.2.1 1170 = .ok (.aload_n 0, 1) := by decide +kernel
theorem d_L_law_1171 : decode y_L_law.2.1 1171 = .ok (.iload 4, 2) := by decide +kernel
theorem d_L_law_1173 : decode y_L_law.2.1 1173 = .ok (.iconst 1, 1) := by decide +kernel
theorem d_L_law_1174 : decode y_L_law.2.1 1174 = .ok (.iadd, 1) := by decide +kernel
theorem d_L_law_1175 : decode y_L_law.2.1 1175 = .ok (.iaload, 1) := by decide +kernel
theorem d_L_law_1176 : decode y_L_law.2.1 1176 = .ok (.aload_n 0, 1) := by decide +kernel
theorem d_L_law_1177 : decode y_L_law.2.1 1177 = .ok (.iload 4, 2) := by decide +kernel
theorem d_L_law_1179 : decode y_L_law.2.1 1179 = .ok (.iconst 2, 1) := by decide +kernel
theorem d_L_law_1180 : decode y_L_law.2.1 1180 = .ok (.iadd, 1) := by decide +kernel
theorem d_L_law_1181 : decode y_L_law.2.1 1181 = .ok (.iaload, 1) := by decide +kernel
theorem d_L_law_1182 : decode y_L_law.2.1 1182 = .ok (.invokevirtual 151, 3) := by decide +kernel
theorem d_L_law_1185 : decode y_L_law.2.1 1185 = .ok (.if_icmp .eq 348, 3) := by decide +kernel
theorem d_L_law_1188 : decode y_L_law.2.1 1188 = .ok (.iconst 0, 1) := by decide +kernel
theorem d_L_law_1189 : decode y_L_law.2.1 1189 = .ok (.ireturn, 1) := by decide +kernel
theorem d_L_law_1190 : decode y_L_law.2.1 1190 = .ok (.aload_n 1, 1) := by decide +kernel
theorem d_L_law_1191 : decode y_L_law.2.1 1191 = .ok (.aload_n 0, 1) := by decide +kernel
theorem d_L_law_1192 : decode y_L_law.2.1 1192 = .ok (.iload 4, 2) := by decide +kernel
theorem d_L_law_1194 : decode y_L_law.2.1 1194 = .ok (.iconst 1, 1) := by decide +kernel
theorem d_L_law_1195 : decode y_L_law.2.1 1195 = .ok (.iadd, 1) := by decide +kernel
theorem d_L_law_1196 : decode y_L_law.2.1 1196 = .ok (.iaload, 1) := by decide +kernel
theorem d_L_law_1197 : decode y_L_law.2.1 1197 = .ok (.invokevirtual 152, 3) := by decide +kernel
theorem d_L_law_1200 : decode y_L_law.2.1 1200 = .ok (.aload_n 2, 1) := by decide +kernel
theorem d_L_law_1201 : decode y_L_law.2.1 1201 = .ok (.aload_n 0, 1) := by decide +kernel
theorem d_L_law_1202 : decode y_L_law.2.1 1202 = .ok (.iload 4, 2) := by decide +kernel
theorem d_L_law_1204 : decode y_L_law.2.1 1204 = .ok (.iconst 1, 1) := by decide +kernel
theorem d_L_law_1205 : decode y_L_law.2.1 1205 = .ok (.iadd, 1) := by decide +kernel
theorem d_L_law_1206 : decode y_L_law.2.1 1206 = .ok (.iaload, 1) := by decide +kernel
theorem d_L_law_1207 : decode y_L_law.2.1 1207 = .ok (.invokevirtual 155, 3) := by decide +kernel
theorem d_L_law_1210 : decode y_L_law.2.1 1210 = .ok (.if_icmp .eq 323, 3) := by decide +kernel
theorem d_L_law_1213 : decode y_L_law.2.1 1213 = .ok (.iconst 0, 1) := by decide +kernel
theorem d_L_law_1214 : decode y_L_law.2.1 1214 = .ok (.ireturn, 1) := by decide +kernel
theorem d_L_law_1215 : decode y_L_law.2.1 1215 = .ok (.aload_n 1, 1) := by decide +kernel
theorem d_L_law_1216 : decode y_L_law.2.1 1216 = .ok (.aload_n 0, 1) := by decide +kernel
theorem d_L_law_1217 : decode y_L_law.2.1 1217 = .ok (.iload 4, 2) := by decide +kernel
theorem d_L_law_1219 : decode y_L_law.2.1 1219 = .ok (.iconst 1, 1) := by decide +kernel
theorem d_L_law_1220 : decode y_L_law.2.1 1220 = .ok (.iadd, 1) := by decide +kernel
theorem d_L_law_1221 : decode y_L_law.2.1 1221 = .ok (.iaload, 1) := by decide +kernel
theorem d_L_law_1222 : decode y_L_law.2.1 1222 = .ok (.aload_n 0, 1) := by decide +kernel
theorem d_L_law_1223 : decode y_L_law.2.1 1223 = .ok (.iload 4, 2) := by decide +kernel
theorem d_L_law_1225 : decode y_L_law.2.1 1225 = .ok (.iconst 2, 1) := by decide +kernel
theorem d_L_law_1226 : decode y_L_law.2.1 1226 = .ok (.iadd, 1) := by decide +kernel
theorem d_L_law_1227 : decode y_L_law.2.1 1227 = .ok (.iaload, 1) := by decide +kernel
theorem d_L_law_1228 : decode y_L_law.2.1 1228 = .ok (.invokevirtual 156, 3) := by decide +kernel
theorem d_L_law_1231 : decode y_L_law.2.1 1231 = .ok (.aload_n 2, 1) := by decide +kernel
theorem d_L_law_1232 : decode y_L_law.2.1 1232 = .ok (.aload_n 0, 1) := by decide +kernel
theorem d_L_law_1233 : decode y_L_law.2.1 1233 = .ok (.iload 4, 2) := by decide +kernel
theorem d_L_law_1235 : decode y_L_law.2.1 1235 = .ok (.iconst 1, 1) := by decide +kernel
theorem d_L_law_1236 : decode y_L_law.2.1 1236 = .ok (.iadd, 1) := by decide +kernel
theorem d_L_law_1237 : decode y_L_law.2.1 1237 = .ok (.iaload, 1) := by decide +kernel
theorem d_L_law_1238 : decode y_L_law.2.1 1238 = .ok (.aload_n 0, 1) := by decide +kernel
theorem d_L_law_1239 : decode y_L_law.2.1 1239 = .ok (.iload 4, 2) := by decide +kernel
theorem d_L_law_1241 : decode y_L_law.2.1 1241 = .ok (.iconst 2, 1) := by decide +kernel
theorem d_L_law_1242 : decode y_L_law.2.1 1242 = .ok (.iadd, 1) := by decide +kernel
theorem d_L_law_1243 : decode y_L_law.2.1 1243 = .ok (.iaload, 1) := by decide +kernel
theorem d_L_law_1244 : decode y_L_law.2.1 1244 = .ok (.invokevirtual 159, 3) := by decide +kernel
theorem d_L_law_1247 : decode y_L_law.2.1 1247 = .ok (.if_icmp .eq 286, 3) := by decide +kernel
theorem d_L_law_1250 : decode y_L_law.2.1 1250 = .ok (.iconst 0, 1) := by decide +kernel
theorem d_L_law_1251 : decode y_L_law.2.1 1251 = .ok (.ireturn, 1) := by decide +kernel
theorem d_L_law_1252 : decode y_L_law.2.1 1252 = .ok (.aload_n 1, 1) := by decide +kernel
theorem d_L_law_1253 : decode y_L_law.2.1 1253 = .ok (.aload_n 0, 1) := by decide +kernel
theorem d_L_law_1254 : decode y_L_law.2.1 1254 = .ok (.iload 4, 2) := by decide +kernel
theorem d_L_law_1256 : decode y_L_law.2.1 1256 = .ok (.iconst 1, 1) := by decide +kernel
theorem d_L_law_1257 : decode y_L_law.2.1 1257 = .ok (.iadd, 1) := by decide +kernel
theorem d_L_law_1258 : decode y_L_law.2.1 1258 = .ok (.iaload, 1) := by decide +kernel
theorem d_L_law_1259 : decode y_L_law.2.1 1259 = .ok (.aload_n 0, 1) := by decide +kernel
theorem d_L_law_1260 : decode y_L_law.2.1 1260 = .ok (.iload 4, 2) := by decide +kernel
theorem d_L_law_1262 : decode y_L_law.2.1 1262 = .ok (.iconst 2, 1) := by decide +kernel
theorem d_L_law_1263 : decode y_L_law.2.1 1263 = .ok (.iadd, 1) := by decide +kernel
theorem d_L_law_1264 : decode y_L_law.2.1 1264 = .ok (.iaload, 1) := by decide +kernel
theorem d_L_law_1265 : decode y_L_law.2.1 1265 = .ok (.invokevirtual 160, 3) := by decide +kernel
theorem d_L_law_1268 : decode y_L_law.2.1 1268 = .ok (.aload_n 2, 1) := by decide +kernel
theorem d_L_law_1269 : decode y_L_law.2.1 1269 = .ok (.aload_n 0, 1) := by decide +kernel
theorem d_L_law_1270 : decode y_L_law.2.1 1270 = .ok (.iload 4, 2) := by decide +kernel
theorem d_L_law_1272 : decode y_L_law.2.1 1272 = .ok (.iconst 1, 1) := by decide +kernel
theorem d_L_law_1273 : decode y_L_law.2.1 1273 = .ok (.iadd, 1) := by decide +kernel
theorem d_L_law_1274 : decode y_L_law.2.1 1274 = .ok (.iaload, 1) := by decide +kernel
theorem d_L_law_1275 : decode y_L_law.2.1 1275 = .ok (.aload_n 0, 1) := by decide +kernel
theorem d_L_law_1276 : decode y_L_law.2.1 1276 = .ok (.iload 4, 2) := by decide +kernel
theorem d_L_law_1278 : decode y_L_law.2.1 1278 = .ok (.iconst 2, 1) := by decide +kernel
theorem d_L_law_1279 : decode y_L_law.2.1 1279 = .ok (.iadd, 1) := by decide +kernel
theorem d_L_law_1280 : decode y_L_law.2.1 1280 = .ok (.iaload, 1) := by decide +kernel
theorem d_L_law_1281 : decode y_L_law.2.1 1281 = .ok (.invokevirtual 163, 3) := by decide +kernel
theorem d_L_law_1284 : decode y_L_law.2.1 1284 = .ok (.if_icmp .eq 249, 3) := by decide +kernel
theorem d_L_law_1287 : decode y_L_law.2.1 1287 = .ok (.iconst 0, 1) := by decide +kernel
theorem d_L_law_1288 : decode y_L_law.2.1 1288 = .ok (.ireturn, 1) := by decide +kernel
theorem d_L_law_1289 : decode y_L_law.2.1 1289 = .ok (.aload_n 1, 1) := by decide +kernel
theorem d_L_law_1290 : decode y_L_law.2.1 1290 = .ok (.invokevirtual 164, 3) := by decide +kernel
theorem d_L_law_1293 : decode y_L_law.2.1 1293 = .ok (.aload_n 2, 1) := by decide +kernel
theorem d_L_law_1294 : decode y_L_law.2.1 1294 = .ok (.invokevirtual 167, 3) := by decide +kernel
theorem d_L_law_1297 : decode y_L_law.2.1 1297 = .ok (.if_icmp .eq 236, 3) := by decide +kernel
theorem d_L_law_1300 : decode y_L_law.2.1 1300 = .ok (.iconst 0, 1) := by decide +kernel
theorem d_L_law_1301 : decode y_L_law.2.1 1301 = .ok (.ireturn, 1) := by decide +kernel
theorem d_L_law_1302 : decode y_L_law.2.1 1302 = .ok (.aload_n 1, 1) := by decide +kernel
theorem d_L_law_1303 : decode y_L_law.2.1 1303 = .ok (.aload_n 0, 1) := by decide +kernel
theorem d_L_law_1304 : decode y_L_law.2.1 1304 = .ok (.iload 4, 2) := by decide +kernel
theorem d_L_law_1306 : decode y_L_law.2.1 1306 = .ok (.iconst 1, 1) := by decide +kernel
theorem d_L_law_1307 : decode y_L_law.2.1 1307 = .ok (.iadd, 1) := by decide +kernel
theorem d_L_law_1308 : decode y_L_law.2.1 1308 = .ok (.iaload, 1) := by decide +kernel
theorem d_L_law_1309 : decode y_L_law.2.1 1309 = .ok (.invokevirtual 168, 3) := by decide +kernel
theorem d_L_law_1312 : decode y_L_law.2.1 1312 = .ok (.aload_n 2, 1) := by decide +kernel
theorem d_L_law_1313 : decode y_L_law.2.1 1313 = .ok (.aload_n 0, 1) := by decide +kernel
theorem d_L_law_1314 : decode y_L_law.2.1 1314 = .ok (.iload 4, 2) := by decide +kernel
theorem d_L_law_1316 : decode y_L_law.2.1 1316 = .ok (.iconst 1, 1) := by decide +kernel
theorem d_L_law_1317 : decode y_L_law.2.1 1317 = .ok (.iadd, 1) := by decide +kernel
theorem d_L_law_1318 : decode y_L_law.2.1 1318 = .ok (.iaload, 1) := by decide +kernel
theorem d_L_law_1319 : decode y_L_law.2.1 1319 = .ok (.invokevirtual 171, 3) := by decide +kernel
theorem d_L_law_1322 : decode y_L_law.2.1 1322 = .ok (.if_icmp .eq 211, 3) := by decide +kernel
theorem d_L_law_1325 : decode y_L_law.2.1 1325 = .ok (.iconst 0, 1) := by decide +kernel
theorem d_L_law_1326 : decode y_L_law.2.1 1326 = .ok (.ireturn, 1) := by decide +kernel
theorem d_L_law_1327 : decode y_L_law.2.1 1327 = .ok (.aload_n 1, 1) := by decide +kernel
theorem d_L_law_1328 : decode y_L_law.2.1 1328 = .ok (.aload_n 0, 1) := by decide +kernel
theorem d_L_law_1329 : decode y_L_law.2.1 1329 = .ok (.iload 4, 2) := by decide +kernel
theorem d_L_law_1331 : decode y_L_law.2.1 1331 = .ok (.iconst 1, 1) := by decide +kernel
theorem d_L_law_1332 : decode y_L_law.2.1 1332 = .ok (.iadd, 1) := by decide +kernel
theorem d_L_law_1333 : decode y_L_law.2.1 1333 = .ok (.iaload, 1) := by decide +kernel
theorem d_L_law_1334 : decode y_L_law.2.1 1334 = .ok (.aload_n 0, 1) := by decide +kernel
theorem d_L_law_1335 : decode y_L_law.2.1 1335 = .ok (.iload 4, 2) := by decide +kernel
theorem d_L_law_1337 : decode y_L_law.2.1 1337 = .ok (.iconst 2, 1) := by decide +kernel
theorem d_L_law_1338 : decode y_L_law.2.1 1338 = .ok (.iadd, 1) := by decide +kernel
theorem d_L_law_1339 : decode y_L_law.2.1 1339 = .ok (.iaload, 1) := by decide +kernel
theorem d_L_law_1340 : decode y_L_law.2.1 1340 = .ok (.aload_n 0, 1) := by decide +kernel
theorem d_L_law_1341 : decode y_L_law.2.1 1341 = .ok (.iload 4, 2) := by decide +kernel
theorem d_L_law_1343 : decode y_L_law.2.1 1343 = .ok (.iconst 3, 1) := by decide +kernel
theorem d_L_law_1344 : decode y_L_law.2.1 1344 = .ok (.iadd, 1) := by decide +kernel
theorem d_L_law_1345 : decode y_L_law.2.1 1345 = .ok (.iaload, 1) := by decide +kernel
theorem d_L_law_1346 : decode y_L_law.2.1 1346 = .ok (.invokevirtual 172, 3) := by decide +kernel
theorem d_L_law_1349 : decode y_L_law.2.1 1349 = .ok (.aload_n 2, 1) := by decide +kernel
theorem d_L_law_1350 : decode y_L_law.2.1 1350 = .ok (.aload_n 0, 1) := by decide +kernel
theorem d_L_law_1351 : decode y_L_law.2.1 1351 = .ok (.iload 4, 2) := by decide +kernel
theorem d_L_law_1353 : decode y_L_law.2.1 1353 = .ok (.iconst 1, 1) := by decide +kernel
theorem d_L_law_1354 : decode y_L_law.2.1 1354 = .ok (.iadd, 1) := by decide +kernel
theorem d_L_law_1355 : decode y_L_law.2.1 1355 = .ok (.iaload, 1) := by decide +kernel
theorem d_L_law_1356 : decode y_L_law.2.1 1356 = .ok (.aload_n 0, 1) := by decide +kernel
theorem d_L_law_1357 : decode y_L_law.2.1 1357 = .ok (.iload 4, 2) := by decide +kernel
theorem d_L_law_1359 : decode y_L_law.2.1 1359 = .ok (.iconst 2, 1) := by decide +kernel
theorem d_L_law_1360 : decode y_L_law.2.1 1360 = .ok (.iadd, 1) := by decide +kernel
theorem d_L_law_1361 : decode y_L_law.2.1 1361 = .ok (.iaload, 1) := by decide +kernel
theorem d_L_law_1362 : decode y_L_law.2.1 1362 = .ok (.aload_n 0, 1) := by decide +kernel
theorem d_L_law_1363 : decode y_L_law.2.1 1363 = .ok (.iload 4, 2) := by decide +kernel
theorem d_L_law_1365 : decode y_L_law.2.1 1365 = .ok (.iconst 3, 1) := by decide +kernel
theorem d_L_law_1366 : decode y_L_law.2.1 1366 = .ok (.iadd, 1) := by decide +kernel
theorem d_L_law_1367 : decode y_L_law.2.1 1367 = .ok (.iaload, 1) := by decide +kernel
theorem d_L_law_1368 : decode y_L_law.2.1 1368 = .ok (.invokevirtual 175, 3) := by decide +kernel
theorem d_L_law_1371 : decode y_L_law.2.1 1371 = .ok (.if_icmp .eq 162, 3) := by decide +kernel
theorem d_L_law_1374 : decode y_L_law.2.1 1374 = .ok (.iconst 0, 1) := by decide +kernel
theorem d_L_law_1375 : decode y_L_law.2.1 1375 = .ok (.ireturn, 1) := by decide +kernel
theorem d_L_law_1376 : decode y_L_law.2.1 1376 = .ok (.aload_n 1, 1) := by decide +kernel
theorem d_L_law_1377 : decode y_L_law.2.1 1377 = .ok (.invokevirtual 176, 3) := by decide +kernel
theorem d_L_law_1380 : decode y_L_law.2.1 1380 = .ok (.aload_n 2, 1) := by decide +kernel
theorem d_L_law_1381 : decode y_L_law.2.1 1381 = .ok (.invokevirtual 179, 3) := by decide +kernel
theorem d_L_law_1384 : decode y_L_law.2.1 1384 = .ok (.if_icmp .eq 149, 3) := by decide +kernel
theorem d_L_law_1387 : decode y_L_law.2.1 1387 = .ok (.iconst 0, 1) := by decide +kernel
theorem d_L_law_1388 : decode y_L_law.2.1 1388 = .ok (.ireturn, 1) := by decide +kernel
theorem d_L_law_1389 : decode y_L_law.2.1 1389 = .ok (.aload_n 1, 1) := by decide +kernel
theorem d_L_law_1390 : decode y_L_law.2.1 1390 = .ok (.invokevirtual 180, 3) := by decide +kernel
theorem d_L_law_1393 : decode y_L_law.2.1 1393 = .ok (.aload_n 2, 1) := by decide +kernel
theorem d_L_law_1394 : decode y_L_law.2.1 1394 = .ok (.invokevirtual 183, 3) := by decide +kernel
theorem d_L_law_1397 : decode y_L_law.2.1 1397 = .ok (.if_icmp .eq 136, 3) := by decide +kernel
theorem d_L_law_1400 : decode y_L_law.2.1 1400 = .ok (.iconst 0, 1) := by decide +kernel
theorem d_L_law_1401 : decode y_L_law.2.1 1401 = .ok (.ireturn, 1) := by decide +kernel
theorem d_L_law_1402 : decode y_L_law.2.1 1402 = .ok (.aload_n 1, 1) := by decide +kernel
theorem d_L_law_1403 : decode y_L_law.2.1 1403 = .ok (.aload_n 0, 1) := by decide +kernel
theorem d_L_law_1404 : decode y_L_law.2.1 1404 = .ok (.iload 4, 2) := by decide +kernel
theorem d_L_law_1406 : decode y_L_law.2.1 1406 = .ok (.iconst 1, 1) := by decide +kernel
theorem d_L_law_1407 : decode y_L_law.2.1 1407 = .ok (.iadd, 1) := by decide +kernel
theorem d_L_law_1408 : decode y_L_law.2.1 1408 = .ok (.iaload, 1) := by decide +kernel
theorem d_L_law_1409 : decode y_L_law.2.1 1409 = .ok (.invokevirtual 184, 3) := by decide +kernel
theorem d_L_law_1412 : decode y_L_law.2.1 1412 = .ok (.aload_n 2, 1) := by decide +kernel
theorem d_L_law_1413 : decode y_L_law.2.1 1413 = .ok (.aload_n 0, 1) := by decide +kernel
theorem d_L_law_1414 : decode y_L_law.2.1 1414 = .ok (.iload 4, 2) := by decide +kernel
theorem d_L_law_1416 : decode y_L_law.2.1 1416 = .ok (.iconst 1, 1) := by decide +kernel
theorem d_L_law_1417 : decode y_L_law.2.1 1417 = .ok (.iadd, 1) := by decide +kernel
theorem d_L_law_1418 : decode y_L_law.2.1 1418 = .ok (.iaload, 1) := by decide +kernel
theorem d_L_law_1419 : decode y_L_law.2.1 1419 = .ok (.invokevirtual 187, 3) := by decide +kernel
theorem d_L_law_1422 : decode y_L_law.2.1 1422 = .ok (.if_icmp .eq 111, 3) := by decide +kernel
theorem d_L_law_1425 : decode y_L_law.2.1 1425 = .ok (.iconst 0, 1) := by decide +kernel
theorem d_L_law_1426 : decode y_L_law.2.1 1426 = .ok (.ireturn, 1) := by decide +kernel
theorem d_L_law_1427 : decode y_L_law.2.1 1427 = .ok (.aload_n 1, 1) := by decide +kernel
theorem d_L_law_1428 : decode y_L_law.2.1 1428 = .ok (.aload_n 0, 1) := by decide +kernel
theorem d_L_law_1429 : decode y_L_law.2.1 1429 = .ok (.iload 4, 2) := by decide +kernel
theorem d_L_law_1431 : decode y_L_law.2.1 1431 = .ok (.iconst 1, 1) := by decide +kernel
theorem d_L_law_1432 : decode y_L_law.2.1 1432 = .ok (.iadd, 1) := by decide +kernel
theorem d_L_law_1433 : decode y_L_law.2.1 1433 = .ok (.iaload, 1) := by decide +kernel
theorem d_L_law_1434 : decode y_L_law.2.1 1434 = .ok (.invokevirtual 188, 3) := by decide +kernel
theorem d_L_law_1437 : decode y_L_law.2.1 1437 = .ok (.aload_n 2, 1) := by decide +kernel
theorem d_L_law_1438 : decode y_L_law.2.1 1438 = .ok (.aload_n 0, 1) := by decide +kernel
theorem d_L_law_1439 : decode y_L_law.2.1 1439 = .ok (.iload 4, 2) := by decide +kernel
theorem d_L_law_1441 : decode y_L_law.2.1 1441 = .ok (.iconst 1, 1) := by decide +kernel
theorem d_L_law_1442 : decode y_L_law.2.1 1442 = .ok (.iadd, 1) := by decide +kernel
theorem d_L_law_1443 : decode y_L_law.2.1 1443 = .ok (.iaload, 1) := by decide +kernel
theorem d_L_law_1444 : decode y_L_law.2.1 1444 = .ok (.invokevirtual 191, 3) := by decide +kernel
theorem d_L_law_1447 : decode y_L_law.2.1 1447 = .ok (.if_icmp .eq 86, 3) := by decide +kernel
theorem d_L_law_1450 : decode y_L_law.2.1 1450 = .ok (.iconst 0, 1) := by decide +kernel
theorem d_L_law_1451 : decode y_L_law.2.1 1451 = .ok (.ireturn, 1) := by decide +kernel
theorem d_L_law_1452 : decode y_L_law.2.1 1452 = .ok (.aload_n 1, 1) := by decide +kernel
theorem d_L_law_1453 : decode y_L_law.2.1 1453 = .ok (.aload_n 0, 1) := by decide +kernel
theorem d_L_law_1454 : decode y_L_law.2.1 1454 = .ok (.iload 4, 2) := by decide +kernel
theorem d_L_law_1456 : decode y_L_law.2.1 1456 = .ok (.iconst 1, 1) := by decide +kernel
theorem d_L_law_1457 : decode y_L_law.2.1 1457 = .ok (.iadd, 1) := by decide +kernel
theorem d_L_law_1458 : decode y_L_law.2.1 1458 = .ok (.iaload, 1) := by decide +kernel
theorem d_L_law_1459 : decode y_L_law.2.1 1459 = .ok (.invokevirtual 192, 3) := by decide +kernel
theorem d_L_law_1462 : decode y_L_law.2.1 1462 = .ok (.aload_n 2, 1) := by decide +kernel
theorem d_L_law_1463 : decode y_L_law.2.1 1463 = .ok (.aload_n 0, 1) := by decide +kernel
theorem d_L_law_1464 : decode y_L_law.2.1 1464 = .ok (.iload 4, 2) := by decide +kernel
theorem d_L_law_1466 : decode y_L_law.2.1 1466 = .ok (.iconst 1, 1) := by decide +kernel
theorem d_L_law_1467 : decode y_L_law.2.1 1467 = .ok (.iadd, 1) := by decide +kernel
theorem d_L_law_1468 : decode y_L_law.2.1 1468 = .ok (.iaload, 1) := by decide +kernel
theorem d_L_law_1469 : decode y_L_law.2.1 1469 = .ok (.invokevirtual 195, 3) := by decide +kernel
theorem d_L_law_1472 : decode y_L_law.2.1 1472 = .ok (.if_icmp .eq 61, 3) := by decide +kernel
theorem d_L_law_1475 : decode y_L_law.2.1 1475 = .ok (.iconst 0, 1) := by decide +kernel
theorem d_L_law_1476 : decode y_L_law.2.1 1476 = .ok (.ireturn, 1) := by decide +kernel
theorem d_L_law_1477 : decode y_L_law.2.1 1477 = .ok (.aload_n 1, 1) := by decide +kernel
theorem d_L_law_1478 : decode y_L_law.2.1 1478 = .ok (.aload_n 0, 1) := by decide +kernel
theorem d_L_law_1479 : decode y_L_law.2.1 1479 = .ok (.iload 4, 2) := by decide +kernel
theorem d_L_law_1481 : decode y_L_law.2.1 1481 = .ok (.iconst 1, 1) := by decide +kernel
theorem d_L_law_1482 : decode y_L_law.2.1 1482 = .ok (.iadd, 1) := by decide +kernel
theorem d_L_law_1483 : decode y_L_law.2.1 1483 = .ok (.iaload, 1) := by decide +kernel
theorem d_L_law_1484 : decode y_L_law.2.1 1484 = .ok (.aload_n 3, 1) := by decide +kernel
theorem d_L_law_1485 : decode y_L_law.2.1 1485 = .ok (.invokestatic 196, 3) := by decide +kernel
theorem d_L_law_1488 : decode y_L_law.2.1 1488 = .ok (.istore 5, 2) := by decide +kernel
theorem d_L_law_1490 : decode y_L_law.2.1 1490 = .ok (.aload_n 2, 1) := by decide +kernel
theorem d_L_law_1491 : decode y_L_law.2.1 1491 = .ok (.aload_n 0, 1) := by decide +kernel
theorem d_L_law_1492 : decode y_L_law.2.1 1492 = .ok (.iload 4, 2) := by decide +kernel
theorem d_L_law_1494 : decode y_L_law.2.1 1494 = .ok (.iconst 1, 1) := by decide +kernel
theorem d_L_law_1495 : decode y_L_law.2.1 1495 = .ok (.iadd, 1) := by decide +kernel
theorem d_L_law_1496 : decode y_L_law.2.1 1496 = .ok (.iaload, 1) := by decide +kernel
theorem d_L_law_1497 : decode y_L_law.2.1 1497 = .ok (.invokevirtual 199, 3) := by decide +kernel
theorem d_L_law_1500 : decode y_L_law.2.1 1500 = .ok (.istore 6, 2) := by decide +kernel
theorem d_L_law_1502 : decode y_L_law.2.1 1502 = .ok (.aload_n 2, 1) := by decide +kernel
theorem d_L_law_1503 : decode y_L_law.2.1 1503 = .ok (.invokevirtual 63, 3) := by decide +kernel
theorem d_L_law_1506 : decode y_L_law.2.1 1506 = .ok (.iload 5, 2) := by decide +kernel
theorem d_L_law_1508 : decode y_L_law.2.1 1508 = .ok (.if_icmp .eq 5, 3) := by decide +kernel
theorem d_L_law_1511 : decode y_L_law.2.1 1511 = .ok (.iconst 0, 1) := by decide +kernel
theorem d_L_law_1512 : decode y_L_law.2.1 1512 = .ok (.ireturn, 1) := by decide +kernel
theorem d_L_law_1513 : decode y_L_law.2.1 1513 = .ok (.iload 5, 2) := by decide +kernel
theorem d_L_law_1515 : decode y_L_law.2.1 1515 = .ok (.ifCond .ne 15, 3) := by decide +kernel
theorem d_L_law_1518 : decode y_L_law.2.1 1518 = .ok (.aload_n 3, 1) := by decide +kernel
theorem d_L_law_1519 : decode y_L_law.2.1 1519 = .ok (.iconst 0, 1) := by decide +kernel
theorem d_L_law_1520 : decode y_L_law.2.1 1520 = .ok (.laload, 1) := by decide +kernel
theorem d_L_law_1521 : decode y_L_law.2.1 1521 = .ok (.iload 6, 2) := by decide +kernel
theorem d_L_law_1523 : decode y_L_law.2.1 1523 = .ok (.i2l, 1) := by decide +kernel
theorem d_L_law_1524 : decode y_L_law.2.1 1524 = .ok (.lcmp, 1) := by decide +kernel
theorem d_L_law_1525 : decode y_L_law.2.1 1525 = .ok (.ifCond .eq 5, 3) := by decide +kernel
theorem d_L_law_1528 : decode y_L_law.2.1 1528 = .ok (.iconst 0, 1) := by decide +kernel
theorem d_L_law_1529 : decode y_L_law.2.1 1529 = .ok (.ireturn, 1) := by decide +kernel
theorem d_L_law_1530 : decode y_L_law.2.1 1530 = .ok (.goto 3, 3) := by decide +kernel
theorem d_L_law_1533 : decode y_L_law.2.1 1533 = .ok (.iinc 4 5, 3) := by decide +kernel
theorem d_L_law_1536 : decode y_L_law.2.1 1536 = .ok (.goto (-1513), 3) := by decide +kernel
theorem d_L_law_1539 : decode y_L_law.2.1 1539 = .ok (.iconst 1, 1) := by decide +kernel
theorem d_L_law_1540 : decode y_L_law.2.1 1540 = .ok (.ireturn, 1) := by decide +kernel
