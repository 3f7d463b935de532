-- written by gen9g.py
set_option maxHeartbeats 4000000 in
set_option maxRecDepth 20000 in
theorem ok_L_lawK (k0 n0 : Nat) (g : ZG) (n Ls : Nat) (xs : Nat → Int32) (s : ZSt) : ZO g 1836 y_L_law ((some (Ls, xs), 513, 6 * 513, []), k0, n0) 23 [(0, .ref 600), (1, .ref 1), (2, .ref 0), (3, .ref 550), (4, .int 0)] [] s (f_L_law n Ls xs s) (fun b => (some (some (.int (b2i b.1))), b.2, 0)) := by
  unfold f_L_law
  refine ZO.loopB (sc := some (Ls, xs)) (hh := []) (fun (x : Int32 × ZSt) => ([(0, .ref 600), (1, .ref 1), (2, .ref 0), (3, .ref 550), (4, .int x.1)] : List (Nat × Value))) (fun (x : Int32 × ZSt) => x.2) (fun j x b1 b2 k1 k2 hj => ?_) 513 k0 n0 ((0 : Int32), s)
  refine ZO.rjnU (u' := ((some (Ls, xs), b1, b2, []), k1 + 1, k2 + 6)) (pcJ := 1533) (LJ := fun (z : ZSt) => ([(0, .ref 600), (1, .ref 1), (2, .ref 0), (3, .ref 550), (4, .int x.1)] : List (Nat × Value))) (SJ := fun _ => []) (σJ := fun z => z) (fun z => ?_) (fun k hk => ?_)
  · refine ZO.iincL (pc := 1533) (i := 4) (x.1 + (5 : Int32)) (L' := fun v1 => [(0, .ref 600), (1, .ref 1), (2, .ref 0), (3, .ref 550), (4, .int v1)]) [1, 2, 3, 4, 0] d_L_law_1533 rfl (by rfl) (by decide) (fun _ => rfl) (fun v1 => ?_)
    refine ZO.goto (pc := 1536) 23 d_L_law_1536 (by decide) ?_
    exact hj (v1, z)
  · refine ZO.iload (pc := 23) 4 d_L_law_23 rfl ?_
    refine ZO.aload_n (pc := 25) 0 d_L_law_25 rfl rfl ?_
    refine ZO.slen (pc := 26) (Ls := Ls) (xs := xs) rfl d_L_law_26 ?_
    refine ZO.iconst (pc := 27) (5 : Int32) d_L_law_27 (by decide) ?_
    refine ZO.isub (pc := 28) d_L_law_28 ?_
    refine ZO.icmp_gt (pc := 29) 1539 d_L_law_29 (by decide) rfl (fun h2 => ?_) (fun h2 => ?_)
    · refine ZO.iconst (pc := 1539) (1 : Int32) d_L_law_1539 (by decide) ?_
      exact ZO.zret (pc := 1540) (v := true) d_L_law_1540 rfl rfl rfl
    · refine ZO.aload_n (pc := 32) 0 d_L_law_32 rfl rfl ?_
      refine ZO.iload (pc := 33) 4 d_L_law_33 rfl ?_
      refine ZO.rgd (fun h3 => ?_)
      refine ZO.sld (pc := 35) (Ls := Ls) (xs := xs) rfl d_L_law_35 h3 ?_
      refine ZO.bipush (pc := 36) (63 : Int32) d_L_law_36 (by decide) ?_
      refine ZO.iand (pc := 38) d_L_law_38 ?_
      refine ZO.ltI (fun v4 => ?_)
      refine ZO.split (c0 := v4 = (0 : Int32)) rfl (fun h5 => ?_) (fun h5 => ?_)
      · refine ZO.tswI (pc := 39) 216 (0 : Int32) h5 d_L_law_39 (by decide) (by decide) (by decide) ?_
        refine ZO.aload_n (pc := 216) 1 d_L_law_216 rfl rfl ?_
        refine ZO.aload_n (pc := 217) 0 d_L_law_217 rfl rfl ?_
        refine ZO.iload (pc := 218) 4 d_L_law_218 rfl ?_
        refine ZO.iconst (pc := 220) (1 : Int32) d_L_law_220 (by decide) ?_
        refine ZO.iadd (pc := 221) d_L_law_221 ?_
        refine ZO.rgd (fun h6 => ?_)
        refine ZO.sld (pc := 222) (Ls := Ls) (xs := xs) rfl d_L_law_222 h6 ?_
        refine ZO.cVI (pc := 223) (As := [.int (xs (x.1 + (1 : Int32)).toNatClampNeg)]) (rest := []) d_L_law_223 zc_L_29 (by decide) zo_1 rfl rfl rfl (Nat.le_of_ble_eq_true rfl) (ok_X_sign g n (xs (x.1 + (1 : Int32)).toNatClampNeg) x.2) (fun p7 ep7 => ?_)
        refine ZO.aload_n (pc := 226) 2 d_L_law_226 rfl rfl ?_
        refine ZO.aload_n (pc := 227) 0 d_L_law_227 rfl rfl ?_
        refine ZO.iload (pc := 228) 4 d_L_law_228 rfl ?_
        refine ZO.iconst (pc := 230) (1 : Int32) d_L_law_230 (by decide) ?_
        refine ZO.iadd (pc := 231) d_L_law_231 ?_
        refine ZO.sld (pc := 232) (Ls := Ls) (xs := xs) rfl d_L_law_232 h6 ?_
        refine ZO.cVI (pc := 233) (As := [.int (xs (x.1 + (1 : Int32)).toNatClampNeg)]) (rest := [.int p7.1]) d_L_law_233 zc_L_32 (by decide) zo_0 rfl rfl rfl (Nat.le_of_ble_eq_true rfl) (ok_M_sign g n (xs (x.1 + (1 : Int32)).toNatClampNeg) p7.2) (fun p8 ep8 => ?_)
        refine ZO.icmp_eq (pc := 236) 1533 d_L_law_236 (by decide) rfl (fun h9 => ?_) (fun h9 => ?_)
        · exact ZO.widenU (hk p8.2)
        · refine ZO.iconst (pc := 239) (0 : Int32) d_L_law_239 (by decide) ?_
          exact ZO.zret (pc := 240) (v := false) d_L_law_240 rfl rfl rfl
      refine ZO.split (c0 := v4 = (1 : Int32)) rfl (fun h10 => ?_) (fun h10 => ?_)
      · refine ZO.tswI (pc := 39) 241 (1 : Int32) h10 d_L_law_39 (by decide) (by decide) (by decide) ?_
        refine ZO.aload_n (pc := 241) 1 d_L_law_241 rfl rfl ?_
        refine ZO.aload_n (pc := 242) 0 d_L_law_242 rfl rfl ?_
        refine ZO.iload (pc := 243) 4 d_L_law_243 rfl ?_
        refine ZO.iconst (pc := 245) (1 : Int32) d_L_law_245 (by decide) ?_
        refine ZO.iadd (pc := 246) d_L_law_246 ?_
        refine ZO.rgd (fun h11 => ?_)
        refine ZO.sld (pc := 247) (Ls := Ls) (xs := xs) rfl d_L_law_247 h11 ?_
        refine ZO.cVB (pc := 248) (As := [.int (xs (x.1 + (1 : Int32)).toNatClampNeg)]) (rest := []) d_L_law_248 zc_L_33 (by decide) zo_1 rfl rfl rfl (Nat.le_of_ble_eq_true rfl) (ok_X_end g (xs (x.1 + (1 : Int32)).toNatClampNeg) x.2) (fun p12 ep12 => ?_)
        refine ZO.aload_n (pc := 251) 2 d_L_law_251 rfl rfl ?_
        refine ZO.aload_n (pc := 252) 0 d_L_law_252 rfl rfl ?_
        refine ZO.iload (pc := 253) 4 d_L_law_253 rfl ?_
        refine ZO.iconst (pc := 255) (1 : Int32) d_L_law_255 (by decide) ?_
        refine ZO.iadd (pc := 256) d_L_law_256 ?_
        refine ZO.sld (pc := 257) (Ls := Ls) (xs := xs) rfl d_L_law_257 h11 ?_
        refine ZO.cVB (pc := 258) (As := [.int (xs (x.1 + (1 : Int32)).toNatClampNeg)]) (rest := [.int (b2i p12.1)]) d_L_law_258 zc_L_37 (by decide) zo_0 rfl rfl rfl (Nat.le_of_ble_eq_true rfl) (ok_M_end g (xs (x.1 + (1 : Int32)).toNatClampNeg) p12.2) (fun p13 ep13 => ?_)
        refine ZO.icmp_eq (pc := 261) 1533 d_L_law_261 (by decide) rfl (fun h14 => ?_) (fun h14 => ?_)
        · exact ZO.widenU (hk p13.2)
        · refine ZO.iconst (pc := 264) (0 : Int32) d_L_law_264 (by decide) ?_
          exact ZO.zret (pc := 265) (v := false) d_L_law_265 rfl rfl rfl
      refine ZO.split (c0 := v4 = (2 : Int32)) rfl (fun h15 => ?_) (fun h15 => ?_)
      · refine ZO.tswI (pc := 39) 266 (2 : Int32) h15 d_L_law_39 (by decide) (by decide) (by decide) ?_
        refine ZO.aload_n (pc := 266) 1 d_L_law_266 rfl rfl ?_
        refine ZO.aload_n (pc := 267) 0 d_L_law_267 rfl rfl ?_
        refine ZO.iload (pc := 268) 4 d_L_law_268 rfl ?_
        refine ZO.iconst (pc := 270) (1 : Int32) d_L_law_270 (by decide) ?_
        refine ZO.iadd (pc := 271) d_L_law_271 ?_
        refine ZO.rgd (fun h16 => ?_)
        refine ZO.sld (pc := 272) (Ls := Ls) (xs := xs) rfl d_L_law_272 h16 ?_
        refine ZO.cVI (pc := 273) (As := [.int (xs (x.1 + (1 : Int32)).toNatClampNeg)]) (rest := []) d_L_law_273 zc_L_38 (by decide) zo_1 rfl rfl rfl (Nat.le_of_ble_eq_true rfl) (ok_X_book g n (xs (x.1 + (1 : Int32)).toNatClampNeg) x.2) (fun p17 ep17 => ?_)
        refine ZO.aload_n (pc := 276) 2 d_L_law_276 rfl rfl ?_
        refine ZO.aload_n (pc := 277) 0 d_L_law_277 rfl rfl ?_
        refine ZO.iload (pc := 278) 4 d_L_law_278 rfl ?_
        refine ZO.iconst (pc := 280) (1 : Int32) d_L_law_280 (by decide) ?_
        refine ZO.iadd (pc := 281) d_L_law_281 ?_
        refine ZO.sld (pc := 282) (Ls := Ls) (xs := xs) rfl d_L_law_282 h16 ?_
        refine ZO.cVI (pc := 283) (As := [.int (xs (x.1 + (1 : Int32)).toNatClampNeg)]) (rest := [.int p17.1]) d_L_law_283 zc_L_41 (by decide) zo_0 rfl rfl rfl (Nat.le_of_ble_eq_true rfl) (ok_M_book g n (xs (x.1 + (1 : Int32)).toNatClampNeg) p17.2) (fun p18 ep18 => ?_)
        refine ZO.icmp_eq (pc := 286) 1533 d_L_law_286 (by decide) rfl (fun h19 => ?_) (fun h19 => ?_)
        · exact ZO.widenU (hk p18.2)
        · refine ZO.iconst (pc := 289) (0 : Int32) d_L_law_289 (by decide) ?_
          exact ZO.zret (pc := 290) (v := false) d_L_law_290 rfl rfl rfl
      refine ZO.split (c0 := v4 = (3 : Int32)) rfl (fun h20 => ?_) (fun h20 => ?_)
      · refine ZO.tswI (pc := 39) 291 (3 : Int32) h20 d_L_law_39 (by decide) (by decide) (by decide) ?_
        refine ZO.aload_n (pc := 291) 1 d_L_law_291 rfl rfl ?_
        refine ZO.cVI (pc := 292) (As := []) (rest := []) d_L_law_292 zc_L_42 (by decide) zo_1 rfl rfl rfl (Nat.le_of_ble_eq_true rfl) (ok_X_rule g n x.2) (fun p21 ep21 => ?_)
        refine ZO.aload_n (pc := 295) 2 d_L_law_295 rfl rfl ?_
        refine ZO.cVI (pc := 296) (As := []) (rest := [.int p21.1]) d_L_law_296 zc_L_46 (by decide) zo_0 rfl rfl rfl (Nat.le_of_ble_eq_true rfl) (ok_M_rule g n p21.2) (fun p22 ep22 => ?_)
        refine ZO.icmp_eq (pc := 299) 1533 d_L_law_299 (by decide) rfl (fun h23 => ?_) (fun h23 => ?_)
        · exact ZO.widenU (hk p22.2)
        · refine ZO.iconst (pc := 302) (0 : Int32) d_L_law_302 (by decide) ?_
          exact ZO.zret (pc := 303) (v := false) d_L_law_303 rfl rfl rfl
      refine ZO.split (c0 := v4 = (4 : Int32)) rfl (fun h24 => ?_) (fun h24 => ?_)
      · refine ZO.tswI (pc := 39) 304 (4 : Int32) h24 d_L_law_39 (by decide) (by decide) (by decide) ?_
        refine ZO.aload_n (pc := 304) 1 d_L_law_304 rfl rfl ?_
        refine ZO.aload_n (pc := 305) 0 d_L_law_305 rfl rfl ?_
        refine ZO.iload (pc := 306) 4 d_L_law_306 rfl ?_
        refine ZO.iconst (pc := 308) (1 : Int32) d_L_law_308 (by decide) ?_
        refine ZO.iadd (pc := 309) d_L_law_309 ?_
        refine ZO.rgd (fun h25 => ?_)
        refine ZO.sld (pc := 310) (Ls := Ls) (xs := xs) rfl d_L_law_310 h25 ?_
        refine ZO.aload_n (pc := 311) 0 d_L_law_311 rfl rfl ?_
        refine ZO.iload (pc := 312) 4 d_L_law_312 rfl ?_
        refine ZO.iconst (pc := 314) (2 : Int32) d_L_law_314 (by decide) ?_
        refine ZO.iadd (pc := 315) d_L_law_315 ?_
        refine ZO.rgd (fun h26 => ?_)
        refine ZO.sld (pc := 316) (Ls := Ls) (xs := xs) rfl d_L_law_316 h26 ?_
        refine ZO.aload_n (pc := 317) 0 d_L_law_317 rfl rfl ?_
        refine ZO.iload (pc := 318) 4 d_L_law_318 rfl ?_
        refine ZO.iconst (pc := 320) (3 : Int32) d_L_law_320 (by decide) ?_
        refine ZO.iadd (pc := 321) d_L_law_321 ?_
        refine ZO.rgd (fun h27 => ?_)
        refine ZO.sld (pc := 322) (Ls := Ls) (xs := xs) rfl d_L_law_322 h27 ?_
        refine ZO.cVI (pc := 323) (As := [.int (xs (x.1 + (1 : Int32)).toNatClampNeg), .int (xs (x.1 + (2 : Int32)).toNatClampNeg), .int (xs (x.1 + (3 : Int32)).toNatClampNeg)]) (rest := []) d_L_law_323 zc_L_47 (by decide) zo_1 rfl rfl rfl (Nat.le_of_ble_eq_true rfl) (ok_X_set g (xs (x.1 + (1 : Int32)).toNatClampNeg) (xs (x.1 + (2 : Int32)).toNatClampNeg) (xs (x.1 + (3 : Int32)).toNatClampNeg) x.2) (fun p28 ep28 => ?_)
        refine ZO.aload_n (pc := 326) 2 d_L_law_326 rfl rfl ?_
        refine ZO.aload_n (pc := 327) 0 d_L_law_327 rfl rfl ?_
        refine ZO.iload (pc := 328) 4 d_L_law_328 rfl ?_
        refine ZO.iconst (pc := 330) (1 : Int32) d_L_law_330 (by decide) ?_
        refine ZO.iadd (pc := 331) d_L_law_331 ?_
        refine ZO.sld (pc := 332) (Ls := Ls) (xs := xs) rfl d_L_law_332 h25 ?_
        refine ZO.aload_n (pc := 333) 0 d_L_law_333 rfl rfl ?_
        refine ZO.iload (pc := 334) 4 d_L_law_334 rfl ?_
        refine ZO.iconst (pc := 336) (2 : Int32) d_L_law_336 (by decide) ?_
        refine ZO.iadd (pc := 337) d_L_law_337 ?_
        refine ZO.sld (pc := 338) (Ls := Ls) (xs := xs) rfl d_L_law_338 h26 ?_
        refine ZO.aload_n (pc := 339) 0 d_L_law_339 rfl rfl ?_
        refine ZO.iload (pc := 340) 4 d_L_law_340 rfl ?_
        refine ZO.iconst (pc := 342) (3 : Int32) d_L_law_342 (by decide) ?_
        refine ZO.iadd (pc := 343) d_L_law_343 ?_
        refine ZO.sld (pc := 344) (Ls := Ls) (xs := xs) rfl d_L_law_344 h27 ?_
        refine ZO.cVI (pc := 345) (As := [.int (xs (x.1 + (1 : Int32)).toNatClampNeg), .int (xs (x.1 + (2 : Int32)).toNatClampNeg), .int (xs (x.1 + (3 : Int32)).toNatClampNeg)]) (rest := [.int p28.1]) d_L_law_345 zc_L_51 (by decide) zo_0 rfl rfl rfl (Nat.le_of_ble_eq_true rfl) (ok_M_set g (xs (x.1 + (1 : Int32)).toNatClampNeg) (xs (x.1 + (2 : Int32)).toNatClampNeg) (xs (x.1 + (3 : Int32)).toNatClampNeg) p28.2) (fun p29 ep29 => ?_)
        refine ZO.icmp_eq (pc := 348) 1533 d_L_law_348 (by decide) rfl (fun h30 => ?_) (fun h30 => ?_)
        · exact ZO.widenU (hk p29.2)
        · refine ZO.iconst (pc := 351) (0 : Int32) d_L_law_351 (by decide) ?_
          exact ZO.zret (pc := 352) (v := false) d_L_law_352 rfl rfl rfl
      refine ZO.split (c0 := v4 = (5 : Int32)) rfl (fun h31 => ?_) (fun h31 => ?_)
      · refine ZO.tswI (pc := 39) 353 (5 : Int32) h31 d_L_law_39 (by decide) (by decide) (by decide) ?_
        refine ZO.aload_n (pc := 353) 1 d_L_law_353 rfl rfl ?_
        refine ZO.aload_n (pc := 354) 0 d_L_law_354 rfl rfl ?_
        refine ZO.iload (pc := 355) 4 d_L_law_355 rfl ?_
        refine ZO.iconst (pc := 357) (1 : Int32) d_L_law_357 (by decide) ?_
        refine ZO.iadd (pc := 358) d_L_law_358 ?_
        refine ZO.rgd (fun h32 => ?_)
        refine ZO.sld (pc := 359) (Ls := Ls) (xs := xs) rfl d_L_law_359 h32 ?_
        refine ZO.aload_n (pc := 360) 0 d_L_law_360 rfl rfl ?_
        refine ZO.iload (pc := 361) 4 d_L_law_361 rfl ?_
        refine ZO.iconst (pc := 363) (2 : Int32) d_L_law_363 (by decide) ?_
        refine ZO.iadd (pc := 364) d_L_law_364 ?_
        refine ZO.rgd (fun h33 => ?_)
        refine ZO.sld (pc := 365) (Ls := Ls) (xs := xs) rfl d_L_law_365 h33 ?_
        refine ZO.aload_n (pc := 366) 0 d_L_law_366 rfl rfl ?_
        refine ZO.iload (pc := 367) 4 d_L_law_367 rfl ?_
        refine ZO.iconst (pc := 369) (3 : Int32) d_L_law_369 (by decide) ?_
        refine ZO.iadd (pc := 370) d_L_law_370 ?_
        refine ZO.rgd (fun h34 => ?_)
        refine ZO.sld (pc := 371) (Ls := Ls) (xs := xs) rfl d_L_law_371 h34 ?_
        refine ZO.aload_n (pc := 372) 0 d_L_law_372 rfl rfl ?_
        refine ZO.iload (pc := 373) 4 d_L_law_373 rfl ?_
        refine ZO.iconst (pc := 375) (4 : Int32) d_L_law_375 (by decide) ?_
        refine ZO.iadd (pc := 376) d_L_law_376 ?_
        refine ZO.rgd (fun h35 => ?_)
        refine ZO.sld (pc := 377) (Ls := Ls) (xs := xs) rfl d_L_law_377 h35 ?_
        refine ZO.cVI (pc := 378) (As := [.int (xs (x.1 + (1 : Int32)).toNatClampNeg), .int (xs (x.1 + (2 : Int32)).toNatClampNeg), .int (xs (x.1 + (3 : Int32)).toNatClampNeg), .int (xs (x.1 + (4 : Int32)).toNatClampNeg)]) (rest := []) d_L_law_378 zc_L_52 (by decide) zo_1 rfl rfl rfl (Nat.le_of_ble_eq_true rfl) (ok_X_sheet g n (xs (x.1 + (1 : Int32)).toNatClampNeg) (xs (x.1 + (2 : Int32)).toNatClampNeg) (xs (x.1 + (3 : Int32)).toNatClampNeg) (xs (x.1 + (4 : Int32)).toNatClampNeg) x.2) (fun p36 ep36 => ?_)
        refine ZO.aload_n (pc := 381) 2 d_L_law_381 rfl rfl ?_
        refine ZO.aload_n (pc := 382) 0 d_L_law_382 rfl rfl ?_
        refine ZO.iload (pc := 383) 4 d_L_law_383 rfl ?_
        refine ZO.iconst (pc := 385) (1 : Int32) d_L_law_385 (by decide) ?_
        refine ZO.iadd (pc := 386) d_L_law_386 ?_
        refine ZO.sld (pc := 387) (Ls := Ls) (xs := xs) rfl d_L_law_387 h32 ?_
        refine ZO.aload_n (pc := 388) 0 d_L_law_388 rfl rfl ?_
        refine ZO.iload (pc := 389) 4 d_L_law_389 rfl ?_
        refine ZO.iconst (pc := 391) (2 : Int32) d_L_law_391 (by decide) ?_
        refine ZO.iadd (pc := 392) d_L_law_392 ?_
        refine ZO.sld (pc := 393) (Ls := Ls) (xs := xs) rfl d_L_law_393 h33 ?_
        refine ZO.aload_n (pc := 394) 0 d_L_law_394 rfl rfl ?_
        refine ZO.iload (pc := 395) 4 d_L_law_395 rfl ?_
        refine ZO.iconst (pc := 397) (3 : Int32) d_L_law_397 (by decide) ?_
        refine ZO.iadd (pc := 398) d_L_law_398 ?_
        refine ZO.sld (pc := 399) (Ls := Ls) (xs := xs) rfl d_L_law_399 h34 ?_
        refine ZO.aload_n (pc := 400) 0 d_L_law_400 rfl rfl ?_
        refine ZO.iload (pc := 401) 4 d_L_law_401 rfl ?_
        refine ZO.iconst (pc := 403) (4 : Int32) d_L_law_403 (by decide) ?_
        refine ZO.iadd (pc := 404) d_L_law_404 ?_
        refine ZO.sld (pc := 405) (Ls := Ls) (xs := xs) rfl d_L_law_405 h35 ?_
        refine ZO.cVI (pc := 406) (As := [.int (xs (x.1 + (1 : Int32)).toNatClampNeg), .int (xs (x.1 + (2 : Int32)).toNatClampNeg), .int (xs (x.1 + (3 : Int32)).toNatClampNeg), .int (xs (x.1 + (4 : Int32)).toNatClampNeg)]) (rest := [.int p36.1]) d_L_law_406 zc_L_56 (by decide) zo_0 rfl rfl rfl (Nat.le_of_ble_eq_true rfl) (ok_M_sheet g n (xs (x.1 + (1 : Int32)).toNatClampNeg) (xs (x.1 + (2 : Int32)).toNatClampNeg) (xs (x.1 + (3 : Int32)).toNatClampNeg) (xs (x.1 + (4 : Int32)).toNatClampNeg) p36.2) (fun p37 ep37 => ?_)
        refine ZO.icmp_eq (pc := 409) 1533 d_L_law_409 (by decide) rfl (fun h38 => ?_) (fun h38 => ?_)
        · exact ZO.widenU (hk p37.2)
        · refine ZO.iconst (pc := 412) (0 : Int32) d_L_law_412 (by decide) ?_
          exact ZO.zret (pc := 413) (v := false) d_L_law_413 rfl rfl rfl
      refine ZO.split (c0 := v4 = (6 : Int32)) rfl (fun h39 => ?_) (fun h39 => ?_)
      · refine ZO.tswI (pc := 39) 414 (6 : Int32) h39 d_L_law_39 (by decide) (by decide) (by decide) ?_
        refine ZO.aload_n (pc := 414) 1 d_L_law_414 rfl rfl ?_
        refine ZO.aload_n (pc := 415) 0 d_L_law_415 rfl rfl ?_
        refine ZO.iload (pc := 416) 4 d_L_law_416 rfl ?_
        refine ZO.iconst (pc := 418) (1 : Int32) d_L_law_418 (by decide) ?_
        refine ZO.iadd (pc := 419) d_L_law_419 ?_
        refine ZO.rgd (fun h40 => ?_)
        refine ZO.sld (pc := 420) (Ls := Ls) (xs := xs) rfl d_L_law_420 h40 ?_
        refine ZO.aload_n (pc := 421) 0 d_L_law_421 rfl rfl ?_
        refine ZO.iload (pc := 422) 4 d_L_law_422 rfl ?_
        refine ZO.iconst (pc := 424) (2 : Int32) d_L_law_424 (by decide) ?_
        refine ZO.iadd (pc := 425) d_L_law_425 ?_
        refine ZO.rgd (fun h41 => ?_)
        refine ZO.sld (pc := 426) (Ls := Ls) (xs := xs) rfl d_L_law_426 h41 ?_
        refine ZO.aload_n (pc := 427) 3 d_L_law_427 rfl rfl ?_
        refine ZO.callW (pc := 428) (As := [.ref 1, .int (xs (x.1 + (1 : Int32)).toNatClampNeg), .int (xs (x.1 + (2 : Int32)).toNatClampNeg), .ref 550]) (rest := []) (d' := 9) d_L_law_428 zcw_L_about (by decide) rfl rfl (Nat.le_of_ble_eq_true rfl) (okw_L_about g n (xs (x.1 + (1 : Int32)).toNatClampNeg) (xs (x.1 + (2 : Int32)).toNatClampNeg) x.2) (fun p42 ep42 => ?_)
        refine ZO.istore (pc := 431) (v := p42.1) (L' := [(0, .ref 600), (1, .ref 1), (2, .ref 0), (3, .ref 550), (4, .int x.1), (5, .int p42.1)]) [1, 2, 3, 4, 5, 0] d_L_law_431 (by decide) rfl ?_
        refine ZO.aload_n (pc := 433) 2 d_L_law_433 rfl rfl ?_
        refine ZO.aload_n (pc := 434) 0 d_L_law_434 rfl rfl ?_
        refine ZO.iload (pc := 435) 4 d_L_law_435 rfl ?_
        refine ZO.iconst (pc := 437) (1 : Int32) d_L_law_437 (by decide) ?_
        refine ZO.iadd (pc := 438) d_L_law_438 ?_
        refine ZO.sld (pc := 439) (Ls := Ls) (xs := xs) rfl d_L_law_439 h40 ?_
        refine ZO.aload_n (pc := 440) 0 d_L_law_440 rfl rfl ?_
        refine ZO.iload (pc := 441) 4 d_L_law_441 rfl ?_
        refine ZO.iconst (pc := 443) (2 : Int32) d_L_law_443 (by decide) ?_
        refine ZO.iadd (pc := 444) d_L_law_444 ?_
        refine ZO.sld (pc := 445) (Ls := Ls) (xs := xs) rfl d_L_law_445 h41 ?_
        refine ZO.cVI (pc := 446) (As := [.int (xs (x.1 + (1 : Int32)).toNatClampNeg), .int (xs (x.1 + (2 : Int32)).toNatClampNeg)]) (rest := []) d_L_law_446 zc_L_62 (by decide) zo_0 rfl rfl rfl (Nat.le_of_ble_eq_true rfl) (ok_M_about g n (xs (x.1 + (1 : Int32)).toNatClampNeg) (xs (x.1 + (2 : Int32)).toNatClampNeg) p42.2) (fun p43 ep43 => ?_)
        refine ZO.istore (pc := 449) (v := p43.1) (L' := [(0, .ref 600), (1, .ref 1), (2, .ref 0), (3, .ref 550), (4, .int x.1), (5, .int p42.1), (6, .int p43.1)]) [1, 2, 3, 4, 5, 6, 0] d_L_law_449 (by decide) rfl ?_
        refine ZO.aload_n (pc := 451) 2 d_L_law_451 rfl rfl ?_
        refine ZO.tVI (pc := 452) (As := []) (rest := []) d_L_law_452 zc_L_63 (by decide) zo_0 rfl rfl rfl (Nat.le_of_ble_eq_true rfl) (ok_M_thrown g p43.2) ?_
        refine ZO.iload (pc := 455) 5 d_L_law_455 rfl ?_
        refine ZO.icmp_eq (pc := 457) 462 d_L_law_457 (by decide) rfl (fun h44 => ?_) (fun h44 => ?_)
        · refine ZO.iload (pc := 462) 5 d_L_law_462 rfl ?_
          refine ZO.if_ne (pc := 464) 479 d_L_law_464 (by decide) rfl (fun h45 => ?_) (fun h45 => ?_)
          · refine ZO.aload_n (pc := 467) 3 d_L_law_467 rfl rfl ?_
            refine ZO.iconst (pc := 468) (0 : Int32) d_L_law_468 (by decide) ?_
            refine ZO.lald (pc := 469) d_L_law_469 za_550 (by decide) ?_
            refine ZO.iload (pc := 470) 6 d_L_law_470 rfl ?_
            refine ZO.i2l (pc := 472) d_L_law_472 ?_
            refine ZO.lcmp (pc := 473) d_L_law_473 ?_
            refine ZO.if_eq (pc := 474) 479 d_L_law_474 (by decide) rfl (fun h46 => ?_) (fun h46 => ?_)
            · refine ZO.goto (pc := 479) 1533 d_L_law_479 (by decide) ?_
              exact ZO.sub [0, 1, 2, 3, 4] rfl (hk p43.2)
            · refine ZO.iconst (pc := 477) (0 : Int32) d_L_law_477 (by decide) ?_
              exact ZO.zret (pc := 478) (v := false) d_L_law_478 rfl rfl rfl
          · refine ZO.goto (pc := 479) 1533 d_L_law_479 (by decide) ?_
            exact ZO.sub [0, 1, 2, 3, 4] rfl (hk p43.2)
        · refine ZO.iconst (pc := 460) (0 : Int32) d_L_law_460 (by decide) ?_
          exact ZO.zret (pc := 461) (v := false) d_L_law_461 rfl rfl rfl
      refine ZO.split (c0 := v4 = (7 : Int32)) rfl (fun h47 => ?_) (fun h47 => ?_)
      · refine ZO.tswI (pc := 39) 482 (7 : Int32) h47 d_L_law_39 (by decide) (by decide) (by decide) ?_
        refine ZO.aload_n (pc := 482) 1 d_L_law_482 rfl rfl ?_
        refine ZO.aload_n (pc := 483) 0 d_L_law_483 rfl rfl ?_
        refine ZO.iload (pc := 484) 4 d_L_law_484 rfl ?_
        refine ZO.iconst (pc := 486) (1 : Int32) d_L_law_486 (by decide) ?_
        refine ZO.iadd (pc := 487) d_L_law_487 ?_
        refine ZO.rgd (fun h48 => ?_)
        refine ZO.sld (pc := 488) (Ls := Ls) (xs := xs) rfl d_L_law_488 h48 ?_
        refine ZO.tVI (pc := 489) (As := [.int (xs (x.1 + (1 : Int32)).toNatClampNeg)]) (rest := []) d_L_law_489 zc_L_66 (by decide) zo_1 rfl rfl rfl (Nat.le_of_ble_eq_true rfl) (ok_X_open g (xs (x.1 + (1 : Int32)).toNatClampNeg) x.2) ?_
        refine ZO.aload_n (pc := 492) 2 d_L_law_492 rfl rfl ?_
        refine ZO.aload_n (pc := 493) 0 d_L_law_493 rfl rfl ?_
        refine ZO.iload (pc := 494) 4 d_L_law_494 rfl ?_
        refine ZO.iconst (pc := 496) (1 : Int32) d_L_law_496 (by decide) ?_
        refine ZO.iadd (pc := 497) d_L_law_497 ?_
        refine ZO.sld (pc := 498) (Ls := Ls) (xs := xs) rfl d_L_law_498 h48 ?_
        refine ZO.cVI (pc := 499) (As := [.int (xs (x.1 + (1 : Int32)).toNatClampNeg)]) (rest := [.int (f_X_open (xs (x.1 + (1 : Int32)).toNatClampNeg) x.2)]) d_L_law_499 zc_L_69 (by decide) zo_0 rfl rfl rfl (Nat.le_of_ble_eq_true rfl) (ok_M_open g (xs (x.1 + (1 : Int32)).toNatClampNeg) x.2) (fun p49 ep49 => ?_)
        refine ZO.icmp_eq (pc := 502) 1533 d_L_law_502 (by decide) rfl (fun h50 => ?_) (fun h50 => ?_)
        · exact ZO.widenU (hk p49.2)
        · refine ZO.iconst (pc := 505) (0 : Int32) d_L_law_505 (by decide) ?_
          exact ZO.zret (pc := 506) (v := false) d_L_law_506 rfl rfl rfl
      refine ZO.split (c0 := v4 = (8 : Int32)) rfl (fun h51 => ?_) (fun h51 => ?_)
      · refine ZO.tswI (pc := 39) 507 (8 : Int32) h51 d_L_law_39 (by decide) (by decide) (by decide) ?_
        refine ZO.aload_n (pc := 507) 1 d_L_law_507 rfl rfl ?_
        refine ZO.aload_n (pc := 508) 0 d_L_law_508 rfl rfl ?_
        refine ZO.iload (pc := 509) 4 d_L_law_509 rfl ?_
        refine ZO.iconst (pc := 511) (1 : Int32) d_L_law_511 (by decide) ?_
        refine ZO.iadd (pc := 512) d_L_law_512 ?_
        refine ZO.rgd (fun h52 => ?_)
        refine ZO.sld (pc := 513) (Ls := Ls) (xs := xs) rfl d_L_law_513 h52 ?_
        refine ZO.aload_n (pc := 514) 0 d_L_law_514 rfl rfl ?_
        refine ZO.iload (pc := 515) 4 d_L_law_515 rfl ?_
        refine ZO.iconst (pc := 517) (2 : Int32) d_L_law_517 (by decide) ?_
        refine ZO.iadd (pc := 518) d_L_law_518 ?_
        refine ZO.rgd (fun h53 => ?_)
        refine ZO.sld (pc := 519) (Ls := Ls) (xs := xs) rfl d_L_law_519 h53 ?_
        refine ZO.aload_n (pc := 520) 3 d_L_law_520 rfl rfl ?_
        refine ZO.callW (pc := 521) (As := [.ref 1, .int (xs (x.1 + (1 : Int32)).toNatClampNeg), .int (xs (x.1 + (2 : Int32)).toNatClampNeg), .ref 550]) (rest := []) (d' := 9) d_L_law_521 zcw_L_value (by decide) rfl rfl (Nat.le_of_ble_eq_true rfl) (okw_L_value g n (xs (x.1 + (1 : Int32)).toNatClampNeg) (xs (x.1 + (2 : Int32)).toNatClampNeg) x.2) (fun p54 ep54 => ?_)
        refine ZO.istore (pc := 524) (v := p54.1) (L' := [(0, .ref 600), (1, .ref 1), (2, .ref 0), (3, .ref 550), (4, .int x.1), (5, .int p54.1)]) [1, 2, 3, 4, 5, 0] d_L_law_524 (by decide) rfl ?_
        refine ZO.aload_n (pc := 526) 2 d_L_law_526 rfl rfl ?_
        refine ZO.aload_n (pc := 527) 0 d_L_law_527 rfl rfl ?_
        refine ZO.iload (pc := 528) 4 d_L_law_528 rfl ?_
        refine ZO.iconst (pc := 530) (1 : Int32) d_L_law_530 (by decide) ?_
        refine ZO.iadd (pc := 531) d_L_law_531 ?_
        refine ZO.sld (pc := 532) (Ls := Ls) (xs := xs) rfl d_L_law_532 h52 ?_
        refine ZO.aload_n (pc := 533) 0 d_L_law_533 rfl rfl ?_
        refine ZO.iload (pc := 534) 4 d_L_law_534 rfl ?_
        refine ZO.iconst (pc := 536) (2 : Int32) d_L_law_536 (by decide) ?_
        refine ZO.iadd (pc := 537) d_L_law_537 ?_
        refine ZO.sld (pc := 538) (Ls := Ls) (xs := xs) rfl d_L_law_538 h53 ?_
        refine ZO.cVI (pc := 539) (As := [.int (xs (x.1 + (1 : Int32)).toNatClampNeg), .int (xs (x.1 + (2 : Int32)).toNatClampNeg)]) (rest := []) d_L_law_539 zc_L_72 (by decide) zo_0 rfl rfl rfl (Nat.le_of_ble_eq_true rfl) (ok_M_value g n (xs (x.1 + (1 : Int32)).toNatClampNeg) (xs (x.1 + (2 : Int32)).toNatClampNeg) p54.2) (fun p55 ep55 => ?_)
        refine ZO.istore (pc := 542) (v := p55.1) (L' := [(0, .ref 600), (1, .ref 1), (2, .ref 0), (3, .ref 550), (4, .int x.1), (5, .int p54.1), (6, .int p55.1)]) [1, 2, 3, 4, 5, 6, 0] d_L_law_542 (by decide) rfl ?_
        refine ZO.aload_n (pc := 544) 2 d_L_law_544 rfl rfl ?_
        refine ZO.tVI (pc := 545) (As := []) (rest := []) d_L_law_545 zc_L_63 (by decide) zo_0 rfl rfl rfl (Nat.le_of_ble_eq_true rfl) (ok_M_thrown g p55.2) ?_
        refine ZO.iload (pc := 548) 5 d_L_law_548 rfl ?_
        refine ZO.icmp_eq (pc := 550) 555 d_L_law_550 (by decide) rfl (fun h56 => ?_) (fun h56 => ?_)
        · refine ZO.iload (pc := 555) 5 d_L_law_555 rfl ?_
          refine ZO.if_ne (pc := 557) 572 d_L_law_557 (by decide) rfl (fun h57 => ?_) (fun h57 => ?_)
          · refine ZO.aload_n (pc := 560) 3 d_L_law_560 rfl rfl ?_
            refine ZO.iconst (pc := 561) (0 : Int32) d_L_law_561 (by decide) ?_
            refine ZO.lald (pc := 562) d_L_law_562 za_550 (by decide) ?_
            refine ZO.iload (pc := 563) 6 d_L_law_563 rfl ?_
            refine ZO.i2l (pc := 565) d_L_law_565 ?_
            refine ZO.lcmp (pc := 566) d_L_law_566 ?_
            refine ZO.if_eq (pc := 567) 572 d_L_law_567 (by decide) rfl (fun h58 => ?_) (fun h58 => ?_)
            · refine ZO.goto (pc := 572) 1533 d_L_law_572 (by decide) ?_
              exact ZO.sub [0, 1, 2, 3, 4] rfl (hk p55.2)
            · refine ZO.iconst (pc := 570) (0 : Int32) d_L_law_570 (by decide) ?_
              exact ZO.zret (pc := 571) (v := false) d_L_law_571 rfl rfl rfl
          · refine ZO.goto (pc := 572) 1533 d_L_law_572 (by decide) ?_
            exact ZO.sub [0, 1, 2, 3, 4] rfl (hk p55.2)
        · refine ZO.iconst (pc := 553) (0 : Int32) d_L_law_553 (by decide) ?_
          exact ZO.zret (pc := 554) (v := false) d_L_law_554 rfl rfl rfl
      refine ZO.split (c0 := v4 = (9 : Int32)) rfl (fun h59 => ?_) (fun h59 => ?_)
      · refine ZO.tswI (pc := 39) 575 (9 : Int32) h59 d_L_law_39 (by decide) (by decide) (by decide) ?_
        refine ZO.aload_n (pc := 575) 1 d_L_law_575 rfl rfl ?_
        refine ZO.aload_n (pc := 576) 0 d_L_law_576 rfl rfl ?_
        refine ZO.iload (pc := 577) 4 d_L_law_577 rfl ?_
        refine ZO.iconst (pc := 579) (1 : Int32) d_L_law_579 (by decide) ?_
        refine ZO.iadd (pc := 580) d_L_law_580 ?_
        refine ZO.rgd (fun h60 => ?_)
        refine ZO.sld (pc := 581) (Ls := Ls) (xs := xs) rfl d_L_law_581 h60 ?_
        refine ZO.cVI (pc := 582) (As := [.int (xs (x.1 + (1 : Int32)).toNatClampNeg)]) (rest := []) d_L_law_582 zc_L_73 (by decide) zo_1 rfl rfl rfl (Nat.le_of_ble_eq_true rfl) (ok_X_act g n (xs (x.1 + (1 : Int32)).toNatClampNeg) x.2) (fun p61 ep61 => ?_)
        refine ZO.aload_n (pc := 585) 2 d_L_law_585 rfl rfl ?_
        refine ZO.aload_n (pc := 586) 0 d_L_law_586 rfl rfl ?_
        refine ZO.iload (pc := 587) 4 d_L_law_587 rfl ?_
        refine ZO.iconst (pc := 589) (1 : Int32) d_L_law_589 (by decide) ?_
        refine ZO.iadd (pc := 590) d_L_law_590 ?_
        refine ZO.sld (pc := 591) (Ls := Ls) (xs := xs) rfl d_L_law_591 h60 ?_
        refine ZO.cVI (pc := 592) (As := [.int (xs (x.1 + (1 : Int32)).toNatClampNeg)]) (rest := [.int p61.1]) d_L_law_592 zc_L_76 (by decide) zo_0 rfl rfl rfl (Nat.le_of_ble_eq_true rfl) (ok_M_act g n (xs (x.1 + (1 : Int32)).toNatClampNeg) p61.2) (fun p62 ep62 => ?_)
        refine ZO.icmp_eq (pc := 595) 1533 d_L_law_595 (by decide) rfl (fun h63 => ?_) (fun h63 => ?_)
        · exact ZO.widenU (hk p62.2)
        · refine ZO.iconst (pc := 598) (0 : Int32) d_L_law_598 (by decide) ?_
          exact ZO.zret (pc := 599) (v := false) d_L_law_599 rfl rfl rfl
      refine ZO.split (c0 := v4 = (10 : Int32)) rfl (fun h64 => ?_) (fun h64 => ?_)
      · refine ZO.tswI (pc := 39) 600 (10 : Int32) h64 d_L_law_39 (by decide) (by decide) (by decide) ?_
        refine ZO.aload_n (pc := 600) 1 d_L_law_600 rfl rfl ?_
        refine ZO.aload_n (pc := 601) 0 d_L_law_601 rfl rfl ?_
        refine ZO.iload (pc := 602) 4 d_L_law_602 rfl ?_
        refine ZO.iconst (pc := 604) (1 : Int32) d_L_law_604 (by decide) ?_
        refine ZO.iadd (pc := 605) d_L_law_605 ?_
        refine ZO.rgd (fun h65 => ?_)
        refine ZO.sld (pc := 606) (Ls := Ls) (xs := xs) rfl d_L_law_606 h65 ?_
        refine ZO.cVI (pc := 607) (As := [.int (xs (x.1 + (1 : Int32)).toNatClampNeg)]) (rest := []) d_L_law_607 zc_L_77 (by decide) zo_1 rfl rfl rfl (Nat.le_of_ble_eq_true rfl) (ok_X_why g n (xs (x.1 + (1 : Int32)).toNatClampNeg) x.2) (fun p66 ep66 => ?_)
        refine ZO.aload_n (pc := 610) 2 d_L_law_610 rfl rfl ?_
        refine ZO.aload_n (pc := 611) 0 d_L_law_611 rfl rfl ?_
        refine ZO.iload (pc := 612) 4 d_L_law_612 rfl ?_
        refine ZO.iconst (pc := 614) (1 : Int32) d_L_law_614 (by decide) ?_
        refine ZO.iadd (pc := 615) d_L_law_615 ?_
        refine ZO.sld (pc := 616) (Ls := Ls) (xs := xs) rfl d_L_law_616 h65 ?_
        refine ZO.cVI (pc := 617) (As := [.int (xs (x.1 + (1 : Int32)).toNatClampNeg)]) (rest := [.int p66.1]) d_L_law_617 zc_L_80 (by decide) zo_0 rfl rfl rfl (Nat.le_of_ble_eq_true rfl) (ok_M_why g n (xs (x.1 + (1 : Int32)).toNatClampNeg) p66.2) (fun p67 ep67 => ?_)
        refine ZO.icmp_eq (pc := 620) 1533 d_L_law_620 (by decide) rfl (fun h68 => ?_) (fun h68 => ?_)
        · exact ZO.widenU (hk p67.2)
        · refine ZO.iconst (pc := 623) (0 : Int32) d_L_law_623 (by decide) ?_
          exact ZO.zret (pc := 624) (v := false) d_L_law_624 rfl rfl rfl
      refine ZO.split (c0 := v4 = (11 : Int32)) rfl (fun h69 => ?_) (fun h69 => ?_)
      · refine ZO.tswI (pc := 39) 625 (11 : Int32) h69 d_L_law_39 (by decide) (by decide) (by decide) ?_
        refine ZO.aload_n (pc := 625) 1 d_L_law_625 rfl rfl ?_
        refine ZO.cVI (pc := 626) (As := []) (rest := []) d_L_law_626 zc_L_81 (by decide) zo_1 rfl rfl rfl (Nat.le_of_ble_eq_true rfl) (ok_X_can g n x.2) (fun p70 ep70 => ?_)
        refine ZO.aload_n (pc := 629) 2 d_L_law_629 rfl rfl ?_
        refine ZO.cVI (pc := 630) (As := []) (rest := [.int p70.1]) d_L_law_630 zc_L_84 (by decide) zo_0 rfl rfl rfl (Nat.le_of_ble_eq_true rfl) (ok_M_can g n p70.2) (fun p71 ep71 => ?_)
        refine ZO.icmp_eq (pc := 633) 1533 d_L_law_633 (by decide) rfl (fun h72 => ?_) (fun h72 => ?_)
        · exact ZO.widenU (hk p71.2)
        · refine ZO.iconst (pc := 636) (0 : Int32) d_L_law_636 (by decide) ?_
          exact ZO.zret (pc := 637) (v := false) d_L_law_637 rfl rfl rfl
      refine ZO.split (c0 := v4 = (12 : Int32)) rfl (fun h73 => ?_) (fun h73 => ?_)
      · refine ZO.tswI (pc := 39) 638 (12 : Int32) h73 d_L_law_39 (by decide) (by decide) (by decide) ?_
        refine ZO.aload_n (pc := 638) 1 d_L_law_638 rfl rfl ?_
        refine ZO.aload_n (pc := 639) 0 d_L_law_639 rfl rfl ?_
        refine ZO.iload (pc := 640) 4 d_L_law_640 rfl ?_
        refine ZO.iconst (pc := 642) (1 : Int32) d_L_law_642 (by decide) ?_
        refine ZO.iadd (pc := 643) d_L_law_643 ?_
        refine ZO.rgd (fun h74 => ?_)
        refine ZO.sld (pc := 644) (Ls := Ls) (xs := xs) rfl d_L_law_644 h74 ?_
        refine ZO.cVI (pc := 645) (As := [.int (xs (x.1 + (1 : Int32)).toNatClampNeg)]) (rest := []) d_L_law_645 zc_L_85 (by decide) zo_1 rfl rfl rfl (Nat.le_of_ble_eq_true rfl) (ok_X_night g n (xs (x.1 + (1 : Int32)).toNatClampNeg) x.2) (fun p75 ep75 => ?_)
        refine ZO.aload_n (pc := 648) 2 d_L_law_648 rfl rfl ?_
        refine ZO.aload_n (pc := 649) 0 d_L_law_649 rfl rfl ?_
        refine ZO.iload (pc := 650) 4 d_L_law_650 rfl ?_
        refine ZO.iconst (pc := 652) (1 : Int32) d_L_law_652 (by decide) ?_
        refine ZO.iadd (pc := 653) d_L_law_653 ?_
        refine ZO.sld (pc := 654) (Ls := Ls) (xs := xs) rfl d_L_law_654 h74 ?_
        refine ZO.cVI (pc := 655) (As := [.int (xs (x.1 + (1 : Int32)).toNatClampNeg)]) (rest := [.int p75.1]) d_L_law_655 zc_L_88 (by decide) zo_0 rfl rfl rfl (Nat.le_of_ble_eq_true rfl) (ok_M_night g n (xs (x.1 + (1 : Int32)).toNatClampNeg) p75.2) (fun p76 ep76 => ?_)
        refine ZO.icmp_eq (pc := 658) 1533 d_L_law_658 (by decide) rfl (fun h77 => ?_) (fun h77 => ?_)
        · exact ZO.widenU (hk p76.2)
        · refine ZO.iconst (pc := 661) (0 : Int32) d_L_law_661 (by decide) ?_
          exact ZO.zret (pc := 662) (v := false) d_L_law_662 rfl rfl rfl
      refine ZO.split (c0 := v4 = (13 : Int32)) rfl (fun h78 => ?_) (fun h78 => ?_)
      · refine ZO.tswI (pc := 39) 663 (13 : Int32) h78 d_L_law_39 (by decide) (by decide) (by decide) ?_
        refine ZO.aload_n (pc := 663) 1 d_L_law_663 rfl rfl ?_
        refine ZO.aload_n (pc := 664) 0 d_L_law_664 rfl rfl ?_
        refine ZO.iload (pc := 665) 4 d_L_law_665 rfl ?_
        refine ZO.iconst (pc := 667) (1 : Int32) d_L_law_667 (by decide) ?_
        refine ZO.iadd (pc := 668) d_L_law_668 ?_
        refine ZO.rgd (fun h79 => ?_)
        refine ZO.sld (pc := 669) (Ls := Ls) (xs := xs) rfl d_L_law_669 h79 ?_
        refine ZO.aload_n (pc := 670) 0 d_L_law_670 rfl rfl ?_
        refine ZO.iload (pc := 671) 4 d_L_law_671 rfl ?_
        refine ZO.iconst (pc := 673) (2 : Int32) d_L_law_673 (by decide) ?_
        refine ZO.iadd (pc := 674) d_L_law_674 ?_
        refine ZO.rgd (fun h80 => ?_)
        refine ZO.sld (pc := 675) (Ls := Ls) (xs := xs) rfl d_L_law_675 h80 ?_
        refine ZO.aload_n (pc := 676) 0 d_L_law_676 rfl rfl ?_
        refine ZO.iload (pc := 677) 4 d_L_law_677 rfl ?_
        refine ZO.iconst (pc := 679) (3 : Int32) d_L_law_679 (by decide) ?_
        refine ZO.iadd (pc := 680) d_L_law_680 ?_
        refine ZO.rgd (fun h81 => ?_)
        refine ZO.sld (pc := 681) (Ls := Ls) (xs := xs) rfl d_L_law_681 h81 ?_
        refine ZO.cVI (pc := 682) (As := [.int (xs (x.1 + (1 : Int32)).toNatClampNeg), .int (xs (x.1 + (2 : Int32)).toNatClampNeg), .int (xs (x.1 + (3 : Int32)).toNatClampNeg)]) (rest := []) d_L_law_682 zc_L_89 (by decide) zo_1 rfl rfl rfl (Nat.le_of_ble_eq_true rfl) (ok_X_judge g n (xs (x.1 + (1 : Int32)).toNatClampNeg) (xs (x.1 + (2 : Int32)).toNatClampNeg) (xs (x.1 + (3 : Int32)).toNatClampNeg) x.2) (fun p82 ep82 => ?_)
        refine ZO.aload_n (pc := 685) 2 d_L_law_685 rfl rfl ?_
        refine ZO.aload_n (pc := 686) 0 d_L_law_686 rfl rfl ?_
        refine ZO.iload (pc := 687) 4 d_L_law_687 rfl ?_
        refine ZO.iconst (pc := 689) (1 : Int32) d_L_law_689 (by decide) ?_
        refine ZO.iadd (pc := 690) d_L_law_690 ?_
        refine ZO.sld (pc := 691) (Ls := Ls) (xs := xs) rfl d_L_law_691 h79 ?_
        refine ZO.aload_n (pc := 692) 0 d_L_law_692 rfl rfl ?_
        refine ZO.iload (pc := 693) 4 d_L_law_693 rfl ?_
        refine ZO.iconst (pc := 695) (2 : Int32) d_L_law_695 (by decide) ?_
        refine ZO.iadd (pc := 696) d_L_law_696 ?_
        refine ZO.sld (pc := 697) (Ls := Ls) (xs := xs) rfl d_L_law_697 h80 ?_
        refine ZO.aload_n (pc := 698) 0 d_L_law_698 rfl rfl ?_
        refine ZO.iload (pc := 699) 4 d_L_law_699 rfl ?_
        refine ZO.iconst (pc := 701) (3 : Int32) d_L_law_701 (by decide) ?_
        refine ZO.iadd (pc := 702) d_L_law_702 ?_
        refine ZO.sld (pc := 703) (Ls := Ls) (xs := xs) rfl d_L_law_703 h81 ?_
        refine ZO.cVI (pc := 704) (As := [.int (xs (x.1 + (1 : Int32)).toNatClampNeg), .int (xs (x.1 + (2 : Int32)).toNatClampNeg), .int (xs (x.1 + (3 : Int32)).toNatClampNeg)]) (rest := [.int p82.1]) d_L_law_704 zc_L_92 (by decide) zo_0 rfl rfl rfl (Nat.le_of_ble_eq_true rfl) (ok_M_judge g n (xs (x.1 + (1 : Int32)).toNatClampNeg) (xs (x.1 + (2 : Int32)).toNatClampNeg) (xs (x.1 + (3 : Int32)).toNatClampNeg) p82.2) (fun p83 ep83 => ?_)
        refine ZO.icmp_eq (pc := 707) 1533 d_L_law_707 (by decide) rfl (fun h84 => ?_) (fun h84 => ?_)
        · exact ZO.widenU (hk p83.2)
        · refine ZO.iconst (pc := 710) (0 : Int32) d_L_law_710 (by decide) ?_
          exact ZO.zret (pc := 711) (v := false) d_L_law_711 rfl rfl rfl
      refine ZO.split (c0 := v4 = (14 : Int32)) rfl (fun h85 => ?_) (fun h85 => ?_)
      · refine ZO.tswI (pc := 39) 712 (14 : Int32) h85 d_L_law_39 (by decide) (by decide) (by decide) ?_
        refine ZO.aload_n (pc := 712) 1 d_L_law_712 rfl rfl ?_
        refine ZO.aload_n (pc := 713) 0 d_L_law_713 rfl rfl ?_
        refine ZO.iload (pc := 714) 4 d_L_law_714 rfl ?_
        refine ZO.iconst (pc := 716) (1 : Int32) d_L_law_716 (by decide) ?_
        refine ZO.iadd (pc := 717) d_L_law_717 ?_
        refine ZO.rgd (fun h86 => ?_)
        refine ZO.sld (pc := 718) (Ls := Ls) (xs := xs) rfl d_L_law_718 h86 ?_
        refine ZO.aload_n (pc := 719) 0 d_L_law_719 rfl rfl ?_
        refine ZO.iload (pc := 720) 4 d_L_law_720 rfl ?_
        refine ZO.iconst (pc := 722) (2 : Int32) d_L_law_722 (by decide) ?_
        refine ZO.iadd (pc := 723) d_L_law_723 ?_
        refine ZO.rgd (fun h87 => ?_)
        refine ZO.sld (pc := 724) (Ls := Ls) (xs := xs) rfl d_L_law_724 h87 ?_
        refine ZO.cVI (pc := 725) (As := [.int (xs (x.1 + (1 : Int32)).toNatClampNeg), .int (xs (x.1 + (2 : Int32)).toNatClampNeg)]) (rest := []) d_L_law_725 zc_L_93 (by decide) zo_1 rfl rfl rfl (Nat.le_of_ble_eq_true rfl) (ok_X_reader g (xs (x.1 + (1 : Int32)).toNatClampNeg) (xs (x.1 + (2 : Int32)).toNatClampNeg) x.2) (fun p88 ep88 => ?_)
        refine ZO.aload_n (pc := 728) 2 d_L_law_728 rfl rfl ?_
        refine ZO.aload_n (pc := 729) 0 d_L_law_729 rfl rfl ?_
        refine ZO.iload (pc := 730) 4 d_L_law_730 rfl ?_
        refine ZO.iconst (pc := 732) (1 : Int32) d_L_law_732 (by decide) ?_
        refine ZO.iadd (pc := 733) d_L_law_733 ?_
        refine ZO.sld (pc := 734) (Ls := Ls) (xs := xs) rfl d_L_law_734 h86 ?_
        refine ZO.aload_n (pc := 735) 0 d_L_law_735 rfl rfl ?_
        refine ZO.iload (pc := 736) 4 d_L_law_736 rfl ?_
        refine ZO.iconst (pc := 738) (2 : Int32) d_L_law_738 (by decide) ?_
        refine ZO.iadd (pc := 739) d_L_law_739 ?_
        refine ZO.sld (pc := 740) (Ls := Ls) (xs := xs) rfl d_L_law_740 h87 ?_
        refine ZO.cVI (pc := 741) (As := [.int (xs (x.1 + (1 : Int32)).toNatClampNeg), .int (xs (x.1 + (2 : Int32)).toNatClampNeg)]) (rest := [.int p88.1]) d_L_law_741 zc_L_96 (by decide) zo_0 rfl rfl rfl (Nat.le_of_ble_eq_true rfl) (ok_M_reader g (xs (x.1 + (1 : Int32)).toNatClampNeg) (xs (x.1 + (2 : Int32)).toNatClampNeg) p88.2) (fun p89 ep89 => ?_)
        refine ZO.icmp_eq (pc := 744) 1533 d_L_law_744 (by decide) rfl (fun h90 => ?_) (fun h90 => ?_)
        · exact ZO.widenU (hk p89.2)
        · refine ZO.iconst (pc := 747) (0 : Int32) d_L_law_747 (by decide) ?_
          exact ZO.zret (pc := 748) (v := false) d_L_law_748 rfl rfl rfl
      refine ZO.split (c0 := v4 = (15 : Int32)) rfl (fun h91 => ?_) (fun h91 => ?_)
      · refine ZO.tswI (pc := 39) 749 (15 : Int32) h91 d_L_law_39 (by decide) (by decide) (by decide) ?_
        refine ZO.aload_n (pc := 749) 1 d_L_law_749 rfl rfl ?_
        refine ZO.aload_n (pc := 750) 0 d_L_law_750 rfl rfl ?_
        refine ZO.iload (pc := 751) 4 d_L_law_751 rfl ?_
        refine ZO.iconst (pc := 753) (1 : Int32) d_L_law_753 (by decide) ?_
        refine ZO.iadd (pc := 754) d_L_law_754 ?_
        refine ZO.rgd (fun h92 => ?_)
        refine ZO.sld (pc := 755) (Ls := Ls) (xs := xs) rfl d_L_law_755 h92 ?_
        refine ZO.aload_n (pc := 756) 0 d_L_law_756 rfl rfl ?_
        refine ZO.iload (pc := 757) 4 d_L_law_757 rfl ?_
        refine ZO.iconst (pc := 759) (2 : Int32) d_L_law_759 (by decide) ?_
        refine ZO.iadd (pc := 760) d_L_law_760 ?_
        refine ZO.rgd (fun h93 => ?_)
        refine ZO.sld (pc := 761) (Ls := Ls) (xs := xs) rfl d_L_law_761 h93 ?_
        refine ZO.cVI (pc := 762) (As := [.int (xs (x.1 + (1 : Int32)).toNatClampNeg), .int (xs (x.1 + (2 : Int32)).toNatClampNeg)]) (rest := []) d_L_law_762 zc_L_97 (by decide) zo_1 rfl rfl rfl (Nat.le_of_ble_eq_true rfl) (ok_X_sit g (xs (x.1 + (1 : Int32)).toNatClampNeg) (xs (x.1 + (2 : Int32)).toNatClampNeg) x.2) (fun p94 ep94 => ?_)
        refine ZO.aload_n (pc := 765) 2 d_L_law_765 rfl rfl ?_
        refine ZO.aload_n (pc := 766) 0 d_L_law_766 rfl rfl ?_
        refine ZO.iload (pc := 767) 4 d_L_law_767 rfl ?_
        refine ZO.iconst (pc := 769) (1 : Int32) d_L_law_769 (by decide) ?_
        refine ZO.iadd (pc := 770) d_L_law_770 ?_
        refine ZO.sld (pc := 771) (Ls := Ls) (xs := xs) rfl d_L_law_771 h92 ?_
        refine ZO.aload_n (pc := 772) 0 d_L_law_772 rfl rfl ?_
        refine ZO.iload (pc := 773) 4 d_L_law_773 rfl ?_
        refine ZO.iconst (pc := 775) (2 : Int32) d_L_law_775 (by decide) ?_
        refine ZO.iadd (pc := 776) d_L_law_776 ?_
        refine ZO.sld (pc := 777) (Ls := Ls) (xs := xs) rfl d_L_law_777 h93 ?_
        refine ZO.cVI (pc := 778) (As := [.int (xs (x.1 + (1 : Int32)).toNatClampNeg), .int (xs (x.1 + (2 : Int32)).toNatClampNeg)]) (rest := [.int p94.1]) d_L_law_778 zc_L_100 (by decide) zo_0 rfl rfl rfl (Nat.le_of_ble_eq_true rfl) (ok_M_sit g (xs (x.1 + (1 : Int32)).toNatClampNeg) (xs (x.1 + (2 : Int32)).toNatClampNeg) p94.2) (fun p95 ep95 => ?_)
        refine ZO.icmp_eq (pc := 781) 1533 d_L_law_781 (by decide) rfl (fun h96 => ?_) (fun h96 => ?_)
        · exact ZO.widenU (hk p95.2)
        · refine ZO.iconst (pc := 784) (0 : Int32) d_L_law_784 (by decide) ?_
          exact ZO.zret (pc := 785) (v := false) d_L_law_785 rfl rfl rfl
      refine ZO.split (c0 := v4 = (16 : Int32)) rfl (fun h97 => ?_) (fun h97 => ?_)
      · refine ZO.tswI (pc := 39) 786 (16 : Int32) h97 d_L_law_39 (by decide) (by decide) (by decide) ?_
        refine ZO.aload_n (pc := 786) 1 d_L_law_786 rfl rfl ?_
        refine ZO.aload_n (pc := 787) 0 d_L_law_787 rfl rfl ?_
        refine ZO.iload (pc := 788) 4 d_L_law_788 rfl ?_
        refine ZO.iconst (pc := 790) (1 : Int32) d_L_law_790 (by decide) ?_
        refine ZO.iadd (pc := 791) d_L_law_791 ?_
        refine ZO.rgd (fun h98 => ?_)
        refine ZO.sld (pc := 792) (Ls := Ls) (xs := xs) rfl d_L_law_792 h98 ?_
        refine ZO.aload_n (pc := 793) 0 d_L_law_793 rfl rfl ?_
        refine ZO.iload (pc := 794) 4 d_L_law_794 rfl ?_
        refine ZO.iconst (pc := 796) (2 : Int32) d_L_law_796 (by decide) ?_
        refine ZO.iadd (pc := 797) d_L_law_797 ?_
        refine ZO.rgd (fun h99 => ?_)
        refine ZO.sld (pc := 798) (Ls := Ls) (xs := xs) rfl d_L_law_798 h99 ?_
        refine ZO.cVI (pc := 799) (As := [.int (xs (x.1 + (1 : Int32)).toNatClampNeg), .int (xs (x.1 + (2 : Int32)).toNatClampNeg)]) (rest := []) d_L_law_799 zc_L_101 (by decide) zo_1 rfl rfl rfl (Nat.le_of_ble_eq_true rfl) (ok_X_read g n (xs (x.1 + (1 : Int32)).toNatClampNeg) (xs (x.1 + (2 : Int32)).toNatClampNeg) x.2) (fun p100 ep100 => ?_)
        refine ZO.aload_n (pc := 802) 2 d_L_law_802 rfl rfl ?_
        refine ZO.aload_n (pc := 803) 0 d_L_law_803 rfl rfl ?_
        refine ZO.iload (pc := 804) 4 d_L_law_804 rfl ?_
        refine ZO.iconst (pc := 806) (1 : Int32) d_L_law_806 (by decide) ?_
        refine ZO.iadd (pc := 807) d_L_law_807 ?_
        refine ZO.sld (pc := 808) (Ls := Ls) (xs := xs) rfl d_L_law_808 h98 ?_
        refine ZO.aload_n (pc := 809) 0 d_L_law_809 rfl rfl ?_
        refine ZO.iload (pc := 810) 4 d_L_law_810 rfl ?_
        refine ZO.iconst (pc := 812) (2 : Int32) d_L_law_812 (by decide) ?_
        refine ZO.iadd (pc := 813) d_L_law_813 ?_
        refine ZO.sld (pc := 814) (Ls := Ls) (xs := xs) rfl d_L_law_814 h99 ?_
        refine ZO.cVI (pc := 815) (As := [.int (xs (x.1 + (1 : Int32)).toNatClampNeg), .int (xs (x.1 + (2 : Int32)).toNatClampNeg)]) (rest := [.int p100.1]) d_L_law_815 zc_L_104 (by decide) zo_0 rfl rfl rfl (Nat.le_of_ble_eq_true rfl) (ok_M_read g n (xs (x.1 + (1 : Int32)).toNatClampNeg) (xs (x.1 + (2 : Int32)).toNatClampNeg) p100.2) (fun p101 ep101 => ?_)
        refine ZO.icmp_eq (pc := 818) 1533 d_L_law_818 (by decide) rfl (fun h102 => ?_) (fun h102 => ?_)
        · exact ZO.widenU (hk p101.2)
        · refine ZO.iconst (pc := 821) (0 : Int32) d_L_law_821 (by decide) ?_
          exact ZO.zret (pc := 822) (v := false) d_L_law_822 rfl rfl rfl
      refine ZO.split (c0 := v4 = (17 : Int32)) rfl (fun h103 => ?_) (fun h103 => ?_)
      · refine ZO.tswI (pc := 39) 823 (17 : Int32) h103 d_L_law_39 (by decide) (by decide) (by decide) ?_
        refine ZO.aload_n (pc := 823) 1 d_L_law_823 rfl rfl ?_
        refine ZO.aload_n (pc := 824) 0 d_L_law_824 rfl rfl ?_
        refine ZO.iload (pc := 825) 4 d_L_law_825 rfl ?_
        refine ZO.iconst (pc := 827) (1 : Int32) d_L_law_827 (by decide) ?_
        refine ZO.iadd (pc := 828) d_L_law_828 ?_
        refine ZO.rgd (fun h104 => ?_)
        refine ZO.sld (pc := 829) (Ls := Ls) (xs := xs) rfl d_L_law_829 h104 ?_
        refine ZO.aload_n (pc := 830) 0 d_L_law_830 rfl rfl ?_
        refine ZO.iload (pc := 831) 4 d_L_law_831 rfl ?_
        refine ZO.iconst (pc := 833) (2 : Int32) d_L_law_833 (by decide) ?_
        refine ZO.iadd (pc := 834) d_L_law_834 ?_
        refine ZO.rgd (fun h105 => ?_)
        refine ZO.sld (pc := 835) (Ls := Ls) (xs := xs) rfl d_L_law_835 h105 ?_
        refine ZO.aload_n (pc := 836) 3 d_L_law_836 rfl rfl ?_
        refine ZO.callW (pc := 837) (As := [.ref 1, .int (xs (x.1 + (1 : Int32)).toNatClampNeg), .int (xs (x.1 + (2 : Int32)).toNatClampNeg), .ref 550]) (rest := []) (d' := 9) d_L_law_837 zcw_L_of (by decide) rfl rfl (Nat.le_of_ble_eq_true rfl) (okw_L_of g (xs (x.1 + (1 : Int32)).toNatClampNeg) (xs (x.1 + (2 : Int32)).toNatClampNeg) x.2) (fun p106 ep106 => ?_)
        refine ZO.istore (pc := 840) (v := p106.1) (L' := [(0, .ref 600), (1, .ref 1), (2, .ref 0), (3, .ref 550), (4, .int x.1), (5, .int p106.1)]) [1, 2, 3, 4, 5, 0] d_L_law_840 (by decide) rfl ?_
        refine ZO.aload_n (pc := 842) 2 d_L_law_842 rfl rfl ?_
        refine ZO.aload_n (pc := 843) 0 d_L_law_843 rfl rfl ?_
        refine ZO.iload (pc := 844) 4 d_L_law_844 rfl ?_
        refine ZO.iconst (pc := 846) (1 : Int32) d_L_law_846 (by decide) ?_
        refine ZO.iadd (pc := 847) d_L_law_847 ?_
        refine ZO.sld (pc := 848) (Ls := Ls) (xs := xs) rfl d_L_law_848 h104 ?_
        refine ZO.aload_n (pc := 849) 0 d_L_law_849 rfl rfl ?_
        refine ZO.iload (pc := 850) 4 d_L_law_850 rfl ?_
        refine ZO.iconst (pc := 852) (2 : Int32) d_L_law_852 (by decide) ?_
        refine ZO.iadd (pc := 853) d_L_law_853 ?_
        refine ZO.sld (pc := 854) (Ls := Ls) (xs := xs) rfl d_L_law_854 h105 ?_
        refine ZO.cVI (pc := 855) (As := [.int (xs (x.1 + (1 : Int32)).toNatClampNeg), .int (xs (x.1 + (2 : Int32)).toNatClampNeg)]) (rest := []) d_L_law_855 zc_L_107 (by decide) zo_0 rfl rfl rfl (Nat.le_of_ble_eq_true rfl) (ok_M_of g (xs (x.1 + (1 : Int32)).toNatClampNeg) (xs (x.1 + (2 : Int32)).toNatClampNeg) p106.2) (fun p107 ep107 => ?_)
        refine ZO.istore (pc := 858) (v := p107.1) (L' := [(0, .ref 600), (1, .ref 1), (2, .ref 0), (3, .ref 550), (4, .int x.1), (5, .int p106.1), (6, .int p107.1)]) [1, 2, 3, 4, 5, 6, 0] d_L_law_858 (by decide) rfl ?_
        refine ZO.aload_n (pc := 860) 2 d_L_law_860 rfl rfl ?_
        refine ZO.tVI (pc := 861) (As := []) (rest := []) d_L_law_861 zc_L_63 (by decide) zo_0 rfl rfl rfl (Nat.le_of_ble_eq_true rfl) (ok_M_thrown g p107.2) ?_
        refine ZO.iload (pc := 864) 5 d_L_law_864 rfl ?_
        refine ZO.icmp_eq (pc := 866) 871 d_L_law_866 (by decide) rfl (fun h108 => ?_) (fun h108 => ?_)
        · refine ZO.iload (pc := 871) 5 d_L_law_871 rfl ?_
          refine ZO.if_ne (pc := 873) 888 d_L_law_873 (by decide) rfl (fun h109 => ?_) (fun h109 => ?_)
          · refine ZO.aload_n (pc := 876) 3 d_L_law_876 rfl rfl ?_
            refine ZO.iconst (pc := 877) (0 : Int32) d_L_law_877 (by decide) ?_
            refine ZO.lald (pc := 878) d_L_law_878 za_550 (by decide) ?_
            refine ZO.iload (pc := 879) 6 d_L_law_879 rfl ?_
            refine ZO.i2l (pc := 881) d_L_law_881 ?_
            refine ZO.lcmp (pc := 882) d_L_law_882 ?_
            refine ZO.if_eq (pc := 883) 888 d_L_law_883 (by decide) rfl (fun h110 => ?_) (fun h110 => ?_)
            · refine ZO.goto (pc := 888) 1533 d_L_law_888 (by decide) ?_
              exact ZO.sub [0, 1, 2, 3, 4] rfl (hk p107.2)
            · refine ZO.iconst (pc := 886) (0 : Int32) d_L_law_886 (by decide) ?_
              exact ZO.zret (pc := 887) (v := false) d_L_law_887 rfl rfl rfl
          · refine ZO.goto (pc := 888) 1533 d_L_law_888 (by decide) ?_
            exact ZO.sub [0, 1, 2, 3, 4] rfl (hk p107.2)
        · refine ZO.iconst (pc := 869) (0 : Int32) d_L_law_869 (by decide) ?_
          exact ZO.zret (pc := 870) (v := false) d_L_law_870 rfl rfl rfl
      refine ZO.split (c0 := v4 = (18 : Int32)) rfl (fun h111 => ?_) (fun h111 => ?_)
      · refine ZO.tswI (pc := 39) 891 (18 : Int32) h111 d_L_law_39 (by decide) (by decide) (by decide) ?_
        refine ZO.aload_n (pc := 891) 1 d_L_law_891 rfl rfl ?_
        refine ZO.aload_n (pc := 892) 0 d_L_law_892 rfl rfl ?_
        refine ZO.iload (pc := 893) 4 d_L_law_893 rfl ?_
        refine ZO.iconst (pc := 895) (1 : Int32) d_L_law_895 (by decide) ?_
        refine ZO.iadd (pc := 896) d_L_law_896 ?_
        refine ZO.rgd (fun h112 => ?_)
        refine ZO.sld (pc := 897) (Ls := Ls) (xs := xs) rfl d_L_law_897 h112 ?_
        refine ZO.cVI (pc := 898) (As := [.int (xs (x.1 + (1 : Int32)).toNatClampNeg)]) (rest := []) d_L_law_898 zc_L_108 (by decide) zo_1 rfl rfl rfl (Nat.le_of_ble_eq_true rfl) (ok_X_hours g n (xs (x.1 + (1 : Int32)).toNatClampNeg) x.2) (fun p113 ep113 => ?_)
        refine ZO.aload_n (pc := 901) 2 d_L_law_901 rfl rfl ?_
        refine ZO.aload_n (pc := 902) 0 d_L_law_902 rfl rfl ?_
        refine ZO.iload (pc := 903) 4 d_L_law_903 rfl ?_
        refine ZO.iconst (pc := 905) (1 : Int32) d_L_law_905 (by decide) ?_
        refine ZO.iadd (pc := 906) d_L_law_906 ?_
        refine ZO.sld (pc := 907) (Ls := Ls) (xs := xs) rfl d_L_law_907 h112 ?_
        refine ZO.cVI (pc := 908) (As := [.int (xs (x.1 + (1 : Int32)).toNatClampNeg)]) (rest := [.int p113.1]) d_L_law_908 zc_L_111 (by decide) zo_0 rfl rfl rfl (Nat.le_of_ble_eq_true rfl) (ok_M_hours g n (xs (x.1 + (1 : Int32)).toNatClampNeg) p113.2) (fun p114 ep114 => ?_)
        refine ZO.icmp_eq (pc := 911) 1533 d_L_law_911 (by decide) rfl (fun h115 => ?_) (fun h115 => ?_)
        · exact ZO.widenU (hk p114.2)
        · refine ZO.iconst (pc := 914) (0 : Int32) d_L_law_914 (by decide) ?_
          exact ZO.zret (pc := 915) (v := false) d_L_law_915 rfl rfl rfl
      refine ZO.split (c0 := v4 = (19 : Int32)) rfl (fun h116 => ?_) (fun h116 => ?_)
      · refine ZO.tswI (pc := 39) 916 (19 : Int32) h116 d_L_law_39 (by decide) (by decide) (by decide) ?_
        refine ZO.aload_n (pc := 916) 1 d_L_law_916 rfl rfl ?_
        refine ZO.aload_n (pc := 917) 0 d_L_law_917 rfl rfl ?_
        refine ZO.iload (pc := 918) 4 d_L_law_918 rfl ?_
        refine ZO.iconst (pc := 920) (1 : Int32) d_L_law_920 (by decide) ?_
        refine ZO.iadd (pc := 921) d_L_law_921 ?_
        refine ZO.rgd (fun h117 => ?_)
        refine ZO.sld (pc := 922) (Ls := Ls) (xs := xs) rfl d_L_law_922 h117 ?_
        refine ZO.cVI (pc := 923) (As := [.int (xs (x.1 + (1 : Int32)).toNatClampNeg)]) (rest := []) d_L_law_923 zc_L_112 (by decide) zo_1 rfl rfl rfl (Nat.le_of_ble_eq_true rfl) (ok_X_log g (xs (x.1 + (1 : Int32)).toNatClampNeg) x.2) (fun p118 ep118 => ?_)
        refine ZO.aload_n (pc := 926) 2 d_L_law_926 rfl rfl ?_
        refine ZO.aload_n (pc := 927) 0 d_L_law_927 rfl rfl ?_
        refine ZO.iload (pc := 928) 4 d_L_law_928 rfl ?_
        refine ZO.iconst (pc := 930) (1 : Int32) d_L_law_930 (by decide) ?_
        refine ZO.iadd (pc := 931) d_L_law_931 ?_
        refine ZO.sld (pc := 932) (Ls := Ls) (xs := xs) rfl d_L_law_932 h117 ?_
        refine ZO.cVI (pc := 933) (As := [.int (xs (x.1 + (1 : Int32)).toNatClampNeg)]) (rest := [.int p118]) d_L_law_933 zc_L_115 (by decide) zo_0 rfl rfl rfl (Nat.le_of_ble_eq_true rfl) (ok_M_log g (xs (x.1 + (1 : Int32)).toNatClampNeg) x.2) (fun p119 ep119 => ?_)
        refine ZO.icmp_eq (pc := 936) 1533 d_L_law_936 (by decide) rfl (fun h120 => ?_) (fun h120 => ?_)
        · exact ZO.widenU (hk p119.2)
        · refine ZO.iconst (pc := 939) (0 : Int32) d_L_law_939 (by decide) ?_
          exact ZO.zret (pc := 940) (v := false) d_L_law_940 rfl rfl rfl
      refine ZO.split (c0 := v4 = (20 : Int32)) rfl (fun h121 => ?_) (fun h121 => ?_)
      · refine ZO.tswI (pc := 39) 941 (20 : Int32) h121 d_L_law_39 (by decide) (by decide) (by decide) ?_
        refine ZO.aload_n (pc := 941) 1 d_L_law_941 rfl rfl ?_
        refine ZO.cVI (pc := 942) (As := []) (rest := []) d_L_law_942 zc_L_116 (by decide) zo_1 rfl rfl rfl (Nat.le_of_ble_eq_true rfl) (ok_X_order g n x.2) (fun p122 ep122 => ?_)
        refine ZO.aload_n (pc := 945) 2 d_L_law_945 rfl rfl ?_
        refine ZO.cVI (pc := 946) (As := []) (rest := [.int p122.1]) d_L_law_946 zc_L_119 (by decide) zo_0 rfl rfl rfl (Nat.le_of_ble_eq_true rfl) (ok_M_order g n p122.2) (fun p123 ep123 => ?_)
        refine ZO.icmp_eq (pc := 949) 1533 d_L_law_949 (by decide) rfl (fun h124 => ?_) (fun h124 => ?_)
        · exact ZO.widenU (hk p123.2)
        · refine ZO.iconst (pc := 952) (0 : Int32) d_L_law_952 (by decide) ?_
          exact ZO.zret (pc := 953) (v := false) d_L_law_953 rfl rfl rfl
      refine ZO.split (c0 := v4 = (21 : Int32)) rfl (fun h125 => ?_) (fun h125 => ?_)
      · refine ZO.tswI (pc := 39) 954 (21 : Int32) h125 d_L_law_39 (by decide) (by decide) (by decide) ?_
        refine ZO.aload_n (pc := 954) 1 d_L_law_954 rfl rfl ?_
        refine ZO.cVI (pc := 955) (As := []) (rest := []) d_L_law_955 zc_L_120 (by decide) zo_1 rfl rfl rfl (Nat.le_of_ble_eq_true rfl) (ok_X_ring g n x.2) (fun p126 ep126 => ?_)
        refine ZO.aload_n (pc := 958) 2 d_L_law_958 rfl rfl ?_
        refine ZO.cVI (pc := 959) (As := []) (rest := [.int p126.1]) d_L_law_959 zc_L_123 (by decide) zo_0 rfl rfl rfl (Nat.le_of_ble_eq_true rfl) (ok_M_ring g n p126.2) (fun p127 ep127 => ?_)
        refine ZO.icmp_eq (pc := 962) 1533 d_L_law_962 (by decide) rfl (fun h128 => ?_) (fun h128 => ?_)
        · exact ZO.widenU (hk p127.2)
        · refine ZO.iconst (pc := 965) (0 : Int32) d_L_law_965 (by decide) ?_
          exact ZO.zret (pc := 966) (v := false) d_L_law_966 rfl rfl rfl
      refine ZO.split (c0 := v4 = (22 : Int32)) rfl (fun h129 => ?_) (fun h129 => ?_)
      · refine ZO.tswI (pc := 39) 967 (22 : Int32) h129 d_L_law_39 (by decide) (by decide) (by decide) ?_
        refine ZO.aload_n (pc := 967) 1 d_L_law_967 rfl rfl ?_
        refine ZO.aload_n (pc := 968) 0 d_L_law_968 rfl rfl ?_
        refine ZO.iload (pc := 969) 4 d_L_law_969 rfl ?_
        refine ZO.iconst (pc := 971) (1 : Int32) d_L_law_971 (by decide) ?_
        refine ZO.iadd (pc := 972) d_L_law_972 ?_
        refine ZO.rgd (fun h130 => ?_)
        refine ZO.sld (pc := 973) (Ls := Ls) (xs := xs) rfl d_L_law_973 h130 ?_
        refine ZO.aload_n (pc := 974) 0 d_L_law_974 rfl rfl ?_
        refine ZO.iload (pc := 975) 4 d_L_law_975 rfl ?_
        refine ZO.iconst (pc := 977) (2 : Int32) d_L_law_977 (by decide) ?_
        refine ZO.iadd (pc := 978) d_L_law_978 ?_
        refine ZO.rgd (fun h131 => ?_)
        refine ZO.sld (pc := 979) (Ls := Ls) (xs := xs) rfl d_L_law_979 h131 ?_
        refine ZO.cVI (pc := 980) (As := [.int (xs (x.1 + (1 : Int32)).toNatClampNeg), .int (xs (x.1 + (2 : Int32)).toNatClampNeg)]) (rest := []) d_L_law_980 zc_L_124 (by decide) zo_1 rfl rfl rfl (Nat.le_of_ble_eq_true rfl) (ok_X_needs g n (xs (x.1 + (1 : Int32)).toNatClampNeg) (xs (x.1 + (2 : Int32)).toNatClampNeg) x.2) (fun p132 ep132 => ?_)
        refine ZO.aload_n (pc := 983) 2 d_L_law_983 rfl rfl ?_
        refine ZO.aload_n (pc := 984) 0 d_L_law_984 rfl rfl ?_
        refine ZO.iload (pc := 985) 4 d_L_law_985 rfl ?_
        refine ZO.iconst (pc := 987) (1 : Int32) d_L_law_987 (by decide) ?_
        refine ZO.iadd (pc := 988) d_L_law_988 ?_
        refine ZO.sld (pc := 989) (Ls := Ls) (xs := xs) rfl d_L_law_989 h130 ?_
        refine ZO.aload_n (pc := 990) 0 d_L_law_990 rfl rfl ?_
        refine ZO.iload (pc := 991) 4 d_L_law_991 rfl ?_
        refine ZO.iconst (pc := 993) (2 : Int32) d_L_law_993 (by decide) ?_
        refine ZO.iadd (pc := 994) d_L_law_994 ?_
        refine ZO.sld (pc := 995) (Ls := Ls) (xs := xs) rfl d_L_law_995 h131 ?_
        refine ZO.cVI (pc := 996) (As := [.int (xs (x.1 + (1 : Int32)).toNatClampNeg), .int (xs (x.1 + (2 : Int32)).toNatClampNeg)]) (rest := [.int p132.1]) d_L_law_996 zc_L_127 (by decide) zo_0 rfl rfl rfl (Nat.le_of_ble_eq_true rfl) (ok_M_needs g n (xs (x.1 + (1 : Int32)).toNatClampNeg) (xs (x.1 + (2 : Int32)).toNatClampNeg) p132.2) (fun p133 ep133 => ?_)
        refine ZO.icmp_eq (pc := 999) 1533 d_L_law_999 (by decide) rfl (fun h134 => ?_) (fun h134 => ?_)
        · exact ZO.widenU (hk p133.2)
        · refine ZO.iconst (pc := 1002) (0 : Int32) d_L_law_1002 (by decide) ?_
          exact ZO.zret (pc := 1003) (v := false) d_L_law_1003 rfl rfl rfl
      refine ZO.split (c0 := v4 = (23 : Int32)) rfl (fun h135 => ?_) (fun h135 => ?_)
      · refine ZO.tswI (pc := 39) 1004 (23 : Int32) h135 d_L_law_39 (by decide) (by decide) (by decide) ?_
        refine ZO.aload_n (pc := 1004) 1 d_L_law_1004 rfl rfl ?_
        refine ZO.aload_n (pc := 1005) 0 d_L_law_1005 rfl rfl ?_
        refine ZO.iload (pc := 1006) 4 d_L_law_1006 rfl ?_
        refine ZO.iconst (pc := 1008) (1 : Int32) d_L_law_1008 (by decide) ?_
        refine ZO.iadd (pc := 1009) d_L_law_1009 ?_
        refine ZO.rgd (fun h136 => ?_)
        refine ZO.sld (pc := 1010) (Ls := Ls) (xs := xs) rfl d_L_law_1010 h136 ?_
        refine ZO.aload_n (pc := 1011) 0 d_L_law_1011 rfl rfl ?_
        refine ZO.iload (pc := 1012) 4 d_L_law_1012 rfl ?_
        refine ZO.iconst (pc := 1014) (2 : Int32) d_L_law_1014 (by decide) ?_
        refine ZO.iadd (pc := 1015) d_L_law_1015 ?_
        refine ZO.rgd (fun h137 => ?_)
        refine ZO.sld (pc := 1016) (Ls := Ls) (xs := xs) rfl d_L_law_1016 h137 ?_
        refine ZO.cVI (pc := 1017) (As := [.int (xs (x.1 + (1 : Int32)).toNatClampNeg), .int (xs (x.1 + (2 : Int32)).toNatClampNeg)]) (rest := []) d_L_law_1017 zc_L_128 (by decide) zo_1 rfl rfl rfl (Nat.le_of_ble_eq_true rfl) (ok_X_bars g n (xs (x.1 + (1 : Int32)).toNatClampNeg) (xs (x.1 + (2 : Int32)).toNatClampNeg) x.2) (fun p138 ep138 => ?_)
        refine ZO.aload_n (pc := 1020) 2 d_L_law_1020 rfl rfl ?_
        refine ZO.aload_n (pc := 1021) 0 d_L_law_1021 rfl rfl ?_
        refine ZO.iload (pc := 1022) 4 d_L_law_1022 rfl ?_
        refine ZO.iconst (pc := 1024) (1 : Int32) d_L_law_1024 (by decide) ?_
        refine ZO.iadd (pc := 1025) d_L_law_1025 ?_
        refine ZO.sld (pc := 1026) (Ls := Ls) (xs := xs) rfl d_L_law_1026 h136 ?_
        refine ZO.aload_n (pc := 1027) 0 d_L_law_1027 rfl rfl ?_
        refine ZO.iload (pc := 1028) 4 d_L_law_1028 rfl ?_
        refine ZO.iconst (pc := 1030) (2 : Int32) d_L_law_1030 (by decide) ?_
        refine ZO.iadd (pc := 1031) d_L_law_1031 ?_
        refine ZO.sld (pc := 1032) (Ls := Ls) (xs := xs) rfl d_L_law_1032 h137 ?_
        refine ZO.cVI (pc := 1033) (As := [.int (xs (x.1 + (1 : Int32)).toNatClampNeg), .int (xs (x.1 + (2 : Int32)).toNatClampNeg)]) (rest := [.int p138.1]) d_L_law_1033 zc_L_131 (by decide) zo_0 rfl rfl rfl (Nat.le_of_ble_eq_true rfl) (ok_M_bars g n (xs (x.1 + (1 : Int32)).toNatClampNeg) (xs (x.1 + (2 : Int32)).toNatClampNeg) p138.2) (fun p139 ep139 => ?_)
        refine ZO.icmp_eq (pc := 1036) 1533 d_L_law_1036 (by decide) rfl (fun h140 => ?_) (fun h140 => ?_)
        · exact ZO.widenU (hk p139.2)
        · refine ZO.iconst (pc := 1039) (0 : Int32) d_L_law_1039 (by decide) ?_
          exact ZO.zret (pc := 1040) (v := false) d_L_law_1040 rfl rfl rfl
      refine ZO.split (c0 := v4 = (24 : Int32)) rfl (fun h141 => ?_) (fun h141 => ?_)
      · refine ZO.tswI (pc := 39) 1041 (24 : Int32) h141 d_L_law_39 (by decide) (by decide) (by decide) ?_
        refine ZO.aload_n (pc := 1041) 1 d_L_law_1041 rfl rfl ?_
        refine ZO.aload_n (pc := 1042) 0 d_L_law_1042 rfl rfl ?_
        refine ZO.iload (pc := 1043) 4 d_L_law_1043 rfl ?_
        refine ZO.iconst (pc := 1045) (1 : Int32) d_L_law_1045 (by decide) ?_
        refine ZO.iadd (pc := 1046) d_L_law_1046 ?_
        refine ZO.rgd (fun h142 => ?_)
        refine ZO.sld (pc := 1047) (Ls := Ls) (xs := xs) rfl d_L_law_1047 h142 ?_
        refine ZO.aload_n (pc := 1048) 0 d_L_law_1048 rfl rfl ?_
        refine ZO.iload (pc := 1049) 4 d_L_law_1049 rfl ?_
        refine ZO.iconst (pc := 1051) (2 : Int32) d_L_law_1051 (by decide) ?_
        refine ZO.iadd (pc := 1052) d_L_law_1052 ?_
        refine ZO.rgd (fun h143 => ?_)
        refine ZO.sld (pc := 1053) (Ls := Ls) (xs := xs) rfl d_L_law_1053 h143 ?_
        refine ZO.cVI (pc := 1054) (As := [.int (xs (x.1 + (1 : Int32)).toNatClampNeg), .int (xs (x.1 + (2 : Int32)).toNatClampNeg)]) (rest := []) d_L_law_1054 zc_L_132 (by decide) zo_1 rfl rfl rfl (Nat.le_of_ble_eq_true rfl) (ok_X_least g n (xs (x.1 + (1 : Int32)).toNatClampNeg) (xs (x.1 + (2 : Int32)).toNatClampNeg) x.2) (fun p144 ep144 => ?_)
        refine ZO.aload_n (pc := 1057) 2 d_L_law_1057 rfl rfl ?_
        refine ZO.aload_n (pc := 1058) 0 d_L_law_1058 rfl rfl ?_
        refine ZO.iload (pc := 1059) 4 d_L_law_1059 rfl ?_
        refine ZO.iconst (pc := 1061) (1 : Int32) d_L_law_1061 (by decide) ?_
        refine ZO.iadd (pc := 1062) d_L_law_1062 ?_
        refine ZO.sld (pc := 1063) (Ls := Ls) (xs := xs) rfl d_L_law_1063 h142 ?_
        refine ZO.aload_n (pc := 1064) 0 d_L_law_1064 rfl rfl ?_
        refine ZO.iload (pc := 1065) 4 d_L_law_1065 rfl ?_
        refine ZO.iconst (pc := 1067) (2 : Int32) d_L_law_1067 (by decide) ?_
        refine ZO.iadd (pc := 1068) d_L_law_1068 ?_
        refine ZO.sld (pc := 1069) (Ls := Ls) (xs := xs) rfl d_L_law_1069 h143 ?_
        refine ZO.cVI (pc := 1070) (As := [.int (xs (x.1 + (1 : Int32)).toNatClampNeg), .int (xs (x.1 + (2 : Int32)).toNatClampNeg)]) (rest := [.int p144.1]) d_L_law_1070 zc_L_135 (by decide) zo_0 rfl rfl rfl (Nat.le_of_ble_eq_true rfl) (ok_M_least g n (xs (x.1 + (1 : Int32)).toNatClampNeg) (xs (x.1 + (2 : Int32)).toNatClampNeg) p144.2) (fun p145 ep145 => ?_)
        refine ZO.icmp_eq (pc := 1073) 1533 d_L_law_1073 (by decide) rfl (fun h146 => ?_) (fun h146 => ?_)
        · exact ZO.widenU (hk p145.2)
        · refine ZO.iconst (pc := 1076) (0 : Int32) d_L_law_1076 (by decide) ?_
          exact ZO.zret (pc := 1077) (v := false) d_L_law_1077 rfl rfl rfl
      refine ZO.split (c0 := v4 = (25 : Int32)) rfl (fun h147 => ?_) (fun h147 => ?_)
      · refine ZO.tswI (pc := 39) 1078 (25 : Int32) h147 d_L_law_39 (by decide) (by decide) (by decide) ?_
        refine ZO.aload_n (pc := 1078) 1 d_L_law_1078 rfl rfl ?_
        refine ZO.aload_n (pc := 1079) 0 d_L_law_1079 rfl rfl ?_
        refine ZO.iload (pc := 1080) 4 d_L_law_1080 rfl ?_
        refine ZO.iconst (pc := 1082) (1 : Int32) d_L_law_1082 (by decide) ?_
        refine ZO.iadd (pc := 1083) d_L_law_1083 ?_
        refine ZO.rgd (fun h148 => ?_)
        refine ZO.sld (pc := 1084) (Ls := Ls) (xs := xs) rfl d_L_law_1084 h148 ?_
        refine ZO.cVI (pc := 1085) (As := [.int (xs (x.1 + (1 : Int32)).toNatClampNeg)]) (rest := []) d_L_law_1085 zc_L_136 (by decide) zo_1 rfl rfl rfl (Nat.le_of_ble_eq_true rfl) (ok_X_knot g n (xs (x.1 + (1 : Int32)).toNatClampNeg) x.2) (fun p149 ep149 => ?_)
        refine ZO.aload_n (pc := 1088) 2 d_L_law_1088 rfl rfl ?_
        refine ZO.aload_n (pc := 1089) 0 d_L_law_1089 rfl rfl ?_
        refine ZO.iload (pc := 1090) 4 d_L_law_1090 rfl ?_
        refine ZO.iconst (pc := 1092) (1 : Int32) d_L_law_1092 (by decide) ?_
        refine ZO.iadd (pc := 1093) d_L_law_1093 ?_
        refine ZO.sld (pc := 1094) (Ls := Ls) (xs := xs) rfl d_L_law_1094 h148 ?_
        refine ZO.cVI (pc := 1095) (As := [.int (xs (x.1 + (1 : Int32)).toNatClampNeg)]) (rest := [.int p149.1]) d_L_law_1095 zc_L_139 (by decide) zo_0 rfl rfl rfl (Nat.le_of_ble_eq_true rfl) (ok_M_knot g n (xs (x.1 + (1 : Int32)).toNatClampNeg) p149.2) (fun p150 ep150 => ?_)
        refine ZO.icmp_eq (pc := 1098) 1533 d_L_law_1098 (by decide) rfl (fun h151 => ?_) (fun h151 => ?_)
        · exact ZO.widenU (hk p150.2)
        · refine ZO.iconst (pc := 1101) (0 : Int32) d_L_law_1101 (by decide) ?_
          exact ZO.zret (pc := 1102) (v := false) d_L_law_1102 rfl rfl rfl
      refine ZO.split (c0 := v4 = (26 : Int32)) rfl (fun h152 => ?_) (fun h152 => ?_)
      · refine ZO.tswI (pc := 39) 1103 (26 : Int32) h152 d_L_law_39 (by decide) (by decide) (by decide) ?_
        refine ZO.aload_n (pc := 1103) 1 d_L_law_1103 rfl rfl ?_
        refine ZO.aload_n (pc := 1104) 0 d_L_law_1104 rfl rfl ?_
        refine ZO.iload (pc := 1105) 4 d_L_law_1105 rfl ?_
        refine ZO.iconst (pc := 1107) (1 : Int32) d_L_law_1107 (by decide) ?_
        refine ZO.iadd (pc := 1108) d_L_law_1108 ?_
        refine ZO.rgd (fun h153 => ?_)
        refine ZO.sld (pc := 1109) (Ls := Ls) (xs := xs) rfl d_L_law_1109 h153 ?_
        refine ZO.cVI (pc := 1110) (As := [.int (xs (x.1 + (1 : Int32)).toNatClampNeg)]) (rest := []) d_L_law_1110 zc_L_140 (by decide) zo_1 rfl rfl rfl (Nat.le_of_ble_eq_true rfl) (ok_X_hold g n (xs (x.1 + (1 : Int32)).toNatClampNeg) x.2) (fun p154 ep154 => ?_)
        refine ZO.aload_n (pc := 1113) 2 d_L_law_1113 rfl rfl ?_
        refine ZO.aload_n (pc := 1114) 0 d_L_law_1114 rfl rfl ?_
        refine ZO.iload (pc := 1115) 4 d_L_law_1115 rfl ?_
        refine ZO.iconst (pc := 1117) (1 : Int32) d_L_law_1117 (by decide) ?_
        refine ZO.iadd (pc := 1118) d_L_law_1118 ?_
        refine ZO.sld (pc := 1119) (Ls := Ls) (xs := xs) rfl d_L_law_1119 h153 ?_
        refine ZO.cVI (pc := 1120) (As := [.int (xs (x.1 + (1 : Int32)).toNatClampNeg)]) (rest := [.int p154.1]) d_L_law_1120 zc_L_143 (by decide) zo_0 rfl rfl rfl (Nat.le_of_ble_eq_true rfl) (ok_M_hold g n (xs (x.1 + (1 : Int32)).toNatClampNeg) p154.2) (fun p155 ep155 => ?_)
        refine ZO.icmp_eq (pc := 1123) 1533 d_L_law_1123 (by decide) rfl (fun h156 => ?_) (fun h156 => ?_)
        · exact ZO.widenU (hk p155.2)
        · refine ZO.iconst (pc := 1126) (0 : Int32) d_L_law_1126 (by decide) ?_
          exact ZO.zret (pc := 1127) (v := false) d_L_law_1127 rfl rfl rfl
      refine ZO.split (c0 := v4 = (27 : Int32)) rfl (fun h157 => ?_) (fun h157 => ?_)
      · refine ZO.tswI (pc := 39) 1128 (27 : Int32) h157 d_L_law_39 (by decide) (by decide) (by decide) ?_
        refine ZO.aload_n (pc := 1128) 1 d_L_law_1128 rfl rfl ?_
        refine ZO.aload_n (pc := 1129) 0 d_L_law_1129 rfl rfl ?_
        refine ZO.iload (pc := 1130) 4 d_L_law_1130 rfl ?_
        refine ZO.iconst (pc := 1132) (1 : Int32) d_L_law_1132 (by decide) ?_
        refine ZO.iadd (pc := 1133) d_L_law_1133 ?_
        refine ZO.rgd (fun h158 => ?_)
        refine ZO.sld (pc := 1134) (Ls := Ls) (xs := xs) rfl d_L_law_1134 h158 ?_
        refine ZO.cVI (pc := 1135) (As := [.int (xs (x.1 + (1 : Int32)).toNatClampNeg)]) (rest := []) d_L_law_1135 zc_L_144 (by decide) zo_1 rfl rfl rfl (Nat.le_of_ble_eq_true rfl) (ok_X_comes g n (xs (x.1 + (1 : Int32)).toNatClampNeg) x.2) (fun p159 ep159 => ?_)
        refine ZO.aload_n (pc := 1138) 2 d_L_law_1138 rfl rfl ?_
        refine ZO.aload_n (pc := 1139) 0 d_L_law_1139 rfl rfl ?_
        refine ZO.iload (pc := 1140) 4 d_L_law_1140 rfl ?_
        refine ZO.iconst (pc := 1142) (1 : Int32) d_L_law_1142 (by decide) ?_
        refine ZO.iadd (pc := 1143) d_L_law_1143 ?_
        refine ZO.sld (pc := 1144) (Ls := Ls) (xs := xs) rfl d_L_law_1144 h158 ?_
        refine ZO.cVI (pc := 1145) (As := [.int (xs (x.1 + (1 : Int32)).toNatClampNeg)]) (rest := [.int p159.1]) d_L_law_1145 zc_L_147 (by decide) zo_0 rfl rfl rfl (Nat.le_of_ble_eq_true rfl) (ok_M_comes g n (xs (x.1 + (1 : Int32)).toNatClampNeg) p159.2) (fun p160 ep160 => ?_)
        refine ZO.icmp_eq (pc := 1148) 1533 d_L_law_1148 (by decide) rfl (fun h161 => ?_) (fun h161 => ?_)
        · exact ZO.widenU (hk p160.2)
        · refine ZO.iconst (pc := 1151) (0 : Int32) d_L_law_1151 (by decide) ?_
          exact ZO.zret (pc := 1152) (v := false) d_L_law_1152 rfl rfl rfl
      refine ZO.split (c0 := v4 = (28 : Int32)) rfl (fun h162 => ?_) (fun h162 => ?_)
      · refine ZO.tswI (pc := 39) 1153 (28 : Int32) h162 d_L_law_39 (by decide) (by decide) (by decide) ?_
        refine ZO.aload_n (pc := 1153) 1 d_L_law_1153 rfl rfl ?_
        refine ZO.aload_n (pc := 1154) 0 d_L_law_1154 rfl rfl ?_
        refine ZO.iload (pc := 1155) 4 d_L_law_1155 rfl ?_
        refine ZO.iconst (pc := 1157) (1 : Int32) d_L_law_1157 (by decide) ?_
        refine ZO.iadd (pc := 1158) d_L_law_1158 ?_
        refine ZO.rgd (fun h163 => ?_)
        refine ZO.sld (pc := 1159) (Ls := Ls) (xs := xs) rfl d_L_law_1159 h163 ?_
        refine ZO.aload_n (pc := 1160) 0 d_L_law_1160 rfl rfl ?_
        refine ZO.iload (pc := 1161) 4 d_L_law_1161 rfl ?_
        refine ZO.iconst (pc := 1163) (2 : Int32) d_L_law_1163 (by decide) ?_
        refine ZO.iadd (pc := 1164) d_L_law_1164 ?_
        refine ZO.rgd (fun h164 => ?_)
        refine ZO.sld (pc := 1165) (Ls := Ls) (xs := xs) rfl d_L_law_1165 h164 ?_
        refine ZO.cVI (pc := 1166) (As := [.int (xs (x.1 + (1 : Int32)).toNatClampNeg), .int (xs (x.1 + (2 : Int32)).toNatClampNeg)]) (rest := []) d_L_law_1166 zc_L_148 (by decide) zo_1 rfl rfl rfl (Nat.le_of_ble_eq_true rfl) (ok_X_together g n (xs (x.1 + (1 : Int32)).toNatClampNeg) (xs (x.1 + (2 : Int32)).toNatClampNeg) x.2) (fun p165 ep165 => ?_)
        refine ZO.aload_n (pc := 1169) 2 d_L_law_1169 rfl rfl ?_
        refine ZO.aload_n (pc := 1170) 0 d_L_law_1170 rfl rfl ?_
        refine ZO.iload (pc := 1171) 4 d_L_law_1171 rfl ?_
        refine ZO.iconst (pc := 1173) (1 : Int32) d_L_law_1173 (by decide) ?_
        refine ZO.iadd (pc := 1174) d_L_law_1174 ?_
        refine ZO.sld (pc := 1175) (Ls := Ls) (xs := xs) rfl d_L_law_1175 h163 ?_
        refine ZO.aload_n (pc := 1176) 0 d_L_law_1176 rfl rfl ?_
        refine ZO.iload (pc := 1177) 4 d_L_law_1177 rfl ?_
        refine ZO.iconst (pc := 1179) (2 : Int32) d_L_law_1179 (by decide) ?_
        refine ZO.iadd (pc := 1180) d_L_law_1180 ?_
        refine ZO.sld (pc := 1181) (Ls := Ls) (xs := xs) rfl d_L_law_1181 h164 ?_
        refine ZO.cVI (pc := 1182) (As := [.int (xs (x.1 + (1 : Int32)).toNatClampNeg), .int (xs (x.1 + (2 : Int32)).toNatClampNeg)]) (rest := [.int p165.1]) d_L_law_1182 zc_L_151 (by decide) zo_0 rfl rfl rfl (Nat.le_of_ble_eq_true rfl) (ok_M_together g n (xs (x.1 + (1 : Int32)).toNatClampNeg) (xs (x.1 + (2 : Int32)).toNatClampNeg) p165.2) (fun p166 ep166 => ?_)
        refine ZO.icmp_eq (pc := 1185) 1533 d_L_law_1185 (by decide) rfl (fun h167 => ?_) (fun h167 => ?_)
        · exact ZO.widenU (hk p166.2)
        · refine ZO.iconst (pc := 1188) (0 : Int32) d_L_law_1188 (by decide) ?_
          exact ZO.zret (pc := 1189) (v := false) d_L_law_1189 rfl rfl rfl
      refine ZO.split (c0 := v4 = (29 : Int32)) rfl (fun h168 => ?_) (fun h168 => ?_)
      · refine ZO.tswI (pc := 39) 1190 (29 : Int32) h168 d_L_law_39 (by decide) (by decide) (by decide) ?_
        refine ZO.aload_n (pc := 1190) 1 d_L_law_1190 rfl rfl ?_
        refine ZO.aload_n (pc := 1191) 0 d_L_law_1191 rfl rfl ?_
        refine ZO.iload (pc := 1192) 4 d_L_law_1192 rfl ?_
        refine ZO.iconst (pc := 1194) (1 : Int32) d_L_law_1194 (by decide) ?_
        refine ZO.iadd (pc := 1195) d_L_law_1195 ?_
        refine ZO.rgd (fun h169 => ?_)
        refine ZO.sld (pc := 1196) (Ls := Ls) (xs := xs) rfl d_L_law_1196 h169 ?_
        refine ZO.cVI (pc := 1197) (As := [.int (xs (x.1 + (1 : Int32)).toNatClampNeg)]) (rest := []) d_L_law_1197 zc_L_152 (by decide) zo_1 rfl rfl rfl (Nat.le_of_ble_eq_true rfl) (ok_X_frees g n (xs (x.1 + (1 : Int32)).toNatClampNeg) x.2) (fun p170 ep170 => ?_)
        refine ZO.aload_n (pc := 1200) 2 d_L_law_1200 rfl rfl ?_
        refine ZO.aload_n (pc := 1201) 0 d_L_law_1201 rfl rfl ?_
        refine ZO.iload (pc := 1202) 4 d_L_law_1202 rfl ?_
        refine ZO.iconst (pc := 1204) (1 : Int32) d_L_law_1204 (by decide) ?_
        refine ZO.iadd (pc := 1205) d_L_law_1205 ?_
        refine ZO.sld (pc := 1206) (Ls := Ls) (xs := xs) rfl d_L_law_1206 h169 ?_
        refine ZO.cVI (pc := 1207) (As := [.int (xs (x.1 + (1 : Int32)).toNatClampNeg)]) (rest := [.int p170.1]) d_L_law_1207 zc_L_155 (by decide) zo_0 rfl rfl rfl (Nat.le_of_ble_eq_true rfl) (ok_M_frees g n (xs (x.1 + (1 : Int32)).toNatClampNeg) p170.2) (fun p171 ep171 => ?_)
        refine ZO.icmp_eq (pc := 1210) 1533 d_L_law_1210 (by decide) rfl (fun h172 => ?_) (fun h172 => ?_)
        · exact ZO.widenU (hk p171.2)
        · refine ZO.iconst (pc := 1213) (0 : Int32) d_L_law_1213 (by decide) ?_
          exact ZO.zret (pc := 1214) (v := false) d_L_law_1214 rfl rfl rfl
      refine ZO.split (c0 := v4 = (30 : Int32)) rfl (fun h173 => ?_) (fun h173 => ?_)
      · refine ZO.tswI (pc := 39) 1215 (30 : Int32) h173 d_L_law_39 (by decide) (by decide) (by decide) ?_
        refine ZO.aload_n (pc := 1215) 1 d_L_law_1215 rfl rfl ?_
        refine ZO.aload_n (pc := 1216) 0 d_L_law_1216 rfl rfl ?_
        refine ZO.iload (pc := 1217) 4 d_L_law_1217 rfl ?_
        refine ZO.iconst (pc := 1219) (1 : Int32) d_L_law_1219 (by decide) ?_
        refine ZO.iadd (pc := 1220) d_L_law_1220 ?_
        refine ZO.rgd (fun h174 => ?_)
        refine ZO.sld (pc := 1221) (Ls := Ls) (xs := xs) rfl d_L_law_1221 h174 ?_
        refine ZO.aload_n (pc := 1222) 0 d_L_law_1222 rfl rfl ?_
        refine ZO.iload (pc := 1223) 4 d_L_law_1223 rfl ?_
        refine ZO.iconst (pc := 1225) (2 : Int32) d_L_law_1225 (by decide) ?_
        refine ZO.iadd (pc := 1226) d_L_law_1226 ?_
        refine ZO.rgd (fun h175 => ?_)
        refine ZO.sld (pc := 1227) (Ls := Ls) (xs := xs) rfl d_L_law_1227 h175 ?_
        refine ZO.cVI (pc := 1228) (As := [.int (xs (x.1 + (1 : Int32)).toNatClampNeg), .int (xs (x.1 + (2 : Int32)).toNatClampNeg)]) (rest := []) d_L_law_1228 zc_L_156 (by decide) zo_1 rfl rfl rfl (Nat.le_of_ble_eq_true rfl) (ok_X_keeps g n (xs (x.1 + (1 : Int32)).toNatClampNeg) (xs (x.1 + (2 : Int32)).toNatClampNeg) x.2) (fun p176 ep176 => ?_)
        refine ZO.aload_n (pc := 1231) 2 d_L_law_1231 rfl rfl ?_
        refine ZO.aload_n (pc := 1232) 0 d_L_law_1232 rfl rfl ?_
        refine ZO.iload (pc := 1233) 4 d_L_law_1233 rfl ?_
        refine ZO.iconst (pc := 1235) (1 : Int32) d_L_law_1235 (by decide) ?_
        refine ZO.iadd (pc := 1236) d_L_law_1236 ?_
        refine ZO.sld (pc := 1237) (Ls := Ls) (xs := xs) rfl d_L_law_1237 h174 ?_
        refine ZO.aload_n (pc := 1238) 0 d_L_law_1238 rfl rfl ?_
        refine ZO.iload (pc := 1239) 4 d_L_law_1239 rfl ?_
        refine ZO.iconst (pc := 1241) (2 : Int32) d_L_law_1241 (by decide) ?_
        refine ZO.iadd (pc := 1242) d_L_law_1242 ?_
        refine ZO.sld (pc := 1243) (Ls := Ls) (xs := xs) rfl d_L_law_1243 h175 ?_
        refine ZO.cVI (pc := 1244) (As := [.int (xs (x.1 + (1 : Int32)).toNatClampNeg), .int (xs (x.1 + (2 : Int32)).toNatClampNeg)]) (rest := [.int p176.1]) d_L_law_1244 zc_L_159 (by decide) zo_0 rfl rfl rfl (Nat.le_of_ble_eq_true rfl) (ok_M_keeps g n (xs (x.1 + (1 : Int32)).toNatClampNeg) (xs (x.1 + (2 : Int32)).toNatClampNeg) p176.2) (fun p177 ep177 => ?_)
        refine ZO.icmp_eq (pc := 1247) 1533 d_L_law_1247 (by decide) rfl (fun h178 => ?_) (fun h178 => ?_)
        · exact ZO.widenU (hk p177.2)
        · refine ZO.iconst (pc := 1250) (0 : Int32) d_L_law_1250 (by decide) ?_
          exact ZO.zret (pc := 1251) (v := false) d_L_law_1251 rfl rfl rfl
      refine ZO.split (c0 := v4 = (31 : Int32)) rfl (fun h179 => ?_) (fun h179 => ?_)
      · refine ZO.tswI (pc := 39) 1252 (31 : Int32) h179 d_L_law_39 (by decide) (by decide) (by decide) ?_
        refine ZO.aload_n (pc := 1252) 1 d_L_law_1252 rfl rfl ?_
        refine ZO.aload_n (pc := 1253) 0 d_L_law_1253 rfl rfl ?_
        refine ZO.iload (pc := 1254) 4 d_L_law_1254 rfl ?_
        refine ZO.iconst (pc := 1256) (1 : Int32) d_L_law_1256 (by decide) ?_
        refine ZO.iadd (pc := 1257) d_L_law_1257 ?_
        refine ZO.rgd (fun h180 => ?_)
        refine ZO.sld (pc := 1258) (Ls := Ls) (xs := xs) rfl d_L_law_1258 h180 ?_
        refine ZO.aload_n (pc := 1259) 0 d_L_law_1259 rfl rfl ?_
        refine ZO.iload (pc := 1260) 4 d_L_law_1260 rfl ?_
        refine ZO.iconst (pc := 1262) (2 : Int32) d_L_law_1262 (by decide) ?_
        refine ZO.iadd (pc := 1263) d_L_law_1263 ?_
        refine ZO.rgd (fun h181 => ?_)
        refine ZO.sld (pc := 1264) (Ls := Ls) (xs := xs) rfl d_L_law_1264 h181 ?_
        refine ZO.cVI (pc := 1265) (As := [.int (xs (x.1 + (1 : Int32)).toNatClampNeg), .int (xs (x.1 + (2 : Int32)).toNatClampNeg)]) (rest := []) d_L_law_1265 zc_L_160 (by decide) zo_1 rfl rfl rfl (Nat.le_of_ble_eq_true rfl) (ok_X_finish g n (xs (x.1 + (1 : Int32)).toNatClampNeg) (xs (x.1 + (2 : Int32)).toNatClampNeg) x.2) (fun p182 ep182 => ?_)
        refine ZO.aload_n (pc := 1268) 2 d_L_law_1268 rfl rfl ?_
        refine ZO.aload_n (pc := 1269) 0 d_L_law_1269 rfl rfl ?_
        refine ZO.iload (pc := 1270) 4 d_L_law_1270 rfl ?_
        refine ZO.iconst (pc := 1272) (1 : Int32) d_L_law_1272 (by decide) ?_
        refine ZO.iadd (pc := 1273) d_L_law_1273 ?_
        refine ZO.sld (pc := 1274) (Ls := Ls) (xs := xs) rfl d_L_law_1274 h180 ?_
        refine ZO.aload_n (pc := 1275) 0 d_L_law_1275 rfl rfl ?_
        refine ZO.iload (pc := 1276) 4 d_L_law_1276 rfl ?_
        refine ZO.iconst (pc := 1278) (2 : Int32) d_L_law_1278 (by decide) ?_
        refine ZO.iadd (pc := 1279) d_L_law_1279 ?_
        refine ZO.sld (pc := 1280) (Ls := Ls) (xs := xs) rfl d_L_law_1280 h181 ?_
        refine ZO.cVI (pc := 1281) (As := [.int (xs (x.1 + (1 : Int32)).toNatClampNeg), .int (xs (x.1 + (2 : Int32)).toNatClampNeg)]) (rest := [.int p182.1]) d_L_law_1281 zc_L_163 (by decide) zo_0 rfl rfl rfl (Nat.le_of_ble_eq_true rfl) (ok_M_finish g n (xs (x.1 + (1 : Int32)).toNatClampNeg) (xs (x.1 + (2 : Int32)).toNatClampNeg) p182.2) (fun p183 ep183 => ?_)
        refine ZO.icmp_eq (pc := 1284) 1533 d_L_law_1284 (by decide) rfl (fun h184 => ?_) (fun h184 => ?_)
        · exact ZO.widenU (hk p183.2)
        · refine ZO.iconst (pc := 1287) (0 : Int32) d_L_law_1287 (by decide) ?_
          exact ZO.zret (pc := 1288) (v := false) d_L_law_1288 rfl rfl rfl
      refine ZO.split (c0 := v4 = (32 : Int32)) rfl (fun h185 => ?_) (fun h185 => ?_)
      · refine ZO.tswI (pc := 39) 1289 (32 : Int32) h185 d_L_law_39 (by decide) (by decide) (by decide) ?_
        refine ZO.aload_n (pc := 1289) 1 d_L_law_1289 rfl rfl ?_
        refine ZO.cVI (pc := 1290) (As := []) (rest := []) d_L_law_1290 zc_L_164 (by decide) zo_1 rfl rfl rfl (Nat.le_of_ble_eq_true rfl) (ok_X_reach g n x.2) (fun p186 ep186 => ?_)
        refine ZO.aload_n (pc := 1293) 2 d_L_law_1293 rfl rfl ?_
        refine ZO.cVI (pc := 1294) (As := []) (rest := [.int p186.1]) d_L_law_1294 zc_L_167 (by decide) zo_0 rfl rfl rfl (Nat.le_of_ble_eq_true rfl) (ok_M_reach g n p186.2) (fun p187 ep187 => ?_)
        refine ZO.icmp_eq (pc := 1297) 1533 d_L_law_1297 (by decide) rfl (fun h188 => ?_) (fun h188 => ?_)
        · exact ZO.widenU (hk p187.2)
        · refine ZO.iconst (pc := 1300) (0 : Int32) d_L_law_1300 (by decide) ?_
          exact ZO.zret (pc := 1301) (v := false) d_L_law_1301 rfl rfl rfl
      refine ZO.split (c0 := v4 = (33 : Int32)) rfl (fun h189 => ?_) (fun h189 => ?_)
      · refine ZO.tswI (pc := 39) 1302 (33 : Int32) h189 d_L_law_39 (by decide) (by decide) (by decide) ?_
        refine ZO.aload_n (pc := 1302) 1 d_L_law_1302 rfl rfl ?_
        refine ZO.aload_n (pc := 1303) 0 d_L_law_1303 rfl rfl ?_
        refine ZO.iload (pc := 1304) 4 d_L_law_1304 rfl ?_
        refine ZO.iconst (pc := 1306) (1 : Int32) d_L_law_1306 (by decide) ?_
        refine ZO.iadd (pc := 1307) d_L_law_1307 ?_
        refine ZO.rgd (fun h190 => ?_)
        refine ZO.sld (pc := 1308) (Ls := Ls) (xs := xs) rfl d_L_law_1308 h190 ?_
        refine ZO.cVI (pc := 1309) (As := [.int (xs (x.1 + (1 : Int32)).toNatClampNeg)]) (rest := []) d_L_law_1309 zc_L_168 (by decide) zo_1 rfl rfl rfl (Nat.le_of_ble_eq_true rfl) (ok_X_soonest g n (xs (x.1 + (1 : Int32)).toNatClampNeg) x.2) (fun p191 ep191 => ?_)
        refine ZO.aload_n (pc := 1312) 2 d_L_law_1312 rfl rfl ?_
        refine ZO.aload_n (pc := 1313) 0 d_L_law_1313 rfl rfl ?_
        refine ZO.iload (pc := 1314) 4 d_L_law_1314 rfl ?_
        refine ZO.iconst (pc := 1316) (1 : Int32) d_L_law_1316 (by decide) ?_
        refine ZO.iadd (pc := 1317) d_L_law_1317 ?_
        refine ZO.sld (pc := 1318) (Ls := Ls) (xs := xs) rfl d_L_law_1318 h190 ?_
        refine ZO.cVI (pc := 1319) (As := [.int (xs (x.1 + (1 : Int32)).toNatClampNeg)]) (rest := [.int p191.1]) d_L_law_1319 zc_L_171 (by decide) zo_0 rfl rfl rfl (Nat.le_of_ble_eq_true rfl) (ok_M_soonest g n (xs (x.1 + (1 : Int32)).toNatClampNeg) p191.2) (fun p192 ep192 => ?_)
        refine ZO.icmp_eq (pc := 1322) 1533 d_L_law_1322 (by decide) rfl (fun h193 => ?_) (fun h193 => ?_)
        · exact ZO.widenU (hk p192.2)
        · refine ZO.iconst (pc := 1325) (0 : Int32) d_L_law_1325 (by decide) ?_
          exact ZO.zret (pc := 1326) (v := false) d_L_law_1326 rfl rfl rfl
      refine ZO.split (c0 := v4 = (34 : Int32)) rfl (fun h194 => ?_) (fun h194 => ?_)
      · refine ZO.tswI (pc := 39) 1327 (34 : Int32) h194 d_L_law_39 (by decide) (by decide) (by decide) ?_
        refine ZO.aload_n (pc := 1327) 1 d_L_law_1327 rfl rfl ?_
        refine ZO.aload_n (pc := 1328) 0 d_L_law_1328 rfl rfl ?_
        refine ZO.iload (pc := 1329) 4 d_L_law_1329 rfl ?_
        refine ZO.iconst (pc := 1331) (1 : Int32) d_L_law_1331 (by decide) ?_
        refine ZO.iadd (pc := 1332) d_L_law_1332 ?_
        refine ZO.rgd (fun h195 => ?_)
        refine ZO.sld (pc := 1333) (Ls := Ls) (xs := xs) rfl d_L_law_1333 h195 ?_
        refine ZO.aload_n (pc := 1334) 0 d_L_law_1334 rfl rfl ?_
        refine ZO.iload (pc := 1335) 4 d_L_law_1335 rfl ?_
        refine ZO.iconst (pc := 1337) (2 : Int32) d_L_law_1337 (by decide) ?_
        refine ZO.iadd (pc := 1338) d_L_law_1338 ?_
        refine ZO.rgd (fun h196 => ?_)
        refine ZO.sld (pc := 1339) (Ls := Ls) (xs := xs) rfl d_L_law_1339 h196 ?_
        refine ZO.aload_n (pc := 1340) 0 d_L_law_1340 rfl rfl ?_
        refine ZO.iload (pc := 1341) 4 d_L_law_1341 rfl ?_
        refine ZO.iconst (pc := 1343) (3 : Int32) d_L_law_1343 (by decide) ?_
        refine ZO.iadd (pc := 1344) d_L_law_1344 ?_
        refine ZO.rgd (fun h197 => ?_)
        refine ZO.sld (pc := 1345) (Ls := Ls) (xs := xs) rfl d_L_law_1345 h197 ?_
        refine ZO.cVI (pc := 1346) (As := [.int (xs (x.1 + (1 : Int32)).toNatClampNeg), .int (xs (x.1 + (2 : Int32)).toNatClampNeg), .int (xs (x.1 + (3 : Int32)).toNatClampNeg)]) (rest := []) d_L_law_1346 zc_L_172 (by decide) zo_1 rfl rfl rfl (Nat.le_of_ble_eq_true rfl) (ok_X_till g n (xs (x.1 + (1 : Int32)).toNatClampNeg) (xs (x.1 + (2 : Int32)).toNatClampNeg) (xs (x.1 + (3 : Int32)).toNatClampNeg) x.2) (fun p198 ep198 => ?_)
        refine ZO.aload_n (pc := 1349) 2 d_L_law_1349 rfl rfl ?_
        refine ZO.aload_n (pc := 1350) 0 d_L_law_1350 rfl rfl ?_
        refine ZO.iload (pc := 1351) 4 d_L_law_1351 rfl ?_
        refine ZO.iconst (pc := 1353) (1 : Int32) d_L_law_1353 (by decide) ?_
        refine ZO.iadd (pc := 1354) d_L_law_1354 ?_
        refine ZO.sld (pc := 1355) (Ls := Ls) (xs := xs) rfl d_L_law_1355 h195 ?_
        refine ZO.aload_n (pc := 1356) 0 d_L_law_1356 rfl rfl ?_
        refine ZO.iload (pc := 1357) 4 d_L_law_1357 rfl ?_
        refine ZO.iconst (pc := 1359) (2 : Int32) d_L_law_1359 (by decide) ?_
        refine ZO.iadd (pc := 1360) d_L_law_1360 ?_
        refine ZO.sld (pc := 1361) (Ls := Ls) (xs := xs) rfl d_L_law_1361 h196 ?_
        refine ZO.aload_n (pc := 1362) 0 d_L_law_1362 rfl rfl ?_
        refine ZO.iload (pc := 1363) 4 d_L_law_1363 rfl ?_
        refine ZO.iconst (pc := 1365) (3 : Int32) d_L_law_1365 (by decide) ?_
        refine ZO.iadd (pc := 1366) d_L_law_1366 ?_
        refine ZO.sld (pc := 1367) (Ls := Ls) (xs := xs) rfl d_L_law_1367 h197 ?_
        refine ZO.cVI (pc := 1368) (As := [.int (xs (x.1 + (1 : Int32)).toNatClampNeg), .int (xs (x.1 + (2 : Int32)).toNatClampNeg), .int (xs (x.1 + (3 : Int32)).toNatClampNeg)]) (rest := [.int p198.1]) d_L_law_1368 zc_L_175 (by decide) zo_0 rfl rfl rfl (Nat.le_of_ble_eq_true rfl) (ok_M_till g n (xs (x.1 + (1 : Int32)).toNatClampNeg) (xs (x.1 + (2 : Int32)).toNatClampNeg) (xs (x.1 + (3 : Int32)).toNatClampNeg) p198.2) (fun p199 ep199 => ?_)
        refine ZO.icmp_eq (pc := 1371) 1533 d_L_law_1371 (by decide) rfl (fun h200 => ?_) (fun h200 => ?_)
        · exact ZO.widenU (hk p199.2)
        · refine ZO.iconst (pc := 1374) (0 : Int32) d_L_law_1374 (by decide) ?_
          exact ZO.zret (pc := 1375) (v := false) d_L_law_1375 rfl rfl rfl
      refine ZO.split (c0 := v4 = (35 : Int32)) rfl (fun h201 => ?_) (fun h201 => ?_)
      · refine ZO.tswI (pc := 39) 1376 (35 : Int32) h201 d_L_law_39 (by decide) (by decide) (by decide) ?_
        refine ZO.aload_n (pc := 1376) 1 d_L_law_1376 rfl rfl ?_
        refine ZO.cVI (pc := 1377) (As := []) (rest := []) d_L_law_1377 zc_L_176 (by decide) zo_1 rfl rfl rfl (Nat.le_of_ble_eq_true rfl) (ok_X_lost g n x.2) (fun p202 ep202 => ?_)
        refine ZO.aload_n (pc := 1380) 2 d_L_law_1380 rfl rfl ?_
        refine ZO.cVI (pc := 1381) (As := []) (rest := [.int p202.1]) d_L_law_1381 zc_L_179 (by decide) zo_0 rfl rfl rfl (Nat.le_of_ble_eq_true rfl) (ok_M_lost g n p202.2) (fun p203 ep203 => ?_)
        refine ZO.icmp_eq (pc := 1384) 1533 d_L_law_1384 (by decide) rfl (fun h204 => ?_) (fun h204 => ?_)
        · exact ZO.widenU (hk p203.2)
        · refine ZO.iconst (pc := 1387) (0 : Int32) d_L_law_1387 (by decide) ?_
          exact ZO.zret (pc := 1388) (v := false) d_L_law_1388 rfl rfl rfl
      refine ZO.split (c0 := v4 = (36 : Int32)) rfl (fun h205 => ?_) (fun h205 => ?_)
      · refine ZO.tswI (pc := 39) 1389 (36 : Int32) h205 d_L_law_39 (by decide) (by decide) (by decide) ?_
        refine ZO.aload_n (pc := 1389) 1 d_L_law_1389 rfl rfl ?_
        refine ZO.cVI (pc := 1390) (As := []) (rest := []) d_L_law_1390 zc_L_180 (by decide) zo_1 rfl rfl rfl (Nat.le_of_ble_eq_true rfl) (ok_X_free g n x.2) (fun p206 ep206 => ?_)
        refine ZO.aload_n (pc := 1393) 2 d_L_law_1393 rfl rfl ?_
        refine ZO.cVI (pc := 1394) (As := []) (rest := [.int p206.1]) d_L_law_1394 zc_L_183 (by decide) zo_0 rfl rfl rfl (Nat.le_of_ble_eq_true rfl) (ok_M_free g n p206.2) (fun p207 ep207 => ?_)
        refine ZO.icmp_eq (pc := 1397) 1533 d_L_law_1397 (by decide) rfl (fun h208 => ?_) (fun h208 => ?_)
        · exact ZO.widenU (hk p207.2)
        · refine ZO.iconst (pc := 1400) (0 : Int32) d_L_law_1400 (by decide) ?_
          exact ZO.zret (pc := 1401) (v := false) d_L_law_1401 rfl rfl rfl
      refine ZO.split (c0 := v4 = (37 : Int32)) rfl (fun h209 => ?_) (fun h209 => ?_)
      · refine ZO.tswI (pc := 39) 1402 (37 : Int32) h209 d_L_law_39 (by decide) (by decide) (by decide) ?_
        refine ZO.aload_n (pc := 1402) 1 d_L_law_1402 rfl rfl ?_
        refine ZO.aload_n (pc := 1403) 0 d_L_law_1403 rfl rfl ?_
        refine ZO.iload (pc := 1404) 4 d_L_law_1404 rfl ?_
        refine ZO.iconst (pc := 1406) (1 : Int32) d_L_law_1406 (by decide) ?_
        refine ZO.iadd (pc := 1407) d_L_law_1407 ?_
        refine ZO.rgd (fun h210 => ?_)
        refine ZO.sld (pc := 1408) (Ls := Ls) (xs := xs) rfl d_L_law_1408 h210 ?_
        refine ZO.cVB (pc := 1409) (As := [.int (xs (x.1 + (1 : Int32)).toNatClampNeg)]) (rest := []) d_L_law_1409 zc_L_184 (by decide) zo_1 rfl rfl rfl (Nat.le_of_ble_eq_true rfl) (ok_X_keep g n (xs (x.1 + (1 : Int32)).toNatClampNeg) x.2) (fun p211 ep211 => ?_)
        refine ZO.aload_n (pc := 1412) 2 d_L_law_1412 rfl rfl ?_
        refine ZO.aload_n (pc := 1413) 0 d_L_law_1413 rfl rfl ?_
        refine ZO.iload (pc := 1414) 4 d_L_law_1414 rfl ?_
        refine ZO.iconst (pc := 1416) (1 : Int32) d_L_law_1416 (by decide) ?_
        refine ZO.iadd (pc := 1417) d_L_law_1417 ?_
        refine ZO.sld (pc := 1418) (Ls := Ls) (xs := xs) rfl d_L_law_1418 h210 ?_
        refine ZO.cVB (pc := 1419) (As := [.int (xs (x.1 + (1 : Int32)).toNatClampNeg)]) (rest := [.int (b2i p211.1)]) d_L_law_1419 zc_L_187 (by decide) zo_0 rfl rfl rfl (Nat.le_of_ble_eq_true rfl) (ok_M_keep g n (xs (x.1 + (1 : Int32)).toNatClampNeg) p211.2) (fun p212 ep212 => ?_)
        refine ZO.icmp_eq (pc := 1422) 1533 d_L_law_1422 (by decide) rfl (fun h213 => ?_) (fun h213 => ?_)
        · exact ZO.widenU (hk p212.2)
        · refine ZO.iconst (pc := 1425) (0 : Int32) d_L_law_1425 (by decide) ?_
          exact ZO.zret (pc := 1426) (v := false) d_L_law_1426 rfl rfl rfl
      refine ZO.split (c0 := v4 = (38 : Int32)) rfl (fun h214 => ?_) (fun h214 => ?_)
      · refine ZO.tswI (pc := 39) 1427 (38 : Int32) h214 d_L_law_39 (by decide) (by decide) (by decide) ?_
        refine ZO.aload_n (pc := 1427) 1 d_L_law_1427 rfl rfl ?_
        refine ZO.aload_n (pc := 1428) 0 d_L_law_1428 rfl rfl ?_
        refine ZO.iload (pc := 1429) 4 d_L_law_1429 rfl ?_
        refine ZO.iconst (pc := 1431) (1 : Int32) d_L_law_1431 (by decide) ?_
        refine ZO.iadd (pc := 1432) d_L_law_1432 ?_
        refine ZO.rgd (fun h215 => ?_)
        refine ZO.sld (pc := 1433) (Ls := Ls) (xs := xs) rfl d_L_law_1433 h215 ?_
        refine ZO.cVB (pc := 1434) (As := [.int (xs (x.1 + (1 : Int32)).toNatClampNeg)]) (rest := []) d_L_law_1434 zc_L_188 (by decide) zo_1 rfl rfl rfl (Nat.le_of_ble_eq_true rfl) (ok_X_again g n (xs (x.1 + (1 : Int32)).toNatClampNeg) x.2) (fun p216 ep216 => ?_)
        refine ZO.aload_n (pc := 1437) 2 d_L_law_1437 rfl rfl ?_
        refine ZO.aload_n (pc := 1438) 0 d_L_law_1438 rfl rfl ?_
        refine ZO.iload (pc := 1439) 4 d_L_law_1439 rfl ?_
        refine ZO.iconst (pc := 1441) (1 : Int32) d_L_law_1441 (by decide) ?_
        refine ZO.iadd (pc := 1442) d_L_law_1442 ?_
        refine ZO.sld (pc := 1443) (Ls := Ls) (xs := xs) rfl d_L_law_1443 h215 ?_
        refine ZO.cVB (pc := 1444) (As := [.int (xs (x.1 + (1 : Int32)).toNatClampNeg)]) (rest := [.int (b2i p216.1)]) d_L_law_1444 zc_L_191 (by decide) zo_0 rfl rfl rfl (Nat.le_of_ble_eq_true rfl) (ok_M_again g n (xs (x.1 + (1 : Int32)).toNatClampNeg) p216.2) (fun p217 ep217 => ?_)
        refine ZO.icmp_eq (pc := 1447) 1533 d_L_law_1447 (by decide) rfl (fun h218 => ?_) (fun h218 => ?_)
        · exact ZO.widenU (hk p217.2)
        · refine ZO.iconst (pc := 1450) (0 : Int32) d_L_law_1450 (by decide) ?_
          exact ZO.zret (pc := 1451) (v := false) d_L_law_1451 rfl rfl rfl
      refine ZO.split (c0 := v4 = (39 : Int32)) rfl (fun h219 => ?_) (fun h219 => ?_)
      · refine ZO.tswI (pc := 39) 1452 (39 : Int32) h219 d_L_law_39 (by decide) (by decide) (by decide) ?_
        refine ZO.aload_n (pc := 1452) 1 d_L_law_1452 rfl rfl ?_
        refine ZO.aload_n (pc := 1453) 0 d_L_law_1453 rfl rfl ?_
        refine ZO.iload (pc := 1454) 4 d_L_law_1454 rfl ?_
        refine ZO.iconst (pc := 1456) (1 : Int32) d_L_law_1456 (by decide) ?_
        refine ZO.iadd (pc := 1457) d_L_law_1457 ?_
        refine ZO.rgd (fun h220 => ?_)
        refine ZO.sld (pc := 1458) (Ls := Ls) (xs := xs) rfl d_L_law_1458 h220 ?_
        refine ZO.tVI (pc := 1459) (As := [.int (xs (x.1 + (1 : Int32)).toNatClampNeg)]) (rest := []) d_L_law_1459 zc_L_192 (by decide) zo_1 rfl rfl rfl (Nat.le_of_ble_eq_true rfl) (ok_X_count g (xs (x.1 + (1 : Int32)).toNatClampNeg) x.2) ?_
        refine ZO.aload_n (pc := 1462) 2 d_L_law_1462 rfl rfl ?_
        refine ZO.aload_n (pc := 1463) 0 d_L_law_1463 rfl rfl ?_
        refine ZO.iload (pc := 1464) 4 d_L_law_1464 rfl ?_
        refine ZO.iconst (pc := 1466) (1 : Int32) d_L_law_1466 (by decide) ?_
        refine ZO.iadd (pc := 1467) d_L_law_1467 ?_
        refine ZO.sld (pc := 1468) (Ls := Ls) (xs := xs) rfl d_L_law_1468 h220 ?_
        refine ZO.cVI (pc := 1469) (As := [.int (xs (x.1 + (1 : Int32)).toNatClampNeg)]) (rest := [.int (f_X_count (xs (x.1 + (1 : Int32)).toNatClampNeg) x.2)]) d_L_law_1469 zc_L_195 (by decide) zo_0 rfl rfl rfl (Nat.le_of_ble_eq_true rfl) (ok_M_count g (xs (x.1 + (1 : Int32)).toNatClampNeg) x.2) (fun p221 ep221 => ?_)
        refine ZO.icmp_eq (pc := 1472) 1533 d_L_law_1472 (by decide) rfl (fun h222 => ?_) (fun h222 => ?_)
        · exact ZO.widenU (hk p221.2)
        · refine ZO.iconst (pc := 1475) (0 : Int32) d_L_law_1475 (by decide) ?_
          exact ZO.zret (pc := 1476) (v := false) d_L_law_1476 rfl rfl rfl
      refine ZO.split (c0 := v4 = (40 : Int32)) rfl (fun h223 => ?_) (fun h223 => ?_)
      · refine ZO.tswI (pc := 39) 1477 (40 : Int32) h223 d_L_law_39 (by decide) (by decide) (by decide) ?_
        refine ZO.aload_n (pc := 1477) 1 d_L_law_1477 rfl rfl ?_
        refine ZO.aload_n (pc := 1478) 0 d_L_law_1478 rfl rfl ?_
        refine ZO.iload (pc := 1479) 4 d_L_law_1479 rfl ?_
        refine ZO.iconst (pc := 1481) (1 : Int32) d_L_law_1481 (by decide) ?_
        refine ZO.iadd (pc := 1482) d_L_law_1482 ?_
        refine ZO.rgd (fun h224 => ?_)
        refine ZO.sld (pc := 1483) (Ls := Ls) (xs := xs) rfl d_L_law_1483 h224 ?_
        refine ZO.aload_n (pc := 1484) 3 d_L_law_1484 rfl rfl ?_
        refine ZO.callW (pc := 1485) (As := [.ref 1, .int (xs (x.1 + (1 : Int32)).toNatClampNeg), .ref 550]) (rest := []) (d' := 9) d_L_law_1485 zcw_L_row (by decide) rfl rfl (Nat.le_of_ble_eq_true rfl) (okw_L_row g (xs (x.1 + (1 : Int32)).toNatClampNeg) x.2) (fun p225 ep225 => ?_)
        refine ZO.istore (pc := 1488) (v := p225.1) (L' := [(0, .ref 600), (1, .ref 1), (2, .ref 0), (3, .ref 550), (4, .int x.1), (5, .int p225.1)]) [1, 2, 3, 4, 5, 0] d_L_law_1488 (by decide) rfl ?_
        refine ZO.aload_n (pc := 1490) 2 d_L_law_1490 rfl rfl ?_
        refine ZO.aload_n (pc := 1491) 0 d_L_law_1491 rfl rfl ?_
        refine ZO.iload (pc := 1492) 4 d_L_law_1492 rfl ?_
        refine ZO.iconst (pc := 1494) (1 : Int32) d_L_law_1494 (by decide) ?_
        refine ZO.iadd (pc := 1495) d_L_law_1495 ?_
        refine ZO.sld (pc := 1496) (Ls := Ls) (xs := xs) rfl d_L_law_1496 h224 ?_
        refine ZO.cVI (pc := 1497) (As := [.int (xs (x.1 + (1 : Int32)).toNatClampNeg)]) (rest := []) d_L_law_1497 zc_L_199 (by decide) zo_0 rfl rfl rfl (Nat.le_of_ble_eq_true rfl) (ok_M_row g (xs (x.1 + (1 : Int32)).toNatClampNeg) p225.2) (fun p226 ep226 => ?_)
        refine ZO.istore (pc := 1500) (v := p226.1) (L' := [(0, .ref 600), (1, .ref 1), (2, .ref 0), (3, .ref 550), (4, .int x.1), (5, .int p225.1), (6, .int p226.1)]) [1, 2, 3, 4, 5, 6, 0] d_L_law_1500 (by decide) rfl ?_
        refine ZO.aload_n (pc := 1502) 2 d_L_law_1502 rfl rfl ?_
        refine ZO.tVI (pc := 1503) (As := []) (rest := []) d_L_law_1503 zc_L_63 (by decide) zo_0 rfl rfl rfl (Nat.le_of_ble_eq_true rfl) (ok_M_thrown g p226.2) ?_
        refine ZO.iload (pc := 1506) 5 d_L_law_1506 rfl ?_
        refine ZO.icmp_eq (pc := 1508) 1513 d_L_law_1508 (by decide) rfl (fun h227 => ?_) (fun h227 => ?_)
        · refine ZO.iload (pc := 1513) 5 d_L_law_1513 rfl ?_
          refine ZO.if_ne (pc := 1515) 1530 d_L_law_1515 (by decide) rfl (fun h228 => ?_) (fun h228 => ?_)
          · refine ZO.aload_n (pc := 1518) 3 d_L_law_1518 rfl rfl ?_
            refine ZO.iconst (pc := 1519) (0 : Int32) d_L_law_1519 (by decide) ?_
            refine ZO.lald (pc := 1520) d_L_law_1520 za_550 (by decide) ?_
            refine ZO.iload (pc := 1521) 6 d_L_law_1521 rfl ?_
            refine ZO.i2l (pc := 1523) d_L_law_1523 ?_
            refine ZO.lcmp (pc := 1524) d_L_law_1524 ?_
            refine ZO.if_eq (pc := 1525) 1530 d_L_law_1525 (by decide) rfl (fun h229 => ?_) (fun h229 => ?_)
            · refine ZO.goto (pc := 1530) 1533 d_L_law_1530 (by decide) ?_
              exact ZO.sub [0, 1, 2, 3, 4] rfl (hk p226.2)
            · refine ZO.iconst (pc := 1528) (0 : Int32) d_L_law_1528 (by decide) ?_
              exact ZO.zret (pc := 1529) (v := false) d_L_law_1529 rfl rfl rfl
          · refine ZO.goto (pc := 1530) 1533 d_L_law_1530 (by decide) ?_
            exact ZO.sub [0, 1, 2, 3, 4] rfl (hk p226.2)
        · refine ZO.iconst (pc := 1511) (0 : Int32) d_L_law_1511 (by decide) ?_
          exact ZO.zret (pc := 1512) (v := false) d_L_law_1512 rfl rfl rfl
      refine ZO.tswO (pc := 39) 1533 d_L_law_39 (by have q0 := lv_neT h5 (show (0 : Int32).toInt = 0 by decide); have q1 := lv_neT h10 (show (1 : Int32).toInt = 1 by decide); have q2 := lv_neT h15 (show (2 : Int32).toInt = 2 by decide); have q3 := lv_neT h20 (show (3 : Int32).toInt = 3 by decide); have q4 := lv_neT h24 (show (4 : Int32).toInt = 4 by decide); have q5 := lv_neT h31 (show (5 : Int32).toInt = 5 by decide); have q6 := lv_neT h39 (show (6 : Int32).toInt = 6 by decide); have q7 := lv_neT h47 (show (7 : Int32).toInt = 7 by decide); have q8 := lv_neT h51 (show (8 : Int32).toInt = 8 by decide); have q9 := lv_neT h59 (show (9 : Int32).toInt = 9 by decide); have q10 := lv_neT h64 (show (10 : Int32).toInt = 10 by decide); have q11 := lv_neT h69 (show (11 : Int32).toInt = 11 by decide); have q12 := lv_neT h73 (show (12 : Int32).toInt = 12 by decide); have q13 := lv_neT h78 (show (13 : Int32).toInt = 13 by decide); have q14 := lv_neT h85 (show (14 : Int32).toInt = 14 by decide); have q15 := lv_neT h91 (show (15 : Int32).toInt = 15 by decide); have q16 := lv_neT h97 (show (16 : Int32).toInt = 16 by decide); have q17 := lv_neT h103 (show (17 : Int32).toInt = 17 by decide); have q18 := lv_neT h111 (show (18 : Int32).toInt = 18 by decide); have q19 := lv_neT h116 (show (19 : Int32).toInt = 19 by decide); have q20 := lv_neT h121 (show (20 : Int32).toInt = 20 by decide); have q21 := lv_neT h125 (show (21 : Int32).toInt = 21 by decide); have q22 := lv_neT h129 (show (22 : Int32).toInt = 22 by decide); have q23 := lv_neT h135 (show (23 : Int32).toInt = 23 by decide); have q24 := lv_neT h141 (show (24 : Int32).toInt = 24 by decide); have q25 := lv_neT h147 (show (25 : Int32).toInt = 25 by decide); have q26 := lv_neT h152 (show (26 : Int32).toInt = 26 by decide); have q27 := lv_neT h157 (show (27 : Int32).toInt = 27 by decide); have q28 := lv_neT h162 (show (28 : Int32).toInt = 28 by decide); have q29 := lv_neT h168 (show (29 : Int32).toInt = 29 by decide); have q30 := lv_neT h173 (show (30 : Int32).toInt = 30 by decide); have q31 := lv_neT h179 (show (31 : Int32).toInt = 31 by decide); have q32 := lv_neT h185 (show (32 : Int32).toInt = 32 by decide); have q33 := lv_neT h189 (show (33 : Int32).toInt = 33 by decide); have q34 := lv_neT h194 (show (34 : Int32).toInt = 34 by decide); have q35 := lv_neT h201 (show (35 : Int32).toInt = 35 by decide); have q36 := lv_neT h205 (show (36 : Int32).toInt = 36 by decide); have q37 := lv_neT h209 (show (37 : Int32).toInt = 37 by decide); have q38 := lv_neT h214 (show (38 : Int32).toInt = 38 by decide); have q39 := lv_neT h219 (show (39 : Int32).toInt = 39 by decide); have q40 := lv_neT h223 (show (40 : Int32).toInt = 40 by decide); omega) (by decide) ?_
      exact ZO.widenU (hk x.2)
