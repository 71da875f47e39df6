/-! ===== the law's cases (but weight): the class is asked, then the reference ===== -/
section LWC
variable {K : KK} {mc ms : Nat} {cl sl : Nat} {V : Mem} {Q : Option AV → List SC → Mem → Prop} {j : Nat} {nm : String}
theorem lw_c0 {d : Nat} (hd : d < 2048) (hj : 7 * j + 7 ≤ kN K) (hN : kN K ≤ 3584) (hm : cl ≤ mc ∧ sl ≤ ms) (h : Bth K d mX11_feed [vR 0, vJ (b_lor ((b_lshl (sc K (7 * j + 1)) 32)) ((b_land (sc K (7 * j + 2)) (4294967295)))), vJ (b_lor ((b_lshl (sc K (7 * j + 3)) 32)) ((b_land (sc K (7 * j + 4)) (4294967295)))), vJ (b_lor ((b_lshl (sc K (7 * j + 5)) 32)) ((b_land (sc K (7 * j + 6)) (4294967295))))] mX12_feed [vR 369, vJ (b_lor ((b_lshl (sc K (7 * j + 1)) 32)) ((b_land (sc K (7 * j + 2)) (4294967295)))), vJ (b_lor ((b_lshl (sc K (7 * j + 3)) 32)) ((b_land (sc K (7 * j + 4)) (4294967295)))), vJ (b_lor ((b_lshl (sc K (7 * j + 5)) 32)) ((b_land (sc K (7 * j + 6)) (4294967295))))] V) (hk : ∀ V2, Inv V2 → Wp K 2048 (mL nm) mc ms 2076 [some vS, some (vR 0), some (vR 369), some (vR 401), some (vI ((7 * j : Nat) : Int)), none, none] [] cl sl SH V2 Q) : Wp K 2048 (mL nm) mc ms 228 [some vS, some (vR 0), some (vR 369), some (vR 401), some (vI ((7 * j : Nat) : Int)), none, none] [] cl sl SH V Q := by
  refine wp_aload_n dL_law_228 rfl rfl ?_
  refine wl_arg (n := 1) dL_law_229 dL_law_230 dL_law_232 dL_law_233 dL_law_234 rfl rfl (by decide) hj hN ?_
  refine wp_i2l dL_law_235 ?_
  refine wp_bipush dL_law_236 (by decide) ?_
  refine wp_lshl dL_law_238 ?_
  refine wl_arg (n := 2) dL_law_239 dL_law_240 dL_law_242 dL_law_243 dL_law_244 rfl rfl (by decide) hj hN ?_
  refine wp_i2l dL_law_245 ?_
  refine wp_ldc2 dL_law_246 ww_c19 (by decide) ?_
  refine wp_land dL_law_249 ?_
  refine wp_lor dL_law_250 ?_
  refine wl_arg (n := 3) dL_law_251 dL_law_252 dL_law_254 dL_law_255 dL_law_256 rfl rfl (by decide) hj hN ?_
  refine wp_i2l dL_law_257 ?_
  refine wp_bipush dL_law_258 (by decide) ?_
  refine wp_lshl dL_law_260 ?_
  refine wl_arg (n := 4) dL_law_261 dL_law_262 dL_law_264 dL_law_265 dL_law_266 rfl rfl (by decide) hj hN ?_
  refine wp_i2l dL_law_267 ?_
  refine wp_ldc2 dL_law_268 ww_c19 (by decide) ?_
  refine wp_land dL_law_271 ?_
  refine wp_lor dL_law_272 ?_
  refine wl_arg (n := 5) dL_law_273 dL_law_274 dL_law_276 dL_law_277 dL_law_278 rfl rfl (by decide) hj hN ?_
  refine wp_i2l dL_law_279 ?_
  refine wp_bipush dL_law_280 (by decide) ?_
  refine wp_lshl dL_law_282 ?_
  refine wl_argb (n := 6) dL_law_283 dL_law_284 dL_law_286 dL_law_288 dL_law_289 rfl rfl (by decide) hj hN ?_
  refine wp_i2l dL_law_290 ?_
  refine wp_ldc2 dL_law_291 ww_c19 (by decide) ?_
  refine wp_land dL_law_294 ?_
  refine wp_lor dL_law_295 ?_
  refine wp_callV (d' := d) (S := []) (as := [vJ (b_lor ((b_lshl (sc K (7 * j + 1)) 32)) ((b_land (sc K (7 * j + 2)) (4294967295)))), vJ (b_lor ((b_lshl (sc K (7 * j + 3)) 32)) ((b_land (sc K (7 * j + 4)) (4294967295)))), vJ (b_lor ((b_lshl (sc K (7 * j + 5)) 32)) ((b_land (sc K (7 * j + 6)) (4294967295))))]) dL_law_296 lL_21 h (by omega) sh0 rfl rfl (Nat.le_of_ble_eq_true rfl) hm (fun r sh1 V1 q => ?_)
  obtain ⟨rfl, z, rfl, h1⟩ := q
  show Wp _ _ _ _ _ 299 _ [vI z] _ _ _ _ _
  refine wp_aload_n dL_law_299 rfl rfl ?_
  refine wl_arg (n := 1) dL_law_300 dL_law_301 dL_law_303 dL_law_304 dL_law_305 rfl rfl (by decide) hj hN ?_
  refine wp_i2l dL_law_306 ?_
  refine wp_bipush dL_law_307 (by decide) ?_
  refine wp_lshl dL_law_309 ?_
  refine wl_arg (n := 2) dL_law_310 dL_law_311 dL_law_313 dL_law_314 dL_law_315 rfl rfl (by decide) hj hN ?_
  refine wp_i2l dL_law_316 ?_
  refine wp_ldc2 dL_law_317 ww_c19 (by decide) ?_
  refine wp_land dL_law_320 ?_
  refine wp_lor dL_law_321 ?_
  refine wl_arg (n := 3) dL_law_322 dL_law_323 dL_law_325 dL_law_326 dL_law_327 rfl rfl (by decide) hj hN ?_
  refine wp_i2l dL_law_328 ?_
  refine wp_bipush dL_law_329 (by decide) ?_
  refine wp_lshl dL_law_331 ?_
  refine wl_arg (n := 4) dL_law_332 dL_law_333 dL_law_335 dL_law_336 dL_law_337 rfl rfl (by decide) hj hN ?_
  refine wp_i2l dL_law_338 ?_
  refine wp_ldc2 dL_law_339 ww_c19 (by decide) ?_
  refine wp_land dL_law_342 ?_
  refine wp_lor dL_law_343 ?_
  refine wl_arg (n := 5) dL_law_344 dL_law_345 dL_law_347 dL_law_348 dL_law_349 rfl rfl (by decide) hj hN ?_
  refine wp_i2l dL_law_350 ?_
  refine wp_bipush dL_law_351 (by decide) ?_
  refine wp_lshl dL_law_353 ?_
  refine wl_argb (n := 6) dL_law_354 dL_law_355 dL_law_357 dL_law_359 dL_law_360 rfl rfl (by decide) hj hN ?_
  refine wp_i2l dL_law_361 ?_
  refine wp_ldc2 dL_law_362 ww_c19 (by decide) ?_
  refine wp_land dL_law_365 ?_
  refine wp_lor dL_law_366 ?_
  refine wp_callV (d' := d) (S := [vI z]) (as := [vJ (b_lor ((b_lshl (sc K (7 * j + 1)) 32)) ((b_land (sc K (7 * j + 2)) (4294967295)))), vJ (b_lor ((b_lshl (sc K (7 * j + 3)) 32)) ((b_land (sc K (7 * j + 4)) (4294967295)))), vJ (b_lor ((b_lshl (sc K (7 * j + 5)) 32)) ((b_land (sc K (7 * j + 6)) (4294967295))))]) dL_law_367 lL_25 h1 (by omega) sh369 rfl rfl (Nat.le_of_ble_eq_true rfl) hm (fun r sh2 V2 q => ?_)
  obtain ⟨rfl, z2, rfl, e, hI⟩ := q
  show Wp _ _ _ _ _ 370 _ [vI z2, vI z] _ _ _ _ _
  exact wp_icmp_eq (tgt := 2076) dL_law_370 rfl (fun _ => hk V2 hI) (fun q => absurd e.symm q)
theorem lw_c1 {d : Nat} (hd : d < 2048) (hj : 7 * j + 7 ≤ kN K) (hN : kN K ≤ 3584) (hm : cl ≤ mc ∧ sl ≤ ms) (h : Bth K d mX11_index [vR 0] mX12_index [vR 369] V) (hk : ∀ V2, Inv V2 → Wp K 2048 (mL nm) mc ms 2076 [some vS, some (vR 0), some (vR 369), some (vR 401), some (vI ((7 * j : Nat) : Int)), none, none] [] cl sl SH V2 Q) : Wp K 2048 (mL nm) mc ms 375 [some vS, some (vR 0), some (vR 369), some (vR 401), some (vI ((7 * j : Nat) : Int)), none, none] [] cl sl SH V Q := by
  refine wp_aload_n dL_law_375 rfl rfl ?_
  refine wp_callV (d' := d) (S := []) (as := []) dL_law_376 lL_26 h (by omega) sh0 rfl rfl (Nat.le_of_ble_eq_true rfl) hm (fun r sh1 V1 q => ?_)
  obtain ⟨rfl, z, rfl, h1⟩ := q
  show Wp _ _ _ _ _ 379 _ [vI z] _ _ _ _ _
  refine wp_aload_n dL_law_379 rfl rfl ?_
  refine wp_callV (d' := d) (S := [vI z]) (as := []) dL_law_380 lL_30 h1 (by omega) sh369 rfl rfl (Nat.le_of_ble_eq_true rfl) hm (fun r sh2 V2 q => ?_)
  obtain ⟨rfl, z2, rfl, e, hI⟩ := q
  show Wp _ _ _ _ _ 383 _ [vI z2, vI z] _ _ _ _ _
  exact wp_icmp_eq (tgt := 2076) dL_law_383 rfl (fun _ => hk V2 hI) (fun q => absurd e.symm q)
theorem lw_c2 {d : Nat} (hd : d < 2048) (hj : 7 * j + 7 ≤ kN K) (hN : kN K ≤ 3584) (hm : cl ≤ mc ∧ sl ≤ ms) (h : Bth K d mX11_work [vR 0] mX12_work [vR 369] V) (hk : ∀ V2, Inv V2 → Wp K 2048 (mL nm) mc ms 2076 [some vS, some (vR 0), some (vR 369), some (vR 401), some (vI ((7 * j : Nat) : Int)), none, none] [] cl sl SH V2 Q) : Wp K 2048 (mL nm) mc ms 388 [some vS, some (vR 0), some (vR 369), some (vR 401), some (vI ((7 * j : Nat) : Int)), none, none] [] cl sl SH V Q := by
  refine wp_aload_n dL_law_388 rfl rfl ?_
  refine wp_callV (d' := d) (S := []) (as := []) dL_law_389 lL_31 h (by omega) sh0 rfl rfl (Nat.le_of_ble_eq_true rfl) hm (fun r sh1 V1 q => ?_)
  obtain ⟨rfl, z, rfl, h1⟩ := q
  show Wp _ _ _ _ _ 392 _ [vI z] _ _ _ _ _
  refine wp_aload_n dL_law_392 rfl rfl ?_
  refine wp_callV (d' := d) (S := [vI z]) (as := []) dL_law_393 lL_34 h1 (by omega) sh369 rfl rfl (Nat.le_of_ble_eq_true rfl) hm (fun r sh2 V2 q => ?_)
  obtain ⟨rfl, z2, rfl, e, hI⟩ := q
  show Wp _ _ _ _ _ 396 _ [vI z2, vI z] _ _ _ _ _
  exact wp_icmp_eq (tgt := 2076) dL_law_396 rfl (fun _ => hk V2 hI) (fun q => absurd e.symm q)
theorem lw_c3 {d : Nat} (hd : d < 2048) (hj : 7 * j + 7 ≤ kN K) (hN : kN K ≤ 3584) (hm : cl ≤ mc ∧ sl ≤ ms) (h : Bth K d mX11_row [vR 0, vI (sc K (7 * j + 1)), vI (sc K (7 * j + 2))] mX12_row [vR 369, vI (sc K (7 * j + 1)), vI (sc K (7 * j + 2))] V) (hk : ∀ V2, Inv V2 → Wp K 2048 (mL nm) mc ms 2076 [some vS, some (vR 0), some (vR 369), some (vR 401), some (vI ((7 * j : Nat) : Int)), none, none] [] cl sl SH V2 Q) : Wp K 2048 (mL nm) mc ms 401 [some vS, some (vR 0), some (vR 369), some (vR 401), some (vI ((7 * j : Nat) : Int)), none, none] [] cl sl SH V Q := by
  refine wp_aload_n dL_law_401 rfl rfl ?_
  refine wl_arg (n := 1) dL_law_402 dL_law_403 dL_law_405 dL_law_406 dL_law_407 rfl rfl (by decide) hj hN ?_
  refine wl_arg (n := 2) dL_law_408 dL_law_409 dL_law_411 dL_law_412 dL_law_413 rfl rfl (by decide) hj hN ?_
  refine wp_callV (d' := d) (S := []) (as := [vI (sc K (7 * j + 1)), vI (sc K (7 * j + 2))]) dL_law_414 lL_35 h (by omega) sh0 rfl rfl (Nat.le_of_ble_eq_true rfl) hm (fun r sh1 V1 q => ?_)
  obtain ⟨rfl, z, rfl, h1⟩ := q
  show Wp _ _ _ _ _ 417 _ [vI z] _ _ _ _ _
  refine wp_aload_n dL_law_417 rfl rfl ?_
  refine wl_arg (n := 1) dL_law_418 dL_law_419 dL_law_421 dL_law_422 dL_law_423 rfl rfl (by decide) hj hN ?_
  refine wl_arg (n := 2) dL_law_424 dL_law_425 dL_law_427 dL_law_428 dL_law_429 rfl rfl (by decide) hj hN ?_
  refine wp_callV (d' := d) (S := [vI z]) (as := [vI (sc K (7 * j + 1)), vI (sc K (7 * j + 2))]) dL_law_430 lL_38 h1 (by omega) sh369 rfl rfl (Nat.le_of_ble_eq_true rfl) hm (fun r sh2 V2 q => ?_)
  obtain ⟨rfl, z2, rfl, e, hI⟩ := q
  show Wp _ _ _ _ _ 433 _ [vI z2, vI z] _ _ _ _ _
  exact wp_icmp_eq (tgt := 2076) dL_law_433 rfl (fun _ => hk V2 hI) (fun q => absurd e.symm q)
theorem lw_c4 {d : Nat} (hd : d < 2048) (hj : 7 * j + 7 ≤ kN K) (hN : kN K ≤ 3584) (hm : cl ≤ mc ∧ sl ≤ ms) (h : Bth K d mX11_item [vR 0, vI (sc K (7 * j + 1)), vI (sc K (7 * j + 2))] mX12_item [vR 369, vI (sc K (7 * j + 1)), vI (sc K (7 * j + 2))] V) (hk : ∀ V2, Inv V2 → Wp K 2048 (mL nm) mc ms 2076 [some vS, some (vR 0), some (vR 369), some (vR 401), some (vI ((7 * j : Nat) : Int)), none, none] [] cl sl SH V2 Q) : Wp K 2048 (mL nm) mc ms 438 [some vS, some (vR 0), some (vR 369), some (vR 401), some (vI ((7 * j : Nat) : Int)), none, none] [] cl sl SH V Q := by
  refine wp_aload_n dL_law_438 rfl rfl ?_
  refine wl_arg (n := 1) dL_law_439 dL_law_440 dL_law_442 dL_law_443 dL_law_444 rfl rfl (by decide) hj hN ?_
  refine wl_arg (n := 2) dL_law_445 dL_law_446 dL_law_448 dL_law_449 dL_law_450 rfl rfl (by decide) hj hN ?_
  refine wp_callV (d' := d) (S := []) (as := [vI (sc K (7 * j + 1)), vI (sc K (7 * j + 2))]) dL_law_451 lL_39 h (by omega) sh0 rfl rfl (Nat.le_of_ble_eq_true rfl) hm (fun r sh1 V1 q => ?_)
  obtain ⟨rfl, z, rfl, h1⟩ := q
  show Wp _ _ _ _ _ 454 _ [vI z] _ _ _ _ _
  refine wp_aload_n dL_law_454 rfl rfl ?_
  refine wl_arg (n := 1) dL_law_455 dL_law_456 dL_law_458 dL_law_459 dL_law_460 rfl rfl (by decide) hj hN ?_
  refine wl_arg (n := 2) dL_law_461 dL_law_462 dL_law_464 dL_law_465 dL_law_466 rfl rfl (by decide) hj hN ?_
  refine wp_callV (d' := d) (S := [vI z]) (as := [vI (sc K (7 * j + 1)), vI (sc K (7 * j + 2))]) dL_law_467 lL_42 h1 (by omega) sh369 rfl rfl (Nat.le_of_ble_eq_true rfl) hm (fun r sh2 V2 q => ?_)
  obtain ⟨rfl, z2, rfl, e, hI⟩ := q
  show Wp _ _ _ _ _ 470 _ [vI z2, vI z] _ _ _ _ _
  exact wp_icmp_eq (tgt := 2076) dL_law_470 rfl (fun _ => hk V2 hI) (fun q => absurd e.symm q)
theorem lw_c6 {d : Nat} (hd : d < 2048) (hj : 7 * j + 7 ≤ kN K) (hN : kN K ≤ 3584) (hm : cl ≤ mc ∧ sl ≤ ms) (h : Bth K d mX11_braid [vR 0, vI (sc K (7 * j + 1)), vI (sc K (7 * j + 2))] mX12_braid [vR 369, vI (sc K (7 * j + 1)), vI (sc K (7 * j + 2))] V) (hk : ∀ V2, Inv V2 → Wp K 2048 (mL nm) mc ms 2076 [some vS, some (vR 0), some (vR 369), some (vR 401), some (vI ((7 * j : Nat) : Int)), none, none] [] cl sl SH V2 Q) : Wp K 2048 (mL nm) mc ms 543 [some vS, some (vR 0), some (vR 369), some (vR 401), some (vI ((7 * j : Nat) : Int)), none, none] [] cl sl SH V Q := by
  refine wp_aload_n dL_law_543 rfl rfl ?_
  refine wl_arg (n := 1) dL_law_544 dL_law_545 dL_law_547 dL_law_548 dL_law_549 rfl rfl (by decide) hj hN ?_
  refine wl_arg (n := 2) dL_law_550 dL_law_551 dL_law_553 dL_law_554 dL_law_555 rfl rfl (by decide) hj hN ?_
  refine wp_callV (d' := d) (S := []) (as := [vI (sc K (7 * j + 1)), vI (sc K (7 * j + 2))]) dL_law_556 lL_52 h (by omega) sh0 rfl rfl (Nat.le_of_ble_eq_true rfl) hm (fun r sh1 V1 q => ?_)
  obtain ⟨rfl, z, rfl, h1⟩ := q
  show Wp _ _ _ _ _ 559 _ [vI z] _ _ _ _ _
  refine wp_aload_n dL_law_559 rfl rfl ?_
  refine wl_arg (n := 1) dL_law_560 dL_law_561 dL_law_563 dL_law_564 dL_law_565 rfl rfl (by decide) hj hN ?_
  refine wl_arg (n := 2) dL_law_566 dL_law_567 dL_law_569 dL_law_570 dL_law_571 rfl rfl (by decide) hj hN ?_
  refine wp_callV (d' := d) (S := [vI z]) (as := [vI (sc K (7 * j + 1)), vI (sc K (7 * j + 2))]) dL_law_572 lL_55 h1 (by omega) sh369 rfl rfl (Nat.le_of_ble_eq_true rfl) hm (fun r sh2 V2 q => ?_)
  obtain ⟨rfl, z2, rfl, e, hI⟩ := q
  show Wp _ _ _ _ _ 575 _ [vI z2, vI z] _ _ _ _ _
  exact wp_icmp_eq (tgt := 2076) dL_law_575 rfl (fun _ => hk V2 hI) (fun q => absurd e.symm q)
theorem lw_c7 {d : Nat} (hd : d < 2048) (hj : 7 * j + 7 ≤ kN K) (hN : kN K ≤ 3584) (hm : cl ≤ mc ∧ sl ≤ ms) (h : Bth K d mX11_append [vR 0, vI (sc K (7 * j + 1)), vI (sc K (7 * j + 2))] mX12_append [vR 369, vI (sc K (7 * j + 1)), vI (sc K (7 * j + 2))] V) (hk : ∀ V2, Inv V2 → Wp K 2048 (mL nm) mc ms 2076 [some vS, some (vR 0), some (vR 369), some (vR 401), some (vI ((7 * j : Nat) : Int)), none, none] [] cl sl SH V2 Q) : Wp K 2048 (mL nm) mc ms 580 [some vS, some (vR 0), some (vR 369), some (vR 401), some (vI ((7 * j : Nat) : Int)), none, none] [] cl sl SH V Q := by
  refine wp_aload_n dL_law_580 rfl rfl ?_
  refine wl_arg (n := 1) dL_law_581 dL_law_582 dL_law_584 dL_law_585 dL_law_586 rfl rfl (by decide) hj hN ?_
  refine wl_arg (n := 2) dL_law_587 dL_law_588 dL_law_590 dL_law_591 dL_law_592 rfl rfl (by decide) hj hN ?_
  refine wp_callV (d' := d) (S := []) (as := [vI (sc K (7 * j + 1)), vI (sc K (7 * j + 2))]) dL_law_593 lL_56 h (by omega) sh0 rfl rfl (Nat.le_of_ble_eq_true rfl) hm (fun r sh1 V1 q => ?_)
  obtain ⟨rfl, z, rfl, h1⟩ := q
  show Wp _ _ _ _ _ 596 _ [vI z] _ _ _ _ _
  refine wp_aload_n dL_law_596 rfl rfl ?_
  refine wl_arg (n := 1) dL_law_597 dL_law_598 dL_law_600 dL_law_601 dL_law_602 rfl rfl (by decide) hj hN ?_
  refine wl_arg (n := 2) dL_law_603 dL_law_604 dL_law_606 dL_law_607 dL_law_608 rfl rfl (by decide) hj hN ?_
  refine wp_callV (d' := d) (S := [vI z]) (as := [vI (sc K (7 * j + 1)), vI (sc K (7 * j + 2))]) dL_law_609 lL_59 h1 (by omega) sh369 rfl rfl (Nat.le_of_ble_eq_true rfl) hm (fun r sh2 V2 q => ?_)
  obtain ⟨rfl, z2, rfl, e, hI⟩ := q
  show Wp _ _ _ _ _ 612 _ [vI z2, vI z] _ _ _ _ _
  exact wp_icmp_eq (tgt := 2076) dL_law_612 rfl (fun _ => hk V2 hI) (fun q => absurd e.symm q)
theorem lw_c8 {d : Nat} (hd : d < 2048) (hj : 7 * j + 7 ≤ kN K) (hN : kN K ≤ 3584) (hm : cl ≤ mc ∧ sl ≤ ms) (h : Bth K d mX11_cut [vR 0, vI (sc K (7 * j + 1))] mX12_cut [vR 369, vI (sc K (7 * j + 1))] V) (hk : ∀ V2, Inv V2 → Wp K 2048 (mL nm) mc ms 2076 [some vS, some (vR 0), some (vR 369), some (vR 401), some (vI ((7 * j : Nat) : Int)), none, none] [] cl sl SH V2 Q) : Wp K 2048 (mL nm) mc ms 617 [some vS, some (vR 0), some (vR 369), some (vR 401), some (vI ((7 * j : Nat) : Int)), none, none] [] cl sl SH V Q := by
  refine wp_aload_n dL_law_617 rfl rfl ?_
  refine wl_arg (n := 1) dL_law_618 dL_law_619 dL_law_621 dL_law_622 dL_law_623 rfl rfl (by decide) hj hN ?_
  refine wp_callV (d' := d) (S := []) (as := [vI (sc K (7 * j + 1))]) dL_law_624 lL_60 h (by omega) sh0 rfl rfl (Nat.le_of_ble_eq_true rfl) hm (fun r sh1 V1 q => ?_)
  obtain ⟨rfl, z, rfl, h1⟩ := q
  show Wp _ _ _ _ _ 627 _ [vI z] _ _ _ _ _
  refine wp_aload_n dL_law_627 rfl rfl ?_
  refine wl_arg (n := 1) dL_law_628 dL_law_629 dL_law_631 dL_law_632 dL_law_633 rfl rfl (by decide) hj hN ?_
  refine wp_callV (d' := d) (S := [vI z]) (as := [vI (sc K (7 * j + 1))]) dL_law_634 lL_64 h1 (by omega) sh369 rfl rfl (Nat.le_of_ble_eq_true rfl) hm (fun r sh2 V2 q => ?_)
  obtain ⟨rfl, z2, rfl, e, hI⟩ := q
  show Wp _ _ _ _ _ 637 _ [vI z2, vI z] _ _ _ _ _
  exact wp_icmp_eq (tgt := 2076) dL_law_637 rfl (fun _ => hk V2 hI) (fun q => absurd e.symm q)
theorem lw_c9 {d : Nat} (hd : d < 2048) (hj : 7 * j + 7 ≤ kN K) (hN : kN K ≤ 3584) (hm : cl ≤ mc ∧ sl ≤ ms) (h : Bth K d mX11_turn [vR 0, vI (sc K (7 * j + 1))] mX12_turn [vR 369, vI (sc K (7 * j + 1))] V) (hk : ∀ V2, Inv V2 → Wp K 2048 (mL nm) mc ms 2076 [some vS, some (vR 0), some (vR 369), some (vR 401), some (vI ((7 * j : Nat) : Int)), none, none] [] cl sl SH V2 Q) : Wp K 2048 (mL nm) mc ms 642 [some vS, some (vR 0), some (vR 369), some (vR 401), some (vI ((7 * j : Nat) : Int)), none, none] [] cl sl SH V Q := by
  refine wp_aload_n dL_law_642 rfl rfl ?_
  refine wl_arg (n := 1) dL_law_643 dL_law_644 dL_law_646 dL_law_647 dL_law_648 rfl rfl (by decide) hj hN ?_
  refine wp_callV (d' := d) (S := []) (as := [vI (sc K (7 * j + 1))]) dL_law_649 lL_65 h (by omega) sh0 rfl rfl (Nat.le_of_ble_eq_true rfl) hm (fun r sh1 V1 q => ?_)
  obtain ⟨rfl, z, rfl, h1⟩ := q
  show Wp _ _ _ _ _ 652 _ [vI z] _ _ _ _ _
  refine wp_aload_n dL_law_652 rfl rfl ?_
  refine wl_arg (n := 1) dL_law_653 dL_law_654 dL_law_656 dL_law_657 dL_law_658 rfl rfl (by decide) hj hN ?_
  refine wp_callV (d' := d) (S := [vI z]) (as := [vI (sc K (7 * j + 1))]) dL_law_659 lL_69 h1 (by omega) sh369 rfl rfl (Nat.le_of_ble_eq_true rfl) hm (fun r sh2 V2 q => ?_)
  obtain ⟨rfl, z2, rfl, e, hI⟩ := q
  show Wp _ _ _ _ _ 662 _ [vI z2, vI z] _ _ _ _ _
  exact wp_icmp_eq (tgt := 2076) dL_law_662 rfl (fun _ => hk V2 hI) (fun q => absurd e.symm q)
theorem lw_c10 {d : Nat} (hd : d < 2048) (hj : 7 * j + 7 ≤ kN K) (hN : kN K ≤ 3584) (hm : cl ≤ mc ∧ sl ≤ ms) (h : Bth K d mX11_cross [vR 0, vI (sc K (7 * j + 1)), vI (sc K (7 * j + 2))] mX12_cross [vR 369, vI (sc K (7 * j + 1)), vI (sc K (7 * j + 2))] V) (hk : ∀ V2, Inv V2 → Wp K 2048 (mL nm) mc ms 2076 [some vS, some (vR 0), some (vR 369), some (vR 401), some (vI ((7 * j : Nat) : Int)), none, none] [] cl sl SH V2 Q) : Wp K 2048 (mL nm) mc ms 667 [some vS, some (vR 0), some (vR 369), some (vR 401), some (vI ((7 * j : Nat) : Int)), none, none] [] cl sl SH V Q := by
  refine wp_aload_n dL_law_667 rfl rfl ?_
  refine wl_arg (n := 1) dL_law_668 dL_law_669 dL_law_671 dL_law_672 dL_law_673 rfl rfl (by decide) hj hN ?_
  refine wl_arg (n := 2) dL_law_674 dL_law_675 dL_law_677 dL_law_678 dL_law_679 rfl rfl (by decide) hj hN ?_
  refine wp_callV (d' := d) (S := []) (as := [vI (sc K (7 * j + 1)), vI (sc K (7 * j + 2))]) dL_law_680 lL_70 h (by omega) sh0 rfl rfl (Nat.le_of_ble_eq_true rfl) hm (fun r sh1 V1 q => ?_)
  obtain ⟨rfl, z, rfl, h1⟩ := q
  show Wp _ _ _ _ _ 683 _ [vI z] _ _ _ _ _
  refine wp_aload_n dL_law_683 rfl rfl ?_
  refine wl_arg (n := 1) dL_law_684 dL_law_685 dL_law_687 dL_law_688 dL_law_689 rfl rfl (by decide) hj hN ?_
  refine wl_arg (n := 2) dL_law_690 dL_law_691 dL_law_693 dL_law_694 dL_law_695 rfl rfl (by decide) hj hN ?_
  refine wp_callV (d' := d) (S := [vI z]) (as := [vI (sc K (7 * j + 1)), vI (sc K (7 * j + 2))]) dL_law_696 lL_74 h1 (by omega) sh369 rfl rfl (Nat.le_of_ble_eq_true rfl) hm (fun r sh2 V2 q => ?_)
  obtain ⟨rfl, z2, rfl, e, hI⟩ := q
  show Wp _ _ _ _ _ 699 _ [vI z2, vI z] _ _ _ _ _
  exact wp_icmp_eq (tgt := 2076) dL_law_699 rfl (fun _ => hk V2 hI) (fun q => absurd e.symm q)
theorem lw_c11 {d : Nat} (hd : d < 2048) (hj : 7 * j + 7 ≤ kN K) (hN : kN K ≤ 3584) (hm : cl ≤ mc ∧ sl ≤ ms) (h : Bth K d mX11_keep [vR 0, vI (sc K (7 * j + 1)), vI (sc K (7 * j + 2))] mX12_keep [vR 369, vI (sc K (7 * j + 1)), vI (sc K (7 * j + 2))] V) (hk : ∀ V2, Inv V2 → Wp K 2048 (mL nm) mc ms 2076 [some vS, some (vR 0), some (vR 369), some (vR 401), some (vI ((7 * j : Nat) : Int)), none, none] [] cl sl SH V2 Q) : Wp K 2048 (mL nm) mc ms 704 [some vS, some (vR 0), some (vR 369), some (vR 401), some (vI ((7 * j : Nat) : Int)), none, none] [] cl sl SH V Q := by
  refine wp_aload_n dL_law_704 rfl rfl ?_
  refine wl_arg (n := 1) dL_law_705 dL_law_706 dL_law_708 dL_law_709 dL_law_710 rfl rfl (by decide) hj hN ?_
  refine wl_arg (n := 2) dL_law_711 dL_law_712 dL_law_714 dL_law_715 dL_law_716 rfl rfl (by decide) hj hN ?_
  refine wp_callV (d' := d) (S := []) (as := [vI (sc K (7 * j + 1)), vI (sc K (7 * j + 2))]) dL_law_717 lL_75 h (by omega) sh0 rfl rfl (Nat.le_of_ble_eq_true rfl) hm (fun r sh1 V1 q => ?_)
  obtain ⟨rfl, z, rfl, h1⟩ := q
  show Wp _ _ _ _ _ 720 _ [vI z] _ _ _ _ _
  refine wp_aload_n dL_law_720 rfl rfl ?_
  refine wl_arg (n := 1) dL_law_721 dL_law_722 dL_law_724 dL_law_725 dL_law_726 rfl rfl (by decide) hj hN ?_
  refine wl_arg (n := 2) dL_law_727 dL_law_728 dL_law_730 dL_law_731 dL_law_732 rfl rfl (by decide) hj hN ?_
  refine wp_callV (d' := d) (S := [vI z]) (as := [vI (sc K (7 * j + 1)), vI (sc K (7 * j + 2))]) dL_law_733 lL_78 h1 (by omega) sh369 rfl rfl (Nat.le_of_ble_eq_true rfl) hm (fun r sh2 V2 q => ?_)
  obtain ⟨rfl, z2, rfl, e, hI⟩ := q
  show Wp _ _ _ _ _ 736 _ [vI z2, vI z] _ _ _ _ _
  exact wp_icmp_eq (tgt := 2076) dL_law_736 rfl (fun _ => hk V2 hI) (fun q => absurd e.symm q)
theorem lw_c12 {d : Nat} (hd : d < 2048) (hj : 7 * j + 7 ≤ kN K) (hN : kN K ≤ 3584) (hm : cl ≤ mc ∧ sl ≤ ms) (h : Bth K d mX11_undo [vR 0] mX12_undo [vR 369] V) (hk : ∀ V2, Inv V2 → Wp K 2048 (mL nm) mc ms 2076 [some vS, some (vR 0), some (vR 369), some (vR 401), some (vI ((7 * j : Nat) : Int)), none, none] [] cl sl SH V2 Q) : Wp K 2048 (mL nm) mc ms 741 [some vS, some (vR 0), some (vR 369), some (vR 401), some (vI ((7 * j : Nat) : Int)), none, none] [] cl sl SH V Q := by
  refine wp_aload_n dL_law_741 rfl rfl ?_
  refine wp_callV (d' := d) (S := []) (as := []) dL_law_742 lL_79 h (by omega) sh0 rfl rfl (Nat.le_of_ble_eq_true rfl) hm (fun r sh1 V1 q => ?_)
  obtain ⟨rfl, z, rfl, h1⟩ := q
  show Wp _ _ _ _ _ 745 _ [vI z] _ _ _ _ _
  refine wp_aload_n dL_law_745 rfl rfl ?_
  refine wp_callV (d' := d) (S := [vI z]) (as := []) dL_law_746 lL_83 h1 (by omega) sh369 rfl rfl (Nat.le_of_ble_eq_true rfl) hm (fun r sh2 V2 q => ?_)
  obtain ⟨rfl, z2, rfl, e, hI⟩ := q
  show Wp _ _ _ _ _ 749 _ [vI z2, vI z] _ _ _ _ _
  exact wp_icmp_eq (tgt := 2076) dL_law_749 rfl (fun _ => hk V2 hI) (fun q => absurd e.symm q)
theorem lw_c13 {d : Nat} (hd : d < 2048) (hj : 7 * j + 7 ≤ kN K) (hN : kN K ≤ 3584) (hm : cl ≤ mc ∧ sl ≤ ms) (h : Bth K d mX11_judged [vR 0, vI (sc K (7 * j + 1))] mX12_judged [vR 369, vI (sc K (7 * j + 1))] V) (hk : ∀ V2, Inv V2 → Wp K 2048 (mL nm) mc ms 2076 [some vS, some (vR 0), some (vR 369), some (vR 401), some (vI ((7 * j : Nat) : Int)), none, none] [] cl sl SH V2 Q) : Wp K 2048 (mL nm) mc ms 754 [some vS, some (vR 0), some (vR 369), some (vR 401), some (vI ((7 * j : Nat) : Int)), none, none] [] cl sl SH V Q := by
  refine wp_aload_n dL_law_754 rfl rfl ?_
  refine wl_arg (n := 1) dL_law_755 dL_law_756 dL_law_758 dL_law_759 dL_law_760 rfl rfl (by decide) hj hN ?_
  refine wp_callV (d' := d) (S := []) (as := [vI (sc K (7 * j + 1))]) dL_law_761 lL_84 h (by omega) sh0 rfl rfl (Nat.le_of_ble_eq_true rfl) hm (fun r sh1 V1 q => ?_)
  obtain ⟨rfl, z, rfl, h1⟩ := q
  show Wp _ _ _ _ _ 764 _ [vI z] _ _ _ _ _
  refine wp_aload_n dL_law_764 rfl rfl ?_
  refine wl_arg (n := 1) dL_law_765 dL_law_766 dL_law_768 dL_law_769 dL_law_770 rfl rfl (by decide) hj hN ?_
  refine wp_callV (d' := d) (S := [vI z]) (as := [vI (sc K (7 * j + 1))]) dL_law_771 lL_87 h1 (by omega) sh369 rfl rfl (Nat.le_of_ble_eq_true rfl) hm (fun r sh2 V2 q => ?_)
  obtain ⟨rfl, z2, rfl, e, hI⟩ := q
  show Wp _ _ _ _ _ 774 _ [vI z2, vI z] _ _ _ _ _
  exact wp_icmp_eq (tgt := 2076) dL_law_774 rfl (fun _ => hk V2 hI) (fun q => absurd e.symm q)
theorem lw_c14 {d : Nat} (hd : d < 2048) (hj : 7 * j + 7 ≤ kN K) (hN : kN K ≤ 3584) (hm : cl ≤ mc ∧ sl ≤ ms) (h : Bth K d mX11_chain [vR 0, vI (sc K (7 * j + 1)), vI (sc K (7 * j + 2)), vI (sc K (7 * j + 3))] mX12_chain [vR 369, vI (sc K (7 * j + 1)), vI (sc K (7 * j + 2)), vI (sc K (7 * j + 3))] V) (hk : ∀ V2, Inv V2 → Wp K 2048 (mL nm) mc ms 2076 [some vS, some (vR 0), some (vR 369), some (vR 401), some (vI ((7 * j : Nat) : Int)), none, none] [] cl sl SH V2 Q) : Wp K 2048 (mL nm) mc ms 779 [some vS, some (vR 0), some (vR 369), some (vR 401), some (vI ((7 * j : Nat) : Int)), none, none] [] cl sl SH V Q := by
  refine wp_aload_n dL_law_779 rfl rfl ?_
  refine wl_arg (n := 1) dL_law_780 dL_law_781 dL_law_783 dL_law_784 dL_law_785 rfl rfl (by decide) hj hN ?_
  refine wl_arg (n := 2) dL_law_786 dL_law_787 dL_law_789 dL_law_790 dL_law_791 rfl rfl (by decide) hj hN ?_
  refine wl_arg (n := 3) dL_law_792 dL_law_793 dL_law_795 dL_law_796 dL_law_797 rfl rfl (by decide) hj hN ?_
  refine wp_callV (d' := d) (S := []) (as := [vI (sc K (7 * j + 1)), vI (sc K (7 * j + 2)), vI (sc K (7 * j + 3))]) dL_law_798 lL_88 h (by omega) sh0 rfl rfl (Nat.le_of_ble_eq_true rfl) hm (fun r sh1 V1 q => ?_)
  obtain ⟨rfl, z, rfl, h1⟩ := q
  show Wp _ _ _ _ _ 801 _ [vI z] _ _ _ _ _
  refine wp_aload_n dL_law_801 rfl rfl ?_
  refine wl_arg (n := 1) dL_law_802 dL_law_803 dL_law_805 dL_law_806 dL_law_807 rfl rfl (by decide) hj hN ?_
  refine wl_arg (n := 2) dL_law_808 dL_law_809 dL_law_811 dL_law_812 dL_law_813 rfl rfl (by decide) hj hN ?_
  refine wl_arg (n := 3) dL_law_814 dL_law_815 dL_law_817 dL_law_818 dL_law_819 rfl rfl (by decide) hj hN ?_
  refine wp_callV (d' := d) (S := [vI z]) (as := [vI (sc K (7 * j + 1)), vI (sc K (7 * j + 2)), vI (sc K (7 * j + 3))]) dL_law_820 lL_92 h1 (by omega) sh369 rfl rfl (Nat.le_of_ble_eq_true rfl) hm (fun r sh2 V2 q => ?_)
  obtain ⟨rfl, z2, rfl, e, hI⟩ := q
  show Wp _ _ _ _ _ 823 _ [vI z2, vI z] _ _ _ _ _
  exact wp_icmp_eq (tgt := 2076) dL_law_823 rfl (fun _ => hk V2 hI) (fun q => absurd e.symm q)
theorem lw_c15 {d : Nat} (hd : d < 2048) (hj : 7 * j + 7 ≤ kN K) (hN : kN K ≤ 3584) (hm : cl ≤ mc ∧ sl ≤ ms) (h : Bth K d mX11_pick [vR 0, vI (sc K (7 * j + 1)), vI (sc K (7 * j + 2)), vI (sc K (7 * j + 3)), vI (sc K (7 * j + 4))] mX12_pick [vR 369, vI (sc K (7 * j + 1)), vI (sc K (7 * j + 2)), vI (sc K (7 * j + 3)), vI (sc K (7 * j + 4))] V) (hk : ∀ V2, Inv V2 → Wp K 2048 (mL nm) mc ms 2076 [some vS, some (vR 0), some (vR 369), some (vR 401), some (vI ((7 * j : Nat) : Int)), none, none] [] cl sl SH V2 Q) : Wp K 2048 (mL nm) mc ms 828 [some vS, some (vR 0), some (vR 369), some (vR 401), some (vI ((7 * j : Nat) : Int)), none, none] [] cl sl SH V Q := by
  refine wp_aload_n dL_law_828 rfl rfl ?_
  refine wl_arg (n := 1) dL_law_829 dL_law_830 dL_law_832 dL_law_833 dL_law_834 rfl rfl (by decide) hj hN ?_
  refine wl_arg (n := 2) dL_law_835 dL_law_836 dL_law_838 dL_law_839 dL_law_840 rfl rfl (by decide) hj hN ?_
  refine wl_arg (n := 3) dL_law_841 dL_law_842 dL_law_844 dL_law_845 dL_law_846 rfl rfl (by decide) hj hN ?_
  refine wl_arg (n := 4) dL_law_847 dL_law_848 dL_law_850 dL_law_851 dL_law_852 rfl rfl (by decide) hj hN ?_
  refine wp_callV (d' := d) (S := []) (as := [vI (sc K (7 * j + 1)), vI (sc K (7 * j + 2)), vI (sc K (7 * j + 3)), vI (sc K (7 * j + 4))]) dL_law_853 lL_93 h (by omega) sh0 rfl rfl (Nat.le_of_ble_eq_true rfl) hm (fun r sh1 V1 q => ?_)
  obtain ⟨rfl, z, rfl, h1⟩ := q
  show Wp _ _ _ _ _ 856 _ [vI z] _ _ _ _ _
  refine wp_aload_n dL_law_856 rfl rfl ?_
  refine wl_arg (n := 1) dL_law_857 dL_law_858 dL_law_860 dL_law_861 dL_law_862 rfl rfl (by decide) hj hN ?_
  refine wl_arg (n := 2) dL_law_863 dL_law_864 dL_law_866 dL_law_867 dL_law_868 rfl rfl (by decide) hj hN ?_
  refine wl_arg (n := 3) dL_law_869 dL_law_870 dL_law_872 dL_law_873 dL_law_874 rfl rfl (by decide) hj hN ?_
  refine wl_arg (n := 4) dL_law_875 dL_law_876 dL_law_878 dL_law_879 dL_law_880 rfl rfl (by decide) hj hN ?_
  refine wp_callV (d' := d) (S := [vI z]) (as := [vI (sc K (7 * j + 1)), vI (sc K (7 * j + 2)), vI (sc K (7 * j + 3)), vI (sc K (7 * j + 4))]) dL_law_881 lL_97 h1 (by omega) sh369 rfl rfl (Nat.le_of_ble_eq_true rfl) hm (fun r sh2 V2 q => ?_)
  obtain ⟨rfl, z2, rfl, e, hI⟩ := q
  show Wp _ _ _ _ _ 884 _ [vI z2, vI z] _ _ _ _ _
  exact wp_icmp_eq (tgt := 2076) dL_law_884 rfl (fun _ => hk V2 hI) (fun q => absurd e.symm q)
theorem lw_c16 {d : Nat} (hd : d < 2048) (hj : 7 * j + 7 ≤ kN K) (hN : kN K ≤ 3584) (hm : cl ≤ mc ∧ sl ≤ ms) (h : Bth K d mX11_ways [vR 0, vI (sc K (7 * j + 1)), vI (sc K (7 * j + 2)), vI (sc K (7 * j + 3))] mX12_ways [vR 369, vI (sc K (7 * j + 1)), vI (sc K (7 * j + 2)), vI (sc K (7 * j + 3))] V) (hk : ∀ V2, Inv V2 → Wp K 2048 (mL nm) mc ms 2076 [some vS, some (vR 0), some (vR 369), some (vR 401), some (vI ((7 * j : Nat) : Int)), none, none] [] cl sl SH V2 Q) : Wp K 2048 (mL nm) mc ms 889 [some vS, some (vR 0), some (vR 369), some (vR 401), some (vI ((7 * j : Nat) : Int)), none, none] [] cl sl SH V Q := by
  refine wp_aload_n dL_law_889 rfl rfl ?_
  refine wl_arg (n := 1) dL_law_890 dL_law_891 dL_law_893 dL_law_894 dL_law_895 rfl rfl (by decide) hj hN ?_
  refine wl_arg (n := 2) dL_law_896 dL_law_897 dL_law_899 dL_law_900 dL_law_901 rfl rfl (by decide) hj hN ?_
  refine wl_arg (n := 3) dL_law_902 dL_law_903 dL_law_905 dL_law_906 dL_law_907 rfl rfl (by decide) hj hN ?_
  refine wp_callV (d' := d) (S := []) (as := [vI (sc K (7 * j + 1)), vI (sc K (7 * j + 2)), vI (sc K (7 * j + 3))]) dL_law_908 lL_98 h (by omega) sh0 rfl rfl (Nat.le_of_ble_eq_true rfl) hm (fun r sh1 V1 q => ?_)
  obtain ⟨rfl, z, rfl, h1⟩ := q
  show Wp _ _ _ _ _ 911 _ [vI z] _ _ _ _ _
  refine wp_aload_n dL_law_911 rfl rfl ?_
  refine wl_arg (n := 1) dL_law_912 dL_law_913 dL_law_915 dL_law_916 dL_law_917 rfl rfl (by decide) hj hN ?_
  refine wl_arg (n := 2) dL_law_918 dL_law_919 dL_law_921 dL_law_922 dL_law_923 rfl rfl (by decide) hj hN ?_
  refine wl_arg (n := 3) dL_law_924 dL_law_925 dL_law_927 dL_law_928 dL_law_929 rfl rfl (by decide) hj hN ?_
  refine wp_callV (d' := d) (S := [vI z]) (as := [vI (sc K (7 * j + 1)), vI (sc K (7 * j + 2)), vI (sc K (7 * j + 3))]) dL_law_930 lL_101 h1 (by omega) sh369 rfl rfl (Nat.le_of_ble_eq_true rfl) hm (fun r sh2 V2 q => ?_)
  obtain ⟨rfl, z2, rfl, e, hI⟩ := q
  show Wp _ _ _ _ _ 933 _ [vI z2, vI z] _ _ _ _ _
  exact wp_icmp_eq (tgt := 2076) dL_law_933 rfl (fun _ => hk V2 hI) (fun q => absurd e.symm q)
theorem lw_c17 {d : Nat} (hd : d < 2048) (hj : 7 * j + 7 ≤ kN K) (hN : kN K ≤ 3584) (hm : cl ≤ mc ∧ sl ≤ ms) (h : Bth K d mX11_must [vR 0, vI (sc K (7 * j + 1)), vI (sc K (7 * j + 2)), vI (sc K (7 * j + 3))] mX12_must [vR 369, vI (sc K (7 * j + 1)), vI (sc K (7 * j + 2)), vI (sc K (7 * j + 3))] V) (hk : ∀ V2, Inv V2 → Wp K 2048 (mL nm) mc ms 2076 [some vS, some (vR 0), some (vR 369), some (vR 401), some (vI ((7 * j : Nat) : Int)), none, none] [] cl sl SH V2 Q) : Wp K 2048 (mL nm) mc ms 938 [some vS, some (vR 0), some (vR 369), some (vR 401), some (vI ((7 * j : Nat) : Int)), none, none] [] cl sl SH V Q := by
  refine wp_aload_n dL_law_938 rfl rfl ?_
  refine wl_arg (n := 1) dL_law_939 dL_law_940 dL_law_942 dL_law_943 dL_law_944 rfl rfl (by decide) hj hN ?_
  refine wl_arg (n := 2) dL_law_945 dL_law_946 dL_law_948 dL_law_949 dL_law_950 rfl rfl (by decide) hj hN ?_
  refine wl_arg (n := 3) dL_law_951 dL_law_952 dL_law_954 dL_law_955 dL_law_956 rfl rfl (by decide) hj hN ?_
  refine wp_callV (d' := d) (S := []) (as := [vI (sc K (7 * j + 1)), vI (sc K (7 * j + 2)), vI (sc K (7 * j + 3))]) dL_law_957 lL_102 h (by omega) sh0 rfl rfl (Nat.le_of_ble_eq_true rfl) hm (fun r sh1 V1 q => ?_)
  obtain ⟨rfl, z, rfl, h1⟩ := q
  show Wp _ _ _ _ _ 960 _ [vI z] _ _ _ _ _
  refine wp_aload_n dL_law_960 rfl rfl ?_
  refine wl_arg (n := 1) dL_law_961 dL_law_962 dL_law_964 dL_law_965 dL_law_966 rfl rfl (by decide) hj hN ?_
  refine wl_arg (n := 2) dL_law_967 dL_law_968 dL_law_970 dL_law_971 dL_law_972 rfl rfl (by decide) hj hN ?_
  refine wl_arg (n := 3) dL_law_973 dL_law_974 dL_law_976 dL_law_977 dL_law_978 rfl rfl (by decide) hj hN ?_
  refine wp_callV (d' := d) (S := [vI z]) (as := [vI (sc K (7 * j + 1)), vI (sc K (7 * j + 2)), vI (sc K (7 * j + 3))]) dL_law_979 lL_105 h1 (by omega) sh369 rfl rfl (Nat.le_of_ble_eq_true rfl) hm (fun r sh2 V2 q => ?_)
  obtain ⟨rfl, z2, rfl, e, hI⟩ := q
  show Wp _ _ _ _ _ 982 _ [vI z2, vI z] _ _ _ _ _
  exact wp_icmp_eq (tgt := 2076) dL_law_982 rfl (fun _ => hk V2 hI) (fun q => absurd e.symm q)
theorem lw_c18 {d : Nat} (hd : d < 2048) (hj : 7 * j + 7 ≤ kN K) (hN : kN K ≤ 3584) (hm : cl ≤ mc ∧ sl ≤ ms) (h : Bth K d mX11_may [vR 0, vI (sc K (7 * j + 1)), vI (sc K (7 * j + 2)), vI (sc K (7 * j + 3))] mX12_may [vR 369, vI (sc K (7 * j + 1)), vI (sc K (7 * j + 2)), vI (sc K (7 * j + 3))] V) (hk : ∀ V2, Inv V2 → Wp K 2048 (mL nm) mc ms 2076 [some vS, some (vR 0), some (vR 369), some (vR 401), some (vI ((7 * j : Nat) : Int)), none, none] [] cl sl SH V2 Q) : Wp K 2048 (mL nm) mc ms 987 [some vS, some (vR 0), some (vR 369), some (vR 401), some (vI ((7 * j : Nat) : Int)), none, none] [] cl sl SH V Q := by
  refine wp_aload_n dL_law_987 rfl rfl ?_
  refine wl_arg (n := 1) dL_law_988 dL_law_989 dL_law_991 dL_law_992 dL_law_993 rfl rfl (by decide) hj hN ?_
  refine wl_arg (n := 2) dL_law_994 dL_law_995 dL_law_997 dL_law_998 dL_law_999 rfl rfl (by decide) hj hN ?_
  refine wl_arg (n := 3) dL_law_1000 dL_law_1001 dL_law_1003 dL_law_1004 dL_law_1005 rfl rfl (by decide) hj hN ?_
  refine wp_callV (d' := d) (S := []) (as := [vI (sc K (7 * j + 1)), vI (sc K (7 * j + 2)), vI (sc K (7 * j + 3))]) dL_law_1006 lL_106 h (by omega) sh0 rfl rfl (Nat.le_of_ble_eq_true rfl) hm (fun r sh1 V1 q => ?_)
  obtain ⟨rfl, z, rfl, h1⟩ := q
  show Wp _ _ _ _ _ 1009 _ [vI z] _ _ _ _ _
  refine wp_aload_n dL_law_1009 rfl rfl ?_
  refine wl_arg (n := 1) dL_law_1010 dL_law_1011 dL_law_1013 dL_law_1014 dL_law_1015 rfl rfl (by decide) hj hN ?_
  refine wl_arg (n := 2) dL_law_1016 dL_law_1017 dL_law_1019 dL_law_1020 dL_law_1021 rfl rfl (by decide) hj hN ?_
  refine wl_arg (n := 3) dL_law_1022 dL_law_1023 dL_law_1025 dL_law_1026 dL_law_1027 rfl rfl (by decide) hj hN ?_
  refine wp_callV (d' := d) (S := [vI z]) (as := [vI (sc K (7 * j + 1)), vI (sc K (7 * j + 2)), vI (sc K (7 * j + 3))]) dL_law_1028 lL_109 h1 (by omega) sh369 rfl rfl (Nat.le_of_ble_eq_true rfl) hm (fun r sh2 V2 q => ?_)
  obtain ⟨rfl, z2, rfl, e, hI⟩ := q
  show Wp _ _ _ _ _ 1031 _ [vI z2, vI z] _ _ _ _ _
  exact wp_icmp_eq (tgt := 2076) dL_law_1031 rfl (fun _ => hk V2 hI) (fun q => absurd e.symm q)
theorem lw_c19 {d : Nat} (hd : d < 2048) (hj : 7 * j + 7 ≤ kN K) (hN : kN K ≤ 3584) (hm : cl ≤ mc ∧ sl ≤ ms) (h : Bth K d mX11_bare [vR 0, vI (sc K (7 * j + 1)), vI (sc K (7 * j + 2)), vI (sc K (7 * j + 3))] mX12_bare [vR 369, vI (sc K (7 * j + 1)), vI (sc K (7 * j + 2)), vI (sc K (7 * j + 3))] V) (hk : ∀ V2, Inv V2 → Wp K 2048 (mL nm) mc ms 2076 [some vS, some (vR 0), some (vR 369), some (vR 401), some (vI ((7 * j : Nat) : Int)), none, none] [] cl sl SH V2 Q) : Wp K 2048 (mL nm) mc ms 1036 [some vS, some (vR 0), some (vR 369), some (vR 401), some (vI ((7 * j : Nat) : Int)), none, none] [] cl sl SH V Q := by
  refine wp_aload_n dL_law_1036 rfl rfl ?_
  refine wl_arg (n := 1) dL_law_1037 dL_law_1038 dL_law_1040 dL_law_1041 dL_law_1042 rfl rfl (by decide) hj hN ?_
  refine wl_arg (n := 2) dL_law_1043 dL_law_1044 dL_law_1046 dL_law_1047 dL_law_1048 rfl rfl (by decide) hj hN ?_
  refine wl_arg (n := 3) dL_law_1049 dL_law_1050 dL_law_1052 dL_law_1053 dL_law_1054 rfl rfl (by decide) hj hN ?_
  refine wp_callV (d' := d) (S := []) (as := [vI (sc K (7 * j + 1)), vI (sc K (7 * j + 2)), vI (sc K (7 * j + 3))]) dL_law_1055 lL_110 h (by omega) sh0 rfl rfl (Nat.le_of_ble_eq_true rfl) hm (fun r sh1 V1 q => ?_)
  obtain ⟨rfl, z, rfl, h1⟩ := q
  show Wp _ _ _ _ _ 1058 _ [vI z] _ _ _ _ _
  refine wp_aload_n dL_law_1058 rfl rfl ?_
  refine wl_arg (n := 1) dL_law_1059 dL_law_1060 dL_law_1062 dL_law_1063 dL_law_1064 rfl rfl (by decide) hj hN ?_
  refine wl_arg (n := 2) dL_law_1065 dL_law_1066 dL_law_1068 dL_law_1069 dL_law_1070 rfl rfl (by decide) hj hN ?_
  refine wl_arg (n := 3) dL_law_1071 dL_law_1072 dL_law_1074 dL_law_1075 dL_law_1076 rfl rfl (by decide) hj hN ?_
  refine wp_callV (d' := d) (S := [vI z]) (as := [vI (sc K (7 * j + 1)), vI (sc K (7 * j + 2)), vI (sc K (7 * j + 3))]) dL_law_1077 lL_113 h1 (by omega) sh369 rfl rfl (Nat.le_of_ble_eq_true rfl) hm (fun r sh2 V2 q => ?_)
  obtain ⟨rfl, z2, rfl, e, hI⟩ := q
  show Wp _ _ _ _ _ 1080 _ [vI z2, vI z] _ _ _ _ _
  exact wp_icmp_eq (tgt := 2076) dL_law_1080 rfl (fun _ => hk V2 hI) (fun q => absurd e.symm q)
theorem lw_c20 {d : Nat} (hd : d < 2048) (hj : 7 * j + 7 ≤ kN K) (hN : kN K ≤ 3584) (hm : cl ≤ mc ∧ sl ≤ ms) (h : Bth K d mX11_strand [vR 0, vI (sc K (7 * j + 1)), vI (sc K (7 * j + 2))] mX12_strand [vR 369, vI (sc K (7 * j + 1)), vI (sc K (7 * j + 2))] V) (hk : ∀ V2, Inv V2 → Wp K 2048 (mL nm) mc ms 2076 [some vS, some (vR 0), some (vR 369), some (vR 401), some (vI ((7 * j : Nat) : Int)), none, none] [] cl sl SH V2 Q) : Wp K 2048 (mL nm) mc ms 1085 [some vS, some (vR 0), some (vR 369), some (vR 401), some (vI ((7 * j : Nat) : Int)), none, none] [] cl sl SH V Q := by
  refine wp_aload_n dL_law_1085 rfl rfl ?_
  refine wl_arg (n := 1) dL_law_1086 dL_law_1087 dL_law_1089 dL_law_1090 dL_law_1091 rfl rfl (by decide) hj hN ?_
  refine wl_arg (n := 2) dL_law_1092 dL_law_1093 dL_law_1095 dL_law_1096 dL_law_1097 rfl rfl (by decide) hj hN ?_
  refine wp_callV (d' := d) (S := []) (as := [vI (sc K (7 * j + 1)), vI (sc K (7 * j + 2))]) dL_law_1098 lL_114 h (by omega) sh0 rfl rfl (Nat.le_of_ble_eq_true rfl) hm (fun r sh1 V1 q => ?_)
  obtain ⟨rfl, z, rfl, h1⟩ := q
  show Wp _ _ _ _ _ 1101 _ [vI z] _ _ _ _ _
  refine wp_aload_n dL_law_1101 rfl rfl ?_
  refine wl_arg (n := 1) dL_law_1102 dL_law_1103 dL_law_1105 dL_law_1106 dL_law_1107 rfl rfl (by decide) hj hN ?_
  refine wl_arg (n := 2) dL_law_1108 dL_law_1109 dL_law_1111 dL_law_1112 dL_law_1113 rfl rfl (by decide) hj hN ?_
  refine wp_callV (d' := d) (S := [vI z]) (as := [vI (sc K (7 * j + 1)), vI (sc K (7 * j + 2))]) dL_law_1114 lL_117 h1 (by omega) sh369 rfl rfl (Nat.le_of_ble_eq_true rfl) hm (fun r sh2 V2 q => ?_)
  obtain ⟨rfl, z2, rfl, e, hI⟩ := q
  show Wp _ _ _ _ _ 1117 _ [vI z2, vI z] _ _ _ _ _
  exact wp_icmp_eq (tgt := 2076) dL_law_1117 rfl (fun _ => hk V2 hI) (fun q => absurd e.symm q)
theorem lw_c21 {d : Nat} (hd : d < 2048) (hj : 7 * j + 7 ≤ kN K) (hN : kN K ≤ 3584) (hm : cl ≤ mc ∧ sl ≤ ms) (h : Bth K d mX11_under [vR 0, vI (sc K (7 * j + 1)), vI (sc K (7 * j + 2)), vI (sc K (7 * j + 3))] mX12_under [vR 369, vI (sc K (7 * j + 1)), vI (sc K (7 * j + 2)), vI (sc K (7 * j + 3))] V) (hk : ∀ V2, Inv V2 → Wp K 2048 (mL nm) mc ms 2076 [some vS, some (vR 0), some (vR 369), some (vR 401), some (vI ((7 * j : Nat) : Int)), none, none] [] cl sl SH V2 Q) : Wp K 2048 (mL nm) mc ms 1122 [some vS, some (vR 0), some (vR 369), some (vR 401), some (vI ((7 * j : Nat) : Int)), none, none] [] cl sl SH V Q := by
  refine wp_aload_n dL_law_1122 rfl rfl ?_
  refine wl_arg (n := 1) dL_law_1123 dL_law_1124 dL_law_1126 dL_law_1127 dL_law_1128 rfl rfl (by decide) hj hN ?_
  refine wl_arg (n := 2) dL_law_1129 dL_law_1130 dL_law_1132 dL_law_1133 dL_law_1134 rfl rfl (by decide) hj hN ?_
  refine wl_arg (n := 3) dL_law_1135 dL_law_1136 dL_law_1138 dL_law_1139 dL_law_1140 rfl rfl (by decide) hj hN ?_
  refine wp_callV (d' := d) (S := []) (as := [vI (sc K (7 * j + 1)), vI (sc K (7 * j + 2)), vI (sc K (7 * j + 3))]) dL_law_1141 lL_118 h (by omega) sh0 rfl rfl (Nat.le_of_ble_eq_true rfl) hm (fun r sh1 V1 q => ?_)
  obtain ⟨rfl, z, rfl, h1⟩ := q
  show Wp _ _ _ _ _ 1144 _ [vI z] _ _ _ _ _
  refine wp_aload_n dL_law_1144 rfl rfl ?_
  refine wl_arg (n := 1) dL_law_1145 dL_law_1146 dL_law_1148 dL_law_1149 dL_law_1150 rfl rfl (by decide) hj hN ?_
  refine wl_arg (n := 2) dL_law_1151 dL_law_1152 dL_law_1154 dL_law_1155 dL_law_1156 rfl rfl (by decide) hj hN ?_
  refine wl_arg (n := 3) dL_law_1157 dL_law_1158 dL_law_1160 dL_law_1161 dL_law_1162 rfl rfl (by decide) hj hN ?_
  refine wp_callV (d' := d) (S := [vI z]) (as := [vI (sc K (7 * j + 1)), vI (sc K (7 * j + 2)), vI (sc K (7 * j + 3))]) dL_law_1163 lL_121 h1 (by omega) sh369 rfl rfl (Nat.le_of_ble_eq_true rfl) hm (fun r sh2 V2 q => ?_)
  obtain ⟨rfl, z2, rfl, e, hI⟩ := q
  show Wp _ _ _ _ _ 1166 _ [vI z2, vI z] _ _ _ _ _
  exact wp_icmp_eq (tgt := 2076) dL_law_1166 rfl (fun _ => hk V2 hI) (fun q => absurd e.symm q)
theorem lw_c22 {d : Nat} (hd : d < 2048) (hj : 7 * j + 7 ≤ kN K) (hN : kN K ≤ 3584) (hm : cl ≤ mc ∧ sl ≤ ms) (h : Bth K d mX11_how [vR 0, vI (sc K (7 * j + 1)), vI (sc K (7 * j + 2))] mX12_how [vR 369, vI (sc K (7 * j + 1)), vI (sc K (7 * j + 2))] V) (hk : ∀ V2, Inv V2 → Wp K 2048 (mL nm) mc ms 2076 [some vS, some (vR 0), some (vR 369), some (vR 401), some (vI ((7 * j : Nat) : Int)), none, none] [] cl sl SH V2 Q) : Wp K 2048 (mL nm) mc ms 1171 [some vS, some (vR 0), some (vR 369), some (vR 401), some (vI ((7 * j : Nat) : Int)), none, none] [] cl sl SH V Q := by
  refine wp_aload_n dL_law_1171 rfl rfl ?_
  refine wl_arg (n := 1) dL_law_1172 dL_law_1173 dL_law_1175 dL_law_1176 dL_law_1177 rfl rfl (by decide) hj hN ?_
  refine wl_arg (n := 2) dL_law_1178 dL_law_1179 dL_law_1181 dL_law_1182 dL_law_1183 rfl rfl (by decide) hj hN ?_
  refine wp_callV (d' := d) (S := []) (as := [vI (sc K (7 * j + 1)), vI (sc K (7 * j + 2))]) dL_law_1184 lL_122 h (by omega) sh0 rfl rfl (Nat.le_of_ble_eq_true rfl) hm (fun r sh1 V1 q => ?_)
  obtain ⟨rfl, z, rfl, h1⟩ := q
  show Wp _ _ _ _ _ 1187 _ [vI z] _ _ _ _ _
  refine wp_aload_n dL_law_1187 rfl rfl ?_
  refine wl_arg (n := 1) dL_law_1188 dL_law_1189 dL_law_1191 dL_law_1192 dL_law_1193 rfl rfl (by decide) hj hN ?_
  refine wl_arg (n := 2) dL_law_1194 dL_law_1195 dL_law_1197 dL_law_1198 dL_law_1199 rfl rfl (by decide) hj hN ?_
  refine wp_callV (d' := d) (S := [vI z]) (as := [vI (sc K (7 * j + 1)), vI (sc K (7 * j + 2))]) dL_law_1200 lL_125 h1 (by omega) sh369 rfl rfl (Nat.le_of_ble_eq_true rfl) hm (fun r sh2 V2 q => ?_)
  obtain ⟨rfl, z2, rfl, e, hI⟩ := q
  show Wp _ _ _ _ _ 1203 _ [vI z2, vI z] _ _ _ _ _
  exact wp_icmp_eq (tgt := 2076) dL_law_1203 rfl (fun _ => hk V2 hI) (fun q => absurd e.symm q)
theorem lw_c23 {d : Nat} (hd : d < 2048) (hj : 7 * j + 7 ≤ kN K) (hN : kN K ≤ 3584) (hm : cl ≤ mc ∧ sl ≤ ms) (h : Bth K d mX11_best [vR 0, vI (sc K (7 * j + 1)), vI (sc K (7 * j + 2))] mX12_best [vR 369, vI (sc K (7 * j + 1)), vI (sc K (7 * j + 2))] V) (hk : ∀ V2, Inv V2 → Wp K 2048 (mL nm) mc ms 2076 [some vS, some (vR 0), some (vR 369), some (vR 401), some (vI ((7 * j : Nat) : Int)), none, none] [] cl sl SH V2 Q) : Wp K 2048 (mL nm) mc ms 1208 [some vS, some (vR 0), some (vR 369), some (vR 401), some (vI ((7 * j : Nat) : Int)), none, none] [] cl sl SH V Q := by
  refine wp_aload_n dL_law_1208 rfl rfl ?_
  refine wl_arg (n := 1) dL_law_1209 dL_law_1210 dL_law_1212 dL_law_1213 dL_law_1214 rfl rfl (by decide) hj hN ?_
  refine wl_arg (n := 2) dL_law_1215 dL_law_1216 dL_law_1218 dL_law_1219 dL_law_1220 rfl rfl (by decide) hj hN ?_
  refine wp_callV (d' := d) (S := []) (as := [vI (sc K (7 * j + 1)), vI (sc K (7 * j + 2))]) dL_law_1221 lL_126 h (by omega) sh0 rfl rfl (Nat.le_of_ble_eq_true rfl) hm (fun r sh1 V1 q => ?_)
  obtain ⟨rfl, z, rfl, h1⟩ := q
  show Wp _ _ _ _ _ 1224 _ [vI z] _ _ _ _ _
  refine wp_aload_n dL_law_1224 rfl rfl ?_
  refine wl_arg (n := 1) dL_law_1225 dL_law_1226 dL_law_1228 dL_law_1229 dL_law_1230 rfl rfl (by decide) hj hN ?_
  refine wl_arg (n := 2) dL_law_1231 dL_law_1232 dL_law_1234 dL_law_1235 dL_law_1236 rfl rfl (by decide) hj hN ?_
  refine wp_callV (d' := d) (S := [vI z]) (as := [vI (sc K (7 * j + 1)), vI (sc K (7 * j + 2))]) dL_law_1237 lL_129 h1 (by omega) sh369 rfl rfl (Nat.le_of_ble_eq_true rfl) hm (fun r sh2 V2 q => ?_)
  obtain ⟨rfl, z2, rfl, e, hI⟩ := q
  show Wp _ _ _ _ _ 1240 _ [vI z2, vI z] _ _ _ _ _
  exact wp_icmp_eq (tgt := 2076) dL_law_1240 rfl (fun _ => hk V2 hI) (fun q => absurd e.symm q)
theorem lw_c24 {d : Nat} (hd : d < 2048) (hj : 7 * j + 7 ≤ kN K) (hN : kN K ≤ 3584) (hm : cl ≤ mc ∧ sl ≤ ms) (h : Bth K d mX11_near [vR 0, vI (sc K (7 * j + 1)), vI (sc K (7 * j + 2))] mX12_near [vR 369, vI (sc K (7 * j + 1)), vI (sc K (7 * j + 2))] V) (hk : ∀ V2, Inv V2 → Wp K 2048 (mL nm) mc ms 2076 [some vS, some (vR 0), some (vR 369), some (vR 401), some (vI ((7 * j : Nat) : Int)), none, none] [] cl sl SH V2 Q) : Wp K 2048 (mL nm) mc ms 1245 [some vS, some (vR 0), some (vR 369), some (vR 401), some (vI ((7 * j : Nat) : Int)), none, none] [] cl sl SH V Q := by
  refine wp_aload_n dL_law_1245 rfl rfl ?_
  refine wl_arg (n := 1) dL_law_1246 dL_law_1247 dL_law_1249 dL_law_1250 dL_law_1251 rfl rfl (by decide) hj hN ?_
  refine wl_arg (n := 2) dL_law_1252 dL_law_1253 dL_law_1255 dL_law_1256 dL_law_1257 rfl rfl (by decide) hj hN ?_
  refine wp_callV (d' := d) (S := []) (as := [vI (sc K (7 * j + 1)), vI (sc K (7 * j + 2))]) dL_law_1258 lL_130 h (by omega) sh0 rfl rfl (Nat.le_of_ble_eq_true rfl) hm (fun r sh1 V1 q => ?_)
  obtain ⟨rfl, z, rfl, h1⟩ := q
  show Wp _ _ _ _ _ 1261 _ [vI z] _ _ _ _ _
  refine wp_aload_n dL_law_1261 rfl rfl ?_
  refine wl_arg (n := 1) dL_law_1262 dL_law_1263 dL_law_1265 dL_law_1266 dL_law_1267 rfl rfl (by decide) hj hN ?_
  refine wl_arg (n := 2) dL_law_1268 dL_law_1269 dL_law_1271 dL_law_1272 dL_law_1273 rfl rfl (by decide) hj hN ?_
  refine wp_callV (d' := d) (S := [vI z]) (as := [vI (sc K (7 * j + 1)), vI (sc K (7 * j + 2))]) dL_law_1274 lL_133 h1 (by omega) sh369 rfl rfl (Nat.le_of_ble_eq_true rfl) hm (fun r sh2 V2 q => ?_)
  obtain ⟨rfl, z2, rfl, e, hI⟩ := q
  show Wp _ _ _ _ _ 1277 _ [vI z2, vI z] _ _ _ _ _
  exact wp_icmp_eq (tgt := 2076) dL_law_1277 rfl (fun _ => hk V2 hI) (fun q => absurd e.symm q)
theorem lw_c25 {d : Nat} (hd : d < 2048) (hj : 7 * j + 7 ≤ kN K) (hN : kN K ≤ 3584) (hm : cl ≤ mc ∧ sl ≤ ms) (h : Bth K d mX11_piles [vR 0, vI (sc K (7 * j + 1)), vI (sc K (7 * j + 2)), vI (sc K (7 * j + 3)), vI (sc K (7 * j + 4))] mX12_piles [vR 369, vI (sc K (7 * j + 1)), vI (sc K (7 * j + 2)), vI (sc K (7 * j + 3)), vI (sc K (7 * j + 4))] V) (hk : ∀ V2, Inv V2 → Wp K 2048 (mL nm) mc ms 2076 [some vS, some (vR 0), some (vR 369), some (vR 401), some (vI ((7 * j : Nat) : Int)), none, none] [] cl sl SH V2 Q) : Wp K 2048 (mL nm) mc ms 1282 [some vS, some (vR 0), some (vR 369), some (vR 401), some (vI ((7 * j : Nat) : Int)), none, none] [] cl sl SH V Q := by
  refine wp_aload_n dL_law_1282 rfl rfl ?_
  refine wl_arg (n := 1) dL_law_1283 dL_law_1284 dL_law_1286 dL_law_1287 dL_law_1288 rfl rfl (by decide) hj hN ?_
  refine wl_arg (n := 2) dL_law_1289 dL_law_1290 dL_law_1292 dL_law_1293 dL_law_1294 rfl rfl (by decide) hj hN ?_
  refine wl_arg (n := 3) dL_law_1295 dL_law_1296 dL_law_1298 dL_law_1299 dL_law_1300 rfl rfl (by decide) hj hN ?_
  refine wl_arg (n := 4) dL_law_1301 dL_law_1302 dL_law_1304 dL_law_1305 dL_law_1306 rfl rfl (by decide) hj hN ?_
  refine wp_callV (d' := d) (S := []) (as := [vI (sc K (7 * j + 1)), vI (sc K (7 * j + 2)), vI (sc K (7 * j + 3)), vI (sc K (7 * j + 4))]) dL_law_1307 lL_134 h (by omega) sh0 rfl rfl (Nat.le_of_ble_eq_true rfl) hm (fun r sh1 V1 q => ?_)
  obtain ⟨rfl, z, rfl, h1⟩ := q
  show Wp _ _ _ _ _ 1310 _ [vI z] _ _ _ _ _
  refine wp_aload_n dL_law_1310 rfl rfl ?_
  refine wl_arg (n := 1) dL_law_1311 dL_law_1312 dL_law_1314 dL_law_1315 dL_law_1316 rfl rfl (by decide) hj hN ?_
  refine wl_arg (n := 2) dL_law_1317 dL_law_1318 dL_law_1320 dL_law_1321 dL_law_1322 rfl rfl (by decide) hj hN ?_
  refine wl_arg (n := 3) dL_law_1323 dL_law_1324 dL_law_1326 dL_law_1327 dL_law_1328 rfl rfl (by decide) hj hN ?_
  refine wl_arg (n := 4) dL_law_1329 dL_law_1330 dL_law_1332 dL_law_1333 dL_law_1334 rfl rfl (by decide) hj hN ?_
  refine wp_callV (d' := d) (S := [vI z]) (as := [vI (sc K (7 * j + 1)), vI (sc K (7 * j + 2)), vI (sc K (7 * j + 3)), vI (sc K (7 * j + 4))]) dL_law_1335 lL_137 h1 (by omega) sh369 rfl rfl (Nat.le_of_ble_eq_true rfl) hm (fun r sh2 V2 q => ?_)
  obtain ⟨rfl, z2, rfl, e, hI⟩ := q
  show Wp _ _ _ _ _ 1338 _ [vI z2, vI z] _ _ _ _ _
  exact wp_icmp_eq (tgt := 2076) dL_law_1338 rfl (fun _ => hk V2 hI) (fun q => absurd e.symm q)
theorem lw_c26 {d : Nat} (hd : d < 2048) (hj : 7 * j + 7 ≤ kN K) (hN : kN K ≤ 3584) (hm : cl ≤ mc ∧ sl ≤ ms) (h : Bth K d mX11_shape [vR 0, vI (sc K (7 * j + 1)), vI (sc K (7 * j + 2)), vI (sc K (7 * j + 3)), vI (sc K (7 * j + 4))] mX12_shape [vR 369, vI (sc K (7 * j + 1)), vI (sc K (7 * j + 2)), vI (sc K (7 * j + 3)), vI (sc K (7 * j + 4))] V) (hk : ∀ V2, Inv V2 → Wp K 2048 (mL nm) mc ms 2076 [some vS, some (vR 0), some (vR 369), some (vR 401), some (vI ((7 * j : Nat) : Int)), none, none] [] cl sl SH V2 Q) : Wp K 2048 (mL nm) mc ms 1343 [some vS, some (vR 0), some (vR 369), some (vR 401), some (vI ((7 * j : Nat) : Int)), none, none] [] cl sl SH V Q := by
  refine wp_aload_n dL_law_1343 rfl rfl ?_
  refine wl_arg (n := 1) dL_law_1344 dL_law_1345 dL_law_1347 dL_law_1348 dL_law_1349 rfl rfl (by decide) hj hN ?_
  refine wl_arg (n := 2) dL_law_1350 dL_law_1351 dL_law_1353 dL_law_1354 dL_law_1355 rfl rfl (by decide) hj hN ?_
  refine wl_arg (n := 3) dL_law_1356 dL_law_1357 dL_law_1359 dL_law_1360 dL_law_1361 rfl rfl (by decide) hj hN ?_
  refine wl_arg (n := 4) dL_law_1362 dL_law_1363 dL_law_1365 dL_law_1366 dL_law_1367 rfl rfl (by decide) hj hN ?_
  refine wp_callV (d' := d) (S := []) (as := [vI (sc K (7 * j + 1)), vI (sc K (7 * j + 2)), vI (sc K (7 * j + 3)), vI (sc K (7 * j + 4))]) dL_law_1368 lL_138 h (by omega) sh0 rfl rfl (Nat.le_of_ble_eq_true rfl) hm (fun r sh1 V1 q => ?_)
  obtain ⟨rfl, z, rfl, h1⟩ := q
  show Wp _ _ _ _ _ 1371 _ [vI z] _ _ _ _ _
  refine wp_aload_n dL_law_1371 rfl rfl ?_
  refine wl_arg (n := 1) dL_law_1372 dL_law_1373 dL_law_1375 dL_law_1376 dL_law_1377 rfl rfl (by decide) hj hN ?_
  refine wl_arg (n := 2) dL_law_1378 dL_law_1379 dL_law_1381 dL_law_1382 dL_law_1383 rfl rfl (by decide) hj hN ?_
  refine wl_arg (n := 3) dL_law_1384 dL_law_1385 dL_law_1387 dL_law_1388 dL_law_1389 rfl rfl (by decide) hj hN ?_
  refine wl_arg (n := 4) dL_law_1390 dL_law_1391 dL_law_1393 dL_law_1394 dL_law_1395 rfl rfl (by decide) hj hN ?_
  refine wp_callV (d' := d) (S := [vI z]) (as := [vI (sc K (7 * j + 1)), vI (sc K (7 * j + 2)), vI (sc K (7 * j + 3)), vI (sc K (7 * j + 4))]) dL_law_1396 lL_141 h1 (by omega) sh369 rfl rfl (Nat.le_of_ble_eq_true rfl) hm (fun r sh2 V2 q => ?_)
  obtain ⟨rfl, z2, rfl, e, hI⟩ := q
  show Wp _ _ _ _ _ 1399 _ [vI z2, vI z] _ _ _ _ _
  exact wp_icmp_eq (tgt := 2076) dL_law_1399 rfl (fun _ => hk V2 hI) (fun q => absurd e.symm q)
theorem lw_c27 {d : Nat} (hd : d < 2048) (hj : 7 * j + 7 ≤ kN K) (hN : kN K ≤ 3584) (hm : cl ≤ mc ∧ sl ≤ ms) (h : Bth K d mX11_ends [vR 0, vI (sc K (7 * j + 1)), vI (sc K (7 * j + 2))] mX12_ends [vR 369, vI (sc K (7 * j + 1)), vI (sc K (7 * j + 2))] V) (hk : ∀ V2, Inv V2 → Wp K 2048 (mL nm) mc ms 2076 [some vS, some (vR 0), some (vR 369), some (vR 401), some (vI ((7 * j : Nat) : Int)), none, none] [] cl sl SH V2 Q) : Wp K 2048 (mL nm) mc ms 1404 [some vS, some (vR 0), some (vR 369), some (vR 401), some (vI ((7 * j : Nat) : Int)), none, none] [] cl sl SH V Q := by
  refine wp_aload_n dL_law_1404 rfl rfl ?_
  refine wl_arg (n := 1) dL_law_1405 dL_law_1406 dL_law_1408 dL_law_1409 dL_law_1410 rfl rfl (by decide) hj hN ?_
  refine wl_arg (n := 2) dL_law_1411 dL_law_1412 dL_law_1414 dL_law_1415 dL_law_1416 rfl rfl (by decide) hj hN ?_
  refine wp_callV (d' := d) (S := []) (as := [vI (sc K (7 * j + 1)), vI (sc K (7 * j + 2))]) dL_law_1417 lL_142 h (by omega) sh0 rfl rfl (Nat.le_of_ble_eq_true rfl) hm (fun r sh1 V1 q => ?_)
  obtain ⟨rfl, z, rfl, h1⟩ := q
  show Wp _ _ _ _ _ 1420 _ [vI z] _ _ _ _ _
  refine wp_aload_n dL_law_1420 rfl rfl ?_
  refine wl_arg (n := 1) dL_law_1421 dL_law_1422 dL_law_1424 dL_law_1425 dL_law_1426 rfl rfl (by decide) hj hN ?_
  refine wl_arg (n := 2) dL_law_1427 dL_law_1428 dL_law_1430 dL_law_1431 dL_law_1432 rfl rfl (by decide) hj hN ?_
  refine wp_callV (d' := d) (S := [vI z]) (as := [vI (sc K (7 * j + 1)), vI (sc K (7 * j + 2))]) dL_law_1433 lL_145 h1 (by omega) sh369 rfl rfl (Nat.le_of_ble_eq_true rfl) hm (fun r sh2 V2 q => ?_)
  obtain ⟨rfl, z2, rfl, e, hI⟩ := q
  show Wp _ _ _ _ _ 1436 _ [vI z2, vI z] _ _ _ _ _
  exact wp_icmp_eq (tgt := 2076) dL_law_1436 rfl (fun _ => hk V2 hI) (fun q => absurd e.symm q)
theorem lw_c28 {d : Nat} (hd : d < 2048) (hj : 7 * j + 7 ≤ kN K) (hN : kN K ≤ 3584) (hm : cl ≤ mc ∧ sl ≤ ms) (h : Bth K d mX11_counts [vR 0, vI (sc K (7 * j + 1)), vI (sc K (7 * j + 2)), vI (sc K (7 * j + 3))] mX12_counts [vR 369, vI (sc K (7 * j + 1)), vI (sc K (7 * j + 2)), vI (sc K (7 * j + 3))] V) (hk : ∀ V2, Inv V2 → Wp K 2048 (mL nm) mc ms 2076 [some vS, some (vR 0), some (vR 369), some (vR 401), some (vI ((7 * j : Nat) : Int)), none, none] [] cl sl SH V2 Q) : Wp K 2048 (mL nm) mc ms 1441 [some vS, some (vR 0), some (vR 369), some (vR 401), some (vI ((7 * j : Nat) : Int)), none, none] [] cl sl SH V Q := by
  refine wp_aload_n dL_law_1441 rfl rfl ?_
  refine wl_arg (n := 1) dL_law_1442 dL_law_1443 dL_law_1445 dL_law_1446 dL_law_1447 rfl rfl (by decide) hj hN ?_
  refine wl_arg (n := 2) dL_law_1448 dL_law_1449 dL_law_1451 dL_law_1452 dL_law_1453 rfl rfl (by decide) hj hN ?_
  refine wl_arg (n := 3) dL_law_1454 dL_law_1455 dL_law_1457 dL_law_1458 dL_law_1459 rfl rfl (by decide) hj hN ?_
  refine wp_callV (d' := d) (S := []) (as := [vI (sc K (7 * j + 1)), vI (sc K (7 * j + 2)), vI (sc K (7 * j + 3))]) dL_law_1460 lL_146 h (by omega) sh0 rfl rfl (Nat.le_of_ble_eq_true rfl) hm (fun r sh1 V1 q => ?_)
  obtain ⟨rfl, z, rfl, h1⟩ := q
  show Wp _ _ _ _ _ 1463 _ [vI z] _ _ _ _ _
  refine wp_aload_n dL_law_1463 rfl rfl ?_
  refine wl_arg (n := 1) dL_law_1464 dL_law_1465 dL_law_1467 dL_law_1468 dL_law_1469 rfl rfl (by decide) hj hN ?_
  refine wl_arg (n := 2) dL_law_1470 dL_law_1471 dL_law_1473 dL_law_1474 dL_law_1475 rfl rfl (by decide) hj hN ?_
  refine wl_arg (n := 3) dL_law_1476 dL_law_1477 dL_law_1479 dL_law_1480 dL_law_1481 rfl rfl (by decide) hj hN ?_
  refine wp_callV (d' := d) (S := [vI z]) (as := [vI (sc K (7 * j + 1)), vI (sc K (7 * j + 2)), vI (sc K (7 * j + 3))]) dL_law_1482 lL_149 h1 (by omega) sh369 rfl rfl (Nat.le_of_ble_eq_true rfl) hm (fun r sh2 V2 q => ?_)
  obtain ⟨rfl, z2, rfl, e, hI⟩ := q
  show Wp _ _ _ _ _ 1485 _ [vI z2, vI z] _ _ _ _ _
  exact wp_icmp_eq (tgt := 2076) dL_law_1485 rfl (fun _ => hk V2 hI) (fun q => absurd e.symm q)
theorem lw_c29 {d : Nat} (hd : d < 2048) (hj : 7 * j + 7 ≤ kN K) (hN : kN K ≤ 3584) (hm : cl ≤ mc ∧ sl ≤ ms) (h : Bth K d mX11_compose [vR 0, vI (sc K (7 * j + 1)), vI (sc K (7 * j + 2)), vI (sc K (7 * j + 3))] mX12_compose [vR 369, vI (sc K (7 * j + 1)), vI (sc K (7 * j + 2)), vI (sc K (7 * j + 3))] V) (hk : ∀ V2, Inv V2 → Wp K 2048 (mL nm) mc ms 2076 [some vS, some (vR 0), some (vR 369), some (vR 401), some (vI ((7 * j : Nat) : Int)), none, none] [] cl sl SH V2 Q) : Wp K 2048 (mL nm) mc ms 1490 [some vS, some (vR 0), some (vR 369), some (vR 401), some (vI ((7 * j : Nat) : Int)), none, none] [] cl sl SH V Q := by
  refine wp_aload_n dL_law_1490 rfl rfl ?_
  refine wl_arg (n := 1) dL_law_1491 dL_law_1492 dL_law_1494 dL_law_1495 dL_law_1496 rfl rfl (by decide) hj hN ?_
  refine wl_arg (n := 2) dL_law_1497 dL_law_1498 dL_law_1500 dL_law_1501 dL_law_1502 rfl rfl (by decide) hj hN ?_
  refine wl_arg (n := 3) dL_law_1503 dL_law_1504 dL_law_1506 dL_law_1507 dL_law_1508 rfl rfl (by decide) hj hN ?_
  refine wp_callV (d' := d) (S := []) (as := [vI (sc K (7 * j + 1)), vI (sc K (7 * j + 2)), vI (sc K (7 * j + 3))]) dL_law_1509 lL_150 h (by omega) sh0 rfl rfl (Nat.le_of_ble_eq_true rfl) hm (fun r sh1 V1 q => ?_)
  obtain ⟨rfl, z, rfl, h1⟩ := q
  show Wp _ _ _ _ _ 1512 _ [vI z] _ _ _ _ _
  refine wp_aload_n dL_law_1512 rfl rfl ?_
  refine wl_arg (n := 1) dL_law_1513 dL_law_1514 dL_law_1516 dL_law_1517 dL_law_1518 rfl rfl (by decide) hj hN ?_
  refine wl_arg (n := 2) dL_law_1519 dL_law_1520 dL_law_1522 dL_law_1523 dL_law_1524 rfl rfl (by decide) hj hN ?_
  refine wl_arg (n := 3) dL_law_1525 dL_law_1526 dL_law_1528 dL_law_1529 dL_law_1530 rfl rfl (by decide) hj hN ?_
  refine wp_callV (d' := d) (S := [vI z]) (as := [vI (sc K (7 * j + 1)), vI (sc K (7 * j + 2)), vI (sc K (7 * j + 3))]) dL_law_1531 lL_153 h1 (by omega) sh369 rfl rfl (Nat.le_of_ble_eq_true rfl) hm (fun r sh2 V2 q => ?_)
  obtain ⟨rfl, z2, rfl, e, hI⟩ := q
  show Wp _ _ _ _ _ 1534 _ [vI z2, vI z] _ _ _ _ _
  exact wp_icmp_eq (tgt := 2076) dL_law_1534 rfl (fun _ => hk V2 hI) (fun q => absurd e.symm q)
theorem lw_c30 {d : Nat} (hd : d < 2048) (hj : 7 * j + 7 ≤ kN K) (hN : kN K ≤ 3584) (hm : cl ≤ mc ∧ sl ≤ ms) (h : Bth K d mX11_power [vR 0, vI (sc K (7 * j + 1)), vI (sc K (7 * j + 2)), vI (sc K (7 * j + 3))] mX12_power [vR 369, vI (sc K (7 * j + 1)), vI (sc K (7 * j + 2)), vI (sc K (7 * j + 3))] V) (hk : ∀ V2, Inv V2 → Wp K 2048 (mL nm) mc ms 2076 [some vS, some (vR 0), some (vR 369), some (vR 401), some (vI ((7 * j : Nat) : Int)), none, none] [] cl sl SH V2 Q) : Wp K 2048 (mL nm) mc ms 1539 [some vS, some (vR 0), some (vR 369), some (vR 401), some (vI ((7 * j : Nat) : Int)), none, none] [] cl sl SH V Q := by
  refine wp_aload_n dL_law_1539 rfl rfl ?_
  refine wl_arg (n := 1) dL_law_1540 dL_law_1541 dL_law_1543 dL_law_1544 dL_law_1545 rfl rfl (by decide) hj hN ?_
  refine wl_arg (n := 2) dL_law_1546 dL_law_1547 dL_law_1549 dL_law_1550 dL_law_1551 rfl rfl (by decide) hj hN ?_
  refine wl_arg (n := 3) dL_law_1552 dL_law_1553 dL_law_1555 dL_law_1556 dL_law_1557 rfl rfl (by decide) hj hN ?_
  refine wp_callV (d' := d) (S := []) (as := [vI (sc K (7 * j + 1)), vI (sc K (7 * j + 2)), vI (sc K (7 * j + 3))]) dL_law_1558 lL_154 h (by omega) sh0 rfl rfl (Nat.le_of_ble_eq_true rfl) hm (fun r sh1 V1 q => ?_)
  obtain ⟨rfl, z, rfl, h1⟩ := q
  show Wp _ _ _ _ _ 1561 _ [vI z] _ _ _ _ _
  refine wp_aload_n dL_law_1561 rfl rfl ?_
  refine wl_arg (n := 1) dL_law_1562 dL_law_1563 dL_law_1565 dL_law_1566 dL_law_1567 rfl rfl (by decide) hj hN ?_
  refine wl_arg (n := 2) dL_law_1568 dL_law_1569 dL_law_1571 dL_law_1572 dL_law_1573 rfl rfl (by decide) hj hN ?_
  refine wl_arg (n := 3) dL_law_1574 dL_law_1575 dL_law_1577 dL_law_1578 dL_law_1579 rfl rfl (by decide) hj hN ?_
  refine wp_callV (d' := d) (S := [vI z]) (as := [vI (sc K (7 * j + 1)), vI (sc K (7 * j + 2)), vI (sc K (7 * j + 3))]) dL_law_1580 lL_157 h1 (by omega) sh369 rfl rfl (Nat.le_of_ble_eq_true rfl) hm (fun r sh2 V2 q => ?_)
  obtain ⟨rfl, z2, rfl, e, hI⟩ := q
  show Wp _ _ _ _ _ 1583 _ [vI z2, vI z] _ _ _ _ _
  exact wp_icmp_eq (tgt := 2076) dL_law_1583 rfl (fun _ => hk V2 hI) (fun q => absurd e.symm q)
theorem lw_c31 {d : Nat} (hd : d < 2048) (hj : 7 * j + 7 ≤ kN K) (hN : kN K ≤ 3584) (hm : cl ≤ mc ∧ sl ≤ ms) (h : Bth K d mX11_settles [vR 0, vI (sc K (7 * j + 1))] mX12_settles [vR 369, vI (sc K (7 * j + 1))] V) (hk : ∀ V2, Inv V2 → Wp K 2048 (mL nm) mc ms 2076 [some vS, some (vR 0), some (vR 369), some (vR 401), some (vI ((7 * j : Nat) : Int)), none, none] [] cl sl SH V2 Q) : Wp K 2048 (mL nm) mc ms 1588 [some vS, some (vR 0), some (vR 369), some (vR 401), some (vI ((7 * j : Nat) : Int)), none, none] [] cl sl SH V Q := by
  refine wp_aload_n dL_law_1588 rfl rfl ?_
  refine wl_arg (n := 1) dL_law_1589 dL_law_1590 dL_law_1592 dL_law_1593 dL_law_1594 rfl rfl (by decide) hj hN ?_
  refine wp_callV (d' := d) (S := []) (as := [vI (sc K (7 * j + 1))]) dL_law_1595 lL_158 h (by omega) sh0 rfl rfl (Nat.le_of_ble_eq_true rfl) hm (fun r sh1 V1 q => ?_)
  obtain ⟨rfl, z, rfl, h1⟩ := q
  show Wp _ _ _ _ _ 1598 _ [vI z] _ _ _ _ _
  refine wp_aload_n dL_law_1598 rfl rfl ?_
  refine wl_arg (n := 1) dL_law_1599 dL_law_1600 dL_law_1602 dL_law_1603 dL_law_1604 rfl rfl (by decide) hj hN ?_
  refine wp_callV (d' := d) (S := [vI z]) (as := [vI (sc K (7 * j + 1))]) dL_law_1605 lL_161 h1 (by omega) sh369 rfl rfl (Nat.le_of_ble_eq_true rfl) hm (fun r sh2 V2 q => ?_)
  obtain ⟨rfl, z2, rfl, e, hI⟩ := q
  show Wp _ _ _ _ _ 1608 _ [vI z2, vI z] _ _ _ _ _
  exact wp_icmp_eq (tgt := 2076) dL_law_1608 rfl (fun _ => hk V2 hI) (fun q => absurd e.symm q)
theorem lw_c32 {d : Nat} (hd : d < 2048) (hj : 7 * j + 7 ≤ kN K) (hN : kN K ≤ 3584) (hm : cl ≤ mc ∧ sl ≤ ms) (h : Bth K d mX11_knit [vR 0, vI (sc K (7 * j + 1)), vI (sc K (7 * j + 2))] mX12_knit [vR 369, vI (sc K (7 * j + 1)), vI (sc K (7 * j + 2))] V) (hk : ∀ V2, Inv V2 → Wp K 2048 (mL nm) mc ms 2076 [some vS, some (vR 0), some (vR 369), some (vR 401), some (vI ((7 * j : Nat) : Int)), none, none] [] cl sl SH V2 Q) : Wp K 2048 (mL nm) mc ms 1613 [some vS, some (vR 0), some (vR 369), some (vR 401), some (vI ((7 * j : Nat) : Int)), none, none] [] cl sl SH V Q := by
  refine wp_aload_n dL_law_1613 rfl rfl ?_
  refine wl_arg (n := 1) dL_law_1614 dL_law_1615 dL_law_1617 dL_law_1618 dL_law_1619 rfl rfl (by decide) hj hN ?_
  refine wl_arg (n := 2) dL_law_1620 dL_law_1621 dL_law_1623 dL_law_1624 dL_law_1625 rfl rfl (by decide) hj hN ?_
  refine wp_callV (d' := d) (S := []) (as := [vI (sc K (7 * j + 1)), vI (sc K (7 * j + 2))]) dL_law_1626 lL_162 h (by omega) sh0 rfl rfl (Nat.le_of_ble_eq_true rfl) hm (fun r sh1 V1 q => ?_)
  obtain ⟨rfl, z, rfl, h1⟩ := q
  show Wp _ _ _ _ _ 1629 _ [vI z] _ _ _ _ _
  refine wp_aload_n dL_law_1629 rfl rfl ?_
  refine wl_arg (n := 1) dL_law_1630 dL_law_1631 dL_law_1633 dL_law_1634 dL_law_1635 rfl rfl (by decide) hj hN ?_
  refine wl_arg (n := 2) dL_law_1636 dL_law_1637 dL_law_1639 dL_law_1640 dL_law_1641 rfl rfl (by decide) hj hN ?_
  refine wp_callV (d' := d) (S := [vI z]) (as := [vI (sc K (7 * j + 1)), vI (sc K (7 * j + 2))]) dL_law_1642 lL_165 h1 (by omega) sh369 rfl rfl (Nat.le_of_ble_eq_true rfl) hm (fun r sh2 V2 q => ?_)
  obtain ⟨rfl, z2, rfl, e, hI⟩ := q
  show Wp _ _ _ _ _ 1645 _ [vI z2, vI z] _ _ _ _ _
  exact wp_icmp_eq (tgt := 2076) dL_law_1645 rfl (fun _ => hk V2 hI) (fun q => absurd e.symm q)
theorem lw_c33 {d : Nat} (hd : d < 2048) (hj : 7 * j + 7 ≤ kN K) (hN : kN K ≤ 3584) (hm : cl ≤ mc ∧ sl ≤ ms) (h : Bth K d mX11_below [vR 0, vI (sc K (7 * j + 1)), vI (sc K (7 * j + 2))] mX12_below [vR 369, vI (sc K (7 * j + 1)), vI (sc K (7 * j + 2))] V) (hk : ∀ V2, Inv V2 → Wp K 2048 (mL nm) mc ms 2076 [some vS, some (vR 0), some (vR 369), some (vR 401), some (vI ((7 * j : Nat) : Int)), none, none] [] cl sl SH V2 Q) : Wp K 2048 (mL nm) mc ms 1650 [some vS, some (vR 0), some (vR 369), some (vR 401), some (vI ((7 * j : Nat) : Int)), none, none] [] cl sl SH V Q := by
  refine wp_aload_n dL_law_1650 rfl rfl ?_
  refine wl_arg (n := 1) dL_law_1651 dL_law_1652 dL_law_1654 dL_law_1655 dL_law_1656 rfl rfl (by decide) hj hN ?_
  refine wl_arg (n := 2) dL_law_1657 dL_law_1658 dL_law_1660 dL_law_1661 dL_law_1662 rfl rfl (by decide) hj hN ?_
  refine wp_callV (d' := d) (S := []) (as := [vI (sc K (7 * j + 1)), vI (sc K (7 * j + 2))]) dL_law_1663 lL_166 h (by omega) sh0 rfl rfl (Nat.le_of_ble_eq_true rfl) hm (fun r sh1 V1 q => ?_)
  obtain ⟨rfl, z, rfl, h1⟩ := q
  show Wp _ _ _ _ _ 1666 _ [vI z] _ _ _ _ _
  refine wp_aload_n dL_law_1666 rfl rfl ?_
  refine wl_arg (n := 1) dL_law_1667 dL_law_1668 dL_law_1670 dL_law_1671 dL_law_1672 rfl rfl (by decide) hj hN ?_
  refine wl_arg (n := 2) dL_law_1673 dL_law_1674 dL_law_1676 dL_law_1677 dL_law_1678 rfl rfl (by decide) hj hN ?_
  refine wp_callV (d' := d) (S := [vI z]) (as := [vI (sc K (7 * j + 1)), vI (sc K (7 * j + 2))]) dL_law_1679 lL_169 h1 (by omega) sh369 rfl rfl (Nat.le_of_ble_eq_true rfl) hm (fun r sh2 V2 q => ?_)
  obtain ⟨rfl, z2, rfl, e, hI⟩ := q
  show Wp _ _ _ _ _ 1682 _ [vI z2, vI z] _ _ _ _ _
  exact wp_icmp_eq (tgt := 2076) dL_law_1682 rfl (fun _ => hk V2 hI) (fun q => absurd e.symm q)
theorem lw_c34 {d : Nat} (hd : d < 2048) (hj : 7 * j + 7 ≤ kN K) (hN : kN K ≤ 3584) (hm : cl ≤ mc ∧ sl ≤ ms) (h : Bth K d mX11_common [vR 0, vI (sc K (7 * j + 1)), vI (sc K (7 * j + 2)), vI (sc K (7 * j + 3)), vI (sc K (7 * j + 4))] mX12_common [vR 369, vI (sc K (7 * j + 1)), vI (sc K (7 * j + 2)), vI (sc K (7 * j + 3)), vI (sc K (7 * j + 4))] V) (hk : ∀ V2, Inv V2 → Wp K 2048 (mL nm) mc ms 2076 [some vS, some (vR 0), some (vR 369), some (vR 401), some (vI ((7 * j : Nat) : Int)), none, none] [] cl sl SH V2 Q) : Wp K 2048 (mL nm) mc ms 1687 [some vS, some (vR 0), some (vR 369), some (vR 401), some (vI ((7 * j : Nat) : Int)), none, none] [] cl sl SH V Q := by
  refine wp_aload_n dL_law_1687 rfl rfl ?_
  refine wl_arg (n := 1) dL_law_1688 dL_law_1689 dL_law_1691 dL_law_1692 dL_law_1693 rfl rfl (by decide) hj hN ?_
  refine wl_arg (n := 2) dL_law_1694 dL_law_1695 dL_law_1697 dL_law_1698 dL_law_1699 rfl rfl (by decide) hj hN ?_
  refine wl_arg (n := 3) dL_law_1700 dL_law_1701 dL_law_1703 dL_law_1704 dL_law_1705 rfl rfl (by decide) hj hN ?_
  refine wl_arg (n := 4) dL_law_1706 dL_law_1707 dL_law_1709 dL_law_1710 dL_law_1711 rfl rfl (by decide) hj hN ?_
  refine wp_callV (d' := d) (S := []) (as := [vI (sc K (7 * j + 1)), vI (sc K (7 * j + 2)), vI (sc K (7 * j + 3)), vI (sc K (7 * j + 4))]) dL_law_1712 lL_170 h (by omega) sh0 rfl rfl (Nat.le_of_ble_eq_true rfl) hm (fun r sh1 V1 q => ?_)
  obtain ⟨rfl, z, rfl, h1⟩ := q
  show Wp _ _ _ _ _ 1715 _ [vI z] _ _ _ _ _
  refine wp_aload_n dL_law_1715 rfl rfl ?_
  refine wl_arg (n := 1) dL_law_1716 dL_law_1717 dL_law_1719 dL_law_1720 dL_law_1721 rfl rfl (by decide) hj hN ?_
  refine wl_arg (n := 2) dL_law_1722 dL_law_1723 dL_law_1725 dL_law_1726 dL_law_1727 rfl rfl (by decide) hj hN ?_
  refine wl_arg (n := 3) dL_law_1728 dL_law_1729 dL_law_1731 dL_law_1732 dL_law_1733 rfl rfl (by decide) hj hN ?_
  refine wl_arg (n := 4) dL_law_1734 dL_law_1735 dL_law_1737 dL_law_1738 dL_law_1739 rfl rfl (by decide) hj hN ?_
  refine wp_callV (d' := d) (S := [vI z]) (as := [vI (sc K (7 * j + 1)), vI (sc K (7 * j + 2)), vI (sc K (7 * j + 3)), vI (sc K (7 * j + 4))]) dL_law_1740 lL_173 h1 (by omega) sh369 rfl rfl (Nat.le_of_ble_eq_true rfl) hm (fun r sh2 V2 q => ?_)
  obtain ⟨rfl, z2, rfl, e, hI⟩ := q
  show Wp _ _ _ _ _ 1743 _ [vI z2, vI z] _ _ _ _ _
  exact wp_icmp_eq (tgt := 2076) dL_law_1743 rfl (fun _ => hk V2 hI) (fun q => absurd e.symm q)
theorem lw_c35 {d : Nat} (hd : d < 2048) (hj : 7 * j + 7 ≤ kN K) (hN : kN K ≤ 3584) (hm : cl ≤ mc ∧ sl ≤ ms) (h : Bth K d mX11_meets [vR 0, vI (sc K (7 * j + 1)), vI (sc K (7 * j + 2)), vI (sc K (7 * j + 3))] mX12_meets [vR 369, vI (sc K (7 * j + 1)), vI (sc K (7 * j + 2)), vI (sc K (7 * j + 3))] V) (hk : ∀ V2, Inv V2 → Wp K 2048 (mL nm) mc ms 2076 [some vS, some (vR 0), some (vR 369), some (vR 401), some (vI ((7 * j : Nat) : Int)), none, none] [] cl sl SH V2 Q) : Wp K 2048 (mL nm) mc ms 1748 [some vS, some (vR 0), some (vR 369), some (vR 401), some (vI ((7 * j : Nat) : Int)), none, none] [] cl sl SH V Q := by
  refine wp_aload_n dL_law_1748 rfl rfl ?_
  refine wl_arg (n := 1) dL_law_1749 dL_law_1750 dL_law_1752 dL_law_1753 dL_law_1754 rfl rfl (by decide) hj hN ?_
  refine wl_arg (n := 2) dL_law_1755 dL_law_1756 dL_law_1758 dL_law_1759 dL_law_1760 rfl rfl (by decide) hj hN ?_
  refine wl_arg (n := 3) dL_law_1761 dL_law_1762 dL_law_1764 dL_law_1765 dL_law_1766 rfl rfl (by decide) hj hN ?_
  refine wp_callV (d' := d) (S := []) (as := [vI (sc K (7 * j + 1)), vI (sc K (7 * j + 2)), vI (sc K (7 * j + 3))]) dL_law_1767 lL_174 h (by omega) sh0 rfl rfl (Nat.le_of_ble_eq_true rfl) hm (fun r sh1 V1 q => ?_)
  obtain ⟨rfl, z, rfl, h1⟩ := q
  show Wp _ _ _ _ _ 1770 _ [vI z] _ _ _ _ _
  refine wp_aload_n dL_law_1770 rfl rfl ?_
  refine wl_arg (n := 1) dL_law_1771 dL_law_1772 dL_law_1774 dL_law_1775 dL_law_1776 rfl rfl (by decide) hj hN ?_
  refine wl_arg (n := 2) dL_law_1777 dL_law_1778 dL_law_1780 dL_law_1781 dL_law_1782 rfl rfl (by decide) hj hN ?_
  refine wl_arg (n := 3) dL_law_1783 dL_law_1784 dL_law_1786 dL_law_1787 dL_law_1788 rfl rfl (by decide) hj hN ?_
  refine wp_callV (d' := d) (S := [vI z]) (as := [vI (sc K (7 * j + 1)), vI (sc K (7 * j + 2)), vI (sc K (7 * j + 3))]) dL_law_1789 lL_177 h1 (by omega) sh369 rfl rfl (Nat.le_of_ble_eq_true rfl) hm (fun r sh2 V2 q => ?_)
  obtain ⟨rfl, z2, rfl, e, hI⟩ := q
  show Wp _ _ _ _ _ 1792 _ [vI z2, vI z] _ _ _ _ _
  exact wp_icmp_eq (tgt := 2076) dL_law_1792 rfl (fun _ => hk V2 hI) (fun q => absurd e.symm q)
theorem lw_c36 {d : Nat} (hd : d < 2048) (hj : 7 * j + 7 ≤ kN K) (hN : kN K ≤ 3584) (hm : cl ≤ mc ∧ sl ≤ ms) (h : Bth K d mX11_see [vR 0, vI (sc K (7 * j + 1)), vI (sc K (7 * j + 2)), vI (if sc K (7 * j + 3) = 0 then 0 else 1)] mX12_see [vR 369, vI (sc K (7 * j + 1)), vI (sc K (7 * j + 2)), vI (if sc K (7 * j + 3) = 0 then 0 else 1)] V) (hk : ∀ V2, Inv V2 → Wp K 2048 (mL nm) mc ms 2076 [some vS, some (vR 0), some (vR 369), some (vR 401), some (vI ((7 * j : Nat) : Int)), none, none] [] cl sl SH V2 Q) : Wp K 2048 (mL nm) mc ms 1797 [some vS, some (vR 0), some (vR 369), some (vR 401), some (vI ((7 * j : Nat) : Int)), none, none] [] cl sl SH V Q := by
  refine wp_aload_n dL_law_1797 rfl rfl ?_
  refine wl_arg (n := 1) dL_law_1798 dL_law_1799 dL_law_1801 dL_law_1802 dL_law_1803 rfl rfl (by decide) hj hN ?_
  refine wl_arg (n := 2) dL_law_1804 dL_law_1805 dL_law_1807 dL_law_1808 dL_law_1809 rfl rfl (by decide) hj hN ?_
  refine wl_arg (n := 3) dL_law_1810 dL_law_1811 dL_law_1813 dL_law_1814 dL_law_1815 rfl rfl (by decide) hj hN ?_
  refine wl_nz (pc := 1816) dL_law_1816 dL_law_1819 dL_law_1820 dL_law_1823 ?_
  refine wp_callV (d' := d) (S := []) (as := [vI (sc K (7 * j + 1)), vI (sc K (7 * j + 2)), vI (if sc K (7 * j + 3) = 0 then 0 else 1)]) dL_law_1824 lL_178 h (by omega) sh0 rfl rfl (Nat.le_of_ble_eq_true rfl) hm (fun r sh1 V1 q => ?_)
  obtain ⟨rfl, z, rfl, h1⟩ := q
  show Wp _ _ _ _ _ 1827 _ [vI z] _ _ _ _ _
  refine wp_aload_n dL_law_1827 rfl rfl ?_
  refine wl_arg (n := 1) dL_law_1828 dL_law_1829 dL_law_1831 dL_law_1832 dL_law_1833 rfl rfl (by decide) hj hN ?_
  refine wl_arg (n := 2) dL_law_1834 dL_law_1835 dL_law_1837 dL_law_1838 dL_law_1839 rfl rfl (by decide) hj hN ?_
  refine wl_arg (n := 3) dL_law_1840 dL_law_1841 dL_law_1843 dL_law_1844 dL_law_1845 rfl rfl (by decide) hj hN ?_
  refine wl_nz (pc := 1846) dL_law_1846 dL_law_1849 dL_law_1850 dL_law_1853 ?_
  refine wp_callV (d' := d) (S := [vI z]) (as := [vI (sc K (7 * j + 1)), vI (sc K (7 * j + 2)), vI (if sc K (7 * j + 3) = 0 then 0 else 1)]) dL_law_1854 lL_182 h1 (by omega) sh369 rfl rfl (Nat.le_of_ble_eq_true rfl) hm (fun r sh2 V2 q => ?_)
  obtain ⟨rfl, z2, rfl, e, hI⟩ := q
  show Wp _ _ _ _ _ 1857 _ [vI z2, vI z] _ _ _ _ _
  exact wp_icmp_eq (tgt := 2076) dL_law_1857 rfl (fun _ => hk V2 hI) (fun q => absurd e.symm q)
theorem lw_c37 {d : Nat} (hd : d < 2048) (hj : 7 * j + 7 ≤ kN K) (hN : kN K ≤ 3584) (hm : cl ≤ mc ∧ sl ≤ ms) (h : Bth K d mX11_fits [vR 0, vI (sc K (7 * j + 1))] mX12_fits [vR 369, vI (sc K (7 * j + 1))] V) (hk : ∀ V2, Inv V2 → Wp K 2048 (mL nm) mc ms 2076 [some vS, some (vR 0), some (vR 369), some (vR 401), some (vI ((7 * j : Nat) : Int)), none, none] [] cl sl SH V2 Q) : Wp K 2048 (mL nm) mc ms 1862 [some vS, some (vR 0), some (vR 369), some (vR 401), some (vI ((7 * j : Nat) : Int)), none, none] [] cl sl SH V Q := by
  refine wp_aload_n dL_law_1862 rfl rfl ?_
  refine wl_arg (n := 1) dL_law_1863 dL_law_1864 dL_law_1866 dL_law_1867 dL_law_1868 rfl rfl (by decide) hj hN ?_
  refine wp_callV (d' := d) (S := []) (as := [vI (sc K (7 * j + 1))]) dL_law_1869 lL_183 h (by omega) sh0 rfl rfl (Nat.le_of_ble_eq_true rfl) hm (fun r sh1 V1 q => ?_)
  obtain ⟨rfl, z, rfl, h1⟩ := q
  show Wp _ _ _ _ _ 1872 _ [vI z] _ _ _ _ _
  refine wp_aload_n dL_law_1872 rfl rfl ?_
  refine wl_arg (n := 1) dL_law_1873 dL_law_1874 dL_law_1876 dL_law_1877 dL_law_1878 rfl rfl (by decide) hj hN ?_
  refine wp_callV (d' := d) (S := [vI z]) (as := [vI (sc K (7 * j + 1))]) dL_law_1879 lL_186 h1 (by omega) sh369 rfl rfl (Nat.le_of_ble_eq_true rfl) hm (fun r sh2 V2 q => ?_)
  obtain ⟨rfl, z2, rfl, e, hI⟩ := q
  show Wp _ _ _ _ _ 1882 _ [vI z2, vI z] _ _ _ _ _
  exact wp_icmp_eq (tgt := 2076) dL_law_1882 rfl (fun _ => hk V2 hI) (fun q => absurd e.symm q)
theorem lw_c38 {d : Nat} (hd : d < 2048) (hj : 7 * j + 7 ≤ kN K) (hN : kN K ≤ 3584) (hm : cl ≤ mc ∧ sl ≤ ms) (h : Bth K d mX11_first [vR 0, vI (sc K (7 * j + 1))] mX12_first [vR 369, vI (sc K (7 * j + 1))] V) (hk : ∀ V2, Inv V2 → Wp K 2048 (mL nm) mc ms 2076 [some vS, some (vR 0), some (vR 369), some (vR 401), some (vI ((7 * j : Nat) : Int)), none, none] [] cl sl SH V2 Q) : Wp K 2048 (mL nm) mc ms 1887 [some vS, some (vR 0), some (vR 369), some (vR 401), some (vI ((7 * j : Nat) : Int)), none, none] [] cl sl SH V Q := by
  refine wp_aload_n dL_law_1887 rfl rfl ?_
  refine wl_arg (n := 1) dL_law_1888 dL_law_1889 dL_law_1891 dL_law_1892 dL_law_1893 rfl rfl (by decide) hj hN ?_
  refine wp_callV (d' := d) (S := []) (as := [vI (sc K (7 * j + 1))]) dL_law_1894 lL_187 h (by omega) sh0 rfl rfl (Nat.le_of_ble_eq_true rfl) hm (fun r sh1 V1 q => ?_)
  obtain ⟨rfl, z, rfl, h1⟩ := q
  show Wp _ _ _ _ _ 1897 _ [vI z] _ _ _ _ _
  refine wp_aload_n dL_law_1897 rfl rfl ?_
  refine wl_arg (n := 1) dL_law_1898 dL_law_1899 dL_law_1901 dL_law_1902 dL_law_1903 rfl rfl (by decide) hj hN ?_
  refine wp_callV (d' := d) (S := [vI z]) (as := [vI (sc K (7 * j + 1))]) dL_law_1904 lL_190 h1 (by omega) sh369 rfl rfl (Nat.le_of_ble_eq_true rfl) hm (fun r sh2 V2 q => ?_)
  obtain ⟨rfl, z2, rfl, e, hI⟩ := q
  show Wp _ _ _ _ _ 1907 _ [vI z2, vI z] _ _ _ _ _
  exact wp_icmp_eq (tgt := 2076) dL_law_1907 rfl (fun _ => hk V2 hI) (fun q => absurd e.symm q)
theorem lw_c39 {d : Nat} (hd : d < 2048) (hj : 7 * j + 7 ≤ kN K) (hN : kN K ≤ 3584) (hm : cl ≤ mc ∧ sl ≤ ms) (h : Bth K d mX11_ask [vR 0, vI (sc K (7 * j + 1))] mX12_ask [vR 369, vI (sc K (7 * j + 1))] V) (hk : ∀ V2, Inv V2 → Wp K 2048 (mL nm) mc ms 2076 [some vS, some (vR 0), some (vR 369), some (vR 401), some (vI ((7 * j : Nat) : Int)), none, none] [] cl sl SH V2 Q) : Wp K 2048 (mL nm) mc ms 1912 [some vS, some (vR 0), some (vR 369), some (vR 401), some (vI ((7 * j : Nat) : Int)), none, none] [] cl sl SH V Q := by
  refine wp_aload_n dL_law_1912 rfl rfl ?_
  refine wl_arg (n := 1) dL_law_1913 dL_law_1914 dL_law_1916 dL_law_1917 dL_law_1918 rfl rfl (by decide) hj hN ?_
  refine wp_callV (d' := d) (S := []) (as := [vI (sc K (7 * j + 1))]) dL_law_1919 lL_191 h (by omega) sh0 rfl rfl (Nat.le_of_ble_eq_true rfl) hm (fun r sh1 V1 q => ?_)
  obtain ⟨rfl, z, rfl, h1⟩ := q
  show Wp _ _ _ _ _ 1922 _ [vI z] _ _ _ _ _
  refine wp_aload_n dL_law_1922 rfl rfl ?_
  refine wl_arg (n := 1) dL_law_1923 dL_law_1924 dL_law_1926 dL_law_1927 dL_law_1928 rfl rfl (by decide) hj hN ?_
  refine wp_callV (d' := d) (S := [vI z]) (as := [vI (sc K (7 * j + 1))]) dL_law_1929 lL_194 h1 (by omega) sh369 rfl rfl (Nat.le_of_ble_eq_true rfl) hm (fun r sh2 V2 q => ?_)
  obtain ⟨rfl, z2, rfl, e, hI⟩ := q
  show Wp _ _ _ _ _ 1932 _ [vI z2, vI z] _ _ _ _ _
  exact wp_icmp_eq (tgt := 2076) dL_law_1932 rfl (fun _ => hk V2 hI) (fun q => absurd e.symm q)
theorem lw_c40 {d : Nat} (hd : d < 2048) (hj : 7 * j + 7 ≤ kN K) (hN : kN K ≤ 3584) (hm : cl ≤ mc ∧ sl ≤ ms) (h : Bth K d mX11_drawn [vR 0, vI (sc K (7 * j + 1)), vI (sc K (7 * j + 2)), vI (sc K (7 * j + 3)), vI (sc K (7 * j + 4))] mX12_drawn [vR 369, vI (sc K (7 * j + 1)), vI (sc K (7 * j + 2)), vI (sc K (7 * j + 3)), vI (sc K (7 * j + 4))] V) (hk : ∀ V2, Inv V2 → Wp K 2048 (mL nm) mc ms 2076 [some vS, some (vR 0), some (vR 369), some (vR 401), some (vI ((7 * j : Nat) : Int)), none, none] [] cl sl SH V2 Q) : Wp K 2048 (mL nm) mc ms 1937 [some vS, some (vR 0), some (vR 369), some (vR 401), some (vI ((7 * j : Nat) : Int)), none, none] [] cl sl SH V Q := by
  refine wp_aload_n dL_law_1937 rfl rfl ?_
  refine wl_arg (n := 1) dL_law_1938 dL_law_1939 dL_law_1941 dL_law_1942 dL_law_1943 rfl rfl (by decide) hj hN ?_
  refine wl_arg (n := 2) dL_law_1944 dL_law_1945 dL_law_1947 dL_law_1948 dL_law_1949 rfl rfl (by decide) hj hN ?_
  refine wl_arg (n := 3) dL_law_1950 dL_law_1951 dL_law_1953 dL_law_1954 dL_law_1955 rfl rfl (by decide) hj hN ?_
  refine wl_arg (n := 4) dL_law_1956 dL_law_1957 dL_law_1959 dL_law_1960 dL_law_1961 rfl rfl (by decide) hj hN ?_
  refine wp_callV (d' := d) (S := []) (as := [vI (sc K (7 * j + 1)), vI (sc K (7 * j + 2)), vI (sc K (7 * j + 3)), vI (sc K (7 * j + 4))]) dL_law_1962 lL_195 h (by omega) sh0 rfl rfl (Nat.le_of_ble_eq_true rfl) hm (fun r sh1 V1 q => ?_)
  obtain ⟨rfl, z, rfl, h1⟩ := q
  show Wp _ _ _ _ _ 1965 _ [vI z] _ _ _ _ _
  refine wp_aload_n dL_law_1965 rfl rfl ?_
  refine wl_arg (n := 1) dL_law_1966 dL_law_1967 dL_law_1969 dL_law_1970 dL_law_1971 rfl rfl (by decide) hj hN ?_
  refine wl_arg (n := 2) dL_law_1972 dL_law_1973 dL_law_1975 dL_law_1976 dL_law_1977 rfl rfl (by decide) hj hN ?_
  refine wl_arg (n := 3) dL_law_1978 dL_law_1979 dL_law_1981 dL_law_1982 dL_law_1983 rfl rfl (by decide) hj hN ?_
  refine wl_arg (n := 4) dL_law_1984 dL_law_1985 dL_law_1987 dL_law_1988 dL_law_1989 rfl rfl (by decide) hj hN ?_
  refine wp_callV (d' := d) (S := [vI z]) (as := [vI (sc K (7 * j + 1)), vI (sc K (7 * j + 2)), vI (sc K (7 * j + 3)), vI (sc K (7 * j + 4))]) dL_law_1990 lL_198 h1 (by omega) sh369 rfl rfl (Nat.le_of_ble_eq_true rfl) hm (fun r sh2 V2 q => ?_)
  obtain ⟨rfl, z2, rfl, e, hI⟩ := q
  show Wp _ _ _ _ _ 1993 _ [vI z2, vI z] _ _ _ _ _
  exact wp_icmp_eq (tgt := 2076) dL_law_1993 rfl (fun _ => hk V2 hI) (fun q => absurd e.symm q)
theorem lw_c41 {d : Nat} (hd : d < 2048) (hj : 7 * j + 7 ≤ kN K) (hN : kN K ≤ 3584) (hm : cl ≤ mc ∧ sl ≤ ms) (h : Bth K d mX11_mark [vR 0, vI (sc K (7 * j + 1)), vI (if sc K (7 * j + 2) = 0 then 0 else 1)] mX12_mark [vR 369, vI (sc K (7 * j + 1)), vI (if sc K (7 * j + 2) = 0 then 0 else 1)] V) (hk : ∀ V2, Inv V2 → Wp K 2048 (mL nm) mc ms 2076 [some vS, some (vR 0), some (vR 369), some (vR 401), some (vI ((7 * j : Nat) : Int)), none, none] [] cl sl SH V2 Q) : Wp K 2048 (mL nm) mc ms 1998 [some vS, some (vR 0), some (vR 369), some (vR 401), some (vI ((7 * j : Nat) : Int)), none, none] [] cl sl SH V Q := by
  refine wp_aload_n dL_law_1998 rfl rfl ?_
  refine wl_arg (n := 1) dL_law_1999 dL_law_2000 dL_law_2002 dL_law_2003 dL_law_2004 rfl rfl (by decide) hj hN ?_
  refine wl_arg (n := 2) dL_law_2005 dL_law_2006 dL_law_2008 dL_law_2009 dL_law_2010 rfl rfl (by decide) hj hN ?_
  refine wl_nz (pc := 2011) dL_law_2011 dL_law_2014 dL_law_2015 dL_law_2018 ?_
  refine wp_callV (d' := d) (S := []) (as := [vI (sc K (7 * j + 1)), vI (if sc K (7 * j + 2) = 0 then 0 else 1)]) dL_law_2019 lL_199 h (by omega) sh0 rfl rfl (Nat.le_of_ble_eq_true rfl) hm (fun r sh1 V1 q => ?_)
  obtain ⟨rfl, z, rfl, h1⟩ := q
  show Wp _ _ _ _ _ 2022 _ [vI z] _ _ _ _ _
  refine wp_aload_n dL_law_2022 rfl rfl ?_
  refine wl_arg (n := 1) dL_law_2023 dL_law_2024 dL_law_2026 dL_law_2027 dL_law_2028 rfl rfl (by decide) hj hN ?_
  refine wl_arg (n := 2) dL_law_2029 dL_law_2030 dL_law_2032 dL_law_2033 dL_law_2034 rfl rfl (by decide) hj hN ?_
  refine wl_nz (pc := 2035) dL_law_2035 dL_law_2038 dL_law_2039 dL_law_2042 ?_
  refine wp_callV (d' := d) (S := [vI z]) (as := [vI (sc K (7 * j + 1)), vI (if sc K (7 * j + 2) = 0 then 0 else 1)]) dL_law_2043 lL_203 h1 (by omega) sh369 rfl rfl (Nat.le_of_ble_eq_true rfl) hm (fun r sh2 V2 q => ?_)
  obtain ⟨rfl, z2, rfl, e, hI⟩ := q
  show Wp _ _ _ _ _ 2046 _ [vI z2, vI z] _ _ _ _ _
  exact wp_icmp_eq (tgt := 2076) dL_law_2046 rfl (fun _ => hk V2 hI) (fun q => absurd e.symm q)
theorem lw_c42 {d : Nat} (hd : d < 2048) (hj : 7 * j + 7 ≤ kN K) (hN : kN K ≤ 3584) (hm : cl ≤ mc ∧ sl ≤ ms) (h : Bth K d mX11_count [vR 0, vI (sc K (7 * j + 1))] mX12_count [vR 369, vI (sc K (7 * j + 1))] V) (hk : ∀ V2, Inv V2 → Wp K 2048 (mL nm) mc ms 2076 [some vS, some (vR 0), some (vR 369), some (vR 401), some (vI ((7 * j : Nat) : Int)), none, none] [] cl sl SH V2 Q) : Wp K 2048 (mL nm) mc ms 2051 [some vS, some (vR 0), some (vR 369), some (vR 401), some (vI ((7 * j : Nat) : Int)), none, none] [] cl sl SH V Q := by
  refine wp_aload_n dL_law_2051 rfl rfl ?_
  refine wl_arg (n := 1) dL_law_2052 dL_law_2053 dL_law_2055 dL_law_2056 dL_law_2057 rfl rfl (by decide) hj hN ?_
  refine wp_callV (d' := d) (S := []) (as := [vI (sc K (7 * j + 1))]) dL_law_2058 lL_204 h (by omega) sh0 rfl rfl (Nat.le_of_ble_eq_true rfl) hm (fun r sh1 V1 q => ?_)
  obtain ⟨rfl, z, rfl, h1⟩ := q
  show Wp _ _ _ _ _ 2061 _ [vI z] _ _ _ _ _
  refine wp_aload_n dL_law_2061 rfl rfl ?_
  refine wl_arg (n := 1) dL_law_2062 dL_law_2063 dL_law_2065 dL_law_2066 dL_law_2067 rfl rfl (by decide) hj hN ?_
  refine wp_callV (d' := d) (S := [vI z]) (as := [vI (sc K (7 * j + 1))]) dL_law_2068 lL_207 h1 (by omega) sh369 rfl rfl (Nat.le_of_ble_eq_true rfl) hm (fun r sh2 V2 q => ?_)
  obtain ⟨rfl, z2, rfl, e, hI⟩ := q
  show Wp _ _ _ _ _ 2071 _ [vI z2, vI z] _ _ _ _ _
  exact wp_icmp_eq (tgt := 2076) dL_law_2071 rfl (fun _ => hk V2 hI) (fun q => absurd e.symm q)
end LWC
