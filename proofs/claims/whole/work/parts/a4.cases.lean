/-! ===== the law: its cases ===== -/
section
variable {p : Program} {l : Launch} {e : Env} {s : State} {m : MethodId} {below : List Frame} {meth : Method} {c : Code} {H : Heap} {locs : List Loc} {cells slots : Nat} {Q : State → Prop}
variable {ls : Array Slot} {Γ : sw_C} {ξ : sw_x} {g : sw_g} {μ : sw_m} {b L N i : Nat} {xs : Nat → Int32} {a0 a1 : Nat}
set_option maxHeartbeats 1000000 in
theorem wl_0 (C : LC p m c s b L xs i N) (I : LI Γ s ξ g μ H locs a0 a1) (hl : LV ls b a0 a1 i) (hc : cells + 9 ≤ 600000) (hs : slots + 1068 ≤ 7302250) (kk : LK p l e s m below meth c Q Γ b a0 a1 ls cells slots) : W p l e room_1 s m #[Value.ref b] below meth c H locs cells slots Q (F0 m 204 ls []) := by
  obtain ⟨S, hX, hbl, hL, hi, hN⟩ := C
  obtain ⟨hw, hf, hd, hr, rfl, rfl⟩ := I
  obtain ⟨v, g1, μ1, m1, m2, hr1⟩ := claim_CR (N := N) hr (xs (i + 1)) (xs (i + 2))
  refine lv_aload_n S.1 S.2.1 dL_204 rfl (lv_at hl 1 rfl) ?_
  refine lw_arg1 S hX hbl hw hl (by omega) hL dL_205 dL_206 dL_207 dL_208 dL_209 ?_
  refine lw_arg2 S hX hbl hw hl (by omega) hL dL_210 dL_211 dL_212 dL_213 dL_214 ?_
  refine sw_Vi (q := 0) (rest := []) S hw (cSx_claim l N hf (xs (i + 1)) (xs (i + 2)) m1) kSx_claim wmL_13 (is_0 hf).1 (e_Sx (is_0 hf)) rfl rfl rfl rfl hl.1 (Nat.le_of_ble_eq_true rfl) ⟨rfl, rfl, Nat.le_of_ble_eq_true rfl, Nat.le_of_ble_eq_true rfl⟩ ⟨by show cells + 0 ≤ 600000; omega, by show slots + 0 ≤ 7302250; omega⟩ dL_215 (fun H1 locs1 hw hf => ?_)
  refine lv_aload_n S.1 S.2.1 dL_218 rfl (lv_at hl 2 rfl) ?_
  refine lw_arg1 S hX hbl hw hl (by omega) hL dL_219 dL_220 dL_221 dL_222 dL_223 ?_
  refine lw_arg2 S hX hbl hw hl (by omega) hL dL_224 dL_225 dL_226 dL_227 dL_228 ?_
  refine sw_Vi (q := 84) (rest := [.int v]) S hw (cMo_claim l hf (xs (i + 1)) (xs (i + 2)) m2) kMo_claim wmL_17 (is_84 hf).1 (e_Mo (is_84 hf)) rfl rfl rfl rfl hl.1 (Nat.le_of_ble_eq_true rfl) ⟨rfl, rfl, Nat.le_of_ble_eq_true rfl, Nat.le_of_ble_eq_true rfl⟩ ⟨by show cells + 0 + 0 ≤ 600000; omega, by show slots + 0 + 0 ≤ 7302250; omega⟩ dL_229 (fun H2 locs2 hw _ => ?_)
  refine lv_icmp_eq (tgt := 1142) S.1 S.2.1 dL_232 (by decide) (fun _ => ?_) (fun h => absurd rfl h)
  refine W.widen (k := cells + 9) (n := slots + 1068) (by omega) (by omega) ?_
  exact kk ξ g1 μ1 _ _ ⟨hw, hf, hd, hr1, rfl, rfl⟩
set_option maxHeartbeats 1000000 in
theorem wl_1 (C : LC p m c s b L xs i N) (I : LI Γ s ξ g μ H locs a0 a1) (hl : LV ls b a0 a1 i) (hc : cells + 9 ≤ 600000) (hs : slots + 1068 ≤ 7302250) (kk : LK p l e s m below meth c Q Γ b a0 a1 ls cells slots) : W p l e room_1 s m #[Value.ref b] below meth c H locs cells slots Q (F0 m 237 ls []) := by
  obtain ⟨S, hX, hbl, hL, hi, hN⟩ := C
  obtain ⟨hw, hf, hd, hr, rfl, rfl⟩ := I
  obtain ⟨v, g1, μ1, m1, m2, hr1⟩ := of_CR (N := N) (by omega) hr (xs (i + 1)) (xs (i + 2))
  refine lv_aload_n S.1 S.2.1 dL_237 rfl (lv_at hl 1 rfl) ?_
  refine lw_arg1 S hX hbl hw hl (by omega) hL dL_238 dL_239 dL_240 dL_241 dL_242 ?_
  refine lw_arg2 S hX hbl hw hl (by omega) hL dL_243 dL_244 dL_245 dL_246 dL_247 ?_
  refine sw_Vi (q := 0) (rest := []) S hw (cSx_of l N hf (xs (i + 1)) (xs (i + 2)) m1) kSx_of wmL_18 (is_0 hf).1 (e_Sx (is_0 hf)) rfl rfl rfl rfl hl.1 (Nat.le_of_ble_eq_true rfl) ⟨rfl, rfl, Nat.le_of_ble_eq_true rfl, Nat.le_of_ble_eq_true rfl⟩ ⟨by show cells + 0 ≤ 600000; omega, by show slots + 0 ≤ 7302250; omega⟩ dL_248 (fun H1 locs1 hw hf => ?_)
  refine lv_aload_n S.1 S.2.1 dL_251 rfl (lv_at hl 2 rfl) ?_
  refine lw_arg1 S hX hbl hw hl (by omega) hL dL_252 dL_253 dL_254 dL_255 dL_256 ?_
  refine lw_arg2 S hX hbl hw hl (by omega) hL dL_257 dL_258 dL_259 dL_260 dL_261 ?_
  refine sw_Vi (q := 84) (rest := [.int v]) S hw (cMo_of l N hf (xs (i + 1)) (xs (i + 2)) m2) kMo_of wmL_21 (is_84 hf).1 (e_Mo (is_84 hf)) rfl rfl rfl rfl hl.1 (Nat.le_of_ble_eq_true rfl) ⟨rfl, rfl, Nat.le_of_ble_eq_true rfl, Nat.le_of_ble_eq_true rfl⟩ ⟨by show cells + 0 + 0 ≤ 600000; omega, by show slots + 0 + 0 ≤ 7302250; omega⟩ dL_262 (fun H2 locs2 hw _ => ?_)
  refine lv_icmp_eq (tgt := 1142) S.1 S.2.1 dL_265 (by decide) (fun _ => ?_) (fun h => absurd rfl h)
  refine W.widen (k := cells + 9) (n := slots + 1068) (by omega) (by omega) ?_
  exact kk ξ g1 μ1 _ _ ⟨hw, hf, hd, hr1, rfl, rfl⟩
set_option maxHeartbeats 1000000 in
theorem wl_2 (C : LC p m c s b L xs i N) (I : LI Γ s ξ g μ H locs a0 a1) (hl : LV ls b a0 a1 i) (hc : cells + 9 ≤ 600000) (hs : slots + 1068 ≤ 7302250) (kk : LK p l e s m below meth c Q Γ b a0 a1 ls cells slots) : W p l e room_1 s m #[Value.ref b] below meth c H locs cells slots Q (F0 m 270 ls []) := by
  obtain ⟨S, hX, hbl, hL, hi, hN⟩ := C
  obtain ⟨hw, hf, hd, hr, rfl, rfl⟩ := I
  obtain ⟨v, g1, μ1, m1, m2, hr1⟩ := asks_CR (N := N) (by omega) hr (xs (i + 1)) (xs (i + 2)) (xs (i + 3))
  refine lv_aload_n S.1 S.2.1 dL_270 rfl (lv_at hl 1 rfl) ?_
  refine lw_arg1 S hX hbl hw hl (by omega) hL dL_271 dL_272 dL_273 dL_274 dL_275 ?_
  refine lw_arg2 S hX hbl hw hl (by omega) hL dL_276 dL_277 dL_278 dL_279 dL_280 ?_
  refine lw_arg3 S hX hbl hw hl (by omega) hL dL_281 dL_282 dL_283 dL_284 dL_285 ?_
  refine sw_Vi (q := 0) (rest := []) S hw (cSx_asks l N hf (xs (i + 1)) (xs (i + 2)) (xs (i + 3)) m1) kSx_asks wmL_22 (is_0 hf).1 (e_Sx (is_0 hf)) rfl rfl rfl rfl hl.1 (Nat.le_of_ble_eq_true rfl) ⟨rfl, rfl, Nat.le_of_ble_eq_true rfl, Nat.le_of_ble_eq_true rfl⟩ ⟨by show cells + 0 ≤ 600000; omega, by show slots + 0 ≤ 7302250; omega⟩ dL_286 (fun H1 locs1 hw hf => ?_)
  refine lv_aload_n S.1 S.2.1 dL_289 rfl (lv_at hl 2 rfl) ?_
  refine lw_arg1 S hX hbl hw hl (by omega) hL dL_290 dL_291 dL_292 dL_293 dL_294 ?_
  refine lw_arg2 S hX hbl hw hl (by omega) hL dL_295 dL_296 dL_297 dL_298 dL_299 ?_
  refine lw_arg3 S hX hbl hw hl (by omega) hL dL_300 dL_301 dL_302 dL_303 dL_304 ?_
  refine sw_Vi (q := 84) (rest := [.int v]) S hw (cMo_asks l N hf (xs (i + 1)) (xs (i + 2)) (xs (i + 3)) m2) kMo_asks wmL_26 (is_84 hf).1 (e_Mo (is_84 hf)) rfl rfl rfl rfl hl.1 (Nat.le_of_ble_eq_true rfl) ⟨rfl, rfl, Nat.le_of_ble_eq_true rfl, Nat.le_of_ble_eq_true rfl⟩ ⟨by show cells + 0 + 0 ≤ 600000; omega, by show slots + 0 + 0 ≤ 7302250; omega⟩ dL_305 (fun H2 locs2 hw _ => ?_)
  refine lv_icmp_eq (tgt := 1142) S.1 S.2.1 dL_308 (by decide) (fun _ => ?_) (fun h => absurd rfl h)
  refine W.widen (k := cells + 9) (n := slots + 1068) (by omega) (by omega) ?_
  exact kk ξ g1 μ1 _ _ ⟨hw, hf, hd, hr1, rfl, rfl⟩
set_option maxHeartbeats 1000000 in
theorem wl_3 (C : LC p m c s b L xs i N) (I : LI Γ s ξ g μ H locs a0 a1) (hl : LV ls b a0 a1 i) (hc : cells + 9 ≤ 600000) (hs : slots + 1068 ≤ 7302250) (kk : LK p l e s m below meth c Q Γ b a0 a1 ls cells slots) : W p l e room_1 s m #[Value.ref b] below meth c H locs cells slots Q (F0 m 313 ls []) := by
  obtain ⟨S, hX, hbl, hL, hi, hN⟩ := C
  obtain ⟨hw, hf, hd, hr, rfl, rfl⟩ := I
  obtain ⟨v, g1, μ1, m1, m2, hr1⟩ := tilt_CR (N := N) (by omega) hr (xs (i + 1))
  refine lv_aload_n S.1 S.2.1 dL_313 rfl (lv_at hl 1 rfl) ?_
  refine lw_arg1 S hX hbl hw hl (by omega) hL dL_314 dL_315 dL_316 dL_317 dL_318 ?_
  refine sw_Vi (q := 0) (rest := []) S hw (cSx_tilt l N hf (xs (i + 1)) m1) kSx_tilt wmL_27 (is_0 hf).1 (e_Sx (is_0 hf)) rfl rfl rfl rfl hl.1 (Nat.le_of_ble_eq_true rfl) ⟨rfl, rfl, Nat.le_of_ble_eq_true rfl, Nat.le_of_ble_eq_true rfl⟩ ⟨by show cells + 0 ≤ 600000; omega, by show slots + 0 ≤ 7302250; omega⟩ dL_319 (fun H1 locs1 hw hf => ?_)
  refine lv_aload_n S.1 S.2.1 dL_322 rfl (lv_at hl 2 rfl) ?_
  refine lw_arg1 S hX hbl hw hl (by omega) hL dL_323 dL_324 dL_325 dL_326 dL_327 ?_
  refine sw_Vi (q := 84) (rest := [.int v]) S hw (cMo_tilt l N hf (xs (i + 1)) m2) kMo_tilt wmL_31 (is_84 hf).1 (e_Mo (is_84 hf)) rfl rfl rfl rfl hl.1 (Nat.le_of_ble_eq_true rfl) ⟨rfl, rfl, Nat.le_of_ble_eq_true rfl, Nat.le_of_ble_eq_true rfl⟩ ⟨by show cells + 0 + 0 ≤ 600000; omega, by show slots + 0 + 0 ≤ 7302250; omega⟩ dL_328 (fun H2 locs2 hw _ => ?_)
  refine lv_icmp_eq (tgt := 1142) S.1 S.2.1 dL_331 (by decide) (fun _ => ?_) (fun h => absurd rfl h)
  refine W.widen (k := cells + 9) (n := slots + 1068) (by omega) (by omega) ?_
  exact kk ξ g1 μ1 _ _ ⟨hw, hf, hd, hr1, rfl, rfl⟩
set_option maxHeartbeats 1000000 in
theorem wl_4 (C : LC p m c s b L xs i N) (I : LI Γ s ξ g μ H locs a0 a1) (hl : LV ls b a0 a1 i) (hc : cells + 9 ≤ 600000) (hs : slots + 1068 ≤ 7302250) (kk : LK p l e s m below meth c Q Γ b a0 a1 ls cells slots) : W p l e room_1 s m #[Value.ref b] below meth c H locs cells slots Q (F0 m 336 ls []) := by
  obtain ⟨S, hX, hbl, hL, hi, hN⟩ := C
  obtain ⟨hw, hf, hd, hr, rfl, rfl⟩ := I
  obtain ⟨v, g1, μ1, m1, m2, hr1⟩ := terms_CR (N := N) hr (xs (i + 1)) (xs (i + 2))
  refine lv_aload_n S.1 S.2.1 dL_336 rfl (lv_at hl 1 rfl) ?_
  refine lw_arg1 S hX hbl hw hl (by omega) hL dL_337 dL_338 dL_339 dL_340 dL_341 ?_
  refine lw_arg2 S hX hbl hw hl (by omega) hL dL_342 dL_343 dL_344 dL_345 dL_346 ?_
  refine sw_Vi (q := 0) (rest := []) S hw (cSx_terms l N hf (xs (i + 1)) (xs (i + 2)) m1) kSx_terms wmL_32 (is_0 hf).1 (e_Sx (is_0 hf)) rfl rfl rfl rfl hl.1 (Nat.le_of_ble_eq_true rfl) ⟨rfl, rfl, Nat.le_of_ble_eq_true rfl, Nat.le_of_ble_eq_true rfl⟩ ⟨by show cells + 0 ≤ 600000; omega, by show slots + 0 ≤ 7302250; omega⟩ dL_347 (fun H1 locs1 hw hf => ?_)
  refine lv_aload_n S.1 S.2.1 dL_350 rfl (lv_at hl 2 rfl) ?_
  refine lw_arg1 S hX hbl hw hl (by omega) hL dL_351 dL_352 dL_353 dL_354 dL_355 ?_
  refine lw_arg2 S hX hbl hw hl (by omega) hL dL_356 dL_357 dL_358 dL_359 dL_360 ?_
  refine sw_Vi (q := 84) (rest := [.int v]) S hw (cMo_terms l N hf (xs (i + 1)) (xs (i + 2)) m2) kMo_terms wmL_35 (is_84 hf).1 (e_Mo (is_84 hf)) rfl rfl rfl rfl hl.1 (Nat.le_of_ble_eq_true rfl) ⟨rfl, rfl, Nat.le_of_ble_eq_true rfl, Nat.le_of_ble_eq_true rfl⟩ ⟨by show cells + 0 + 0 ≤ 600000; omega, by show slots + 0 + 0 ≤ 7302250; omega⟩ dL_361 (fun H2 locs2 hw _ => ?_)
  refine lv_icmp_eq (tgt := 1142) S.1 S.2.1 dL_364 (by decide) (fun _ => ?_) (fun h => absurd rfl h)
  refine W.widen (k := cells + 9) (n := slots + 1068) (by omega) (by omega) ?_
  exact kk ξ g1 μ1 _ _ ⟨hw, hf, hd, hr1, rfl, rfl⟩
set_option maxHeartbeats 1000000 in
theorem wl_5 (C : LC p m c s b L xs i N) (I : LI Γ s ξ g μ H locs a0 a1) (hl : LV ls b a0 a1 i) (hc : cells + 9 ≤ 600000) (hs : slots + 1068 ≤ 7302250) (kk : LK p l e s m below meth c Q Γ b a0 a1 ls cells slots) : W p l e room_1 s m #[Value.ref b] below meth c H locs cells slots Q (F0 m 369 ls []) := by
  obtain ⟨S, hX, hbl, hL, hi, hN⟩ := C
  obtain ⟨hw, hf, hd, hr, rfl, rfl⟩ := I
  obtain ⟨v, g1, μ1, m1, m2, hr1⟩ := feed_CR (N := N) (by omega) hr (xs (i + 1)) (xs (i + 2)) (xs (i + 3)) (xs (i + 4)) (xs (i + 5))
  refine lv_aload_n S.1 S.2.1 dL_369 rfl (lv_at hl 1 rfl) ?_
  refine lw_arg1 S hX hbl hw hl (by omega) hL dL_370 dL_371 dL_372 dL_373 dL_374 ?_
  refine lw_arg2 S hX hbl hw hl (by omega) hL dL_375 dL_376 dL_377 dL_378 dL_379 ?_
  refine lw_arg3 S hX hbl hw hl (by omega) hL dL_380 dL_381 dL_382 dL_383 dL_384 ?_
  refine lw_arg4 S hX hbl hw hl (by omega) hL dL_385 dL_386 dL_387 dL_388 dL_389 ?_
  refine lw_arg5 S hX hbl hw hl (by omega) hL dL_390 dL_391 dL_392 dL_393 dL_394 ?_
  refine sw_Vi (q := 0) (rest := []) S hw (cSx_feed l N hf (xs (i + 1)) (xs (i + 2)) (xs (i + 3)) (xs (i + 4)) (xs (i + 5)) m1) kSx_feed wmL_36 (is_0 hf).1 (e_Sx (is_0 hf)) rfl rfl rfl rfl hl.1 (Nat.le_of_ble_eq_true rfl) ⟨rfl, rfl, Nat.le_of_ble_eq_true rfl, Nat.le_of_ble_eq_true rfl⟩ ⟨by show cells + 0 ≤ 600000; omega, by show slots + 0 ≤ 7302250; omega⟩ dL_395 (fun H1 locs1 hw hf => ?_)
  refine lv_aload_n S.1 S.2.1 dL_398 rfl (lv_at hl 2 rfl) ?_
  refine lw_arg1 S hX hbl hw hl (by omega) hL dL_399 dL_400 dL_401 dL_402 dL_403 ?_
  refine lw_arg2 S hX hbl hw hl (by omega) hL dL_404 dL_405 dL_406 dL_407 dL_408 ?_
  refine lw_arg3 S hX hbl hw hl (by omega) hL dL_409 dL_410 dL_411 dL_412 dL_413 ?_
  refine lw_arg4 S hX hbl hw hl (by omega) hL dL_414 dL_415 dL_416 dL_417 dL_418 ?_
  refine lw_arg5 S hX hbl hw hl (by omega) hL dL_419 dL_420 dL_421 dL_422 dL_423 ?_
  refine sw_Vi (q := 84) (rest := [.int v]) S hw (cMo_feed l N hf (xs (i + 1)) (xs (i + 2)) (xs (i + 3)) (xs (i + 4)) (xs (i + 5)) m2) kMo_feed wmL_40 (is_84 hf).1 (e_Mo (is_84 hf)) rfl rfl rfl rfl hl.1 (Nat.le_of_ble_eq_true rfl) ⟨rfl, rfl, Nat.le_of_ble_eq_true rfl, Nat.le_of_ble_eq_true rfl⟩ ⟨by show cells + 0 + 0 ≤ 600000; omega, by show slots + 0 + 0 ≤ 7302250; omega⟩ dL_424 (fun H2 locs2 hw _ => ?_)
  refine lv_icmp_eq (tgt := 1142) S.1 S.2.1 dL_427 (by decide) (fun _ => ?_) (fun h => absurd rfl h)
  refine W.widen (k := cells + 9) (n := slots + 1068) (by omega) (by omega) ?_
  exact kk ξ g1 μ1 _ _ ⟨hw, hf, hd, hr1, rfl, rfl⟩
set_option maxHeartbeats 1000000 in
theorem wl_6 (C : LC p m c s b L xs i N) (I : LI Γ s ξ g μ H locs a0 a1) (hl : LV ls b a0 a1 i) (hc : cells + 9 ≤ 600000) (hs : slots + 1068 ≤ 7302250) (kk : LK p l e s m below meth c Q Γ b a0 a1 ls cells slots) : W p l e room_1 s m #[Value.ref b] below meth c H locs cells slots Q (F0 m 432 ls []) := by
  obtain ⟨S, hX, hbl, hL, hi, hN⟩ := C
  obtain ⟨hw, hf, hd, hr, rfl, rfl⟩ := I
  obtain ⟨v, g1, μ1, m1, m2, hr1⟩ := end_CR hr (xs (i + 1))
  refine lv_aload_n S.1 S.2.1 dL_432 rfl (lv_at hl 1 rfl) ?_
  refine lw_arg1 S hX hbl hw hl (by omega) hL dL_433 dL_434 dL_435 dL_436 dL_437 ?_
  refine sw_Vi (q := 0) (rest := []) S hw (cSx_end l hf (xs (i + 1)) m1) kSx_end wmL_41 (is_0 hf).1 (e_Sx (is_0 hf)) rfl rfl rfl rfl hl.1 (Nat.le_of_ble_eq_true rfl) ⟨rfl, rfl, Nat.le_of_ble_eq_true rfl, Nat.le_of_ble_eq_true rfl⟩ ⟨by show cells + 0 ≤ 600000; omega, by show slots + 0 ≤ 7302250; omega⟩ dL_438 (fun H1 locs1 hw hf => ?_)
  refine lv_aload_n S.1 S.2.1 dL_441 rfl (lv_at hl 2 rfl) ?_
  refine lw_arg1 S hX hbl hw hl (by omega) hL dL_442 dL_443 dL_444 dL_445 dL_446 ?_
  refine sw_Vi (q := 84) (rest := [.int v]) S hw (cMo_end l hf (xs (i + 1)) m2) kMo_end wmL_44 (is_84 hf).1 (e_Mo (is_84 hf)) rfl rfl rfl rfl hl.1 (Nat.le_of_ble_eq_true rfl) ⟨rfl, rfl, Nat.le_of_ble_eq_true rfl, Nat.le_of_ble_eq_true rfl⟩ ⟨by show cells + 0 + 0 ≤ 600000; omega, by show slots + 0 + 0 ≤ 7302250; omega⟩ dL_447 (fun H2 locs2 hw _ => ?_)
  refine lv_icmp_eq (tgt := 1142) S.1 S.2.1 dL_450 (by decide) (fun _ => ?_) (fun h => absurd rfl h)
  refine W.widen (k := cells + 9) (n := slots + 1068) (by omega) (by omega) ?_
  exact kk ξ g1 μ1 _ _ ⟨hw, hf, hd, hr1, rfl, rfl⟩
set_option maxHeartbeats 1000000 in
theorem wl_7 (C : LC p m c s b L xs i N) (I : LI Γ s ξ g μ H locs a0 a1) (hl : LV ls b a0 a1 i) (hc : cells + 9 ≤ 600000) (hs : slots + 1068 ≤ 7302250) (kk : LK p l e s m below meth c Q Γ b a0 a1 ls cells slots) : W p l e room_1 s m #[Value.ref b] below meth c H locs cells slots Q (F0 m 455 ls []) := by
  obtain ⟨S, hX, hbl, hL, hi, hN⟩ := C
  obtain ⟨hw, hf, hd, hr, rfl, rfl⟩ := I
  obtain ⟨v, g1, μ1, m1, m2, hr1⟩ := row_CR (N := N) (by omega) hr
  refine lv_aload_n S.1 S.2.1 dL_455 rfl (lv_at hl 1 rfl) ?_
  refine sw_Vi (q := 0) (rest := []) S hw (cSx_row l N hf  m1) kSx_row wmL_45 (is_0 hf).1 (e_Sx (is_0 hf)) rfl rfl rfl rfl hl.1 (Nat.le_of_ble_eq_true rfl) ⟨rfl, rfl, Nat.le_of_ble_eq_true rfl, Nat.le_of_ble_eq_true rfl⟩ ⟨by show cells + 0 ≤ 600000; omega, by show slots + 0 ≤ 7302250; omega⟩ dL_456 (fun H1 locs1 hw hf => ?_)
  refine lv_aload_n S.1 S.2.1 dL_459 rfl (lv_at hl 2 rfl) ?_
  refine sw_Vi (q := 84) (rest := [.int v]) S hw (cMo_row l N hf  m2) kMo_row wmL_49 (is_84 hf).1 (e_Mo (is_84 hf)) rfl rfl rfl rfl hl.1 (Nat.le_of_ble_eq_true rfl) ⟨rfl, rfl, Nat.le_of_ble_eq_true rfl, Nat.le_of_ble_eq_true rfl⟩ ⟨by show cells + 0 + 0 ≤ 600000; omega, by show slots + 0 + 0 ≤ 7302250; omega⟩ dL_460 (fun H2 locs2 hw _ => ?_)
  refine lv_icmp_eq (tgt := 1142) S.1 S.2.1 dL_463 (by decide) (fun _ => ?_) (fun h => absurd rfl h)
  refine W.widen (k := cells + 9) (n := slots + 1068) (by omega) (by omega) ?_
  exact kk ξ g1 μ1 _ _ ⟨hw, hf, hd, hr1, rfl, rfl⟩
set_option maxHeartbeats 1000000 in
theorem wl_8 (C : LC p m c s b L xs i N) (I : LI Γ s ξ g μ H locs a0 a1) (hl : LV ls b a0 a1 i) (hc : cells + 9 ≤ 600000) (hs : slots + 1068 ≤ 7302250) (kk : LK p l e s m below meth c Q Γ b a0 a1 ls cells slots) : W p l e room_1 s m #[Value.ref b] below meth c H locs cells slots Q (F0 m 468 ls []) := by
  obtain ⟨S, hX, hbl, hL, hi, hN⟩ := C
  obtain ⟨hw, hf, hd, hr, rfl, rfl⟩ := I
  obtain ⟨v, g1, μ1, m1, m2, hr1⟩ := sawdust_CR hr
  refine lv_aload_n S.1 S.2.1 dL_468 rfl (lv_at hl 1 rfl) ?_
  refine sw_Vi (q := 0) (rest := []) S hw (cSx_sawdust l hf  m1) kSx_sawdust wmL_50 (is_0 hf).1 (e_Sx (is_0 hf)) rfl rfl rfl rfl hl.1 (Nat.le_of_ble_eq_true rfl) ⟨rfl, rfl, Nat.le_of_ble_eq_true rfl, Nat.le_of_ble_eq_true rfl⟩ ⟨by show cells + 0 ≤ 600000; omega, by show slots + 0 ≤ 7302250; omega⟩ dL_469 (fun H1 locs1 hw hf => ?_)
  refine lv_aload_n S.1 S.2.1 dL_472 rfl (lv_at hl 2 rfl) ?_
  refine sw_Vi (q := 84) (rest := [.int v]) S hw (cMo_sawdust l hf  m2) kMo_sawdust wmL_53 (is_84 hf).1 (e_Mo (is_84 hf)) rfl rfl rfl rfl hl.1 (Nat.le_of_ble_eq_true rfl) ⟨rfl, rfl, Nat.le_of_ble_eq_true rfl, Nat.le_of_ble_eq_true rfl⟩ ⟨by show cells + 0 + 0 ≤ 600000; omega, by show slots + 0 + 0 ≤ 7302250; omega⟩ dL_473 (fun H2 locs2 hw _ => ?_)
  refine lv_icmp_eq (tgt := 1142) S.1 S.2.1 dL_476 (by decide) (fun _ => ?_) (fun h => absurd rfl h)
  refine W.widen (k := cells + 9) (n := slots + 1068) (by omega) (by omega) ?_
  exact kk ξ g1 μ1 _ _ ⟨hw, hf, hd, hr1, rfl, rfl⟩
set_option maxHeartbeats 1000000 in
theorem wl_10 (C : LC p m c s b L xs i N) (I : LI Γ s ξ g μ H locs a0 a1) (hl : LV ls b a0 a1 i) (hc : cells + 9 ≤ 600000) (hs : slots + 1068 ≤ 7302250) (kk : LK p l e s m below meth c Q Γ b a0 a1 ls cells slots) : W p l e room_1 s m #[Value.ref b] below meth c H locs cells slots Q (F0 m 494 ls []) := by
  obtain ⟨S, hX, hbl, hL, hi, hN⟩ := C
  obtain ⟨hw, hf, hd, hr, rfl, rfl⟩ := I
  obtain ⟨v, g1, μ1, m1, m2, hr1⟩ := orders_CR (N := N) (by omega) hr (by rw [(wf_is hf 41 (by decide)).2.2]; decide) (by rw [(wf_is hf 41 (by decide)).2.2]; decide)
  refine lv_aload_n S.1 S.2.1 dL_494 rfl (lv_at hl 1 rfl) ?_
  refine sw_Vi (q := 0) (rest := []) S hw (cSx_orders l N hf  m1) kSx_orders wmL_58 (is_0 hf).1 (e_Sx (is_0 hf)) rfl rfl rfl rfl hl.1 (Nat.le_of_ble_eq_true rfl) ⟨rfl, rfl, Nat.le_of_ble_eq_true rfl, Nat.le_of_ble_eq_true rfl⟩ ⟨by show cells + 0 ≤ 600000; omega, by show slots + 0 ≤ 7302250; omega⟩ dL_495 (fun H1 locs1 hw hf => ?_)
  refine lv_aload_n S.1 S.2.1 dL_498 rfl (lv_at hl 2 rfl) ?_
  refine sw_Vi (q := 84) (rest := [.int v]) S hw (cMo_orders l N hf  m2) kMo_orders wmL_61 (is_84 hf).1 (e_Mo (is_84 hf)) rfl rfl rfl rfl hl.1 (Nat.le_of_ble_eq_true rfl) ⟨rfl, rfl, Nat.le_of_ble_eq_true rfl, Nat.le_of_ble_eq_true rfl⟩ ⟨by show cells + 0 + 0 ≤ 600000; omega, by show slots + 0 + 0 ≤ 7302250; omega⟩ dL_499 (fun H2 locs2 hw _ => ?_)
  refine lv_icmp_eq (tgt := 1142) S.1 S.2.1 dL_502 (by decide) (fun _ => ?_) (fun h => absurd rfl h)
  refine W.widen (k := cells + 9) (n := slots + 1068) (by omega) (by omega) ?_
  exact kk ξ g1 μ1 _ _ ⟨hw, hf, hd, hr1, rfl, rfl⟩
set_option maxHeartbeats 1000000 in
theorem wl_11 (C : LC p m c s b L xs i N) (I : LI Γ s ξ g μ H locs a0 a1) (hl : LV ls b a0 a1 i) (hc : cells + 9 ≤ 600000) (hs : slots + 1068 ≤ 7302250) (kk : LK p l e s m below meth c Q Γ b a0 a1 ls cells slots) : W p l e room_1 s m #[Value.ref b] below meth c H locs cells slots Q (F0 m 507 ls []) := by
  obtain ⟨S, hX, hbl, hL, hi, hN⟩ := C
  obtain ⟨hw, hf, hd, hr, rfl, rfl⟩ := I
  obtain ⟨v, g1, μ1, m1, m2, hr1⟩ := fault_CR hr
  refine lv_aload_n S.1 S.2.1 dL_507 rfl (lv_at hl 1 rfl) ?_
  refine sw_Vi (q := 0) (rest := []) S hw (cSx_fault l hf  m1) kSx_fault wmL_62 (is_0 hf).1 (e_Sx (is_0 hf)) rfl rfl rfl rfl hl.1 (Nat.le_of_ble_eq_true rfl) ⟨rfl, rfl, Nat.le_of_ble_eq_true rfl, Nat.le_of_ble_eq_true rfl⟩ ⟨by show cells + 0 ≤ 600000; omega, by show slots + 0 ≤ 7302250; omega⟩ dL_508 (fun H1 locs1 hw hf => ?_)
  refine lv_aload_n S.1 S.2.1 dL_511 rfl (lv_at hl 2 rfl) ?_
  refine sw_Vi (q := 84) (rest := [.int v]) S hw (cMo_fault l hf  m2) kMo_fault wmL_65 (is_84 hf).1 (e_Mo (is_84 hf)) rfl rfl rfl rfl hl.1 (Nat.le_of_ble_eq_true rfl) ⟨rfl, rfl, Nat.le_of_ble_eq_true rfl, Nat.le_of_ble_eq_true rfl⟩ ⟨by show cells + 0 + 0 ≤ 600000; omega, by show slots + 0 + 0 ≤ 7302250; omega⟩ dL_512 (fun H2 locs2 hw _ => ?_)
  refine lv_icmp_eq (tgt := 1142) S.1 S.2.1 dL_515 (by decide) (fun _ => ?_) (fun h => absurd rfl h)
  refine W.widen (k := cells + 9) (n := slots + 1068) (by omega) (by omega) ?_
  exact kk ξ g1 μ1 _ _ ⟨hw, hf, hd, hr1, rfl, rfl⟩
set_option maxHeartbeats 1000000 in
theorem wl_12 (C : LC p m c s b L xs i N) (I : LI Γ s ξ g μ H locs a0 a1) (hl : LV ls b a0 a1 i) (hc : cells + 9 ≤ 600000) (hs : slots + 1068 ≤ 7302250) (kk : LK p l e s m below meth c Q Γ b a0 a1 ls cells slots) : W p l e room_1 s m #[Value.ref b] below meth c H locs cells slots Q (F0 m 520 ls []) := by
  obtain ⟨S, hX, hbl, hL, hi, hN⟩ := C
  obtain ⟨hw, hf, hd, hr, rfl, rfl⟩ := I
  obtain ⟨v, g1, μ1, m1, m2, hr1⟩ := stopped_CR hr
  refine lv_aload_n S.1 S.2.1 dL_520 rfl (lv_at hl 1 rfl) ?_
  refine sw_Vi (q := 0) (rest := []) S hw (cSx_stopped l hf  m1) kSx_stopped wmL_66 (is_0 hf).1 (e_Sx (is_0 hf)) rfl rfl rfl rfl hl.1 (Nat.le_of_ble_eq_true rfl) ⟨rfl, rfl, Nat.le_of_ble_eq_true rfl, Nat.le_of_ble_eq_true rfl⟩ ⟨by show cells + 0 ≤ 600000; omega, by show slots + 0 ≤ 7302250; omega⟩ dL_521 (fun H1 locs1 hw hf => ?_)
  refine lv_aload_n S.1 S.2.1 dL_524 rfl (lv_at hl 2 rfl) ?_
  refine sw_Vi (q := 84) (rest := [.int v]) S hw (cMo_stopped l hf  m2) kMo_stopped wmL_69 (is_84 hf).1 (e_Mo (is_84 hf)) rfl rfl rfl rfl hl.1 (Nat.le_of_ble_eq_true rfl) ⟨rfl, rfl, Nat.le_of_ble_eq_true rfl, Nat.le_of_ble_eq_true rfl⟩ ⟨by show cells + 0 + 0 ≤ 600000; omega, by show slots + 0 + 0 ≤ 7302250; omega⟩ dL_525 (fun H2 locs2 hw _ => ?_)
  refine lv_icmp_eq (tgt := 1142) S.1 S.2.1 dL_528 (by decide) (fun _ => ?_) (fun h => absurd rfl h)
  refine W.widen (k := cells + 9) (n := slots + 1068) (by omega) (by omega) ?_
  exact kk ξ g1 μ1 _ _ ⟨hw, hf, hd, hr1, rfl, rfl⟩
set_option maxHeartbeats 1000000 in
theorem wl_13 (C : LC p m c s b L xs i N) (I : LI Γ s ξ g μ H locs a0 a1) (hl : LV ls b a0 a1 i) (hc : cells + 9 ≤ 600000) (hs : slots + 1068 ≤ 7302250) (kk : LK p l e s m below meth c Q Γ b a0 a1 ls cells slots) : W p l e room_1 s m #[Value.ref b] below meth c H locs cells slots Q (F0 m 533 ls []) := by
  obtain ⟨S, hX, hbl, hL, hi, hN⟩ := C
  obtain ⟨hw, hf, hd, hr, rfl, rfl⟩ := I
  obtain ⟨v, g1, μ1, m1, m2, hr1⟩ := force_CR (N := N) hr (xs (i + 1))
  refine lv_aload_n S.1 S.2.1 dL_533 rfl (lv_at hl 1 rfl) ?_
  refine lw_arg1 S hX hbl hw hl (by omega) hL dL_534 dL_535 dL_536 dL_537 dL_538 ?_
  refine sw_Vi (q := 0) (rest := []) S hw (cSx_force l N hf (xs (i + 1)) m1) kSx_force wmL_70 (is_0 hf).1 (e_Sx (is_0 hf)) rfl rfl rfl rfl hl.1 (Nat.le_of_ble_eq_true rfl) ⟨rfl, rfl, Nat.le_of_ble_eq_true rfl, Nat.le_of_ble_eq_true rfl⟩ ⟨by show cells + 0 ≤ 600000; omega, by show slots + 0 ≤ 7302250; omega⟩ dL_539 (fun H1 locs1 hw hf => ?_)
  refine lv_aload_n S.1 S.2.1 dL_542 rfl (lv_at hl 2 rfl) ?_
  refine lw_arg1 S hX hbl hw hl (by omega) hL dL_543 dL_544 dL_545 dL_546 dL_547 ?_
  refine sw_Vi (q := 84) (rest := [.int v]) S hw (cMo_force l hf (xs (i + 1)) m2) kMo_force wmL_73 (is_84 hf).1 (e_Mo (is_84 hf)) rfl rfl rfl rfl hl.1 (Nat.le_of_ble_eq_true rfl) ⟨rfl, rfl, Nat.le_of_ble_eq_true rfl, Nat.le_of_ble_eq_true rfl⟩ ⟨by show cells + 0 + 0 ≤ 600000; omega, by show slots + 0 + 0 ≤ 7302250; omega⟩ dL_548 (fun H2 locs2 hw _ => ?_)
  refine lv_icmp_eq (tgt := 1142) S.1 S.2.1 dL_551 (by decide) (fun _ => ?_) (fun h => absurd rfl h)
  refine W.widen (k := cells + 9) (n := slots + 1068) (by omega) (by omega) ?_
  exact kk ξ g1 μ1 _ _ ⟨hw, hf, hd, hr1, rfl, rfl⟩
set_option maxHeartbeats 1000000 in
theorem wl_14 (C : LC p m c s b L xs i N) (I : LI Γ s ξ g μ H locs a0 a1) (hl : LV ls b a0 a1 i) (hc : cells + 9 ≤ 600000) (hs : slots + 1068 ≤ 7302250) (kk : LK p l e s m below meth c Q Γ b a0 a1 ls cells slots) : W p l e room_1 s m #[Value.ref b] below meth c H locs cells slots Q (F0 m 556 ls []) := by
  obtain ⟨S, hX, hbl, hL, hi, hN⟩ := C
  obtain ⟨hw, hf, hd, hr, rfl, rfl⟩ := I
  obtain ⟨v, g1, μ1, m1, m2, hr1⟩ := put_CR (N := N) (by omega) hr (xs (i + 1)) (xs (i + 2))
  refine lv_aload_n S.1 S.2.1 dL_556 rfl (lv_at hl 1 rfl) ?_
  refine lw_arg1 S hX hbl hw hl (by omega) hL dL_557 dL_558 dL_559 dL_560 dL_561 ?_
  refine lw_arg2 S hX hbl hw hl (by omega) hL dL_562 dL_563 dL_564 dL_565 dL_566 ?_
  refine sw_Vi (q := 0) (rest := []) S hw (cSx_put l N hf (xs (i + 1)) (xs (i + 2)) m1) kSx_put wmL_74 (is_0 hf).1 (e_Sx (is_0 hf)) rfl rfl rfl rfl hl.1 (Nat.le_of_ble_eq_true rfl) ⟨rfl, rfl, Nat.le_of_ble_eq_true rfl, Nat.le_of_ble_eq_true rfl⟩ ⟨by show cells + 0 ≤ 600000; omega, by show slots + 0 ≤ 7302250; omega⟩ dL_567 (fun H1 locs1 hw hf => ?_)
  refine lv_aload_n S.1 S.2.1 dL_570 rfl (lv_at hl 2 rfl) ?_
  refine lw_arg1 S hX hbl hw hl (by omega) hL dL_571 dL_572 dL_573 dL_574 dL_575 ?_
  refine lw_arg2 S hX hbl hw hl (by omega) hL dL_576 dL_577 dL_578 dL_579 dL_580 ?_
  refine sw_Vi (q := 84) (rest := [.int v]) S hw (cMo_put l N hf (xs (i + 1)) (xs (i + 2)) m2) kMo_put wmL_77 (is_84 hf).1 (e_Mo (is_84 hf)) rfl rfl rfl rfl hl.1 (Nat.le_of_ble_eq_true rfl) ⟨rfl, rfl, Nat.le_of_ble_eq_true rfl, Nat.le_of_ble_eq_true rfl⟩ ⟨by show cells + 0 + 0 ≤ 600000; omega, by show slots + 0 + 0 ≤ 7302250; omega⟩ dL_581 (fun H2 locs2 hw _ => ?_)
  refine lv_icmp_eq (tgt := 1142) S.1 S.2.1 dL_584 (by decide) (fun _ => ?_) (fun h => absurd rfl h)
  refine W.widen (k := cells + 9) (n := slots + 1068) (by omega) (by omega) ?_
  exact kk ξ g1 μ1 _ _ ⟨hw, hf, hd, hr1, rfl, rfl⟩
set_option maxHeartbeats 1000000 in
theorem wl_15 (C : LC p m c s b L xs i N) (I : LI Γ s ξ g μ H locs a0 a1) (hl : LV ls b a0 a1 i) (hc : cells + 9 ≤ 600000) (hs : slots + 1068 ≤ 7302250) (kk : LK p l e s m below meth c Q Γ b a0 a1 ls cells slots) : W p l e room_1 s m #[Value.ref b] below meth c H locs cells slots Q (F0 m 589 ls []) := by
  obtain ⟨S, hX, hbl, hL, hi, hN⟩ := C
  obtain ⟨hw, hf, hd, hr, rfl, rfl⟩ := I
  obtain ⟨v, g1, μ1, m1, m2, hr1⟩ := take_CR (N := N) (by omega) hr (xs (i + 1))
  refine lv_aload_n S.1 S.2.1 dL_589 rfl (lv_at hl 1 rfl) ?_
  refine lw_arg1 S hX hbl hw hl (by omega) hL dL_590 dL_591 dL_592 dL_593 dL_594 ?_
  refine sw_Vi (q := 0) (rest := []) S hw (cSx_take l N hf (xs (i + 1)) m1) kSx_take wmL_78 (is_0 hf).1 (e_Sx (is_0 hf)) rfl rfl rfl rfl hl.1 (Nat.le_of_ble_eq_true rfl) ⟨rfl, rfl, Nat.le_of_ble_eq_true rfl, Nat.le_of_ble_eq_true rfl⟩ ⟨by show cells + 0 ≤ 600000; omega, by show slots + 0 ≤ 7302250; omega⟩ dL_595 (fun H1 locs1 hw hf => ?_)
  refine lv_aload_n S.1 S.2.1 dL_598 rfl (lv_at hl 2 rfl) ?_
  refine lw_arg1 S hX hbl hw hl (by omega) hL dL_599 dL_600 dL_601 dL_602 dL_603 ?_
  refine sw_Vi (q := 84) (rest := [.int v]) S hw (cMo_take l N hf (xs (i + 1)) m2) kMo_take wmL_81 (is_84 hf).1 (e_Mo (is_84 hf)) rfl rfl rfl rfl hl.1 (Nat.le_of_ble_eq_true rfl) ⟨rfl, rfl, Nat.le_of_ble_eq_true rfl, Nat.le_of_ble_eq_true rfl⟩ ⟨by show cells + 0 + 0 ≤ 600000; omega, by show slots + 0 + 0 ≤ 7302250; omega⟩ dL_604 (fun H2 locs2 hw _ => ?_)
  refine lv_icmp_eq (tgt := 1142) S.1 S.2.1 dL_607 (by decide) (fun _ => ?_) (fun h => absurd rfl h)
  refine W.widen (k := cells + 9) (n := slots + 1068) (by omega) (by omega) ?_
  exact kk ξ g1 μ1 _ _ ⟨hw, hf, hd, hr1, rfl, rfl⟩
set_option maxHeartbeats 1000000 in
theorem wl_16 (C : LC p m c s b L xs i N) (I : LI Γ s ξ g μ H locs a0 a1) (hl : LV ls b a0 a1 i) (hc : cells + 9 ≤ 600000) (hs : slots + 1068 ≤ 7302250) (kk : LK p l e s m below meth c Q Γ b a0 a1 ls cells slots) : W p l e room_1 s m #[Value.ref b] below meth c H locs cells slots Q (F0 m 612 ls []) := by
  obtain ⟨S, hX, hbl, hL, hi, hN⟩ := C
  obtain ⟨hw, hf, hd, hr, rfl, rfl⟩ := I
  obtain ⟨v, g1, μ1, m1, m2, hr1⟩ := pad_CR (N := N) (by omega) hr (xs (i + 1)) (xs (i + 2))
  refine lv_aload_n S.1 S.2.1 dL_612 rfl (lv_at hl 1 rfl) ?_
  refine lw_arg1 S hX hbl hw hl (by omega) hL dL_613 dL_614 dL_615 dL_616 dL_617 ?_
  refine lw_arg2 S hX hbl hw hl (by omega) hL dL_618 dL_619 dL_620 dL_621 dL_622 ?_
  refine sw_Vi (q := 0) (rest := []) S hw (cSx_pad l N hf (xs (i + 1)) (xs (i + 2)) m1) kSx_pad wmL_82 (is_0 hf).1 (e_Sx (is_0 hf)) rfl rfl rfl rfl hl.1 (Nat.le_of_ble_eq_true rfl) ⟨rfl, rfl, Nat.le_of_ble_eq_true rfl, Nat.le_of_ble_eq_true rfl⟩ ⟨by show cells + 0 ≤ 600000; omega, by show slots + 0 ≤ 7302250; omega⟩ dL_623 (fun H1 locs1 hw hf => ?_)
  refine lv_aload_n S.1 S.2.1 dL_626 rfl (lv_at hl 2 rfl) ?_
  refine lw_arg1 S hX hbl hw hl (by omega) hL dL_627 dL_628 dL_629 dL_630 dL_631 ?_
  refine lw_arg2 S hX hbl hw hl (by omega) hL dL_632 dL_633 dL_634 dL_635 dL_636 ?_
  refine sw_Vi (q := 84) (rest := [.int v]) S hw (cMo_pad l N hf (xs (i + 1)) (xs (i + 2)) m2) kMo_pad wmL_85 (is_84 hf).1 (e_Mo (is_84 hf)) rfl rfl rfl rfl hl.1 (Nat.le_of_ble_eq_true rfl) ⟨rfl, rfl, Nat.le_of_ble_eq_true rfl, Nat.le_of_ble_eq_true rfl⟩ ⟨by show cells + 0 + 0 ≤ 600000; omega, by show slots + 0 + 0 ≤ 7302250; omega⟩ dL_637 (fun H2 locs2 hw _ => ?_)
  refine lv_icmp_eq (tgt := 1142) S.1 S.2.1 dL_640 (by decide) (fun _ => ?_) (fun h => absurd rfl h)
  refine W.widen (k := cells + 9) (n := slots + 1068) (by omega) (by omega) ?_
  exact kk ξ g1 μ1 _ _ ⟨hw, hf, hd, hr1, rfl, rfl⟩
set_option maxHeartbeats 1000000 in
theorem wl_17 (C : LC p m c s b L xs i N) (I : LI Γ s ξ g μ H locs a0 a1) (hl : LV ls b a0 a1 i) (hc : cells + 9 ≤ 600000) (hs : slots + 1068 ≤ 7302250) (kk : LK p l e s m below meth c Q Γ b a0 a1 ls cells slots) : W p l e room_1 s m #[Value.ref b] below meth c H locs cells slots Q (F0 m 645 ls []) := by
  obtain ⟨S, hX, hbl, hL, hi, hN⟩ := C
  obtain ⟨hw, hf, hd, hr, rfl, rfl⟩ := I
  obtain ⟨v, g1, μ1, m1, m2, hr1⟩ := pass_CR (N := N) (by omega) hr
  refine lv_aload_n S.1 S.2.1 dL_645 rfl (lv_at hl 1 rfl) ?_
  refine sw_Vi (q := 0) (rest := []) S hw (cSx_pass l N hf  m1) kSx_pass wmL_86 (is_0 hf).1 (e_Sx (is_0 hf)) rfl rfl rfl rfl hl.1 (Nat.le_of_ble_eq_true rfl) ⟨rfl, rfl, Nat.le_of_ble_eq_true rfl, Nat.le_of_ble_eq_true rfl⟩ ⟨by show cells + 0 ≤ 600000; omega, by show slots + 0 ≤ 7302250; omega⟩ dL_646 (fun H1 locs1 hw hf => ?_)
  refine lv_aload_n S.1 S.2.1 dL_649 rfl (lv_at hl 2 rfl) ?_
  refine sw_Vi (q := 84) (rest := [.int v]) S hw (cMo_pass l N hf  m2) kMo_pass wmL_89 (is_84 hf).1 (e_Mo (is_84 hf)) rfl rfl rfl rfl hl.1 (Nat.le_of_ble_eq_true rfl) ⟨rfl, rfl, Nat.le_of_ble_eq_true rfl, Nat.le_of_ble_eq_true rfl⟩ ⟨by show cells + 0 + 0 ≤ 600000; omega, by show slots + 0 + 0 ≤ 7302250; omega⟩ dL_650 (fun H2 locs2 hw _ => ?_)
  refine lv_icmp_eq (tgt := 1142) S.1 S.2.1 dL_653 (by decide) (fun _ => ?_) (fun h => absurd rfl h)
  refine W.widen (k := cells + 9) (n := slots + 1068) (by omega) (by omega) ?_
  exact kk ξ g1 μ1 _ _ ⟨hw, hf, hd, hr1, rfl, rfl⟩
set_option maxHeartbeats 1000000 in
theorem wl_18 (C : LC p m c s b L xs i N) (I : LI Γ s ξ g μ H locs a0 a1) (hl : LV ls b a0 a1 i) (hc : cells + 9 ≤ 600000) (hs : slots + 1068 ≤ 7302250) (kk : LK p l e s m below meth c Q Γ b a0 a1 ls cells slots) : W p l e room_1 s m #[Value.ref b] below meth c H locs cells slots Q (F0 m 658 ls []) := by
  obtain ⟨S, hX, hbl, hL, hi, hN⟩ := C
  obtain ⟨hw, hf, hd, hr, rfl, rfl⟩ := I
  obtain ⟨v, g1, μ1, m1, m2, hr1⟩ := undo_CR (N := N) (by omega) hr
  refine lv_aload_n S.1 S.2.1 dL_658 rfl (lv_at hl 1 rfl) ?_
  refine sw_Vi (q := 0) (rest := []) S hw (cSx_undo l N hf  m1) kSx_undo wmL_90 (is_0 hf).1 (e_Sx (is_0 hf)) rfl rfl rfl rfl hl.1 (Nat.le_of_ble_eq_true rfl) ⟨rfl, rfl, Nat.le_of_ble_eq_true rfl, Nat.le_of_ble_eq_true rfl⟩ ⟨by show cells + 0 ≤ 600000; omega, by show slots + 0 ≤ 7302250; omega⟩ dL_659 (fun H1 locs1 hw hf => ?_)
  refine lv_aload_n S.1 S.2.1 dL_662 rfl (lv_at hl 2 rfl) ?_
  refine sw_Vi (q := 84) (rest := [.int v]) S hw (cMo_undo l N hf  m2) kMo_undo wmL_93 (is_84 hf).1 (e_Mo (is_84 hf)) rfl rfl rfl rfl hl.1 (Nat.le_of_ble_eq_true rfl) ⟨rfl, rfl, Nat.le_of_ble_eq_true rfl, Nat.le_of_ble_eq_true rfl⟩ ⟨by show cells + 0 + 0 ≤ 600000; omega, by show slots + 0 + 0 ≤ 7302250; omega⟩ dL_663 (fun H2 locs2 hw _ => ?_)
  refine lv_icmp_eq (tgt := 1142) S.1 S.2.1 dL_666 (by decide) (fun _ => ?_) (fun h => absurd rfl h)
  refine W.widen (k := cells + 9) (n := slots + 1068) (by omega) (by omega) ?_
  exact kk ξ g1 μ1 _ _ ⟨hw, hf, hd, hr1, rfl, rfl⟩
end
