set_option maxRecDepth 20000 in
set_option maxHeartbeats 4000000 in
theorem e_law_18 {l : Launch} {G : zGT} {T : Option Value × zMem} (h : zOk G l cL_law RL 4 75 600000 7302250 false) (hR : zR G cL_law (some .boolean) T zFull 70 4264) {xs : Nat → Int32} {L9 : Nat} (hs : zSc G cL_law xs L9)  : ∀ (n : Nat) (x5 : Int32) (s6 : zMem), zE G T (fun r : Int32 => some (.int r)) zFull 70 4264 18 [some (.ref 1050), some (.ref 0), some (.ref 47), some (.int x5)] [] s6 (f_law_18 xs L9 n x5 s6) := by
  intro n
  induction n with
  | zero => intro _ _; exact ze_none
  | succ n ih =>
    intro x5 s6
    rw [f_law_18]
    refine ze_iload_n h dL_law_18 rfl ?_
    refine ze_aload_n h dL_law_19 rfl ?_
    refine ze_slen hs dL_law_20 ?_
    refine ze_bipush h 7 dL_law_21 zk_b_7 ?_
    refine ze_isub h dL_law_23 ?_
    refine ze_icmp_gt h 1513 dL_law_24 (by decide) ?_ ?_
    · refine ze_iconst h 1 dL_law_1513 zk_i_1 ?_
      exact ze_zret hR rfl dL_law_1514
    · refine ze_aload_n h dL_law_27 rfl ?_
      refine ze_iload_n h dL_law_28 rfl ?_
      refine ze_sald hs dL_law_29 ?_
      refine ze_bipush h 63 dL_law_30 zk_b_63 ?_
      refine ze_iand h dL_law_32 ?_
      refine ze_nmI (fun x7 => ?_)
      refine ze_case 0 (fun q33_0 => ?_) (fun q33_0 => ?_)
      · refine ze_tabIn h 200 dL_law_33 (by decide) (by decide) rfl (by decide) ?_
        refine ze_aload_n h dL_law_200 rfl ?_
        refine ze_aload_n h dL_law_201 rfl ?_
        refine ze_iload_n h dL_law_202 rfl ?_
        refine ze_iconst h 1 dL_law_203 zk_i_1 ?_
        refine ze_iadd h dL_law_204 ?_
        refine ze_sald hs dL_law_205 ?_
        refine ze_callVi h (st := []) zce_X6_count zi_X6_count zs_X6_count zm_L_13 rfl rfl rfl (Nat.le_of_ble_eq_true rfl) ⟨Nat.le_of_ble_eq_true rfl, Nat.le_of_ble_eq_true rfl⟩ (c_X6_count l  (xs (zix (x5 + 1))) s6) rfl (Nat.le_of_ble_eq_true rfl) rfl dL_law_206 (fun r8 s9 => ?_)
        refine ze_aload_n h dL_law_209 rfl ?_
        refine ze_aload_n h dL_law_210 rfl ?_
        refine ze_iload_n h dL_law_211 rfl ?_
        refine ze_iconst h 1 dL_law_212 zk_i_1 ?_
        refine ze_iadd h dL_law_213 ?_
        refine ze_sald hs dL_law_214 ?_
        refine ze_pc 215 rfl ?_
        refine ze_callVi h (st := [.int r8]) zce_X7_count zi_X7_count zs_X7_count zm_L_17 rfl rfl rfl (Nat.le_of_ble_eq_true rfl) ⟨Nat.le_of_ble_eq_true rfl, Nat.le_of_ble_eq_true rfl⟩ (c_X7_count l  (xs (zix (x5 + 1))) s9) rfl (Nat.le_of_ble_eq_true rfl) rfl dL_law_215 (fun r10 s11 => ?_)
        refine ze_icmp_eq h 1507 dL_law_218 (by decide) ?_ ?_
        · refine ze_iincN h (fun y9 => [some (.ref 1050), some (.ref 0), some (.ref 47), some (.int y9)]) 7 dL_law_1507 rfl zk_i_7 rfl (by decide) (fun _ => rfl) (fun x12 => ?_)
          refine ze_goto h 18 dL_law_1510 (by decide) ?_
          exact ih x12 s11
        · refine ze_iconst h 0 dL_law_221 zk_i_0 ?_
          exact ze_zret hR rfl dL_law_222
      refine ze_case 1 (fun q33_1 => ?_) (fun q33_1 => ?_)
      · refine ze_tabIn h 223 dL_law_33 (by decide) (by decide) rfl (by decide) ?_
        refine ze_aload_n h dL_law_223 rfl ?_
        refine ze_aload_n h dL_law_224 rfl ?_
        refine ze_iload_n h dL_law_225 rfl ?_
        refine ze_iconst h 1 dL_law_226 zk_i_1 ?_
        refine ze_iadd h dL_law_227 ?_
        refine ze_sald hs dL_law_228 ?_
        refine ze_aload_n h dL_law_229 rfl ?_
        refine ze_iload_n h dL_law_230 rfl ?_
        refine ze_iconst h 2 dL_law_231 zk_i_2 ?_
        refine ze_iadd h dL_law_232 ?_
        refine ze_sald hs dL_law_233 ?_
        refine ze_aload_n h dL_law_234 rfl ?_
        refine ze_iload_n h dL_law_235 rfl ?_
        refine ze_pc 236 rfl ?_
        refine ze_iconst h 3 dL_law_236 zk_i_3 ?_
        refine ze_iadd h dL_law_237 ?_
        refine ze_sald hs dL_law_238 ?_
        refine ze_aload_n h dL_law_239 rfl ?_
        refine ze_iload_n h dL_law_240 rfl ?_
        refine ze_iconst h 4 dL_law_241 zk_i_4 ?_
        refine ze_iadd h dL_law_242 ?_
        refine ze_sald hs dL_law_243 ?_
        refine ze_aload_n h dL_law_244 rfl ?_
        refine ze_iload_n h dL_law_245 rfl ?_
        refine ze_iconst h 5 dL_law_246 zk_i_5 ?_
        refine ze_iadd h dL_law_247 ?_
        refine ze_sald hs dL_law_248 ?_
        refine ze_aload_n h dL_law_249 rfl ?_
        refine ze_pc 250 rfl ?_
        refine ze_iload_n h dL_law_250 rfl ?_
        refine ze_bipush h 6 dL_law_251 zk_b_6 ?_
        refine ze_iadd h dL_law_253 ?_
        refine ze_sald hs dL_law_254 ?_
        refine ze_callVi h (st := []) zce_X6_feed zi_X6_feed zs_X6_feed zm_L_18 rfl rfl rfl (Nat.le_of_ble_eq_true rfl) ⟨Nat.le_of_ble_eq_true rfl, Nat.le_of_ble_eq_true rfl⟩ (c_X6_feed l  (xs (zix (x5 + 1))) (xs (zix (x5 + 2))) (xs (zix (x5 + 3))) (xs (zix (x5 + 4))) (xs (zix (x5 + 5))) (xs (zix (x5 + 6))) s6) rfl (Nat.le_of_ble_eq_true rfl) rfl dL_law_255 (fun r13 s14 => ?_)
        refine ze_aload_n h dL_law_258 rfl ?_
        refine ze_aload_n h dL_law_259 rfl ?_
        refine ze_iload_n h dL_law_260 rfl ?_
        refine ze_iconst h 1 dL_law_261 zk_i_1 ?_
        refine ze_iadd h dL_law_262 ?_
        refine ze_sald hs dL_law_263 ?_
        refine ze_aload_n h dL_law_264 rfl ?_
        refine ze_iload_n h dL_law_265 rfl ?_
        refine ze_iconst h 2 dL_law_266 zk_i_2 ?_
        refine ze_pc 267 rfl ?_
        refine ze_iadd h dL_law_267 ?_
        refine ze_sald hs dL_law_268 ?_
        refine ze_aload_n h dL_law_269 rfl ?_
        refine ze_iload_n h dL_law_270 rfl ?_
        refine ze_iconst h 3 dL_law_271 zk_i_3 ?_
        refine ze_iadd h dL_law_272 ?_
        refine ze_sald hs dL_law_273 ?_
        refine ze_aload_n h dL_law_274 rfl ?_
        refine ze_iload_n h dL_law_275 rfl ?_
        refine ze_iconst h 4 dL_law_276 zk_i_4 ?_
        refine ze_iadd h dL_law_277 ?_
        refine ze_sald hs dL_law_278 ?_
        refine ze_aload_n h dL_law_279 rfl ?_
        refine ze_iload_n h dL_law_280 rfl ?_
        refine ze_pc 281 rfl ?_
        refine ze_iconst h 5 dL_law_281 zk_i_5 ?_
        refine ze_iadd h dL_law_282 ?_
        refine ze_sald hs dL_law_283 ?_
        refine ze_aload_n h dL_law_284 rfl ?_
        refine ze_iload_n h dL_law_285 rfl ?_
        refine ze_bipush h 6 dL_law_286 zk_b_6 ?_
        refine ze_iadd h dL_law_288 ?_
        refine ze_sald hs dL_law_289 ?_
        refine ze_callVi h (st := [.int r13]) zce_X7_feed zi_X7_feed zs_X7_feed zm_L_22 rfl rfl rfl (Nat.le_of_ble_eq_true rfl) ⟨Nat.le_of_ble_eq_true rfl, Nat.le_of_ble_eq_true rfl⟩ (c_X7_feed l  (xs (zix (x5 + 1))) (xs (zix (x5 + 2))) (xs (zix (x5 + 3))) (xs (zix (x5 + 4))) (xs (zix (x5 + 5))) (xs (zix (x5 + 6))) s14) rfl (Nat.le_of_ble_eq_true rfl) rfl dL_law_290 (fun r15 s16 => ?_)
        refine ze_icmp_eq h 1507 dL_law_293 (by decide) ?_ ?_
        · refine ze_iincN h (fun y9 => [some (.ref 1050), some (.ref 0), some (.ref 47), some (.int y9)]) 7 dL_law_1507 rfl zk_i_7 rfl (by decide) (fun _ => rfl) (fun x17 => ?_)
          refine ze_goto h 18 dL_law_1510 (by decide) ?_
          exact ih x17 s16
        · refine ze_iconst h 0 dL_law_296 zk_i_0 ?_
          exact ze_zret hR rfl dL_law_297
      refine ze_case 2 (fun q33_2 => ?_) (fun q33_2 => ?_)
      · refine ze_tabIn h 298 dL_law_33 (by decide) (by decide) rfl (by decide) ?_
        refine ze_aload_n h dL_law_298 rfl ?_
        refine ze_callVi h (st := []) zce_X6_text zi_X6_text zs_X6_text zm_L_23 rfl rfl rfl (Nat.le_of_ble_eq_true rfl) ⟨Nat.le_of_ble_eq_true rfl, Nat.le_of_ble_eq_true rfl⟩ (c_X6_text l  s6) rfl (Nat.le_of_ble_eq_true rfl) rfl dL_law_299 (fun r18 s19 => ?_)
        refine ze_aload_n h dL_law_302 rfl ?_
        refine ze_callVi h (st := [.int r18]) zce_X7_text zi_X7_text zs_X7_text zm_L_27 rfl rfl rfl (Nat.le_of_ble_eq_true rfl) ⟨Nat.le_of_ble_eq_true rfl, Nat.le_of_ble_eq_true rfl⟩ (c_X7_text l  s19) rfl (Nat.le_of_ble_eq_true rfl) rfl dL_law_303 (fun r20 s21 => ?_)
        refine ze_icmp_eq h 1507 dL_law_306 (by decide) ?_ ?_
        · refine ze_iincN h (fun y9 => [some (.ref 1050), some (.ref 0), some (.ref 47), some (.int y9)]) 7 dL_law_1507 rfl zk_i_7 rfl (by decide) (fun _ => rfl) (fun x22 => ?_)
          refine ze_goto h 18 dL_law_1510 (by decide) ?_
          exact ih x22 s21
        · refine ze_iconst h 0 dL_law_309 zk_i_0 ?_
          exact ze_zret hR rfl dL_law_310
      refine ze_case 3 (fun q33_3 => ?_) (fun q33_3 => ?_)
      · refine ze_tabIn h 311 dL_law_33 (by decide) (by decide) rfl (by decide) ?_
        refine ze_aload_n h dL_law_311 rfl ?_
        refine ze_aload_n h dL_law_312 rfl ?_
        refine ze_iload_n h dL_law_313 rfl ?_
        refine ze_iconst h 1 dL_law_314 zk_i_1 ?_
        refine ze_iadd h dL_law_315 ?_
        refine ze_sald hs dL_law_316 ?_
        refine ze_callVi h (st := []) zce_X6_force zi_X6_force zs_X6_force zm_L_28 rfl rfl rfl (Nat.le_of_ble_eq_true rfl) ⟨Nat.le_of_ble_eq_true rfl, Nat.le_of_ble_eq_true rfl⟩ (c_X6_force l  (xs (zix (x5 + 1))) s6) rfl (Nat.le_of_ble_eq_true rfl) rfl dL_law_317 (fun r23 s24 => ?_)
        refine ze_aload_n h dL_law_320 rfl ?_
        refine ze_aload_n h dL_law_321 rfl ?_
        refine ze_iload_n h dL_law_322 rfl ?_
        refine ze_iconst h 1 dL_law_323 zk_i_1 ?_
        refine ze_iadd h dL_law_324 ?_
        refine ze_sald hs dL_law_325 ?_
        refine ze_pc 326 rfl ?_
        refine ze_callVi h (st := [.int r23]) zce_X7_force zi_X7_force zs_X7_force zm_L_31 rfl rfl rfl (Nat.le_of_ble_eq_true rfl) ⟨Nat.le_of_ble_eq_true rfl, Nat.le_of_ble_eq_true rfl⟩ (c_X7_force l  (xs (zix (x5 + 1))) s24) rfl (Nat.le_of_ble_eq_true rfl) rfl dL_law_326 (fun r25 s26 => ?_)
        refine ze_icmp_eq h 1507 dL_law_329 (by decide) ?_ ?_
        · refine ze_iincN h (fun y9 => [some (.ref 1050), some (.ref 0), some (.ref 47), some (.int y9)]) 7 dL_law_1507 rfl zk_i_7 rfl (by decide) (fun _ => rfl) (fun x27 => ?_)
          refine ze_goto h 18 dL_law_1510 (by decide) ?_
          exact ih x27 s26
        · refine ze_iconst h 0 dL_law_332 zk_i_0 ?_
          exact ze_zret hR rfl dL_law_333
      refine ze_case 4 (fun q33_4 => ?_) (fun q33_4 => ?_)
      · refine ze_tabIn h 334 dL_law_33 (by decide) (by decide) rfl (by decide) ?_
        refine ze_aload_n h dL_law_334 rfl ?_
        refine ze_aload_n h dL_law_335 rfl ?_
        refine ze_iload_n h dL_law_336 rfl ?_
        refine ze_iconst h 1 dL_law_337 zk_i_1 ?_
        refine ze_iadd h dL_law_338 ?_
        refine ze_sald hs dL_law_339 ?_
        refine ze_aload_n h dL_law_340 rfl ?_
        refine ze_iload_n h dL_law_341 rfl ?_
        refine ze_iconst h 2 dL_law_342 zk_i_2 ?_
        refine ze_iadd h dL_law_343 ?_
        refine ze_sald hs dL_law_344 ?_
        refine ze_aload_n h dL_law_345 rfl ?_
        refine ze_iload_n h dL_law_346 rfl ?_
        refine ze_pc 347 rfl ?_
        refine ze_iconst h 3 dL_law_347 zk_i_3 ?_
        refine ze_iadd h dL_law_348 ?_
        refine ze_sald hs dL_law_349 ?_
        refine ze_callVi h (st := []) zce_X6_asks zi_X6_asks zs_X6_asks zm_L_32 rfl rfl rfl (Nat.le_of_ble_eq_true rfl) ⟨Nat.le_of_ble_eq_true rfl, Nat.le_of_ble_eq_true rfl⟩ (c_X6_asks l  (xs (zix (x5 + 1))) (xs (zix (x5 + 2))) (xs (zix (x5 + 3))) s6) rfl (Nat.le_of_ble_eq_true rfl) rfl dL_law_350 (fun r28 s29 => ?_)
        refine ze_aload_n h dL_law_353 rfl ?_
        refine ze_aload_n h dL_law_354 rfl ?_
        refine ze_iload_n h dL_law_355 rfl ?_
        refine ze_iconst h 1 dL_law_356 zk_i_1 ?_
        refine ze_iadd h dL_law_357 ?_
        refine ze_sald hs dL_law_358 ?_
        refine ze_aload_n h dL_law_359 rfl ?_
        refine ze_iload_n h dL_law_360 rfl ?_
        refine ze_iconst h 2 dL_law_361 zk_i_2 ?_
        refine ze_iadd h dL_law_362 ?_
        refine ze_pc 363 rfl ?_
        refine ze_sald hs dL_law_363 ?_
        refine ze_aload_n h dL_law_364 rfl ?_
        refine ze_iload_n h dL_law_365 rfl ?_
        refine ze_iconst h 3 dL_law_366 zk_i_3 ?_
        refine ze_iadd h dL_law_367 ?_
        refine ze_sald hs dL_law_368 ?_
        refine ze_callVi h (st := [.int r28]) zce_X7_asks zi_X7_asks zs_X7_asks zm_L_36 rfl rfl rfl (Nat.le_of_ble_eq_true rfl) ⟨Nat.le_of_ble_eq_true rfl, Nat.le_of_ble_eq_true rfl⟩ (c_X7_asks l  (xs (zix (x5 + 1))) (xs (zix (x5 + 2))) (xs (zix (x5 + 3))) s29) rfl (Nat.le_of_ble_eq_true rfl) rfl dL_law_369 (fun r30 s31 => ?_)
        refine ze_icmp_eq h 1507 dL_law_372 (by decide) ?_ ?_
        · refine ze_iincN h (fun y9 => [some (.ref 1050), some (.ref 0), some (.ref 47), some (.int y9)]) 7 dL_law_1507 rfl zk_i_7 rfl (by decide) (fun _ => rfl) (fun x32 => ?_)
          refine ze_goto h 18 dL_law_1510 (by decide) ?_
          exact ih x32 s31
        · refine ze_iconst h 0 dL_law_375 zk_i_0 ?_
          exact ze_zret hR rfl dL_law_376
      refine ze_case 5 (fun q33_5 => ?_) (fun q33_5 => ?_)
      · refine ze_tabIn h 377 dL_law_33 (by decide) (by decide) rfl (by decide) ?_
        refine ze_aload_n h dL_law_377 rfl ?_
        refine ze_aload_n h dL_law_378 rfl ?_
        refine ze_iload_n h dL_law_379 rfl ?_
        refine ze_iconst h 1 dL_law_380 zk_i_1 ?_
        refine ze_iadd h dL_law_381 ?_
        refine ze_sald hs dL_law_382 ?_
        refine ze_aload_n h dL_law_383 rfl ?_
        refine ze_iload_n h dL_law_384 rfl ?_
        refine ze_iconst h 2 dL_law_385 zk_i_2 ?_
        refine ze_iadd h dL_law_386 ?_
        refine ze_sald hs dL_law_387 ?_
        refine ze_callVi h (st := []) zce_X6_hut zi_X6_hut zs_X6_hut zm_L_37 rfl rfl rfl (Nat.le_of_ble_eq_true rfl) ⟨Nat.le_of_ble_eq_true rfl, Nat.le_of_ble_eq_true rfl⟩ (c_X6_hut l  (xs (zix (x5 + 1))) (xs (zix (x5 + 2))) s6) rfl (Nat.le_of_ble_eq_true rfl) rfl dL_law_388 (fun r33 s34 => ?_)
        refine ze_aload_n h dL_law_391 rfl ?_
        refine ze_pc 392 rfl ?_
        refine ze_aload_n h dL_law_392 rfl ?_
        refine ze_iload_n h dL_law_393 rfl ?_
        refine ze_iconst h 1 dL_law_394 zk_i_1 ?_
        refine ze_iadd h dL_law_395 ?_
        refine ze_sald hs dL_law_396 ?_
        refine ze_aload_n h dL_law_397 rfl ?_
        refine ze_iload_n h dL_law_398 rfl ?_
        refine ze_iconst h 2 dL_law_399 zk_i_2 ?_
        refine ze_iadd h dL_law_400 ?_
        refine ze_sald hs dL_law_401 ?_
        refine ze_callVi h (st := [.int r33]) zce_X7_hut zi_X7_hut zs_X7_hut zm_L_41 rfl rfl rfl (Nat.le_of_ble_eq_true rfl) ⟨Nat.le_of_ble_eq_true rfl, Nat.le_of_ble_eq_true rfl⟩ (c_X7_hut l  (xs (zix (x5 + 1))) (xs (zix (x5 + 2))) s34) rfl (Nat.le_of_ble_eq_true rfl) rfl dL_law_402 (fun r35 s36 => ?_)
        refine ze_icmp_eq h 1507 dL_law_405 (by decide) ?_ ?_
        · refine ze_iincN h (fun y9 => [some (.ref 1050), some (.ref 0), some (.ref 47), some (.int y9)]) 7 dL_law_1507 rfl zk_i_7 rfl (by decide) (fun _ => rfl) (fun x37 => ?_)
          refine ze_goto h 18 dL_law_1510 (by decide) ?_
          exact ih x37 s36
        · refine ze_iconst h 0 dL_law_408 zk_i_0 ?_
          exact ze_zret hR rfl dL_law_409
      refine ze_case 6 (fun q33_6 => ?_) (fun q33_6 => ?_)
      · refine ze_tabIn h 410 dL_law_33 (by decide) (by decide) rfl (by decide) ?_
        refine ze_aload_n h dL_law_410 rfl ?_
        refine ze_aload_n h dL_law_411 rfl ?_
        refine ze_iload_n h dL_law_412 rfl ?_
        refine ze_iconst h 1 dL_law_413 zk_i_1 ?_
        refine ze_iadd h dL_law_414 ?_
        refine ze_sald hs dL_law_415 ?_
        refine ze_aload_n h dL_law_416 rfl ?_
        refine ze_iload_n h dL_law_417 rfl ?_
        refine ze_iconst h 2 dL_law_418 zk_i_2 ?_
        refine ze_iadd h dL_law_419 ?_
        refine ze_sald hs dL_law_420 ?_
        refine ze_aload_n h dL_law_421 rfl ?_
        refine ze_iload_n h dL_law_422 rfl ?_
        refine ze_pc 423 rfl ?_
        refine ze_iconst h 3 dL_law_423 zk_i_3 ?_
        refine ze_iadd h dL_law_424 ?_
        refine ze_sald hs dL_law_425 ?_
        refine ze_callVi h (st := []) zce_X6_put zi_X6_put zs_X6_put zm_L_42 rfl rfl rfl (Nat.le_of_ble_eq_true rfl) ⟨Nat.le_of_ble_eq_true rfl, Nat.le_of_ble_eq_true rfl⟩ (c_X6_put l  (xs (zix (x5 + 1))) (xs (zix (x5 + 2))) (xs (zix (x5 + 3))) s6) rfl (Nat.le_of_ble_eq_true rfl) rfl dL_law_426 (fun r38 s39 => ?_)
        refine ze_aload_n h dL_law_429 rfl ?_
        refine ze_aload_n h dL_law_430 rfl ?_
        refine ze_iload_n h dL_law_431 rfl ?_
        refine ze_iconst h 1 dL_law_432 zk_i_1 ?_
        refine ze_iadd h dL_law_433 ?_
        refine ze_sald hs dL_law_434 ?_
        refine ze_aload_n h dL_law_435 rfl ?_
        refine ze_iload_n h dL_law_436 rfl ?_
        refine ze_iconst h 2 dL_law_437 zk_i_2 ?_
        refine ze_iadd h dL_law_438 ?_
        refine ze_pc 439 rfl ?_
        refine ze_sald hs dL_law_439 ?_
        refine ze_aload_n h dL_law_440 rfl ?_
        refine ze_iload_n h dL_law_441 rfl ?_
        refine ze_iconst h 3 dL_law_442 zk_i_3 ?_
        refine ze_iadd h dL_law_443 ?_
        refine ze_sald hs dL_law_444 ?_
        refine ze_callVi h (st := [.int r38]) zce_X7_put zi_X7_put zs_X7_put zm_L_45 rfl rfl rfl (Nat.le_of_ble_eq_true rfl) ⟨Nat.le_of_ble_eq_true rfl, Nat.le_of_ble_eq_true rfl⟩ (c_X7_put l  (xs (zix (x5 + 1))) (xs (zix (x5 + 2))) (xs (zix (x5 + 3))) s39) rfl (Nat.le_of_ble_eq_true rfl) rfl dL_law_445 (fun r40 s41 => ?_)
        refine ze_icmp_eq h 1507 dL_law_448 (by decide) ?_ ?_
        · refine ze_iincN h (fun y9 => [some (.ref 1050), some (.ref 0), some (.ref 47), some (.int y9)]) 7 dL_law_1507 rfl zk_i_7 rfl (by decide) (fun _ => rfl) (fun x42 => ?_)
          refine ze_goto h 18 dL_law_1510 (by decide) ?_
          exact ih x42 s41
        · refine ze_iconst h 0 dL_law_451 zk_i_0 ?_
          exact ze_zret hR rfl dL_law_452
      refine ze_case 7 (fun q33_7 => ?_) (fun q33_7 => ?_)
      · refine ze_tabIn h 453 dL_law_33 (by decide) (by decide) rfl (by decide) ?_
        refine ze_aload_n h dL_law_453 rfl ?_
        refine ze_aload_n h dL_law_454 rfl ?_
        refine ze_iload_n h dL_law_455 rfl ?_
        refine ze_iconst h 1 dL_law_456 zk_i_1 ?_
        refine ze_iadd h dL_law_457 ?_
        refine ze_sald hs dL_law_458 ?_
        refine ze_aload_n h dL_law_459 rfl ?_
        refine ze_iload_n h dL_law_460 rfl ?_
        refine ze_iconst h 2 dL_law_461 zk_i_2 ?_
        refine ze_iadd h dL_law_462 ?_
        refine ze_sald hs dL_law_463 ?_
        refine ze_callVi h (st := []) zce_X6_told zi_X6_told zs_X6_told zm_L_46 rfl rfl rfl (Nat.le_of_ble_eq_true rfl) ⟨Nat.le_of_ble_eq_true rfl, Nat.le_of_ble_eq_true rfl⟩ (c_X6_told l  (xs (zix (x5 + 1))) (xs (zix (x5 + 2))) s6) rfl (Nat.le_of_ble_eq_true rfl) rfl dL_law_464 (fun r43 s44 => ?_)
        refine ze_aload_n h dL_law_467 rfl ?_
        refine ze_pc 468 rfl ?_
        refine ze_aload_n h dL_law_468 rfl ?_
        refine ze_iload_n h dL_law_469 rfl ?_
        refine ze_iconst h 1 dL_law_470 zk_i_1 ?_
        refine ze_iadd h dL_law_471 ?_
        refine ze_sald hs dL_law_472 ?_
        refine ze_aload_n h dL_law_473 rfl ?_
        refine ze_iload_n h dL_law_474 rfl ?_
        refine ze_iconst h 2 dL_law_475 zk_i_2 ?_
        refine ze_iadd h dL_law_476 ?_
        refine ze_sald hs dL_law_477 ?_
        refine ze_callVi h (st := [.int r43]) zce_X7_told zi_X7_told zs_X7_told zm_L_49 rfl rfl rfl (Nat.le_of_ble_eq_true rfl) ⟨Nat.le_of_ble_eq_true rfl, Nat.le_of_ble_eq_true rfl⟩ (c_X7_told l  (xs (zix (x5 + 1))) (xs (zix (x5 + 2))) s44) rfl (Nat.le_of_ble_eq_true rfl) rfl dL_law_478 (fun r45 s46 => ?_)
        refine ze_icmp_eq h 1507 dL_law_481 (by decide) ?_ ?_
        · refine ze_iincN h (fun y9 => [some (.ref 1050), some (.ref 0), some (.ref 47), some (.int y9)]) 7 dL_law_1507 rfl zk_i_7 rfl (by decide) (fun _ => rfl) (fun x47 => ?_)
          refine ze_goto h 18 dL_law_1510 (by decide) ?_
          exact ih x47 s46
        · refine ze_iconst h 0 dL_law_484 zk_i_0 ?_
          exact ze_zret hR rfl dL_law_485
      refine ze_case 8 (fun q33_8 => ?_) (fun q33_8 => ?_)
      · refine ze_tabIn h 486 dL_law_33 (by decide) (by decide) rfl (by decide) ?_
        refine ze_aload_n h dL_law_486 rfl ?_
        refine ze_aload_n h dL_law_487 rfl ?_
        refine ze_iload_n h dL_law_488 rfl ?_
        refine ze_iconst h 1 dL_law_489 zk_i_1 ?_
        refine ze_iadd h dL_law_490 ?_
        refine ze_sald hs dL_law_491 ?_
        refine ze_aload_n h dL_law_492 rfl ?_
        refine ze_iload_n h dL_law_493 rfl ?_
        refine ze_iconst h 2 dL_law_494 zk_i_2 ?_
        refine ze_iadd h dL_law_495 ?_
        refine ze_sald hs dL_law_496 ?_
        refine ze_callVi h (st := []) zce_X6_lend zi_X6_lend zs_X6_lend zm_L_50 rfl rfl rfl (Nat.le_of_ble_eq_true rfl) ⟨Nat.le_of_ble_eq_true rfl, Nat.le_of_ble_eq_true rfl⟩ (c_X6_lend l  (xs (zix (x5 + 1))) (xs (zix (x5 + 2))) s6) rfl (Nat.le_of_ble_eq_true rfl) rfl dL_law_497 (fun r48 s49 => ?_)
        refine ze_aload_n h dL_law_500 rfl ?_
        refine ze_pc 501 rfl ?_
        refine ze_aload_n h dL_law_501 rfl ?_
        refine ze_iload_n h dL_law_502 rfl ?_
        refine ze_iconst h 1 dL_law_503 zk_i_1 ?_
        refine ze_iadd h dL_law_504 ?_
        refine ze_sald hs dL_law_505 ?_
        refine ze_aload_n h dL_law_506 rfl ?_
        refine ze_iload_n h dL_law_507 rfl ?_
        refine ze_iconst h 2 dL_law_508 zk_i_2 ?_
        refine ze_iadd h dL_law_509 ?_
        refine ze_sald hs dL_law_510 ?_
        refine ze_callVi h (st := [.int r48]) zce_X7_lend zi_X7_lend zs_X7_lend zm_L_53 rfl rfl rfl (Nat.le_of_ble_eq_true rfl) ⟨Nat.le_of_ble_eq_true rfl, Nat.le_of_ble_eq_true rfl⟩ (c_X7_lend l  (xs (zix (x5 + 1))) (xs (zix (x5 + 2))) s49) rfl (Nat.le_of_ble_eq_true rfl) rfl dL_law_511 (fun r50 s51 => ?_)
        refine ze_icmp_eq h 1507 dL_law_514 (by decide) ?_ ?_
        · refine ze_iincN h (fun y9 => [some (.ref 1050), some (.ref 0), some (.ref 47), some (.int y9)]) 7 dL_law_1507 rfl zk_i_7 rfl (by decide) (fun _ => rfl) (fun x52 => ?_)
          refine ze_goto h 18 dL_law_1510 (by decide) ?_
          exact ih x52 s51
        · refine ze_iconst h 0 dL_law_517 zk_i_0 ?_
          exact ze_zret hR rfl dL_law_518
      refine ze_case 9 (fun q33_9 => ?_) (fun q33_9 => ?_)
      · refine ze_tabIn h 519 dL_law_33 (by decide) (by decide) rfl (by decide) ?_
        refine ze_aload_n h dL_law_519 rfl ?_
        refine ze_aload_n h dL_law_520 rfl ?_
        refine ze_iload_n h dL_law_521 rfl ?_
        refine ze_iconst h 1 dL_law_522 zk_i_1 ?_
        refine ze_iadd h dL_law_523 ?_
        refine ze_sald hs dL_law_524 ?_
        refine ze_aload_n h dL_law_525 rfl ?_
        refine ze_iload_n h dL_law_526 rfl ?_
        refine ze_iconst h 2 dL_law_527 zk_i_2 ?_
        refine ze_iadd h dL_law_528 ?_
        refine ze_sald hs dL_law_529 ?_
        refine ze_callVi h (st := []) zce_X6_loan zi_X6_loan zs_X6_loan zm_L_54 rfl rfl rfl (Nat.le_of_ble_eq_true rfl) ⟨Nat.le_of_ble_eq_true rfl, Nat.le_of_ble_eq_true rfl⟩ (c_X6_loan l  (xs (zix (x5 + 1))) (xs (zix (x5 + 2))) s6) rfl (Nat.le_of_ble_eq_true rfl) rfl dL_law_530 (fun r53 s54 => ?_)
        refine ze_aload_n h dL_law_533 rfl ?_
        refine ze_pc 534 rfl ?_
        refine ze_aload_n h dL_law_534 rfl ?_
        refine ze_iload_n h dL_law_535 rfl ?_
        refine ze_iconst h 1 dL_law_536 zk_i_1 ?_
        refine ze_iadd h dL_law_537 ?_
        refine ze_sald hs dL_law_538 ?_
        refine ze_aload_n h dL_law_539 rfl ?_
        refine ze_iload_n h dL_law_540 rfl ?_
        refine ze_iconst h 2 dL_law_541 zk_i_2 ?_
        refine ze_iadd h dL_law_542 ?_
        refine ze_sald hs dL_law_543 ?_
        refine ze_callVi h (st := [.int r53]) zce_X7_loan zi_X7_loan zs_X7_loan zm_L_57 rfl rfl rfl (Nat.le_of_ble_eq_true rfl) ⟨Nat.le_of_ble_eq_true rfl, Nat.le_of_ble_eq_true rfl⟩ (c_X7_loan l  (xs (zix (x5 + 1))) (xs (zix (x5 + 2))) s54) rfl (Nat.le_of_ble_eq_true rfl) rfl dL_law_544 (fun r55 s56 => ?_)
        refine ze_icmp_eq h 1507 dL_law_547 (by decide) ?_ ?_
        · refine ze_iincN h (fun y9 => [some (.ref 1050), some (.ref 0), some (.ref 47), some (.int y9)]) 7 dL_law_1507 rfl zk_i_7 rfl (by decide) (fun _ => rfl) (fun x57 => ?_)
          refine ze_goto h 18 dL_law_1510 (by decide) ?_
          exact ih x57 s56
        · refine ze_iconst h 0 dL_law_550 zk_i_0 ?_
          exact ze_zret hR rfl dL_law_551
      refine ze_case 10 (fun q33_10 => ?_) (fun q33_10 => ?_)
      · refine ze_tabIn h 552 dL_law_33 (by decide) (by decide) rfl (by decide) ?_
        refine ze_aload_n h dL_law_552 rfl ?_
        refine ze_aload_n h dL_law_553 rfl ?_
        refine ze_iload_n h dL_law_554 rfl ?_
        refine ze_iconst h 1 dL_law_555 zk_i_1 ?_
        refine ze_iadd h dL_law_556 ?_
        refine ze_sald hs dL_law_557 ?_
        refine ze_callVi h (st := []) zce_X6_repay zi_X6_repay zs_X6_repay zm_L_58 rfl rfl rfl (Nat.le_of_ble_eq_true rfl) ⟨Nat.le_of_ble_eq_true rfl, Nat.le_of_ble_eq_true rfl⟩ (c_X6_repay l  (xs (zix (x5 + 1))) s6) rfl (Nat.le_of_ble_eq_true rfl) rfl dL_law_558 (fun r58 s59 => ?_)
        refine ze_aload_n h dL_law_561 rfl ?_
        refine ze_aload_n h dL_law_562 rfl ?_
        refine ze_iload_n h dL_law_563 rfl ?_
        refine ze_iconst h 1 dL_law_564 zk_i_1 ?_
        refine ze_iadd h dL_law_565 ?_
        refine ze_sald hs dL_law_566 ?_
        refine ze_pc 567 rfl ?_
        refine ze_callVi h (st := [.int r58]) zce_X7_repay zi_X7_repay zs_X7_repay zm_L_61 rfl rfl rfl (Nat.le_of_ble_eq_true rfl) ⟨Nat.le_of_ble_eq_true rfl, Nat.le_of_ble_eq_true rfl⟩ (c_X7_repay l  (xs (zix (x5 + 1))) s59) rfl (Nat.le_of_ble_eq_true rfl) rfl dL_law_567 (fun r60 s61 => ?_)
        refine ze_icmp_eq h 1507 dL_law_570 (by decide) ?_ ?_
        · refine ze_iincN h (fun y9 => [some (.ref 1050), some (.ref 0), some (.ref 47), some (.int y9)]) 7 dL_law_1507 rfl zk_i_7 rfl (by decide) (fun _ => rfl) (fun x62 => ?_)
          refine ze_goto h 18 dL_law_1510 (by decide) ?_
          exact ih x62 s61
        · refine ze_iconst h 0 dL_law_573 zk_i_0 ?_
          exact ze_zret hR rfl dL_law_574
      refine ze_case 11 (fun q33_11 => ?_) (fun q33_11 => ?_)
      · refine ze_tabIn h 575 dL_law_33 (by decide) (by decide) rfl (by decide) ?_
        refine ze_aload_n h dL_law_575 rfl ?_
        refine ze_aload_n h dL_law_576 rfl ?_
        refine ze_iload_n h dL_law_577 rfl ?_
        refine ze_iconst h 1 dL_law_578 zk_i_1 ?_
        refine ze_iadd h dL_law_579 ?_
        refine ze_sald hs dL_law_580 ?_
        refine ze_callVi h (st := []) zce_X6_forgive zi_X6_forgive zs_X6_forgive zm_L_62 rfl rfl rfl (Nat.le_of_ble_eq_true rfl) ⟨Nat.le_of_ble_eq_true rfl, Nat.le_of_ble_eq_true rfl⟩ (c_X6_forgive l  (xs (zix (x5 + 1))) s6) rfl (Nat.le_of_ble_eq_true rfl) rfl dL_law_581 (fun r63 s64 => ?_)
        refine ze_aload_n h dL_law_584 rfl ?_
        refine ze_aload_n h dL_law_585 rfl ?_
        refine ze_iload_n h dL_law_586 rfl ?_
        refine ze_iconst h 1 dL_law_587 zk_i_1 ?_
        refine ze_iadd h dL_law_588 ?_
        refine ze_sald hs dL_law_589 ?_
        refine ze_pc 590 rfl ?_
        refine ze_callVi h (st := [.int r63]) zce_X7_forgive zi_X7_forgive zs_X7_forgive zm_L_65 rfl rfl rfl (Nat.le_of_ble_eq_true rfl) ⟨Nat.le_of_ble_eq_true rfl, Nat.le_of_ble_eq_true rfl⟩ (c_X7_forgive l  (xs (zix (x5 + 1))) s64) rfl (Nat.le_of_ble_eq_true rfl) rfl dL_law_590 (fun r65 s66 => ?_)
        refine ze_icmp_eq h 1507 dL_law_593 (by decide) ?_ ?_
        · refine ze_iincN h (fun y9 => [some (.ref 1050), some (.ref 0), some (.ref 47), some (.int y9)]) 7 dL_law_1507 rfl zk_i_7 rfl (by decide) (fun _ => rfl) (fun x67 => ?_)
          refine ze_goto h 18 dL_law_1510 (by decide) ?_
          exact ih x67 s66
        · refine ze_iconst h 0 dL_law_596 zk_i_0 ?_
          exact ze_zret hR rfl dL_law_597
      refine ze_case 12 (fun q33_12 => ?_) (fun q33_12 => ?_)
      · refine ze_tabIn h 598 dL_law_33 (by decide) (by decide) rfl (by decide) ?_
        refine ze_aload_n h dL_law_598 rfl ?_
        refine ze_callVi h (st := []) zce_X6_night zi_X6_night zs_X6_night zm_L_66 rfl rfl rfl (Nat.le_of_ble_eq_true rfl) ⟨Nat.le_of_ble_eq_true rfl, Nat.le_of_ble_eq_true rfl⟩ (c_X6_night l  s6) rfl (Nat.le_of_ble_eq_true rfl) rfl dL_law_599 (fun r68 s69 => ?_)
        refine ze_aload_n h dL_law_602 rfl ?_
        refine ze_callVi h (st := [.int r68]) zce_X7_night zi_X7_night zs_X7_night zm_L_69 rfl rfl rfl (Nat.le_of_ble_eq_true rfl) ⟨Nat.le_of_ble_eq_true rfl, Nat.le_of_ble_eq_true rfl⟩ (c_X7_night l  s69) rfl (Nat.le_of_ble_eq_true rfl) rfl dL_law_603 (fun r70 s71 => ?_)
        refine ze_icmp_eq h 1507 dL_law_606 (by decide) ?_ ?_
        · refine ze_iincN h (fun y9 => [some (.ref 1050), some (.ref 0), some (.ref 47), some (.int y9)]) 7 dL_law_1507 rfl zk_i_7 rfl (by decide) (fun _ => rfl) (fun x72 => ?_)
          refine ze_goto h 18 dL_law_1510 (by decide) ?_
          exact ih x72 s71
        · refine ze_iconst h 0 dL_law_609 zk_i_0 ?_
          exact ze_zret hR rfl dL_law_610
      refine ze_case 13 (fun q33_13 => ?_) (fun q33_13 => ?_)
      · refine ze_tabIn h 611 dL_law_33 (by decide) (by decide) rfl (by decide) ?_
        refine ze_aload_n h dL_law_611 rfl ?_
        refine ze_aload_n h dL_law_612 rfl ?_
        refine ze_iload_n h dL_law_613 rfl ?_
        refine ze_iconst h 1 dL_law_614 zk_i_1 ?_
        refine ze_iadd h dL_law_615 ?_
        refine ze_sald hs dL_law_616 ?_
        refine ze_aload_n h dL_law_617 rfl ?_
        refine ze_iload_n h dL_law_618 rfl ?_
        refine ze_iconst h 2 dL_law_619 zk_i_2 ?_
        refine ze_iadd h dL_law_620 ?_
        refine ze_sald hs dL_law_621 ?_
        refine ze_callVi h (st := []) zce_X6_run zi_X6_run zs_X6_run zm_L_70 rfl rfl rfl (Nat.le_of_ble_eq_true rfl) ⟨Nat.le_of_ble_eq_true rfl, Nat.le_of_ble_eq_true rfl⟩ (c_X6_run l  (xs (zix (x5 + 1))) (xs (zix (x5 + 2))) s6) rfl (Nat.le_of_ble_eq_true rfl) rfl dL_law_622 (fun r73 s74 => ?_)
        refine ze_aload_n h dL_law_625 rfl ?_
        refine ze_pc 626 rfl ?_
        refine ze_aload_n h dL_law_626 rfl ?_
        refine ze_iload_n h dL_law_627 rfl ?_
        refine ze_iconst h 1 dL_law_628 zk_i_1 ?_
        refine ze_iadd h dL_law_629 ?_
        refine ze_sald hs dL_law_630 ?_
        refine ze_aload_n h dL_law_631 rfl ?_
        refine ze_iload_n h dL_law_632 rfl ?_
        refine ze_iconst h 2 dL_law_633 zk_i_2 ?_
        refine ze_iadd h dL_law_634 ?_
        refine ze_sald hs dL_law_635 ?_
        refine ze_callVi h (st := [.int r73]) zce_X7_run zi_X7_run zs_X7_run zm_L_73 rfl rfl rfl (Nat.le_of_ble_eq_true rfl) ⟨Nat.le_of_ble_eq_true rfl, Nat.le_of_ble_eq_true rfl⟩ (c_X7_run l  (xs (zix (x5 + 1))) (xs (zix (x5 + 2))) s74) rfl (Nat.le_of_ble_eq_true rfl) rfl dL_law_636 (fun r75 s76 => ?_)
        refine ze_icmp_eq h 1507 dL_law_639 (by decide) ?_ ?_
        · refine ze_iincN h (fun y9 => [some (.ref 1050), some (.ref 0), some (.ref 47), some (.int y9)]) 7 dL_law_1507 rfl zk_i_7 rfl (by decide) (fun _ => rfl) (fun x77 => ?_)
          refine ze_goto h 18 dL_law_1510 (by decide) ?_
          exact ih x77 s76
        · refine ze_iconst h 0 dL_law_642 zk_i_0 ?_
          exact ze_zret hR rfl dL_law_643
      refine ze_case 14 (fun q33_14 => ?_) (fun q33_14 => ?_)
      · refine ze_tabIn h 644 dL_law_33 (by decide) (by decide) rfl (by decide) ?_
        refine ze_aload_n h dL_law_644 rfl ?_
        refine ze_aload_n h dL_law_645 rfl ?_
        refine ze_iload_n h dL_law_646 rfl ?_
        refine ze_iconst h 1 dL_law_647 zk_i_1 ?_
        refine ze_iadd h dL_law_648 ?_
        refine ze_sald hs dL_law_649 ?_
        refine ze_aload_n h dL_law_650 rfl ?_
        refine ze_iload_n h dL_law_651 rfl ?_
        refine ze_iconst h 2 dL_law_652 zk_i_2 ?_
        refine ze_iadd h dL_law_653 ?_
        refine ze_sald hs dL_law_654 ?_
        refine ze_callVi h (st := []) zce_X6_lasts zi_X6_lasts zs_X6_lasts zm_L_74 rfl rfl rfl (Nat.le_of_ble_eq_true rfl) ⟨Nat.le_of_ble_eq_true rfl, Nat.le_of_ble_eq_true rfl⟩ (c_X6_lasts l  (xs (zix (x5 + 1))) (xs (zix (x5 + 2))) s6) rfl (Nat.le_of_ble_eq_true rfl) rfl dL_law_655 (fun r78 s79 => ?_)
        refine ze_aload_n h dL_law_658 rfl ?_
        refine ze_pc 659 rfl ?_
        refine ze_aload_n h dL_law_659 rfl ?_
        refine ze_iload_n h dL_law_660 rfl ?_
        refine ze_iconst h 1 dL_law_661 zk_i_1 ?_
        refine ze_iadd h dL_law_662 ?_
        refine ze_sald hs dL_law_663 ?_
        refine ze_aload_n h dL_law_664 rfl ?_
        refine ze_iload_n h dL_law_665 rfl ?_
        refine ze_iconst h 2 dL_law_666 zk_i_2 ?_
        refine ze_iadd h dL_law_667 ?_
        refine ze_sald hs dL_law_668 ?_
        refine ze_callVi h (st := [.int r78]) zce_X7_lasts zi_X7_lasts zs_X7_lasts zm_L_77 rfl rfl rfl (Nat.le_of_ble_eq_true rfl) ⟨Nat.le_of_ble_eq_true rfl, Nat.le_of_ble_eq_true rfl⟩ (c_X7_lasts l  (xs (zix (x5 + 1))) (xs (zix (x5 + 2))) s79) rfl (Nat.le_of_ble_eq_true rfl) rfl dL_law_669 (fun r80 s81 => ?_)
        refine ze_icmp_eq h 1507 dL_law_672 (by decide) ?_ ?_
        · refine ze_iincN h (fun y9 => [some (.ref 1050), some (.ref 0), some (.ref 47), some (.int y9)]) 7 dL_law_1507 rfl zk_i_7 rfl (by decide) (fun _ => rfl) (fun x82 => ?_)
          refine ze_goto h 18 dL_law_1510 (by decide) ?_
          exact ih x82 s81
        · refine ze_iconst h 0 dL_law_675 zk_i_0 ?_
          exact ze_zret hR rfl dL_law_676
      refine ze_case 15 (fun q33_15 => ?_) (fun q33_15 => ?_)
      · refine ze_tabIn h 677 dL_law_33 (by decide) (by decide) rfl (by decide) ?_
        refine ze_aload_n h dL_law_677 rfl ?_
        refine ze_aload_n h dL_law_678 rfl ?_
        refine ze_iload_n h dL_law_679 rfl ?_
        refine ze_iconst h 1 dL_law_680 zk_i_1 ?_
        refine ze_iadd h dL_law_681 ?_
        refine ze_sald hs dL_law_682 ?_
        refine ze_callVi h (st := []) zce_X6_net zi_X6_net zs_X6_net zm_L_78 rfl rfl rfl (Nat.le_of_ble_eq_true rfl) ⟨Nat.le_of_ble_eq_true rfl, Nat.le_of_ble_eq_true rfl⟩ (c_X6_net l  (xs (zix (x5 + 1))) s6) rfl (Nat.le_of_ble_eq_true rfl) rfl dL_law_683 (fun r83 s84 => ?_)
        refine ze_aload_n h dL_law_686 rfl ?_
        refine ze_aload_n h dL_law_687 rfl ?_
        refine ze_iload_n h dL_law_688 rfl ?_
        refine ze_iconst h 1 dL_law_689 zk_i_1 ?_
        refine ze_iadd h dL_law_690 ?_
        refine ze_sald hs dL_law_691 ?_
        refine ze_pc 692 rfl ?_
        refine ze_callVi h (st := [.int r83]) zce_X7_net zi_X7_net zs_X7_net zm_L_81 rfl rfl rfl (Nat.le_of_ble_eq_true rfl) ⟨Nat.le_of_ble_eq_true rfl, Nat.le_of_ble_eq_true rfl⟩ (c_X7_net l  (xs (zix (x5 + 1))) s84) rfl (Nat.le_of_ble_eq_true rfl) rfl dL_law_692 (fun r85 s86 => ?_)
        refine ze_icmp_eq h 1507 dL_law_695 (by decide) ?_ ?_
        · refine ze_iincN h (fun y9 => [some (.ref 1050), some (.ref 0), some (.ref 47), some (.int y9)]) 7 dL_law_1507 rfl zk_i_7 rfl (by decide) (fun _ => rfl) (fun x87 => ?_)
          refine ze_goto h 18 dL_law_1510 (by decide) ?_
          exact ih x87 s86
        · refine ze_iconst h 0 dL_law_698 zk_i_0 ?_
          exact ze_zret hR rfl dL_law_699
      refine ze_case 16 (fun q33_16 => ?_) (fun q33_16 => ?_)
      · refine ze_tabIn h 700 dL_law_33 (by decide) (by decide) rfl (by decide) ?_
        refine ze_aload_n h dL_law_700 rfl ?_
        refine ze_aload_n h dL_law_701 rfl ?_
        refine ze_iload_n h dL_law_702 rfl ?_
        refine ze_iconst h 1 dL_law_703 zk_i_1 ?_
        refine ze_iadd h dL_law_704 ?_
        refine ze_sald hs dL_law_705 ?_
        refine ze_callVi h (st := []) zce_X6_settle zi_X6_settle zs_X6_settle zm_L_82 rfl rfl rfl (Nat.le_of_ble_eq_true rfl) ⟨Nat.le_of_ble_eq_true rfl, Nat.le_of_ble_eq_true rfl⟩ (c_X6_settle l  (xs (zix (x5 + 1))) s6) rfl (Nat.le_of_ble_eq_true rfl) rfl dL_law_706 (fun r88 s89 => ?_)
        refine ze_aload_n h dL_law_709 rfl ?_
        refine ze_aload_n h dL_law_710 rfl ?_
        refine ze_iload_n h dL_law_711 rfl ?_
        refine ze_iconst h 1 dL_law_712 zk_i_1 ?_
        refine ze_iadd h dL_law_713 ?_
        refine ze_sald hs dL_law_714 ?_
        refine ze_pc 715 rfl ?_
        refine ze_callVi h (st := [.int r88]) zce_X7_settle zi_X7_settle zs_X7_settle zm_L_85 rfl rfl rfl (Nat.le_of_ble_eq_true rfl) ⟨Nat.le_of_ble_eq_true rfl, Nat.le_of_ble_eq_true rfl⟩ (c_X7_settle l  (xs (zix (x5 + 1))) s89) rfl (Nat.le_of_ble_eq_true rfl) rfl dL_law_715 (fun r90 s91 => ?_)
        refine ze_icmp_eq h 1507 dL_law_718 (by decide) ?_ ?_
        · refine ze_iincN h (fun y9 => [some (.ref 1050), some (.ref 0), some (.ref 47), some (.int y9)]) 7 dL_law_1507 rfl zk_i_7 rfl (by decide) (fun _ => rfl) (fun x92 => ?_)
          refine ze_goto h 18 dL_law_1510 (by decide) ?_
          exact ih x92 s91
        · refine ze_iconst h 0 dL_law_721 zk_i_0 ?_
          exact ze_zret hR rfl dL_law_722
      refine ze_case 17 (fun q33_17 => ?_) (fun q33_17 => ?_)
      · refine ze_tabIn h 723 dL_law_33 (by decide) (by decide) rfl (by decide) ?_
        refine ze_aload_n h dL_law_723 rfl ?_
        refine ze_aload_n h dL_law_724 rfl ?_
        refine ze_iload_n h dL_law_725 rfl ?_
        refine ze_iconst h 1 dL_law_726 zk_i_1 ?_
        refine ze_iadd h dL_law_727 ?_
        refine ze_sald hs dL_law_728 ?_
        refine ze_callVi h (st := []) zce_X6_source zi_X6_source zs_X6_source zm_L_86 rfl rfl rfl (Nat.le_of_ble_eq_true rfl) ⟨Nat.le_of_ble_eq_true rfl, Nat.le_of_ble_eq_true rfl⟩ (c_X6_source l  (xs (zix (x5 + 1))) s6) rfl (Nat.le_of_ble_eq_true rfl) rfl dL_law_729 (fun r93 s94 => ?_)
        refine ze_aload_n h dL_law_732 rfl ?_
        refine ze_aload_n h dL_law_733 rfl ?_
        refine ze_iload_n h dL_law_734 rfl ?_
        refine ze_iconst h 1 dL_law_735 zk_i_1 ?_
        refine ze_iadd h dL_law_736 ?_
        refine ze_sald hs dL_law_737 ?_
        refine ze_pc 738 rfl ?_
        refine ze_callVi h (st := [.int r93]) zce_X7_source zi_X7_source zs_X7_source zm_L_89 rfl rfl rfl (Nat.le_of_ble_eq_true rfl) ⟨Nat.le_of_ble_eq_true rfl, Nat.le_of_ble_eq_true rfl⟩ (c_X7_source l  (xs (zix (x5 + 1))) s94) rfl (Nat.le_of_ble_eq_true rfl) rfl dL_law_738 (fun r95 s96 => ?_)
        refine ze_icmp_eq h 1507 dL_law_741 (by decide) ?_ ?_
        · refine ze_iincN h (fun y9 => [some (.ref 1050), some (.ref 0), some (.ref 47), some (.int y9)]) 7 dL_law_1507 rfl zk_i_7 rfl (by decide) (fun _ => rfl) (fun x97 => ?_)
          refine ze_goto h 18 dL_law_1510 (by decide) ?_
          exact ih x97 s96
        · refine ze_iconst h 0 dL_law_744 zk_i_0 ?_
          exact ze_zret hR rfl dL_law_745
      refine ze_case 18 (fun q33_18 => ?_) (fun q33_18 => ?_)
      · refine ze_tabIn h 746 dL_law_33 (by decide) (by decide) rfl (by decide) ?_
        refine ze_aload_n h dL_law_746 rfl ?_
        refine ze_aload_n h dL_law_747 rfl ?_
        refine ze_iload_n h dL_law_748 rfl ?_
        refine ze_iconst h 1 dL_law_749 zk_i_1 ?_
        refine ze_iadd h dL_law_750 ?_
        refine ze_sald hs dL_law_751 ?_
        refine ze_callVi h (st := []) zce_X6_rings zi_X6_rings zs_X6_rings zm_L_90 rfl rfl rfl (Nat.le_of_ble_eq_true rfl) ⟨Nat.le_of_ble_eq_true rfl, Nat.le_of_ble_eq_true rfl⟩ (c_X6_rings l  (xs (zix (x5 + 1))) s6) rfl (Nat.le_of_ble_eq_true rfl) rfl dL_law_752 (fun r98 s99 => ?_)
        refine ze_aload_n h dL_law_755 rfl ?_
        refine ze_aload_n h dL_law_756 rfl ?_
        refine ze_iload_n h dL_law_757 rfl ?_
        refine ze_iconst h 1 dL_law_758 zk_i_1 ?_
        refine ze_iadd h dL_law_759 ?_
        refine ze_sald hs dL_law_760 ?_
        refine ze_pc 761 rfl ?_
        refine ze_callVi h (st := [.int r98]) zce_X7_rings zi_X7_rings zs_X7_rings zm_L_93 rfl rfl rfl (Nat.le_of_ble_eq_true rfl) ⟨Nat.le_of_ble_eq_true rfl, Nat.le_of_ble_eq_true rfl⟩ (c_X7_rings l  (xs (zix (x5 + 1))) s99) rfl (Nat.le_of_ble_eq_true rfl) rfl dL_law_761 (fun r100 s101 => ?_)
        refine ze_icmp_eq h 1507 dL_law_764 (by decide) ?_ ?_
        · refine ze_iincN h (fun y9 => [some (.ref 1050), some (.ref 0), some (.ref 47), some (.int y9)]) 7 dL_law_1507 rfl zk_i_7 rfl (by decide) (fun _ => rfl) (fun x102 => ?_)
          refine ze_goto h 18 dL_law_1510 (by decide) ?_
          exact ih x102 s101
        · refine ze_iconst h 0 dL_law_767 zk_i_0 ?_
          exact ze_zret hR rfl dL_law_768
      refine ze_case 19 (fun q33_19 => ?_) (fun q33_19 => ?_)
      · refine ze_tabIn h 769 dL_law_33 (by decide) (by decide) rfl (by decide) ?_
        refine ze_aload_n h dL_law_769 rfl ?_
        refine ze_aload_n h dL_law_770 rfl ?_
        refine ze_iload_n h dL_law_771 rfl ?_
        refine ze_iconst h 1 dL_law_772 zk_i_1 ?_
        refine ze_iadd h dL_law_773 ?_
        refine ze_sald hs dL_law_774 ?_
        refine ze_aload_n h dL_law_775 rfl ?_
        refine ze_iload_n h dL_law_776 rfl ?_
        refine ze_iconst h 2 dL_law_777 zk_i_2 ?_
        refine ze_iadd h dL_law_778 ?_
        refine ze_sald hs dL_law_779 ?_
        refine ze_aload_n h dL_law_780 rfl ?_
        refine ze_iload_n h dL_law_781 rfl ?_
        refine ze_pc 782 rfl ?_
        refine ze_iconst h 3 dL_law_782 zk_i_3 ?_
        refine ze_iadd h dL_law_783 ?_
        refine ze_sald hs dL_law_784 ?_
        refine ze_callVi h (st := []) zce_X6_ask zi_X6_ask zs_X6_ask zm_L_94 rfl rfl rfl (Nat.le_of_ble_eq_true rfl) ⟨Nat.le_of_ble_eq_true rfl, Nat.le_of_ble_eq_true rfl⟩ (c_X6_ask l  (xs (zix (x5 + 1))) (xs (zix (x5 + 2))) (xs (zix (x5 + 3))) s6) rfl (Nat.le_of_ble_eq_true rfl) rfl dL_law_785 (fun r103 s104 => ?_)
        refine ze_aload_n h dL_law_788 rfl ?_
        refine ze_aload_n h dL_law_789 rfl ?_
        refine ze_iload_n h dL_law_790 rfl ?_
        refine ze_iconst h 1 dL_law_791 zk_i_1 ?_
        refine ze_iadd h dL_law_792 ?_
        refine ze_sald hs dL_law_793 ?_
        refine ze_aload_n h dL_law_794 rfl ?_
        refine ze_iload_n h dL_law_795 rfl ?_
        refine ze_iconst h 2 dL_law_796 zk_i_2 ?_
        refine ze_iadd h dL_law_797 ?_
        refine ze_pc 798 rfl ?_
        refine ze_sald hs dL_law_798 ?_
        refine ze_aload_n h dL_law_799 rfl ?_
        refine ze_iload_n h dL_law_800 rfl ?_
        refine ze_iconst h 3 dL_law_801 zk_i_3 ?_
        refine ze_iadd h dL_law_802 ?_
        refine ze_sald hs dL_law_803 ?_
        refine ze_callVi h (st := [.int r103]) zce_X7_ask zi_X7_ask zs_X7_ask zm_L_97 rfl rfl rfl (Nat.le_of_ble_eq_true rfl) ⟨Nat.le_of_ble_eq_true rfl, Nat.le_of_ble_eq_true rfl⟩ (c_X7_ask l  (xs (zix (x5 + 1))) (xs (zix (x5 + 2))) (xs (zix (x5 + 3))) s104) rfl (Nat.le_of_ble_eq_true rfl) rfl dL_law_804 (fun r105 s106 => ?_)
        refine ze_icmp_eq h 1507 dL_law_807 (by decide) ?_ ?_
        · refine ze_iincN h (fun y9 => [some (.ref 1050), some (.ref 0), some (.ref 47), some (.int y9)]) 7 dL_law_1507 rfl zk_i_7 rfl (by decide) (fun _ => rfl) (fun x107 => ?_)
          refine ze_goto h 18 dL_law_1510 (by decide) ?_
          exact ih x107 s106
        · refine ze_iconst h 0 dL_law_810 zk_i_0 ?_
          exact ze_zret hR rfl dL_law_811
      refine ze_case 20 (fun q33_20 => ?_) (fun q33_20 => ?_)
      · refine ze_tabIn h 812 dL_law_33 (by decide) (by decide) rfl (by decide) ?_
        refine ze_aload_n h dL_law_812 rfl ?_
        refine ze_aload_n h dL_law_813 rfl ?_
        refine ze_iload_n h dL_law_814 rfl ?_
        refine ze_iconst h 1 dL_law_815 zk_i_1 ?_
        refine ze_iadd h dL_law_816 ?_
        refine ze_sald hs dL_law_817 ?_
        refine ze_aload_n h dL_law_818 rfl ?_
        refine ze_iload_n h dL_law_819 rfl ?_
        refine ze_iconst h 2 dL_law_820 zk_i_2 ?_
        refine ze_iadd h dL_law_821 ?_
        refine ze_sald hs dL_law_822 ?_
        refine ze_callVi h (st := []) zce_X6_needs zi_X6_needs zs_X6_needs zm_L_98 rfl rfl rfl (Nat.le_of_ble_eq_true rfl) ⟨Nat.le_of_ble_eq_true rfl, Nat.le_of_ble_eq_true rfl⟩ (c_X6_needs l  (xs (zix (x5 + 1))) (xs (zix (x5 + 2))) s6) rfl (Nat.le_of_ble_eq_true rfl) rfl dL_law_823 (fun r108 s109 => ?_)
        refine ze_aload_n h dL_law_826 rfl ?_
        refine ze_pc 827 rfl ?_
        refine ze_aload_n h dL_law_827 rfl ?_
        refine ze_iload_n h dL_law_828 rfl ?_
        refine ze_iconst h 1 dL_law_829 zk_i_1 ?_
        refine ze_iadd h dL_law_830 ?_
        refine ze_sald hs dL_law_831 ?_
        refine ze_aload_n h dL_law_832 rfl ?_
        refine ze_iload_n h dL_law_833 rfl ?_
        refine ze_iconst h 2 dL_law_834 zk_i_2 ?_
        refine ze_iadd h dL_law_835 ?_
        refine ze_sald hs dL_law_836 ?_
        refine ze_callVi h (st := [.int r108]) zce_X7_needs zi_X7_needs zs_X7_needs zm_L_101 rfl rfl rfl (Nat.le_of_ble_eq_true rfl) ⟨Nat.le_of_ble_eq_true rfl, Nat.le_of_ble_eq_true rfl⟩ (c_X7_needs l  (xs (zix (x5 + 1))) (xs (zix (x5 + 2))) s109) rfl (Nat.le_of_ble_eq_true rfl) rfl dL_law_837 (fun r110 s111 => ?_)
        refine ze_icmp_eq h 1507 dL_law_840 (by decide) ?_ ?_
        · refine ze_iincN h (fun y9 => [some (.ref 1050), some (.ref 0), some (.ref 47), some (.int y9)]) 7 dL_law_1507 rfl zk_i_7 rfl (by decide) (fun _ => rfl) (fun x112 => ?_)
          refine ze_goto h 18 dL_law_1510 (by decide) ?_
          exact ih x112 s111
        · refine ze_iconst h 0 dL_law_843 zk_i_0 ?_
          exact ze_zret hR rfl dL_law_844
      refine ze_case 21 (fun q33_21 => ?_) (fun q33_21 => ?_)
      · refine ze_tabIn h 845 dL_law_33 (by decide) (by decide) rfl (by decide) ?_
        refine ze_aload_n h dL_law_845 rfl ?_
        refine ze_aload_n h dL_law_846 rfl ?_
        refine ze_iload_n h dL_law_847 rfl ?_
        refine ze_iconst h 1 dL_law_848 zk_i_1 ?_
        refine ze_iadd h dL_law_849 ?_
        refine ze_sald hs dL_law_850 ?_
        refine ze_aload_n h dL_law_851 rfl ?_
        refine ze_iload_n h dL_law_852 rfl ?_
        refine ze_iconst h 2 dL_law_853 zk_i_2 ?_
        refine ze_iadd h dL_law_854 ?_
        refine ze_sald hs dL_law_855 ?_
        refine ze_callVi h (st := []) zce_X6_mercy zi_X6_mercy zs_X6_mercy zm_L_102 rfl rfl rfl (Nat.le_of_ble_eq_true rfl) ⟨Nat.le_of_ble_eq_true rfl, Nat.le_of_ble_eq_true rfl⟩ (c_X6_mercy l  (xs (zix (x5 + 1))) (xs (zix (x5 + 2))) s6) rfl (Nat.le_of_ble_eq_true rfl) rfl dL_law_856 (fun r113 s114 => ?_)
        refine ze_aload_n h dL_law_859 rfl ?_
        refine ze_pc 860 rfl ?_
        refine ze_aload_n h dL_law_860 rfl ?_
        refine ze_iload_n h dL_law_861 rfl ?_
        refine ze_iconst h 1 dL_law_862 zk_i_1 ?_
        refine ze_iadd h dL_law_863 ?_
        refine ze_sald hs dL_law_864 ?_
        refine ze_aload_n h dL_law_865 rfl ?_
        refine ze_iload_n h dL_law_866 rfl ?_
        refine ze_iconst h 2 dL_law_867 zk_i_2 ?_
        refine ze_iadd h dL_law_868 ?_
        refine ze_sald hs dL_law_869 ?_
        refine ze_callVi h (st := [.int r113]) zce_X7_mercy zi_X7_mercy zs_X7_mercy zm_L_105 rfl rfl rfl (Nat.le_of_ble_eq_true rfl) ⟨Nat.le_of_ble_eq_true rfl, Nat.le_of_ble_eq_true rfl⟩ (c_X7_mercy l  (xs (zix (x5 + 1))) (xs (zix (x5 + 2))) s114) rfl (Nat.le_of_ble_eq_true rfl) rfl dL_law_870 (fun r115 s116 => ?_)
        refine ze_icmp_eq h 1507 dL_law_873 (by decide) ?_ ?_
        · refine ze_iincN h (fun y9 => [some (.ref 1050), some (.ref 0), some (.ref 47), some (.int y9)]) 7 dL_law_1507 rfl zk_i_7 rfl (by decide) (fun _ => rfl) (fun x117 => ?_)
          refine ze_goto h 18 dL_law_1510 (by decide) ?_
          exact ih x117 s116
        · refine ze_iconst h 0 dL_law_876 zk_i_0 ?_
          exact ze_zret hR rfl dL_law_877
      refine ze_case 22 (fun q33_22 => ?_) (fun q33_22 => ?_)
      · refine ze_tabIn h 878 dL_law_33 (by decide) (by decide) rfl (by decide) ?_
        refine ze_aload_n h dL_law_878 rfl ?_
        refine ze_aload_n h dL_law_879 rfl ?_
        refine ze_iload_n h dL_law_880 rfl ?_
        refine ze_iconst h 1 dL_law_881 zk_i_1 ?_
        refine ze_iadd h dL_law_882 ?_
        refine ze_sald hs dL_law_883 ?_
        refine ze_aload_n h dL_law_884 rfl ?_
        refine ze_iload_n h dL_law_885 rfl ?_
        refine ze_iconst h 2 dL_law_886 zk_i_2 ?_
        refine ze_iadd h dL_law_887 ?_
        refine ze_sald hs dL_law_888 ?_
        refine ze_callVi h (st := []) zce_X6_worst zi_X6_worst zs_X6_worst zm_L_106 rfl rfl rfl (Nat.le_of_ble_eq_true rfl) ⟨Nat.le_of_ble_eq_true rfl, Nat.le_of_ble_eq_true rfl⟩ (c_X6_worst l  (xs (zix (x5 + 1))) (xs (zix (x5 + 2))) s6) rfl (Nat.le_of_ble_eq_true rfl) rfl dL_law_889 (fun r118 s119 => ?_)
        refine ze_aload_n h dL_law_892 rfl ?_
        refine ze_pc 893 rfl ?_
        refine ze_aload_n h dL_law_893 rfl ?_
        refine ze_iload_n h dL_law_894 rfl ?_
        refine ze_iconst h 1 dL_law_895 zk_i_1 ?_
        refine ze_iadd h dL_law_896 ?_
        refine ze_sald hs dL_law_897 ?_
        refine ze_aload_n h dL_law_898 rfl ?_
        refine ze_iload_n h dL_law_899 rfl ?_
        refine ze_iconst h 2 dL_law_900 zk_i_2 ?_
        refine ze_iadd h dL_law_901 ?_
        refine ze_sald hs dL_law_902 ?_
        refine ze_callVi h (st := [.int r118]) zce_X7_worst zi_X7_worst zs_X7_worst zm_L_109 rfl rfl rfl (Nat.le_of_ble_eq_true rfl) ⟨Nat.le_of_ble_eq_true rfl, Nat.le_of_ble_eq_true rfl⟩ (c_X7_worst l  (xs (zix (x5 + 1))) (xs (zix (x5 + 2))) s119) rfl (Nat.le_of_ble_eq_true rfl) rfl dL_law_903 (fun r120 s121 => ?_)
        refine ze_icmp_eq h 1507 dL_law_906 (by decide) ?_ ?_
        · refine ze_iincN h (fun y9 => [some (.ref 1050), some (.ref 0), some (.ref 47), some (.int y9)]) 7 dL_law_1507 rfl zk_i_7 rfl (by decide) (fun _ => rfl) (fun x122 => ?_)
          refine ze_goto h 18 dL_law_1510 (by decide) ?_
          exact ih x122 s121
        · refine ze_iconst h 0 dL_law_909 zk_i_0 ?_
          exact ze_zret hR rfl dL_law_910
      refine ze_case 23 (fun q33_23 => ?_) (fun q33_23 => ?_)
      · refine ze_tabIn h 911 dL_law_33 (by decide) (by decide) rfl (by decide) ?_
        refine ze_aload_n h dL_law_911 rfl ?_
        refine ze_aload_n h dL_law_912 rfl ?_
        refine ze_iload_n h dL_law_913 rfl ?_
        refine ze_iconst h 1 dL_law_914 zk_i_1 ?_
        refine ze_iadd h dL_law_915 ?_
        refine ze_sald hs dL_law_916 ?_
        refine ze_aload_n h dL_law_917 rfl ?_
        refine ze_iload_n h dL_law_918 rfl ?_
        refine ze_iconst h 2 dL_law_919 zk_i_2 ?_
        refine ze_iadd h dL_law_920 ?_
        refine ze_sald hs dL_law_921 ?_
        refine ze_callVi h (st := []) zce_X6_judge zi_X6_judge zs_X6_judge zm_L_110 rfl rfl rfl (Nat.le_of_ble_eq_true rfl) ⟨Nat.le_of_ble_eq_true rfl, Nat.le_of_ble_eq_true rfl⟩ (c_X6_judge l  (xs (zix (x5 + 1))) (xs (zix (x5 + 2))) s6) rfl (Nat.le_of_ble_eq_true rfl) rfl dL_law_922 (fun r123 s124 => ?_)
        refine ze_aload_n h dL_law_925 rfl ?_
        refine ze_pc 926 rfl ?_
        refine ze_aload_n h dL_law_926 rfl ?_
        refine ze_iload_n h dL_law_927 rfl ?_
        refine ze_iconst h 1 dL_law_928 zk_i_1 ?_
        refine ze_iadd h dL_law_929 ?_
        refine ze_sald hs dL_law_930 ?_
        refine ze_aload_n h dL_law_931 rfl ?_
        refine ze_iload_n h dL_law_932 rfl ?_
        refine ze_iconst h 2 dL_law_933 zk_i_2 ?_
        refine ze_iadd h dL_law_934 ?_
        refine ze_sald hs dL_law_935 ?_
        refine ze_callVi h (st := [.int r123]) zce_X7_judge zi_X7_judge zs_X7_judge zm_L_113 rfl rfl rfl (Nat.le_of_ble_eq_true rfl) ⟨Nat.le_of_ble_eq_true rfl, Nat.le_of_ble_eq_true rfl⟩ (c_X7_judge l  (xs (zix (x5 + 1))) (xs (zix (x5 + 2))) s124) rfl (Nat.le_of_ble_eq_true rfl) rfl dL_law_936 (fun r125 s126 => ?_)
        refine ze_icmp_eq h 1507 dL_law_939 (by decide) ?_ ?_
        · refine ze_iincN h (fun y9 => [some (.ref 1050), some (.ref 0), some (.ref 47), some (.int y9)]) 7 dL_law_1507 rfl zk_i_7 rfl (by decide) (fun _ => rfl) (fun x127 => ?_)
          refine ze_goto h 18 dL_law_1510 (by decide) ?_
          exact ih x127 s126
        · refine ze_iconst h 0 dL_law_942 zk_i_0 ?_
          exact ze_zret hR rfl dL_law_943
      refine ze_case 24 (fun q33_24 => ?_) (fun q33_24 => ?_)
      · refine ze_tabIn h 944 dL_law_33 (by decide) (by decide) rfl (by decide) ?_
        refine ze_aload_n h dL_law_944 rfl ?_
        refine ze_aload_n h dL_law_945 rfl ?_
        refine ze_iload_n h dL_law_946 rfl ?_
        refine ze_iconst h 1 dL_law_947 zk_i_1 ?_
        refine ze_iadd h dL_law_948 ?_
        refine ze_sald hs dL_law_949 ?_
        refine ze_aload_n h dL_law_950 rfl ?_
        refine ze_iload_n h dL_law_951 rfl ?_
        refine ze_iconst h 2 dL_law_952 zk_i_2 ?_
        refine ze_iadd h dL_law_953 ?_
        refine ze_sald hs dL_law_954 ?_
        refine ze_aload_n h dL_law_955 rfl ?_
        refine ze_iload_n h dL_law_956 rfl ?_
        refine ze_pc 957 rfl ?_
        refine ze_iconst h 3 dL_law_957 zk_i_3 ?_
        refine ze_iadd h dL_law_958 ?_
        refine ze_sald hs dL_law_959 ?_
        refine ze_callVi h (st := []) zce_X6_kinds zi_X6_kinds zs_X6_kinds zm_L_114 rfl rfl rfl (Nat.le_of_ble_eq_true rfl) ⟨Nat.le_of_ble_eq_true rfl, Nat.le_of_ble_eq_true rfl⟩ (c_X6_kinds l  (xs (zix (x5 + 1))) (xs (zix (x5 + 2))) (xs (zix (x5 + 3))) s6) rfl (Nat.le_of_ble_eq_true rfl) rfl dL_law_960 (fun r128 s129 => ?_)
        refine ze_aload_n h dL_law_963 rfl ?_
        refine ze_aload_n h dL_law_964 rfl ?_
        refine ze_iload_n h dL_law_965 rfl ?_
        refine ze_iconst h 1 dL_law_966 zk_i_1 ?_
        refine ze_iadd h dL_law_967 ?_
        refine ze_sald hs dL_law_968 ?_
        refine ze_aload_n h dL_law_969 rfl ?_
        refine ze_iload_n h dL_law_970 rfl ?_
        refine ze_iconst h 2 dL_law_971 zk_i_2 ?_
        refine ze_iadd h dL_law_972 ?_
        refine ze_pc 973 rfl ?_
        refine ze_sald hs dL_law_973 ?_
        refine ze_aload_n h dL_law_974 rfl ?_
        refine ze_iload_n h dL_law_975 rfl ?_
        refine ze_iconst h 3 dL_law_976 zk_i_3 ?_
        refine ze_iadd h dL_law_977 ?_
        refine ze_sald hs dL_law_978 ?_
        refine ze_callVi h (st := [.int r128]) zce_X7_kinds zi_X7_kinds zs_X7_kinds zm_L_117 rfl rfl rfl (Nat.le_of_ble_eq_true rfl) ⟨Nat.le_of_ble_eq_true rfl, Nat.le_of_ble_eq_true rfl⟩ (c_X7_kinds l  (xs (zix (x5 + 1))) (xs (zix (x5 + 2))) (xs (zix (x5 + 3))) s129) rfl (Nat.le_of_ble_eq_true rfl) rfl dL_law_979 (fun r130 s131 => ?_)
        refine ze_icmp_eq h 1507 dL_law_982 (by decide) ?_ ?_
        · refine ze_iincN h (fun y9 => [some (.ref 1050), some (.ref 0), some (.ref 47), some (.int y9)]) 7 dL_law_1507 rfl zk_i_7 rfl (by decide) (fun _ => rfl) (fun x132 => ?_)
          refine ze_goto h 18 dL_law_1510 (by decide) ?_
          exact ih x132 s131
        · refine ze_iconst h 0 dL_law_985 zk_i_0 ?_
          exact ze_zret hR rfl dL_law_986
      refine ze_case 25 (fun q33_25 => ?_) (fun q33_25 => ?_)
      · refine ze_tabIn h 987 dL_law_33 (by decide) (by decide) rfl (by decide) ?_
        refine ze_aload_n h dL_law_987 rfl ?_
        refine ze_aload_n h dL_law_988 rfl ?_
        refine ze_iload_n h dL_law_989 rfl ?_
        refine ze_iconst h 1 dL_law_990 zk_i_1 ?_
        refine ze_iadd h dL_law_991 ?_
        refine ze_sald hs dL_law_992 ?_
        refine ze_aload_n h dL_law_993 rfl ?_
        refine ze_iload_n h dL_law_994 rfl ?_
        refine ze_iconst h 2 dL_law_995 zk_i_2 ?_
        refine ze_iadd h dL_law_996 ?_
        refine ze_sald hs dL_law_997 ?_
        refine ze_aload_n h dL_law_998 rfl ?_
        refine ze_iload_n h dL_law_999 rfl ?_
        refine ze_pc 1000 rfl ?_
        refine ze_iconst h 3 dL_law_1000 zk_i_3 ?_
        refine ze_iadd h dL_law_1001 ?_
        refine ze_sald hs dL_law_1002 ?_
        refine ze_aload_n h dL_law_1003 rfl ?_
        refine ze_iload_n h dL_law_1004 rfl ?_
        refine ze_iconst h 4 dL_law_1005 zk_i_4 ?_
        refine ze_iadd h dL_law_1006 ?_
        refine ze_sald hs dL_law_1007 ?_
        refine ze_callVi h (st := []) zce_X6_states zi_X6_states zs_X6_states zm_L_118 rfl rfl rfl (Nat.le_of_ble_eq_true rfl) ⟨Nat.le_of_ble_eq_true rfl, Nat.le_of_ble_eq_true rfl⟩ (c_X6_states l  (xs (zix (x5 + 1))) (xs (zix (x5 + 2))) (xs (zix (x5 + 3))) (xs (zix (x5 + 4))) s6) rfl (Nat.le_of_ble_eq_true rfl) rfl dL_law_1008 (fun r133 s134 => ?_)
        refine ze_aload_n h dL_law_1011 rfl ?_
        refine ze_aload_n h dL_law_1012 rfl ?_
        refine ze_iload_n h dL_law_1013 rfl ?_
        refine ze_iconst h 1 dL_law_1014 zk_i_1 ?_
        refine ze_iadd h dL_law_1015 ?_
        refine ze_pc 1016 rfl ?_
        refine ze_sald hs dL_law_1016 ?_
        refine ze_aload_n h dL_law_1017 rfl ?_
        refine ze_iload_n h dL_law_1018 rfl ?_
        refine ze_iconst h 2 dL_law_1019 zk_i_2 ?_
        refine ze_iadd h dL_law_1020 ?_
        refine ze_sald hs dL_law_1021 ?_
        refine ze_aload_n h dL_law_1022 rfl ?_
        refine ze_iload_n h dL_law_1023 rfl ?_
        refine ze_iconst h 3 dL_law_1024 zk_i_3 ?_
        refine ze_iadd h dL_law_1025 ?_
        refine ze_sald hs dL_law_1026 ?_
        refine ze_aload_n h dL_law_1027 rfl ?_
        refine ze_iload_n h dL_law_1028 rfl ?_
        refine ze_iconst h 4 dL_law_1029 zk_i_4 ?_
        refine ze_pc 1030 rfl ?_
        refine ze_iadd h dL_law_1030 ?_
        refine ze_sald hs dL_law_1031 ?_
        refine ze_callVi h (st := [.int r133]) zce_X7_states zi_X7_states zs_X7_states zm_L_122 rfl rfl rfl (Nat.le_of_ble_eq_true rfl) ⟨Nat.le_of_ble_eq_true rfl, Nat.le_of_ble_eq_true rfl⟩ (c_X7_states l  (xs (zix (x5 + 1))) (xs (zix (x5 + 2))) (xs (zix (x5 + 3))) (xs (zix (x5 + 4))) s134) rfl (Nat.le_of_ble_eq_true rfl) rfl dL_law_1032 (fun r135 s136 => ?_)
        refine ze_icmp_eq h 1507 dL_law_1035 (by decide) ?_ ?_
        · refine ze_iincN h (fun y9 => [some (.ref 1050), some (.ref 0), some (.ref 47), some (.int y9)]) 7 dL_law_1507 rfl zk_i_7 rfl (by decide) (fun _ => rfl) (fun x137 => ?_)
          refine ze_goto h 18 dL_law_1510 (by decide) ?_
          exact ih x137 s136
        · refine ze_iconst h 0 dL_law_1038 zk_i_0 ?_
          exact ze_zret hR rfl dL_law_1039
      refine ze_case 26 (fun q33_26 => ?_) (fun q33_26 => ?_)
      · refine ze_tabIn h 1040 dL_law_33 (by decide) (by decide) rfl (by decide) ?_
        refine ze_aload_n h dL_law_1040 rfl ?_
        refine ze_aload_n h dL_law_1041 rfl ?_
        refine ze_iload_n h dL_law_1042 rfl ?_
        refine ze_iconst h 1 dL_law_1043 zk_i_1 ?_
        refine ze_iadd h dL_law_1044 ?_
        refine ze_sald hs dL_law_1045 ?_
        refine ze_callVi h (st := []) zce_X6_whose zi_X6_whose zs_X6_whose zm_L_123 rfl rfl rfl (Nat.le_of_ble_eq_true rfl) ⟨Nat.le_of_ble_eq_true rfl, Nat.le_of_ble_eq_true rfl⟩ (c_X6_whose l  (xs (zix (x5 + 1))) s6) rfl (Nat.le_of_ble_eq_true rfl) rfl dL_law_1046 (fun r138 s139 => ?_)
        refine ze_aload_n h dL_law_1049 rfl ?_
        refine ze_aload_n h dL_law_1050 rfl ?_
        refine ze_iload_n h dL_law_1051 rfl ?_
        refine ze_iconst h 1 dL_law_1052 zk_i_1 ?_
        refine ze_iadd h dL_law_1053 ?_
        refine ze_sald hs dL_law_1054 ?_
        refine ze_pc 1055 rfl ?_
        refine ze_callVi h (st := [.int r138]) zce_X7_whose zi_X7_whose zs_X7_whose zm_L_126 rfl rfl rfl (Nat.le_of_ble_eq_true rfl) ⟨Nat.le_of_ble_eq_true rfl, Nat.le_of_ble_eq_true rfl⟩ (c_X7_whose l  (xs (zix (x5 + 1))) s139) rfl (Nat.le_of_ble_eq_true rfl) rfl dL_law_1055 (fun r140 s141 => ?_)
        refine ze_icmp_eq h 1507 dL_law_1058 (by decide) ?_ ?_
        · refine ze_iincN h (fun y9 => [some (.ref 1050), some (.ref 0), some (.ref 47), some (.int y9)]) 7 dL_law_1507 rfl zk_i_7 rfl (by decide) (fun _ => rfl) (fun x142 => ?_)
          refine ze_goto h 18 dL_law_1510 (by decide) ?_
          exact ih x142 s141
        · refine ze_iconst h 0 dL_law_1061 zk_i_0 ?_
          exact ze_zret hR rfl dL_law_1062
      refine ze_case 27 (fun q33_27 => ?_) (fun q33_27 => ?_)
      · refine ze_tabIn h 1063 dL_law_33 (by decide) (by decide) rfl (by decide) ?_
        refine ze_aload_n h dL_law_1063 rfl ?_
        refine ze_aload_n h dL_law_1064 rfl ?_
        refine ze_iload_n h dL_law_1065 rfl ?_
        refine ze_iconst h 1 dL_law_1066 zk_i_1 ?_
        refine ze_iadd h dL_law_1067 ?_
        refine ze_sald hs dL_law_1068 ?_
        refine ze_aload_n h dL_law_1069 rfl ?_
        refine ze_iload_n h dL_law_1070 rfl ?_
        refine ze_iconst h 2 dL_law_1071 zk_i_2 ?_
        refine ze_iadd h dL_law_1072 ?_
        refine ze_sald hs dL_law_1073 ?_
        refine ze_callVi h (st := []) zce_X6_laws zi_X6_laws zs_X6_laws zm_L_127 rfl rfl rfl (Nat.le_of_ble_eq_true rfl) ⟨Nat.le_of_ble_eq_true rfl, Nat.le_of_ble_eq_true rfl⟩ (c_X6_laws l  (xs (zix (x5 + 1))) (xs (zix (x5 + 2))) s6) rfl (Nat.le_of_ble_eq_true rfl) rfl dL_law_1074 (fun r143 s144 => ?_)
        refine ze_aload_n h dL_law_1077 rfl ?_
        refine ze_pc 1078 rfl ?_
        refine ze_aload_n h dL_law_1078 rfl ?_
        refine ze_iload_n h dL_law_1079 rfl ?_
        refine ze_iconst h 1 dL_law_1080 zk_i_1 ?_
        refine ze_iadd h dL_law_1081 ?_
        refine ze_sald hs dL_law_1082 ?_
        refine ze_aload_n h dL_law_1083 rfl ?_
        refine ze_iload_n h dL_law_1084 rfl ?_
        refine ze_iconst h 2 dL_law_1085 zk_i_2 ?_
        refine ze_iadd h dL_law_1086 ?_
        refine ze_sald hs dL_law_1087 ?_
        refine ze_callVi h (st := [.int r143]) zce_X7_laws zi_X7_laws zs_X7_laws zm_L_130 rfl rfl rfl (Nat.le_of_ble_eq_true rfl) ⟨Nat.le_of_ble_eq_true rfl, Nat.le_of_ble_eq_true rfl⟩ (c_X7_laws l  (xs (zix (x5 + 1))) (xs (zix (x5 + 2))) s144) rfl (Nat.le_of_ble_eq_true rfl) rfl dL_law_1088 (fun r145 s146 => ?_)
        refine ze_icmp_eq h 1507 dL_law_1091 (by decide) ?_ ?_
        · refine ze_iincN h (fun y9 => [some (.ref 1050), some (.ref 0), some (.ref 47), some (.int y9)]) 7 dL_law_1507 rfl zk_i_7 rfl (by decide) (fun _ => rfl) (fun x147 => ?_)
          refine ze_goto h 18 dL_law_1510 (by decide) ?_
          exact ih x147 s146
        · refine ze_iconst h 0 dL_law_1094 zk_i_0 ?_
          exact ze_zret hR rfl dL_law_1095
      refine ze_case 28 (fun q33_28 => ?_) (fun q33_28 => ?_)
      · refine ze_tabIn h 1096 dL_law_33 (by decide) (by decide) rfl (by decide) ?_
        refine ze_aload_n h dL_law_1096 rfl ?_
        refine ze_aload_n h dL_law_1097 rfl ?_
        refine ze_iload_n h dL_law_1098 rfl ?_
        refine ze_iconst h 1 dL_law_1099 zk_i_1 ?_
        refine ze_iadd h dL_law_1100 ?_
        refine ze_sald hs dL_law_1101 ?_
        refine ze_aload_n h dL_law_1102 rfl ?_
        refine ze_iload_n h dL_law_1103 rfl ?_
        refine ze_iconst h 2 dL_law_1104 zk_i_2 ?_
        refine ze_iadd h dL_law_1105 ?_
        refine ze_sald hs dL_law_1106 ?_
        refine ze_aload_n h dL_law_1107 rfl ?_
        refine ze_iload_n h dL_law_1108 rfl ?_
        refine ze_pc 1109 rfl ?_
        refine ze_iconst h 3 dL_law_1109 zk_i_3 ?_
        refine ze_iadd h dL_law_1110 ?_
        refine ze_sald hs dL_law_1111 ?_
        refine ze_callVi h (st := []) zce_X6_film zi_X6_film zs_X6_film zm_L_131 rfl rfl rfl (Nat.le_of_ble_eq_true rfl) ⟨Nat.le_of_ble_eq_true rfl, Nat.le_of_ble_eq_true rfl⟩ (c_X6_film l  (xs (zix (x5 + 1))) (xs (zix (x5 + 2))) (xs (zix (x5 + 3))) s6) rfl (Nat.le_of_ble_eq_true rfl) rfl dL_law_1112 (fun r148 s149 => ?_)
        refine ze_aload_n h dL_law_1115 rfl ?_
        refine ze_aload_n h dL_law_1116 rfl ?_
        refine ze_iload_n h dL_law_1117 rfl ?_
        refine ze_iconst h 1 dL_law_1118 zk_i_1 ?_
        refine ze_iadd h dL_law_1119 ?_
        refine ze_sald hs dL_law_1120 ?_
        refine ze_aload_n h dL_law_1121 rfl ?_
        refine ze_iload_n h dL_law_1122 rfl ?_
        refine ze_iconst h 2 dL_law_1123 zk_i_2 ?_
        refine ze_iadd h dL_law_1124 ?_
        refine ze_pc 1125 rfl ?_
        refine ze_sald hs dL_law_1125 ?_
        refine ze_aload_n h dL_law_1126 rfl ?_
        refine ze_iload_n h dL_law_1127 rfl ?_
        refine ze_iconst h 3 dL_law_1128 zk_i_3 ?_
        refine ze_iadd h dL_law_1129 ?_
        refine ze_sald hs dL_law_1130 ?_
        refine ze_callVi h (st := [.int r148]) zce_X7_film zi_X7_film zs_X7_film zm_L_134 rfl rfl rfl (Nat.le_of_ble_eq_true rfl) ⟨Nat.le_of_ble_eq_true rfl, Nat.le_of_ble_eq_true rfl⟩ (c_X7_film l  (xs (zix (x5 + 1))) (xs (zix (x5 + 2))) (xs (zix (x5 + 3))) s149) rfl (Nat.le_of_ble_eq_true rfl) rfl dL_law_1131 (fun r150 s151 => ?_)
        refine ze_icmp_eq h 1507 dL_law_1134 (by decide) ?_ ?_
        · refine ze_iincN h (fun y9 => [some (.ref 1050), some (.ref 0), some (.ref 47), some (.int y9)]) 7 dL_law_1507 rfl zk_i_7 rfl (by decide) (fun _ => rfl) (fun x152 => ?_)
          refine ze_goto h 18 dL_law_1510 (by decide) ?_
          exact ih x152 s151
        · refine ze_iconst h 0 dL_law_1137 zk_i_0 ?_
          exact ze_zret hR rfl dL_law_1138
      refine ze_case 29 (fun q33_29 => ?_) (fun q33_29 => ?_)
      · refine ze_tabIn h 1139 dL_law_33 (by decide) (by decide) rfl (by decide) ?_
        refine ze_aload_n h dL_law_1139 rfl ?_
        refine ze_aload_n h dL_law_1140 rfl ?_
        refine ze_iload_n h dL_law_1141 rfl ?_
        refine ze_iconst h 1 dL_law_1142 zk_i_1 ?_
        refine ze_iadd h dL_law_1143 ?_
        refine ze_sald hs dL_law_1144 ?_
        refine ze_aload_n h dL_law_1145 rfl ?_
        refine ze_iload_n h dL_law_1146 rfl ?_
        refine ze_iconst h 2 dL_law_1147 zk_i_2 ?_
        refine ze_iadd h dL_law_1148 ?_
        refine ze_sald hs dL_law_1149 ?_
        refine ze_aload_n h dL_law_1150 rfl ?_
        refine ze_iload_n h dL_law_1151 rfl ?_
        refine ze_pc 1152 rfl ?_
        refine ze_iconst h 3 dL_law_1152 zk_i_3 ?_
        refine ze_iadd h dL_law_1153 ?_
        refine ze_sald hs dL_law_1154 ?_
        refine ze_callVi h (st := []) zce_X6_drawn zi_X6_drawn zs_X6_drawn zm_L_135 rfl rfl rfl (Nat.le_of_ble_eq_true rfl) ⟨Nat.le_of_ble_eq_true rfl, Nat.le_of_ble_eq_true rfl⟩ (c_X6_drawn l  (xs (zix (x5 + 1))) (xs (zix (x5 + 2))) (xs (zix (x5 + 3))) s6) rfl (Nat.le_of_ble_eq_true rfl) rfl dL_law_1155 (fun r153 s154 => ?_)
        refine ze_aload_n h dL_law_1158 rfl ?_
        refine ze_aload_n h dL_law_1159 rfl ?_
        refine ze_iload_n h dL_law_1160 rfl ?_
        refine ze_iconst h 1 dL_law_1161 zk_i_1 ?_
        refine ze_iadd h dL_law_1162 ?_
        refine ze_sald hs dL_law_1163 ?_
        refine ze_aload_n h dL_law_1164 rfl ?_
        refine ze_iload_n h dL_law_1165 rfl ?_
        refine ze_iconst h 2 dL_law_1166 zk_i_2 ?_
        refine ze_iadd h dL_law_1167 ?_
        refine ze_pc 1168 rfl ?_
        refine ze_sald hs dL_law_1168 ?_
        refine ze_aload_n h dL_law_1169 rfl ?_
        refine ze_iload_n h dL_law_1170 rfl ?_
        refine ze_iconst h 3 dL_law_1171 zk_i_3 ?_
        refine ze_iadd h dL_law_1172 ?_
        refine ze_sald hs dL_law_1173 ?_
        refine ze_callVi h (st := [.int r153]) zce_X7_drawn zi_X7_drawn zs_X7_drawn zm_L_138 rfl rfl rfl (Nat.le_of_ble_eq_true rfl) ⟨Nat.le_of_ble_eq_true rfl, Nat.le_of_ble_eq_true rfl⟩ (c_X7_drawn l  (xs (zix (x5 + 1))) (xs (zix (x5 + 2))) (xs (zix (x5 + 3))) s154) rfl (Nat.le_of_ble_eq_true rfl) rfl dL_law_1174 (fun r155 s156 => ?_)
        refine ze_icmp_eq h 1507 dL_law_1177 (by decide) ?_ ?_
        · refine ze_iincN h (fun y9 => [some (.ref 1050), some (.ref 0), some (.ref 47), some (.int y9)]) 7 dL_law_1507 rfl zk_i_7 rfl (by decide) (fun _ => rfl) (fun x157 => ?_)
          refine ze_goto h 18 dL_law_1510 (by decide) ?_
          exact ih x157 s156
        · refine ze_iconst h 0 dL_law_1180 zk_i_0 ?_
          exact ze_zret hR rfl dL_law_1181
      refine ze_case 30 (fun q33_30 => ?_) (fun q33_30 => ?_)
      · refine ze_tabIn h 1182 dL_law_33 (by decide) (by decide) rfl (by decide) ?_
        refine ze_aload_n h dL_law_1182 rfl ?_
        refine ze_aload_n h dL_law_1183 rfl ?_
        refine ze_iload_n h dL_law_1184 rfl ?_
        refine ze_iconst h 1 dL_law_1185 zk_i_1 ?_
        refine ze_iadd h dL_law_1186 ?_
        refine ze_sald hs dL_law_1187 ?_
        refine ze_aload_n h dL_law_1188 rfl ?_
        refine ze_iload_n h dL_law_1189 rfl ?_
        refine ze_iconst h 2 dL_law_1190 zk_i_2 ?_
        refine ze_iadd h dL_law_1191 ?_
        refine ze_sald hs dL_law_1192 ?_
        refine ze_aload_n h dL_law_1193 rfl ?_
        refine ze_iload_n h dL_law_1194 rfl ?_
        refine ze_pc 1195 rfl ?_
        refine ze_iconst h 3 dL_law_1195 zk_i_3 ?_
        refine ze_iadd h dL_law_1196 ?_
        refine ze_sald hs dL_law_1197 ?_
        refine ze_aload_n h dL_law_1198 rfl ?_
        refine ze_iload_n h dL_law_1199 rfl ?_
        refine ze_iconst h 4 dL_law_1200 zk_i_4 ?_
        refine ze_iadd h dL_law_1201 ?_
        refine ze_sald hs dL_law_1202 ?_
        refine ze_aload_n h dL_law_1203 rfl ?_
        refine ze_iload_n h dL_law_1204 rfl ?_
        refine ze_iconst h 5 dL_law_1205 zk_i_5 ?_
        refine ze_iadd h dL_law_1206 ?_
        refine ze_sald hs dL_law_1207 ?_
        refine ze_callVl h (st := []) zce_X6_odds zi_X6_odds zs_X6_odds zm_L_139 rfl rfl rfl (Nat.le_of_ble_eq_true rfl) ⟨Nat.le_of_ble_eq_true rfl, Nat.le_of_ble_eq_true rfl⟩ (c_X6_odds l  (xs (zix (x5 + 1))) (xs (zix (x5 + 2))) (xs (zix (x5 + 3))) (xs (zix (x5 + 4))) (xs (zix (x5 + 5))) s6) rfl (Nat.le_of_ble_eq_true rfl) rfl dL_law_1208 (fun r158 s159 => ?_)
        refine ze_pc 1211 rfl ?_
        refine ze_aload_n h dL_law_1211 rfl ?_
        refine ze_aload_n h dL_law_1212 rfl ?_
        refine ze_iload_n h dL_law_1213 rfl ?_
        refine ze_iconst h 1 dL_law_1214 zk_i_1 ?_
        refine ze_iadd h dL_law_1215 ?_
        refine ze_sald hs dL_law_1216 ?_
        refine ze_aload_n h dL_law_1217 rfl ?_
        refine ze_iload_n h dL_law_1218 rfl ?_
        refine ze_iconst h 2 dL_law_1219 zk_i_2 ?_
        refine ze_iadd h dL_law_1220 ?_
        refine ze_sald hs dL_law_1221 ?_
        refine ze_aload_n h dL_law_1222 rfl ?_
        refine ze_iload_n h dL_law_1223 rfl ?_
        refine ze_iconst h 3 dL_law_1224 zk_i_3 ?_
        refine ze_pc 1225 rfl ?_
        refine ze_iadd h dL_law_1225 ?_
        refine ze_sald hs dL_law_1226 ?_
        refine ze_aload_n h dL_law_1227 rfl ?_
        refine ze_iload_n h dL_law_1228 rfl ?_
        refine ze_iconst h 4 dL_law_1229 zk_i_4 ?_
        refine ze_iadd h dL_law_1230 ?_
        refine ze_sald hs dL_law_1231 ?_
        refine ze_aload_n h dL_law_1232 rfl ?_
        refine ze_iload_n h dL_law_1233 rfl ?_
        refine ze_iconst h 5 dL_law_1234 zk_i_5 ?_
        refine ze_iadd h dL_law_1235 ?_
        refine ze_sald hs dL_law_1236 ?_
        refine ze_callVl h (st := [.long r158]) zce_X7_odds zi_X7_odds zs_X7_odds zm_L_143 rfl rfl rfl (Nat.le_of_ble_eq_true rfl) ⟨Nat.le_of_ble_eq_true rfl, Nat.le_of_ble_eq_true rfl⟩ (c_X7_odds l  (xs (zix (x5 + 1))) (xs (zix (x5 + 2))) (xs (zix (x5 + 3))) (xs (zix (x5 + 4))) (xs (zix (x5 + 5))) s159) rfl (Nat.le_of_ble_eq_true rfl) rfl dL_law_1237 (fun r160 s161 => ?_)
        refine ze_lcmp h dL_law_1240 ?_
        refine ze_pc 1241 rfl ?_
        refine ze_if_eq h 1507 dL_law_1241 (by decide) ?_ ?_
        · refine ze_iincN h (fun y9 => [some (.ref 1050), some (.ref 0), some (.ref 47), some (.int y9)]) 7 dL_law_1507 rfl zk_i_7 rfl (by decide) (fun _ => rfl) (fun x162 => ?_)
          refine ze_goto h 18 dL_law_1510 (by decide) ?_
          exact ih x162 s161
        · refine ze_iconst h 0 dL_law_1244 zk_i_0 ?_
          exact ze_zret hR rfl dL_law_1245
      refine ze_case 31 (fun q33_31 => ?_) (fun q33_31 => ?_)
      · refine ze_tabIn h 1246 dL_law_33 (by decide) (by decide) rfl (by decide) ?_
        refine ze_aload_n h dL_law_1246 rfl ?_
        refine ze_callVi h (st := []) zce_X6_image zi_X6_image zs_X6_image zm_L_144 rfl rfl rfl (Nat.le_of_ble_eq_true rfl) ⟨Nat.le_of_ble_eq_true rfl, Nat.le_of_ble_eq_true rfl⟩ (c_X6_image l  s6) rfl (Nat.le_of_ble_eq_true rfl) rfl dL_law_1247 (fun r163 s164 => ?_)
        refine ze_aload_n h dL_law_1250 rfl ?_
        refine ze_callVi h (st := [.int r163]) zce_X7_image zi_X7_image zs_X7_image zm_L_147 rfl rfl rfl (Nat.le_of_ble_eq_true rfl) ⟨Nat.le_of_ble_eq_true rfl, Nat.le_of_ble_eq_true rfl⟩ (c_X7_image l  s164) rfl (Nat.le_of_ble_eq_true rfl) rfl dL_law_1251 (fun r165 s166 => ?_)
        refine ze_icmp_eq h 1507 dL_law_1254 (by decide) ?_ ?_
        · refine ze_iincN h (fun y9 => [some (.ref 1050), some (.ref 0), some (.ref 47), some (.int y9)]) 7 dL_law_1507 rfl zk_i_7 rfl (by decide) (fun _ => rfl) (fun x167 => ?_)
          refine ze_goto h 18 dL_law_1510 (by decide) ?_
          exact ih x167 s166
        · refine ze_iconst h 0 dL_law_1257 zk_i_0 ?_
          exact ze_zret hR rfl dL_law_1258
      refine ze_case 32 (fun q33_32 => ?_) (fun q33_32 => ?_)
      · refine ze_tabIn h 1259 dL_law_33 (by decide) (by decide) rfl (by decide) ?_
        refine ze_aload_n h dL_law_1259 rfl ?_
        refine ze_callVi h (st := []) zce_X6_back zi_X6_back zs_X6_back zm_L_148 rfl rfl rfl (Nat.le_of_ble_eq_true rfl) ⟨Nat.le_of_ble_eq_true rfl, Nat.le_of_ble_eq_true rfl⟩ (c_X6_back l  s6) rfl (Nat.le_of_ble_eq_true rfl) rfl dL_law_1260 (fun r168 s169 => ?_)
        refine ze_aload_n h dL_law_1263 rfl ?_
        refine ze_callVi h (st := [.int r168]) zce_X7_back zi_X7_back zs_X7_back zm_L_151 rfl rfl rfl (Nat.le_of_ble_eq_true rfl) ⟨Nat.le_of_ble_eq_true rfl, Nat.le_of_ble_eq_true rfl⟩ (c_X7_back l  s169) rfl (Nat.le_of_ble_eq_true rfl) rfl dL_law_1264 (fun r170 s171 => ?_)
        refine ze_icmp_eq h 1507 dL_law_1267 (by decide) ?_ ?_
        · refine ze_iincN h (fun y9 => [some (.ref 1050), some (.ref 0), some (.ref 47), some (.int y9)]) 7 dL_law_1507 rfl zk_i_7 rfl (by decide) (fun _ => rfl) (fun x172 => ?_)
          refine ze_goto h 18 dL_law_1510 (by decide) ?_
          exact ih x172 s171
        · refine ze_iconst h 0 dL_law_1270 zk_i_0 ?_
          exact ze_zret hR rfl dL_law_1271
      refine ze_case 33 (fun q33_33 => ?_) (fun q33_33 => ?_)
      · refine ze_tabIn h 1272 dL_law_33 (by decide) (by decide) rfl (by decide) ?_
        refine ze_aload_n h dL_law_1272 rfl ?_
        refine ze_aload_n h dL_law_1273 rfl ?_
        refine ze_iload_n h dL_law_1274 rfl ?_
        refine ze_iconst h 1 dL_law_1275 zk_i_1 ?_
        refine ze_iadd h dL_law_1276 ?_
        refine ze_sald hs dL_law_1277 ?_
        refine ze_aload_n h dL_law_1278 rfl ?_
        refine ze_iload_n h dL_law_1279 rfl ?_
        refine ze_iconst h 2 dL_law_1280 zk_i_2 ?_
        refine ze_iadd h dL_law_1281 ?_
        refine ze_sald hs dL_law_1282 ?_
        refine ze_aload_n h dL_law_1283 rfl ?_
        refine ze_iload_n h dL_law_1284 rfl ?_
        refine ze_pc 1285 rfl ?_
        refine ze_iconst h 3 dL_law_1285 zk_i_3 ?_
        refine ze_iadd h dL_law_1286 ?_
        refine ze_sald hs dL_law_1287 ?_
        refine ze_callVi h (st := []) zce_X6_sheet zi_X6_sheet zs_X6_sheet zm_L_152 rfl rfl rfl (Nat.le_of_ble_eq_true rfl) ⟨Nat.le_of_ble_eq_true rfl, Nat.le_of_ble_eq_true rfl⟩ (c_X6_sheet l  (xs (zix (x5 + 1))) (xs (zix (x5 + 2))) (xs (zix (x5 + 3))) s6) rfl (Nat.le_of_ble_eq_true rfl) rfl dL_law_1288 (fun r173 s174 => ?_)
        refine ze_aload_n h dL_law_1291 rfl ?_
        refine ze_aload_n h dL_law_1292 rfl ?_
        refine ze_iload_n h dL_law_1293 rfl ?_
        refine ze_iconst h 1 dL_law_1294 zk_i_1 ?_
        refine ze_iadd h dL_law_1295 ?_
        refine ze_sald hs dL_law_1296 ?_
        refine ze_aload_n h dL_law_1297 rfl ?_
        refine ze_iload_n h dL_law_1298 rfl ?_
        refine ze_iconst h 2 dL_law_1299 zk_i_2 ?_
        refine ze_iadd h dL_law_1300 ?_
        refine ze_pc 1301 rfl ?_
        refine ze_sald hs dL_law_1301 ?_
        refine ze_aload_n h dL_law_1302 rfl ?_
        refine ze_iload_n h dL_law_1303 rfl ?_
        refine ze_iconst h 3 dL_law_1304 zk_i_3 ?_
        refine ze_iadd h dL_law_1305 ?_
        refine ze_sald hs dL_law_1306 ?_
        refine ze_callVi h (st := [.int r173]) zce_X7_sheet zi_X7_sheet zs_X7_sheet zm_L_155 rfl rfl rfl (Nat.le_of_ble_eq_true rfl) ⟨Nat.le_of_ble_eq_true rfl, Nat.le_of_ble_eq_true rfl⟩ (c_X7_sheet l  (xs (zix (x5 + 1))) (xs (zix (x5 + 2))) (xs (zix (x5 + 3))) s174) rfl (Nat.le_of_ble_eq_true rfl) rfl dL_law_1307 (fun r175 s176 => ?_)
        refine ze_icmp_eq h 1507 dL_law_1310 (by decide) ?_ ?_
        · refine ze_iincN h (fun y9 => [some (.ref 1050), some (.ref 0), some (.ref 47), some (.int y9)]) 7 dL_law_1507 rfl zk_i_7 rfl (by decide) (fun _ => rfl) (fun x177 => ?_)
          refine ze_goto h 18 dL_law_1510 (by decide) ?_
          exact ih x177 s176
        · refine ze_iconst h 0 dL_law_1313 zk_i_0 ?_
          exact ze_zret hR rfl dL_law_1314
      refine ze_case 34 (fun q33_34 => ?_) (fun q33_34 => ?_)
      · refine ze_tabIn h 1315 dL_law_33 (by decide) (by decide) rfl (by decide) ?_
        refine ze_aload_n h dL_law_1315 rfl ?_
        refine ze_aload_n h dL_law_1316 rfl ?_
        refine ze_iload_n h dL_law_1317 rfl ?_
        refine ze_iconst h 1 dL_law_1318 zk_i_1 ?_
        refine ze_iadd h dL_law_1319 ?_
        refine ze_sald hs dL_law_1320 ?_
        refine ze_aload_n h dL_law_1321 rfl ?_
        refine ze_iload_n h dL_law_1322 rfl ?_
        refine ze_iconst h 2 dL_law_1323 zk_i_2 ?_
        refine ze_iadd h dL_law_1324 ?_
        refine ze_sald hs dL_law_1325 ?_
        refine ze_aload_n h dL_law_1326 rfl ?_
        refine ze_iload_n h dL_law_1327 rfl ?_
        refine ze_pc 1328 rfl ?_
        refine ze_iconst h 3 dL_law_1328 zk_i_3 ?_
        refine ze_iadd h dL_law_1329 ?_
        refine ze_sald hs dL_law_1330 ?_
        refine ze_callVi h (st := []) zce_X6_cell zi_X6_cell zs_X6_cell zm_L_156 rfl rfl rfl (Nat.le_of_ble_eq_true rfl) ⟨Nat.le_of_ble_eq_true rfl, Nat.le_of_ble_eq_true rfl⟩ (c_X6_cell l  (xs (zix (x5 + 1))) (xs (zix (x5 + 2))) (xs (zix (x5 + 3))) s6) rfl (Nat.le_of_ble_eq_true rfl) rfl dL_law_1331 (fun r178 s179 => ?_)
        refine ze_aload_n h dL_law_1334 rfl ?_
        refine ze_aload_n h dL_law_1335 rfl ?_
        refine ze_iload_n h dL_law_1336 rfl ?_
        refine ze_iconst h 1 dL_law_1337 zk_i_1 ?_
        refine ze_iadd h dL_law_1338 ?_
        refine ze_sald hs dL_law_1339 ?_
        refine ze_aload_n h dL_law_1340 rfl ?_
        refine ze_iload_n h dL_law_1341 rfl ?_
        refine ze_iconst h 2 dL_law_1342 zk_i_2 ?_
        refine ze_iadd h dL_law_1343 ?_
        refine ze_pc 1344 rfl ?_
        refine ze_sald hs dL_law_1344 ?_
        refine ze_aload_n h dL_law_1345 rfl ?_
        refine ze_iload_n h dL_law_1346 rfl ?_
        refine ze_iconst h 3 dL_law_1347 zk_i_3 ?_
        refine ze_iadd h dL_law_1348 ?_
        refine ze_sald hs dL_law_1349 ?_
        refine ze_callVi h (st := [.int r178]) zce_X7_cell zi_X7_cell zs_X7_cell zm_L_159 rfl rfl rfl (Nat.le_of_ble_eq_true rfl) ⟨Nat.le_of_ble_eq_true rfl, Nat.le_of_ble_eq_true rfl⟩ (c_X7_cell l  (xs (zix (x5 + 1))) (xs (zix (x5 + 2))) (xs (zix (x5 + 3))) s179) rfl (Nat.le_of_ble_eq_true rfl) rfl dL_law_1350 (fun r180 s181 => ?_)
        refine ze_icmp_eq h 1507 dL_law_1353 (by decide) ?_ ?_
        · refine ze_iincN h (fun y9 => [some (.ref 1050), some (.ref 0), some (.ref 47), some (.int y9)]) 7 dL_law_1507 rfl zk_i_7 rfl (by decide) (fun _ => rfl) (fun x182 => ?_)
          refine ze_goto h 18 dL_law_1510 (by decide) ?_
          exact ih x182 s181
        · refine ze_iconst h 0 dL_law_1356 zk_i_0 ?_
          exact ze_zret hR rfl dL_law_1357
      refine ze_case 35 (fun q33_35 => ?_) (fun q33_35 => ?_)
      · refine ze_tabIn h 1358 dL_law_33 (by decide) (by decide) rfl (by decide) ?_
        refine ze_aload_n h dL_law_1358 rfl ?_
        refine ze_aload_n h dL_law_1359 rfl ?_
        refine ze_iload_n h dL_law_1360 rfl ?_
        refine ze_iconst h 1 dL_law_1361 zk_i_1 ?_
        refine ze_iadd h dL_law_1362 ?_
        refine ze_sald hs dL_law_1363 ?_
        refine ze_aload_n h dL_law_1364 rfl ?_
        refine ze_iload_n h dL_law_1365 rfl ?_
        refine ze_iconst h 2 dL_law_1366 zk_i_2 ?_
        refine ze_iadd h dL_law_1367 ?_
        refine ze_sald hs dL_law_1368 ?_
        refine ze_aload_n h dL_law_1369 rfl ?_
        refine ze_iload_n h dL_law_1370 rfl ?_
        refine ze_pc 1371 rfl ?_
        refine ze_iconst h 3 dL_law_1371 zk_i_3 ?_
        refine ze_iadd h dL_law_1372 ?_
        refine ze_sald hs dL_law_1373 ?_
        refine ze_aload_n h dL_law_1374 rfl ?_
        refine ze_iload_n h dL_law_1375 rfl ?_
        refine ze_iconst h 4 dL_law_1376 zk_i_4 ?_
        refine ze_iadd h dL_law_1377 ?_
        refine ze_sald hs dL_law_1378 ?_
        refine ze_aload_n h dL_law_1379 rfl ?_
        refine ze_iload_n h dL_law_1380 rfl ?_
        refine ze_iconst h 5 dL_law_1381 zk_i_5 ?_
        refine ze_iadd h dL_law_1382 ?_
        refine ze_sald hs dL_law_1383 ?_
        refine ze_callVi h (st := []) zce_X6_copy zi_X6_copy zs_X6_copy zm_L_160 rfl rfl rfl (Nat.le_of_ble_eq_true rfl) ⟨Nat.le_of_ble_eq_true rfl, Nat.le_of_ble_eq_true rfl⟩ (c_X6_copy l  (xs (zix (x5 + 1))) (xs (zix (x5 + 2))) (xs (zix (x5 + 3))) (xs (zix (x5 + 4))) (xs (zix (x5 + 5))) s6) rfl (Nat.le_of_ble_eq_true rfl) rfl dL_law_1384 (fun r183 s184 => ?_)
        refine ze_pc 1387 rfl ?_
        refine ze_aload_n h dL_law_1387 rfl ?_
        refine ze_aload_n h dL_law_1388 rfl ?_
        refine ze_iload_n h dL_law_1389 rfl ?_
        refine ze_iconst h 1 dL_law_1390 zk_i_1 ?_
        refine ze_iadd h dL_law_1391 ?_
        refine ze_sald hs dL_law_1392 ?_
        refine ze_aload_n h dL_law_1393 rfl ?_
        refine ze_iload_n h dL_law_1394 rfl ?_
        refine ze_iconst h 2 dL_law_1395 zk_i_2 ?_
        refine ze_iadd h dL_law_1396 ?_
        refine ze_sald hs dL_law_1397 ?_
        refine ze_aload_n h dL_law_1398 rfl ?_
        refine ze_iload_n h dL_law_1399 rfl ?_
        refine ze_iconst h 3 dL_law_1400 zk_i_3 ?_
        refine ze_pc 1401 rfl ?_
        refine ze_iadd h dL_law_1401 ?_
        refine ze_sald hs dL_law_1402 ?_
        refine ze_aload_n h dL_law_1403 rfl ?_
        refine ze_iload_n h dL_law_1404 rfl ?_
        refine ze_iconst h 4 dL_law_1405 zk_i_4 ?_
        refine ze_iadd h dL_law_1406 ?_
        refine ze_sald hs dL_law_1407 ?_
        refine ze_aload_n h dL_law_1408 rfl ?_
        refine ze_iload_n h dL_law_1409 rfl ?_
        refine ze_iconst h 5 dL_law_1410 zk_i_5 ?_
        refine ze_iadd h dL_law_1411 ?_
        refine ze_sald hs dL_law_1412 ?_
        refine ze_callVi h (st := [.int r183]) zce_X7_copy zi_X7_copy zs_X7_copy zm_L_164 rfl rfl rfl (Nat.le_of_ble_eq_true rfl) ⟨Nat.le_of_ble_eq_true rfl, Nat.le_of_ble_eq_true rfl⟩ (c_X7_copy l  (xs (zix (x5 + 1))) (xs (zix (x5 + 2))) (xs (zix (x5 + 3))) (xs (zix (x5 + 4))) (xs (zix (x5 + 5))) s184) rfl (Nat.le_of_ble_eq_true rfl) rfl dL_law_1413 (fun r185 s186 => ?_)
        refine ze_icmp_eq h 1507 dL_law_1416 (by decide) ?_ ?_
        · refine ze_iincN h (fun y9 => [some (.ref 1050), some (.ref 0), some (.ref 47), some (.int y9)]) 7 dL_law_1507 rfl zk_i_7 rfl (by decide) (fun _ => rfl) (fun x187 => ?_)
          refine ze_goto h 18 dL_law_1510 (by decide) ?_
          exact ih x187 s186
        · refine ze_iconst h 0 dL_law_1419 zk_i_0 ?_
          exact ze_zret hR rfl dL_law_1420
      refine ze_case 36 (fun q33_36 => ?_) (fun q33_36 => ?_)
      · refine ze_tabIn h 1421 dL_law_33 (by decide) (by decide) rfl (by decide) ?_
        refine ze_aload_n h dL_law_1421 rfl ?_
        refine ze_aload_n h dL_law_1422 rfl ?_
        refine ze_iload_n h dL_law_1423 rfl ?_
        refine ze_iconst h 1 dL_law_1424 zk_i_1 ?_
        refine ze_iadd h dL_law_1425 ?_
        refine ze_sald hs dL_law_1426 ?_
        refine ze_aload_n h dL_law_1427 rfl ?_
        refine ze_iload_n h dL_law_1428 rfl ?_
        refine ze_iconst h 2 dL_law_1429 zk_i_2 ?_
        refine ze_iadd h dL_law_1430 ?_
        refine ze_sald hs dL_law_1431 ?_
        refine ze_aload_n h dL_law_1432 rfl ?_
        refine ze_iload_n h dL_law_1433 rfl ?_
        refine ze_pc 1434 rfl ?_
        refine ze_iconst h 3 dL_law_1434 zk_i_3 ?_
        refine ze_iadd h dL_law_1435 ?_
        refine ze_sald hs dL_law_1436 ?_
        refine ze_aload_n h dL_law_1437 rfl ?_
        refine ze_iload_n h dL_law_1438 rfl ?_
        refine ze_iconst h 4 dL_law_1439 zk_i_4 ?_
        refine ze_iadd h dL_law_1440 ?_
        refine ze_sald hs dL_law_1441 ?_
        refine ze_callVi h (st := []) zce_X6_hutsBy zi_X6_hutsBy zs_X6_hutsBy zm_L_165 rfl rfl rfl (Nat.le_of_ble_eq_true rfl) ⟨Nat.le_of_ble_eq_true rfl, Nat.le_of_ble_eq_true rfl⟩ (c_X6_hutsBy l  (xs (zix (x5 + 1))) (xs (zix (x5 + 2))) (xs (zix (x5 + 3))) (xs (zix (x5 + 4))) s6) rfl (Nat.le_of_ble_eq_true rfl) rfl dL_law_1442 (fun r188 s189 => ?_)
        refine ze_aload_n h dL_law_1445 rfl ?_
        refine ze_aload_n h dL_law_1446 rfl ?_
        refine ze_iload_n h dL_law_1447 rfl ?_
        refine ze_iconst h 1 dL_law_1448 zk_i_1 ?_
        refine ze_iadd h dL_law_1449 ?_
        refine ze_pc 1450 rfl ?_
        refine ze_sald hs dL_law_1450 ?_
        refine ze_aload_n h dL_law_1451 rfl ?_
        refine ze_iload_n h dL_law_1452 rfl ?_
        refine ze_iconst h 2 dL_law_1453 zk_i_2 ?_
        refine ze_iadd h dL_law_1454 ?_
        refine ze_sald hs dL_law_1455 ?_
        refine ze_aload_n h dL_law_1456 rfl ?_
        refine ze_iload_n h dL_law_1457 rfl ?_
        refine ze_iconst h 3 dL_law_1458 zk_i_3 ?_
        refine ze_iadd h dL_law_1459 ?_
        refine ze_sald hs dL_law_1460 ?_
        refine ze_aload_n h dL_law_1461 rfl ?_
        refine ze_iload_n h dL_law_1462 rfl ?_
        refine ze_iconst h 4 dL_law_1463 zk_i_4 ?_
        refine ze_pc 1464 rfl ?_
        refine ze_iadd h dL_law_1464 ?_
        refine ze_sald hs dL_law_1465 ?_
        refine ze_callVi h (st := [.int r188]) zce_X7_hutsBy zi_X7_hutsBy zs_X7_hutsBy zm_L_168 rfl rfl rfl (Nat.le_of_ble_eq_true rfl) ⟨Nat.le_of_ble_eq_true rfl, Nat.le_of_ble_eq_true rfl⟩ (c_X7_hutsBy l  (xs (zix (x5 + 1))) (xs (zix (x5 + 2))) (xs (zix (x5 + 3))) (xs (zix (x5 + 4))) s189) rfl (Nat.le_of_ble_eq_true rfl) rfl dL_law_1466 (fun r190 s191 => ?_)
        refine ze_icmp_eq h 1507 dL_law_1469 (by decide) ?_ ?_
        · refine ze_iincN h (fun y9 => [some (.ref 1050), some (.ref 0), some (.ref 47), some (.int y9)]) 7 dL_law_1507 rfl zk_i_7 rfl (by decide) (fun _ => rfl) (fun x192 => ?_)
          refine ze_goto h 18 dL_law_1510 (by decide) ?_
          exact ih x192 s191
        · refine ze_iconst h 0 dL_law_1472 zk_i_0 ?_
          exact ze_zret hR rfl dL_law_1473
      refine ze_case 37 (fun q33_37 => ?_) (fun q33_37 => ?_)
      · refine ze_tabIn h 1474 dL_law_33 (by decide) (by decide) rfl (by decide) ?_
        refine ze_aload_n h dL_law_1474 rfl ?_
        refine ze_aload_n h dL_law_1475 rfl ?_
        refine ze_iload_n h dL_law_1476 rfl ?_
        refine ze_iconst h 1 dL_law_1477 zk_i_1 ?_
        refine ze_iadd h dL_law_1478 ?_
        refine ze_sald hs dL_law_1479 ?_
        refine ze_aload_n h dL_law_1480 rfl ?_
        refine ze_iload_n h dL_law_1481 rfl ?_
        refine ze_iconst h 2 dL_law_1482 zk_i_2 ?_
        refine ze_iadd h dL_law_1483 ?_
        refine ze_sald hs dL_law_1484 ?_
        refine ze_callVi h (st := []) zce_X6_taken zi_X6_taken zs_X6_taken zm_L_169 rfl rfl rfl (Nat.le_of_ble_eq_true rfl) ⟨Nat.le_of_ble_eq_true rfl, Nat.le_of_ble_eq_true rfl⟩ (c_X6_taken l  (xs (zix (x5 + 1))) (xs (zix (x5 + 2))) s6) rfl (Nat.le_of_ble_eq_true rfl) rfl dL_law_1485 (fun r193 s194 => ?_)
        refine ze_aload_n h dL_law_1488 rfl ?_
        refine ze_pc 1489 rfl ?_
        refine ze_aload_n h dL_law_1489 rfl ?_
        refine ze_iload_n h dL_law_1490 rfl ?_
        refine ze_iconst h 1 dL_law_1491 zk_i_1 ?_
        refine ze_iadd h dL_law_1492 ?_
        refine ze_sald hs dL_law_1493 ?_
        refine ze_aload_n h dL_law_1494 rfl ?_
        refine ze_iload_n h dL_law_1495 rfl ?_
        refine ze_iconst h 2 dL_law_1496 zk_i_2 ?_
        refine ze_iadd h dL_law_1497 ?_
        refine ze_sald hs dL_law_1498 ?_
        refine ze_callVi h (st := [.int r193]) zce_X7_taken zi_X7_taken zs_X7_taken zm_L_172 rfl rfl rfl (Nat.le_of_ble_eq_true rfl) ⟨Nat.le_of_ble_eq_true rfl, Nat.le_of_ble_eq_true rfl⟩ (c_X7_taken l  (xs (zix (x5 + 1))) (xs (zix (x5 + 2))) s194) rfl (Nat.le_of_ble_eq_true rfl) rfl dL_law_1499 (fun r195 s196 => ?_)
        refine ze_icmp_eq h 1507 dL_law_1502 (by decide) ?_ ?_
        · refine ze_iincN h (fun y9 => [some (.ref 1050), some (.ref 0), some (.ref 47), some (.int y9)]) 7 dL_law_1507 rfl zk_i_7 rfl (by decide) (fun _ => rfl) (fun x197 => ?_)
          refine ze_goto h 18 dL_law_1510 (by decide) ?_
          exact ih x197 s196
        · refine ze_iconst h 0 dL_law_1505 zk_i_0 ?_
          exact ze_zret hR rfl dL_law_1506
      refine ze_tabOut h 1507 dL_law_33 (by have z0 := lv_neT q33_0 (a := 0) rfl; have z1 := lv_neT q33_1 (a := 1) rfl; have z2 := lv_neT q33_2 (a := 2) rfl; have z3 := lv_neT q33_3 (a := 3) rfl; have z4 := lv_neT q33_4 (a := 4) rfl; have z5 := lv_neT q33_5 (a := 5) rfl; have z6 := lv_neT q33_6 (a := 6) rfl; have z7 := lv_neT q33_7 (a := 7) rfl; have z8 := lv_neT q33_8 (a := 8) rfl; have z9 := lv_neT q33_9 (a := 9) rfl; have z10 := lv_neT q33_10 (a := 10) rfl; have z11 := lv_neT q33_11 (a := 11) rfl; have z12 := lv_neT q33_12 (a := 12) rfl; have z13 := lv_neT q33_13 (a := 13) rfl; have z14 := lv_neT q33_14 (a := 14) rfl; have z15 := lv_neT q33_15 (a := 15) rfl; have z16 := lv_neT q33_16 (a := 16) rfl; have z17 := lv_neT q33_17 (a := 17) rfl; have z18 := lv_neT q33_18 (a := 18) rfl; have z19 := lv_neT q33_19 (a := 19) rfl; have z20 := lv_neT q33_20 (a := 20) rfl; have z21 := lv_neT q33_21 (a := 21) rfl; have z22 := lv_neT q33_22 (a := 22) rfl; have z23 := lv_neT q33_23 (a := 23) rfl; have z24 := lv_neT q33_24 (a := 24) rfl; have z25 := lv_neT q33_25 (a := 25) rfl; have z26 := lv_neT q33_26 (a := 26) rfl; have z27 := lv_neT q33_27 (a := 27) rfl; have z28 := lv_neT q33_28 (a := 28) rfl; have z29 := lv_neT q33_29 (a := 29) rfl; have z30 := lv_neT q33_30 (a := 30) rfl; have z31 := lv_neT q33_31 (a := 31) rfl; have z32 := lv_neT q33_32 (a := 32) rfl; have z33 := lv_neT q33_33 (a := 33) rfl; have z34 := lv_neT q33_34 (a := 34) rfl; have z35 := lv_neT q33_35 (a := 35) rfl; have z36 := lv_neT q33_36 (a := 36) rfl; have z37 := lv_neT q33_37 (a := 37) rfl; omega) (by decide) ?_
      refine ze_iincN h (fun y9 => [some (.ref 1050), some (.ref 0), some (.ref 47), some (.int y9)]) 7 dL_law_1507 rfl zk_i_7 rfl (by decide) (fun _ => rfl) (fun x198 => ?_)
      refine ze_goto h 18 dL_law_1510 (by decide) ?_
      exact ih x198 s6
set_option maxRecDepth 20000 in
set_option maxHeartbeats 4000000 in
theorem c_law {l : Launch} {G : zGT} {T : Option Value × zMem} (h : zOk G l cL_law RL 4 75 600000 7302250 false) (hR : zR G cL_law (some .boolean) T zFull 70 4264) {xs : Nat → Int32} {L9 : Nat} (hs : zSc G cL_law xs L9) (s0 : zMem) : zE G T (fun r : Int32 => some (.int r)) [] 0 0 0 [some (.ref 1050), none, none, none] [] s0 (f_law xs L9 s0) := by
  unfold f_law
  refine ze_new h tyX6 (ci := 4) (fs := [some none, some none, some none, some none, some none, some none, some none, none]) rfl zinw_X6 tyX6_ok zcl_L_7 zins_X6 zini_X6 rfl zfs_X6 rfl (Nat.le_of_ble_eq_true rfl) ⟨Nat.le_of_ble_eq_true rfl, Nat.le_of_ble_eq_true rfl⟩ dL_law_0 ?_
  refine ze_nmS (fun s1 => ?_)
  refine ze_lam zY_0 1 8 rfl rfl rfl ?_
  refine ze_dup h dL_law_3 rfl ?_
  refine ze_initI h (st := [.ref 0]) zce_X6_init zi_X6_init rfl zm_L_9 (Nat.le_of_ble_eq_true rfl) ⟨Nat.le_of_ble_eq_true rfl, Nat.le_of_ble_eq_true rfl⟩ (c_X6_init l s1) rfl (Nat.le_of_ble_eq_true rfl) rfl dL_law_4 (fun s2 => ?_)
  refine ze_lam zY_95 47 1933 rfl rfl rfl ?_
  refine ze_astore_n h [some (.ref 1050), some (.ref 0), none, none] dL_law_7 rfl (by decide) rfl ?_
  refine ze_new h tyX7 (ci := 5) (fs := [none, some none, some none, some none, some none, some none, some none, some none, none, none, some none, none, some none, some none, none, none, none, some none, some none, some none, some none, some none, some none, none, none, none, none, some none, some none, none, none, none, some none, some none, some none, some none, none]) rfl zinw_X7 tyX7_ok zcl_L_10 zins_X7 zini_X7 rfl zfs_X7 rfl (Nat.le_of_ble_eq_true rfl) ⟨Nat.le_of_ble_eq_true rfl, Nat.le_of_ble_eq_true rfl⟩ dL_law_8 ?_
  refine ze_nmS (fun s3 => ?_)
  refine ze_lam zY_96 48 1970 rfl rfl rfl ?_
  refine ze_dup h dL_law_11 rfl ?_
  refine ze_initI h (st := [.ref 47]) zce_X7_init zi_X7_init rfl zm_L_12 (Nat.le_of_ble_eq_true rfl) ⟨Nat.le_of_ble_eq_true rfl, Nat.le_of_ble_eq_true rfl⟩ (c_X7_init l s3) rfl (Nat.le_of_ble_eq_true rfl) rfl dL_law_12 (fun s4 => ?_)
  refine ze_lam zFull 70 4264 rfl rfl rfl ?_
  refine ze_astore_n h [some (.ref 1050), some (.ref 0), some (.ref 47), none] dL_law_15 rfl (by decide) rfl ?_
  refine ze_iconst h 0 dL_law_16 zk_i_0 ?_
  refine ze_istore_n h [some (.ref 1050), some (.ref 0), some (.ref 47), some (.int 0)] dL_law_17 rfl (by decide) rfl ?_
  exact e_law_18 h hR hs  zN 0 s4
