-- the cases of the law, 0
theorem lc_0 {i : Int} {bc bs : Nat} {g : mG} {d : mD} {Q : mQ} (hI : INV g d) (hi : 0 ≤ i ∧ i + 3 < d SCR (-1)) (hN : d SCR (-1) ≤ 2048) (hb : 48 ≤ bc ∧ 8234 ≤ bs) (h : ∀ g' d', INV g' d' → d' SCR = d SCR → MW mL_law (bc - 48) (bs - 8234) 3808 [(0, (5, 0)), (1, vR 0), (2, vR 65), (3, vR 74), (4, vR 75), (5, vI i)] [] g' d' Q) : MW mL_law bc bs 308 [(0, (5, 0)), (1, vR 0), (2, vR 65), (3, vR 74), (4, vR 75), (5, vI i)] [] g d Q := by
  refine mw_top (fun hT => ?_)
  have hG : 76 ≤ g.2.1 := hT.2
  refine mw_aload_n (v := vR 0) (pc' := 309) dL_law_308 rfl rfl (by simp) rfl ?_
  refine mw_aload_n (v := (5, 0)) (pc' := 310) dL_law_309 rfl rfl (by simp) rfl ?_
  refine mw_iload (pc' := 312) dL_law_310 rfl rfl ?_
  refine mw_iconst (pc' := 313) dL_law_312 rfl ⟨by decide, by decide⟩ ?_
  refine mw_iadd (pc' := 314) dL_law_313 rfl (ik (by omega)) ?_
  refine mw_xld (pc' := 315) dL_law_314 rfl ⟨by omega, by omega⟩ ?_
  refine mw_i2c (pc' := 316) dL_law_315 rfl ?_
  refine mw_aload_n (v := vR 74) (pc' := 317) dL_law_316 rfl rfl (by simp) rfl ?_
  refine mw_callSX (M' := mL_type) (A := [vR 0, vI ((d SCR (i + 1)) % 65536), vR 74]) (S := []) (pc' := 320) dL_law_317 rfl (goodW 587 (by decide +kernel) rfl) kM_L_type kS_L_type ⟨by decide, by decide, Nat.le_trans (by decide) hb.1, Nat.le_trans (by decide) hb.2, by decide⟩ rfl rfl (Nat.le_of_ble_eq_true rfl) (MM.mono ?_ (MM.scr (o_type (x := ((d SCR (i + 1)) % 65536)) (by omega) g d hI)))
  intro o g1 d1 hh
  obtain ⟨⟨k, ho, h1⟩, hs1⟩ := hh
  subst ho
  show MW mL_law (bc - 1) (bs - 6) 320 [(0, (5, 0)), (1, vR 0), (2, vR 65), (3, vR 74), (4, vR 75), (5, vI i)] [vI k] g1 d1 Q
  refine mw_top (fun hT1 => ?_)
  have hG1 : 76 ≤ g1.2.1 := hT1.2
  refine mw_istore (pc' := 322) (L' := [(0, (5, 0)), (1, vR 0), (2, vR 65), (3, vR 74), (4, vR 75), (5, vI i), (6, vI k)]) dL_law_320 rfl (by decide) rfl ?_
  refine mw_aload_n (v := vR 65) (pc' := 323) dL_law_322 rfl rfl (by simp) rfl ?_
  refine mw_aload_n (v := (5, 0)) (pc' := 324) dL_law_323 rfl rfl (by simp) rfl ?_
  refine mw_iload (pc' := 326) dL_law_324 rfl rfl ?_
  refine mw_iconst (pc' := 327) dL_law_326 rfl ⟨by decide, by decide⟩ ?_
  refine mw_iadd (pc' := 328) dL_law_327 rfl (ik (by omega)) ?_
  refine mw_xld (pc' := 329) dL_law_328 rfl (by rw [hs1]; exact ⟨by omega, by omega⟩) ?_
  rw [hs1]
  refine mw_i2c (pc' := 330) dL_law_329 rfl ?_
  refine mw_callV (M' := mX12_type) (A := [vI ((d SCR (i + 1)) % 65536)]) (A' := [vR 65, vI ((d SCR (i + 1)) % 65536)]) (S := []) (a := 65) (pc' := 333) dL_law_330 rfl (Or.inl (goodW 1691 (by decide +kernel) rfl)) kM_X12_type kV_X12_type ⟨by decide, by decide, Nat.zero_le _, Nat.zero_le _, by decide⟩ rfl rfl rfl ⟨by decide, by omega⟩ (by decide +kernel) (by decide +kernel) (Nat.le_of_ble_eq_true rfl) (h1 _ (fun b d2 hI2 hs2 h5 hb0 => ?_))
  show MW mL_law (bc - 1) (bs - 6) 333 [(0, (5, 0)), (1, vR 0), (2, vR 65), (3, vR 74), (4, vR 75), (5, vI i), (6, vI k)] [vI b] g1 d2 Q
  refine mw_istore (pc' := 335) (L' := [(0, (5, 0)), (1, vR 0), (2, vR 65), (3, vR 74), (4, vR 75), (5, vI i), (6, vI k), (7, vI b)]) dL_law_333 rfl (by decide) rfl ?_
  refine mw_aload_n (v := vR 65) (pc' := 336) dL_law_335 rfl rfl (by simp) rfl ?_
  refine mw_callV (M' := mX12_thrown) (A := []) (A' := [vR 65]) (S := []) (a := 65) (pc' := 339) dL_law_336 rfl (Or.inl (goodW 1679 (by decide +kernel) rfl)) kM_X12_thrown kV_X12_thrown ⟨by decide, by decide, Nat.zero_le _, Nat.zero_le _, by decide⟩ rfl rfl rfl ⟨by decide, by omega⟩ (by decide +kernel) (by decide +kernel) (Nat.le_of_ble_eq_true rfl) (eX12_thrown ?_)
  show MW mL_law (bc - 1) (bs - 6) 339 [(0, (5, 0)), (1, vR 0), (2, vR 65), (3, vR 74), (4, vR 75), (5, vI i), (6, vI k), (7, vI b)] [vI (d2 65 5)] g1 d2 Q
  rw [h5]
  refine mw_iload (pc' := 341) dL_law_339 rfl rfl ?_
  refine mw_icmp_eq (tgt := 346) (pc' := 344) dL_law_341 rfl (by decide) (fun _ => ?_) (fun c => absurd rfl c)
  refine mw_iload (pc' := 348) dL_law_346 rfl rfl ?_
  refine mw_if_ne (tgt := 363) (pc' := 351) dL_law_348 rfl (by decide) (fun c => ?_) (fun c => ?_)
  · refine mw_goto (pc' := 0) (tgt := 3808) dL_law_363 (by decide) ?_
    exact mw_loc (pc' := 0) [0, 1, 2, 3, 4, 5] rfl (mw_less ⟨by omega, by omega⟩ (h g1 d2 hI2 hs2))
  · have hb1 := hb0 c
    refine mw_aload_n (v := vR 74) (pc' := 352) dL_law_351 rfl rfl (by simp) rfl ?_
    refine mw_iconst (pc' := 353) dL_law_352 rfl ⟨by decide, by decide⟩ ?_
    refine mw_lald (pc' := 354) dL_law_353 rfl (by decide +kernel) ⟨by decide, by decide⟩ (by rw [show LN 74 = 1 by decide +kernel]; exact ⟨by decide, by decide⟩) ?_
    refine mw_iload (pc' := 356) dL_law_354 rfl rfl ?_
    refine mw_i2l (pc' := 357) dL_law_356 rfl ?_
    refine mw_lcmp (pc' := 358) dL_law_357 rfl ?_
    refine mw_if_eq (tgt := 363) (pc' := 361) dL_law_358 rfl (by decide) (fun _ => ?_) (fun c3 => absurd (by rw [hb1]; exact lCmp_rf) c3)
    refine mw_goto (pc' := 0) (tgt := 3808) dL_law_363 (by decide) ?_
    exact mw_loc (pc' := 0) [0, 1, 2, 3, 4, 5] rfl (mw_less ⟨by omega, by omega⟩ (h g1 d2 hI2 hs2))
theorem lc_1 {i : Int} {bc bs : Nat} {g : mG} {d : mD} {Q : mQ} (hI : INV g d) (hi : 0 ≤ i ∧ i + 3 < d SCR (-1)) (hN : d SCR (-1) ≤ 2048) (hb : 48 ≤ bc ∧ 8234 ≤ bs) (h : ∀ g' d', INV g' d' → d' SCR = d SCR → MW mL_law (bc - 48) (bs - 8234) 3808 [(0, (5, 0)), (1, vR 0), (2, vR 65), (3, vR 74), (4, vR 75), (5, vI i)] [] g' d' Q) : MW mL_law bc bs 366 [(0, (5, 0)), (1, vR 0), (2, vR 65), (3, vR 74), (4, vR 75), (5, vI i)] [] g d Q := by
  refine mw_top (fun hT => ?_)
  have hG : 76 ≤ g.2.1 := hT.2
  refine mw_aload_n (v := vR 0) (pc' := 367) dL_law_366 rfl rfl (by simp) rfl ?_
  refine mw_aload_n (v := vR 74) (pc' := 368) dL_law_367 rfl rfl (by simp) rfl ?_
  refine mw_callSX (M' := mL_addParty) (A := [vR 0, vR 74]) (S := []) (pc' := 371) dL_law_368 rfl (goodW 671 (by decide +kernel) rfl) kM_L_addParty kS_L_addParty ⟨by decide, by decide, Nat.le_trans (by decide) hb.1, Nat.le_trans (by decide) hb.2, by decide⟩ rfl rfl (Nat.le_of_ble_eq_true rfl) (MM.mono ?_ (MM.scr (o_addParty g d hI)))
  intro o g1 d1 hh
  obtain ⟨⟨k, ho, h1⟩, hs1⟩ := hh
  subst ho
  show MW mL_law (bc - 47) (bs - 8228) 371 [(0, (5, 0)), (1, vR 0), (2, vR 65), (3, vR 74), (4, vR 75), (5, vI i)] [vI k] g1 d1 Q
  refine mw_top (fun hT1 => ?_)
  have hG1 : 76 ≤ g1.2.1 := hT1.2
  refine mw_istore (pc' := 373) (L' := [(0, (5, 0)), (1, vR 0), (2, vR 65), (3, vR 74), (4, vR 75), (5, vI i), (6, vI k)]) dL_law_371 rfl (by decide) rfl ?_
  refine mw_aload_n (v := vR 65) (pc' := 374) dL_law_373 rfl rfl (by simp) rfl ?_
  refine mw_callV (M' := mX12_addParty) (A := []) (A' := [vR 65]) (S := []) (a := 65) (pc' := 377) dL_law_374 rfl (Or.inl (goodW 1695 (by decide +kernel) rfl)) kM_X12_addParty kV_X12_addParty ⟨by decide, by decide, Nat.zero_le _, Nat.zero_le _, by decide⟩ rfl rfl rfl ⟨by decide, by omega⟩ (by decide +kernel) (by decide +kernel) (Nat.le_of_ble_eq_true rfl) (h1 _ (fun b d2 hI2 hs2 h5 hb0 => ?_))
  show MW mL_law (bc - 47 - 0) (bs - 8228 - 0) 377 [(0, (5, 0)), (1, vR 0), (2, vR 65), (3, vR 74), (4, vR 75), (5, vI i), (6, vI k)] [vI b] g1 d2 Q
  rw [Nat.sub_zero (bc - 47), Nat.sub_zero (bs - 8228)]
  refine mw_istore (pc' := 379) (L' := [(0, (5, 0)), (1, vR 0), (2, vR 65), (3, vR 74), (4, vR 75), (5, vI i), (6, vI k), (7, vI b)]) dL_law_377 rfl (by decide) rfl ?_
  refine mw_aload_n (v := vR 65) (pc' := 380) dL_law_379 rfl rfl (by simp) rfl ?_
  refine mw_callV (M' := mX12_thrown) (A := []) (A' := [vR 65]) (S := []) (a := 65) (pc' := 383) dL_law_380 rfl (Or.inl (goodW 1679 (by decide +kernel) rfl)) kM_X12_thrown kV_X12_thrown ⟨by decide, by decide, Nat.zero_le _, Nat.zero_le _, by decide⟩ rfl rfl rfl ⟨by decide, by omega⟩ (by decide +kernel) (by decide +kernel) (Nat.le_of_ble_eq_true rfl) (eX12_thrown ?_)
  show MW mL_law (bc - 47 - 0) (bs - 8228 - 0) 383 [(0, (5, 0)), (1, vR 0), (2, vR 65), (3, vR 74), (4, vR 75), (5, vI i), (6, vI k), (7, vI b)] [vI (d2 65 5)] g1 d2 Q
  rw [Nat.sub_zero (bc - 47), Nat.sub_zero (bs - 8228)]
  rw [h5]
  refine mw_iload (pc' := 385) dL_law_383 rfl rfl ?_
  refine mw_icmp_eq (tgt := 390) (pc' := 388) dL_law_385 rfl (by decide) (fun _ => ?_) (fun c => absurd rfl c)
  refine mw_iload (pc' := 392) dL_law_390 rfl rfl ?_
  refine mw_if_ne (tgt := 407) (pc' := 395) dL_law_392 rfl (by decide) (fun c => ?_) (fun c => ?_)
  · refine mw_goto (pc' := 0) (tgt := 3808) dL_law_407 (by decide) ?_
    exact mw_loc (pc' := 0) [0, 1, 2, 3, 4, 5] rfl (mw_less ⟨by omega, by omega⟩ (h g1 d2 hI2 hs2))
  · have hb1 := hb0 c
    refine mw_aload_n (v := vR 74) (pc' := 396) dL_law_395 rfl rfl (by simp) rfl ?_
    refine mw_iconst (pc' := 397) dL_law_396 rfl ⟨by decide, by decide⟩ ?_
    refine mw_lald (pc' := 398) dL_law_397 rfl (by decide +kernel) ⟨by decide, by decide⟩ (by rw [show LN 74 = 1 by decide +kernel]; exact ⟨by decide, by decide⟩) ?_
    refine mw_iload (pc' := 400) dL_law_398 rfl rfl ?_
    refine mw_i2l (pc' := 401) dL_law_400 rfl ?_
    refine mw_lcmp (pc' := 402) dL_law_401 rfl ?_
    refine mw_if_eq (tgt := 407) (pc' := 405) dL_law_402 rfl (by decide) (fun _ => ?_) (fun c3 => absurd (by rw [hb1]; exact lCmp_rf) c3)
    refine mw_goto (pc' := 0) (tgt := 3808) dL_law_407 (by decide) ?_
    exact mw_loc (pc' := 0) [0, 1, 2, 3, 4, 5] rfl (mw_less ⟨by omega, by omega⟩ (h g1 d2 hI2 hs2))
theorem lc_2 {i : Int} {bc bs : Nat} {g : mG} {d : mD} {Q : mQ} (hI : INV g d) (hi : 0 ≤ i ∧ i + 3 < d SCR (-1)) (hN : d SCR (-1) ≤ 2048) (hb : 48 ≤ bc ∧ 8234 ≤ bs) (h : ∀ g' d', INV g' d' → d' SCR = d SCR → MW mL_law (bc - 48) (bs - 8234) 3808 [(0, (5, 0)), (1, vR 0), (2, vR 65), (3, vR 74), (4, vR 75), (5, vI i)] [] g' d' Q) : MW mL_law bc bs 410 [(0, (5, 0)), (1, vR 0), (2, vR 65), (3, vR 74), (4, vR 75), (5, vI i)] [] g d Q := by
  refine mw_top (fun hT => ?_)
  have hG : 76 ≤ g.2.1 := hT.2
  refine mw_aload_n (v := vR 0) (pc' := 411) dL_law_410 rfl rfl (by simp) rfl ?_
  refine mw_aload_n (v := vR 74) (pc' := 412) dL_law_411 rfl rfl (by simp) rfl ?_
  refine mw_callSX (M' := mL_findParty) (A := [vR 0, vR 74]) (S := []) (pc' := 415) dL_law_412 rfl (goodW 832 (by decide +kernel) rfl) kM_L_findParty kS_L_findParty ⟨by decide, by decide, Nat.le_trans (by decide) hb.1, Nat.le_trans (by decide) hb.2, by decide⟩ rfl rfl (Nat.le_of_ble_eq_true rfl) (MM.mono ?_ (MM.scr (o_findParty g d hI)))
  intro o g1 d1 hh
  obtain ⟨⟨k, ho, h1⟩, hs1⟩ := hh
  subst ho
  show MW mL_law (bc - 1) (bs - 6) 415 [(0, (5, 0)), (1, vR 0), (2, vR 65), (3, vR 74), (4, vR 75), (5, vI i)] [vI k] g1 d1 Q
  refine mw_top (fun hT1 => ?_)
  have hG1 : 76 ≤ g1.2.1 := hT1.2
  refine mw_istore (pc' := 417) (L' := [(0, (5, 0)), (1, vR 0), (2, vR 65), (3, vR 74), (4, vR 75), (5, vI i), (6, vI k)]) dL_law_415 rfl (by decide) rfl ?_
  refine mw_aload_n (v := vR 65) (pc' := 418) dL_law_417 rfl rfl (by simp) rfl ?_
  refine mw_callV (M' := mX12_findParty) (A := []) (A' := [vR 65]) (S := []) (a := 65) (pc' := 421) dL_law_418 rfl (Or.inl (goodW 1732 (by decide +kernel) rfl)) kM_X12_findParty kV_X12_findParty ⟨by decide, by decide, Nat.zero_le _, Nat.zero_le _, by decide⟩ rfl rfl rfl ⟨by decide, by omega⟩ (by decide +kernel) (by decide +kernel) (Nat.le_of_ble_eq_true rfl) (h1 _ (fun b d2 hI2 hs2 h5 hb0 => ?_))
  show MW mL_law (bc - 1) (bs - 6) 421 [(0, (5, 0)), (1, vR 0), (2, vR 65), (3, vR 74), (4, vR 75), (5, vI i), (6, vI k)] [vI b] g1 d2 Q
  refine mw_istore (pc' := 423) (L' := [(0, (5, 0)), (1, vR 0), (2, vR 65), (3, vR 74), (4, vR 75), (5, vI i), (6, vI k), (7, vI b)]) dL_law_421 rfl (by decide) rfl ?_
  refine mw_aload_n (v := vR 65) (pc' := 424) dL_law_423 rfl rfl (by simp) rfl ?_
  refine mw_callV (M' := mX12_thrown) (A := []) (A' := [vR 65]) (S := []) (a := 65) (pc' := 427) dL_law_424 rfl (Or.inl (goodW 1679 (by decide +kernel) rfl)) kM_X12_thrown kV_X12_thrown ⟨by decide, by decide, Nat.zero_le _, Nat.zero_le _, by decide⟩ rfl rfl rfl ⟨by decide, by omega⟩ (by decide +kernel) (by decide +kernel) (Nat.le_of_ble_eq_true rfl) (eX12_thrown ?_)
  show MW mL_law (bc - 1) (bs - 6) 427 [(0, (5, 0)), (1, vR 0), (2, vR 65), (3, vR 74), (4, vR 75), (5, vI i), (6, vI k), (7, vI b)] [vI (d2 65 5)] g1 d2 Q
  rw [h5]
  refine mw_iload (pc' := 429) dL_law_427 rfl rfl ?_
  refine mw_icmp_eq (tgt := 434) (pc' := 432) dL_law_429 rfl (by decide) (fun _ => ?_) (fun c => absurd rfl c)
  refine mw_iload (pc' := 436) dL_law_434 rfl rfl ?_
  refine mw_if_ne (tgt := 451) (pc' := 439) dL_law_436 rfl (by decide) (fun c => ?_) (fun c => ?_)
  · refine mw_goto (pc' := 0) (tgt := 3808) dL_law_451 (by decide) ?_
    exact mw_loc (pc' := 0) [0, 1, 2, 3, 4, 5] rfl (mw_less ⟨by omega, by omega⟩ (h g1 d2 hI2 hs2))
  · have hb1 := hb0 c
    refine mw_aload_n (v := vR 74) (pc' := 440) dL_law_439 rfl rfl (by simp) rfl ?_
    refine mw_iconst (pc' := 441) dL_law_440 rfl ⟨by decide, by decide⟩ ?_
    refine mw_lald (pc' := 442) dL_law_441 rfl (by decide +kernel) ⟨by decide, by decide⟩ (by rw [show LN 74 = 1 by decide +kernel]; exact ⟨by decide, by decide⟩) ?_
    refine mw_iload (pc' := 444) dL_law_442 rfl rfl ?_
    refine mw_i2l (pc' := 445) dL_law_444 rfl ?_
    refine mw_lcmp (pc' := 446) dL_law_445 rfl ?_
    refine mw_if_eq (tgt := 451) (pc' := 449) dL_law_446 rfl (by decide) (fun _ => ?_) (fun c3 => absurd (by rw [hb1]; exact lCmp_rf) c3)
    refine mw_goto (pc' := 0) (tgt := 3808) dL_law_451 (by decide) ?_
    exact mw_loc (pc' := 0) [0, 1, 2, 3, 4, 5] rfl (mw_less ⟨by omega, by omega⟩ (h g1 d2 hI2 hs2))
theorem lc_3 {i : Int} {bc bs : Nat} {g : mG} {d : mD} {Q : mQ} (hI : INV g d) (hi : 0 ≤ i ∧ i + 3 < d SCR (-1)) (hN : d SCR (-1) ≤ 2048) (hb : 48 ≤ bc ∧ 8234 ≤ bs) (h : ∀ g' d', INV g' d' → d' SCR = d SCR → MW mL_law (bc - 48) (bs - 8234) 3808 [(0, (5, 0)), (1, vR 0), (2, vR 65), (3, vR 74), (4, vR 75), (5, vI i)] [] g' d' Q) : MW mL_law bc bs 454 [(0, (5, 0)), (1, vR 0), (2, vR 65), (3, vR 74), (4, vR 75), (5, vI i)] [] g d Q := by
  refine mw_top (fun hT => ?_)
  have hG : 76 ≤ g.2.1 := hT.2
  refine mw_aload_n (v := vR 0) (pc' := 455) dL_law_454 rfl rfl (by simp) rfl ?_
  refine mw_callV (M' := mX11_parties) (A := []) (A' := [vR 0]) (S := []) (a := 0) (pc' := 458) dL_law_455 rfl (Or.inl (goodW 393 (by decide +kernel) rfl)) kM_X11_parties kV_X11_parties ⟨by decide, by decide, Nat.zero_le _, Nat.zero_le _, by decide⟩ rfl rfl rfl ⟨by decide, by omega⟩ (by decide +kernel) (by decide +kernel) (Nat.le_of_ble_eq_true rfl) (MM.mono ?_ (o_parties g d hI))
  intro o g1 d1 hh
  obtain ⟨k, ho, h1⟩ := hh
  subst ho
  show MW mL_law bc bs 458 [(0, (5, 0)), (1, vR 0), (2, vR 65), (3, vR 74), (4, vR 75), (5, vI i)] [vI k] g1 d1 Q
  refine mw_top (fun hT1 => ?_)
  have hG1 : 76 ≤ g1.2.1 := hT1.2
  refine mw_aload_n (v := vR 65) (pc' := 459) dL_law_458 rfl rfl (by simp) rfl ?_
  refine mw_callV (M' := mX12_parties) (A := []) (A' := [vR 65]) (S := [vI k]) (a := 65) (pc' := 462) dL_law_459 rfl (Or.inl (goodW 1736 (by decide +kernel) rfl)) kM_X12_parties kV_X12_parties ⟨by decide, by decide, Nat.zero_le _, Nat.zero_le _, by decide⟩ rfl rfl rfl ⟨by decide, by omega⟩ (by decide +kernel) (by decide +kernel) (Nat.le_of_ble_eq_true rfl) (h1 _ (fun b d2 hI2 hs2 hb0 => ?_))
  show MW mL_law bc bs 462 [(0, (5, 0)), (1, vR 0), (2, vR 65), (3, vR 74), (4, vR 75), (5, vI i)] [vI b, vI k] g1 d2 Q
  refine mw_icmp_eq (tgt := 3808) (pc' := 465) dL_law_462 rfl (by decide) (fun _ => ?_) (fun c => absurd hb0.symm c)
  exact mw_less ⟨by omega, by omega⟩ (h g1 d2 hI2 hs2)
theorem lc_4 {i : Int} {bc bs : Nat} {g : mG} {d : mD} {Q : mQ} (hI : INV g d) (hi : 0 ≤ i ∧ i + 3 < d SCR (-1)) (hN : d SCR (-1) ≤ 2048) (hb : 48 ≤ bc ∧ 8234 ≤ bs) (h : ∀ g' d', INV g' d' → d' SCR = d SCR → MW mL_law (bc - 48) (bs - 8234) 3808 [(0, (5, 0)), (1, vR 0), (2, vR 65), (3, vR 74), (4, vR 75), (5, vI i)] [] g' d' Q) : MW mL_law bc bs 467 [(0, (5, 0)), (1, vR 0), (2, vR 65), (3, vR 74), (4, vR 75), (5, vI i)] [] g d Q := by
  refine mw_top (fun hT => ?_)
  have hG : 76 ≤ g.2.1 := hT.2
  refine mw_aload_n (v := vR 0) (pc' := 468) dL_law_467 rfl rfl (by simp) rfl ?_
  refine mw_aload_n (v := (5, 0)) (pc' := 469) dL_law_468 rfl rfl (by simp) rfl ?_
  refine mw_iload (pc' := 471) dL_law_469 rfl rfl ?_
  refine mw_iconst (pc' := 472) dL_law_471 rfl ⟨by decide, by decide⟩ ?_
  refine mw_iadd (pc' := 473) dL_law_472 rfl (ik (by omega)) ?_
  refine mw_xld (pc' := 474) dL_law_473 rfl ⟨by omega, by omega⟩ ?_
  refine mw_aload_n (v := vR 74) (pc' := 475) dL_law_474 rfl rfl (by simp) rfl ?_
  refine mw_callSX (M' := mL_nameLength) (A := [vR 0, vI (d SCR (i + 1)), vR 74]) (S := []) (pc' := 478) dL_law_475 rfl (goodW 841 (by decide +kernel) rfl) kM_L_nameLength kS_L_nameLength ⟨by decide, by decide, Nat.le_trans (by decide) hb.1, Nat.le_trans (by decide) hb.2, by decide⟩ rfl rfl (Nat.le_of_ble_eq_true rfl) (MM.mono ?_ (MM.scr (o_nameLength g d hI)))
  intro o g1 d1 hh
  obtain ⟨⟨k, ho, h1⟩, hs1⟩ := hh
  subst ho
  show MW mL_law (bc - 1) (bs - 6) 478 [(0, (5, 0)), (1, vR 0), (2, vR 65), (3, vR 74), (4, vR 75), (5, vI i)] [vI k] g1 d1 Q
  refine mw_top (fun hT1 => ?_)
  have hG1 : 76 ≤ g1.2.1 := hT1.2
  refine mw_istore (pc' := 480) (L' := [(0, (5, 0)), (1, vR 0), (2, vR 65), (3, vR 74), (4, vR 75), (5, vI i), (6, vI k)]) dL_law_478 rfl (by decide) rfl ?_
  refine mw_aload_n (v := vR 65) (pc' := 481) dL_law_480 rfl rfl (by simp) rfl ?_
  refine mw_aload_n (v := (5, 0)) (pc' := 482) dL_law_481 rfl rfl (by simp) rfl ?_
  refine mw_iload (pc' := 484) dL_law_482 rfl rfl ?_
  refine mw_iconst (pc' := 485) dL_law_484 rfl ⟨by decide, by decide⟩ ?_
  refine mw_iadd (pc' := 486) dL_law_485 rfl (ik (by omega)) ?_
  refine mw_xld (pc' := 487) dL_law_486 rfl (by rw [hs1]; exact ⟨by omega, by omega⟩) ?_
  rw [hs1]
  refine mw_callV (M' := mX12_nameLength) (A := [vI (d SCR (i + 1))]) (A' := [vR 65, vI (d SCR (i + 1))]) (S := []) (a := 65) (pc' := 490) dL_law_487 rfl (Or.inl (goodW 1740 (by decide +kernel) rfl)) kM_X12_nameLength kV_X12_nameLength ⟨by decide, by decide, Nat.zero_le _, Nat.zero_le _, by decide⟩ rfl rfl rfl ⟨by decide, by omega⟩ (by decide +kernel) (by decide +kernel) (Nat.le_of_ble_eq_true rfl) (h1 _ (fun b d2 hI2 hs2 h5 hb0 => ?_))
  show MW mL_law (bc - 1) (bs - 6) 490 [(0, (5, 0)), (1, vR 0), (2, vR 65), (3, vR 74), (4, vR 75), (5, vI i), (6, vI k)] [vI b] g1 d2 Q
  refine mw_istore (pc' := 492) (L' := [(0, (5, 0)), (1, vR 0), (2, vR 65), (3, vR 74), (4, vR 75), (5, vI i), (6, vI k), (7, vI b)]) dL_law_490 rfl (by decide) rfl ?_
  refine mw_aload_n (v := vR 65) (pc' := 493) dL_law_492 rfl rfl (by simp) rfl ?_
  refine mw_callV (M' := mX12_thrown) (A := []) (A' := [vR 65]) (S := []) (a := 65) (pc' := 496) dL_law_493 rfl (Or.inl (goodW 1679 (by decide +kernel) rfl)) kM_X12_thrown kV_X12_thrown ⟨by decide, by decide, Nat.zero_le _, Nat.zero_le _, by decide⟩ rfl rfl rfl ⟨by decide, by omega⟩ (by decide +kernel) (by decide +kernel) (Nat.le_of_ble_eq_true rfl) (eX12_thrown ?_)
  show MW mL_law (bc - 1) (bs - 6) 496 [(0, (5, 0)), (1, vR 0), (2, vR 65), (3, vR 74), (4, vR 75), (5, vI i), (6, vI k), (7, vI b)] [vI (d2 65 5)] g1 d2 Q
  rw [h5]
  refine mw_iload (pc' := 498) dL_law_496 rfl rfl ?_
  refine mw_icmp_eq (tgt := 503) (pc' := 501) dL_law_498 rfl (by decide) (fun _ => ?_) (fun c => absurd rfl c)
  refine mw_iload (pc' := 505) dL_law_503 rfl rfl ?_
  refine mw_if_ne (tgt := 520) (pc' := 508) dL_law_505 rfl (by decide) (fun c => ?_) (fun c => ?_)
  · refine mw_goto (pc' := 0) (tgt := 3808) dL_law_520 (by decide) ?_
    exact mw_loc (pc' := 0) [0, 1, 2, 3, 4, 5] rfl (mw_less ⟨by omega, by omega⟩ (h g1 d2 hI2 hs2))
  · have hb1 := hb0 c
    refine mw_aload_n (v := vR 74) (pc' := 509) dL_law_508 rfl rfl (by simp) rfl ?_
    refine mw_iconst (pc' := 510) dL_law_509 rfl ⟨by decide, by decide⟩ ?_
    refine mw_lald (pc' := 511) dL_law_510 rfl (by decide +kernel) ⟨by decide, by decide⟩ (by rw [show LN 74 = 1 by decide +kernel]; exact ⟨by decide, by decide⟩) ?_
    refine mw_iload (pc' := 513) dL_law_511 rfl rfl ?_
    refine mw_i2l (pc' := 514) dL_law_513 rfl ?_
    refine mw_lcmp (pc' := 515) dL_law_514 rfl ?_
    refine mw_if_eq (tgt := 520) (pc' := 518) dL_law_515 rfl (by decide) (fun _ => ?_) (fun c3 => absurd (by rw [hb1]; exact lCmp_rf) c3)
    refine mw_goto (pc' := 0) (tgt := 3808) dL_law_520 (by decide) ?_
    exact mw_loc (pc' := 0) [0, 1, 2, 3, 4, 5] rfl (mw_less ⟨by omega, by omega⟩ (h g1 d2 hI2 hs2))
theorem lc_5 {i : Int} {bc bs : Nat} {g : mG} {d : mD} {Q : mQ} (hI : INV g d) (hi : 0 ≤ i ∧ i + 3 < d SCR (-1)) (hN : d SCR (-1) ≤ 2048) (hb : 48 ≤ bc ∧ 8234 ≤ bs) (h : ∀ g' d', INV g' d' → d' SCR = d SCR → MW mL_law (bc - 48) (bs - 8234) 3808 [(0, (5, 0)), (1, vR 0), (2, vR 65), (3, vR 74), (4, vR 75), (5, vI i)] [] g' d' Q) : MW mL_law bc bs 523 [(0, (5, 0)), (1, vR 0), (2, vR 65), (3, vR 74), (4, vR 75), (5, vI i)] [] g d Q := by
  refine mw_top (fun hT => ?_)
  have hG : 76 ≤ g.2.1 := hT.2
  refine mw_aload_n (v := vR 0) (pc' := 524) dL_law_523 rfl rfl (by simp) rfl ?_
  refine mw_aload_n (v := (5, 0)) (pc' := 525) dL_law_524 rfl rfl (by simp) rfl ?_
  refine mw_iload (pc' := 527) dL_law_525 rfl rfl ?_
  refine mw_iconst (pc' := 528) dL_law_527 rfl ⟨by decide, by decide⟩ ?_
  refine mw_iadd (pc' := 529) dL_law_528 rfl (ik (by omega)) ?_
  refine mw_xld (pc' := 530) dL_law_529 rfl ⟨by omega, by omega⟩ ?_
  refine mw_aload_n (v := (5, 0)) (pc' := 531) dL_law_530 rfl rfl (by simp) rfl ?_
  refine mw_iload (pc' := 533) dL_law_531 rfl rfl ?_
  refine mw_iconst (pc' := 534) dL_law_533 rfl ⟨by decide, by decide⟩ ?_
  refine mw_iadd (pc' := 535) dL_law_534 rfl (ik (by omega)) ?_
  refine mw_xld (pc' := 536) dL_law_535 rfl ⟨by omega, by omega⟩ ?_
  refine mw_aload_n (v := vR 74) (pc' := 537) dL_law_536 rfl rfl (by simp) rfl ?_
  refine mw_callSX (M' := mL_nameCodePoint) (A := [vR 0, vI (d SCR (i + 1)), vI (d SCR (i + 2)), vR 74]) (S := []) (pc' := 540) dL_law_537 rfl (goodW 878 (by decide +kernel) rfl) kM_L_nameCodePoint kS_L_nameCodePoint ⟨by decide, by decide, Nat.le_trans (by decide) hb.1, Nat.le_trans (by decide) hb.2, by decide⟩ rfl rfl (Nat.le_of_ble_eq_true rfl) (MM.mono ?_ (MM.scr (o_nameCodePoint g d hI)))
  intro o g1 d1 hh
  obtain ⟨⟨k, ho, h1⟩, hs1⟩ := hh
  subst ho
  show MW mL_law (bc - 2) (bs - 12) 540 [(0, (5, 0)), (1, vR 0), (2, vR 65), (3, vR 74), (4, vR 75), (5, vI i)] [vI k] g1 d1 Q
  refine mw_top (fun hT1 => ?_)
  have hG1 : 76 ≤ g1.2.1 := hT1.2
  refine mw_istore (pc' := 542) (L' := [(0, (5, 0)), (1, vR 0), (2, vR 65), (3, vR 74), (4, vR 75), (5, vI i), (6, vI k)]) dL_law_540 rfl (by decide) rfl ?_
  refine mw_aload_n (v := vR 65) (pc' := 543) dL_law_542 rfl rfl (by simp) rfl ?_
  refine mw_aload_n (v := (5, 0)) (pc' := 544) dL_law_543 rfl rfl (by simp) rfl ?_
  refine mw_iload (pc' := 546) dL_law_544 rfl rfl ?_
  refine mw_iconst (pc' := 547) dL_law_546 rfl ⟨by decide, by decide⟩ ?_
  refine mw_iadd (pc' := 548) dL_law_547 rfl (ik (by omega)) ?_
  refine mw_xld (pc' := 549) dL_law_548 rfl (by rw [hs1]; exact ⟨by omega, by omega⟩) ?_
  rw [hs1]
  refine mw_aload_n (v := (5, 0)) (pc' := 550) dL_law_549 rfl rfl (by simp) rfl ?_
  refine mw_iload (pc' := 552) dL_law_550 rfl rfl ?_
  refine mw_iconst (pc' := 553) dL_law_552 rfl ⟨by decide, by decide⟩ ?_
  refine mw_iadd (pc' := 554) dL_law_553 rfl (ik (by omega)) ?_
  refine mw_xld (pc' := 555) dL_law_554 rfl (by rw [hs1]; exact ⟨by omega, by omega⟩) ?_
  rw [hs1]
  refine mw_callV (M' := mX12_nameCodePoint) (A := [vI (d SCR (i + 1)), vI (d SCR (i + 2))]) (A' := [vR 65, vI (d SCR (i + 1)), vI (d SCR (i + 2))]) (S := []) (a := 65) (pc' := 558) dL_law_555 rfl (Or.inl (goodW 1748 (by decide +kernel) rfl)) kM_X12_nameCodePoint kV_X12_nameCodePoint ⟨by decide, by decide, Nat.zero_le _, Nat.zero_le _, by decide⟩ rfl rfl rfl ⟨by decide, by omega⟩ (by decide +kernel) (by decide +kernel) (Nat.le_of_ble_eq_true rfl) (h1 _ (fun b d2 hI2 hs2 h5 hb0 => ?_))
  show MW mL_law (bc - 2) (bs - 12) 558 [(0, (5, 0)), (1, vR 0), (2, vR 65), (3, vR 74), (4, vR 75), (5, vI i), (6, vI k)] [vI b] g1 d2 Q
  refine mw_istore (pc' := 560) (L' := [(0, (5, 0)), (1, vR 0), (2, vR 65), (3, vR 74), (4, vR 75), (5, vI i), (6, vI k), (7, vI b)]) dL_law_558 rfl (by decide) rfl ?_
  refine mw_aload_n (v := vR 65) (pc' := 561) dL_law_560 rfl rfl (by simp) rfl ?_
  refine mw_callV (M' := mX12_thrown) (A := []) (A' := [vR 65]) (S := []) (a := 65) (pc' := 564) dL_law_561 rfl (Or.inl (goodW 1679 (by decide +kernel) rfl)) kM_X12_thrown kV_X12_thrown ⟨by decide, by decide, Nat.zero_le _, Nat.zero_le _, by decide⟩ rfl rfl rfl ⟨by decide, by omega⟩ (by decide +kernel) (by decide +kernel) (Nat.le_of_ble_eq_true rfl) (eX12_thrown ?_)
  show MW mL_law (bc - 2) (bs - 12) 564 [(0, (5, 0)), (1, vR 0), (2, vR 65), (3, vR 74), (4, vR 75), (5, vI i), (6, vI k), (7, vI b)] [vI (d2 65 5)] g1 d2 Q
  rw [h5]
  refine mw_iload (pc' := 566) dL_law_564 rfl rfl ?_
  refine mw_icmp_eq (tgt := 571) (pc' := 569) dL_law_566 rfl (by decide) (fun _ => ?_) (fun c => absurd rfl c)
  refine mw_iload (pc' := 573) dL_law_571 rfl rfl ?_
  refine mw_if_ne (tgt := 588) (pc' := 576) dL_law_573 rfl (by decide) (fun c => ?_) (fun c => ?_)
  · refine mw_goto (pc' := 0) (tgt := 3808) dL_law_588 (by decide) ?_
    exact mw_loc (pc' := 0) [0, 1, 2, 3, 4, 5] rfl (mw_less ⟨by omega, by omega⟩ (h g1 d2 hI2 hs2))
  · have hb1 := hb0 c
    refine mw_aload_n (v := vR 74) (pc' := 577) dL_law_576 rfl rfl (by simp) rfl ?_
    refine mw_iconst (pc' := 578) dL_law_577 rfl ⟨by decide, by decide⟩ ?_
    refine mw_lald (pc' := 579) dL_law_578 rfl (by decide +kernel) ⟨by decide, by decide⟩ (by rw [show LN 74 = 1 by decide +kernel]; exact ⟨by decide, by decide⟩) ?_
    refine mw_iload (pc' := 581) dL_law_579 rfl rfl ?_
    refine mw_i2l (pc' := 582) dL_law_581 rfl ?_
    refine mw_lcmp (pc' := 583) dL_law_582 rfl ?_
    refine mw_if_eq (tgt := 588) (pc' := 586) dL_law_583 rfl (by decide) (fun _ => ?_) (fun c3 => absurd (by rw [hb1]; exact lCmp_rf) c3)
    refine mw_goto (pc' := 0) (tgt := 3808) dL_law_588 (by decide) ?_
    exact mw_loc (pc' := 0) [0, 1, 2, 3, 4, 5] rfl (mw_less ⟨by omega, by omega⟩ (h g1 d2 hI2 hs2))
theorem lc_6 {i : Int} {bc bs : Nat} {g : mG} {d : mD} {Q : mQ} (hI : INV g d) (hi : 0 ≤ i ∧ i + 3 < d SCR (-1)) (hN : d SCR (-1) ≤ 2048) (hb : 48 ≤ bc ∧ 8234 ≤ bs) (h : ∀ g' d', INV g' d' → d' SCR = d SCR → MW mL_law (bc - 48) (bs - 8234) 3808 [(0, (5, 0)), (1, vR 0), (2, vR 65), (3, vR 74), (4, vR 75), (5, vI i)] [] g' d' Q) : MW mL_law bc bs 591 [(0, (5, 0)), (1, vR 0), (2, vR 65), (3, vR 74), (4, vR 75), (5, vI i)] [] g d Q := by
  refine mw_top (fun hT => ?_)
  have hG : 76 ≤ g.2.1 := hT.2
  refine mw_aload_n (v := vR 0) (pc' := 592) dL_law_591 rfl rfl (by simp) rfl ?_
  refine mw_aload_n (v := (5, 0)) (pc' := 593) dL_law_592 rfl rfl (by simp) rfl ?_
  refine mw_iload (pc' := 595) dL_law_593 rfl rfl ?_
  refine mw_iconst (pc' := 596) dL_law_595 rfl ⟨by decide, by decide⟩ ?_
  refine mw_iadd (pc' := 597) dL_law_596 rfl (ik (by omega)) ?_
  refine mw_xld (pc' := 598) dL_law_597 rfl ⟨by omega, by omega⟩ ?_
  refine mw_aload_n (v := vR 74) (pc' := 599) dL_law_598 rfl rfl (by simp) rfl ?_
  refine mw_callSX (M' := mL_writeNameReversed) (A := [vR 0, vI (d SCR (i + 1)), vR 74]) (S := []) (pc' := 602) dL_law_599 rfl (goodW 886 (by decide +kernel) rfl) kM_L_writeNameReversed kS_L_writeNameReversed ⟨by decide, by decide, Nat.le_trans (by decide) hb.1, Nat.le_trans (by decide) hb.2, by decide⟩ rfl rfl (Nat.le_of_ble_eq_true rfl) (MM.mono ?_ (MM.scr (o_writeNameReversed g d hI)))
  intro o g1 d1 hh
  obtain ⟨⟨k, ho, h1⟩, hs1⟩ := hh
  subst ho
  show MW mL_law (bc - 1) (bs - 6) 602 [(0, (5, 0)), (1, vR 0), (2, vR 65), (3, vR 74), (4, vR 75), (5, vI i)] [vI k] g1 d1 Q
  refine mw_top (fun hT1 => ?_)
  have hG1 : 76 ≤ g1.2.1 := hT1.2
  refine mw_istore (pc' := 604) (L' := [(0, (5, 0)), (1, vR 0), (2, vR 65), (3, vR 74), (4, vR 75), (5, vI i), (6, vI k)]) dL_law_602 rfl (by decide) rfl ?_
  refine mw_aload_n (v := vR 65) (pc' := 605) dL_law_604 rfl rfl (by simp) rfl ?_
  refine mw_aload_n (v := (5, 0)) (pc' := 606) dL_law_605 rfl rfl (by simp) rfl ?_
  refine mw_iload (pc' := 608) dL_law_606 rfl rfl ?_
  refine mw_iconst (pc' := 609) dL_law_608 rfl ⟨by decide, by decide⟩ ?_
  refine mw_iadd (pc' := 610) dL_law_609 rfl (ik (by omega)) ?_
  refine mw_xld (pc' := 611) dL_law_610 rfl (by rw [hs1]; exact ⟨by omega, by omega⟩) ?_
  rw [hs1]
  refine mw_callV (M' := mX12_writeNameReversed) (A := [vI (d SCR (i + 1))]) (A' := [vR 65, vI (d SCR (i + 1))]) (S := []) (a := 65) (pc' := 614) dL_law_611 rfl (Or.inl (goodW 1752 (by decide +kernel) rfl)) kM_X12_writeNameReversed kV_X12_writeNameReversed ⟨by decide, by decide, Nat.zero_le _, Nat.zero_le _, by decide⟩ rfl rfl rfl ⟨by decide, by omega⟩ (by decide +kernel) (by decide +kernel) (Nat.le_of_ble_eq_true rfl) (h1 _ (fun b d2 hI2 hs2 h5 hb0 => ?_))
  show MW mL_law (bc - 1) (bs - 6) 614 [(0, (5, 0)), (1, vR 0), (2, vR 65), (3, vR 74), (4, vR 75), (5, vI i), (6, vI k)] [vI b] g1 d2 Q
  refine mw_istore (pc' := 616) (L' := [(0, (5, 0)), (1, vR 0), (2, vR 65), (3, vR 74), (4, vR 75), (5, vI i), (6, vI k), (7, vI b)]) dL_law_614 rfl (by decide) rfl ?_
  refine mw_aload_n (v := vR 65) (pc' := 617) dL_law_616 rfl rfl (by simp) rfl ?_
  refine mw_callV (M' := mX12_thrown) (A := []) (A' := [vR 65]) (S := []) (a := 65) (pc' := 620) dL_law_617 rfl (Or.inl (goodW 1679 (by decide +kernel) rfl)) kM_X12_thrown kV_X12_thrown ⟨by decide, by decide, Nat.zero_le _, Nat.zero_le _, by decide⟩ rfl rfl rfl ⟨by decide, by omega⟩ (by decide +kernel) (by decide +kernel) (Nat.le_of_ble_eq_true rfl) (eX12_thrown ?_)
  show MW mL_law (bc - 1) (bs - 6) 620 [(0, (5, 0)), (1, vR 0), (2, vR 65), (3, vR 74), (4, vR 75), (5, vI i), (6, vI k), (7, vI b)] [vI (d2 65 5)] g1 d2 Q
  rw [h5]
  refine mw_iload (pc' := 622) dL_law_620 rfl rfl ?_
  refine mw_icmp_eq (tgt := 627) (pc' := 625) dL_law_622 rfl (by decide) (fun _ => ?_) (fun c => absurd rfl c)
  refine mw_iload (pc' := 629) dL_law_627 rfl rfl ?_
  refine mw_if_ne (tgt := 644) (pc' := 632) dL_law_629 rfl (by decide) (fun c => ?_) (fun c => ?_)
  · refine mw_goto (pc' := 0) (tgt := 3808) dL_law_644 (by decide) ?_
    exact mw_loc (pc' := 0) [0, 1, 2, 3, 4, 5] rfl (mw_less ⟨by omega, by omega⟩ (h g1 d2 hI2 hs2))
  · have hb1 := hb0 c
    refine mw_aload_n (v := vR 74) (pc' := 633) dL_law_632 rfl rfl (by simp) rfl ?_
    refine mw_iconst (pc' := 634) dL_law_633 rfl ⟨by decide, by decide⟩ ?_
    refine mw_lald (pc' := 635) dL_law_634 rfl (by decide +kernel) ⟨by decide, by decide⟩ (by rw [show LN 74 = 1 by decide +kernel]; exact ⟨by decide, by decide⟩) ?_
    refine mw_iload (pc' := 637) dL_law_635 rfl rfl ?_
    refine mw_i2l (pc' := 638) dL_law_637 rfl ?_
    refine mw_lcmp (pc' := 639) dL_law_638 rfl ?_
    refine mw_if_eq (tgt := 644) (pc' := 642) dL_law_639 rfl (by decide) (fun _ => ?_) (fun c3 => absurd (by rw [hb1]; exact lCmp_rf) c3)
    refine mw_goto (pc' := 0) (tgt := 3808) dL_law_644 (by decide) ?_
    exact mw_loc (pc' := 0) [0, 1, 2, 3, 4, 5] rfl (mw_less ⟨by omega, by omega⟩ (h g1 d2 hI2 hs2))
theorem lc_7 {i : Int} {bc bs : Nat} {g : mG} {d : mD} {Q : mQ} (hI : INV g d) (hi : 0 ≤ i ∧ i + 3 < d SCR (-1)) (hN : d SCR (-1) ≤ 2048) (hb : 48 ≤ bc ∧ 8234 ≤ bs) (h : ∀ g' d', INV g' d' → d' SCR = d SCR → MW mL_law (bc - 48) (bs - 8234) 3808 [(0, (5, 0)), (1, vR 0), (2, vR 65), (3, vR 74), (4, vR 75), (5, vI i)] [] g' d' Q) : MW mL_law bc bs 647 [(0, (5, 0)), (1, vR 0), (2, vR 65), (3, vR 74), (4, vR 75), (5, vI i)] [] g d Q := by
  refine mw_top (fun hT => ?_)
  have hG : 76 ≤ g.2.1 := hT.2
  refine mw_aload_n (v := vR 0) (pc' := 648) dL_law_647 rfl rfl (by simp) rfl ?_
  refine mw_callV (M' := mX11_today) (A := []) (A' := [vR 0]) (S := []) (a := 0) (pc' := 651) dL_law_648 rfl (Or.inl (goodW 397 (by decide +kernel) rfl)) kM_X11_today kV_X11_today ⟨by decide, by decide, Nat.zero_le _, Nat.zero_le _, by decide⟩ rfl rfl rfl ⟨by decide, by omega⟩ (by decide +kernel) (by decide +kernel) (Nat.le_of_ble_eq_true rfl) (MM.mono ?_ (o_today g d hI))
  intro o g1 d1 hh
  obtain ⟨k, ho, h1⟩ := hh
  subst ho
  show MW mL_law bc bs 651 [(0, (5, 0)), (1, vR 0), (2, vR 65), (3, vR 74), (4, vR 75), (5, vI i)] [vI k] g1 d1 Q
  refine mw_top (fun hT1 => ?_)
  have hG1 : 76 ≤ g1.2.1 := hT1.2
  refine mw_aload_n (v := vR 65) (pc' := 652) dL_law_651 rfl rfl (by simp) rfl ?_
  refine mw_callV (M' := mX12_today) (A := []) (A' := [vR 65]) (S := [vI k]) (a := 65) (pc' := 655) dL_law_652 rfl (Or.inl (goodW 1760 (by decide +kernel) rfl)) kM_X12_today kV_X12_today ⟨by decide, by decide, Nat.zero_le _, Nat.zero_le _, by decide⟩ rfl rfl rfl ⟨by decide, by omega⟩ (by decide +kernel) (by decide +kernel) (Nat.le_of_ble_eq_true rfl) (h1 _ (fun b d2 hI2 hs2 hb0 => ?_))
  show MW mL_law bc bs 655 [(0, (5, 0)), (1, vR 0), (2, vR 65), (3, vR 74), (4, vR 75), (5, vI i)] [vI b, vI k] g1 d2 Q
  refine mw_icmp_eq (tgt := 3808) (pc' := 658) dL_law_655 rfl (by decide) (fun _ => ?_) (fun c => absurd hb0.symm c)
  exact mw_less ⟨by omega, by omega⟩ (h g1 d2 hI2 hs2)
theorem lc_8 {i : Int} {bc bs : Nat} {g : mG} {d : mD} {Q : mQ} (hI : INV g d) (hi : 0 ≤ i ∧ i + 3 < d SCR (-1)) (hN : d SCR (-1) ≤ 2048) (hb : 48 ≤ bc ∧ 8234 ≤ bs) (h : ∀ g' d', INV g' d' → d' SCR = d SCR → MW mL_law (bc - 48) (bs - 8234) 3808 [(0, (5, 0)), (1, vR 0), (2, vR 65), (3, vR 74), (4, vR 75), (5, vI i)] [] g' d' Q) : MW mL_law bc bs 660 [(0, (5, 0)), (1, vR 0), (2, vR 65), (3, vR 74), (4, vR 75), (5, vI i)] [] g d Q := by
  refine mw_top (fun hT => ?_)
  have hG : 76 ≤ g.2.1 := hT.2
  refine mw_aload_n (v := vR 0) (pc' := 661) dL_law_660 rfl rfl (by simp) rfl ?_
  refine mw_aload_n (v := (5, 0)) (pc' := 662) dL_law_661 rfl rfl (by simp) rfl ?_
  refine mw_iload (pc' := 664) dL_law_662 rfl rfl ?_
  refine mw_iconst (pc' := 665) dL_law_664 rfl ⟨by decide, by decide⟩ ?_
  refine mw_iadd (pc' := 666) dL_law_665 rfl (ik (by omega)) ?_
  refine mw_xld (pc' := 667) dL_law_666 rfl ⟨by omega, by omega⟩ ?_
  refine mw_aload_n (v := vR 74) (pc' := 668) dL_law_667 rfl rfl (by simp) rfl ?_
  refine mw_callSX (M' := mL_advance) (A := [vR 0, vI (d SCR (i + 1)), vR 74]) (S := []) (pc' := 671) dL_law_668 rfl (goodW 898 (by decide +kernel) rfl) kM_L_advance kS_L_advance ⟨by decide, by decide, Nat.le_trans (by decide) hb.1, Nat.le_trans (by decide) hb.2, by decide⟩ rfl rfl (Nat.le_of_ble_eq_true rfl) (MM.mono ?_ (MM.scr (o_advance g d hI)))
  intro o g1 d1 hh
  obtain ⟨⟨k, ho, h1⟩, hs1⟩ := hh
  subst ho
  show MW mL_law (bc - 47) (bs - 8228) 671 [(0, (5, 0)), (1, vR 0), (2, vR 65), (3, vR 74), (4, vR 75), (5, vI i)] [vI k] g1 d1 Q
  refine mw_top (fun hT1 => ?_)
  have hG1 : 76 ≤ g1.2.1 := hT1.2
  refine mw_istore (pc' := 673) (L' := [(0, (5, 0)), (1, vR 0), (2, vR 65), (3, vR 74), (4, vR 75), (5, vI i), (6, vI k)]) dL_law_671 rfl (by decide) rfl ?_
  refine mw_aload_n (v := vR 65) (pc' := 674) dL_law_673 rfl rfl (by simp) rfl ?_
  refine mw_aload_n (v := (5, 0)) (pc' := 675) dL_law_674 rfl rfl (by simp) rfl ?_
  refine mw_iload (pc' := 677) dL_law_675 rfl rfl ?_
  refine mw_iconst (pc' := 678) dL_law_677 rfl ⟨by decide, by decide⟩ ?_
  refine mw_iadd (pc' := 679) dL_law_678 rfl (ik (by omega)) ?_
  refine mw_xld (pc' := 680) dL_law_679 rfl (by rw [hs1]; exact ⟨by omega, by omega⟩) ?_
  rw [hs1]
  refine mw_callV (M' := mX12_advance) (A := [vI (d SCR (i + 1))]) (A' := [vR 65, vI (d SCR (i + 1))]) (S := []) (a := 65) (pc' := 683) dL_law_680 rfl (Or.inl (goodW 1764 (by decide +kernel) rfl)) kM_X12_advance kV_X12_advance ⟨by decide, by decide, Nat.zero_le _, Nat.zero_le _, by decide⟩ rfl rfl rfl ⟨by decide, by omega⟩ (by decide +kernel) (by decide +kernel) (Nat.le_of_ble_eq_true rfl) (h1 _ (fun b d2 hI2 hs2 h5 hb0 => ?_))
  show MW mL_law (bc - 47 - 0) (bs - 8228 - 0) 683 [(0, (5, 0)), (1, vR 0), (2, vR 65), (3, vR 74), (4, vR 75), (5, vI i), (6, vI k)] [vI b] g1 d2 Q
  rw [Nat.sub_zero (bc - 47), Nat.sub_zero (bs - 8228)]
  refine mw_istore (pc' := 685) (L' := [(0, (5, 0)), (1, vR 0), (2, vR 65), (3, vR 74), (4, vR 75), (5, vI i), (6, vI k), (7, vI b)]) dL_law_683 rfl (by decide) rfl ?_
  refine mw_aload_n (v := vR 65) (pc' := 686) dL_law_685 rfl rfl (by simp) rfl ?_
  refine mw_callV (M' := mX12_thrown) (A := []) (A' := [vR 65]) (S := []) (a := 65) (pc' := 689) dL_law_686 rfl (Or.inl (goodW 1679 (by decide +kernel) rfl)) kM_X12_thrown kV_X12_thrown ⟨by decide, by decide, Nat.zero_le _, Nat.zero_le _, by decide⟩ rfl rfl rfl ⟨by decide, by omega⟩ (by decide +kernel) (by decide +kernel) (Nat.le_of_ble_eq_true rfl) (eX12_thrown ?_)
  show MW mL_law (bc - 47 - 0) (bs - 8228 - 0) 689 [(0, (5, 0)), (1, vR 0), (2, vR 65), (3, vR 74), (4, vR 75), (5, vI i), (6, vI k), (7, vI b)] [vI (d2 65 5)] g1 d2 Q
  rw [Nat.sub_zero (bc - 47), Nat.sub_zero (bs - 8228)]
  rw [h5]
  refine mw_iload (pc' := 691) dL_law_689 rfl rfl ?_
  refine mw_icmp_eq (tgt := 696) (pc' := 694) dL_law_691 rfl (by decide) (fun _ => ?_) (fun c => absurd rfl c)
  refine mw_iload (pc' := 698) dL_law_696 rfl rfl ?_
  refine mw_if_ne (tgt := 713) (pc' := 701) dL_law_698 rfl (by decide) (fun c => ?_) (fun c => ?_)
  · refine mw_goto (pc' := 0) (tgt := 3808) dL_law_713 (by decide) ?_
    exact mw_loc (pc' := 0) [0, 1, 2, 3, 4, 5] rfl (mw_less ⟨by omega, by omega⟩ (h g1 d2 hI2 hs2))
  · have hb1 := hb0 c
    refine mw_aload_n (v := vR 74) (pc' := 702) dL_law_701 rfl rfl (by simp) rfl ?_
    refine mw_iconst (pc' := 703) dL_law_702 rfl ⟨by decide, by decide⟩ ?_
    refine mw_lald (pc' := 704) dL_law_703 rfl (by decide +kernel) ⟨by decide, by decide⟩ (by rw [show LN 74 = 1 by decide +kernel]; exact ⟨by decide, by decide⟩) ?_
    refine mw_iload (pc' := 706) dL_law_704 rfl rfl ?_
    refine mw_i2l (pc' := 707) dL_law_706 rfl ?_
    refine mw_lcmp (pc' := 708) dL_law_707 rfl ?_
    refine mw_if_eq (tgt := 713) (pc' := 711) dL_law_708 rfl (by decide) (fun _ => ?_) (fun c3 => absurd (by rw [hb1]; exact lCmp_rf) c3)
    refine mw_goto (pc' := 0) (tgt := 3808) dL_law_713 (by decide) ?_
    exact mw_loc (pc' := 0) [0, 1, 2, 3, 4, 5] rfl (mw_less ⟨by omega, by omega⟩ (h g1 d2 hI2 hs2))
theorem lc_9 {i : Int} {bc bs : Nat} {g : mG} {d : mD} {Q : mQ} (hI : INV g d) (hi : 0 ≤ i ∧ i + 3 < d SCR (-1)) (hN : d SCR (-1) ≤ 2048) (hb : 48 ≤ bc ∧ 8234 ≤ bs) (h : ∀ g' d', INV g' d' → d' SCR = d SCR → MW mL_law (bc - 48) (bs - 8234) 3808 [(0, (5, 0)), (1, vR 0), (2, vR 65), (3, vR 74), (4, vR 75), (5, vI i)] [] g' d' Q) : MW mL_law bc bs 716 [(0, (5, 0)), (1, vR 0), (2, vR 65), (3, vR 74), (4, vR 75), (5, vI i)] [] g d Q := by
  refine mw_top (fun hT => ?_)
  have hG : 76 ≤ g.2.1 := hT.2
  refine mw_aload_n (v := vR 0) (pc' := 717) dL_law_716 rfl rfl (by simp) rfl ?_
  refine mw_aload_n (v := (5, 0)) (pc' := 718) dL_law_717 rfl rfl (by simp) rfl ?_
  refine mw_iload (pc' := 720) dL_law_718 rfl rfl ?_
  refine mw_iconst (pc' := 721) dL_law_720 rfl ⟨by decide, by decide⟩ ?_
  refine mw_iadd (pc' := 722) dL_law_721 rfl (ik (by omega)) ?_
  refine mw_xld (pc' := 723) dL_law_722 rfl ⟨by omega, by omega⟩ ?_
  refine mw_aload_n (v := vR 74) (pc' := 724) dL_law_723 rfl rfl (by simp) rfl ?_
  refine mw_callSX (M' := mL_weekday) (A := [vR 0, vI (d SCR (i + 1)), vR 74]) (S := []) (pc' := 727) dL_law_724 rfl (goodW 909 (by decide +kernel) rfl) kM_L_weekday kS_L_weekday ⟨by decide, by decide, Nat.le_trans (by decide) hb.1, Nat.le_trans (by decide) hb.2, by decide⟩ rfl rfl (Nat.le_of_ble_eq_true rfl) (MM.mono ?_ (MM.scr (o_weekday g d hI)))
  intro o g1 d1 hh
  obtain ⟨⟨k, ho, h1⟩, hs1⟩ := hh
  subst ho
  show MW mL_law (bc - 1) (bs - 6) 727 [(0, (5, 0)), (1, vR 0), (2, vR 65), (3, vR 74), (4, vR 75), (5, vI i)] [vI k] g1 d1 Q
  refine mw_top (fun hT1 => ?_)
  have hG1 : 76 ≤ g1.2.1 := hT1.2
  refine mw_istore (pc' := 729) (L' := [(0, (5, 0)), (1, vR 0), (2, vR 65), (3, vR 74), (4, vR 75), (5, vI i), (6, vI k)]) dL_law_727 rfl (by decide) rfl ?_
  refine mw_aload_n (v := vR 65) (pc' := 730) dL_law_729 rfl rfl (by simp) rfl ?_
  refine mw_aload_n (v := (5, 0)) (pc' := 731) dL_law_730 rfl rfl (by simp) rfl ?_
  refine mw_iload (pc' := 733) dL_law_731 rfl rfl ?_
  refine mw_iconst (pc' := 734) dL_law_733 rfl ⟨by decide, by decide⟩ ?_
  refine mw_iadd (pc' := 735) dL_law_734 rfl (ik (by omega)) ?_
  refine mw_xld (pc' := 736) dL_law_735 rfl (by rw [hs1]; exact ⟨by omega, by omega⟩) ?_
  rw [hs1]
  refine mw_callV (M' := mX12_weekday) (A := [vI (d SCR (i + 1))]) (A' := [vR 65, vI (d SCR (i + 1))]) (S := []) (a := 65) (pc' := 739) dL_law_736 rfl (Or.inl (goodW 1768 (by decide +kernel) rfl)) kM_X12_weekday kV_X12_weekday ⟨by decide, by decide, Nat.zero_le _, Nat.zero_le _, by decide⟩ rfl rfl rfl ⟨by decide, by omega⟩ (by decide +kernel) (by decide +kernel) (Nat.le_of_ble_eq_true rfl) (h1 _ (fun b d2 hI2 hs2 h5 hb0 => ?_))
  show MW mL_law (bc - 1) (bs - 6) 739 [(0, (5, 0)), (1, vR 0), (2, vR 65), (3, vR 74), (4, vR 75), (5, vI i), (6, vI k)] [vI b] g1 d2 Q
  refine mw_istore (pc' := 741) (L' := [(0, (5, 0)), (1, vR 0), (2, vR 65), (3, vR 74), (4, vR 75), (5, vI i), (6, vI k), (7, vI b)]) dL_law_739 rfl (by decide) rfl ?_
  refine mw_aload_n (v := vR 65) (pc' := 742) dL_law_741 rfl rfl (by simp) rfl ?_
  refine mw_callV (M' := mX12_thrown) (A := []) (A' := [vR 65]) (S := []) (a := 65) (pc' := 745) dL_law_742 rfl (Or.inl (goodW 1679 (by decide +kernel) rfl)) kM_X12_thrown kV_X12_thrown ⟨by decide, by decide, Nat.zero_le _, Nat.zero_le _, by decide⟩ rfl rfl rfl ⟨by decide, by omega⟩ (by decide +kernel) (by decide +kernel) (Nat.le_of_ble_eq_true rfl) (eX12_thrown ?_)
  show MW mL_law (bc - 1) (bs - 6) 745 [(0, (5, 0)), (1, vR 0), (2, vR 65), (3, vR 74), (4, vR 75), (5, vI i), (6, vI k), (7, vI b)] [vI (d2 65 5)] g1 d2 Q
  rw [h5]
  refine mw_iload (pc' := 747) dL_law_745 rfl rfl ?_
  refine mw_icmp_eq (tgt := 752) (pc' := 750) dL_law_747 rfl (by decide) (fun _ => ?_) (fun c => absurd rfl c)
  refine mw_iload (pc' := 754) dL_law_752 rfl rfl ?_
  refine mw_if_ne (tgt := 769) (pc' := 757) dL_law_754 rfl (by decide) (fun c => ?_) (fun c => ?_)
  · refine mw_goto (pc' := 0) (tgt := 3808) dL_law_769 (by decide) ?_
    exact mw_loc (pc' := 0) [0, 1, 2, 3, 4, 5] rfl (mw_less ⟨by omega, by omega⟩ (h g1 d2 hI2 hs2))
  · have hb1 := hb0 c
    refine mw_aload_n (v := vR 74) (pc' := 758) dL_law_757 rfl rfl (by simp) rfl ?_
    refine mw_iconst (pc' := 759) dL_law_758 rfl ⟨by decide, by decide⟩ ?_
    refine mw_lald (pc' := 760) dL_law_759 rfl (by decide +kernel) ⟨by decide, by decide⟩ (by rw [show LN 74 = 1 by decide +kernel]; exact ⟨by decide, by decide⟩) ?_
    refine mw_iload (pc' := 762) dL_law_760 rfl rfl ?_
    refine mw_i2l (pc' := 763) dL_law_762 rfl ?_
    refine mw_lcmp (pc' := 764) dL_law_763 rfl ?_
    refine mw_if_eq (tgt := 769) (pc' := 767) dL_law_764 rfl (by decide) (fun _ => ?_) (fun c3 => absurd (by rw [hb1]; exact lCmp_rf) c3)
    refine mw_goto (pc' := 0) (tgt := 3808) dL_law_769 (by decide) ?_
    exact mw_loc (pc' := 0) [0, 1, 2, 3, 4, 5] rfl (mw_less ⟨by omega, by omega⟩ (h g1 d2 hI2 hs2))
theorem lc_10 {i : Int} {bc bs : Nat} {g : mG} {d : mD} {Q : mQ} (hI : INV g d) (hi : 0 ≤ i ∧ i + 3 < d SCR (-1)) (hN : d SCR (-1) ≤ 2048) (hb : 48 ≤ bc ∧ 8234 ≤ bs) (h : ∀ g' d', INV g' d' → d' SCR = d SCR → MW mL_law (bc - 48) (bs - 8234) 3808 [(0, (5, 0)), (1, vR 0), (2, vR 65), (3, vR 74), (4, vR 75), (5, vI i)] [] g' d' Q) : MW mL_law bc bs 772 [(0, (5, 0)), (1, vR 0), (2, vR 65), (3, vR 74), (4, vR 75), (5, vI i)] [] g d Q := by
  refine mw_top (fun hT => ?_)
  have hG : 76 ≤ g.2.1 := hT.2
  refine mw_aload_n (v := vR 0) (pc' := 773) dL_law_772 rfl rfl (by simp) rfl ?_
  refine mw_aload_n (v := (5, 0)) (pc' := 774) dL_law_773 rfl rfl (by simp) rfl ?_
  refine mw_iload (pc' := 776) dL_law_774 rfl rfl ?_
  refine mw_iconst (pc' := 777) dL_law_776 rfl ⟨by decide, by decide⟩ ?_
  refine mw_iadd (pc' := 778) dL_law_777 rfl (ik (by omega)) ?_
  refine mw_xld (pc' := 779) dL_law_778 rfl ⟨by omega, by omega⟩ ?_
  refine mw_aload_n (v := vR 74) (pc' := 780) dL_law_779 rfl rfl (by simp) rfl ?_
  refine mw_callSX (M' := mL_isCourtDay) (A := [vR 0, vI (d SCR (i + 1)), vR 74]) (S := []) (pc' := 783) dL_law_780 rfl (goodW 921 (by decide +kernel) rfl) kM_L_isCourtDay kS_L_isCourtDay ⟨by decide, by decide, Nat.le_trans (by decide) hb.1, Nat.le_trans (by decide) hb.2, by decide⟩ rfl rfl (Nat.le_of_ble_eq_true rfl) (MM.mono ?_ (MM.scr (o_isCourtDay g d hI)))
  intro o g1 d1 hh
  obtain ⟨⟨k, ho, h1⟩, hs1⟩ := hh
  subst ho
  show MW mL_law (bc - 1) (bs - 6) 783 [(0, (5, 0)), (1, vR 0), (2, vR 65), (3, vR 74), (4, vR 75), (5, vI i)] [vI k] g1 d1 Q
  refine mw_top (fun hT1 => ?_)
  have hG1 : 76 ≤ g1.2.1 := hT1.2
  refine mw_istore (pc' := 785) (L' := [(0, (5, 0)), (1, vR 0), (2, vR 65), (3, vR 74), (4, vR 75), (5, vI i), (6, vI k)]) dL_law_783 rfl (by decide) rfl ?_
  refine mw_aload_n (v := vR 65) (pc' := 786) dL_law_785 rfl rfl (by simp) rfl ?_
  refine mw_aload_n (v := (5, 0)) (pc' := 787) dL_law_786 rfl rfl (by simp) rfl ?_
  refine mw_iload (pc' := 789) dL_law_787 rfl rfl ?_
  refine mw_iconst (pc' := 790) dL_law_789 rfl ⟨by decide, by decide⟩ ?_
  refine mw_iadd (pc' := 791) dL_law_790 rfl (ik (by omega)) ?_
  refine mw_xld (pc' := 792) dL_law_791 rfl (by rw [hs1]; exact ⟨by omega, by omega⟩) ?_
  rw [hs1]
  refine mw_callV (M' := mX12_isCourtDay) (A := [vI (d SCR (i + 1))]) (A' := [vR 65, vI (d SCR (i + 1))]) (S := []) (a := 65) (pc' := 795) dL_law_792 rfl (Or.inl (goodW 1775 (by decide +kernel) rfl)) kM_X12_isCourtDay kV_X12_isCourtDay ⟨by decide, by decide, Nat.zero_le _, Nat.zero_le _, by decide⟩ rfl rfl rfl ⟨by decide, by omega⟩ (by decide +kernel) (by decide +kernel) (Nat.le_of_ble_eq_true rfl) (h1 _ (fun b d2 hI2 hs2 h5 hb0 => ?_))
  show MW mL_law (bc - 1) (bs - 6) 795 [(0, (5, 0)), (1, vR 0), (2, vR 65), (3, vR 74), (4, vR 75), (5, vI i), (6, vI k)] [vI b] g1 d2 Q
  refine mw_istore (pc' := 797) (L' := [(0, (5, 0)), (1, vR 0), (2, vR 65), (3, vR 74), (4, vR 75), (5, vI i), (6, vI k), (7, vI b)]) dL_law_795 rfl (by decide) rfl ?_
  refine mw_aload_n (v := vR 65) (pc' := 798) dL_law_797 rfl rfl (by simp) rfl ?_
  refine mw_callV (M' := mX12_thrown) (A := []) (A' := [vR 65]) (S := []) (a := 65) (pc' := 801) dL_law_798 rfl (Or.inl (goodW 1679 (by decide +kernel) rfl)) kM_X12_thrown kV_X12_thrown ⟨by decide, by decide, Nat.zero_le _, Nat.zero_le _, by decide⟩ rfl rfl rfl ⟨by decide, by omega⟩ (by decide +kernel) (by decide +kernel) (Nat.le_of_ble_eq_true rfl) (eX12_thrown ?_)
  show MW mL_law (bc - 1) (bs - 6) 801 [(0, (5, 0)), (1, vR 0), (2, vR 65), (3, vR 74), (4, vR 75), (5, vI i), (6, vI k), (7, vI b)] [vI (d2 65 5)] g1 d2 Q
  rw [h5]
  refine mw_iload (pc' := 803) dL_law_801 rfl rfl ?_
  refine mw_icmp_eq (tgt := 808) (pc' := 806) dL_law_803 rfl (by decide) (fun _ => ?_) (fun c => absurd rfl c)
  refine mw_iload (pc' := 810) dL_law_808 rfl rfl ?_
  refine mw_if_ne (tgt := 832) (pc' := 813) dL_law_810 rfl (by decide) (fun c => ?_) (fun c => ?_)
  · refine mw_goto (pc' := 0) (tgt := 3808) dL_law_832 (by decide) ?_
    exact mw_loc (pc' := 0) [0, 1, 2, 3, 4, 5] rfl (mw_less ⟨by omega, by omega⟩ (h g1 d2 hI2 hs2))
  · obtain ⟨hb1, hb2⟩ := hb0 c
    refine mw_aload_n (v := vR 74) (pc' := 814) dL_law_813 rfl rfl (by simp) rfl ?_
    refine mw_iconst (pc' := 815) dL_law_814 rfl ⟨by decide, by decide⟩ ?_
    refine mw_lald (pc' := 816) dL_law_815 rfl (by decide +kernel) ⟨by decide, by decide⟩ (by rw [show LN 74 = 1 by decide +kernel]; exact ⟨by decide, by decide⟩) ?_
    refine mw_iload (pc' := 818) dL_law_816 rfl rfl ?_
    rcases hb2 with hb2 | hb2
    · rw [← hb1, hb2]
      refine mw_if_eq (tgt := 825) (pc' := 821) dL_law_818 rfl (by decide) (fun _ => ?_) (fun c2 => absurd rfl c2)
      refine mw_lconst0 (pc' := 826) dL_law_825 rfl ?_
      refine mw_lcmp (pc' := 827) dL_law_826 rfl ?_
      refine mw_if_eq (tgt := 832) (pc' := 830) dL_law_827 rfl (by decide) (fun _ => ?_) (fun c3 => absurd lCmp_rf c3)
      refine mw_goto (pc' := 0) (tgt := 3808) dL_law_832 (by decide) ?_
      exact mw_loc (pc' := 0) [0, 1, 2, 3, 4, 5] rfl (mw_less ⟨by omega, by omega⟩ (h g1 d2 hI2 hs2))
    · rw [← hb1, hb2]
      refine mw_if_eq (tgt := 825) (pc' := 821) dL_law_818 rfl (by decide) (fun c2 => absurd c2 (by decide)) (fun _ => ?_)
      refine mw_lconst1 (pc' := 822) dL_law_821 rfl ?_
      refine mw_goto (pc' := 0) (tgt := 826) dL_law_822 (by decide) ?_
      refine mw_lcmp (pc' := 827) dL_law_826 rfl ?_
      refine mw_if_eq (tgt := 832) (pc' := 830) dL_law_827 rfl (by decide) (fun _ => ?_) (fun c3 => absurd lCmp_rf c3)
      refine mw_goto (pc' := 0) (tgt := 3808) dL_law_832 (by decide) ?_
      exact mw_loc (pc' := 0) [0, 1, 2, 3, 4, 5] rfl (mw_less ⟨by omega, by omega⟩ (h g1 d2 hI2 hs2))
theorem lc_11 {i : Int} {bc bs : Nat} {g : mG} {d : mD} {Q : mQ} (hI : INV g d) (hi : 0 ≤ i ∧ i + 3 < d SCR (-1)) (hN : d SCR (-1) ≤ 2048) (hb : 48 ≤ bc ∧ 8234 ≤ bs) (h : ∀ g' d', INV g' d' → d' SCR = d SCR → MW mL_law (bc - 48) (bs - 8234) 3808 [(0, (5, 0)), (1, vR 0), (2, vR 65), (3, vR 74), (4, vR 75), (5, vI i)] [] g' d' Q) : MW mL_law bc bs 835 [(0, (5, 0)), (1, vR 0), (2, vR 65), (3, vR 74), (4, vR 75), (5, vI i)] [] g d Q := by
  refine mw_top (fun hT => ?_)
  have hG : 76 ≤ g.2.1 := hT.2
  refine mw_aload_n (v := vR 0) (pc' := 836) dL_law_835 rfl rfl (by simp) rfl ?_
  refine mw_aload_n (v := (5, 0)) (pc' := 837) dL_law_836 rfl rfl (by simp) rfl ?_
  refine mw_iload (pc' := 839) dL_law_837 rfl rfl ?_
  refine mw_iconst (pc' := 840) dL_law_839 rfl ⟨by decide, by decide⟩ ?_
  refine mw_iadd (pc' := 841) dL_law_840 rfl (ik (by omega)) ?_
  refine mw_xld (pc' := 842) dL_law_841 rfl ⟨by omega, by omega⟩ ?_
  refine mw_aload_n (v := vR 74) (pc' := 843) dL_law_842 rfl rfl (by simp) rfl ?_
  refine mw_callSX (M' := mL_addHoliday) (A := [vR 0, vI (d SCR (i + 1)), vR 74]) (S := []) (pc' := 846) dL_law_843 rfl (goodW 929 (by decide +kernel) rfl) kM_L_addHoliday kS_L_addHoliday ⟨by decide, by decide, Nat.le_trans (by decide) hb.1, Nat.le_trans (by decide) hb.2, by decide⟩ rfl rfl (Nat.le_of_ble_eq_true rfl) (MM.mono ?_ (MM.scr (o_addHoliday g d hI)))
  intro o g1 d1 hh
  obtain ⟨⟨k, ho, h1⟩, hs1⟩ := hh
  subst ho
  show MW mL_law (bc - 47) (bs - 8228) 846 [(0, (5, 0)), (1, vR 0), (2, vR 65), (3, vR 74), (4, vR 75), (5, vI i)] [vI k] g1 d1 Q
  refine mw_top (fun hT1 => ?_)
  have hG1 : 76 ≤ g1.2.1 := hT1.2
  refine mw_istore (pc' := 848) (L' := [(0, (5, 0)), (1, vR 0), (2, vR 65), (3, vR 74), (4, vR 75), (5, vI i), (6, vI k)]) dL_law_846 rfl (by decide) rfl ?_
  refine mw_aload_n (v := vR 65) (pc' := 849) dL_law_848 rfl rfl (by simp) rfl ?_
  refine mw_aload_n (v := (5, 0)) (pc' := 850) dL_law_849 rfl rfl (by simp) rfl ?_
  refine mw_iload (pc' := 852) dL_law_850 rfl rfl ?_
  refine mw_iconst (pc' := 853) dL_law_852 rfl ⟨by decide, by decide⟩ ?_
  refine mw_iadd (pc' := 854) dL_law_853 rfl (ik (by omega)) ?_
  refine mw_xld (pc' := 855) dL_law_854 rfl (by rw [hs1]; exact ⟨by omega, by omega⟩) ?_
  rw [hs1]
  refine mw_callV (M' := mX12_addHoliday) (A := [vI (d SCR (i + 1))]) (A' := [vR 65, vI (d SCR (i + 1))]) (S := []) (a := 65) (pc' := 858) dL_law_855 rfl (Or.inl (goodW 1787 (by decide +kernel) rfl)) kM_X12_addHoliday kV_X12_addHoliday ⟨by decide, by decide, Nat.zero_le _, Nat.zero_le _, by decide⟩ rfl rfl rfl ⟨by decide, by omega⟩ (by decide +kernel) (by decide +kernel) (Nat.le_of_ble_eq_true rfl) (h1 _ (fun b d2 hI2 hs2 h5 hb0 => ?_))
  show MW mL_law (bc - 47 - 0) (bs - 8228 - 0) 858 [(0, (5, 0)), (1, vR 0), (2, vR 65), (3, vR 74), (4, vR 75), (5, vI i), (6, vI k)] [vI b] g1 d2 Q
  rw [Nat.sub_zero (bc - 47), Nat.sub_zero (bs - 8228)]
  refine mw_istore (pc' := 860) (L' := [(0, (5, 0)), (1, vR 0), (2, vR 65), (3, vR 74), (4, vR 75), (5, vI i), (6, vI k), (7, vI b)]) dL_law_858 rfl (by decide) rfl ?_
  refine mw_aload_n (v := vR 65) (pc' := 861) dL_law_860 rfl rfl (by simp) rfl ?_
  refine mw_callV (M' := mX12_thrown) (A := []) (A' := [vR 65]) (S := []) (a := 65) (pc' := 864) dL_law_861 rfl (Or.inl (goodW 1679 (by decide +kernel) rfl)) kM_X12_thrown kV_X12_thrown ⟨by decide, by decide, Nat.zero_le _, Nat.zero_le _, by decide⟩ rfl rfl rfl ⟨by decide, by omega⟩ (by decide +kernel) (by decide +kernel) (Nat.le_of_ble_eq_true rfl) (eX12_thrown ?_)
  show MW mL_law (bc - 47 - 0) (bs - 8228 - 0) 864 [(0, (5, 0)), (1, vR 0), (2, vR 65), (3, vR 74), (4, vR 75), (5, vI i), (6, vI k), (7, vI b)] [vI (d2 65 5)] g1 d2 Q
  rw [Nat.sub_zero (bc - 47), Nat.sub_zero (bs - 8228)]
  rw [h5]
  refine mw_iload (pc' := 866) dL_law_864 rfl rfl ?_
  refine mw_icmp_eq (tgt := 871) (pc' := 869) dL_law_866 rfl (by decide) (fun _ => ?_) (fun c => absurd rfl c)
  refine mw_iload (pc' := 873) dL_law_871 rfl rfl ?_
  refine mw_if_ne (tgt := 888) (pc' := 876) dL_law_873 rfl (by decide) (fun c => ?_) (fun c => ?_)
  · refine mw_goto (pc' := 0) (tgt := 3808) dL_law_888 (by decide) ?_
    exact mw_loc (pc' := 0) [0, 1, 2, 3, 4, 5] rfl (mw_less ⟨by omega, by omega⟩ (h g1 d2 hI2 hs2))
  · have hb1 := hb0 c
    refine mw_aload_n (v := vR 74) (pc' := 877) dL_law_876 rfl rfl (by simp) rfl ?_
    refine mw_iconst (pc' := 878) dL_law_877 rfl ⟨by decide, by decide⟩ ?_
    refine mw_lald (pc' := 879) dL_law_878 rfl (by decide +kernel) ⟨by decide, by decide⟩ (by rw [show LN 74 = 1 by decide +kernel]; exact ⟨by decide, by decide⟩) ?_
    refine mw_iload (pc' := 881) dL_law_879 rfl rfl ?_
    refine mw_i2l (pc' := 882) dL_law_881 rfl ?_
    refine mw_lcmp (pc' := 883) dL_law_882 rfl ?_
    refine mw_if_eq (tgt := 888) (pc' := 886) dL_law_883 rfl (by decide) (fun _ => ?_) (fun c3 => absurd (by rw [hb1]; exact lCmp_rf) c3)
    refine mw_goto (pc' := 0) (tgt := 3808) dL_law_888 (by decide) ?_
    exact mw_loc (pc' := 0) [0, 1, 2, 3, 4, 5] rfl (mw_less ⟨by omega, by omega⟩ (h g1 d2 hI2 hs2))
theorem lc_12 {i : Int} {bc bs : Nat} {g : mG} {d : mD} {Q : mQ} (hI : INV g d) (hi : 0 ≤ i ∧ i + 3 < d SCR (-1)) (hN : d SCR (-1) ≤ 2048) (hb : 48 ≤ bc ∧ 8234 ≤ bs) (h : ∀ g' d', INV g' d' → d' SCR = d SCR → MW mL_law (bc - 48) (bs - 8234) 3808 [(0, (5, 0)), (1, vR 0), (2, vR 65), (3, vR 74), (4, vR 75), (5, vI i)] [] g' d' Q) : MW mL_law bc bs 891 [(0, (5, 0)), (1, vR 0), (2, vR 65), (3, vR 74), (4, vR 75), (5, vI i)] [] g d Q := by
  refine mw_top (fun hT => ?_)
  have hG : 76 ≤ g.2.1 := hT.2
  refine mw_aload_n (v := vR 0) (pc' := 892) dL_law_891 rfl rfl (by simp) rfl ?_
  refine mw_aload_n (v := (5, 0)) (pc' := 893) dL_law_892 rfl rfl (by simp) rfl ?_
  refine mw_iload (pc' := 895) dL_law_893 rfl rfl ?_
  refine mw_iconst (pc' := 896) dL_law_895 rfl ⟨by decide, by decide⟩ ?_
  refine mw_iadd (pc' := 897) dL_law_896 rfl (ik (by omega)) ?_
  refine mw_xld (pc' := 898) dL_law_897 rfl ⟨by omega, by omega⟩ ?_
  refine mw_aload_n (v := vR 74) (pc' := 899) dL_law_898 rfl rfl (by simp) rfl ?_
  refine mw_callSX (M' := mL_removeHoliday) (A := [vR 0, vI (d SCR (i + 1)), vR 74]) (S := []) (pc' := 902) dL_law_899 rfl (goodW 948 (by decide +kernel) rfl) kM_L_removeHoliday kS_L_removeHoliday ⟨by decide, by decide, Nat.le_trans (by decide) hb.1, Nat.le_trans (by decide) hb.2, by decide⟩ rfl rfl (Nat.le_of_ble_eq_true rfl) (MM.mono ?_ (MM.scr (o_removeHoliday g d hI)))
  intro o g1 d1 hh
  obtain ⟨⟨k, ho, h1⟩, hs1⟩ := hh
  subst ho
  show MW mL_law (bc - 47) (bs - 8228) 902 [(0, (5, 0)), (1, vR 0), (2, vR 65), (3, vR 74), (4, vR 75), (5, vI i)] [vI k] g1 d1 Q
  refine mw_top (fun hT1 => ?_)
  have hG1 : 76 ≤ g1.2.1 := hT1.2
  refine mw_istore (pc' := 904) (L' := [(0, (5, 0)), (1, vR 0), (2, vR 65), (3, vR 74), (4, vR 75), (5, vI i), (6, vI k)]) dL_law_902 rfl (by decide) rfl ?_
  refine mw_aload_n (v := vR 65) (pc' := 905) dL_law_904 rfl rfl (by simp) rfl ?_
  refine mw_aload_n (v := (5, 0)) (pc' := 906) dL_law_905 rfl rfl (by simp) rfl ?_
  refine mw_iload (pc' := 908) dL_law_906 rfl rfl ?_
  refine mw_iconst (pc' := 909) dL_law_908 rfl ⟨by decide, by decide⟩ ?_
  refine mw_iadd (pc' := 910) dL_law_909 rfl (ik (by omega)) ?_
  refine mw_xld (pc' := 911) dL_law_910 rfl (by rw [hs1]; exact ⟨by omega, by omega⟩) ?_
  rw [hs1]
  refine mw_callV (M' := mX12_removeHoliday) (A := [vI (d SCR (i + 1))]) (A' := [vR 65, vI (d SCR (i + 1))]) (S := []) (a := 65) (pc' := 914) dL_law_911 rfl (Or.inl (goodW 1791 (by decide +kernel) rfl)) kM_X12_removeHoliday kV_X12_removeHoliday ⟨by decide, by decide, Nat.zero_le _, Nat.zero_le _, by decide⟩ rfl rfl rfl ⟨by decide, by omega⟩ (by decide +kernel) (by decide +kernel) (Nat.le_of_ble_eq_true rfl) (h1 _ (fun b d2 hI2 hs2 h5 hb0 => ?_))
  show MW mL_law (bc - 47 - 0) (bs - 8228 - 0) 914 [(0, (5, 0)), (1, vR 0), (2, vR 65), (3, vR 74), (4, vR 75), (5, vI i), (6, vI k)] [vI b] g1 d2 Q
  rw [Nat.sub_zero (bc - 47), Nat.sub_zero (bs - 8228)]
  refine mw_istore (pc' := 916) (L' := [(0, (5, 0)), (1, vR 0), (2, vR 65), (3, vR 74), (4, vR 75), (5, vI i), (6, vI k), (7, vI b)]) dL_law_914 rfl (by decide) rfl ?_
  refine mw_aload_n (v := vR 65) (pc' := 917) dL_law_916 rfl rfl (by simp) rfl ?_
  refine mw_callV (M' := mX12_thrown) (A := []) (A' := [vR 65]) (S := []) (a := 65) (pc' := 920) dL_law_917 rfl (Or.inl (goodW 1679 (by decide +kernel) rfl)) kM_X12_thrown kV_X12_thrown ⟨by decide, by decide, Nat.zero_le _, Nat.zero_le _, by decide⟩ rfl rfl rfl ⟨by decide, by omega⟩ (by decide +kernel) (by decide +kernel) (Nat.le_of_ble_eq_true rfl) (eX12_thrown ?_)
  show MW mL_law (bc - 47 - 0) (bs - 8228 - 0) 920 [(0, (5, 0)), (1, vR 0), (2, vR 65), (3, vR 74), (4, vR 75), (5, vI i), (6, vI k), (7, vI b)] [vI (d2 65 5)] g1 d2 Q
  rw [Nat.sub_zero (bc - 47), Nat.sub_zero (bs - 8228)]
  rw [h5]
  refine mw_iload (pc' := 922) dL_law_920 rfl rfl ?_
  refine mw_icmp_eq (tgt := 927) (pc' := 925) dL_law_922 rfl (by decide) (fun _ => ?_) (fun c => absurd rfl c)
  refine mw_iload (pc' := 929) dL_law_927 rfl rfl ?_
  refine mw_if_ne (tgt := 944) (pc' := 932) dL_law_929 rfl (by decide) (fun c => ?_) (fun c => ?_)
  · refine mw_goto (pc' := 0) (tgt := 3808) dL_law_944 (by decide) ?_
    exact mw_loc (pc' := 0) [0, 1, 2, 3, 4, 5] rfl (mw_less ⟨by omega, by omega⟩ (h g1 d2 hI2 hs2))
  · have hb1 := hb0 c
    refine mw_aload_n (v := vR 74) (pc' := 933) dL_law_932 rfl rfl (by simp) rfl ?_
    refine mw_iconst (pc' := 934) dL_law_933 rfl ⟨by decide, by decide⟩ ?_
    refine mw_lald (pc' := 935) dL_law_934 rfl (by decide +kernel) ⟨by decide, by decide⟩ (by rw [show LN 74 = 1 by decide +kernel]; exact ⟨by decide, by decide⟩) ?_
    refine mw_iload (pc' := 937) dL_law_935 rfl rfl ?_
    refine mw_i2l (pc' := 938) dL_law_937 rfl ?_
    refine mw_lcmp (pc' := 939) dL_law_938 rfl ?_
    refine mw_if_eq (tgt := 944) (pc' := 942) dL_law_939 rfl (by decide) (fun _ => ?_) (fun c3 => absurd (by rw [hb1]; exact lCmp_rf) c3)
    refine mw_goto (pc' := 0) (tgt := 3808) dL_law_944 (by decide) ?_
    exact mw_loc (pc' := 0) [0, 1, 2, 3, 4, 5] rfl (mw_less ⟨by omega, by omega⟩ (h g1 d2 hI2 hs2))
theorem lc_13 {i : Int} {bc bs : Nat} {g : mG} {d : mD} {Q : mQ} (hI : INV g d) (hi : 0 ≤ i ∧ i + 3 < d SCR (-1)) (hN : d SCR (-1) ≤ 2048) (hb : 48 ≤ bc ∧ 8234 ≤ bs) (h : ∀ g' d', INV g' d' → d' SCR = d SCR → MW mL_law (bc - 48) (bs - 8234) 3808 [(0, (5, 0)), (1, vR 0), (2, vR 65), (3, vR 74), (4, vR 75), (5, vI i)] [] g' d' Q) : MW mL_law bc bs 947 [(0, (5, 0)), (1, vR 0), (2, vR 65), (3, vR 74), (4, vR 75), (5, vI i)] [] g d Q := by
  refine mw_top (fun hT => ?_)
  have hG : 76 ≤ g.2.1 := hT.2
  refine mw_aload_n (v := vR 0) (pc' := 948) dL_law_947 rfl rfl (by simp) rfl ?_
  refine mw_aload_n (v := (5, 0)) (pc' := 949) dL_law_948 rfl rfl (by simp) rfl ?_
  refine mw_iload (pc' := 951) dL_law_949 rfl rfl ?_
  refine mw_iconst (pc' := 952) dL_law_951 rfl ⟨by decide, by decide⟩ ?_
  refine mw_iadd (pc' := 953) dL_law_952 rfl (ik (by omega)) ?_
  refine mw_xld (pc' := 954) dL_law_953 rfl ⟨by omega, by omega⟩ ?_
  refine mw_aload_n (v := (5, 0)) (pc' := 955) dL_law_954 rfl rfl (by simp) rfl ?_
  refine mw_iload (pc' := 957) dL_law_955 rfl rfl ?_
  refine mw_iconst (pc' := 958) dL_law_957 rfl ⟨by decide, by decide⟩ ?_
  refine mw_iadd (pc' := 959) dL_law_958 rfl (ik (by omega)) ?_
  refine mw_xld (pc' := 960) dL_law_959 rfl ⟨by omega, by omega⟩ ?_
  refine mw_aload_n (v := vR 74) (pc' := 961) dL_law_960 rfl rfl (by simp) rfl ?_
  refine mw_callSX (M' := mL_courtDays) (A := [vR 0, vI (d SCR (i + 1)), vI (d SCR (i + 2)), vR 74]) (S := []) (pc' := 964) dL_law_961 rfl (goodW 963 (by decide +kernel) rfl) kM_L_courtDays kS_L_courtDays ⟨by decide, by decide, Nat.le_trans (by decide) hb.1, Nat.le_trans (by decide) hb.2, by decide⟩ rfl rfl (Nat.le_of_ble_eq_true rfl) (MM.mono ?_ (MM.scr (o_courtDays g d hI)))
  intro o g1 d1 hh
  obtain ⟨⟨k, ho, h1⟩, hs1⟩ := hh
  subst ho
  show MW mL_law (bc - 1) (bs - 6) 964 [(0, (5, 0)), (1, vR 0), (2, vR 65), (3, vR 74), (4, vR 75), (5, vI i)] [vI k] g1 d1 Q
  refine mw_top (fun hT1 => ?_)
  have hG1 : 76 ≤ g1.2.1 := hT1.2
  refine mw_istore (pc' := 966) (L' := [(0, (5, 0)), (1, vR 0), (2, vR 65), (3, vR 74), (4, vR 75), (5, vI i), (6, vI k)]) dL_law_964 rfl (by decide) rfl ?_
  refine mw_aload_n (v := vR 65) (pc' := 967) dL_law_966 rfl rfl (by simp) rfl ?_
  refine mw_aload_n (v := (5, 0)) (pc' := 968) dL_law_967 rfl rfl (by simp) rfl ?_
  refine mw_iload (pc' := 970) dL_law_968 rfl rfl ?_
  refine mw_iconst (pc' := 971) dL_law_970 rfl ⟨by decide, by decide⟩ ?_
  refine mw_iadd (pc' := 972) dL_law_971 rfl (ik (by omega)) ?_
  refine mw_xld (pc' := 973) dL_law_972 rfl (by rw [hs1]; exact ⟨by omega, by omega⟩) ?_
  rw [hs1]
  refine mw_aload_n (v := (5, 0)) (pc' := 974) dL_law_973 rfl rfl (by simp) rfl ?_
  refine mw_iload (pc' := 976) dL_law_974 rfl rfl ?_
  refine mw_iconst (pc' := 977) dL_law_976 rfl ⟨by decide, by decide⟩ ?_
  refine mw_iadd (pc' := 978) dL_law_977 rfl (ik (by omega)) ?_
  refine mw_xld (pc' := 979) dL_law_978 rfl (by rw [hs1]; exact ⟨by omega, by omega⟩) ?_
  rw [hs1]
  refine mw_callV (M' := mX12_courtDays) (A := [vI (d SCR (i + 1)), vI (d SCR (i + 2))]) (A' := [vR 65, vI (d SCR (i + 1)), vI (d SCR (i + 2))]) (S := []) (a := 65) (pc' := 982) dL_law_979 rfl (Or.inl (goodW 1795 (by decide +kernel) rfl)) kM_X12_courtDays kV_X12_courtDays ⟨by decide, by decide, Nat.zero_le _, Nat.zero_le _, by decide⟩ rfl rfl rfl ⟨by decide, by omega⟩ (by decide +kernel) (by decide +kernel) (Nat.le_of_ble_eq_true rfl) (h1 _ (fun b d2 hI2 hs2 h5 hb0 => ?_))
  show MW mL_law (bc - 1) (bs - 6) 982 [(0, (5, 0)), (1, vR 0), (2, vR 65), (3, vR 74), (4, vR 75), (5, vI i), (6, vI k)] [vI b] g1 d2 Q
  refine mw_istore (pc' := 984) (L' := [(0, (5, 0)), (1, vR 0), (2, vR 65), (3, vR 74), (4, vR 75), (5, vI i), (6, vI k), (7, vI b)]) dL_law_982 rfl (by decide) rfl ?_
  refine mw_aload_n (v := vR 65) (pc' := 985) dL_law_984 rfl rfl (by simp) rfl ?_
  refine mw_callV (M' := mX12_thrown) (A := []) (A' := [vR 65]) (S := []) (a := 65) (pc' := 988) dL_law_985 rfl (Or.inl (goodW 1679 (by decide +kernel) rfl)) kM_X12_thrown kV_X12_thrown ⟨by decide, by decide, Nat.zero_le _, Nat.zero_le _, by decide⟩ rfl rfl rfl ⟨by decide, by omega⟩ (by decide +kernel) (by decide +kernel) (Nat.le_of_ble_eq_true rfl) (eX12_thrown ?_)
  show MW mL_law (bc - 1) (bs - 6) 988 [(0, (5, 0)), (1, vR 0), (2, vR 65), (3, vR 74), (4, vR 75), (5, vI i), (6, vI k), (7, vI b)] [vI (d2 65 5)] g1 d2 Q
  rw [h5]
  refine mw_iload (pc' := 990) dL_law_988 rfl rfl ?_
  refine mw_icmp_eq (tgt := 995) (pc' := 993) dL_law_990 rfl (by decide) (fun _ => ?_) (fun c => absurd rfl c)
  refine mw_iload (pc' := 997) dL_law_995 rfl rfl ?_
  refine mw_if_ne (tgt := 1012) (pc' := 1000) dL_law_997 rfl (by decide) (fun c => ?_) (fun c => ?_)
  · refine mw_goto (pc' := 0) (tgt := 3808) dL_law_1012 (by decide) ?_
    exact mw_loc (pc' := 0) [0, 1, 2, 3, 4, 5] rfl (mw_less ⟨by omega, by omega⟩ (h g1 d2 hI2 hs2))
  · have hb1 := hb0 c
    refine mw_aload_n (v := vR 74) (pc' := 1001) dL_law_1000 rfl rfl (by simp) rfl ?_
    refine mw_iconst (pc' := 1002) dL_law_1001 rfl ⟨by decide, by decide⟩ ?_
    refine mw_lald (pc' := 1003) dL_law_1002 rfl (by decide +kernel) ⟨by decide, by decide⟩ (by rw [show LN 74 = 1 by decide +kernel]; exact ⟨by decide, by decide⟩) ?_
    refine mw_iload (pc' := 1005) dL_law_1003 rfl rfl ?_
    refine mw_i2l (pc' := 1006) dL_law_1005 rfl ?_
    refine mw_lcmp (pc' := 1007) dL_law_1006 rfl ?_
    refine mw_if_eq (tgt := 1012) (pc' := 1010) dL_law_1007 rfl (by decide) (fun _ => ?_) (fun c3 => absurd (by rw [hb1]; exact lCmp_rf) c3)
    refine mw_goto (pc' := 0) (tgt := 3808) dL_law_1012 (by decide) ?_
    exact mw_loc (pc' := 0) [0, 1, 2, 3, 4, 5] rfl (mw_less ⟨by omega, by omega⟩ (h g1 d2 hI2 hs2))
theorem lc_14 {i : Int} {bc bs : Nat} {g : mG} {d : mD} {Q : mQ} (hI : INV g d) (hi : 0 ≤ i ∧ i + 3 < d SCR (-1)) (hN : d SCR (-1) ≤ 2048) (hb : 48 ≤ bc ∧ 8234 ≤ bs) (h : ∀ g' d', INV g' d' → d' SCR = d SCR → MW mL_law (bc - 48) (bs - 8234) 3808 [(0, (5, 0)), (1, vR 0), (2, vR 65), (3, vR 74), (4, vR 75), (5, vI i)] [] g' d' Q) : MW mL_law bc bs 1015 [(0, (5, 0)), (1, vR 0), (2, vR 65), (3, vR 74), (4, vR 75), (5, vI i)] [] g d Q := by
  refine mw_top (fun hT => ?_)
  have hG : 76 ≤ g.2.1 := hT.2
  refine mw_aload_n (v := vR 0) (pc' := 1016) dL_law_1015 rfl rfl (by simp) rfl ?_
  refine mw_aload_n (v := (5, 0)) (pc' := 1017) dL_law_1016 rfl rfl (by simp) rfl ?_
  refine mw_iload (pc' := 1019) dL_law_1017 rfl rfl ?_
  refine mw_iconst (pc' := 1020) dL_law_1019 rfl ⟨by decide, by decide⟩ ?_
  refine mw_iadd (pc' := 1021) dL_law_1020 rfl (ik (by omega)) ?_
  refine mw_xld (pc' := 1022) dL_law_1021 rfl ⟨by omega, by omega⟩ ?_
  refine mw_aload_n (v := (5, 0)) (pc' := 1023) dL_law_1022 rfl rfl (by simp) rfl ?_
  refine mw_iload (pc' := 1025) dL_law_1023 rfl rfl ?_
  refine mw_iconst (pc' := 1026) dL_law_1025 rfl ⟨by decide, by decide⟩ ?_
  refine mw_iadd (pc' := 1027) dL_law_1026 rfl (ik (by omega)) ?_
  refine mw_xld (pc' := 1028) dL_law_1027 rfl ⟨by omega, by omega⟩ ?_
  refine mw_aload_n (v := vR 74) (pc' := 1029) dL_law_1028 rfl rfl (by simp) rfl ?_
  refine mw_callSX (M' := mL_courtDaysByMarking) (A := [vR 0, vI (d SCR (i + 1)), vI (d SCR (i + 2)), vR 74]) (S := []) (pc' := 1032) dL_law_1029 rfl (goodW 974 (by decide +kernel) rfl) kM_L_courtDaysByMarking kS_L_courtDaysByMarking ⟨by decide, by decide, Nat.le_trans (by decide) hb.1, Nat.le_trans (by decide) hb.2, by decide⟩ rfl rfl (Nat.le_of_ble_eq_true rfl) (MM.mono ?_ (MM.scr (o_courtDaysByMarking g d hI)))
  intro o g1 d1 hh
  obtain ⟨⟨k, ho, h1⟩, hs1⟩ := hh
  subst ho
  show MW mL_law (bc - 1) (bs - 6) 1032 [(0, (5, 0)), (1, vR 0), (2, vR 65), (3, vR 74), (4, vR 75), (5, vI i)] [vI k] g1 d1 Q
  refine mw_top (fun hT1 => ?_)
  have hG1 : 76 ≤ g1.2.1 := hT1.2
  refine mw_istore (pc' := 1034) (L' := [(0, (5, 0)), (1, vR 0), (2, vR 65), (3, vR 74), (4, vR 75), (5, vI i), (6, vI k)]) dL_law_1032 rfl (by decide) rfl ?_
  refine mw_aload_n (v := vR 65) (pc' := 1035) dL_law_1034 rfl rfl (by simp) rfl ?_
  refine mw_aload_n (v := (5, 0)) (pc' := 1036) dL_law_1035 rfl rfl (by simp) rfl ?_
  refine mw_iload (pc' := 1038) dL_law_1036 rfl rfl ?_
  refine mw_iconst (pc' := 1039) dL_law_1038 rfl ⟨by decide, by decide⟩ ?_
  refine mw_iadd (pc' := 1040) dL_law_1039 rfl (ik (by omega)) ?_
  refine mw_xld (pc' := 1041) dL_law_1040 rfl (by rw [hs1]; exact ⟨by omega, by omega⟩) ?_
  rw [hs1]
  refine mw_aload_n (v := (5, 0)) (pc' := 1042) dL_law_1041 rfl rfl (by simp) rfl ?_
  refine mw_iload (pc' := 1044) dL_law_1042 rfl rfl ?_
  refine mw_iconst (pc' := 1045) dL_law_1044 rfl ⟨by decide, by decide⟩ ?_
  refine mw_iadd (pc' := 1046) dL_law_1045 rfl (ik (by omega)) ?_
  refine mw_xld (pc' := 1047) dL_law_1046 rfl (by rw [hs1]; exact ⟨by omega, by omega⟩) ?_
  rw [hs1]
  refine mw_callV (M' := mX12_courtDaysByMarking) (A := [vI (d SCR (i + 1)), vI (d SCR (i + 2))]) (A' := [vR 65, vI (d SCR (i + 1)), vI (d SCR (i + 2))]) (S := []) (a := 65) (pc' := 1050) dL_law_1047 rfl (Or.inl (goodW 1799 (by decide +kernel) rfl)) kM_X12_courtDaysByMarking kV_X12_courtDaysByMarking ⟨by decide, by decide, Nat.zero_le _, Nat.zero_le _, by decide⟩ rfl rfl rfl ⟨by decide, by omega⟩ (by decide +kernel) (by decide +kernel) (Nat.le_of_ble_eq_true rfl) (h1 _ (fun b d2 hI2 hs2 h5 hb0 => ?_))
  show MW mL_law (bc - 1) (bs - 6) 1050 [(0, (5, 0)), (1, vR 0), (2, vR 65), (3, vR 74), (4, vR 75), (5, vI i), (6, vI k)] [vI b] g1 d2 Q
  refine mw_istore (pc' := 1052) (L' := [(0, (5, 0)), (1, vR 0), (2, vR 65), (3, vR 74), (4, vR 75), (5, vI i), (6, vI k), (7, vI b)]) dL_law_1050 rfl (by decide) rfl ?_
  refine mw_aload_n (v := vR 65) (pc' := 1053) dL_law_1052 rfl rfl (by simp) rfl ?_
  refine mw_callV (M' := mX12_thrown) (A := []) (A' := [vR 65]) (S := []) (a := 65) (pc' := 1056) dL_law_1053 rfl (Or.inl (goodW 1679 (by decide +kernel) rfl)) kM_X12_thrown kV_X12_thrown ⟨by decide, by decide, Nat.zero_le _, Nat.zero_le _, by decide⟩ rfl rfl rfl ⟨by decide, by omega⟩ (by decide +kernel) (by decide +kernel) (Nat.le_of_ble_eq_true rfl) (eX12_thrown ?_)
  show MW mL_law (bc - 1) (bs - 6) 1056 [(0, (5, 0)), (1, vR 0), (2, vR 65), (3, vR 74), (4, vR 75), (5, vI i), (6, vI k), (7, vI b)] [vI (d2 65 5)] g1 d2 Q
  rw [h5]
  refine mw_iload (pc' := 1058) dL_law_1056 rfl rfl ?_
  refine mw_icmp_eq (tgt := 1063) (pc' := 1061) dL_law_1058 rfl (by decide) (fun _ => ?_) (fun c => absurd rfl c)
  refine mw_iload (pc' := 1065) dL_law_1063 rfl rfl ?_
  refine mw_if_ne (tgt := 1080) (pc' := 1068) dL_law_1065 rfl (by decide) (fun c => ?_) (fun c => ?_)
  · refine mw_goto (pc' := 0) (tgt := 3808) dL_law_1080 (by decide) ?_
    exact mw_loc (pc' := 0) [0, 1, 2, 3, 4, 5] rfl (mw_less ⟨by omega, by omega⟩ (h g1 d2 hI2 hs2))
  · have hb1 := hb0 c
    refine mw_aload_n (v := vR 74) (pc' := 1069) dL_law_1068 rfl rfl (by simp) rfl ?_
    refine mw_iconst (pc' := 1070) dL_law_1069 rfl ⟨by decide, by decide⟩ ?_
    refine mw_lald (pc' := 1071) dL_law_1070 rfl (by decide +kernel) ⟨by decide, by decide⟩ (by rw [show LN 74 = 1 by decide +kernel]; exact ⟨by decide, by decide⟩) ?_
    refine mw_iload (pc' := 1073) dL_law_1071 rfl rfl ?_
    refine mw_i2l (pc' := 1074) dL_law_1073 rfl ?_
    refine mw_lcmp (pc' := 1075) dL_law_1074 rfl ?_
    refine mw_if_eq (tgt := 1080) (pc' := 1078) dL_law_1075 rfl (by decide) (fun _ => ?_) (fun c3 => absurd (by rw [hb1]; exact lCmp_rf) c3)
    refine mw_goto (pc' := 0) (tgt := 3808) dL_law_1080 (by decide) ?_
    exact mw_loc (pc' := 0) [0, 1, 2, 3, 4, 5] rfl (mw_less ⟨by omega, by omega⟩ (h g1 d2 hI2 hs2))
theorem lc_15 {i : Int} {bc bs : Nat} {g : mG} {d : mD} {Q : mQ} (hI : INV g d) (hi : 0 ≤ i ∧ i + 3 < d SCR (-1)) (hN : d SCR (-1) ≤ 2048) (hb : 48 ≤ bc ∧ 8234 ≤ bs) (h : ∀ g' d', INV g' d' → d' SCR = d SCR → MW mL_law (bc - 48) (bs - 8234) 3808 [(0, (5, 0)), (1, vR 0), (2, vR 65), (3, vR 74), (4, vR 75), (5, vI i)] [] g' d' Q) : MW mL_law bc bs 1083 [(0, (5, 0)), (1, vR 0), (2, vR 65), (3, vR 74), (4, vR 75), (5, vI i)] [] g d Q := by
  refine mw_top (fun hT => ?_)
  have hG : 76 ≤ g.2.1 := hT.2
  by_cases hz : d SCR (i + 3) = 0
  · refine mw_aload_n (v := vR 0) (pc' := 1084) dL_law_1083 rfl rfl (by simp) rfl ?_
    refine mw_aload_n (v := (5, 0)) (pc' := 1085) dL_law_1084 rfl rfl (by simp) rfl ?_
    refine mw_iload (pc' := 1087) dL_law_1085 rfl rfl ?_
    refine mw_iconst (pc' := 1088) dL_law_1087 rfl ⟨by decide, by decide⟩ ?_
    refine mw_iadd (pc' := 1089) dL_law_1088 rfl (ik (by omega)) ?_
    refine mw_xld (pc' := 1090) dL_law_1089 rfl ⟨by omega, by omega⟩ ?_
    refine mw_aload_n (v := (5, 0)) (pc' := 1091) dL_law_1090 rfl rfl (by simp) rfl ?_
    refine mw_iload (pc' := 1093) dL_law_1091 rfl rfl ?_
    refine mw_iconst (pc' := 1094) dL_law_1093 rfl ⟨by decide, by decide⟩ ?_
    refine mw_iadd (pc' := 1095) dL_law_1094 rfl (ik (by omega)) ?_
    refine mw_xld (pc' := 1096) dL_law_1095 rfl ⟨by omega, by omega⟩ ?_
    refine mw_aload_n (v := (5, 0)) (pc' := 1097) dL_law_1096 rfl rfl (by simp) rfl ?_
    refine mw_iload (pc' := 1099) dL_law_1097 rfl rfl ?_
    refine mw_iconst (pc' := 1100) dL_law_1099 rfl ⟨by decide, by decide⟩ ?_
    refine mw_iadd (pc' := 1101) dL_law_1100 rfl (ik (by omega)) ?_
    refine mw_xld (pc' := 1102) dL_law_1101 rfl ⟨by omega, by omega⟩ ?_
    refine mw_if_eq (tgt := 1109) (pc' := 1105) dL_law_1102 rfl (by decide) (fun c => ?_) (fun c => absurd hz c)
    refine mw_iconst (pc' := 1110) dL_law_1109 rfl ⟨by decide, by decide⟩ ?_
    refine mw_aload_n (v := vR 74) (pc' := 1111) dL_law_1110 rfl rfl (by simp) rfl ?_
    refine mw_callSX (M' := mL_setRule) (A := [vR 0, vI (d SCR (i + 1)), vI (d SCR (i + 2)), vI 0, vR 74]) (S := []) (pc' := 1114) dL_law_1111 rfl (goodW 981 (by decide +kernel) rfl) kM_L_setRule kS_L_setRule ⟨by decide, by decide, Nat.le_trans (by decide) hb.1, Nat.le_trans (by decide) hb.2, by decide⟩ rfl rfl (Nat.le_of_ble_eq_true rfl) (MM.mono ?_ (MM.scr (o_setRule (by decide) g d hI)))
    intro o g1 d1 hh
    obtain ⟨⟨k, ho, h1⟩, hs1⟩ := hh
    subst ho
    show MW mL_law (bc - 47) (bs - 8228) 1114 [(0, (5, 0)), (1, vR 0), (2, vR 65), (3, vR 74), (4, vR 75), (5, vI i)] [vI k] g1 d1 Q
    refine mw_top (fun hT1 => ?_)
    have hG1 : 76 ≤ g1.2.1 := hT1.2
    refine mw_istore (pc' := 1116) (L' := [(0, (5, 0)), (1, vR 0), (2, vR 65), (3, vR 74), (4, vR 75), (5, vI i), (6, vI k)]) dL_law_1114 rfl (by decide) rfl ?_
    refine mw_aload_n (v := vR 65) (pc' := 1117) dL_law_1116 rfl rfl (by simp) rfl ?_
    refine mw_aload_n (v := (5, 0)) (pc' := 1118) dL_law_1117 rfl rfl (by simp) rfl ?_
    refine mw_iload (pc' := 1120) dL_law_1118 rfl rfl ?_
    refine mw_iconst (pc' := 1121) dL_law_1120 rfl ⟨by decide, by decide⟩ ?_
    refine mw_iadd (pc' := 1122) dL_law_1121 rfl (ik (by omega)) ?_
    refine mw_xld (pc' := 1123) dL_law_1122 rfl (by rw [hs1]; exact ⟨by omega, by omega⟩) ?_
    rw [hs1]
    refine mw_aload_n (v := (5, 0)) (pc' := 1124) dL_law_1123 rfl rfl (by simp) rfl ?_
    refine mw_iload (pc' := 1126) dL_law_1124 rfl rfl ?_
    refine mw_iconst (pc' := 1127) dL_law_1126 rfl ⟨by decide, by decide⟩ ?_
    refine mw_iadd (pc' := 1128) dL_law_1127 rfl (ik (by omega)) ?_
    refine mw_xld (pc' := 1129) dL_law_1128 rfl (by rw [hs1]; exact ⟨by omega, by omega⟩) ?_
    rw [hs1]
    refine mw_aload_n (v := (5, 0)) (pc' := 1130) dL_law_1129 rfl rfl (by simp) rfl ?_
    refine mw_iload (pc' := 1132) dL_law_1130 rfl rfl ?_
    refine mw_iconst (pc' := 1133) dL_law_1132 rfl ⟨by decide, by decide⟩ ?_
    refine mw_iadd (pc' := 1134) dL_law_1133 rfl (ik (by omega)) ?_
    refine mw_xld (pc' := 1135) dL_law_1134 rfl (by rw [hs1]; exact ⟨by omega, by omega⟩) ?_
    rw [hs1]
    refine mw_if_eq (tgt := 1142) (pc' := 1138) dL_law_1135 rfl (by decide) (fun c => ?_) (fun c => absurd hz c)
    refine mw_iconst (pc' := 1143) dL_law_1142 rfl ⟨by decide, by decide⟩ ?_
    refine mw_callV (M' := mX12_setRule) (A := [vI (d SCR (i + 1)), vI (d SCR (i + 2)), vI 0]) (A' := [vR 65, vI (d SCR (i + 1)), vI (d SCR (i + 2)), vI 0]) (S := []) (a := 65) (pc' := 1146) dL_law_1143 rfl (Or.inl (goodW 1804 (by decide +kernel) rfl)) kM_X12_setRule kV_X12_setRule ⟨by decide, by decide, Nat.zero_le _, Nat.zero_le _, by decide⟩ rfl rfl rfl ⟨by decide, by omega⟩ (by decide +kernel) (by decide +kernel) (Nat.le_of_ble_eq_true rfl) (h1 _ (fun b d2 hI2 hs2 h5 hb0 => ?_))
    show MW mL_law (bc - 47 - 0) (bs - 8228 - 0) 1146 [(0, (5, 0)), (1, vR 0), (2, vR 65), (3, vR 74), (4, vR 75), (5, vI i), (6, vI k)] [vI b] g1 d2 Q
    rw [Nat.sub_zero (bc - 47), Nat.sub_zero (bs - 8228)]
    refine mw_istore (pc' := 1148) (L' := [(0, (5, 0)), (1, vR 0), (2, vR 65), (3, vR 74), (4, vR 75), (5, vI i), (6, vI k), (7, vI b)]) dL_law_1146 rfl (by decide) rfl ?_
    refine mw_aload_n (v := vR 65) (pc' := 1149) dL_law_1148 rfl rfl (by simp) rfl ?_
    refine mw_callV (M' := mX12_thrown) (A := []) (A' := [vR 65]) (S := []) (a := 65) (pc' := 1152) dL_law_1149 rfl (Or.inl (goodW 1679 (by decide +kernel) rfl)) kM_X12_thrown kV_X12_thrown ⟨by decide, by decide, Nat.zero_le _, Nat.zero_le _, by decide⟩ rfl rfl rfl ⟨by decide, by omega⟩ (by decide +kernel) (by decide +kernel) (Nat.le_of_ble_eq_true rfl) (eX12_thrown ?_)
    show MW mL_law (bc - 47 - 0) (bs - 8228 - 0) 1152 [(0, (5, 0)), (1, vR 0), (2, vR 65), (3, vR 74), (4, vR 75), (5, vI i), (6, vI k), (7, vI b)] [vI (d2 65 5)] g1 d2 Q
    rw [Nat.sub_zero (bc - 47), Nat.sub_zero (bs - 8228)]
    rw [h5]
    refine mw_iload (pc' := 1154) dL_law_1152 rfl rfl ?_
    refine mw_icmp_eq (tgt := 1159) (pc' := 1157) dL_law_1154 rfl (by decide) (fun _ => ?_) (fun c => absurd rfl c)
    refine mw_iload (pc' := 1161) dL_law_1159 rfl rfl ?_
    refine mw_if_ne (tgt := 1176) (pc' := 1164) dL_law_1161 rfl (by decide) (fun c => ?_) (fun c => ?_)
    · refine mw_goto (pc' := 0) (tgt := 3808) dL_law_1176 (by decide) ?_
      exact mw_loc (pc' := 0) [0, 1, 2, 3, 4, 5] rfl (mw_less ⟨by omega, by omega⟩ (h g1 d2 hI2 hs2))
    · have hb1 := hb0 c
      refine mw_aload_n (v := vR 74) (pc' := 1165) dL_law_1164 rfl rfl (by simp) rfl ?_
      refine mw_iconst (pc' := 1166) dL_law_1165 rfl ⟨by decide, by decide⟩ ?_
      refine mw_lald (pc' := 1167) dL_law_1166 rfl (by decide +kernel) ⟨by decide, by decide⟩ (by rw [show LN 74 = 1 by decide +kernel]; exact ⟨by decide, by decide⟩) ?_
      refine mw_iload (pc' := 1169) dL_law_1167 rfl rfl ?_
      refine mw_i2l (pc' := 1170) dL_law_1169 rfl ?_
      refine mw_lcmp (pc' := 1171) dL_law_1170 rfl ?_
      refine mw_if_eq (tgt := 1176) (pc' := 1174) dL_law_1171 rfl (by decide) (fun _ => ?_) (fun c3 => absurd (by rw [hb1]; exact lCmp_rf) c3)
      refine mw_goto (pc' := 0) (tgt := 3808) dL_law_1176 (by decide) ?_
      exact mw_loc (pc' := 0) [0, 1, 2, 3, 4, 5] rfl (mw_less ⟨by omega, by omega⟩ (h g1 d2 hI2 hs2))
  · refine mw_aload_n (v := vR 0) (pc' := 1084) dL_law_1083 rfl rfl (by simp) rfl ?_
    refine mw_aload_n (v := (5, 0)) (pc' := 1085) dL_law_1084 rfl rfl (by simp) rfl ?_
    refine mw_iload (pc' := 1087) dL_law_1085 rfl rfl ?_
    refine mw_iconst (pc' := 1088) dL_law_1087 rfl ⟨by decide, by decide⟩ ?_
    refine mw_iadd (pc' := 1089) dL_law_1088 rfl (ik (by omega)) ?_
    refine mw_xld (pc' := 1090) dL_law_1089 rfl ⟨by omega, by omega⟩ ?_
    refine mw_aload_n (v := (5, 0)) (pc' := 1091) dL_law_1090 rfl rfl (by simp) rfl ?_
    refine mw_iload (pc' := 1093) dL_law_1091 rfl rfl ?_
    refine mw_iconst (pc' := 1094) dL_law_1093 rfl ⟨by decide, by decide⟩ ?_
    refine mw_iadd (pc' := 1095) dL_law_1094 rfl (ik (by omega)) ?_
    refine mw_xld (pc' := 1096) dL_law_1095 rfl ⟨by omega, by omega⟩ ?_
    refine mw_aload_n (v := (5, 0)) (pc' := 1097) dL_law_1096 rfl rfl (by simp) rfl ?_
    refine mw_iload (pc' := 1099) dL_law_1097 rfl rfl ?_
    refine mw_iconst (pc' := 1100) dL_law_1099 rfl ⟨by decide, by decide⟩ ?_
    refine mw_iadd (pc' := 1101) dL_law_1100 rfl (ik (by omega)) ?_
    refine mw_xld (pc' := 1102) dL_law_1101 rfl ⟨by omega, by omega⟩ ?_
    refine mw_if_eq (tgt := 1109) (pc' := 1105) dL_law_1102 rfl (by decide) (fun c => absurd c hz) (fun c => ?_)
    refine mw_iconst (pc' := 1106) dL_law_1105 rfl ⟨by decide, by decide⟩ ?_
    refine mw_goto (pc' := 0) (tgt := 1110) dL_law_1106 (by decide) ?_
    refine mw_aload_n (v := vR 74) (pc' := 1111) dL_law_1110 rfl rfl (by simp) rfl ?_
    refine mw_callSX (M' := mL_setRule) (A := [vR 0, vI (d SCR (i + 1)), vI (d SCR (i + 2)), vI 1, vR 74]) (S := []) (pc' := 1114) dL_law_1111 rfl (goodW 981 (by decide +kernel) rfl) kM_L_setRule kS_L_setRule ⟨by decide, by decide, Nat.le_trans (by decide) hb.1, Nat.le_trans (by decide) hb.2, by decide⟩ rfl rfl (Nat.le_of_ble_eq_true rfl) (MM.mono ?_ (MM.scr (o_setRule (by decide) g d hI)))
    intro o g1 d1 hh
    obtain ⟨⟨k, ho, h1⟩, hs1⟩ := hh
    subst ho
    show MW mL_law (bc - 47) (bs - 8228) 1114 [(0, (5, 0)), (1, vR 0), (2, vR 65), (3, vR 74), (4, vR 75), (5, vI i)] [vI k] g1 d1 Q
    refine mw_top (fun hT1 => ?_)
    have hG1 : 76 ≤ g1.2.1 := hT1.2
    refine mw_istore (pc' := 1116) (L' := [(0, (5, 0)), (1, vR 0), (2, vR 65), (3, vR 74), (4, vR 75), (5, vI i), (6, vI k)]) dL_law_1114 rfl (by decide) rfl ?_
    refine mw_aload_n (v := vR 65) (pc' := 1117) dL_law_1116 rfl rfl (by simp) rfl ?_
    refine mw_aload_n (v := (5, 0)) (pc' := 1118) dL_law_1117 rfl rfl (by simp) rfl ?_
    refine mw_iload (pc' := 1120) dL_law_1118 rfl rfl ?_
    refine mw_iconst (pc' := 1121) dL_law_1120 rfl ⟨by decide, by decide⟩ ?_
    refine mw_iadd (pc' := 1122) dL_law_1121 rfl (ik (by omega)) ?_
    refine mw_xld (pc' := 1123) dL_law_1122 rfl (by rw [hs1]; exact ⟨by omega, by omega⟩) ?_
    rw [hs1]
    refine mw_aload_n (v := (5, 0)) (pc' := 1124) dL_law_1123 rfl rfl (by simp) rfl ?_
    refine mw_iload (pc' := 1126) dL_law_1124 rfl rfl ?_
    refine mw_iconst (pc' := 1127) dL_law_1126 rfl ⟨by decide, by decide⟩ ?_
    refine mw_iadd (pc' := 1128) dL_law_1127 rfl (ik (by omega)) ?_
    refine mw_xld (pc' := 1129) dL_law_1128 rfl (by rw [hs1]; exact ⟨by omega, by omega⟩) ?_
    rw [hs1]
    refine mw_aload_n (v := (5, 0)) (pc' := 1130) dL_law_1129 rfl rfl (by simp) rfl ?_
    refine mw_iload (pc' := 1132) dL_law_1130 rfl rfl ?_
    refine mw_iconst (pc' := 1133) dL_law_1132 rfl ⟨by decide, by decide⟩ ?_
    refine mw_iadd (pc' := 1134) dL_law_1133 rfl (ik (by omega)) ?_
    refine mw_xld (pc' := 1135) dL_law_1134 rfl (by rw [hs1]; exact ⟨by omega, by omega⟩) ?_
    rw [hs1]
    refine mw_if_eq (tgt := 1142) (pc' := 1138) dL_law_1135 rfl (by decide) (fun c => absurd c hz) (fun c => ?_)
    refine mw_iconst (pc' := 1139) dL_law_1138 rfl ⟨by decide, by decide⟩ ?_
    refine mw_goto (pc' := 0) (tgt := 1143) dL_law_1139 (by decide) ?_
    refine mw_callV (M' := mX12_setRule) (A := [vI (d SCR (i + 1)), vI (d SCR (i + 2)), vI 1]) (A' := [vR 65, vI (d SCR (i + 1)), vI (d SCR (i + 2)), vI 1]) (S := []) (a := 65) (pc' := 1146) dL_law_1143 rfl (Or.inl (goodW 1804 (by decide +kernel) rfl)) kM_X12_setRule kV_X12_setRule ⟨by decide, by decide, Nat.zero_le _, Nat.zero_le _, by decide⟩ rfl rfl rfl ⟨by decide, by omega⟩ (by decide +kernel) (by decide +kernel) (Nat.le_of_ble_eq_true rfl) (h1 _ (fun b d2 hI2 hs2 h5 hb0 => ?_))
    show MW mL_law (bc - 47 - 0) (bs - 8228 - 0) 1146 [(0, (5, 0)), (1, vR 0), (2, vR 65), (3, vR 74), (4, vR 75), (5, vI i), (6, vI k)] [vI b] g1 d2 Q
    rw [Nat.sub_zero (bc - 47), Nat.sub_zero (bs - 8228)]
    refine mw_istore (pc' := 1148) (L' := [(0, (5, 0)), (1, vR 0), (2, vR 65), (3, vR 74), (4, vR 75), (5, vI i), (6, vI k), (7, vI b)]) dL_law_1146 rfl (by decide) rfl ?_
    refine mw_aload_n (v := vR 65) (pc' := 1149) dL_law_1148 rfl rfl (by simp) rfl ?_
    refine mw_callV (M' := mX12_thrown) (A := []) (A' := [vR 65]) (S := []) (a := 65) (pc' := 1152) dL_law_1149 rfl (Or.inl (goodW 1679 (by decide +kernel) rfl)) kM_X12_thrown kV_X12_thrown ⟨by decide, by decide, Nat.zero_le _, Nat.zero_le _, by decide⟩ rfl rfl rfl ⟨by decide, by omega⟩ (by decide +kernel) (by decide +kernel) (Nat.le_of_ble_eq_true rfl) (eX12_thrown ?_)
    show MW mL_law (bc - 47 - 0) (bs - 8228 - 0) 1152 [(0, (5, 0)), (1, vR 0), (2, vR 65), (3, vR 74), (4, vR 75), (5, vI i), (6, vI k), (7, vI b)] [vI (d2 65 5)] g1 d2 Q
    rw [Nat.sub_zero (bc - 47), Nat.sub_zero (bs - 8228)]
    rw [h5]
    refine mw_iload (pc' := 1154) dL_law_1152 rfl rfl ?_
    refine mw_icmp_eq (tgt := 1159) (pc' := 1157) dL_law_1154 rfl (by decide) (fun _ => ?_) (fun c => absurd rfl c)
    refine mw_iload (pc' := 1161) dL_law_1159 rfl rfl ?_
    refine mw_if_ne (tgt := 1176) (pc' := 1164) dL_law_1161 rfl (by decide) (fun c => ?_) (fun c => ?_)
    · refine mw_goto (pc' := 0) (tgt := 3808) dL_law_1176 (by decide) ?_
      exact mw_loc (pc' := 0) [0, 1, 2, 3, 4, 5] rfl (mw_less ⟨by omega, by omega⟩ (h g1 d2 hI2 hs2))
    · have hb1 := hb0 c
      refine mw_aload_n (v := vR 74) (pc' := 1165) dL_law_1164 rfl rfl (by simp) rfl ?_
      refine mw_iconst (pc' := 1166) dL_law_1165 rfl ⟨by decide, by decide⟩ ?_
      refine mw_lald (pc' := 1167) dL_law_1166 rfl (by decide +kernel) ⟨by decide, by decide⟩ (by rw [show LN 74 = 1 by decide +kernel]; exact ⟨by decide, by decide⟩) ?_
      refine mw_iload (pc' := 1169) dL_law_1167 rfl rfl ?_
      refine mw_i2l (pc' := 1170) dL_law_1169 rfl ?_
      refine mw_lcmp (pc' := 1171) dL_law_1170 rfl ?_
      refine mw_if_eq (tgt := 1176) (pc' := 1174) dL_law_1171 rfl (by decide) (fun _ => ?_) (fun c3 => absurd (by rw [hb1]; exact lCmp_rf) c3)
      refine mw_goto (pc' := 0) (tgt := 3808) dL_law_1176 (by decide) ?_
      exact mw_loc (pc' := 0) [0, 1, 2, 3, 4, 5] rfl (mw_less ⟨by omega, by omega⟩ (h g1 d2 hI2 hs2))
