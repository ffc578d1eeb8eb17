-- the cases of the law
theorem lc_0 {i : Int} {bc bs : Nat} {g : mG} {d : mD} {Q : mQ} (hI : INV g d) (hi : 0 ≤ i ∧ i + 3 < d SCR (-1)) (hN : d SCR (-1) ≤ 2048) (hb : 47 ≤ bc ∧ 8228 ≤ bs) (h : ∀ g' d', INV g' d' → d' SCR = d SCR → MW mL_law (bc - 47) (bs - 8228) 3808 [(0, (5, 0)), (1, vR 0), (2, vR 65), (3, vR 74), (4, vR 75), (5, vI i)] [] g' d' Q) : MW mL_law bc bs 308 [(0, (5, 0)), (1, vR 0), (2, vR 65), (3, vR 74), (4, vR 75), (5, vI i)] [] g d Q := by
  refine mw_top (fun hT => ?_)
  have hG : 76 ≤ g.2.1 := hT.2
  refine mw_aload_n (v := vR 0) (pc' := 309) dL_law_308 rfl rfl (by simp) rfl ?_
  refine mw_aload_n (v := (5, 0)) (pc' := 310) dL_law_309 rfl rfl (by simp) rfl ?_
  refine mw_iload (pc' := 312) dL_law_310 rfl rfl ?_
  refine mw_iconst (pc' := 313) dL_law_312 rfl ⟨by decide, by decide⟩ ?_
  refine mw_iadd (pc' := 314) dL_law_313 rfl (ik (by omega)) ?_
  refine mw_xld (pc' := 315) dL_law_314 rfl ⟨by omega, by omega⟩ ?_
  refine mw_i2c (pc' := 316) dL_law_315 rfl ?_
  refine mw_aload_n (v := vR 74) (pc' := 317) dL_law_316 rfl rfl (by simp) rfl ?_
  refine mw_callSX (M' := mL_type) (A := [vR 0, vI ((d SCR (i + 1)) % 65536), vR 74]) (S := []) (pc' := 320) dL_law_317 rfl (goodW 587 (by decide +kernel) rfl) kM_L_type kS_L_type ⟨by decide, by decide, Nat.le_trans (by decide) hb.1, Nat.le_trans (by decide) hb.2, by decide⟩ rfl rfl (Nat.le_of_ble_eq_true rfl) (MM.mono ?_ (MM.scr (o_type (x := ((d SCR (i + 1)) % 65536)) (by omega) g d hI)))
  intro o g1 d1 hh
  obtain ⟨⟨k, ho, h1⟩, hs1⟩ := hh
  subst ho
  show MW mL_law (bc - 1) (bs - 6) 320 [(0, (5, 0)), (1, vR 0), (2, vR 65), (3, vR 74), (4, vR 75), (5, vI i)] [vI k] g1 d1 Q
  refine mw_top (fun hT1 => ?_)
  have hG1 : 76 ≤ g1.2.1 := hT1.2
  refine mw_istore (pc' := 322) (L' := [(0, (5, 0)), (1, vR 0), (2, vR 65), (3, vR 74), (4, vR 75), (5, vI i), (6, vI k)]) dL_law_320 rfl (by decide) rfl ?_
  refine mw_aload_n (v := vR 65) (pc' := 323) dL_law_322 rfl rfl (by simp) rfl ?_
  refine mw_aload_n (v := (5, 0)) (pc' := 324) dL_law_323 rfl rfl (by simp) rfl ?_
  refine mw_iload (pc' := 326) dL_law_324 rfl rfl ?_
  refine mw_iconst (pc' := 327) dL_law_326 rfl ⟨by decide, by decide⟩ ?_
  refine mw_iadd (pc' := 328) dL_law_327 rfl (ik (by omega)) ?_
  refine mw_xld (pc' := 329) dL_law_328 rfl (by rw [hs1]; exact ⟨by omega, by omega⟩) ?_
  rw [hs1]
  refine mw_i2c (pc' := 330) dL_law_329 rfl ?_
  refine mw_callV (M' := mX12_type) (A := [vI ((d SCR (i + 1)) % 65536)]) (A' := [vR 65, vI ((d SCR (i + 1)) % 65536)]) (S := []) (a := 65) (pc' := 333) dL_law_330 rfl (Or.inl (goodW 1691 (by decide +kernel) rfl)) kM_X12_type kV_X12_type ⟨by decide, by decide, Nat.zero_le _, Nat.zero_le _, by decide⟩ rfl rfl rfl ⟨by decide, by omega⟩ (by decide +kernel) (by decide +kernel) (Nat.le_of_ble_eq_true rfl) (h1 _ (fun b d2 hI2 hs2 h5 hb0 => ?_))
  show MW mL_law (bc - 1) (bs - 6) 333 [(0, (5, 0)), (1, vR 0), (2, vR 65), (3, vR 74), (4, vR 75), (5, vI i), (6, vI k)] [vI b] g1 d2 Q
  refine mw_istore (pc' := 335) (L' := [(0, (5, 0)), (1, vR 0), (2, vR 65), (3, vR 74), (4, vR 75), (5, vI i), (6, vI k), (7, vI b)]) dL_law_333 rfl (by decide) rfl ?_
  refine mw_aload_n (v := vR 65) (pc' := 336) dL_law_335 rfl rfl (by simp) rfl ?_
  refine mw_callV (M' := mX12_thrown) (A := []) (A' := [vR 65]) (S := []) (a := 65) (pc' := 339) dL_law_336 rfl (Or.inl (goodW 1679 (by decide +kernel) rfl)) kM_X12_thrown kV_X12_thrown ⟨by decide, by decide, Nat.zero_le _, Nat.zero_le _, by decide⟩ rfl rfl rfl ⟨by decide, by omega⟩ (by decide +kernel) (by decide +kernel) (Nat.le_of_ble_eq_true rfl) (eX12_thrown ?_)
  show MW mL_law (bc - 1) (bs - 6) 339 [(0, (5, 0)), (1, vR 0), (2, vR 65), (3, vR 74), (4, vR 75), (5, vI i), (6, vI k), (7, vI b)] [vI (d2 65 5)] g1 d2 Q
  rw [h5]
  refine mw_iload (pc' := 341) dL_law_339 rfl rfl ?_
  refine mw_icmp_eq (tgt := 346) (pc' := 344) dL_law_341 rfl (by decide) (fun _ => ?_) (fun c => absurd rfl c)
  refine mw_iload (pc' := 348) dL_law_346 rfl rfl ?_
  refine mw_if_ne (tgt := 363) (pc' := 351) dL_law_348 rfl (by decide) (fun c => ?_) (fun c => ?_)
  · refine mw_goto (pc' := 0) (tgt := 3808) dL_law_363 (by decide) ?_
    exact mw_loc (pc' := 0) [0, 1, 2, 3, 4, 5] rfl (mw_less ⟨by omega, by omega⟩ (h g1 d2 hI2 hs2))
  · have hb1 := hb0 c
    refine mw_aload_n (v := vR 74) (pc' := 352) dL_law_351 rfl rfl (by simp) rfl ?_
    refine mw_iconst (pc' := 353) dL_law_352 rfl ⟨by decide, by decide⟩ ?_
    refine mw_lald (pc' := 354) dL_law_353 rfl (by decide +kernel) ⟨by decide, by decide⟩ (by rw [show LN 74 = 1 by decide +kernel]; exact ⟨by decide, by decide⟩) ?_
    refine mw_iload (pc' := 356) dL_law_354 rfl rfl ?_
    refine mw_i2l (pc' := 357) dL_law_356 rfl ?_
    refine mw_lcmp (pc' := 358) dL_law_357 rfl ?_
    refine mw_if_eq (tgt := 363) (pc' := 361) dL_law_358 rfl (by decide) (fun _ => ?_) (fun c3 => absurd (by rw [hb1]; exact lCmp_rf) c3)
    refine mw_goto (pc' := 0) (tgt := 3808) dL_law_363 (by decide) ?_
    exact mw_loc (pc' := 0) [0, 1, 2, 3, 4, 5] rfl (mw_less ⟨by omega, by omega⟩ (h g1 d2 hI2 hs2))
theorem lc_1 {i : Int} {bc bs : Nat} {g : mG} {d : mD} {Q : mQ} (hI : INV g d) (hi : 0 ≤ i ∧ i + 3 < d SCR (-1)) (hN : d SCR (-1) ≤ 2048) (hb : 47 ≤ bc ∧ 8228 ≤ bs) (h : ∀ g' d', INV g' d' → d' SCR = d SCR → MW mL_law (bc - 47) (bs - 8228) 3808 [(0, (5, 0)), (1, vR 0), (2, vR 65), (3, vR 74), (4, vR 75), (5, vI i)] [] g' d' Q) : MW mL_law bc bs 366 [(0, (5, 0)), (1, vR 0), (2, vR 65), (3, vR 74), (4, vR 75), (5, vI i)] [] g d Q := by
  refine mw_top (fun hT => ?_)
  have hG : 76 ≤ g.2.1 := hT.2
  refine mw_aload_n (v := vR 0) (pc' := 367) dL_law_366 rfl rfl (by simp) rfl ?_
  refine mw_aload_n (v := vR 74) (pc' := 368) dL_law_367 rfl rfl (by simp) rfl ?_
  refine mw_callSX (M' := mL_addParty) (A := [vR 0, vR 74]) (S := []) (pc' := 371) dL_law_368 rfl (goodW 671 (by decide +kernel) rfl) kM_L_addParty kS_L_addParty ⟨by decide, by decide, Nat.le_trans (by decide) hb.1, Nat.le_trans (by decide) hb.2, by decide⟩ rfl rfl (Nat.le_of_ble_eq_true rfl) (MM.mono ?_ (MM.scr (o_addParty g d hI)))
  intro o g1 d1 hh
  obtain ⟨⟨k, ho, h1⟩, hs1⟩ := hh
  subst ho
  show MW mL_law (bc - 47) (bs - 8228) 371 [(0, (5, 0)), (1, vR 0), (2, vR 65), (3, vR 74), (4, vR 75), (5, vI i)] [vI k] g1 d1 Q
  refine mw_top (fun hT1 => ?_)
  have hG1 : 76 ≤ g1.2.1 := hT1.2
  refine mw_istore (pc' := 373) (L' := [(0, (5, 0)), (1, vR 0), (2, vR 65), (3, vR 74), (4, vR 75), (5, vI i), (6, vI k)]) dL_law_371 rfl (by decide) rfl ?_
  refine mw_aload_n (v := vR 65) (pc' := 374) dL_law_373 rfl rfl (by simp) rfl ?_
  refine mw_callV (M' := mX12_addParty) (A := []) (A' := [vR 65]) (S := []) (a := 65) (pc' := 377) dL_law_374 rfl (Or.inl (goodW 1695 (by decide +kernel) rfl)) kM_X12_addParty kV_X12_addParty ⟨by decide, by decide, Nat.zero_le _, Nat.zero_le _, by decide⟩ rfl rfl rfl ⟨by decide, by omega⟩ (by decide +kernel) (by decide +kernel) (Nat.le_of_ble_eq_true rfl) (h1 _ (fun b d2 hI2 hs2 h5 hb0 => ?_))
  show MW mL_law (bc - 47) (bs - 8228) 377 [(0, (5, 0)), (1, vR 0), (2, vR 65), (3, vR 74), (4, vR 75), (5, vI i), (6, vI k)] [vI b] g1 d2 Q
  refine mw_istore (pc' := 379) (L' := [(0, (5, 0)), (1, vR 0), (2, vR 65), (3, vR 74), (4, vR 75), (5, vI i), (6, vI k), (7, vI b)]) dL_law_377 rfl (by decide) rfl ?_
  refine mw_aload_n (v := vR 65) (pc' := 380) dL_law_379 rfl rfl (by simp) rfl ?_
  refine mw_callV (M' := mX12_thrown) (A := []) (A' := [vR 65]) (S := []) (a := 65) (pc' := 383) dL_law_380 rfl (Or.inl (goodW 1679 (by decide +kernel) rfl)) kM_X12_thrown kV_X12_thrown ⟨by decide, by decide, Nat.zero_le _, Nat.zero_le _, by decide⟩ rfl rfl rfl ⟨by decide, by omega⟩ (by decide +kernel) (by decide +kernel) (Nat.le_of_ble_eq_true rfl) (eX12_thrown ?_)
  show MW mL_law (bc - 47) (bs - 8228) 383 [(0, (5, 0)), (1, vR 0), (2, vR 65), (3, vR 74), (4, vR 75), (5, vI i), (6, vI k), (7, vI b)] [vI (d2 65 5)] g1 d2 Q
  rw [h5]
  refine mw_iload (pc' := 385) dL_law_383 rfl rfl ?_
  refine mw_icmp_eq (tgt := 390) (pc' := 388) dL_law_385 rfl (by decide) (fun _ => ?_) (fun c => absurd rfl c)
  refine mw_iload (pc' := 392) dL_law_390 rfl rfl ?_
  refine mw_if_ne (tgt := 407) (pc' := 395) dL_law_392 rfl (by decide) (fun c => ?_) (fun c => ?_)
  · refine mw_goto (pc' := 0) (tgt := 3808) dL_law_407 (by decide) ?_
    exact mw_loc (pc' := 0) [0, 1, 2, 3, 4, 5] rfl (mw_less ⟨by omega, by omega⟩ (h g1 d2 hI2 hs2))
  · have hb1 := hb0 c
    refine mw_aload_n (v := vR 74) (pc' := 396) dL_law_395 rfl rfl (by simp) rfl ?_
    refine mw_iconst (pc' := 397) dL_law_396 rfl ⟨by decide, by decide⟩ ?_
    refine mw_lald (pc' := 398) dL_law_397 rfl (by decide +kernel) ⟨by decide, by decide⟩ (by rw [show LN 74 = 1 by decide +kernel]; exact ⟨by decide, by decide⟩) ?_
    refine mw_iload (pc' := 400) dL_law_398 rfl rfl ?_
    refine mw_i2l (pc' := 401) dL_law_400 rfl ?_
    refine mw_lcmp (pc' := 402) dL_law_401 rfl ?_
    refine mw_if_eq (tgt := 407) (pc' := 405) dL_law_402 rfl (by decide) (fun _ => ?_) (fun c3 => absurd (by rw [hb1]; exact lCmp_rf) c3)
    refine mw_goto (pc' := 0) (tgt := 3808) dL_law_407 (by decide) ?_
    exact mw_loc (pc' := 0) [0, 1, 2, 3, 4, 5] rfl (mw_less ⟨by omega, by omega⟩ (h g1 d2 hI2 hs2))
theorem lc_2 {i : Int} {bc bs : Nat} {g : mG} {d : mD} {Q : mQ} (hI : INV g d) (hi : 0 ≤ i ∧ i + 3 < d SCR (-1)) (hN : d SCR (-1) ≤ 2048) (hb : 47 ≤ bc ∧ 8228 ≤ bs) (h : ∀ g' d', INV g' d' → d' SCR = d SCR → MW mL_law (bc - 47) (bs - 8228) 3808 [(0, (5, 0)), (1, vR 0), (2, vR 65), (3, vR 74), (4, vR 75), (5, vI i)] [] g' d' Q) : MW mL_law bc bs 410 [(0, (5, 0)), (1, vR 0), (2, vR 65), (3, vR 74), (4, vR 75), (5, vI i)] [] g d Q := by
  refine mw_top (fun hT => ?_)
  have hG : 76 ≤ g.2.1 := hT.2
  refine mw_aload_n (v := vR 0) (pc' := 411) dL_law_410 rfl rfl (by simp) rfl ?_
  refine mw_aload_n (v := vR 74) (pc' := 412) dL_law_411 rfl rfl (by simp) rfl ?_
  refine mw_callSX (M' := mL_findParty) (A := [vR 0, vR 74]) (S := []) (pc' := 415) dL_law_412 rfl (goodW 832 (by decide +kernel) rfl) kM_L_findParty kS_L_findParty ⟨by decide, by decide, Nat.le_trans (by decide) hb.1, Nat.le_trans (by decide) hb.2, by decide⟩ rfl rfl (Nat.le_of_ble_eq_true rfl) (MM.mono ?_ (MM.scr (o_findParty g d hI)))
  intro o g1 d1 hh
  obtain ⟨⟨k, ho, h1⟩, hs1⟩ := hh
  subst ho
  show MW mL_law (bc - 1) (bs - 6) 415 [(0, (5, 0)), (1, vR 0), (2, vR 65), (3, vR 74), (4, vR 75), (5, vI i)] [vI k] g1 d1 Q
  refine mw_top (fun hT1 => ?_)
  have hG1 : 76 ≤ g1.2.1 := hT1.2
  refine mw_istore (pc' := 417) (L' := [(0, (5, 0)), (1, vR 0), (2, vR 65), (3, vR 74), (4, vR 75), (5, vI i), (6, vI k)]) dL_law_415 rfl (by decide) rfl ?_
  refine mw_aload_n (v := vR 65) (pc' := 418) dL_law_417 rfl rfl (by simp) rfl ?_
  refine mw_callV (M' := mX12_findParty) (A := []) (A' := [vR 65]) (S := []) (a := 65) (pc' := 421) dL_law_418 rfl (Or.inl (goodW 1732 (by decide +kernel) rfl)) kM_X12_findParty kV_X12_findParty ⟨by decide, by decide, Nat.zero_le _, Nat.zero_le _, by decide⟩ rfl rfl rfl ⟨by decide, by omega⟩ (by decide +kernel) (by decide +kernel) (Nat.le_of_ble_eq_true rfl) (h1 _ (fun b d2 hI2 hs2 h5 hb0 => ?_))
  show MW mL_law (bc - 1) (bs - 6) 421 [(0, (5, 0)), (1, vR 0), (2, vR 65), (3, vR 74), (4, vR 75), (5, vI i), (6, vI k)] [vI b] g1 d2 Q
  refine mw_istore (pc' := 423) (L' := [(0, (5, 0)), (1, vR 0), (2, vR 65), (3, vR 74), (4, vR 75), (5, vI i), (6, vI k), (7, vI b)]) dL_law_421 rfl (by decide) rfl ?_
  refine mw_aload_n (v := vR 65) (pc' := 424) dL_law_423 rfl rfl (by simp) rfl ?_
  refine mw_callV (M' := mX12_thrown) (A := []) (A' := [vR 65]) (S := []) (a := 65) (pc' := 427) dL_law_424 rfl (Or.inl (goodW 1679 (by decide +kernel) rfl)) kM_X12_thrown kV_X12_thrown ⟨by decide, by decide, Nat.zero_le _, Nat.zero_le _, by decide⟩ rfl rfl rfl ⟨by decide, by omega⟩ (by decide +kernel) (by decide +kernel) (Nat.le_of_ble_eq_true rfl) (eX12_thrown ?_)
  show MW mL_law (bc - 1) (bs - 6) 427 [(0, (5, 0)), (1, vR 0), (2, vR 65), (3, vR 74), (4, vR 75), (5, vI i), (6, vI k), (7, vI b)] [vI (d2 65 5)] g1 d2 Q
  rw [h5]
  refine mw_iload (pc' := 429) dL_law_427 rfl rfl ?_
  refine mw_icmp_eq (tgt := 434) (pc' := 432) dL_law_429 rfl (by decide) (fun _ => ?_) (fun c => absurd rfl c)
  refine mw_iload (pc' := 436) dL_law_434 rfl rfl ?_
  refine mw_if_ne (tgt := 451) (pc' := 439) dL_law_436 rfl (by decide) (fun c => ?_) (fun c => ?_)
  · refine mw_goto (pc' := 0) (tgt := 3808) dL_law_451 (by decide) ?_
    exact mw_loc (pc' := 0) [0, 1, 2, 3, 4, 5] rfl (mw_less ⟨by omega, by omega⟩ (h g1 d2 hI2 hs2))
  · have hb1 := hb0 c
    refine mw_aload_n (v := vR 74) (pc' := 440) dL_law_439 rfl rfl (by simp) rfl ?_
    refine mw_iconst (pc' := 441) dL_law_440 rfl ⟨by decide, by decide⟩ ?_
    refine mw_lald (pc' := 442) dL_law_441 rfl (by decide +kernel) ⟨by decide, by decide⟩ (by rw [show LN 74 = 1 by decide +kernel]; exact ⟨by decide, by decide⟩) ?_
    refine mw_iload (pc' := 444) dL_law_442 rfl rfl ?_
    refine mw_i2l (pc' := 445) dL_law_444 rfl ?_
    refine mw_lcmp (pc' := 446) dL_law_445 rfl ?_
    refine mw_if_eq (tgt := 451) (pc' := 449) dL_law_446 rfl (by decide) (fun _ => ?_) (fun c3 => absurd (by rw [hb1]; exact lCmp_rf) c3)
    refine mw_goto (pc' := 0) (tgt := 3808) dL_law_451 (by decide) ?_
    exact mw_loc (pc' := 0) [0, 1, 2, 3, 4, 5] rfl (mw_less ⟨by omega, by omega⟩ (h g1 d2 hI2 hs2))
theorem lc_3 {i : Int} {bc bs : Nat} {g : mG} {d : mD} {Q : mQ} (hI : INV g d) (hi : 0 ≤ i ∧ i + 3 < d SCR (-1)) (hN : d SCR (-1) ≤ 2048) (hb : 47 ≤ bc ∧ 8228 ≤ bs) (h : ∀ g' d', INV g' d' → d' SCR = d SCR → MW mL_law (bc - 47) (bs - 8228) 3808 [(0, (5, 0)), (1, vR 0), (2, vR 65), (3, vR 74), (4, vR 75), (5, vI i)] [] g' d' Q) : MW mL_law bc bs 454 [(0, (5, 0)), (1, vR 0), (2, vR 65), (3, vR 74), (4, vR 75), (5, vI i)] [] g d Q := by
  refine mw_top (fun hT => ?_)
  have hG : 76 ≤ g.2.1 := hT.2
  refine mw_aload_n (v := vR 0) (pc' := 455) dL_law_454 rfl rfl (by simp) rfl ?_
  refine mw_callV (M' := mX11_parties) (A := []) (A' := [vR 0]) (S := []) (a := 0) (pc' := 458) dL_law_455 rfl (Or.inl (goodW 393 (by decide +kernel) rfl)) kM_X11_parties kV_X11_parties ⟨by decide, by decide, Nat.zero_le _, Nat.zero_le _, by decide⟩ rfl rfl rfl ⟨by decide, by omega⟩ (by decide +kernel) (by decide +kernel) (Nat.le_of_ble_eq_true rfl) (MM.mono ?_ (o_parties g d hI))
  intro o g1 d1 hh
  obtain ⟨k, ho, h1⟩ := hh
  subst ho
  show MW mL_law bc bs 458 [(0, (5, 0)), (1, vR 0), (2, vR 65), (3, vR 74), (4, vR 75), (5, vI i)] [vI k] g1 d1 Q
  refine mw_top (fun hT1 => ?_)
  have hG1 : 76 ≤ g1.2.1 := hT1.2
  refine mw_aload_n (v := vR 65) (pc' := 459) dL_law_458 rfl rfl (by simp) rfl ?_
  refine mw_callV (M' := mX12_parties) (A := []) (A' := [vR 65]) (S := [vI k]) (a := 65) (pc' := 462) dL_law_459 rfl (Or.inl (goodW 1736 (by decide +kernel) rfl)) kM_X12_parties kV_X12_parties ⟨by decide, by decide, Nat.zero_le _, Nat.zero_le _, by decide⟩ rfl rfl rfl ⟨by decide, by omega⟩ (by decide +kernel) (by decide +kernel) (Nat.le_of_ble_eq_true rfl) (h1 _ (fun b d2 hI2 hs2 hb0 => ?_))
  show MW mL_law bc bs 462 [(0, (5, 0)), (1, vR 0), (2, vR 65), (3, vR 74), (4, vR 75), (5, vI i)] [vI b, vI k] g1 d2 Q
  refine mw_icmp_eq (tgt := 3808) (pc' := 465) dL_law_462 rfl (by decide) (fun _ => ?_) (fun c => absurd hb0.symm c)
  exact mw_less ⟨by omega, by omega⟩ (h g1 d2 hI2 hs2)
theorem lc_4 {i : Int} {bc bs : Nat} {g : mG} {d : mD} {Q : mQ} (hI : INV g d) (hi : 0 ≤ i ∧ i + 3 < d SCR (-1)) (hN : d SCR (-1) ≤ 2048) (hb : 47 ≤ bc ∧ 8228 ≤ bs) (h : ∀ g' d', INV g' d' → d' SCR = d SCR → MW mL_law (bc - 47) (bs - 8228) 3808 [(0, (5, 0)), (1, vR 0), (2, vR 65), (3, vR 74), (4, vR 75), (5, vI i)] [] g' d' Q) : MW mL_law bc bs 467 [(0, (5, 0)), (1, vR 0), (2, vR 65), (3, vR 74), (4, vR 75), (5, vI i)] [] g d Q := by
  refine mw_top (fun hT => ?_)
  have hG : 76 ≤ g.2.1 := hT.2
  refine mw_aload_n (v := vR 0) (pc' := 468) dL_law_467 rfl rfl (by simp) rfl ?_
  refine mw_aload_n (v := (5, 0)) (pc' := 469) dL_law_468 rfl rfl (by simp) rfl ?_
  refine mw_iload (pc' := 471) dL_law_469 rfl rfl ?_
  refine mw_iconst (pc' := 472) dL_law_471 rfl ⟨by decide, by decide⟩ ?_
  refine mw_iadd (pc' := 473) dL_law_472 rfl (ik (by omega)) ?_
  refine mw_xld (pc' := 474) dL_law_473 rfl ⟨by omega, by omega⟩ ?_
  refine mw_aload_n (v := vR 74) (pc' := 475) dL_law_474 rfl rfl (by simp) rfl ?_
  refine mw_callSX (M' := mL_nameLength) (A := [vR 0, vI (d SCR (i + 1)), vR 74]) (S := []) (pc' := 478) dL_law_475 rfl (goodW 841 (by decide +kernel) rfl) kM_L_nameLength kS_L_nameLength ⟨by decide, by decide, Nat.le_trans (by decide) hb.1, Nat.le_trans (by decide) hb.2, by decide⟩ rfl rfl (Nat.le_of_ble_eq_true rfl) (MM.mono ?_ (MM.scr (o_nameLength g d hI)))
  intro o g1 d1 hh
  obtain ⟨⟨k, ho, h1⟩, hs1⟩ := hh
  subst ho
  show MW mL_law (bc - 1) (bs - 6) 478 [(0, (5, 0)), (1, vR 0), (2, vR 65), (3, vR 74), (4, vR 75), (5, vI i)] [vI k] g1 d1 Q
  refine mw_top (fun hT1 => ?_)
  have hG1 : 76 ≤ g1.2.1 := hT1.2
  refine mw_istore (pc' := 480) (L' := [(0, (5, 0)), (1, vR 0), (2, vR 65), (3, vR 74), (4, vR 75), (5, vI i), (6, vI k)]) dL_law_478 rfl (by decide) rfl ?_
  refine mw_aload_n (v := vR 65) (pc' := 481) dL_law_480 rfl rfl (by simp) rfl ?_
  refine mw_aload_n (v := (5, 0)) (pc' := 482) dL_law_481 rfl rfl (by simp) rfl ?_
  refine mw_iload (pc' := 484) dL_law_482 rfl rfl ?_
  refine mw_iconst (pc' := 485) dL_law_484 rfl ⟨by decide, by decide⟩ ?_
  refine mw_iadd (pc' := 486) dL_law_485 rfl (ik (by omega)) ?_
  refine mw_xld (pc' := 487) dL_law_486 rfl (by rw [hs1]; exact ⟨by omega, by omega⟩) ?_
  rw [hs1]
  refine mw_callV (M' := mX12_nameLength) (A := [vI (d SCR (i + 1))]) (A' := [vR 65, vI (d SCR (i + 1))]) (S := []) (a := 65) (pc' := 490) dL_law_487 rfl (Or.inl (goodW 1740 (by decide +kernel) rfl)) kM_X12_nameLength kV_X12_nameLength ⟨by decide, by decide, Nat.zero_le _, Nat.zero_le _, by decide⟩ rfl rfl rfl ⟨by decide, by omega⟩ (by decide +kernel) (by decide +kernel) (Nat.le_of_ble_eq_true rfl) (h1 _ (fun b d2 hI2 hs2 h5 hb0 => ?_))
  show MW mL_law (bc - 1) (bs - 6) 490 [(0, (5, 0)), (1, vR 0), (2, vR 65), (3, vR 74), (4, vR 75), (5, vI i), (6, vI k)] [vI b] g1 d2 Q
  refine mw_istore (pc' := 492) (L' := [(0, (5, 0)), (1, vR 0), (2, vR 65), (3, vR 74), (4, vR 75), (5, vI i), (6, vI k), (7, vI b)]) dL_law_490 rfl (by decide) rfl ?_
  refine mw_aload_n (v := vR 65) (pc' := 493) dL_law_492 rfl rfl (by simp) rfl ?_
  refine mw_callV (M' := mX12_thrown) (A := []) (A' := [vR 65]) (S := []) (a := 65) (pc' := 496) dL_law_493 rfl (Or.inl (goodW 1679 (by decide +kernel) rfl)) kM_X12_thrown kV_X12_thrown ⟨by decide, by decide, Nat.zero_le _, Nat.zero_le _, by decide⟩ rfl rfl rfl ⟨by decide, by omega⟩ (by decide +kernel) (by decide +kernel) (Nat.le_of_ble_eq_true rfl) (eX12_thrown ?_)
  show MW mL_law (bc - 1) (bs - 6) 496 [(0, (5, 0)), (1, vR 0), (2, vR 65), (3, vR 74), (4, vR 75), (5, vI i), (6, vI k), (7, vI b)] [vI (d2 65 5)] g1 d2 Q
  rw [h5]
  refine mw_iload (pc' := 498) dL_law_496 rfl rfl ?_
  refine mw_icmp_eq (tgt := 503) (pc' := 501) dL_law_498 rfl (by decide) (fun _ => ?_) (fun c => absurd rfl c)
  refine mw_iload (pc' := 505) dL_law_503 rfl rfl ?_
  refine mw_if_ne (tgt := 520) (pc' := 508) dL_law_505 rfl (by decide) (fun c => ?_) (fun c => ?_)
  · refine mw_goto (pc' := 0) (tgt := 3808) dL_law_520 (by decide) ?_
    exact mw_loc (pc' := 0) [0, 1, 2, 3, 4, 5] rfl (mw_less ⟨by omega, by omega⟩ (h g1 d2 hI2 hs2))
  · have hb1 := hb0 c
    refine mw_aload_n (v := vR 74) (pc' := 509) dL_law_508 rfl rfl (by simp) rfl ?_
    refine mw_iconst (pc' := 510) dL_law_509 rfl ⟨by decide, by decide⟩ ?_
    refine mw_lald (pc' := 511) dL_law_510 rfl (by decide +kernel) ⟨by decide, by decide⟩ (by rw [show LN 74 = 1 by decide +kernel]; exact ⟨by decide, by decide⟩) ?_
    refine mw_iload (pc' := 513) dL_law_511 rfl rfl ?_
    refine mw_i2l (pc' := 514) dL_law_513 rfl ?_
    refine mw_lcmp (pc' := 515) dL_law_514 rfl ?_
    refine mw_if_eq (tgt := 520) (pc' := 518) dL_law_515 rfl (by decide) (fun _ => ?_) (fun c3 => absurd (by rw [hb1]; exact lCmp_rf) c3)
    refine mw_goto (pc' := 0) (tgt := 3808) dL_law_520 (by decide) ?_
    exact mw_loc (pc' := 0) [0, 1, 2, 3, 4, 5] rfl (mw_less ⟨by omega, by omega⟩ (h g1 d2 hI2 hs2))
theorem lc_5 {i : Int} {bc bs : Nat} {g : mG} {d : mD} {Q : mQ} (hI : INV g d) (hi : 0 ≤ i ∧ i + 3 < d SCR (-1)) (hN : d SCR (-1) ≤ 2048) (hb : 47 ≤ bc ∧ 8228 ≤ bs) (h : ∀ g' d', INV g' d' → d' SCR = d SCR → MW mL_law (bc - 47) (bs - 8228) 3808 [(0, (5, 0)), (1, vR 0), (2, vR 65), (3, vR 74), (4, vR 75), (5, vI i)] [] g' d' Q) : MW mL_law bc bs 523 [(0, (5, 0)), (1, vR 0), (2, vR 65), (3, vR 74), (4, vR 75), (5, vI i)] [] g d Q := by
  refine mw_top (fun hT => ?_)
  have hG : 76 ≤ g.2.1 := hT.2
  refine mw_aload_n (v := vR 0) (pc' := 524) dL_law_523 rfl rfl (by simp) rfl ?_
  refine mw_aload_n (v := (5, 0)) (pc' := 525) dL_law_524 rfl rfl (by simp) rfl ?_
  refine mw_iload (pc' := 527) dL_law_525 rfl rfl ?_
  refine mw_iconst (pc' := 528) dL_law_527 rfl ⟨by decide, by decide⟩ ?_
  refine mw_iadd (pc' := 529) dL_law_528 rfl (ik (by omega)) ?_
  refine mw_xld (pc' := 530) dL_law_529 rfl ⟨by omega, by omega⟩ ?_
  refine mw_aload_n (v := (5, 0)) (pc' := 531) dL_law_530 rfl rfl (by simp) rfl ?_
  refine mw_iload (pc' := 533) dL_law_531 rfl rfl ?_
  refine mw_iconst (pc' := 534) dL_law_533 rfl ⟨by decide, by decide⟩ ?_
  refine mw_iadd (pc' := 535) dL_law_534 rfl (ik (by omega)) ?_
  refine mw_xld (pc' := 536) dL_law_535 rfl ⟨by omega, by omega⟩ ?_
  refine mw_aload_n (v := vR 74) (pc' := 537) dL_law_536 rfl rfl (by simp) rfl ?_
  refine mw_callSX (M' := mL_nameCodePoint) (A := [vR 0, vI (d SCR (i + 1)), vI (d SCR (i + 2)), vR 74]) (S := []) (pc' := 540) dL_law_537 rfl (goodW 878 (by decide +kernel) rfl) kM_L_nameCodePoint kS_L_nameCodePoint ⟨by decide, by decide, Nat.le_trans (by decide) hb.1, Nat.le_trans (by decide) hb.2, by decide⟩ rfl rfl (Nat.le_of_ble_eq_true rfl) (MM.mono ?_ (MM.scr (o_nameCodePoint g d hI)))
  intro o g1 d1 hh
  obtain ⟨⟨k, ho, h1⟩, hs1⟩ := hh
  subst ho
  show MW mL_law (bc - 2) (bs - 12) 540 [(0, (5, 0)), (1, vR 0), (2, vR 65), (3, vR 74), (4, vR 75), (5, vI i)] [vI k] g1 d1 Q
  refine mw_top (fun hT1 => ?_)
  have hG1 : 76 ≤ g1.2.1 := hT1.2
  refine mw_istore (pc' := 542) (L' := [(0, (5, 0)), (1, vR 0), (2, vR 65), (3, vR 74), (4, vR 75), (5, vI i), (6, vI k)]) dL_law_540 rfl (by decide) rfl ?_
  refine mw_aload_n (v := vR 65) (pc' := 543) dL_law_542 rfl rfl (by simp) rfl ?_
  refine mw_aload_n (v := (5, 0)) (pc' := 544) dL_law_543 rfl rfl (by simp) rfl ?_
  refine mw_iload (pc' := 546) dL_law_544 rfl rfl ?_
  refine mw_iconst (pc' := 547) dL_law_546 rfl ⟨by decide, by decide⟩ ?_
  refine mw_iadd (pc' := 548) dL_law_547 rfl (ik (by omega)) ?_
  refine mw_xld (pc' := 549) dL_law_548 rfl (by rw [hs1]; exact ⟨by omega, by omega⟩) ?_
  rw [hs1]
  refine mw_aload_n (v := (5, 0)) (pc' := 550) dL_law_549 rfl rfl (by simp) rfl ?_
  refine mw_iload (pc' := 552) dL_law_550 rfl rfl ?_
  refine mw_iconst (pc' := 553) dL_law_552 rfl ⟨by decide, by decide⟩ ?_
  refine mw_iadd (pc' := 554) dL_law_553 rfl (ik (by omega)) ?_
  refine mw_xld (pc' := 555) dL_law_554 rfl (by rw [hs1]; exact ⟨by omega, by omega⟩) ?_
  rw [hs1]
  refine mw_callV (M' := mX12_nameCodePoint) (A := [vI (d SCR (i + 1)), vI (d SCR (i + 2))]) (A' := [vR 65, vI (d SCR (i + 1)), vI (d SCR (i + 2))]) (S := []) (a := 65) (pc' := 558) dL_law_555 rfl (Or.inl (goodW 1748 (by decide +kernel) rfl)) kM_X12_nameCodePoint kV_X12_nameCodePoint ⟨by decide, by decide, Nat.zero_le _, Nat.zero_le _, by decide⟩ rfl rfl rfl ⟨by decide, by omega⟩ (by decide +kernel) (by decide +kernel) (Nat.le_of_ble_eq_true rfl) (h1 _ (fun b d2 hI2 hs2 h5 hb0 => ?_))
  show MW mL_law (bc - 2) (bs - 12) 558 [(0, (5, 0)), (1, vR 0), (2, vR 65), (3, vR 74), (4, vR 75), (5, vI i), (6, vI k)] [vI b] g1 d2 Q
  refine mw_istore (pc' := 560) (L' := [(0, (5, 0)), (1, vR 0), (2, vR 65), (3, vR 74), (4, vR 75), (5, vI i), (6, vI k), (7, vI b)]) dL_law_558 rfl (by decide) rfl ?_
  refine mw_aload_n (v := vR 65) (pc' := 561) dL_law_560 rfl rfl (by simp) rfl ?_
  refine mw_callV (M' := mX12_thrown) (A := []) (A' := [vR 65]) (S := []) (a := 65) (pc' := 564) dL_law_561 rfl (Or.inl (goodW 1679 (by decide +kernel) rfl)) kM_X12_thrown kV_X12_thrown ⟨by decide, by decide, Nat.zero_le _, Nat.zero_le _, by decide⟩ rfl rfl rfl ⟨by decide, by omega⟩ (by decide +kernel) (by decide +kernel) (Nat.le_of_ble_eq_true rfl) (eX12_thrown ?_)
  show MW mL_law (bc - 2) (bs - 12) 564 [(0, (5, 0)), (1, vR 0), (2, vR 65), (3, vR 74), (4, vR 75), (5, vI i), (6, vI k), (7, vI b)] [vI (d2 65 5)] g1 d2 Q
  rw [h5]
  refine mw_iload (pc' := 566) dL_law_564 rfl rfl ?_
  refine mw_icmp_eq (tgt := 571) (pc' := 569) dL_law_566 rfl (by decide) (fun _ => ?_) (fun c => absurd rfl c)
  refine mw_iload (pc' := 573) dL_law_571 rfl rfl ?_
  refine mw_if_ne (tgt := 588) (pc' := 576) dL_law_573 rfl (by decide) (fun c => ?_) (fun c => ?_)
  · refine mw_goto (pc' := 0) (tgt := 3808) dL_law_588 (by decide) ?_
    exact mw_loc (pc' := 0) [0, 1, 2, 3, 4, 5] rfl (mw_less ⟨by omega, by omega⟩ (h g1 d2 hI2 hs2))
  · have hb1 := hb0 c
    refine mw_aload_n (v := vR 74) (pc' := 577) dL_law_576 rfl rfl (by simp) rfl ?_
    refine mw_iconst (pc' := 578) dL_law_577 rfl ⟨by decide, by decide⟩ ?_
    refine mw_lald (pc' := 579) dL_law_578 rfl (by decide +kernel) ⟨by decide, by decide⟩ (by rw [show LN 74 = 1 by decide +kernel]; exact ⟨by decide, by decide⟩) ?_
    refine mw_iload (pc' := 581) dL_law_579 rfl rfl ?_
    refine mw_i2l (pc' := 582) dL_law_581 rfl ?_
    refine mw_lcmp (pc' := 583) dL_law_582 rfl ?_
    refine mw_if_eq (tgt := 588) (pc' := 586) dL_law_583 rfl (by decide) (fun _ => ?_) (fun c3 => absurd (by rw [hb1]; exact lCmp_rf) c3)
    refine mw_goto (pc' := 0) (tgt := 3808) dL_law_588 (by decide) ?_
    exact mw_loc (pc' := 0) [0, 1, 2, 3, 4, 5] rfl (mw_less ⟨by omega, by omega⟩ (h g1 d2 hI2 hs2))
theorem lc_6 {i : Int} {bc bs : Nat} {g : mG} {d : mD} {Q : mQ} (hI : INV g d) (hi : 0 ≤ i ∧ i + 3 < d SCR (-1)) (hN : d SCR (-1) ≤ 2048) (hb : 47 ≤ bc ∧ 8228 ≤ bs) (h : ∀ g' d', INV g' d' → d' SCR = d SCR → MW mL_law (bc - 47) (bs - 8228) 3808 [(0, (5, 0)), (1, vR 0), (2, vR 65), (3, vR 74), (4, vR 75), (5, vI i)] [] g' d' Q) : MW mL_law bc bs 591 [(0, (5, 0)), (1, vR 0), (2, vR 65), (3, vR 74), (4, vR 75), (5, vI i)] [] g d Q := by
  refine mw_top (fun hT => ?_)
  have hG : 76 ≤ g.2.1 := hT.2
  refine mw_aload_n (v := vR 0) (pc' := 592) dL_law_591 rfl rfl (by simp) rfl ?_
  refine mw_aload_n (v := (5, 0)) (pc' := 593) dL_law_592 rfl rfl (by simp) rfl ?_
  refine mw_iload (pc' := 595) dL_law_593 rfl rfl ?_
  refine mw_iconst (pc' := 596) dL_law_595 rfl ⟨by decide, by decide⟩ ?_
  refine mw_iadd (pc' := 597) dL_law_596 rfl (ik (by omega)) ?_
  refine mw_xld (pc' := 598) dL_law_597 rfl ⟨by omega, by omega⟩ ?_
  refine mw_aload_n (v := vR 74) (pc' := 599) dL_law_598 rfl rfl (by simp) rfl ?_
  refine mw_callSX (M' := mL_writeNameReversed) (A := [vR 0, vI (d SCR (i + 1)), vR 74]) (S := []) (pc' := 602) dL_law_599 rfl (goodW 886 (by decide +kernel) rfl) kM_L_writeNameReversed kS_L_writeNameReversed ⟨by decide, by decide, Nat.le_trans (by decide) hb.1, Nat.le_trans (by decide) hb.2, by decide⟩ rfl rfl (Nat.le_of_ble_eq_true rfl) (MM.mono ?_ (MM.scr (o_writeNameReversed g d hI)))
  intro o g1 d1 hh
  obtain ⟨⟨k, ho, h1⟩, hs1⟩ := hh
  subst ho
  show MW mL_law (bc - 1) (bs - 6) 602 [(0, (5, 0)), (1, vR 0), (2, vR 65), (3, vR 74), (4, vR 75), (5, vI i)] [vI k] g1 d1 Q
  refine mw_top (fun hT1 => ?_)
  have hG1 : 76 ≤ g1.2.1 := hT1.2
  refine mw_istore (pc' := 604) (L' := [(0, (5, 0)), (1, vR 0), (2, vR 65), (3, vR 74), (4, vR 75), (5, vI i), (6, vI k)]) dL_law_602 rfl (by decide) rfl ?_
  refine mw_aload_n (v := vR 65) (pc' := 605) dL_law_604 rfl rfl (by simp) rfl ?_
  refine mw_aload_n (v := (5, 0)) (pc' := 606) dL_law_605 rfl rfl (by simp) rfl ?_
  refine mw_iload (pc' := 608) dL_law_606 rfl rfl ?_
  refine mw_iconst (pc' := 609) dL_law_608 rfl ⟨by decide, by decide⟩ ?_
  refine mw_iadd (pc' := 610) dL_law_609 rfl (ik (by omega)) ?_
  refine mw_xld (pc' := 611) dL_law_610 rfl (by rw [hs1]; exact ⟨by omega, by omega⟩) ?_
  rw [hs1]
  refine mw_callV (M' := mX12_writeNameReversed) (A := [vI (d SCR (i + 1))]) (A' := [vR 65, vI (d SCR (i + 1))]) (S := []) (a := 65) (pc' := 614) dL_law_611 rfl (Or.inl (goodW 1752 (by decide +kernel) rfl)) kM_X12_writeNameReversed kV_X12_writeNameReversed ⟨by decide, by decide, Nat.zero_le _, Nat.zero_le _, by decide⟩ rfl rfl rfl ⟨by decide, by omega⟩ (by decide +kernel) (by decide +kernel) (Nat.le_of_ble_eq_true rfl) (h1 _ (fun b d2 hI2 hs2 h5 hb0 => ?_))
  show MW mL_law (bc - 1) (bs - 6) 614 [(0, (5, 0)), (1, vR 0), (2, vR 65), (3, vR 74), (4, vR 75), (5, vI i), (6, vI k)] [vI b] g1 d2 Q
  refine mw_istore (pc' := 616) (L' := [(0, (5, 0)), (1, vR 0), (2, vR 65), (3, vR 74), (4, vR 75), (5, vI i), (6, vI k), (7, vI b)]) dL_law_614 rfl (by decide) rfl ?_
  refine mw_aload_n (v := vR 65) (pc' := 617) dL_law_616 rfl rfl (by simp) rfl ?_
  refine mw_callV (M' := mX12_thrown) (A := []) (A' := [vR 65]) (S := []) (a := 65) (pc' := 620) dL_law_617 rfl (Or.inl (goodW 1679 (by decide +kernel) rfl)) kM_X12_thrown kV_X12_thrown ⟨by decide, by decide, Nat.zero_le _, Nat.zero_le _, by decide⟩ rfl rfl rfl ⟨by decide, by omega⟩ (by decide +kernel) (by decide +kernel) (Nat.le_of_ble_eq_true rfl) (eX12_thrown ?_)
  show MW mL_law (bc - 1) (bs - 6) 620 [(0, (5, 0)), (1, vR 0), (2, vR 65), (3, vR 74), (4, vR 75), (5, vI i), (6, vI k), (7, vI b)] [vI (d2 65 5)] g1 d2 Q
  rw [h5]
  refine mw_iload (pc' := 622) dL_law_620 rfl rfl ?_
  refine mw_icmp_eq (tgt := 627) (pc' := 625) dL_law_622 rfl (by decide) (fun _ => ?_) (fun c => absurd rfl c)
  refine mw_iload (pc' := 629) dL_law_627 rfl rfl ?_
  refine mw_if_ne (tgt := 644) (pc' := 632) dL_law_629 rfl (by decide) (fun c => ?_) (fun c => ?_)
  · refine mw_goto (pc' := 0) (tgt := 3808) dL_law_644 (by decide) ?_
    exact mw_loc (pc' := 0) [0, 1, 2, 3, 4, 5] rfl (mw_less ⟨by omega, by omega⟩ (h g1 d2 hI2 hs2))
  · have hb1 := hb0 c
    refine mw_aload_n (v := vR 74) (pc' := 633) dL_law_632 rfl rfl (by simp) rfl ?_
    refine mw_iconst (pc' := 634) dL_law_633 rfl ⟨by decide, by decide⟩ ?_
    refine mw_lald (pc' := 635) dL_law_634 rfl (by decide +kernel) ⟨by decide, by decide⟩ (by rw [show LN 74 = 1 by decide +kernel]; exact ⟨by decide, by decide⟩) ?_
    refine mw_iload (pc' := 637) dL_law_635 rfl rfl ?_
    refine mw_i2l (pc' := 638) dL_law_637 rfl ?_
    refine mw_lcmp (pc' := 639) dL_law_638 rfl ?_
    refine mw_if_eq (tgt := 644) (pc' := 642) dL_law_639 rfl (by decide) (fun _ => ?_) (fun c3 => absurd (by rw [hb1]; exact lCmp_rf) c3)
    refine mw_goto (pc' := 0) (tgt := 3808) dL_law_644 (by decide) ?_
    exact mw_loc (pc' := 0) [0, 1, 2, 3, 4, 5] rfl (mw_less ⟨by omega, by omega⟩ (h g1 d2 hI2 hs2))
theorem lc_7 {i : Int} {bc bs : Nat} {g : mG} {d : mD} {Q : mQ} (hI : INV g d) (hi : 0 ≤ i ∧ i + 3 < d SCR (-1)) (hN : d SCR (-1) ≤ 2048) (hb : 47 ≤ bc ∧ 8228 ≤ bs) (h : ∀ g' d', INV g' d' → d' SCR = d SCR → MW mL_law (bc - 47) (bs - 8228) 3808 [(0, (5, 0)), (1, vR 0), (2, vR 65), (3, vR 74), (4, vR 75), (5, vI i)] [] g' d' Q) : MW mL_law bc bs 647 [(0, (5, 0)), (1, vR 0), (2, vR 65), (3, vR 74), (4, vR 75), (5, vI i)] [] g d Q := by
  refine mw_top (fun hT => ?_)
  have hG : 76 ≤ g.2.1 := hT.2
  refine mw_aload_n (v := vR 0) (pc' := 648) dL_law_647 rfl rfl (by simp) rfl ?_
  refine mw_callV (M' := mX11_today) (A := []) (A' := [vR 0]) (S := []) (a := 0) (pc' := 651) dL_law_648 rfl (Or.inl (goodW 397 (by decide +kernel) rfl)) kM_X11_today kV_X11_today ⟨by decide, by decide, Nat.zero_le _, Nat.zero_le _, by decide⟩ rfl rfl rfl ⟨by decide, by omega⟩ (by decide +kernel) (by decide +kernel) (Nat.le_of_ble_eq_true rfl) (MM.mono ?_ (o_today g d hI))
  intro o g1 d1 hh
  obtain ⟨k, ho, h1⟩ := hh
  subst ho
  show MW mL_law bc bs 651 [(0, (5, 0)), (1, vR 0), (2, vR 65), (3, vR 74), (4, vR 75), (5, vI i)] [vI k] g1 d1 Q
  refine mw_top (fun hT1 => ?_)
  have hG1 : 76 ≤ g1.2.1 := hT1.2
  refine mw_aload_n (v := vR 65) (pc' := 652) dL_law_651 rfl rfl (by simp) rfl ?_
  refine mw_callV (M' := mX12_today) (A := []) (A' := [vR 65]) (S := [vI k]) (a := 65) (pc' := 655) dL_law_652 rfl (Or.inl (goodW 1760 (by decide +kernel) rfl)) kM_X12_today kV_X12_today ⟨by decide, by decide, Nat.zero_le _, Nat.zero_le _, by decide⟩ rfl rfl rfl ⟨by decide, by omega⟩ (by decide +kernel) (by decide +kernel) (Nat.le_of_ble_eq_true rfl) (h1 _ (fun b d2 hI2 hs2 hb0 => ?_))
  show MW mL_law bc bs 655 [(0, (5, 0)), (1, vR 0), (2, vR 65), (3, vR 74), (4, vR 75), (5, vI i)] [vI b, vI k] g1 d2 Q
  refine mw_icmp_eq (tgt := 3808) (pc' := 658) dL_law_655 rfl (by decide) (fun _ => ?_) (fun c => absurd hb0.symm c)
  exact mw_less ⟨by omega, by omega⟩ (h g1 d2 hI2 hs2)
theorem lc_8 {i : Int} {bc bs : Nat} {g : mG} {d : mD} {Q : mQ} (hI : INV g d) (hi : 0 ≤ i ∧ i + 3 < d SCR (-1)) (hN : d SCR (-1) ≤ 2048) (hb : 47 ≤ bc ∧ 8228 ≤ bs) (h : ∀ g' d', INV g' d' → d' SCR = d SCR → MW mL_law (bc - 47) (bs - 8228) 3808 [(0, (5, 0)), (1, vR 0), (2, vR 65), (3, vR 74), (4, vR 75), (5, vI i)] [] g' d' Q) : MW mL_law bc bs 660 [(0, (5, 0)), (1, vR 0), (2, vR 65), (3, vR 74), (4, vR 75), (5, vI i)] [] g d Q := by
  refine mw_top (fun hT => ?_)
  have hG : 76 ≤ g.2.1 := hT.2
  refine mw_aload_n (v := vR 0) (pc' := 661) dL_law_660 rfl rfl (by simp) rfl ?_
  refine mw_aload_n (v := (5, 0)) (pc' := 662) dL_law_661 rfl rfl (by simp) rfl ?_
  refine mw_iload (pc' := 664) dL_law_662 rfl rfl ?_
  refine mw_iconst (pc' := 665) dL_law_664 rfl ⟨by decide, by decide⟩ ?_
  refine mw_iadd (pc' := 666) dL_law_665 rfl (ik (by omega)) ?_
  refine mw_xld (pc' := 667) dL_law_666 rfl ⟨by omega, by omega⟩ ?_
  refine mw_aload_n (v := vR 74) (pc' := 668) dL_law_667 rfl rfl (by simp) rfl ?_
  refine mw_callSX (M' := mL_advance) (A := [vR 0, vI (d SCR (i + 1)), vR 74]) (S := []) (pc' := 671) dL_law_668 rfl (goodW 898 (by decide +kernel) rfl) kM_L_advance kS_L_advance ⟨by decide, by decide, Nat.le_trans (by decide) hb.1, Nat.le_trans (by decide) hb.2, by decide⟩ rfl rfl (Nat.le_of_ble_eq_true rfl) (MM.mono ?_ (MM.scr (o_advance g d hI)))
  intro o g1 d1 hh
  obtain ⟨⟨k, ho, h1⟩, hs1⟩ := hh
  subst ho
  show MW mL_law (bc - 47) (bs - 8228) 671 [(0, (5, 0)), (1, vR 0), (2, vR 65), (3, vR 74), (4, vR 75), (5, vI i)] [vI k] g1 d1 Q
  refine mw_top (fun hT1 => ?_)
  have hG1 : 76 ≤ g1.2.1 := hT1.2
  refine mw_istore (pc' := 673) (L' := [(0, (5, 0)), (1, vR 0), (2, vR 65), (3, vR 74), (4, vR 75), (5, vI i), (6, vI k)]) dL_law_671 rfl (by decide) rfl ?_
  refine mw_aload_n (v := vR 65) (pc' := 674) dL_law_673 rfl rfl (by simp) rfl ?_
  refine mw_aload_n (v := (5, 0)) (pc' := 675) dL_law_674 rfl rfl (by simp) rfl ?_
  refine mw_iload (pc' := 677) dL_law_675 rfl rfl ?_
  refine mw_iconst (pc' := 678) dL_law_677 rfl ⟨by decide, by decide⟩ ?_
  refine mw_iadd (pc' := 679) dL_law_678 rfl (ik (by omega)) ?_
  refine mw_xld (pc' := 680) dL_law_679 rfl (by rw [hs1]; exact ⟨by omega, by omega⟩) ?_
  rw [hs1]
  refine mw_callV (M' := mX12_advance) (A := [vI (d SCR (i + 1))]) (A' := [vR 65, vI (d SCR (i + 1))]) (S := []) (a := 65) (pc' := 683) dL_law_680 rfl (Or.inl (goodW 1764 (by decide +kernel) rfl)) kM_X12_advance kV_X12_advance ⟨by decide, by decide, Nat.zero_le _, Nat.zero_le _, by decide⟩ rfl rfl rfl ⟨by decide, by omega⟩ (by decide +kernel) (by decide +kernel) (Nat.le_of_ble_eq_true rfl) (h1 _ (fun b d2 hI2 hs2 h5 hb0 => ?_))
  show MW mL_law (bc - 47) (bs - 8228) 683 [(0, (5, 0)), (1, vR 0), (2, vR 65), (3, vR 74), (4, vR 75), (5, vI i), (6, vI k)] [vI b] g1 d2 Q
  refine mw_istore (pc' := 685) (L' := [(0, (5, 0)), (1, vR 0), (2, vR 65), (3, vR 74), (4, vR 75), (5, vI i), (6, vI k), (7, vI b)]) dL_law_683 rfl (by decide) rfl ?_
  refine mw_aload_n (v := vR 65) (pc' := 686) dL_law_685 rfl rfl (by simp) rfl ?_
  refine mw_callV (M' := mX12_thrown) (A := []) (A' := [vR 65]) (S := []) (a := 65) (pc' := 689) dL_law_686 rfl (Or.inl (goodW 1679 (by decide +kernel) rfl)) kM_X12_thrown kV_X12_thrown ⟨by decide, by decide, Nat.zero_le _, Nat.zero_le _, by decide⟩ rfl rfl rfl ⟨by decide, by omega⟩ (by decide +kernel) (by decide +kernel) (Nat.le_of_ble_eq_true rfl) (eX12_thrown ?_)
  show MW mL_law (bc - 47) (bs - 8228) 689 [(0, (5, 0)), (1, vR 0), (2, vR 65), (3, vR 74), (4, vR 75), (5, vI i), (6, vI k), (7, vI b)] [vI (d2 65 5)] g1 d2 Q
  rw [h5]
  refine mw_iload (pc' := 691) dL_law_689 rfl rfl ?_
  refine mw_icmp_eq (tgt := 696) (pc' := 694) dL_law_691 rfl (by decide) (fun _ => ?_) (fun c => absurd rfl c)
  refine mw_iload (pc' := 698) dL_law_696 rfl rfl ?_
  refine mw_if_ne (tgt := 713) (pc' := 701) dL_law_698 rfl (by decide) (fun c => ?_) (fun c => ?_)
  · refine mw_goto (pc' := 0) (tgt := 3808) dL_law_713 (by decide) ?_
    exact mw_loc (pc' := 0) [0, 1, 2, 3, 4, 5] rfl (mw_less ⟨by omega, by omega⟩ (h g1 d2 hI2 hs2))
  · have hb1 := hb0 c
    refine mw_aload_n (v := vR 74) (pc' := 702) dL_law_701 rfl rfl (by simp) rfl ?_
    refine mw_iconst (pc' := 703) dL_law_702 rfl ⟨by decide, by decide⟩ ?_
    refine mw_lald (pc' := 704) dL_law_703 rfl (by decide +kernel) ⟨by decide, by decide⟩ (by rw [show LN 74 = 1 by decide +kernel]; exact ⟨by decide, by decide⟩) ?_
    refine mw_iload (pc' := 706) dL_law_704 rfl rfl ?_
    refine mw_i2l (pc' := 707) dL_law_706 rfl ?_
    refine mw_lcmp (pc' := 708) dL_law_707 rfl ?_
    refine mw_if_eq (tgt := 713) (pc' := 711) dL_law_708 rfl (by decide) (fun _ => ?_) (fun c3 => absurd (by rw [hb1]; exact lCmp_rf) c3)
    refine mw_goto (pc' := 0) (tgt := 3808) dL_law_713 (by decide) ?_
    exact mw_loc (pc' := 0) [0, 1, 2, 3, 4, 5] rfl (mw_less ⟨by omega, by omega⟩ (h g1 d2 hI2 hs2))
theorem lc_9 {i : Int} {bc bs : Nat} {g : mG} {d : mD} {Q : mQ} (hI : INV g d) (hi : 0 ≤ i ∧ i + 3 < d SCR (-1)) (hN : d SCR (-1) ≤ 2048) (hb : 47 ≤ bc ∧ 8228 ≤ bs) (h : ∀ g' d', INV g' d' → d' SCR = d SCR → MW mL_law (bc - 47) (bs - 8228) 3808 [(0, (5, 0)), (1, vR 0), (2, vR 65), (3, vR 74), (4, vR 75), (5, vI i)] [] g' d' Q) : MW mL_law bc bs 716 [(0, (5, 0)), (1, vR 0), (2, vR 65), (3, vR 74), (4, vR 75), (5, vI i)] [] g d Q := by
  refine mw_top (fun hT => ?_)
  have hG : 76 ≤ g.2.1 := hT.2
  refine mw_aload_n (v := vR 0) (pc' := 717) dL_law_716 rfl rfl (by simp) rfl ?_
  refine mw_aload_n (v := (5, 0)) (pc' := 718) dL_law_717 rfl rfl (by simp) rfl ?_
  refine mw_iload (pc' := 720) dL_law_718 rfl rfl ?_
  refine mw_iconst (pc' := 721) dL_law_720 rfl ⟨by decide, by decide⟩ ?_
  refine mw_iadd (pc' := 722) dL_law_721 rfl (ik (by omega)) ?_
  refine mw_xld (pc' := 723) dL_law_722 rfl ⟨by omega, by omega⟩ ?_
  refine mw_aload_n (v := vR 74) (pc' := 724) dL_law_723 rfl rfl (by simp) rfl ?_
  refine mw_callSX (M' := mL_weekday) (A := [vR 0, vI (d SCR (i + 1)), vR 74]) (S := []) (pc' := 727) dL_law_724 rfl (goodW 909 (by decide +kernel) rfl) kM_L_weekday kS_L_weekday ⟨by decide, by decide, Nat.le_trans (by decide) hb.1, Nat.le_trans (by decide) hb.2, by decide⟩ rfl rfl (Nat.le_of_ble_eq_true rfl) (MM.mono ?_ (MM.scr (o_weekday g d hI)))
  intro o g1 d1 hh
  obtain ⟨⟨k, ho, h1⟩, hs1⟩ := hh
  subst ho
  show MW mL_law (bc - 1) (bs - 6) 727 [(0, (5, 0)), (1, vR 0), (2, vR 65), (3, vR 74), (4, vR 75), (5, vI i)] [vI k] g1 d1 Q
  refine mw_top (fun hT1 => ?_)
  have hG1 : 76 ≤ g1.2.1 := hT1.2
  refine mw_istore (pc' := 729) (L' := [(0, (5, 0)), (1, vR 0), (2, vR 65), (3, vR 74), (4, vR 75), (5, vI i), (6, vI k)]) dL_law_727 rfl (by decide) rfl ?_
  refine mw_aload_n (v := vR 65) (pc' := 730) dL_law_729 rfl rfl (by simp) rfl ?_
  refine mw_aload_n (v := (5, 0)) (pc' := 731) dL_law_730 rfl rfl (by simp) rfl ?_
  refine mw_iload (pc' := 733) dL_law_731 rfl rfl ?_
  refine mw_iconst (pc' := 734) dL_law_733 rfl ⟨by decide, by decide⟩ ?_
  refine mw_iadd (pc' := 735) dL_law_734 rfl (ik (by omega)) ?_
  refine mw_xld (pc' := 736) dL_law_735 rfl (by rw [hs1]; exact ⟨by omega, by omega⟩) ?_
  rw [hs1]
  refine mw_callV (M' := mX12_weekday) (A := [vI (d SCR (i + 1))]) (A' := [vR 65, vI (d SCR (i + 1))]) (S := []) (a := 65) (pc' := 739) dL_law_736 rfl (Or.inl (goodW 1768 (by decide +kernel) rfl)) kM_X12_weekday kV_X12_weekday ⟨by decide, by decide, Nat.zero_le _, Nat.zero_le _, by decide⟩ rfl rfl rfl ⟨by decide, by omega⟩ (by decide +kernel) (by decide +kernel) (Nat.le_of_ble_eq_true rfl) (h1 _ (fun b d2 hI2 hs2 h5 hb0 => ?_))
  show MW mL_law (bc - 1) (bs - 6) 739 [(0, (5, 0)), (1, vR 0), (2, vR 65), (3, vR 74), (4, vR 75), (5, vI i), (6, vI k)] [vI b] g1 d2 Q
  refine mw_istore (pc' := 741) (L' := [(0, (5, 0)), (1, vR 0), (2, vR 65), (3, vR 74), (4, vR 75), (5, vI i), (6, vI k), (7, vI b)]) dL_law_739 rfl (by decide) rfl ?_
  refine mw_aload_n (v := vR 65) (pc' := 742) dL_law_741 rfl rfl (by simp) rfl ?_
  refine mw_callV (M' := mX12_thrown) (A := []) (A' := [vR 65]) (S := []) (a := 65) (pc' := 745) dL_law_742 rfl (Or.inl (goodW 1679 (by decide +kernel) rfl)) kM_X12_thrown kV_X12_thrown ⟨by decide, by decide, Nat.zero_le _, Nat.zero_le _, by decide⟩ rfl rfl rfl ⟨by decide, by omega⟩ (by decide +kernel) (by decide +kernel) (Nat.le_of_ble_eq_true rfl) (eX12_thrown ?_)
  show MW mL_law (bc - 1) (bs - 6) 745 [(0, (5, 0)), (1, vR 0), (2, vR 65), (3, vR 74), (4, vR 75), (5, vI i), (6, vI k), (7, vI b)] [vI (d2 65 5)] g1 d2 Q
  rw [h5]
  refine mw_iload (pc' := 747) dL_law_745 rfl rfl ?_
  refine mw_icmp_eq (tgt := 752) (pc' := 750) dL_law_747 rfl (by decide) (fun _ => ?_) (fun c => absurd rfl c)
  refine mw_iload (pc' := 754) dL_law_752 rfl rfl ?_
  refine mw_if_ne (tgt := 769) (pc' := 757) dL_law_754 rfl (by decide) (fun c => ?_) (fun c => ?_)
  · refine mw_goto (pc' := 0) (tgt := 3808) dL_law_769 (by decide) ?_
    exact mw_loc (pc' := 0) [0, 1, 2, 3, 4, 5] rfl (mw_less ⟨by omega, by omega⟩ (h g1 d2 hI2 hs2))
  · have hb1 := hb0 c
    refine mw_aload_n (v := vR 74) (pc' := 758) dL_law_757 rfl rfl (by simp) rfl ?_
    refine mw_iconst (pc' := 759) dL_law_758 rfl ⟨by decide, by decide⟩ ?_
    refine mw_lald (pc' := 760) dL_law_759 rfl (by decide +kernel) ⟨by decide, by decide⟩ (by rw [show LN 74 = 1 by decide +kernel]; exact ⟨by decide, by decide⟩) ?_
    refine mw_iload (pc' := 762) dL_law_760 rfl rfl ?_
    refine mw_i2l (pc' := 763) dL_law_762 rfl ?_
    refine mw_lcmp (pc' := 764) dL_law_763 rfl ?_
    refine mw_if_eq (tgt := 769) (pc' := 767) dL_law_764 rfl (by decide) (fun _ => ?_) (fun c3 => absurd (by rw [hb1]; exact lCmp_rf) c3)
    refine mw_goto (pc' := 0) (tgt := 3808) dL_law_769 (by decide) ?_
    exact mw_loc (pc' := 0) [0, 1, 2, 3, 4, 5] rfl (mw_less ⟨by omega, by omega⟩ (h g1 d2 hI2 hs2))
theorem lc_10 {i : Int} {bc bs : Nat} {g : mG} {d : mD} {Q : mQ} (hI : INV g d) (hi : 0 ≤ i ∧ i + 3 < d SCR (-1)) (hN : d SCR (-1) ≤ 2048) (hb : 47 ≤ bc ∧ 8228 ≤ bs) (h : ∀ g' d', INV g' d' → d' SCR = d SCR → MW mL_law (bc - 47) (bs - 8228) 3808 [(0, (5, 0)), (1, vR 0), (2, vR 65), (3, vR 74), (4, vR 75), (5, vI i)] [] g' d' Q) : MW mL_law bc bs 772 [(0, (5, 0)), (1, vR 0), (2, vR 65), (3, vR 74), (4, vR 75), (5, vI i)] [] g d Q := by
  refine mw_top (fun hT => ?_)
  have hG : 76 ≤ g.2.1 := hT.2
  refine mw_aload_n (v := vR 0) (pc' := 773) dL_law_772 rfl rfl (by simp) rfl ?_
  refine mw_aload_n (v := (5, 0)) (pc' := 774) dL_law_773 rfl rfl (by simp) rfl ?_
  refine mw_iload (pc' := 776) dL_law_774 rfl rfl ?_
  refine mw_iconst (pc' := 777) dL_law_776 rfl ⟨by decide, by decide⟩ ?_
  refine mw_iadd (pc' := 778) dL_law_777 rfl (ik (by omega)) ?_
  refine mw_xld (pc' := 779) dL_law_778 rfl ⟨by omega, by omega⟩ ?_
  refine mw_aload_n (v := vR 74) (pc' := 780) dL_law_779 rfl rfl (by simp) rfl ?_
  refine mw_callSX (M' := mL_isCourtDay) (A := [vR 0, vI (d SCR (i + 1)), vR 74]) (S := []) (pc' := 783) dL_law_780 rfl (goodW 921 (by decide +kernel) rfl) kM_L_isCourtDay kS_L_isCourtDay ⟨by decide, by decide, Nat.le_trans (by decide) hb.1, Nat.le_trans (by decide) hb.2, by decide⟩ rfl rfl (Nat.le_of_ble_eq_true rfl) (MM.mono ?_ (MM.scr (o_isCourtDay g d hI)))
  intro o g1 d1 hh
  obtain ⟨⟨k, ho, h1⟩, hs1⟩ := hh
  subst ho
  show MW mL_law (bc - 1) (bs - 6) 783 [(0, (5, 0)), (1, vR 0), (2, vR 65), (3, vR 74), (4, vR 75), (5, vI i)] [vI k] g1 d1 Q
  refine mw_top (fun hT1 => ?_)
  have hG1 : 76 ≤ g1.2.1 := hT1.2
  refine mw_istore (pc' := 785) (L' := [(0, (5, 0)), (1, vR 0), (2, vR 65), (3, vR 74), (4, vR 75), (5, vI i), (6, vI k)]) dL_law_783 rfl (by decide) rfl ?_
  refine mw_aload_n (v := vR 65) (pc' := 786) dL_law_785 rfl rfl (by simp) rfl ?_
  refine mw_aload_n (v := (5, 0)) (pc' := 787) dL_law_786 rfl rfl (by simp) rfl ?_
  refine mw_iload (pc' := 789) dL_law_787 rfl rfl ?_
  refine mw_iconst (pc' := 790) dL_law_789 rfl ⟨by decide, by decide⟩ ?_
  refine mw_iadd (pc' := 791) dL_law_790 rfl (ik (by omega)) ?_
  refine mw_xld (pc' := 792) dL_law_791 rfl (by rw [hs1]; exact ⟨by omega, by omega⟩) ?_
  rw [hs1]
  refine mw_callV (M' := mX12_isCourtDay) (A := [vI (d SCR (i + 1))]) (A' := [vR 65, vI (d SCR (i + 1))]) (S := []) (a := 65) (pc' := 795) dL_law_792 rfl (Or.inl (goodW 1775 (by decide +kernel) rfl)) kM_X12_isCourtDay kV_X12_isCourtDay ⟨by decide, by decide, Nat.zero_le _, Nat.zero_le _, by decide⟩ rfl rfl rfl ⟨by decide, by omega⟩ (by decide +kernel) (by decide +kernel) (Nat.le_of_ble_eq_true rfl) (h1 _ (fun b d2 hI2 hs2 h5 hb0 => ?_))
  show MW mL_law (bc - 1) (bs - 6) 795 [(0, (5, 0)), (1, vR 0), (2, vR 65), (3, vR 74), (4, vR 75), (5, vI i), (6, vI k)] [vI b] g1 d2 Q
  refine mw_istore (pc' := 797) (L' := [(0, (5, 0)), (1, vR 0), (2, vR 65), (3, vR 74), (4, vR 75), (5, vI i), (6, vI k), (7, vI b)]) dL_law_795 rfl (by decide) rfl ?_
  refine mw_aload_n (v := vR 65) (pc' := 798) dL_law_797 rfl rfl (by simp) rfl ?_
  refine mw_callV (M' := mX12_thrown) (A := []) (A' := [vR 65]) (S := []) (a := 65) (pc' := 801) dL_law_798 rfl (Or.inl (goodW 1679 (by decide +kernel) rfl)) kM_X12_thrown kV_X12_thrown ⟨by decide, by decide, Nat.zero_le _, Nat.zero_le _, by decide⟩ rfl rfl rfl ⟨by decide, by omega⟩ (by decide +kernel) (by decide +kernel) (Nat.le_of_ble_eq_true rfl) (eX12_thrown ?_)
  show MW mL_law (bc - 1) (bs - 6) 801 [(0, (5, 0)), (1, vR 0), (2, vR 65), (3, vR 74), (4, vR 75), (5, vI i), (6, vI k), (7, vI b)] [vI (d2 65 5)] g1 d2 Q
  rw [h5]
  refine mw_iload (pc' := 803) dL_law_801 rfl rfl ?_
  refine mw_icmp_eq (tgt := 808) (pc' := 806) dL_law_803 rfl (by decide) (fun _ => ?_) (fun c => absurd rfl c)
  refine mw_iload (pc' := 810) dL_law_808 rfl rfl ?_
  refine mw_if_ne (tgt := 832) (pc' := 813) dL_law_810 rfl (by decide) (fun c => ?_) (fun c => ?_)
  · refine mw_goto (pc' := 0) (tgt := 3808) dL_law_832 (by decide) ?_
    exact mw_loc (pc' := 0) [0, 1, 2, 3, 4, 5] rfl (mw_less ⟨by omega, by omega⟩ (h g1 d2 hI2 hs2))
  · obtain ⟨hb1, hb2⟩ := hb0 c
    refine mw_aload_n (v := vR 74) (pc' := 814) dL_law_813 rfl rfl (by simp) rfl ?_
    refine mw_iconst (pc' := 815) dL_law_814 rfl ⟨by decide, by decide⟩ ?_
    refine mw_lald (pc' := 816) dL_law_815 rfl (by decide +kernel) ⟨by decide, by decide⟩ (by rw [show LN 74 = 1 by decide +kernel]; exact ⟨by decide, by decide⟩) ?_
    refine mw_iload (pc' := 818) dL_law_816 rfl rfl ?_
    rcases hb2 with hb2 | hb2
    · rw [← hb1, hb2]
      refine mw_if_eq (tgt := 825) (pc' := 821) dL_law_818 rfl (by decide) (fun _ => ?_) (fun c2 => absurd rfl c2)
      refine mw_lconst0 (pc' := 826) dL_law_825 rfl ?_
      refine mw_lcmp (pc' := 827) dL_law_826 rfl ?_
      refine mw_if_eq (tgt := 832) (pc' := 830) dL_law_827 rfl (by decide) (fun _ => ?_) (fun c3 => absurd lCmp_rf c3)
      refine mw_goto (pc' := 0) (tgt := 3808) dL_law_832 (by decide) ?_
      exact mw_loc (pc' := 0) [0, 1, 2, 3, 4, 5] rfl (mw_less ⟨by omega, by omega⟩ (h g1 d2 hI2 hs2))
    · rw [← hb1, hb2]
      refine mw_if_eq (tgt := 825) (pc' := 821) dL_law_818 rfl (by decide) (fun c2 => absurd c2 (by decide)) (fun _ => ?_)
      refine mw_lconst1 (pc' := 822) dL_law_821 rfl ?_
      refine mw_goto (pc' := 0) (tgt := 826) dL_law_822 (by decide) ?_
      refine mw_lcmp (pc' := 827) dL_law_826 rfl ?_
      refine mw_if_eq (tgt := 832) (pc' := 830) dL_law_827 rfl (by decide) (fun _ => ?_) (fun c3 => absurd lCmp_rf c3)
      refine mw_goto (pc' := 0) (tgt := 3808) dL_law_832 (by decide) ?_
      exact mw_loc (pc' := 0) [0, 1, 2, 3, 4, 5] rfl (mw_less ⟨by omega, by omega⟩ (h g1 d2 hI2 hs2))
theorem lc_11 {i : Int} {bc bs : Nat} {g : mG} {d : mD} {Q : mQ} (hI : INV g d) (hi : 0 ≤ i ∧ i + 3 < d SCR (-1)) (hN : d SCR (-1) ≤ 2048) (hb : 47 ≤ bc ∧ 8228 ≤ bs) (h : ∀ g' d', INV g' d' → d' SCR = d SCR → MW mL_law (bc - 47) (bs - 8228) 3808 [(0, (5, 0)), (1, vR 0), (2, vR 65), (3, vR 74), (4, vR 75), (5, vI i)] [] g' d' Q) : MW mL_law bc bs 835 [(0, (5, 0)), (1, vR 0), (2, vR 65), (3, vR 74), (4, vR 75), (5, vI i)] [] g d Q := by
  refine mw_top (fun hT => ?_)
  have hG : 76 ≤ g.2.1 := hT.2
  refine mw_aload_n (v := vR 0) (pc' := 836) dL_law_835 rfl rfl (by simp) rfl ?_
  refine mw_aload_n (v := (5, 0)) (pc' := 837) dL_law_836 rfl rfl (by simp) rfl ?_
  refine mw_iload (pc' := 839) dL_law_837 rfl rfl ?_
  refine mw_iconst (pc' := 840) dL_law_839 rfl ⟨by decide, by decide⟩ ?_
  refine mw_iadd (pc' := 841) dL_law_840 rfl (ik (by omega)) ?_
  refine mw_xld (pc' := 842) dL_law_841 rfl ⟨by omega, by omega⟩ ?_
  refine mw_aload_n (v := vR 74) (pc' := 843) dL_law_842 rfl rfl (by simp) rfl ?_
  refine mw_callSX (M' := mL_addHoliday) (A := [vR 0, vI (d SCR (i + 1)), vR 74]) (S := []) (pc' := 846) dL_law_843 rfl (goodW 929 (by decide +kernel) rfl) kM_L_addHoliday kS_L_addHoliday ⟨by decide, by decide, Nat.le_trans (by decide) hb.1, Nat.le_trans (by decide) hb.2, by decide⟩ rfl rfl (Nat.le_of_ble_eq_true rfl) (MM.mono ?_ (MM.scr (o_addHoliday g d hI)))
  intro o g1 d1 hh
  obtain ⟨⟨k, ho, h1⟩, hs1⟩ := hh
  subst ho
  show MW mL_law (bc - 47) (bs - 8228) 846 [(0, (5, 0)), (1, vR 0), (2, vR 65), (3, vR 74), (4, vR 75), (5, vI i)] [vI k] g1 d1 Q
  refine mw_top (fun hT1 => ?_)
  have hG1 : 76 ≤ g1.2.1 := hT1.2
  refine mw_istore (pc' := 848) (L' := [(0, (5, 0)), (1, vR 0), (2, vR 65), (3, vR 74), (4, vR 75), (5, vI i), (6, vI k)]) dL_law_846 rfl (by decide) rfl ?_
  refine mw_aload_n (v := vR 65) (pc' := 849) dL_law_848 rfl rfl (by simp) rfl ?_
  refine mw_aload_n (v := (5, 0)) (pc' := 850) dL_law_849 rfl rfl (by simp) rfl ?_
  refine mw_iload (pc' := 852) dL_law_850 rfl rfl ?_
  refine mw_iconst (pc' := 853) dL_law_852 rfl ⟨by decide, by decide⟩ ?_
  refine mw_iadd (pc' := 854) dL_law_853 rfl (ik (by omega)) ?_
  refine mw_xld (pc' := 855) dL_law_854 rfl (by rw [hs1]; exact ⟨by omega, by omega⟩) ?_
  rw [hs1]
  refine mw_callV (M' := mX12_addHoliday) (A := [vI (d SCR (i + 1))]) (A' := [vR 65, vI (d SCR (i + 1))]) (S := []) (a := 65) (pc' := 858) dL_law_855 rfl (Or.inl (goodW 1787 (by decide +kernel) rfl)) kM_X12_addHoliday kV_X12_addHoliday ⟨by decide, by decide, Nat.zero_le _, Nat.zero_le _, by decide⟩ rfl rfl rfl ⟨by decide, by omega⟩ (by decide +kernel) (by decide +kernel) (Nat.le_of_ble_eq_true rfl) (h1 _ (fun b d2 hI2 hs2 h5 hb0 => ?_))
  show MW mL_law (bc - 47) (bs - 8228) 858 [(0, (5, 0)), (1, vR 0), (2, vR 65), (3, vR 74), (4, vR 75), (5, vI i), (6, vI k)] [vI b] g1 d2 Q
  refine mw_istore (pc' := 860) (L' := [(0, (5, 0)), (1, vR 0), (2, vR 65), (3, vR 74), (4, vR 75), (5, vI i), (6, vI k), (7, vI b)]) dL_law_858 rfl (by decide) rfl ?_
  refine mw_aload_n (v := vR 65) (pc' := 861) dL_law_860 rfl rfl (by simp) rfl ?_
  refine mw_callV (M' := mX12_thrown) (A := []) (A' := [vR 65]) (S := []) (a := 65) (pc' := 864) dL_law_861 rfl (Or.inl (goodW 1679 (by decide +kernel) rfl)) kM_X12_thrown kV_X12_thrown ⟨by decide, by decide, Nat.zero_le _, Nat.zero_le _, by decide⟩ rfl rfl rfl ⟨by decide, by omega⟩ (by decide +kernel) (by decide +kernel) (Nat.le_of_ble_eq_true rfl) (eX12_thrown ?_)
  show MW mL_law (bc - 47) (bs - 8228) 864 [(0, (5, 0)), (1, vR 0), (2, vR 65), (3, vR 74), (4, vR 75), (5, vI i), (6, vI k), (7, vI b)] [vI (d2 65 5)] g1 d2 Q
  rw [h5]
  refine mw_iload (pc' := 866) dL_law_864 rfl rfl ?_
  refine mw_icmp_eq (tgt := 871) (pc' := 869) dL_law_866 rfl (by decide) (fun _ => ?_) (fun c => absurd rfl c)
  refine mw_iload (pc' := 873) dL_law_871 rfl rfl ?_
  refine mw_if_ne (tgt := 888) (pc' := 876) dL_law_873 rfl (by decide) (fun c => ?_) (fun c => ?_)
  · refine mw_goto (pc' := 0) (tgt := 3808) dL_law_888 (by decide) ?_
    exact mw_loc (pc' := 0) [0, 1, 2, 3, 4, 5] rfl (mw_less ⟨by omega, by omega⟩ (h g1 d2 hI2 hs2))
  · have hb1 := hb0 c
    refine mw_aload_n (v := vR 74) (pc' := 877) dL_law_876 rfl rfl (by simp) rfl ?_
    refine mw_iconst (pc' := 878) dL_law_877 rfl ⟨by decide, by decide⟩ ?_
    refine mw_lald (pc' := 879) dL_law_878 rfl (by decide +kernel) ⟨by decide, by decide⟩ (by rw [show LN 74 = 1 by decide +kernel]; exact ⟨by decide, by decide⟩) ?_
    refine mw_iload (pc' := 881) dL_law_879 rfl rfl ?_
    refine mw_i2l (pc' := 882) dL_law_881 rfl ?_
    refine mw_lcmp (pc' := 883) dL_law_882 rfl ?_
    refine mw_if_eq (tgt := 888) (pc' := 886) dL_law_883 rfl (by decide) (fun _ => ?_) (fun c3 => absurd (by rw [hb1]; exact lCmp_rf) c3)
    refine mw_goto (pc' := 0) (tgt := 3808) dL_law_888 (by decide) ?_
    exact mw_loc (pc' := 0) [0, 1, 2, 3, 4, 5] rfl (mw_less ⟨by omega, by omega⟩ (h g1 d2 hI2 hs2))
theorem lc_12 {i : Int} {bc bs : Nat} {g : mG} {d : mD} {Q : mQ} (hI : INV g d) (hi : 0 ≤ i ∧ i + 3 < d SCR (-1)) (hN : d SCR (-1) ≤ 2048) (hb : 47 ≤ bc ∧ 8228 ≤ bs) (h : ∀ g' d', INV g' d' → d' SCR = d SCR → MW mL_law (bc - 47) (bs - 8228) 3808 [(0, (5, 0)), (1, vR 0), (2, vR 65), (3, vR 74), (4, vR 75), (5, vI i)] [] g' d' Q) : MW mL_law bc bs 891 [(0, (5, 0)), (1, vR 0), (2, vR 65), (3, vR 74), (4, vR 75), (5, vI i)] [] g d Q := by
  refine mw_top (fun hT => ?_)
  have hG : 76 ≤ g.2.1 := hT.2
  refine mw_aload_n (v := vR 0) (pc' := 892) dL_law_891 rfl rfl (by simp) rfl ?_
  refine mw_aload_n (v := (5, 0)) (pc' := 893) dL_law_892 rfl rfl (by simp) rfl ?_
  refine mw_iload (pc' := 895) dL_law_893 rfl rfl ?_
  refine mw_iconst (pc' := 896) dL_law_895 rfl ⟨by decide, by decide⟩ ?_
  refine mw_iadd (pc' := 897) dL_law_896 rfl (ik (by omega)) ?_
  refine mw_xld (pc' := 898) dL_law_897 rfl ⟨by omega, by omega⟩ ?_
  refine mw_aload_n (v := vR 74) (pc' := 899) dL_law_898 rfl rfl (by simp) rfl ?_
  refine mw_callSX (M' := mL_removeHoliday) (A := [vR 0, vI (d SCR (i + 1)), vR 74]) (S := []) (pc' := 902) dL_law_899 rfl (goodW 948 (by decide +kernel) rfl) kM_L_removeHoliday kS_L_removeHoliday ⟨by decide, by decide, Nat.le_trans (by decide) hb.1, Nat.le_trans (by decide) hb.2, by decide⟩ rfl rfl (Nat.le_of_ble_eq_true rfl) (MM.mono ?_ (MM.scr (o_removeHoliday g d hI)))
  intro o g1 d1 hh
  obtain ⟨⟨k, ho, h1⟩, hs1⟩ := hh
  subst ho
  show MW mL_law (bc - 47) (bs - 8228) 902 [(0, (5, 0)), (1, vR 0), (2, vR 65), (3, vR 74), (4, vR 75), (5, vI i)] [vI k] g1 d1 Q
  refine mw_top (fun hT1 => ?_)
  have hG1 : 76 ≤ g1.2.1 := hT1.2
  refine mw_istore (pc' := 904) (L' := [(0, (5, 0)), (1, vR 0), (2, vR 65), (3, vR 74), (4, vR 75), (5, vI i), (6, vI k)]) dL_law_902 rfl (by decide) rfl ?_
  refine mw_aload_n (v := vR 65) (pc' := 905) dL_law_904 rfl rfl (by simp) rfl ?_
  refine mw_aload_n (v := (5, 0)) (pc' := 906) dL_law_905 rfl rfl (by simp) rfl ?_
  refine mw_iload (pc' := 908) dL_law_906 rfl rfl ?_
  refine mw_iconst (pc' := 909) dL_law_908 rfl ⟨by decide, by decide⟩ ?_
  refine mw_iadd (pc' := 910) dL_law_909 rfl (ik (by omega)) ?_
  refine mw_xld (pc' := 911) dL_law_910 rfl (by rw [hs1]; exact ⟨by omega, by omega⟩) ?_
  rw [hs1]
  refine mw_callV (M' := mX12_removeHoliday) (A := [vI (d SCR (i + 1))]) (A' := [vR 65, vI (d SCR (i + 1))]) (S := []) (a := 65) (pc' := 914) dL_law_911 rfl (Or.inl (goodW 1791 (by decide +kernel) rfl)) kM_X12_removeHoliday kV_X12_removeHoliday ⟨by decide, by decide, Nat.zero_le _, Nat.zero_le _, by decide⟩ rfl rfl rfl ⟨by decide, by omega⟩ (by decide +kernel) (by decide +kernel) (Nat.le_of_ble_eq_true rfl) (h1 _ (fun b d2 hI2 hs2 h5 hb0 => ?_))
  show MW mL_law (bc - 47) (bs - 8228) 914 [(0, (5, 0)), (1, vR 0), (2, vR 65), (3, vR 74), (4, vR 75), (5, vI i), (6, vI k)] [vI b] g1 d2 Q
  refine mw_istore (pc' := 916) (L' := [(0, (5, 0)), (1, vR 0), (2, vR 65), (3, vR 74), (4, vR 75), (5, vI i), (6, vI k), (7, vI b)]) dL_law_914 rfl (by decide) rfl ?_
  refine mw_aload_n (v := vR 65) (pc' := 917) dL_law_916 rfl rfl (by simp) rfl ?_
  refine mw_callV (M' := mX12_thrown) (A := []) (A' := [vR 65]) (S := []) (a := 65) (pc' := 920) dL_law_917 rfl (Or.inl (goodW 1679 (by decide +kernel) rfl)) kM_X12_thrown kV_X12_thrown ⟨by decide, by decide, Nat.zero_le _, Nat.zero_le _, by decide⟩ rfl rfl rfl ⟨by decide, by omega⟩ (by decide +kernel) (by decide +kernel) (Nat.le_of_ble_eq_true rfl) (eX12_thrown ?_)
  show MW mL_law (bc - 47) (bs - 8228) 920 [(0, (5, 0)), (1, vR 0), (2, vR 65), (3, vR 74), (4, vR 75), (5, vI i), (6, vI k), (7, vI b)] [vI (d2 65 5)] g1 d2 Q
  rw [h5]
  refine mw_iload (pc' := 922) dL_law_920 rfl rfl ?_
  refine mw_icmp_eq (tgt := 927) (pc' := 925) dL_law_922 rfl (by decide) (fun _ => ?_) (fun c => absurd rfl c)
  refine mw_iload (pc' := 929) dL_law_927 rfl rfl ?_
  refine mw_if_ne (tgt := 944) (pc' := 932) dL_law_929 rfl (by decide) (fun c => ?_) (fun c => ?_)
  · refine mw_goto (pc' := 0) (tgt := 3808) dL_law_944 (by decide) ?_
    exact mw_loc (pc' := 0) [0, 1, 2, 3, 4, 5] rfl (mw_less ⟨by omega, by omega⟩ (h g1 d2 hI2 hs2))
  · have hb1 := hb0 c
    refine mw_aload_n (v := vR 74) (pc' := 933) dL_law_932 rfl rfl (by simp) rfl ?_
    refine mw_iconst (pc' := 934) dL_law_933 rfl ⟨by decide, by decide⟩ ?_
    refine mw_lald (pc' := 935) dL_law_934 rfl (by decide +kernel) ⟨by decide, by decide⟩ (by rw [show LN 74 = 1 by decide +kernel]; exact ⟨by decide, by decide⟩) ?_
    refine mw_iload (pc' := 937) dL_law_935 rfl rfl ?_
    refine mw_i2l (pc' := 938) dL_law_937 rfl ?_
    refine mw_lcmp (pc' := 939) dL_law_938 rfl ?_
    refine mw_if_eq (tgt := 944) (pc' := 942) dL_law_939 rfl (by decide) (fun _ => ?_) (fun c3 => absurd (by rw [hb1]; exact lCmp_rf) c3)
    refine mw_goto (pc' := 0) (tgt := 3808) dL_law_944 (by decide) ?_
    exact mw_loc (pc' := 0) [0, 1, 2, 3, 4, 5] rfl (mw_less ⟨by omega, by omega⟩ (h g1 d2 hI2 hs2))
theorem lc_13 {i : Int} {bc bs : Nat} {g : mG} {d : mD} {Q : mQ} (hI : INV g d) (hi : 0 ≤ i ∧ i + 3 < d SCR (-1)) (hN : d SCR (-1) ≤ 2048) (hb : 47 ≤ bc ∧ 8228 ≤ bs) (h : ∀ g' d', INV g' d' → d' SCR = d SCR → MW mL_law (bc - 47) (bs - 8228) 3808 [(0, (5, 0)), (1, vR 0), (2, vR 65), (3, vR 74), (4, vR 75), (5, vI i)] [] g' d' Q) : MW mL_law bc bs 947 [(0, (5, 0)), (1, vR 0), (2, vR 65), (3, vR 74), (4, vR 75), (5, vI i)] [] g d Q := by
  refine mw_top (fun hT => ?_)
  have hG : 76 ≤ g.2.1 := hT.2
  refine mw_aload_n (v := vR 0) (pc' := 948) dL_law_947 rfl rfl (by simp) rfl ?_
  refine mw_aload_n (v := (5, 0)) (pc' := 949) dL_law_948 rfl rfl (by simp) rfl ?_
  refine mw_iload (pc' := 951) dL_law_949 rfl rfl ?_
  refine mw_iconst (pc' := 952) dL_law_951 rfl ⟨by decide, by decide⟩ ?_
  refine mw_iadd (pc' := 953) dL_law_952 rfl (ik (by omega)) ?_
  refine mw_xld (pc' := 954) dL_law_953 rfl ⟨by omega, by omega⟩ ?_
  refine mw_aload_n (v := (5, 0)) (pc' := 955) dL_law_954 rfl rfl (by simp) rfl ?_
  refine mw_iload (pc' := 957) dL_law_955 rfl rfl ?_
  refine mw_iconst (pc' := 958) dL_law_957 rfl ⟨by decide, by decide⟩ ?_
  refine mw_iadd (pc' := 959) dL_law_958 rfl (ik (by omega)) ?_
  refine mw_xld (pc' := 960) dL_law_959 rfl ⟨by omega, by omega⟩ ?_
  refine mw_aload_n (v := vR 74) (pc' := 961) dL_law_960 rfl rfl (by simp) rfl ?_
  refine mw_callSX (M' := mL_courtDays) (A := [vR 0, vI (d SCR (i + 1)), vI (d SCR (i + 2)), vR 74]) (S := []) (pc' := 964) dL_law_961 rfl (goodW 963 (by decide +kernel) rfl) kM_L_courtDays kS_L_courtDays ⟨by decide, by decide, Nat.le_trans (by decide) hb.1, Nat.le_trans (by decide) hb.2, by decide⟩ rfl rfl (Nat.le_of_ble_eq_true rfl) (MM.mono ?_ (MM.scr (o_courtDays g d hI)))
  intro o g1 d1 hh
  obtain ⟨⟨k, ho, h1⟩, hs1⟩ := hh
  subst ho
  show MW mL_law (bc - 1) (bs - 6) 964 [(0, (5, 0)), (1, vR 0), (2, vR 65), (3, vR 74), (4, vR 75), (5, vI i)] [vI k] g1 d1 Q
  refine mw_top (fun hT1 => ?_)
  have hG1 : 76 ≤ g1.2.1 := hT1.2
  refine mw_istore (pc' := 966) (L' := [(0, (5, 0)), (1, vR 0), (2, vR 65), (3, vR 74), (4, vR 75), (5, vI i), (6, vI k)]) dL_law_964 rfl (by decide) rfl ?_
  refine mw_aload_n (v := vR 65) (pc' := 967) dL_law_966 rfl rfl (by simp) rfl ?_
  refine mw_aload_n (v := (5, 0)) (pc' := 968) dL_law_967 rfl rfl (by simp) rfl ?_
  refine mw_iload (pc' := 970) dL_law_968 rfl rfl ?_
  refine mw_iconst (pc' := 971) dL_law_970 rfl ⟨by decide, by decide⟩ ?_
  refine mw_iadd (pc' := 972) dL_law_971 rfl (ik (by omega)) ?_
  refine mw_xld (pc' := 973) dL_law_972 rfl (by rw [hs1]; exact ⟨by omega, by omega⟩) ?_
  rw [hs1]
  refine mw_aload_n (v := (5, 0)) (pc' := 974) dL_law_973 rfl rfl (by simp) rfl ?_
  refine mw_iload (pc' := 976) dL_law_974 rfl rfl ?_
  refine mw_iconst (pc' := 977) dL_law_976 rfl ⟨by decide, by decide⟩ ?_
  refine mw_iadd (pc' := 978) dL_law_977 rfl (ik (by omega)) ?_
  refine mw_xld (pc' := 979) dL_law_978 rfl (by rw [hs1]; exact ⟨by omega, by omega⟩) ?_
  rw [hs1]
  refine mw_callV (M' := mX12_courtDays) (A := [vI (d SCR (i + 1)), vI (d SCR (i + 2))]) (A' := [vR 65, vI (d SCR (i + 1)), vI (d SCR (i + 2))]) (S := []) (a := 65) (pc' := 982) dL_law_979 rfl (Or.inl (goodW 1795 (by decide +kernel) rfl)) kM_X12_courtDays kV_X12_courtDays ⟨by decide, by decide, Nat.zero_le _, Nat.zero_le _, by decide⟩ rfl rfl rfl ⟨by decide, by omega⟩ (by decide +kernel) (by decide +kernel) (Nat.le_of_ble_eq_true rfl) (h1 _ (fun b d2 hI2 hs2 h5 hb0 => ?_))
  show MW mL_law (bc - 1) (bs - 6) 982 [(0, (5, 0)), (1, vR 0), (2, vR 65), (3, vR 74), (4, vR 75), (5, vI i), (6, vI k)] [vI b] g1 d2 Q
  refine mw_istore (pc' := 984) (L' := [(0, (5, 0)), (1, vR 0), (2, vR 65), (3, vR 74), (4, vR 75), (5, vI i), (6, vI k), (7, vI b)]) dL_law_982 rfl (by decide) rfl ?_
  refine mw_aload_n (v := vR 65) (pc' := 985) dL_law_984 rfl rfl (by simp) rfl ?_
  refine mw_callV (M' := mX12_thrown) (A := []) (A' := [vR 65]) (S := []) (a := 65) (pc' := 988) dL_law_985 rfl (Or.inl (goodW 1679 (by decide +kernel) rfl)) kM_X12_thrown kV_X12_thrown ⟨by decide, by decide, Nat.zero_le _, Nat.zero_le _, by decide⟩ rfl rfl rfl ⟨by decide, by omega⟩ (by decide +kernel) (by decide +kernel) (Nat.le_of_ble_eq_true rfl) (eX12_thrown ?_)
  show MW mL_law (bc - 1) (bs - 6) 988 [(0, (5, 0)), (1, vR 0), (2, vR 65), (3, vR 74), (4, vR 75), (5, vI i), (6, vI k), (7, vI b)] [vI (d2 65 5)] g1 d2 Q
  rw [h5]
  refine mw_iload (pc' := 990) dL_law_988 rfl rfl ?_
  refine mw_icmp_eq (tgt := 995) (pc' := 993) dL_law_990 rfl (by decide) (fun _ => ?_) (fun c => absurd rfl c)
  refine mw_iload (pc' := 997) dL_law_995 rfl rfl ?_
  refine mw_if_ne (tgt := 1012) (pc' := 1000) dL_law_997 rfl (by decide) (fun c => ?_) (fun c => ?_)
  · refine mw_goto (pc' := 0) (tgt := 3808) dL_law_1012 (by decide) ?_
    exact mw_loc (pc' := 0) [0, 1, 2, 3, 4, 5] rfl (mw_less ⟨by omega, by omega⟩ (h g1 d2 hI2 hs2))
  · have hb1 := hb0 c
    refine mw_aload_n (v := vR 74) (pc' := 1001) dL_law_1000 rfl rfl (by simp) rfl ?_
    refine mw_iconst (pc' := 1002) dL_law_1001 rfl ⟨by decide, by decide⟩ ?_
    refine mw_lald (pc' := 1003) dL_law_1002 rfl (by decide +kernel) ⟨by decide, by decide⟩ (by rw [show LN 74 = 1 by decide +kernel]; exact ⟨by decide, by decide⟩) ?_
    refine mw_iload (pc' := 1005) dL_law_1003 rfl rfl ?_
    refine mw_i2l (pc' := 1006) dL_law_1005 rfl ?_
    refine mw_lcmp (pc' := 1007) dL_law_1006 rfl ?_
    refine mw_if_eq (tgt := 1012) (pc' := 1010) dL_law_1007 rfl (by decide) (fun _ => ?_) (fun c3 => absurd (by rw [hb1]; exact lCmp_rf) c3)
    refine mw_goto (pc' := 0) (tgt := 3808) dL_law_1012 (by decide) ?_
    exact mw_loc (pc' := 0) [0, 1, 2, 3, 4, 5] rfl (mw_less ⟨by omega, by omega⟩ (h g1 d2 hI2 hs2))
theorem lc_14 {i : Int} {bc bs : Nat} {g : mG} {d : mD} {Q : mQ} (hI : INV g d) (hi : 0 ≤ i ∧ i + 3 < d SCR (-1)) (hN : d SCR (-1) ≤ 2048) (hb : 47 ≤ bc ∧ 8228 ≤ bs) (h : ∀ g' d', INV g' d' → d' SCR = d SCR → MW mL_law (bc - 47) (bs - 8228) 3808 [(0, (5, 0)), (1, vR 0), (2, vR 65), (3, vR 74), (4, vR 75), (5, vI i)] [] g' d' Q) : MW mL_law bc bs 1015 [(0, (5, 0)), (1, vR 0), (2, vR 65), (3, vR 74), (4, vR 75), (5, vI i)] [] g d Q := by
  refine mw_top (fun hT => ?_)
  have hG : 76 ≤ g.2.1 := hT.2
  refine mw_aload_n (v := vR 0) (pc' := 1016) dL_law_1015 rfl rfl (by simp) rfl ?_
  refine mw_aload_n (v := (5, 0)) (pc' := 1017) dL_law_1016 rfl rfl (by simp) rfl ?_
  refine mw_iload (pc' := 1019) dL_law_1017 rfl rfl ?_
  refine mw_iconst (pc' := 1020) dL_law_1019 rfl ⟨by decide, by decide⟩ ?_
  refine mw_iadd (pc' := 1021) dL_law_1020 rfl (ik (by omega)) ?_
  refine mw_xld (pc' := 1022) dL_law_1021 rfl ⟨by omega, by omega⟩ ?_
  refine mw_aload_n (v := (5, 0)) (pc' := 1023) dL_law_1022 rfl rfl (by simp) rfl ?_
  refine mw_iload (pc' := 1025) dL_law_1023 rfl rfl ?_
  refine mw_iconst (pc' := 1026) dL_law_1025 rfl ⟨by decide, by decide⟩ ?_
  refine mw_iadd (pc' := 1027) dL_law_1026 rfl (ik (by omega)) ?_
  refine mw_xld (pc' := 1028) dL_law_1027 rfl ⟨by omega, by omega⟩ ?_
  refine mw_aload_n (v := vR 74) (pc' := 1029) dL_law_1028 rfl rfl (by simp) rfl ?_
  refine mw_callSX (M' := mL_courtDaysByMarking) (A := [vR 0, vI (d SCR (i + 1)), vI (d SCR (i + 2)), vR 74]) (S := []) (pc' := 1032) dL_law_1029 rfl (goodW 974 (by decide +kernel) rfl) kM_L_courtDaysByMarking kS_L_courtDaysByMarking ⟨by decide, by decide, Nat.le_trans (by decide) hb.1, Nat.le_trans (by decide) hb.2, by decide⟩ rfl rfl (Nat.le_of_ble_eq_true rfl) (MM.mono ?_ (MM.scr (o_courtDaysByMarking g d hI)))
  intro o g1 d1 hh
  obtain ⟨⟨k, ho, h1⟩, hs1⟩ := hh
  subst ho
  show MW mL_law (bc - 1) (bs - 6) 1032 [(0, (5, 0)), (1, vR 0), (2, vR 65), (3, vR 74), (4, vR 75), (5, vI i)] [vI k] g1 d1 Q
  refine mw_top (fun hT1 => ?_)
  have hG1 : 76 ≤ g1.2.1 := hT1.2
  refine mw_istore (pc' := 1034) (L' := [(0, (5, 0)), (1, vR 0), (2, vR 65), (3, vR 74), (4, vR 75), (5, vI i), (6, vI k)]) dL_law_1032 rfl (by decide) rfl ?_
  refine mw_aload_n (v := vR 65) (pc' := 1035) dL_law_1034 rfl rfl (by simp) rfl ?_
  refine mw_aload_n (v := (5, 0)) (pc' := 1036) dL_law_1035 rfl rfl (by simp) rfl ?_
  refine mw_iload (pc' := 1038) dL_law_1036 rfl rfl ?_
  refine mw_iconst (pc' := 1039) dL_law_1038 rfl ⟨by decide, by decide⟩ ?_
  refine mw_iadd (pc' := 1040) dL_law_1039 rfl (ik (by omega)) ?_
  refine mw_xld (pc' := 1041) dL_law_1040 rfl (by rw [hs1]; exact ⟨by omega, by omega⟩) ?_
  rw [hs1]
  refine mw_aload_n (v := (5, 0)) (pc' := 1042) dL_law_1041 rfl rfl (by simp) rfl ?_
  refine mw_iload (pc' := 1044) dL_law_1042 rfl rfl ?_
  refine mw_iconst (pc' := 1045) dL_law_1044 rfl ⟨by decide, by decide⟩ ?_
  refine mw_iadd (pc' := 1046) dL_law_1045 rfl (ik (by omega)) ?_
  refine mw_xld (pc' := 1047) dL_law_1046 rfl (by rw [hs1]; exact ⟨by omega, by omega⟩) ?_
  rw [hs1]
  refine mw_callV (M' := mX12_courtDaysByMarking) (A := [vI (d SCR (i + 1)), vI (d SCR (i + 2))]) (A' := [vR 65, vI (d SCR (i + 1)), vI (d SCR (i + 2))]) (S := []) (a := 65) (pc' := 1050) dL_law_1047 rfl (Or.inl (goodW 1799 (by decide +kernel) rfl)) kM_X12_courtDaysByMarking kV_X12_courtDaysByMarking ⟨by decide, by decide, Nat.zero_le _, Nat.zero_le _, by decide⟩ rfl rfl rfl ⟨by decide, by omega⟩ (by decide +kernel) (by decide +kernel) (Nat.le_of_ble_eq_true rfl) (h1 _ (fun b d2 hI2 hs2 h5 hb0 => ?_))
  show MW mL_law (bc - 1) (bs - 6) 1050 [(0, (5, 0)), (1, vR 0), (2, vR 65), (3, vR 74), (4, vR 75), (5, vI i), (6, vI k)] [vI b] g1 d2 Q
  refine mw_istore (pc' := 1052) (L' := [(0, (5, 0)), (1, vR 0), (2, vR 65), (3, vR 74), (4, vR 75), (5, vI i), (6, vI k), (7, vI b)]) dL_law_1050 rfl (by decide) rfl ?_
  refine mw_aload_n (v := vR 65) (pc' := 1053) dL_law_1052 rfl rfl (by simp) rfl ?_
  refine mw_callV (M' := mX12_thrown) (A := []) (A' := [vR 65]) (S := []) (a := 65) (pc' := 1056) dL_law_1053 rfl (Or.inl (goodW 1679 (by decide +kernel) rfl)) kM_X12_thrown kV_X12_thrown ⟨by decide, by decide, Nat.zero_le _, Nat.zero_le _, by decide⟩ rfl rfl rfl ⟨by decide, by omega⟩ (by decide +kernel) (by decide +kernel) (Nat.le_of_ble_eq_true rfl) (eX12_thrown ?_)
  show MW mL_law (bc - 1) (bs - 6) 1056 [(0, (5, 0)), (1, vR 0), (2, vR 65), (3, vR 74), (4, vR 75), (5, vI i), (6, vI k), (7, vI b)] [vI (d2 65 5)] g1 d2 Q
  rw [h5]
  refine mw_iload (pc' := 1058) dL_law_1056 rfl rfl ?_
  refine mw_icmp_eq (tgt := 1063) (pc' := 1061) dL_law_1058 rfl (by decide) (fun _ => ?_) (fun c => absurd rfl c)
  refine mw_iload (pc' := 1065) dL_law_1063 rfl rfl ?_
  refine mw_if_ne (tgt := 1080) (pc' := 1068) dL_law_1065 rfl (by decide) (fun c => ?_) (fun c => ?_)
  · refine mw_goto (pc' := 0) (tgt := 3808) dL_law_1080 (by decide) ?_
    exact mw_loc (pc' := 0) [0, 1, 2, 3, 4, 5] rfl (mw_less ⟨by omega, by omega⟩ (h g1 d2 hI2 hs2))
  · have hb1 := hb0 c
    refine mw_aload_n (v := vR 74) (pc' := 1069) dL_law_1068 rfl rfl (by simp) rfl ?_
    refine mw_iconst (pc' := 1070) dL_law_1069 rfl ⟨by decide, by decide⟩ ?_
    refine mw_lald (pc' := 1071) dL_law_1070 rfl (by decide +kernel) ⟨by decide, by decide⟩ (by rw [show LN 74 = 1 by decide +kernel]; exact ⟨by decide, by decide⟩) ?_
    refine mw_iload (pc' := 1073) dL_law_1071 rfl rfl ?_
    refine mw_i2l (pc' := 1074) dL_law_1073 rfl ?_
    refine mw_lcmp (pc' := 1075) dL_law_1074 rfl ?_
    refine mw_if_eq (tgt := 1080) (pc' := 1078) dL_law_1075 rfl (by decide) (fun _ => ?_) (fun c3 => absurd (by rw [hb1]; exact lCmp_rf) c3)
    refine mw_goto (pc' := 0) (tgt := 3808) dL_law_1080 (by decide) ?_
    exact mw_loc (pc' := 0) [0, 1, 2, 3, 4, 5] rfl (mw_less ⟨by omega, by omega⟩ (h g1 d2 hI2 hs2))
theorem lc_15 {i : Int} {bc bs : Nat} {g : mG} {d : mD} {Q : mQ} (hI : INV g d) (hi : 0 ≤ i ∧ i + 3 < d SCR (-1)) (hN : d SCR (-1) ≤ 2048) (hb : 47 ≤ bc ∧ 8228 ≤ bs) (h : ∀ g' d', INV g' d' → d' SCR = d SCR → MW mL_law (bc - 47) (bs - 8228) 3808 [(0, (5, 0)), (1, vR 0), (2, vR 65), (3, vR 74), (4, vR 75), (5, vI i)] [] g' d' Q) : MW mL_law bc bs 1083 [(0, (5, 0)), (1, vR 0), (2, vR 65), (3, vR 74), (4, vR 75), (5, vI i)] [] g d Q := by
  refine mw_top (fun hT => ?_)
  have hG : 76 ≤ g.2.1 := hT.2
  by_cases hz : d SCR (i + 3) = 0
  · refine mw_aload_n (v := vR 0) (pc' := 1084) dL_law_1083 rfl rfl (by simp) rfl ?_
    refine mw_aload_n (v := (5, 0)) (pc' := 1085) dL_law_1084 rfl rfl (by simp) rfl ?_
    refine mw_iload (pc' := 1087) dL_law_1085 rfl rfl ?_
    refine mw_iconst (pc' := 1088) dL_law_1087 rfl ⟨by decide, by decide⟩ ?_
    refine mw_iadd (pc' := 1089) dL_law_1088 rfl (ik (by omega)) ?_
    refine mw_xld (pc' := 1090) dL_law_1089 rfl ⟨by omega, by omega⟩ ?_
    refine mw_aload_n (v := (5, 0)) (pc' := 1091) dL_law_1090 rfl rfl (by simp) rfl ?_
    refine mw_iload (pc' := 1093) dL_law_1091 rfl rfl ?_
    refine mw_iconst (pc' := 1094) dL_law_1093 rfl ⟨by decide, by decide⟩ ?_
    refine mw_iadd (pc' := 1095) dL_law_1094 rfl (ik (by omega)) ?_
    refine mw_xld (pc' := 1096) dL_law_1095 rfl ⟨by omega, by omega⟩ ?_
    refine mw_aload_n (v := (5, 0)) (pc' := 1097) dL_law_1096 rfl rfl (by simp) rfl ?_
    refine mw_iload (pc' := 1099) dL_law_1097 rfl rfl ?_
    refine mw_iconst (pc' := 1100) dL_law_1099 rfl ⟨by decide, by decide⟩ ?_
    refine mw_iadd (pc' := 1101) dL_law_1100 rfl (ik (by omega)) ?_
    refine mw_xld (pc' := 1102) dL_law_1101 rfl ⟨by omega, by omega⟩ ?_
    refine mw_if_eq (tgt := 1109) (pc' := 1105) dL_law_1102 rfl (by decide) (fun c => ?_) (fun c => absurd hz c)
    refine mw_iconst (pc' := 1110) dL_law_1109 rfl ⟨by decide, by decide⟩ ?_
    refine mw_aload_n (v := vR 74) (pc' := 1111) dL_law_1110 rfl rfl (by simp) rfl ?_
    refine mw_callSX (M' := mL_setRule) (A := [vR 0, vI (d SCR (i + 1)), vI (d SCR (i + 2)), vI 0, vR 74]) (S := []) (pc' := 1114) dL_law_1111 rfl (goodW 981 (by decide +kernel) rfl) kM_L_setRule kS_L_setRule ⟨by decide, by decide, Nat.le_trans (by decide) hb.1, Nat.le_trans (by decide) hb.2, by decide⟩ rfl rfl (Nat.le_of_ble_eq_true rfl) (MM.mono ?_ (MM.scr (o_setRule (by decide) g d hI)))
    intro o g1 d1 hh
    obtain ⟨⟨k, ho, h1⟩, hs1⟩ := hh
    subst ho
    show MW mL_law (bc - 47) (bs - 8228) 1114 [(0, (5, 0)), (1, vR 0), (2, vR 65), (3, vR 74), (4, vR 75), (5, vI i)] [vI k] g1 d1 Q
    refine mw_top (fun hT1 => ?_)
    have hG1 : 76 ≤ g1.2.1 := hT1.2
    refine mw_istore (pc' := 1116) (L' := [(0, (5, 0)), (1, vR 0), (2, vR 65), (3, vR 74), (4, vR 75), (5, vI i), (6, vI k)]) dL_law_1114 rfl (by decide) rfl ?_
    refine mw_aload_n (v := vR 65) (pc' := 1117) dL_law_1116 rfl rfl (by simp) rfl ?_
    refine mw_aload_n (v := (5, 0)) (pc' := 1118) dL_law_1117 rfl rfl (by simp) rfl ?_
    refine mw_iload (pc' := 1120) dL_law_1118 rfl rfl ?_
    refine mw_iconst (pc' := 1121) dL_law_1120 rfl ⟨by decide, by decide⟩ ?_
    refine mw_iadd (pc' := 1122) dL_law_1121 rfl (ik (by omega)) ?_
    refine mw_xld (pc' := 1123) dL_law_1122 rfl (by rw [hs1]; exact ⟨by omega, by omega⟩) ?_
    rw [hs1]
    refine mw_aload_n (v := (5, 0)) (pc' := 1124) dL_law_1123 rfl rfl (by simp) rfl ?_
    refine mw_iload (pc' := 1126) dL_law_1124 rfl rfl ?_
    refine mw_iconst (pc' := 1127) dL_law_1126 rfl ⟨by decide, by decide⟩ ?_
    refine mw_iadd (pc' := 1128) dL_law_1127 rfl (ik (by omega)) ?_
    refine mw_xld (pc' := 1129) dL_law_1128 rfl (by rw [hs1]; exact ⟨by omega, by omega⟩) ?_
    rw [hs1]
    refine mw_aload_n (v := (5, 0)) (pc' := 1130) dL_law_1129 rfl rfl (by simp) rfl ?_
    refine mw_iload (pc' := 1132) dL_law_1130 rfl rfl ?_
    refine mw_iconst (pc' := 1133) dL_law_1132 rfl ⟨by decide, by decide⟩ ?_
    refine mw_iadd (pc' := 1134) dL_law_1133 rfl (ik (by omega)) ?_
    refine mw_xld (pc' := 1135) dL_law_1134 rfl (by rw [hs1]; exact ⟨by omega, by omega⟩) ?_
    rw [hs1]
    refine mw_if_eq (tgt := 1142) (pc' := 1138) dL_law_1135 rfl (by decide) (fun c => ?_) (fun c => absurd hz c)
    refine mw_iconst (pc' := 1143) dL_law_1142 rfl ⟨by decide, by decide⟩ ?_
    refine mw_callV (M' := mX12_setRule) (A := [vI (d SCR (i + 1)), vI (d SCR (i + 2)), vI 0]) (A' := [vR 65, vI (d SCR (i + 1)), vI (d SCR (i + 2)), vI 0]) (S := []) (a := 65) (pc' := 1146) dL_law_1143 rfl (Or.inl (goodW 1804 (by decide +kernel) rfl)) kM_X12_setRule kV_X12_setRule ⟨by decide, by decide, Nat.zero_le _, Nat.zero_le _, by decide⟩ rfl rfl rfl ⟨by decide, by omega⟩ (by decide +kernel) (by decide +kernel) (Nat.le_of_ble_eq_true rfl) (h1 _ (fun b d2 hI2 hs2 h5 hb0 => ?_))
    show MW mL_law (bc - 47) (bs - 8228) 1146 [(0, (5, 0)), (1, vR 0), (2, vR 65), (3, vR 74), (4, vR 75), (5, vI i), (6, vI k)] [vI b] g1 d2 Q
    refine mw_istore (pc' := 1148) (L' := [(0, (5, 0)), (1, vR 0), (2, vR 65), (3, vR 74), (4, vR 75), (5, vI i), (6, vI k), (7, vI b)]) dL_law_1146 rfl (by decide) rfl ?_
    refine mw_aload_n (v := vR 65) (pc' := 1149) dL_law_1148 rfl rfl (by simp) rfl ?_
    refine mw_callV (M' := mX12_thrown) (A := []) (A' := [vR 65]) (S := []) (a := 65) (pc' := 1152) dL_law_1149 rfl (Or.inl (goodW 1679 (by decide +kernel) rfl)) kM_X12_thrown kV_X12_thrown ⟨by decide, by decide, Nat.zero_le _, Nat.zero_le _, by decide⟩ rfl rfl rfl ⟨by decide, by omega⟩ (by decide +kernel) (by decide +kernel) (Nat.le_of_ble_eq_true rfl) (eX12_thrown ?_)
    show MW mL_law (bc - 47) (bs - 8228) 1152 [(0, (5, 0)), (1, vR 0), (2, vR 65), (3, vR 74), (4, vR 75), (5, vI i), (6, vI k), (7, vI b)] [vI (d2 65 5)] g1 d2 Q
    rw [h5]
    refine mw_iload (pc' := 1154) dL_law_1152 rfl rfl ?_
    refine mw_icmp_eq (tgt := 1159) (pc' := 1157) dL_law_1154 rfl (by decide) (fun _ => ?_) (fun c => absurd rfl c)
    refine mw_iload (pc' := 1161) dL_law_1159 rfl rfl ?_
    refine mw_if_ne (tgt := 1176) (pc' := 1164) dL_law_1161 rfl (by decide) (fun c => ?_) (fun c => ?_)
    · refine mw_goto (pc' := 0) (tgt := 3808) dL_law_1176 (by decide) ?_
      exact mw_loc (pc' := 0) [0, 1, 2, 3, 4, 5] rfl (mw_less ⟨by omega, by omega⟩ (h g1 d2 hI2 hs2))
    · have hb1 := hb0 c
      refine mw_aload_n (v := vR 74) (pc' := 1165) dL_law_1164 rfl rfl (by simp) rfl ?_
      refine mw_iconst (pc' := 1166) dL_law_1165 rfl ⟨by decide, by decide⟩ ?_
      refine mw_lald (pc' := 1167) dL_law_1166 rfl (by decide +kernel) ⟨by decide, by decide⟩ (by rw [show LN 74 = 1 by decide +kernel]; exact ⟨by decide, by decide⟩) ?_
      refine mw_iload (pc' := 1169) dL_law_1167 rfl rfl ?_
      refine mw_i2l (pc' := 1170) dL_law_1169 rfl ?_
      refine mw_lcmp (pc' := 1171) dL_law_1170 rfl ?_
      refine mw_if_eq (tgt := 1176) (pc' := 1174) dL_law_1171 rfl (by decide) (fun _ => ?_) (fun c3 => absurd (by rw [hb1]; exact lCmp_rf) c3)
      refine mw_goto (pc' := 0) (tgt := 3808) dL_law_1176 (by decide) ?_
      exact mw_loc (pc' := 0) [0, 1, 2, 3, 4, 5] rfl (mw_less ⟨by omega, by omega⟩ (h g1 d2 hI2 hs2))
  · refine mw_aload_n (v := vR 0) (pc' := 1084) dL_law_1083 rfl rfl (by simp) rfl ?_
    refine mw_aload_n (v := (5, 0)) (pc' := 1085) dL_law_1084 rfl rfl (by simp) rfl ?_
    refine mw_iload (pc' := 1087) dL_law_1085 rfl rfl ?_
    refine mw_iconst (pc' := 1088) dL_law_1087 rfl ⟨by decide, by decide⟩ ?_
    refine mw_iadd (pc' := 1089) dL_law_1088 rfl (ik (by omega)) ?_
    refine mw_xld (pc' := 1090) dL_law_1089 rfl ⟨by omega, by omega⟩ ?_
    refine mw_aload_n (v := (5, 0)) (pc' := 1091) dL_law_1090 rfl rfl (by simp) rfl ?_
    refine mw_iload (pc' := 1093) dL_law_1091 rfl rfl ?_
    refine mw_iconst (pc' := 1094) dL_law_1093 rfl ⟨by decide, by decide⟩ ?_
    refine mw_iadd (pc' := 1095) dL_law_1094 rfl (ik (by omega)) ?_
    refine mw_xld (pc' := 1096) dL_law_1095 rfl ⟨by omega, by omega⟩ ?_
    refine mw_aload_n (v := (5, 0)) (pc' := 1097) dL_law_1096 rfl rfl (by simp) rfl ?_
    refine mw_iload (pc' := 1099) dL_law_1097 rfl rfl ?_
    refine mw_iconst (pc' := 1100) dL_law_1099 rfl ⟨by decide, by decide⟩ ?_
    refine mw_iadd (pc' := 1101) dL_law_1100 rfl (ik (by omega)) ?_
    refine mw_xld (pc' := 1102) dL_law_1101 rfl ⟨by omega, by omega⟩ ?_
    refine mw_if_eq (tgt := 1109) (pc' := 1105) dL_law_1102 rfl (by decide) (fun c => absurd c hz) (fun c => ?_)
    refine mw_iconst (pc' := 1106) dL_law_1105 rfl ⟨by decide, by decide⟩ ?_
    refine mw_goto (pc' := 0) (tgt := 1110) dL_law_1106 (by decide) ?_
    refine mw_aload_n (v := vR 74) (pc' := 1111) dL_law_1110 rfl rfl (by simp) rfl ?_
    refine mw_callSX (M' := mL_setRule) (A := [vR 0, vI (d SCR (i + 1)), vI (d SCR (i + 2)), vI 1, vR 74]) (S := []) (pc' := 1114) dL_law_1111 rfl (goodW 981 (by decide +kernel) rfl) kM_L_setRule kS_L_setRule ⟨by decide, by decide, Nat.le_trans (by decide) hb.1, Nat.le_trans (by decide) hb.2, by decide⟩ rfl rfl (Nat.le_of_ble_eq_true rfl) (MM.mono ?_ (MM.scr (o_setRule (by decide) g d hI)))
    intro o g1 d1 hh
    obtain ⟨⟨k, ho, h1⟩, hs1⟩ := hh
    subst ho
    show MW mL_law (bc - 47) (bs - 8228) 1114 [(0, (5, 0)), (1, vR 0), (2, vR 65), (3, vR 74), (4, vR 75), (5, vI i)] [vI k] g1 d1 Q
    refine mw_top (fun hT1 => ?_)
    have hG1 : 76 ≤ g1.2.1 := hT1.2
    refine mw_istore (pc' := 1116) (L' := [(0, (5, 0)), (1, vR 0), (2, vR 65), (3, vR 74), (4, vR 75), (5, vI i), (6, vI k)]) dL_law_1114 rfl (by decide) rfl ?_
    refine mw_aload_n (v := vR 65) (pc' := 1117) dL_law_1116 rfl rfl (by simp) rfl ?_
    refine mw_aload_n (v := (5, 0)) (pc' := 1118) dL_law_1117 rfl rfl (by simp) rfl ?_
    refine mw_iload (pc' := 1120) dL_law_1118 rfl rfl ?_
    refine mw_iconst (pc' := 1121) dL_law_1120 rfl ⟨by decide, by decide⟩ ?_
    refine mw_iadd (pc' := 1122) dL_law_1121 rfl (ik (by omega)) ?_
    refine mw_xld (pc' := 1123) dL_law_1122 rfl (by rw [hs1]; exact ⟨by omega, by omega⟩) ?_
    rw [hs1]
    refine mw_aload_n (v := (5, 0)) (pc' := 1124) dL_law_1123 rfl rfl (by simp) rfl ?_
    refine mw_iload (pc' := 1126) dL_law_1124 rfl rfl ?_
    refine mw_iconst (pc' := 1127) dL_law_1126 rfl ⟨by decide, by decide⟩ ?_
    refine mw_iadd (pc' := 1128) dL_law_1127 rfl (ik (by omega)) ?_
    refine mw_xld (pc' := 1129) dL_law_1128 rfl (by rw [hs1]; exact ⟨by omega, by omega⟩) ?_
    rw [hs1]
    refine mw_aload_n (v := (5, 0)) (pc' := 1130) dL_law_1129 rfl rfl (by simp) rfl ?_
    refine mw_iload (pc' := 1132) dL_law_1130 rfl rfl ?_
    refine mw_iconst (pc' := 1133) dL_law_1132 rfl ⟨by decide, by decide⟩ ?_
    refine mw_iadd (pc' := 1134) dL_law_1133 rfl (ik (by omega)) ?_
    refine mw_xld (pc' := 1135) dL_law_1134 rfl (by rw [hs1]; exact ⟨by omega, by omega⟩) ?_
    rw [hs1]
    refine mw_if_eq (tgt := 1142) (pc' := 1138) dL_law_1135 rfl (by decide) (fun c => absurd c hz) (fun c => ?_)
    refine mw_iconst (pc' := 1139) dL_law_1138 rfl ⟨by decide, by decide⟩ ?_
    refine mw_goto (pc' := 0) (tgt := 1143) dL_law_1139 (by decide) ?_
    refine mw_callV (M' := mX12_setRule) (A := [vI (d SCR (i + 1)), vI (d SCR (i + 2)), vI 1]) (A' := [vR 65, vI (d SCR (i + 1)), vI (d SCR (i + 2)), vI 1]) (S := []) (a := 65) (pc' := 1146) dL_law_1143 rfl (Or.inl (goodW 1804 (by decide +kernel) rfl)) kM_X12_setRule kV_X12_setRule ⟨by decide, by decide, Nat.zero_le _, Nat.zero_le _, by decide⟩ rfl rfl rfl ⟨by decide, by omega⟩ (by decide +kernel) (by decide +kernel) (Nat.le_of_ble_eq_true rfl) (h1 _ (fun b d2 hI2 hs2 h5 hb0 => ?_))
    show MW mL_law (bc - 47) (bs - 8228) 1146 [(0, (5, 0)), (1, vR 0), (2, vR 65), (3, vR 74), (4, vR 75), (5, vI i), (6, vI k)] [vI b] g1 d2 Q
    refine mw_istore (pc' := 1148) (L' := [(0, (5, 0)), (1, vR 0), (2, vR 65), (3, vR 74), (4, vR 75), (5, vI i), (6, vI k), (7, vI b)]) dL_law_1146 rfl (by decide) rfl ?_
    refine mw_aload_n (v := vR 65) (pc' := 1149) dL_law_1148 rfl rfl (by simp) rfl ?_
    refine mw_callV (M' := mX12_thrown) (A := []) (A' := [vR 65]) (S := []) (a := 65) (pc' := 1152) dL_law_1149 rfl (Or.inl (goodW 1679 (by decide +kernel) rfl)) kM_X12_thrown kV_X12_thrown ⟨by decide, by decide, Nat.zero_le _, Nat.zero_le _, by decide⟩ rfl rfl rfl ⟨by decide, by omega⟩ (by decide +kernel) (by decide +kernel) (Nat.le_of_ble_eq_true rfl) (eX12_thrown ?_)
    show MW mL_law (bc - 47) (bs - 8228) 1152 [(0, (5, 0)), (1, vR 0), (2, vR 65), (3, vR 74), (4, vR 75), (5, vI i), (6, vI k), (7, vI b)] [vI (d2 65 5)] g1 d2 Q
    rw [h5]
    refine mw_iload (pc' := 1154) dL_law_1152 rfl rfl ?_
    refine mw_icmp_eq (tgt := 1159) (pc' := 1157) dL_law_1154 rfl (by decide) (fun _ => ?_) (fun c => absurd rfl c)
    refine mw_iload (pc' := 1161) dL_law_1159 rfl rfl ?_
    refine mw_if_ne (tgt := 1176) (pc' := 1164) dL_law_1161 rfl (by decide) (fun c => ?_) (fun c => ?_)
    · refine mw_goto (pc' := 0) (tgt := 3808) dL_law_1176 (by decide) ?_
      exact mw_loc (pc' := 0) [0, 1, 2, 3, 4, 5] rfl (mw_less ⟨by omega, by omega⟩ (h g1 d2 hI2 hs2))
    · have hb1 := hb0 c
      refine mw_aload_n (v := vR 74) (pc' := 1165) dL_law_1164 rfl rfl (by simp) rfl ?_
      refine mw_iconst (pc' := 1166) dL_law_1165 rfl ⟨by decide, by decide⟩ ?_
      refine mw_lald (pc' := 1167) dL_law_1166 rfl (by decide +kernel) ⟨by decide, by decide⟩ (by rw [show LN 74 = 1 by decide +kernel]; exact ⟨by decide, by decide⟩) ?_
      refine mw_iload (pc' := 1169) dL_law_1167 rfl rfl ?_
      refine mw_i2l (pc' := 1170) dL_law_1169 rfl ?_
      refine mw_lcmp (pc' := 1171) dL_law_1170 rfl ?_
      refine mw_if_eq (tgt := 1176) (pc' := 1174) dL_law_1171 rfl (by decide) (fun _ => ?_) (fun c3 => absurd (by rw [hb1]; exact lCmp_rf) c3)
      refine mw_goto (pc' := 0) (tgt := 3808) dL_law_1176 (by decide) ?_
      exact mw_loc (pc' := 0) [0, 1, 2, 3, 4, 5] rfl (mw_less ⟨by omega, by omega⟩ (h g1 d2 hI2 hs2))
theorem lc_16 {i : Int} {bc bs : Nat} {g : mG} {d : mD} {Q : mQ} (hI : INV g d) (hi : 0 ≤ i ∧ i + 3 < d SCR (-1)) (hN : d SCR (-1) ≤ 2048) (hb : 47 ≤ bc ∧ 8228 ≤ bs) (h : ∀ g' d', INV g' d' → d' SCR = d SCR → MW mL_law (bc - 47) (bs - 8228) 3808 [(0, (5, 0)), (1, vR 0), (2, vR 65), (3, vR 74), (4, vR 75), (5, vI i)] [] g' d' Q) : MW mL_law bc bs 1179 [(0, (5, 0)), (1, vR 0), (2, vR 65), (3, vR 74), (4, vR 75), (5, vI i)] [] g d Q := by
  refine mw_top (fun hT => ?_)
  have hG : 76 ≤ g.2.1 := hT.2
  refine mw_aload_n (v := vR 0) (pc' := 1180) dL_law_1179 rfl rfl (by simp) rfl ?_
  refine mw_aload_n (v := (5, 0)) (pc' := 1181) dL_law_1180 rfl rfl (by simp) rfl ?_
  refine mw_iload (pc' := 1183) dL_law_1181 rfl rfl ?_
  refine mw_iconst (pc' := 1184) dL_law_1183 rfl ⟨by decide, by decide⟩ ?_
  refine mw_iadd (pc' := 1185) dL_law_1184 rfl (ik (by omega)) ?_
  refine mw_xld (pc' := 1186) dL_law_1185 rfl ⟨by omega, by omega⟩ ?_
  refine mw_aload_n (v := vR 74) (pc' := 1187) dL_law_1186 rfl rfl (by simp) rfl ?_
  refine mw_callSX (M' := mL_ruleLength) (A := [vR 0, vI (d SCR (i + 1)), vR 74]) (S := []) (pc' := 1190) dL_law_1187 rfl (goodW 995 (by decide +kernel) rfl) kM_L_ruleLength kS_L_ruleLength ⟨by decide, by decide, Nat.le_trans (by decide) hb.1, Nat.le_trans (by decide) hb.2, by decide⟩ rfl rfl (Nat.le_of_ble_eq_true rfl) (MM.mono ?_ (MM.scr (o_ruleLength g d hI)))
  intro o g1 d1 hh
  obtain ⟨⟨k, ho, h1⟩, hs1⟩ := hh
  subst ho
  show MW mL_law (bc - 1) (bs - 6) 1190 [(0, (5, 0)), (1, vR 0), (2, vR 65), (3, vR 74), (4, vR 75), (5, vI i)] [vI k] g1 d1 Q
  refine mw_top (fun hT1 => ?_)
  have hG1 : 76 ≤ g1.2.1 := hT1.2
  refine mw_istore (pc' := 1192) (L' := [(0, (5, 0)), (1, vR 0), (2, vR 65), (3, vR 74), (4, vR 75), (5, vI i), (6, vI k)]) dL_law_1190 rfl (by decide) rfl ?_
  refine mw_aload_n (v := vR 65) (pc' := 1193) dL_law_1192 rfl rfl (by simp) rfl ?_
  refine mw_aload_n (v := (5, 0)) (pc' := 1194) dL_law_1193 rfl rfl (by simp) rfl ?_
  refine mw_iload (pc' := 1196) dL_law_1194 rfl rfl ?_
  refine mw_iconst (pc' := 1197) dL_law_1196 rfl ⟨by decide, by decide⟩ ?_
  refine mw_iadd (pc' := 1198) dL_law_1197 rfl (ik (by omega)) ?_
  refine mw_xld (pc' := 1199) dL_law_1198 rfl (by rw [hs1]; exact ⟨by omega, by omega⟩) ?_
  rw [hs1]
  refine mw_callV (M' := mX12_ruleLength) (A := [vI (d SCR (i + 1))]) (A' := [vR 65, vI (d SCR (i + 1))]) (S := []) (a := 65) (pc' := 1202) dL_law_1199 rfl (Or.inl (goodW 1811 (by decide +kernel) rfl)) kM_X12_ruleLength kV_X12_ruleLength ⟨by decide, by decide, Nat.zero_le _, Nat.zero_le _, by decide⟩ rfl rfl rfl ⟨by decide, by omega⟩ (by decide +kernel) (by decide +kernel) (Nat.le_of_ble_eq_true rfl) (h1 _ (fun b d2 hI2 hs2 h5 hb0 => ?_))
  show MW mL_law (bc - 1) (bs - 6) 1202 [(0, (5, 0)), (1, vR 0), (2, vR 65), (3, vR 74), (4, vR 75), (5, vI i), (6, vI k)] [vI b] g1 d2 Q
  refine mw_istore (pc' := 1204) (L' := [(0, (5, 0)), (1, vR 0), (2, vR 65), (3, vR 74), (4, vR 75), (5, vI i), (6, vI k), (7, vI b)]) dL_law_1202 rfl (by decide) rfl ?_
  refine mw_aload_n (v := vR 65) (pc' := 1205) dL_law_1204 rfl rfl (by simp) rfl ?_
  refine mw_callV (M' := mX12_thrown) (A := []) (A' := [vR 65]) (S := []) (a := 65) (pc' := 1208) dL_law_1205 rfl (Or.inl (goodW 1679 (by decide +kernel) rfl)) kM_X12_thrown kV_X12_thrown ⟨by decide, by decide, Nat.zero_le _, Nat.zero_le _, by decide⟩ rfl rfl rfl ⟨by decide, by omega⟩ (by decide +kernel) (by decide +kernel) (Nat.le_of_ble_eq_true rfl) (eX12_thrown ?_)
  show MW mL_law (bc - 1) (bs - 6) 1208 [(0, (5, 0)), (1, vR 0), (2, vR 65), (3, vR 74), (4, vR 75), (5, vI i), (6, vI k), (7, vI b)] [vI (d2 65 5)] g1 d2 Q
  rw [h5]
  refine mw_iload (pc' := 1210) dL_law_1208 rfl rfl ?_
  refine mw_icmp_eq (tgt := 1215) (pc' := 1213) dL_law_1210 rfl (by decide) (fun _ => ?_) (fun c => absurd rfl c)
  refine mw_iload (pc' := 1217) dL_law_1215 rfl rfl ?_
  refine mw_if_ne (tgt := 1232) (pc' := 1220) dL_law_1217 rfl (by decide) (fun c => ?_) (fun c => ?_)
  · refine mw_goto (pc' := 0) (tgt := 3808) dL_law_1232 (by decide) ?_
    exact mw_loc (pc' := 0) [0, 1, 2, 3, 4, 5] rfl (mw_less ⟨by omega, by omega⟩ (h g1 d2 hI2 hs2))
  · have hb1 := hb0 c
    refine mw_aload_n (v := vR 74) (pc' := 1221) dL_law_1220 rfl rfl (by simp) rfl ?_
    refine mw_iconst (pc' := 1222) dL_law_1221 rfl ⟨by decide, by decide⟩ ?_
    refine mw_lald (pc' := 1223) dL_law_1222 rfl (by decide +kernel) ⟨by decide, by decide⟩ (by rw [show LN 74 = 1 by decide +kernel]; exact ⟨by decide, by decide⟩) ?_
    refine mw_iload (pc' := 1225) dL_law_1223 rfl rfl ?_
    refine mw_i2l (pc' := 1226) dL_law_1225 rfl ?_
    refine mw_lcmp (pc' := 1227) dL_law_1226 rfl ?_
    refine mw_if_eq (tgt := 1232) (pc' := 1230) dL_law_1227 rfl (by decide) (fun _ => ?_) (fun c3 => absurd (by rw [hb1]; exact lCmp_rf) c3)
    refine mw_goto (pc' := 0) (tgt := 3808) dL_law_1232 (by decide) ?_
    exact mw_loc (pc' := 0) [0, 1, 2, 3, 4, 5] rfl (mw_less ⟨by omega, by omega⟩ (h g1 d2 hI2 hs2))
theorem lc_17 {i : Int} {bc bs : Nat} {g : mG} {d : mD} {Q : mQ} (hI : INV g d) (hi : 0 ≤ i ∧ i + 3 < d SCR (-1)) (hN : d SCR (-1) ≤ 2048) (hb : 47 ≤ bc ∧ 8228 ≤ bs) (h : ∀ g' d', INV g' d' → d' SCR = d SCR → MW mL_law (bc - 47) (bs - 8228) 3808 [(0, (5, 0)), (1, vR 0), (2, vR 65), (3, vR 74), (4, vR 75), (5, vI i)] [] g' d' Q) : MW mL_law bc bs 1235 [(0, (5, 0)), (1, vR 0), (2, vR 65), (3, vR 74), (4, vR 75), (5, vI i)] [] g d Q := by
  refine mw_top (fun hT => ?_)
  have hG : 76 ≤ g.2.1 := hT.2
  refine mw_aload_n (v := vR 0) (pc' := 1236) dL_law_1235 rfl rfl (by simp) rfl ?_
  refine mw_aload_n (v := (5, 0)) (pc' := 1237) dL_law_1236 rfl rfl (by simp) rfl ?_
  refine mw_iload (pc' := 1239) dL_law_1237 rfl rfl ?_
  refine mw_iconst (pc' := 1240) dL_law_1239 rfl ⟨by decide, by decide⟩ ?_
  refine mw_iadd (pc' := 1241) dL_law_1240 rfl (ik (by omega)) ?_
  refine mw_xld (pc' := 1242) dL_law_1241 rfl ⟨by omega, by omega⟩ ?_
  refine mw_aload_n (v := vR 74) (pc' := 1243) dL_law_1242 rfl rfl (by simp) rfl ?_
  refine mw_callSX (M' := mL_countsCourtDays) (A := [vR 0, vI (d SCR (i + 1)), vR 74]) (S := []) (pc' := 1246) dL_law_1243 rfl (goodW 1006 (by decide +kernel) rfl) kM_L_countsCourtDays kS_L_countsCourtDays ⟨by decide, by decide, Nat.le_trans (by decide) hb.1, Nat.le_trans (by decide) hb.2, by decide⟩ rfl rfl (Nat.le_of_ble_eq_true rfl) (MM.mono ?_ (MM.scr (o_countsCourtDays g d hI)))
  intro o g1 d1 hh
  obtain ⟨⟨k, ho, h1⟩, hs1⟩ := hh
  subst ho
  show MW mL_law (bc - 1) (bs - 6) 1246 [(0, (5, 0)), (1, vR 0), (2, vR 65), (3, vR 74), (4, vR 75), (5, vI i)] [vI k] g1 d1 Q
  refine mw_top (fun hT1 => ?_)
  have hG1 : 76 ≤ g1.2.1 := hT1.2
  refine mw_istore (pc' := 1248) (L' := [(0, (5, 0)), (1, vR 0), (2, vR 65), (3, vR 74), (4, vR 75), (5, vI i), (6, vI k)]) dL_law_1246 rfl (by decide) rfl ?_
  refine mw_aload_n (v := vR 65) (pc' := 1249) dL_law_1248 rfl rfl (by simp) rfl ?_
  refine mw_aload_n (v := (5, 0)) (pc' := 1250) dL_law_1249 rfl rfl (by simp) rfl ?_
  refine mw_iload (pc' := 1252) dL_law_1250 rfl rfl ?_
  refine mw_iconst (pc' := 1253) dL_law_1252 rfl ⟨by decide, by decide⟩ ?_
  refine mw_iadd (pc' := 1254) dL_law_1253 rfl (ik (by omega)) ?_
  refine mw_xld (pc' := 1255) dL_law_1254 rfl (by rw [hs1]; exact ⟨by omega, by omega⟩) ?_
  rw [hs1]
  refine mw_callV (M' := mX12_countsCourtDays) (A := [vI (d SCR (i + 1))]) (A' := [vR 65, vI (d SCR (i + 1))]) (S := []) (a := 65) (pc' := 1258) dL_law_1255 rfl (Or.inl (goodW 1815 (by decide +kernel) rfl)) kM_X12_countsCourtDays kV_X12_countsCourtDays ⟨by decide, by decide, Nat.zero_le _, Nat.zero_le _, by decide⟩ rfl rfl rfl ⟨by decide, by omega⟩ (by decide +kernel) (by decide +kernel) (Nat.le_of_ble_eq_true rfl) (h1 _ (fun b d2 hI2 hs2 h5 hb0 => ?_))
  show MW mL_law (bc - 1) (bs - 6) 1258 [(0, (5, 0)), (1, vR 0), (2, vR 65), (3, vR 74), (4, vR 75), (5, vI i), (6, vI k)] [vI b] g1 d2 Q
  refine mw_istore (pc' := 1260) (L' := [(0, (5, 0)), (1, vR 0), (2, vR 65), (3, vR 74), (4, vR 75), (5, vI i), (6, vI k), (7, vI b)]) dL_law_1258 rfl (by decide) rfl ?_
  refine mw_aload_n (v := vR 65) (pc' := 1261) dL_law_1260 rfl rfl (by simp) rfl ?_
  refine mw_callV (M' := mX12_thrown) (A := []) (A' := [vR 65]) (S := []) (a := 65) (pc' := 1264) dL_law_1261 rfl (Or.inl (goodW 1679 (by decide +kernel) rfl)) kM_X12_thrown kV_X12_thrown ⟨by decide, by decide, Nat.zero_le _, Nat.zero_le _, by decide⟩ rfl rfl rfl ⟨by decide, by omega⟩ (by decide +kernel) (by decide +kernel) (Nat.le_of_ble_eq_true rfl) (eX12_thrown ?_)
  show MW mL_law (bc - 1) (bs - 6) 1264 [(0, (5, 0)), (1, vR 0), (2, vR 65), (3, vR 74), (4, vR 75), (5, vI i), (6, vI k), (7, vI b)] [vI (d2 65 5)] g1 d2 Q
  rw [h5]
  refine mw_iload (pc' := 1266) dL_law_1264 rfl rfl ?_
  refine mw_icmp_eq (tgt := 1271) (pc' := 1269) dL_law_1266 rfl (by decide) (fun _ => ?_) (fun c => absurd rfl c)
  refine mw_iload (pc' := 1273) dL_law_1271 rfl rfl ?_
  refine mw_if_ne (tgt := 1295) (pc' := 1276) dL_law_1273 rfl (by decide) (fun c => ?_) (fun c => ?_)
  · refine mw_goto (pc' := 0) (tgt := 3808) dL_law_1295 (by decide) ?_
    exact mw_loc (pc' := 0) [0, 1, 2, 3, 4, 5] rfl (mw_less ⟨by omega, by omega⟩ (h g1 d2 hI2 hs2))
  · obtain ⟨hb1, hb2⟩ := hb0 c
    refine mw_aload_n (v := vR 74) (pc' := 1277) dL_law_1276 rfl rfl (by simp) rfl ?_
    refine mw_iconst (pc' := 1278) dL_law_1277 rfl ⟨by decide, by decide⟩ ?_
    refine mw_lald (pc' := 1279) dL_law_1278 rfl (by decide +kernel) ⟨by decide, by decide⟩ (by rw [show LN 74 = 1 by decide +kernel]; exact ⟨by decide, by decide⟩) ?_
    refine mw_iload (pc' := 1281) dL_law_1279 rfl rfl ?_
    rcases hb2 with hb2 | hb2
    · rw [← hb1, hb2]
      refine mw_if_eq (tgt := 1288) (pc' := 1284) dL_law_1281 rfl (by decide) (fun _ => ?_) (fun c2 => absurd rfl c2)
      refine mw_lconst0 (pc' := 1289) dL_law_1288 rfl ?_
      refine mw_lcmp (pc' := 1290) dL_law_1289 rfl ?_
      refine mw_if_eq (tgt := 1295) (pc' := 1293) dL_law_1290 rfl (by decide) (fun _ => ?_) (fun c3 => absurd lCmp_rf c3)
      refine mw_goto (pc' := 0) (tgt := 3808) dL_law_1295 (by decide) ?_
      exact mw_loc (pc' := 0) [0, 1, 2, 3, 4, 5] rfl (mw_less ⟨by omega, by omega⟩ (h g1 d2 hI2 hs2))
    · rw [← hb1, hb2]
      refine mw_if_eq (tgt := 1288) (pc' := 1284) dL_law_1281 rfl (by decide) (fun c2 => absurd c2 (by decide)) (fun _ => ?_)
      refine mw_lconst1 (pc' := 1285) dL_law_1284 rfl ?_
      refine mw_goto (pc' := 0) (tgt := 1289) dL_law_1285 (by decide) ?_
      refine mw_lcmp (pc' := 1290) dL_law_1289 rfl ?_
      refine mw_if_eq (tgt := 1295) (pc' := 1293) dL_law_1290 rfl (by decide) (fun _ => ?_) (fun c3 => absurd lCmp_rf c3)
      refine mw_goto (pc' := 0) (tgt := 3808) dL_law_1295 (by decide) ?_
      exact mw_loc (pc' := 0) [0, 1, 2, 3, 4, 5] rfl (mw_less ⟨by omega, by omega⟩ (h g1 d2 hI2 hs2))
theorem lc_18 {i : Int} {bc bs : Nat} {g : mG} {d : mD} {Q : mQ} (hI : INV g d) (hi : 0 ≤ i ∧ i + 3 < d SCR (-1)) (hN : d SCR (-1) ≤ 2048) (hb : 47 ≤ bc ∧ 8228 ≤ bs) (h : ∀ g' d', INV g' d' → d' SCR = d SCR → MW mL_law (bc - 47) (bs - 8228) 3808 [(0, (5, 0)), (1, vR 0), (2, vR 65), (3, vR 74), (4, vR 75), (5, vI i)] [] g' d' Q) : MW mL_law bc bs 1298 [(0, (5, 0)), (1, vR 0), (2, vR 65), (3, vR 74), (4, vR 75), (5, vI i)] [] g d Q := by
  refine mw_top (fun hT => ?_)
  have hG : 76 ≤ g.2.1 := hT.2
  refine mw_aload_n (v := vR 0) (pc' := 1299) dL_law_1298 rfl rfl (by simp) rfl ?_
  refine mw_aload_n (v := (5, 0)) (pc' := 1300) dL_law_1299 rfl rfl (by simp) rfl ?_
  refine mw_iload (pc' := 1302) dL_law_1300 rfl rfl ?_
  refine mw_iconst (pc' := 1303) dL_law_1302 rfl ⟨by decide, by decide⟩ ?_
  refine mw_iadd (pc' := 1304) dL_law_1303 rfl (ik (by omega)) ?_
  refine mw_xld (pc' := 1305) dL_law_1304 rfl ⟨by omega, by omega⟩ ?_
  refine mw_i2c (pc' := 1306) dL_law_1305 rfl ?_
  refine mw_aload_n (v := (5, 0)) (pc' := 1307) dL_law_1306 rfl rfl (by simp) rfl ?_
  refine mw_iload (pc' := 1309) dL_law_1307 rfl rfl ?_
  refine mw_iconst (pc' := 1310) dL_law_1309 rfl ⟨by decide, by decide⟩ ?_
  refine mw_iadd (pc' := 1311) dL_law_1310 rfl (ik (by omega)) ?_
  refine mw_xld (pc' := 1312) dL_law_1311 rfl ⟨by omega, by omega⟩ ?_
  refine mw_aload_n (v := vR 74) (pc' := 1313) dL_law_1312 rfl rfl (by simp) rfl ?_
  refine mw_callSX (M' := mL_setServiceDays) (A := [vR 0, vI ((d SCR (i + 1)) % 65536), vI (d SCR (i + 2)), vR 74]) (S := []) (pc' := 1316) dL_law_1313 rfl (goodW 1013 (by decide +kernel) rfl) kM_L_setServiceDays kS_L_setServiceDays ⟨by decide, by decide, Nat.le_trans (by decide) hb.1, Nat.le_trans (by decide) hb.2, by decide⟩ rfl rfl (Nat.le_of_ble_eq_true rfl) (MM.mono ?_ (MM.scr (o_setServiceDays g d hI)))
  intro o g1 d1 hh
  obtain ⟨⟨k, ho, h1⟩, hs1⟩ := hh
  subst ho
  show MW mL_law (bc - 47) (bs - 8228) 1316 [(0, (5, 0)), (1, vR 0), (2, vR 65), (3, vR 74), (4, vR 75), (5, vI i)] [vI k] g1 d1 Q
  refine mw_top (fun hT1 => ?_)
  have hG1 : 76 ≤ g1.2.1 := hT1.2
  refine mw_istore (pc' := 1318) (L' := [(0, (5, 0)), (1, vR 0), (2, vR 65), (3, vR 74), (4, vR 75), (5, vI i), (6, vI k)]) dL_law_1316 rfl (by decide) rfl ?_
  refine mw_aload_n (v := vR 65) (pc' := 1319) dL_law_1318 rfl rfl (by simp) rfl ?_
  refine mw_aload_n (v := (5, 0)) (pc' := 1320) dL_law_1319 rfl rfl (by simp) rfl ?_
  refine mw_iload (pc' := 1322) dL_law_1320 rfl rfl ?_
  refine mw_iconst (pc' := 1323) dL_law_1322 rfl ⟨by decide, by decide⟩ ?_
  refine mw_iadd (pc' := 1324) dL_law_1323 rfl (ik (by omega)) ?_
  refine mw_xld (pc' := 1325) dL_law_1324 rfl (by rw [hs1]; exact ⟨by omega, by omega⟩) ?_
  rw [hs1]
  refine mw_i2c (pc' := 1326) dL_law_1325 rfl ?_
  refine mw_aload_n (v := (5, 0)) (pc' := 1327) dL_law_1326 rfl rfl (by simp) rfl ?_
  refine mw_iload (pc' := 1329) dL_law_1327 rfl rfl ?_
  refine mw_iconst (pc' := 1330) dL_law_1329 rfl ⟨by decide, by decide⟩ ?_
  refine mw_iadd (pc' := 1331) dL_law_1330 rfl (ik (by omega)) ?_
  refine mw_xld (pc' := 1332) dL_law_1331 rfl (by rw [hs1]; exact ⟨by omega, by omega⟩) ?_
  rw [hs1]
  refine mw_callV (M' := mX12_setServiceDays) (A := [vI ((d SCR (i + 1)) % 65536), vI (d SCR (i + 2))]) (A' := [vR 65, vI ((d SCR (i + 1)) % 65536), vI (d SCR (i + 2))]) (S := []) (a := 65) (pc' := 1335) dL_law_1332 rfl (Or.inl (goodW 1819 (by decide +kernel) rfl)) kM_X12_setServiceDays kV_X12_setServiceDays ⟨by decide, by decide, Nat.zero_le _, Nat.zero_le _, by decide⟩ rfl rfl rfl ⟨by decide, by omega⟩ (by decide +kernel) (by decide +kernel) (Nat.le_of_ble_eq_true rfl) (h1 _ (fun b d2 hI2 hs2 h5 hb0 => ?_))
  show MW mL_law (bc - 47) (bs - 8228) 1335 [(0, (5, 0)), (1, vR 0), (2, vR 65), (3, vR 74), (4, vR 75), (5, vI i), (6, vI k)] [vI b] g1 d2 Q
  refine mw_istore (pc' := 1337) (L' := [(0, (5, 0)), (1, vR 0), (2, vR 65), (3, vR 74), (4, vR 75), (5, vI i), (6, vI k), (7, vI b)]) dL_law_1335 rfl (by decide) rfl ?_
  refine mw_aload_n (v := vR 65) (pc' := 1338) dL_law_1337 rfl rfl (by simp) rfl ?_
  refine mw_callV (M' := mX12_thrown) (A := []) (A' := [vR 65]) (S := []) (a := 65) (pc' := 1341) dL_law_1338 rfl (Or.inl (goodW 1679 (by decide +kernel) rfl)) kM_X12_thrown kV_X12_thrown ⟨by decide, by decide, Nat.zero_le _, Nat.zero_le _, by decide⟩ rfl rfl rfl ⟨by decide, by omega⟩ (by decide +kernel) (by decide +kernel) (Nat.le_of_ble_eq_true rfl) (eX12_thrown ?_)
  show MW mL_law (bc - 47) (bs - 8228) 1341 [(0, (5, 0)), (1, vR 0), (2, vR 65), (3, vR 74), (4, vR 75), (5, vI i), (6, vI k), (7, vI b)] [vI (d2 65 5)] g1 d2 Q
  rw [h5]
  refine mw_iload (pc' := 1343) dL_law_1341 rfl rfl ?_
  refine mw_icmp_eq (tgt := 1348) (pc' := 1346) dL_law_1343 rfl (by decide) (fun _ => ?_) (fun c => absurd rfl c)
  refine mw_iload (pc' := 1350) dL_law_1348 rfl rfl ?_
  refine mw_if_ne (tgt := 1365) (pc' := 1353) dL_law_1350 rfl (by decide) (fun c => ?_) (fun c => ?_)
  · refine mw_goto (pc' := 0) (tgt := 3808) dL_law_1365 (by decide) ?_
    exact mw_loc (pc' := 0) [0, 1, 2, 3, 4, 5] rfl (mw_less ⟨by omega, by omega⟩ (h g1 d2 hI2 hs2))
  · have hb1 := hb0 c
    refine mw_aload_n (v := vR 74) (pc' := 1354) dL_law_1353 rfl rfl (by simp) rfl ?_
    refine mw_iconst (pc' := 1355) dL_law_1354 rfl ⟨by decide, by decide⟩ ?_
    refine mw_lald (pc' := 1356) dL_law_1355 rfl (by decide +kernel) ⟨by decide, by decide⟩ (by rw [show LN 74 = 1 by decide +kernel]; exact ⟨by decide, by decide⟩) ?_
    refine mw_iload (pc' := 1358) dL_law_1356 rfl rfl ?_
    refine mw_i2l (pc' := 1359) dL_law_1358 rfl ?_
    refine mw_lcmp (pc' := 1360) dL_law_1359 rfl ?_
    refine mw_if_eq (tgt := 1365) (pc' := 1363) dL_law_1360 rfl (by decide) (fun _ => ?_) (fun c3 => absurd (by rw [hb1]; exact lCmp_rf) c3)
    refine mw_goto (pc' := 0) (tgt := 3808) dL_law_1365 (by decide) ?_
    exact mw_loc (pc' := 0) [0, 1, 2, 3, 4, 5] rfl (mw_less ⟨by omega, by omega⟩ (h g1 d2 hI2 hs2))
theorem lc_19 {i : Int} {bc bs : Nat} {g : mG} {d : mD} {Q : mQ} (hI : INV g d) (hi : 0 ≤ i ∧ i + 3 < d SCR (-1)) (hN : d SCR (-1) ≤ 2048) (hb : 47 ≤ bc ∧ 8228 ≤ bs) (h : ∀ g' d', INV g' d' → d' SCR = d SCR → MW mL_law (bc - 47) (bs - 8228) 3808 [(0, (5, 0)), (1, vR 0), (2, vR 65), (3, vR 74), (4, vR 75), (5, vI i)] [] g' d' Q) : MW mL_law bc bs 1368 [(0, (5, 0)), (1, vR 0), (2, vR 65), (3, vR 74), (4, vR 75), (5, vI i)] [] g d Q := by
  refine mw_top (fun hT => ?_)
  have hG : 76 ≤ g.2.1 := hT.2
  refine mw_aload_n (v := vR 0) (pc' := 1369) dL_law_1368 rfl rfl (by simp) rfl ?_
  refine mw_aload_n (v := (5, 0)) (pc' := 1370) dL_law_1369 rfl rfl (by simp) rfl ?_
  refine mw_iload (pc' := 1372) dL_law_1370 rfl rfl ?_
  refine mw_iconst (pc' := 1373) dL_law_1372 rfl ⟨by decide, by decide⟩ ?_
  refine mw_iadd (pc' := 1374) dL_law_1373 rfl (ik (by omega)) ?_
  refine mw_xld (pc' := 1375) dL_law_1374 rfl ⟨by omega, by omega⟩ ?_
  refine mw_i2c (pc' := 1376) dL_law_1375 rfl ?_
  refine mw_aload_n (v := vR 74) (pc' := 1377) dL_law_1376 rfl rfl (by simp) rfl ?_
  refine mw_callSX (M' := mL_serviceDays) (A := [vR 0, vI ((d SCR (i + 1)) % 65536), vR 74]) (S := []) (pc' := 1380) dL_law_1377 rfl (goodW 1027 (by decide +kernel) rfl) kM_L_serviceDays kS_L_serviceDays ⟨by decide, by decide, Nat.le_trans (by decide) hb.1, Nat.le_trans (by decide) hb.2, by decide⟩ rfl rfl (Nat.le_of_ble_eq_true rfl) (MM.mono ?_ (MM.scr (o_serviceDays g d hI)))
  intro o g1 d1 hh
  obtain ⟨⟨k, ho, h1⟩, hs1⟩ := hh
  subst ho
  show MW mL_law (bc - 1) (bs - 6) 1380 [(0, (5, 0)), (1, vR 0), (2, vR 65), (3, vR 74), (4, vR 75), (5, vI i)] [vI k] g1 d1 Q
  refine mw_top (fun hT1 => ?_)
  have hG1 : 76 ≤ g1.2.1 := hT1.2
  refine mw_istore (pc' := 1382) (L' := [(0, (5, 0)), (1, vR 0), (2, vR 65), (3, vR 74), (4, vR 75), (5, vI i), (6, vI k)]) dL_law_1380 rfl (by decide) rfl ?_
  refine mw_aload_n (v := vR 65) (pc' := 1383) dL_law_1382 rfl rfl (by simp) rfl ?_
  refine mw_aload_n (v := (5, 0)) (pc' := 1384) dL_law_1383 rfl rfl (by simp) rfl ?_
  refine mw_iload (pc' := 1386) dL_law_1384 rfl rfl ?_
  refine mw_iconst (pc' := 1387) dL_law_1386 rfl ⟨by decide, by decide⟩ ?_
  refine mw_iadd (pc' := 1388) dL_law_1387 rfl (ik (by omega)) ?_
  refine mw_xld (pc' := 1389) dL_law_1388 rfl (by rw [hs1]; exact ⟨by omega, by omega⟩) ?_
  rw [hs1]
  refine mw_i2c (pc' := 1390) dL_law_1389 rfl ?_
  refine mw_callV (M' := mX12_serviceDays) (A := [vI ((d SCR (i + 1)) % 65536)]) (A' := [vR 65, vI ((d SCR (i + 1)) % 65536)]) (S := []) (a := 65) (pc' := 1393) dL_law_1390 rfl (Or.inl (goodW 1826 (by decide +kernel) rfl)) kM_X12_serviceDays kV_X12_serviceDays ⟨by decide, by decide, Nat.zero_le _, Nat.zero_le _, by decide⟩ rfl rfl rfl ⟨by decide, by omega⟩ (by decide +kernel) (by decide +kernel) (Nat.le_of_ble_eq_true rfl) (h1 _ (fun b d2 hI2 hs2 h5 hb0 => ?_))
  show MW mL_law (bc - 1) (bs - 6) 1393 [(0, (5, 0)), (1, vR 0), (2, vR 65), (3, vR 74), (4, vR 75), (5, vI i), (6, vI k)] [vI b] g1 d2 Q
  refine mw_istore (pc' := 1395) (L' := [(0, (5, 0)), (1, vR 0), (2, vR 65), (3, vR 74), (4, vR 75), (5, vI i), (6, vI k), (7, vI b)]) dL_law_1393 rfl (by decide) rfl ?_
  refine mw_aload_n (v := vR 65) (pc' := 1396) dL_law_1395 rfl rfl (by simp) rfl ?_
  refine mw_callV (M' := mX12_thrown) (A := []) (A' := [vR 65]) (S := []) (a := 65) (pc' := 1399) dL_law_1396 rfl (Or.inl (goodW 1679 (by decide +kernel) rfl)) kM_X12_thrown kV_X12_thrown ⟨by decide, by decide, Nat.zero_le _, Nat.zero_le _, by decide⟩ rfl rfl rfl ⟨by decide, by omega⟩ (by decide +kernel) (by decide +kernel) (Nat.le_of_ble_eq_true rfl) (eX12_thrown ?_)
  show MW mL_law (bc - 1) (bs - 6) 1399 [(0, (5, 0)), (1, vR 0), (2, vR 65), (3, vR 74), (4, vR 75), (5, vI i), (6, vI k), (7, vI b)] [vI (d2 65 5)] g1 d2 Q
  rw [h5]
  refine mw_iload (pc' := 1401) dL_law_1399 rfl rfl ?_
  refine mw_icmp_eq (tgt := 1406) (pc' := 1404) dL_law_1401 rfl (by decide) (fun _ => ?_) (fun c => absurd rfl c)
  refine mw_iload (pc' := 1408) dL_law_1406 rfl rfl ?_
  refine mw_if_ne (tgt := 1423) (pc' := 1411) dL_law_1408 rfl (by decide) (fun c => ?_) (fun c => ?_)
  · refine mw_goto (pc' := 0) (tgt := 3808) dL_law_1423 (by decide) ?_
    exact mw_loc (pc' := 0) [0, 1, 2, 3, 4, 5] rfl (mw_less ⟨by omega, by omega⟩ (h g1 d2 hI2 hs2))
  · have hb1 := hb0 c
    refine mw_aload_n (v := vR 74) (pc' := 1412) dL_law_1411 rfl rfl (by simp) rfl ?_
    refine mw_iconst (pc' := 1413) dL_law_1412 rfl ⟨by decide, by decide⟩ ?_
    refine mw_lald (pc' := 1414) dL_law_1413 rfl (by decide +kernel) ⟨by decide, by decide⟩ (by rw [show LN 74 = 1 by decide +kernel]; exact ⟨by decide, by decide⟩) ?_
    refine mw_iload (pc' := 1416) dL_law_1414 rfl rfl ?_
    refine mw_i2l (pc' := 1417) dL_law_1416 rfl ?_
    refine mw_lcmp (pc' := 1418) dL_law_1417 rfl ?_
    refine mw_if_eq (tgt := 1423) (pc' := 1421) dL_law_1418 rfl (by decide) (fun _ => ?_) (fun c3 => absurd (by rw [hb1]; exact lCmp_rf) c3)
    refine mw_goto (pc' := 0) (tgt := 3808) dL_law_1423 (by decide) ?_
    exact mw_loc (pc' := 0) [0, 1, 2, 3, 4, 5] rfl (mw_less ⟨by omega, by omega⟩ (h g1 d2 hI2 hs2))
theorem lc_20 {i : Int} {bc bs : Nat} {g : mG} {d : mD} {Q : mQ} (hI : INV g d) (hi : 0 ≤ i ∧ i + 3 < d SCR (-1)) (hN : d SCR (-1) ≤ 2048) (hb : 47 ≤ bc ∧ 8228 ≤ bs) (h : ∀ g' d', INV g' d' → d' SCR = d SCR → MW mL_law (bc - 47) (bs - 8228) 3808 [(0, (5, 0)), (1, vR 0), (2, vR 65), (3, vR 74), (4, vR 75), (5, vI i)] [] g' d' Q) : MW mL_law bc bs 1426 [(0, (5, 0)), (1, vR 0), (2, vR 65), (3, vR 74), (4, vR 75), (5, vI i)] [] g d Q := by
  refine mw_top (fun hT => ?_)
  have hG : 76 ≤ g.2.1 := hT.2
  refine mw_aload_n (v := vR 0) (pc' := 1427) dL_law_1426 rfl rfl (by simp) rfl ?_
  refine mw_aload_n (v := (5, 0)) (pc' := 1428) dL_law_1427 rfl rfl (by simp) rfl ?_
  refine mw_iload (pc' := 1430) dL_law_1428 rfl rfl ?_
  refine mw_iconst (pc' := 1431) dL_law_1430 rfl ⟨by decide, by decide⟩ ?_
  refine mw_iadd (pc' := 1432) dL_law_1431 rfl (ik (by omega)) ?_
  refine mw_xld (pc' := 1433) dL_law_1432 rfl ⟨by omega, by omega⟩ ?_
  refine mw_aload_n (v := (5, 0)) (pc' := 1434) dL_law_1433 rfl rfl (by simp) rfl ?_
  refine mw_iload (pc' := 1436) dL_law_1434 rfl rfl ?_
  refine mw_iconst (pc' := 1437) dL_law_1436 rfl ⟨by decide, by decide⟩ ?_
  refine mw_iadd (pc' := 1438) dL_law_1437 rfl (ik (by omega)) ?_
  refine mw_xld (pc' := 1439) dL_law_1438 rfl ⟨by omega, by omega⟩ ?_
  refine mw_aload_n (v := vR 74) (pc' := 1440) dL_law_1439 rfl rfl (by simp) rfl ?_
  refine mw_callSX (M' := mL_lastDayBefore) (A := [vR 0, vI (d SCR (i + 1)), vI (d SCR (i + 2)), vR 74]) (S := []) (pc' := 1443) dL_law_1440 rfl (goodW 1035 (by decide +kernel) rfl) kM_L_lastDayBefore kS_L_lastDayBefore ⟨by decide, by decide, Nat.le_trans (by decide) hb.1, Nat.le_trans (by decide) hb.2, by decide⟩ rfl rfl (Nat.le_of_ble_eq_true rfl) (MM.mono ?_ (MM.scr (o_lastDayBefore g d hI)))
  intro o g1 d1 hh
  obtain ⟨⟨k, ho, h1⟩, hs1⟩ := hh
  subst ho
  show MW mL_law (bc - 3) (bs - 18) 1443 [(0, (5, 0)), (1, vR 0), (2, vR 65), (3, vR 74), (4, vR 75), (5, vI i)] [vI k] g1 d1 Q
  refine mw_top (fun hT1 => ?_)
  have hG1 : 76 ≤ g1.2.1 := hT1.2
  refine mw_istore (pc' := 1445) (L' := [(0, (5, 0)), (1, vR 0), (2, vR 65), (3, vR 74), (4, vR 75), (5, vI i), (6, vI k)]) dL_law_1443 rfl (by decide) rfl ?_
  refine mw_aload_n (v := vR 65) (pc' := 1446) dL_law_1445 rfl rfl (by simp) rfl ?_
  refine mw_aload_n (v := (5, 0)) (pc' := 1447) dL_law_1446 rfl rfl (by simp) rfl ?_
  refine mw_iload (pc' := 1449) dL_law_1447 rfl rfl ?_
  refine mw_iconst (pc' := 1450) dL_law_1449 rfl ⟨by decide, by decide⟩ ?_
  refine mw_iadd (pc' := 1451) dL_law_1450 rfl (ik (by omega)) ?_
  refine mw_xld (pc' := 1452) dL_law_1451 rfl (by rw [hs1]; exact ⟨by omega, by omega⟩) ?_
  rw [hs1]
  refine mw_aload_n (v := (5, 0)) (pc' := 1453) dL_law_1452 rfl rfl (by simp) rfl ?_
  refine mw_iload (pc' := 1455) dL_law_1453 rfl rfl ?_
  refine mw_iconst (pc' := 1456) dL_law_1455 rfl ⟨by decide, by decide⟩ ?_
  refine mw_iadd (pc' := 1457) dL_law_1456 rfl (ik (by omega)) ?_
  refine mw_xld (pc' := 1458) dL_law_1457 rfl (by rw [hs1]; exact ⟨by omega, by omega⟩) ?_
  rw [hs1]
  refine mw_callV (M' := mX12_lastDayBefore) (A := [vI (d SCR (i + 1)), vI (d SCR (i + 2))]) (A' := [vR 65, vI (d SCR (i + 1)), vI (d SCR (i + 2))]) (S := []) (a := 65) (pc' := 1461) dL_law_1458 rfl (Or.inl (goodW 1830 (by decide +kernel) rfl)) kM_X12_lastDayBefore kV_X12_lastDayBefore ⟨by decide, by decide, Nat.zero_le _, Nat.zero_le _, by decide⟩ rfl rfl rfl ⟨by decide, by omega⟩ (by decide +kernel) (by decide +kernel) (Nat.le_of_ble_eq_true rfl) (h1 _ (fun b d2 hI2 hs2 h5 hb0 => ?_))
  show MW mL_law (bc - 3) (bs - 18) 1461 [(0, (5, 0)), (1, vR 0), (2, vR 65), (3, vR 74), (4, vR 75), (5, vI i), (6, vI k)] [vI b] g1 d2 Q
  refine mw_istore (pc' := 1463) (L' := [(0, (5, 0)), (1, vR 0), (2, vR 65), (3, vR 74), (4, vR 75), (5, vI i), (6, vI k), (7, vI b)]) dL_law_1461 rfl (by decide) rfl ?_
  refine mw_aload_n (v := vR 65) (pc' := 1464) dL_law_1463 rfl rfl (by simp) rfl ?_
  refine mw_callV (M' := mX12_thrown) (A := []) (A' := [vR 65]) (S := []) (a := 65) (pc' := 1467) dL_law_1464 rfl (Or.inl (goodW 1679 (by decide +kernel) rfl)) kM_X12_thrown kV_X12_thrown ⟨by decide, by decide, Nat.zero_le _, Nat.zero_le _, by decide⟩ rfl rfl rfl ⟨by decide, by omega⟩ (by decide +kernel) (by decide +kernel) (Nat.le_of_ble_eq_true rfl) (eX12_thrown ?_)
  show MW mL_law (bc - 3) (bs - 18) 1467 [(0, (5, 0)), (1, vR 0), (2, vR 65), (3, vR 74), (4, vR 75), (5, vI i), (6, vI k), (7, vI b)] [vI (d2 65 5)] g1 d2 Q
  rw [h5]
  refine mw_iload (pc' := 1469) dL_law_1467 rfl rfl ?_
  refine mw_icmp_eq (tgt := 1474) (pc' := 1472) dL_law_1469 rfl (by decide) (fun _ => ?_) (fun c => absurd rfl c)
  refine mw_iload (pc' := 1476) dL_law_1474 rfl rfl ?_
  refine mw_if_ne (tgt := 1491) (pc' := 1479) dL_law_1476 rfl (by decide) (fun c => ?_) (fun c => ?_)
  · refine mw_goto (pc' := 0) (tgt := 3808) dL_law_1491 (by decide) ?_
    exact mw_loc (pc' := 0) [0, 1, 2, 3, 4, 5] rfl (mw_less ⟨by omega, by omega⟩ (h g1 d2 hI2 hs2))
  · have hb1 := hb0 c
    refine mw_aload_n (v := vR 74) (pc' := 1480) dL_law_1479 rfl rfl (by simp) rfl ?_
    refine mw_iconst (pc' := 1481) dL_law_1480 rfl ⟨by decide, by decide⟩ ?_
    refine mw_lald (pc' := 1482) dL_law_1481 rfl (by decide +kernel) ⟨by decide, by decide⟩ (by rw [show LN 74 = 1 by decide +kernel]; exact ⟨by decide, by decide⟩) ?_
    refine mw_iload (pc' := 1484) dL_law_1482 rfl rfl ?_
    refine mw_i2l (pc' := 1485) dL_law_1484 rfl ?_
    refine mw_lcmp (pc' := 1486) dL_law_1485 rfl ?_
    refine mw_if_eq (tgt := 1491) (pc' := 1489) dL_law_1486 rfl (by decide) (fun _ => ?_) (fun c3 => absurd (by rw [hb1]; exact lCmp_rf) c3)
    refine mw_goto (pc' := 0) (tgt := 3808) dL_law_1491 (by decide) ?_
    exact mw_loc (pc' := 0) [0, 1, 2, 3, 4, 5] rfl (mw_less ⟨by omega, by omega⟩ (h g1 d2 hI2 hs2))
theorem lc_21 {i : Int} {bc bs : Nat} {g : mG} {d : mD} {Q : mQ} (hI : INV g d) (hi : 0 ≤ i ∧ i + 3 < d SCR (-1)) (hN : d SCR (-1) ≤ 2048) (hb : 47 ≤ bc ∧ 8228 ≤ bs) (h : ∀ g' d', INV g' d' → d' SCR = d SCR → MW mL_law (bc - 47) (bs - 8228) 3808 [(0, (5, 0)), (1, vR 0), (2, vR 65), (3, vR 74), (4, vR 75), (5, vI i)] [] g' d' Q) : MW mL_law bc bs 1494 [(0, (5, 0)), (1, vR 0), (2, vR 65), (3, vR 74), (4, vR 75), (5, vI i)] [] g d Q := by
  refine mw_top (fun hT => ?_)
  have hG : 76 ≤ g.2.1 := hT.2
  refine mw_aload_n (v := vR 0) (pc' := 1495) dL_law_1494 rfl rfl (by simp) rfl ?_
  refine mw_aload_n (v := (5, 0)) (pc' := 1496) dL_law_1495 rfl rfl (by simp) rfl ?_
  refine mw_iload (pc' := 1498) dL_law_1496 rfl rfl ?_
  refine mw_iconst (pc' := 1499) dL_law_1498 rfl ⟨by decide, by decide⟩ ?_
  refine mw_iadd (pc' := 1500) dL_law_1499 rfl (ik (by omega)) ?_
  refine mw_xld (pc' := 1501) dL_law_1500 rfl ⟨by omega, by omega⟩ ?_
  refine mw_aload_n (v := (5, 0)) (pc' := 1502) dL_law_1501 rfl rfl (by simp) rfl ?_
  refine mw_iload (pc' := 1504) dL_law_1502 rfl rfl ?_
  refine mw_iconst (pc' := 1505) dL_law_1504 rfl ⟨by decide, by decide⟩ ?_
  refine mw_iadd (pc' := 1506) dL_law_1505 rfl (ik (by omega)) ?_
  refine mw_xld (pc' := 1507) dL_law_1506 rfl ⟨by omega, by omega⟩ ?_
  refine mw_aload_n (v := vR 74) (pc' := 1508) dL_law_1507 rfl rfl (by simp) rfl ?_
  refine mw_callSX (M' := mL_lastDayBeforeByMarking) (A := [vR 0, vI (d SCR (i + 1)), vI (d SCR (i + 2)), vR 74]) (S := []) (pc' := 1511) dL_law_1508 rfl (goodW 1054 (by decide +kernel) rfl) kM_L_lastDayBeforeByMarking kS_L_lastDayBeforeByMarking ⟨by decide, by decide, Nat.le_trans (by decide) hb.1, Nat.le_trans (by decide) hb.2, by decide⟩ rfl rfl (Nat.le_of_ble_eq_true rfl) (MM.mono ?_ (MM.scr (o_lastDayBeforeByMarking g d hI)))
  intro o g1 d1 hh
  obtain ⟨⟨k, ho, h1⟩, hs1⟩ := hh
  subst ho
  show MW mL_law (bc - 3) (bs - 18) 1511 [(0, (5, 0)), (1, vR 0), (2, vR 65), (3, vR 74), (4, vR 75), (5, vI i)] [vI k] g1 d1 Q
  refine mw_top (fun hT1 => ?_)
  have hG1 : 76 ≤ g1.2.1 := hT1.2
  refine mw_istore (pc' := 1513) (L' := [(0, (5, 0)), (1, vR 0), (2, vR 65), (3, vR 74), (4, vR 75), (5, vI i), (6, vI k)]) dL_law_1511 rfl (by decide) rfl ?_
  refine mw_aload_n (v := vR 65) (pc' := 1514) dL_law_1513 rfl rfl (by simp) rfl ?_
  refine mw_aload_n (v := (5, 0)) (pc' := 1515) dL_law_1514 rfl rfl (by simp) rfl ?_
  refine mw_iload (pc' := 1517) dL_law_1515 rfl rfl ?_
  refine mw_iconst (pc' := 1518) dL_law_1517 rfl ⟨by decide, by decide⟩ ?_
  refine mw_iadd (pc' := 1519) dL_law_1518 rfl (ik (by omega)) ?_
  refine mw_xld (pc' := 1520) dL_law_1519 rfl (by rw [hs1]; exact ⟨by omega, by omega⟩) ?_
  rw [hs1]
  refine mw_aload_n (v := (5, 0)) (pc' := 1521) dL_law_1520 rfl rfl (by simp) rfl ?_
  refine mw_iload (pc' := 1523) dL_law_1521 rfl rfl ?_
  refine mw_iconst (pc' := 1524) dL_law_1523 rfl ⟨by decide, by decide⟩ ?_
  refine mw_iadd (pc' := 1525) dL_law_1524 rfl (ik (by omega)) ?_
  refine mw_xld (pc' := 1526) dL_law_1525 rfl (by rw [hs1]; exact ⟨by omega, by omega⟩) ?_
  rw [hs1]
  refine mw_callV (M' := mX12_lastDayBeforeByMarking) (A := [vI (d SCR (i + 1)), vI (d SCR (i + 2))]) (A' := [vR 65, vI (d SCR (i + 1)), vI (d SCR (i + 2))]) (S := []) (a := 65) (pc' := 1529) dL_law_1526 rfl (Or.inl (goodW 1834 (by decide +kernel) rfl)) kM_X12_lastDayBeforeByMarking kV_X12_lastDayBeforeByMarking ⟨by decide, by decide, Nat.zero_le _, Nat.zero_le _, by decide⟩ rfl rfl rfl ⟨by decide, by omega⟩ (by decide +kernel) (by decide +kernel) (Nat.le_of_ble_eq_true rfl) (h1 _ (fun b d2 hI2 hs2 h5 hb0 => ?_))
  show MW mL_law (bc - 3) (bs - 18) 1529 [(0, (5, 0)), (1, vR 0), (2, vR 65), (3, vR 74), (4, vR 75), (5, vI i), (6, vI k)] [vI b] g1 d2 Q
  refine mw_istore (pc' := 1531) (L' := [(0, (5, 0)), (1, vR 0), (2, vR 65), (3, vR 74), (4, vR 75), (5, vI i), (6, vI k), (7, vI b)]) dL_law_1529 rfl (by decide) rfl ?_
  refine mw_aload_n (v := vR 65) (pc' := 1532) dL_law_1531 rfl rfl (by simp) rfl ?_
  refine mw_callV (M' := mX12_thrown) (A := []) (A' := [vR 65]) (S := []) (a := 65) (pc' := 1535) dL_law_1532 rfl (Or.inl (goodW 1679 (by decide +kernel) rfl)) kM_X12_thrown kV_X12_thrown ⟨by decide, by decide, Nat.zero_le _, Nat.zero_le _, by decide⟩ rfl rfl rfl ⟨by decide, by omega⟩ (by decide +kernel) (by decide +kernel) (Nat.le_of_ble_eq_true rfl) (eX12_thrown ?_)
  show MW mL_law (bc - 3) (bs - 18) 1535 [(0, (5, 0)), (1, vR 0), (2, vR 65), (3, vR 74), (4, vR 75), (5, vI i), (6, vI k), (7, vI b)] [vI (d2 65 5)] g1 d2 Q
  rw [h5]
  refine mw_iload (pc' := 1537) dL_law_1535 rfl rfl ?_
  refine mw_icmp_eq (tgt := 1542) (pc' := 1540) dL_law_1537 rfl (by decide) (fun _ => ?_) (fun c => absurd rfl c)
  refine mw_iload (pc' := 1544) dL_law_1542 rfl rfl ?_
  refine mw_if_ne (tgt := 1559) (pc' := 1547) dL_law_1544 rfl (by decide) (fun c => ?_) (fun c => ?_)
  · refine mw_goto (pc' := 0) (tgt := 3808) dL_law_1559 (by decide) ?_
    exact mw_loc (pc' := 0) [0, 1, 2, 3, 4, 5] rfl (mw_less ⟨by omega, by omega⟩ (h g1 d2 hI2 hs2))
  · have hb1 := hb0 c
    refine mw_aload_n (v := vR 74) (pc' := 1548) dL_law_1547 rfl rfl (by simp) rfl ?_
    refine mw_iconst (pc' := 1549) dL_law_1548 rfl ⟨by decide, by decide⟩ ?_
    refine mw_lald (pc' := 1550) dL_law_1549 rfl (by decide +kernel) ⟨by decide, by decide⟩ (by rw [show LN 74 = 1 by decide +kernel]; exact ⟨by decide, by decide⟩) ?_
    refine mw_iload (pc' := 1552) dL_law_1550 rfl rfl ?_
    refine mw_i2l (pc' := 1553) dL_law_1552 rfl ?_
    refine mw_lcmp (pc' := 1554) dL_law_1553 rfl ?_
    refine mw_if_eq (tgt := 1559) (pc' := 1557) dL_law_1554 rfl (by decide) (fun _ => ?_) (fun c3 => absurd (by rw [hb1]; exact lCmp_rf) c3)
    refine mw_goto (pc' := 0) (tgt := 3808) dL_law_1559 (by decide) ?_
    exact mw_loc (pc' := 0) [0, 1, 2, 3, 4, 5] rfl (mw_less ⟨by omega, by omega⟩ (h g1 d2 hI2 hs2))
theorem lc_22 {i : Int} {bc bs : Nat} {g : mG} {d : mD} {Q : mQ} (hI : INV g d) (hi : 0 ≤ i ∧ i + 3 < d SCR (-1)) (hN : d SCR (-1) ≤ 2048) (hb : 47 ≤ bc ∧ 8228 ≤ bs) (h : ∀ g' d', INV g' d' → d' SCR = d SCR → MW mL_law (bc - 47) (bs - 8228) 3808 [(0, (5, 0)), (1, vR 0), (2, vR 65), (3, vR 74), (4, vR 75), (5, vI i)] [] g' d' Q) : MW mL_law bc bs 1562 [(0, (5, 0)), (1, vR 0), (2, vR 65), (3, vR 74), (4, vR 75), (5, vI i)] [] g d Q := by
  refine mw_top (fun hT => ?_)
  have hG : 76 ≤ g.2.1 := hT.2
  refine mw_aload_n (v := vR 0) (pc' := 1563) dL_law_1562 rfl rfl (by simp) rfl ?_
  refine mw_aload_n (v := (5, 0)) (pc' := 1564) dL_law_1563 rfl rfl (by simp) rfl ?_
  refine mw_iload (pc' := 1566) dL_law_1564 rfl rfl ?_
  refine mw_iconst (pc' := 1567) dL_law_1566 rfl ⟨by decide, by decide⟩ ?_
  refine mw_iadd (pc' := 1568) dL_law_1567 rfl (ik (by omega)) ?_
  refine mw_xld (pc' := 1569) dL_law_1568 rfl ⟨by omega, by omega⟩ ?_
  refine mw_aload_n (v := (5, 0)) (pc' := 1570) dL_law_1569 rfl rfl (by simp) rfl ?_
  refine mw_iload (pc' := 1572) dL_law_1570 rfl rfl ?_
  refine mw_iconst (pc' := 1573) dL_law_1572 rfl ⟨by decide, by decide⟩ ?_
  refine mw_iadd (pc' := 1574) dL_law_1573 rfl (ik (by omega)) ?_
  refine mw_xld (pc' := 1575) dL_law_1574 rfl ⟨by omega, by omega⟩ ?_
  refine mw_aload_n (v := (5, 0)) (pc' := 1576) dL_law_1575 rfl rfl (by simp) rfl ?_
  refine mw_iload (pc' := 1578) dL_law_1576 rfl rfl ?_
  refine mw_iconst (pc' := 1579) dL_law_1578 rfl ⟨by decide, by decide⟩ ?_
  refine mw_iadd (pc' := 1580) dL_law_1579 rfl (ik (by omega)) ?_
  refine mw_xld (pc' := 1581) dL_law_1580 rfl ⟨by omega, by omega⟩ ?_
  refine mw_i2c (pc' := 1582) dL_law_1581 rfl ?_
  refine mw_aload_n (v := vR 74) (pc' := 1583) dL_law_1582 rfl rfl (by simp) rfl ?_
  refine mw_callSX (M' := mL_serve) (A := [vR 0, vI (d SCR (i + 1)), vI (d SCR (i + 2)), vI ((d SCR (i + 3)) % 65536), vR 74]) (S := []) (pc' := 1586) dL_law_1583 rfl (goodW 1065 (by decide +kernel) rfl) kM_L_serve kS_L_serve ⟨by decide, by decide, Nat.le_trans (by decide) hb.1, Nat.le_trans (by decide) hb.2, by decide⟩ rfl rfl (Nat.le_of_ble_eq_true rfl) (MM.mono ?_ (MM.scr (o_serve g d hI)))
  intro o g1 d1 hh
  obtain ⟨⟨k, ho, h1⟩, hs1⟩ := hh
  subst ho
  show MW mL_law (bc - 47) (bs - 8228) 1586 [(0, (5, 0)), (1, vR 0), (2, vR 65), (3, vR 74), (4, vR 75), (5, vI i)] [vI k] g1 d1 Q
  refine mw_top (fun hT1 => ?_)
  have hG1 : 76 ≤ g1.2.1 := hT1.2
  refine mw_istore (pc' := 1588) (L' := [(0, (5, 0)), (1, vR 0), (2, vR 65), (3, vR 74), (4, vR 75), (5, vI i), (6, vI k)]) dL_law_1586 rfl (by decide) rfl ?_
  refine mw_aload_n (v := vR 65) (pc' := 1589) dL_law_1588 rfl rfl (by simp) rfl ?_
  refine mw_aload_n (v := (5, 0)) (pc' := 1590) dL_law_1589 rfl rfl (by simp) rfl ?_
  refine mw_iload (pc' := 1592) dL_law_1590 rfl rfl ?_
  refine mw_iconst (pc' := 1593) dL_law_1592 rfl ⟨by decide, by decide⟩ ?_
  refine mw_iadd (pc' := 1594) dL_law_1593 rfl (ik (by omega)) ?_
  refine mw_xld (pc' := 1595) dL_law_1594 rfl (by rw [hs1]; exact ⟨by omega, by omega⟩) ?_
  rw [hs1]
  refine mw_aload_n (v := (5, 0)) (pc' := 1596) dL_law_1595 rfl rfl (by simp) rfl ?_
  refine mw_iload (pc' := 1598) dL_law_1596 rfl rfl ?_
  refine mw_iconst (pc' := 1599) dL_law_1598 rfl ⟨by decide, by decide⟩ ?_
  refine mw_iadd (pc' := 1600) dL_law_1599 rfl (ik (by omega)) ?_
  refine mw_xld (pc' := 1601) dL_law_1600 rfl (by rw [hs1]; exact ⟨by omega, by omega⟩) ?_
  rw [hs1]
  refine mw_aload_n (v := (5, 0)) (pc' := 1602) dL_law_1601 rfl rfl (by simp) rfl ?_
  refine mw_iload (pc' := 1604) dL_law_1602 rfl rfl ?_
  refine mw_iconst (pc' := 1605) dL_law_1604 rfl ⟨by decide, by decide⟩ ?_
  refine mw_iadd (pc' := 1606) dL_law_1605 rfl (ik (by omega)) ?_
  refine mw_xld (pc' := 1607) dL_law_1606 rfl (by rw [hs1]; exact ⟨by omega, by omega⟩) ?_
  rw [hs1]
  refine mw_i2c (pc' := 1608) dL_law_1607 rfl ?_
  refine mw_callV (M' := mX12_serve) (A := [vI (d SCR (i + 1)), vI (d SCR (i + 2)), vI ((d SCR (i + 3)) % 65536)]) (A' := [vR 65, vI (d SCR (i + 1)), vI (d SCR (i + 2)), vI ((d SCR (i + 3)) % 65536)]) (S := []) (a := 65) (pc' := 1611) dL_law_1608 rfl (Or.inl (goodW 1839 (by decide +kernel) rfl)) kM_X12_serve kV_X12_serve ⟨by decide, by decide, Nat.zero_le _, Nat.zero_le _, by decide⟩ rfl rfl rfl ⟨by decide, by omega⟩ (by decide +kernel) (by decide +kernel) (Nat.le_of_ble_eq_true rfl) (h1 _ (fun b d2 hI2 hs2 h5 hb0 => ?_))
  show MW mL_law (bc - 47) (bs - 8228) 1611 [(0, (5, 0)), (1, vR 0), (2, vR 65), (3, vR 74), (4, vR 75), (5, vI i), (6, vI k)] [vI b] g1 d2 Q
  refine mw_istore (pc' := 1613) (L' := [(0, (5, 0)), (1, vR 0), (2, vR 65), (3, vR 74), (4, vR 75), (5, vI i), (6, vI k), (7, vI b)]) dL_law_1611 rfl (by decide) rfl ?_
  refine mw_aload_n (v := vR 65) (pc' := 1614) dL_law_1613 rfl rfl (by simp) rfl ?_
  refine mw_callV (M' := mX12_thrown) (A := []) (A' := [vR 65]) (S := []) (a := 65) (pc' := 1617) dL_law_1614 rfl (Or.inl (goodW 1679 (by decide +kernel) rfl)) kM_X12_thrown kV_X12_thrown ⟨by decide, by decide, Nat.zero_le _, Nat.zero_le _, by decide⟩ rfl rfl rfl ⟨by decide, by omega⟩ (by decide +kernel) (by decide +kernel) (Nat.le_of_ble_eq_true rfl) (eX12_thrown ?_)
  show MW mL_law (bc - 47) (bs - 8228) 1617 [(0, (5, 0)), (1, vR 0), (2, vR 65), (3, vR 74), (4, vR 75), (5, vI i), (6, vI k), (7, vI b)] [vI (d2 65 5)] g1 d2 Q
  rw [h5]
  refine mw_iload (pc' := 1619) dL_law_1617 rfl rfl ?_
  refine mw_icmp_eq (tgt := 1624) (pc' := 1622) dL_law_1619 rfl (by decide) (fun _ => ?_) (fun c => absurd rfl c)
  refine mw_iload (pc' := 1626) dL_law_1624 rfl rfl ?_
  refine mw_if_ne (tgt := 1641) (pc' := 1629) dL_law_1626 rfl (by decide) (fun c => ?_) (fun c => ?_)
  · refine mw_goto (pc' := 0) (tgt := 3808) dL_law_1641 (by decide) ?_
    exact mw_loc (pc' := 0) [0, 1, 2, 3, 4, 5] rfl (mw_less ⟨by omega, by omega⟩ (h g1 d2 hI2 hs2))
  · have hb1 := hb0 c
    refine mw_aload_n (v := vR 74) (pc' := 1630) dL_law_1629 rfl rfl (by simp) rfl ?_
    refine mw_iconst (pc' := 1631) dL_law_1630 rfl ⟨by decide, by decide⟩ ?_
    refine mw_lald (pc' := 1632) dL_law_1631 rfl (by decide +kernel) ⟨by decide, by decide⟩ (by rw [show LN 74 = 1 by decide +kernel]; exact ⟨by decide, by decide⟩) ?_
    refine mw_iload (pc' := 1634) dL_law_1632 rfl rfl ?_
    refine mw_i2l (pc' := 1635) dL_law_1634 rfl ?_
    refine mw_lcmp (pc' := 1636) dL_law_1635 rfl ?_
    refine mw_if_eq (tgt := 1641) (pc' := 1639) dL_law_1636 rfl (by decide) (fun _ => ?_) (fun c3 => absurd (by rw [hb1]; exact lCmp_rf) c3)
    refine mw_goto (pc' := 0) (tgt := 3808) dL_law_1641 (by decide) ?_
    exact mw_loc (pc' := 0) [0, 1, 2, 3, 4, 5] rfl (mw_less ⟨by omega, by omega⟩ (h g1 d2 hI2 hs2))
theorem lc_23 {i : Int} {bc bs : Nat} {g : mG} {d : mD} {Q : mQ} (hI : INV g d) (hi : 0 ≤ i ∧ i + 3 < d SCR (-1)) (hN : d SCR (-1) ≤ 2048) (hb : 47 ≤ bc ∧ 8228 ≤ bs) (h : ∀ g' d', INV g' d' → d' SCR = d SCR → MW mL_law (bc - 47) (bs - 8228) 3808 [(0, (5, 0)), (1, vR 0), (2, vR 65), (3, vR 74), (4, vR 75), (5, vI i)] [] g' d' Q) : MW mL_law bc bs 1644 [(0, (5, 0)), (1, vR 0), (2, vR 65), (3, vR 74), (4, vR 75), (5, vI i)] [] g d Q := by
  refine mw_top (fun hT => ?_)
  have hG : 76 ≤ g.2.1 := hT.2
  refine mw_aload_n (v := vR 0) (pc' := 1645) dL_law_1644 rfl rfl (by simp) rfl ?_
  refine mw_callV (M' := mX11_deadlines) (A := []) (A' := [vR 0]) (S := []) (a := 0) (pc' := 1648) dL_law_1645 rfl (Or.inl (goodW 401 (by decide +kernel) rfl)) kM_X11_deadlines kV_X11_deadlines ⟨by decide, by decide, Nat.zero_le _, Nat.zero_le _, by decide⟩ rfl rfl rfl ⟨by decide, by omega⟩ (by decide +kernel) (by decide +kernel) (Nat.le_of_ble_eq_true rfl) (MM.mono ?_ (o_deadlines g d hI))
  intro o g1 d1 hh
  obtain ⟨k, ho, h1⟩ := hh
  subst ho
  show MW mL_law bc bs 1648 [(0, (5, 0)), (1, vR 0), (2, vR 65), (3, vR 74), (4, vR 75), (5, vI i)] [vI k] g1 d1 Q
  refine mw_top (fun hT1 => ?_)
  have hG1 : 76 ≤ g1.2.1 := hT1.2
  refine mw_aload_n (v := vR 65) (pc' := 1649) dL_law_1648 rfl rfl (by simp) rfl ?_
  refine mw_callV (M' := mX12_deadlines) (A := []) (A' := [vR 65]) (S := [vI k]) (a := 65) (pc' := 1652) dL_law_1649 rfl (Or.inl (goodW 1846 (by decide +kernel) rfl)) kM_X12_deadlines kV_X12_deadlines ⟨by decide, by decide, Nat.zero_le _, Nat.zero_le _, by decide⟩ rfl rfl rfl ⟨by decide, by omega⟩ (by decide +kernel) (by decide +kernel) (Nat.le_of_ble_eq_true rfl) (h1 _ (fun b d2 hI2 hs2 hb0 => ?_))
  show MW mL_law bc bs 1652 [(0, (5, 0)), (1, vR 0), (2, vR 65), (3, vR 74), (4, vR 75), (5, vI i)] [vI b, vI k] g1 d2 Q
  refine mw_icmp_eq (tgt := 3808) (pc' := 1655) dL_law_1652 rfl (by decide) (fun _ => ?_) (fun c => absurd hb0.symm c)
  exact mw_less ⟨by omega, by omega⟩ (h g1 d2 hI2 hs2)
theorem lc_24 {i : Int} {bc bs : Nat} {g : mG} {d : mD} {Q : mQ} (hI : INV g d) (hi : 0 ≤ i ∧ i + 3 < d SCR (-1)) (hN : d SCR (-1) ≤ 2048) (hb : 47 ≤ bc ∧ 8228 ≤ bs) (h : ∀ g' d', INV g' d' → d' SCR = d SCR → MW mL_law (bc - 47) (bs - 8228) 3808 [(0, (5, 0)), (1, vR 0), (2, vR 65), (3, vR 74), (4, vR 75), (5, vI i)] [] g' d' Q) : MW mL_law bc bs 1657 [(0, (5, 0)), (1, vR 0), (2, vR 65), (3, vR 74), (4, vR 75), (5, vI i)] [] g d Q := by
  refine mw_top (fun hT => ?_)
  have hG : 76 ≤ g.2.1 := hT.2
  refine mw_aload_n (v := vR 0) (pc' := 1658) dL_law_1657 rfl rfl (by simp) rfl ?_
  refine mw_aload_n (v := (5, 0)) (pc' := 1659) dL_law_1658 rfl rfl (by simp) rfl ?_
  refine mw_iload (pc' := 1661) dL_law_1659 rfl rfl ?_
  refine mw_iconst (pc' := 1662) dL_law_1661 rfl ⟨by decide, by decide⟩ ?_
  refine mw_iadd (pc' := 1663) dL_law_1662 rfl (ik (by omega)) ?_
  refine mw_xld (pc' := 1664) dL_law_1663 rfl ⟨by omega, by omega⟩ ?_
  refine mw_aload_n (v := vR 74) (pc' := 1665) dL_law_1664 rfl rfl (by simp) rfl ?_
  refine mw_callSX (M' := mL_due) (A := [vR 0, vI (d SCR (i + 1)), vR 74]) (S := []) (pc' := 1668) dL_law_1665 rfl (goodW 1085 (by decide +kernel) rfl) kM_L_due kS_L_due ⟨by decide, by decide, Nat.le_trans (by decide) hb.1, Nat.le_trans (by decide) hb.2, by decide⟩ rfl rfl (Nat.le_of_ble_eq_true rfl) (MM.mono ?_ (MM.scr (o_due g d hI)))
  intro o g1 d1 hh
  obtain ⟨⟨k, ho, h1⟩, hs1⟩ := hh
  subst ho
  show MW mL_law (bc - 2) (bs - 12) 1668 [(0, (5, 0)), (1, vR 0), (2, vR 65), (3, vR 74), (4, vR 75), (5, vI i)] [vI k] g1 d1 Q
  refine mw_top (fun hT1 => ?_)
  have hG1 : 76 ≤ g1.2.1 := hT1.2
  refine mw_istore (pc' := 1670) (L' := [(0, (5, 0)), (1, vR 0), (2, vR 65), (3, vR 74), (4, vR 75), (5, vI i), (6, vI k)]) dL_law_1668 rfl (by decide) rfl ?_
  refine mw_aload_n (v := vR 65) (pc' := 1671) dL_law_1670 rfl rfl (by simp) rfl ?_
  refine mw_aload_n (v := (5, 0)) (pc' := 1672) dL_law_1671 rfl rfl (by simp) rfl ?_
  refine mw_iload (pc' := 1674) dL_law_1672 rfl rfl ?_
  refine mw_iconst (pc' := 1675) dL_law_1674 rfl ⟨by decide, by decide⟩ ?_
  refine mw_iadd (pc' := 1676) dL_law_1675 rfl (ik (by omega)) ?_
  refine mw_xld (pc' := 1677) dL_law_1676 rfl (by rw [hs1]; exact ⟨by omega, by omega⟩) ?_
  rw [hs1]
  refine mw_callV (M' := mX12_due) (A := [vI (d SCR (i + 1))]) (A' := [vR 65, vI (d SCR (i + 1))]) (S := []) (a := 65) (pc' := 1680) dL_law_1677 rfl (Or.inl (goodW 1850 (by decide +kernel) rfl)) kM_X12_due kV_X12_due ⟨by decide, by decide, Nat.zero_le _, Nat.zero_le _, by decide⟩ rfl rfl rfl ⟨by decide, by omega⟩ (by decide +kernel) (by decide +kernel) (Nat.le_of_ble_eq_true rfl) (h1 _ (fun b d2 hI2 hs2 h5 hb0 => ?_))
  show MW mL_law (bc - 2) (bs - 12) 1680 [(0, (5, 0)), (1, vR 0), (2, vR 65), (3, vR 74), (4, vR 75), (5, vI i), (6, vI k)] [vI b] g1 d2 Q
  refine mw_istore (pc' := 1682) (L' := [(0, (5, 0)), (1, vR 0), (2, vR 65), (3, vR 74), (4, vR 75), (5, vI i), (6, vI k), (7, vI b)]) dL_law_1680 rfl (by decide) rfl ?_
  refine mw_aload_n (v := vR 65) (pc' := 1683) dL_law_1682 rfl rfl (by simp) rfl ?_
  refine mw_callV (M' := mX12_thrown) (A := []) (A' := [vR 65]) (S := []) (a := 65) (pc' := 1686) dL_law_1683 rfl (Or.inl (goodW 1679 (by decide +kernel) rfl)) kM_X12_thrown kV_X12_thrown ⟨by decide, by decide, Nat.zero_le _, Nat.zero_le _, by decide⟩ rfl rfl rfl ⟨by decide, by omega⟩ (by decide +kernel) (by decide +kernel) (Nat.le_of_ble_eq_true rfl) (eX12_thrown ?_)
  show MW mL_law (bc - 2) (bs - 12) 1686 [(0, (5, 0)), (1, vR 0), (2, vR 65), (3, vR 74), (4, vR 75), (5, vI i), (6, vI k), (7, vI b)] [vI (d2 65 5)] g1 d2 Q
  rw [h5]
  refine mw_iload (pc' := 1688) dL_law_1686 rfl rfl ?_
  refine mw_icmp_eq (tgt := 1693) (pc' := 1691) dL_law_1688 rfl (by decide) (fun _ => ?_) (fun c => absurd rfl c)
  refine mw_iload (pc' := 1695) dL_law_1693 rfl rfl ?_
  refine mw_if_ne (tgt := 1710) (pc' := 1698) dL_law_1695 rfl (by decide) (fun c => ?_) (fun c => ?_)
  · refine mw_goto (pc' := 0) (tgt := 3808) dL_law_1710 (by decide) ?_
    exact mw_loc (pc' := 0) [0, 1, 2, 3, 4, 5] rfl (mw_less ⟨by omega, by omega⟩ (h g1 d2 hI2 hs2))
  · have hb1 := hb0 c
    refine mw_aload_n (v := vR 74) (pc' := 1699) dL_law_1698 rfl rfl (by simp) rfl ?_
    refine mw_iconst (pc' := 1700) dL_law_1699 rfl ⟨by decide, by decide⟩ ?_
    refine mw_lald (pc' := 1701) dL_law_1700 rfl (by decide +kernel) ⟨by decide, by decide⟩ (by rw [show LN 74 = 1 by decide +kernel]; exact ⟨by decide, by decide⟩) ?_
    refine mw_iload (pc' := 1703) dL_law_1701 rfl rfl ?_
    refine mw_i2l (pc' := 1704) dL_law_1703 rfl ?_
    refine mw_lcmp (pc' := 1705) dL_law_1704 rfl ?_
    refine mw_if_eq (tgt := 1710) (pc' := 1708) dL_law_1705 rfl (by decide) (fun _ => ?_) (fun c3 => absurd (by rw [hb1]; exact lCmp_rf) c3)
    refine mw_goto (pc' := 0) (tgt := 3808) dL_law_1710 (by decide) ?_
    exact mw_loc (pc' := 0) [0, 1, 2, 3, 4, 5] rfl (mw_less ⟨by omega, by omega⟩ (h g1 d2 hI2 hs2))
theorem lc_25 {i : Int} {bc bs : Nat} {g : mG} {d : mD} {Q : mQ} (hI : INV g d) (hi : 0 ≤ i ∧ i + 3 < d SCR (-1)) (hN : d SCR (-1) ≤ 2048) (hb : 47 ≤ bc ∧ 8228 ≤ bs) (h : ∀ g' d', INV g' d' → d' SCR = d SCR → MW mL_law (bc - 47) (bs - 8228) 3808 [(0, (5, 0)), (1, vR 0), (2, vR 65), (3, vR 74), (4, vR 75), (5, vI i)] [] g' d' Q) : MW mL_law bc bs 1713 [(0, (5, 0)), (1, vR 0), (2, vR 65), (3, vR 74), (4, vR 75), (5, vI i)] [] g d Q := by
  refine mw_top (fun hT => ?_)
  have hG : 76 ≤ g.2.1 := hT.2
  refine mw_aload_n (v := vR 0) (pc' := 1714) dL_law_1713 rfl rfl (by simp) rfl ?_
  refine mw_aload_n (v := (5, 0)) (pc' := 1715) dL_law_1714 rfl rfl (by simp) rfl ?_
  refine mw_iload (pc' := 1717) dL_law_1715 rfl rfl ?_
  refine mw_iconst (pc' := 1718) dL_law_1717 rfl ⟨by decide, by decide⟩ ?_
  refine mw_iadd (pc' := 1719) dL_law_1718 rfl (ik (by omega)) ?_
  refine mw_xld (pc' := 1720) dL_law_1719 rfl ⟨by omega, by omega⟩ ?_
  refine mw_aload_n (v := vR 74) (pc' := 1721) dL_law_1720 rfl rfl (by simp) rfl ?_
  refine mw_callSX (M' := mL_dueByMarking) (A := [vR 0, vI (d SCR (i + 1)), vR 74]) (S := []) (pc' := 1724) dL_law_1721 rfl (goodW 1105 (by decide +kernel) rfl) kM_L_dueByMarking kS_L_dueByMarking ⟨by decide, by decide, Nat.le_trans (by decide) hb.1, Nat.le_trans (by decide) hb.2, by decide⟩ rfl rfl (Nat.le_of_ble_eq_true rfl) (MM.mono ?_ (MM.scr (o_dueByMarking g d hI)))
  intro o g1 d1 hh
  obtain ⟨⟨k, ho, h1⟩, hs1⟩ := hh
  subst ho
  show MW mL_law (bc - 2) (bs - 12) 1724 [(0, (5, 0)), (1, vR 0), (2, vR 65), (3, vR 74), (4, vR 75), (5, vI i)] [vI k] g1 d1 Q
  refine mw_top (fun hT1 => ?_)
  have hG1 : 76 ≤ g1.2.1 := hT1.2
  refine mw_istore (pc' := 1726) (L' := [(0, (5, 0)), (1, vR 0), (2, vR 65), (3, vR 74), (4, vR 75), (5, vI i), (6, vI k)]) dL_law_1724 rfl (by decide) rfl ?_
  refine mw_aload_n (v := vR 65) (pc' := 1727) dL_law_1726 rfl rfl (by simp) rfl ?_
  refine mw_aload_n (v := (5, 0)) (pc' := 1728) dL_law_1727 rfl rfl (by simp) rfl ?_
  refine mw_iload (pc' := 1730) dL_law_1728 rfl rfl ?_
  refine mw_iconst (pc' := 1731) dL_law_1730 rfl ⟨by decide, by decide⟩ ?_
  refine mw_iadd (pc' := 1732) dL_law_1731 rfl (ik (by omega)) ?_
  refine mw_xld (pc' := 1733) dL_law_1732 rfl (by rw [hs1]; exact ⟨by omega, by omega⟩) ?_
  rw [hs1]
  refine mw_callV (M' := mX12_dueByMarking) (A := [vI (d SCR (i + 1))]) (A' := [vR 65, vI (d SCR (i + 1))]) (S := []) (a := 65) (pc' := 1736) dL_law_1733 rfl (Or.inl (goodW 1882 (by decide +kernel) rfl)) kM_X12_dueByMarking kV_X12_dueByMarking ⟨by decide, by decide, Nat.zero_le _, Nat.zero_le _, by decide⟩ rfl rfl rfl ⟨by decide, by omega⟩ (by decide +kernel) (by decide +kernel) (Nat.le_of_ble_eq_true rfl) (h1 _ (fun b d2 hI2 hs2 h5 hb0 => ?_))
  show MW mL_law (bc - 2) (bs - 12) 1736 [(0, (5, 0)), (1, vR 0), (2, vR 65), (3, vR 74), (4, vR 75), (5, vI i), (6, vI k)] [vI b] g1 d2 Q
  refine mw_istore (pc' := 1738) (L' := [(0, (5, 0)), (1, vR 0), (2, vR 65), (3, vR 74), (4, vR 75), (5, vI i), (6, vI k), (7, vI b)]) dL_law_1736 rfl (by decide) rfl ?_
  refine mw_aload_n (v := vR 65) (pc' := 1739) dL_law_1738 rfl rfl (by simp) rfl ?_
  refine mw_callV (M' := mX12_thrown) (A := []) (A' := [vR 65]) (S := []) (a := 65) (pc' := 1742) dL_law_1739 rfl (Or.inl (goodW 1679 (by decide +kernel) rfl)) kM_X12_thrown kV_X12_thrown ⟨by decide, by decide, Nat.zero_le _, Nat.zero_le _, by decide⟩ rfl rfl rfl ⟨by decide, by omega⟩ (by decide +kernel) (by decide +kernel) (Nat.le_of_ble_eq_true rfl) (eX12_thrown ?_)
  show MW mL_law (bc - 2) (bs - 12) 1742 [(0, (5, 0)), (1, vR 0), (2, vR 65), (3, vR 74), (4, vR 75), (5, vI i), (6, vI k), (7, vI b)] [vI (d2 65 5)] g1 d2 Q
  rw [h5]
  refine mw_iload (pc' := 1744) dL_law_1742 rfl rfl ?_
  refine mw_icmp_eq (tgt := 1749) (pc' := 1747) dL_law_1744 rfl (by decide) (fun _ => ?_) (fun c => absurd rfl c)
  refine mw_iload (pc' := 1751) dL_law_1749 rfl rfl ?_
  refine mw_if_ne (tgt := 1766) (pc' := 1754) dL_law_1751 rfl (by decide) (fun c => ?_) (fun c => ?_)
  · refine mw_goto (pc' := 0) (tgt := 3808) dL_law_1766 (by decide) ?_
    exact mw_loc (pc' := 0) [0, 1, 2, 3, 4, 5] rfl (mw_less ⟨by omega, by omega⟩ (h g1 d2 hI2 hs2))
  · have hb1 := hb0 c
    refine mw_aload_n (v := vR 74) (pc' := 1755) dL_law_1754 rfl rfl (by simp) rfl ?_
    refine mw_iconst (pc' := 1756) dL_law_1755 rfl ⟨by decide, by decide⟩ ?_
    refine mw_lald (pc' := 1757) dL_law_1756 rfl (by decide +kernel) ⟨by decide, by decide⟩ (by rw [show LN 74 = 1 by decide +kernel]; exact ⟨by decide, by decide⟩) ?_
    refine mw_iload (pc' := 1759) dL_law_1757 rfl rfl ?_
    refine mw_i2l (pc' := 1760) dL_law_1759 rfl ?_
    refine mw_lcmp (pc' := 1761) dL_law_1760 rfl ?_
    refine mw_if_eq (tgt := 1766) (pc' := 1764) dL_law_1761 rfl (by decide) (fun _ => ?_) (fun c3 => absurd (by rw [hb1]; exact lCmp_rf) c3)
    refine mw_goto (pc' := 0) (tgt := 3808) dL_law_1766 (by decide) ?_
    exact mw_loc (pc' := 0) [0, 1, 2, 3, 4, 5] rfl (mw_less ⟨by omega, by omega⟩ (h g1 d2 hI2 hs2))
theorem lc_26 {i : Int} {bc bs : Nat} {g : mG} {d : mD} {Q : mQ} (hI : INV g d) (hi : 0 ≤ i ∧ i + 3 < d SCR (-1)) (hN : d SCR (-1) ≤ 2048) (hb : 47 ≤ bc ∧ 8228 ≤ bs) (h : ∀ g' d', INV g' d' → d' SCR = d SCR → MW mL_law (bc - 47) (bs - 8228) 3808 [(0, (5, 0)), (1, vR 0), (2, vR 65), (3, vR 74), (4, vR 75), (5, vI i)] [] g' d' Q) : MW mL_law bc bs 1769 [(0, (5, 0)), (1, vR 0), (2, vR 65), (3, vR 74), (4, vR 75), (5, vI i)] [] g d Q := by
  refine mw_top (fun hT => ?_)
  have hG : 76 ≤ g.2.1 := hT.2
  refine mw_aload_n (v := vR 0) (pc' := 1770) dL_law_1769 rfl rfl (by simp) rfl ?_
  refine mw_aload_n (v := (5, 0)) (pc' := 1771) dL_law_1770 rfl rfl (by simp) rfl ?_
  refine mw_iload (pc' := 1773) dL_law_1771 rfl rfl ?_
  refine mw_iconst (pc' := 1774) dL_law_1773 rfl ⟨by decide, by decide⟩ ?_
  refine mw_iadd (pc' := 1775) dL_law_1774 rfl (ik (by omega)) ?_
  refine mw_xld (pc' := 1776) dL_law_1775 rfl ⟨by omega, by omega⟩ ?_
  refine mw_aload_n (v := vR 74) (pc' := 1777) dL_law_1776 rfl rfl (by simp) rfl ?_
  refine mw_callSX (M' := mL_daysLeft) (A := [vR 0, vI (d SCR (i + 1)), vR 74]) (S := []) (pc' := 1780) dL_law_1777 rfl (goodW 1112 (by decide +kernel) rfl) kM_L_daysLeft kS_L_daysLeft ⟨by decide, by decide, Nat.le_trans (by decide) hb.1, Nat.le_trans (by decide) hb.2, by decide⟩ rfl rfl (Nat.le_of_ble_eq_true rfl) (MM.mono ?_ (MM.scr (o_daysLeft g d hI)))
  intro o g1 d1 hh
  obtain ⟨⟨k, ho, h1⟩, hs1⟩ := hh
  subst ho
  show MW mL_law (bc - 1) (bs - 6) 1780 [(0, (5, 0)), (1, vR 0), (2, vR 65), (3, vR 74), (4, vR 75), (5, vI i)] [vI k] g1 d1 Q
  refine mw_top (fun hT1 => ?_)
  have hG1 : 76 ≤ g1.2.1 := hT1.2
  refine mw_istore (pc' := 1782) (L' := [(0, (5, 0)), (1, vR 0), (2, vR 65), (3, vR 74), (4, vR 75), (5, vI i), (6, vI k)]) dL_law_1780 rfl (by decide) rfl ?_
  refine mw_aload_n (v := vR 65) (pc' := 1783) dL_law_1782 rfl rfl (by simp) rfl ?_
  refine mw_aload_n (v := (5, 0)) (pc' := 1784) dL_law_1783 rfl rfl (by simp) rfl ?_
  refine mw_iload (pc' := 1786) dL_law_1784 rfl rfl ?_
  refine mw_iconst (pc' := 1787) dL_law_1786 rfl ⟨by decide, by decide⟩ ?_
  refine mw_iadd (pc' := 1788) dL_law_1787 rfl (ik (by omega)) ?_
  refine mw_xld (pc' := 1789) dL_law_1788 rfl (by rw [hs1]; exact ⟨by omega, by omega⟩) ?_
  rw [hs1]
  refine mw_callV (M' := mX12_daysLeft) (A := [vI (d SCR (i + 1))]) (A' := [vR 65, vI (d SCR (i + 1))]) (S := []) (a := 65) (pc' := 1792) dL_law_1789 rfl (Or.inl (goodW 1887 (by decide +kernel) rfl)) kM_X12_daysLeft kV_X12_daysLeft ⟨by decide, by decide, Nat.zero_le _, Nat.zero_le _, by decide⟩ rfl rfl rfl ⟨by decide, by omega⟩ (by decide +kernel) (by decide +kernel) (Nat.le_of_ble_eq_true rfl) (h1 _ (fun b d2 hI2 hs2 h5 hb0 => ?_))
  show MW mL_law (bc - 1) (bs - 6) 1792 [(0, (5, 0)), (1, vR 0), (2, vR 65), (3, vR 74), (4, vR 75), (5, vI i), (6, vI k)] [vI b] g1 d2 Q
  refine mw_istore (pc' := 1794) (L' := [(0, (5, 0)), (1, vR 0), (2, vR 65), (3, vR 74), (4, vR 75), (5, vI i), (6, vI k), (7, vI b)]) dL_law_1792 rfl (by decide) rfl ?_
  refine mw_aload_n (v := vR 65) (pc' := 1795) dL_law_1794 rfl rfl (by simp) rfl ?_
  refine mw_callV (M' := mX12_thrown) (A := []) (A' := [vR 65]) (S := []) (a := 65) (pc' := 1798) dL_law_1795 rfl (Or.inl (goodW 1679 (by decide +kernel) rfl)) kM_X12_thrown kV_X12_thrown ⟨by decide, by decide, Nat.zero_le _, Nat.zero_le _, by decide⟩ rfl rfl rfl ⟨by decide, by omega⟩ (by decide +kernel) (by decide +kernel) (Nat.le_of_ble_eq_true rfl) (eX12_thrown ?_)
  show MW mL_law (bc - 1) (bs - 6) 1798 [(0, (5, 0)), (1, vR 0), (2, vR 65), (3, vR 74), (4, vR 75), (5, vI i), (6, vI k), (7, vI b)] [vI (d2 65 5)] g1 d2 Q
  rw [h5]
  refine mw_iload (pc' := 1800) dL_law_1798 rfl rfl ?_
  refine mw_icmp_eq (tgt := 1805) (pc' := 1803) dL_law_1800 rfl (by decide) (fun _ => ?_) (fun c => absurd rfl c)
  refine mw_iload (pc' := 1807) dL_law_1805 rfl rfl ?_
  refine mw_if_ne (tgt := 1822) (pc' := 1810) dL_law_1807 rfl (by decide) (fun c => ?_) (fun c => ?_)
  · refine mw_goto (pc' := 0) (tgt := 3808) dL_law_1822 (by decide) ?_
    exact mw_loc (pc' := 0) [0, 1, 2, 3, 4, 5] rfl (mw_less ⟨by omega, by omega⟩ (h g1 d2 hI2 hs2))
  · have hb1 := hb0 c
    refine mw_aload_n (v := vR 74) (pc' := 1811) dL_law_1810 rfl rfl (by simp) rfl ?_
    refine mw_iconst (pc' := 1812) dL_law_1811 rfl ⟨by decide, by decide⟩ ?_
    refine mw_lald (pc' := 1813) dL_law_1812 rfl (by decide +kernel) ⟨by decide, by decide⟩ (by rw [show LN 74 = 1 by decide +kernel]; exact ⟨by decide, by decide⟩) ?_
    refine mw_iload (pc' := 1815) dL_law_1813 rfl rfl ?_
    refine mw_i2l (pc' := 1816) dL_law_1815 rfl ?_
    refine mw_lcmp (pc' := 1817) dL_law_1816 rfl ?_
    refine mw_if_eq (tgt := 1822) (pc' := 1820) dL_law_1817 rfl (by decide) (fun _ => ?_) (fun c3 => absurd (by rw [hb1]; exact lCmp_rf) c3)
    refine mw_goto (pc' := 0) (tgt := 3808) dL_law_1822 (by decide) ?_
    exact mw_loc (pc' := 0) [0, 1, 2, 3, 4, 5] rfl (mw_less ⟨by omega, by omega⟩ (h g1 d2 hI2 hs2))
theorem lc_27 {i : Int} {bc bs : Nat} {g : mG} {d : mD} {Q : mQ} (hI : INV g d) (hi : 0 ≤ i ∧ i + 3 < d SCR (-1)) (hN : d SCR (-1) ≤ 2048) (hb : 47 ≤ bc ∧ 8228 ≤ bs) (h : ∀ g' d', INV g' d' → d' SCR = d SCR → MW mL_law (bc - 47) (bs - 8228) 3808 [(0, (5, 0)), (1, vR 0), (2, vR 65), (3, vR 74), (4, vR 75), (5, vI i)] [] g' d' Q) : MW mL_law bc bs 1825 [(0, (5, 0)), (1, vR 0), (2, vR 65), (3, vR 74), (4, vR 75), (5, vI i)] [] g d Q := by
  refine mw_top (fun hT => ?_)
  have hG : 76 ≤ g.2.1 := hT.2
  refine mw_aload_n (v := vR 0) (pc' := 1826) dL_law_1825 rfl rfl (by simp) rfl ?_
  refine mw_aload_n (v := (5, 0)) (pc' := 1827) dL_law_1826 rfl rfl (by simp) rfl ?_
  refine mw_iload (pc' := 1829) dL_law_1827 rfl rfl ?_
  refine mw_iconst (pc' := 1830) dL_law_1829 rfl ⟨by decide, by decide⟩ ?_
  refine mw_iadd (pc' := 1831) dL_law_1830 rfl (ik (by omega)) ?_
  refine mw_xld (pc' := 1832) dL_law_1831 rfl ⟨by omega, by omega⟩ ?_
  refine mw_aload_n (v := vR 74) (pc' := 1833) dL_law_1832 rfl rfl (by simp) rfl ?_
  refine mw_callSX (M' := mL_daysLeftByMarking) (A := [vR 0, vI (d SCR (i + 1)), vR 74]) (S := []) (pc' := 1836) dL_law_1833 rfl (goodW 1124 (by decide +kernel) rfl) kM_L_daysLeftByMarking kS_L_daysLeftByMarking ⟨by decide, by decide, Nat.le_trans (by decide) hb.1, Nat.le_trans (by decide) hb.2, by decide⟩ rfl rfl (Nat.le_of_ble_eq_true rfl) (MM.mono ?_ (MM.scr (o_daysLeftByMarking g d hI)))
  intro o g1 d1 hh
  obtain ⟨⟨k, ho, h1⟩, hs1⟩ := hh
  subst ho
  show MW mL_law (bc - 1) (bs - 6) 1836 [(0, (5, 0)), (1, vR 0), (2, vR 65), (3, vR 74), (4, vR 75), (5, vI i)] [vI k] g1 d1 Q
  refine mw_top (fun hT1 => ?_)
  have hG1 : 76 ≤ g1.2.1 := hT1.2
  refine mw_istore (pc' := 1838) (L' := [(0, (5, 0)), (1, vR 0), (2, vR 65), (3, vR 74), (4, vR 75), (5, vI i), (6, vI k)]) dL_law_1836 rfl (by decide) rfl ?_
  refine mw_aload_n (v := vR 65) (pc' := 1839) dL_law_1838 rfl rfl (by simp) rfl ?_
  refine mw_aload_n (v := (5, 0)) (pc' := 1840) dL_law_1839 rfl rfl (by simp) rfl ?_
  refine mw_iload (pc' := 1842) dL_law_1840 rfl rfl ?_
  refine mw_iconst (pc' := 1843) dL_law_1842 rfl ⟨by decide, by decide⟩ ?_
  refine mw_iadd (pc' := 1844) dL_law_1843 rfl (ik (by omega)) ?_
  refine mw_xld (pc' := 1845) dL_law_1844 rfl (by rw [hs1]; exact ⟨by omega, by omega⟩) ?_
  rw [hs1]
  refine mw_callV (M' := mX12_daysLeftByMarking) (A := [vI (d SCR (i + 1))]) (A' := [vR 65, vI (d SCR (i + 1))]) (S := []) (a := 65) (pc' := 1848) dL_law_1845 rfl (Or.inl (goodW 1895 (by decide +kernel) rfl)) kM_X12_daysLeftByMarking kV_X12_daysLeftByMarking ⟨by decide, by decide, Nat.zero_le _, Nat.zero_le _, by decide⟩ rfl rfl rfl ⟨by decide, by omega⟩ (by decide +kernel) (by decide +kernel) (Nat.le_of_ble_eq_true rfl) (h1 _ (fun b d2 hI2 hs2 h5 hb0 => ?_))
  show MW mL_law (bc - 1) (bs - 6) 1848 [(0, (5, 0)), (1, vR 0), (2, vR 65), (3, vR 74), (4, vR 75), (5, vI i), (6, vI k)] [vI b] g1 d2 Q
  refine mw_istore (pc' := 1850) (L' := [(0, (5, 0)), (1, vR 0), (2, vR 65), (3, vR 74), (4, vR 75), (5, vI i), (6, vI k), (7, vI b)]) dL_law_1848 rfl (by decide) rfl ?_
  refine mw_aload_n (v := vR 65) (pc' := 1851) dL_law_1850 rfl rfl (by simp) rfl ?_
  refine mw_callV (M' := mX12_thrown) (A := []) (A' := [vR 65]) (S := []) (a := 65) (pc' := 1854) dL_law_1851 rfl (Or.inl (goodW 1679 (by decide +kernel) rfl)) kM_X12_thrown kV_X12_thrown ⟨by decide, by decide, Nat.zero_le _, Nat.zero_le _, by decide⟩ rfl rfl rfl ⟨by decide, by omega⟩ (by decide +kernel) (by decide +kernel) (Nat.le_of_ble_eq_true rfl) (eX12_thrown ?_)
  show MW mL_law (bc - 1) (bs - 6) 1854 [(0, (5, 0)), (1, vR 0), (2, vR 65), (3, vR 74), (4, vR 75), (5, vI i), (6, vI k), (7, vI b)] [vI (d2 65 5)] g1 d2 Q
  rw [h5]
  refine mw_iload (pc' := 1856) dL_law_1854 rfl rfl ?_
  refine mw_icmp_eq (tgt := 1861) (pc' := 1859) dL_law_1856 rfl (by decide) (fun _ => ?_) (fun c => absurd rfl c)
  refine mw_iload (pc' := 1863) dL_law_1861 rfl rfl ?_
  refine mw_if_ne (tgt := 1878) (pc' := 1866) dL_law_1863 rfl (by decide) (fun c => ?_) (fun c => ?_)
  · refine mw_goto (pc' := 0) (tgt := 3808) dL_law_1878 (by decide) ?_
    exact mw_loc (pc' := 0) [0, 1, 2, 3, 4, 5] rfl (mw_less ⟨by omega, by omega⟩ (h g1 d2 hI2 hs2))
  · have hb1 := hb0 c
    refine mw_aload_n (v := vR 74) (pc' := 1867) dL_law_1866 rfl rfl (by simp) rfl ?_
    refine mw_iconst (pc' := 1868) dL_law_1867 rfl ⟨by decide, by decide⟩ ?_
    refine mw_lald (pc' := 1869) dL_law_1868 rfl (by decide +kernel) ⟨by decide, by decide⟩ (by rw [show LN 74 = 1 by decide +kernel]; exact ⟨by decide, by decide⟩) ?_
    refine mw_iload (pc' := 1871) dL_law_1869 rfl rfl ?_
    refine mw_i2l (pc' := 1872) dL_law_1871 rfl ?_
    refine mw_lcmp (pc' := 1873) dL_law_1872 rfl ?_
    refine mw_if_eq (tgt := 1878) (pc' := 1876) dL_law_1873 rfl (by decide) (fun _ => ?_) (fun c3 => absurd (by rw [hb1]; exact lCmp_rf) c3)
    refine mw_goto (pc' := 0) (tgt := 3808) dL_law_1878 (by decide) ?_
    exact mw_loc (pc' := 0) [0, 1, 2, 3, 4, 5] rfl (mw_less ⟨by omega, by omega⟩ (h g1 d2 hI2 hs2))
theorem lc_28 {i : Int} {bc bs : Nat} {g : mG} {d : mD} {Q : mQ} (hI : INV g d) (hi : 0 ≤ i ∧ i + 3 < d SCR (-1)) (hN : d SCR (-1) ≤ 2048) (hb : 47 ≤ bc ∧ 8228 ≤ bs) (h : ∀ g' d', INV g' d' → d' SCR = d SCR → MW mL_law (bc - 47) (bs - 8228) 3808 [(0, (5, 0)), (1, vR 0), (2, vR 65), (3, vR 74), (4, vR 75), (5, vI i)] [] g' d' Q) : MW mL_law bc bs 1881 [(0, (5, 0)), (1, vR 0), (2, vR 65), (3, vR 74), (4, vR 75), (5, vI i)] [] g d Q := by
  refine mw_top (fun hT => ?_)
  have hG : 76 ≤ g.2.1 := hT.2
  refine mw_aload_n (v := vR 0) (pc' := 1882) dL_law_1881 rfl rfl (by simp) rfl ?_
  refine mw_aload_n (v := (5, 0)) (pc' := 1883) dL_law_1882 rfl rfl (by simp) rfl ?_
  refine mw_iload (pc' := 1885) dL_law_1883 rfl rfl ?_
  refine mw_iconst (pc' := 1886) dL_law_1885 rfl ⟨by decide, by decide⟩ ?_
  refine mw_iadd (pc' := 1887) dL_law_1886 rfl (ik (by omega)) ?_
  refine mw_xld (pc' := 1888) dL_law_1887 rfl ⟨by omega, by omega⟩ ?_
  refine mw_aload_n (v := (5, 0)) (pc' := 1889) dL_law_1888 rfl rfl (by simp) rfl ?_
  refine mw_iload (pc' := 1891) dL_law_1889 rfl rfl ?_
  refine mw_iconst (pc' := 1892) dL_law_1891 rfl ⟨by decide, by decide⟩ ?_
  refine mw_iadd (pc' := 1893) dL_law_1892 rfl (ik (by omega)) ?_
  refine mw_xld (pc' := 1894) dL_law_1893 rfl ⟨by omega, by omega⟩ ?_
  refine mw_aload_n (v := vR 74) (pc' := 1895) dL_law_1894 rfl rfl (by simp) rfl ?_
  refine mw_callSX (M' := mL_extendByConsent) (A := [vR 0, vI (d SCR (i + 1)), vI (d SCR (i + 2)), vR 74]) (S := []) (pc' := 1898) dL_law_1895 rfl (goodW 1131 (by decide +kernel) rfl) kM_L_extendByConsent kS_L_extendByConsent ⟨by decide, by decide, Nat.le_trans (by decide) hb.1, Nat.le_trans (by decide) hb.2, by decide⟩ rfl rfl (Nat.le_of_ble_eq_true rfl) (MM.mono ?_ (MM.scr (o_extendByConsent g d hI)))
  intro o g1 d1 hh
  obtain ⟨⟨k, ho, h1⟩, hs1⟩ := hh
  subst ho
  show MW mL_law (bc - 47) (bs - 8228) 1898 [(0, (5, 0)), (1, vR 0), (2, vR 65), (3, vR 74), (4, vR 75), (5, vI i)] [vI k] g1 d1 Q
  refine mw_top (fun hT1 => ?_)
  have hG1 : 76 ≤ g1.2.1 := hT1.2
  refine mw_istore (pc' := 1900) (L' := [(0, (5, 0)), (1, vR 0), (2, vR 65), (3, vR 74), (4, vR 75), (5, vI i), (6, vI k)]) dL_law_1898 rfl (by decide) rfl ?_
  refine mw_aload_n (v := vR 65) (pc' := 1901) dL_law_1900 rfl rfl (by simp) rfl ?_
  refine mw_aload_n (v := (5, 0)) (pc' := 1902) dL_law_1901 rfl rfl (by simp) rfl ?_
  refine mw_iload (pc' := 1904) dL_law_1902 rfl rfl ?_
  refine mw_iconst (pc' := 1905) dL_law_1904 rfl ⟨by decide, by decide⟩ ?_
  refine mw_iadd (pc' := 1906) dL_law_1905 rfl (ik (by omega)) ?_
  refine mw_xld (pc' := 1907) dL_law_1906 rfl (by rw [hs1]; exact ⟨by omega, by omega⟩) ?_
  rw [hs1]
  refine mw_aload_n (v := (5, 0)) (pc' := 1908) dL_law_1907 rfl rfl (by simp) rfl ?_
  refine mw_iload (pc' := 1910) dL_law_1908 rfl rfl ?_
  refine mw_iconst (pc' := 1911) dL_law_1910 rfl ⟨by decide, by decide⟩ ?_
  refine mw_iadd (pc' := 1912) dL_law_1911 rfl (ik (by omega)) ?_
  refine mw_xld (pc' := 1913) dL_law_1912 rfl (by rw [hs1]; exact ⟨by omega, by omega⟩) ?_
  rw [hs1]
  refine mw_callV (M' := mX12_extendByConsent) (A := [vI (d SCR (i + 1)), vI (d SCR (i + 2))]) (A' := [vR 65, vI (d SCR (i + 1)), vI (d SCR (i + 2))]) (S := []) (a := 65) (pc' := 1916) dL_law_1913 rfl (Or.inl (goodW 1900 (by decide +kernel) rfl)) kM_X12_extendByConsent kV_X12_extendByConsent ⟨by decide, by decide, Nat.zero_le _, Nat.zero_le _, by decide⟩ rfl rfl rfl ⟨by decide, by omega⟩ (by decide +kernel) (by decide +kernel) (Nat.le_of_ble_eq_true rfl) (h1 _ (fun b d2 hI2 hs2 h5 hb0 => ?_))
  show MW mL_law (bc - 47) (bs - 8228) 1916 [(0, (5, 0)), (1, vR 0), (2, vR 65), (3, vR 74), (4, vR 75), (5, vI i), (6, vI k)] [vI b] g1 d2 Q
  refine mw_istore (pc' := 1918) (L' := [(0, (5, 0)), (1, vR 0), (2, vR 65), (3, vR 74), (4, vR 75), (5, vI i), (6, vI k), (7, vI b)]) dL_law_1916 rfl (by decide) rfl ?_
  refine mw_aload_n (v := vR 65) (pc' := 1919) dL_law_1918 rfl rfl (by simp) rfl ?_
  refine mw_callV (M' := mX12_thrown) (A := []) (A' := [vR 65]) (S := []) (a := 65) (pc' := 1922) dL_law_1919 rfl (Or.inl (goodW 1679 (by decide +kernel) rfl)) kM_X12_thrown kV_X12_thrown ⟨by decide, by decide, Nat.zero_le _, Nat.zero_le _, by decide⟩ rfl rfl rfl ⟨by decide, by omega⟩ (by decide +kernel) (by decide +kernel) (Nat.le_of_ble_eq_true rfl) (eX12_thrown ?_)
  show MW mL_law (bc - 47) (bs - 8228) 1922 [(0, (5, 0)), (1, vR 0), (2, vR 65), (3, vR 74), (4, vR 75), (5, vI i), (6, vI k), (7, vI b)] [vI (d2 65 5)] g1 d2 Q
  rw [h5]
  refine mw_iload (pc' := 1924) dL_law_1922 rfl rfl ?_
  refine mw_icmp_eq (tgt := 1929) (pc' := 1927) dL_law_1924 rfl (by decide) (fun _ => ?_) (fun c => absurd rfl c)
  refine mw_iload (pc' := 1931) dL_law_1929 rfl rfl ?_
  refine mw_if_ne (tgt := 1946) (pc' := 1934) dL_law_1931 rfl (by decide) (fun c => ?_) (fun c => ?_)
  · refine mw_goto (pc' := 0) (tgt := 3808) dL_law_1946 (by decide) ?_
    exact mw_loc (pc' := 0) [0, 1, 2, 3, 4, 5] rfl (mw_less ⟨by omega, by omega⟩ (h g1 d2 hI2 hs2))
  · have hb1 := hb0 c
    refine mw_aload_n (v := vR 74) (pc' := 1935) dL_law_1934 rfl rfl (by simp) rfl ?_
    refine mw_iconst (pc' := 1936) dL_law_1935 rfl ⟨by decide, by decide⟩ ?_
    refine mw_lald (pc' := 1937) dL_law_1936 rfl (by decide +kernel) ⟨by decide, by decide⟩ (by rw [show LN 74 = 1 by decide +kernel]; exact ⟨by decide, by decide⟩) ?_
    refine mw_iload (pc' := 1939) dL_law_1937 rfl rfl ?_
    refine mw_i2l (pc' := 1940) dL_law_1939 rfl ?_
    refine mw_lcmp (pc' := 1941) dL_law_1940 rfl ?_
    refine mw_if_eq (tgt := 1946) (pc' := 1944) dL_law_1941 rfl (by decide) (fun _ => ?_) (fun c3 => absurd (by rw [hb1]; exact lCmp_rf) c3)
    refine mw_goto (pc' := 0) (tgt := 3808) dL_law_1946 (by decide) ?_
    exact mw_loc (pc' := 0) [0, 1, 2, 3, 4, 5] rfl (mw_less ⟨by omega, by omega⟩ (h g1 d2 hI2 hs2))
theorem lc_29 {i : Int} {bc bs : Nat} {g : mG} {d : mD} {Q : mQ} (hI : INV g d) (hi : 0 ≤ i ∧ i + 3 < d SCR (-1)) (hN : d SCR (-1) ≤ 2048) (hb : 47 ≤ bc ∧ 8228 ≤ bs) (h : ∀ g' d', INV g' d' → d' SCR = d SCR → MW mL_law (bc - 47) (bs - 8228) 3808 [(0, (5, 0)), (1, vR 0), (2, vR 65), (3, vR 74), (4, vR 75), (5, vI i)] [] g' d' Q) : MW mL_law bc bs 1949 [(0, (5, 0)), (1, vR 0), (2, vR 65), (3, vR 74), (4, vR 75), (5, vI i)] [] g d Q := by
  refine mw_top (fun hT => ?_)
  have hG : 76 ≤ g.2.1 := hT.2
  refine mw_aload_n (v := vR 0) (pc' := 1950) dL_law_1949 rfl rfl (by simp) rfl ?_
  refine mw_aload_n (v := (5, 0)) (pc' := 1951) dL_law_1950 rfl rfl (by simp) rfl ?_
  refine mw_iload (pc' := 1953) dL_law_1951 rfl rfl ?_
  refine mw_iconst (pc' := 1954) dL_law_1953 rfl ⟨by decide, by decide⟩ ?_
  refine mw_iadd (pc' := 1955) dL_law_1954 rfl (ik (by omega)) ?_
  refine mw_xld (pc' := 1956) dL_law_1955 rfl ⟨by omega, by omega⟩ ?_
  refine mw_aload_n (v := (5, 0)) (pc' := 1957) dL_law_1956 rfl rfl (by simp) rfl ?_
  refine mw_iload (pc' := 1959) dL_law_1957 rfl rfl ?_
  refine mw_iconst (pc' := 1960) dL_law_1959 rfl ⟨by decide, by decide⟩ ?_
  refine mw_iadd (pc' := 1961) dL_law_1960 rfl (ik (by omega)) ?_
  refine mw_xld (pc' := 1962) dL_law_1961 rfl ⟨by omega, by omega⟩ ?_
  refine mw_aload_n (v := vR 74) (pc' := 1963) dL_law_1962 rfl rfl (by simp) rfl ?_
  refine mw_callSX (M' := mL_extendByOrder) (A := [vR 0, vI (d SCR (i + 1)), vI (d SCR (i + 2)), vR 74]) (S := []) (pc' := 1966) dL_law_1963 rfl (goodW 1147 (by decide +kernel) rfl) kM_L_extendByOrder kS_L_extendByOrder ⟨by decide, by decide, Nat.le_trans (by decide) hb.1, Nat.le_trans (by decide) hb.2, by decide⟩ rfl rfl (Nat.le_of_ble_eq_true rfl) (MM.mono ?_ (MM.scr (o_extendByOrder g d hI)))
  intro o g1 d1 hh
  obtain ⟨⟨k, ho, h1⟩, hs1⟩ := hh
  subst ho
  show MW mL_law (bc - 47) (bs - 8228) 1966 [(0, (5, 0)), (1, vR 0), (2, vR 65), (3, vR 74), (4, vR 75), (5, vI i)] [vI k] g1 d1 Q
  refine mw_top (fun hT1 => ?_)
  have hG1 : 76 ≤ g1.2.1 := hT1.2
  refine mw_istore (pc' := 1968) (L' := [(0, (5, 0)), (1, vR 0), (2, vR 65), (3, vR 74), (4, vR 75), (5, vI i), (6, vI k)]) dL_law_1966 rfl (by decide) rfl ?_
  refine mw_aload_n (v := vR 65) (pc' := 1969) dL_law_1968 rfl rfl (by simp) rfl ?_
  refine mw_aload_n (v := (5, 0)) (pc' := 1970) dL_law_1969 rfl rfl (by simp) rfl ?_
  refine mw_iload (pc' := 1972) dL_law_1970 rfl rfl ?_
  refine mw_iconst (pc' := 1973) dL_law_1972 rfl ⟨by decide, by decide⟩ ?_
  refine mw_iadd (pc' := 1974) dL_law_1973 rfl (ik (by omega)) ?_
  refine mw_xld (pc' := 1975) dL_law_1974 rfl (by rw [hs1]; exact ⟨by omega, by omega⟩) ?_
  rw [hs1]
  refine mw_aload_n (v := (5, 0)) (pc' := 1976) dL_law_1975 rfl rfl (by simp) rfl ?_
  refine mw_iload (pc' := 1978) dL_law_1976 rfl rfl ?_
  refine mw_iconst (pc' := 1979) dL_law_1978 rfl ⟨by decide, by decide⟩ ?_
  refine mw_iadd (pc' := 1980) dL_law_1979 rfl (ik (by omega)) ?_
  refine mw_xld (pc' := 1981) dL_law_1980 rfl (by rw [hs1]; exact ⟨by omega, by omega⟩) ?_
  rw [hs1]
  refine mw_callV (M' := mX12_extendByOrder) (A := [vI (d SCR (i + 1)), vI (d SCR (i + 2))]) (A' := [vR 65, vI (d SCR (i + 1)), vI (d SCR (i + 2))]) (S := []) (a := 65) (pc' := 1984) dL_law_1981 rfl (Or.inl (goodW 1920 (by decide +kernel) rfl)) kM_X12_extendByOrder kV_X12_extendByOrder ⟨by decide, by decide, Nat.zero_le _, Nat.zero_le _, by decide⟩ rfl rfl rfl ⟨by decide, by omega⟩ (by decide +kernel) (by decide +kernel) (Nat.le_of_ble_eq_true rfl) (h1 _ (fun b d2 hI2 hs2 h5 hb0 => ?_))
  show MW mL_law (bc - 47) (bs - 8228) 1984 [(0, (5, 0)), (1, vR 0), (2, vR 65), (3, vR 74), (4, vR 75), (5, vI i), (6, vI k)] [vI b] g1 d2 Q
  refine mw_istore (pc' := 1986) (L' := [(0, (5, 0)), (1, vR 0), (2, vR 65), (3, vR 74), (4, vR 75), (5, vI i), (6, vI k), (7, vI b)]) dL_law_1984 rfl (by decide) rfl ?_
  refine mw_aload_n (v := vR 65) (pc' := 1987) dL_law_1986 rfl rfl (by simp) rfl ?_
  refine mw_callV (M' := mX12_thrown) (A := []) (A' := [vR 65]) (S := []) (a := 65) (pc' := 1990) dL_law_1987 rfl (Or.inl (goodW 1679 (by decide +kernel) rfl)) kM_X12_thrown kV_X12_thrown ⟨by decide, by decide, Nat.zero_le _, Nat.zero_le _, by decide⟩ rfl rfl rfl ⟨by decide, by omega⟩ (by decide +kernel) (by decide +kernel) (Nat.le_of_ble_eq_true rfl) (eX12_thrown ?_)
  show MW mL_law (bc - 47) (bs - 8228) 1990 [(0, (5, 0)), (1, vR 0), (2, vR 65), (3, vR 74), (4, vR 75), (5, vI i), (6, vI k), (7, vI b)] [vI (d2 65 5)] g1 d2 Q
  rw [h5]
  refine mw_iload (pc' := 1992) dL_law_1990 rfl rfl ?_
  refine mw_icmp_eq (tgt := 1997) (pc' := 1995) dL_law_1992 rfl (by decide) (fun _ => ?_) (fun c => absurd rfl c)
  refine mw_iload (pc' := 1999) dL_law_1997 rfl rfl ?_
  refine mw_if_ne (tgt := 2014) (pc' := 2002) dL_law_1999 rfl (by decide) (fun c => ?_) (fun c => ?_)
  · refine mw_goto (pc' := 0) (tgt := 3808) dL_law_2014 (by decide) ?_
    exact mw_loc (pc' := 0) [0, 1, 2, 3, 4, 5] rfl (mw_less ⟨by omega, by omega⟩ (h g1 d2 hI2 hs2))
  · have hb1 := hb0 c
    refine mw_aload_n (v := vR 74) (pc' := 2003) dL_law_2002 rfl rfl (by simp) rfl ?_
    refine mw_iconst (pc' := 2004) dL_law_2003 rfl ⟨by decide, by decide⟩ ?_
    refine mw_lald (pc' := 2005) dL_law_2004 rfl (by decide +kernel) ⟨by decide, by decide⟩ (by rw [show LN 74 = 1 by decide +kernel]; exact ⟨by decide, by decide⟩) ?_
    refine mw_iload (pc' := 2007) dL_law_2005 rfl rfl ?_
    refine mw_i2l (pc' := 2008) dL_law_2007 rfl ?_
    refine mw_lcmp (pc' := 2009) dL_law_2008 rfl ?_
    refine mw_if_eq (tgt := 2014) (pc' := 2012) dL_law_2009 rfl (by decide) (fun _ => ?_) (fun c3 => absurd (by rw [hb1]; exact lCmp_rf) c3)
    refine mw_goto (pc' := 0) (tgt := 3808) dL_law_2014 (by decide) ?_
    exact mw_loc (pc' := 0) [0, 1, 2, 3, 4, 5] rfl (mw_less ⟨by omega, by omega⟩ (h g1 d2 hI2 hs2))
theorem lc_30 {i : Int} {bc bs : Nat} {g : mG} {d : mD} {Q : mQ} (hI : INV g d) (hi : 0 ≤ i ∧ i + 3 < d SCR (-1)) (hN : d SCR (-1) ≤ 2048) (hb : 47 ≤ bc ∧ 8228 ≤ bs) (h : ∀ g' d', INV g' d' → d' SCR = d SCR → MW mL_law (bc - 47) (bs - 8228) 3808 [(0, (5, 0)), (1, vR 0), (2, vR 65), (3, vR 74), (4, vR 75), (5, vI i)] [] g' d' Q) : MW mL_law bc bs 2017 [(0, (5, 0)), (1, vR 0), (2, vR 65), (3, vR 74), (4, vR 75), (5, vI i)] [] g d Q := by
  refine mw_top (fun hT => ?_)
  have hG : 76 ≤ g.2.1 := hT.2
  refine mw_aload_n (v := vR 0) (pc' := 2018) dL_law_2017 rfl rfl (by simp) rfl ?_
  refine mw_aload_n (v := (5, 0)) (pc' := 2019) dL_law_2018 rfl rfl (by simp) rfl ?_
  refine mw_iload (pc' := 2021) dL_law_2019 rfl rfl ?_
  refine mw_iconst (pc' := 2022) dL_law_2021 rfl ⟨by decide, by decide⟩ ?_
  refine mw_iadd (pc' := 2023) dL_law_2022 rfl (ik (by omega)) ?_
  refine mw_xld (pc' := 2024) dL_law_2023 rfl ⟨by omega, by omega⟩ ?_
  refine mw_aload_n (v := vR 74) (pc' := 2025) dL_law_2024 rfl rfl (by simp) rfl ?_
  refine mw_callSX (M' := mL_extensionDays) (A := [vR 0, vI (d SCR (i + 1)), vR 74]) (S := []) (pc' := 2028) dL_law_2025 rfl (goodW 1158 (by decide +kernel) rfl) kM_L_extensionDays kS_L_extensionDays ⟨by decide, by decide, Nat.le_trans (by decide) hb.1, Nat.le_trans (by decide) hb.2, by decide⟩ rfl rfl (Nat.le_of_ble_eq_true rfl) (MM.mono ?_ (MM.scr (o_extensionDays g d hI)))
  intro o g1 d1 hh
  obtain ⟨⟨k, ho, h1⟩, hs1⟩ := hh
  subst ho
  show MW mL_law (bc - 1) (bs - 6) 2028 [(0, (5, 0)), (1, vR 0), (2, vR 65), (3, vR 74), (4, vR 75), (5, vI i)] [vI k] g1 d1 Q
  refine mw_top (fun hT1 => ?_)
  have hG1 : 76 ≤ g1.2.1 := hT1.2
  refine mw_istore (pc' := 2030) (L' := [(0, (5, 0)), (1, vR 0), (2, vR 65), (3, vR 74), (4, vR 75), (5, vI i), (6, vI k)]) dL_law_2028 rfl (by decide) rfl ?_
  refine mw_aload_n (v := vR 65) (pc' := 2031) dL_law_2030 rfl rfl (by simp) rfl ?_
  refine mw_aload_n (v := (5, 0)) (pc' := 2032) dL_law_2031 rfl rfl (by simp) rfl ?_
  refine mw_iload (pc' := 2034) dL_law_2032 rfl rfl ?_
  refine mw_iconst (pc' := 2035) dL_law_2034 rfl ⟨by decide, by decide⟩ ?_
  refine mw_iadd (pc' := 2036) dL_law_2035 rfl (ik (by omega)) ?_
  refine mw_xld (pc' := 2037) dL_law_2036 rfl (by rw [hs1]; exact ⟨by omega, by omega⟩) ?_
  rw [hs1]
  refine mw_callV (M' := mX12_extensionDays) (A := [vI (d SCR (i + 1))]) (A' := [vR 65, vI (d SCR (i + 1))]) (S := []) (a := 65) (pc' := 2040) dL_law_2037 rfl (Or.inl (goodW 1924 (by decide +kernel) rfl)) kM_X12_extensionDays kV_X12_extensionDays ⟨by decide, by decide, Nat.zero_le _, Nat.zero_le _, by decide⟩ rfl rfl rfl ⟨by decide, by omega⟩ (by decide +kernel) (by decide +kernel) (Nat.le_of_ble_eq_true rfl) (h1 _ (fun b d2 hI2 hs2 h5 hb0 => ?_))
  show MW mL_law (bc - 1) (bs - 6) 2040 [(0, (5, 0)), (1, vR 0), (2, vR 65), (3, vR 74), (4, vR 75), (5, vI i), (6, vI k)] [vI b] g1 d2 Q
  refine mw_istore (pc' := 2042) (L' := [(0, (5, 0)), (1, vR 0), (2, vR 65), (3, vR 74), (4, vR 75), (5, vI i), (6, vI k), (7, vI b)]) dL_law_2040 rfl (by decide) rfl ?_
  refine mw_aload_n (v := vR 65) (pc' := 2043) dL_law_2042 rfl rfl (by simp) rfl ?_
  refine mw_callV (M' := mX12_thrown) (A := []) (A' := [vR 65]) (S := []) (a := 65) (pc' := 2046) dL_law_2043 rfl (Or.inl (goodW 1679 (by decide +kernel) rfl)) kM_X12_thrown kV_X12_thrown ⟨by decide, by decide, Nat.zero_le _, Nat.zero_le _, by decide⟩ rfl rfl rfl ⟨by decide, by omega⟩ (by decide +kernel) (by decide +kernel) (Nat.le_of_ble_eq_true rfl) (eX12_thrown ?_)
  show MW mL_law (bc - 1) (bs - 6) 2046 [(0, (5, 0)), (1, vR 0), (2, vR 65), (3, vR 74), (4, vR 75), (5, vI i), (6, vI k), (7, vI b)] [vI (d2 65 5)] g1 d2 Q
  rw [h5]
  refine mw_iload (pc' := 2048) dL_law_2046 rfl rfl ?_
  refine mw_icmp_eq (tgt := 2053) (pc' := 2051) dL_law_2048 rfl (by decide) (fun _ => ?_) (fun c => absurd rfl c)
  refine mw_iload (pc' := 2055) dL_law_2053 rfl rfl ?_
  refine mw_if_ne (tgt := 2070) (pc' := 2058) dL_law_2055 rfl (by decide) (fun c => ?_) (fun c => ?_)
  · refine mw_goto (pc' := 0) (tgt := 3808) dL_law_2070 (by decide) ?_
    exact mw_loc (pc' := 0) [0, 1, 2, 3, 4, 5] rfl (mw_less ⟨by omega, by omega⟩ (h g1 d2 hI2 hs2))
  · have hb1 := hb0 c
    refine mw_aload_n (v := vR 74) (pc' := 2059) dL_law_2058 rfl rfl (by simp) rfl ?_
    refine mw_iconst (pc' := 2060) dL_law_2059 rfl ⟨by decide, by decide⟩ ?_
    refine mw_lald (pc' := 2061) dL_law_2060 rfl (by decide +kernel) ⟨by decide, by decide⟩ (by rw [show LN 74 = 1 by decide +kernel]; exact ⟨by decide, by decide⟩) ?_
    refine mw_iload (pc' := 2063) dL_law_2061 rfl rfl ?_
    refine mw_i2l (pc' := 2064) dL_law_2063 rfl ?_
    refine mw_lcmp (pc' := 2065) dL_law_2064 rfl ?_
    refine mw_if_eq (tgt := 2070) (pc' := 2068) dL_law_2065 rfl (by decide) (fun _ => ?_) (fun c3 => absurd (by rw [hb1]; exact lCmp_rf) c3)
    refine mw_goto (pc' := 0) (tgt := 3808) dL_law_2070 (by decide) ?_
    exact mw_loc (pc' := 0) [0, 1, 2, 3, 4, 5] rfl (mw_less ⟨by omega, by omega⟩ (h g1 d2 hI2 hs2))
theorem lc_31 {i : Int} {bc bs : Nat} {g : mG} {d : mD} {Q : mQ} (hI : INV g d) (hi : 0 ≤ i ∧ i + 3 < d SCR (-1)) (hN : d SCR (-1) ≤ 2048) (hb : 47 ≤ bc ∧ 8228 ≤ bs) (h : ∀ g' d', INV g' d' → d' SCR = d SCR → MW mL_law (bc - 47) (bs - 8228) 3808 [(0, (5, 0)), (1, vR 0), (2, vR 65), (3, vR 74), (4, vR 75), (5, vI i)] [] g' d' Q) : MW mL_law bc bs 2073 [(0, (5, 0)), (1, vR 0), (2, vR 65), (3, vR 74), (4, vR 75), (5, vI i)] [] g d Q := by
  refine mw_top (fun hT => ?_)
  have hG : 76 ≤ g.2.1 := hT.2
  refine mw_aload_n (v := vR 0) (pc' := 2074) dL_law_2073 rfl rfl (by simp) rfl ?_
  refine mw_aload_n (v := (5, 0)) (pc' := 2075) dL_law_2074 rfl rfl (by simp) rfl ?_
  refine mw_iload (pc' := 2077) dL_law_2075 rfl rfl ?_
  refine mw_iconst (pc' := 2078) dL_law_2077 rfl ⟨by decide, by decide⟩ ?_
  refine mw_iadd (pc' := 2079) dL_law_2078 rfl (ik (by omega)) ?_
  refine mw_xld (pc' := 2080) dL_law_2079 rfl ⟨by omega, by omega⟩ ?_
  refine mw_aload_n (v := vR 74) (pc' := 2081) dL_law_2080 rfl rfl (by simp) rfl ?_
  refine mw_callSX (M' := mL_file) (A := [vR 0, vI (d SCR (i + 1)), vR 74]) (S := []) (pc' := 2084) dL_law_2081 rfl (goodW 1165 (by decide +kernel) rfl) kM_L_file kS_L_file ⟨by decide, by decide, Nat.le_trans (by decide) hb.1, Nat.le_trans (by decide) hb.2, by decide⟩ rfl rfl (Nat.le_of_ble_eq_true rfl) (MM.mono ?_ (MM.scr (o_file g d hI)))
  intro o g1 d1 hh
  obtain ⟨⟨k, ho, h1⟩, hs1⟩ := hh
  subst ho
  show MW mL_law (bc - 47) (bs - 8228) 2084 [(0, (5, 0)), (1, vR 0), (2, vR 65), (3, vR 74), (4, vR 75), (5, vI i)] [vI k] g1 d1 Q
  refine mw_top (fun hT1 => ?_)
  have hG1 : 76 ≤ g1.2.1 := hT1.2
  refine mw_istore (pc' := 2086) (L' := [(0, (5, 0)), (1, vR 0), (2, vR 65), (3, vR 74), (4, vR 75), (5, vI i), (6, vI k)]) dL_law_2084 rfl (by decide) rfl ?_
  refine mw_aload_n (v := vR 65) (pc' := 2087) dL_law_2086 rfl rfl (by simp) rfl ?_
  refine mw_aload_n (v := (5, 0)) (pc' := 2088) dL_law_2087 rfl rfl (by simp) rfl ?_
  refine mw_iload (pc' := 2090) dL_law_2088 rfl rfl ?_
  refine mw_iconst (pc' := 2091) dL_law_2090 rfl ⟨by decide, by decide⟩ ?_
  refine mw_iadd (pc' := 2092) dL_law_2091 rfl (ik (by omega)) ?_
  refine mw_xld (pc' := 2093) dL_law_2092 rfl (by rw [hs1]; exact ⟨by omega, by omega⟩) ?_
  rw [hs1]
  refine mw_callV (M' := mX12_file) (A := [vI (d SCR (i + 1))]) (A' := [vR 65, vI (d SCR (i + 1))]) (S := []) (a := 65) (pc' := 2096) dL_law_2093 rfl (Or.inl (goodW 1928 (by decide +kernel) rfl)) kM_X12_file kV_X12_file ⟨by decide, by decide, Nat.zero_le _, Nat.zero_le _, by decide⟩ rfl rfl rfl ⟨by decide, by omega⟩ (by decide +kernel) (by decide +kernel) (Nat.le_of_ble_eq_true rfl) (h1 _ (fun b d2 hI2 hs2 h5 hb0 => ?_))
  show MW mL_law (bc - 47) (bs - 8228) 2096 [(0, (5, 0)), (1, vR 0), (2, vR 65), (3, vR 74), (4, vR 75), (5, vI i), (6, vI k)] [vI b] g1 d2 Q
  refine mw_istore (pc' := 2098) (L' := [(0, (5, 0)), (1, vR 0), (2, vR 65), (3, vR 74), (4, vR 75), (5, vI i), (6, vI k), (7, vI b)]) dL_law_2096 rfl (by decide) rfl ?_
  refine mw_aload_n (v := vR 65) (pc' := 2099) dL_law_2098 rfl rfl (by simp) rfl ?_
  refine mw_callV (M' := mX12_thrown) (A := []) (A' := [vR 65]) (S := []) (a := 65) (pc' := 2102) dL_law_2099 rfl (Or.inl (goodW 1679 (by decide +kernel) rfl)) kM_X12_thrown kV_X12_thrown ⟨by decide, by decide, Nat.zero_le _, Nat.zero_le _, by decide⟩ rfl rfl rfl ⟨by decide, by omega⟩ (by decide +kernel) (by decide +kernel) (Nat.le_of_ble_eq_true rfl) (eX12_thrown ?_)
  show MW mL_law (bc - 47) (bs - 8228) 2102 [(0, (5, 0)), (1, vR 0), (2, vR 65), (3, vR 74), (4, vR 75), (5, vI i), (6, vI k), (7, vI b)] [vI (d2 65 5)] g1 d2 Q
  rw [h5]
  refine mw_iload (pc' := 2104) dL_law_2102 rfl rfl ?_
  refine mw_icmp_eq (tgt := 2109) (pc' := 2107) dL_law_2104 rfl (by decide) (fun _ => ?_) (fun c => absurd rfl c)
  refine mw_iload (pc' := 2111) dL_law_2109 rfl rfl ?_
  refine mw_if_ne (tgt := 2133) (pc' := 2114) dL_law_2111 rfl (by decide) (fun c => ?_) (fun c => ?_)
  · refine mw_goto (pc' := 0) (tgt := 3808) dL_law_2133 (by decide) ?_
    exact mw_loc (pc' := 0) [0, 1, 2, 3, 4, 5] rfl (mw_less ⟨by omega, by omega⟩ (h g1 d2 hI2 hs2))
  · obtain ⟨hb1, hb2⟩ := hb0 c
    refine mw_aload_n (v := vR 74) (pc' := 2115) dL_law_2114 rfl rfl (by simp) rfl ?_
    refine mw_iconst (pc' := 2116) dL_law_2115 rfl ⟨by decide, by decide⟩ ?_
    refine mw_lald (pc' := 2117) dL_law_2116 rfl (by decide +kernel) ⟨by decide, by decide⟩ (by rw [show LN 74 = 1 by decide +kernel]; exact ⟨by decide, by decide⟩) ?_
    refine mw_iload (pc' := 2119) dL_law_2117 rfl rfl ?_
    rcases hb2 with hb2 | hb2
    · rw [← hb1, hb2]
      refine mw_if_eq (tgt := 2126) (pc' := 2122) dL_law_2119 rfl (by decide) (fun _ => ?_) (fun c2 => absurd rfl c2)
      refine mw_lconst0 (pc' := 2127) dL_law_2126 rfl ?_
      refine mw_lcmp (pc' := 2128) dL_law_2127 rfl ?_
      refine mw_if_eq (tgt := 2133) (pc' := 2131) dL_law_2128 rfl (by decide) (fun _ => ?_) (fun c3 => absurd lCmp_rf c3)
      refine mw_goto (pc' := 0) (tgt := 3808) dL_law_2133 (by decide) ?_
      exact mw_loc (pc' := 0) [0, 1, 2, 3, 4, 5] rfl (mw_less ⟨by omega, by omega⟩ (h g1 d2 hI2 hs2))
    · rw [← hb1, hb2]
      refine mw_if_eq (tgt := 2126) (pc' := 2122) dL_law_2119 rfl (by decide) (fun c2 => absurd c2 (by decide)) (fun _ => ?_)
      refine mw_lconst1 (pc' := 2123) dL_law_2122 rfl ?_
      refine mw_goto (pc' := 0) (tgt := 2127) dL_law_2123 (by decide) ?_
      refine mw_lcmp (pc' := 2128) dL_law_2127 rfl ?_
      refine mw_if_eq (tgt := 2133) (pc' := 2131) dL_law_2128 rfl (by decide) (fun _ => ?_) (fun c3 => absurd lCmp_rf c3)
      refine mw_goto (pc' := 0) (tgt := 3808) dL_law_2133 (by decide) ?_
      exact mw_loc (pc' := 0) [0, 1, 2, 3, 4, 5] rfl (mw_less ⟨by omega, by omega⟩ (h g1 d2 hI2 hs2))
theorem lc_32 {i : Int} {bc bs : Nat} {g : mG} {d : mD} {Q : mQ} (hI : INV g d) (hi : 0 ≤ i ∧ i + 3 < d SCR (-1)) (hN : d SCR (-1) ≤ 2048) (hb : 47 ≤ bc ∧ 8228 ≤ bs) (h : ∀ g' d', INV g' d' → d' SCR = d SCR → MW mL_law (bc - 47) (bs - 8228) 3808 [(0, (5, 0)), (1, vR 0), (2, vR 65), (3, vR 74), (4, vR 75), (5, vI i)] [] g' d' Q) : MW mL_law bc bs 2136 [(0, (5, 0)), (1, vR 0), (2, vR 65), (3, vR 74), (4, vR 75), (5, vI i)] [] g d Q := by
  refine mw_top (fun hT => ?_)
  have hG : 76 ≤ g.2.1 := hT.2
  refine mw_aload_n (v := vR 0) (pc' := 2137) dL_law_2136 rfl rfl (by simp) rfl ?_
  refine mw_aload_n (v := (5, 0)) (pc' := 2138) dL_law_2137 rfl rfl (by simp) rfl ?_
  refine mw_iload (pc' := 2140) dL_law_2138 rfl rfl ?_
  refine mw_iconst (pc' := 2141) dL_law_2140 rfl ⟨by decide, by decide⟩ ?_
  refine mw_iadd (pc' := 2142) dL_law_2141 rfl (ik (by omega)) ?_
  refine mw_xld (pc' := 2143) dL_law_2142 rfl ⟨by omega, by omega⟩ ?_
  refine mw_aload_n (v := vR 74) (pc' := 2144) dL_law_2143 rfl rfl (by simp) rfl ?_
  refine mw_callSX (M' := mL_strike) (A := [vR 0, vI (d SCR (i + 1)), vR 74]) (S := []) (pc' := 2147) dL_law_2144 rfl (goodW 1176 (by decide +kernel) rfl) kM_L_strike kS_L_strike ⟨by decide, by decide, Nat.le_trans (by decide) hb.1, Nat.le_trans (by decide) hb.2, by decide⟩ rfl rfl (Nat.le_of_ble_eq_true rfl) (MM.mono ?_ (MM.scr (o_strike g d hI)))
  intro o g1 d1 hh
  obtain ⟨⟨k, ho, h1⟩, hs1⟩ := hh
  subst ho
  show MW mL_law (bc - 47) (bs - 8228) 2147 [(0, (5, 0)), (1, vR 0), (2, vR 65), (3, vR 74), (4, vR 75), (5, vI i)] [vI k] g1 d1 Q
  refine mw_top (fun hT1 => ?_)
  have hG1 : 76 ≤ g1.2.1 := hT1.2
  refine mw_istore (pc' := 2149) (L' := [(0, (5, 0)), (1, vR 0), (2, vR 65), (3, vR 74), (4, vR 75), (5, vI i), (6, vI k)]) dL_law_2147 rfl (by decide) rfl ?_
  refine mw_aload_n (v := vR 65) (pc' := 2150) dL_law_2149 rfl rfl (by simp) rfl ?_
  refine mw_aload_n (v := (5, 0)) (pc' := 2151) dL_law_2150 rfl rfl (by simp) rfl ?_
  refine mw_iload (pc' := 2153) dL_law_2151 rfl rfl ?_
  refine mw_iconst (pc' := 2154) dL_law_2153 rfl ⟨by decide, by decide⟩ ?_
  refine mw_iadd (pc' := 2155) dL_law_2154 rfl (ik (by omega)) ?_
  refine mw_xld (pc' := 2156) dL_law_2155 rfl (by rw [hs1]; exact ⟨by omega, by omega⟩) ?_
  rw [hs1]
  refine mw_callV (M' := mX12_strike) (A := [vI (d SCR (i + 1))]) (A' := [vR 65, vI (d SCR (i + 1))]) (S := []) (a := 65) (pc' := 2159) dL_law_2156 rfl (Or.inl (goodW 1932 (by decide +kernel) rfl)) kM_X12_strike kV_X12_strike ⟨by decide, by decide, Nat.zero_le _, Nat.zero_le _, by decide⟩ rfl rfl rfl ⟨by decide, by omega⟩ (by decide +kernel) (by decide +kernel) (Nat.le_of_ble_eq_true rfl) (h1 _ (fun b d2 hI2 hs2 h5 hb0 => ?_))
  show MW mL_law (bc - 47) (bs - 8228) 2159 [(0, (5, 0)), (1, vR 0), (2, vR 65), (3, vR 74), (4, vR 75), (5, vI i), (6, vI k)] [vI b] g1 d2 Q
  refine mw_istore (pc' := 2161) (L' := [(0, (5, 0)), (1, vR 0), (2, vR 65), (3, vR 74), (4, vR 75), (5, vI i), (6, vI k), (7, vI b)]) dL_law_2159 rfl (by decide) rfl ?_
  refine mw_aload_n (v := vR 65) (pc' := 2162) dL_law_2161 rfl rfl (by simp) rfl ?_
  refine mw_callV (M' := mX12_thrown) (A := []) (A' := [vR 65]) (S := []) (a := 65) (pc' := 2165) dL_law_2162 rfl (Or.inl (goodW 1679 (by decide +kernel) rfl)) kM_X12_thrown kV_X12_thrown ⟨by decide, by decide, Nat.zero_le _, Nat.zero_le _, by decide⟩ rfl rfl rfl ⟨by decide, by omega⟩ (by decide +kernel) (by decide +kernel) (Nat.le_of_ble_eq_true rfl) (eX12_thrown ?_)
  show MW mL_law (bc - 47) (bs - 8228) 2165 [(0, (5, 0)), (1, vR 0), (2, vR 65), (3, vR 74), (4, vR 75), (5, vI i), (6, vI k), (7, vI b)] [vI (d2 65 5)] g1 d2 Q
  rw [h5]
  refine mw_iload (pc' := 2167) dL_law_2165 rfl rfl ?_
  refine mw_icmp_eq (tgt := 2172) (pc' := 2170) dL_law_2167 rfl (by decide) (fun _ => ?_) (fun c => absurd rfl c)
  refine mw_iload (pc' := 2174) dL_law_2172 rfl rfl ?_
  refine mw_if_ne (tgt := 2189) (pc' := 2177) dL_law_2174 rfl (by decide) (fun c => ?_) (fun c => ?_)
  · refine mw_goto (pc' := 0) (tgt := 3808) dL_law_2189 (by decide) ?_
    exact mw_loc (pc' := 0) [0, 1, 2, 3, 4, 5] rfl (mw_less ⟨by omega, by omega⟩ (h g1 d2 hI2 hs2))
  · have hb1 := hb0 c
    refine mw_aload_n (v := vR 74) (pc' := 2178) dL_law_2177 rfl rfl (by simp) rfl ?_
    refine mw_iconst (pc' := 2179) dL_law_2178 rfl ⟨by decide, by decide⟩ ?_
    refine mw_lald (pc' := 2180) dL_law_2179 rfl (by decide +kernel) ⟨by decide, by decide⟩ (by rw [show LN 74 = 1 by decide +kernel]; exact ⟨by decide, by decide⟩) ?_
    refine mw_iload (pc' := 2182) dL_law_2180 rfl rfl ?_
    refine mw_i2l (pc' := 2183) dL_law_2182 rfl ?_
    refine mw_lcmp (pc' := 2184) dL_law_2183 rfl ?_
    refine mw_if_eq (tgt := 2189) (pc' := 2187) dL_law_2184 rfl (by decide) (fun _ => ?_) (fun c3 => absurd (by rw [hb1]; exact lCmp_rf) c3)
    refine mw_goto (pc' := 0) (tgt := 3808) dL_law_2189 (by decide) ?_
    exact mw_loc (pc' := 0) [0, 1, 2, 3, 4, 5] rfl (mw_less ⟨by omega, by omega⟩ (h g1 d2 hI2 hs2))
theorem lc_33 {i : Int} {bc bs : Nat} {g : mG} {d : mD} {Q : mQ} (hI : INV g d) (hi : 0 ≤ i ∧ i + 3 < d SCR (-1)) (hN : d SCR (-1) ≤ 2048) (hb : 47 ≤ bc ∧ 8228 ≤ bs) (h : ∀ g' d', INV g' d' → d' SCR = d SCR → MW mL_law (bc - 47) (bs - 8228) 3808 [(0, (5, 0)), (1, vR 0), (2, vR 65), (3, vR 74), (4, vR 75), (5, vI i)] [] g' d' Q) : MW mL_law bc bs 2192 [(0, (5, 0)), (1, vR 0), (2, vR 65), (3, vR 74), (4, vR 75), (5, vI i)] [] g d Q := by
  refine mw_top (fun hT => ?_)
  have hG : 76 ≤ g.2.1 := hT.2
  refine mw_aload_n (v := vR 0) (pc' := 2193) dL_law_2192 rfl rfl (by simp) rfl ?_
  refine mw_aload_n (v := (5, 0)) (pc' := 2194) dL_law_2193 rfl rfl (by simp) rfl ?_
  refine mw_iload (pc' := 2196) dL_law_2194 rfl rfl ?_
  refine mw_iconst (pc' := 2197) dL_law_2196 rfl ⟨by decide, by decide⟩ ?_
  refine mw_iadd (pc' := 2198) dL_law_2197 rfl (ik (by omega)) ?_
  refine mw_xld (pc' := 2199) dL_law_2198 rfl ⟨by omega, by omega⟩ ?_
  refine mw_aload_n (v := vR 74) (pc' := 2200) dL_law_2199 rfl rfl (by simp) rfl ?_
  refine mw_callSX (M' := mL_status) (A := [vR 0, vI (d SCR (i + 1)), vR 74]) (S := []) (pc' := 2203) dL_law_2200 rfl (goodW 1192 (by decide +kernel) rfl) kM_L_status kS_L_status ⟨by decide, by decide, Nat.le_trans (by decide) hb.1, Nat.le_trans (by decide) hb.2, by decide⟩ rfl rfl (Nat.le_of_ble_eq_true rfl) (MM.mono ?_ (MM.scr (o_status g d hI)))
  intro o g1 d1 hh
  obtain ⟨⟨k, ho, h1⟩, hs1⟩ := hh
  subst ho
  show MW mL_law (bc - 1) (bs - 6) 2203 [(0, (5, 0)), (1, vR 0), (2, vR 65), (3, vR 74), (4, vR 75), (5, vI i)] [vI k] g1 d1 Q
  refine mw_top (fun hT1 => ?_)
  have hG1 : 76 ≤ g1.2.1 := hT1.2
  refine mw_istore (pc' := 2205) (L' := [(0, (5, 0)), (1, vR 0), (2, vR 65), (3, vR 74), (4, vR 75), (5, vI i), (6, vI k)]) dL_law_2203 rfl (by decide) rfl ?_
  refine mw_aload_n (v := vR 65) (pc' := 2206) dL_law_2205 rfl rfl (by simp) rfl ?_
  refine mw_aload_n (v := (5, 0)) (pc' := 2207) dL_law_2206 rfl rfl (by simp) rfl ?_
  refine mw_iload (pc' := 2209) dL_law_2207 rfl rfl ?_
  refine mw_iconst (pc' := 2210) dL_law_2209 rfl ⟨by decide, by decide⟩ ?_
  refine mw_iadd (pc' := 2211) dL_law_2210 rfl (ik (by omega)) ?_
  refine mw_xld (pc' := 2212) dL_law_2211 rfl (by rw [hs1]; exact ⟨by omega, by omega⟩) ?_
  rw [hs1]
  refine mw_callV (M' := mX12_status) (A := [vI (d SCR (i + 1))]) (A' := [vR 65, vI (d SCR (i + 1))]) (S := []) (a := 65) (pc' := 2215) dL_law_2212 rfl (Or.inl (goodW 1936 (by decide +kernel) rfl)) kM_X12_status kV_X12_status ⟨by decide, by decide, Nat.zero_le _, Nat.zero_le _, by decide⟩ rfl rfl rfl ⟨by decide, by omega⟩ (by decide +kernel) (by decide +kernel) (Nat.le_of_ble_eq_true rfl) (h1 _ (fun b d2 hI2 hs2 h5 hb0 => ?_))
  show MW mL_law (bc - 1) (bs - 6) 2215 [(0, (5, 0)), (1, vR 0), (2, vR 65), (3, vR 74), (4, vR 75), (5, vI i), (6, vI k)] [vI b] g1 d2 Q
  refine mw_istore (pc' := 2217) (L' := [(0, (5, 0)), (1, vR 0), (2, vR 65), (3, vR 74), (4, vR 75), (5, vI i), (6, vI k), (7, vI b)]) dL_law_2215 rfl (by decide) rfl ?_
  refine mw_aload_n (v := vR 65) (pc' := 2218) dL_law_2217 rfl rfl (by simp) rfl ?_
  refine mw_callV (M' := mX12_thrown) (A := []) (A' := [vR 65]) (S := []) (a := 65) (pc' := 2221) dL_law_2218 rfl (Or.inl (goodW 1679 (by decide +kernel) rfl)) kM_X12_thrown kV_X12_thrown ⟨by decide, by decide, Nat.zero_le _, Nat.zero_le _, by decide⟩ rfl rfl rfl ⟨by decide, by omega⟩ (by decide +kernel) (by decide +kernel) (Nat.le_of_ble_eq_true rfl) (eX12_thrown ?_)
  show MW mL_law (bc - 1) (bs - 6) 2221 [(0, (5, 0)), (1, vR 0), (2, vR 65), (3, vR 74), (4, vR 75), (5, vI i), (6, vI k), (7, vI b)] [vI (d2 65 5)] g1 d2 Q
  rw [h5]
  refine mw_iload (pc' := 2223) dL_law_2221 rfl rfl ?_
  refine mw_icmp_eq (tgt := 2228) (pc' := 2226) dL_law_2223 rfl (by decide) (fun _ => ?_) (fun c => absurd rfl c)
  refine mw_iload (pc' := 2230) dL_law_2228 rfl rfl ?_
  refine mw_if_ne (tgt := 2245) (pc' := 2233) dL_law_2230 rfl (by decide) (fun c => ?_) (fun c => ?_)
  · refine mw_goto (pc' := 0) (tgt := 3808) dL_law_2245 (by decide) ?_
    exact mw_loc (pc' := 0) [0, 1, 2, 3, 4, 5] rfl (mw_less ⟨by omega, by omega⟩ (h g1 d2 hI2 hs2))
  · have hb1 := hb0 c
    refine mw_aload_n (v := vR 74) (pc' := 2234) dL_law_2233 rfl rfl (by simp) rfl ?_
    refine mw_iconst (pc' := 2235) dL_law_2234 rfl ⟨by decide, by decide⟩ ?_
    refine mw_lald (pc' := 2236) dL_law_2235 rfl (by decide +kernel) ⟨by decide, by decide⟩ (by rw [show LN 74 = 1 by decide +kernel]; exact ⟨by decide, by decide⟩) ?_
    refine mw_iload (pc' := 2238) dL_law_2236 rfl rfl ?_
    refine mw_i2l (pc' := 2239) dL_law_2238 rfl ?_
    refine mw_lcmp (pc' := 2240) dL_law_2239 rfl ?_
    refine mw_if_eq (tgt := 2245) (pc' := 2243) dL_law_2240 rfl (by decide) (fun _ => ?_) (fun c3 => absurd (by rw [hb1]; exact lCmp_rf) c3)
    refine mw_goto (pc' := 0) (tgt := 3808) dL_law_2245 (by decide) ?_
    exact mw_loc (pc' := 0) [0, 1, 2, 3, 4, 5] rfl (mw_less ⟨by omega, by omega⟩ (h g1 d2 hI2 hs2))
theorem lc_34 {i : Int} {bc bs : Nat} {g : mG} {d : mD} {Q : mQ} (hI : INV g d) (hi : 0 ≤ i ∧ i + 3 < d SCR (-1)) (hN : d SCR (-1) ≤ 2048) (hb : 47 ≤ bc ∧ 8228 ≤ bs) (h : ∀ g' d', INV g' d' → d' SCR = d SCR → MW mL_law (bc - 47) (bs - 8228) 3808 [(0, (5, 0)), (1, vR 0), (2, vR 65), (3, vR 74), (4, vR 75), (5, vI i)] [] g' d' Q) : MW mL_law bc bs 2248 [(0, (5, 0)), (1, vR 0), (2, vR 65), (3, vR 74), (4, vR 75), (5, vI i)] [] g d Q := by
  refine mw_top (fun hT => ?_)
  have hG : 76 ≤ g.2.1 := hT.2
  refine mw_aload_n (v := vR 0) (pc' := 2249) dL_law_2248 rfl rfl (by simp) rfl ?_
  refine mw_aload_n (v := (5, 0)) (pc' := 2250) dL_law_2249 rfl rfl (by simp) rfl ?_
  refine mw_iload (pc' := 2252) dL_law_2250 rfl rfl ?_
  refine mw_iconst (pc' := 2253) dL_law_2252 rfl ⟨by decide, by decide⟩ ?_
  refine mw_iadd (pc' := 2254) dL_law_2253 rfl (ik (by omega)) ?_
  refine mw_xld (pc' := 2255) dL_law_2254 rfl ⟨by omega, by omega⟩ ?_
  refine mw_aload_n (v := vR 74) (pc' := 2256) dL_law_2255 rfl rfl (by simp) rfl ?_
  refine mw_callSX (M' := mL_openAt) (A := [vR 0, vI (d SCR (i + 1)), vR 74]) (S := []) (pc' := 2259) dL_law_2256 rfl (goodW 1199 (by decide +kernel) rfl) kM_L_openAt kS_L_openAt ⟨by decide, by decide, Nat.le_trans (by decide) hb.1, Nat.le_trans (by decide) hb.2, by decide⟩ rfl rfl (Nat.le_of_ble_eq_true rfl) (MM.mono ?_ (MM.scr (o_openAt g d hI)))
  intro o g1 d1 hh
  obtain ⟨⟨k, ho, h1⟩, hs1⟩ := hh
  subst ho
  show MW mL_law (bc - 1) (bs - 6) 2259 [(0, (5, 0)), (1, vR 0), (2, vR 65), (3, vR 74), (4, vR 75), (5, vI i)] [vI k] g1 d1 Q
  refine mw_top (fun hT1 => ?_)
  have hG1 : 76 ≤ g1.2.1 := hT1.2
  refine mw_istore (pc' := 2261) (L' := [(0, (5, 0)), (1, vR 0), (2, vR 65), (3, vR 74), (4, vR 75), (5, vI i), (6, vI k)]) dL_law_2259 rfl (by decide) rfl ?_
  refine mw_aload_n (v := vR 65) (pc' := 2262) dL_law_2261 rfl rfl (by simp) rfl ?_
  refine mw_aload_n (v := (5, 0)) (pc' := 2263) dL_law_2262 rfl rfl (by simp) rfl ?_
  refine mw_iload (pc' := 2265) dL_law_2263 rfl rfl ?_
  refine mw_iconst (pc' := 2266) dL_law_2265 rfl ⟨by decide, by decide⟩ ?_
  refine mw_iadd (pc' := 2267) dL_law_2266 rfl (ik (by omega)) ?_
  refine mw_xld (pc' := 2268) dL_law_2267 rfl (by rw [hs1]; exact ⟨by omega, by omega⟩) ?_
  rw [hs1]
  refine mw_callV (M' := mX12_openAt) (A := [vI (d SCR (i + 1))]) (A' := [vR 65, vI (d SCR (i + 1))]) (S := []) (a := 65) (pc' := 2271) dL_law_2268 rfl (Or.inl (goodW 1940 (by decide +kernel) rfl)) kM_X12_openAt kV_X12_openAt ⟨by decide, by decide, Nat.zero_le _, Nat.zero_le _, by decide⟩ rfl rfl rfl ⟨by decide, by omega⟩ (by decide +kernel) (by decide +kernel) (Nat.le_of_ble_eq_true rfl) (h1 _ (fun b d2 hI2 hs2 h5 hb0 => ?_))
  show MW mL_law (bc - 1) (bs - 6) 2271 [(0, (5, 0)), (1, vR 0), (2, vR 65), (3, vR 74), (4, vR 75), (5, vI i), (6, vI k)] [vI b] g1 d2 Q
  refine mw_istore (pc' := 2273) (L' := [(0, (5, 0)), (1, vR 0), (2, vR 65), (3, vR 74), (4, vR 75), (5, vI i), (6, vI k), (7, vI b)]) dL_law_2271 rfl (by decide) rfl ?_
  refine mw_aload_n (v := vR 65) (pc' := 2274) dL_law_2273 rfl rfl (by simp) rfl ?_
  refine mw_callV (M' := mX12_thrown) (A := []) (A' := [vR 65]) (S := []) (a := 65) (pc' := 2277) dL_law_2274 rfl (Or.inl (goodW 1679 (by decide +kernel) rfl)) kM_X12_thrown kV_X12_thrown ⟨by decide, by decide, Nat.zero_le _, Nat.zero_le _, by decide⟩ rfl rfl rfl ⟨by decide, by omega⟩ (by decide +kernel) (by decide +kernel) (Nat.le_of_ble_eq_true rfl) (eX12_thrown ?_)
  show MW mL_law (bc - 1) (bs - 6) 2277 [(0, (5, 0)), (1, vR 0), (2, vR 65), (3, vR 74), (4, vR 75), (5, vI i), (6, vI k), (7, vI b)] [vI (d2 65 5)] g1 d2 Q
  rw [h5]
  refine mw_iload (pc' := 2279) dL_law_2277 rfl rfl ?_
  refine mw_icmp_eq (tgt := 2284) (pc' := 2282) dL_law_2279 rfl (by decide) (fun _ => ?_) (fun c => absurd rfl c)
  refine mw_iload (pc' := 2286) dL_law_2284 rfl rfl ?_
  refine mw_if_ne (tgt := 2301) (pc' := 2289) dL_law_2286 rfl (by decide) (fun c => ?_) (fun c => ?_)
  · refine mw_goto (pc' := 0) (tgt := 3808) dL_law_2301 (by decide) ?_
    exact mw_loc (pc' := 0) [0, 1, 2, 3, 4, 5] rfl (mw_less ⟨by omega, by omega⟩ (h g1 d2 hI2 hs2))
  · have hb1 := hb0 c
    refine mw_aload_n (v := vR 74) (pc' := 2290) dL_law_2289 rfl rfl (by simp) rfl ?_
    refine mw_iconst (pc' := 2291) dL_law_2290 rfl ⟨by decide, by decide⟩ ?_
    refine mw_lald (pc' := 2292) dL_law_2291 rfl (by decide +kernel) ⟨by decide, by decide⟩ (by rw [show LN 74 = 1 by decide +kernel]; exact ⟨by decide, by decide⟩) ?_
    refine mw_iload (pc' := 2294) dL_law_2292 rfl rfl ?_
    refine mw_i2l (pc' := 2295) dL_law_2294 rfl ?_
    refine mw_lcmp (pc' := 2296) dL_law_2295 rfl ?_
    refine mw_if_eq (tgt := 2301) (pc' := 2299) dL_law_2296 rfl (by decide) (fun _ => ?_) (fun c3 => absurd (by rw [hb1]; exact lCmp_rf) c3)
    refine mw_goto (pc' := 0) (tgt := 3808) dL_law_2301 (by decide) ?_
    exact mw_loc (pc' := 0) [0, 1, 2, 3, 4, 5] rfl (mw_less ⟨by omega, by omega⟩ (h g1 d2 hI2 hs2))
theorem lc_35 {i : Int} {bc bs : Nat} {g : mG} {d : mD} {Q : mQ} (hI : INV g d) (hi : 0 ≤ i ∧ i + 3 < d SCR (-1)) (hN : d SCR (-1) ≤ 2048) (hb : 47 ≤ bc ∧ 8228 ≤ bs) (h : ∀ g' d', INV g' d' → d' SCR = d SCR → MW mL_law (bc - 47) (bs - 8228) 3808 [(0, (5, 0)), (1, vR 0), (2, vR 65), (3, vR 74), (4, vR 75), (5, vI i)] [] g' d' Q) : MW mL_law bc bs 2304 [(0, (5, 0)), (1, vR 0), (2, vR 65), (3, vR 74), (4, vR 75), (5, vI i)] [] g d Q := by
  refine mw_top (fun hT => ?_)
  have hG : 76 ≤ g.2.1 := hT.2
  refine mw_aload_n (v := vR 0) (pc' := 2305) dL_law_2304 rfl rfl (by simp) rfl ?_
  refine mw_callV (M' := mX11_overdue) (A := []) (A' := [vR 0]) (S := []) (a := 0) (pc' := 2308) dL_law_2305 rfl (Or.inl (goodW 405 (by decide +kernel) rfl)) kM_X11_overdue kV_X11_overdue ⟨by decide, by decide, Nat.zero_le _, Nat.zero_le _, by decide⟩ rfl rfl rfl ⟨by decide, by omega⟩ (by decide +kernel) (by decide +kernel) (Nat.le_of_ble_eq_true rfl) (MM.mono ?_ (o_overdue g d hI))
  intro o g1 d1 hh
  obtain ⟨k, ho, h1⟩ := hh
  subst ho
  show MW mL_law bc bs 2308 [(0, (5, 0)), (1, vR 0), (2, vR 65), (3, vR 74), (4, vR 75), (5, vI i)] [vI k] g1 d1 Q
  refine mw_top (fun hT1 => ?_)
  have hG1 : 76 ≤ g1.2.1 := hT1.2
  refine mw_aload_n (v := vR 65) (pc' := 2309) dL_law_2308 rfl rfl (by simp) rfl ?_
  refine mw_callV (M' := mX12_overdue) (A := []) (A' := [vR 65]) (S := [vI k]) (a := 65) (pc' := 2312) dL_law_2309 rfl (Or.inl (goodW 1948 (by decide +kernel) rfl)) kM_X12_overdue kV_X12_overdue ⟨by decide, by decide, Nat.zero_le _, Nat.zero_le _, by decide⟩ rfl rfl rfl ⟨by decide, by omega⟩ (by decide +kernel) (by decide +kernel) (Nat.le_of_ble_eq_true rfl) (h1 _ (fun b d2 hI2 hs2 hb0 => ?_))
  show MW mL_law bc bs 2312 [(0, (5, 0)), (1, vR 0), (2, vR 65), (3, vR 74), (4, vR 75), (5, vI i)] [vI b, vI k] g1 d2 Q
  refine mw_icmp_eq (tgt := 3808) (pc' := 2315) dL_law_2312 rfl (by decide) (fun _ => ?_) (fun c => absurd hb0.symm c)
  exact mw_less ⟨by omega, by omega⟩ (h g1 d2 hI2 hs2)
theorem lc_36 {i : Int} {bc bs : Nat} {g : mG} {d : mD} {Q : mQ} (hI : INV g d) (hi : 0 ≤ i ∧ i + 3 < d SCR (-1)) (hN : d SCR (-1) ≤ 2048) (hb : 47 ≤ bc ∧ 8228 ≤ bs) (h : ∀ g' d', INV g' d' → d' SCR = d SCR → MW mL_law (bc - 47) (bs - 8228) 3808 [(0, (5, 0)), (1, vR 0), (2, vR 65), (3, vR 74), (4, vR 75), (5, vI i)] [] g' d' Q) : MW mL_law bc bs 2317 [(0, (5, 0)), (1, vR 0), (2, vR 65), (3, vR 74), (4, vR 75), (5, vI i)] [] g d Q := by
  refine mw_top (fun hT => ?_)
  have hG : 76 ≤ g.2.1 := hT.2
  refine mw_aload_n (v := vR 0) (pc' := 2318) dL_law_2317 rfl rfl (by simp) rfl ?_
  refine mw_aload_n (v := vR 74) (pc' := 2319) dL_law_2318 rfl rfl (by simp) rfl ?_
  refine mw_callSX (M' := mL_busiestDay) (A := [vR 0, vR 74]) (S := []) (pc' := 2322) dL_law_2319 rfl (goodW 1211 (by decide +kernel) rfl) kM_L_busiestDay kS_L_busiestDay ⟨by decide, by decide, Nat.le_trans (by decide) hb.1, Nat.le_trans (by decide) hb.2, by decide⟩ rfl rfl (Nat.le_of_ble_eq_true rfl) (MM.mono ?_ (MM.scr (o_busiestDay g d hI)))
  intro o g1 d1 hh
  obtain ⟨⟨k, ho, h1⟩, hs1⟩ := hh
  subst ho
  show MW mL_law (bc - 1) (bs - 6) 2322 [(0, (5, 0)), (1, vR 0), (2, vR 65), (3, vR 74), (4, vR 75), (5, vI i)] [vI k] g1 d1 Q
  refine mw_top (fun hT1 => ?_)
  have hG1 : 76 ≤ g1.2.1 := hT1.2
  refine mw_istore (pc' := 2324) (L' := [(0, (5, 0)), (1, vR 0), (2, vR 65), (3, vR 74), (4, vR 75), (5, vI i), (6, vI k)]) dL_law_2322 rfl (by decide) rfl ?_
  refine mw_aload_n (v := vR 65) (pc' := 2325) dL_law_2324 rfl rfl (by simp) rfl ?_
  refine mw_callV (M' := mX12_busiestDay) (A := []) (A' := [vR 65]) (S := []) (a := 65) (pc' := 2328) dL_law_2325 rfl (Or.inl (goodW 1952 (by decide +kernel) rfl)) kM_X12_busiestDay kV_X12_busiestDay ⟨by decide, by decide, Nat.zero_le _, Nat.zero_le _, by decide⟩ rfl rfl rfl ⟨by decide, by omega⟩ (by decide +kernel) (by decide +kernel) (Nat.le_of_ble_eq_true rfl) (h1 _ (fun b d2 hI2 hs2 h5 hb0 => ?_))
  show MW mL_law (bc - 1) (bs - 6) 2328 [(0, (5, 0)), (1, vR 0), (2, vR 65), (3, vR 74), (4, vR 75), (5, vI i), (6, vI k)] [vI b] g1 d2 Q
  refine mw_istore (pc' := 2330) (L' := [(0, (5, 0)), (1, vR 0), (2, vR 65), (3, vR 74), (4, vR 75), (5, vI i), (6, vI k), (7, vI b)]) dL_law_2328 rfl (by decide) rfl ?_
  refine mw_aload_n (v := vR 65) (pc' := 2331) dL_law_2330 rfl rfl (by simp) rfl ?_
  refine mw_callV (M' := mX12_thrown) (A := []) (A' := [vR 65]) (S := []) (a := 65) (pc' := 2334) dL_law_2331 rfl (Or.inl (goodW 1679 (by decide +kernel) rfl)) kM_X12_thrown kV_X12_thrown ⟨by decide, by decide, Nat.zero_le _, Nat.zero_le _, by decide⟩ rfl rfl rfl ⟨by decide, by omega⟩ (by decide +kernel) (by decide +kernel) (Nat.le_of_ble_eq_true rfl) (eX12_thrown ?_)
  show MW mL_law (bc - 1) (bs - 6) 2334 [(0, (5, 0)), (1, vR 0), (2, vR 65), (3, vR 74), (4, vR 75), (5, vI i), (6, vI k), (7, vI b)] [vI (d2 65 5)] g1 d2 Q
  rw [h5]
  refine mw_iload (pc' := 2336) dL_law_2334 rfl rfl ?_
  refine mw_icmp_eq (tgt := 2341) (pc' := 2339) dL_law_2336 rfl (by decide) (fun _ => ?_) (fun c => absurd rfl c)
  refine mw_iload (pc' := 2343) dL_law_2341 rfl rfl ?_
  refine mw_if_ne (tgt := 2358) (pc' := 2346) dL_law_2343 rfl (by decide) (fun c => ?_) (fun c => ?_)
  · refine mw_goto (pc' := 0) (tgt := 3808) dL_law_2358 (by decide) ?_
    exact mw_loc (pc' := 0) [0, 1, 2, 3, 4, 5] rfl (mw_less ⟨by omega, by omega⟩ (h g1 d2 hI2 hs2))
  · have hb1 := hb0 c
    refine mw_aload_n (v := vR 74) (pc' := 2347) dL_law_2346 rfl rfl (by simp) rfl ?_
    refine mw_iconst (pc' := 2348) dL_law_2347 rfl ⟨by decide, by decide⟩ ?_
    refine mw_lald (pc' := 2349) dL_law_2348 rfl (by decide +kernel) ⟨by decide, by decide⟩ (by rw [show LN 74 = 1 by decide +kernel]; exact ⟨by decide, by decide⟩) ?_
    refine mw_iload (pc' := 2351) dL_law_2349 rfl rfl ?_
    refine mw_i2l (pc' := 2352) dL_law_2351 rfl ?_
    refine mw_lcmp (pc' := 2353) dL_law_2352 rfl ?_
    refine mw_if_eq (tgt := 2358) (pc' := 2356) dL_law_2353 rfl (by decide) (fun _ => ?_) (fun c3 => absurd (by rw [hb1]; exact lCmp_rf) c3)
    refine mw_goto (pc' := 0) (tgt := 3808) dL_law_2358 (by decide) ?_
    exact mw_loc (pc' := 0) [0, 1, 2, 3, 4, 5] rfl (mw_less ⟨by omega, by omega⟩ (h g1 d2 hI2 hs2))
theorem lc_37 {i : Int} {bc bs : Nat} {g : mG} {d : mD} {Q : mQ} (hI : INV g d) (hi : 0 ≤ i ∧ i + 3 < d SCR (-1)) (hN : d SCR (-1) ≤ 2048) (hb : 47 ≤ bc ∧ 8228 ≤ bs) (h : ∀ g' d', INV g' d' → d' SCR = d SCR → MW mL_law (bc - 47) (bs - 8228) 3808 [(0, (5, 0)), (1, vR 0), (2, vR 65), (3, vR 74), (4, vR 75), (5, vI i)] [] g' d' Q) : MW mL_law bc bs 2361 [(0, (5, 0)), (1, vR 0), (2, vR 65), (3, vR 74), (4, vR 75), (5, vI i)] [] g d Q := by
  refine mw_top (fun hT => ?_)
  have hG : 76 ≤ g.2.1 := hT.2
  refine mw_aload_n (v := vR 0) (pc' := 2362) dL_law_2361 rfl rfl (by simp) rfl ?_
  refine mw_aload (v := vR 75) (pc' := 2364) dL_law_2362 rfl (by simp) rfl ?_
  refine mw_callSX (M' := mL_meanDaysLeft) (A := [vR 0, vR 75]) (S := []) (pc' := 2367) dL_law_2364 rfl (goodW 1222 (by decide +kernel) rfl) kM_L_meanDaysLeft kS_L_meanDaysLeft ⟨by decide, by decide, Nat.le_trans (by decide) hb.1, Nat.le_trans (by decide) hb.2, by decide⟩ rfl rfl (Nat.le_of_ble_eq_true rfl) (MM.mono ?_ (MM.scr (o_meanDaysLeft g d hI)))
  intro o g1 d1 hh
  obtain ⟨⟨k, ho, h1⟩, hs1⟩ := hh
  subst ho
  show MW mL_law (bc - 1) (bs - 6) 2367 [(0, (5, 0)), (1, vR 0), (2, vR 65), (3, vR 74), (4, vR 75), (5, vI i)] [vI k] g1 d1 Q
  refine mw_top (fun hT1 => ?_)
  have hG1 : 76 ≤ g1.2.1 := hT1.2
  refine mw_istore (pc' := 2369) (L' := [(0, (5, 0)), (1, vR 0), (2, vR 65), (3, vR 74), (4, vR 75), (5, vI i), (6, vI k)]) dL_law_2367 rfl (by decide) rfl ?_
  refine mw_aload_n (v := vR 65) (pc' := 2370) dL_law_2369 rfl rfl (by simp) rfl ?_
  refine mw_callV (M' := mX12_meanDaysLeft) (A := []) (A' := [vR 65]) (S := []) (a := 65) (pc' := 2373) dL_law_2370 rfl (Or.inl (goodW 1956 (by decide +kernel) rfl)) kM_X12_meanDaysLeft kV_X12_meanDaysLeft ⟨by decide, by decide, Nat.zero_le _, Nat.zero_le _, by decide⟩ rfl rfl rfl ⟨by decide, by omega⟩ (by decide +kernel) (by decide +kernel) (Nat.le_of_ble_eq_true rfl) (h1 _ (fun b d2 hI2 hs2 h5 hb0 => ?_))
  show MW mL_law (bc - 1) (bs - 6) 2373 [(0, (5, 0)), (1, vR 0), (2, vR 65), (3, vR 74), (4, vR 75), (5, vI i), (6, vI k)] [vD b] g1 d2 Q
  refine mw_dstore (pc' := 2375) (L' := [(0, (5, 0)), (1, vR 0), (2, vR 65), (3, vR 74), (4, vR 75), (5, vI i), (6, vI k), (7, vD b)]) dL_law_2373 rfl (by decide) rfl ?_
  refine mw_aload_n (v := vR 65) (pc' := 2376) dL_law_2375 rfl rfl (by simp) rfl ?_
  refine mw_callV (M' := mX12_thrown) (A := []) (A' := [vR 65]) (S := []) (a := 65) (pc' := 2379) dL_law_2376 rfl (Or.inl (goodW 1679 (by decide +kernel) rfl)) kM_X12_thrown kV_X12_thrown ⟨by decide, by decide, Nat.zero_le _, Nat.zero_le _, by decide⟩ rfl rfl rfl ⟨by decide, by omega⟩ (by decide +kernel) (by decide +kernel) (Nat.le_of_ble_eq_true rfl) (eX12_thrown ?_)
  show MW mL_law (bc - 1) (bs - 6) 2379 [(0, (5, 0)), (1, vR 0), (2, vR 65), (3, vR 74), (4, vR 75), (5, vI i), (6, vI k), (7, vD b)] [vI (d2 65 5)] g1 d2 Q
  rw [h5]
  refine mw_iload (pc' := 2381) dL_law_2379 rfl rfl ?_
  refine mw_icmp_eq (tgt := 2386) (pc' := 2384) dL_law_2381 rfl (by decide) (fun _ => ?_) (fun c => absurd rfl c)
  refine mw_iload (pc' := 2388) dL_law_2386 rfl rfl ?_
  refine mw_if_ne (tgt := 2423) (pc' := 2391) dL_law_2388 rfl (by decide) (fun c => ?_) (fun c => ?_)
  · refine mw_goto (pc' := 0) (tgt := 3808) dL_law_2423 (by decide) ?_
    exact mw_loc (pc' := 0) [0, 1, 2, 3, 4, 5] rfl (mw_less ⟨by omega, by omega⟩ (h g1 d2 hI2 hs2))
  · have hb1 := hb0 c
    refine mw_aload (v := vR 75) (pc' := 2393) dL_law_2391 rfl (by simp) rfl ?_
    refine mw_iconst (pc' := 2394) dL_law_2393 rfl ⟨by decide, by decide⟩ ?_
    refine mw_dald (pc' := 2395) dL_law_2394 rfl (by decide +kernel) ⟨by decide, by decide⟩ (by rw [show LN 75 = 1 by decide +kernel]; exact ⟨by decide, by decide⟩) ?_
    refine mw_dload (pc' := 2397) dL_law_2395 rfl rfl ?_
    refine mw_dcmp (pc' := 2398) dL_law_2397 rfl ?_
    rw [hb1]
    refine mw_if_eq (tgt := 2423) (pc' := 2401) dL_law_2398 rfl (by decide) (fun _ => ?_) (fun c3 => ?_)
    · refine mw_goto (pc' := 0) (tgt := 3808) dL_law_2423 (by decide) ?_
      exact mw_loc (pc' := 0) [0, 1, 2, 3, 4, 5] rfl (mw_less ⟨by omega, by omega⟩ (h g1 d2 hI2 hs2))
    · refine mw_aload (v := vR 75) (pc' := 2403) dL_law_2401 rfl (by simp) rfl ?_
      refine mw_iconst (pc' := 2404) dL_law_2403 rfl ⟨by decide, by decide⟩ ?_
      refine mw_dald (pc' := 2405) dL_law_2404 rfl (by decide +kernel) ⟨by decide, by decide⟩ (by rw [show LN 75 = 1 by decide +kernel]; exact ⟨by decide, by decide⟩) ?_
      refine mw_aload (v := vR 75) (pc' := 2407) dL_law_2405 rfl (by simp) rfl ?_
      refine mw_iconst (pc' := 2408) dL_law_2407 rfl ⟨by decide, by decide⟩ ?_
      refine mw_dald (pc' := 2409) dL_law_2408 rfl (by decide +kernel) ⟨by decide, by decide⟩ (by rw [show LN 75 = 1 by decide +kernel]; exact ⟨by decide, by decide⟩) ?_
      refine mw_dcmp (pc' := 2410) dL_law_2409 rfl ?_
      refine mw_if_eq (tgt := 2421) (pc' := 2413) dL_law_2410 rfl (by decide) (fun c4 => absurd c4 c3) (fun _ => ?_)
      refine mw_dload (pc' := 2415) dL_law_2413 rfl rfl ?_
      refine mw_dload (pc' := 2417) dL_law_2415 rfl rfl ?_
      refine mw_dcmp (pc' := 2418) dL_law_2417 rfl ?_
      try rw [hb1]
      refine mw_if_ne (tgt := 2423) (pc' := 2421) dL_law_2418 rfl (by decide) (fun _ => ?_) (fun c4 => absurd c4 c3)
      refine mw_goto (pc' := 0) (tgt := 3808) dL_law_2423 (by decide) ?_
      exact mw_loc (pc' := 0) [0, 1, 2, 3, 4, 5] rfl (mw_less ⟨by omega, by omega⟩ (h g1 d2 hI2 hs2))
theorem lc_38 {i : Int} {bc bs : Nat} {g : mG} {d : mD} {Q : mQ} (hI : INV g d) (hi : 0 ≤ i ∧ i + 3 < d SCR (-1)) (hN : d SCR (-1) ≤ 2048) (hb : 47 ≤ bc ∧ 8228 ≤ bs) (h : ∀ g' d', INV g' d' → d' SCR = d SCR → MW mL_law (bc - 47) (bs - 8228) 3808 [(0, (5, 0)), (1, vR 0), (2, vR 65), (3, vR 74), (4, vR 75), (5, vI i)] [] g' d' Q) : MW mL_law bc bs 2426 [(0, (5, 0)), (1, vR 0), (2, vR 65), (3, vR 74), (4, vR 75), (5, vI i)] [] g d Q := by
  refine mw_top (fun hT => ?_)
  have hG : 76 ≤ g.2.1 := hT.2
  refine mw_aload_n (v := vR 0) (pc' := 2427) dL_law_2426 rfl rfl (by simp) rfl ?_
  refine mw_aload_n (v := (5, 0)) (pc' := 2428) dL_law_2427 rfl rfl (by simp) rfl ?_
  refine mw_iload (pc' := 2430) dL_law_2428 rfl rfl ?_
  refine mw_iconst (pc' := 2431) dL_law_2430 rfl ⟨by decide, by decide⟩ ?_
  refine mw_iadd (pc' := 2432) dL_law_2431 rfl (ik (by omega)) ?_
  refine mw_xld (pc' := 2433) dL_law_2432 rfl ⟨by omega, by omega⟩ ?_
  refine mw_aload_n (v := (5, 0)) (pc' := 2434) dL_law_2433 rfl rfl (by simp) rfl ?_
  refine mw_iload (pc' := 2436) dL_law_2434 rfl rfl ?_
  refine mw_iconst (pc' := 2437) dL_law_2436 rfl ⟨by decide, by decide⟩ ?_
  refine mw_iadd (pc' := 2438) dL_law_2437 rfl (ik (by omega)) ?_
  refine mw_xld (pc' := 2439) dL_law_2438 rfl ⟨by omega, by omega⟩ ?_
  refine mw_aload_n (v := vR 74) (pc' := 2440) dL_law_2439 rfl rfl (by simp) rfl ?_
  refine mw_callSX (M' := mL_stayParty) (A := [vR 0, vI (d SCR (i + 1)), vI (d SCR (i + 2)), vR 74]) (S := []) (pc' := 2443) dL_law_2440 rfl (goodW 1246 (by decide +kernel) rfl) kM_L_stayParty kS_L_stayParty ⟨by decide, by decide, Nat.le_trans (by decide) hb.1, Nat.le_trans (by decide) hb.2, by decide⟩ rfl rfl (Nat.le_of_ble_eq_true rfl) (MM.mono ?_ (MM.scr (o_stayParty g d hI)))
  intro o g1 d1 hh
  obtain ⟨⟨k, ho, h1⟩, hs1⟩ := hh
  subst ho
  show MW mL_law (bc - 47) (bs - 8228) 2443 [(0, (5, 0)), (1, vR 0), (2, vR 65), (3, vR 74), (4, vR 75), (5, vI i)] [vI k] g1 d1 Q
  refine mw_top (fun hT1 => ?_)
  have hG1 : 76 ≤ g1.2.1 := hT1.2
  refine mw_istore (pc' := 2445) (L' := [(0, (5, 0)), (1, vR 0), (2, vR 65), (3, vR 74), (4, vR 75), (5, vI i), (6, vI k)]) dL_law_2443 rfl (by decide) rfl ?_
  refine mw_aload_n (v := vR 65) (pc' := 2446) dL_law_2445 rfl rfl (by simp) rfl ?_
  refine mw_aload_n (v := (5, 0)) (pc' := 2447) dL_law_2446 rfl rfl (by simp) rfl ?_
  refine mw_iload (pc' := 2449) dL_law_2447 rfl rfl ?_
  refine mw_iconst (pc' := 2450) dL_law_2449 rfl ⟨by decide, by decide⟩ ?_
  refine mw_iadd (pc' := 2451) dL_law_2450 rfl (ik (by omega)) ?_
  refine mw_xld (pc' := 2452) dL_law_2451 rfl (by rw [hs1]; exact ⟨by omega, by omega⟩) ?_
  rw [hs1]
  refine mw_aload_n (v := (5, 0)) (pc' := 2453) dL_law_2452 rfl rfl (by simp) rfl ?_
  refine mw_iload (pc' := 2455) dL_law_2453 rfl rfl ?_
  refine mw_iconst (pc' := 2456) dL_law_2455 rfl ⟨by decide, by decide⟩ ?_
  refine mw_iadd (pc' := 2457) dL_law_2456 rfl (ik (by omega)) ?_
  refine mw_xld (pc' := 2458) dL_law_2457 rfl (by rw [hs1]; exact ⟨by omega, by omega⟩) ?_
  rw [hs1]
  refine mw_callV (M' := mX12_stayParty) (A := [vI (d SCR (i + 1)), vI (d SCR (i + 2))]) (A' := [vR 65, vI (d SCR (i + 1)), vI (d SCR (i + 2))]) (S := []) (a := 65) (pc' := 2461) dL_law_2458 rfl (Or.inl (goodW 1960 (by decide +kernel) rfl)) kM_X12_stayParty kV_X12_stayParty ⟨by decide, by decide, Nat.zero_le _, Nat.zero_le _, by decide⟩ rfl rfl rfl ⟨by decide, by omega⟩ (by decide +kernel) (by decide +kernel) (Nat.le_of_ble_eq_true rfl) (h1 _ (fun b d2 hI2 hs2 h5 hb0 => ?_))
  show MW mL_law (bc - 47) (bs - 8228) 2461 [(0, (5, 0)), (1, vR 0), (2, vR 65), (3, vR 74), (4, vR 75), (5, vI i), (6, vI k)] [vI b] g1 d2 Q
  refine mw_istore (pc' := 2463) (L' := [(0, (5, 0)), (1, vR 0), (2, vR 65), (3, vR 74), (4, vR 75), (5, vI i), (6, vI k), (7, vI b)]) dL_law_2461 rfl (by decide) rfl ?_
  refine mw_aload_n (v := vR 65) (pc' := 2464) dL_law_2463 rfl rfl (by simp) rfl ?_
  refine mw_callV (M' := mX12_thrown) (A := []) (A' := [vR 65]) (S := []) (a := 65) (pc' := 2467) dL_law_2464 rfl (Or.inl (goodW 1679 (by decide +kernel) rfl)) kM_X12_thrown kV_X12_thrown ⟨by decide, by decide, Nat.zero_le _, Nat.zero_le _, by decide⟩ rfl rfl rfl ⟨by decide, by omega⟩ (by decide +kernel) (by decide +kernel) (Nat.le_of_ble_eq_true rfl) (eX12_thrown ?_)
  show MW mL_law (bc - 47) (bs - 8228) 2467 [(0, (5, 0)), (1, vR 0), (2, vR 65), (3, vR 74), (4, vR 75), (5, vI i), (6, vI k), (7, vI b)] [vI (d2 65 5)] g1 d2 Q
  rw [h5]
  refine mw_iload (pc' := 2469) dL_law_2467 rfl rfl ?_
  refine mw_icmp_eq (tgt := 2474) (pc' := 2472) dL_law_2469 rfl (by decide) (fun _ => ?_) (fun c => absurd rfl c)
  refine mw_iload (pc' := 2476) dL_law_2474 rfl rfl ?_
  refine mw_if_ne (tgt := 2491) (pc' := 2479) dL_law_2476 rfl (by decide) (fun c => ?_) (fun c => ?_)
  · refine mw_goto (pc' := 0) (tgt := 3808) dL_law_2491 (by decide) ?_
    exact mw_loc (pc' := 0) [0, 1, 2, 3, 4, 5] rfl (mw_less ⟨by omega, by omega⟩ (h g1 d2 hI2 hs2))
  · have hb1 := hb0 c
    refine mw_aload_n (v := vR 74) (pc' := 2480) dL_law_2479 rfl rfl (by simp) rfl ?_
    refine mw_iconst (pc' := 2481) dL_law_2480 rfl ⟨by decide, by decide⟩ ?_
    refine mw_lald (pc' := 2482) dL_law_2481 rfl (by decide +kernel) ⟨by decide, by decide⟩ (by rw [show LN 74 = 1 by decide +kernel]; exact ⟨by decide, by decide⟩) ?_
    refine mw_iload (pc' := 2484) dL_law_2482 rfl rfl ?_
    refine mw_i2l (pc' := 2485) dL_law_2484 rfl ?_
    refine mw_lcmp (pc' := 2486) dL_law_2485 rfl ?_
    refine mw_if_eq (tgt := 2491) (pc' := 2489) dL_law_2486 rfl (by decide) (fun _ => ?_) (fun c3 => absurd (by rw [hb1]; exact lCmp_rf) c3)
    refine mw_goto (pc' := 0) (tgt := 3808) dL_law_2491 (by decide) ?_
    exact mw_loc (pc' := 0) [0, 1, 2, 3, 4, 5] rfl (mw_less ⟨by omega, by omega⟩ (h g1 d2 hI2 hs2))
theorem lc_39 {i : Int} {bc bs : Nat} {g : mG} {d : mD} {Q : mQ} (hI : INV g d) (hi : 0 ≤ i ∧ i + 3 < d SCR (-1)) (hN : d SCR (-1) ≤ 2048) (hb : 47 ≤ bc ∧ 8228 ≤ bs) (h : ∀ g' d', INV g' d' → d' SCR = d SCR → MW mL_law (bc - 47) (bs - 8228) 3808 [(0, (5, 0)), (1, vR 0), (2, vR 65), (3, vR 74), (4, vR 75), (5, vI i)] [] g' d' Q) : MW mL_law bc bs 2494 [(0, (5, 0)), (1, vR 0), (2, vR 65), (3, vR 74), (4, vR 75), (5, vI i)] [] g d Q := by
  refine mw_top (fun hT => ?_)
  have hG : 76 ≤ g.2.1 := hT.2
  refine mw_aload_n (v := vR 0) (pc' := 2495) dL_law_2494 rfl rfl (by simp) rfl ?_
  refine mw_aload_n (v := (5, 0)) (pc' := 2496) dL_law_2495 rfl rfl (by simp) rfl ?_
  refine mw_iload (pc' := 2498) dL_law_2496 rfl rfl ?_
  refine mw_iconst (pc' := 2499) dL_law_2498 rfl ⟨by decide, by decide⟩ ?_
  refine mw_iadd (pc' := 2500) dL_law_2499 rfl (ik (by omega)) ?_
  refine mw_xld (pc' := 2501) dL_law_2500 rfl ⟨by omega, by omega⟩ ?_
  refine mw_aload_n (v := vR 74) (pc' := 2502) dL_law_2501 rfl rfl (by simp) rfl ?_
  refine mw_callSX (M' := mL_stayAll) (A := [vR 0, vI (d SCR (i + 1)), vR 74]) (S := []) (pc' := 2505) dL_law_2502 rfl (goodW 1265 (by decide +kernel) rfl) kM_L_stayAll kS_L_stayAll ⟨by decide, by decide, Nat.le_trans (by decide) hb.1, Nat.le_trans (by decide) hb.2, by decide⟩ rfl rfl (Nat.le_of_ble_eq_true rfl) (MM.mono ?_ (MM.scr (o_stayAll g d hI)))
  intro o g1 d1 hh
  obtain ⟨⟨k, ho, h1⟩, hs1⟩ := hh
  subst ho
  show MW mL_law (bc - 47) (bs - 8228) 2505 [(0, (5, 0)), (1, vR 0), (2, vR 65), (3, vR 74), (4, vR 75), (5, vI i)] [vI k] g1 d1 Q
  refine mw_top (fun hT1 => ?_)
  have hG1 : 76 ≤ g1.2.1 := hT1.2
  refine mw_istore (pc' := 2507) (L' := [(0, (5, 0)), (1, vR 0), (2, vR 65), (3, vR 74), (4, vR 75), (5, vI i), (6, vI k)]) dL_law_2505 rfl (by decide) rfl ?_
  refine mw_aload_n (v := vR 65) (pc' := 2508) dL_law_2507 rfl rfl (by simp) rfl ?_
  refine mw_aload_n (v := (5, 0)) (pc' := 2509) dL_law_2508 rfl rfl (by simp) rfl ?_
  refine mw_iload (pc' := 2511) dL_law_2509 rfl rfl ?_
  refine mw_iconst (pc' := 2512) dL_law_2511 rfl ⟨by decide, by decide⟩ ?_
  refine mw_iadd (pc' := 2513) dL_law_2512 rfl (ik (by omega)) ?_
  refine mw_xld (pc' := 2514) dL_law_2513 rfl (by rw [hs1]; exact ⟨by omega, by omega⟩) ?_
  rw [hs1]
  refine mw_callV (M' := mX12_stayAll) (A := [vI (d SCR (i + 1))]) (A' := [vR 65, vI (d SCR (i + 1))]) (S := []) (a := 65) (pc' := 2517) dL_law_2514 rfl (Or.inl (goodW 1968 (by decide +kernel) rfl)) kM_X12_stayAll kV_X12_stayAll ⟨by decide, by decide, Nat.zero_le _, Nat.zero_le _, by decide⟩ rfl rfl rfl ⟨by decide, by omega⟩ (by decide +kernel) (by decide +kernel) (Nat.le_of_ble_eq_true rfl) (h1 _ (fun b d2 hI2 hs2 h5 hb0 => ?_))
  show MW mL_law (bc - 47) (bs - 8228) 2517 [(0, (5, 0)), (1, vR 0), (2, vR 65), (3, vR 74), (4, vR 75), (5, vI i), (6, vI k)] [vI b] g1 d2 Q
  refine mw_istore (pc' := 2519) (L' := [(0, (5, 0)), (1, vR 0), (2, vR 65), (3, vR 74), (4, vR 75), (5, vI i), (6, vI k), (7, vI b)]) dL_law_2517 rfl (by decide) rfl ?_
  refine mw_aload_n (v := vR 65) (pc' := 2520) dL_law_2519 rfl rfl (by simp) rfl ?_
  refine mw_callV (M' := mX12_thrown) (A := []) (A' := [vR 65]) (S := []) (a := 65) (pc' := 2523) dL_law_2520 rfl (Or.inl (goodW 1679 (by decide +kernel) rfl)) kM_X12_thrown kV_X12_thrown ⟨by decide, by decide, Nat.zero_le _, Nat.zero_le _, by decide⟩ rfl rfl rfl ⟨by decide, by omega⟩ (by decide +kernel) (by decide +kernel) (Nat.le_of_ble_eq_true rfl) (eX12_thrown ?_)
  show MW mL_law (bc - 47) (bs - 8228) 2523 [(0, (5, 0)), (1, vR 0), (2, vR 65), (3, vR 74), (4, vR 75), (5, vI i), (6, vI k), (7, vI b)] [vI (d2 65 5)] g1 d2 Q
  rw [h5]
  refine mw_iload (pc' := 2525) dL_law_2523 rfl rfl ?_
  refine mw_icmp_eq (tgt := 2530) (pc' := 2528) dL_law_2525 rfl (by decide) (fun _ => ?_) (fun c => absurd rfl c)
  refine mw_iload (pc' := 2532) dL_law_2530 rfl rfl ?_
  refine mw_if_ne (tgt := 2547) (pc' := 2535) dL_law_2532 rfl (by decide) (fun c => ?_) (fun c => ?_)
  · refine mw_goto (pc' := 0) (tgt := 3808) dL_law_2547 (by decide) ?_
    exact mw_loc (pc' := 0) [0, 1, 2, 3, 4, 5] rfl (mw_less ⟨by omega, by omega⟩ (h g1 d2 hI2 hs2))
  · have hb1 := hb0 c
    refine mw_aload_n (v := vR 74) (pc' := 2536) dL_law_2535 rfl rfl (by simp) rfl ?_
    refine mw_iconst (pc' := 2537) dL_law_2536 rfl ⟨by decide, by decide⟩ ?_
    refine mw_lald (pc' := 2538) dL_law_2537 rfl (by decide +kernel) ⟨by decide, by decide⟩ (by rw [show LN 74 = 1 by decide +kernel]; exact ⟨by decide, by decide⟩) ?_
    refine mw_iload (pc' := 2540) dL_law_2538 rfl rfl ?_
    refine mw_i2l (pc' := 2541) dL_law_2540 rfl ?_
    refine mw_lcmp (pc' := 2542) dL_law_2541 rfl ?_
    refine mw_if_eq (tgt := 2547) (pc' := 2545) dL_law_2542 rfl (by decide) (fun _ => ?_) (fun c3 => absurd (by rw [hb1]; exact lCmp_rf) c3)
    refine mw_goto (pc' := 0) (tgt := 3808) dL_law_2547 (by decide) ?_
    exact mw_loc (pc' := 0) [0, 1, 2, 3, 4, 5] rfl (mw_less ⟨by omega, by omega⟩ (h g1 d2 hI2 hs2))
theorem lc_40 {i : Int} {bc bs : Nat} {g : mG} {d : mD} {Q : mQ} (hI : INV g d) (hi : 0 ≤ i ∧ i + 3 < d SCR (-1)) (hN : d SCR (-1) ≤ 2048) (hb : 47 ≤ bc ∧ 8228 ≤ bs) (h : ∀ g' d', INV g' d' → d' SCR = d SCR → MW mL_law (bc - 47) (bs - 8228) 3808 [(0, (5, 0)), (1, vR 0), (2, vR 65), (3, vR 74), (4, vR 75), (5, vI i)] [] g' d' Q) : MW mL_law bc bs 2550 [(0, (5, 0)), (1, vR 0), (2, vR 65), (3, vR 74), (4, vR 75), (5, vI i)] [] g d Q := by
  refine mw_top (fun hT => ?_)
  have hG : 76 ≤ g.2.1 := hT.2
  refine mw_aload_n (v := vR 0) (pc' := 2551) dL_law_2550 rfl rfl (by simp) rfl ?_
  refine mw_aload_n (v := (5, 0)) (pc' := 2552) dL_law_2551 rfl rfl (by simp) rfl ?_
  refine mw_iload (pc' := 2554) dL_law_2552 rfl rfl ?_
  refine mw_iconst (pc' := 2555) dL_law_2554 rfl ⟨by decide, by decide⟩ ?_
  refine mw_iadd (pc' := 2556) dL_law_2555 rfl (ik (by omega)) ?_
  refine mw_xld (pc' := 2557) dL_law_2556 rfl ⟨by omega, by omega⟩ ?_
  refine mw_aload_n (v := vR 74) (pc' := 2558) dL_law_2557 rfl rfl (by simp) rfl ?_
  refine mw_callSX (M' := mL_lift) (A := [vR 0, vI (d SCR (i + 1)), vR 74]) (S := []) (pc' := 2561) dL_law_2558 rfl (goodW 1272 (by decide +kernel) rfl) kM_L_lift kS_L_lift ⟨by decide, by decide, Nat.le_trans (by decide) hb.1, Nat.le_trans (by decide) hb.2, by decide⟩ rfl rfl (Nat.le_of_ble_eq_true rfl) (MM.mono ?_ (MM.scr (o_lift g d hI)))
  intro o g1 d1 hh
  obtain ⟨⟨k, ho, h1⟩, hs1⟩ := hh
  subst ho
  show MW mL_law (bc - 47) (bs - 8228) 2561 [(0, (5, 0)), (1, vR 0), (2, vR 65), (3, vR 74), (4, vR 75), (5, vI i)] [vI k] g1 d1 Q
  refine mw_top (fun hT1 => ?_)
  have hG1 : 76 ≤ g1.2.1 := hT1.2
  refine mw_istore (pc' := 2563) (L' := [(0, (5, 0)), (1, vR 0), (2, vR 65), (3, vR 74), (4, vR 75), (5, vI i), (6, vI k)]) dL_law_2561 rfl (by decide) rfl ?_
  refine mw_aload_n (v := vR 65) (pc' := 2564) dL_law_2563 rfl rfl (by simp) rfl ?_
  refine mw_aload_n (v := (5, 0)) (pc' := 2565) dL_law_2564 rfl rfl (by simp) rfl ?_
  refine mw_iload (pc' := 2567) dL_law_2565 rfl rfl ?_
  refine mw_iconst (pc' := 2568) dL_law_2567 rfl ⟨by decide, by decide⟩ ?_
  refine mw_iadd (pc' := 2569) dL_law_2568 rfl (ik (by omega)) ?_
  refine mw_xld (pc' := 2570) dL_law_2569 rfl (by rw [hs1]; exact ⟨by omega, by omega⟩) ?_
  rw [hs1]
  refine mw_callV (M' := mX12_lift) (A := [vI (d SCR (i + 1))]) (A' := [vR 65, vI (d SCR (i + 1))]) (S := []) (a := 65) (pc' := 2573) dL_law_2570 rfl (Or.inl (goodW 1972 (by decide +kernel) rfl)) kM_X12_lift kV_X12_lift ⟨by decide, by decide, Nat.zero_le _, Nat.zero_le _, by decide⟩ rfl rfl rfl ⟨by decide, by omega⟩ (by decide +kernel) (by decide +kernel) (Nat.le_of_ble_eq_true rfl) (h1 _ (fun b d2 hI2 hs2 h5 hb0 => ?_))
  show MW mL_law (bc - 47) (bs - 8228) 2573 [(0, (5, 0)), (1, vR 0), (2, vR 65), (3, vR 74), (4, vR 75), (5, vI i), (6, vI k)] [vI b] g1 d2 Q
  refine mw_istore (pc' := 2575) (L' := [(0, (5, 0)), (1, vR 0), (2, vR 65), (3, vR 74), (4, vR 75), (5, vI i), (6, vI k), (7, vI b)]) dL_law_2573 rfl (by decide) rfl ?_
  refine mw_aload_n (v := vR 65) (pc' := 2576) dL_law_2575 rfl rfl (by simp) rfl ?_
  refine mw_callV (M' := mX12_thrown) (A := []) (A' := [vR 65]) (S := []) (a := 65) (pc' := 2579) dL_law_2576 rfl (Or.inl (goodW 1679 (by decide +kernel) rfl)) kM_X12_thrown kV_X12_thrown ⟨by decide, by decide, Nat.zero_le _, Nat.zero_le _, by decide⟩ rfl rfl rfl ⟨by decide, by omega⟩ (by decide +kernel) (by decide +kernel) (Nat.le_of_ble_eq_true rfl) (eX12_thrown ?_)
  show MW mL_law (bc - 47) (bs - 8228) 2579 [(0, (5, 0)), (1, vR 0), (2, vR 65), (3, vR 74), (4, vR 75), (5, vI i), (6, vI k), (7, vI b)] [vI (d2 65 5)] g1 d2 Q
  rw [h5]
  refine mw_iload (pc' := 2581) dL_law_2579 rfl rfl ?_
  refine mw_icmp_eq (tgt := 2586) (pc' := 2584) dL_law_2581 rfl (by decide) (fun _ => ?_) (fun c => absurd rfl c)
  refine mw_iload (pc' := 2588) dL_law_2586 rfl rfl ?_
  refine mw_if_ne (tgt := 2603) (pc' := 2591) dL_law_2588 rfl (by decide) (fun c => ?_) (fun c => ?_)
  · refine mw_goto (pc' := 0) (tgt := 3808) dL_law_2603 (by decide) ?_
    exact mw_loc (pc' := 0) [0, 1, 2, 3, 4, 5] rfl (mw_less ⟨by omega, by omega⟩ (h g1 d2 hI2 hs2))
  · have hb1 := hb0 c
    refine mw_aload_n (v := vR 74) (pc' := 2592) dL_law_2591 rfl rfl (by simp) rfl ?_
    refine mw_iconst (pc' := 2593) dL_law_2592 rfl ⟨by decide, by decide⟩ ?_
    refine mw_lald (pc' := 2594) dL_law_2593 rfl (by decide +kernel) ⟨by decide, by decide⟩ (by rw [show LN 74 = 1 by decide +kernel]; exact ⟨by decide, by decide⟩) ?_
    refine mw_iload (pc' := 2596) dL_law_2594 rfl rfl ?_
    refine mw_i2l (pc' := 2597) dL_law_2596 rfl ?_
    refine mw_lcmp (pc' := 2598) dL_law_2597 rfl ?_
    refine mw_if_eq (tgt := 2603) (pc' := 2601) dL_law_2598 rfl (by decide) (fun _ => ?_) (fun c3 => absurd (by rw [hb1]; exact lCmp_rf) c3)
    refine mw_goto (pc' := 0) (tgt := 3808) dL_law_2603 (by decide) ?_
    exact mw_loc (pc' := 0) [0, 1, 2, 3, 4, 5] rfl (mw_less ⟨by omega, by omega⟩ (h g1 d2 hI2 hs2))
theorem lc_41 {i : Int} {bc bs : Nat} {g : mG} {d : mD} {Q : mQ} (hI : INV g d) (hi : 0 ≤ i ∧ i + 3 < d SCR (-1)) (hN : d SCR (-1) ≤ 2048) (hb : 47 ≤ bc ∧ 8228 ≤ bs) (h : ∀ g' d', INV g' d' → d' SCR = d SCR → MW mL_law (bc - 47) (bs - 8228) 3808 [(0, (5, 0)), (1, vR 0), (2, vR 65), (3, vR 74), (4, vR 75), (5, vI i)] [] g' d' Q) : MW mL_law bc bs 2606 [(0, (5, 0)), (1, vR 0), (2, vR 65), (3, vR 74), (4, vR 75), (5, vI i)] [] g d Q := by
  refine mw_top (fun hT => ?_)
  have hG : 76 ≤ g.2.1 := hT.2
  refine mw_aload_n (v := vR 0) (pc' := 2607) dL_law_2606 rfl rfl (by simp) rfl ?_
  refine mw_callV (M' := mX11_staysInForce) (A := []) (A' := [vR 0]) (S := []) (a := 0) (pc' := 2610) dL_law_2607 rfl (Or.inl (goodW 487 (by decide +kernel) rfl)) kM_X11_staysInForce kV_X11_staysInForce ⟨by decide, by decide, Nat.zero_le _, Nat.zero_le _, by decide⟩ rfl rfl rfl ⟨by decide, by omega⟩ (by decide +kernel) (by decide +kernel) (Nat.le_of_ble_eq_true rfl) (MM.mono ?_ (o_staysInForce g d hI))
  intro o g1 d1 hh
  obtain ⟨k, ho, h1⟩ := hh
  subst ho
  show MW mL_law bc bs 2610 [(0, (5, 0)), (1, vR 0), (2, vR 65), (3, vR 74), (4, vR 75), (5, vI i)] [vI k] g1 d1 Q
  refine mw_top (fun hT1 => ?_)
  have hG1 : 76 ≤ g1.2.1 := hT1.2
  refine mw_aload_n (v := vR 65) (pc' := 2611) dL_law_2610 rfl rfl (by simp) rfl ?_
  refine mw_callV (M' := mX12_staysInForce) (A := []) (A' := [vR 65]) (S := [vI k]) (a := 65) (pc' := 2614) dL_law_2611 rfl (Or.inl (goodW 1976 (by decide +kernel) rfl)) kM_X12_staysInForce kV_X12_staysInForce ⟨by decide, by decide, Nat.zero_le _, Nat.zero_le _, by decide⟩ rfl rfl rfl ⟨by decide, by omega⟩ (by decide +kernel) (by decide +kernel) (Nat.le_of_ble_eq_true rfl) (h1 _ (fun b d2 hI2 hs2 hb0 => ?_))
  show MW mL_law bc bs 2614 [(0, (5, 0)), (1, vR 0), (2, vR 65), (3, vR 74), (4, vR 75), (5, vI i)] [vI b, vI k] g1 d2 Q
  refine mw_icmp_eq (tgt := 3808) (pc' := 2617) dL_law_2614 rfl (by decide) (fun _ => ?_) (fun c => absurd hb0.symm c)
  exact mw_less ⟨by omega, by omega⟩ (h g1 d2 hI2 hs2)
theorem lc_42 {i : Int} {bc bs : Nat} {g : mG} {d : mD} {Q : mQ} (hI : INV g d) (hi : 0 ≤ i ∧ i + 3 < d SCR (-1)) (hN : d SCR (-1) ≤ 2048) (hb : 47 ≤ bc ∧ 8228 ≤ bs) (h : ∀ g' d', INV g' d' → d' SCR = d SCR → MW mL_law (bc - 47) (bs - 8228) 3808 [(0, (5, 0)), (1, vR 0), (2, vR 65), (3, vR 74), (4, vR 75), (5, vI i)] [] g' d' Q) : MW mL_law bc bs 2619 [(0, (5, 0)), (1, vR 0), (2, vR 65), (3, vR 74), (4, vR 75), (5, vI i)] [] g d Q := by
  refine mw_top (fun hT => ?_)
  have hG : 76 ≤ g.2.1 := hT.2
  refine mw_aload_n (v := vR 0) (pc' := 2620) dL_law_2619 rfl rfl (by simp) rfl ?_
  refine mw_aload_n (v := (5, 0)) (pc' := 2621) dL_law_2620 rfl rfl (by simp) rfl ?_
  refine mw_iload (pc' := 2623) dL_law_2621 rfl rfl ?_
  refine mw_iconst (pc' := 2624) dL_law_2623 rfl ⟨by decide, by decide⟩ ?_
  refine mw_iadd (pc' := 2625) dL_law_2624 rfl (ik (by omega)) ?_
  refine mw_xld (pc' := 2626) dL_law_2625 rfl ⟨by omega, by omega⟩ ?_
  refine mw_aload_n (v := (5, 0)) (pc' := 2627) dL_law_2626 rfl rfl (by simp) rfl ?_
  refine mw_iload (pc' := 2629) dL_law_2627 rfl rfl ?_
  refine mw_iconst (pc' := 2630) dL_law_2629 rfl ⟨by decide, by decide⟩ ?_
  refine mw_iadd (pc' := 2631) dL_law_2630 rfl (ik (by omega)) ?_
  refine mw_xld (pc' := 2632) dL_law_2631 rfl ⟨by omega, by omega⟩ ?_
  refine mw_aload_n (v := vR 74) (pc' := 2633) dL_law_2632 rfl rfl (by simp) rfl ?_
  refine mw_callSX (M' := mL_isStopped) (A := [vR 0, vI (d SCR (i + 1)), vI (d SCR (i + 2)), vR 74]) (S := []) (pc' := 2636) dL_law_2633 rfl (goodW 1288 (by decide +kernel) rfl) kM_L_isStopped kS_L_isStopped ⟨by decide, by decide, Nat.le_trans (by decide) hb.1, Nat.le_trans (by decide) hb.2, by decide⟩ rfl rfl (Nat.le_of_ble_eq_true rfl) (MM.mono ?_ (MM.scr (o_isStopped g d hI)))
  intro o g1 d1 hh
  obtain ⟨⟨k, ho, h1⟩, hs1⟩ := hh
  subst ho
  show MW mL_law (bc - 2) (bs - 12) 2636 [(0, (5, 0)), (1, vR 0), (2, vR 65), (3, vR 74), (4, vR 75), (5, vI i)] [vI k] g1 d1 Q
  refine mw_top (fun hT1 => ?_)
  have hG1 : 76 ≤ g1.2.1 := hT1.2
  refine mw_istore (pc' := 2638) (L' := [(0, (5, 0)), (1, vR 0), (2, vR 65), (3, vR 74), (4, vR 75), (5, vI i), (6, vI k)]) dL_law_2636 rfl (by decide) rfl ?_
  refine mw_aload_n (v := vR 65) (pc' := 2639) dL_law_2638 rfl rfl (by simp) rfl ?_
  refine mw_aload_n (v := (5, 0)) (pc' := 2640) dL_law_2639 rfl rfl (by simp) rfl ?_
  refine mw_iload (pc' := 2642) dL_law_2640 rfl rfl ?_
  refine mw_iconst (pc' := 2643) dL_law_2642 rfl ⟨by decide, by decide⟩ ?_
  refine mw_iadd (pc' := 2644) dL_law_2643 rfl (ik (by omega)) ?_
  refine mw_xld (pc' := 2645) dL_law_2644 rfl (by rw [hs1]; exact ⟨by omega, by omega⟩) ?_
  rw [hs1]
  refine mw_aload_n (v := (5, 0)) (pc' := 2646) dL_law_2645 rfl rfl (by simp) rfl ?_
  refine mw_iload (pc' := 2648) dL_law_2646 rfl rfl ?_
  refine mw_iconst (pc' := 2649) dL_law_2648 rfl ⟨by decide, by decide⟩ ?_
  refine mw_iadd (pc' := 2650) dL_law_2649 rfl (ik (by omega)) ?_
  refine mw_xld (pc' := 2651) dL_law_2650 rfl (by rw [hs1]; exact ⟨by omega, by omega⟩) ?_
  rw [hs1]
  refine mw_callV (M' := mX12_isStopped) (A := [vI (d SCR (i + 1)), vI (d SCR (i + 2))]) (A' := [vR 65, vI (d SCR (i + 1)), vI (d SCR (i + 2))]) (S := []) (a := 65) (pc' := 2654) dL_law_2651 rfl (Or.inl (goodW 1980 (by decide +kernel) rfl)) kM_X12_isStopped kV_X12_isStopped ⟨by decide, by decide, Nat.zero_le _, Nat.zero_le _, by decide⟩ rfl rfl rfl ⟨by decide, by omega⟩ (by decide +kernel) (by decide +kernel) (Nat.le_of_ble_eq_true rfl) (h1 _ (fun b d2 hI2 hs2 h5 hb0 => ?_))
  show MW mL_law (bc - 2) (bs - 12) 2654 [(0, (5, 0)), (1, vR 0), (2, vR 65), (3, vR 74), (4, vR 75), (5, vI i), (6, vI k)] [vI b] g1 d2 Q
  refine mw_istore (pc' := 2656) (L' := [(0, (5, 0)), (1, vR 0), (2, vR 65), (3, vR 74), (4, vR 75), (5, vI i), (6, vI k), (7, vI b)]) dL_law_2654 rfl (by decide) rfl ?_
  refine mw_aload_n (v := vR 65) (pc' := 2657) dL_law_2656 rfl rfl (by simp) rfl ?_
  refine mw_callV (M' := mX12_thrown) (A := []) (A' := [vR 65]) (S := []) (a := 65) (pc' := 2660) dL_law_2657 rfl (Or.inl (goodW 1679 (by decide +kernel) rfl)) kM_X12_thrown kV_X12_thrown ⟨by decide, by decide, Nat.zero_le _, Nat.zero_le _, by decide⟩ rfl rfl rfl ⟨by decide, by omega⟩ (by decide +kernel) (by decide +kernel) (Nat.le_of_ble_eq_true rfl) (eX12_thrown ?_)
  show MW mL_law (bc - 2) (bs - 12) 2660 [(0, (5, 0)), (1, vR 0), (2, vR 65), (3, vR 74), (4, vR 75), (5, vI i), (6, vI k), (7, vI b)] [vI (d2 65 5)] g1 d2 Q
  rw [h5]
  refine mw_iload (pc' := 2662) dL_law_2660 rfl rfl ?_
  refine mw_icmp_eq (tgt := 2667) (pc' := 2665) dL_law_2662 rfl (by decide) (fun _ => ?_) (fun c => absurd rfl c)
  refine mw_iload (pc' := 2669) dL_law_2667 rfl rfl ?_
  refine mw_if_ne (tgt := 2691) (pc' := 2672) dL_law_2669 rfl (by decide) (fun c => ?_) (fun c => ?_)
  · refine mw_goto (pc' := 0) (tgt := 3808) dL_law_2691 (by decide) ?_
    exact mw_loc (pc' := 0) [0, 1, 2, 3, 4, 5] rfl (mw_less ⟨by omega, by omega⟩ (h g1 d2 hI2 hs2))
  · obtain ⟨hb1, hb2⟩ := hb0 c
    refine mw_aload_n (v := vR 74) (pc' := 2673) dL_law_2672 rfl rfl (by simp) rfl ?_
    refine mw_iconst (pc' := 2674) dL_law_2673 rfl ⟨by decide, by decide⟩ ?_
    refine mw_lald (pc' := 2675) dL_law_2674 rfl (by decide +kernel) ⟨by decide, by decide⟩ (by rw [show LN 74 = 1 by decide +kernel]; exact ⟨by decide, by decide⟩) ?_
    refine mw_iload (pc' := 2677) dL_law_2675 rfl rfl ?_
    rcases hb2 with hb2 | hb2
    · rw [← hb1, hb2]
      refine mw_if_eq (tgt := 2684) (pc' := 2680) dL_law_2677 rfl (by decide) (fun _ => ?_) (fun c2 => absurd rfl c2)
      refine mw_lconst0 (pc' := 2685) dL_law_2684 rfl ?_
      refine mw_lcmp (pc' := 2686) dL_law_2685 rfl ?_
      refine mw_if_eq (tgt := 2691) (pc' := 2689) dL_law_2686 rfl (by decide) (fun _ => ?_) (fun c3 => absurd lCmp_rf c3)
      refine mw_goto (pc' := 0) (tgt := 3808) dL_law_2691 (by decide) ?_
      exact mw_loc (pc' := 0) [0, 1, 2, 3, 4, 5] rfl (mw_less ⟨by omega, by omega⟩ (h g1 d2 hI2 hs2))
    · rw [← hb1, hb2]
      refine mw_if_eq (tgt := 2684) (pc' := 2680) dL_law_2677 rfl (by decide) (fun c2 => absurd c2 (by decide)) (fun _ => ?_)
      refine mw_lconst1 (pc' := 2681) dL_law_2680 rfl ?_
      refine mw_goto (pc' := 0) (tgt := 2685) dL_law_2681 (by decide) ?_
      refine mw_lcmp (pc' := 2686) dL_law_2685 rfl ?_
      refine mw_if_eq (tgt := 2691) (pc' := 2689) dL_law_2686 rfl (by decide) (fun _ => ?_) (fun c3 => absurd lCmp_rf c3)
      refine mw_goto (pc' := 0) (tgt := 3808) dL_law_2691 (by decide) ?_
      exact mw_loc (pc' := 0) [0, 1, 2, 3, 4, 5] rfl (mw_less ⟨by omega, by omega⟩ (h g1 d2 hI2 hs2))
theorem lc_43 {i : Int} {bc bs : Nat} {g : mG} {d : mD} {Q : mQ} (hI : INV g d) (hi : 0 ≤ i ∧ i + 3 < d SCR (-1)) (hN : d SCR (-1) ≤ 2048) (hb : 47 ≤ bc ∧ 8228 ≤ bs) (h : ∀ g' d', INV g' d' → d' SCR = d SCR → MW mL_law (bc - 47) (bs - 8228) 3808 [(0, (5, 0)), (1, vR 0), (2, vR 65), (3, vR 74), (4, vR 75), (5, vI i)] [] g' d' Q) : MW mL_law bc bs 2694 [(0, (5, 0)), (1, vR 0), (2, vR 65), (3, vR 74), (4, vR 75), (5, vI i)] [] g d Q := by
  refine mw_top (fun hT => ?_)
  have hG : 76 ≤ g.2.1 := hT.2
  refine mw_aload_n (v := vR 0) (pc' := 2695) dL_law_2694 rfl rfl (by simp) rfl ?_
  refine mw_aload_n (v := (5, 0)) (pc' := 2696) dL_law_2695 rfl rfl (by simp) rfl ?_
  refine mw_iload (pc' := 2698) dL_law_2696 rfl rfl ?_
  refine mw_iconst (pc' := 2699) dL_law_2698 rfl ⟨by decide, by decide⟩ ?_
  refine mw_iadd (pc' := 2700) dL_law_2699 rfl (ik (by omega)) ?_
  refine mw_xld (pc' := 2701) dL_law_2700 rfl ⟨by omega, by omega⟩ ?_
  refine mw_aload_n (v := (5, 0)) (pc' := 2702) dL_law_2701 rfl rfl (by simp) rfl ?_
  refine mw_iload (pc' := 2704) dL_law_2702 rfl rfl ?_
  refine mw_iconst (pc' := 2705) dL_law_2704 rfl ⟨by decide, by decide⟩ ?_
  refine mw_iadd (pc' := 2706) dL_law_2705 rfl (ik (by omega)) ?_
  refine mw_xld (pc' := 2707) dL_law_2706 rfl ⟨by omega, by omega⟩ ?_
  refine mw_aload_n (v := (5, 0)) (pc' := 2708) dL_law_2707 rfl rfl (by simp) rfl ?_
  refine mw_iload (pc' := 2710) dL_law_2708 rfl rfl ?_
  refine mw_iconst (pc' := 2711) dL_law_2710 rfl ⟨by decide, by decide⟩ ?_
  refine mw_iadd (pc' := 2712) dL_law_2711 rfl (ik (by omega)) ?_
  refine mw_xld (pc' := 2713) dL_law_2712 rfl ⟨by omega, by omega⟩ ?_
  refine mw_aload_n (v := vR 74) (pc' := 2714) dL_law_2713 rfl rfl (by simp) rfl ?_
  refine mw_callSX (M' := mL_stoppedDays) (A := [vR 0, vI (d SCR (i + 1)), vI (d SCR (i + 2)), vI (d SCR (i + 3)), vR 74]) (S := []) (pc' := 2717) dL_law_2714 rfl (goodW 1295 (by decide +kernel) rfl) kM_L_stoppedDays kS_L_stoppedDays ⟨by decide, by decide, Nat.le_trans (by decide) hb.1, Nat.le_trans (by decide) hb.2, by decide⟩ rfl rfl (Nat.le_of_ble_eq_true rfl) (MM.mono ?_ (MM.scr (o_stoppedDays g d hI)))
  intro o g1 d1 hh
  obtain ⟨⟨k, ho, h1⟩, hs1⟩ := hh
  subst ho
  show MW mL_law (bc - 2) (bs - 12) 2717 [(0, (5, 0)), (1, vR 0), (2, vR 65), (3, vR 74), (4, vR 75), (5, vI i)] [vI k] g1 d1 Q
  refine mw_top (fun hT1 => ?_)
  have hG1 : 76 ≤ g1.2.1 := hT1.2
  refine mw_istore (pc' := 2719) (L' := [(0, (5, 0)), (1, vR 0), (2, vR 65), (3, vR 74), (4, vR 75), (5, vI i), (6, vI k)]) dL_law_2717 rfl (by decide) rfl ?_
  refine mw_aload_n (v := vR 65) (pc' := 2720) dL_law_2719 rfl rfl (by simp) rfl ?_
  refine mw_aload_n (v := (5, 0)) (pc' := 2721) dL_law_2720 rfl rfl (by simp) rfl ?_
  refine mw_iload (pc' := 2723) dL_law_2721 rfl rfl ?_
  refine mw_iconst (pc' := 2724) dL_law_2723 rfl ⟨by decide, by decide⟩ ?_
  refine mw_iadd (pc' := 2725) dL_law_2724 rfl (ik (by omega)) ?_
  refine mw_xld (pc' := 2726) dL_law_2725 rfl (by rw [hs1]; exact ⟨by omega, by omega⟩) ?_
  rw [hs1]
  refine mw_aload_n (v := (5, 0)) (pc' := 2727) dL_law_2726 rfl rfl (by simp) rfl ?_
  refine mw_iload (pc' := 2729) dL_law_2727 rfl rfl ?_
  refine mw_iconst (pc' := 2730) dL_law_2729 rfl ⟨by decide, by decide⟩ ?_
  refine mw_iadd (pc' := 2731) dL_law_2730 rfl (ik (by omega)) ?_
  refine mw_xld (pc' := 2732) dL_law_2731 rfl (by rw [hs1]; exact ⟨by omega, by omega⟩) ?_
  rw [hs1]
  refine mw_aload_n (v := (5, 0)) (pc' := 2733) dL_law_2732 rfl rfl (by simp) rfl ?_
  refine mw_iload (pc' := 2735) dL_law_2733 rfl rfl ?_
  refine mw_iconst (pc' := 2736) dL_law_2735 rfl ⟨by decide, by decide⟩ ?_
  refine mw_iadd (pc' := 2737) dL_law_2736 rfl (ik (by omega)) ?_
  refine mw_xld (pc' := 2738) dL_law_2737 rfl (by rw [hs1]; exact ⟨by omega, by omega⟩) ?_
  rw [hs1]
  refine mw_callV (M' := mX12_stoppedDays) (A := [vI (d SCR (i + 1)), vI (d SCR (i + 2)), vI (d SCR (i + 3))]) (A' := [vR 65, vI (d SCR (i + 1)), vI (d SCR (i + 2)), vI (d SCR (i + 3))]) (S := []) (a := 65) (pc' := 2741) dL_law_2738 rfl (Or.inl (goodW 1988 (by decide +kernel) rfl)) kM_X12_stoppedDays kV_X12_stoppedDays ⟨by decide, by decide, Nat.zero_le _, Nat.zero_le _, by decide⟩ rfl rfl rfl ⟨by decide, by omega⟩ (by decide +kernel) (by decide +kernel) (Nat.le_of_ble_eq_true rfl) (h1 _ (fun b d2 hI2 hs2 h5 hb0 => ?_))
  show MW mL_law (bc - 2) (bs - 12) 2741 [(0, (5, 0)), (1, vR 0), (2, vR 65), (3, vR 74), (4, vR 75), (5, vI i), (6, vI k)] [vI b] g1 d2 Q
  refine mw_istore (pc' := 2743) (L' := [(0, (5, 0)), (1, vR 0), (2, vR 65), (3, vR 74), (4, vR 75), (5, vI i), (6, vI k), (7, vI b)]) dL_law_2741 rfl (by decide) rfl ?_
  refine mw_aload_n (v := vR 65) (pc' := 2744) dL_law_2743 rfl rfl (by simp) rfl ?_
  refine mw_callV (M' := mX12_thrown) (A := []) (A' := [vR 65]) (S := []) (a := 65) (pc' := 2747) dL_law_2744 rfl (Or.inl (goodW 1679 (by decide +kernel) rfl)) kM_X12_thrown kV_X12_thrown ⟨by decide, by decide, Nat.zero_le _, Nat.zero_le _, by decide⟩ rfl rfl rfl ⟨by decide, by omega⟩ (by decide +kernel) (by decide +kernel) (Nat.le_of_ble_eq_true rfl) (eX12_thrown ?_)
  show MW mL_law (bc - 2) (bs - 12) 2747 [(0, (5, 0)), (1, vR 0), (2, vR 65), (3, vR 74), (4, vR 75), (5, vI i), (6, vI k), (7, vI b)] [vI (d2 65 5)] g1 d2 Q
  rw [h5]
  refine mw_iload (pc' := 2749) dL_law_2747 rfl rfl ?_
  refine mw_icmp_eq (tgt := 2754) (pc' := 2752) dL_law_2749 rfl (by decide) (fun _ => ?_) (fun c => absurd rfl c)
  refine mw_iload (pc' := 2756) dL_law_2754 rfl rfl ?_
  refine mw_if_ne (tgt := 2771) (pc' := 2759) dL_law_2756 rfl (by decide) (fun c => ?_) (fun c => ?_)
  · refine mw_goto (pc' := 0) (tgt := 3808) dL_law_2771 (by decide) ?_
    exact mw_loc (pc' := 0) [0, 1, 2, 3, 4, 5] rfl (mw_less ⟨by omega, by omega⟩ (h g1 d2 hI2 hs2))
  · have hb1 := hb0 c
    refine mw_aload_n (v := vR 74) (pc' := 2760) dL_law_2759 rfl rfl (by simp) rfl ?_
    refine mw_iconst (pc' := 2761) dL_law_2760 rfl ⟨by decide, by decide⟩ ?_
    refine mw_lald (pc' := 2762) dL_law_2761 rfl (by decide +kernel) ⟨by decide, by decide⟩ (by rw [show LN 74 = 1 by decide +kernel]; exact ⟨by decide, by decide⟩) ?_
    refine mw_iload (pc' := 2764) dL_law_2762 rfl rfl ?_
    refine mw_i2l (pc' := 2765) dL_law_2764 rfl ?_
    refine mw_lcmp (pc' := 2766) dL_law_2765 rfl ?_
    refine mw_if_eq (tgt := 2771) (pc' := 2769) dL_law_2766 rfl (by decide) (fun _ => ?_) (fun c3 => absurd (by rw [hb1]; exact lCmp_rf) c3)
    refine mw_goto (pc' := 0) (tgt := 3808) dL_law_2771 (by decide) ?_
    exact mw_loc (pc' := 0) [0, 1, 2, 3, 4, 5] rfl (mw_less ⟨by omega, by omega⟩ (h g1 d2 hI2 hs2))
theorem lc_44 {i : Int} {bc bs : Nat} {g : mG} {d : mD} {Q : mQ} (hI : INV g d) (hi : 0 ≤ i ∧ i + 3 < d SCR (-1)) (hN : d SCR (-1) ≤ 2048) (hb : 47 ≤ bc ∧ 8228 ≤ bs) (h : ∀ g' d', INV g' d' → d' SCR = d SCR → MW mL_law (bc - 47) (bs - 8228) 3808 [(0, (5, 0)), (1, vR 0), (2, vR 65), (3, vR 74), (4, vR 75), (5, vI i)] [] g' d' Q) : MW mL_law bc bs 2774 [(0, (5, 0)), (1, vR 0), (2, vR 65), (3, vR 74), (4, vR 75), (5, vI i)] [] g d Q := by
  refine mw_top (fun hT => ?_)
  have hG : 76 ≤ g.2.1 := hT.2
  refine mw_aload_n (v := vR 0) (pc' := 2775) dL_law_2774 rfl rfl (by simp) rfl ?_
  refine mw_aload_n (v := (5, 0)) (pc' := 2776) dL_law_2775 rfl rfl (by simp) rfl ?_
  refine mw_iload (pc' := 2778) dL_law_2776 rfl rfl ?_
  refine mw_iconst (pc' := 2779) dL_law_2778 rfl ⟨by decide, by decide⟩ ?_
  refine mw_iadd (pc' := 2780) dL_law_2779 rfl (ik (by omega)) ?_
  refine mw_xld (pc' := 2781) dL_law_2780 rfl ⟨by omega, by omega⟩ ?_
  refine mw_aload_n (v := (5, 0)) (pc' := 2782) dL_law_2781 rfl rfl (by simp) rfl ?_
  refine mw_iload (pc' := 2784) dL_law_2782 rfl rfl ?_
  refine mw_iconst (pc' := 2785) dL_law_2784 rfl ⟨by decide, by decide⟩ ?_
  refine mw_iadd (pc' := 2786) dL_law_2785 rfl (ik (by omega)) ?_
  refine mw_xld (pc' := 2787) dL_law_2786 rfl ⟨by omega, by omega⟩ ?_
  refine mw_aload_n (v := (5, 0)) (pc' := 2788) dL_law_2787 rfl rfl (by simp) rfl ?_
  refine mw_iload (pc' := 2790) dL_law_2788 rfl rfl ?_
  refine mw_iconst (pc' := 2791) dL_law_2790 rfl ⟨by decide, by decide⟩ ?_
  refine mw_iadd (pc' := 2792) dL_law_2791 rfl (ik (by omega)) ?_
  refine mw_xld (pc' := 2793) dL_law_2792 rfl ⟨by omega, by omega⟩ ?_
  refine mw_aload_n (v := vR 74) (pc' := 2794) dL_law_2793 rfl rfl (by simp) rfl ?_
  refine mw_callSX (M' := mL_stoppedDaysByMarking) (A := [vR 0, vI (d SCR (i + 1)), vI (d SCR (i + 2)), vI (d SCR (i + 3)), vR 74]) (S := []) (pc' := 2797) dL_law_2794 rfl (goodW 1302 (by decide +kernel) rfl) kM_L_stoppedDaysByMarking kS_L_stoppedDaysByMarking ⟨by decide, by decide, Nat.le_trans (by decide) hb.1, Nat.le_trans (by decide) hb.2, by decide⟩ rfl rfl (Nat.le_of_ble_eq_true rfl) (MM.mono ?_ (MM.scr (o_stoppedDaysByMarking g d hI)))
  intro o g1 d1 hh
  obtain ⟨⟨k, ho, h1⟩, hs1⟩ := hh
  subst ho
  show MW mL_law (bc - 2) (bs - 12) 2797 [(0, (5, 0)), (1, vR 0), (2, vR 65), (3, vR 74), (4, vR 75), (5, vI i)] [vI k] g1 d1 Q
  refine mw_top (fun hT1 => ?_)
  have hG1 : 76 ≤ g1.2.1 := hT1.2
  refine mw_istore (pc' := 2799) (L' := [(0, (5, 0)), (1, vR 0), (2, vR 65), (3, vR 74), (4, vR 75), (5, vI i), (6, vI k)]) dL_law_2797 rfl (by decide) rfl ?_
  refine mw_aload_n (v := vR 65) (pc' := 2800) dL_law_2799 rfl rfl (by simp) rfl ?_
  refine mw_aload_n (v := (5, 0)) (pc' := 2801) dL_law_2800 rfl rfl (by simp) rfl ?_
  refine mw_iload (pc' := 2803) dL_law_2801 rfl rfl ?_
  refine mw_iconst (pc' := 2804) dL_law_2803 rfl ⟨by decide, by decide⟩ ?_
  refine mw_iadd (pc' := 2805) dL_law_2804 rfl (ik (by omega)) ?_
  refine mw_xld (pc' := 2806) dL_law_2805 rfl (by rw [hs1]; exact ⟨by omega, by omega⟩) ?_
  rw [hs1]
  refine mw_aload_n (v := (5, 0)) (pc' := 2807) dL_law_2806 rfl rfl (by simp) rfl ?_
  refine mw_iload (pc' := 2809) dL_law_2807 rfl rfl ?_
  refine mw_iconst (pc' := 2810) dL_law_2809 rfl ⟨by decide, by decide⟩ ?_
  refine mw_iadd (pc' := 2811) dL_law_2810 rfl (ik (by omega)) ?_
  refine mw_xld (pc' := 2812) dL_law_2811 rfl (by rw [hs1]; exact ⟨by omega, by omega⟩) ?_
  rw [hs1]
  refine mw_aload_n (v := (5, 0)) (pc' := 2813) dL_law_2812 rfl rfl (by simp) rfl ?_
  refine mw_iload (pc' := 2815) dL_law_2813 rfl rfl ?_
  refine mw_iconst (pc' := 2816) dL_law_2815 rfl ⟨by decide, by decide⟩ ?_
  refine mw_iadd (pc' := 2817) dL_law_2816 rfl (ik (by omega)) ?_
  refine mw_xld (pc' := 2818) dL_law_2817 rfl (by rw [hs1]; exact ⟨by omega, by omega⟩) ?_
  rw [hs1]
  refine mw_callV (M' := mX12_stoppedDaysByMarking) (A := [vI (d SCR (i + 1)), vI (d SCR (i + 2)), vI (d SCR (i + 3))]) (A' := [vR 65, vI (d SCR (i + 1)), vI (d SCR (i + 2)), vI (d SCR (i + 3))]) (S := []) (a := 65) (pc' := 2821) dL_law_2818 rfl (Or.inl (goodW 1992 (by decide +kernel) rfl)) kM_X12_stoppedDaysByMarking kV_X12_stoppedDaysByMarking ⟨by decide, by decide, Nat.zero_le _, Nat.zero_le _, by decide⟩ rfl rfl rfl ⟨by decide, by omega⟩ (by decide +kernel) (by decide +kernel) (Nat.le_of_ble_eq_true rfl) (h1 _ (fun b d2 hI2 hs2 h5 hb0 => ?_))
  show MW mL_law (bc - 2) (bs - 12) 2821 [(0, (5, 0)), (1, vR 0), (2, vR 65), (3, vR 74), (4, vR 75), (5, vI i), (6, vI k)] [vI b] g1 d2 Q
  refine mw_istore (pc' := 2823) (L' := [(0, (5, 0)), (1, vR 0), (2, vR 65), (3, vR 74), (4, vR 75), (5, vI i), (6, vI k), (7, vI b)]) dL_law_2821 rfl (by decide) rfl ?_
  refine mw_aload_n (v := vR 65) (pc' := 2824) dL_law_2823 rfl rfl (by simp) rfl ?_
  refine mw_callV (M' := mX12_thrown) (A := []) (A' := [vR 65]) (S := []) (a := 65) (pc' := 2827) dL_law_2824 rfl (Or.inl (goodW 1679 (by decide +kernel) rfl)) kM_X12_thrown kV_X12_thrown ⟨by decide, by decide, Nat.zero_le _, Nat.zero_le _, by decide⟩ rfl rfl rfl ⟨by decide, by omega⟩ (by decide +kernel) (by decide +kernel) (Nat.le_of_ble_eq_true rfl) (eX12_thrown ?_)
  show MW mL_law (bc - 2) (bs - 12) 2827 [(0, (5, 0)), (1, vR 0), (2, vR 65), (3, vR 74), (4, vR 75), (5, vI i), (6, vI k), (7, vI b)] [vI (d2 65 5)] g1 d2 Q
  rw [h5]
  refine mw_iload (pc' := 2829) dL_law_2827 rfl rfl ?_
  refine mw_icmp_eq (tgt := 2834) (pc' := 2832) dL_law_2829 rfl (by decide) (fun _ => ?_) (fun c => absurd rfl c)
  refine mw_iload (pc' := 2836) dL_law_2834 rfl rfl ?_
  refine mw_if_ne (tgt := 2851) (pc' := 2839) dL_law_2836 rfl (by decide) (fun c => ?_) (fun c => ?_)
  · refine mw_goto (pc' := 0) (tgt := 3808) dL_law_2851 (by decide) ?_
    exact mw_loc (pc' := 0) [0, 1, 2, 3, 4, 5] rfl (mw_less ⟨by omega, by omega⟩ (h g1 d2 hI2 hs2))
  · have hb1 := hb0 c
    refine mw_aload_n (v := vR 74) (pc' := 2840) dL_law_2839 rfl rfl (by simp) rfl ?_
    refine mw_iconst (pc' := 2841) dL_law_2840 rfl ⟨by decide, by decide⟩ ?_
    refine mw_lald (pc' := 2842) dL_law_2841 rfl (by decide +kernel) ⟨by decide, by decide⟩ (by rw [show LN 74 = 1 by decide +kernel]; exact ⟨by decide, by decide⟩) ?_
    refine mw_iload (pc' := 2844) dL_law_2842 rfl rfl ?_
    refine mw_i2l (pc' := 2845) dL_law_2844 rfl ?_
    refine mw_lcmp (pc' := 2846) dL_law_2845 rfl ?_
    refine mw_if_eq (tgt := 2851) (pc' := 2849) dL_law_2846 rfl (by decide) (fun _ => ?_) (fun c3 => absurd (by rw [hb1]; exact lCmp_rf) c3)
    refine mw_goto (pc' := 0) (tgt := 3808) dL_law_2851 (by decide) ?_
    exact mw_loc (pc' := 0) [0, 1, 2, 3, 4, 5] rfl (mw_less ⟨by omega, by omega⟩ (h g1 d2 hI2 hs2))
theorem lc_45 {i : Int} {bc bs : Nat} {g : mG} {d : mD} {Q : mQ} (hI : INV g d) (hi : 0 ≤ i ∧ i + 3 < d SCR (-1)) (hN : d SCR (-1) ≤ 2048) (hb : 47 ≤ bc ∧ 8228 ≤ bs) (h : ∀ g' d', INV g' d' → d' SCR = d SCR → MW mL_law (bc - 47) (bs - 8228) 3808 [(0, (5, 0)), (1, vR 0), (2, vR 65), (3, vR 74), (4, vR 75), (5, vI i)] [] g' d' Q) : MW mL_law bc bs 2854 [(0, (5, 0)), (1, vR 0), (2, vR 65), (3, vR 74), (4, vR 75), (5, vI i)] [] g d Q := by
  refine mw_top (fun hT => ?_)
  have hG : 76 ≤ g.2.1 := hT.2
  refine mw_aload_n (v := vR 0) (pc' := 2855) dL_law_2854 rfl rfl (by simp) rfl ?_
  refine mw_aload_n (v := (5, 0)) (pc' := 2856) dL_law_2855 rfl rfl (by simp) rfl ?_
  refine mw_iload (pc' := 2858) dL_law_2856 rfl rfl ?_
  refine mw_iconst (pc' := 2859) dL_law_2858 rfl ⟨by decide, by decide⟩ ?_
  refine mw_iadd (pc' := 2860) dL_law_2859 rfl (ik (by omega)) ?_
  refine mw_xld (pc' := 2861) dL_law_2860 rfl ⟨by omega, by omega⟩ ?_
  refine mw_aload_n (v := (5, 0)) (pc' := 2862) dL_law_2861 rfl rfl (by simp) rfl ?_
  refine mw_iload (pc' := 2864) dL_law_2862 rfl rfl ?_
  refine mw_iconst (pc' := 2865) dL_law_2864 rfl ⟨by decide, by decide⟩ ?_
  refine mw_iadd (pc' := 2866) dL_law_2865 rfl (ik (by omega)) ?_
  refine mw_xld (pc' := 2867) dL_law_2866 rfl ⟨by omega, by omega⟩ ?_
  refine mw_aload_n (v := vR 74) (pc' := 2868) dL_law_2867 rfl rfl (by simp) rfl ?_
  refine mw_callSX (M' := mL_addOccurrence) (A := [vR 0, vI (d SCR (i + 1)), vI (d SCR (i + 2)), vR 74]) (S := []) (pc' := 2871) dL_law_2868 rfl (goodW 1309 (by decide +kernel) rfl) kM_L_addOccurrence kS_L_addOccurrence ⟨by decide, by decide, Nat.le_trans (by decide) hb.1, Nat.le_trans (by decide) hb.2, by decide⟩ rfl rfl (Nat.le_of_ble_eq_true rfl) (MM.mono ?_ (MM.scr (o_addOccurrence g d hI)))
  intro o g1 d1 hh
  obtain ⟨⟨k, ho, h1⟩, hs1⟩ := hh
  subst ho
  show MW mL_law (bc - 47) (bs - 8228) 2871 [(0, (5, 0)), (1, vR 0), (2, vR 65), (3, vR 74), (4, vR 75), (5, vI i)] [vI k] g1 d1 Q
  refine mw_top (fun hT1 => ?_)
  have hG1 : 76 ≤ g1.2.1 := hT1.2
  refine mw_istore (pc' := 2873) (L' := [(0, (5, 0)), (1, vR 0), (2, vR 65), (3, vR 74), (4, vR 75), (5, vI i), (6, vI k)]) dL_law_2871 rfl (by decide) rfl ?_
  refine mw_aload_n (v := vR 65) (pc' := 2874) dL_law_2873 rfl rfl (by simp) rfl ?_
  refine mw_aload_n (v := (5, 0)) (pc' := 2875) dL_law_2874 rfl rfl (by simp) rfl ?_
  refine mw_iload (pc' := 2877) dL_law_2875 rfl rfl ?_
  refine mw_iconst (pc' := 2878) dL_law_2877 rfl ⟨by decide, by decide⟩ ?_
  refine mw_iadd (pc' := 2879) dL_law_2878 rfl (ik (by omega)) ?_
  refine mw_xld (pc' := 2880) dL_law_2879 rfl (by rw [hs1]; exact ⟨by omega, by omega⟩) ?_
  rw [hs1]
  refine mw_aload_n (v := (5, 0)) (pc' := 2881) dL_law_2880 rfl rfl (by simp) rfl ?_
  refine mw_iload (pc' := 2883) dL_law_2881 rfl rfl ?_
  refine mw_iconst (pc' := 2884) dL_law_2883 rfl ⟨by decide, by decide⟩ ?_
  refine mw_iadd (pc' := 2885) dL_law_2884 rfl (ik (by omega)) ?_
  refine mw_xld (pc' := 2886) dL_law_2885 rfl (by rw [hs1]; exact ⟨by omega, by omega⟩) ?_
  rw [hs1]
  refine mw_callV (M' := mX12_addOccurrence) (A := [vI (d SCR (i + 1)), vI (d SCR (i + 2))]) (A' := [vR 65, vI (d SCR (i + 1)), vI (d SCR (i + 2))]) (S := []) (a := 65) (pc' := 2889) dL_law_2886 rfl (Or.inl (goodW 1997 (by decide +kernel) rfl)) kM_X12_addOccurrence kV_X12_addOccurrence ⟨by decide, by decide, Nat.zero_le _, Nat.zero_le _, by decide⟩ rfl rfl rfl ⟨by decide, by omega⟩ (by decide +kernel) (by decide +kernel) (Nat.le_of_ble_eq_true rfl) (h1 _ (fun b d2 hI2 hs2 h5 hb0 => ?_))
  show MW mL_law (bc - 47) (bs - 8228) 2889 [(0, (5, 0)), (1, vR 0), (2, vR 65), (3, vR 74), (4, vR 75), (5, vI i), (6, vI k)] [vI b] g1 d2 Q
  refine mw_istore (pc' := 2891) (L' := [(0, (5, 0)), (1, vR 0), (2, vR 65), (3, vR 74), (4, vR 75), (5, vI i), (6, vI k), (7, vI b)]) dL_law_2889 rfl (by decide) rfl ?_
  refine mw_aload_n (v := vR 65) (pc' := 2892) dL_law_2891 rfl rfl (by simp) rfl ?_
  refine mw_callV (M' := mX12_thrown) (A := []) (A' := [vR 65]) (S := []) (a := 65) (pc' := 2895) dL_law_2892 rfl (Or.inl (goodW 1679 (by decide +kernel) rfl)) kM_X12_thrown kV_X12_thrown ⟨by decide, by decide, Nat.zero_le _, Nat.zero_le _, by decide⟩ rfl rfl rfl ⟨by decide, by omega⟩ (by decide +kernel) (by decide +kernel) (Nat.le_of_ble_eq_true rfl) (eX12_thrown ?_)
  show MW mL_law (bc - 47) (bs - 8228) 2895 [(0, (5, 0)), (1, vR 0), (2, vR 65), (3, vR 74), (4, vR 75), (5, vI i), (6, vI k), (7, vI b)] [vI (d2 65 5)] g1 d2 Q
  rw [h5]
  refine mw_iload (pc' := 2897) dL_law_2895 rfl rfl ?_
  refine mw_icmp_eq (tgt := 2902) (pc' := 2900) dL_law_2897 rfl (by decide) (fun _ => ?_) (fun c => absurd rfl c)
  refine mw_iload (pc' := 2904) dL_law_2902 rfl rfl ?_
  refine mw_if_ne (tgt := 2919) (pc' := 2907) dL_law_2904 rfl (by decide) (fun c => ?_) (fun c => ?_)
  · refine mw_goto (pc' := 0) (tgt := 3808) dL_law_2919 (by decide) ?_
    exact mw_loc (pc' := 0) [0, 1, 2, 3, 4, 5] rfl (mw_less ⟨by omega, by omega⟩ (h g1 d2 hI2 hs2))
  · have hb1 := hb0 c
    refine mw_aload_n (v := vR 74) (pc' := 2908) dL_law_2907 rfl rfl (by simp) rfl ?_
    refine mw_iconst (pc' := 2909) dL_law_2908 rfl ⟨by decide, by decide⟩ ?_
    refine mw_lald (pc' := 2910) dL_law_2909 rfl (by decide +kernel) ⟨by decide, by decide⟩ (by rw [show LN 74 = 1 by decide +kernel]; exact ⟨by decide, by decide⟩) ?_
    refine mw_iload (pc' := 2912) dL_law_2910 rfl rfl ?_
    refine mw_i2l (pc' := 2913) dL_law_2912 rfl ?_
    refine mw_lcmp (pc' := 2914) dL_law_2913 rfl ?_
    refine mw_if_eq (tgt := 2919) (pc' := 2917) dL_law_2914 rfl (by decide) (fun _ => ?_) (fun c3 => absurd (by rw [hb1]; exact lCmp_rf) c3)
    refine mw_goto (pc' := 0) (tgt := 3808) dL_law_2919 (by decide) ?_
    exact mw_loc (pc' := 0) [0, 1, 2, 3, 4, 5] rfl (mw_less ⟨by omega, by omega⟩ (h g1 d2 hI2 hs2))
theorem lc_46 {i : Int} {bc bs : Nat} {g : mG} {d : mD} {Q : mQ} (hI : INV g d) (hi : 0 ≤ i ∧ i + 3 < d SCR (-1)) (hN : d SCR (-1) ≤ 2048) (hb : 47 ≤ bc ∧ 8228 ≤ bs) (h : ∀ g' d', INV g' d' → d' SCR = d SCR → MW mL_law (bc - 47) (bs - 8228) 3808 [(0, (5, 0)), (1, vR 0), (2, vR 65), (3, vR 74), (4, vR 75), (5, vI i)] [] g' d' Q) : MW mL_law bc bs 2922 [(0, (5, 0)), (1, vR 0), (2, vR 65), (3, vR 74), (4, vR 75), (5, vI i)] [] g d Q := by
  refine mw_top (fun hT => ?_)
  have hG : 76 ≤ g.2.1 := hT.2
  refine mw_aload_n (v := vR 0) (pc' := 2923) dL_law_2922 rfl rfl (by simp) rfl ?_
  refine mw_aload_n (v := (5, 0)) (pc' := 2924) dL_law_2923 rfl rfl (by simp) rfl ?_
  refine mw_iload (pc' := 2926) dL_law_2924 rfl rfl ?_
  refine mw_iconst (pc' := 2927) dL_law_2926 rfl ⟨by decide, by decide⟩ ?_
  refine mw_iadd (pc' := 2928) dL_law_2927 rfl (ik (by omega)) ?_
  refine mw_xld (pc' := 2929) dL_law_2928 rfl ⟨by omega, by omega⟩ ?_
  refine mw_aload_n (v := (5, 0)) (pc' := 2930) dL_law_2929 rfl rfl (by simp) rfl ?_
  refine mw_iload (pc' := 2932) dL_law_2930 rfl rfl ?_
  refine mw_iconst (pc' := 2933) dL_law_2932 rfl ⟨by decide, by decide⟩ ?_
  refine mw_iadd (pc' := 2934) dL_law_2933 rfl (ik (by omega)) ?_
  refine mw_xld (pc' := 2935) dL_law_2934 rfl ⟨by omega, by omega⟩ ?_
  refine mw_aload_n (v := vR 74) (pc' := 2936) dL_law_2935 rfl rfl (by simp) rfl ?_
  refine mw_callSX (M' := mL_linkOccurrences) (A := [vR 0, vI (d SCR (i + 1)), vI (d SCR (i + 2)), vR 74]) (S := []) (pc' := 2939) dL_law_2936 rfl (goodW 1325 (by decide +kernel) rfl) kM_L_linkOccurrences kS_L_linkOccurrences ⟨by decide, by decide, Nat.le_trans (by decide) hb.1, Nat.le_trans (by decide) hb.2, by decide⟩ rfl rfl (Nat.le_of_ble_eq_true rfl) (MM.mono ?_ (MM.scr (o_linkOccurrences g d hI)))
  intro o g1 d1 hh
  obtain ⟨⟨k, ho, h1⟩, hs1⟩ := hh
  subst ho
  show MW mL_law (bc - 47) (bs - 8228) 2939 [(0, (5, 0)), (1, vR 0), (2, vR 65), (3, vR 74), (4, vR 75), (5, vI i)] [vI k] g1 d1 Q
  refine mw_top (fun hT1 => ?_)
  have hG1 : 76 ≤ g1.2.1 := hT1.2
  refine mw_istore (pc' := 2941) (L' := [(0, (5, 0)), (1, vR 0), (2, vR 65), (3, vR 74), (4, vR 75), (5, vI i), (6, vI k)]) dL_law_2939 rfl (by decide) rfl ?_
  refine mw_aload_n (v := vR 65) (pc' := 2942) dL_law_2941 rfl rfl (by simp) rfl ?_
  refine mw_aload_n (v := (5, 0)) (pc' := 2943) dL_law_2942 rfl rfl (by simp) rfl ?_
  refine mw_iload (pc' := 2945) dL_law_2943 rfl rfl ?_
  refine mw_iconst (pc' := 2946) dL_law_2945 rfl ⟨by decide, by decide⟩ ?_
  refine mw_iadd (pc' := 2947) dL_law_2946 rfl (ik (by omega)) ?_
  refine mw_xld (pc' := 2948) dL_law_2947 rfl (by rw [hs1]; exact ⟨by omega, by omega⟩) ?_
  rw [hs1]
  refine mw_aload_n (v := (5, 0)) (pc' := 2949) dL_law_2948 rfl rfl (by simp) rfl ?_
  refine mw_iload (pc' := 2951) dL_law_2949 rfl rfl ?_
  refine mw_iconst (pc' := 2952) dL_law_2951 rfl ⟨by decide, by decide⟩ ?_
  refine mw_iadd (pc' := 2953) dL_law_2952 rfl (ik (by omega)) ?_
  refine mw_xld (pc' := 2954) dL_law_2953 rfl (by rw [hs1]; exact ⟨by omega, by omega⟩) ?_
  rw [hs1]
  refine mw_callV (M' := mX12_linkOccurrences) (A := [vI (d SCR (i + 1)), vI (d SCR (i + 2))]) (A' := [vR 65, vI (d SCR (i + 1)), vI (d SCR (i + 2))]) (S := []) (a := 65) (pc' := 2957) dL_law_2954 rfl (Or.inl (goodW 2004 (by decide +kernel) rfl)) kM_X12_linkOccurrences kV_X12_linkOccurrences ⟨by decide, by decide, Nat.zero_le _, Nat.zero_le _, by decide⟩ rfl rfl rfl ⟨by decide, by omega⟩ (by decide +kernel) (by decide +kernel) (Nat.le_of_ble_eq_true rfl) (h1 _ (fun b d2 hI2 hs2 h5 hb0 => ?_))
  show MW mL_law (bc - 47) (bs - 8228) 2957 [(0, (5, 0)), (1, vR 0), (2, vR 65), (3, vR 74), (4, vR 75), (5, vI i), (6, vI k)] [vI b] g1 d2 Q
  refine mw_istore (pc' := 2959) (L' := [(0, (5, 0)), (1, vR 0), (2, vR 65), (3, vR 74), (4, vR 75), (5, vI i), (6, vI k), (7, vI b)]) dL_law_2957 rfl (by decide) rfl ?_
  refine mw_aload_n (v := vR 65) (pc' := 2960) dL_law_2959 rfl rfl (by simp) rfl ?_
  refine mw_callV (M' := mX12_thrown) (A := []) (A' := [vR 65]) (S := []) (a := 65) (pc' := 2963) dL_law_2960 rfl (Or.inl (goodW 1679 (by decide +kernel) rfl)) kM_X12_thrown kV_X12_thrown ⟨by decide, by decide, Nat.zero_le _, Nat.zero_le _, by decide⟩ rfl rfl rfl ⟨by decide, by omega⟩ (by decide +kernel) (by decide +kernel) (Nat.le_of_ble_eq_true rfl) (eX12_thrown ?_)
  show MW mL_law (bc - 47) (bs - 8228) 2963 [(0, (5, 0)), (1, vR 0), (2, vR 65), (3, vR 74), (4, vR 75), (5, vI i), (6, vI k), (7, vI b)] [vI (d2 65 5)] g1 d2 Q
  rw [h5]
  refine mw_iload (pc' := 2965) dL_law_2963 rfl rfl ?_
  refine mw_icmp_eq (tgt := 2970) (pc' := 2968) dL_law_2965 rfl (by decide) (fun _ => ?_) (fun c => absurd rfl c)
  refine mw_iload (pc' := 2972) dL_law_2970 rfl rfl ?_
  refine mw_if_ne (tgt := 2987) (pc' := 2975) dL_law_2972 rfl (by decide) (fun c => ?_) (fun c => ?_)
  · refine mw_goto (pc' := 0) (tgt := 3808) dL_law_2987 (by decide) ?_
    exact mw_loc (pc' := 0) [0, 1, 2, 3, 4, 5] rfl (mw_less ⟨by omega, by omega⟩ (h g1 d2 hI2 hs2))
  · have hb1 := hb0 c
    refine mw_aload_n (v := vR 74) (pc' := 2976) dL_law_2975 rfl rfl (by simp) rfl ?_
    refine mw_iconst (pc' := 2977) dL_law_2976 rfl ⟨by decide, by decide⟩ ?_
    refine mw_lald (pc' := 2978) dL_law_2977 rfl (by decide +kernel) ⟨by decide, by decide⟩ (by rw [show LN 74 = 1 by decide +kernel]; exact ⟨by decide, by decide⟩) ?_
    refine mw_iload (pc' := 2980) dL_law_2978 rfl rfl ?_
    refine mw_i2l (pc' := 2981) dL_law_2980 rfl ?_
    refine mw_lcmp (pc' := 2982) dL_law_2981 rfl ?_
    refine mw_if_eq (tgt := 2987) (pc' := 2985) dL_law_2982 rfl (by decide) (fun _ => ?_) (fun c3 => absurd (by rw [hb1]; exact lCmp_rf) c3)
    refine mw_goto (pc' := 0) (tgt := 3808) dL_law_2987 (by decide) ?_
    exact mw_loc (pc' := 0) [0, 1, 2, 3, 4, 5] rfl (mw_less ⟨by omega, by omega⟩ (h g1 d2 hI2 hs2))
theorem lc_47 {i : Int} {bc bs : Nat} {g : mG} {d : mD} {Q : mQ} (hI : INV g d) (hi : 0 ≤ i ∧ i + 3 < d SCR (-1)) (hN : d SCR (-1) ≤ 2048) (hb : 47 ≤ bc ∧ 8228 ≤ bs) (h : ∀ g' d', INV g' d' → d' SCR = d SCR → MW mL_law (bc - 47) (bs - 8228) 3808 [(0, (5, 0)), (1, vR 0), (2, vR 65), (3, vR 74), (4, vR 75), (5, vI i)] [] g' d' Q) : MW mL_law bc bs 2990 [(0, (5, 0)), (1, vR 0), (2, vR 65), (3, vR 74), (4, vR 75), (5, vI i)] [] g d Q := by
  refine mw_top (fun hT => ?_)
  have hG : 76 ≤ g.2.1 := hT.2
  refine mw_aload_n (v := vR 0) (pc' := 2991) dL_law_2990 rfl rfl (by simp) rfl ?_
  refine mw_aload_n (v := (5, 0)) (pc' := 2992) dL_law_2991 rfl rfl (by simp) rfl ?_
  refine mw_iload (pc' := 2994) dL_law_2992 rfl rfl ?_
  refine mw_iconst (pc' := 2995) dL_law_2994 rfl ⟨by decide, by decide⟩ ?_
  refine mw_iadd (pc' := 2996) dL_law_2995 rfl (ik (by omega)) ?_
  refine mw_xld (pc' := 2997) dL_law_2996 rfl ⟨by omega, by omega⟩ ?_
  refine mw_aload_n (v := (5, 0)) (pc' := 2998) dL_law_2997 rfl rfl (by simp) rfl ?_
  refine mw_iload (pc' := 3000) dL_law_2998 rfl rfl ?_
  refine mw_iconst (pc' := 3001) dL_law_3000 rfl ⟨by decide, by decide⟩ ?_
  refine mw_iadd (pc' := 3002) dL_law_3001 rfl (ik (by omega)) ?_
  refine mw_xld (pc' := 3003) dL_law_3002 rfl ⟨by omega, by omega⟩ ?_
  refine mw_aload_n (v := vR 74) (pc' := 3004) dL_law_3003 rfl rfl (by simp) rfl ?_
  refine mw_callSX (M' := mL_sameConduct) (A := [vR 0, vI (d SCR (i + 1)), vI (d SCR (i + 2)), vR 74]) (S := []) (pc' := 3007) dL_law_3004 rfl (goodW 1350 (by decide +kernel) rfl) kM_L_sameConduct kS_L_sameConduct ⟨by decide, by decide, Nat.le_trans (by decide) hb.1, Nat.le_trans (by decide) hb.2, by decide⟩ rfl rfl (Nat.le_of_ble_eq_true rfl) (MM.mono ?_ (MM.scr (o_sameConduct g d hI)))
  intro o g1 d1 hh
  obtain ⟨⟨k, ho, h1⟩, hs1⟩ := hh
  subst ho
  show MW mL_law (bc - 2) (bs - 12) 3007 [(0, (5, 0)), (1, vR 0), (2, vR 65), (3, vR 74), (4, vR 75), (5, vI i)] [vI k] g1 d1 Q
  refine mw_top (fun hT1 => ?_)
  have hG1 : 76 ≤ g1.2.1 := hT1.2
  refine mw_istore (pc' := 3009) (L' := [(0, (5, 0)), (1, vR 0), (2, vR 65), (3, vR 74), (4, vR 75), (5, vI i), (6, vI k)]) dL_law_3007 rfl (by decide) rfl ?_
  refine mw_aload_n (v := vR 65) (pc' := 3010) dL_law_3009 rfl rfl (by simp) rfl ?_
  refine mw_aload_n (v := (5, 0)) (pc' := 3011) dL_law_3010 rfl rfl (by simp) rfl ?_
  refine mw_iload (pc' := 3013) dL_law_3011 rfl rfl ?_
  refine mw_iconst (pc' := 3014) dL_law_3013 rfl ⟨by decide, by decide⟩ ?_
  refine mw_iadd (pc' := 3015) dL_law_3014 rfl (ik (by omega)) ?_
  refine mw_xld (pc' := 3016) dL_law_3015 rfl (by rw [hs1]; exact ⟨by omega, by omega⟩) ?_
  rw [hs1]
  refine mw_aload_n (v := (5, 0)) (pc' := 3017) dL_law_3016 rfl rfl (by simp) rfl ?_
  refine mw_iload (pc' := 3019) dL_law_3017 rfl rfl ?_
  refine mw_iconst (pc' := 3020) dL_law_3019 rfl ⟨by decide, by decide⟩ ?_
  refine mw_iadd (pc' := 3021) dL_law_3020 rfl (ik (by omega)) ?_
  refine mw_xld (pc' := 3022) dL_law_3021 rfl (by rw [hs1]; exact ⟨by omega, by omega⟩) ?_
  rw [hs1]
  refine mw_callV (M' := mX12_sameConduct) (A := [vI (d SCR (i + 1)), vI (d SCR (i + 2))]) (A' := [vR 65, vI (d SCR (i + 1)), vI (d SCR (i + 2))]) (S := []) (a := 65) (pc' := 3025) dL_law_3022 rfl (Or.inl (goodW 2016 (by decide +kernel) rfl)) kM_X12_sameConduct kV_X12_sameConduct ⟨by decide, by decide, Nat.zero_le _, Nat.zero_le _, by decide⟩ rfl rfl rfl ⟨by decide, by omega⟩ (by decide +kernel) (by decide +kernel) (Nat.le_of_ble_eq_true rfl) (h1 _ (fun b d2 hI2 hs2 h5 hb0 => ?_))
  show MW mL_law (bc - 2) (bs - 12) 3025 [(0, (5, 0)), (1, vR 0), (2, vR 65), (3, vR 74), (4, vR 75), (5, vI i), (6, vI k)] [vI b] g1 d2 Q
  refine mw_istore (pc' := 3027) (L' := [(0, (5, 0)), (1, vR 0), (2, vR 65), (3, vR 74), (4, vR 75), (5, vI i), (6, vI k), (7, vI b)]) dL_law_3025 rfl (by decide) rfl ?_
  refine mw_aload_n (v := vR 65) (pc' := 3028) dL_law_3027 rfl rfl (by simp) rfl ?_
  refine mw_callV (M' := mX12_thrown) (A := []) (A' := [vR 65]) (S := []) (a := 65) (pc' := 3031) dL_law_3028 rfl (Or.inl (goodW 1679 (by decide +kernel) rfl)) kM_X12_thrown kV_X12_thrown ⟨by decide, by decide, Nat.zero_le _, Nat.zero_le _, by decide⟩ rfl rfl rfl ⟨by decide, by omega⟩ (by decide +kernel) (by decide +kernel) (Nat.le_of_ble_eq_true rfl) (eX12_thrown ?_)
  show MW mL_law (bc - 2) (bs - 12) 3031 [(0, (5, 0)), (1, vR 0), (2, vR 65), (3, vR 74), (4, vR 75), (5, vI i), (6, vI k), (7, vI b)] [vI (d2 65 5)] g1 d2 Q
  rw [h5]
  refine mw_iload (pc' := 3033) dL_law_3031 rfl rfl ?_
  refine mw_icmp_eq (tgt := 3038) (pc' := 3036) dL_law_3033 rfl (by decide) (fun _ => ?_) (fun c => absurd rfl c)
  refine mw_iload (pc' := 3040) dL_law_3038 rfl rfl ?_
  refine mw_if_ne (tgt := 3062) (pc' := 3043) dL_law_3040 rfl (by decide) (fun c => ?_) (fun c => ?_)
  · refine mw_goto (pc' := 0) (tgt := 3808) dL_law_3062 (by decide) ?_
    exact mw_loc (pc' := 0) [0, 1, 2, 3, 4, 5] rfl (mw_less ⟨by omega, by omega⟩ (h g1 d2 hI2 hs2))
  · obtain ⟨hb1, hb2⟩ := hb0 c
    refine mw_aload_n (v := vR 74) (pc' := 3044) dL_law_3043 rfl rfl (by simp) rfl ?_
    refine mw_iconst (pc' := 3045) dL_law_3044 rfl ⟨by decide, by decide⟩ ?_
    refine mw_lald (pc' := 3046) dL_law_3045 rfl (by decide +kernel) ⟨by decide, by decide⟩ (by rw [show LN 74 = 1 by decide +kernel]; exact ⟨by decide, by decide⟩) ?_
    refine mw_iload (pc' := 3048) dL_law_3046 rfl rfl ?_
    rcases hb2 with hb2 | hb2
    · rw [← hb1, hb2]
      refine mw_if_eq (tgt := 3055) (pc' := 3051) dL_law_3048 rfl (by decide) (fun _ => ?_) (fun c2 => absurd rfl c2)
      refine mw_lconst0 (pc' := 3056) dL_law_3055 rfl ?_
      refine mw_lcmp (pc' := 3057) dL_law_3056 rfl ?_
      refine mw_if_eq (tgt := 3062) (pc' := 3060) dL_law_3057 rfl (by decide) (fun _ => ?_) (fun c3 => absurd lCmp_rf c3)
      refine mw_goto (pc' := 0) (tgt := 3808) dL_law_3062 (by decide) ?_
      exact mw_loc (pc' := 0) [0, 1, 2, 3, 4, 5] rfl (mw_less ⟨by omega, by omega⟩ (h g1 d2 hI2 hs2))
    · rw [← hb1, hb2]
      refine mw_if_eq (tgt := 3055) (pc' := 3051) dL_law_3048 rfl (by decide) (fun c2 => absurd c2 (by decide)) (fun _ => ?_)
      refine mw_lconst1 (pc' := 3052) dL_law_3051 rfl ?_
      refine mw_goto (pc' := 0) (tgt := 3056) dL_law_3052 (by decide) ?_
      refine mw_lcmp (pc' := 3057) dL_law_3056 rfl ?_
      refine mw_if_eq (tgt := 3062) (pc' := 3060) dL_law_3057 rfl (by decide) (fun _ => ?_) (fun c3 => absurd lCmp_rf c3)
      refine mw_goto (pc' := 0) (tgt := 3808) dL_law_3062 (by decide) ?_
      exact mw_loc (pc' := 0) [0, 1, 2, 3, 4, 5] rfl (mw_less ⟨by omega, by omega⟩ (h g1 d2 hI2 hs2))
theorem lc_48 {i : Int} {bc bs : Nat} {g : mG} {d : mD} {Q : mQ} (hI : INV g d) (hi : 0 ≤ i ∧ i + 3 < d SCR (-1)) (hN : d SCR (-1) ≤ 2048) (hb : 47 ≤ bc ∧ 8228 ≤ bs) (h : ∀ g' d', INV g' d' → d' SCR = d SCR → MW mL_law (bc - 47) (bs - 8228) 3808 [(0, (5, 0)), (1, vR 0), (2, vR 65), (3, vR 74), (4, vR 75), (5, vI i)] [] g' d' Q) : MW mL_law bc bs 3065 [(0, (5, 0)), (1, vR 0), (2, vR 65), (3, vR 74), (4, vR 75), (5, vI i)] [] g d Q := by
  refine mw_top (fun hT => ?_)
  have hG : 76 ≤ g.2.1 := hT.2
  refine mw_aload_n (v := vR 0) (pc' := 3066) dL_law_3065 rfl rfl (by simp) rfl ?_
  refine mw_aload_n (v := (5, 0)) (pc' := 3067) dL_law_3066 rfl rfl (by simp) rfl ?_
  refine mw_iload (pc' := 3069) dL_law_3067 rfl rfl ?_
  refine mw_iconst (pc' := 3070) dL_law_3069 rfl ⟨by decide, by decide⟩ ?_
  refine mw_iadd (pc' := 3071) dL_law_3070 rfl (ik (by omega)) ?_
  refine mw_xld (pc' := 3072) dL_law_3071 rfl ⟨by omega, by omega⟩ ?_
  refine mw_aload_n (v := (5, 0)) (pc' := 3073) dL_law_3072 rfl rfl (by simp) rfl ?_
  refine mw_iload (pc' := 3075) dL_law_3073 rfl rfl ?_
  refine mw_iconst (pc' := 3076) dL_law_3075 rfl ⟨by decide, by decide⟩ ?_
  refine mw_iadd (pc' := 3077) dL_law_3076 rfl (ik (by omega)) ?_
  refine mw_xld (pc' := 3078) dL_law_3077 rfl ⟨by omega, by omega⟩ ?_
  refine mw_aload_n (v := vR 74) (pc' := 3079) dL_law_3078 rfl rfl (by simp) rfl ?_
  refine mw_callSX (M' := mL_sameConductBySearch) (A := [vR 0, vI (d SCR (i + 1)), vI (d SCR (i + 2)), vR 74]) (S := []) (pc' := 3082) dL_law_3079 rfl (goodW 1362 (by decide +kernel) rfl) kM_L_sameConductBySearch kS_L_sameConductBySearch ⟨by decide, by decide, Nat.le_trans (by decide) hb.1, Nat.le_trans (by decide) hb.2, by decide⟩ rfl rfl (Nat.le_of_ble_eq_true rfl) (MM.mono ?_ (MM.scr (o_sameConductBySearch g d hI)))
  intro o g1 d1 hh
  obtain ⟨⟨k, ho, h1⟩, hs1⟩ := hh
  subst ho
  show MW mL_law (bc - 2) (bs - 12) 3082 [(0, (5, 0)), (1, vR 0), (2, vR 65), (3, vR 74), (4, vR 75), (5, vI i)] [vI k] g1 d1 Q
  refine mw_top (fun hT1 => ?_)
  have hG1 : 76 ≤ g1.2.1 := hT1.2
  refine mw_istore (pc' := 3084) (L' := [(0, (5, 0)), (1, vR 0), (2, vR 65), (3, vR 74), (4, vR 75), (5, vI i), (6, vI k)]) dL_law_3082 rfl (by decide) rfl ?_
  refine mw_aload_n (v := vR 65) (pc' := 3085) dL_law_3084 rfl rfl (by simp) rfl ?_
  refine mw_aload_n (v := (5, 0)) (pc' := 3086) dL_law_3085 rfl rfl (by simp) rfl ?_
  refine mw_iload (pc' := 3088) dL_law_3086 rfl rfl ?_
  refine mw_iconst (pc' := 3089) dL_law_3088 rfl ⟨by decide, by decide⟩ ?_
  refine mw_iadd (pc' := 3090) dL_law_3089 rfl (ik (by omega)) ?_
  refine mw_xld (pc' := 3091) dL_law_3090 rfl (by rw [hs1]; exact ⟨by omega, by omega⟩) ?_
  rw [hs1]
  refine mw_aload_n (v := (5, 0)) (pc' := 3092) dL_law_3091 rfl rfl (by simp) rfl ?_
  refine mw_iload (pc' := 3094) dL_law_3092 rfl rfl ?_
  refine mw_iconst (pc' := 3095) dL_law_3094 rfl ⟨by decide, by decide⟩ ?_
  refine mw_iadd (pc' := 3096) dL_law_3095 rfl (ik (by omega)) ?_
  refine mw_xld (pc' := 3097) dL_law_3096 rfl (by rw [hs1]; exact ⟨by omega, by omega⟩) ?_
  rw [hs1]
  refine mw_callV (M' := mX12_sameConductBySearch) (A := [vI (d SCR (i + 1)), vI (d SCR (i + 2))]) (A' := [vR 65, vI (d SCR (i + 1)), vI (d SCR (i + 2))]) (S := []) (a := 65) (pc' := 3100) dL_law_3097 rfl (Or.inl (goodW 2020 (by decide +kernel) rfl)) kM_X12_sameConductBySearch kV_X12_sameConductBySearch ⟨by decide, by decide, Nat.zero_le _, Nat.zero_le _, by decide⟩ rfl rfl rfl ⟨by decide, by omega⟩ (by decide +kernel) (by decide +kernel) (Nat.le_of_ble_eq_true rfl) (h1 _ (fun b d2 hI2 hs2 h5 hb0 => ?_))
  show MW mL_law (bc - 2) (bs - 12) 3100 [(0, (5, 0)), (1, vR 0), (2, vR 65), (3, vR 74), (4, vR 75), (5, vI i), (6, vI k)] [vI b] g1 d2 Q
  refine mw_istore (pc' := 3102) (L' := [(0, (5, 0)), (1, vR 0), (2, vR 65), (3, vR 74), (4, vR 75), (5, vI i), (6, vI k), (7, vI b)]) dL_law_3100 rfl (by decide) rfl ?_
  refine mw_aload_n (v := vR 65) (pc' := 3103) dL_law_3102 rfl rfl (by simp) rfl ?_
  refine mw_callV (M' := mX12_thrown) (A := []) (A' := [vR 65]) (S := []) (a := 65) (pc' := 3106) dL_law_3103 rfl (Or.inl (goodW 1679 (by decide +kernel) rfl)) kM_X12_thrown kV_X12_thrown ⟨by decide, by decide, Nat.zero_le _, Nat.zero_le _, by decide⟩ rfl rfl rfl ⟨by decide, by omega⟩ (by decide +kernel) (by decide +kernel) (Nat.le_of_ble_eq_true rfl) (eX12_thrown ?_)
  show MW mL_law (bc - 2) (bs - 12) 3106 [(0, (5, 0)), (1, vR 0), (2, vR 65), (3, vR 74), (4, vR 75), (5, vI i), (6, vI k), (7, vI b)] [vI (d2 65 5)] g1 d2 Q
  rw [h5]
  refine mw_iload (pc' := 3108) dL_law_3106 rfl rfl ?_
  refine mw_icmp_eq (tgt := 3113) (pc' := 3111) dL_law_3108 rfl (by decide) (fun _ => ?_) (fun c => absurd rfl c)
  refine mw_iload (pc' := 3115) dL_law_3113 rfl rfl ?_
  refine mw_if_ne (tgt := 3137) (pc' := 3118) dL_law_3115 rfl (by decide) (fun c => ?_) (fun c => ?_)
  · refine mw_goto (pc' := 0) (tgt := 3808) dL_law_3137 (by decide) ?_
    exact mw_loc (pc' := 0) [0, 1, 2, 3, 4, 5] rfl (mw_less ⟨by omega, by omega⟩ (h g1 d2 hI2 hs2))
  · obtain ⟨hb1, hb2⟩ := hb0 c
    refine mw_aload_n (v := vR 74) (pc' := 3119) dL_law_3118 rfl rfl (by simp) rfl ?_
    refine mw_iconst (pc' := 3120) dL_law_3119 rfl ⟨by decide, by decide⟩ ?_
    refine mw_lald (pc' := 3121) dL_law_3120 rfl (by decide +kernel) ⟨by decide, by decide⟩ (by rw [show LN 74 = 1 by decide +kernel]; exact ⟨by decide, by decide⟩) ?_
    refine mw_iload (pc' := 3123) dL_law_3121 rfl rfl ?_
    rcases hb2 with hb2 | hb2
    · rw [← hb1, hb2]
      refine mw_if_eq (tgt := 3130) (pc' := 3126) dL_law_3123 rfl (by decide) (fun _ => ?_) (fun c2 => absurd rfl c2)
      refine mw_lconst0 (pc' := 3131) dL_law_3130 rfl ?_
      refine mw_lcmp (pc' := 3132) dL_law_3131 rfl ?_
      refine mw_if_eq (tgt := 3137) (pc' := 3135) dL_law_3132 rfl (by decide) (fun _ => ?_) (fun c3 => absurd lCmp_rf c3)
      refine mw_goto (pc' := 0) (tgt := 3808) dL_law_3137 (by decide) ?_
      exact mw_loc (pc' := 0) [0, 1, 2, 3, 4, 5] rfl (mw_less ⟨by omega, by omega⟩ (h g1 d2 hI2 hs2))
    · rw [← hb1, hb2]
      refine mw_if_eq (tgt := 3130) (pc' := 3126) dL_law_3123 rfl (by decide) (fun c2 => absurd c2 (by decide)) (fun _ => ?_)
      refine mw_lconst1 (pc' := 3127) dL_law_3126 rfl ?_
      refine mw_goto (pc' := 0) (tgt := 3131) dL_law_3127 (by decide) ?_
      refine mw_lcmp (pc' := 3132) dL_law_3131 rfl ?_
      refine mw_if_eq (tgt := 3137) (pc' := 3135) dL_law_3132 rfl (by decide) (fun _ => ?_) (fun c3 => absurd lCmp_rf c3)
      refine mw_goto (pc' := 0) (tgt := 3808) dL_law_3137 (by decide) ?_
      exact mw_loc (pc' := 0) [0, 1, 2, 3, 4, 5] rfl (mw_less ⟨by omega, by omega⟩ (h g1 d2 hI2 hs2))
theorem lc_49 {i : Int} {bc bs : Nat} {g : mG} {d : mD} {Q : mQ} (hI : INV g d) (hi : 0 ≤ i ∧ i + 3 < d SCR (-1)) (hN : d SCR (-1) ≤ 2048) (hb : 47 ≤ bc ∧ 8228 ≤ bs) (h : ∀ g' d', INV g' d' → d' SCR = d SCR → MW mL_law (bc - 47) (bs - 8228) 3808 [(0, (5, 0)), (1, vR 0), (2, vR 65), (3, vR 74), (4, vR 75), (5, vI i)] [] g' d' Q) : MW mL_law bc bs 3140 [(0, (5, 0)), (1, vR 0), (2, vR 65), (3, vR 74), (4, vR 75), (5, vI i)] [] g d Q := by
  refine mw_top (fun hT => ?_)
  have hG : 76 ≤ g.2.1 := hT.2
  refine mw_aload_n (v := vR 0) (pc' := 3141) dL_law_3140 rfl rfl (by simp) rfl ?_
  refine mw_aload_n (v := (5, 0)) (pc' := 3142) dL_law_3141 rfl rfl (by simp) rfl ?_
  refine mw_iload (pc' := 3144) dL_law_3142 rfl rfl ?_
  refine mw_iconst (pc' := 3145) dL_law_3144 rfl ⟨by decide, by decide⟩ ?_
  refine mw_iadd (pc' := 3146) dL_law_3145 rfl (ik (by omega)) ?_
  refine mw_xld (pc' := 3147) dL_law_3146 rfl ⟨by omega, by omega⟩ ?_
  refine mw_aload_n (v := vR 74) (pc' := 3148) dL_law_3147 rfl rfl (by simp) rfl ?_
  refine mw_callSX (M' := mL_barDay) (A := [vR 0, vI (d SCR (i + 1)), vR 74]) (S := []) (pc' := 3151) dL_law_3148 rfl (goodW 1369 (by decide +kernel) rfl) kM_L_barDay kS_L_barDay ⟨by decide, by decide, Nat.le_trans (by decide) hb.1, Nat.le_trans (by decide) hb.2, by decide⟩ rfl rfl (Nat.le_of_ble_eq_true rfl) (MM.mono ?_ (MM.scr (o_barDay g d hI)))
  intro o g1 d1 hh
  obtain ⟨⟨k, ho, h1⟩, hs1⟩ := hh
  subst ho
  show MW mL_law (bc - 2) (bs - 12) 3151 [(0, (5, 0)), (1, vR 0), (2, vR 65), (3, vR 74), (4, vR 75), (5, vI i)] [vI k] g1 d1 Q
  refine mw_top (fun hT1 => ?_)
  have hG1 : 76 ≤ g1.2.1 := hT1.2
  refine mw_istore (pc' := 3153) (L' := [(0, (5, 0)), (1, vR 0), (2, vR 65), (3, vR 74), (4, vR 75), (5, vI i), (6, vI k)]) dL_law_3151 rfl (by decide) rfl ?_
  refine mw_aload_n (v := vR 65) (pc' := 3154) dL_law_3153 rfl rfl (by simp) rfl ?_
  refine mw_aload_n (v := (5, 0)) (pc' := 3155) dL_law_3154 rfl rfl (by simp) rfl ?_
  refine mw_iload (pc' := 3157) dL_law_3155 rfl rfl ?_
  refine mw_iconst (pc' := 3158) dL_law_3157 rfl ⟨by decide, by decide⟩ ?_
  refine mw_iadd (pc' := 3159) dL_law_3158 rfl (ik (by omega)) ?_
  refine mw_xld (pc' := 3160) dL_law_3159 rfl (by rw [hs1]; exact ⟨by omega, by omega⟩) ?_
  rw [hs1]
  refine mw_callV (M' := mX12_barDay) (A := [vI (d SCR (i + 1))]) (A' := [vR 65, vI (d SCR (i + 1))]) (S := []) (a := 65) (pc' := 3163) dL_law_3160 rfl (Or.inl (goodW 2025 (by decide +kernel) rfl)) kM_X12_barDay kV_X12_barDay ⟨by decide, by decide, Nat.zero_le _, Nat.zero_le _, by decide⟩ rfl rfl rfl ⟨by decide, by omega⟩ (by decide +kernel) (by decide +kernel) (Nat.le_of_ble_eq_true rfl) (h1 _ (fun b d2 hI2 hs2 h5 hb0 => ?_))
  show MW mL_law (bc - 2) (bs - 12) 3163 [(0, (5, 0)), (1, vR 0), (2, vR 65), (3, vR 74), (4, vR 75), (5, vI i), (6, vI k)] [vI b] g1 d2 Q
  refine mw_istore (pc' := 3165) (L' := [(0, (5, 0)), (1, vR 0), (2, vR 65), (3, vR 74), (4, vR 75), (5, vI i), (6, vI k), (7, vI b)]) dL_law_3163 rfl (by decide) rfl ?_
  refine mw_aload_n (v := vR 65) (pc' := 3166) dL_law_3165 rfl rfl (by simp) rfl ?_
  refine mw_callV (M' := mX12_thrown) (A := []) (A' := [vR 65]) (S := []) (a := 65) (pc' := 3169) dL_law_3166 rfl (Or.inl (goodW 1679 (by decide +kernel) rfl)) kM_X12_thrown kV_X12_thrown ⟨by decide, by decide, Nat.zero_le _, Nat.zero_le _, by decide⟩ rfl rfl rfl ⟨by decide, by omega⟩ (by decide +kernel) (by decide +kernel) (Nat.le_of_ble_eq_true rfl) (eX12_thrown ?_)
  show MW mL_law (bc - 2) (bs - 12) 3169 [(0, (5, 0)), (1, vR 0), (2, vR 65), (3, vR 74), (4, vR 75), (5, vI i), (6, vI k), (7, vI b)] [vI (d2 65 5)] g1 d2 Q
  rw [h5]
  refine mw_iload (pc' := 3171) dL_law_3169 rfl rfl ?_
  refine mw_icmp_eq (tgt := 3176) (pc' := 3174) dL_law_3171 rfl (by decide) (fun _ => ?_) (fun c => absurd rfl c)
  refine mw_iload (pc' := 3178) dL_law_3176 rfl rfl ?_
  refine mw_if_ne (tgt := 3193) (pc' := 3181) dL_law_3178 rfl (by decide) (fun c => ?_) (fun c => ?_)
  · refine mw_goto (pc' := 0) (tgt := 3808) dL_law_3193 (by decide) ?_
    exact mw_loc (pc' := 0) [0, 1, 2, 3, 4, 5] rfl (mw_less ⟨by omega, by omega⟩ (h g1 d2 hI2 hs2))
  · have hb1 := hb0 c
    refine mw_aload_n (v := vR 74) (pc' := 3182) dL_law_3181 rfl rfl (by simp) rfl ?_
    refine mw_iconst (pc' := 3183) dL_law_3182 rfl ⟨by decide, by decide⟩ ?_
    refine mw_lald (pc' := 3184) dL_law_3183 rfl (by decide +kernel) ⟨by decide, by decide⟩ (by rw [show LN 74 = 1 by decide +kernel]; exact ⟨by decide, by decide⟩) ?_
    refine mw_iload (pc' := 3186) dL_law_3184 rfl rfl ?_
    refine mw_i2l (pc' := 3187) dL_law_3186 rfl ?_
    refine mw_lcmp (pc' := 3188) dL_law_3187 rfl ?_
    refine mw_if_eq (tgt := 3193) (pc' := 3191) dL_law_3188 rfl (by decide) (fun _ => ?_) (fun c3 => absurd (by rw [hb1]; exact lCmp_rf) c3)
    refine mw_goto (pc' := 0) (tgt := 3808) dL_law_3193 (by decide) ?_
    exact mw_loc (pc' := 0) [0, 1, 2, 3, 4, 5] rfl (mw_less ⟨by omega, by omega⟩ (h g1 d2 hI2 hs2))
theorem lc_50 {i : Int} {bc bs : Nat} {g : mG} {d : mD} {Q : mQ} (hI : INV g d) (hi : 0 ≤ i ∧ i + 3 < d SCR (-1)) (hN : d SCR (-1) ≤ 2048) (hb : 47 ≤ bc ∧ 8228 ≤ bs) (h : ∀ g' d', INV g' d' → d' SCR = d SCR → MW mL_law (bc - 47) (bs - 8228) 3808 [(0, (5, 0)), (1, vR 0), (2, vR 65), (3, vR 74), (4, vR 75), (5, vI i)] [] g' d' Q) : MW mL_law bc bs 3196 [(0, (5, 0)), (1, vR 0), (2, vR 65), (3, vR 74), (4, vR 75), (5, vI i)] [] g d Q := by
  refine mw_top (fun hT => ?_)
  have hG : 76 ≤ g.2.1 := hT.2
  refine mw_aload_n (v := vR 0) (pc' := 3197) dL_law_3196 rfl rfl (by simp) rfl ?_
  refine mw_aload_n (v := (5, 0)) (pc' := 3198) dL_law_3197 rfl rfl (by simp) rfl ?_
  refine mw_iload (pc' := 3200) dL_law_3198 rfl rfl ?_
  refine mw_iconst (pc' := 3201) dL_law_3200 rfl ⟨by decide, by decide⟩ ?_
  refine mw_iadd (pc' := 3202) dL_law_3201 rfl (ik (by omega)) ?_
  refine mw_xld (pc' := 3203) dL_law_3202 rfl ⟨by omega, by omega⟩ ?_
  refine mw_aload_n (v := (5, 0)) (pc' := 3204) dL_law_3203 rfl rfl (by simp) rfl ?_
  refine mw_iload (pc' := 3206) dL_law_3204 rfl rfl ?_
  refine mw_iconst (pc' := 3207) dL_law_3206 rfl ⟨by decide, by decide⟩ ?_
  refine mw_iadd (pc' := 3208) dL_law_3207 rfl (ik (by omega)) ?_
  refine mw_xld (pc' := 3209) dL_law_3208 rfl ⟨by omega, by omega⟩ ?_
  refine mw_aload_n (v := vR 74) (pc' := 3210) dL_law_3209 rfl rfl (by simp) rfl ?_
  refine mw_callSX (M' := mL_fileClaim) (A := [vR 0, vI (d SCR (i + 1)), vI (d SCR (i + 2)), vR 74]) (S := []) (pc' := 3213) dL_law_3210 rfl (goodW 1376 (by decide +kernel) rfl) kM_L_fileClaim kS_L_fileClaim ⟨by decide, by decide, Nat.le_trans (by decide) hb.1, Nat.le_trans (by decide) hb.2, by decide⟩ rfl rfl (Nat.le_of_ble_eq_true rfl) (MM.mono ?_ (MM.scr (o_fileClaim g d hI)))
  intro o g1 d1 hh
  obtain ⟨⟨k, ho, h1⟩, hs1⟩ := hh
  subst ho
  show MW mL_law (bc - 47) (bs - 8228) 3213 [(0, (5, 0)), (1, vR 0), (2, vR 65), (3, vR 74), (4, vR 75), (5, vI i)] [vI k] g1 d1 Q
  refine mw_top (fun hT1 => ?_)
  have hG1 : 76 ≤ g1.2.1 := hT1.2
  refine mw_istore (pc' := 3215) (L' := [(0, (5, 0)), (1, vR 0), (2, vR 65), (3, vR 74), (4, vR 75), (5, vI i), (6, vI k)]) dL_law_3213 rfl (by decide) rfl ?_
  refine mw_aload_n (v := vR 65) (pc' := 3216) dL_law_3215 rfl rfl (by simp) rfl ?_
  refine mw_aload_n (v := (5, 0)) (pc' := 3217) dL_law_3216 rfl rfl (by simp) rfl ?_
  refine mw_iload (pc' := 3219) dL_law_3217 rfl rfl ?_
  refine mw_iconst (pc' := 3220) dL_law_3219 rfl ⟨by decide, by decide⟩ ?_
  refine mw_iadd (pc' := 3221) dL_law_3220 rfl (ik (by omega)) ?_
  refine mw_xld (pc' := 3222) dL_law_3221 rfl (by rw [hs1]; exact ⟨by omega, by omega⟩) ?_
  rw [hs1]
  refine mw_aload_n (v := (5, 0)) (pc' := 3223) dL_law_3222 rfl rfl (by simp) rfl ?_
  refine mw_iload (pc' := 3225) dL_law_3223 rfl rfl ?_
  refine mw_iconst (pc' := 3226) dL_law_3225 rfl ⟨by decide, by decide⟩ ?_
  refine mw_iadd (pc' := 3227) dL_law_3226 rfl (ik (by omega)) ?_
  refine mw_xld (pc' := 3228) dL_law_3227 rfl (by rw [hs1]; exact ⟨by omega, by omega⟩) ?_
  rw [hs1]
  refine mw_callV (M' := mX12_fileClaim) (A := [vI (d SCR (i + 1)), vI (d SCR (i + 2))]) (A' := [vR 65, vI (d SCR (i + 1)), vI (d SCR (i + 2))]) (S := []) (a := 65) (pc' := 3231) dL_law_3228 rfl (Or.inl (goodW 2033 (by decide +kernel) rfl)) kM_X12_fileClaim kV_X12_fileClaim ⟨by decide, by decide, Nat.zero_le _, Nat.zero_le _, by decide⟩ rfl rfl rfl ⟨by decide, by omega⟩ (by decide +kernel) (by decide +kernel) (Nat.le_of_ble_eq_true rfl) (h1 _ (fun b d2 hI2 hs2 h5 hb0 => ?_))
  show MW mL_law (bc - 47) (bs - 8228) 3231 [(0, (5, 0)), (1, vR 0), (2, vR 65), (3, vR 74), (4, vR 75), (5, vI i), (6, vI k)] [vI b] g1 d2 Q
  refine mw_istore (pc' := 3233) (L' := [(0, (5, 0)), (1, vR 0), (2, vR 65), (3, vR 74), (4, vR 75), (5, vI i), (6, vI k), (7, vI b)]) dL_law_3231 rfl (by decide) rfl ?_
  refine mw_aload_n (v := vR 65) (pc' := 3234) dL_law_3233 rfl rfl (by simp) rfl ?_
  refine mw_callV (M' := mX12_thrown) (A := []) (A' := [vR 65]) (S := []) (a := 65) (pc' := 3237) dL_law_3234 rfl (Or.inl (goodW 1679 (by decide +kernel) rfl)) kM_X12_thrown kV_X12_thrown ⟨by decide, by decide, Nat.zero_le _, Nat.zero_le _, by decide⟩ rfl rfl rfl ⟨by decide, by omega⟩ (by decide +kernel) (by decide +kernel) (Nat.le_of_ble_eq_true rfl) (eX12_thrown ?_)
  show MW mL_law (bc - 47) (bs - 8228) 3237 [(0, (5, 0)), (1, vR 0), (2, vR 65), (3, vR 74), (4, vR 75), (5, vI i), (6, vI k), (7, vI b)] [vI (d2 65 5)] g1 d2 Q
  rw [h5]
  refine mw_iload (pc' := 3239) dL_law_3237 rfl rfl ?_
  refine mw_icmp_eq (tgt := 3244) (pc' := 3242) dL_law_3239 rfl (by decide) (fun _ => ?_) (fun c => absurd rfl c)
  refine mw_iload (pc' := 3246) dL_law_3244 rfl rfl ?_
  refine mw_if_ne (tgt := 3261) (pc' := 3249) dL_law_3246 rfl (by decide) (fun c => ?_) (fun c => ?_)
  · refine mw_goto (pc' := 0) (tgt := 3808) dL_law_3261 (by decide) ?_
    exact mw_loc (pc' := 0) [0, 1, 2, 3, 4, 5] rfl (mw_less ⟨by omega, by omega⟩ (h g1 d2 hI2 hs2))
  · have hb1 := hb0 c
    refine mw_aload_n (v := vR 74) (pc' := 3250) dL_law_3249 rfl rfl (by simp) rfl ?_
    refine mw_iconst (pc' := 3251) dL_law_3250 rfl ⟨by decide, by decide⟩ ?_
    refine mw_lald (pc' := 3252) dL_law_3251 rfl (by decide +kernel) ⟨by decide, by decide⟩ (by rw [show LN 74 = 1 by decide +kernel]; exact ⟨by decide, by decide⟩) ?_
    refine mw_iload (pc' := 3254) dL_law_3252 rfl rfl ?_
    refine mw_i2l (pc' := 3255) dL_law_3254 rfl ?_
    refine mw_lcmp (pc' := 3256) dL_law_3255 rfl ?_
    refine mw_if_eq (tgt := 3261) (pc' := 3259) dL_law_3256 rfl (by decide) (fun _ => ?_) (fun c3 => absurd (by rw [hb1]; exact lCmp_rf) c3)
    refine mw_goto (pc' := 0) (tgt := 3808) dL_law_3261 (by decide) ?_
    exact mw_loc (pc' := 0) [0, 1, 2, 3, 4, 5] rfl (mw_less ⟨by omega, by omega⟩ (h g1 d2 hI2 hs2))
theorem lc_51 {i : Int} {bc bs : Nat} {g : mG} {d : mD} {Q : mQ} (hI : INV g d) (hi : 0 ≤ i ∧ i + 3 < d SCR (-1)) (hN : d SCR (-1) ≤ 2048) (hb : 47 ≤ bc ∧ 8228 ≤ bs) (h : ∀ g' d', INV g' d' → d' SCR = d SCR → MW mL_law (bc - 47) (bs - 8228) 3808 [(0, (5, 0)), (1, vR 0), (2, vR 65), (3, vR 74), (4, vR 75), (5, vI i)] [] g' d' Q) : MW mL_law bc bs 3264 [(0, (5, 0)), (1, vR 0), (2, vR 65), (3, vR 74), (4, vR 75), (5, vI i)] [] g d Q := by
  refine mw_top (fun hT => ?_)
  have hG : 76 ≤ g.2.1 := hT.2
  refine mw_aload_n (v := vR 0) (pc' := 3265) dL_law_3264 rfl rfl (by simp) rfl ?_
  refine mw_aload_n (v := (5, 0)) (pc' := 3266) dL_law_3265 rfl rfl (by simp) rfl ?_
  refine mw_iload (pc' := 3268) dL_law_3266 rfl rfl ?_
  refine mw_iconst (pc' := 3269) dL_law_3268 rfl ⟨by decide, by decide⟩ ?_
  refine mw_iadd (pc' := 3270) dL_law_3269 rfl (ik (by omega)) ?_
  refine mw_xld (pc' := 3271) dL_law_3270 rfl ⟨by omega, by omega⟩ ?_
  refine mw_aload_n (v := (5, 0)) (pc' := 3272) dL_law_3271 rfl rfl (by simp) rfl ?_
  refine mw_iload (pc' := 3274) dL_law_3272 rfl rfl ?_
  refine mw_iconst (pc' := 3275) dL_law_3274 rfl ⟨by decide, by decide⟩ ?_
  refine mw_iadd (pc' := 3276) dL_law_3275 rfl (ik (by omega)) ?_
  refine mw_xld (pc' := 3277) dL_law_3276 rfl ⟨by omega, by omega⟩ ?_
  refine mw_aload_n (v := vR 74) (pc' := 3278) dL_law_3277 rfl rfl (by simp) rfl ?_
  refine mw_callSX (M' := mL_amendClaim) (A := [vR 0, vI (d SCR (i + 1)), vI (d SCR (i + 2)), vR 74]) (S := []) (pc' := 3281) dL_law_3278 rfl (goodW 1391 (by decide +kernel) rfl) kM_L_amendClaim kS_L_amendClaim ⟨by decide, by decide, Nat.le_trans (by decide) hb.1, Nat.le_trans (by decide) hb.2, by decide⟩ rfl rfl (Nat.le_of_ble_eq_true rfl) (MM.mono ?_ (MM.scr (o_amendClaim g d hI)))
  intro o g1 d1 hh
  obtain ⟨⟨k, ho, h1⟩, hs1⟩ := hh
  subst ho
  show MW mL_law (bc - 47) (bs - 8228) 3281 [(0, (5, 0)), (1, vR 0), (2, vR 65), (3, vR 74), (4, vR 75), (5, vI i)] [vI k] g1 d1 Q
  refine mw_top (fun hT1 => ?_)
  have hG1 : 76 ≤ g1.2.1 := hT1.2
  refine mw_istore (pc' := 3283) (L' := [(0, (5, 0)), (1, vR 0), (2, vR 65), (3, vR 74), (4, vR 75), (5, vI i), (6, vI k)]) dL_law_3281 rfl (by decide) rfl ?_
  refine mw_aload_n (v := vR 65) (pc' := 3284) dL_law_3283 rfl rfl (by simp) rfl ?_
  refine mw_aload_n (v := (5, 0)) (pc' := 3285) dL_law_3284 rfl rfl (by simp) rfl ?_
  refine mw_iload (pc' := 3287) dL_law_3285 rfl rfl ?_
  refine mw_iconst (pc' := 3288) dL_law_3287 rfl ⟨by decide, by decide⟩ ?_
  refine mw_iadd (pc' := 3289) dL_law_3288 rfl (ik (by omega)) ?_
  refine mw_xld (pc' := 3290) dL_law_3289 rfl (by rw [hs1]; exact ⟨by omega, by omega⟩) ?_
  rw [hs1]
  refine mw_aload_n (v := (5, 0)) (pc' := 3291) dL_law_3290 rfl rfl (by simp) rfl ?_
  refine mw_iload (pc' := 3293) dL_law_3291 rfl rfl ?_
  refine mw_iconst (pc' := 3294) dL_law_3293 rfl ⟨by decide, by decide⟩ ?_
  refine mw_iadd (pc' := 3295) dL_law_3294 rfl (ik (by omega)) ?_
  refine mw_xld (pc' := 3296) dL_law_3295 rfl (by rw [hs1]; exact ⟨by omega, by omega⟩) ?_
  rw [hs1]
  refine mw_callV (M' := mX12_amendClaim) (A := [vI (d SCR (i + 1)), vI (d SCR (i + 2))]) (A' := [vR 65, vI (d SCR (i + 1)), vI (d SCR (i + 2))]) (S := []) (a := 65) (pc' := 3299) dL_law_3296 rfl (Or.inl (goodW 2044 (by decide +kernel) rfl)) kM_X12_amendClaim kV_X12_amendClaim ⟨by decide, by decide, Nat.zero_le _, Nat.zero_le _, by decide⟩ rfl rfl rfl ⟨by decide, by omega⟩ (by decide +kernel) (by decide +kernel) (Nat.le_of_ble_eq_true rfl) (h1 _ (fun b d2 hI2 hs2 h5 hb0 => ?_))
  show MW mL_law (bc - 47) (bs - 8228) 3299 [(0, (5, 0)), (1, vR 0), (2, vR 65), (3, vR 74), (4, vR 75), (5, vI i), (6, vI k)] [vI b] g1 d2 Q
  refine mw_istore (pc' := 3301) (L' := [(0, (5, 0)), (1, vR 0), (2, vR 65), (3, vR 74), (4, vR 75), (5, vI i), (6, vI k), (7, vI b)]) dL_law_3299 rfl (by decide) rfl ?_
  refine mw_aload_n (v := vR 65) (pc' := 3302) dL_law_3301 rfl rfl (by simp) rfl ?_
  refine mw_callV (M' := mX12_thrown) (A := []) (A' := [vR 65]) (S := []) (a := 65) (pc' := 3305) dL_law_3302 rfl (Or.inl (goodW 1679 (by decide +kernel) rfl)) kM_X12_thrown kV_X12_thrown ⟨by decide, by decide, Nat.zero_le _, Nat.zero_le _, by decide⟩ rfl rfl rfl ⟨by decide, by omega⟩ (by decide +kernel) (by decide +kernel) (Nat.le_of_ble_eq_true rfl) (eX12_thrown ?_)
  show MW mL_law (bc - 47) (bs - 8228) 3305 [(0, (5, 0)), (1, vR 0), (2, vR 65), (3, vR 74), (4, vR 75), (5, vI i), (6, vI k), (7, vI b)] [vI (d2 65 5)] g1 d2 Q
  rw [h5]
  refine mw_iload (pc' := 3307) dL_law_3305 rfl rfl ?_
  refine mw_icmp_eq (tgt := 3312) (pc' := 3310) dL_law_3307 rfl (by decide) (fun _ => ?_) (fun c => absurd rfl c)
  refine mw_iload (pc' := 3314) dL_law_3312 rfl rfl ?_
  refine mw_if_ne (tgt := 3329) (pc' := 3317) dL_law_3314 rfl (by decide) (fun c => ?_) (fun c => ?_)
  · refine mw_goto (pc' := 0) (tgt := 3808) dL_law_3329 (by decide) ?_
    exact mw_loc (pc' := 0) [0, 1, 2, 3, 4, 5] rfl (mw_less ⟨by omega, by omega⟩ (h g1 d2 hI2 hs2))
  · have hb1 := hb0 c
    refine mw_aload_n (v := vR 74) (pc' := 3318) dL_law_3317 rfl rfl (by simp) rfl ?_
    refine mw_iconst (pc' := 3319) dL_law_3318 rfl ⟨by decide, by decide⟩ ?_
    refine mw_lald (pc' := 3320) dL_law_3319 rfl (by decide +kernel) ⟨by decide, by decide⟩ (by rw [show LN 74 = 1 by decide +kernel]; exact ⟨by decide, by decide⟩) ?_
    refine mw_iload (pc' := 3322) dL_law_3320 rfl rfl ?_
    refine mw_i2l (pc' := 3323) dL_law_3322 rfl ?_
    refine mw_lcmp (pc' := 3324) dL_law_3323 rfl ?_
    refine mw_if_eq (tgt := 3329) (pc' := 3327) dL_law_3324 rfl (by decide) (fun _ => ?_) (fun c3 => absurd (by rw [hb1]; exact lCmp_rf) c3)
    refine mw_goto (pc' := 0) (tgt := 3808) dL_law_3329 (by decide) ?_
    exact mw_loc (pc' := 0) [0, 1, 2, 3, 4, 5] rfl (mw_less ⟨by omega, by omega⟩ (h g1 d2 hI2 hs2))
theorem lc_52 {i : Int} {bc bs : Nat} {g : mG} {d : mD} {Q : mQ} (hI : INV g d) (hi : 0 ≤ i ∧ i + 3 < d SCR (-1)) (hN : d SCR (-1) ≤ 2048) (hb : 47 ≤ bc ∧ 8228 ≤ bs) (h : ∀ g' d', INV g' d' → d' SCR = d SCR → MW mL_law (bc - 47) (bs - 8228) 3808 [(0, (5, 0)), (1, vR 0), (2, vR 65), (3, vR 74), (4, vR 75), (5, vI i)] [] g' d' Q) : MW mL_law bc bs 3332 [(0, (5, 0)), (1, vR 0), (2, vR 65), (3, vR 74), (4, vR 75), (5, vI i)] [] g d Q := by
  refine mw_top (fun hT => ?_)
  have hG : 76 ≤ g.2.1 := hT.2
  refine mw_aload_n (v := vR 0) (pc' := 3333) dL_law_3332 rfl rfl (by simp) rfl ?_
  refine mw_aload_n (v := (5, 0)) (pc' := 3334) dL_law_3333 rfl rfl (by simp) rfl ?_
  refine mw_iload (pc' := 3336) dL_law_3334 rfl rfl ?_
  refine mw_iconst (pc' := 3337) dL_law_3336 rfl ⟨by decide, by decide⟩ ?_
  refine mw_iadd (pc' := 3338) dL_law_3337 rfl (ik (by omega)) ?_
  refine mw_xld (pc' := 3339) dL_law_3338 rfl ⟨by omega, by omega⟩ ?_
  refine mw_aload_n (v := vR 74) (pc' := 3340) dL_law_3339 rfl rfl (by simp) rfl ?_
  refine mw_callSX (M' := mL_effectiveDay) (A := [vR 0, vI (d SCR (i + 1)), vR 74]) (S := []) (pc' := 3343) dL_law_3340 rfl (goodW 1406 (by decide +kernel) rfl) kM_L_effectiveDay kS_L_effectiveDay ⟨by decide, by decide, Nat.le_trans (by decide) hb.1, Nat.le_trans (by decide) hb.2, by decide⟩ rfl rfl (Nat.le_of_ble_eq_true rfl) (MM.mono ?_ (MM.scr (o_effectiveDay g d hI)))
  intro o g1 d1 hh
  obtain ⟨⟨k, ho, h1⟩, hs1⟩ := hh
  subst ho
  show MW mL_law (bc - 1) (bs - 6) 3343 [(0, (5, 0)), (1, vR 0), (2, vR 65), (3, vR 74), (4, vR 75), (5, vI i)] [vI k] g1 d1 Q
  refine mw_top (fun hT1 => ?_)
  have hG1 : 76 ≤ g1.2.1 := hT1.2
  refine mw_istore (pc' := 3345) (L' := [(0, (5, 0)), (1, vR 0), (2, vR 65), (3, vR 74), (4, vR 75), (5, vI i), (6, vI k)]) dL_law_3343 rfl (by decide) rfl ?_
  refine mw_aload_n (v := vR 65) (pc' := 3346) dL_law_3345 rfl rfl (by simp) rfl ?_
  refine mw_aload_n (v := (5, 0)) (pc' := 3347) dL_law_3346 rfl rfl (by simp) rfl ?_
  refine mw_iload (pc' := 3349) dL_law_3347 rfl rfl ?_
  refine mw_iconst (pc' := 3350) dL_law_3349 rfl ⟨by decide, by decide⟩ ?_
  refine mw_iadd (pc' := 3351) dL_law_3350 rfl (ik (by omega)) ?_
  refine mw_xld (pc' := 3352) dL_law_3351 rfl (by rw [hs1]; exact ⟨by omega, by omega⟩) ?_
  rw [hs1]
  refine mw_callV (M' := mX12_effectiveDay) (A := [vI (d SCR (i + 1))]) (A' := [vR 65, vI (d SCR (i + 1))]) (S := []) (a := 65) (pc' := 3355) dL_law_3352 rfl (Or.inl (goodW 2052 (by decide +kernel) rfl)) kM_X12_effectiveDay kV_X12_effectiveDay ⟨by decide, by decide, Nat.zero_le _, Nat.zero_le _, by decide⟩ rfl rfl rfl ⟨by decide, by omega⟩ (by decide +kernel) (by decide +kernel) (Nat.le_of_ble_eq_true rfl) (h1 _ (fun b d2 hI2 hs2 h5 hb0 => ?_))
  show MW mL_law (bc - 1) (bs - 6) 3355 [(0, (5, 0)), (1, vR 0), (2, vR 65), (3, vR 74), (4, vR 75), (5, vI i), (6, vI k)] [vI b] g1 d2 Q
  refine mw_istore (pc' := 3357) (L' := [(0, (5, 0)), (1, vR 0), (2, vR 65), (3, vR 74), (4, vR 75), (5, vI i), (6, vI k), (7, vI b)]) dL_law_3355 rfl (by decide) rfl ?_
  refine mw_aload_n (v := vR 65) (pc' := 3358) dL_law_3357 rfl rfl (by simp) rfl ?_
  refine mw_callV (M' := mX12_thrown) (A := []) (A' := [vR 65]) (S := []) (a := 65) (pc' := 3361) dL_law_3358 rfl (Or.inl (goodW 1679 (by decide +kernel) rfl)) kM_X12_thrown kV_X12_thrown ⟨by decide, by decide, Nat.zero_le _, Nat.zero_le _, by decide⟩ rfl rfl rfl ⟨by decide, by omega⟩ (by decide +kernel) (by decide +kernel) (Nat.le_of_ble_eq_true rfl) (eX12_thrown ?_)
  show MW mL_law (bc - 1) (bs - 6) 3361 [(0, (5, 0)), (1, vR 0), (2, vR 65), (3, vR 74), (4, vR 75), (5, vI i), (6, vI k), (7, vI b)] [vI (d2 65 5)] g1 d2 Q
  rw [h5]
  refine mw_iload (pc' := 3363) dL_law_3361 rfl rfl ?_
  refine mw_icmp_eq (tgt := 3368) (pc' := 3366) dL_law_3363 rfl (by decide) (fun _ => ?_) (fun c => absurd rfl c)
  refine mw_iload (pc' := 3370) dL_law_3368 rfl rfl ?_
  refine mw_if_ne (tgt := 3385) (pc' := 3373) dL_law_3370 rfl (by decide) (fun c => ?_) (fun c => ?_)
  · refine mw_goto (pc' := 0) (tgt := 3808) dL_law_3385 (by decide) ?_
    exact mw_loc (pc' := 0) [0, 1, 2, 3, 4, 5] rfl (mw_less ⟨by omega, by omega⟩ (h g1 d2 hI2 hs2))
  · have hb1 := hb0 c
    refine mw_aload_n (v := vR 74) (pc' := 3374) dL_law_3373 rfl rfl (by simp) rfl ?_
    refine mw_iconst (pc' := 3375) dL_law_3374 rfl ⟨by decide, by decide⟩ ?_
    refine mw_lald (pc' := 3376) dL_law_3375 rfl (by decide +kernel) ⟨by decide, by decide⟩ (by rw [show LN 74 = 1 by decide +kernel]; exact ⟨by decide, by decide⟩) ?_
    refine mw_iload (pc' := 3378) dL_law_3376 rfl rfl ?_
    refine mw_i2l (pc' := 3379) dL_law_3378 rfl ?_
    refine mw_lcmp (pc' := 3380) dL_law_3379 rfl ?_
    refine mw_if_eq (tgt := 3385) (pc' := 3383) dL_law_3380 rfl (by decide) (fun _ => ?_) (fun c3 => absurd (by rw [hb1]; exact lCmp_rf) c3)
    refine mw_goto (pc' := 0) (tgt := 3808) dL_law_3385 (by decide) ?_
    exact mw_loc (pc' := 0) [0, 1, 2, 3, 4, 5] rfl (mw_less ⟨by omega, by omega⟩ (h g1 d2 hI2 hs2))
theorem lc_53 {i : Int} {bc bs : Nat} {g : mG} {d : mD} {Q : mQ} (hI : INV g d) (hi : 0 ≤ i ∧ i + 3 < d SCR (-1)) (hN : d SCR (-1) ≤ 2048) (hb : 47 ≤ bc ∧ 8228 ≤ bs) (h : ∀ g' d', INV g' d' → d' SCR = d SCR → MW mL_law (bc - 47) (bs - 8228) 3808 [(0, (5, 0)), (1, vR 0), (2, vR 65), (3, vR 74), (4, vR 75), (5, vI i)] [] g' d' Q) : MW mL_law bc bs 3388 [(0, (5, 0)), (1, vR 0), (2, vR 65), (3, vR 74), (4, vR 75), (5, vI i)] [] g d Q := by
  refine mw_top (fun hT => ?_)
  have hG : 76 ≤ g.2.1 := hT.2
  refine mw_aload_n (v := vR 0) (pc' := 3389) dL_law_3388 rfl rfl (by simp) rfl ?_
  refine mw_aload_n (v := (5, 0)) (pc' := 3390) dL_law_3389 rfl rfl (by simp) rfl ?_
  refine mw_iload (pc' := 3392) dL_law_3390 rfl rfl ?_
  refine mw_iconst (pc' := 3393) dL_law_3392 rfl ⟨by decide, by decide⟩ ?_
  refine mw_iadd (pc' := 3394) dL_law_3393 rfl (ik (by omega)) ?_
  refine mw_xld (pc' := 3395) dL_law_3394 rfl ⟨by omega, by omega⟩ ?_
  refine mw_aload_n (v := vR 74) (pc' := 3396) dL_law_3395 rfl rfl (by simp) rfl ?_
  refine mw_callSX (M' := mL_isTimely) (A := [vR 0, vI (d SCR (i + 1)), vR 74]) (S := []) (pc' := 3399) dL_law_3396 rfl (goodW 1427 (by decide +kernel) rfl) kM_L_isTimely kS_L_isTimely ⟨by decide, by decide, Nat.le_trans (by decide) hb.1, Nat.le_trans (by decide) hb.2, by decide⟩ rfl rfl (Nat.le_of_ble_eq_true rfl) (MM.mono ?_ (MM.scr (o_isTimely g d hI)))
  intro o g1 d1 hh
  obtain ⟨⟨k, ho, h1⟩, hs1⟩ := hh
  subst ho
  show MW mL_law (bc - 1) (bs - 6) 3399 [(0, (5, 0)), (1, vR 0), (2, vR 65), (3, vR 74), (4, vR 75), (5, vI i)] [vI k] g1 d1 Q
  refine mw_top (fun hT1 => ?_)
  have hG1 : 76 ≤ g1.2.1 := hT1.2
  refine mw_istore (pc' := 3401) (L' := [(0, (5, 0)), (1, vR 0), (2, vR 65), (3, vR 74), (4, vR 75), (5, vI i), (6, vI k)]) dL_law_3399 rfl (by decide) rfl ?_
  refine mw_aload_n (v := vR 65) (pc' := 3402) dL_law_3401 rfl rfl (by simp) rfl ?_
  refine mw_aload_n (v := (5, 0)) (pc' := 3403) dL_law_3402 rfl rfl (by simp) rfl ?_
  refine mw_iload (pc' := 3405) dL_law_3403 rfl rfl ?_
  refine mw_iconst (pc' := 3406) dL_law_3405 rfl ⟨by decide, by decide⟩ ?_
  refine mw_iadd (pc' := 3407) dL_law_3406 rfl (ik (by omega)) ?_
  refine mw_xld (pc' := 3408) dL_law_3407 rfl (by rw [hs1]; exact ⟨by omega, by omega⟩) ?_
  rw [hs1]
  refine mw_callV (M' := mX12_isTimely) (A := [vI (d SCR (i + 1))]) (A' := [vR 65, vI (d SCR (i + 1))]) (S := []) (a := 65) (pc' := 3411) dL_law_3408 rfl (Or.inl (goodW 2060 (by decide +kernel) rfl)) kM_X12_isTimely kV_X12_isTimely ⟨by decide, by decide, Nat.zero_le _, Nat.zero_le _, by decide⟩ rfl rfl rfl ⟨by decide, by omega⟩ (by decide +kernel) (by decide +kernel) (Nat.le_of_ble_eq_true rfl) (h1 _ (fun b d2 hI2 hs2 h5 hb0 => ?_))
  show MW mL_law (bc - 1) (bs - 6) 3411 [(0, (5, 0)), (1, vR 0), (2, vR 65), (3, vR 74), (4, vR 75), (5, vI i), (6, vI k)] [vI b] g1 d2 Q
  refine mw_istore (pc' := 3413) (L' := [(0, (5, 0)), (1, vR 0), (2, vR 65), (3, vR 74), (4, vR 75), (5, vI i), (6, vI k), (7, vI b)]) dL_law_3411 rfl (by decide) rfl ?_
  refine mw_aload_n (v := vR 65) (pc' := 3414) dL_law_3413 rfl rfl (by simp) rfl ?_
  refine mw_callV (M' := mX12_thrown) (A := []) (A' := [vR 65]) (S := []) (a := 65) (pc' := 3417) dL_law_3414 rfl (Or.inl (goodW 1679 (by decide +kernel) rfl)) kM_X12_thrown kV_X12_thrown ⟨by decide, by decide, Nat.zero_le _, Nat.zero_le _, by decide⟩ rfl rfl rfl ⟨by decide, by omega⟩ (by decide +kernel) (by decide +kernel) (Nat.le_of_ble_eq_true rfl) (eX12_thrown ?_)
  show MW mL_law (bc - 1) (bs - 6) 3417 [(0, (5, 0)), (1, vR 0), (2, vR 65), (3, vR 74), (4, vR 75), (5, vI i), (6, vI k), (7, vI b)] [vI (d2 65 5)] g1 d2 Q
  rw [h5]
  refine mw_iload (pc' := 3419) dL_law_3417 rfl rfl ?_
  refine mw_icmp_eq (tgt := 3424) (pc' := 3422) dL_law_3419 rfl (by decide) (fun _ => ?_) (fun c => absurd rfl c)
  refine mw_iload (pc' := 3426) dL_law_3424 rfl rfl ?_
  refine mw_if_ne (tgt := 3448) (pc' := 3429) dL_law_3426 rfl (by decide) (fun c => ?_) (fun c => ?_)
  · refine mw_goto (pc' := 0) (tgt := 3808) dL_law_3448 (by decide) ?_
    exact mw_loc (pc' := 0) [0, 1, 2, 3, 4, 5] rfl (mw_less ⟨by omega, by omega⟩ (h g1 d2 hI2 hs2))
  · obtain ⟨hb1, hb2⟩ := hb0 c
    refine mw_aload_n (v := vR 74) (pc' := 3430) dL_law_3429 rfl rfl (by simp) rfl ?_
    refine mw_iconst (pc' := 3431) dL_law_3430 rfl ⟨by decide, by decide⟩ ?_
    refine mw_lald (pc' := 3432) dL_law_3431 rfl (by decide +kernel) ⟨by decide, by decide⟩ (by rw [show LN 74 = 1 by decide +kernel]; exact ⟨by decide, by decide⟩) ?_
    refine mw_iload (pc' := 3434) dL_law_3432 rfl rfl ?_
    rcases hb2 with hb2 | hb2
    · rw [← hb1, hb2]
      refine mw_if_eq (tgt := 3441) (pc' := 3437) dL_law_3434 rfl (by decide) (fun _ => ?_) (fun c2 => absurd rfl c2)
      refine mw_lconst0 (pc' := 3442) dL_law_3441 rfl ?_
      refine mw_lcmp (pc' := 3443) dL_law_3442 rfl ?_
      refine mw_if_eq (tgt := 3448) (pc' := 3446) dL_law_3443 rfl (by decide) (fun _ => ?_) (fun c3 => absurd lCmp_rf c3)
      refine mw_goto (pc' := 0) (tgt := 3808) dL_law_3448 (by decide) ?_
      exact mw_loc (pc' := 0) [0, 1, 2, 3, 4, 5] rfl (mw_less ⟨by omega, by omega⟩ (h g1 d2 hI2 hs2))
    · rw [← hb1, hb2]
      refine mw_if_eq (tgt := 3441) (pc' := 3437) dL_law_3434 rfl (by decide) (fun c2 => absurd c2 (by decide)) (fun _ => ?_)
      refine mw_lconst1 (pc' := 3438) dL_law_3437 rfl ?_
      refine mw_goto (pc' := 0) (tgt := 3442) dL_law_3438 (by decide) ?_
      refine mw_lcmp (pc' := 3443) dL_law_3442 rfl ?_
      refine mw_if_eq (tgt := 3448) (pc' := 3446) dL_law_3443 rfl (by decide) (fun _ => ?_) (fun c3 => absurd lCmp_rf c3)
      refine mw_goto (pc' := 0) (tgt := 3808) dL_law_3448 (by decide) ?_
      exact mw_loc (pc' := 0) [0, 1, 2, 3, 4, 5] rfl (mw_less ⟨by omega, by omega⟩ (h g1 d2 hI2 hs2))
theorem lc_54 {i : Int} {bc bs : Nat} {g : mG} {d : mD} {Q : mQ} (hI : INV g d) (hi : 0 ≤ i ∧ i + 3 < d SCR (-1)) (hN : d SCR (-1) ≤ 2048) (hb : 47 ≤ bc ∧ 8228 ≤ bs) (h : ∀ g' d', INV g' d' → d' SCR = d SCR → MW mL_law (bc - 47) (bs - 8228) 3808 [(0, (5, 0)), (1, vR 0), (2, vR 65), (3, vR 74), (4, vR 75), (5, vI i)] [] g' d' Q) : MW mL_law bc bs 3451 [(0, (5, 0)), (1, vR 0), (2, vR 65), (3, vR 74), (4, vR 75), (5, vI i)] [] g d Q := by
  refine mw_top (fun hT => ?_)
  have hG : 76 ≤ g.2.1 := hT.2
  refine mw_aload_n (v := vR 0) (pc' := 3452) dL_law_3451 rfl rfl (by simp) rfl ?_
  refine mw_aload_n (v := (5, 0)) (pc' := 3453) dL_law_3452 rfl rfl (by simp) rfl ?_
  refine mw_iload (pc' := 3455) dL_law_3453 rfl rfl ?_
  refine mw_iconst (pc' := 3456) dL_law_3455 rfl ⟨by decide, by decide⟩ ?_
  refine mw_iadd (pc' := 3457) dL_law_3456 rfl (ik (by omega)) ?_
  refine mw_xld (pc' := 3458) dL_law_3457 rfl ⟨by omega, by omega⟩ ?_
  refine mw_aload_n (v := vR 74) (pc' := 3459) dL_law_3458 rfl rfl (by simp) rfl ?_
  refine mw_callSX (M' := mL_timelyClaims) (A := [vR 0, vI (d SCR (i + 1)), vR 74]) (S := []) (pc' := 3462) dL_law_3459 rfl (goodW 1438 (by decide +kernel) rfl) kM_L_timelyClaims kS_L_timelyClaims ⟨by decide, by decide, Nat.le_trans (by decide) hb.1, Nat.le_trans (by decide) hb.2, by decide⟩ rfl rfl (Nat.le_of_ble_eq_true rfl) (MM.mono ?_ (MM.scr (o_timelyClaims g d hI)))
  intro o g1 d1 hh
  obtain ⟨⟨k, ho, h1⟩, hs1⟩ := hh
  subst ho
  show MW mL_law (bc - 1) (bs - 6) 3462 [(0, (5, 0)), (1, vR 0), (2, vR 65), (3, vR 74), (4, vR 75), (5, vI i)] [vI k] g1 d1 Q
  refine mw_top (fun hT1 => ?_)
  have hG1 : 76 ≤ g1.2.1 := hT1.2
  refine mw_istore (pc' := 3464) (L' := [(0, (5, 0)), (1, vR 0), (2, vR 65), (3, vR 74), (4, vR 75), (5, vI i), (6, vI k)]) dL_law_3462 rfl (by decide) rfl ?_
  refine mw_aload_n (v := vR 65) (pc' := 3465) dL_law_3464 rfl rfl (by simp) rfl ?_
  refine mw_aload_n (v := (5, 0)) (pc' := 3466) dL_law_3465 rfl rfl (by simp) rfl ?_
  refine mw_iload (pc' := 3468) dL_law_3466 rfl rfl ?_
  refine mw_iconst (pc' := 3469) dL_law_3468 rfl ⟨by decide, by decide⟩ ?_
  refine mw_iadd (pc' := 3470) dL_law_3469 rfl (ik (by omega)) ?_
  refine mw_xld (pc' := 3471) dL_law_3470 rfl (by rw [hs1]; exact ⟨by omega, by omega⟩) ?_
  rw [hs1]
  refine mw_callV (M' := mX12_timelyClaims) (A := [vI (d SCR (i + 1))]) (A' := [vR 65, vI (d SCR (i + 1))]) (S := []) (a := 65) (pc' := 3474) dL_law_3471 rfl (Or.inl (goodW 2068 (by decide +kernel) rfl)) kM_X12_timelyClaims kV_X12_timelyClaims ⟨by decide, by decide, Nat.zero_le _, Nat.zero_le _, by decide⟩ rfl rfl rfl ⟨by decide, by omega⟩ (by decide +kernel) (by decide +kernel) (Nat.le_of_ble_eq_true rfl) (h1 _ (fun b d2 hI2 hs2 h5 hb0 => ?_))
  show MW mL_law (bc - 1) (bs - 6) 3474 [(0, (5, 0)), (1, vR 0), (2, vR 65), (3, vR 74), (4, vR 75), (5, vI i), (6, vI k)] [vI b] g1 d2 Q
  refine mw_istore (pc' := 3476) (L' := [(0, (5, 0)), (1, vR 0), (2, vR 65), (3, vR 74), (4, vR 75), (5, vI i), (6, vI k), (7, vI b)]) dL_law_3474 rfl (by decide) rfl ?_
  refine mw_aload_n (v := vR 65) (pc' := 3477) dL_law_3476 rfl rfl (by simp) rfl ?_
  refine mw_callV (M' := mX12_thrown) (A := []) (A' := [vR 65]) (S := []) (a := 65) (pc' := 3480) dL_law_3477 rfl (Or.inl (goodW 1679 (by decide +kernel) rfl)) kM_X12_thrown kV_X12_thrown ⟨by decide, by decide, Nat.zero_le _, Nat.zero_le _, by decide⟩ rfl rfl rfl ⟨by decide, by omega⟩ (by decide +kernel) (by decide +kernel) (Nat.le_of_ble_eq_true rfl) (eX12_thrown ?_)
  show MW mL_law (bc - 1) (bs - 6) 3480 [(0, (5, 0)), (1, vR 0), (2, vR 65), (3, vR 74), (4, vR 75), (5, vI i), (6, vI k), (7, vI b)] [vI (d2 65 5)] g1 d2 Q
  rw [h5]
  refine mw_iload (pc' := 3482) dL_law_3480 rfl rfl ?_
  refine mw_icmp_eq (tgt := 3487) (pc' := 3485) dL_law_3482 rfl (by decide) (fun _ => ?_) (fun c => absurd rfl c)
  refine mw_iload (pc' := 3489) dL_law_3487 rfl rfl ?_
  refine mw_if_ne (tgt := 3504) (pc' := 3492) dL_law_3489 rfl (by decide) (fun c => ?_) (fun c => ?_)
  · refine mw_goto (pc' := 0) (tgt := 3808) dL_law_3504 (by decide) ?_
    exact mw_loc (pc' := 0) [0, 1, 2, 3, 4, 5] rfl (mw_less ⟨by omega, by omega⟩ (h g1 d2 hI2 hs2))
  · have hb1 := hb0 c
    refine mw_aload_n (v := vR 74) (pc' := 3493) dL_law_3492 rfl rfl (by simp) rfl ?_
    refine mw_iconst (pc' := 3494) dL_law_3493 rfl ⟨by decide, by decide⟩ ?_
    refine mw_lald (pc' := 3495) dL_law_3494 rfl (by decide +kernel) ⟨by decide, by decide⟩ (by rw [show LN 74 = 1 by decide +kernel]; exact ⟨by decide, by decide⟩) ?_
    refine mw_iload (pc' := 3497) dL_law_3495 rfl rfl ?_
    refine mw_i2l (pc' := 3498) dL_law_3497 rfl ?_
    refine mw_lcmp (pc' := 3499) dL_law_3498 rfl ?_
    refine mw_if_eq (tgt := 3504) (pc' := 3502) dL_law_3499 rfl (by decide) (fun _ => ?_) (fun c3 => absurd (by rw [hb1]; exact lCmp_rf) c3)
    refine mw_goto (pc' := 0) (tgt := 3808) dL_law_3504 (by decide) ?_
    exact mw_loc (pc' := 0) [0, 1, 2, 3, 4, 5] rfl (mw_less ⟨by omega, by omega⟩ (h g1 d2 hI2 hs2))
theorem lc_55 {i : Int} {bc bs : Nat} {g : mG} {d : mD} {Q : mQ} (hI : INV g d) (hi : 0 ≤ i ∧ i + 3 < d SCR (-1)) (hN : d SCR (-1) ≤ 2048) (hb : 47 ≤ bc ∧ 8228 ≤ bs) (h : ∀ g' d', INV g' d' → d' SCR = d SCR → MW mL_law (bc - 47) (bs - 8228) 3808 [(0, (5, 0)), (1, vR 0), (2, vR 65), (3, vR 74), (4, vR 75), (5, vI i)] [] g' d' Q) : MW mL_law bc bs 3507 [(0, (5, 0)), (1, vR 0), (2, vR 65), (3, vR 74), (4, vR 75), (5, vI i)] [] g d Q := by
  refine mw_top (fun hT => ?_)
  have hG : 76 ≤ g.2.1 := hT.2
  refine mw_aload_n (v := vR 0) (pc' := 3508) dL_law_3507 rfl rfl (by simp) rfl ?_
  refine mw_aload_n (v := (5, 0)) (pc' := 3509) dL_law_3508 rfl rfl (by simp) rfl ?_
  refine mw_iload (pc' := 3511) dL_law_3509 rfl rfl ?_
  refine mw_iconst (pc' := 3512) dL_law_3511 rfl ⟨by decide, by decide⟩ ?_
  refine mw_iadd (pc' := 3513) dL_law_3512 rfl (ik (by omega)) ?_
  refine mw_xld (pc' := 3514) dL_law_3513 rfl ⟨by omega, by omega⟩ ?_
  refine mw_aload_n (v := vR 74) (pc' := 3515) dL_law_3514 rfl rfl (by simp) rfl ?_
  refine mw_callSX (M' := mL_writeDeadline) (A := [vR 0, vI (d SCR (i + 1)), vR 74]) (S := []) (pc' := 3518) dL_law_3515 rfl (goodW 1445 (by decide +kernel) rfl) kM_L_writeDeadline kS_L_writeDeadline ⟨by decide, by decide, Nat.le_trans (by decide) hb.1, Nat.le_trans (by decide) hb.2, by decide⟩ rfl rfl (Nat.le_of_ble_eq_true rfl) (MM.mono ?_ (MM.scr (o_writeDeadline g d hI)))
  intro o g1 d1 hh
  obtain ⟨⟨k, ho, h1⟩, hs1⟩ := hh
  subst ho
  show MW mL_law (bc - 1) (bs - 6) 3518 [(0, (5, 0)), (1, vR 0), (2, vR 65), (3, vR 74), (4, vR 75), (5, vI i)] [vI k] g1 d1 Q
  refine mw_top (fun hT1 => ?_)
  have hG1 : 76 ≤ g1.2.1 := hT1.2
  refine mw_istore (pc' := 3520) (L' := [(0, (5, 0)), (1, vR 0), (2, vR 65), (3, vR 74), (4, vR 75), (5, vI i), (6, vI k)]) dL_law_3518 rfl (by decide) rfl ?_
  refine mw_aload_n (v := vR 65) (pc' := 3521) dL_law_3520 rfl rfl (by simp) rfl ?_
  refine mw_aload_n (v := (5, 0)) (pc' := 3522) dL_law_3521 rfl rfl (by simp) rfl ?_
  refine mw_iload (pc' := 3524) dL_law_3522 rfl rfl ?_
  refine mw_iconst (pc' := 3525) dL_law_3524 rfl ⟨by decide, by decide⟩ ?_
  refine mw_iadd (pc' := 3526) dL_law_3525 rfl (ik (by omega)) ?_
  refine mw_xld (pc' := 3527) dL_law_3526 rfl (by rw [hs1]; exact ⟨by omega, by omega⟩) ?_
  rw [hs1]
  refine mw_callV (M' := mX12_writeDeadline) (A := [vI (d SCR (i + 1))]) (A' := [vR 65, vI (d SCR (i + 1))]) (S := []) (a := 65) (pc' := 3530) dL_law_3527 rfl (Or.inl (goodW 2072 (by decide +kernel) rfl)) kM_X12_writeDeadline kV_X12_writeDeadline ⟨by decide, by decide, Nat.zero_le _, Nat.zero_le _, by decide⟩ rfl rfl rfl ⟨by decide, by omega⟩ (by decide +kernel) (by decide +kernel) (Nat.le_of_ble_eq_true rfl) (h1 _ (fun b d2 hI2 hs2 h5 hb0 => ?_))
  show MW mL_law (bc - 1) (bs - 6) 3530 [(0, (5, 0)), (1, vR 0), (2, vR 65), (3, vR 74), (4, vR 75), (5, vI i), (6, vI k)] [vI b] g1 d2 Q
  refine mw_istore (pc' := 3532) (L' := [(0, (5, 0)), (1, vR 0), (2, vR 65), (3, vR 74), (4, vR 75), (5, vI i), (6, vI k), (7, vI b)]) dL_law_3530 rfl (by decide) rfl ?_
  refine mw_aload_n (v := vR 65) (pc' := 3533) dL_law_3532 rfl rfl (by simp) rfl ?_
  refine mw_callV (M' := mX12_thrown) (A := []) (A' := [vR 65]) (S := []) (a := 65) (pc' := 3536) dL_law_3533 rfl (Or.inl (goodW 1679 (by decide +kernel) rfl)) kM_X12_thrown kV_X12_thrown ⟨by decide, by decide, Nat.zero_le _, Nat.zero_le _, by decide⟩ rfl rfl rfl ⟨by decide, by omega⟩ (by decide +kernel) (by decide +kernel) (Nat.le_of_ble_eq_true rfl) (eX12_thrown ?_)
  show MW mL_law (bc - 1) (bs - 6) 3536 [(0, (5, 0)), (1, vR 0), (2, vR 65), (3, vR 74), (4, vR 75), (5, vI i), (6, vI k), (7, vI b)] [vI (d2 65 5)] g1 d2 Q
  rw [h5]
  refine mw_iload (pc' := 3538) dL_law_3536 rfl rfl ?_
  refine mw_icmp_eq (tgt := 3543) (pc' := 3541) dL_law_3538 rfl (by decide) (fun _ => ?_) (fun c => absurd rfl c)
  refine mw_iload (pc' := 3545) dL_law_3543 rfl rfl ?_
  refine mw_if_ne (tgt := 3560) (pc' := 3548) dL_law_3545 rfl (by decide) (fun c => ?_) (fun c => ?_)
  · refine mw_goto (pc' := 0) (tgt := 3808) dL_law_3560 (by decide) ?_
    exact mw_loc (pc' := 0) [0, 1, 2, 3, 4, 5] rfl (mw_less ⟨by omega, by omega⟩ (h g1 d2 hI2 hs2))
  · have hb1 := hb0 c
    refine mw_aload_n (v := vR 74) (pc' := 3549) dL_law_3548 rfl rfl (by simp) rfl ?_
    refine mw_iconst (pc' := 3550) dL_law_3549 rfl ⟨by decide, by decide⟩ ?_
    refine mw_lald (pc' := 3551) dL_law_3550 rfl (by decide +kernel) ⟨by decide, by decide⟩ (by rw [show LN 74 = 1 by decide +kernel]; exact ⟨by decide, by decide⟩) ?_
    refine mw_iload (pc' := 3553) dL_law_3551 rfl rfl ?_
    refine mw_i2l (pc' := 3554) dL_law_3553 rfl ?_
    refine mw_lcmp (pc' := 3555) dL_law_3554 rfl ?_
    refine mw_if_eq (tgt := 3560) (pc' := 3558) dL_law_3555 rfl (by decide) (fun _ => ?_) (fun c3 => absurd (by rw [hb1]; exact lCmp_rf) c3)
    refine mw_goto (pc' := 0) (tgt := 3808) dL_law_3560 (by decide) ?_
    exact mw_loc (pc' := 0) [0, 1, 2, 3, 4, 5] rfl (mw_less ⟨by omega, by omega⟩ (h g1 d2 hI2 hs2))
theorem lc_56 {i : Int} {bc bs : Nat} {g : mG} {d : mD} {Q : mQ} (hI : INV g d) (hi : 0 ≤ i ∧ i + 3 < d SCR (-1)) (hN : d SCR (-1) ≤ 2048) (hb : 47 ≤ bc ∧ 8228 ≤ bs) (h : ∀ g' d', INV g' d' → d' SCR = d SCR → MW mL_law (bc - 47) (bs - 8228) 3808 [(0, (5, 0)), (1, vR 0), (2, vR 65), (3, vR 74), (4, vR 75), (5, vI i)] [] g' d' Q) : MW mL_law bc bs 3563 [(0, (5, 0)), (1, vR 0), (2, vR 65), (3, vR 74), (4, vR 75), (5, vI i)] [] g d Q := by
  refine mw_top (fun hT => ?_)
  have hG : 76 ≤ g.2.1 := hT.2
  refine mw_aload_n (v := vR 0) (pc' := 3564) dL_law_3563 rfl rfl (by simp) rfl ?_
  refine mw_aload_n (v := (5, 0)) (pc' := 3565) dL_law_3564 rfl rfl (by simp) rfl ?_
  refine mw_iload (pc' := 3567) dL_law_3565 rfl rfl ?_
  refine mw_iconst (pc' := 3568) dL_law_3567 rfl ⟨by decide, by decide⟩ ?_
  refine mw_iadd (pc' := 3569) dL_law_3568 rfl (ik (by omega)) ?_
  refine mw_xld (pc' := 3570) dL_law_3569 rfl ⟨by omega, by omega⟩ ?_
  refine mw_aload_n (v := vR 74) (pc' := 3571) dL_law_3570 rfl rfl (by simp) rfl ?_
  refine mw_callSX (M' := mL_charAt) (A := [vR 0, vI (d SCR (i + 1)), vR 74]) (S := []) (pc' := 3574) dL_law_3571 rfl (goodW 1456 (by decide +kernel) rfl) kM_L_charAt kS_L_charAt ⟨by decide, by decide, Nat.le_trans (by decide) hb.1, Nat.le_trans (by decide) hb.2, by decide⟩ rfl rfl (Nat.le_of_ble_eq_true rfl) (MM.mono ?_ (MM.scr (o_charAt g d hI)))
  intro o g1 d1 hh
  obtain ⟨⟨k, ho, h1⟩, hs1⟩ := hh
  subst ho
  show MW mL_law (bc - 1) (bs - 6) 3574 [(0, (5, 0)), (1, vR 0), (2, vR 65), (3, vR 74), (4, vR 75), (5, vI i)] [vI k] g1 d1 Q
  refine mw_top (fun hT1 => ?_)
  have hG1 : 76 ≤ g1.2.1 := hT1.2
  refine mw_istore (pc' := 3576) (L' := [(0, (5, 0)), (1, vR 0), (2, vR 65), (3, vR 74), (4, vR 75), (5, vI i), (6, vI k)]) dL_law_3574 rfl (by decide) rfl ?_
  refine mw_aload_n (v := vR 65) (pc' := 3577) dL_law_3576 rfl rfl (by simp) rfl ?_
  refine mw_aload_n (v := (5, 0)) (pc' := 3578) dL_law_3577 rfl rfl (by simp) rfl ?_
  refine mw_iload (pc' := 3580) dL_law_3578 rfl rfl ?_
  refine mw_iconst (pc' := 3581) dL_law_3580 rfl ⟨by decide, by decide⟩ ?_
  refine mw_iadd (pc' := 3582) dL_law_3581 rfl (ik (by omega)) ?_
  refine mw_xld (pc' := 3583) dL_law_3582 rfl (by rw [hs1]; exact ⟨by omega, by omega⟩) ?_
  rw [hs1]
  refine mw_callV (M' := mX12_charAt) (A := [vI (d SCR (i + 1))]) (A' := [vR 65, vI (d SCR (i + 1))]) (S := []) (a := 65) (pc' := 3586) dL_law_3583 rfl (Or.inl (goodW 2080 (by decide +kernel) rfl)) kM_X12_charAt kV_X12_charAt ⟨by decide, by decide, Nat.zero_le _, Nat.zero_le _, by decide⟩ rfl rfl rfl ⟨by decide, by omega⟩ (by decide +kernel) (by decide +kernel) (Nat.le_of_ble_eq_true rfl) (h1 _ (fun b d2 hI2 hs2 h5 hb0 => ?_))
  show MW mL_law (bc - 1) (bs - 6) 3586 [(0, (5, 0)), (1, vR 0), (2, vR 65), (3, vR 74), (4, vR 75), (5, vI i), (6, vI k)] [vI b] g1 d2 Q
  refine mw_istore (pc' := 3588) (L' := [(0, (5, 0)), (1, vR 0), (2, vR 65), (3, vR 74), (4, vR 75), (5, vI i), (6, vI k), (7, vI b)]) dL_law_3586 rfl (by decide) rfl ?_
  refine mw_aload_n (v := vR 65) (pc' := 3589) dL_law_3588 rfl rfl (by simp) rfl ?_
  refine mw_callV (M' := mX12_thrown) (A := []) (A' := [vR 65]) (S := []) (a := 65) (pc' := 3592) dL_law_3589 rfl (Or.inl (goodW 1679 (by decide +kernel) rfl)) kM_X12_thrown kV_X12_thrown ⟨by decide, by decide, Nat.zero_le _, Nat.zero_le _, by decide⟩ rfl rfl rfl ⟨by decide, by omega⟩ (by decide +kernel) (by decide +kernel) (Nat.le_of_ble_eq_true rfl) (eX12_thrown ?_)
  show MW mL_law (bc - 1) (bs - 6) 3592 [(0, (5, 0)), (1, vR 0), (2, vR 65), (3, vR 74), (4, vR 75), (5, vI i), (6, vI k), (7, vI b)] [vI (d2 65 5)] g1 d2 Q
  rw [h5]
  refine mw_iload (pc' := 3594) dL_law_3592 rfl rfl ?_
  refine mw_icmp_eq (tgt := 3599) (pc' := 3597) dL_law_3594 rfl (by decide) (fun _ => ?_) (fun c => absurd rfl c)
  refine mw_iload (pc' := 3601) dL_law_3599 rfl rfl ?_
  refine mw_if_ne (tgt := 3616) (pc' := 3604) dL_law_3601 rfl (by decide) (fun c => ?_) (fun c => ?_)
  · refine mw_goto (pc' := 0) (tgt := 3808) dL_law_3616 (by decide) ?_
    exact mw_loc (pc' := 0) [0, 1, 2, 3, 4, 5] rfl (mw_less ⟨by omega, by omega⟩ (h g1 d2 hI2 hs2))
  · have hb1 := hb0 c
    refine mw_aload_n (v := vR 74) (pc' := 3605) dL_law_3604 rfl rfl (by simp) rfl ?_
    refine mw_iconst (pc' := 3606) dL_law_3605 rfl ⟨by decide, by decide⟩ ?_
    refine mw_lald (pc' := 3607) dL_law_3606 rfl (by decide +kernel) ⟨by decide, by decide⟩ (by rw [show LN 74 = 1 by decide +kernel]; exact ⟨by decide, by decide⟩) ?_
    refine mw_iload (pc' := 3609) dL_law_3607 rfl rfl ?_
    refine mw_i2l (pc' := 3610) dL_law_3609 rfl ?_
    refine mw_lcmp (pc' := 3611) dL_law_3610 rfl ?_
    refine mw_if_eq (tgt := 3616) (pc' := 3614) dL_law_3611 rfl (by decide) (fun _ => ?_) (fun c3 => absurd (by rw [hb1]; exact lCmp_rf) c3)
    refine mw_goto (pc' := 0) (tgt := 3808) dL_law_3616 (by decide) ?_
    exact mw_loc (pc' := 0) [0, 1, 2, 3, 4, 5] rfl (mw_less ⟨by omega, by omega⟩ (h g1 d2 hI2 hs2))
theorem lc_57 {i : Int} {bc bs : Nat} {g : mG} {d : mD} {Q : mQ} (hI : INV g d) (hi : 0 ≤ i ∧ i + 3 < d SCR (-1)) (hN : d SCR (-1) ≤ 2048) (hb : 47 ≤ bc ∧ 8228 ≤ bs) (h : ∀ g' d', INV g' d' → d' SCR = d SCR → MW mL_law (bc - 47) (bs - 8228) 3808 [(0, (5, 0)), (1, vR 0), (2, vR 65), (3, vR 74), (4, vR 75), (5, vI i)] [] g' d' Q) : MW mL_law bc bs 3619 [(0, (5, 0)), (1, vR 0), (2, vR 65), (3, vR 74), (4, vR 75), (5, vI i)] [] g d Q := by
  refine mw_top (fun hT => ?_)
  have hG : 76 ≤ g.2.1 := hT.2
  refine mw_aload_n (v := vR 0) (pc' := 3620) dL_law_3619 rfl rfl (by simp) rfl ?_
  refine mw_callV (M' := mX11_isConsistent) (A := []) (A' := [vR 0]) (S := []) (a := 0) (pc' := 3623) dL_law_3620 rfl (Or.inl (goodW 499 (by decide +kernel) rfl)) kM_X11_isConsistent kV_X11_isConsistent ⟨by decide, by decide, Nat.zero_le _, Nat.zero_le _, by decide⟩ rfl rfl rfl ⟨by decide, by omega⟩ (by decide +kernel) (by decide +kernel) (Nat.le_of_ble_eq_true rfl) (MM.mono ?_ (o_isConsistent g d hI))
  intro o g1 d1 hh
  obtain ⟨k, ho, h1⟩ := hh
  subst ho
  show MW mL_law bc bs 3623 [(0, (5, 0)), (1, vR 0), (2, vR 65), (3, vR 74), (4, vR 75), (5, vI i)] [vI k] g1 d1 Q
  refine mw_top (fun hT1 => ?_)
  have hG1 : 76 ≤ g1.2.1 := hT1.2
  refine mw_aload_n (v := vR 65) (pc' := 3624) dL_law_3623 rfl rfl (by simp) rfl ?_
  refine mw_callV (M' := mX12_isConsistent) (A := []) (A' := [vR 65]) (S := [vI k]) (a := 65) (pc' := 3627) dL_law_3624 rfl (Or.inl (goodW 2084 (by decide +kernel) rfl)) kM_X12_isConsistent kV_X12_isConsistent ⟨by decide, by decide, Nat.zero_le _, Nat.zero_le _, by decide⟩ rfl rfl rfl ⟨by decide, by omega⟩ (by decide +kernel) (by decide +kernel) (Nat.le_of_ble_eq_true rfl) (h1 _ (fun b d2 hI2 hs2 hb0 => ?_))
  show MW mL_law bc bs 3627 [(0, (5, 0)), (1, vR 0), (2, vR 65), (3, vR 74), (4, vR 75), (5, vI i)] [vI b, vI k] g1 d2 Q
  refine mw_icmp_eq (tgt := 3808) (pc' := 3630) dL_law_3627 rfl (by decide) (fun _ => ?_) (fun c => absurd hb0.symm c)
  exact mw_less ⟨by omega, by omega⟩ (h g1 d2 hI2 hs2)
theorem lc_58 {i : Int} {bc bs : Nat} {g : mG} {d : mD} {Q : mQ} (hI : INV g d) (hi : 0 ≤ i ∧ i + 3 < d SCR (-1)) (hN : d SCR (-1) ≤ 2048) (hb : 47 ≤ bc ∧ 8228 ≤ bs) (h : ∀ g' d', INV g' d' → d' SCR = d SCR → MW mL_law (bc - 47) (bs - 8228) 3808 [(0, (5, 0)), (1, vR 0), (2, vR 65), (3, vR 74), (4, vR 75), (5, vI i)] [] g' d' Q) : MW mL_law bc bs 3632 [(0, (5, 0)), (1, vR 0), (2, vR 65), (3, vR 74), (4, vR 75), (5, vI i)] [] g d Q := by
  refine mw_top (fun hT => ?_)
  have hG : 76 ≤ g.2.1 := hT.2
  refine mw_aload_n (v := vR 0) (pc' := 3633) dL_law_3632 rfl rfl (by simp) rfl ?_
  refine mw_aload_n (v := vR 74) (pc' := 3634) dL_law_3633 rfl rfl (by simp) rfl ?_
  refine mw_callSX (M' := mL_run) (A := [vR 0, vR 74]) (S := []) (pc' := 3637) dL_law_3634 rfl (goodW 1465 (by decide +kernel) rfl) kM_L_run kS_L_run ⟨by decide, by decide, Nat.le_trans (by decide) hb.1, Nat.le_trans (by decide) hb.2, by decide⟩ rfl rfl (Nat.le_of_ble_eq_true rfl) (MM.mono ?_ (MM.scr (o_run g d hI)))
  intro o g1 d1 hh
  obtain ⟨⟨k, ho, h1⟩, hs1⟩ := hh
  subst ho
  show MW mL_law (bc - 48) (bs - 8234) 3637 [(0, (5, 0)), (1, vR 0), (2, vR 65), (3, vR 74), (4, vR 75), (5, vI i)] [vI k] g1 d1 Q
  refine mw_top (fun hT1 => ?_)
  have hG1 : 76 ≤ g1.2.1 := hT1.2
  refine mw_istore (pc' := 3639) (L' := [(0, (5, 0)), (1, vR 0), (2, vR 65), (3, vR 74), (4, vR 75), (5, vI i), (6, vI k)]) dL_law_3637 rfl (by decide) rfl ?_
  refine mw_aload_n (v := vR 65) (pc' := 3640) dL_law_3639 rfl rfl (by simp) rfl ?_
  refine mw_callV (M' := mX12_run) (A := []) (A' := [vR 65]) (S := []) (a := 65) (pc' := 3643) dL_law_3640 rfl (Or.inl (goodW 2088 (by decide +kernel) rfl)) kM_X12_run kV_X12_run ⟨by decide, by decide, Nat.zero_le _, Nat.zero_le _, by decide⟩ rfl rfl rfl ⟨by decide, by omega⟩ (by decide +kernel) (by decide +kernel) (Nat.le_of_ble_eq_true rfl) (h1 _ (fun b d2 hI2 hs2 h5 hb0 => ?_))
  show MW mL_law (bc - 48) (bs - 8234) 3643 [(0, (5, 0)), (1, vR 0), (2, vR 65), (3, vR 74), (4, vR 75), (5, vI i), (6, vI k)] [vI b] g1 d2 Q
  refine mw_istore (pc' := 3645) (L' := [(0, (5, 0)), (1, vR 0), (2, vR 65), (3, vR 74), (4, vR 75), (5, vI i), (6, vI k), (7, vI b)]) dL_law_3643 rfl (by decide) rfl ?_
  refine mw_aload_n (v := vR 65) (pc' := 3646) dL_law_3645 rfl rfl (by simp) rfl ?_
  refine mw_callV (M' := mX12_thrown) (A := []) (A' := [vR 65]) (S := []) (a := 65) (pc' := 3649) dL_law_3646 rfl (Or.inl (goodW 1679 (by decide +kernel) rfl)) kM_X12_thrown kV_X12_thrown ⟨by decide, by decide, Nat.zero_le _, Nat.zero_le _, by decide⟩ rfl rfl rfl ⟨by decide, by omega⟩ (by decide +kernel) (by decide +kernel) (Nat.le_of_ble_eq_true rfl) (eX12_thrown ?_)
  show MW mL_law (bc - 48) (bs - 8234) 3649 [(0, (5, 0)), (1, vR 0), (2, vR 65), (3, vR 74), (4, vR 75), (5, vI i), (6, vI k), (7, vI b)] [vI (d2 65 5)] g1 d2 Q
  rw [h5]
  refine mw_iload (pc' := 3651) dL_law_3649 rfl rfl ?_
  refine mw_icmp_eq (tgt := 3656) (pc' := 3654) dL_law_3651 rfl (by decide) (fun _ => ?_) (fun c => absurd rfl c)
  refine mw_iload (pc' := 3658) dL_law_3656 rfl rfl ?_
  refine mw_if_ne (tgt := 3673) (pc' := 3661) dL_law_3658 rfl (by decide) (fun c => ?_) (fun c => ?_)
  · refine mw_goto (pc' := 0) (tgt := 3808) dL_law_3673 (by decide) ?_
    exact mw_loc (pc' := 0) [0, 1, 2, 3, 4, 5] rfl (mw_less ⟨by omega, by omega⟩ (h g1 d2 hI2 hs2))
  · have hb1 := hb0 c
    refine mw_aload_n (v := vR 74) (pc' := 3662) dL_law_3661 rfl rfl (by simp) rfl ?_
    refine mw_iconst (pc' := 3663) dL_law_3662 rfl ⟨by decide, by decide⟩ ?_
    refine mw_lald (pc' := 3664) dL_law_3663 rfl (by decide +kernel) ⟨by decide, by decide⟩ (by rw [show LN 74 = 1 by decide +kernel]; exact ⟨by decide, by decide⟩) ?_
    refine mw_iload (pc' := 3666) dL_law_3664 rfl rfl ?_
    refine mw_i2l (pc' := 3667) dL_law_3666 rfl ?_
    refine mw_lcmp (pc' := 3668) dL_law_3667 rfl ?_
    refine mw_if_eq (tgt := 3673) (pc' := 3671) dL_law_3668 rfl (by decide) (fun _ => ?_) (fun c3 => absurd (by rw [hb1]; exact lCmp_rf) c3)
    refine mw_goto (pc' := 0) (tgt := 3808) dL_law_3673 (by decide) ?_
    exact mw_loc (pc' := 0) [0, 1, 2, 3, 4, 5] rfl (mw_less ⟨by omega, by omega⟩ (h g1 d2 hI2 hs2))
theorem lc_59 {i : Int} {bc bs : Nat} {g : mG} {d : mD} {Q : mQ} (hI : INV g d) (hi : 0 ≤ i ∧ i + 3 < d SCR (-1)) (hN : d SCR (-1) ≤ 2048) (hb : 47 ≤ bc ∧ 8228 ≤ bs) (h : ∀ g' d', INV g' d' → d' SCR = d SCR → MW mL_law (bc - 47) (bs - 8228) 3808 [(0, (5, 0)), (1, vR 0), (2, vR 65), (3, vR 74), (4, vR 75), (5, vI i)] [] g' d' Q) : MW mL_law bc bs 3676 [(0, (5, 0)), (1, vR 0), (2, vR 65), (3, vR 74), (4, vR 75), (5, vI i)] [] g d Q := by
  refine mw_top (fun hT => ?_)
  have hG : 76 ≤ g.2.1 := hT.2
  refine mw_aload_n (v := vR 0) (pc' := 3677) dL_law_3676 rfl rfl (by simp) rfl ?_
  refine mw_aload_n (v := vR 74) (pc' := 3678) dL_law_3677 rfl rfl (by simp) rfl ?_
  refine mw_callSX (M' := mL_errorPosition) (A := [vR 0, vR 74]) (S := []) (pc' := 3681) dL_law_3678 rfl (goodW 1591 (by decide +kernel) rfl) kM_L_errorPosition kS_L_errorPosition ⟨by decide, by decide, Nat.le_trans (by decide) hb.1, Nat.le_trans (by decide) hb.2, by decide⟩ rfl rfl (Nat.le_of_ble_eq_true rfl) (MM.mono ?_ (MM.scr (o_errorPosition g d hI)))
  intro o g1 d1 hh
  obtain ⟨⟨k, ho, h1⟩, hs1⟩ := hh
  subst ho
  show MW mL_law (bc - 1) (bs - 6) 3681 [(0, (5, 0)), (1, vR 0), (2, vR 65), (3, vR 74), (4, vR 75), (5, vI i)] [vI k] g1 d1 Q
  refine mw_top (fun hT1 => ?_)
  have hG1 : 76 ≤ g1.2.1 := hT1.2
  refine mw_istore (pc' := 3683) (L' := [(0, (5, 0)), (1, vR 0), (2, vR 65), (3, vR 74), (4, vR 75), (5, vI i), (6, vI k)]) dL_law_3681 rfl (by decide) rfl ?_
  refine mw_aload_n (v := vR 65) (pc' := 3684) dL_law_3683 rfl rfl (by simp) rfl ?_
  refine mw_callV (M' := mX12_errorPosition) (A := []) (A' := [vR 65]) (S := []) (a := 65) (pc' := 3687) dL_law_3684 rfl (Or.inl (goodW 2139 (by decide +kernel) rfl)) kM_X12_errorPosition kV_X12_errorPosition ⟨by decide, by decide, Nat.zero_le _, Nat.zero_le _, by decide⟩ rfl rfl rfl ⟨by decide, by omega⟩ (by decide +kernel) (by decide +kernel) (Nat.le_of_ble_eq_true rfl) (h1 _ (fun b d2 hI2 hs2 h5 hb0 => ?_))
  show MW mL_law (bc - 1) (bs - 6) 3687 [(0, (5, 0)), (1, vR 0), (2, vR 65), (3, vR 74), (4, vR 75), (5, vI i), (6, vI k)] [vI b] g1 d2 Q
  refine mw_istore (pc' := 3689) (L' := [(0, (5, 0)), (1, vR 0), (2, vR 65), (3, vR 74), (4, vR 75), (5, vI i), (6, vI k), (7, vI b)]) dL_law_3687 rfl (by decide) rfl ?_
  refine mw_aload_n (v := vR 65) (pc' := 3690) dL_law_3689 rfl rfl (by simp) rfl ?_
  refine mw_callV (M' := mX12_thrown) (A := []) (A' := [vR 65]) (S := []) (a := 65) (pc' := 3693) dL_law_3690 rfl (Or.inl (goodW 1679 (by decide +kernel) rfl)) kM_X12_thrown kV_X12_thrown ⟨by decide, by decide, Nat.zero_le _, Nat.zero_le _, by decide⟩ rfl rfl rfl ⟨by decide, by omega⟩ (by decide +kernel) (by decide +kernel) (Nat.le_of_ble_eq_true rfl) (eX12_thrown ?_)
  show MW mL_law (bc - 1) (bs - 6) 3693 [(0, (5, 0)), (1, vR 0), (2, vR 65), (3, vR 74), (4, vR 75), (5, vI i), (6, vI k), (7, vI b)] [vI (d2 65 5)] g1 d2 Q
  rw [h5]
  refine mw_iload (pc' := 3695) dL_law_3693 rfl rfl ?_
  refine mw_icmp_eq (tgt := 3700) (pc' := 3698) dL_law_3695 rfl (by decide) (fun _ => ?_) (fun c => absurd rfl c)
  refine mw_iload (pc' := 3702) dL_law_3700 rfl rfl ?_
  refine mw_if_ne (tgt := 3717) (pc' := 3705) dL_law_3702 rfl (by decide) (fun c => ?_) (fun c => ?_)
  · refine mw_goto (pc' := 0) (tgt := 3808) dL_law_3717 (by decide) ?_
    exact mw_loc (pc' := 0) [0, 1, 2, 3, 4, 5] rfl (mw_less ⟨by omega, by omega⟩ (h g1 d2 hI2 hs2))
  · have hb1 := hb0 c
    refine mw_aload_n (v := vR 74) (pc' := 3706) dL_law_3705 rfl rfl (by simp) rfl ?_
    refine mw_iconst (pc' := 3707) dL_law_3706 rfl ⟨by decide, by decide⟩ ?_
    refine mw_lald (pc' := 3708) dL_law_3707 rfl (by decide +kernel) ⟨by decide, by decide⟩ (by rw [show LN 74 = 1 by decide +kernel]; exact ⟨by decide, by decide⟩) ?_
    refine mw_iload (pc' := 3710) dL_law_3708 rfl rfl ?_
    refine mw_i2l (pc' := 3711) dL_law_3710 rfl ?_
    refine mw_lcmp (pc' := 3712) dL_law_3711 rfl ?_
    refine mw_if_eq (tgt := 3717) (pc' := 3715) dL_law_3712 rfl (by decide) (fun _ => ?_) (fun c3 => absurd (by rw [hb1]; exact lCmp_rf) c3)
    refine mw_goto (pc' := 0) (tgt := 3808) dL_law_3717 (by decide) ?_
    exact mw_loc (pc' := 0) [0, 1, 2, 3, 4, 5] rfl (mw_less ⟨by omega, by omega⟩ (h g1 d2 hI2 hs2))
theorem lc_60 {i : Int} {bc bs : Nat} {g : mG} {d : mD} {Q : mQ} (hI : INV g d) (hi : 0 ≤ i ∧ i + 3 < d SCR (-1)) (hN : d SCR (-1) ≤ 2048) (hb : 47 ≤ bc ∧ 8228 ≤ bs) (h : ∀ g' d', INV g' d' → d' SCR = d SCR → MW mL_law (bc - 47) (bs - 8228) 3808 [(0, (5, 0)), (1, vR 0), (2, vR 65), (3, vR 74), (4, vR 75), (5, vI i)] [] g' d' Q) : MW mL_law bc bs 3720 [(0, (5, 0)), (1, vR 0), (2, vR 65), (3, vR 74), (4, vR 75), (5, vI i)] [] g d Q := by
  refine mw_top (fun hT => ?_)
  have hG : 76 ≤ g.2.1 := hT.2
  refine mw_aload_n (v := vR 0) (pc' := 3721) dL_law_3720 rfl rfl (by simp) rfl ?_
  refine mw_aload_n (v := vR 74) (pc' := 3722) dL_law_3721 rfl rfl (by simp) rfl ?_
  refine mw_callSX (M' := mL_failedCommand) (A := [vR 0, vR 74]) (S := []) (pc' := 3725) dL_law_3722 rfl (goodW 1599 (by decide +kernel) rfl) kM_L_failedCommand kS_L_failedCommand ⟨by decide, by decide, Nat.le_trans (by decide) hb.1, Nat.le_trans (by decide) hb.2, by decide⟩ rfl rfl (Nat.le_of_ble_eq_true rfl) (MM.mono ?_ (MM.scr (o_failedCommand g d hI)))
  intro o g1 d1 hh
  obtain ⟨⟨k, ho, h1⟩, hs1⟩ := hh
  subst ho
  show MW mL_law (bc - 1) (bs - 6) 3725 [(0, (5, 0)), (1, vR 0), (2, vR 65), (3, vR 74), (4, vR 75), (5, vI i)] [vI k] g1 d1 Q
  refine mw_top (fun hT1 => ?_)
  have hG1 : 76 ≤ g1.2.1 := hT1.2
  refine mw_istore (pc' := 3727) (L' := [(0, (5, 0)), (1, vR 0), (2, vR 65), (3, vR 74), (4, vR 75), (5, vI i), (6, vI k)]) dL_law_3725 rfl (by decide) rfl ?_
  refine mw_aload_n (v := vR 65) (pc' := 3728) dL_law_3727 rfl rfl (by simp) rfl ?_
  refine mw_callV (M' := mX12_failedCommand) (A := []) (A' := [vR 65]) (S := []) (a := 65) (pc' := 3731) dL_law_3728 rfl (Or.inl (goodW 2143 (by decide +kernel) rfl)) kM_X12_failedCommand kV_X12_failedCommand ⟨by decide, by decide, Nat.zero_le _, Nat.zero_le _, by decide⟩ rfl rfl rfl ⟨by decide, by omega⟩ (by decide +kernel) (by decide +kernel) (Nat.le_of_ble_eq_true rfl) (h1 _ (fun b d2 hI2 hs2 h5 hb0 => ?_))
  show MW mL_law (bc - 1) (bs - 6) 3731 [(0, (5, 0)), (1, vR 0), (2, vR 65), (3, vR 74), (4, vR 75), (5, vI i), (6, vI k)] [vI b] g1 d2 Q
  refine mw_istore (pc' := 3733) (L' := [(0, (5, 0)), (1, vR 0), (2, vR 65), (3, vR 74), (4, vR 75), (5, vI i), (6, vI k), (7, vI b)]) dL_law_3731 rfl (by decide) rfl ?_
  refine mw_aload_n (v := vR 65) (pc' := 3734) dL_law_3733 rfl rfl (by simp) rfl ?_
  refine mw_callV (M' := mX12_thrown) (A := []) (A' := [vR 65]) (S := []) (a := 65) (pc' := 3737) dL_law_3734 rfl (Or.inl (goodW 1679 (by decide +kernel) rfl)) kM_X12_thrown kV_X12_thrown ⟨by decide, by decide, Nat.zero_le _, Nat.zero_le _, by decide⟩ rfl rfl rfl ⟨by decide, by omega⟩ (by decide +kernel) (by decide +kernel) (Nat.le_of_ble_eq_true rfl) (eX12_thrown ?_)
  show MW mL_law (bc - 1) (bs - 6) 3737 [(0, (5, 0)), (1, vR 0), (2, vR 65), (3, vR 74), (4, vR 75), (5, vI i), (6, vI k), (7, vI b)] [vI (d2 65 5)] g1 d2 Q
  rw [h5]
  refine mw_iload (pc' := 3739) dL_law_3737 rfl rfl ?_
  refine mw_icmp_eq (tgt := 3744) (pc' := 3742) dL_law_3739 rfl (by decide) (fun _ => ?_) (fun c => absurd rfl c)
  refine mw_iload (pc' := 3746) dL_law_3744 rfl rfl ?_
  refine mw_if_ne (tgt := 3761) (pc' := 3749) dL_law_3746 rfl (by decide) (fun c => ?_) (fun c => ?_)
  · refine mw_goto (pc' := 0) (tgt := 3808) dL_law_3761 (by decide) ?_
    exact mw_loc (pc' := 0) [0, 1, 2, 3, 4, 5] rfl (mw_less ⟨by omega, by omega⟩ (h g1 d2 hI2 hs2))
  · have hb1 := hb0 c
    refine mw_aload_n (v := vR 74) (pc' := 3750) dL_law_3749 rfl rfl (by simp) rfl ?_
    refine mw_iconst (pc' := 3751) dL_law_3750 rfl ⟨by decide, by decide⟩ ?_
    refine mw_lald (pc' := 3752) dL_law_3751 rfl (by decide +kernel) ⟨by decide, by decide⟩ (by rw [show LN 74 = 1 by decide +kernel]; exact ⟨by decide, by decide⟩) ?_
    refine mw_iload (pc' := 3754) dL_law_3752 rfl rfl ?_
    refine mw_i2l (pc' := 3755) dL_law_3754 rfl ?_
    refine mw_lcmp (pc' := 3756) dL_law_3755 rfl ?_
    refine mw_if_eq (tgt := 3761) (pc' := 3759) dL_law_3756 rfl (by decide) (fun _ => ?_) (fun c3 => absurd (by rw [hb1]; exact lCmp_rf) c3)
    refine mw_goto (pc' := 0) (tgt := 3808) dL_law_3761 (by decide) ?_
    exact mw_loc (pc' := 0) [0, 1, 2, 3, 4, 5] rfl (mw_less ⟨by omega, by omega⟩ (h g1 d2 hI2 hs2))
theorem lc_61 {i : Int} {bc bs : Nat} {g : mG} {d : mD} {Q : mQ} (hI : INV g d) (hi : 0 ≤ i ∧ i + 3 < d SCR (-1)) (hN : d SCR (-1) ≤ 2048) (hb : 47 ≤ bc ∧ 8228 ≤ bs) (h : ∀ g' d', INV g' d' → d' SCR = d SCR → MW mL_law (bc - 47) (bs - 8228) 3808 [(0, (5, 0)), (1, vR 0), (2, vR 65), (3, vR 74), (4, vR 75), (5, vI i)] [] g' d' Q) : MW mL_law bc bs 3764 [(0, (5, 0)), (1, vR 0), (2, vR 65), (3, vR 74), (4, vR 75), (5, vI i)] [] g d Q := by
  refine mw_top (fun hT => ?_)
  have hG : 76 ≤ g.2.1 := hT.2
  refine mw_aload_n (v := vR 0) (pc' := 3765) dL_law_3764 rfl rfl (by simp) rfl ?_
  refine mw_aload_n (v := vR 74) (pc' := 3766) dL_law_3765 rfl rfl (by simp) rfl ?_
  refine mw_callSX (M' := mL_undo) (A := [vR 0, vR 74]) (S := []) (pc' := 3769) dL_law_3766 rfl (goodW 1607 (by decide +kernel) rfl) kM_L_undo kS_L_undo ⟨by decide, by decide, Nat.le_trans (by decide) hb.1, Nat.le_trans (by decide) hb.2, by decide⟩ rfl rfl (Nat.le_of_ble_eq_true rfl) (MM.mono ?_ (MM.scr (o_undo g d hI)))
  intro o g1 d1 hh
  obtain ⟨⟨k, ho, h1⟩, hs1⟩ := hh
  subst ho
  show MW mL_law (bc - 1) (bs - 6) 3769 [(0, (5, 0)), (1, vR 0), (2, vR 65), (3, vR 74), (4, vR 75), (5, vI i)] [vI k] g1 d1 Q
  refine mw_top (fun hT1 => ?_)
  have hG1 : 76 ≤ g1.2.1 := hT1.2
  refine mw_istore (pc' := 3771) (L' := [(0, (5, 0)), (1, vR 0), (2, vR 65), (3, vR 74), (4, vR 75), (5, vI i), (6, vI k)]) dL_law_3769 rfl (by decide) rfl ?_
  refine mw_aload_n (v := vR 65) (pc' := 3772) dL_law_3771 rfl rfl (by simp) rfl ?_
  refine mw_callV (M' := mX12_undo) (A := []) (A' := [vR 65]) (S := []) (a := 65) (pc' := 3775) dL_law_3772 rfl (Or.inl (goodW 1683 (by decide +kernel) rfl)) kM_X12_undo kV_X12_undo ⟨by decide, by decide, Nat.zero_le _, Nat.zero_le _, by decide⟩ rfl rfl rfl ⟨by decide, by omega⟩ (by decide +kernel) (by decide +kernel) (Nat.le_of_ble_eq_true rfl) (h1 _ (fun b d2 hI2 hs2 h5 hb0 => ?_))
  show MW mL_law (bc - 1) (bs - 6) 3775 [(0, (5, 0)), (1, vR 0), (2, vR 65), (3, vR 74), (4, vR 75), (5, vI i), (6, vI k)] [vI b] g1 d2 Q
  refine mw_istore (pc' := 3777) (L' := [(0, (5, 0)), (1, vR 0), (2, vR 65), (3, vR 74), (4, vR 75), (5, vI i), (6, vI k), (7, vI b)]) dL_law_3775 rfl (by decide) rfl ?_
  refine mw_aload_n (v := vR 65) (pc' := 3778) dL_law_3777 rfl rfl (by simp) rfl ?_
  refine mw_callV (M' := mX12_thrown) (A := []) (A' := [vR 65]) (S := []) (a := 65) (pc' := 3781) dL_law_3778 rfl (Or.inl (goodW 1679 (by decide +kernel) rfl)) kM_X12_thrown kV_X12_thrown ⟨by decide, by decide, Nat.zero_le _, Nat.zero_le _, by decide⟩ rfl rfl rfl ⟨by decide, by omega⟩ (by decide +kernel) (by decide +kernel) (Nat.le_of_ble_eq_true rfl) (eX12_thrown ?_)
  show MW mL_law (bc - 1) (bs - 6) 3781 [(0, (5, 0)), (1, vR 0), (2, vR 65), (3, vR 74), (4, vR 75), (5, vI i), (6, vI k), (7, vI b)] [vI (d2 65 5)] g1 d2 Q
  rw [h5]
  refine mw_iload (pc' := 3783) dL_law_3781 rfl rfl ?_
  refine mw_icmp_eq (tgt := 3788) (pc' := 3786) dL_law_3783 rfl (by decide) (fun _ => ?_) (fun c => absurd rfl c)
  refine mw_iload (pc' := 3790) dL_law_3788 rfl rfl ?_
  refine mw_if_ne (tgt := 3805) (pc' := 3793) dL_law_3790 rfl (by decide) (fun c => ?_) (fun c => ?_)
  · refine mw_goto (pc' := 0) (tgt := 3808) dL_law_3805 (by decide) ?_
    exact mw_loc (pc' := 0) [0, 1, 2, 3, 4, 5] rfl (mw_less ⟨by omega, by omega⟩ (h g1 d2 hI2 hs2))
  · have hb1 := hb0 c
    refine mw_aload_n (v := vR 74) (pc' := 3794) dL_law_3793 rfl rfl (by simp) rfl ?_
    refine mw_iconst (pc' := 3795) dL_law_3794 rfl ⟨by decide, by decide⟩ ?_
    refine mw_lald (pc' := 3796) dL_law_3795 rfl (by decide +kernel) ⟨by decide, by decide⟩ (by rw [show LN 74 = 1 by decide +kernel]; exact ⟨by decide, by decide⟩) ?_
    refine mw_iload (pc' := 3798) dL_law_3796 rfl rfl ?_
    refine mw_i2l (pc' := 3799) dL_law_3798 rfl ?_
    refine mw_lcmp (pc' := 3800) dL_law_3799 rfl ?_
    refine mw_if_eq (tgt := 3805) (pc' := 3803) dL_law_3800 rfl (by decide) (fun _ => ?_) (fun c3 => absurd (by rw [hb1]; exact lCmp_rf) c3)
    refine mw_goto (pc' := 0) (tgt := 3808) dL_law_3805 (by decide) ?_
    exact mw_loc (pc' := 0) [0, 1, 2, 3, 4, 5] rfl (mw_less ⟨by omega, by omega⟩ (h g1 d2 hI2 hs2))
