theorem fr_RX11_26_0 : FR RX11 26 0 3 := ⟨(show LK 0 = 11 by decide +kernel) ▸ fg_RX11_26, by decide +kernel, by decide +kernel, by decide⟩
theorem sp_0_3 : ((0, 3, 6) : Int × Int × Int) ∈ SPl := by decide +kernel
theorem fr_RX11_252_6 : FR RX11 252 6 3 := ⟨(show LK 6 = 3 by decide +kernel) ▸ fg_RX11_252, by decide +kernel, by decide +kernel, by decide⟩
theorem sp_6_3 : ((6, 3, 16) : Int × Int × Int) ∈ SPl := by decide +kernel
theorem fr_RX11_384_6 : FR RX11 384 6 5 := ⟨(show LK 6 = 3 by decide +kernel) ▸ fg_RX11_384, by decide +kernel, by decide +kernel, by decide⟩
theorem sp_6_5 : ((6, 5, 33) : Int × Int × Int) ∈ SPl := by decide +kernel
theorem fr_RX11_397_33 : FR RX11 397 33 0 := ⟨(show LK 33 = 1 by decide +kernel) ▸ fg_RX11_397, by decide +kernel, by decide +kernel, by decide⟩
theorem fr_RX11_36_6 : FR RX11 36 6 1 := ⟨(show LK 6 = 3 by decide +kernel) ▸ fg_RX11_36, by decide +kernel, by decide +kernel, by decide⟩
theorem sp_6_1 : ((6, 1, 10) : Int × Int × Int) ∈ SPl := by decide +kernel
theorem fi_RX11_152_10 : FI RX11 152 10 0 := ⟨(show LK 10 = 0 by decide +kernel) ▸ fg_RX11_152, by decide +kernel, by decide +kernel, by decide⟩
theorem fr_RX11_54_0 : FR RX11 54 0 8 := ⟨(show LK 0 = 11 by decide +kernel) ▸ fg_RX11_54, by decide +kernel, by decide +kernel, by decide⟩
theorem sp_0_8 : ((0, 8, 56) : Int × Int × Int) ∈ SPl := by decide +kernel
theorem fr_RX11_47_0 : FR RX11 47 0 7 := ⟨(show LK 0 = 11 by decide +kernel) ▸ fg_RX11_47, by decide +kernel, by decide +kernel, by decide⟩
theorem sp_0_7 : ((0, 7, 53) : Int × Int × Int) ∈ SPl := by decide +kernel
theorem fr_RX11_210_6 : FR RX11 210 6 2 := ⟨(show LK 6 = 3 by decide +kernel) ▸ fg_RX11_210, by decide +kernel, by decide +kernel, by decide⟩
theorem sp_6_2 : ((6, 2, 12) : Int × Int × Int) ∈ SPl := by decide +kernel
theorem fr_RX11_214_12 : FR RX11 214 12 0 := ⟨(show LK 12 = 7 by decide +kernel) ▸ fg_RX11_214, by decide +kernel, by decide +kernel, by decide⟩
theorem fr_RX11_217_12 : FR RX11 217 12 1 := ⟨(show LK 12 = 7 by decide +kernel) ▸ fg_RX11_217, by decide +kernel, by decide +kernel, by decide⟩
theorem fi_RX11_256_16 : FI RX11 256 16 11 := ⟨(show LK 16 = 2 by decide +kernel) ▸ fg_RX11_256, by decide +kernel, by decide +kernel, by decide⟩
theorem fr_RX11_293_16 : FR RX11 293 16 10 := ⟨(show LK 16 = 2 by decide +kernel) ▸ fg_RX11_293, by decide +kernel, by decide +kernel, by decide⟩
theorem fr_RX11_58_0 : FR RX11 58 0 9 := ⟨(show LK 0 = 11 by decide +kernel) ▸ fg_RX11_58, by decide +kernel, by decide +kernel, by decide⟩
theorem sp_0_9 : ((0, 9, 59) : Int × Int × Int) ∈ SPl := by decide +kernel
theorem ln_59 : LN 59 = 30 := by decide +kernel
theorem lk_59 : LK 59 = 100 := by decide +kernel
theorem fr_RX11_40_6 : FR RX11 40 6 4 := ⟨(show LK 6 = 3 by decide +kernel) ▸ fg_RX11_40, by decide +kernel, by decide +kernel, by decide⟩
theorem sp_6_4 : ((6, 4, 28) : Int × Int × Int) ∈ SPl := by decide +kernel
theorem fi_RX11_256_34 : FI RX11 256 34 11 := ⟨(show LK 34 = 2 by decide +kernel) ▸ fg_RX11_256, by decide +kernel, by decide +kernel, by decide⟩
theorem fr_RX11_12_0 : FR RX11 12 0 0 := ⟨(show LK 0 = 11 by decide +kernel) ▸ fg_RX11_12, by decide +kernel, by decide +kernel, by decide⟩
theorem sp_0_0 : ((0, 0, 1) : Int × Int × Int) ∈ SPl := by decide +kernel
theorem fi_RX11_75_1 : FI RX11 75 1 1 := ⟨(show LK 1 = 9 by decide +kernel) ▸ fg_RX11_75, by decide +kernel, by decide +kernel, by decide⟩
theorem rc_10_0 : RC 10 0 = 0 := by decide +kernel
theorem fq_RX11_152_10 : FP RX11 152 (LK 10) 0 .int false := (show LK 10 = 0 by decide +kernel) ▸ fp_RX11_152
theorem fi_RX11_187_10 : FI RX11 187 10 2 := ⟨(show LK 10 = 0 by decide +kernel) ▸ fg_RX11_187, by decide +kernel, by decide +kernel, by decide⟩
theorem fr_RX11_231_12 : FR RX11 231 12 2 := ⟨(show LK 12 = 7 by decide +kernel) ▸ fg_RX11_231, by decide +kernel, by decide +kernel, by decide⟩
theorem sp_12_2 : ((12, 2, 15) : Int × Int × Int) ∈ SPl := by decide +kernel
theorem ln_15 : LN 15 = 4 := by decide +kernel
theorem lk_15 : LK 15 = 100 := by decide +kernel
theorem fr_RX11_107_6 : FR RX11 107 6 0 := ⟨(show LK 6 = 3 by decide +kernel) ▸ fg_RX11_107, by decide +kernel, by decide +kernel, by decide⟩
theorem sp_6_0 : ((6, 0, 7) : Int × Int × Int) ∈ SPl := by decide +kernel
theorem fr_RX11_323_16 : FR RX11 323 16 6 := ⟨(show LK 16 = 2 by decide +kernel) ▸ fg_RX11_323, by decide +kernel, by decide +kernel, by decide⟩
theorem fr_RX11_326_16 : FR RX11 326 16 7 := ⟨(show LK 16 = 2 by decide +kernel) ▸ fg_RX11_326, by decide +kernel, by decide +kernel, by decide⟩
theorem fr_RX11_332_16 : FR RX11 332 16 8 := ⟨(show LK 16 = 2 by decide +kernel) ▸ fg_RX11_332, by decide +kernel, by decide +kernel, by decide⟩
theorem fi_RX11_361_28 : FI RX11 361 28 4 := ⟨(show LK 28 = 8 by decide +kernel) ▸ fg_RX11_361, by decide +kernel, by decide +kernel, by decide⟩
theorem fr_RX11_369_28 : FR RX11 369 28 3 := ⟨(show LK 28 = 8 by decide +kernel) ▸ fg_RX11_369, by decide +kernel, by decide +kernel, by decide⟩
theorem fr_RX11_372_28 : FR RX11 372 28 2 := ⟨(show LK 28 = 8 by decide +kernel) ▸ fg_RX11_372, by decide +kernel, by decide +kernel, by decide⟩
theorem fi_RX11_415_33 : FI RX11 415 33 7 := ⟨(show LK 33 = 1 by decide +kernel) ▸ fg_RX11_415, by decide +kernel, by decide +kernel, by decide⟩
theorem fr_RX11_416_33 : FR RX11 416 33 3 := ⟨(show LK 33 = 1 by decide +kernel) ▸ fg_RX11_416, by decide +kernel, by decide +kernel, by decide⟩
theorem fr_RX11_19_0 : FR RX11 19 0 2 := ⟨(show LK 0 = 11 by decide +kernel) ▸ fg_RX11_19, by decide +kernel, by decide +kernel, by decide⟩
theorem sp_0_2 : ((0, 2, 5) : Int × Int × Int) ∈ SPl := by decide +kernel
theorem fi_RX11_122_7 : FI RX11 122 7 2 := ⟨(show LK 7 = 5 by decide +kernel) ▸ fg_RX11_122, by decide +kernel, by decide +kernel, by decide⟩
theorem fi_RX11_490_0 : FI RX11 490 0 5 := ⟨(show LK 0 = 11 by decide +kernel) ▸ fg_RX11_490, by decide +kernel, by decide +kernel, by decide⟩
theorem rc_0_5 : RC 0 5 = 0 := by decide +kernel
theorem fq_RX11_490_0 : FP RX11 490 (LK 0) 5 .int false := (show LK 0 = 11 by decide +kernel) ▸ fp_RX11_490
theorem fi_RX11_485_0 : FI RX11 485 0 6 := ⟨(show LK 0 = 11 by decide +kernel) ▸ fg_RX11_485, by decide +kernel, by decide +kernel, by decide⟩
theorem rc_0_6 : RC 0 6 = 0 := by decide +kernel
theorem fq_RX11_485_0 : FP RX11 485 (LK 0) 6 .int false := (show LK 0 = 11 by decide +kernel) ▸ fp_RX11_485
theorem eX11_needDeadline {x1 : Int} {g : mG} {d : mD} {Q : mQ} (h : (((¬ (x1 < 0)) ∧ (¬ (d 16 11 ≤ x1))) → Q (.inl 0) g d) ∧ ((¬ ((¬ (x1 < 0)) ∧ (¬ (d 16 11 ≤ x1)))) → Q (.inr 3) g d)) : MM mX11_needDeadline [vR 0, vI x1] g d Q := by
  refine MM_of (by decide) rfl (by simp [catV]) (Nat.le_of_ble_eq_true rfl) ?_
  show MW mX11_needDeadline 1 6 0 [(0, vR 0), (1, vI x1)] [] g d Q
  refine mw_top (fun hT => ?_)
  have hG : 65 ≤ g.2.1 := hT.2
  refine mw_aload_n (v := vR 0) (pc' := 1) dX11_needDeadline_0 rfl rfl (Or.inl rfl) rfl ?_
  refine mw_getP (v := 6) (pc' := 4) dX11_needDeadline_1 rfl fr_RX11_26_0 rfl sp_0_3 ⟨by decide, by decide⟩ ?_
  refine mw_getP (v := 16) (pc' := 7) dX11_needDeadline_4 rfl fr_RX11_252_6 rfl sp_6_3 ⟨by decide, by decide⟩ ?_
  refine mw_iload_n (pc' := 8) dX11_needDeadline_7 rfl rfl rfl ?_
  refine mw_callV (M' := mX2_has) (A := [vI x1]) (A' := [vR 16, vI x1]) (S := []) (a := 16) (pc' := 11) dX11_needDeadline_8 rfl cl_RX11_322 cm_X2_has cv_X2_has ⟨by decide, by decide, by decide, by decide, by decide⟩ rfl rfl rfl ⟨by decide, by omega⟩ (by decide +kernel) (by decide +kernel) (Nat.le_of_ble_eq_true rfl) (eX2_has_d ?_)
  show MW mX11_needDeadline 1 6 11 [(0, vR 0), (1, vI x1)] [vI (bI ((¬ (x1 < 0)) ∧ (¬ (d 16 11 ≤ x1))))] g d Q
  refine mw_if_ne (tgt := 25) (pc' := 14) dX11_needDeadline_11 rfl (by decide) (fun c1 => ?_) (fun c1 => ?_)
  · replace c1 := bI_n0.mp c1
    replace h := h.1 c1
    exact mw_vret (pc' := 0) (S := []) dX11_needDeadline_25 rfl h
  · replace c1 := bI_0.mp c1
    replace h := h.2 c1
    exact mw_throwW (pc' := 0) (k := 3) (i := 17) dX11_needDeadline_14 dX11_needDeadline_17 dX11_needDeadline_18 dX11_needDeadline_21 dX11_needDeadline_24 (by decide +kernel) (by decide +kernel) tk_RX11_132_136 ti_RX11_132_136 rfl ta_RX11_132_136 tg_RX11_132_136 rfl (by decide) (by decide) (by decide) (by decide) (by decide) h
theorem eX11_needOccurrence {x1 : Int} {g : mG} {d : mD} {Q : mQ} (h : (((¬ (x1 < 0)) ∧ (¬ (d 34 11 ≤ x1))) → Q (.inl 0) g d) ∧ ((¬ ((¬ (x1 < 0)) ∧ (¬ (d 34 11 ≤ x1)))) → Q (.inr 3) g d)) : MM mX11_needOccurrence [vR 0, vI x1] g d Q := by
  refine MM_of (by decide) rfl (by simp [catV]) (Nat.le_of_ble_eq_true rfl) ?_
  show MW mX11_needOccurrence 1 6 0 [(0, vR 0), (1, vI x1)] [] g d Q
  refine mw_top (fun hT => ?_)
  have hG : 65 ≤ g.2.1 := hT.2
  refine mw_aload_n (v := vR 0) (pc' := 1) dX11_needOccurrence_0 rfl rfl (Or.inl rfl) rfl ?_
  refine mw_getP (v := 6) (pc' := 4) dX11_needOccurrence_1 rfl fr_RX11_26_0 rfl sp_0_3 ⟨by decide, by decide⟩ ?_
  refine mw_getP (v := 33) (pc' := 7) dX11_needOccurrence_4 rfl fr_RX11_384_6 rfl sp_6_5 ⟨by decide, by decide⟩ ?_
  refine mw_getP (v := 34) (pc' := 10) dX11_needOccurrence_7 rfl fr_RX11_397_33 rfl sp_33_0 ⟨by decide, by decide⟩ ?_
  refine mw_iload_n (pc' := 11) dX11_needOccurrence_10 rfl rfl rfl ?_
  refine mw_callV (M' := mX2_has) (A := [vI x1]) (A' := [vR 34, vI x1]) (S := []) (a := 34) (pc' := 14) dX11_needOccurrence_11 rfl cl_RX11_322 cm_X2_has cv_X2_has ⟨by decide, by decide, by decide, by decide, by decide⟩ rfl rfl rfl ⟨by decide, by omega⟩ (by decide +kernel) (by decide +kernel) (Nat.le_of_ble_eq_true rfl) (eX2_has_p ?_)
  show MW mX11_needOccurrence 1 6 14 [(0, vR 0), (1, vI x1)] [vI (bI ((¬ (x1 < 0)) ∧ (¬ (d 34 11 ≤ x1))))] g d Q
  refine mw_if_ne (tgt := 28) (pc' := 17) dX11_needOccurrence_14 rfl (by decide) (fun c1 => ?_) (fun c1 => ?_)
  · replace c1 := bI_n0.mp c1
    replace h := h.1 c1
    exact mw_vret (pc' := 0) (S := []) dX11_needOccurrence_28 rfl h
  · replace c1 := bI_0.mp c1
    replace h := h.2 c1
    exact mw_throwW (pc' := 0) (k := 3) (i := 19) dX11_needOccurrence_17 dX11_needOccurrence_20 dX11_needOccurrence_21 dX11_needOccurrence_24 dX11_needOccurrence_27 (by decide +kernel) (by decide +kernel) tk_RX11_132_136 ti_RX11_132_136 rfl ta_RX11_132_136 tg_RX11_132_136 rfl (by decide) (by decide) (by decide) (by decide) (by decide) h
theorem eX11_today {g : mG} {d : mD} {Q : mQ} (h : Q (.inl (d 10 0)) g d) : MM mX11_today [vR 0] g d Q := by
  refine MM_of (by decide) rfl (by simp [catV]) (Nat.le_of_ble_eq_true rfl) ?_
  show MW mX11_today 0 0 0 [(0, vR 0)] [] g d Q
  refine mw_top (fun hT => ?_)
  have hG : 65 ≤ g.2.1 := hT.2
  refine mw_aload_n (v := vR 0) (pc' := 1) dX11_today_0 rfl rfl (Or.inl rfl) rfl ?_
  refine mw_getP (v := 6) (pc' := 4) dX11_today_1 rfl fr_RX11_26_0 rfl sp_0_3 ⟨by decide, by decide⟩ ?_
  refine mw_getP (v := 10) (pc' := 7) dX11_today_4 rfl fr_RX11_36_6 rfl sp_6_1 ⟨by decide, by decide⟩ ?_
  refine mw_getI (ji := 0) (pc' := 10) dX11_today_7 rfl fi_RX11_152_10 rfl ⟨by decide, by decide⟩ ?_
  exact mw_iret (pc' := 0) (S := []) dX11_today_10 rfl (Or.inl rfl) h
theorem eX11_isCourtDay {R : rW} {x1 : Int} {g : mG} {d : mD} {Q : mQ} (h : (((¬ (x1 < 0)) ∧ (¬ (4999 < x1))) → (CI d R) ∧ ((0 ≤ x1) ∧ (Q (.inl (bI (court R x1))) g d))) ∧ ((¬ ((¬ (x1 < 0)) ∧ (¬ (4999 < x1)))) → Q (.inr 2) g d)) : MM mX11_isCourtDay [vR 0, vI x1] g d Q := by
  refine MM_of (by decide) rfl (by simp [catV]) (Nat.le_of_ble_eq_true rfl) ?_
  show MW mX11_isCourtDay 1 6 0 [(0, vR 0), (1, vI x1)] [] g d Q
  refine mw_top (fun hT => ?_)
  have hG : 65 ≤ g.2.1 := hT.2
  refine mw_iload_n (pc' := 1) dX11_isCourtDay_0 rfl rfl rfl ?_
  refine mw_callS (M' := mX11_needDay) (A := [vI x1]) (S := []) (pc' := 4) dX11_isCourtDay_1 rfl cl_RX11_160 cm_X11_needDay cs_X11_needDay ⟨by decide, by decide, by decide, by decide, by decide⟩ rfl rfl (Nat.le_of_ble_eq_true rfl) (eX11_needDay ?_)
  refine ⟨fun c1 => ?_, fun c1 => ?_⟩
  · replace h := h.1 (show (¬ (x1 < 0)) ∧ (¬ (4999 < x1)) from c1)
    show MW mX11_isCourtDay 0 0 4 [(0, vR 0), (1, vI x1)] [] g d Q
    refine mw_aload_n (v := vR 0) (pc' := 5) dX11_isCourtDay_4 rfl rfl (Or.inl rfl) rfl ?_
    refine mw_getP (v := 6) (pc' := 8) dX11_isCourtDay_5 rfl fr_RX11_26_0 rfl sp_0_3 ⟨by decide, by decide⟩ ?_
    refine mw_getP (v := 10) (pc' := 11) dX11_isCourtDay_8 rfl fr_RX11_36_6 rfl sp_6_1 ⟨by decide, by decide⟩ ?_
    refine mw_iload_n (pc' := 12) dX11_isCourtDay_11 rfl rfl rfl ?_
    obtain ⟨o2, h⟩ := h
    obtain ⟨o3, h⟩ := h
    refine mw_callV (M' := mX0_isCourt) (A := [vI x1]) (A' := [vR 10, vI x1]) (S := []) (a := 10) (pc' := 15) dX11_isCourtDay_12 rfl cl_RX11_163 cm_X0_isCourt cv_X0_isCourt ⟨by decide, by decide, by decide, by decide, by decide⟩ rfl rfl rfl ⟨by decide, by omega⟩ (by decide +kernel) (by decide +kernel) (Nat.le_of_ble_eq_true rfl) (f_isCourtC (⟨o2, o3, ?_⟩))
    show MW mX11_isCourtDay 0 0 15 [(0, vR 0), (1, vI x1)] [vI (bI (court R x1))] g d Q
    exact mw_iret (pc' := 0) (S := []) dX11_isCourtDay_15 rfl (Or.inr (Or.inl ⟨rfl, bI_rng⟩)) h
  · replace h := h.2 (show ¬ ((¬ (x1 < 0)) ∧ (¬ (4999 < x1))) from c1)
    exact mx_out rfl h
theorem eX11_courtDays {R : rW} {x1 x2 : Int} {g : mG} {d : mD} {Q : mQ} (h : (((¬ ((¬ (x1 < 0)) ∧ (¬ (4999 < x1)))) ∨ ((¬ ((¬ (x2 < 0)) ∧ (¬ (4999 < x2)))) ∨ (¬ (x1 ≤ x2)))) → Q (.inr 2) g d) ∧ ((¬ ((¬ ((¬ (x1 < 0)) ∧ (¬ (4999 < x1)))) ∨ ((¬ ((¬ (x2 < 0)) ∧ (¬ (4999 < x2)))) ∨ (¬ (x1 ≤ x2))))) → (CI d R) ∧ ((0 ≤ x1 ∧ x1 ≤ 5001) ∧ ((-1 ≤ x2 ∧ x2 ≤ 4999) ∧ (Q (.inl (cn (court R) x1 x2)) g d))))) : MM mX11_courtDays [vR 0, vI x1, vI x2] g d Q := by
  refine MM_of (by decide) rfl (by simp [catV]) (Nat.le_of_ble_eq_true rfl) ?_
  show MW mX11_courtDays 1 6 0 [(0, vR 0), (1, vI x1), (2, vI x2)] [] g d Q
  refine mw_top (fun hT => ?_)
  have hG : 65 ≤ g.2.1 := hT.2
  refine mw_iload_n (pc' := 1) dX11_courtDays_0 rfl rfl rfl ?_
  refine mw_iload_n (pc' := 2) dX11_courtDays_1 rfl rfl rfl ?_
  refine mw_callS (M' := mX11_needRange) (A := [vI x1, vI x2]) (S := []) (pc' := 5) dX11_courtDays_2 rfl cl_RX11_172 cm_X11_needRange cs_X11_needRange ⟨by decide, by decide, by decide, by decide, by decide⟩ rfl rfl (Nat.le_of_ble_eq_true rfl) (eX11_needRange ?_)
  refine ⟨fun c1 => ?_, fun c1 => ?_⟩
  · replace h := h.1 (show (¬ ((¬ (x1 < 0)) ∧ (¬ (4999 < x1)))) ∨ ((¬ ((¬ (x2 < 0)) ∧ (¬ (4999 < x2)))) ∨ (¬ (x1 ≤ x2))) from c1)
    exact mx_out rfl h
  · replace h := h.2 (show ¬ ((¬ ((¬ (x1 < 0)) ∧ (¬ (4999 < x1)))) ∨ ((¬ ((¬ (x2 < 0)) ∧ (¬ (4999 < x2)))) ∨ (¬ (x1 ≤ x2)))) from c1)
    show MW mX11_courtDays 0 0 5 [(0, vR 0), (1, vI x1), (2, vI x2)] [] g d Q
    refine mw_aload_n (v := vR 0) (pc' := 6) dX11_courtDays_5 rfl rfl (Or.inl rfl) rfl ?_
    refine mw_getP (v := 6) (pc' := 9) dX11_courtDays_6 rfl fr_RX11_26_0 rfl sp_0_3 ⟨by decide, by decide⟩ ?_
    refine mw_getP (v := 10) (pc' := 12) dX11_courtDays_9 rfl fr_RX11_36_6 rfl sp_6_1 ⟨by decide, by decide⟩ ?_
    refine mw_iload_n (pc' := 13) dX11_courtDays_12 rfl rfl rfl ?_
    refine mw_iload_n (pc' := 14) dX11_courtDays_13 rfl rfl rfl ?_
    obtain ⟨o2, h⟩ := h
    obtain ⟨o3, h⟩ := h
    obtain ⟨o4, h⟩ := h
    refine mw_callV (M' := mX0_countCourt) (A := [vI x1, vI x2]) (A' := [vR 10, vI x1, vI x2]) (S := []) (a := 10) (pc' := 17) dX11_courtDays_14 rfl cl_RX11_176 cm_X0_countCourt cv_X0_countCourt ⟨by decide, by decide, by decide, by decide, by decide⟩ rfl rfl rfl ⟨by decide, by omega⟩ (by decide +kernel) (by decide +kernel) (Nat.le_of_ble_eq_true rfl) (f_countCourt (⟨o2, o3, o4, ?_⟩))
    show MW mX11_courtDays 0 0 17 [(0, vR 0), (1, vI x1), (2, vI x2)] [vI (cn (court R) x1 x2)] g d Q
    exact mw_iret (pc' := 0) (S := []) dX11_courtDays_17 rfl (Or.inl rfl) h
theorem eX11_courtDaysByMarking {R : rW} {x1 x2 : Int} {g : mG} {d : mD} {Q : mQ} (h : (((¬ ((¬ (x1 < 0)) ∧ (¬ (4999 < x1)))) ∨ ((¬ ((¬ (x2 < 0)) ∧ (¬ (4999 < x2)))) ∨ (¬ (x1 ≤ x2)))) → Q (.inr 2) g d) ∧ ((¬ ((¬ ((¬ (x1 < 0)) ∧ (¬ (4999 < x1)))) ∨ ((¬ ((¬ (x2 < 0)) ∧ (¬ (4999 < x2)))) ∨ (¬ (x1 ≤ x2))))) → (CI d R) ∧ ((0 ≤ x1 ∧ x1 ≤ x2) ∧ ((x2 ≤ 4999) ∧ (∀ d5, FrM d d5 → (Q (.inl (cn (court R) x1 x2)) g d5)))))) : MM mX11_courtDaysByMarking [vR 0, vI x1, vI x2] g d Q := by
  refine MM_of (by decide) rfl (by simp [catV]) (Nat.le_of_ble_eq_true rfl) ?_
  show MW mX11_courtDaysByMarking 1 6 0 [(0, vR 0), (1, vI x1), (2, vI x2)] [] g d Q
  refine mw_top (fun hT => ?_)
  have hG : 65 ≤ g.2.1 := hT.2
  refine mw_iload_n (pc' := 1) dX11_courtDaysByMarking_0 rfl rfl rfl ?_
  refine mw_iload_n (pc' := 2) dX11_courtDaysByMarking_1 rfl rfl rfl ?_
  refine mw_callS (M' := mX11_needRange) (A := [vI x1, vI x2]) (S := []) (pc' := 5) dX11_courtDaysByMarking_2 rfl cl_RX11_172 cm_X11_needRange cs_X11_needRange ⟨by decide, by decide, by decide, by decide, by decide⟩ rfl rfl (Nat.le_of_ble_eq_true rfl) (eX11_needRange ?_)
  refine ⟨fun c1 => ?_, fun c1 => ?_⟩
  · replace h := h.1 (show (¬ ((¬ (x1 < 0)) ∧ (¬ (4999 < x1)))) ∨ ((¬ ((¬ (x2 < 0)) ∧ (¬ (4999 < x2)))) ∨ (¬ (x1 ≤ x2))) from c1)
    exact mx_out rfl h
  · replace h := h.2 (show ¬ ((¬ ((¬ (x1 < 0)) ∧ (¬ (4999 < x1)))) ∨ ((¬ ((¬ (x2 < 0)) ∧ (¬ (4999 < x2)))) ∨ (¬ (x1 ≤ x2)))) from c1)
    show MW mX11_courtDaysByMarking 0 0 5 [(0, vR 0), (1, vI x1), (2, vI x2)] [] g d Q
    refine mw_aload_n (v := vR 0) (pc' := 6) dX11_courtDaysByMarking_5 rfl rfl (Or.inl rfl) rfl ?_
    refine mw_getP (v := 56) (pc' := 9) dX11_courtDaysByMarking_6 rfl fr_RX11_54_0 rfl sp_0_8 ⟨by decide, by decide⟩ ?_
    refine mw_iload_n (pc' := 10) dX11_courtDaysByMarking_9 rfl rfl rfl ?_
    refine mw_iload_n (pc' := 11) dX11_courtDaysByMarking_10 rfl rfl rfl ?_
    refine mw_callV (M' := mX4_countCourt) (A := [vI x1, vI x2]) (A' := [vR 56, vI x1, vI x2]) (S := []) (a := 56) (pc' := 14) dX11_courtDaysByMarking_11 rfl cl_RX11_180 cm_X4_countCourt cv_X4_countCourt ⟨by decide, by decide, by decide, by decide, by decide⟩ rfl rfl rfl ⟨by decide, by omega⟩ (by decide +kernel) (by decide +kernel) (Nat.le_of_ble_eq_true rfl) (f_countCourtM (R := R) ?_)
    obtain ⟨o2, h⟩ := h
    refine ⟨o2, ?_⟩
    obtain ⟨o3, h⟩ := h
    refine ⟨o3, ?_⟩
    obtain ⟨o4, h⟩ := h
    refine ⟨o4, ?_⟩
    intro d5 q6
    replace h := h d5 q6
    show MW mX11_courtDaysByMarking 0 0 14 [(0, vR 0), (1, vI x1), (2, vI x2)] [vI (cn (court R) x1 x2)] g d5 Q
    exact mw_iret (pc' := 0) (S := []) dX11_courtDaysByMarking_14 rfl (Or.inl rfl) h
theorem eX11_lastDayBefore {R : rW} {x1 x2 : Int} {g : mG} {d : mD} {Q : mQ} (h : (((¬ (x1 < 0)) ∧ (¬ (8 ≤ x1))) → (((¬ (x2 < 0)) ∧ (¬ (4999 < x2))) → (0 ≤ x1 ∧ x1 < 8) ∧ ((CI d R) ∧ ((0 ≤ x2 ∧ x2 ≤ 4999) ∧ ((1 ≤ (d 13 x1) ∧ (d 13 x1) ≤ 200) ∧ (((0 ≤ (iT ((d 14 x1) = 0 ∧ x2 - (d 13 x1) < 0) (x2 - (d 13 x1)) (bkF R x2 (d 13 x1) (d 14 x1)))) → Q (.inl (iT ((d 14 x1) = 0 ∧ x2 - (d 13 x1) < 0) (x2 - (d 13 x1)) (bkF R x2 (d 13 x1) (d 14 x1)))) g d) ∧ ((¬ (0 ≤ (iT ((d 14 x1) = 0 ∧ x2 - (d 13 x1) < 0) (x2 - (d 13 x1)) (bkF R x2 (d 13 x1) (d 14 x1))))) → Q (.inr 4) g d)))))) ∧ ((¬ ((¬ (x2 < 0)) ∧ (¬ (4999 < x2)))) → Q (.inr 2) g d)) ∧ ((¬ ((¬ (x1 < 0)) ∧ (¬ (8 ≤ x1)))) → Q (.inr 3) g d)) : MM mX11_lastDayBefore [vR 0, vI x1, vI x2] g d Q := by
  refine MM_of (by decide) rfl (by simp [catV]) (Nat.le_of_ble_eq_true rfl) ?_
  show MW mX11_lastDayBefore 3 18 0 [(0, vR 0), (1, vI x1), (2, vI x2)] [] g d Q
  refine mw_top (fun hT => ?_)
  have hG : 65 ≤ g.2.1 := hT.2
  refine mw_iload_n (pc' := 1) dX11_lastDayBefore_0 rfl rfl rfl ?_
  refine mw_callS (M' := mX11_needRule) (A := [vI x1]) (S := []) (pc' := 4) dX11_lastDayBefore_1 rfl cl_RX11_207 cm_X11_needRule cs_X11_needRule ⟨by decide, by decide, by decide, by decide, by decide⟩ rfl rfl (Nat.le_of_ble_eq_true rfl) (eX11_needRule ?_)
  refine ⟨fun c1 => ?_, fun c1 => ?_⟩
  · replace h := h.1 (show (¬ (x1 < 0)) ∧ (¬ (8 ≤ x1)) from c1)
    show MW mX11_lastDayBefore 2 12 4 [(0, vR 0), (1, vI x1), (2, vI x2)] [] g d Q
    refine mw_iload_n (pc' := 5) dX11_lastDayBefore_4 rfl rfl rfl ?_
    refine mw_callS (M' := mX11_needDay) (A := [vI x2]) (S := []) (pc' := 8) dX11_lastDayBefore_5 rfl cl_RX11_160 cm_X11_needDay cs_X11_needDay ⟨by decide, by decide, by decide, by decide, by decide⟩ rfl rfl (Nat.le_of_ble_eq_true rfl) (eX11_needDay ?_)
    refine ⟨fun c2 => ?_, fun c2 => ?_⟩
    · replace h := h.1 (show (¬ (x2 < 0)) ∧ (¬ (4999 < x2)) from c2)
      show MW mX11_lastDayBefore 1 6 8 [(0, vR 0), (1, vI x1), (2, vI x2)] [] g d Q
      refine mw_aload_n (v := vR 0) (pc' := 9) dX11_lastDayBefore_8 rfl rfl (Or.inl rfl) rfl ?_
      refine mw_getP (v := 53) (pc' := 12) dX11_lastDayBefore_9 rfl fr_RX11_47_0 rfl sp_0_7 ⟨by decide, by decide⟩ ?_
      refine mw_iload_n (pc' := 13) dX11_lastDayBefore_12 rfl rfl rfl ?_
      refine mw_aload_n (v := vR 0) (pc' := 14) dX11_lastDayBefore_13 rfl rfl (Or.inl rfl) rfl ?_
      refine mw_getP (v := 6) (pc' := 17) dX11_lastDayBefore_14 rfl fr_RX11_26_0 rfl sp_0_3 ⟨by decide, by decide⟩ ?_
      refine mw_getP (v := 12) (pc' := 20) dX11_lastDayBefore_17 rfl fr_RX11_210_6 rfl sp_6_2 ⟨by decide, by decide⟩ ?_
      refine mw_getP (v := 13) (pc' := 23) dX11_lastDayBefore_20 rfl fr_RX11_214_12 rfl sp_12_0 ⟨by decide, by decide⟩ ?_
      refine mw_iload_n (pc' := 24) dX11_lastDayBefore_23 rfl rfl rfl ?_
      obtain ⟨o3, h⟩ := h
      refine mw_iald (pc' := 25) dX11_lastDayBefore_24 rfl lk_13 ⟨by decide, by decide⟩ (by rw [ln_13]; exact o3) ?_
      refine mw_aload_n (v := vR 0) (pc' := 26) dX11_lastDayBefore_25 rfl rfl (Or.inl rfl) rfl ?_
      refine mw_getP (v := 6) (pc' := 29) dX11_lastDayBefore_26 rfl fr_RX11_26_0 rfl sp_0_3 ⟨by decide, by decide⟩ ?_
      refine mw_getP (v := 12) (pc' := 32) dX11_lastDayBefore_29 rfl fr_RX11_210_6 rfl sp_6_2 ⟨by decide, by decide⟩ ?_
      refine mw_getP (v := 14) (pc' := 35) dX11_lastDayBefore_32 rfl fr_RX11_217_12 rfl sp_12_1 ⟨by decide, by decide⟩ ?_
      refine mw_iload_n (pc' := 36) dX11_lastDayBefore_35 rfl rfl rfl ?_
      refine mw_zald (pc' := 37) dX11_lastDayBefore_36 rfl lk_14 ⟨by decide, by decide⟩ (by rw [ln_14]; exact o3) ?_
      obtain ⟨o5, h⟩ := h
      obtain ⟨o6, h⟩ := h
      obtain ⟨o7, h⟩ := h
      refine mw_callV (M' := mX10_countBack) (A := [vI x2, vI (d 13 x1), vI (d 14 x1)]) (A' := [vR 53, vI x2, vI (d 13 x1), vI (d 14 x1)]) (S := []) (a := 53) (pc' := 40) dX11_lastDayBefore_37 rfl cl_RX11_234 cm_X10_countBack cv_X10_countBack ⟨by decide, by decide, by decide, by decide, by decide⟩ rfl rfl rfl ⟨by decide, by omega⟩ (by decide +kernel) (by decide +kernel) (Nat.le_of_ble_eq_true rfl) (f_countBack (⟨o5, o6, o7, ?_⟩))
      show MW mX11_lastDayBefore 1 6 40 [(0, vR 0), (1, vI x1), (2, vI x2)] [vI (iT ((d 14 x1) = 0 ∧ x2 - (d 13 x1) < 0) (x2 - (d 13 x1)) (bkF R x2 (d 13 x1) (d 14 x1)))] g d Q
      refine mw_callS (M' := mX11_needNotBeforeDayZero) (A := [vI (iT ((d 14 x1) = 0 ∧ x2 - (d 13 x1) < 0) (x2 - (d 13 x1)) (bkF R x2 (d 13 x1) (d 14 x1)))]) (S := []) (pc' := 43) dX11_lastDayBefore_40 rfl cl_RX11_237 cm_X11_needNotBeforeDayZero cs_X11_needNotBeforeDayZero ⟨by decide, by decide, by decide, by decide, by decide⟩ rfl rfl (Nat.le_of_ble_eq_true rfl) (eX11_needNotBeforeDayZero ?_)
      refine ⟨fun c8 => ?_, fun c8 => ?_⟩
      · replace h := h.1 (show 0 ≤ (iT ((d 14 x1) = 0 ∧ x2 - (d 13 x1) < 0) (x2 - (d 13 x1)) (bkF R x2 (d 13 x1) (d 14 x1))) from c8)
        show MW mX11_lastDayBefore 0 0 43 [(0, vR 0), (1, vI x1), (2, vI x2)] [vI (iT ((d 14 x1) = 0 ∧ x2 - (d 13 x1) < 0) (x2 - (d 13 x1)) (bkF R x2 (d 13 x1) (d 14 x1)))] g d Q
        exact mw_iret (pc' := 0) (S := []) dX11_lastDayBefore_43 rfl (Or.inl rfl) h
      · replace h := h.2 (show ¬ (0 ≤ (iT ((d 14 x1) = 0 ∧ x2 - (d 13 x1) < 0) (x2 - (d 13 x1)) (bkF R x2 (d 13 x1) (d 14 x1)))) from c8)
        exact mx_out rfl h
    · replace h := h.2 (show ¬ ((¬ (x2 < 0)) ∧ (¬ (4999 < x2))) from c2)
      exact mx_out rfl h
  · replace h := h.2 (show ¬ ((¬ (x1 < 0)) ∧ (¬ (8 ≤ x1))) from c1)
    exact mx_out rfl h
theorem eX11_lastDayBeforeByMarking {R : rW} {x1 x2 : Int} {g : mG} {d : mD} {Q : mQ} (h : (((¬ (x1 < 0)) ∧ (¬ (8 ≤ x1))) → (((¬ (x2 < 0)) ∧ (¬ (4999 < x2))) → (0 ≤ x1 ∧ x1 < 8) ∧ ((CI d R) ∧ ((0 ≤ x2 ∧ x2 ≤ 4999) ∧ ((1 ≤ (d 13 x1) ∧ (d 13 x1) ≤ 200) ∧ (∀ d8, FrM d d8 → (((0 ≤ (bkF R x2 (d 13 x1) (d 14 x1))) → Q (.inl (bkF R x2 (d 13 x1) (d 14 x1))) g d8) ∧ ((¬ (0 ≤ (bkF R x2 (d 13 x1) (d 14 x1)))) → Q (.inr 4) g d8))))))) ∧ ((¬ ((¬ (x2 < 0)) ∧ (¬ (4999 < x2)))) → Q (.inr 2) g d)) ∧ ((¬ ((¬ (x1 < 0)) ∧ (¬ (8 ≤ x1)))) → Q (.inr 3) g d)) : MM mX11_lastDayBeforeByMarking [vR 0, vI x1, vI x2] g d Q := by
  refine MM_of (by decide) rfl (by simp [catV]) (Nat.le_of_ble_eq_true rfl) ?_
  show MW mX11_lastDayBeforeByMarking 3 18 0 [(0, vR 0), (1, vI x1), (2, vI x2)] [] g d Q
  refine mw_top (fun hT => ?_)
  have hG : 65 ≤ g.2.1 := hT.2
  refine mw_iload_n (pc' := 1) dX11_lastDayBeforeByMarking_0 rfl rfl rfl ?_
  refine mw_callS (M' := mX11_needRule) (A := [vI x1]) (S := []) (pc' := 4) dX11_lastDayBeforeByMarking_1 rfl cl_RX11_207 cm_X11_needRule cs_X11_needRule ⟨by decide, by decide, by decide, by decide, by decide⟩ rfl rfl (Nat.le_of_ble_eq_true rfl) (eX11_needRule ?_)
  refine ⟨fun c1 => ?_, fun c1 => ?_⟩
  · replace h := h.1 (show (¬ (x1 < 0)) ∧ (¬ (8 ≤ x1)) from c1)
    show MW mX11_lastDayBeforeByMarking 2 12 4 [(0, vR 0), (1, vI x1), (2, vI x2)] [] g d Q
    refine mw_iload_n (pc' := 5) dX11_lastDayBeforeByMarking_4 rfl rfl rfl ?_
    refine mw_callS (M' := mX11_needDay) (A := [vI x2]) (S := []) (pc' := 8) dX11_lastDayBeforeByMarking_5 rfl cl_RX11_160 cm_X11_needDay cs_X11_needDay ⟨by decide, by decide, by decide, by decide, by decide⟩ rfl rfl (Nat.le_of_ble_eq_true rfl) (eX11_needDay ?_)
    refine ⟨fun c2 => ?_, fun c2 => ?_⟩
    · replace h := h.1 (show (¬ (x2 < 0)) ∧ (¬ (4999 < x2)) from c2)
      show MW mX11_lastDayBeforeByMarking 1 6 8 [(0, vR 0), (1, vI x1), (2, vI x2)] [] g d Q
      refine mw_aload_n (v := vR 0) (pc' := 9) dX11_lastDayBeforeByMarking_8 rfl rfl (Or.inl rfl) rfl ?_
      refine mw_getP (v := 56) (pc' := 12) dX11_lastDayBeforeByMarking_9 rfl fr_RX11_54_0 rfl sp_0_8 ⟨by decide, by decide⟩ ?_
      refine mw_iload_n (pc' := 13) dX11_lastDayBeforeByMarking_12 rfl rfl rfl ?_
      refine mw_aload_n (v := vR 0) (pc' := 14) dX11_lastDayBeforeByMarking_13 rfl rfl (Or.inl rfl) rfl ?_
      refine mw_getP (v := 6) (pc' := 17) dX11_lastDayBeforeByMarking_14 rfl fr_RX11_26_0 rfl sp_0_3 ⟨by decide, by decide⟩ ?_
      refine mw_getP (v := 12) (pc' := 20) dX11_lastDayBeforeByMarking_17 rfl fr_RX11_210_6 rfl sp_6_2 ⟨by decide, by decide⟩ ?_
      refine mw_getP (v := 13) (pc' := 23) dX11_lastDayBeforeByMarking_20 rfl fr_RX11_214_12 rfl sp_12_0 ⟨by decide, by decide⟩ ?_
      refine mw_iload_n (pc' := 24) dX11_lastDayBeforeByMarking_23 rfl rfl rfl ?_
      obtain ⟨o3, h⟩ := h
      refine mw_iald (pc' := 25) dX11_lastDayBeforeByMarking_24 rfl lk_13 ⟨by decide, by decide⟩ (by rw [ln_13]; exact o3) ?_
      refine mw_aload_n (v := vR 0) (pc' := 26) dX11_lastDayBeforeByMarking_25 rfl rfl (Or.inl rfl) rfl ?_
      refine mw_getP (v := 6) (pc' := 29) dX11_lastDayBeforeByMarking_26 rfl fr_RX11_26_0 rfl sp_0_3 ⟨by decide, by decide⟩ ?_
      refine mw_getP (v := 12) (pc' := 32) dX11_lastDayBeforeByMarking_29 rfl fr_RX11_210_6 rfl sp_6_2 ⟨by decide, by decide⟩ ?_
      refine mw_getP (v := 14) (pc' := 35) dX11_lastDayBeforeByMarking_32 rfl fr_RX11_217_12 rfl sp_12_1 ⟨by decide, by decide⟩ ?_
      refine mw_iload_n (pc' := 36) dX11_lastDayBeforeByMarking_35 rfl rfl rfl ?_
      refine mw_zald (pc' := 37) dX11_lastDayBeforeByMarking_36 rfl lk_14 ⟨by decide, by decide⟩ (by rw [ln_14]; exact o3) ?_
      refine mw_callV (M' := mX4_countBack) (A := [vI x2, vI (d 13 x1), vI (d 14 x1)]) (A' := [vR 56, vI x2, vI (d 13 x1), vI (d 14 x1)]) (S := []) (a := 56) (pc' := 40) dX11_lastDayBeforeByMarking_37 rfl cl_RX11_240 cm_X4_countBack cv_X4_countBack ⟨by decide, by decide, by decide, by decide, by decide⟩ rfl rfl rfl ⟨by decide, by omega⟩ (by decide +kernel) (by decide +kernel) (Nat.le_of_ble_eq_true rfl) (f_countBackM (R := R) ?_)
      obtain ⟨o5, h⟩ := h
      refine ⟨o5, ?_⟩
      obtain ⟨o6, h⟩ := h
      refine ⟨o6, ?_⟩
      obtain ⟨o7, h⟩ := h
      refine ⟨o7, ?_⟩
      intro d8 q9
      replace h := h d8 q9
      show MW mX11_lastDayBeforeByMarking 1 6 40 [(0, vR 0), (1, vI x1), (2, vI x2)] [vI (bkF R x2 (d 13 x1) (d 14 x1))] g d8 Q
      refine mw_callS (M' := mX11_needNotBeforeDayZero) (A := [vI (bkF R x2 (d 13 x1) (d 14 x1))]) (S := []) (pc' := 43) dX11_lastDayBeforeByMarking_40 rfl cl_RX11_237 cm_X11_needNotBeforeDayZero cs_X11_needNotBeforeDayZero ⟨by decide, by decide, by decide, by decide, by decide⟩ rfl rfl (Nat.le_of_ble_eq_true rfl) (eX11_needNotBeforeDayZero ?_)
      refine ⟨fun c10 => ?_, fun c10 => ?_⟩
      · replace h := h.1 (show 0 ≤ (bkF R x2 (d 13 x1) (d 14 x1)) from c10)
        show MW mX11_lastDayBeforeByMarking 0 0 43 [(0, vR 0), (1, vI x1), (2, vI x2)] [vI (bkF R x2 (d 13 x1) (d 14 x1))] g d8 Q
        exact mw_iret (pc' := 0) (S := []) dX11_lastDayBeforeByMarking_43 rfl (Or.inl rfl) h
      · replace h := h.2 (show ¬ (0 ≤ (bkF R x2 (d 13 x1) (d 14 x1))) from c10)
        exact mx_out rfl h
    · replace h := h.2 (show ¬ ((¬ (x2 < 0)) ∧ (¬ (4999 < x2))) from c2)
      exact mx_out rfl h
  · replace h := h.2 (show ¬ ((¬ (x1 < 0)) ∧ (¬ (8 ≤ x1))) from c1)
    exact mx_out rfl h
theorem eX11_deadlines {g : mG} {d : mD} {Q : mQ} (h : Q (.inl (d 16 11)) g d) : MM mX11_deadlines [vR 0] g d Q := by
  refine MM_of (by decide) rfl (by simp [catV]) (Nat.le_of_ble_eq_true rfl) ?_
  show MW mX11_deadlines 0 0 0 [(0, vR 0)] [] g d Q
  refine mw_top (fun hT => ?_)
  have hG : 65 ≤ g.2.1 := hT.2
  refine mw_aload_n (v := vR 0) (pc' := 1) dX11_deadlines_0 rfl rfl (Or.inl rfl) rfl ?_
  refine mw_getP (v := 6) (pc' := 4) dX11_deadlines_1 rfl fr_RX11_26_0 rfl sp_0_3 ⟨by decide, by decide⟩ ?_
  refine mw_getP (v := 16) (pc' := 7) dX11_deadlines_4 rfl fr_RX11_252_6 rfl sp_6_3 ⟨by decide, by decide⟩ ?_
  refine mw_getI (ji := 11) (pc' := 10) dX11_deadlines_7 rfl fi_RX11_256_16 rfl ⟨by decide, by decide⟩ ?_
  exact mw_iret (pc' := 0) (S := []) dX11_deadlines_10 rfl (Or.inl rfl) h
theorem eX11_due {R : rW} {x1 : Int} {g : mG} {d : mD} {Q : mQ} (h : (((¬ (x1 < 0)) ∧ (¬ (d 16 11 ≤ x1))) → (CI d R) ∧ ((0 ≤ x1 ∧ x1 < R 3) ∧ (∀ d4, FrW d d4 → ((((dueF R x1) = 5000) → Q (.inr 4) g d4) ∧ ((¬ ((dueF R x1) = 5000)) → Q (.inl (dueF R x1)) g d4))))) ∧ ((¬ ((¬ (x1 < 0)) ∧ (¬ (d 16 11 ≤ x1)))) → Q (.inr 3) g d)) : MM mX11_due [vR 0, vI x1] g d Q := by
  refine MM_of (by decide) rfl (by simp [catV]) (Nat.le_of_ble_eq_true rfl) ?_
  show MW mX11_due 2 12 0 [(0, vR 0), (1, vI x1)] [] g d Q
  refine mw_top (fun hT => ?_)
  have hG : 65 ≤ g.2.1 := hT.2
  refine mw_aload_n (v := vR 0) (pc' := 1) dX11_due_0 rfl rfl (Or.inl rfl) rfl ?_
  refine mw_iload_n (pc' := 2) dX11_due_1 rfl rfl rfl ?_
  refine mw_callV (M' := mX11_needDeadline) (A := [vI x1]) (A' := [vR 0, vI x1]) (S := []) (a := 0) (pc' := 5) dX11_due_2 rfl cl_RX11_259 cm_X11_needDeadline cv_X11_needDeadline ⟨by decide, by decide, by decide, by decide, by decide⟩ rfl rfl rfl ⟨by decide, by omega⟩ (by decide +kernel) (by decide +kernel) (Nat.le_of_ble_eq_true rfl) (eX11_needDeadline ?_)
  refine ⟨fun c1 => ?_, fun c1 => ?_⟩
  · replace h := h.1 (show (¬ (x1 < 0)) ∧ (¬ (d 16 11 ≤ x1)) from c1)
    show MW mX11_due 1 6 5 [(0, vR 0), (1, vI x1)] [] g d Q
    refine mw_aload_n (v := vR 0) (pc' := 6) dX11_due_5 rfl rfl (Or.inl rfl) rfl ?_
    refine mw_getP (v := 53) (pc' := 9) dX11_due_6 rfl fr_RX11_47_0 rfl sp_0_7 ⟨by decide, by decide⟩ ?_
    refine mw_aload_n (v := vR 0) (pc' := 10) dX11_due_9 rfl rfl (Or.inl rfl) rfl ?_
    refine mw_getP (v := 6) (pc' := 13) dX11_due_10 rfl fr_RX11_26_0 rfl sp_0_3 ⟨by decide, by decide⟩ ?_
    refine mw_getP (v := 16) (pc' := 16) dX11_due_13 rfl fr_RX11_252_6 rfl sp_6_3 ⟨by decide, by decide⟩ ?_
    refine mw_iload_n (pc' := 17) dX11_due_16 rfl rfl rfl ?_
    refine mw_callV (M' := mX10_endOf) (A := [vR 16, vI x1]) (A' := [vR 53, vR 16, vI x1]) (S := []) (a := 53) (pc' := 20) dX11_due_17 rfl cl_RX11_262 cm_X10_endOf cv_X10_endOf ⟨by decide, by decide, by decide, by decide, by decide⟩ rfl rfl rfl ⟨by decide, by omega⟩ (by decide +kernel) (by decide +kernel) (Nat.le_of_ble_eq_true rfl) (f_endOfW (R := R) ?_)
    obtain ⟨o2, h⟩ := h
    refine ⟨o2, ?_⟩
    obtain ⟨o3, h⟩ := h
    refine ⟨o3, ?_⟩
    intro d4 q5
    replace h := h d4 q5
    show MW mX11_due 1 6 20 [(0, vR 0), (1, vI x1)] [vI (dueF R x1)] g d4 Q
    refine mw_callS (M' := mX11_needSomeDay) (A := [vI (dueF R x1)]) (S := []) (pc' := 23) dX11_due_20 rfl cl_RX11_266 cm_X11_needSomeDay cs_X11_needSomeDay ⟨by decide, by decide, by decide, by decide, by decide⟩ rfl rfl (Nat.le_of_ble_eq_true rfl) (eX11_needSomeDay ?_)
    refine ⟨fun c6 => ?_, fun c6 => ?_⟩
    · replace h := h.1 (show (dueF R x1) = 5000 from c6)
      exact mx_out rfl h
    · replace h := h.2 (show ¬ ((dueF R x1) = 5000) from c6)
      show MW mX11_due 0 0 23 [(0, vR 0), (1, vI x1)] [vI (dueF R x1)] g d4 Q
      exact mw_iret (pc' := 0) (S := []) dX11_due_23 rfl (Or.inl rfl) h
  · replace h := h.2 (show ¬ ((¬ (x1 < 0)) ∧ (¬ (d 16 11 ≤ x1))) from c1)
    exact mx_out rfl h
theorem eX11_dueByMarking {R : rW} {x1 : Int} {g : mG} {d : mD} {Q : mQ} (h : (((¬ (x1 < 0)) ∧ (¬ (d 16 11 ≤ x1))) → (CI d R) ∧ ((0 ≤ x1 ∧ x1 < R 3) ∧ (∀ d4, FrM d d4 → ((((dueF R x1) = 5000) → Q (.inr 4) g d4) ∧ ((¬ ((dueF R x1) = 5000)) → Q (.inl (dueF R x1)) g d4))))) ∧ ((¬ ((¬ (x1 < 0)) ∧ (¬ (d 16 11 ≤ x1)))) → Q (.inr 3) g d)) : MM mX11_dueByMarking [vR 0, vI x1] g d Q := by
  refine MM_of (by decide) rfl (by simp [catV]) (Nat.le_of_ble_eq_true rfl) ?_
  show MW mX11_dueByMarking 2 12 0 [(0, vR 0), (1, vI x1)] [] g d Q
  refine mw_top (fun hT => ?_)
  have hG : 65 ≤ g.2.1 := hT.2
  refine mw_aload_n (v := vR 0) (pc' := 1) dX11_dueByMarking_0 rfl rfl (Or.inl rfl) rfl ?_
  refine mw_iload_n (pc' := 2) dX11_dueByMarking_1 rfl rfl rfl ?_
  refine mw_callV (M' := mX11_needDeadline) (A := [vI x1]) (A' := [vR 0, vI x1]) (S := []) (a := 0) (pc' := 5) dX11_dueByMarking_2 rfl cl_RX11_259 cm_X11_needDeadline cv_X11_needDeadline ⟨by decide, by decide, by decide, by decide, by decide⟩ rfl rfl rfl ⟨by decide, by omega⟩ (by decide +kernel) (by decide +kernel) (Nat.le_of_ble_eq_true rfl) (eX11_needDeadline ?_)
  refine ⟨fun c1 => ?_, fun c1 => ?_⟩
  · replace h := h.1 (show (¬ (x1 < 0)) ∧ (¬ (d 16 11 ≤ x1)) from c1)
    show MW mX11_dueByMarking 1 6 5 [(0, vR 0), (1, vI x1)] [] g d Q
    refine mw_aload_n (v := vR 0) (pc' := 6) dX11_dueByMarking_5 rfl rfl (Or.inl rfl) rfl ?_
    refine mw_getP (v := 56) (pc' := 9) dX11_dueByMarking_6 rfl fr_RX11_54_0 rfl sp_0_8 ⟨by decide, by decide⟩ ?_
    refine mw_aload_n (v := vR 0) (pc' := 10) dX11_dueByMarking_9 rfl rfl (Or.inl rfl) rfl ?_
    refine mw_getP (v := 6) (pc' := 13) dX11_dueByMarking_10 rfl fr_RX11_26_0 rfl sp_0_3 ⟨by decide, by decide⟩ ?_
    refine mw_getP (v := 16) (pc' := 16) dX11_dueByMarking_13 rfl fr_RX11_252_6 rfl sp_6_3 ⟨by decide, by decide⟩ ?_
    refine mw_iload_n (pc' := 17) dX11_dueByMarking_16 rfl rfl rfl ?_
    refine mw_callV (M' := mX4_endOf) (A := [vR 16, vI x1]) (A' := [vR 56, vR 16, vI x1]) (S := []) (a := 56) (pc' := 20) dX11_dueByMarking_17 rfl cl_RX11_269 cm_X4_endOf cv_X4_endOf ⟨by decide, by decide, by decide, by decide, by decide⟩ rfl rfl rfl ⟨by decide, by omega⟩ (by decide +kernel) (by decide +kernel) (Nat.le_of_ble_eq_true rfl) (f_endOfM (R := R) ?_)
    obtain ⟨o2, h⟩ := h
    refine ⟨o2, ?_⟩
    obtain ⟨o3, h⟩ := h
    refine ⟨o3, ?_⟩
    intro d4 q5
    replace h := h d4 q5
    show MW mX11_dueByMarking 1 6 20 [(0, vR 0), (1, vI x1)] [vI (dueF R x1)] g d4 Q
    refine mw_callS (M' := mX11_needSomeDay) (A := [vI (dueF R x1)]) (S := []) (pc' := 23) dX11_dueByMarking_20 rfl cl_RX11_266 cm_X11_needSomeDay cs_X11_needSomeDay ⟨by decide, by decide, by decide, by decide, by decide⟩ rfl rfl (Nat.le_of_ble_eq_true rfl) (eX11_needSomeDay ?_)
    refine ⟨fun c6 => ?_, fun c6 => ?_⟩
    · replace h := h.1 (show (dueF R x1) = 5000 from c6)
      exact mx_out rfl h
    · replace h := h.2 (show ¬ ((dueF R x1) = 5000) from c6)
      show MW mX11_dueByMarking 0 0 23 [(0, vR 0), (1, vI x1)] [vI (dueF R x1)] g d4 Q
      exact mw_iret (pc' := 0) (S := []) dX11_dueByMarking_23 rfl (Or.inl rfl) h
  · replace h := h.2 (show ¬ ((¬ (x1 < 0)) ∧ (¬ (d 16 11 ≤ x1))) from c1)
    exact mx_out rfl h
theorem eX11_daysLeft {R : rW} {x1 : Int} {g : mG} {d : mD} {Q : mQ} (h : (((¬ (x1 < 0)) ∧ (¬ (d 16 11 ≤ x1))) → (CI d R) ∧ ((0 ≤ x1 ∧ x1 < R 3) ∧ (((d 10 0) = R 0) ∧ (∀ d7, FrW d d7 → ((iI ((sumF R x1) - (ctF R x1))) ∧ (Q (.inl ((sumF R x1) - (ctF R x1))) g d7)))))) ∧ ((¬ ((¬ (x1 < 0)) ∧ (¬ (d 16 11 ≤ x1)))) → Q (.inr 3) g d)) : MM mX11_daysLeft [vR 0, vI x1] g d Q := by
  refine MM_of (by decide) rfl (by simp [catV]) (Nat.le_of_ble_eq_true rfl) ?_
  show MW mX11_daysLeft 1 6 0 [(0, vR 0), (1, vI x1)] [] g d Q
  refine mw_top (fun hT => ?_)
  have hG : 65 ≤ g.2.1 := hT.2
  refine mw_aload_n (v := vR 0) (pc' := 1) dX11_daysLeft_0 rfl rfl (Or.inl rfl) rfl ?_
  refine mw_iload_n (pc' := 2) dX11_daysLeft_1 rfl rfl rfl ?_
  refine mw_callV (M' := mX11_needDeadline) (A := [vI x1]) (A' := [vR 0, vI x1]) (S := []) (a := 0) (pc' := 5) dX11_daysLeft_2 rfl cl_RX11_259 cm_X11_needDeadline cv_X11_needDeadline ⟨by decide, by decide, by decide, by decide, by decide⟩ rfl rfl rfl ⟨by decide, by omega⟩ (by decide +kernel) (by decide +kernel) (Nat.le_of_ble_eq_true rfl) (eX11_needDeadline ?_)
  refine ⟨fun c1 => ?_, fun c1 => ?_⟩
  · replace h := h.1 (show (¬ (x1 < 0)) ∧ (¬ (d 16 11 ≤ x1)) from c1)
    show MW mX11_daysLeft 0 0 5 [(0, vR 0), (1, vI x1)] [] g d Q
    refine mw_aload_n (v := vR 0) (pc' := 6) dX11_daysLeft_5 rfl rfl (Or.inl rfl) rfl ?_
    refine mw_getP (v := 6) (pc' := 9) dX11_daysLeft_6 rfl fr_RX11_26_0 rfl sp_0_3 ⟨by decide, by decide⟩ ?_
    refine mw_getP (v := 16) (pc' := 12) dX11_daysLeft_9 rfl fr_RX11_252_6 rfl sp_6_3 ⟨by decide, by decide⟩ ?_
    refine mw_iload_n (pc' := 13) dX11_daysLeft_12 rfl rfl rfl ?_
    obtain ⟨o2, h⟩ := h
    obtain ⟨o3, h⟩ := h
    refine mw_callV (M' := mX2_sumOfParts) (A := [vI x1]) (A' := [vR 16, vI x1]) (S := []) (a := 16) (pc' := 16) dX11_daysLeft_13 rfl cl_RX11_270 cm_X2_sumOfParts cv_X2_sumOfParts ⟨by decide, by decide, by decide, by decide, by decide⟩ rfl rfl rfl ⟨by decide, by omega⟩ (by decide +kernel) (by decide +kernel) (Nat.le_of_ble_eq_true rfl) (f_sumOfParts (⟨o2, o3, ?_⟩))
    show MW mX11_daysLeft 0 0 16 [(0, vR 0), (1, vI x1)] [vI (sumF R x1)] g d Q
    refine mw_aload_n (v := vR 0) (pc' := 17) dX11_daysLeft_16 rfl rfl (Or.inl rfl) rfl ?_
    refine mw_getP (v := 53) (pc' := 20) dX11_daysLeft_17 rfl fr_RX11_47_0 rfl sp_0_7 ⟨by decide, by decide⟩ ?_
    refine mw_aload_n (v := vR 0) (pc' := 21) dX11_daysLeft_20 rfl rfl (Or.inl rfl) rfl ?_
    refine mw_getP (v := 6) (pc' := 24) dX11_daysLeft_21 rfl fr_RX11_26_0 rfl sp_0_3 ⟨by decide, by decide⟩ ?_
    refine mw_getP (v := 16) (pc' := 27) dX11_daysLeft_24 rfl fr_RX11_252_6 rfl sp_6_3 ⟨by decide, by decide⟩ ?_
    refine mw_iload_n (pc' := 28) dX11_daysLeft_27 rfl rfl rfl ?_
    refine mw_aload_n (v := vR 0) (pc' := 29) dX11_daysLeft_28 rfl rfl (Or.inl rfl) rfl ?_
    refine mw_getP (v := 6) (pc' := 32) dX11_daysLeft_29 rfl fr_RX11_26_0 rfl sp_0_3 ⟨by decide, by decide⟩ ?_
    refine mw_getP (v := 10) (pc' := 35) dX11_daysLeft_32 rfl fr_RX11_36_6 rfl sp_6_1 ⟨by decide, by decide⟩ ?_
    refine mw_getI (ji := 0) (pc' := 38) dX11_daysLeft_35 rfl fi_RX11_152_10 rfl ⟨by decide, by decide⟩ ?_
    refine mw_callV (M' := mX10_countedUntil) (A := [vR 16, vI x1, vI (d 10 0)]) (A' := [vR 53, vR 16, vI x1, vI (d 10 0)]) (S := [vI (sumF R x1)]) (a := 53) (pc' := 41) dX11_daysLeft_38 rfl cl_RX11_273 cm_X10_countedUntil cv_X10_countedUntil ⟨by decide, by decide, by decide, by decide, by decide⟩ rfl rfl rfl ⟨by decide, by omega⟩ (by decide +kernel) (by decide +kernel) (Nat.le_of_ble_eq_true rfl) (f_countedUntilW (R := R) ?_)
    refine ⟨o2, ?_⟩
    refine ⟨o3, ?_⟩
    obtain ⟨o6, h⟩ := h
    refine ⟨o6, ?_⟩
    intro d7 q8
    replace h := h d7 q8
    show MW mX11_daysLeft 0 0 41 [(0, vR 0), (1, vI x1)] [vI (ctF R x1), vI (sumF R x1)] g d7 Q
    obtain ⟨o9, h⟩ := h
    refine mw_isub (pc' := 42) dX11_daysLeft_41 rfl o9 ?_
    exact mw_iret (pc' := 0) (S := []) dX11_daysLeft_42 rfl (Or.inl rfl) h
  · replace h := h.2 (show ¬ ((¬ (x1 < 0)) ∧ (¬ (d 16 11 ≤ x1))) from c1)
    exact mx_out rfl h
theorem eX11_daysLeftByMarking {R : rW} {x1 : Int} {g : mG} {d : mD} {Q : mQ} (h : (((¬ (x1 < 0)) ∧ (¬ (d 16 11 ≤ x1))) → (CI d R) ∧ ((0 ≤ x1 ∧ x1 < R 3) ∧ (((d 10 0) = R 0) ∧ (∀ d7, FrM d d7 → ((iI ((sumF R x1) - (ctF R x1))) ∧ (Q (.inl ((sumF R x1) - (ctF R x1))) g d7)))))) ∧ ((¬ ((¬ (x1 < 0)) ∧ (¬ (d 16 11 ≤ x1)))) → Q (.inr 3) g d)) : MM mX11_daysLeftByMarking [vR 0, vI x1] g d Q := by
  refine MM_of (by decide) rfl (by simp [catV]) (Nat.le_of_ble_eq_true rfl) ?_
  show MW mX11_daysLeftByMarking 1 6 0 [(0, vR 0), (1, vI x1)] [] g d Q
  refine mw_top (fun hT => ?_)
  have hG : 65 ≤ g.2.1 := hT.2
  refine mw_aload_n (v := vR 0) (pc' := 1) dX11_daysLeftByMarking_0 rfl rfl (Or.inl rfl) rfl ?_
  refine mw_iload_n (pc' := 2) dX11_daysLeftByMarking_1 rfl rfl rfl ?_
  refine mw_callV (M' := mX11_needDeadline) (A := [vI x1]) (A' := [vR 0, vI x1]) (S := []) (a := 0) (pc' := 5) dX11_daysLeftByMarking_2 rfl cl_RX11_259 cm_X11_needDeadline cv_X11_needDeadline ⟨by decide, by decide, by decide, by decide, by decide⟩ rfl rfl rfl ⟨by decide, by omega⟩ (by decide +kernel) (by decide +kernel) (Nat.le_of_ble_eq_true rfl) (eX11_needDeadline ?_)
  refine ⟨fun c1 => ?_, fun c1 => ?_⟩
  · replace h := h.1 (show (¬ (x1 < 0)) ∧ (¬ (d 16 11 ≤ x1)) from c1)
    show MW mX11_daysLeftByMarking 0 0 5 [(0, vR 0), (1, vI x1)] [] g d Q
    refine mw_aload_n (v := vR 0) (pc' := 6) dX11_daysLeftByMarking_5 rfl rfl (Or.inl rfl) rfl ?_
    refine mw_getP (v := 6) (pc' := 9) dX11_daysLeftByMarking_6 rfl fr_RX11_26_0 rfl sp_0_3 ⟨by decide, by decide⟩ ?_
    refine mw_getP (v := 16) (pc' := 12) dX11_daysLeftByMarking_9 rfl fr_RX11_252_6 rfl sp_6_3 ⟨by decide, by decide⟩ ?_
    refine mw_iload_n (pc' := 13) dX11_daysLeftByMarking_12 rfl rfl rfl ?_
    obtain ⟨o2, h⟩ := h
    obtain ⟨o3, h⟩ := h
    refine mw_callV (M' := mX2_sumOfParts) (A := [vI x1]) (A' := [vR 16, vI x1]) (S := []) (a := 16) (pc' := 16) dX11_daysLeftByMarking_13 rfl cl_RX11_270 cm_X2_sumOfParts cv_X2_sumOfParts ⟨by decide, by decide, by decide, by decide, by decide⟩ rfl rfl rfl ⟨by decide, by omega⟩ (by decide +kernel) (by decide +kernel) (Nat.le_of_ble_eq_true rfl) (f_sumOfParts (⟨o2, o3, ?_⟩))
    show MW mX11_daysLeftByMarking 0 0 16 [(0, vR 0), (1, vI x1)] [vI (sumF R x1)] g d Q
    refine mw_aload_n (v := vR 0) (pc' := 17) dX11_daysLeftByMarking_16 rfl rfl (Or.inl rfl) rfl ?_
    refine mw_getP (v := 56) (pc' := 20) dX11_daysLeftByMarking_17 rfl fr_RX11_54_0 rfl sp_0_8 ⟨by decide, by decide⟩ ?_
    refine mw_aload_n (v := vR 0) (pc' := 21) dX11_daysLeftByMarking_20 rfl rfl (Or.inl rfl) rfl ?_
    refine mw_getP (v := 6) (pc' := 24) dX11_daysLeftByMarking_21 rfl fr_RX11_26_0 rfl sp_0_3 ⟨by decide, by decide⟩ ?_
    refine mw_getP (v := 16) (pc' := 27) dX11_daysLeftByMarking_24 rfl fr_RX11_252_6 rfl sp_6_3 ⟨by decide, by decide⟩ ?_
    refine mw_iload_n (pc' := 28) dX11_daysLeftByMarking_27 rfl rfl rfl ?_
    refine mw_aload_n (v := vR 0) (pc' := 29) dX11_daysLeftByMarking_28 rfl rfl (Or.inl rfl) rfl ?_
    refine mw_getP (v := 6) (pc' := 32) dX11_daysLeftByMarking_29 rfl fr_RX11_26_0 rfl sp_0_3 ⟨by decide, by decide⟩ ?_
    refine mw_getP (v := 10) (pc' := 35) dX11_daysLeftByMarking_32 rfl fr_RX11_36_6 rfl sp_6_1 ⟨by decide, by decide⟩ ?_
    refine mw_getI (ji := 0) (pc' := 38) dX11_daysLeftByMarking_35 rfl fi_RX11_152_10 rfl ⟨by decide, by decide⟩ ?_
    refine mw_callV (M' := mX4_countedUntil) (A := [vR 16, vI x1, vI (d 10 0)]) (A' := [vR 56, vR 16, vI x1, vI (d 10 0)]) (S := [vI (sumF R x1)]) (a := 56) (pc' := 41) dX11_daysLeftByMarking_38 rfl cl_RX11_277 cm_X4_countedUntil cv_X4_countedUntil ⟨by decide, by decide, by decide, by decide, by decide⟩ rfl rfl rfl ⟨by decide, by omega⟩ (by decide +kernel) (by decide +kernel) (Nat.le_of_ble_eq_true rfl) (f_countedUntilM (R := R) ?_)
    refine ⟨o2, ?_⟩
    refine ⟨o3, ?_⟩
    obtain ⟨o6, h⟩ := h
    refine ⟨o6, ?_⟩
    intro d7 q8
    replace h := h d7 q8
    show MW mX11_daysLeftByMarking 0 0 41 [(0, vR 0), (1, vI x1)] [vI (ctF R x1), vI (sumF R x1)] g d7 Q
    obtain ⟨o9, h⟩ := h
    refine mw_isub (pc' := 42) dX11_daysLeftByMarking_41 rfl o9 ?_
    exact mw_iret (pc' := 0) (S := []) dX11_daysLeftByMarking_42 rfl (Or.inl rfl) h
  · replace h := h.2 (show ¬ ((¬ (x1 < 0)) ∧ (¬ (d 16 11 ≤ x1))) from c1)
    exact mx_out rfl h
theorem eX11_status {x1 : Int} {g : mG} {d : mD} {Q : mQ} (h : (((¬ (x1 < 0)) ∧ (¬ (d 16 11 ≤ x1))) → (0 ≤ x1 ∧ x1 < 30) ∧ ((0 ≤ d 27 x1 ∧ d 27 x1 ≤ 65535) ∧ (Q (.inl (d 27 x1)) g d))) ∧ ((¬ ((¬ (x1 < 0)) ∧ (¬ (d 16 11 ≤ x1)))) → Q (.inr 3) g d)) : MM mX11_status [vR 0, vI x1] g d Q := by
  refine MM_of (by decide) rfl (by simp [catV]) (Nat.le_of_ble_eq_true rfl) ?_
  show MW mX11_status 1 6 0 [(0, vR 0), (1, vI x1)] [] g d Q
  refine mw_top (fun hT => ?_)
  have hG : 65 ≤ g.2.1 := hT.2
  refine mw_aload_n (v := vR 0) (pc' := 1) dX11_status_0 rfl rfl (Or.inl rfl) rfl ?_
  refine mw_iload_n (pc' := 2) dX11_status_1 rfl rfl rfl ?_
  refine mw_callV (M' := mX11_needDeadline) (A := [vI x1]) (A' := [vR 0, vI x1]) (S := []) (a := 0) (pc' := 5) dX11_status_2 rfl cl_RX11_259 cm_X11_needDeadline cv_X11_needDeadline ⟨by decide, by decide, by decide, by decide, by decide⟩ rfl rfl rfl ⟨by decide, by omega⟩ (by decide +kernel) (by decide +kernel) (Nat.le_of_ble_eq_true rfl) (eX11_needDeadline ?_)
  refine ⟨fun c1 => ?_, fun c1 => ?_⟩
  · replace h := h.1 (show (¬ (x1 < 0)) ∧ (¬ (d 16 11 ≤ x1)) from c1)
    show MW mX11_status 0 0 5 [(0, vR 0), (1, vI x1)] [] g d Q
    refine mw_aload_n (v := vR 0) (pc' := 6) dX11_status_5 rfl rfl (Or.inl rfl) rfl ?_
    refine mw_getP (v := 6) (pc' := 9) dX11_status_6 rfl fr_RX11_26_0 rfl sp_0_3 ⟨by decide, by decide⟩ ?_
    refine mw_getP (v := 16) (pc' := 12) dX11_status_9 rfl fr_RX11_252_6 rfl sp_6_3 ⟨by decide, by decide⟩ ?_
    refine mw_getP (v := 27) (pc' := 15) dX11_status_12 rfl fr_RX11_293_16 rfl sp_16_10 ⟨by decide, by decide⟩ ?_
    refine mw_iload_n (pc' := 16) dX11_status_15 rfl rfl rfl ?_
    obtain ⟨o2, h⟩ := h
    refine mw_cald (pc' := 17) dX11_status_16 rfl lk_27 ⟨by decide, by decide⟩ (by rw [ln_27]; exact o2) ?_
    obtain ⟨o3, h⟩ := h
    exact mw_iret (pc' := 0) (S := []) dX11_status_17 rfl (Or.inr (Or.inr ⟨rfl, o3⟩)) h
  · replace h := h.2 (show ¬ ((¬ (x1 < 0)) ∧ (¬ (d 16 11 ≤ x1))) from c1)
    exact mx_out rfl h
def pX11_findOpenDues_1 (x1 : Int) (g : mG) (d : mD) (Q : mQ) : Prop := MW mX11_findOpenDues 0 0 2 [(0, vR 0), (1, vI x1)] [] g d Q
theorem eX11_findOpenDues {g : mG} {d : mD} {Q : mQ} (h : pX11_findOpenDues_1 0 g d Q) : MM mX11_findOpenDues [vR 0] g d Q := by
  refine MM_of (by decide) rfl (by simp [catV]) (Nat.le_of_ble_eq_true rfl) ?_
  show MW mX11_findOpenDues 0 0 0 [(0, vR 0)] [] g d Q
  refine mw_top (fun hT => ?_)
  have hG : 65 ≤ g.2.1 := hT.2
  refine mw_iconst (pc' := 1) dX11_findOpenDues_0 rfl ⟨by decide, by decide⟩ ?_
  refine mw_istore_n (pc' := 2) (L' := [(0, vR 0), (1, vI 0)]) dX11_findOpenDues_1 rfl rfl (by decide) rfl ?_
  exact h
theorem aX11_findOpenDues_1 {R : rW} {x1 : Int} {g : mG} {d : mD} {Q : mQ} (h : ((d 16 11 ≤ x1) → Q (.inl 0) g d) ∧ ((¬ (d 16 11 ≤ x1)) → (0 ≤ x1 ∧ x1 < 30) ∧ (((d 27 x1 = 111) → (CI d R) ∧ ((0 ≤ x1 ∧ x1 < R 3) ∧ (∀ d8, FrW d d8 → ((iI (x1 + 1)) ∧ (pX11_findOpenDues_1 (x1 + 1) g (ud d8 59 x1 (dueF R x1)) Q))))) ∧ ((¬ (d 27 x1 = 111)) → (iI (x1 + 1)) ∧ (pX11_findOpenDues_1 (x1 + 1) g (ud d 59 x1 5000) Q))))) : pX11_findOpenDues_1 x1 g d Q := by
  unfold pX11_findOpenDues_1
  refine mw_top (fun hT => ?_)
  have hG : 65 ≤ g.2.1 := hT.2
  refine mw_iload_n (pc' := 3) dX11_findOpenDues_2 rfl rfl rfl ?_
  refine mw_aload_n (v := vR 0) (pc' := 4) dX11_findOpenDues_3 rfl rfl (Or.inl rfl) rfl ?_
  refine mw_getP (v := 6) (pc' := 7) dX11_findOpenDues_4 rfl fr_RX11_26_0 rfl sp_0_3 ⟨by decide, by decide⟩ ?_
  refine mw_getP (v := 16) (pc' := 10) dX11_findOpenDues_7 rfl fr_RX11_252_6 rfl sp_6_3 ⟨by decide, by decide⟩ ?_
  refine mw_getI (ji := 11) (pc' := 13) dX11_findOpenDues_10 rfl fi_RX11_256_16 rfl ⟨by decide, by decide⟩ ?_
  refine mw_icmp_ge (tgt := 63) (pc' := 16) dX11_findOpenDues_13 rfl (by decide) (fun c3 => ?_) (fun c3 => ?_)
  · replace h := h.1 c3
    exact mw_vret (pc' := 0) (S := []) dX11_findOpenDues_63 rfl h
  · replace h := h.2 c3
    refine mw_aload_n (v := vR 0) (pc' := 17) dX11_findOpenDues_16 rfl rfl (Or.inl rfl) rfl ?_
    refine mw_getP (v := 59) (pc' := 20) dX11_findOpenDues_17 rfl fr_RX11_58_0 rfl sp_0_9 ⟨by decide, by decide⟩ ?_
    refine mw_iload_n (pc' := 21) dX11_findOpenDues_20 rfl rfl rfl ?_
    refine mw_aload_n (v := vR 0) (pc' := 22) dX11_findOpenDues_21 rfl rfl (Or.inl rfl) rfl ?_
    refine mw_getP (v := 6) (pc' := 25) dX11_findOpenDues_22 rfl fr_RX11_26_0 rfl sp_0_3 ⟨by decide, by decide⟩ ?_
    refine mw_getP (v := 16) (pc' := 28) dX11_findOpenDues_25 rfl fr_RX11_252_6 rfl sp_6_3 ⟨by decide, by decide⟩ ?_
    refine mw_iload_n (pc' := 29) dX11_findOpenDues_28 rfl rfl rfl ?_
    obtain ⟨o4, h⟩ := h
    refine mw_callV (M' := mX2_isOpen) (A := [vI x1]) (A' := [vR 16, vI x1]) (S := [vI x1, vR 59]) (a := 16) (pc' := 32) dX11_findOpenDues_29 rfl cl_RX11_300 cm_X2_isOpen cv_X2_isOpen ⟨by decide, by decide, by decide, by decide, by decide⟩ rfl rfl rfl ⟨by decide, by omega⟩ (by decide +kernel) (by decide +kernel) (Nat.le_of_ble_eq_true rfl) (eX2_isOpen (⟨o4, ?_⟩))
    show MW mX11_findOpenDues 0 0 32 [(0, vR 0), (1, vI x1)] [vI (bI (d 27 x1 = 111)), vI x1, vR 59] g d Q
    refine mw_if_eq (tgt := 53) (pc' := 35) dX11_findOpenDues_32 rfl (by decide) (fun c5 => ?_) (fun c5 => ?_)
    · replace c5 := bI_0.mp c5
      replace h := h.2 c5
      refine mw_sipush (pc' := 56) dX11_findOpenDues_53 rfl ⟨by decide, by decide⟩ ?_
      refine mw_iast (pc' := 57) dX11_findOpenDues_56 rfl lk_59 ⟨by decide, by decide⟩ (by rw [ln_59]; exact o4) ?_
      obtain ⟨o13, h⟩ := h
      refine mw_iinc (pc' := 60) (L' := [(0, vR 0), (1, vI (x1 + 1))]) dX11_findOpenDues_57 rfl rfl (by decide) o13 rfl ?_
      refine mw_goto (pc' := 0) (tgt := 2) dX11_findOpenDues_60 (by decide) ?_
      exact h
    · replace c5 := bI_n0.mp c5
      replace h := h.1 c5
      refine mw_aload_n (v := vR 0) (pc' := 36) dX11_findOpenDues_35 rfl rfl (Or.inl rfl) rfl ?_
      refine mw_getP (v := 53) (pc' := 39) dX11_findOpenDues_36 rfl fr_RX11_47_0 rfl sp_0_7 ⟨by decide, by decide⟩ ?_
      refine mw_aload_n (v := vR 0) (pc' := 40) dX11_findOpenDues_39 rfl rfl (Or.inl rfl) rfl ?_
      refine mw_getP (v := 6) (pc' := 43) dX11_findOpenDues_40 rfl fr_RX11_26_0 rfl sp_0_3 ⟨by decide, by decide⟩ ?_
      refine mw_getP (v := 16) (pc' := 46) dX11_findOpenDues_43 rfl fr_RX11_252_6 rfl sp_6_3 ⟨by decide, by decide⟩ ?_
      refine mw_iload_n (pc' := 47) dX11_findOpenDues_46 rfl rfl rfl ?_
      refine mw_callV (M' := mX10_endOf) (A := [vR 16, vI x1]) (A' := [vR 53, vR 16, vI x1]) (S := [vI x1, vR 59]) (a := 53) (pc' := 50) dX11_findOpenDues_47 rfl cl_RX11_262 cm_X10_endOf cv_X10_endOf ⟨by decide, by decide, by decide, by decide, by decide⟩ rfl rfl rfl ⟨by decide, by omega⟩ (by decide +kernel) (by decide +kernel) (Nat.le_of_ble_eq_true rfl) (f_endOfW (R := R) ?_)
      obtain ⟨o6, h⟩ := h
      refine ⟨o6, ?_⟩
      obtain ⟨o7, h⟩ := h
      refine ⟨o7, ?_⟩
      intro d8 q9
      replace h := h d8 q9
      show MW mX11_findOpenDues 0 0 50 [(0, vR 0), (1, vI x1)] [vI (dueF R x1), vI x1, vR 59] g d8 Q
      refine mw_goto (pc' := 0) (tgt := 56) dX11_findOpenDues_50 (by decide) ?_
      refine mw_iast (pc' := 57) dX11_findOpenDues_56 rfl lk_59 ⟨by decide, by decide⟩ (by rw [ln_59]; exact o4) ?_
      obtain ⟨o11, h⟩ := h
      refine mw_iinc (pc' := 60) (L' := [(0, vR 0), (1, vI (x1 + 1))]) dX11_findOpenDues_57 rfl rfl (by decide) o11 rfl ?_
      refine mw_goto (pc' := 0) (tgt := 2) dX11_findOpenDues_60 (by decide) ?_
      exact h
def pX11_countOpenAhead_1 (x1 x2 x3 : Int) (g : mG) (d : mD) (Q : mQ) : Prop := MW mX11_countOpenAhead 0 0 4 [(0, vR 0), (1, vI x1), (2, vI x2), (3, vI x3)] [] g d Q
theorem eX11_countOpenAhead {x1 : Int} {g : mG} {d : mD} {Q : mQ} (h : pX11_countOpenAhead_1 x1 0 0 g d Q) : MM mX11_countOpenAhead [vR 0, vI x1] g d Q := by
  refine MM_of (by decide) rfl (by simp [catV]) (Nat.le_of_ble_eq_true rfl) ?_
  show MW mX11_countOpenAhead 0 0 0 [(0, vR 0), (1, vI x1)] [] g d Q
  refine mw_top (fun hT => ?_)
  have hG : 65 ≤ g.2.1 := hT.2
  refine mw_iconst (pc' := 1) dX11_countOpenAhead_0 rfl ⟨by decide, by decide⟩ ?_
  refine mw_istore_n (pc' := 2) (L' := [(0, vR 0), (1, vI x1), (2, vI 0)]) dX11_countOpenAhead_1 rfl rfl (by decide) rfl ?_
  refine mw_iconst (pc' := 3) dX11_countOpenAhead_2 rfl ⟨by decide, by decide⟩ ?_
  refine mw_istore_n (pc' := 4) (L' := [(0, vR 0), (1, vI x1), (2, vI 0), (3, vI 0)]) dX11_countOpenAhead_3 rfl rfl (by decide) rfl ?_
  exact h
theorem aX11_countOpenAhead_1 {x1 x2 x3 : Int} {g : mG} {d : mD} {Q : mQ} (h : ((d 16 11 ≤ x3) → Q (.inl x2) g d) ∧ ((¬ (d 16 11 ≤ x3)) → (0 ≤ x3 ∧ x3 < 30) ∧ ((0 ≤ x1 ∧ x1 < 30) ∧ ((((d 59 x3 < d 59 x1) ∨ ((d 59 x3 = d 59 x1) ∧ (¬ (x1 ≤ x3)))) → ((d 27 x3 = 111) → (iI (x2 + 1)) ∧ ((iI (x3 + 1)) ∧ (pX11_countOpenAhead_1 x1 (x2 + 1) (x3 + 1) g d Q))) ∧ ((¬ (d 27 x3 = 111)) → (iI (x3 + 1)) ∧ (pX11_countOpenAhead_1 x1 x2 (x3 + 1) g d Q))) ∧ ((¬ ((d 59 x3 < d 59 x1) ∨ ((d 59 x3 = d 59 x1) ∧ (¬ (x1 ≤ x3))))) → ((d 27 x3 = 111) → (iI (x3 + 1)) ∧ (pX11_countOpenAhead_1 x1 x2 (x3 + 1) g d Q)) ∧ ((¬ (d 27 x3 = 111)) → (iI (x3 + 1)) ∧ (pX11_countOpenAhead_1 x1 x2 (x3 + 1) g d Q))))))) : pX11_countOpenAhead_1 x1 x2 x3 g d Q := by
  unfold pX11_countOpenAhead_1
  refine mw_top (fun hT => ?_)
  have hG : 65 ≤ g.2.1 := hT.2
  refine mw_iload_n (pc' := 5) dX11_countOpenAhead_4 rfl rfl rfl ?_
  refine mw_aload_n (v := vR 0) (pc' := 6) dX11_countOpenAhead_5 rfl rfl (Or.inl rfl) rfl ?_
  refine mw_getP (v := 6) (pc' := 9) dX11_countOpenAhead_6 rfl fr_RX11_26_0 rfl sp_0_3 ⟨by decide, by decide⟩ ?_
  refine mw_getP (v := 16) (pc' := 12) dX11_countOpenAhead_9 rfl fr_RX11_252_6 rfl sp_6_3 ⟨by decide, by decide⟩ ?_
  refine mw_getI (ji := 11) (pc' := 15) dX11_countOpenAhead_12 rfl fi_RX11_256_16 rfl ⟨by decide, by decide⟩ ?_
  refine mw_icmp_ge (tgt := 88) (pc' := 18) dX11_countOpenAhead_15 rfl (by decide) (fun c5 => ?_) (fun c5 => ?_)
  · replace h := h.1 c5
    refine mw_iload_n (pc' := 89) dX11_countOpenAhead_88 rfl rfl rfl ?_
    exact mw_iret (pc' := 0) (S := []) dX11_countOpenAhead_89 rfl (Or.inl rfl) h
  · replace h := h.2 c5
    refine mw_aload_n (v := vR 0) (pc' := 19) dX11_countOpenAhead_18 rfl rfl (Or.inl rfl) rfl ?_
    refine mw_getP (v := 59) (pc' := 22) dX11_countOpenAhead_19 rfl fr_RX11_58_0 rfl sp_0_9 ⟨by decide, by decide⟩ ?_
    refine mw_iload_n (pc' := 23) dX11_countOpenAhead_22 rfl rfl rfl ?_
    obtain ⟨o6, h⟩ := h
    refine mw_iald (pc' := 24) dX11_countOpenAhead_23 rfl lk_59 ⟨by decide, by decide⟩ (by rw [ln_59]; exact o6) ?_
    refine mw_aload_n (v := vR 0) (pc' := 25) dX11_countOpenAhead_24 rfl rfl (Or.inl rfl) rfl ?_
    refine mw_getP (v := 59) (pc' := 28) dX11_countOpenAhead_25 rfl fr_RX11_58_0 rfl sp_0_9 ⟨by decide, by decide⟩ ?_
    refine mw_iload_n (pc' := 29) dX11_countOpenAhead_28 rfl rfl rfl ?_
    obtain ⟨o7, h⟩ := h
    refine mw_iald (pc' := 30) dX11_countOpenAhead_29 rfl lk_59 ⟨by decide, by decide⟩ (by rw [ln_59]; exact o7) ?_
    suffices k10 : (((d 59 x3 < d 59 x1) ∨ ((d 59 x3 = d 59 x1) ∧ (¬ (x1 ≤ x3)))) → MW mX11_countOpenAhead 0 0 53 [(0, vR 0), (1, vI x1), (2, vI x2), (3, vI x3)] [] g d Q) ∧ ((¬ ((d 59 x3 < d 59 x1) ∨ ((d 59 x3 = d 59 x1) ∧ (¬ (x1 ≤ x3))))) → MW mX11_countOpenAhead 0 0 57 [(0, vR 0), (1, vI x1), (2, vI x2), (3, vI x3)] [] g d Q) by
      refine mw_icmp_lt (tgt := 53) (pc' := 33) dX11_countOpenAhead_30 rfl (by decide) (fun c11 => ?_) (fun c11 => ?_)
      · exact k10.1 (Or.inl c11)
      · refine mw_aload_n (v := vR 0) (pc' := 34) dX11_countOpenAhead_33 rfl rfl (Or.inl rfl) rfl ?_
        refine mw_getP (v := 59) (pc' := 37) dX11_countOpenAhead_34 rfl fr_RX11_58_0 rfl sp_0_9 ⟨by decide, by decide⟩ ?_
        refine mw_iload_n (pc' := 38) dX11_countOpenAhead_37 rfl rfl rfl ?_
        refine mw_iald (pc' := 39) dX11_countOpenAhead_38 rfl lk_59 ⟨by decide, by decide⟩ (by rw [ln_59]; exact o6) ?_
        refine mw_aload_n (v := vR 0) (pc' := 40) dX11_countOpenAhead_39 rfl rfl (Or.inl rfl) rfl ?_
        refine mw_getP (v := 59) (pc' := 43) dX11_countOpenAhead_40 rfl fr_RX11_58_0 rfl sp_0_9 ⟨by decide, by decide⟩ ?_
        refine mw_iload_n (pc' := 44) dX11_countOpenAhead_43 rfl rfl rfl ?_
        refine mw_iald (pc' := 45) dX11_countOpenAhead_44 rfl lk_59 ⟨by decide, by decide⟩ (by rw [ln_59]; exact o7) ?_
        refine mw_icmp_ne (tgt := 57) (pc' := 48) dX11_countOpenAhead_45 rfl (by decide) (fun c12 => ?_) (fun c12 => ?_)
        · exact k10.2 (fun h => h.elim (fun q => (c11 q)) (fun h => (c12 h.1)))
        · refine mw_iload_n (pc' := 49) dX11_countOpenAhead_48 rfl rfl rfl ?_
          refine mw_iload_n (pc' := 50) dX11_countOpenAhead_49 rfl rfl rfl ?_
          refine mw_icmp_ge (tgt := 57) (pc' := 53) dX11_countOpenAhead_50 rfl (by decide) (fun c13 => ?_) (fun c13 => ?_)
          · exact k10.2 (fun h => h.elim (fun q => (c11 q)) (fun h => (fun h => (h c13)) h.2))
          · exact k10.1 (Or.inr ⟨c12, c13⟩)
    refine ⟨fun c14 => ?_, fun c14 => ?_⟩
    · replace h := h.1 c14
      refine mw_iconst (pc' := 54) dX11_countOpenAhead_53 rfl ⟨by decide, by decide⟩ ?_
      refine mw_goto (pc' := 0) (tgt := 58) dX11_countOpenAhead_54 (by decide) ?_
      refine mw_istore (pc' := 60) (L' := [(0, vR 0), (1, vI x1), (2, vI x2), (3, vI x3), (4, vI 1)]) dX11_countOpenAhead_58 rfl (by decide) rfl ?_
      refine mw_aload_n (v := vR 0) (pc' := 61) dX11_countOpenAhead_60 rfl rfl (Or.inl rfl) rfl ?_
      refine mw_getP (v := 6) (pc' := 64) dX11_countOpenAhead_61 rfl fr_RX11_26_0 rfl sp_0_3 ⟨by decide, by decide⟩ ?_
      refine mw_getP (v := 16) (pc' := 67) dX11_countOpenAhead_64 rfl fr_RX11_252_6 rfl sp_6_3 ⟨by decide, by decide⟩ ?_
      refine mw_iload_n (pc' := 68) dX11_countOpenAhead_67 rfl rfl rfl ?_
      refine mw_callV (M' := mX2_isOpen) (A := [vI x3]) (A' := [vR 16, vI x3]) (S := []) (a := 16) (pc' := 71) dX11_countOpenAhead_68 rfl cl_RX11_300 cm_X2_isOpen cv_X2_isOpen ⟨by decide, by decide, by decide, by decide, by decide⟩ rfl rfl rfl ⟨by decide, by omega⟩ (by decide +kernel) (by decide +kernel) (Nat.le_of_ble_eq_true rfl) (eX2_isOpen (⟨o6, ?_⟩))
      show MW mX11_countOpenAhead 0 0 71 [(0, vR 0), (1, vI x1), (2, vI x2), (3, vI x3), (4, vI 1)] [vI (bI (d 27 x3 = 111))] g d Q
      refine mw_if_eq (tgt := 82) (pc' := 74) dX11_countOpenAhead_71 rfl (by decide) (fun c16 => ?_) (fun c16 => ?_)
      · replace c16 := bI_0.mp c16
        replace h := h.2 c16
        obtain ⟨o19, h⟩ := h
        refine mw_iinc (pc' := 85) (L' := [(0, vR 0), (1, vI x1), (2, vI x2), (3, vI (x3 + 1)), (4, vI 1)]) dX11_countOpenAhead_82 rfl rfl (by decide) o19 rfl ?_
        refine mw_goto (pc' := 0) (tgt := 4) dX11_countOpenAhead_85 (by decide) ?_
        exact mw_loc (pc' := 0) [0, 1, 2, 3] rfl h
      · replace c16 := bI_n0.mp c16
        replace h := h.1 c16
        refine mw_iload (pc' := 76) dX11_countOpenAhead_74 rfl rfl ?_
        refine mw_if_eq (tgt := 82) (pc' := 79) dX11_countOpenAhead_76 rfl (by decide) (fun q => absurd q (by decide)) (fun _ => ?_)
        obtain ⟨o17, h⟩ := h
        refine mw_iinc (pc' := 82) (L' := [(0, vR 0), (1, vI x1), (2, vI (x2 + 1)), (3, vI x3), (4, vI 1)]) dX11_countOpenAhead_79 rfl rfl (by decide) o17 rfl ?_
        obtain ⟨o18, h⟩ := h
        refine mw_iinc (pc' := 85) (L' := [(0, vR 0), (1, vI x1), (2, vI (x2 + 1)), (3, vI (x3 + 1)), (4, vI 1)]) dX11_countOpenAhead_82 rfl rfl (by decide) o18 rfl ?_
        refine mw_goto (pc' := 0) (tgt := 4) dX11_countOpenAhead_85 (by decide) ?_
        exact mw_loc (pc' := 0) [0, 1, 2, 3] rfl h
    · replace h := h.2 c14
      refine mw_iconst (pc' := 58) dX11_countOpenAhead_57 rfl ⟨by decide, by decide⟩ ?_
      refine mw_istore (pc' := 60) (L' := [(0, vR 0), (1, vI x1), (2, vI x2), (3, vI x3), (4, vI 0)]) dX11_countOpenAhead_58 rfl (by decide) rfl ?_
      refine mw_aload_n (v := vR 0) (pc' := 61) dX11_countOpenAhead_60 rfl rfl (Or.inl rfl) rfl ?_
      refine mw_getP (v := 6) (pc' := 64) dX11_countOpenAhead_61 rfl fr_RX11_26_0 rfl sp_0_3 ⟨by decide, by decide⟩ ?_
      refine mw_getP (v := 16) (pc' := 67) dX11_countOpenAhead_64 rfl fr_RX11_252_6 rfl sp_6_3 ⟨by decide, by decide⟩ ?_
      refine mw_iload_n (pc' := 68) dX11_countOpenAhead_67 rfl rfl rfl ?_
      refine mw_callV (M' := mX2_isOpen) (A := [vI x3]) (A' := [vR 16, vI x3]) (S := []) (a := 16) (pc' := 71) dX11_countOpenAhead_68 rfl cl_RX11_300 cm_X2_isOpen cv_X2_isOpen ⟨by decide, by decide, by decide, by decide, by decide⟩ rfl rfl rfl ⟨by decide, by omega⟩ (by decide +kernel) (by decide +kernel) (Nat.le_of_ble_eq_true rfl) (eX2_isOpen (⟨o6, ?_⟩))
      show MW mX11_countOpenAhead 0 0 71 [(0, vR 0), (1, vI x1), (2, vI x2), (3, vI x3), (4, vI 0)] [vI (bI (d 27 x3 = 111))] g d Q
      refine mw_if_eq (tgt := 82) (pc' := 74) dX11_countOpenAhead_71 rfl (by decide) (fun c21 => ?_) (fun c21 => ?_)
      · replace c21 := bI_0.mp c21
        replace h := h.2 c21
        obtain ⟨o23, h⟩ := h
        refine mw_iinc (pc' := 85) (L' := [(0, vR 0), (1, vI x1), (2, vI x2), (3, vI (x3 + 1)), (4, vI 0)]) dX11_countOpenAhead_82 rfl rfl (by decide) o23 rfl ?_
        refine mw_goto (pc' := 0) (tgt := 4) dX11_countOpenAhead_85 (by decide) ?_
        exact mw_loc (pc' := 0) [0, 1, 2, 3] rfl h
      · replace c21 := bI_n0.mp c21
        replace h := h.1 c21
        refine mw_iload (pc' := 76) dX11_countOpenAhead_74 rfl rfl ?_
        refine mw_if_eq (tgt := 82) (pc' := 79) dX11_countOpenAhead_76 rfl (by decide) (fun _ => ?_) (fun q => absurd q (by decide))
        obtain ⟨o22, h⟩ := h
        refine mw_iinc (pc' := 85) (L' := [(0, vR 0), (1, vI x1), (2, vI x2), (3, vI (x3 + 1)), (4, vI 0)]) dX11_countOpenAhead_82 rfl rfl (by decide) o22 rfl ?_
        refine mw_goto (pc' := 0) (tgt := 4) dX11_countOpenAhead_85 (by decide) ?_
        exact mw_loc (pc' := 0) [0, 1, 2, 3] rfl h
def pX11_openAt_1 (x1 x2 : Int) (g : mG) (d : mD) (Q : mQ) : Prop := MW mX11_openAt 1 6 6 [(0, vR 0), (1, vI x1), (2, vI x2)] [] g d Q
theorem eX11_openAt {x1 : Int} {g : mG} {d : mD} {Q : mQ} (h : MM mX11_findOpenDues [vR 0] g d (fun o g3 d4 => match o with | .inl v2 => pX11_openAt_1 x1 0 g3 d4 Q | .inr k => Q (.inr k) g3 d4)) : MM mX11_openAt [vR 0, vI x1] g d Q := by
  refine MM_of (by decide) rfl (by simp [catV]) (Nat.le_of_ble_eq_true rfl) ?_
  show MW mX11_openAt 1 6 0 [(0, vR 0), (1, vI x1)] [] g d Q
  refine mw_top (fun hT => ?_)
  have hG : 65 ≤ g.2.1 := hT.2
  refine mw_aload_n (v := vR 0) (pc' := 1) dX11_openAt_0 rfl rfl (Or.inl rfl) rfl ?_
  refine mw_callV (M' := mX11_findOpenDues) (A := []) (A' := [vR 0]) (S := []) (a := 0) (pc' := 4) dX11_openAt_1 rfl cl_RX11_297 cm_X11_findOpenDues cv_X11_findOpenDues ⟨by decide, by decide, by decide, by decide, by decide⟩ rfl rfl rfl ⟨by decide, by omega⟩ (by decide +kernel) (by decide +kernel) (Nat.le_of_ble_eq_true rfl) (MM.mono ?_ h)
  intro o g3 d4 h1
  rcases o with v2 | k
  · refine mw_top (fun hT => ?_)
    have hG : 65 ≤ g3.2.1 := hT.2
    show MW mX11_openAt 1 6 4 [(0, vR 0), (1, vI x1)] [] g3 d4 Q
    refine mw_iconst (pc' := 5) dX11_openAt_4 rfl ⟨by decide, by decide⟩ ?_
    refine mw_istore_n (pc' := 6) (L' := [(0, vR 0), (1, vI x1), (2, vI 0)]) dX11_openAt_5 rfl rfl (by decide) rfl ?_
    exact h1
  · exact mx_out rfl h1
theorem aX11_openAt_1 {x1 x2 : Int} {g : mG} {d : mD} {Q : mQ} (h : ((d 16 11 ≤ x2) → Q (.inr 4) g d) ∧ ((¬ (d 16 11 ≤ x2)) → (0 ≤ x2 ∧ x2 < 30) ∧ (((d 27 x2 = 111) → MM mX11_countOpenAhead [vR 0, vI x2] g d (fun o g12 d13 => match o with | .inl v11 => ((v11 = x1) → Q (.inl x2) g12 d13) ∧ ((¬ (v11 = x1)) → (iI (x2 + 1)) ∧ (pX11_openAt_1 x1 (x2 + 1) g12 d13 Q)) | .inr k => Q (.inr k) g12 d13)) ∧ ((¬ (d 27 x2 = 111)) → (iI (x2 + 1)) ∧ (pX11_openAt_1 x1 (x2 + 1) g d Q))))) : pX11_openAt_1 x1 x2 g d Q := by
  unfold pX11_openAt_1
  refine mw_top (fun hT => ?_)
  have hG : 65 ≤ g.2.1 := hT.2
  refine mw_iload_n (pc' := 7) dX11_openAt_6 rfl rfl rfl ?_
  refine mw_aload_n (v := vR 0) (pc' := 8) dX11_openAt_7 rfl rfl (Or.inl rfl) rfl ?_
  refine mw_getP (v := 6) (pc' := 11) dX11_openAt_8 rfl fr_RX11_26_0 rfl sp_0_3 ⟨by decide, by decide⟩ ?_
  refine mw_getP (v := 16) (pc' := 14) dX11_openAt_11 rfl fr_RX11_252_6 rfl sp_6_3 ⟨by decide, by decide⟩ ?_
  refine mw_getI (ji := 11) (pc' := 17) dX11_openAt_14 rfl fi_RX11_256_16 rfl ⟨by decide, by decide⟩ ?_
  refine mw_icmp_ge (tgt := 51) (pc' := 20) dX11_openAt_17 rfl (by decide) (fun c7 => ?_) (fun c7 => ?_)
  · replace h := h.1 c7
    exact mw_throw4W (pc' := 0) (i := 16) dX11_openAt_51 dX11_openAt_54 dX11_openAt_55 dX11_openAt_58 dX11_openAt_61 tk_RX11_117_121 ti_RX11_117_121 rfl t4_RX11_117_121 t5_RX11_117_121 rfl (by decide) (by decide) (by decide) (by decide) (by decide) h
  · replace h := h.2 c7
    refine mw_aload_n (v := vR 0) (pc' := 21) dX11_openAt_20 rfl rfl (Or.inl rfl) rfl ?_
    refine mw_getP (v := 6) (pc' := 24) dX11_openAt_21 rfl fr_RX11_26_0 rfl sp_0_3 ⟨by decide, by decide⟩ ?_
    refine mw_getP (v := 16) (pc' := 27) dX11_openAt_24 rfl fr_RX11_252_6 rfl sp_6_3 ⟨by decide, by decide⟩ ?_
    refine mw_iload_n (pc' := 28) dX11_openAt_27 rfl rfl rfl ?_
    obtain ⟨o8, h⟩ := h
    refine mw_callV (M' := mX2_isOpen) (A := [vI x2]) (A' := [vR 16, vI x2]) (S := []) (a := 16) (pc' := 31) dX11_openAt_28 rfl cl_RX11_300 cm_X2_isOpen cv_X2_isOpen ⟨by decide, by decide, by decide, by decide, by decide⟩ rfl rfl rfl ⟨by decide, by omega⟩ (by decide +kernel) (by decide +kernel) (Nat.le_of_ble_eq_true rfl) (eX2_isOpen (⟨o8, ?_⟩))
    show MW mX11_openAt 1 6 31 [(0, vR 0), (1, vI x1), (2, vI x2)] [vI (bI (d 27 x2 = 111))] g d Q
    refine mw_if_eq (tgt := 45) (pc' := 34) dX11_openAt_31 rfl (by decide) (fun c9 => ?_) (fun c9 => ?_)
    · replace c9 := bI_0.mp c9
      replace h := h.2 c9
      obtain ⟨o16, h⟩ := h
      refine mw_iinc (pc' := 48) (L' := [(0, vR 0), (1, vI x1), (2, vI (x2 + 1))]) dX11_openAt_45 rfl rfl (by decide) o16 rfl ?_
      refine mw_goto (pc' := 0) (tgt := 6) dX11_openAt_48 (by decide) ?_
      exact h
    · replace c9 := bI_n0.mp c9
      replace h := h.1 c9
      refine mw_aload_n (v := vR 0) (pc' := 35) dX11_openAt_34 rfl rfl (Or.inl rfl) rfl ?_
      refine mw_iload_n (pc' := 36) dX11_openAt_35 rfl rfl rfl ?_
      refine mw_callV (M' := mX11_countOpenAhead) (A := [vI x2]) (A' := [vR 0, vI x2]) (S := []) (a := 0) (pc' := 39) dX11_openAt_36 rfl cl_RX11_303 cm_X11_countOpenAhead cv_X11_countOpenAhead ⟨by decide, by decide, by decide, by decide, by decide⟩ rfl rfl rfl ⟨by decide, by omega⟩ (by decide +kernel) (by decide +kernel) (Nat.le_of_ble_eq_true rfl) (MM.mono ?_ h)
      intro o g12 d13 h10
      rcases o with v11 | k
      · refine mw_top (fun hT => ?_)
        have hG : 65 ≤ g12.2.1 := hT.2
        show MW mX11_openAt 1 6 39 [(0, vR 0), (1, vI x1), (2, vI x2)] [vI v11] g12 d13 Q
        refine mw_iload_n (pc' := 40) dX11_openAt_39 rfl rfl rfl ?_
        refine mw_icmp_ne (tgt := 45) (pc' := 43) dX11_openAt_40 rfl (by decide) (fun c14 => ?_) (fun c14 => ?_)
        · replace h10 := h10.2 c14
          obtain ⟨o15, h10⟩ := h10
          refine mw_iinc (pc' := 48) (L' := [(0, vR 0), (1, vI x1), (2, vI (x2 + 1))]) dX11_openAt_45 rfl rfl (by decide) o15 rfl ?_
          refine mw_goto (pc' := 0) (tgt := 6) dX11_openAt_48 (by decide) ?_
          exact h10
        · replace h10 := h10.1 c14
          refine mw_iload_n (pc' := 44) dX11_openAt_43 rfl rfl rfl ?_
          exact mw_iret (pc' := 0) (S := []) dX11_openAt_44 rfl (Or.inl rfl) h10
      · exact mx_out rfl h10
def pX11_overdue_1 (x1 x2 : Int) (g : mG) (d : mD) (Q : mQ) : Prop := MW mX11_overdue 0 0 8 [(0, vR 0), (1, vI x1), (2, vI x2)] [] g d Q
theorem eX11_overdue {g : mG} {d : mD} {Q : mQ} (h : MM mX11_findOpenDues [vR 0] g d (fun o g3 d4 => match o with | .inl v2 => pX11_overdue_1 0 0 g3 d4 Q | .inr k => Q (.inr k) g3 d4)) : MM mX11_overdue [vR 0] g d Q := by
  refine MM_of (by decide) rfl (by simp [catV]) (Nat.le_of_ble_eq_true rfl) ?_
  show MW mX11_overdue 0 0 0 [(0, vR 0)] [] g d Q
  refine mw_top (fun hT => ?_)
  have hG : 65 ≤ g.2.1 := hT.2
  refine mw_aload_n (v := vR 0) (pc' := 1) dX11_overdue_0 rfl rfl (Or.inl rfl) rfl ?_
  refine mw_callV (M' := mX11_findOpenDues) (A := []) (A' := [vR 0]) (S := []) (a := 0) (pc' := 4) dX11_overdue_1 rfl cl_RX11_297 cm_X11_findOpenDues cv_X11_findOpenDues ⟨by decide, by decide, by decide, by decide, by decide⟩ rfl rfl rfl ⟨by decide, by omega⟩ (by decide +kernel) (by decide +kernel) (Nat.le_of_ble_eq_true rfl) (MM.mono ?_ h)
  intro o g3 d4 h1
  rcases o with v2 | k
  · refine mw_top (fun hT => ?_)
    have hG : 65 ≤ g3.2.1 := hT.2
    show MW mX11_overdue 0 0 4 [(0, vR 0)] [] g3 d4 Q
    refine mw_iconst (pc' := 5) dX11_overdue_4 rfl ⟨by decide, by decide⟩ ?_
    refine mw_istore_n (pc' := 6) (L' := [(0, vR 0), (1, vI 0)]) dX11_overdue_5 rfl rfl (by decide) rfl ?_
    refine mw_iconst (pc' := 7) dX11_overdue_6 rfl ⟨by decide, by decide⟩ ?_
    refine mw_istore_n (pc' := 8) (L' := [(0, vR 0), (1, vI 0), (2, vI 0)]) dX11_overdue_7 rfl rfl (by decide) rfl ?_
    exact h1
  · exact mx_out rfl h1
theorem aX11_overdue_1 {x1 x2 : Int} {g : mG} {d : mD} {Q : mQ} (h : ((d 16 11 ≤ x2) → Q (.inl x1) g d) ∧ ((¬ (d 16 11 ≤ x2)) → (0 ≤ x2 ∧ x2 < 30) ∧ ((((d 27 x2 = 111) ∧ (¬ (d 10 0 ≤ d 59 x2))) → (iI (x1 + 1)) ∧ ((iI (x2 + 1)) ∧ (pX11_overdue_1 (x1 + 1) (x2 + 1) g d Q))) ∧ ((¬ ((d 27 x2 = 111) ∧ (¬ (d 10 0 ≤ d 59 x2)))) → (iI (x2 + 1)) ∧ (pX11_overdue_1 x1 (x2 + 1) g d Q))))) : pX11_overdue_1 x1 x2 g d Q := by
  unfold pX11_overdue_1
  refine mw_top (fun hT => ?_)
  have hG : 65 ≤ g.2.1 := hT.2
  refine mw_iload_n (pc' := 9) dX11_overdue_8 rfl rfl rfl ?_
  refine mw_aload_n (v := vR 0) (pc' := 10) dX11_overdue_9 rfl rfl (Or.inl rfl) rfl ?_
  refine mw_getP (v := 6) (pc' := 13) dX11_overdue_10 rfl fr_RX11_26_0 rfl sp_0_3 ⟨by decide, by decide⟩ ?_
  refine mw_getP (v := 16) (pc' := 16) dX11_overdue_13 rfl fr_RX11_252_6 rfl sp_6_3 ⟨by decide, by decide⟩ ?_
  refine mw_getI (ji := 11) (pc' := 19) dX11_overdue_16 rfl fi_RX11_256_16 rfl ⟨by decide, by decide⟩ ?_
  refine mw_icmp_ge (tgt := 64) (pc' := 22) dX11_overdue_19 rfl (by decide) (fun c7 => ?_) (fun c7 => ?_)
  · replace h := h.1 c7
    refine mw_iload_n (pc' := 65) dX11_overdue_64 rfl rfl rfl ?_
    exact mw_iret (pc' := 0) (S := []) dX11_overdue_65 rfl (Or.inl rfl) h
  · replace h := h.2 c7
    refine mw_aload_n (v := vR 0) (pc' := 23) dX11_overdue_22 rfl rfl (Or.inl rfl) rfl ?_
    refine mw_getP (v := 6) (pc' := 26) dX11_overdue_23 rfl fr_RX11_26_0 rfl sp_0_3 ⟨by decide, by decide⟩ ?_
    refine mw_getP (v := 16) (pc' := 29) dX11_overdue_26 rfl fr_RX11_252_6 rfl sp_6_3 ⟨by decide, by decide⟩ ?_
    refine mw_iload_n (pc' := 30) dX11_overdue_29 rfl rfl rfl ?_
    obtain ⟨o8, h⟩ := h
    refine mw_callV (M' := mX2_isOpen) (A := [vI x2]) (A' := [vR 16, vI x2]) (S := []) (a := 16) (pc' := 33) dX11_overdue_30 rfl cl_RX11_300 cm_X2_isOpen cv_X2_isOpen ⟨by decide, by decide, by decide, by decide, by decide⟩ rfl rfl rfl ⟨by decide, by omega⟩ (by decide +kernel) (by decide +kernel) (Nat.le_of_ble_eq_true rfl) (eX2_isOpen (⟨o8, ?_⟩))
    show MW mX11_overdue 0 0 33 [(0, vR 0), (1, vI x1), (2, vI x2)] [vI (bI (d 27 x2 = 111))] g d Q
    suffices k10 : (((d 27 x2 = 111) ∧ (¬ (d 10 0 ≤ d 59 x2))) → MW mX11_overdue 0 0 55 [(0, vR 0), (1, vI x1), (2, vI x2)] [] g d Q) ∧ ((¬ ((d 27 x2 = 111) ∧ (¬ (d 10 0 ≤ d 59 x2)))) → MW mX11_overdue 0 0 58 [(0, vR 0), (1, vI x1), (2, vI x2)] [] g d Q) by
      refine mw_if_eq (tgt := 58) (pc' := 36) dX11_overdue_33 rfl (by decide) (fun c11 => ?_) (fun c11 => ?_)
      · replace c11 := bI_0.mp c11
        exact k10.2 (fun h => (c11 h.1))
      · replace c11 := bI_n0.mp c11
        refine mw_aload_n (v := vR 0) (pc' := 37) dX11_overdue_36 rfl rfl (Or.inl rfl) rfl ?_
        refine mw_getP (v := 59) (pc' := 40) dX11_overdue_37 rfl fr_RX11_58_0 rfl sp_0_9 ⟨by decide, by decide⟩ ?_
        refine mw_iload_n (pc' := 41) dX11_overdue_40 rfl rfl rfl ?_
        refine mw_iald (pc' := 42) dX11_overdue_41 rfl lk_59 ⟨by decide, by decide⟩ (by rw [ln_59]; exact o8) ?_
        refine mw_aload_n (v := vR 0) (pc' := 43) dX11_overdue_42 rfl rfl (Or.inl rfl) rfl ?_
        refine mw_getP (v := 6) (pc' := 46) dX11_overdue_43 rfl fr_RX11_26_0 rfl sp_0_3 ⟨by decide, by decide⟩ ?_
        refine mw_getP (v := 10) (pc' := 49) dX11_overdue_46 rfl fr_RX11_36_6 rfl sp_6_1 ⟨by decide, by decide⟩ ?_
        refine mw_getI (ji := 0) (pc' := 52) dX11_overdue_49 rfl fi_RX11_152_10 rfl ⟨by decide, by decide⟩ ?_
        refine mw_icmp_ge (tgt := 58) (pc' := 55) dX11_overdue_52 rfl (by decide) (fun c12 => ?_) (fun c12 => ?_)
        · exact k10.2 (fun h => (fun h => (h c12)) h.2)
        · exact k10.1 ⟨c11, c12⟩
    refine ⟨fun c13 => ?_, fun c13 => ?_⟩
    · replace h := h.1 c13
      obtain ⟨o14, h⟩ := h
      refine mw_iinc (pc' := 58) (L' := [(0, vR 0), (1, vI (x1 + 1)), (2, vI x2)]) dX11_overdue_55 rfl rfl (by decide) o14 rfl ?_
      obtain ⟨o15, h⟩ := h
      refine mw_iinc (pc' := 61) (L' := [(0, vR 0), (1, vI (x1 + 1)), (2, vI (x2 + 1))]) dX11_overdue_58 rfl rfl (by decide) o15 rfl ?_
      refine mw_goto (pc' := 0) (tgt := 8) dX11_overdue_61 (by decide) ?_
      exact h
    · replace h := h.2 c13
      obtain ⟨o16, h⟩ := h
      refine mw_iinc (pc' := 61) (L' := [(0, vR 0), (1, vI x1), (2, vI (x2 + 1))]) dX11_overdue_58 rfl rfl (by decide) o16 rfl ?_
      refine mw_goto (pc' := 0) (tgt := 8) dX11_overdue_61 (by decide) ?_
      exact h
theorem eX11_staysInForce {g : mG} {d : mD} {Q : mQ} (h : (0 ≤ d 28 4 ∧ d 28 (4 : Int) ≤ 12) ∧ (Q (.inl (nuF (fun i => d 32 i = 4999) (d 28 4))) g d)) : MM mX11_staysInForce [vR 0] g d Q := by
  refine MM_of (by decide) rfl (by simp [catV]) (Nat.le_of_ble_eq_true rfl) ?_
  show MW mX11_staysInForce 0 0 0 [(0, vR 0)] [] g d Q
  refine mw_top (fun hT => ?_)
  have hG : 65 ≤ g.2.1 := hT.2
  refine mw_aload_n (v := vR 0) (pc' := 1) dX11_staysInForce_0 rfl rfl (Or.inl rfl) rfl ?_
  refine mw_getP (v := 6) (pc' := 4) dX11_staysInForce_1 rfl fr_RX11_26_0 rfl sp_0_3 ⟨by decide, by decide⟩ ?_
  refine mw_getP (v := 28) (pc' := 7) dX11_staysInForce_4 rfl fr_RX11_40_6 rfl sp_6_4 ⟨by decide, by decide⟩ ?_
  obtain ⟨o1, h⟩ := h
  refine mw_callV (M' := mX8_countInForce) (A := []) (A' := [vR 28]) (S := []) (a := 28) (pc' := 10) dX11_staysInForce_7 rfl cl_RX11_351 cm_X8_countInForce cv_X8_countInForce ⟨by decide, by decide, by decide, by decide, by decide⟩ rfl rfl rfl ⟨by decide, by omega⟩ (by decide +kernel) (by decide +kernel) (Nat.le_of_ble_eq_true rfl) (f_countInForce (⟨o1, ?_⟩))
  show MW mX11_staysInForce 0 0 10 [(0, vR 0)] [vI (nuF (fun i => d 32 i = 4999) (d 28 4))] g d Q
  exact mw_iret (pc' := 0) (S := []) dX11_staysInForce_10 rfl (Or.inl rfl) h
theorem eX11_isStopped {R : rW} {x1 x2 : Int} {g : mG} {d : mD} {Q : mQ} (h : (((¬ (x1 < 0)) ∧ (¬ (d 16 11 ≤ x1))) → (((¬ (x2 < 0)) ∧ (¬ (4999 < x2))) → (CI d R) ∧ ((0 ≤ x1 ∧ x1 < R 3) ∧ ((0 ≤ x2 ∧ x2 ≤ x2) ∧ ((x2 ≤ 4999) ∧ (∀ d7, FrW d d7 → (Q (.inl (bI (cn (stopd R (R (139 + 16 * x1)) (R (140 + 16 * x1))) x2 x2 = 1))) g d7)))))) ∧ ((¬ ((¬ (x2 < 0)) ∧ (¬ (4999 < x2)))) → Q (.inr 2) g d)) ∧ ((¬ ((¬ (x1 < 0)) ∧ (¬ (d 16 11 ≤ x1)))) → Q (.inr 3) g d)) : MM mX11_isStopped [vR 0, vI x1, vI x2] g d Q := by
  refine MM_of (by decide) rfl (by simp [catV]) (Nat.le_of_ble_eq_true rfl) ?_
  show MW mX11_isStopped 2 12 0 [(0, vR 0), (1, vI x1), (2, vI x2)] [] g d Q
  refine mw_top (fun hT => ?_)
  have hG : 65 ≤ g.2.1 := hT.2
  refine mw_aload_n (v := vR 0) (pc' := 1) dX11_isStopped_0 rfl rfl (Or.inl rfl) rfl ?_
  refine mw_iload_n (pc' := 2) dX11_isStopped_1 rfl rfl rfl ?_
  refine mw_callV (M' := mX11_needDeadline) (A := [vI x1]) (A' := [vR 0, vI x1]) (S := []) (a := 0) (pc' := 5) dX11_isStopped_2 rfl cl_RX11_259 cm_X11_needDeadline cv_X11_needDeadline ⟨by decide, by decide, by decide, by decide, by decide⟩ rfl rfl rfl ⟨by decide, by omega⟩ (by decide +kernel) (by decide +kernel) (Nat.le_of_ble_eq_true rfl) (eX11_needDeadline ?_)
  refine ⟨fun c1 => ?_, fun c1 => ?_⟩
  · replace h := h.1 (show (¬ (x1 < 0)) ∧ (¬ (d 16 11 ≤ x1)) from c1)
    show MW mX11_isStopped 1 6 5 [(0, vR 0), (1, vI x1), (2, vI x2)] [] g d Q
    refine mw_iload_n (pc' := 6) dX11_isStopped_5 rfl rfl rfl ?_
    refine mw_callS (M' := mX11_needDay) (A := [vI x2]) (S := []) (pc' := 9) dX11_isStopped_6 rfl cl_RX11_160 cm_X11_needDay cs_X11_needDay ⟨by decide, by decide, by decide, by decide, by decide⟩ rfl rfl (Nat.le_of_ble_eq_true rfl) (eX11_needDay ?_)
    refine ⟨fun c2 => ?_, fun c2 => ?_⟩
    · replace h := h.1 (show (¬ (x2 < 0)) ∧ (¬ (4999 < x2)) from c2)
      show MW mX11_isStopped 0 0 9 [(0, vR 0), (1, vI x1), (2, vI x2)] [] g d Q
      refine mw_aload_n (v := vR 0) (pc' := 10) dX11_isStopped_9 rfl rfl (Or.inl rfl) rfl ?_
      refine mw_getP (v := 53) (pc' := 13) dX11_isStopped_10 rfl fr_RX11_47_0 rfl sp_0_7 ⟨by decide, by decide⟩ ?_
      refine mw_aload_n (v := vR 0) (pc' := 14) dX11_isStopped_13 rfl rfl (Or.inl rfl) rfl ?_
      refine mw_getP (v := 6) (pc' := 17) dX11_isStopped_14 rfl fr_RX11_26_0 rfl sp_0_3 ⟨by decide, by decide⟩ ?_
      refine mw_getP (v := 16) (pc' := 20) dX11_isStopped_17 rfl fr_RX11_252_6 rfl sp_6_3 ⟨by decide, by decide⟩ ?_
      refine mw_iload_n (pc' := 21) dX11_isStopped_20 rfl rfl rfl ?_
      refine mw_iload_n (pc' := 22) dX11_isStopped_21 rfl rfl rfl ?_
      refine mw_iload_n (pc' := 23) dX11_isStopped_22 rfl rfl rfl ?_
      refine mw_callV (M' := mX10_countStopped) (A := [vR 16, vI x1, vI x2, vI x2]) (A' := [vR 53, vR 16, vI x1, vI x2, vI x2]) (S := []) (a := 53) (pc' := 26) dX11_isStopped_23 rfl cl_RX11_356 cm_X10_countStopped cv_X10_countStopped ⟨by decide, by decide, by decide, by decide, by decide⟩ rfl rfl rfl ⟨by decide, by omega⟩ (by decide +kernel) (by decide +kernel) (Nat.le_of_ble_eq_true rfl) (f_countStoppedW (R := R) ?_)
      obtain ⟨o3, h⟩ := h
      refine ⟨o3, ?_⟩
      obtain ⟨o4, h⟩ := h
      refine ⟨o4, ?_⟩
      obtain ⟨o5, h⟩ := h
      refine ⟨o5, ?_⟩
      obtain ⟨o6, h⟩ := h
      refine ⟨o6, ?_⟩
      intro d7 q8
      replace h := h d7 q8
      show MW mX11_isStopped 0 0 26 [(0, vR 0), (1, vI x1), (2, vI x2)] [vI (cn (stopd R (R (139 + 16 * x1)) (R (140 + 16 * x1))) x2 x2)] g d7 Q
      refine mw_iconst (pc' := 27) dX11_isStopped_26 rfl ⟨by decide, by decide⟩ ?_
      suffices k9 : MW mX11_isStopped 0 0 35 [(0, vR 0), (1, vI x1), (2, vI x2)] [vI (bI (cn (stopd R (R (139 + 16 * x1)) (R (140 + 16 * x1))) x2 x2 = 1))] g d7 Q by
        refine mw_icmp_ne (tgt := 34) (pc' := 30) dX11_isStopped_27 rfl (by decide) (fun c10 => ?_) (fun c10 => ?_)
        · refine mw_iconst (pc' := 35) dX11_isStopped_34 rfl ⟨by decide, by decide⟩ ?_
          exact mw_st (bI_f (fun h => (c10 h))).symm k9
        · refine mw_iconst (pc' := 31) dX11_isStopped_30 rfl ⟨by decide, by decide⟩ ?_
          refine mw_goto (pc' := 0) (tgt := 35) dX11_isStopped_31 (by decide) ?_
          exact mw_st (bI_t c10).symm k9
      exact mw_iret (pc' := 0) (S := []) dX11_isStopped_35 rfl (Or.inr (Or.inl ⟨rfl, bI_rng⟩)) h
    · replace h := h.2 (show ¬ ((¬ (x2 < 0)) ∧ (¬ (4999 < x2))) from c2)
      exact mx_out rfl h
  · replace h := h.2 (show ¬ ((¬ (x1 < 0)) ∧ (¬ (d 16 11 ≤ x1))) from c1)
    exact mx_out rfl h
theorem eX11_stoppedDays {R : rW} {x1 x2 x3 : Int} {g : mG} {d : mD} {Q : mQ} (h : (((¬ (x1 < 0)) ∧ (¬ (d 16 11 ≤ x1))) → (((¬ ((¬ (x2 < 0)) ∧ (¬ (4999 < x2)))) ∨ ((¬ ((¬ (x3 < 0)) ∧ (¬ (4999 < x3)))) ∨ (¬ (x2 ≤ x3)))) → Q (.inr 2) g d) ∧ ((¬ ((¬ ((¬ (x2 < 0)) ∧ (¬ (4999 < x2)))) ∨ ((¬ ((¬ (x3 < 0)) ∧ (¬ (4999 < x3)))) ∨ (¬ (x2 ≤ x3))))) → (CI d R) ∧ ((0 ≤ x1 ∧ x1 < R 3) ∧ ((0 ≤ x2 ∧ x2 ≤ x3) ∧ ((x3 ≤ 4999) ∧ (∀ d7, FrW d d7 → (Q (.inl (cn (stopd R (R (139 + 16 * x1)) (R (140 + 16 * x1))) x2 x3)) g d7))))))) ∧ ((¬ ((¬ (x1 < 0)) ∧ (¬ (d 16 11 ≤ x1)))) → Q (.inr 3) g d)) : MM mX11_stoppedDays [vR 0, vI x1, vI x2, vI x3] g d Q := by
  refine MM_of (by decide) rfl (by simp [catV]) (Nat.le_of_ble_eq_true rfl) ?_
  show MW mX11_stoppedDays 2 12 0 [(0, vR 0), (1, vI x1), (2, vI x2), (3, vI x3)] [] g d Q
  refine mw_top (fun hT => ?_)
  have hG : 65 ≤ g.2.1 := hT.2
  refine mw_aload_n (v := vR 0) (pc' := 1) dX11_stoppedDays_0 rfl rfl (Or.inl rfl) rfl ?_
  refine mw_iload_n (pc' := 2) dX11_stoppedDays_1 rfl rfl rfl ?_
  refine mw_callV (M' := mX11_needDeadline) (A := [vI x1]) (A' := [vR 0, vI x1]) (S := []) (a := 0) (pc' := 5) dX11_stoppedDays_2 rfl cl_RX11_259 cm_X11_needDeadline cv_X11_needDeadline ⟨by decide, by decide, by decide, by decide, by decide⟩ rfl rfl rfl ⟨by decide, by omega⟩ (by decide +kernel) (by decide +kernel) (Nat.le_of_ble_eq_true rfl) (eX11_needDeadline ?_)
  refine ⟨fun c1 => ?_, fun c1 => ?_⟩
  · replace h := h.1 (show (¬ (x1 < 0)) ∧ (¬ (d 16 11 ≤ x1)) from c1)
    show MW mX11_stoppedDays 1 6 5 [(0, vR 0), (1, vI x1), (2, vI x2), (3, vI x3)] [] g d Q
    refine mw_iload_n (pc' := 6) dX11_stoppedDays_5 rfl rfl rfl ?_
    refine mw_iload_n (pc' := 7) dX11_stoppedDays_6 rfl rfl rfl ?_
    refine mw_callS (M' := mX11_needRange) (A := [vI x2, vI x3]) (S := []) (pc' := 10) dX11_stoppedDays_7 rfl cl_RX11_172 cm_X11_needRange cs_X11_needRange ⟨by decide, by decide, by decide, by decide, by decide⟩ rfl rfl (Nat.le_of_ble_eq_true rfl) (eX11_needRange ?_)
    refine ⟨fun c2 => ?_, fun c2 => ?_⟩
    · replace h := h.1 (show (¬ ((¬ (x2 < 0)) ∧ (¬ (4999 < x2)))) ∨ ((¬ ((¬ (x3 < 0)) ∧ (¬ (4999 < x3)))) ∨ (¬ (x2 ≤ x3))) from c2)
      exact mx_out rfl h
    · replace h := h.2 (show ¬ ((¬ ((¬ (x2 < 0)) ∧ (¬ (4999 < x2)))) ∨ ((¬ ((¬ (x3 < 0)) ∧ (¬ (4999 < x3)))) ∨ (¬ (x2 ≤ x3)))) from c2)
      show MW mX11_stoppedDays 0 0 10 [(0, vR 0), (1, vI x1), (2, vI x2), (3, vI x3)] [] g d Q
      refine mw_aload_n (v := vR 0) (pc' := 11) dX11_stoppedDays_10 rfl rfl (Or.inl rfl) rfl ?_
      refine mw_getP (v := 53) (pc' := 14) dX11_stoppedDays_11 rfl fr_RX11_47_0 rfl sp_0_7 ⟨by decide, by decide⟩ ?_
      refine mw_aload_n (v := vR 0) (pc' := 15) dX11_stoppedDays_14 rfl rfl (Or.inl rfl) rfl ?_
      refine mw_getP (v := 6) (pc' := 18) dX11_stoppedDays_15 rfl fr_RX11_26_0 rfl sp_0_3 ⟨by decide, by decide⟩ ?_
      refine mw_getP (v := 16) (pc' := 21) dX11_stoppedDays_18 rfl fr_RX11_252_6 rfl sp_6_3 ⟨by decide, by decide⟩ ?_
      refine mw_iload_n (pc' := 22) dX11_stoppedDays_21 rfl rfl rfl ?_
      refine mw_iload_n (pc' := 23) dX11_stoppedDays_22 rfl rfl rfl ?_
      refine mw_iload_n (pc' := 24) dX11_stoppedDays_23 rfl rfl rfl ?_
      refine mw_callV (M' := mX10_countStopped) (A := [vR 16, vI x1, vI x2, vI x3]) (A' := [vR 53, vR 16, vI x1, vI x2, vI x3]) (S := []) (a := 53) (pc' := 27) dX11_stoppedDays_24 rfl cl_RX11_356 cm_X10_countStopped cv_X10_countStopped ⟨by decide, by decide, by decide, by decide, by decide⟩ rfl rfl rfl ⟨by decide, by omega⟩ (by decide +kernel) (by decide +kernel) (Nat.le_of_ble_eq_true rfl) (f_countStoppedW (R := R) ?_)
      obtain ⟨o3, h⟩ := h
      refine ⟨o3, ?_⟩
      obtain ⟨o4, h⟩ := h
      refine ⟨o4, ?_⟩
      obtain ⟨o5, h⟩ := h
      refine ⟨o5, ?_⟩
      obtain ⟨o6, h⟩ := h
      refine ⟨o6, ?_⟩
      intro d7 q8
      replace h := h d7 q8
      show MW mX11_stoppedDays 0 0 27 [(0, vR 0), (1, vI x1), (2, vI x2), (3, vI x3)] [vI (cn (stopd R (R (139 + 16 * x1)) (R (140 + 16 * x1))) x2 x3)] g d7 Q
      exact mw_iret (pc' := 0) (S := []) dX11_stoppedDays_27 rfl (Or.inl rfl) h
  · replace h := h.2 (show ¬ ((¬ (x1 < 0)) ∧ (¬ (d 16 11 ≤ x1))) from c1)
    exact mx_out rfl h
theorem eX11_stoppedDaysByMarking {R : rW} {x1 x2 x3 : Int} {g : mG} {d : mD} {Q : mQ} (h : (((¬ (x1 < 0)) ∧ (¬ (d 16 11 ≤ x1))) → (((¬ ((¬ (x2 < 0)) ∧ (¬ (4999 < x2)))) ∨ ((¬ ((¬ (x3 < 0)) ∧ (¬ (4999 < x3)))) ∨ (¬ (x2 ≤ x3)))) → Q (.inr 2) g d) ∧ ((¬ ((¬ ((¬ (x2 < 0)) ∧ (¬ (4999 < x2)))) ∨ ((¬ ((¬ (x3 < 0)) ∧ (¬ (4999 < x3)))) ∨ (¬ (x2 ≤ x3))))) → (CI d R) ∧ ((0 ≤ x1 ∧ x1 < R 3) ∧ ((0 ≤ x2 ∧ x2 ≤ x3) ∧ ((x3 ≤ 4999) ∧ (∀ d7, FrM d d7 → (Q (.inl (cn (stopd R (R (139 + 16 * x1)) (R (140 + 16 * x1))) x2 x3)) g d7))))))) ∧ ((¬ ((¬ (x1 < 0)) ∧ (¬ (d 16 11 ≤ x1)))) → Q (.inr 3) g d)) : MM mX11_stoppedDaysByMarking [vR 0, vI x1, vI x2, vI x3] g d Q := by
  refine MM_of (by decide) rfl (by simp [catV]) (Nat.le_of_ble_eq_true rfl) ?_
  show MW mX11_stoppedDaysByMarking 2 12 0 [(0, vR 0), (1, vI x1), (2, vI x2), (3, vI x3)] [] g d Q
  refine mw_top (fun hT => ?_)
  have hG : 65 ≤ g.2.1 := hT.2
  refine mw_aload_n (v := vR 0) (pc' := 1) dX11_stoppedDaysByMarking_0 rfl rfl (Or.inl rfl) rfl ?_
  refine mw_iload_n (pc' := 2) dX11_stoppedDaysByMarking_1 rfl rfl rfl ?_
  refine mw_callV (M' := mX11_needDeadline) (A := [vI x1]) (A' := [vR 0, vI x1]) (S := []) (a := 0) (pc' := 5) dX11_stoppedDaysByMarking_2 rfl cl_RX11_259 cm_X11_needDeadline cv_X11_needDeadline ⟨by decide, by decide, by decide, by decide, by decide⟩ rfl rfl rfl ⟨by decide, by omega⟩ (by decide +kernel) (by decide +kernel) (Nat.le_of_ble_eq_true rfl) (eX11_needDeadline ?_)
  refine ⟨fun c1 => ?_, fun c1 => ?_⟩
  · replace h := h.1 (show (¬ (x1 < 0)) ∧ (¬ (d 16 11 ≤ x1)) from c1)
    show MW mX11_stoppedDaysByMarking 1 6 5 [(0, vR 0), (1, vI x1), (2, vI x2), (3, vI x3)] [] g d Q
    refine mw_iload_n (pc' := 6) dX11_stoppedDaysByMarking_5 rfl rfl rfl ?_
    refine mw_iload_n (pc' := 7) dX11_stoppedDaysByMarking_6 rfl rfl rfl ?_
    refine mw_callS (M' := mX11_needRange) (A := [vI x2, vI x3]) (S := []) (pc' := 10) dX11_stoppedDaysByMarking_7 rfl cl_RX11_172 cm_X11_needRange cs_X11_needRange ⟨by decide, by decide, by decide, by decide, by decide⟩ rfl rfl (Nat.le_of_ble_eq_true rfl) (eX11_needRange ?_)
    refine ⟨fun c2 => ?_, fun c2 => ?_⟩
    · replace h := h.1 (show (¬ ((¬ (x2 < 0)) ∧ (¬ (4999 < x2)))) ∨ ((¬ ((¬ (x3 < 0)) ∧ (¬ (4999 < x3)))) ∨ (¬ (x2 ≤ x3))) from c2)
      exact mx_out rfl h
    · replace h := h.2 (show ¬ ((¬ ((¬ (x2 < 0)) ∧ (¬ (4999 < x2)))) ∨ ((¬ ((¬ (x3 < 0)) ∧ (¬ (4999 < x3)))) ∨ (¬ (x2 ≤ x3)))) from c2)
      show MW mX11_stoppedDaysByMarking 0 0 10 [(0, vR 0), (1, vI x1), (2, vI x2), (3, vI x3)] [] g d Q
      refine mw_aload_n (v := vR 0) (pc' := 11) dX11_stoppedDaysByMarking_10 rfl rfl (Or.inl rfl) rfl ?_
      refine mw_getP (v := 56) (pc' := 14) dX11_stoppedDaysByMarking_11 rfl fr_RX11_54_0 rfl sp_0_8 ⟨by decide, by decide⟩ ?_
      refine mw_aload_n (v := vR 0) (pc' := 15) dX11_stoppedDaysByMarking_14 rfl rfl (Or.inl rfl) rfl ?_
      refine mw_getP (v := 6) (pc' := 18) dX11_stoppedDaysByMarking_15 rfl fr_RX11_26_0 rfl sp_0_3 ⟨by decide, by decide⟩ ?_
      refine mw_getP (v := 16) (pc' := 21) dX11_stoppedDaysByMarking_18 rfl fr_RX11_252_6 rfl sp_6_3 ⟨by decide, by decide⟩ ?_
      refine mw_iload_n (pc' := 22) dX11_stoppedDaysByMarking_21 rfl rfl rfl ?_
      refine mw_iload_n (pc' := 23) dX11_stoppedDaysByMarking_22 rfl rfl rfl ?_
      refine mw_iload_n (pc' := 24) dX11_stoppedDaysByMarking_23 rfl rfl rfl ?_
      refine mw_callV (M' := mX4_countStopped) (A := [vR 16, vI x1, vI x2, vI x3]) (A' := [vR 56, vR 16, vI x1, vI x2, vI x3]) (S := []) (a := 56) (pc' := 27) dX11_stoppedDaysByMarking_24 rfl cl_RX11_360 cm_X4_countStopped cv_X4_countStopped ⟨by decide, by decide, by decide, by decide, by decide⟩ rfl rfl rfl ⟨by decide, by omega⟩ (by decide +kernel) (by decide +kernel) (Nat.le_of_ble_eq_true rfl) (f_countStoppedM (R := R) ?_)
      obtain ⟨o3, h⟩ := h
      refine ⟨o3, ?_⟩
      obtain ⟨o4, h⟩ := h
      refine ⟨o4, ?_⟩
      obtain ⟨o5, h⟩ := h
      refine ⟨o5, ?_⟩
      obtain ⟨o6, h⟩ := h
      refine ⟨o6, ?_⟩
      intro d7 q8
      replace h := h d7 q8
      show MW mX11_stoppedDaysByMarking 0 0 27 [(0, vR 0), (1, vI x1), (2, vI x2), (3, vI x3)] [vI (cn (stopd R (R (139 + 16 * x1)) (R (140 + 16 * x1))) x2 x3)] g d7 Q
      exact mw_iret (pc' := 0) (S := []) dX11_stoppedDaysByMarking_27 rfl (Or.inl rfl) h
  · replace h := h.2 (show ¬ ((¬ (x1 < 0)) ∧ (¬ (d 16 11 ≤ x1))) from c1)
    exact mx_out rfl h
theorem eX11_sameConduct {x1 x2 : Int} {g : mG} {d : mD} {Q : mQ} (h : (((¬ (x1 < 0)) ∧ (¬ (d 34 11 ≤ x1))) → (((¬ (x2 < 0)) ∧ (¬ (d 34 11 ≤ x2))) → (0 ≤ x1 ∧ x1 < 8) ∧ ((0 ≤ x2 ∧ x2 < 8) ∧ (Q (.inl (bI (d 47 x1 = d 47 x2))) g d))) ∧ ((¬ ((¬ (x2 < 0)) ∧ (¬ (d 34 11 ≤ x2)))) → Q (.inr 3) g d)) ∧ ((¬ ((¬ (x1 < 0)) ∧ (¬ (d 34 11 ≤ x1)))) → Q (.inr 3) g d)) : MM mX11_sameConduct [vR 0, vI x1, vI x2] g d Q := by
  refine MM_of (by decide) rfl (by simp [catV]) (Nat.le_of_ble_eq_true rfl) ?_
  show MW mX11_sameConduct 2 12 0 [(0, vR 0), (1, vI x1), (2, vI x2)] [] g d Q
  refine mw_top (fun hT => ?_)
  have hG : 65 ≤ g.2.1 := hT.2
  refine mw_aload_n (v := vR 0) (pc' := 1) dX11_sameConduct_0 rfl rfl (Or.inl rfl) rfl ?_
  refine mw_iload_n (pc' := 2) dX11_sameConduct_1 rfl rfl rfl ?_
  refine mw_callV (M' := mX11_needOccurrence) (A := [vI x1]) (A' := [vR 0, vI x1]) (S := []) (a := 0) (pc' := 5) dX11_sameConduct_2 rfl cl_RX11_381 cm_X11_needOccurrence cv_X11_needOccurrence ⟨by decide, by decide, by decide, by decide, by decide⟩ rfl rfl rfl ⟨by decide, by omega⟩ (by decide +kernel) (by decide +kernel) (Nat.le_of_ble_eq_true rfl) (eX11_needOccurrence ?_)
  refine ⟨fun c1 => ?_, fun c1 => ?_⟩
  · replace h := h.1 (show (¬ (x1 < 0)) ∧ (¬ (d 34 11 ≤ x1)) from c1)
    show MW mX11_sameConduct 1 6 5 [(0, vR 0), (1, vI x1), (2, vI x2)] [] g d Q
    refine mw_aload_n (v := vR 0) (pc' := 6) dX11_sameConduct_5 rfl rfl (Or.inl rfl) rfl ?_
    refine mw_iload_n (pc' := 7) dX11_sameConduct_6 rfl rfl rfl ?_
    refine mw_callV (M' := mX11_needOccurrence) (A := [vI x2]) (A' := [vR 0, vI x2]) (S := []) (a := 0) (pc' := 10) dX11_sameConduct_7 rfl cl_RX11_381 cm_X11_needOccurrence cv_X11_needOccurrence ⟨by decide, by decide, by decide, by decide, by decide⟩ rfl rfl rfl ⟨by decide, by omega⟩ (by decide +kernel) (by decide +kernel) (Nat.le_of_ble_eq_true rfl) (eX11_needOccurrence ?_)
    refine ⟨fun c2 => ?_, fun c2 => ?_⟩
    · replace h := h.1 (show (¬ (x2 < 0)) ∧ (¬ (d 34 11 ≤ x2)) from c2)
      show MW mX11_sameConduct 0 0 10 [(0, vR 0), (1, vI x1), (2, vI x2)] [] g d Q
      refine mw_aload_n (v := vR 0) (pc' := 11) dX11_sameConduct_10 rfl rfl (Or.inl rfl) rfl ?_
      refine mw_getP (v := 6) (pc' := 14) dX11_sameConduct_11 rfl fr_RX11_26_0 rfl sp_0_3 ⟨by decide, by decide⟩ ?_
      refine mw_getP (v := 33) (pc' := 17) dX11_sameConduct_14 rfl fr_RX11_384_6 rfl sp_6_5 ⟨by decide, by decide⟩ ?_
      refine mw_iload_n (pc' := 18) dX11_sameConduct_17 rfl rfl rfl ?_
      refine mw_iload_n (pc' := 19) dX11_sameConduct_18 rfl rfl rfl ?_
      obtain ⟨o3, h⟩ := h
      obtain ⟨o4, h⟩ := h
      refine mw_callV (M' := mX1_inSameGroup) (A := [vI x1, vI x2]) (A' := [vR 33, vI x1, vI x2]) (S := []) (a := 33) (pc' := 22) dX11_sameConduct_19 rfl cl_RX11_388 cm_X1_inSameGroup cv_X1_inSameGroup ⟨by decide, by decide, by decide, by decide, by decide⟩ rfl rfl rfl ⟨by decide, by omega⟩ (by decide +kernel) (by decide +kernel) (Nat.le_of_ble_eq_true rfl) (eX1_inSameGroup (⟨o3, o4, ?_⟩))
      show MW mX11_sameConduct 0 0 22 [(0, vR 0), (1, vI x1), (2, vI x2)] [vI (bI (d 47 x1 = d 47 x2))] g d Q
      exact mw_iret (pc' := 0) (S := []) dX11_sameConduct_22 rfl (Or.inr (Or.inl ⟨rfl, bI_rng⟩)) h
    · replace h := h.2 (show ¬ ((¬ (x2 < 0)) ∧ (¬ (d 34 11 ≤ x2))) from c2)
      exact mx_out rfl h
  · replace h := h.2 (show ¬ ((¬ (x1 < 0)) ∧ (¬ (d 34 11 ≤ x1))) from c1)
    exact mx_out rfl h
theorem eX11_sameConductBySearch {R : rW} {x1 x2 : Int} {g : mG} {d : mD} {Q : mQ} (h : (((¬ (x1 < 0)) ∧ (¬ (d 34 11 ≤ x1))) → (((¬ (x2 < 0)) ∧ (¬ (d 34 11 ≤ x2))) → (CI d R) ∧ ((0 ≤ x1 ∧ x1 < R 5) ∧ ((0 ≤ x2 ∧ x2 < R 5) ∧ (Q (.inl (bI (conn R x1 x2))) g d)))) ∧ ((¬ ((¬ (x2 < 0)) ∧ (¬ (d 34 11 ≤ x2)))) → Q (.inr 3) g d)) ∧ ((¬ ((¬ (x1 < 0)) ∧ (¬ (d 34 11 ≤ x1)))) → Q (.inr 3) g d)) : MM mX11_sameConductBySearch [vR 0, vI x1, vI x2] g d Q := by
  refine MM_of (by decide) rfl (by simp [catV]) (Nat.le_of_ble_eq_true rfl) ?_
  show MW mX11_sameConductBySearch 2 12 0 [(0, vR 0), (1, vI x1), (2, vI x2)] [] g d Q
  refine mw_top (fun hT => ?_)
  have hG : 65 ≤ g.2.1 := hT.2
  refine mw_aload_n (v := vR 0) (pc' := 1) dX11_sameConductBySearch_0 rfl rfl (Or.inl rfl) rfl ?_
  refine mw_iload_n (pc' := 2) dX11_sameConductBySearch_1 rfl rfl rfl ?_
  refine mw_callV (M' := mX11_needOccurrence) (A := [vI x1]) (A' := [vR 0, vI x1]) (S := []) (a := 0) (pc' := 5) dX11_sameConductBySearch_2 rfl cl_RX11_381 cm_X11_needOccurrence cv_X11_needOccurrence ⟨by decide, by decide, by decide, by decide, by decide⟩ rfl rfl rfl ⟨by decide, by omega⟩ (by decide +kernel) (by decide +kernel) (Nat.le_of_ble_eq_true rfl) (eX11_needOccurrence ?_)
  refine ⟨fun c1 => ?_, fun c1 => ?_⟩
  · replace h := h.1 (show (¬ (x1 < 0)) ∧ (¬ (d 34 11 ≤ x1)) from c1)
    show MW mX11_sameConductBySearch 1 6 5 [(0, vR 0), (1, vI x1), (2, vI x2)] [] g d Q
    refine mw_aload_n (v := vR 0) (pc' := 6) dX11_sameConductBySearch_5 rfl rfl (Or.inl rfl) rfl ?_
    refine mw_iload_n (pc' := 7) dX11_sameConductBySearch_6 rfl rfl rfl ?_
    refine mw_callV (M' := mX11_needOccurrence) (A := [vI x2]) (A' := [vR 0, vI x2]) (S := []) (a := 0) (pc' := 10) dX11_sameConductBySearch_7 rfl cl_RX11_381 cm_X11_needOccurrence cv_X11_needOccurrence ⟨by decide, by decide, by decide, by decide, by decide⟩ rfl rfl rfl ⟨by decide, by omega⟩ (by decide +kernel) (by decide +kernel) (Nat.le_of_ble_eq_true rfl) (eX11_needOccurrence ?_)
    refine ⟨fun c2 => ?_, fun c2 => ?_⟩
    · replace h := h.1 (show (¬ (x2 < 0)) ∧ (¬ (d 34 11 ≤ x2)) from c2)
      show MW mX11_sameConductBySearch 0 0 10 [(0, vR 0), (1, vI x1), (2, vI x2)] [] g d Q
      refine mw_aload_n (v := vR 0) (pc' := 11) dX11_sameConductBySearch_10 rfl rfl (Or.inl rfl) rfl ?_
      refine mw_getP (v := 6) (pc' := 14) dX11_sameConductBySearch_11 rfl fr_RX11_26_0 rfl sp_0_3 ⟨by decide, by decide⟩ ?_
      refine mw_getP (v := 33) (pc' := 17) dX11_sameConductBySearch_14 rfl fr_RX11_384_6 rfl sp_6_5 ⟨by decide, by decide⟩ ?_
      refine mw_iload_n (pc' := 18) dX11_sameConductBySearch_17 rfl rfl rfl ?_
      refine mw_iload_n (pc' := 19) dX11_sameConductBySearch_18 rfl rfl rfl ?_
      obtain ⟨o3, h⟩ := h
      obtain ⟨o4, h⟩ := h
      obtain ⟨o5, h⟩ := h
      refine mw_callV (M' := mX1_isReached) (A := [vI x1, vI x2]) (A' := [vR 33, vI x1, vI x2]) (S := []) (a := 33) (pc' := 22) dX11_sameConductBySearch_19 rfl cl_RX11_394 cm_X1_isReached cv_X1_isReached ⟨by decide, by decide, by decide, by decide, by decide⟩ rfl rfl rfl ⟨by decide, by omega⟩ (by decide +kernel) (by decide +kernel) (Nat.le_of_ble_eq_true rfl) (f_isReached (⟨o3, o4, o5, ?_⟩))
      show MW mX11_sameConductBySearch 0 0 22 [(0, vR 0), (1, vI x1), (2, vI x2)] [vI (bI (conn R x1 x2))] g d Q
      exact mw_iret (pc' := 0) (S := []) dX11_sameConductBySearch_22 rfl (Or.inr (Or.inl ⟨rfl, bI_rng⟩)) h
    · replace h := h.2 (show ¬ ((¬ (x2 < 0)) ∧ (¬ (d 34 11 ≤ x2))) from c2)
      exact mx_out rfl h
  · replace h := h.2 (show ¬ ((¬ (x1 < 0)) ∧ (¬ (d 34 11 ≤ x1))) from c1)
    exact mx_out rfl h
def pX11_isConsistent_1 (x1 : Int) (g : mG) (d : mD) (Q : mQ) : Prop := MW mX11_isConsistent 0 0 2 [(0, vR 0), (1, vI x1)] [] g d Q
theorem eX11_isConsistent {g : mG} {d : mD} {Q : mQ} (h : pX11_isConsistent_1 0 g d Q) : MM mX11_isConsistent [vR 0] g d Q := by
  refine MM_of (by decide) rfl (by simp [catV]) (Nat.le_of_ble_eq_true rfl) ?_
  show MW mX11_isConsistent 0 0 0 [(0, vR 0)] [] g d Q
  refine mw_top (fun hT => ?_)
  have hG : 65 ≤ g.2.1 := hT.2
  refine mw_iconst (pc' := 1) dX11_isConsistent_0 rfl ⟨by decide, by decide⟩ ?_
  refine mw_istore_n (pc' := 2) (L' := [(0, vR 0), (1, vI 0)]) dX11_isConsistent_1 rfl rfl (by decide) rfl ?_
  exact h
theorem aX11_isConsistent_1 {x1 : Int} {g : mG} {d : mD} {Q : mQ} (h : ((d 16 11 ≤ x1) → MM mX11_conductAgrees [vR 0] g d (fun o g4 d5 => match o with | .inl v3 => ((v3 = 0) → Q (.inl 0) g4 d5) ∧ ((¬ (v3 = 0)) → MM mX11_courtDaysAgree [vR 0] g4 d5 (fun o g9 d10 => match o with | .inl v8 => Q (.inl (bI (¬ (v8 = 0)))) g9 d10 | .inr k => Q (.inr k) g9 d10)) | .inr k => Q (.inr k) g4 d5)) ∧ ((¬ (d 16 11 ≤ x1)) → MM mX11_deadlineAgrees [vR 0, vI x1] g d (fun o g15 d16 => match o with | .inl v14 => ((v14 = 0) → Q (.inl 0) g15 d16) ∧ ((¬ (v14 = 0)) → (iI (x1 + 1)) ∧ (pX11_isConsistent_1 (x1 + 1) g15 d16 Q)) | .inr k => Q (.inr k) g15 d16))) : pX11_isConsistent_1 x1 g d Q := by
  unfold pX11_isConsistent_1
  refine mw_top (fun hT => ?_)
  have hG : 65 ≤ g.2.1 := hT.2
  refine mw_iload_n (pc' := 3) dX11_isConsistent_2 rfl rfl rfl ?_
  refine mw_aload_n (v := vR 0) (pc' := 4) dX11_isConsistent_3 rfl rfl (Or.inl rfl) rfl ?_
  refine mw_getP (v := 6) (pc' := 7) dX11_isConsistent_4 rfl fr_RX11_26_0 rfl sp_0_3 ⟨by decide, by decide⟩ ?_
  refine mw_getP (v := 16) (pc' := 10) dX11_isConsistent_7 rfl fr_RX11_252_6 rfl sp_6_3 ⟨by decide, by decide⟩ ?_
  refine mw_getI (ji := 11) (pc' := 13) dX11_isConsistent_10 rfl fi_RX11_256_16 rfl ⟨by decide, by decide⟩ ?_
  refine mw_icmp_ge (tgt := 32) (pc' := 16) dX11_isConsistent_13 rfl (by decide) (fun c1 => ?_) (fun c1 => ?_)
  · replace h := h.1 c1
    refine mw_aload_n (v := vR 0) (pc' := 33) dX11_isConsistent_32 rfl rfl (Or.inl rfl) rfl ?_
    refine mw_callV (M' := mX11_conductAgrees) (A := []) (A' := [vR 0]) (S := []) (a := 0) (pc' := 36) dX11_isConsistent_33 rfl cl_RX11_456 cm_X11_conductAgrees cv_X11_conductAgrees ⟨by decide, by decide, by decide, by decide, by decide⟩ rfl rfl rfl ⟨by decide, by omega⟩ (by decide +kernel) (by decide +kernel) (Nat.le_of_ble_eq_true rfl) (MM.mono ?_ h)
    intro o g4 d5 h2
    rcases o with v3 | k
    · refine mw_top (fun hT => ?_)
      have hG : 65 ≤ g4.2.1 := hT.2
      show MW mX11_isConsistent 0 0 36 [(0, vR 0), (1, vI x1)] [vI v3] g4 d5 Q
      refine mw_if_eq (tgt := 50) (pc' := 39) dX11_isConsistent_36 rfl (by decide) (fun c6 => ?_) (fun c6 => ?_)
      · replace h2 := h2.1 c6
        refine mw_iconst (pc' := 51) dX11_isConsistent_50 rfl ⟨by decide, by decide⟩ ?_
        exact mw_iret (pc' := 0) (S := []) dX11_isConsistent_51 rfl (Or.inr (Or.inl ⟨rfl, by decide, by decide⟩)) h2
      · replace h2 := h2.2 c6
        refine mw_aload_n (v := vR 0) (pc' := 40) dX11_isConsistent_39 rfl rfl (Or.inl rfl) rfl ?_
        refine mw_callV (M' := mX11_courtDaysAgree) (A := []) (A' := [vR 0]) (S := []) (a := 0) (pc' := 43) dX11_isConsistent_40 rfl cl_RX11_460 cm_X11_courtDaysAgree cv_X11_courtDaysAgree ⟨by decide, by decide, by decide, by decide, by decide⟩ rfl rfl rfl ⟨by decide, by omega⟩ (by decide +kernel) (by decide +kernel) (Nat.le_of_ble_eq_true rfl) (MM.mono ?_ h2)
        intro o g9 d10 h7
        rcases o with v8 | k
        · refine mw_top (fun hT => ?_)
          have hG : 65 ≤ g9.2.1 := hT.2
          show MW mX11_isConsistent 0 0 43 [(0, vR 0), (1, vI x1)] [vI v8] g9 d10 Q
          suffices k11 : MW mX11_isConsistent 0 0 51 [(0, vR 0), (1, vI x1)] [vI (bI (¬ (v8 = 0)))] g9 d10 Q by
            refine mw_if_eq (tgt := 50) (pc' := 46) dX11_isConsistent_43 rfl (by decide) (fun c12 => ?_) (fun c12 => ?_)
            · refine mw_iconst (pc' := 51) dX11_isConsistent_50 rfl ⟨by decide, by decide⟩ ?_
              exact mw_st (bI_f (fun h => (h c12))).symm k11
            · refine mw_iconst (pc' := 47) dX11_isConsistent_46 rfl ⟨by decide, by decide⟩ ?_
              refine mw_goto (pc' := 0) (tgt := 51) dX11_isConsistent_47 (by decide) ?_
              exact mw_st (bI_t c12).symm k11
          exact mw_iret (pc' := 0) (S := []) dX11_isConsistent_51 rfl (Or.inr (Or.inl ⟨rfl, bI_rng⟩)) h7
        · exact mx_out rfl h7
    · exact mx_out rfl h2
  · replace h := h.2 c1
    refine mw_aload_n (v := vR 0) (pc' := 17) dX11_isConsistent_16 rfl rfl (Or.inl rfl) rfl ?_
    refine mw_iload_n (pc' := 18) dX11_isConsistent_17 rfl rfl rfl ?_
    refine mw_callV (M' := mX11_deadlineAgrees) (A := [vI x1]) (A' := [vR 0, vI x1]) (S := []) (a := 0) (pc' := 21) dX11_isConsistent_18 rfl cl_RX11_453 cm_X11_deadlineAgrees cv_X11_deadlineAgrees ⟨by decide, by decide, by decide, by decide, by decide⟩ rfl rfl rfl ⟨by decide, by omega⟩ (by decide +kernel) (by decide +kernel) (Nat.le_of_ble_eq_true rfl) (MM.mono ?_ h)
    intro o g15 d16 h13
    rcases o with v14 | k
    · refine mw_top (fun hT => ?_)
      have hG : 65 ≤ g15.2.1 := hT.2
      show MW mX11_isConsistent 0 0 21 [(0, vR 0), (1, vI x1)] [vI v14] g15 d16 Q
      refine mw_if_ne (tgt := 26) (pc' := 24) dX11_isConsistent_21 rfl (by decide) (fun c17 => ?_) (fun c17 => ?_)
      · replace h13 := h13.2 c17
        obtain ⟨o18, h13⟩ := h13
        refine mw_iinc (pc' := 29) (L' := [(0, vR 0), (1, vI (x1 + 1))]) dX11_isConsistent_26 rfl rfl (by decide) o18 rfl ?_
        refine mw_goto (pc' := 0) (tgt := 2) dX11_isConsistent_29 (by decide) ?_
        exact h13
      · replace h13 := h13.1 c17
        refine mw_iconst (pc' := 25) dX11_isConsistent_24 rfl ⟨by decide, by decide⟩ ?_
        exact mw_iret (pc' := 0) (S := []) dX11_isConsistent_25 rfl (Or.inr (Or.inl ⟨rfl, by decide, by decide⟩)) h13
    · exact mx_out rfl h13
theorem eX11_deadlineAgrees {R : rW} {x1 : Int} {g : mG} {d : mD} {Q : mQ} (h : (CI d R) ∧ ((0 ≤ x1 ∧ x1 < R 3) ∧ (∀ d3, FrW d d3 → ((CI d3 R) ∧ (∀ d7, FrM d3 d7 → (((dueF R x1 = dueF R x1) → (CI d7 R) ∧ (((d 10 0) = R 0) ∧ (∀ d13, FrW d7 d13 → ((CI d13 R) ∧ (∀ d18, FrM d13 d18 → (((ctF R x1 = ctF R x1) → (CI d18 R) ∧ (((0 : Int) ≤ 0 ∧ 0 ≤ (d 10 0)) ∧ (((d 10 0) ≤ 4999) ∧ (∀ d25, FrW d18 d25 → ((CI d25 R) ∧ (∀ d31, FrM d25 d31 → (Q (.inl (bI (cn (stopd R (R (139 + 16 * x1)) (R (140 + 16 * x1))) 0 (d 10 0) = cn (stopd R (R (139 + 16 * x1)) (R (140 + 16 * x1))) 0 (d 10 0)))) g d31))))))) ∧ ((¬ (ctF R x1 = ctF R x1)) → Q (.inl 0) g d18))))))) ∧ ((¬ (dueF R x1 = dueF R x1)) → Q (.inl 0) g d7))))))) : MM mX11_deadlineAgrees [vR 0, vI x1] g d Q := by
  refine MM_of (by decide) rfl (by simp [catV]) (Nat.le_of_ble_eq_true rfl) ?_
  show MW mX11_deadlineAgrees 0 0 0 [(0, vR 0), (1, vI x1)] [] g d Q
  refine mw_top (fun hT => ?_)
  have hG : 65 ≤ g.2.1 := hT.2
  refine mw_aload_n (v := vR 0) (pc' := 1) dX11_deadlineAgrees_0 rfl rfl (Or.inl rfl) rfl ?_
  refine mw_getP (v := 6) (pc' := 4) dX11_deadlineAgrees_1 rfl fr_RX11_26_0 rfl sp_0_3 ⟨by decide, by decide⟩ ?_
  refine mw_getP (v := 10) (pc' := 7) dX11_deadlineAgrees_4 rfl fr_RX11_36_6 rfl sp_6_1 ⟨by decide, by decide⟩ ?_
  refine mw_getI (ji := 0) (pc' := 10) dX11_deadlineAgrees_7 rfl fi_RX11_152_10 rfl ⟨by decide, by decide⟩ ?_
  refine mw_istore_n (pc' := 11) (L' := [(0, vR 0), (1, vI x1), (2, vI (d 10 0))]) dX11_deadlineAgrees_10 rfl rfl (by decide) rfl ?_
  refine mw_aload_n (v := vR 0) (pc' := 12) dX11_deadlineAgrees_11 rfl rfl (Or.inl rfl) rfl ?_
  refine mw_getP (v := 6) (pc' := 15) dX11_deadlineAgrees_12 rfl fr_RX11_26_0 rfl sp_0_3 ⟨by decide, by decide⟩ ?_
  refine mw_getP (v := 16) (pc' := 18) dX11_deadlineAgrees_15 rfl fr_RX11_252_6 rfl sp_6_3 ⟨by decide, by decide⟩ ?_
  refine mw_astore_n (v := vR 16) (pc' := 19) (L' := [(0, vR 0), (1, vI x1), (2, vI (d 10 0)), (3, vR 16)]) dX11_deadlineAgrees_18 rfl rfl (Or.inl rfl) (by decide) rfl ?_
  refine mw_aload_n (v := vR 0) (pc' := 20) dX11_deadlineAgrees_19 rfl rfl (Or.inl rfl) rfl ?_
  refine mw_getP (v := 53) (pc' := 23) dX11_deadlineAgrees_20 rfl fr_RX11_47_0 rfl sp_0_7 ⟨by decide, by decide⟩ ?_
  refine mw_aload_n (v := vR 16) (pc' := 24) dX11_deadlineAgrees_23 rfl rfl (Or.inl rfl) rfl ?_
  refine mw_iload_n (pc' := 25) dX11_deadlineAgrees_24 rfl rfl rfl ?_
  refine mw_callV (M' := mX10_endOf) (A := [vR 16, vI x1]) (A' := [vR 53, vR 16, vI x1]) (S := []) (a := 53) (pc' := 28) dX11_deadlineAgrees_25 rfl cl_RX11_262 cm_X10_endOf cv_X10_endOf ⟨by decide, by decide, by decide, by decide, by decide⟩ rfl rfl rfl ⟨by decide, by omega⟩ (by decide +kernel) (by decide +kernel) (Nat.le_of_ble_eq_true rfl) (f_endOfW (R := R) ?_)
  obtain ⟨o1, h⟩ := h
  refine ⟨o1, ?_⟩
  obtain ⟨o2, h⟩ := h
  refine ⟨o2, ?_⟩
  intro d3 q4
  replace h := h d3 q4
  show MW mX11_deadlineAgrees 0 0 28 [(0, vR 0), (1, vI x1), (2, vI (d 10 0)), (3, vR 16)] [vI (dueF R x1)] g d3 Q
  refine mw_aload_n (v := vR 0) (pc' := 29) dX11_deadlineAgrees_28 rfl rfl (Or.inl rfl) rfl ?_
  refine mw_getP (v := 56) (pc' := 32) dX11_deadlineAgrees_29 rfl fr_RX11_54_0 rfl sp_0_8 ⟨by decide, by decide⟩ ?_
  refine mw_aload_n (v := vR 16) (pc' := 33) dX11_deadlineAgrees_32 rfl rfl (Or.inl rfl) rfl ?_
  refine mw_iload_n (pc' := 34) dX11_deadlineAgrees_33 rfl rfl rfl ?_
  refine mw_callV (M' := mX4_endOf) (A := [vR 16, vI x1]) (A' := [vR 56, vR 16, vI x1]) (S := [vI (dueF R x1)]) (a := 56) (pc' := 37) dX11_deadlineAgrees_34 rfl cl_RX11_269 cm_X4_endOf cv_X4_endOf ⟨by decide, by decide, by decide, by decide, by decide⟩ rfl rfl rfl ⟨by decide, by omega⟩ (by decide +kernel) (by decide +kernel) (Nat.le_of_ble_eq_true rfl) (f_endOfM (R := R) ?_)
  obtain ⟨o5, h⟩ := h
  refine ⟨o5, ?_⟩
  refine ⟨o2, ?_⟩
  intro d7 q8
  replace h := h d7 q8
  show MW mX11_deadlineAgrees 0 0 37 [(0, vR 0), (1, vI x1), (2, vI (d 10 0)), (3, vR 16)] [vI (dueF R x1), vI (dueF R x1)] g d7 Q
  refine mw_icmp_ne (tgt := 92) (pc' := 40) dX11_deadlineAgrees_37 rfl (by decide) (fun c9 => ?_) (fun c9 => ?_)
  · replace h := h.2 c9
    refine mw_iconst (pc' := 93) dX11_deadlineAgrees_92 rfl ⟨by decide, by decide⟩ ?_
    exact mw_iret (pc' := 0) (S := []) dX11_deadlineAgrees_93 rfl (Or.inr (Or.inl ⟨rfl, by decide, by decide⟩)) h
  · replace h := h.1 c9
    refine mw_aload_n (v := vR 0) (pc' := 41) dX11_deadlineAgrees_40 rfl rfl (Or.inl rfl) rfl ?_
    refine mw_getP (v := 53) (pc' := 44) dX11_deadlineAgrees_41 rfl fr_RX11_47_0 rfl sp_0_7 ⟨by decide, by decide⟩ ?_
    refine mw_aload_n (v := vR 16) (pc' := 45) dX11_deadlineAgrees_44 rfl rfl (Or.inl rfl) rfl ?_
    refine mw_iload_n (pc' := 46) dX11_deadlineAgrees_45 rfl rfl rfl ?_
    refine mw_iload_n (pc' := 47) dX11_deadlineAgrees_46 rfl rfl rfl ?_
    refine mw_callV (M' := mX10_countedUntil) (A := [vR 16, vI x1, vI (d 10 0)]) (A' := [vR 53, vR 16, vI x1, vI (d 10 0)]) (S := []) (a := 53) (pc' := 50) dX11_deadlineAgrees_47 rfl cl_RX11_273 cm_X10_countedUntil cv_X10_countedUntil ⟨by decide, by decide, by decide, by decide, by decide⟩ rfl rfl rfl ⟨by decide, by omega⟩ (by decide +kernel) (by decide +kernel) (Nat.le_of_ble_eq_true rfl) (f_countedUntilW (R := R) ?_)
    obtain ⟨o10, h⟩ := h
    refine ⟨o10, ?_⟩
    refine ⟨o2, ?_⟩
    obtain ⟨o12, h⟩ := h
    refine ⟨o12, ?_⟩
    intro d13 q14
    replace h := h d13 q14
    show MW mX11_deadlineAgrees 0 0 50 [(0, vR 0), (1, vI x1), (2, vI (d 10 0)), (3, vR 16)] [vI (ctF R x1)] g d13 Q
    refine mw_aload_n (v := vR 0) (pc' := 51) dX11_deadlineAgrees_50 rfl rfl (Or.inl rfl) rfl ?_
    refine mw_getP (v := 56) (pc' := 54) dX11_deadlineAgrees_51 rfl fr_RX11_54_0 rfl sp_0_8 ⟨by decide, by decide⟩ ?_
    refine mw_aload_n (v := vR 16) (pc' := 55) dX11_deadlineAgrees_54 rfl rfl (Or.inl rfl) rfl ?_
    refine mw_iload_n (pc' := 56) dX11_deadlineAgrees_55 rfl rfl rfl ?_
    refine mw_iload_n (pc' := 57) dX11_deadlineAgrees_56 rfl rfl rfl ?_
    refine mw_callV (M' := mX4_countedUntil) (A := [vR 16, vI x1, vI (d 10 0)]) (A' := [vR 56, vR 16, vI x1, vI (d 10 0)]) (S := [vI (ctF R x1)]) (a := 56) (pc' := 60) dX11_deadlineAgrees_57 rfl cl_RX11_277 cm_X4_countedUntil cv_X4_countedUntil ⟨by decide, by decide, by decide, by decide, by decide⟩ rfl rfl rfl ⟨by decide, by omega⟩ (by decide +kernel) (by decide +kernel) (Nat.le_of_ble_eq_true rfl) (f_countedUntilM (R := R) ?_)
    obtain ⟨o15, h⟩ := h
    refine ⟨o15, ?_⟩
    refine ⟨o2, ?_⟩
    refine ⟨o12, ?_⟩
    intro d18 q19
    replace h := h d18 q19
    show MW mX11_deadlineAgrees 0 0 60 [(0, vR 0), (1, vI x1), (2, vI (d 10 0)), (3, vR 16)] [vI (ctF R x1), vI (ctF R x1)] g d18 Q
    refine mw_icmp_ne (tgt := 92) (pc' := 63) dX11_deadlineAgrees_60 rfl (by decide) (fun c20 => ?_) (fun c20 => ?_)
    · replace h := h.2 c20
      refine mw_iconst (pc' := 93) dX11_deadlineAgrees_92 rfl ⟨by decide, by decide⟩ ?_
      exact mw_iret (pc' := 0) (S := []) dX11_deadlineAgrees_93 rfl (Or.inr (Or.inl ⟨rfl, by decide, by decide⟩)) h
    · replace h := h.1 c20
      refine mw_aload_n (v := vR 0) (pc' := 64) dX11_deadlineAgrees_63 rfl rfl (Or.inl rfl) rfl ?_
      refine mw_getP (v := 53) (pc' := 67) dX11_deadlineAgrees_64 rfl fr_RX11_47_0 rfl sp_0_7 ⟨by decide, by decide⟩ ?_
      refine mw_aload_n (v := vR 16) (pc' := 68) dX11_deadlineAgrees_67 rfl rfl (Or.inl rfl) rfl ?_
      refine mw_iload_n (pc' := 69) dX11_deadlineAgrees_68 rfl rfl rfl ?_
      refine mw_iconst (pc' := 70) dX11_deadlineAgrees_69 rfl ⟨by decide, by decide⟩ ?_
      refine mw_iload_n (pc' := 71) dX11_deadlineAgrees_70 rfl rfl rfl ?_
      refine mw_callV (M' := mX10_countStopped) (A := [vR 16, vI x1, vI 0, vI (d 10 0)]) (A' := [vR 53, vR 16, vI x1, vI 0, vI (d 10 0)]) (S := []) (a := 53) (pc' := 74) dX11_deadlineAgrees_71 rfl cl_RX11_356 cm_X10_countStopped cv_X10_countStopped ⟨by decide, by decide, by decide, by decide, by decide⟩ rfl rfl rfl ⟨by decide, by omega⟩ (by decide +kernel) (by decide +kernel) (Nat.le_of_ble_eq_true rfl) (f_countStoppedW (R := R) ?_)
      obtain ⟨o21, h⟩ := h
      refine ⟨o21, ?_⟩
      refine ⟨o2, ?_⟩
      obtain ⟨o23, h⟩ := h
      refine ⟨o23, ?_⟩
      obtain ⟨o24, h⟩ := h
      refine ⟨o24, ?_⟩
      intro d25 q26
      replace h := h d25 q26
      show MW mX11_deadlineAgrees 0 0 74 [(0, vR 0), (1, vI x1), (2, vI (d 10 0)), (3, vR 16)] [vI (cn (stopd R (R (139 + 16 * x1)) (R (140 + 16 * x1))) 0 (d 10 0))] g d25 Q
      refine mw_aload_n (v := vR 0) (pc' := 75) dX11_deadlineAgrees_74 rfl rfl (Or.inl rfl) rfl ?_
      refine mw_getP (v := 56) (pc' := 78) dX11_deadlineAgrees_75 rfl fr_RX11_54_0 rfl sp_0_8 ⟨by decide, by decide⟩ ?_
      refine mw_aload_n (v := vR 16) (pc' := 79) dX11_deadlineAgrees_78 rfl rfl (Or.inl rfl) rfl ?_
      refine mw_iload_n (pc' := 80) dX11_deadlineAgrees_79 rfl rfl rfl ?_
      refine mw_iconst (pc' := 81) dX11_deadlineAgrees_80 rfl ⟨by decide, by decide⟩ ?_
      refine mw_iload_n (pc' := 82) dX11_deadlineAgrees_81 rfl rfl rfl ?_
      refine mw_callV (M' := mX4_countStopped) (A := [vR 16, vI x1, vI 0, vI (d 10 0)]) (A' := [vR 56, vR 16, vI x1, vI 0, vI (d 10 0)]) (S := [vI (cn (stopd R (R (139 + 16 * x1)) (R (140 + 16 * x1))) 0 (d 10 0))]) (a := 56) (pc' := 85) dX11_deadlineAgrees_82 rfl cl_RX11_360 cm_X4_countStopped cv_X4_countStopped ⟨by decide, by decide, by decide, by decide, by decide⟩ rfl rfl rfl ⟨by decide, by omega⟩ (by decide +kernel) (by decide +kernel) (Nat.le_of_ble_eq_true rfl) (f_countStoppedM (R := R) ?_)
      obtain ⟨o27, h⟩ := h
      refine ⟨o27, ?_⟩
      refine ⟨o2, ?_⟩
      refine ⟨o23, ?_⟩
      refine ⟨o24, ?_⟩
      intro d31 q32
      replace h := h d31 q32
      show MW mX11_deadlineAgrees 0 0 85 [(0, vR 0), (1, vI x1), (2, vI (d 10 0)), (3, vR 16)] [vI (cn (stopd R (R (139 + 16 * x1)) (R (140 + 16 * x1))) 0 (d 10 0)), vI (cn (stopd R (R (139 + 16 * x1)) (R (140 + 16 * x1))) 0 (d 10 0))] g d31 Q
      suffices k33 : MW mX11_deadlineAgrees 0 0 93 [(0, vR 0), (1, vI x1), (2, vI (d 10 0)), (3, vR 16)] [vI (bI (cn (stopd R (R (139 + 16 * x1)) (R (140 + 16 * x1))) 0 (d 10 0) = cn (stopd R (R (139 + 16 * x1)) (R (140 + 16 * x1))) 0 (d 10 0)))] g d31 Q by
        refine mw_icmp_ne (tgt := 92) (pc' := 88) dX11_deadlineAgrees_85 rfl (by decide) (fun c34 => ?_) (fun c34 => ?_)
        · refine mw_iconst (pc' := 93) dX11_deadlineAgrees_92 rfl ⟨by decide, by decide⟩ ?_
          exact mw_st (bI_f (fun h => (c34 h))).symm k33
        · refine mw_iconst (pc' := 89) dX11_deadlineAgrees_88 rfl ⟨by decide, by decide⟩ ?_
          refine mw_goto (pc' := 0) (tgt := 93) dX11_deadlineAgrees_89 (by decide) ?_
          exact mw_st (bI_t c34).symm k33
      exact mw_iret (pc' := 0) (S := []) dX11_deadlineAgrees_93 rfl (Or.inr (Or.inl ⟨rfl, bI_rng⟩)) h
def pX11_conductAgrees_1 (x1 : Int) (g : mG) (d : mD) (Q : mQ) : Prop := MW mX11_conductAgrees 0 0 2 [(0, vR 0), (1, vI x1)] [] g d Q
def pX11_conductAgrees_2 (x1 x2 : Int) (g : mG) (d : mD) (Q : mQ) : Prop := MW mX11_conductAgrees 0 0 21 [(0, vR 0), (1, vI x1), (2, vI x2)] [] g d Q
theorem eX11_conductAgrees {g : mG} {d : mD} {Q : mQ} (h : pX11_conductAgrees_1 0 g d Q) : MM mX11_conductAgrees [vR 0] g d Q := by
  refine MM_of (by decide) rfl (by simp [catV]) (Nat.le_of_ble_eq_true rfl) ?_
  show MW mX11_conductAgrees 0 0 0 [(0, vR 0)] [] g d Q
  refine mw_top (fun hT => ?_)
  have hG : 65 ≤ g.2.1 := hT.2
  refine mw_iconst (pc' := 1) dX11_conductAgrees_0 rfl ⟨by decide, by decide⟩ ?_
  refine mw_istore_n (pc' := 2) (L' := [(0, vR 0), (1, vI 0)]) dX11_conductAgrees_1 rfl rfl (by decide) rfl ?_
  exact h
theorem aX11_conductAgrees_1 {x1 : Int} {g : mG} {d : mD} {Q : mQ} (h : ((d 34 11 ≤ x1) → Q (.inl 1) g d) ∧ ((¬ (d 34 11 ≤ x1)) → pX11_conductAgrees_2 x1 0 g d Q)) : pX11_conductAgrees_1 x1 g d Q := by
  unfold pX11_conductAgrees_1
  refine mw_top (fun hT => ?_)
  have hG : 65 ≤ g.2.1 := hT.2
  refine mw_iload_n (pc' := 3) dX11_conductAgrees_2 rfl rfl rfl ?_
  refine mw_aload_n (v := vR 0) (pc' := 4) dX11_conductAgrees_3 rfl rfl (Or.inl rfl) rfl ?_
  refine mw_getP (v := 6) (pc' := 7) dX11_conductAgrees_4 rfl fr_RX11_26_0 rfl sp_0_3 ⟨by decide, by decide⟩ ?_
  refine mw_getP (v := 33) (pc' := 10) dX11_conductAgrees_7 rfl fr_RX11_384_6 rfl sp_6_5 ⟨by decide, by decide⟩ ?_
  refine mw_getP (v := 34) (pc' := 13) dX11_conductAgrees_10 rfl fr_RX11_397_33 rfl sp_33_0 ⟨by decide, by decide⟩ ?_
  refine mw_getI (ji := 11) (pc' := 16) dX11_conductAgrees_13 rfl fi_RX11_256_34 rfl ⟨by decide, by decide⟩ ?_
  refine mw_icmp_ge (tgt := 79) (pc' := 19) dX11_conductAgrees_16 rfl (by decide) (fun c1 => ?_) (fun c1 => ?_)
  · replace h := h.1 c1
    refine mw_iconst (pc' := 80) dX11_conductAgrees_79 rfl ⟨by decide, by decide⟩ ?_
    exact mw_iret (pc' := 0) (S := []) dX11_conductAgrees_80 rfl (Or.inr (Or.inl ⟨rfl, by decide, by decide⟩)) h
  · replace h := h.2 c1
    refine mw_iconst (pc' := 20) dX11_conductAgrees_19 rfl ⟨by decide, by decide⟩ ?_
    refine mw_istore_n (pc' := 21) (L' := [(0, vR 0), (1, vI x1), (2, vI 0)]) dX11_conductAgrees_20 rfl rfl (by decide) rfl ?_
    exact h
theorem aX11_conductAgrees_2 {R : rW} {x1 x2 : Int} {g : mG} {d : mD} {Q : mQ} (h : ((d 34 11 ≤ x2) → (iI (x1 + 1)) ∧ (pX11_conductAgrees_1 (x1 + 1) g d Q)) ∧ ((¬ (d 34 11 ≤ x2)) → (0 ≤ x1 ∧ x1 < 8) ∧ ((0 ≤ x2 ∧ x2 < 8) ∧ ((CI d R) ∧ ((0 ≤ x1 ∧ x1 < R 5) ∧ ((0 ≤ x2 ∧ x2 < R 5) ∧ (((bI (d 47 x1 = d 47 x2) = bI (conn R x1 x2)) → (iI (x2 + 1)) ∧ (pX11_conductAgrees_2 x1 (x2 + 1) g d Q)) ∧ ((¬ (bI (d 47 x1 = d 47 x2) = bI (conn R x1 x2))) → Q (.inl 0) g d)))))))) : pX11_conductAgrees_2 x1 x2 g d Q := by
  unfold pX11_conductAgrees_2
  refine mw_top (fun hT => ?_)
  have hG : 65 ≤ g.2.1 := hT.2
  refine mw_iload_n (pc' := 22) dX11_conductAgrees_21 rfl rfl rfl ?_
  refine mw_aload_n (v := vR 0) (pc' := 23) dX11_conductAgrees_22 rfl rfl (Or.inl rfl) rfl ?_
  refine mw_getP (v := 6) (pc' := 26) dX11_conductAgrees_23 rfl fr_RX11_26_0 rfl sp_0_3 ⟨by decide, by decide⟩ ?_
  refine mw_getP (v := 33) (pc' := 29) dX11_conductAgrees_26 rfl fr_RX11_384_6 rfl sp_6_5 ⟨by decide, by decide⟩ ?_
  refine mw_getP (v := 34) (pc' := 32) dX11_conductAgrees_29 rfl fr_RX11_397_33 rfl sp_33_0 ⟨by decide, by decide⟩ ?_
  refine mw_getI (ji := 11) (pc' := 35) dX11_conductAgrees_32 rfl fi_RX11_256_34 rfl ⟨by decide, by decide⟩ ?_
  refine mw_icmp_ge (tgt := 73) (pc' := 38) dX11_conductAgrees_35 rfl (by decide) (fun c12 => ?_) (fun c12 => ?_)
  · replace h := h.1 c12
    obtain ⟨o13, h⟩ := h
    refine mw_iinc (pc' := 76) (L' := [(0, vR 0), (1, vI (x1 + 1)), (2, vI x2)]) dX11_conductAgrees_73 rfl rfl (by decide) o13 rfl ?_
    refine mw_goto (pc' := 0) (tgt := 2) dX11_conductAgrees_76 (by decide) ?_
    exact mw_loc (pc' := 0) [0, 1] rfl h
  · replace h := h.2 c12
    refine mw_aload_n (v := vR 0) (pc' := 39) dX11_conductAgrees_38 rfl rfl (Or.inl rfl) rfl ?_
    refine mw_getP (v := 6) (pc' := 42) dX11_conductAgrees_39 rfl fr_RX11_26_0 rfl sp_0_3 ⟨by decide, by decide⟩ ?_
    refine mw_getP (v := 33) (pc' := 45) dX11_conductAgrees_42 rfl fr_RX11_384_6 rfl sp_6_5 ⟨by decide, by decide⟩ ?_
    refine mw_iload_n (pc' := 46) dX11_conductAgrees_45 rfl rfl rfl ?_
    refine mw_iload_n (pc' := 47) dX11_conductAgrees_46 rfl rfl rfl ?_
    obtain ⟨o14, h⟩ := h
    obtain ⟨o15, h⟩ := h
    refine mw_callV (M' := mX1_inSameGroup) (A := [vI x1, vI x2]) (A' := [vR 33, vI x1, vI x2]) (S := []) (a := 33) (pc' := 50) dX11_conductAgrees_47 rfl cl_RX11_388 cm_X1_inSameGroup cv_X1_inSameGroup ⟨by decide, by decide, by decide, by decide, by decide⟩ rfl rfl rfl ⟨by decide, by omega⟩ (by decide +kernel) (by decide +kernel) (Nat.le_of_ble_eq_true rfl) (eX1_inSameGroup (⟨o14, o15, ?_⟩))
    show MW mX11_conductAgrees 0 0 50 [(0, vR 0), (1, vI x1), (2, vI x2)] [vI (bI (d 47 x1 = d 47 x2))] g d Q
    refine mw_aload_n (v := vR 0) (pc' := 51) dX11_conductAgrees_50 rfl rfl (Or.inl rfl) rfl ?_
    refine mw_getP (v := 6) (pc' := 54) dX11_conductAgrees_51 rfl fr_RX11_26_0 rfl sp_0_3 ⟨by decide, by decide⟩ ?_
    refine mw_getP (v := 33) (pc' := 57) dX11_conductAgrees_54 rfl fr_RX11_384_6 rfl sp_6_5 ⟨by decide, by decide⟩ ?_
    refine mw_iload_n (pc' := 58) dX11_conductAgrees_57 rfl rfl rfl ?_
    refine mw_iload_n (pc' := 59) dX11_conductAgrees_58 rfl rfl rfl ?_
    obtain ⟨o16, h⟩ := h
    obtain ⟨o17, h⟩ := h
    obtain ⟨o18, h⟩ := h
    refine mw_callV (M' := mX1_isReached) (A := [vI x1, vI x2]) (A' := [vR 33, vI x1, vI x2]) (S := [vI (bI (d 47 x1 = d 47 x2))]) (a := 33) (pc' := 62) dX11_conductAgrees_59 rfl cl_RX11_394 cm_X1_isReached cv_X1_isReached ⟨by decide, by decide, by decide, by decide, by decide⟩ rfl rfl rfl ⟨by decide, by omega⟩ (by decide +kernel) (by decide +kernel) (Nat.le_of_ble_eq_true rfl) (f_isReached (⟨o16, o17, o18, ?_⟩))
    show MW mX11_conductAgrees 0 0 62 [(0, vR 0), (1, vI x1), (2, vI x2)] [vI (bI (conn R x1 x2)), vI (bI (d 47 x1 = d 47 x2))] g d Q
    refine mw_icmp_eq (tgt := 67) (pc' := 65) dX11_conductAgrees_62 rfl (by decide) (fun c19 => ?_) (fun c19 => ?_)
    · replace h := h.1 c19
      obtain ⟨o20, h⟩ := h
      refine mw_iinc (pc' := 70) (L' := [(0, vR 0), (1, vI x1), (2, vI (x2 + 1))]) dX11_conductAgrees_67 rfl rfl (by decide) o20 rfl ?_
      refine mw_goto (pc' := 0) (tgt := 21) dX11_conductAgrees_70 (by decide) ?_
      exact h
    · replace h := h.2 c19
      refine mw_iconst (pc' := 66) dX11_conductAgrees_65 rfl ⟨by decide, by decide⟩ ?_
      exact mw_iret (pc' := 0) (S := []) dX11_conductAgrees_66 rfl (Or.inr (Or.inl ⟨rfl, by decide, by decide⟩)) h
theorem eX11_courtDaysAgree {R : rW} {g : mG} {d : mD} {Q : mQ} (h : (CI d R) ∧ (((0 : Int) ≤ 0 ∧ (0 : Int) ≤ 5001) ∧ ((-1 ≤ (d 10 0) ∧ (d 10 0) ≤ 4999) ∧ (((0 : Int) ≤ 0 ∧ 0 ≤ (d 10 0)) ∧ (((d 10 0) ≤ 4999) ∧ (∀ d7, FrM d d7 → (Q (.inl (bI (cn (court R) 0 (d 10 0) = cn (court R) 0 (d 10 0)))) g d7))))))) : MM mX11_courtDaysAgree [vR 0] g d Q := by
  refine MM_of (by decide) rfl (by simp [catV]) (Nat.le_of_ble_eq_true rfl) ?_
  show MW mX11_courtDaysAgree 0 0 0 [(0, vR 0)] [] g d Q
  refine mw_top (fun hT => ?_)
  have hG : 65 ≤ g.2.1 := hT.2
  refine mw_aload_n (v := vR 0) (pc' := 1) dX11_courtDaysAgree_0 rfl rfl (Or.inl rfl) rfl ?_
  refine mw_getP (v := 6) (pc' := 4) dX11_courtDaysAgree_1 rfl fr_RX11_26_0 rfl sp_0_3 ⟨by decide, by decide⟩ ?_
  refine mw_getP (v := 10) (pc' := 7) dX11_courtDaysAgree_4 rfl fr_RX11_36_6 rfl sp_6_1 ⟨by decide, by decide⟩ ?_
  refine mw_getI (ji := 0) (pc' := 10) dX11_courtDaysAgree_7 rfl fi_RX11_152_10 rfl ⟨by decide, by decide⟩ ?_
  refine mw_istore_n (pc' := 11) (L' := [(0, vR 0), (1, vI (d 10 0))]) dX11_courtDaysAgree_10 rfl rfl (by decide) rfl ?_
  refine mw_aload_n (v := vR 0) (pc' := 12) dX11_courtDaysAgree_11 rfl rfl (Or.inl rfl) rfl ?_
  refine mw_getP (v := 6) (pc' := 15) dX11_courtDaysAgree_12 rfl fr_RX11_26_0 rfl sp_0_3 ⟨by decide, by decide⟩ ?_
  refine mw_getP (v := 10) (pc' := 18) dX11_courtDaysAgree_15 rfl fr_RX11_36_6 rfl sp_6_1 ⟨by decide, by decide⟩ ?_
  refine mw_iconst (pc' := 19) dX11_courtDaysAgree_18 rfl ⟨by decide, by decide⟩ ?_
  refine mw_iload_n (pc' := 20) dX11_courtDaysAgree_19 rfl rfl rfl ?_
  obtain ⟨o1, h⟩ := h
  obtain ⟨o2, h⟩ := h
  obtain ⟨o3, h⟩ := h
  refine mw_callV (M' := mX0_countCourt) (A := [vI 0, vI (d 10 0)]) (A' := [vR 10, vI 0, vI (d 10 0)]) (S := []) (a := 10) (pc' := 23) dX11_courtDaysAgree_20 rfl cl_RX11_176 cm_X0_countCourt cv_X0_countCourt ⟨by decide, by decide, by decide, by decide, by decide⟩ rfl rfl rfl ⟨by decide, by omega⟩ (by decide +kernel) (by decide +kernel) (Nat.le_of_ble_eq_true rfl) (f_countCourt (⟨o1, o2, o3, ?_⟩))
  show MW mX11_courtDaysAgree 0 0 23 [(0, vR 0), (1, vI (d 10 0))] [vI (cn (court R) 0 (d 10 0))] g d Q
  refine mw_aload_n (v := vR 0) (pc' := 24) dX11_courtDaysAgree_23 rfl rfl (Or.inl rfl) rfl ?_
  refine mw_getP (v := 56) (pc' := 27) dX11_courtDaysAgree_24 rfl fr_RX11_54_0 rfl sp_0_8 ⟨by decide, by decide⟩ ?_
  refine mw_iconst (pc' := 28) dX11_courtDaysAgree_27 rfl ⟨by decide, by decide⟩ ?_
  refine mw_iload_n (pc' := 29) dX11_courtDaysAgree_28 rfl rfl rfl ?_
  refine mw_callV (M' := mX4_countCourt) (A := [vI 0, vI (d 10 0)]) (A' := [vR 56, vI 0, vI (d 10 0)]) (S := [vI (cn (court R) 0 (d 10 0))]) (a := 56) (pc' := 32) dX11_courtDaysAgree_29 rfl cl_RX11_180 cm_X4_countCourt cv_X4_countCourt ⟨by decide, by decide, by decide, by decide, by decide⟩ rfl rfl rfl ⟨by decide, by omega⟩ (by decide +kernel) (by decide +kernel) (Nat.le_of_ble_eq_true rfl) (f_countCourtM (R := R) ?_)
  refine ⟨o1, ?_⟩
  obtain ⟨o5, h⟩ := h
  refine ⟨o5, ?_⟩
  obtain ⟨o6, h⟩ := h
  refine ⟨o6, ?_⟩
  intro d7 q8
  replace h := h d7 q8
  show MW mX11_courtDaysAgree 0 0 32 [(0, vR 0), (1, vI (d 10 0))] [vI (cn (court R) 0 (d 10 0)), vI (cn (court R) 0 (d 10 0))] g d7 Q
  suffices k9 : MW mX11_courtDaysAgree 0 0 40 [(0, vR 0), (1, vI (d 10 0))] [vI (bI (cn (court R) 0 (d 10 0) = cn (court R) 0 (d 10 0)))] g d7 Q by
    refine mw_icmp_ne (tgt := 39) (pc' := 35) dX11_courtDaysAgree_32 rfl (by decide) (fun c10 => ?_) (fun c10 => ?_)
    · refine mw_iconst (pc' := 40) dX11_courtDaysAgree_39 rfl ⟨by decide, by decide⟩ ?_
      exact mw_st (bI_f (fun h => (c10 h))).symm k9
    · refine mw_iconst (pc' := 36) dX11_courtDaysAgree_35 rfl ⟨by decide, by decide⟩ ?_
      refine mw_goto (pc' := 0) (tgt := 40) dX11_courtDaysAgree_36 (by decide) ?_
      exact mw_st (bI_t c10).symm k9
  exact mw_iret (pc' := 0) (S := []) dX11_courtDaysAgree_40 rfl (Or.inr (Or.inl ⟨rfl, bI_rng⟩)) h
theorem eX11_type {x1 : Int} {g : mG} {d : mD} {Q : mQ} (h : ((d 1 1 < 60) → (0 ≤ d 1 1 ∧ d 1 (1 : Int) < 60) ∧ ((0 ≤ x1 ∧ x1 ≤ 65535) ∧ (Q (.inl ((d 1 1) + 1)) g (ud (ud d 2 (d 1 1) x1) 1 1 ((d 1 1) + 1))))) ∧ ((¬ (d 1 1 < 60)) → Q (.inr 1) g d)) : MM mX11_type [vR 0, vI x1] g d Q := by
  refine MM_of (by decide) rfl (by simp [catV]) (Nat.le_of_ble_eq_true rfl) ?_
  show MW mX11_type 1 6 0 [(0, vR 0), (1, vI x1)] [] g d Q
  refine mw_top (fun hT => ?_)
  have hG : 65 ≤ g.2.1 := hT.2
  refine mw_aload_n (v := vR 0) (pc' := 1) dX11_type_0 rfl rfl (Or.inl rfl) rfl ?_
  refine mw_getP (v := 1) (pc' := 4) dX11_type_1 rfl fr_RX11_12_0 rfl sp_0_0 ⟨by decide, by decide⟩ ?_
  refine mw_getI (ji := 1) (pc' := 7) dX11_type_4 rfl fi_RX11_75_1 rfl ⟨by decide, by decide⟩ ?_
  refine mw_bipush (pc' := 9) dX11_type_7 rfl ⟨by decide, by decide⟩ ?_
  refine mw_icmp_lt (tgt := 22) (pc' := 12) dX11_type_9 rfl (by decide) (fun c5 => ?_) (fun c5 => ?_)
  · replace h := h.1 c5
    refine mw_aload_n (v := vR 0) (pc' := 23) dX11_type_22 rfl rfl (Or.inl rfl) rfl ?_
    refine mw_getP (v := 1) (pc' := 26) dX11_type_23 rfl fr_RX11_12_0 rfl sp_0_0 ⟨by decide, by decide⟩ ?_
    refine mw_iload_n (pc' := 27) dX11_type_26 rfl rfl rfl ?_
    obtain ⟨o6, h⟩ := h
    obtain ⟨o7, h⟩ := h
    refine mw_callV (M' := mX9_append) (A := [vI x1]) (A' := [vR 1, vI x1]) (S := []) (a := 1) (pc' := 30) dX11_type_27 rfl cl_RX11_85 cm_X9_append cv_X9_append ⟨by decide, by decide, by decide, by decide, by decide⟩ rfl rfl rfl ⟨by decide, by omega⟩ (by decide +kernel) (by decide +kernel) (Nat.le_of_ble_eq_true rfl) (f_append_b (⟨o6, o7, ?_⟩))
    show MW mX11_type 1 6 30 [(0, vR 0), (1, vI x1)] [] g (ud (ud d 2 (d 1 1) x1) 1 1 ((d 1 1) + 1)) Q
    refine mw_aload_n (v := vR 0) (pc' := 31) dX11_type_30 rfl rfl (Or.inl rfl) rfl ?_
    refine mw_getP (v := 1) (pc' := 34) dX11_type_31 rfl fr_RX11_12_0 rfl sp_0_0 ⟨by decide, by decide⟩ ?_
    refine mw_getI (ji := 1) (pc' := 37) dX11_type_34 rfl fi_RX11_75_1 rfl ⟨by decide, by decide⟩ ?_
    refine mw_st (b := (d 1 1) + 1) (udS) ?_
    exact mw_iret (pc' := 0) (S := []) dX11_type_37 rfl (Or.inl rfl) h
  · replace h := h.2 c5
    exact mw_throw (pc' := 0) (k := 1) (i := 7) dX11_type_12 dX11_type_15 dX11_type_16 dX11_type_18 dX11_type_21 (by decide +kernel) (by decide +kernel) tk_RX11_78_82 ti_RX11_78_82 rfl ta_RX11_78_82 tg_RX11_78_82 rfl (by decide) (by decide) (by decide) (by decide) (by decide) h
theorem eX11_tryAdvance {x1 : Int} {g : mG} {d : mD} {Q : mQ} (h : (((x1 < 1) ∨ (¬ (x1 ≤ 400))) → Q (.inl (-2)) g d) ∧ ((¬ ((x1 < 1) ∨ (¬ (x1 ≤ 400)))) → (iI ((d 10 0) + x1)) ∧ ((((d 10 0) + x1 ≤ 1500) → Q (.inl ((d 10 0) + x1)) g (ud d 10 0 ((d 10 0) + x1))) ∧ ((¬ ((d 10 0) + x1 ≤ 1500)) → Q (.inl (-3)) g d)))) : MM mX11_tryAdvance [vR 0, vI x1] g d Q := by
  refine MM_of (by decide) rfl (by simp [catV]) (Nat.le_of_ble_eq_true rfl) ?_
  show MW mX11_tryAdvance 0 0 0 [(0, vR 0), (1, vI x1)] [] g d Q
  refine mw_top (fun hT => ?_)
  have hG : 65 ≤ g.2.1 := hT.2
  refine mw_iload_n (pc' := 1) dX11_tryAdvance_0 rfl rfl rfl ?_
  refine mw_iconst (pc' := 2) dX11_tryAdvance_1 rfl ⟨by decide, by decide⟩ ?_
  suffices k4 : (((x1 < 1) ∨ (¬ (x1 ≤ 400))) → MW mX11_tryAdvance 0 0 12 [(0, vR 0), (1, vI x1)] [] g d Q) ∧ ((¬ ((x1 < 1) ∨ (¬ (x1 ≤ 400)))) → MW mX11_tryAdvance 0 0 15 [(0, vR 0), (1, vI x1)] [] g d Q) by
    refine mw_icmp_lt (tgt := 12) (pc' := 5) dX11_tryAdvance_2 rfl (by decide) (fun c5 => ?_) (fun c5 => ?_)
    · exact k4.1 (Or.inl c5)
    · refine mw_iload_n (pc' := 6) dX11_tryAdvance_5 rfl rfl rfl ?_
      refine mw_sipush (pc' := 9) dX11_tryAdvance_6 rfl ⟨by decide, by decide⟩ ?_
      refine mw_icmp_le (tgt := 15) (pc' := 12) dX11_tryAdvance_9 rfl (by decide) (fun c6 => ?_) (fun c6 => ?_)
      · exact k4.2 (fun h => h.elim (fun q => (c5 q)) (fun h => (h c6)))
      · exact k4.1 (Or.inr c6)
  refine ⟨fun c7 => ?_, fun c7 => ?_⟩
  · replace h := h.1 c7
    refine mw_bipush (pc' := 14) dX11_tryAdvance_12 rfl ⟨by decide, by decide⟩ ?_
    exact mw_iret (pc' := 0) (S := []) dX11_tryAdvance_14 rfl (Or.inl rfl) h
  · replace h := h.2 c7
    refine mw_aload_n (v := vR 0) (pc' := 16) dX11_tryAdvance_15 rfl rfl (Or.inl rfl) rfl ?_
    refine mw_getP (v := 6) (pc' := 19) dX11_tryAdvance_16 rfl fr_RX11_26_0 rfl sp_0_3 ⟨by decide, by decide⟩ ?_
    refine mw_getP (v := 10) (pc' := 22) dX11_tryAdvance_19 rfl fr_RX11_36_6 rfl sp_6_1 ⟨by decide, by decide⟩ ?_
    refine mw_getI (ji := 0) (pc' := 25) dX11_tryAdvance_22 rfl fi_RX11_152_10 rfl ⟨by decide, by decide⟩ ?_
    refine mw_iload_n (pc' := 26) dX11_tryAdvance_25 rfl rfl rfl ?_
    obtain ⟨o8, h⟩ := h
    refine mw_iadd (pc' := 27) dX11_tryAdvance_26 rfl o8 ?_
    refine mw_sipush (pc' := 30) dX11_tryAdvance_27 rfl ⟨by decide, by decide⟩ ?_
    refine mw_icmp_le (tgt := 36) (pc' := 33) dX11_tryAdvance_30 rfl (by decide) (fun c11 => ?_) (fun c11 => ?_)
    · replace h := h.1 c11
      refine mw_aload_n (v := vR 0) (pc' := 37) dX11_tryAdvance_36 rfl rfl (Or.inl rfl) rfl ?_
      refine mw_getP (v := 6) (pc' := 40) dX11_tryAdvance_37 rfl fr_RX11_26_0 rfl sp_0_3 ⟨by decide, by decide⟩ ?_
      refine mw_getP (v := 10) (pc' := 43) dX11_tryAdvance_40 rfl fr_RX11_36_6 rfl sp_6_1 ⟨by decide, by decide⟩ ?_
      refine mw_dup (pc' := 44) dX11_tryAdvance_43 rfl rfl ?_
      refine mw_getI (ji := 0) (pc' := 47) dX11_tryAdvance_44 rfl fi_RX11_152_10 rfl ⟨by decide, by decide⟩ ?_
      refine mw_iload_n (pc' := 48) dX11_tryAdvance_47 rfl rfl rfl ?_
      refine mw_iadd (pc' := 49) dX11_tryAdvance_48 rfl o8 ?_
      refine mw_putI (ji := 0) (pc' := 52) dX11_tryAdvance_49 rfl (fq_RX11_152_10) (by decide +kernel) rfl (Or.inl ⟨rfl, rc_10_0⟩) (Or.inr rfl) ⟨by decide, by omega⟩ ?_
      refine mw_aload_n (v := vR 0) (pc' := 53) dX11_tryAdvance_52 rfl rfl (Or.inl rfl) rfl ?_
      refine mw_getP (v := 6) (pc' := 56) dX11_tryAdvance_53 rfl fr_RX11_26_0 rfl sp_0_3 ⟨by decide, by decide⟩ ?_
      refine mw_getP (v := 10) (pc' := 59) dX11_tryAdvance_56 rfl fr_RX11_36_6 rfl sp_6_1 ⟨by decide, by decide⟩ ?_
      refine mw_getI (ji := 0) (pc' := 62) dX11_tryAdvance_59 rfl fi_RX11_152_10 rfl ⟨by decide, by decide⟩ ?_
      refine mw_st (b := (d 10 0) + x1) (udS) ?_
      exact mw_iret (pc' := 0) (S := []) dX11_tryAdvance_62 rfl (Or.inl rfl) h
    · replace h := h.2 c11
      refine mw_bipush (pc' := 35) dX11_tryAdvance_33 rfl ⟨by decide, by decide⟩ ?_
      exact mw_iret (pc' := 0) (S := []) dX11_tryAdvance_35 rfl (Or.inl rfl) h
theorem eX11_tryAddHoliday {R : rW} {x1 : Int} {g : mG} {d : mD} {Q : mQ} (h : (((¬ (x1 < 0)) ∧ (¬ (4999 < x1))) → (CI d R) ∧ ((((¬ (hAt R x1 = (-1))) ∨ (¬ (d 10 2 < 40))) → Q (.inl (-3)) g d) ∧ ((¬ ((¬ (hAt R x1 = (-1))) ∨ (¬ (d 10 2 < 40)))) → ((40 ≤ d 10 2) → Q (.inl (d 10 2)) g d) ∧ ((¬ (40 ≤ d 10 2)) → (0 ≤ d 10 2 ∧ d 10 (2 : Int) < 40) ∧ ((iI ((d 10 2) + 1)) ∧ (Q (.inl ((d 10 2) + 1)) g (ud (ud d 11 (d 10 2) x1) 10 2 ((d 10 2) + 1)))))))) ∧ ((¬ ((¬ (x1 < 0)) ∧ (¬ (4999 < x1)))) → Q (.inl (-2)) g d)) : MM mX11_tryAddHoliday [vR 0, vI x1] g d Q := by
  refine MM_of (by decide) rfl (by simp [catV]) (Nat.le_of_ble_eq_true rfl) ?_
  show MW mX11_tryAddHoliday 0 0 0 [(0, vR 0), (1, vI x1)] [] g d Q
  refine mw_top (fun hT => ?_)
  have hG : 65 ≤ g.2.1 := hT.2
  refine mw_iload_n (pc' := 1) dX11_tryAddHoliday_0 rfl rfl rfl ?_
  refine mw_callS (M' := mX11_isDay) (A := [vI x1]) (S := []) (pc' := 4) dX11_tryAddHoliday_1 rfl cl_RX11_181 cm_X11_isDay cs_X11_isDay ⟨by decide, by decide, by decide, by decide, by decide⟩ rfl rfl (Nat.le_of_ble_eq_true rfl) (eX11_isDay ?_)
  show MW mX11_tryAddHoliday 0 0 4 [(0, vR 0), (1, vI x1)] [vI (bI ((¬ (x1 < 0)) ∧ (¬ (4999 < x1))))] g d Q
  refine mw_if_ne (tgt := 10) (pc' := 7) dX11_tryAddHoliday_4 rfl (by decide) (fun c2 => ?_) (fun c2 => ?_)
  · replace c2 := bI_n0.mp c2
    replace h := h.1 c2
    refine mw_aload_n (v := vR 0) (pc' := 11) dX11_tryAddHoliday_10 rfl rfl (Or.inl rfl) rfl ?_
    refine mw_getP (v := 6) (pc' := 14) dX11_tryAddHoliday_11 rfl fr_RX11_26_0 rfl sp_0_3 ⟨by decide, by decide⟩ ?_
    refine mw_getP (v := 10) (pc' := 17) dX11_tryAddHoliday_14 rfl fr_RX11_36_6 rfl sp_6_1 ⟨by decide, by decide⟩ ?_
    refine mw_iload_n (pc' := 18) dX11_tryAddHoliday_17 rfl rfl rfl ?_
    obtain ⟨o3, h⟩ := h
    refine mw_callV (M' := mX0_isHoliday) (A := [vI x1]) (A' := [vR 10, vI x1]) (S := []) (a := 10) (pc' := 21) dX11_tryAddHoliday_18 rfl cl_RX11_184 cm_X0_isHoliday cv_X0_isHoliday ⟨by decide, by decide, by decide, by decide, by decide⟩ rfl rfl rfl ⟨by decide, by omega⟩ (by decide +kernel) (by decide +kernel) (Nat.le_of_ble_eq_true rfl) (eX0_isHoliday (⟨o3, ?_⟩))
    show MW mX11_tryAddHoliday 0 0 21 [(0, vR 0), (1, vI x1)] [vI (bI (¬ (hAt R x1 = (-1))))] g d Q
    suffices k4 : (((¬ (hAt R x1 = (-1))) ∨ (¬ (d 10 2 < 40))) → MW mX11_tryAddHoliday 0 0 39 [(0, vR 0), (1, vI x1)] [] g d Q) ∧ ((¬ ((¬ (hAt R x1 = (-1))) ∨ (¬ (d 10 2 < 40)))) → MW mX11_tryAddHoliday 0 0 42 [(0, vR 0), (1, vI x1)] [] g d Q) by
      refine mw_if_ne (tgt := 39) (pc' := 24) dX11_tryAddHoliday_21 rfl (by decide) (fun c5 => ?_) (fun c5 => ?_)
      · replace c5 := bI_n0.mp c5
        exact k4.1 (Or.inl c5)
      · replace c5 := bI_0.mp c5
        replace c5 := (Classical.not_not.mp c5)
        refine mw_aload_n (v := vR 0) (pc' := 25) dX11_tryAddHoliday_24 rfl rfl (Or.inl rfl) rfl ?_
        refine mw_getP (v := 6) (pc' := 28) dX11_tryAddHoliday_25 rfl fr_RX11_26_0 rfl sp_0_3 ⟨by decide, by decide⟩ ?_
        refine mw_getP (v := 10) (pc' := 31) dX11_tryAddHoliday_28 rfl fr_RX11_36_6 rfl sp_6_1 ⟨by decide, by decide⟩ ?_
        refine mw_getI (ji := 2) (pc' := 34) dX11_tryAddHoliday_31 rfl fi_RX11_187_10 rfl ⟨by decide, by decide⟩ ?_
        refine mw_bipush (pc' := 36) dX11_tryAddHoliday_34 rfl ⟨by decide, by decide⟩ ?_
        refine mw_icmp_lt (tgt := 42) (pc' := 39) dX11_tryAddHoliday_36 rfl (by decide) (fun c6 => ?_) (fun c6 => ?_)
        · exact k4.2 (fun h => h.elim (fun q => (q c5)) (fun h => (h c6)))
        · exact k4.1 (Or.inr c6)
    refine ⟨fun c7 => ?_, fun c7 => ?_⟩
    · replace h := h.1 c7
      refine mw_bipush (pc' := 41) dX11_tryAddHoliday_39 rfl ⟨by decide, by decide⟩ ?_
      exact mw_iret (pc' := 0) (S := []) dX11_tryAddHoliday_41 rfl (Or.inl rfl) h
    · replace h := h.2 c7
      refine mw_aload_n (v := vR 0) (pc' := 43) dX11_tryAddHoliday_42 rfl rfl (Or.inl rfl) rfl ?_
      refine mw_getP (v := 6) (pc' := 46) dX11_tryAddHoliday_43 rfl fr_RX11_26_0 rfl sp_0_3 ⟨by decide, by decide⟩ ?_
      refine mw_getP (v := 10) (pc' := 49) dX11_tryAddHoliday_46 rfl fr_RX11_36_6 rfl sp_6_1 ⟨by decide, by decide⟩ ?_
      refine mw_iload_n (pc' := 50) dX11_tryAddHoliday_49 rfl rfl rfl ?_
      refine mw_callV (M' := mX0_insertHoliday) (A := [vI x1]) (A' := [vR 10, vI x1]) (S := []) (a := 10) (pc' := 53) dX11_tryAddHoliday_50 rfl cl_RX11_190 cm_X0_insertHoliday cv_X0_insertHoliday ⟨by decide, by decide, by decide, by decide, by decide⟩ rfl rfl rfl ⟨by decide, by omega⟩ (by decide +kernel) (by decide +kernel) (Nat.le_of_ble_eq_true rfl) (eX0_insertHoliday ?_)
      refine ⟨fun c8 => ?_, fun c8 => ?_⟩
      · replace h := h.1 (show 40 ≤ d 10 2 from c8)
        show MW mX11_tryAddHoliday 0 0 53 [(0, vR 0), (1, vI x1)] [] g d Q
        refine mw_aload_n (v := vR 0) (pc' := 54) dX11_tryAddHoliday_53 rfl rfl (Or.inl rfl) rfl ?_
        refine mw_getP (v := 6) (pc' := 57) dX11_tryAddHoliday_54 rfl fr_RX11_26_0 rfl sp_0_3 ⟨by decide, by decide⟩ ?_
        refine mw_getP (v := 10) (pc' := 60) dX11_tryAddHoliday_57 rfl fr_RX11_36_6 rfl sp_6_1 ⟨by decide, by decide⟩ ?_
        refine mw_getI (ji := 2) (pc' := 63) dX11_tryAddHoliday_60 rfl fi_RX11_187_10 rfl ⟨by decide, by decide⟩ ?_
        exact mw_iret (pc' := 0) (S := []) dX11_tryAddHoliday_63 rfl (Or.inl rfl) h
      · replace h := h.2 (show ¬ (40 ≤ d 10 2) from c8)
        obtain ⟨o9, h⟩ := h
        refine ⟨o9, ?_⟩
        obtain ⟨o10, h⟩ := h
        refine ⟨o10, ?_⟩
        show MW mX11_tryAddHoliday 0 0 53 [(0, vR 0), (1, vI x1)] [] g (ud (ud d 11 (d 10 2) x1) 10 2 ((d 10 2) + 1)) Q
        refine mw_aload_n (v := vR 0) (pc' := 54) dX11_tryAddHoliday_53 rfl rfl (Or.inl rfl) rfl ?_
        refine mw_getP (v := 6) (pc' := 57) dX11_tryAddHoliday_54 rfl fr_RX11_26_0 rfl sp_0_3 ⟨by decide, by decide⟩ ?_
        refine mw_getP (v := 10) (pc' := 60) dX11_tryAddHoliday_57 rfl fr_RX11_36_6 rfl sp_6_1 ⟨by decide, by decide⟩ ?_
        refine mw_getI (ji := 2) (pc' := 63) dX11_tryAddHoliday_60 rfl fi_RX11_187_10 rfl ⟨by decide, by decide⟩ ?_
        refine mw_st (b := (d 10 2) + 1) (udS) ?_
        exact mw_iret (pc' := 0) (S := []) dX11_tryAddHoliday_63 rfl (Or.inl rfl) h
  · replace c2 := bI_0.mp c2
    replace h := h.2 c2
    refine mw_bipush (pc' := 9) dX11_tryAddHoliday_7 rfl ⟨by decide, by decide⟩ ?_
    exact mw_iret (pc' := 0) (S := []) dX11_tryAddHoliday_9 rfl (Or.inl rfl) h
theorem eX11_trySetRule {x1 x2 x3 : Int} {g : mG} {d : mD} {Q : mQ} (h : (((¬ (x1 < 0)) ∧ (¬ (8 ≤ x1))) → (((x2 < 1) ∨ (¬ (x2 ≤ 200))) → Q (.inl (-2)) g d) ∧ ((¬ ((x2 < 1) ∨ (¬ (x2 ≤ 200)))) → (0 ≤ x1 ∧ x1 < 8) ∧ ((0 ≤ x3 ∧ x3 ≤ 1) ∧ (Q (.inl (d 13 x1)) g (ud (ud d 13 x1 x2) 14 x1 x3))))) ∧ ((¬ ((¬ (x1 < 0)) ∧ (¬ (8 ≤ x1)))) → Q (.inl (-1)) g d)) : MM mX11_trySetRule [vR 0, vI x1, vI x2, vI x3] g d Q := by
  refine MM_of (by decide) rfl (by simp [catV]) (Nat.le_of_ble_eq_true rfl) ?_
  show MW mX11_trySetRule 0 0 0 [(0, vR 0), (1, vI x1), (2, vI x2), (3, vI x3)] [] g d Q
  refine mw_top (fun hT => ?_)
  have hG : 65 ≤ g.2.1 := hT.2
  refine mw_iload_n (pc' := 1) dX11_trySetRule_0 rfl rfl rfl ?_
  refine mw_callS (M' := mX11_isRule) (A := [vI x1]) (S := []) (pc' := 4) dX11_trySetRule_1 rfl cl_RX11_241 cm_X11_isRule cs_X11_isRule ⟨by decide, by decide, by decide, by decide, by decide⟩ rfl rfl (Nat.le_of_ble_eq_true rfl) (eX11_isRule ?_)
  show MW mX11_trySetRule 0 0 4 [(0, vR 0), (1, vI x1), (2, vI x2), (3, vI x3)] [vI (bI ((¬ (x1 < 0)) ∧ (¬ (8 ≤ x1))))] g d Q
  refine mw_if_ne (tgt := 9) (pc' := 7) dX11_trySetRule_4 rfl (by decide) (fun c3 => ?_) (fun c3 => ?_)
  · replace c3 := bI_n0.mp c3
    replace h := h.1 c3
    refine mw_iload_n (pc' := 10) dX11_trySetRule_9 rfl rfl rfl ?_
    refine mw_iconst (pc' := 11) dX11_trySetRule_10 rfl ⟨by decide, by decide⟩ ?_
    suffices k6 : (((x2 < 1) ∨ (¬ (x2 ≤ 200))) → MW mX11_trySetRule 0 0 21 [(0, vR 0), (1, vI x1), (2, vI x2), (3, vI x3)] [] g d Q) ∧ ((¬ ((x2 < 1) ∨ (¬ (x2 ≤ 200)))) → MW mX11_trySetRule 0 0 24 [(0, vR 0), (1, vI x1), (2, vI x2), (3, vI x3)] [] g d Q) by
      refine mw_icmp_lt (tgt := 21) (pc' := 14) dX11_trySetRule_11 rfl (by decide) (fun c7 => ?_) (fun c7 => ?_)
      · exact k6.1 (Or.inl c7)
      · refine mw_iload_n (pc' := 15) dX11_trySetRule_14 rfl rfl rfl ?_
        refine mw_sipush (pc' := 18) dX11_trySetRule_15 rfl ⟨by decide, by decide⟩ ?_
        refine mw_icmp_le (tgt := 24) (pc' := 21) dX11_trySetRule_18 rfl (by decide) (fun c8 => ?_) (fun c8 => ?_)
        · exact k6.2 (fun h => h.elim (fun q => (c7 q)) (fun h => (h c8)))
        · exact k6.1 (Or.inr c8)
    refine ⟨fun c9 => ?_, fun c9 => ?_⟩
    · replace h := h.1 c9
      refine mw_bipush (pc' := 23) dX11_trySetRule_21 rfl ⟨by decide, by decide⟩ ?_
      exact mw_iret (pc' := 0) (S := []) dX11_trySetRule_23 rfl (Or.inl rfl) h
    · replace h := h.2 c9
      refine mw_aload_n (v := vR 0) (pc' := 25) dX11_trySetRule_24 rfl rfl (Or.inl rfl) rfl ?_
      refine mw_getP (v := 6) (pc' := 28) dX11_trySetRule_25 rfl fr_RX11_26_0 rfl sp_0_3 ⟨by decide, by decide⟩ ?_
      refine mw_getP (v := 12) (pc' := 31) dX11_trySetRule_28 rfl fr_RX11_210_6 rfl sp_6_2 ⟨by decide, by decide⟩ ?_
      refine mw_getP (v := 13) (pc' := 34) dX11_trySetRule_31 rfl fr_RX11_214_12 rfl sp_12_0 ⟨by decide, by decide⟩ ?_
      refine mw_iload_n (pc' := 35) dX11_trySetRule_34 rfl rfl rfl ?_
      obtain ⟨o10, h⟩ := h
      refine mw_iald (pc' := 36) dX11_trySetRule_35 rfl lk_13 ⟨by decide, by decide⟩ (by rw [ln_13]; exact o10) ?_
      refine mw_istore (pc' := 38) (L' := [(0, vR 0), (1, vI x1), (2, vI x2), (3, vI x3), (4, vI (d 13 x1))]) dX11_trySetRule_36 rfl (by decide) rfl ?_
      refine mw_aload_n (v := vR 0) (pc' := 39) dX11_trySetRule_38 rfl rfl (Or.inl rfl) rfl ?_
      refine mw_getP (v := 6) (pc' := 42) dX11_trySetRule_39 rfl fr_RX11_26_0 rfl sp_0_3 ⟨by decide, by decide⟩ ?_
      refine mw_getP (v := 12) (pc' := 45) dX11_trySetRule_42 rfl fr_RX11_210_6 rfl sp_6_2 ⟨by decide, by decide⟩ ?_
      refine mw_getP (v := 13) (pc' := 48) dX11_trySetRule_45 rfl fr_RX11_214_12 rfl sp_12_0 ⟨by decide, by decide⟩ ?_
      refine mw_iload_n (pc' := 49) dX11_trySetRule_48 rfl rfl rfl ?_
      refine mw_iload_n (pc' := 50) dX11_trySetRule_49 rfl rfl rfl ?_
      refine mw_iast (pc' := 51) dX11_trySetRule_50 rfl lk_13 ⟨by decide, by decide⟩ (by rw [ln_13]; exact o10) ?_
      refine mw_aload_n (v := vR 0) (pc' := 52) dX11_trySetRule_51 rfl rfl (Or.inl rfl) rfl ?_
      refine mw_getP (v := 6) (pc' := 55) dX11_trySetRule_52 rfl fr_RX11_26_0 rfl sp_0_3 ⟨by decide, by decide⟩ ?_
      refine mw_getP (v := 12) (pc' := 58) dX11_trySetRule_55 rfl fr_RX11_210_6 rfl sp_6_2 ⟨by decide, by decide⟩ ?_
      refine mw_getP (v := 14) (pc' := 61) dX11_trySetRule_58 rfl fr_RX11_217_12 rfl sp_12_1 ⟨by decide, by decide⟩ ?_
      refine mw_iload_n (pc' := 62) dX11_trySetRule_61 rfl rfl rfl ?_
      refine mw_iload_n (pc' := 63) dX11_trySetRule_62 rfl rfl rfl ?_
      obtain ⟨o13, h⟩ := h
      refine mw_zast (pc' := 64) dX11_trySetRule_63 rfl lk_14 ⟨by decide, by decide⟩ (by rw [ln_14]; exact o10) o13 ?_
      refine mw_iload (pc' := 66) dX11_trySetRule_64 rfl rfl ?_
      exact mw_iret (pc' := 0) (S := []) dX11_trySetRule_66 rfl (Or.inl rfl) h
  · replace c3 := bI_0.mp c3
    replace h := h.2 c3
    refine mw_iconst (pc' := 8) dX11_trySetRule_7 rfl ⟨by decide, by decide⟩ ?_
    exact mw_iret (pc' := 0) (S := []) dX11_trySetRule_8 rfl (Or.inl rfl) h
theorem eX11_trySetServiceDays {x1 x2 : Int} {g : mG} {d : mD} {Q : mQ} (h : MM mX7_placeOfWay [vI x1] g d (fun o g3 d4 => match o with | .inl v2 => (((v2 = (-1)) ∨ ((x2 < 0) ∨ (¬ (x2 ≤ 30)))) → Q (.inl (-2)) g3 d4) ∧ ((¬ ((v2 = (-1)) ∨ ((x2 < 0) ∨ (¬ (x2 ≤ 30))))) → (0 ≤ v2 ∧ v2 < 4) ∧ (Q (.inl (d4 15 v2)) g3 (ud d4 15 v2 x2))) | .inr k => Q (.inr k) g3 d4)) : MM mX11_trySetServiceDays [vR 0, vI x1, vI x2] g d Q := by
  refine MM_of (by decide) rfl (by simp [catV]) (Nat.le_of_ble_eq_true rfl) ?_
  show MW mX11_trySetServiceDays 0 0 0 [(0, vR 0), (1, vI x1), (2, vI x2)] [] g d Q
  refine mw_top (fun hT => ?_)
  have hG : 65 ≤ g.2.1 := hT.2
  refine mw_iload_n (pc' := 1) dX11_trySetServiceDays_0 rfl rfl rfl ?_
  refine mw_callS (M' := mX7_placeOfWay) (A := [vI x1]) (S := []) (pc' := 4) dX11_trySetServiceDays_1 rfl cl_RX11_225 cm_X7_placeOfWay cs_X7_placeOfWay ⟨by decide, by decide, by decide, by decide, by decide⟩ rfl rfl (Nat.le_of_ble_eq_true rfl) (MM.mono ?_ h)
  intro o g3 d4 h1
  rcases o with v2 | k
  · refine mw_top (fun hT => ?_)
    have hG : 65 ≤ g3.2.1 := hT.2
    show MW mX11_trySetServiceDays 0 0 4 [(0, vR 0), (1, vI x1), (2, vI x2)] [vI v2] g3 d4 Q
    refine mw_istore_n (pc' := 5) (L' := [(0, vR 0), (1, vI x1), (2, vI x2), (3, vI v2)]) dX11_trySetServiceDays_4 rfl rfl (by decide) rfl ?_
    refine mw_iload_n (pc' := 6) dX11_trySetServiceDays_5 rfl rfl rfl ?_
    refine mw_iconst (pc' := 7) dX11_trySetServiceDays_6 rfl ⟨by decide, by decide⟩ ?_
    suffices k7 : (((v2 = (-1)) ∨ ((x2 < 0) ∨ (¬ (x2 ≤ 30)))) → MW mX11_trySetServiceDays 0 0 20 [(0, vR 0), (1, vI x1), (2, vI x2), (3, vI v2)] [] g3 d4 Q) ∧ ((¬ ((v2 = (-1)) ∨ ((x2 < 0) ∨ (¬ (x2 ≤ 30))))) → MW mX11_trySetServiceDays 0 0 23 [(0, vR 0), (1, vI x1), (2, vI x2), (3, vI v2)] [] g3 d4 Q) by
      refine mw_icmp_eq (tgt := 20) (pc' := 10) dX11_trySetServiceDays_7 rfl (by decide) (fun c8 => ?_) (fun c8 => ?_)
      · exact k7.1 (Or.inl c8)
      · refine mw_iload_n (pc' := 11) dX11_trySetServiceDays_10 rfl rfl rfl ?_
        refine mw_if_lt (tgt := 20) (pc' := 14) dX11_trySetServiceDays_11 rfl (by decide) (fun c9 => ?_) (fun c9 => ?_)
        · exact k7.1 (Or.inr (Or.inl c9))
        · refine mw_iload_n (pc' := 15) dX11_trySetServiceDays_14 rfl rfl rfl ?_
          refine mw_bipush (pc' := 17) dX11_trySetServiceDays_15 rfl ⟨by decide, by decide⟩ ?_
          refine mw_icmp_le (tgt := 23) (pc' := 20) dX11_trySetServiceDays_17 rfl (by decide) (fun c10 => ?_) (fun c10 => ?_)
          · exact k7.2 (fun h => h.elim (fun q => (c8 q)) (fun h => h.elim (fun q => (c9 q)) (fun h => (h c10))))
          · exact k7.1 (Or.inr (Or.inr c10))
    refine ⟨fun c11 => ?_, fun c11 => ?_⟩
    · replace h1 := h1.1 c11
      refine mw_bipush (pc' := 22) dX11_trySetServiceDays_20 rfl ⟨by decide, by decide⟩ ?_
      exact mw_iret (pc' := 0) (S := []) dX11_trySetServiceDays_22 rfl (Or.inl rfl) h1
    · replace h1 := h1.2 c11
      refine mw_aload_n (v := vR 0) (pc' := 24) dX11_trySetServiceDays_23 rfl rfl (Or.inl rfl) rfl ?_
      refine mw_getP (v := 6) (pc' := 27) dX11_trySetServiceDays_24 rfl fr_RX11_26_0 rfl sp_0_3 ⟨by decide, by decide⟩ ?_
      refine mw_getP (v := 12) (pc' := 30) dX11_trySetServiceDays_27 rfl fr_RX11_210_6 rfl sp_6_2 ⟨by decide, by decide⟩ ?_
      refine mw_getP (v := 15) (pc' := 33) dX11_trySetServiceDays_30 rfl fr_RX11_231_12 rfl sp_12_2 ⟨by decide, by decide⟩ ?_
      refine mw_iload_n (pc' := 34) dX11_trySetServiceDays_33 rfl rfl rfl ?_
      obtain ⟨o12, h1⟩ := h1
      refine mw_iald (pc' := 35) dX11_trySetServiceDays_34 rfl lk_15 ⟨by decide, by decide⟩ (by rw [ln_15]; exact o12) ?_
      refine mw_istore (pc' := 37) (L' := [(0, vR 0), (1, vI x1), (2, vI x2), (3, vI v2), (4, vI (d4 15 v2))]) dX11_trySetServiceDays_35 rfl (by decide) rfl ?_
      refine mw_aload_n (v := vR 0) (pc' := 38) dX11_trySetServiceDays_37 rfl rfl (Or.inl rfl) rfl ?_
      refine mw_getP (v := 6) (pc' := 41) dX11_trySetServiceDays_38 rfl fr_RX11_26_0 rfl sp_0_3 ⟨by decide, by decide⟩ ?_
      refine mw_getP (v := 12) (pc' := 44) dX11_trySetServiceDays_41 rfl fr_RX11_210_6 rfl sp_6_2 ⟨by decide, by decide⟩ ?_
      refine mw_getP (v := 15) (pc' := 47) dX11_trySetServiceDays_44 rfl fr_RX11_231_12 rfl sp_12_2 ⟨by decide, by decide⟩ ?_
      refine mw_iload_n (pc' := 48) dX11_trySetServiceDays_47 rfl rfl rfl ?_
      refine mw_iload_n (pc' := 49) dX11_trySetServiceDays_48 rfl rfl rfl ?_
      refine mw_iast (pc' := 50) dX11_trySetServiceDays_49 rfl lk_15 ⟨by decide, by decide⟩ (by rw [ln_15]; exact o12) ?_
      refine mw_iload (pc' := 52) dX11_trySetServiceDays_50 rfl rfl ?_
      exact mw_iret (pc' := 0) (S := []) dX11_trySetServiceDays_52 rfl (Or.inl rfl) h1
  · exact mx_out rfl h1
theorem eX11_tryServe {x1 x2 x3 : Int} {g : mG} {d : mD} {Q : mQ} (h : (((¬ ((¬ (x1 < 0)) ∧ (¬ (d 7 2 ≤ x1)))) ∨ (¬ ((¬ (x2 < 0)) ∧ (¬ (8 ≤ x2))))) → Q (.inl (-1)) g d) ∧ ((¬ ((¬ ((¬ (x1 < 0)) ∧ (¬ (d 7 2 ≤ x1)))) ∨ (¬ ((¬ (x2 < 0)) ∧ (¬ (8 ≤ x2)))))) → MM mX7_placeOfWay [vI x3] g d (fun o g7 d8 => match o with | .inl v6 => ((v6 = (-1)) → Q (.inl (-2)) g7 d8) ∧ ((¬ (v6 = (-1))) → ((d8 16 11 < 30) → ((d8 16 (11 : Int) < 30) → (0 ≤ d8 16 11 ∧ d8 16 (11 : Int) < 30) ∧ ((0 ≤ x2 ∧ x2 < 8) ∧ ((0 ≤ d8 14 x2 ∧ d8 14 x2 ≤ 1) ∧ ((iI ((d8 16 11) + 1)) ∧ ((0 ≤ (d8 16 11) ∧ (d8 16 11) < 30) ∧ ((0 ≤ ((ud (ud (ud (ud (ud d8 17 (d8 16 11) x1) 18 (d8 16 11) x2) 19 (d8 16 11) (d8 10 0)) 20 (d8 16 11) (d8 14 x2)) 21 (d8 16 11) 0) 21 (d8 16 11)) ∧ ((ud (ud (ud (ud (ud d8 17 (d8 16 11) x1) 18 (d8 16 11) x2) 19 (d8 16 11) (d8 10 0)) 20 (d8 16 11) (d8 14 x2)) 21 (d8 16 11) 0) 21 (d8 16 11)) < 7) ∧ ((0 ≤ v6 ∧ v6 < 4) ∧ (((d8 15 v6 ≤ 0) → Q (.inl (d8 16 11)) g7 (ud (ud (ud (ud (ud (ud (ud (ud (ud (ud (ud (ud (ud d8 17 (d8 16 11) x1) 18 (d8 16 11) x2) 19 (d8 16 11) (d8 10 0)) 20 (d8 16 11) (d8 14 x2)) 21 (d8 16 11) 0) 23 (d8 16 11) 0) 24 (d8 16 11) 0) 25 (d8 16 11) 0) 26 (d8 16 11) 0) 27 (d8 16 11) 111) 16 11 ((d8 16 11) + 1)) 22 ((d8 16 11) * 7 + ((ud (ud (ud (ud (ud d8 17 (d8 16 11) x1) 18 (d8 16 11) x2) 19 (d8 16 11) (d8 10 0)) 20 (d8 16 11) (d8 14 x2)) 21 (d8 16 11) 0) 21 (d8 16 11))) (d8 13 x2)) 21 (d8 16 11) ((((ud (ud (ud (ud (ud d8 17 (d8 16 11) x1) 18 (d8 16 11) x2) 19 (d8 16 11) (d8 10 0)) 20 (d8 16 11) (d8 14 x2)) 21 (d8 16 11) 0) 21 (d8 16 11))) + 1))) ∧ ((¬ (d8 15 v6 ≤ 0)) → (0 ≤ ((ud (ud (ud (ud (ud (ud (ud (ud (ud (ud (ud (ud (ud d8 17 (d8 16 11) x1) 18 (d8 16 11) x2) 19 (d8 16 11) (d8 10 0)) 20 (d8 16 11) (d8 14 x2)) 21 (d8 16 11) 0) 23 (d8 16 11) 0) 24 (d8 16 11) 0) 25 (d8 16 11) 0) 26 (d8 16 11) 0) 27 (d8 16 11) 111) 16 11 ((d8 16 11) + 1)) 22 ((d8 16 11) * 7 + ((ud (ud (ud (ud (ud d8 17 (d8 16 11) x1) 18 (d8 16 11) x2) 19 (d8 16 11) (d8 10 0)) 20 (d8 16 11) (d8 14 x2)) 21 (d8 16 11) 0) 21 (d8 16 11))) (d8 13 x2)) 21 (d8 16 11) ((((ud (ud (ud (ud (ud d8 17 (d8 16 11) x1) 18 (d8 16 11) x2) 19 (d8 16 11) (d8 10 0)) 20 (d8 16 11) (d8 14 x2)) 21 (d8 16 11) 0) 21 (d8 16 11))) + 1)) 21 (d8 16 11)) ∧ ((ud (ud (ud (ud (ud (ud (ud (ud (ud (ud (ud (ud (ud d8 17 (d8 16 11) x1) 18 (d8 16 11) x2) 19 (d8 16 11) (d8 10 0)) 20 (d8 16 11) (d8 14 x2)) 21 (d8 16 11) 0) 23 (d8 16 11) 0) 24 (d8 16 11) 0) 25 (d8 16 11) 0) 26 (d8 16 11) 0) 27 (d8 16 11) 111) 16 11 ((d8 16 11) + 1)) 22 ((d8 16 11) * 7 + ((ud (ud (ud (ud (ud d8 17 (d8 16 11) x1) 18 (d8 16 11) x2) 19 (d8 16 11) (d8 10 0)) 20 (d8 16 11) (d8 14 x2)) 21 (d8 16 11) 0) 21 (d8 16 11))) (d8 13 x2)) 21 (d8 16 11) ((((ud (ud (ud (ud (ud d8 17 (d8 16 11) x1) 18 (d8 16 11) x2) 19 (d8 16 11) (d8 10 0)) 20 (d8 16 11) (d8 14 x2)) 21 (d8 16 11) 0) 21 (d8 16 11))) + 1)) 21 (d8 16 11)) < 7) ∧ (Q (.inl (d8 16 11)) g7 (ud (ud (ud (ud (ud (ud (ud (ud (ud (ud (ud (ud (ud (ud (ud d8 17 (d8 16 11) x1) 18 (d8 16 11) x2) 19 (d8 16 11) (d8 10 0)) 20 (d8 16 11) (d8 14 x2)) 21 (d8 16 11) 0) 23 (d8 16 11) 0) 24 (d8 16 11) 0) 25 (d8 16 11) 0) 26 (d8 16 11) 0) 27 (d8 16 11) 111) 16 11 ((d8 16 11) + 1)) 22 ((d8 16 11) * 7 + ((ud (ud (ud (ud (ud d8 17 (d8 16 11) x1) 18 (d8 16 11) x2) 19 (d8 16 11) (d8 10 0)) 20 (d8 16 11) (d8 14 x2)) 21 (d8 16 11) 0) 21 (d8 16 11))) (d8 13 x2)) 21 (d8 16 11) ((((ud (ud (ud (ud (ud d8 17 (d8 16 11) x1) 18 (d8 16 11) x2) 19 (d8 16 11) (d8 10 0)) 20 (d8 16 11) (d8 14 x2)) 21 (d8 16 11) 0) 21 (d8 16 11))) + 1)) 22 ((d8 16 11) * 7 + ((ud (ud (ud (ud (ud (ud (ud (ud (ud (ud (ud (ud (ud d8 17 (d8 16 11) x1) 18 (d8 16 11) x2) 19 (d8 16 11) (d8 10 0)) 20 (d8 16 11) (d8 14 x2)) 21 (d8 16 11) 0) 23 (d8 16 11) 0) 24 (d8 16 11) 0) 25 (d8 16 11) 0) 26 (d8 16 11) 0) 27 (d8 16 11) 111) 16 11 ((d8 16 11) + 1)) 22 ((d8 16 11) * 7 + ((ud (ud (ud (ud (ud d8 17 (d8 16 11) x1) 18 (d8 16 11) x2) 19 (d8 16 11) (d8 10 0)) 20 (d8 16 11) (d8 14 x2)) 21 (d8 16 11) 0) 21 (d8 16 11))) (d8 13 x2)) 21 (d8 16 11) ((((ud (ud (ud (ud (ud d8 17 (d8 16 11) x1) 18 (d8 16 11) x2) 19 (d8 16 11) (d8 10 0)) 20 (d8 16 11) (d8 14 x2)) 21 (d8 16 11) 0) 21 (d8 16 11))) + 1)) 21 (d8 16 11))) (d8 15 v6)) 21 (d8 16 11) ((((ud (ud (ud (ud (ud (ud (ud (ud (ud (ud (ud (ud (ud d8 17 (d8 16 11) x1) 18 (d8 16 11) x2) 19 (d8 16 11) (d8 10 0)) 20 (d8 16 11) (d8 14 x2)) 21 (d8 16 11) 0) 23 (d8 16 11) 0) 24 (d8 16 11) 0) 25 (d8 16 11) 0) 26 (d8 16 11) 0) 27 (d8 16 11) 111) 16 11 ((d8 16 11) + 1)) 22 ((d8 16 11) * 7 + ((ud (ud (ud (ud (ud d8 17 (d8 16 11) x1) 18 (d8 16 11) x2) 19 (d8 16 11) (d8 10 0)) 20 (d8 16 11) (d8 14 x2)) 21 (d8 16 11) 0) 21 (d8 16 11))) (d8 13 x2)) 21 (d8 16 11) ((((ud (ud (ud (ud (ud d8 17 (d8 16 11) x1) 18 (d8 16 11) x2) 19 (d8 16 11) (d8 10 0)) 20 (d8 16 11) (d8 14 x2)) 21 (d8 16 11) 0) 21 (d8 16 11))) + 1)) 21 (d8 16 11))) + 1)))))))))))) ∧ ((¬ (d8 16 (11 : Int) < 30)) → (0 ≤ v6 ∧ v6 < 4) ∧ (((d8 15 v6 ≤ 0) → Q (.inl (-3)) g7 d8) ∧ ((¬ (d8 15 v6 ≤ 0)) → ((0 : Int) ≤ (-3) ∧ (-3) < 30) ∧ ((0 ≤ d8 21 (-3) ∧ d8 21 (-3) < 7) ∧ (Q (.inl (-3)) g7 (ud (ud d8 22 ((-3) * 7 + d8 21 (-3)) (d8 15 v6)) 21 (-3) ((d8 21 (-3)) + 1)))))))) ∧ ((¬ (d8 16 11 < 30)) → Q (.inl (-3)) g7 d8)) | .inr k => Q (.inr k) g7 d8))) : MM mX11_tryServe [vR 0, vI x1, vI x2, vI x3] g d Q := by
  refine MM_of (by decide) rfl (by simp [catV]) (Nat.le_of_ble_eq_true rfl) ?_
  show MW mX11_tryServe 0 0 0 [(0, vR 0), (1, vI x1), (2, vI x2), (3, vI x3)] [] g d Q
  refine mw_top (fun hT => ?_)
  have hG : 65 ≤ g.2.1 := hT.2
  refine mw_aload_n (v := vR 0) (pc' := 1) dX11_tryServe_0 rfl rfl (Or.inl rfl) rfl ?_
  refine mw_getP (v := 6) (pc' := 4) dX11_tryServe_1 rfl fr_RX11_26_0 rfl sp_0_3 ⟨by decide, by decide⟩ ?_
  refine mw_getP (v := 7) (pc' := 7) dX11_tryServe_4 rfl fr_RX11_107_6 rfl sp_6_0 ⟨by decide, by decide⟩ ?_
  refine mw_iload_n (pc' := 8) dX11_tryServe_7 rfl rfl rfl ?_
  refine mw_callV (M' := mX5_has) (A := [vI x1]) (A' := [vR 7, vI x1]) (S := []) (a := 7) (pc' := 11) dX11_tryServe_8 rfl cl_RX11_146 cm_X5_has cv_X5_has ⟨by decide, by decide, by decide, by decide, by decide⟩ rfl rfl rfl ⟨by decide, by omega⟩ (by decide +kernel) (by decide +kernel) (Nat.le_of_ble_eq_true rfl) (eX5_has ?_)
  show MW mX11_tryServe 0 0 11 [(0, vR 0), (1, vI x1), (2, vI x2), (3, vI x3)] [vI (bI ((¬ (x1 < 0)) ∧ (¬ (d 7 2 ≤ x1))))] g d Q
  suffices k1 : (((¬ ((¬ (x1 < 0)) ∧ (¬ (d 7 2 ≤ x1)))) ∨ (¬ ((¬ (x2 < 0)) ∧ (¬ (8 ≤ x2))))) → MW mX11_tryServe 0 0 21 [(0, vR 0), (1, vI x1), (2, vI x2), (3, vI x3)] [] g d Q) ∧ ((¬ ((¬ ((¬ (x1 < 0)) ∧ (¬ (d 7 2 ≤ x1)))) ∨ (¬ ((¬ (x2 < 0)) ∧ (¬ (8 ≤ x2)))))) → MW mX11_tryServe 0 0 23 [(0, vR 0), (1, vI x1), (2, vI x2), (3, vI x3)] [] g d Q) by
    refine mw_if_eq (tgt := 21) (pc' := 14) dX11_tryServe_11 rfl (by decide) (fun c2 => ?_) (fun c2 => ?_)
    · replace c2 := bI_0.mp c2
      exact k1.1 (Or.inl c2)
    · replace c2 := bI_n0.mp c2
      refine mw_iload_n (pc' := 15) dX11_tryServe_14 rfl rfl rfl ?_
      refine mw_callS (M' := mX11_isRule) (A := [vI x2]) (S := []) (pc' := 18) dX11_tryServe_15 rfl cl_RX11_241 cm_X11_isRule cs_X11_isRule ⟨by decide, by decide, by decide, by decide, by decide⟩ rfl rfl (Nat.le_of_ble_eq_true rfl) (eX11_isRule ?_)
      show MW mX11_tryServe 0 0 18 [(0, vR 0), (1, vI x1), (2, vI x2), (3, vI x3)] [vI (bI ((¬ (x2 < 0)) ∧ (¬ (8 ≤ x2))))] g d Q
      refine mw_if_ne (tgt := 23) (pc' := 21) dX11_tryServe_18 rfl (by decide) (fun c3 => ?_) (fun c3 => ?_)
      · replace c3 := bI_n0.mp c3
        exact k1.2 (fun h => h.elim (fun q => (q c2)) (fun h => (h c3)))
      · replace c3 := bI_0.mp c3
        exact k1.1 (Or.inr c3)
  refine ⟨fun c4 => ?_, fun c4 => ?_⟩
  · replace h := h.1 c4
    refine mw_iconst (pc' := 22) dX11_tryServe_21 rfl ⟨by decide, by decide⟩ ?_
    exact mw_iret (pc' := 0) (S := []) dX11_tryServe_22 rfl (Or.inl rfl) h
  · replace h := h.2 c4
    refine mw_iload_n (pc' := 24) dX11_tryServe_23 rfl rfl rfl ?_
    refine mw_callS (M' := mX7_placeOfWay) (A := [vI x3]) (S := []) (pc' := 27) dX11_tryServe_24 rfl cl_RX11_225 cm_X7_placeOfWay cs_X7_placeOfWay ⟨by decide, by decide, by decide, by decide, by decide⟩ rfl rfl (Nat.le_of_ble_eq_true rfl) (MM.mono ?_ h)
    intro o g7 d8 h5
    rcases o with v6 | k
    · refine mw_top (fun hT => ?_)
      have hG : 65 ≤ g7.2.1 := hT.2
      show MW mX11_tryServe 0 0 27 [(0, vR 0), (1, vI x1), (2, vI x2), (3, vI x3)] [vI v6] g7 d8 Q
      refine mw_istore (pc' := 29) (L' := [(0, vR 0), (1, vI x1), (2, vI x2), (3, vI x3), (4, vI v6)]) dX11_tryServe_27 rfl (by decide) rfl ?_
      refine mw_iload (pc' := 31) dX11_tryServe_29 rfl rfl ?_
      refine mw_iconst (pc' := 32) dX11_tryServe_31 rfl ⟨by decide, by decide⟩ ?_
      refine mw_icmp_ne (tgt := 38) (pc' := 35) dX11_tryServe_32 rfl (by decide) (fun c9 => ?_) (fun c9 => ?_)
      · replace h5 := h5.2 c9
        refine mw_aload_n (v := vR 0) (pc' := 39) dX11_tryServe_38 rfl rfl (Or.inl rfl) rfl ?_
        refine mw_getP (v := 6) (pc' := 42) dX11_tryServe_39 rfl fr_RX11_26_0 rfl sp_0_3 ⟨by decide, by decide⟩ ?_
        refine mw_getP (v := 16) (pc' := 45) dX11_tryServe_42 rfl fr_RX11_252_6 rfl sp_6_3 ⟨by decide, by decide⟩ ?_
        refine mw_getI (ji := 11) (pc' := 48) dX11_tryServe_45 rfl fi_RX11_256_16 rfl ⟨by decide, by decide⟩ ?_
        refine mw_bipush (pc' := 50) dX11_tryServe_48 rfl ⟨by decide, by decide⟩ ?_
        refine mw_icmp_lt (tgt := 56) (pc' := 53) dX11_tryServe_50 rfl (by decide) (fun c10 => ?_) (fun c10 => ?_)
        · replace h5 := h5.1 c10
          refine mw_aload_n (v := vR 0) (pc' := 57) dX11_tryServe_56 rfl rfl (Or.inl rfl) rfl ?_
          refine mw_getP (v := 6) (pc' := 60) dX11_tryServe_57 rfl fr_RX11_26_0 rfl sp_0_3 ⟨by decide, by decide⟩ ?_
          refine mw_getP (v := 16) (pc' := 63) dX11_tryServe_60 rfl fr_RX11_252_6 rfl sp_6_3 ⟨by decide, by decide⟩ ?_
          refine mw_iload_n (pc' := 64) dX11_tryServe_63 rfl rfl rfl ?_
          refine mw_iload_n (pc' := 65) dX11_tryServe_64 rfl rfl rfl ?_
          refine mw_aload_n (v := vR 0) (pc' := 66) dX11_tryServe_65 rfl rfl (Or.inl rfl) rfl ?_
          refine mw_getP (v := 6) (pc' := 69) dX11_tryServe_66 rfl fr_RX11_26_0 rfl sp_0_3 ⟨by decide, by decide⟩ ?_
          refine mw_getP (v := 10) (pc' := 72) dX11_tryServe_69 rfl fr_RX11_36_6 rfl sp_6_1 ⟨by decide, by decide⟩ ?_
          refine mw_getI (ji := 0) (pc' := 75) dX11_tryServe_72 rfl fi_RX11_152_10 rfl ⟨by decide, by decide⟩ ?_
          refine mw_aload_n (v := vR 0) (pc' := 76) dX11_tryServe_75 rfl rfl (Or.inl rfl) rfl ?_
          refine mw_getP (v := 6) (pc' := 79) dX11_tryServe_76 rfl fr_RX11_26_0 rfl sp_0_3 ⟨by decide, by decide⟩ ?_
          refine mw_getP (v := 12) (pc' := 82) dX11_tryServe_79 rfl fr_RX11_210_6 rfl sp_6_2 ⟨by decide, by decide⟩ ?_
          refine mw_callV (M' := mX2_add) (A := [vI x1, vI x2, vI (d8 10 0), vR 12]) (A' := [vR 16, vI x1, vI x2, vI (d8 10 0), vR 12]) (S := []) (a := 16) (pc' := 85) dX11_tryServe_82 rfl cl_RX11_316 cm_X2_add cv_X2_add ⟨by decide, by decide, by decide, by decide, by decide⟩ rfl rfl rfl ⟨by decide, by omega⟩ (by decide +kernel) (by decide +kernel) (Nat.le_of_ble_eq_true rfl) (eX2_add_d ?_)
          refine ⟨fun c11 => ?_, fun c11 => ?_⟩
          · replace h5 := h5.1 (show d8 16 (11 : Int) < 30 from c11)
            obtain ⟨o12, h5⟩ := h5
            refine ⟨o12, ?_⟩
            obtain ⟨o13, h5⟩ := h5
            refine ⟨o13, ?_⟩
            obtain ⟨o14, h5⟩ := h5
            refine ⟨o14, ?_⟩
            obtain ⟨o15, h5⟩ := h5
            refine ⟨o15, ?_⟩
            obtain ⟨o16, h5⟩ := h5
            refine ⟨o16, ?_⟩
            obtain ⟨o17, h5⟩ := h5
            refine ⟨o17, ?_⟩
            show MW mX11_tryServe 0 0 85 [(0, vR 0), (1, vI x1), (2, vI x2), (3, vI x3), (4, vI v6)] [vI (d8 16 11)] g7 (ud (ud (ud (ud (ud (ud (ud (ud (ud (ud (ud (ud (ud d8 17 (d8 16 11) x1) 18 (d8 16 11) x2) 19 (d8 16 11) (d8 10 0)) 20 (d8 16 11) (d8 14 x2)) 21 (d8 16 11) 0) 23 (d8 16 11) 0) 24 (d8 16 11) 0) 25 (d8 16 11) 0) 26 (d8 16 11) 0) 27 (d8 16 11) 111) 16 11 ((d8 16 11) + 1)) 22 ((d8 16 11) * 7 + ((ud (ud (ud (ud (ud d8 17 (d8 16 11) x1) 18 (d8 16 11) x2) 19 (d8 16 11) (d8 10 0)) 20 (d8 16 11) (d8 14 x2)) 21 (d8 16 11) 0) 21 (d8 16 11))) (d8 13 x2)) 21 (d8 16 11) ((((ud (ud (ud (ud (ud d8 17 (d8 16 11) x1) 18 (d8 16 11) x2) 19 (d8 16 11) (d8 10 0)) 20 (d8 16 11) (d8 14 x2)) 21 (d8 16 11) 0) 21 (d8 16 11))) + 1)) Q
            refine mw_istore (pc' := 87) (L' := [(0, vR 0), (1, vI x1), (2, vI x2), (3, vI x3), (4, vI v6), (5, vI (d8 16 11))]) dX11_tryServe_85 rfl (by decide) rfl ?_
            refine mw_aload_n (v := vR 0) (pc' := 88) dX11_tryServe_87 rfl rfl (Or.inl rfl) rfl ?_
            refine mw_getP (v := 6) (pc' := 91) dX11_tryServe_88 rfl fr_RX11_26_0 rfl sp_0_3 ⟨by decide, by decide⟩ ?_
            refine mw_getP (v := 12) (pc' := 94) dX11_tryServe_91 rfl fr_RX11_210_6 rfl sp_6_2 ⟨by decide, by decide⟩ ?_
            refine mw_getP (v := 15) (pc' := 97) dX11_tryServe_94 rfl fr_RX11_231_12 rfl sp_12_2 ⟨by decide, by decide⟩ ?_
            refine mw_iload (pc' := 99) dX11_tryServe_97 rfl rfl ?_
            obtain ⟨o18, h5⟩ := h5
            refine mw_iald (pc' := 100) dX11_tryServe_99 rfl lk_15 ⟨by decide, by decide⟩ (by rw [ln_15]; exact o18) ?_
            refine mw_st (b := d8 15 v6) (udA (by decide) (udA (by decide) (udA (by decide) (udA (by decide) (udA (by decide) (udA (by decide) (udA (by decide) (udA (by decide) (udA (by decide) (udA (by decide) (udA (by decide) (udA (by decide) (udA (by decide) (rfl)))))))))))))) ?_
            refine mw_if_le (tgt := 128) (pc' := 103) dX11_tryServe_100 rfl (by decide) (fun c25 => ?_) (fun c25 => ?_)
            · replace h5 := h5.1 c25
              refine mw_iload (pc' := 130) dX11_tryServe_128 rfl rfl ?_
              exact mw_iret (pc' := 0) (S := []) dX11_tryServe_130 rfl (Or.inl rfl) h5
            · replace h5 := h5.2 c25
              refine mw_aload_n (v := vR 0) (pc' := 104) dX11_tryServe_103 rfl rfl (Or.inl rfl) rfl ?_
              refine mw_getP (v := 6) (pc' := 107) dX11_tryServe_104 rfl fr_RX11_26_0 rfl sp_0_3 ⟨by decide, by decide⟩ ?_
              refine mw_getP (v := 16) (pc' := 110) dX11_tryServe_107 rfl fr_RX11_252_6 rfl sp_6_3 ⟨by decide, by decide⟩ ?_
              refine mw_iload (pc' := 112) dX11_tryServe_110 rfl rfl ?_
              refine mw_aload_n (v := vR 0) (pc' := 113) dX11_tryServe_112 rfl rfl (Or.inl rfl) rfl ?_
              refine mw_getP (v := 6) (pc' := 116) dX11_tryServe_113 rfl fr_RX11_26_0 rfl sp_0_3 ⟨by decide, by decide⟩ ?_
              refine mw_getP (v := 12) (pc' := 119) dX11_tryServe_116 rfl fr_RX11_210_6 rfl sp_6_2 ⟨by decide, by decide⟩ ?_
              refine mw_getP (v := 15) (pc' := 122) dX11_tryServe_119 rfl fr_RX11_231_12 rfl sp_12_2 ⟨by decide, by decide⟩ ?_
              refine mw_iload (pc' := 124) dX11_tryServe_122 rfl rfl ?_
              refine mw_iald (pc' := 125) dX11_tryServe_124 rfl lk_15 ⟨by decide, by decide⟩ (by rw [ln_15]; exact o18) ?_
              refine mw_st (b := d8 15 v6) (udA (by decide) (udA (by decide) (udA (by decide) (udA (by decide) (udA (by decide) (udA (by decide) (udA (by decide) (udA (by decide) (udA (by decide) (udA (by decide) (udA (by decide) (udA (by decide) (udA (by decide) (rfl)))))))))))))) ?_
              obtain ⟨o28, h5⟩ := h5
              refine mw_callV (M' := mX2_addPart) (A := [vI (d8 16 11), vI (d8 15 v6)]) (A' := [vR 16, vI (d8 16 11), vI (d8 15 v6)]) (S := []) (a := 16) (pc' := 128) dX11_tryServe_125 rfl cl_RX11_319 cm_X2_addPart cv_X2_addPart ⟨by decide, by decide, by decide, by decide, by decide⟩ rfl rfl rfl ⟨by decide, by omega⟩ (by decide +kernel) (by decide +kernel) (Nat.le_of_ble_eq_true rfl) (f_addPart_d (⟨o16, o28, ?_⟩))
              show MW mX11_tryServe 0 0 128 [(0, vR 0), (1, vI x1), (2, vI x2), (3, vI x3), (4, vI v6), (5, vI (d8 16 11))] [] g7 (ud (ud (ud (ud (ud (ud (ud (ud (ud (ud (ud (ud (ud (ud (ud d8 17 (d8 16 11) x1) 18 (d8 16 11) x2) 19 (d8 16 11) (d8 10 0)) 20 (d8 16 11) (d8 14 x2)) 21 (d8 16 11) 0) 23 (d8 16 11) 0) 24 (d8 16 11) 0) 25 (d8 16 11) 0) 26 (d8 16 11) 0) 27 (d8 16 11) 111) 16 11 ((d8 16 11) + 1)) 22 ((d8 16 11) * 7 + ((ud (ud (ud (ud (ud d8 17 (d8 16 11) x1) 18 (d8 16 11) x2) 19 (d8 16 11) (d8 10 0)) 20 (d8 16 11) (d8 14 x2)) 21 (d8 16 11) 0) 21 (d8 16 11))) (d8 13 x2)) 21 (d8 16 11) ((((ud (ud (ud (ud (ud d8 17 (d8 16 11) x1) 18 (d8 16 11) x2) 19 (d8 16 11) (d8 10 0)) 20 (d8 16 11) (d8 14 x2)) 21 (d8 16 11) 0) 21 (d8 16 11))) + 1)) 22 ((d8 16 11) * 7 + ((ud (ud (ud (ud (ud (ud (ud (ud (ud (ud (ud (ud (ud d8 17 (d8 16 11) x1) 18 (d8 16 11) x2) 19 (d8 16 11) (d8 10 0)) 20 (d8 16 11) (d8 14 x2)) 21 (d8 16 11) 0) 23 (d8 16 11) 0) 24 (d8 16 11) 0) 25 (d8 16 11) 0) 26 (d8 16 11) 0) 27 (d8 16 11) 111) 16 11 ((d8 16 11) + 1)) 22 ((d8 16 11) * 7 + ((ud (ud (ud (ud (ud d8 17 (d8 16 11) x1) 18 (d8 16 11) x2) 19 (d8 16 11) (d8 10 0)) 20 (d8 16 11) (d8 14 x2)) 21 (d8 16 11) 0) 21 (d8 16 11))) (d8 13 x2)) 21 (d8 16 11) ((((ud (ud (ud (ud (ud d8 17 (d8 16 11) x1) 18 (d8 16 11) x2) 19 (d8 16 11) (d8 10 0)) 20 (d8 16 11) (d8 14 x2)) 21 (d8 16 11) 0) 21 (d8 16 11))) + 1)) 21 (d8 16 11))) (d8 15 v6)) 21 (d8 16 11) ((((ud (ud (ud (ud (ud (ud (ud (ud (ud (ud (ud (ud (ud d8 17 (d8 16 11) x1) 18 (d8 16 11) x2) 19 (d8 16 11) (d8 10 0)) 20 (d8 16 11) (d8 14 x2)) 21 (d8 16 11) 0) 23 (d8 16 11) 0) 24 (d8 16 11) 0) 25 (d8 16 11) 0) 26 (d8 16 11) 0) 27 (d8 16 11) 111) 16 11 ((d8 16 11) + 1)) 22 ((d8 16 11) * 7 + ((ud (ud (ud (ud (ud d8 17 (d8 16 11) x1) 18 (d8 16 11) x2) 19 (d8 16 11) (d8 10 0)) 20 (d8 16 11) (d8 14 x2)) 21 (d8 16 11) 0) 21 (d8 16 11))) (d8 13 x2)) 21 (d8 16 11) ((((ud (ud (ud (ud (ud d8 17 (d8 16 11) x1) 18 (d8 16 11) x2) 19 (d8 16 11) (d8 10 0)) 20 (d8 16 11) (d8 14 x2)) 21 (d8 16 11) 0) 21 (d8 16 11))) + 1)) 21 (d8 16 11))) + 1)) Q
              refine mw_iload (pc' := 130) dX11_tryServe_128 rfl rfl ?_
              exact mw_iret (pc' := 0) (S := []) dX11_tryServe_130 rfl (Or.inl rfl) h5
          · replace h5 := h5.2 (show ¬ (d8 16 (11 : Int) < 30) from c11)
            show MW mX11_tryServe 0 0 85 [(0, vR 0), (1, vI x1), (2, vI x2), (3, vI x3), (4, vI v6)] [vI (-3)] g7 d8 Q
            refine mw_istore (pc' := 87) (L' := [(0, vR 0), (1, vI x1), (2, vI x2), (3, vI x3), (4, vI v6), (5, vI (-3))]) dX11_tryServe_85 rfl (by decide) rfl ?_
            refine mw_aload_n (v := vR 0) (pc' := 88) dX11_tryServe_87 rfl rfl (Or.inl rfl) rfl ?_
            refine mw_getP (v := 6) (pc' := 91) dX11_tryServe_88 rfl fr_RX11_26_0 rfl sp_0_3 ⟨by decide, by decide⟩ ?_
            refine mw_getP (v := 12) (pc' := 94) dX11_tryServe_91 rfl fr_RX11_210_6 rfl sp_6_2 ⟨by decide, by decide⟩ ?_
            refine mw_getP (v := 15) (pc' := 97) dX11_tryServe_94 rfl fr_RX11_231_12 rfl sp_12_2 ⟨by decide, by decide⟩ ?_
            refine mw_iload (pc' := 99) dX11_tryServe_97 rfl rfl ?_
            obtain ⟨o29, h5⟩ := h5
            refine mw_iald (pc' := 100) dX11_tryServe_99 rfl lk_15 ⟨by decide, by decide⟩ (by rw [ln_15]; exact o29) ?_
            refine mw_if_le (tgt := 128) (pc' := 103) dX11_tryServe_100 rfl (by decide) (fun c36 => ?_) (fun c36 => ?_)
            · replace h5 := h5.1 c36
              refine mw_iload (pc' := 130) dX11_tryServe_128 rfl rfl ?_
              exact mw_iret (pc' := 0) (S := []) dX11_tryServe_130 rfl (Or.inl rfl) h5
            · replace h5 := h5.2 c36
              refine mw_aload_n (v := vR 0) (pc' := 104) dX11_tryServe_103 rfl rfl (Or.inl rfl) rfl ?_
              refine mw_getP (v := 6) (pc' := 107) dX11_tryServe_104 rfl fr_RX11_26_0 rfl sp_0_3 ⟨by decide, by decide⟩ ?_
              refine mw_getP (v := 16) (pc' := 110) dX11_tryServe_107 rfl fr_RX11_252_6 rfl sp_6_3 ⟨by decide, by decide⟩ ?_
              refine mw_iload (pc' := 112) dX11_tryServe_110 rfl rfl ?_
              refine mw_aload_n (v := vR 0) (pc' := 113) dX11_tryServe_112 rfl rfl (Or.inl rfl) rfl ?_
              refine mw_getP (v := 6) (pc' := 116) dX11_tryServe_113 rfl fr_RX11_26_0 rfl sp_0_3 ⟨by decide, by decide⟩ ?_
              refine mw_getP (v := 12) (pc' := 119) dX11_tryServe_116 rfl fr_RX11_210_6 rfl sp_6_2 ⟨by decide, by decide⟩ ?_
              refine mw_getP (v := 15) (pc' := 122) dX11_tryServe_119 rfl fr_RX11_231_12 rfl sp_12_2 ⟨by decide, by decide⟩ ?_
              refine mw_iload (pc' := 124) dX11_tryServe_122 rfl rfl ?_
              refine mw_iald (pc' := 125) dX11_tryServe_124 rfl lk_15 ⟨by decide, by decide⟩ (by rw [ln_15]; exact o29) ?_
              obtain ⟨o38, h5⟩ := h5
              obtain ⟨o39, h5⟩ := h5
              refine mw_callV (M' := mX2_addPart) (A := [vI (-3), vI (d8 15 v6)]) (A' := [vR 16, vI (-3), vI (d8 15 v6)]) (S := []) (a := 16) (pc' := 128) dX11_tryServe_125 rfl cl_RX11_319 cm_X2_addPart cv_X2_addPart ⟨by decide, by decide, by decide, by decide, by decide⟩ rfl rfl rfl ⟨by decide, by omega⟩ (by decide +kernel) (by decide +kernel) (Nat.le_of_ble_eq_true rfl) (f_addPart_d (⟨o38, o39, ?_⟩))
              show MW mX11_tryServe 0 0 128 [(0, vR 0), (1, vI x1), (2, vI x2), (3, vI x3), (4, vI v6), (5, vI (-3))] [] g7 (ud (ud d8 22 ((-3) * 7 + d8 21 (-3)) (d8 15 v6)) 21 (-3) ((d8 21 (-3)) + 1)) Q
              refine mw_iload (pc' := 130) dX11_tryServe_128 rfl rfl ?_
              exact mw_iret (pc' := 0) (S := []) dX11_tryServe_130 rfl (Or.inl rfl) h5
        · replace h5 := h5.2 c10
          refine mw_bipush (pc' := 55) dX11_tryServe_53 rfl ⟨by decide, by decide⟩ ?_
          exact mw_iret (pc' := 0) (S := []) dX11_tryServe_55 rfl (Or.inl rfl) h5
      · replace h5 := h5.1 c9
        refine mw_bipush (pc' := 37) dX11_tryServe_35 rfl ⟨by decide, by decide⟩ ?_
        exact mw_iret (pc' := 0) (S := []) dX11_tryServe_37 rfl (Or.inl rfl) h5
    · exact mx_out rfl h5
theorem eX11_tryExtendByConsent {R : rW} {x1 x2 : Int} {g : mG} {d : mD} {Q : mQ} (h : (((¬ (x1 < 0)) ∧ (¬ (d 16 11 ≤ x1))) → (((x2 < 1) ∨ (¬ (x2 ≤ 28))) → Q (.inl (-2)) g d) ∧ ((¬ ((x2 < 1) ∨ (¬ (x2 ≤ 28)))) → (0 ≤ x1 ∧ x1 < 30) ∧ (((d 27 x1 = 111) → (CI d R) ∧ ((0 ≤ x1 ∧ x1 < R 3) ∧ (∀ d14, FrW d d14 → ((((dueF R x1 < d 10 0) ∨ (¬ (d 23 x1 < 2))) → Q (.inl (-3)) g d14) ∧ ((¬ ((dueF R x1 < d 10 0) ∨ (¬ (d 23 x1 < 2)))) → (iI ((d 24 x1) + x2)) ∧ ((((d 24 x1) + x2 ≤ 28) → (iI ((d 23 x1) + 1)) ∧ ((0 ≤ d14 21 x1 ∧ d14 21 x1 < 7) ∧ ((iI ((d14 26 x1) + x2)) ∧ (Q (.inl ((d14 26 x1) + x2)) g (ud (ud (ud (ud (ud d14 23 x1 ((d 23 x1) + 1)) 24 x1 ((d 24 x1) + x2)) 22 (x1 * 7 + d14 21 x1) x2) 21 x1 ((d14 21 x1) + 1)) 26 x1 ((d14 26 x1) + x2)))))) ∧ ((¬ ((d 24 x1) + x2 ≤ 28)) → Q (.inl (-4)) g d14))))))) ∧ ((¬ (d 27 x1 = 111)) → Q (.inl (-3)) g d)))) ∧ ((¬ ((¬ (x1 < 0)) ∧ (¬ (d 16 11 ≤ x1)))) → Q (.inl (-1)) g d)) : MM mX11_tryExtendByConsent [vR 0, vI x1, vI x2] g d Q := by
  refine MM_of (by decide) rfl (by simp [catV]) (Nat.le_of_ble_eq_true rfl) ?_
  show MW mX11_tryExtendByConsent 0 0 0 [(0, vR 0), (1, vI x1), (2, vI x2)] [] g d Q
  refine mw_top (fun hT => ?_)
  have hG : 65 ≤ g.2.1 := hT.2
  refine mw_aload_n (v := vR 0) (pc' := 1) dX11_tryExtendByConsent_0 rfl rfl (Or.inl rfl) rfl ?_
  refine mw_getP (v := 6) (pc' := 4) dX11_tryExtendByConsent_1 rfl fr_RX11_26_0 rfl sp_0_3 ⟨by decide, by decide⟩ ?_
  refine mw_getP (v := 16) (pc' := 7) dX11_tryExtendByConsent_4 rfl fr_RX11_252_6 rfl sp_6_3 ⟨by decide, by decide⟩ ?_
  refine mw_iload_n (pc' := 8) dX11_tryExtendByConsent_7 rfl rfl rfl ?_
  refine mw_callV (M' := mX2_has) (A := [vI x1]) (A' := [vR 16, vI x1]) (S := []) (a := 16) (pc' := 11) dX11_tryExtendByConsent_8 rfl cl_RX11_322 cm_X2_has cv_X2_has ⟨by decide, by decide, by decide, by decide, by decide⟩ rfl rfl rfl ⟨by decide, by omega⟩ (by decide +kernel) (by decide +kernel) (Nat.le_of_ble_eq_true rfl) (eX2_has_d ?_)
  show MW mX11_tryExtendByConsent 0 0 11 [(0, vR 0), (1, vI x1), (2, vI x2)] [vI (bI ((¬ (x1 < 0)) ∧ (¬ (d 16 11 ≤ x1))))] g d Q
  refine mw_if_ne (tgt := 16) (pc' := 14) dX11_tryExtendByConsent_11 rfl (by decide) (fun c3 => ?_) (fun c3 => ?_)
  · replace c3 := bI_n0.mp c3
    replace h := h.1 c3
    refine mw_iload_n (pc' := 17) dX11_tryExtendByConsent_16 rfl rfl rfl ?_
    refine mw_iconst (pc' := 18) dX11_tryExtendByConsent_17 rfl ⟨by decide, by decide⟩ ?_
    suffices k6 : (((x2 < 1) ∨ (¬ (x2 ≤ 28))) → MW mX11_tryExtendByConsent 0 0 27 [(0, vR 0), (1, vI x1), (2, vI x2)] [] g d Q) ∧ ((¬ ((x2 < 1) ∨ (¬ (x2 ≤ 28)))) → MW mX11_tryExtendByConsent 0 0 30 [(0, vR 0), (1, vI x1), (2, vI x2)] [] g d Q) by
      refine mw_icmp_lt (tgt := 27) (pc' := 21) dX11_tryExtendByConsent_18 rfl (by decide) (fun c7 => ?_) (fun c7 => ?_)
      · exact k6.1 (Or.inl c7)
      · refine mw_iload_n (pc' := 22) dX11_tryExtendByConsent_21 rfl rfl rfl ?_
        refine mw_bipush (pc' := 24) dX11_tryExtendByConsent_22 rfl ⟨by decide, by decide⟩ ?_
        refine mw_icmp_le (tgt := 30) (pc' := 27) dX11_tryExtendByConsent_24 rfl (by decide) (fun c8 => ?_) (fun c8 => ?_)
        · exact k6.2 (fun h => h.elim (fun q => (c7 q)) (fun h => (h c8)))
        · exact k6.1 (Or.inr c8)
    refine ⟨fun c9 => ?_, fun c9 => ?_⟩
    · replace h := h.1 c9
      refine mw_bipush (pc' := 29) dX11_tryExtendByConsent_27 rfl ⟨by decide, by decide⟩ ?_
      exact mw_iret (pc' := 0) (S := []) dX11_tryExtendByConsent_29 rfl (Or.inl rfl) h
    · replace h := h.2 c9
      refine mw_aload_n (v := vR 0) (pc' := 31) dX11_tryExtendByConsent_30 rfl rfl (Or.inl rfl) rfl ?_
      refine mw_getP (v := 6) (pc' := 34) dX11_tryExtendByConsent_31 rfl fr_RX11_26_0 rfl sp_0_3 ⟨by decide, by decide⟩ ?_
      refine mw_getP (v := 16) (pc' := 37) dX11_tryExtendByConsent_34 rfl fr_RX11_252_6 rfl sp_6_3 ⟨by decide, by decide⟩ ?_
      refine mw_iload_n (pc' := 38) dX11_tryExtendByConsent_37 rfl rfl rfl ?_
      obtain ⟨o10, h⟩ := h
      refine mw_callV (M' := mX2_isOpen) (A := [vI x1]) (A' := [vR 16, vI x1]) (S := []) (a := 16) (pc' := 41) dX11_tryExtendByConsent_38 rfl cl_RX11_300 cm_X2_isOpen cv_X2_isOpen ⟨by decide, by decide, by decide, by decide, by decide⟩ rfl rfl rfl ⟨by decide, by omega⟩ (by decide +kernel) (by decide +kernel) (Nat.le_of_ble_eq_true rfl) (eX2_isOpen (⟨o10, ?_⟩))
      show MW mX11_tryExtendByConsent 0 0 41 [(0, vR 0), (1, vI x1), (2, vI x2)] [vI (bI (d 27 x1 = 111))] g d Q
      refine mw_if_eq (tgt := 88) (pc' := 44) dX11_tryExtendByConsent_41 rfl (by decide) (fun c11 => ?_) (fun c11 => ?_)
      · replace c11 := bI_0.mp c11
        replace h := h.2 c11
        refine mw_bipush (pc' := 90) dX11_tryExtendByConsent_88 rfl ⟨by decide, by decide⟩ ?_
        exact mw_iret (pc' := 0) (S := []) dX11_tryExtendByConsent_90 rfl (Or.inl rfl) h
      · replace c11 := bI_n0.mp c11
        replace h := h.1 c11
        refine mw_aload_n (v := vR 0) (pc' := 45) dX11_tryExtendByConsent_44 rfl rfl (Or.inl rfl) rfl ?_
        refine mw_getP (v := 53) (pc' := 48) dX11_tryExtendByConsent_45 rfl fr_RX11_47_0 rfl sp_0_7 ⟨by decide, by decide⟩ ?_
        refine mw_aload_n (v := vR 0) (pc' := 49) dX11_tryExtendByConsent_48 rfl rfl (Or.inl rfl) rfl ?_
        refine mw_getP (v := 6) (pc' := 52) dX11_tryExtendByConsent_49 rfl fr_RX11_26_0 rfl sp_0_3 ⟨by decide, by decide⟩ ?_
        refine mw_getP (v := 16) (pc' := 55) dX11_tryExtendByConsent_52 rfl fr_RX11_252_6 rfl sp_6_3 ⟨by decide, by decide⟩ ?_
        refine mw_iload_n (pc' := 56) dX11_tryExtendByConsent_55 rfl rfl rfl ?_
        refine mw_callV (M' := mX10_endOf) (A := [vR 16, vI x1]) (A' := [vR 53, vR 16, vI x1]) (S := []) (a := 53) (pc' := 59) dX11_tryExtendByConsent_56 rfl cl_RX11_262 cm_X10_endOf cv_X10_endOf ⟨by decide, by decide, by decide, by decide, by decide⟩ rfl rfl rfl ⟨by decide, by omega⟩ (by decide +kernel) (by decide +kernel) (Nat.le_of_ble_eq_true rfl) (f_endOfW (R := R) ?_)
        obtain ⟨o12, h⟩ := h
        refine ⟨o12, ?_⟩
        obtain ⟨o13, h⟩ := h
        refine ⟨o13, ?_⟩
        intro d14 q15
        replace h := h d14 q15
        show MW mX11_tryExtendByConsent 0 0 59 [(0, vR 0), (1, vI x1), (2, vI x2)] [vI (dueF R x1)] g d14 Q
        refine mw_aload_n (v := vR 0) (pc' := 60) dX11_tryExtendByConsent_59 rfl rfl (Or.inl rfl) rfl ?_
        refine mw_getP (v := 6) (pc' := 63) dX11_tryExtendByConsent_60 rfl fr_RX11_26_0 rfl sp_0_3 ⟨by decide, by decide⟩ ?_
        refine mw_getP (v := 10) (pc' := 66) dX11_tryExtendByConsent_63 rfl fr_RX11_36_6 rfl sp_6_1 ⟨by decide, by decide⟩ ?_
        refine mw_getI (ji := 0) (pc' := 69) dX11_tryExtendByConsent_66 rfl fi_RX11_152_10 rfl ⟨by decide, by decide⟩ ?_
        refine mw_st (b := d 10 0) (Eq.trans (q15 (by omega)) (rfl)) ?_
        suffices k23 : (((dueF R x1 < d 10 0) ∨ (¬ (d 23 x1 < 2))) → MW mX11_tryExtendByConsent 0 0 88 [(0, vR 0), (1, vI x1), (2, vI x2)] [] g d14 Q) ∧ ((¬ ((dueF R x1 < d 10 0) ∨ (¬ (d 23 x1 < 2)))) → MW mX11_tryExtendByConsent 0 0 91 [(0, vR 0), (1, vI x1), (2, vI x2)] [] g d14 Q) by
          refine mw_icmp_lt (tgt := 88) (pc' := 72) dX11_tryExtendByConsent_69 rfl (by decide) (fun c24 => ?_) (fun c24 => ?_)
          · exact k23.1 (Or.inl c24)
          · refine mw_aload_n (v := vR 0) (pc' := 73) dX11_tryExtendByConsent_72 rfl rfl (Or.inl rfl) rfl ?_
            refine mw_getP (v := 6) (pc' := 76) dX11_tryExtendByConsent_73 rfl fr_RX11_26_0 rfl sp_0_3 ⟨by decide, by decide⟩ ?_
            refine mw_getP (v := 16) (pc' := 79) dX11_tryExtendByConsent_76 rfl fr_RX11_252_6 rfl sp_6_3 ⟨by decide, by decide⟩ ?_
            refine mw_getP (v := 23) (pc' := 82) dX11_tryExtendByConsent_79 rfl fr_RX11_323_16 rfl sp_16_6 ⟨by decide, by decide⟩ ?_
            refine mw_iload_n (pc' := 83) dX11_tryExtendByConsent_82 rfl rfl rfl ?_
            refine mw_iald (pc' := 84) dX11_tryExtendByConsent_83 rfl lk_23 ⟨by decide, by decide⟩ (by rw [ln_23]; exact o10) ?_
            refine mw_st (b := d 23 x1) (Eq.trans (q15 (by omega)) (rfl)) ?_
            refine mw_iconst (pc' := 85) dX11_tryExtendByConsent_84 rfl ⟨by decide, by decide⟩ ?_
            refine mw_icmp_lt (tgt := 91) (pc' := 88) dX11_tryExtendByConsent_85 rfl (by decide) (fun c25 => ?_) (fun c25 => ?_)
            · exact k23.2 (fun h => h.elim (fun q => (c24 q)) (fun h => (h c25)))
            · exact k23.1 (Or.inr c25)
        refine ⟨fun c26 => ?_, fun c26 => ?_⟩
        · replace h := h.1 c26
          refine mw_bipush (pc' := 90) dX11_tryExtendByConsent_88 rfl ⟨by decide, by decide⟩ ?_
          exact mw_iret (pc' := 0) (S := []) dX11_tryExtendByConsent_90 rfl (Or.inl rfl) h
        · replace h := h.2 c26
          refine mw_aload_n (v := vR 0) (pc' := 92) dX11_tryExtendByConsent_91 rfl rfl (Or.inl rfl) rfl ?_
          refine mw_getP (v := 6) (pc' := 95) dX11_tryExtendByConsent_92 rfl fr_RX11_26_0 rfl sp_0_3 ⟨by decide, by decide⟩ ?_
          refine mw_getP (v := 16) (pc' := 98) dX11_tryExtendByConsent_95 rfl fr_RX11_252_6 rfl sp_6_3 ⟨by decide, by decide⟩ ?_
          refine mw_getP (v := 24) (pc' := 101) dX11_tryExtendByConsent_98 rfl fr_RX11_326_16 rfl sp_16_7 ⟨by decide, by decide⟩ ?_
          refine mw_iload_n (pc' := 102) dX11_tryExtendByConsent_101 rfl rfl rfl ?_
          refine mw_iald (pc' := 103) dX11_tryExtendByConsent_102 rfl lk_24 ⟨by decide, by decide⟩ (by rw [ln_24]; exact o10) ?_
          refine mw_st (b := d 24 x1) (Eq.trans (q15 (by omega)) (rfl)) ?_
          refine mw_iload_n (pc' := 104) dX11_tryExtendByConsent_103 rfl rfl rfl ?_
          obtain ⟨o28, h⟩ := h
          refine mw_iadd (pc' := 105) dX11_tryExtendByConsent_104 rfl o28 ?_
          refine mw_bipush (pc' := 107) dX11_tryExtendByConsent_105 rfl ⟨by decide, by decide⟩ ?_
          refine mw_icmp_le (tgt := 113) (pc' := 110) dX11_tryExtendByConsent_107 rfl (by decide) (fun c33 => ?_) (fun c33 => ?_)
          · replace h := h.1 c33
            refine mw_aload_n (v := vR 0) (pc' := 114) dX11_tryExtendByConsent_113 rfl rfl (Or.inl rfl) rfl ?_
            refine mw_getP (v := 6) (pc' := 117) dX11_tryExtendByConsent_114 rfl fr_RX11_26_0 rfl sp_0_3 ⟨by decide, by decide⟩ ?_
            refine mw_getP (v := 16) (pc' := 120) dX11_tryExtendByConsent_117 rfl fr_RX11_252_6 rfl sp_6_3 ⟨by decide, by decide⟩ ?_
            refine mw_getP (v := 23) (pc' := 123) dX11_tryExtendByConsent_120 rfl fr_RX11_323_16 rfl sp_16_6 ⟨by decide, by decide⟩ ?_
            refine mw_iload_n (pc' := 124) dX11_tryExtendByConsent_123 rfl rfl rfl ?_
            refine mw_dup2 (pc' := 125) dX11_tryExtendByConsent_124 rfl rfl rfl ?_
            refine mw_iald (pc' := 126) dX11_tryExtendByConsent_125 rfl lk_23 ⟨by decide, by decide⟩ (by rw [ln_23]; exact o10) ?_
            refine mw_st (b := d 23 x1) (Eq.trans (q15 (by omega)) (rfl)) ?_
            refine mw_iconst (pc' := 127) dX11_tryExtendByConsent_126 rfl ⟨by decide, by decide⟩ ?_
            obtain ⟨o35, h⟩ := h
            refine mw_iadd (pc' := 128) dX11_tryExtendByConsent_127 rfl o35 ?_
            refine mw_iast (pc' := 129) dX11_tryExtendByConsent_128 rfl lk_23 ⟨by decide, by decide⟩ (by rw [ln_23]; exact o10) ?_
            refine mw_aload_n (v := vR 0) (pc' := 130) dX11_tryExtendByConsent_129 rfl rfl (Or.inl rfl) rfl ?_
            refine mw_getP (v := 6) (pc' := 133) dX11_tryExtendByConsent_130 rfl fr_RX11_26_0 rfl sp_0_3 ⟨by decide, by decide⟩ ?_
            refine mw_getP (v := 16) (pc' := 136) dX11_tryExtendByConsent_133 rfl fr_RX11_252_6 rfl sp_6_3 ⟨by decide, by decide⟩ ?_
            refine mw_getP (v := 24) (pc' := 139) dX11_tryExtendByConsent_136 rfl fr_RX11_326_16 rfl sp_16_7 ⟨by decide, by decide⟩ ?_
            refine mw_iload_n (pc' := 140) dX11_tryExtendByConsent_139 rfl rfl rfl ?_
            refine mw_dup2 (pc' := 141) dX11_tryExtendByConsent_140 rfl rfl rfl ?_
            refine mw_iald (pc' := 142) dX11_tryExtendByConsent_141 rfl lk_24 ⟨by decide, by decide⟩ (by rw [ln_24]; exact o10) ?_
            refine mw_st (b := d 24 x1) (udA (by decide) (Eq.trans (q15 (by omega)) (rfl))) ?_
            refine mw_iload_n (pc' := 143) dX11_tryExtendByConsent_142 rfl rfl rfl ?_
            refine mw_iadd (pc' := 144) dX11_tryExtendByConsent_143 rfl o28 ?_
            refine mw_iast (pc' := 145) dX11_tryExtendByConsent_144 rfl lk_24 ⟨by decide, by decide⟩ (by rw [ln_24]; exact o10) ?_
            refine mw_aload_n (v := vR 0) (pc' := 146) dX11_tryExtendByConsent_145 rfl rfl (Or.inl rfl) rfl ?_
            refine mw_getP (v := 6) (pc' := 149) dX11_tryExtendByConsent_146 rfl fr_RX11_26_0 rfl sp_0_3 ⟨by decide, by decide⟩ ?_
            refine mw_getP (v := 16) (pc' := 152) dX11_tryExtendByConsent_149 rfl fr_RX11_252_6 rfl sp_6_3 ⟨by decide, by decide⟩ ?_
            refine mw_iload_n (pc' := 153) dX11_tryExtendByConsent_152 rfl rfl rfl ?_
            refine mw_iload_n (pc' := 154) dX11_tryExtendByConsent_153 rfl rfl rfl ?_
            obtain ⟨o41, h⟩ := h
            obtain ⟨o42, h⟩ := h
            refine mw_callV (M' := mX2_grant) (A := [vI x1, vI x2]) (A' := [vR 16, vI x1, vI x2]) (S := []) (a := 16) (pc' := 157) dX11_tryExtendByConsent_154 rfl cl_RX11_329 cm_X2_grant cv_X2_grant ⟨by decide, by decide, by decide, by decide, by decide⟩ rfl rfl rfl ⟨by decide, by omega⟩ (by decide +kernel) (by decide +kernel) (Nat.le_of_ble_eq_true rfl) (eX2_grant (⟨o10, o41, o42, ?_⟩))
            show MW mX11_tryExtendByConsent 0 0 157 [(0, vR 0), (1, vI x1), (2, vI x2)] [vI ((d14 26 x1) + x2)] g (ud (ud (ud (ud (ud d14 23 x1 ((d 23 x1) + 1)) 24 x1 ((d 24 x1) + x2)) 22 (x1 * 7 + d14 21 x1) x2) 21 x1 ((d14 21 x1) + 1)) 26 x1 ((d14 26 x1) + x2)) Q
            exact mw_iret (pc' := 0) (S := []) dX11_tryExtendByConsent_157 rfl (Or.inl rfl) h
          · replace h := h.2 c33
            refine mw_bipush (pc' := 112) dX11_tryExtendByConsent_110 rfl ⟨by decide, by decide⟩ ?_
            exact mw_iret (pc' := 0) (S := []) dX11_tryExtendByConsent_112 rfl (Or.inl rfl) h
  · replace c3 := bI_0.mp c3
    replace h := h.2 c3
    refine mw_iconst (pc' := 15) dX11_tryExtendByConsent_14 rfl ⟨by decide, by decide⟩ ?_
    exact mw_iret (pc' := 0) (S := []) dX11_tryExtendByConsent_15 rfl (Or.inl rfl) h
theorem eX11_tryExtendByOrder {x1 x2 : Int} {g : mG} {d : mD} {Q : mQ} (h : (((¬ (x1 < 0)) ∧ (¬ (d 16 11 ≤ x1))) → ((x2 < 1) → Q (.inl (-2)) g d) ∧ ((¬ (x2 < 1)) → ((x2 ≤ 100) → (0 ≤ x1 ∧ x1 < 30) ∧ ((((¬ (d 27 x1 = 111)) ∨ (¬ (d 25 x1 < 3))) → Q (.inl (-3)) g d) ∧ ((¬ ((¬ (d 27 x1 = 111)) ∨ (¬ (d 25 x1 < 3)))) → (iI ((d 25 x1) + 1)) ∧ ((0 ≤ d 21 x1 ∧ d 21 x1 < 7) ∧ ((iI ((d 26 x1) + x2)) ∧ (Q (.inl ((d 26 x1) + x2)) g (ud (ud (ud (ud d 25 x1 ((d 25 x1) + 1)) 22 (x1 * 7 + d 21 x1) x2) 21 x1 ((d 21 x1) + 1)) 26 x1 ((d 26 x1) + x2)))))))) ∧ ((¬ (x2 ≤ 100)) → Q (.inl (-2)) g d))) ∧ ((¬ ((¬ (x1 < 0)) ∧ (¬ (d 16 11 ≤ x1)))) → Q (.inl (-1)) g d)) : MM mX11_tryExtendByOrder [vR 0, vI x1, vI x2] g d Q := by
  refine MM_of (by decide) rfl (by simp [catV]) (Nat.le_of_ble_eq_true rfl) ?_
  show MW mX11_tryExtendByOrder 0 0 0 [(0, vR 0), (1, vI x1), (2, vI x2)] [] g d Q
  refine mw_top (fun hT => ?_)
  have hG : 65 ≤ g.2.1 := hT.2
  refine mw_aload_n (v := vR 0) (pc' := 1) dX11_tryExtendByOrder_0 rfl rfl (Or.inl rfl) rfl ?_
  refine mw_getP (v := 6) (pc' := 4) dX11_tryExtendByOrder_1 rfl fr_RX11_26_0 rfl sp_0_3 ⟨by decide, by decide⟩ ?_
  refine mw_getP (v := 16) (pc' := 7) dX11_tryExtendByOrder_4 rfl fr_RX11_252_6 rfl sp_6_3 ⟨by decide, by decide⟩ ?_
  refine mw_iload_n (pc' := 8) dX11_tryExtendByOrder_7 rfl rfl rfl ?_
  refine mw_callV (M' := mX2_has) (A := [vI x1]) (A' := [vR 16, vI x1]) (S := []) (a := 16) (pc' := 11) dX11_tryExtendByOrder_8 rfl cl_RX11_322 cm_X2_has cv_X2_has ⟨by decide, by decide, by decide, by decide, by decide⟩ rfl rfl rfl ⟨by decide, by omega⟩ (by decide +kernel) (by decide +kernel) (Nat.le_of_ble_eq_true rfl) (eX2_has_d ?_)
  show MW mX11_tryExtendByOrder 0 0 11 [(0, vR 0), (1, vI x1), (2, vI x2)] [vI (bI ((¬ (x1 < 0)) ∧ (¬ (d 16 11 ≤ x1))))] g d Q
  refine mw_if_ne (tgt := 16) (pc' := 14) dX11_tryExtendByOrder_11 rfl (by decide) (fun c7 => ?_) (fun c7 => ?_)
  · replace c7 := bI_n0.mp c7
    replace h := h.1 c7
    refine mw_iload_n (pc' := 17) dX11_tryExtendByOrder_16 rfl rfl rfl ?_
    refine mw_iconst (pc' := 18) dX11_tryExtendByOrder_17 rfl ⟨by decide, by decide⟩ ?_
    refine mw_icmp_lt (tgt := 27) (pc' := 21) dX11_tryExtendByOrder_18 rfl (by decide) (fun c14 => ?_) (fun c14 => ?_)
    · replace h := h.1 c14
      refine mw_bipush (pc' := 29) dX11_tryExtendByOrder_27 rfl ⟨by decide, by decide⟩ ?_
      exact mw_iret (pc' := 0) (S := []) dX11_tryExtendByOrder_29 rfl (Or.inl rfl) h
    · replace h := h.2 c14
      refine mw_iload_n (pc' := 22) dX11_tryExtendByOrder_21 rfl rfl rfl ?_
      refine mw_bipush (pc' := 24) dX11_tryExtendByOrder_22 rfl ⟨by decide, by decide⟩ ?_
      refine mw_icmp_le (tgt := 30) (pc' := 27) dX11_tryExtendByOrder_24 rfl (by decide) (fun c21 => ?_) (fun c21 => ?_)
      · replace h := h.1 c21
        refine mw_aload_n (v := vR 0) (pc' := 31) dX11_tryExtendByOrder_30 rfl rfl (Or.inl rfl) rfl ?_
        refine mw_getP (v := 6) (pc' := 34) dX11_tryExtendByOrder_31 rfl fr_RX11_26_0 rfl sp_0_3 ⟨by decide, by decide⟩ ?_
        refine mw_getP (v := 16) (pc' := 37) dX11_tryExtendByOrder_34 rfl fr_RX11_252_6 rfl sp_6_3 ⟨by decide, by decide⟩ ?_
        refine mw_iload_n (pc' := 38) dX11_tryExtendByOrder_37 rfl rfl rfl ?_
        obtain ⟨o22, h⟩ := h
        refine mw_callV (M' := mX2_isOpen) (A := [vI x1]) (A' := [vR 16, vI x1]) (S := []) (a := 16) (pc' := 41) dX11_tryExtendByOrder_38 rfl cl_RX11_300 cm_X2_isOpen cv_X2_isOpen ⟨by decide, by decide, by decide, by decide, by decide⟩ rfl rfl rfl ⟨by decide, by omega⟩ (by decide +kernel) (by decide +kernel) (Nat.le_of_ble_eq_true rfl) (eX2_isOpen (⟨o22, ?_⟩))
        show MW mX11_tryExtendByOrder 0 0 41 [(0, vR 0), (1, vI x1), (2, vI x2)] [vI (bI (d 27 x1 = 111))] g d Q
        suffices k28 : (((¬ (d 27 x1 = 111)) ∨ (¬ (d 25 x1 < 3))) → MW mX11_tryExtendByOrder 0 0 60 [(0, vR 0), (1, vI x1), (2, vI x2)] [] g d Q) ∧ ((¬ ((¬ (d 27 x1 = 111)) ∨ (¬ (d 25 x1 < 3)))) → MW mX11_tryExtendByOrder 0 0 63 [(0, vR 0), (1, vI x1), (2, vI x2)] [] g d Q) by
          refine mw_if_eq (tgt := 60) (pc' := 44) dX11_tryExtendByOrder_41 rfl (by decide) (fun c29 => ?_) (fun c29 => ?_)
          · replace c29 := bI_0.mp c29
            exact k28.1 (Or.inl c29)
          · replace c29 := bI_n0.mp c29
            refine mw_aload_n (v := vR 0) (pc' := 45) dX11_tryExtendByOrder_44 rfl rfl (Or.inl rfl) rfl ?_
            refine mw_getP (v := 6) (pc' := 48) dX11_tryExtendByOrder_45 rfl fr_RX11_26_0 rfl sp_0_3 ⟨by decide, by decide⟩ ?_
            refine mw_getP (v := 16) (pc' := 51) dX11_tryExtendByOrder_48 rfl fr_RX11_252_6 rfl sp_6_3 ⟨by decide, by decide⟩ ?_
            refine mw_getP (v := 25) (pc' := 54) dX11_tryExtendByOrder_51 rfl fr_RX11_332_16 rfl sp_16_8 ⟨by decide, by decide⟩ ?_
            refine mw_iload_n (pc' := 55) dX11_tryExtendByOrder_54 rfl rfl rfl ?_
            refine mw_iald (pc' := 56) dX11_tryExtendByOrder_55 rfl lk_25 ⟨by decide, by decide⟩ (by rw [ln_25]; exact o22) ?_
            refine mw_iconst (pc' := 57) dX11_tryExtendByOrder_56 rfl ⟨by decide, by decide⟩ ?_
            refine mw_icmp_lt (tgt := 63) (pc' := 60) dX11_tryExtendByOrder_57 rfl (by decide) (fun c30 => ?_) (fun c30 => ?_)
            · exact k28.2 (fun h => h.elim (fun q => (q c29)) (fun h => (h c30)))
            · exact k28.1 (Or.inr c30)
        refine ⟨fun c31 => ?_, fun c31 => ?_⟩
        · replace h := h.1 c31
          refine mw_bipush (pc' := 62) dX11_tryExtendByOrder_60 rfl ⟨by decide, by decide⟩ ?_
          exact mw_iret (pc' := 0) (S := []) dX11_tryExtendByOrder_62 rfl (Or.inl rfl) h
        · replace h := h.2 c31
          refine mw_aload_n (v := vR 0) (pc' := 64) dX11_tryExtendByOrder_63 rfl rfl (Or.inl rfl) rfl ?_
          refine mw_getP (v := 6) (pc' := 67) dX11_tryExtendByOrder_64 rfl fr_RX11_26_0 rfl sp_0_3 ⟨by decide, by decide⟩ ?_
          refine mw_getP (v := 16) (pc' := 70) dX11_tryExtendByOrder_67 rfl fr_RX11_252_6 rfl sp_6_3 ⟨by decide, by decide⟩ ?_
          refine mw_getP (v := 25) (pc' := 73) dX11_tryExtendByOrder_70 rfl fr_RX11_332_16 rfl sp_16_8 ⟨by decide, by decide⟩ ?_
          refine mw_iload_n (pc' := 74) dX11_tryExtendByOrder_73 rfl rfl rfl ?_
          refine mw_dup2 (pc' := 75) dX11_tryExtendByOrder_74 rfl rfl rfl ?_
          refine mw_iald (pc' := 76) dX11_tryExtendByOrder_75 rfl lk_25 ⟨by decide, by decide⟩ (by rw [ln_25]; exact o22) ?_
          refine mw_iconst (pc' := 77) dX11_tryExtendByOrder_76 rfl ⟨by decide, by decide⟩ ?_
          obtain ⟨o33, h⟩ := h
          refine mw_iadd (pc' := 78) dX11_tryExtendByOrder_77 rfl o33 ?_
          refine mw_iast (pc' := 79) dX11_tryExtendByOrder_78 rfl lk_25 ⟨by decide, by decide⟩ (by rw [ln_25]; exact o22) ?_
          refine mw_aload_n (v := vR 0) (pc' := 80) dX11_tryExtendByOrder_79 rfl rfl (Or.inl rfl) rfl ?_
          refine mw_getP (v := 6) (pc' := 83) dX11_tryExtendByOrder_80 rfl fr_RX11_26_0 rfl sp_0_3 ⟨by decide, by decide⟩ ?_
          refine mw_getP (v := 16) (pc' := 86) dX11_tryExtendByOrder_83 rfl fr_RX11_252_6 rfl sp_6_3 ⟨by decide, by decide⟩ ?_
          refine mw_iload_n (pc' := 87) dX11_tryExtendByOrder_86 rfl rfl rfl ?_
          refine mw_iload_n (pc' := 88) dX11_tryExtendByOrder_87 rfl rfl rfl ?_
          obtain ⟨o36, h⟩ := h
          obtain ⟨o37, h⟩ := h
          refine mw_callV (M' := mX2_grant) (A := [vI x1, vI x2]) (A' := [vR 16, vI x1, vI x2]) (S := []) (a := 16) (pc' := 91) dX11_tryExtendByOrder_88 rfl cl_RX11_329 cm_X2_grant cv_X2_grant ⟨by decide, by decide, by decide, by decide, by decide⟩ rfl rfl rfl ⟨by decide, by omega⟩ (by decide +kernel) (by decide +kernel) (Nat.le_of_ble_eq_true rfl) (eX2_grant (⟨o22, o36, o37, ?_⟩))
          show MW mX11_tryExtendByOrder 0 0 91 [(0, vR 0), (1, vI x1), (2, vI x2)] [vI ((d 26 x1) + x2)] g (ud (ud (ud (ud d 25 x1 ((d 25 x1) + 1)) 22 (x1 * 7 + d 21 x1) x2) 21 x1 ((d 21 x1) + 1)) 26 x1 ((d 26 x1) + x2)) Q
          exact mw_iret (pc' := 0) (S := []) dX11_tryExtendByOrder_91 rfl (Or.inl rfl) h
      · replace h := h.2 c21
        refine mw_bipush (pc' := 29) dX11_tryExtendByOrder_27 rfl ⟨by decide, by decide⟩ ?_
        exact mw_iret (pc' := 0) (S := []) dX11_tryExtendByOrder_29 rfl (Or.inl rfl) h
  · replace c7 := bI_0.mp c7
    replace h := h.2 c7
    refine mw_iconst (pc' := 15) dX11_tryExtendByOrder_14 rfl ⟨by decide, by decide⟩ ?_
    exact mw_iret (pc' := 0) (S := []) dX11_tryExtendByOrder_15 rfl (Or.inl rfl) h
theorem eX11_tryFile {R : rW} {x1 : Int} {g : mG} {d : mD} {Q : mQ} (h : (((¬ (x1 < 0)) ∧ (¬ (d 16 11 ≤ x1))) → (0 ≤ x1 ∧ x1 < 30) ∧ (((d 27 x1 = 111) → (CI d R) ∧ ((0 ≤ x1 ∧ x1 < R 3) ∧ (∀ d8, FrW d d8 → ((0 ≤ iT (¬ (d 10 0 ≤ dueF R x1)) 108 116 ∧ iT (¬ (d 10 0 ≤ dueF R x1)) 108 116 ≤ 65535) ∧ (Q (.inl (bI (d 10 0 ≤ dueF R x1))) g (ud d8 27 x1 (iT (¬ (d 10 0 ≤ dueF R x1)) 108 116))))))) ∧ ((¬ (d 27 x1 = 111)) → Q (.inl (-3)) g d))) ∧ ((¬ ((¬ (x1 < 0)) ∧ (¬ (d 16 11 ≤ x1)))) → Q (.inl (-1)) g d)) : MM mX11_tryFile [vR 0, vI x1] g d Q := by
  refine MM_of (by decide) rfl (by simp [catV]) (Nat.le_of_ble_eq_true rfl) ?_
  show MW mX11_tryFile 0 0 0 [(0, vR 0), (1, vI x1)] [] g d Q
  refine mw_top (fun hT => ?_)
  have hG : 65 ≤ g.2.1 := hT.2
  refine mw_aload_n (v := vR 0) (pc' := 1) dX11_tryFile_0 rfl rfl (Or.inl rfl) rfl ?_
  refine mw_getP (v := 6) (pc' := 4) dX11_tryFile_1 rfl fr_RX11_26_0 rfl sp_0_3 ⟨by decide, by decide⟩ ?_
  refine mw_getP (v := 16) (pc' := 7) dX11_tryFile_4 rfl fr_RX11_252_6 rfl sp_6_3 ⟨by decide, by decide⟩ ?_
  refine mw_iload_n (pc' := 8) dX11_tryFile_7 rfl rfl rfl ?_
  refine mw_callV (M' := mX2_has) (A := [vI x1]) (A' := [vR 16, vI x1]) (S := []) (a := 16) (pc' := 11) dX11_tryFile_8 rfl cl_RX11_322 cm_X2_has cv_X2_has ⟨by decide, by decide, by decide, by decide, by decide⟩ rfl rfl rfl ⟨by decide, by omega⟩ (by decide +kernel) (by decide +kernel) (Nat.le_of_ble_eq_true rfl) (eX2_has_d ?_)
  show MW mX11_tryFile 0 0 11 [(0, vR 0), (1, vI x1)] [vI (bI ((¬ (x1 < 0)) ∧ (¬ (d 16 11 ≤ x1))))] g d Q
  refine mw_if_ne (tgt := 16) (pc' := 14) dX11_tryFile_11 rfl (by decide) (fun c3 => ?_) (fun c3 => ?_)
  · replace c3 := bI_n0.mp c3
    replace h := h.1 c3
    refine mw_aload_n (v := vR 0) (pc' := 17) dX11_tryFile_16 rfl rfl (Or.inl rfl) rfl ?_
    refine mw_getP (v := 6) (pc' := 20) dX11_tryFile_17 rfl fr_RX11_26_0 rfl sp_0_3 ⟨by decide, by decide⟩ ?_
    refine mw_getP (v := 16) (pc' := 23) dX11_tryFile_20 rfl fr_RX11_252_6 rfl sp_6_3 ⟨by decide, by decide⟩ ?_
    refine mw_iload_n (pc' := 24) dX11_tryFile_23 rfl rfl rfl ?_
    obtain ⟨o4, h⟩ := h
    refine mw_callV (M' := mX2_isOpen) (A := [vI x1]) (A' := [vR 16, vI x1]) (S := []) (a := 16) (pc' := 27) dX11_tryFile_24 rfl cl_RX11_300 cm_X2_isOpen cv_X2_isOpen ⟨by decide, by decide, by decide, by decide, by decide⟩ rfl rfl rfl ⟨by decide, by omega⟩ (by decide +kernel) (by decide +kernel) (Nat.le_of_ble_eq_true rfl) (eX2_isOpen (⟨o4, ?_⟩))
    show MW mX11_tryFile 0 0 27 [(0, vR 0), (1, vI x1)] [vI (bI (d 27 x1 = 111))] g d Q
    refine mw_if_ne (tgt := 33) (pc' := 30) dX11_tryFile_27 rfl (by decide) (fun c5 => ?_) (fun c5 => ?_)
    · replace c5 := bI_n0.mp c5
      replace h := h.1 c5
      refine mw_aload_n (v := vR 0) (pc' := 34) dX11_tryFile_33 rfl rfl (Or.inl rfl) rfl ?_
      refine mw_getP (v := 53) (pc' := 37) dX11_tryFile_34 rfl fr_RX11_47_0 rfl sp_0_7 ⟨by decide, by decide⟩ ?_
      refine mw_aload_n (v := vR 0) (pc' := 38) dX11_tryFile_37 rfl rfl (Or.inl rfl) rfl ?_
      refine mw_getP (v := 6) (pc' := 41) dX11_tryFile_38 rfl fr_RX11_26_0 rfl sp_0_3 ⟨by decide, by decide⟩ ?_
      refine mw_getP (v := 16) (pc' := 44) dX11_tryFile_41 rfl fr_RX11_252_6 rfl sp_6_3 ⟨by decide, by decide⟩ ?_
      refine mw_iload_n (pc' := 45) dX11_tryFile_44 rfl rfl rfl ?_
      refine mw_callV (M' := mX10_endOf) (A := [vR 16, vI x1]) (A' := [vR 53, vR 16, vI x1]) (S := []) (a := 53) (pc' := 48) dX11_tryFile_45 rfl cl_RX11_262 cm_X10_endOf cv_X10_endOf ⟨by decide, by decide, by decide, by decide, by decide⟩ rfl rfl rfl ⟨by decide, by omega⟩ (by decide +kernel) (by decide +kernel) (Nat.le_of_ble_eq_true rfl) (f_endOfW (R := R) ?_)
      obtain ⟨o6, h⟩ := h
      refine ⟨o6, ?_⟩
      obtain ⟨o7, h⟩ := h
      refine ⟨o7, ?_⟩
      intro d8 q9
      replace h := h d8 q9
      show MW mX11_tryFile 0 0 48 [(0, vR 0), (1, vI x1)] [vI (dueF R x1)] g d8 Q
      refine mw_aload_n (v := vR 0) (pc' := 49) dX11_tryFile_48 rfl rfl (Or.inl rfl) rfl ?_
      refine mw_getP (v := 6) (pc' := 52) dX11_tryFile_49 rfl fr_RX11_26_0 rfl sp_0_3 ⟨by decide, by decide⟩ ?_
      refine mw_getP (v := 10) (pc' := 55) dX11_tryFile_52 rfl fr_RX11_36_6 rfl sp_6_1 ⟨by decide, by decide⟩ ?_
      refine mw_getI (ji := 0) (pc' := 58) dX11_tryFile_55 rfl fi_RX11_152_10 rfl ⟨by decide, by decide⟩ ?_
      refine mw_st (b := d 10 0) (Eq.trans (q9 (by omega)) (rfl)) ?_
      suffices k10 : MW mX11_tryFile 0 0 66 [(0, vR 0), (1, vI x1)] [vI (bI (¬ (d 10 0 ≤ dueF R x1)))] g d8 Q by
        refine mw_icmp_ge (tgt := 65) (pc' := 61) dX11_tryFile_58 rfl (by decide) (fun c11 => ?_) (fun c11 => ?_)
        · refine mw_iconst (pc' := 66) dX11_tryFile_65 rfl ⟨by decide, by decide⟩ ?_
          exact mw_st (bI_f (fun h => (h c11))).symm k10
        · refine mw_iconst (pc' := 62) dX11_tryFile_61 rfl ⟨by decide, by decide⟩ ?_
          refine mw_goto (pc' := 0) (tgt := 66) dX11_tryFile_62 (by decide) ?_
          exact mw_st (bI_t c11).symm k10
      refine mw_istore_n (pc' := 67) (L' := [(0, vR 0), (1, vI x1), (2, vI (bI (¬ (d 10 0 ≤ dueF R x1))))]) dX11_tryFile_66 rfl rfl (by decide) rfl ?_
      refine mw_aload_n (v := vR 0) (pc' := 68) dX11_tryFile_67 rfl rfl (Or.inl rfl) rfl ?_
      refine mw_getP (v := 6) (pc' := 71) dX11_tryFile_68 rfl fr_RX11_26_0 rfl sp_0_3 ⟨by decide, by decide⟩ ?_
      refine mw_getP (v := 16) (pc' := 74) dX11_tryFile_71 rfl fr_RX11_252_6 rfl sp_6_3 ⟨by decide, by decide⟩ ?_
      refine mw_getP (v := 27) (pc' := 77) dX11_tryFile_74 rfl fr_RX11_293_16 rfl sp_16_10 ⟨by decide, by decide⟩ ?_
      refine mw_iload_n (pc' := 78) dX11_tryFile_77 rfl rfl rfl ?_
      refine mw_iload_n (pc' := 79) dX11_tryFile_78 rfl rfl rfl ?_
      suffices k12 : MW mX11_tryFile 0 0 89 [(0, vR 0), (1, vI x1), (2, vI (bI (¬ (d 10 0 ≤ dueF R x1))))] [vI (iT (¬ (d 10 0 ≤ dueF R x1)) 108 116), vI x1, vR 27] g d8 Q by
        refine mw_if_eq (tgt := 87) (pc' := 82) dX11_tryFile_79 rfl (by decide) (fun c13 => ?_) (fun c13 => ?_)
        · replace c13 := bI_0.mp c13
          replace c13 := (Classical.not_not.mp c13)
          refine mw_bipush (pc' := 89) dX11_tryFile_87 rfl ⟨by decide, by decide⟩ ?_
          exact mw_st (((iT_f (fun z => z c13)).trans rfl)).symm k12
        · replace c13 := bI_n0.mp c13
          refine mw_bipush (pc' := 84) dX11_tryFile_82 rfl ⟨by decide, by decide⟩ ?_
          refine mw_goto (pc' := 0) (tgt := 89) dX11_tryFile_84 (by decide) ?_
          exact mw_st (((iT_t c13).trans rfl)).symm k12
      obtain ⟨o15, h⟩ := h
      refine mw_cast (pc' := 90) dX11_tryFile_89 rfl lk_27 ⟨by decide, by decide⟩ (by rw [ln_27]; exact o4) o15 ?_
      refine mw_iload_n (pc' := 91) dX11_tryFile_90 rfl rfl rfl ?_
      suffices k16 : MW mX11_tryFile 0 0 99 [(0, vR 0), (1, vI x1), (2, vI (bI (¬ (d 10 0 ≤ dueF R x1))))] [vI (bI (d 10 0 ≤ dueF R x1))] g (ud d8 27 x1 (iT (¬ (d 10 0 ≤ dueF R x1)) 108 116)) Q by
        refine mw_if_eq (tgt := 98) (pc' := 94) dX11_tryFile_91 rfl (by decide) (fun c17 => ?_) (fun c17 => ?_)
        · replace c17 := bI_0.mp c17
          replace c17 := (Classical.not_not.mp c17)
          refine mw_iconst (pc' := 99) dX11_tryFile_98 rfl ⟨by decide, by decide⟩ ?_
          exact mw_st (bI_t c17).symm k16
        · replace c17 := bI_n0.mp c17
          refine mw_iconst (pc' := 95) dX11_tryFile_94 rfl ⟨by decide, by decide⟩ ?_
          refine mw_goto (pc' := 0) (tgt := 99) dX11_tryFile_95 (by decide) ?_
          exact mw_st (bI_f (fun h => (c17 h))).symm k16
      exact mw_iret (pc' := 0) (S := []) dX11_tryFile_99 rfl (Or.inl rfl) h
    · replace c5 := bI_0.mp c5
      replace h := h.2 c5
      refine mw_bipush (pc' := 32) dX11_tryFile_30 rfl ⟨by decide, by decide⟩ ?_
      exact mw_iret (pc' := 0) (S := []) dX11_tryFile_32 rfl (Or.inl rfl) h
  · replace c3 := bI_0.mp c3
    replace h := h.2 c3
    refine mw_iconst (pc' := 15) dX11_tryFile_14 rfl ⟨by decide, by decide⟩ ?_
    exact mw_iret (pc' := 0) (S := []) dX11_tryFile_15 rfl (Or.inl rfl) h
theorem eX11_tryStrike {x1 : Int} {g : mG} {d : mD} {Q : mQ} (h : (((¬ (x1 < 0)) ∧ (¬ (d 16 11 ≤ x1))) → (0 ≤ x1 ∧ x1 < 30) ∧ (((d 27 x1 = 111) → (0 ≤ d 16 11 ∧ d 16 (11 : Int) ≤ 30) ∧ (Q (.inl (nuF (fun i => ((ud d 27 x1 115) 27 i) = 111) (d 16 11))) g (ud d 27 x1 115))) ∧ ((¬ (d 27 x1 = 111)) → Q (.inl (-3)) g d))) ∧ ((¬ ((¬ (x1 < 0)) ∧ (¬ (d 16 11 ≤ x1)))) → Q (.inl (-1)) g d)) : MM mX11_tryStrike [vR 0, vI x1] g d Q := by
  refine MM_of (by decide) rfl (by simp [catV]) (Nat.le_of_ble_eq_true rfl) ?_
  show MW mX11_tryStrike 0 0 0 [(0, vR 0), (1, vI x1)] [] g d Q
  refine mw_top (fun hT => ?_)
  have hG : 65 ≤ g.2.1 := hT.2
  refine mw_aload_n (v := vR 0) (pc' := 1) dX11_tryStrike_0 rfl rfl (Or.inl rfl) rfl ?_
  refine mw_getP (v := 6) (pc' := 4) dX11_tryStrike_1 rfl fr_RX11_26_0 rfl sp_0_3 ⟨by decide, by decide⟩ ?_
  refine mw_getP (v := 16) (pc' := 7) dX11_tryStrike_4 rfl fr_RX11_252_6 rfl sp_6_3 ⟨by decide, by decide⟩ ?_
  refine mw_iload_n (pc' := 8) dX11_tryStrike_7 rfl rfl rfl ?_
  refine mw_callV (M' := mX2_has) (A := [vI x1]) (A' := [vR 16, vI x1]) (S := []) (a := 16) (pc' := 11) dX11_tryStrike_8 rfl cl_RX11_322 cm_X2_has cv_X2_has ⟨by decide, by decide, by decide, by decide, by decide⟩ rfl rfl rfl ⟨by decide, by omega⟩ (by decide +kernel) (by decide +kernel) (Nat.le_of_ble_eq_true rfl) (eX2_has_d ?_)
  show MW mX11_tryStrike 0 0 11 [(0, vR 0), (1, vI x1)] [vI (bI ((¬ (x1 < 0)) ∧ (¬ (d 16 11 ≤ x1))))] g d Q
  refine mw_if_ne (tgt := 16) (pc' := 14) dX11_tryStrike_11 rfl (by decide) (fun c3 => ?_) (fun c3 => ?_)
  · replace c3 := bI_n0.mp c3
    replace h := h.1 c3
    refine mw_aload_n (v := vR 0) (pc' := 17) dX11_tryStrike_16 rfl rfl (Or.inl rfl) rfl ?_
    refine mw_getP (v := 6) (pc' := 20) dX11_tryStrike_17 rfl fr_RX11_26_0 rfl sp_0_3 ⟨by decide, by decide⟩ ?_
    refine mw_getP (v := 16) (pc' := 23) dX11_tryStrike_20 rfl fr_RX11_252_6 rfl sp_6_3 ⟨by decide, by decide⟩ ?_
    refine mw_iload_n (pc' := 24) dX11_tryStrike_23 rfl rfl rfl ?_
    obtain ⟨o4, h⟩ := h
    refine mw_callV (M' := mX2_isOpen) (A := [vI x1]) (A' := [vR 16, vI x1]) (S := []) (a := 16) (pc' := 27) dX11_tryStrike_24 rfl cl_RX11_300 cm_X2_isOpen cv_X2_isOpen ⟨by decide, by decide, by decide, by decide, by decide⟩ rfl rfl rfl ⟨by decide, by omega⟩ (by decide +kernel) (by decide +kernel) (Nat.le_of_ble_eq_true rfl) (eX2_isOpen (⟨o4, ?_⟩))
    show MW mX11_tryStrike 0 0 27 [(0, vR 0), (1, vI x1)] [vI (bI (d 27 x1 = 111))] g d Q
    refine mw_if_ne (tgt := 33) (pc' := 30) dX11_tryStrike_27 rfl (by decide) (fun c5 => ?_) (fun c5 => ?_)
    · replace c5 := bI_n0.mp c5
      replace h := h.1 c5
      refine mw_aload_n (v := vR 0) (pc' := 34) dX11_tryStrike_33 rfl rfl (Or.inl rfl) rfl ?_
      refine mw_getP (v := 6) (pc' := 37) dX11_tryStrike_34 rfl fr_RX11_26_0 rfl sp_0_3 ⟨by decide, by decide⟩ ?_
      refine mw_getP (v := 16) (pc' := 40) dX11_tryStrike_37 rfl fr_RX11_252_6 rfl sp_6_3 ⟨by decide, by decide⟩ ?_
      refine mw_getP (v := 27) (pc' := 43) dX11_tryStrike_40 rfl fr_RX11_293_16 rfl sp_16_10 ⟨by decide, by decide⟩ ?_
      refine mw_iload_n (pc' := 44) dX11_tryStrike_43 rfl rfl rfl ?_
      refine mw_bipush (pc' := 46) dX11_tryStrike_44 rfl ⟨by decide, by decide⟩ ?_
      refine mw_cast (pc' := 47) dX11_tryStrike_46 rfl lk_27 ⟨by decide, by decide⟩ (by rw [ln_27]; exact o4) ⟨by decide, by decide⟩ ?_
      refine mw_aload_n (v := vR 0) (pc' := 48) dX11_tryStrike_47 rfl rfl (Or.inl rfl) rfl ?_
      refine mw_getP (v := 6) (pc' := 51) dX11_tryStrike_48 rfl fr_RX11_26_0 rfl sp_0_3 ⟨by decide, by decide⟩ ?_
      refine mw_getP (v := 16) (pc' := 54) dX11_tryStrike_51 rfl fr_RX11_252_6 rfl sp_6_3 ⟨by decide, by decide⟩ ?_
      obtain ⟨o7, h⟩ := h
      refine mw_callV (M' := mX2_countOpen) (A := []) (A' := [vR 16]) (S := []) (a := 16) (pc' := 57) dX11_tryStrike_54 rfl cl_RX11_335 cm_X2_countOpen cv_X2_countOpen ⟨by decide, by decide, by decide, by decide, by decide⟩ rfl rfl rfl ⟨by decide, by omega⟩ (by decide +kernel) (by decide +kernel) (Nat.le_of_ble_eq_true rfl) (f_countOpen (⟨o7, ?_⟩))
      show MW mX11_tryStrike 0 0 57 [(0, vR 0), (1, vI x1)] [vI (nuF (fun i => ((ud d 27 x1 115) 27 i) = 111) (d 16 11))] g (ud d 27 x1 115) Q
      exact mw_iret (pc' := 0) (S := []) dX11_tryStrike_57 rfl (Or.inl rfl) h
    · replace c5 := bI_0.mp c5
      replace h := h.2 c5
      refine mw_bipush (pc' := 32) dX11_tryStrike_30 rfl ⟨by decide, by decide⟩ ?_
      exact mw_iret (pc' := 0) (S := []) dX11_tryStrike_32 rfl (Or.inl rfl) h
  · replace c3 := bI_0.mp c3
    replace h := h.2 c3
    refine mw_iconst (pc' := 15) dX11_tryStrike_14 rfl ⟨by decide, by decide⟩ ?_
    exact mw_iret (pc' := 0) (S := []) dX11_tryStrike_15 rfl (Or.inl rfl) h
theorem eX11_tryStayParty {x1 x2 : Int} {g : mG} {d : mD} {Q : mQ} (h : (((¬ (x1 < 0)) ∧ (¬ (d 7 2 ≤ x1))) → MM mX11_tryStay [vR 0, vI x1, vI x2] g d (fun o g4 d5 => match o with | .inl v3 => Q (.inl v3) g4 d5 | .inr k => Q (.inr k) g4 d5)) ∧ ((¬ ((¬ (x1 < 0)) ∧ (¬ (d 7 2 ≤ x1)))) → Q (.inl (-1)) g d)) : MM mX11_tryStayParty [vR 0, vI x1, vI x2] g d Q := by
  refine MM_of (by decide) rfl (by simp [catV]) (Nat.le_of_ble_eq_true rfl) ?_
  show MW mX11_tryStayParty 0 0 0 [(0, vR 0), (1, vI x1), (2, vI x2)] [] g d Q
  refine mw_top (fun hT => ?_)
  have hG : 65 ≤ g.2.1 := hT.2
  refine mw_aload_n (v := vR 0) (pc' := 1) dX11_tryStayParty_0 rfl rfl (Or.inl rfl) rfl ?_
  refine mw_getP (v := 6) (pc' := 4) dX11_tryStayParty_1 rfl fr_RX11_26_0 rfl sp_0_3 ⟨by decide, by decide⟩ ?_
  refine mw_getP (v := 7) (pc' := 7) dX11_tryStayParty_4 rfl fr_RX11_107_6 rfl sp_6_0 ⟨by decide, by decide⟩ ?_
  refine mw_iload_n (pc' := 8) dX11_tryStayParty_7 rfl rfl rfl ?_
  refine mw_callV (M' := mX5_has) (A := [vI x1]) (A' := [vR 7, vI x1]) (S := []) (a := 7) (pc' := 11) dX11_tryStayParty_8 rfl cl_RX11_146 cm_X5_has cv_X5_has ⟨by decide, by decide, by decide, by decide, by decide⟩ rfl rfl rfl ⟨by decide, by omega⟩ (by decide +kernel) (by decide +kernel) (Nat.le_of_ble_eq_true rfl) (eX5_has ?_)
  show MW mX11_tryStayParty 0 0 11 [(0, vR 0), (1, vI x1), (2, vI x2)] [vI (bI ((¬ (x1 < 0)) ∧ (¬ (d 7 2 ≤ x1))))] g d Q
  refine mw_if_eq (tgt := 23) (pc' := 14) dX11_tryStayParty_11 rfl (by decide) (fun c1 => ?_) (fun c1 => ?_)
  · replace c1 := bI_0.mp c1
    replace h := h.2 c1
    refine mw_iconst (pc' := 24) dX11_tryStayParty_23 rfl ⟨by decide, by decide⟩ ?_
    exact mw_iret (pc' := 0) (S := []) dX11_tryStayParty_24 rfl (Or.inl rfl) h
  · replace c1 := bI_n0.mp c1
    replace h := h.1 c1
    refine mw_aload_n (v := vR 0) (pc' := 15) dX11_tryStayParty_14 rfl rfl (Or.inl rfl) rfl ?_
    refine mw_iload_n (pc' := 16) dX11_tryStayParty_15 rfl rfl rfl ?_
    refine mw_iload_n (pc' := 17) dX11_tryStayParty_16 rfl rfl rfl ?_
    refine mw_callV (M' := mX11_tryStay) (A := [vI x1, vI x2]) (A' := [vR 0, vI x1, vI x2]) (S := []) (a := 0) (pc' := 20) dX11_tryStayParty_17 rfl cl_RX11_345 cm_X11_tryStay cv_X11_tryStay ⟨by decide, by decide, by decide, by decide, by decide⟩ rfl rfl rfl ⟨by decide, by omega⟩ (by decide +kernel) (by decide +kernel) (Nat.le_of_ble_eq_true rfl) (MM.mono ?_ h)
    intro o g4 d5 h2
    rcases o with v3 | k
    · refine mw_top (fun hT => ?_)
      have hG : 65 ≤ g4.2.1 := hT.2
      show MW mX11_tryStayParty 0 0 20 [(0, vR 0), (1, vI x1), (2, vI x2)] [vI v3] g4 d5 Q
      refine mw_goto (pc' := 0) (tgt := 24) dX11_tryStayParty_20 (by decide) ?_
      exact mw_iret (pc' := 0) (S := []) dX11_tryStayParty_24 rfl (Or.inl rfl) h2
    · exact mx_out rfl h2
theorem eX11_tryStay {x1 x2 : Int} {g : mG} {d : mD} {Q : mQ} (h : (((x2 < 1) ∨ (¬ (x2 ≤ 255))) → Q (.inl (-2)) g d) ∧ ((¬ ((x2 < 1) ∨ (¬ (x2 ≤ 255)))) → ((d 28 4 < 12) → ((d 28 (4 : Int) < 12) → (0 ≤ d 28 4 ∧ d 28 (4 : Int) < 12) ∧ ((iI ((d 28 4) + 1)) ∧ ((iI (((d 28 4) + 1) - 1)) ∧ (Q (.inl (((d 28 4) + 1) - 1)) g (ud (ud (ud (ud (ud d 29 (d 28 4) x1) 30 (d 28 4) x2) 31 (d 28 4) (d 10 0)) 32 (d 28 4) 4999) 28 4 ((d 28 4) + 1)))))) ∧ ((¬ (d 28 (4 : Int) < 12)) → Q (.inl (-3)) g d)) ∧ ((¬ (d 28 4 < 12)) → Q (.inl (-3)) g d))) : MM mX11_tryStay [vR 0, vI x1, vI x2] g d Q := by
  refine MM_of (by decide) rfl (by simp [catV]) (Nat.le_of_ble_eq_true rfl) ?_
  show MW mX11_tryStay 0 0 0 [(0, vR 0), (1, vI x1), (2, vI x2)] [] g d Q
  refine mw_top (fun hT => ?_)
  have hG : 65 ≤ g.2.1 := hT.2
  refine mw_iload_n (pc' := 1) dX11_tryStay_0 rfl rfl rfl ?_
  refine mw_iconst (pc' := 2) dX11_tryStay_1 rfl ⟨by decide, by decide⟩ ?_
  suffices k1 : (((x2 < 1) ∨ (¬ (x2 ≤ 255))) → MW mX11_tryStay 0 0 12 [(0, vR 0), (1, vI x1), (2, vI x2)] [] g d Q) ∧ ((¬ ((x2 < 1) ∨ (¬ (x2 ≤ 255)))) → MW mX11_tryStay 0 0 15 [(0, vR 0), (1, vI x1), (2, vI x2)] [] g d Q) by
    refine mw_icmp_lt (tgt := 12) (pc' := 5) dX11_tryStay_2 rfl (by decide) (fun c2 => ?_) (fun c2 => ?_)
    · exact k1.1 (Or.inl c2)
    · refine mw_iload_n (pc' := 6) dX11_tryStay_5 rfl rfl rfl ?_
      refine mw_sipush (pc' := 9) dX11_tryStay_6 rfl ⟨by decide, by decide⟩ ?_
      refine mw_icmp_le (tgt := 15) (pc' := 12) dX11_tryStay_9 rfl (by decide) (fun c3 => ?_) (fun c3 => ?_)
      · exact k1.2 (fun h => h.elim (fun q => (c2 q)) (fun h => (h c3)))
      · exact k1.1 (Or.inr c3)
  refine ⟨fun c4 => ?_, fun c4 => ?_⟩
  · replace h := h.1 c4
    refine mw_bipush (pc' := 14) dX11_tryStay_12 rfl ⟨by decide, by decide⟩ ?_
    exact mw_iret (pc' := 0) (S := []) dX11_tryStay_14 rfl (Or.inl rfl) h
  · replace h := h.2 c4
    refine mw_aload_n (v := vR 0) (pc' := 16) dX11_tryStay_15 rfl rfl (Or.inl rfl) rfl ?_
    refine mw_getP (v := 6) (pc' := 19) dX11_tryStay_16 rfl fr_RX11_26_0 rfl sp_0_3 ⟨by decide, by decide⟩ ?_
    refine mw_getP (v := 28) (pc' := 22) dX11_tryStay_19 rfl fr_RX11_40_6 rfl sp_6_4 ⟨by decide, by decide⟩ ?_
    refine mw_getI (ji := 4) (pc' := 25) dX11_tryStay_22 rfl fi_RX11_361_28 rfl ⟨by decide, by decide⟩ ?_
    refine mw_bipush (pc' := 27) dX11_tryStay_25 rfl ⟨by decide, by decide⟩ ?_
    refine mw_icmp_lt (tgt := 33) (pc' := 30) dX11_tryStay_27 rfl (by decide) (fun c5 => ?_) (fun c5 => ?_)
    · replace h := h.1 c5
      refine mw_aload_n (v := vR 0) (pc' := 34) dX11_tryStay_33 rfl rfl (Or.inl rfl) rfl ?_
      refine mw_getP (v := 6) (pc' := 37) dX11_tryStay_34 rfl fr_RX11_26_0 rfl sp_0_3 ⟨by decide, by decide⟩ ?_
      refine mw_getP (v := 28) (pc' := 40) dX11_tryStay_37 rfl fr_RX11_40_6 rfl sp_6_4 ⟨by decide, by decide⟩ ?_
      refine mw_iload_n (pc' := 41) dX11_tryStay_40 rfl rfl rfl ?_
      refine mw_iload_n (pc' := 42) dX11_tryStay_41 rfl rfl rfl ?_
      refine mw_aload_n (v := vR 0) (pc' := 43) dX11_tryStay_42 rfl rfl (Or.inl rfl) rfl ?_
      refine mw_getP (v := 6) (pc' := 46) dX11_tryStay_43 rfl fr_RX11_26_0 rfl sp_0_3 ⟨by decide, by decide⟩ ?_
      refine mw_getP (v := 10) (pc' := 49) dX11_tryStay_46 rfl fr_RX11_36_6 rfl sp_6_1 ⟨by decide, by decide⟩ ?_
      refine mw_getI (ji := 0) (pc' := 52) dX11_tryStay_49 rfl fi_RX11_152_10 rfl ⟨by decide, by decide⟩ ?_
      refine mw_callV (M' := mX8_add) (A := [vI x1, vI x2, vI (d 10 0)]) (A' := [vR 28, vI x1, vI x2, vI (d 10 0)]) (S := []) (a := 28) (pc' := 55) dX11_tryStay_52 rfl cl_RX11_362 cm_X8_add cv_X8_add ⟨by decide, by decide, by decide, by decide, by decide⟩ rfl rfl rfl ⟨by decide, by omega⟩ (by decide +kernel) (by decide +kernel) (Nat.le_of_ble_eq_true rfl) (eX8_add ?_)
      refine ⟨fun c6 => ?_, fun c6 => ?_⟩
      · replace h := h.1 (show d 28 (4 : Int) < 12 from c6)
        obtain ⟨o7, h⟩ := h
        refine ⟨o7, ?_⟩
        obtain ⟨o8, h⟩ := h
        refine ⟨o8, ?_⟩
        obtain ⟨o9, h⟩ := h
        refine ⟨o9, ?_⟩
        show MW mX11_tryStay 0 0 55 [(0, vR 0), (1, vI x1), (2, vI x2)] [vI (((d 28 4) + 1) - 1)] g (ud (ud (ud (ud (ud d 29 (d 28 4) x1) 30 (d 28 4) x2) 31 (d 28 4) (d 10 0)) 32 (d 28 4) 4999) 28 4 ((d 28 4) + 1)) Q
        exact mw_iret (pc' := 0) (S := []) dX11_tryStay_55 rfl (Or.inl rfl) h
      · replace h := h.2 (show ¬ (d 28 (4 : Int) < 12) from c6)
        show MW mX11_tryStay 0 0 55 [(0, vR 0), (1, vI x1), (2, vI x2)] [vI (-3)] g d Q
        exact mw_iret (pc' := 0) (S := []) dX11_tryStay_55 rfl (Or.inl rfl) h
    · replace h := h.2 c5
      refine mw_bipush (pc' := 32) dX11_tryStay_30 rfl ⟨by decide, by decide⟩ ?_
      exact mw_iret (pc' := 0) (S := []) dX11_tryStay_32 rfl (Or.inl rfl) h
theorem eX11_tryLift {x1 : Int} {g : mG} {d : mD} {Q : mQ} (h : (((¬ (x1 < 0)) ∧ (¬ (d 28 4 ≤ x1))) → (0 ≤ x1 ∧ x1 < 12) ∧ (((d 32 x1 = 4999) → (iI ((d 10 0) - (d 31 x1))) ∧ (Q (.inl ((d 10 0) - (d 31 x1))) g (ud d 32 x1 (d 10 0)))) ∧ ((¬ (d 32 x1 = 4999)) → Q (.inl (-3)) g d))) ∧ ((¬ ((¬ (x1 < 0)) ∧ (¬ (d 28 4 ≤ x1)))) → Q (.inl (-1)) g d)) : MM mX11_tryLift [vR 0, vI x1] g d Q := by
  refine MM_of (by decide) rfl (by simp [catV]) (Nat.le_of_ble_eq_true rfl) ?_
  show MW mX11_tryLift 0 0 0 [(0, vR 0), (1, vI x1)] [] g d Q
  refine mw_top (fun hT => ?_)
  have hG : 65 ≤ g.2.1 := hT.2
  refine mw_aload_n (v := vR 0) (pc' := 1) dX11_tryLift_0 rfl rfl (Or.inl rfl) rfl ?_
  refine mw_getP (v := 6) (pc' := 4) dX11_tryLift_1 rfl fr_RX11_26_0 rfl sp_0_3 ⟨by decide, by decide⟩ ?_
  refine mw_getP (v := 28) (pc' := 7) dX11_tryLift_4 rfl fr_RX11_40_6 rfl sp_6_4 ⟨by decide, by decide⟩ ?_
  refine mw_iload_n (pc' := 8) dX11_tryLift_7 rfl rfl rfl ?_
  refine mw_callV (M' := mX8_has) (A := [vI x1]) (A' := [vR 28, vI x1]) (S := []) (a := 28) (pc' := 11) dX11_tryLift_8 rfl cl_RX11_365 cm_X8_has cv_X8_has ⟨by decide, by decide, by decide, by decide, by decide⟩ rfl rfl rfl ⟨by decide, by omega⟩ (by decide +kernel) (by decide +kernel) (Nat.le_of_ble_eq_true rfl) (eX8_has ?_)
  show MW mX11_tryLift 0 0 11 [(0, vR 0), (1, vI x1)] [vI (bI ((¬ (x1 < 0)) ∧ (¬ (d 28 4 ≤ x1))))] g d Q
  refine mw_if_ne (tgt := 16) (pc' := 14) dX11_tryLift_11 rfl (by decide) (fun c3 => ?_) (fun c3 => ?_)
  · replace c3 := bI_n0.mp c3
    replace h := h.1 c3
    refine mw_aload_n (v := vR 0) (pc' := 17) dX11_tryLift_16 rfl rfl (Or.inl rfl) rfl ?_
    refine mw_getP (v := 6) (pc' := 20) dX11_tryLift_17 rfl fr_RX11_26_0 rfl sp_0_3 ⟨by decide, by decide⟩ ?_
    refine mw_getP (v := 28) (pc' := 23) dX11_tryLift_20 rfl fr_RX11_40_6 rfl sp_6_4 ⟨by decide, by decide⟩ ?_
    refine mw_iload_n (pc' := 24) dX11_tryLift_23 rfl rfl rfl ?_
    obtain ⟨o4, h⟩ := h
    refine mw_callV (M' := mX8_isInForce) (A := [vI x1]) (A' := [vR 28, vI x1]) (S := []) (a := 28) (pc' := 27) dX11_tryLift_24 rfl cl_RX11_366 cm_X8_isInForce cv_X8_isInForce ⟨by decide, by decide, by decide, by decide, by decide⟩ rfl rfl rfl ⟨by decide, by omega⟩ (by decide +kernel) (by decide +kernel) (Nat.le_of_ble_eq_true rfl) (eX8_isInForce (⟨o4, ?_⟩))
    show MW mX11_tryLift 0 0 27 [(0, vR 0), (1, vI x1)] [vI (bI (d 32 x1 = 4999))] g d Q
    refine mw_if_ne (tgt := 33) (pc' := 30) dX11_tryLift_27 rfl (by decide) (fun c5 => ?_) (fun c5 => ?_)
    · replace c5 := bI_n0.mp c5
      replace h := h.1 c5
      refine mw_aload_n (v := vR 0) (pc' := 34) dX11_tryLift_33 rfl rfl (Or.inl rfl) rfl ?_
      refine mw_getP (v := 6) (pc' := 37) dX11_tryLift_34 rfl fr_RX11_26_0 rfl sp_0_3 ⟨by decide, by decide⟩ ?_
      refine mw_getP (v := 28) (pc' := 40) dX11_tryLift_37 rfl fr_RX11_40_6 rfl sp_6_4 ⟨by decide, by decide⟩ ?_
      refine mw_getP (v := 32) (pc' := 43) dX11_tryLift_40 rfl fr_RX11_369_28 rfl sp_28_3 ⟨by decide, by decide⟩ ?_
      refine mw_iload_n (pc' := 44) dX11_tryLift_43 rfl rfl rfl ?_
      refine mw_aload_n (v := vR 0) (pc' := 45) dX11_tryLift_44 rfl rfl (Or.inl rfl) rfl ?_
      refine mw_getP (v := 6) (pc' := 48) dX11_tryLift_45 rfl fr_RX11_26_0 rfl sp_0_3 ⟨by decide, by decide⟩ ?_
      refine mw_getP (v := 10) (pc' := 51) dX11_tryLift_48 rfl fr_RX11_36_6 rfl sp_6_1 ⟨by decide, by decide⟩ ?_
      refine mw_getI (ji := 0) (pc' := 54) dX11_tryLift_51 rfl fi_RX11_152_10 rfl ⟨by decide, by decide⟩ ?_
      refine mw_iast (pc' := 55) dX11_tryLift_54 rfl lk_32 ⟨by decide, by decide⟩ (by rw [ln_32]; exact o4) ?_
      refine mw_aload_n (v := vR 0) (pc' := 56) dX11_tryLift_55 rfl rfl (Or.inl rfl) rfl ?_
      refine mw_getP (v := 6) (pc' := 59) dX11_tryLift_56 rfl fr_RX11_26_0 rfl sp_0_3 ⟨by decide, by decide⟩ ?_
      refine mw_getP (v := 10) (pc' := 62) dX11_tryLift_59 rfl fr_RX11_36_6 rfl sp_6_1 ⟨by decide, by decide⟩ ?_
      refine mw_getI (ji := 0) (pc' := 65) dX11_tryLift_62 rfl fi_RX11_152_10 rfl ⟨by decide, by decide⟩ ?_
      refine mw_st (b := d 10 0) (udA (by decide) (rfl)) ?_
      refine mw_aload_n (v := vR 0) (pc' := 66) dX11_tryLift_65 rfl rfl (Or.inl rfl) rfl ?_
      refine mw_getP (v := 6) (pc' := 69) dX11_tryLift_66 rfl fr_RX11_26_0 rfl sp_0_3 ⟨by decide, by decide⟩ ?_
      refine mw_getP (v := 28) (pc' := 72) dX11_tryLift_69 rfl fr_RX11_40_6 rfl sp_6_4 ⟨by decide, by decide⟩ ?_
      refine mw_getP (v := 31) (pc' := 75) dX11_tryLift_72 rfl fr_RX11_372_28 rfl sp_28_2 ⟨by decide, by decide⟩ ?_
      refine mw_iload_n (pc' := 76) dX11_tryLift_75 rfl rfl rfl ?_
      refine mw_iald (pc' := 77) dX11_tryLift_76 rfl lk_31 ⟨by decide, by decide⟩ (by rw [ln_31]; exact o4) ?_
      refine mw_st (b := d 31 x1) (udA (by decide) (rfl)) ?_
      obtain ⟨o8, h⟩ := h
      refine mw_isub (pc' := 78) dX11_tryLift_77 rfl o8 ?_
      exact mw_iret (pc' := 0) (S := []) dX11_tryLift_78 rfl (Or.inl rfl) h
    · replace c5 := bI_0.mp c5
      replace h := h.2 c5
      refine mw_bipush (pc' := 32) dX11_tryLift_30 rfl ⟨by decide, by decide⟩ ?_
      exact mw_iret (pc' := 0) (S := []) dX11_tryLift_32 rfl (Or.inl rfl) h
  · replace c3 := bI_0.mp c3
    replace h := h.2 c3
    refine mw_iconst (pc' := 15) dX11_tryLift_14 rfl ⟨by decide, by decide⟩ ?_
    exact mw_iret (pc' := 0) (S := []) dX11_tryLift_15 rfl (Or.inl rfl) h
theorem eX11_tryAddOccurrence {x1 x2 : Int} {g : mG} {d : mD} {Q : mQ} (h : (((x1 < 0) ∨ (¬ (x1 ≤ d 10 0))) → Q (.inl (-2)) g d) ∧ ((¬ ((x1 < 0) ∨ (¬ (x1 ≤ d 10 0)))) → (((¬ (x2 < 0)) ∧ (¬ (8 ≤ x2))) → ((d 34 11 < 8) → ((d 34 (11 : Int) < 8) → ((d 34 (11 : Int) < 30) → (0 ≤ d 34 11 ∧ d 34 (11 : Int) < 30) ∧ ((0 ≤ x2 ∧ x2 < 8) ∧ ((0 ≤ d 14 x2 ∧ d 14 x2 ≤ 1) ∧ ((iI ((d 34 11) + 1)) ∧ ((0 ≤ (d 34 11) ∧ (d 34 11) < 30) ∧ ((0 ≤ ((ud (ud (ud (ud (ud d 35 (d 34 11) (-1)) 36 (d 34 11) x2) 37 (d 34 11) x1) 38 (d 34 11) (d 14 x2)) 39 (d 34 11) 0) 39 (d 34 11)) ∧ ((ud (ud (ud (ud (ud d 35 (d 34 11) (-1)) 36 (d 34 11) x2) 37 (d 34 11) x1) 38 (d 34 11) (d 14 x2)) 39 (d 34 11) 0) 39 (d 34 11)) < 7) ∧ ((0 ≤ d 34 11 ∧ d 34 (11 : Int) < 8) ∧ (Q (.inl (d 34 11)) g (ud (ud (ud (ud (ud (ud (ud (ud (ud (ud (ud (ud (ud (ud (ud d 35 (d 34 11) (-1)) 36 (d 34 11) x2) 37 (d 34 11) x1) 38 (d 34 11) (d 14 x2)) 39 (d 34 11) 0) 41 (d 34 11) 0) 42 (d 34 11) 0) 43 (d 34 11) 0) 44 (d 34 11) 0) 45 (d 34 11) 111) 34 11 ((d 34 11) + 1)) 40 ((d 34 11) * 7 + ((ud (ud (ud (ud (ud d 35 (d 34 11) (-1)) 36 (d 34 11) x2) 37 (d 34 11) x1) 38 (d 34 11) (d 14 x2)) 39 (d 34 11) 0) 39 (d 34 11))) (d 13 x2)) 39 (d 34 11) ((((ud (ud (ud (ud (ud d 35 (d 34 11) (-1)) 36 (d 34 11) x2) 37 (d 34 11) x1) 38 (d 34 11) (d 14 x2)) 39 (d 34 11) 0) 39 (d 34 11))) + 1)) 46 (d 34 11) 0) 47 (d 34 11) (d 34 11)))))))))) ∧ ((¬ (d 34 (11 : Int) < 30)) → ((0 : Int) ≤ (-3) ∧ (-3) < 8) ∧ (Q (.inl (-3)) g (ud (ud d 46 (-3) 0) 47 (-3) (-3))))) ∧ ((¬ (d 34 (11 : Int) < 8)) → Q (.inl (-3)) g d)) ∧ ((¬ (d 34 11 < 8)) → Q (.inl (-3)) g d)) ∧ ((¬ ((¬ (x2 < 0)) ∧ (¬ (8 ≤ x2)))) → Q (.inl (-1)) g d))) : MM mX11_tryAddOccurrence [vR 0, vI x1, vI x2] g d Q := by
  refine MM_of (by decide) rfl (by simp [catV]) (Nat.le_of_ble_eq_true rfl) ?_
  show MW mX11_tryAddOccurrence 0 0 0 [(0, vR 0), (1, vI x1), (2, vI x2)] [] g d Q
  refine mw_top (fun hT => ?_)
  have hG : 65 ≤ g.2.1 := hT.2
  refine mw_iload_n (pc' := 1) dX11_tryAddOccurrence_0 rfl rfl rfl ?_
  suffices k1 : (((x1 < 0) ∨ (¬ (x1 ≤ d 10 0))) → MW mX11_tryAddOccurrence 0 0 18 [(0, vR 0), (1, vI x1), (2, vI x2)] [] g d Q) ∧ ((¬ ((x1 < 0) ∨ (¬ (x1 ≤ d 10 0)))) → MW mX11_tryAddOccurrence 0 0 21 [(0, vR 0), (1, vI x1), (2, vI x2)] [] g d Q) by
    refine mw_if_lt (tgt := 18) (pc' := 4) dX11_tryAddOccurrence_1 rfl (by decide) (fun c2 => ?_) (fun c2 => ?_)
    · exact k1.1 (Or.inl c2)
    · refine mw_iload_n (pc' := 5) dX11_tryAddOccurrence_4 rfl rfl rfl ?_
      refine mw_aload_n (v := vR 0) (pc' := 6) dX11_tryAddOccurrence_5 rfl rfl (Or.inl rfl) rfl ?_
      refine mw_getP (v := 6) (pc' := 9) dX11_tryAddOccurrence_6 rfl fr_RX11_26_0 rfl sp_0_3 ⟨by decide, by decide⟩ ?_
      refine mw_getP (v := 10) (pc' := 12) dX11_tryAddOccurrence_9 rfl fr_RX11_36_6 rfl sp_6_1 ⟨by decide, by decide⟩ ?_
      refine mw_getI (ji := 0) (pc' := 15) dX11_tryAddOccurrence_12 rfl fi_RX11_152_10 rfl ⟨by decide, by decide⟩ ?_
      refine mw_icmp_le (tgt := 21) (pc' := 18) dX11_tryAddOccurrence_15 rfl (by decide) (fun c3 => ?_) (fun c3 => ?_)
      · exact k1.2 (fun h => h.elim (fun q => (c2 q)) (fun h => (h c3)))
      · exact k1.1 (Or.inr c3)
  refine ⟨fun c4 => ?_, fun c4 => ?_⟩
  · replace h := h.1 c4
    refine mw_bipush (pc' := 20) dX11_tryAddOccurrence_18 rfl ⟨by decide, by decide⟩ ?_
    exact mw_iret (pc' := 0) (S := []) dX11_tryAddOccurrence_20 rfl (Or.inl rfl) h
  · replace h := h.2 c4
    refine mw_iload_n (pc' := 22) dX11_tryAddOccurrence_21 rfl rfl rfl ?_
    refine mw_callS (M' := mX11_isRule) (A := [vI x2]) (S := []) (pc' := 25) dX11_tryAddOccurrence_22 rfl cl_RX11_241 cm_X11_isRule cs_X11_isRule ⟨by decide, by decide, by decide, by decide, by decide⟩ rfl rfl (Nat.le_of_ble_eq_true rfl) (eX11_isRule ?_)
    show MW mX11_tryAddOccurrence 0 0 25 [(0, vR 0), (1, vI x1), (2, vI x2)] [vI (bI ((¬ (x2 < 0)) ∧ (¬ (8 ≤ x2))))] g d Q
    refine mw_if_ne (tgt := 30) (pc' := 28) dX11_tryAddOccurrence_25 rfl (by decide) (fun c5 => ?_) (fun c5 => ?_)
    · replace c5 := bI_n0.mp c5
      replace h := h.1 c5
      refine mw_aload_n (v := vR 0) (pc' := 31) dX11_tryAddOccurrence_30 rfl rfl (Or.inl rfl) rfl ?_
      refine mw_getP (v := 6) (pc' := 34) dX11_tryAddOccurrence_31 rfl fr_RX11_26_0 rfl sp_0_3 ⟨by decide, by decide⟩ ?_
      refine mw_getP (v := 33) (pc' := 37) dX11_tryAddOccurrence_34 rfl fr_RX11_384_6 rfl sp_6_5 ⟨by decide, by decide⟩ ?_
      refine mw_getP (v := 34) (pc' := 40) dX11_tryAddOccurrence_37 rfl fr_RX11_397_33 rfl sp_33_0 ⟨by decide, by decide⟩ ?_
      refine mw_getI (ji := 11) (pc' := 43) dX11_tryAddOccurrence_40 rfl fi_RX11_256_34 rfl ⟨by decide, by decide⟩ ?_
      refine mw_bipush (pc' := 45) dX11_tryAddOccurrence_43 rfl ⟨by decide, by decide⟩ ?_
      refine mw_icmp_lt (tgt := 51) (pc' := 48) dX11_tryAddOccurrence_45 rfl (by decide) (fun c6 => ?_) (fun c6 => ?_)
      · replace h := h.1 c6
        refine mw_aload_n (v := vR 0) (pc' := 52) dX11_tryAddOccurrence_51 rfl rfl (Or.inl rfl) rfl ?_
        refine mw_getP (v := 6) (pc' := 55) dX11_tryAddOccurrence_52 rfl fr_RX11_26_0 rfl sp_0_3 ⟨by decide, by decide⟩ ?_
        refine mw_getP (v := 33) (pc' := 58) dX11_tryAddOccurrence_55 rfl fr_RX11_384_6 rfl sp_6_5 ⟨by decide, by decide⟩ ?_
        refine mw_iload_n (pc' := 59) dX11_tryAddOccurrence_58 rfl rfl rfl ?_
        refine mw_iload_n (pc' := 60) dX11_tryAddOccurrence_59 rfl rfl rfl ?_
        refine mw_aload_n (v := vR 0) (pc' := 61) dX11_tryAddOccurrence_60 rfl rfl (Or.inl rfl) rfl ?_
        refine mw_getP (v := 6) (pc' := 64) dX11_tryAddOccurrence_61 rfl fr_RX11_26_0 rfl sp_0_3 ⟨by decide, by decide⟩ ?_
        refine mw_getP (v := 12) (pc' := 67) dX11_tryAddOccurrence_64 rfl fr_RX11_210_6 rfl sp_6_2 ⟨by decide, by decide⟩ ?_
        refine mw_callV (M' := mX1_keepOccurrence) (A := [vI x2, vI x1, vR 12]) (A' := [vR 33, vI x2, vI x1, vR 12]) (S := []) (a := 33) (pc' := 70) dX11_tryAddOccurrence_67 rfl cl_RX11_418 cm_X1_keepOccurrence cv_X1_keepOccurrence ⟨by decide, by decide, by decide, by decide, by decide⟩ rfl rfl rfl ⟨by decide, by omega⟩ (by decide +kernel) (by decide +kernel) (Nat.le_of_ble_eq_true rfl) (eX1_keepOccurrence ?_)
        refine ⟨fun c7 => ?_, fun c7 => ?_⟩
        · replace h := h.1 (show d 34 (11 : Int) < 8 from c7)
          refine ⟨fun c8 => ?_, fun c8 => ?_⟩
          · replace h := h.1 (show d 34 (11 : Int) < 30 from c8)
            obtain ⟨o9, h⟩ := h
            refine ⟨o9, ?_⟩
            obtain ⟨o10, h⟩ := h
            refine ⟨o10, ?_⟩
            obtain ⟨o11, h⟩ := h
            refine ⟨o11, ?_⟩
            obtain ⟨o12, h⟩ := h
            refine ⟨o12, ?_⟩
            obtain ⟨o13, h⟩ := h
            refine ⟨o13, ?_⟩
            obtain ⟨o14, h⟩ := h
            refine ⟨o14, ?_⟩
            obtain ⟨o15, h⟩ := h
            refine ⟨o15, ?_⟩
            show MW mX11_tryAddOccurrence 0 0 70 [(0, vR 0), (1, vI x1), (2, vI x2)] [vI (d 34 11)] g (ud (ud (ud (ud (ud (ud (ud (ud (ud (ud (ud (ud (ud (ud (ud d 35 (d 34 11) (-1)) 36 (d 34 11) x2) 37 (d 34 11) x1) 38 (d 34 11) (d 14 x2)) 39 (d 34 11) 0) 41 (d 34 11) 0) 42 (d 34 11) 0) 43 (d 34 11) 0) 44 (d 34 11) 0) 45 (d 34 11) 111) 34 11 ((d 34 11) + 1)) 40 ((d 34 11) * 7 + ((ud (ud (ud (ud (ud d 35 (d 34 11) (-1)) 36 (d 34 11) x2) 37 (d 34 11) x1) 38 (d 34 11) (d 14 x2)) 39 (d 34 11) 0) 39 (d 34 11))) (d 13 x2)) 39 (d 34 11) ((((ud (ud (ud (ud (ud d 35 (d 34 11) (-1)) 36 (d 34 11) x2) 37 (d 34 11) x1) 38 (d 34 11) (d 14 x2)) 39 (d 34 11) 0) 39 (d 34 11))) + 1)) 46 (d 34 11) 0) 47 (d 34 11) (d 34 11)) Q
            exact mw_iret (pc' := 0) (S := []) dX11_tryAddOccurrence_70 rfl (Or.inl rfl) h
          · replace h := h.2 (show ¬ (d 34 (11 : Int) < 30) from c8)
            obtain ⟨o16, h⟩ := h
            refine ⟨o16, ?_⟩
            show MW mX11_tryAddOccurrence 0 0 70 [(0, vR 0), (1, vI x1), (2, vI x2)] [vI (-3)] g (ud (ud d 46 (-3) 0) 47 (-3) (-3)) Q
            exact mw_iret (pc' := 0) (S := []) dX11_tryAddOccurrence_70 rfl (Or.inl rfl) h
        · replace h := h.2 (show ¬ (d 34 (11 : Int) < 8) from c7)
          show MW mX11_tryAddOccurrence 0 0 70 [(0, vR 0), (1, vI x1), (2, vI x2)] [vI (-3)] g d Q
          exact mw_iret (pc' := 0) (S := []) dX11_tryAddOccurrence_70 rfl (Or.inl rfl) h
      · replace h := h.2 c6
        refine mw_bipush (pc' := 50) dX11_tryAddOccurrence_48 rfl ⟨by decide, by decide⟩ ?_
        exact mw_iret (pc' := 0) (S := []) dX11_tryAddOccurrence_50 rfl (Or.inl rfl) h
    · replace c5 := bI_0.mp c5
      replace h := h.2 c5
      refine mw_iconst (pc' := 29) dX11_tryAddOccurrence_28 rfl ⟨by decide, by decide⟩ ?_
      exact mw_iret (pc' := 0) (S := []) dX11_tryAddOccurrence_29 rfl (Or.inl rfl) h
theorem eX11_tryLinkOccurrences {x1 x2 : Int} {g : mG} {d : mD} {Q : mQ} (h : (((¬ ((¬ (x1 < 0)) ∧ (¬ (d 34 11 ≤ x1)))) ∨ (¬ ((¬ (x2 < 0)) ∧ (¬ (d 34 11 ≤ x2))))) → Q (.inl (-1)) g d) ∧ ((¬ ((¬ ((¬ (x1 < 0)) ∧ (¬ (d 34 11 ≤ x1)))) ∨ (¬ ((¬ (x2 < 0)) ∧ (¬ (d 34 11 ≤ x2)))))) → ((x1 = x2) → Q (.inl (-2)) g d) ∧ ((¬ (x1 = x2)) → (0 ≤ x1 ∧ x1 < 8) ∧ ((0 ≤ d 46 x1) ∧ ((0 ≤ x2 ∧ x2 < 32) ∧ (((((d 46 x1) / 2 ^ (x2).toNat) % (2 : Int) = 1) → Q (.inl (-3)) g d) ∧ ((¬ (((d 46 x1) / 2 ^ (x2).toNat) % (2 : Int) = 1)) → MM mX1_link [vR 33, vI x1, vI x2] g d (fun o g21 d22 => match o with | .inl v20 => (0 ≤ d22 34 11 ∧ d22 34 (11 : Int) ≤ 8) ∧ (Q (.inl (nuF (fun i => d22 47 i = i) (d22 34 11))) g21 d22) | .inr k => Q (.inr k) g21 d22)))))))) : MM mX11_tryLinkOccurrences [vR 0, vI x1, vI x2] g d Q := by
  refine MM_of (by decide) rfl (by simp [catV]) (Nat.le_of_ble_eq_true rfl) ?_
  show MW mX11_tryLinkOccurrences 0 0 0 [(0, vR 0), (1, vI x1), (2, vI x2)] [] g d Q
  refine mw_top (fun hT => ?_)
  have hG : 65 ≤ g.2.1 := hT.2
  refine mw_aload_n (v := vR 0) (pc' := 1) dX11_tryLinkOccurrences_0 rfl rfl (Or.inl rfl) rfl ?_
  refine mw_getP (v := 6) (pc' := 4) dX11_tryLinkOccurrences_1 rfl fr_RX11_26_0 rfl sp_0_3 ⟨by decide, by decide⟩ ?_
  refine mw_getP (v := 33) (pc' := 7) dX11_tryLinkOccurrences_4 rfl fr_RX11_384_6 rfl sp_6_5 ⟨by decide, by decide⟩ ?_
  refine mw_getP (v := 34) (pc' := 10) dX11_tryLinkOccurrences_7 rfl fr_RX11_397_33 rfl sp_33_0 ⟨by decide, by decide⟩ ?_
  refine mw_iload_n (pc' := 11) dX11_tryLinkOccurrences_10 rfl rfl rfl ?_
  refine mw_callV (M' := mX2_has) (A := [vI x1]) (A' := [vR 34, vI x1]) (S := []) (a := 34) (pc' := 14) dX11_tryLinkOccurrences_11 rfl cl_RX11_322 cm_X2_has cv_X2_has ⟨by decide, by decide, by decide, by decide, by decide⟩ rfl rfl rfl ⟨by decide, by omega⟩ (by decide +kernel) (by decide +kernel) (Nat.le_of_ble_eq_true rfl) (eX2_has_p ?_)
  show MW mX11_tryLinkOccurrences 0 0 14 [(0, vR 0), (1, vI x1), (2, vI x2)] [vI (bI ((¬ (x1 < 0)) ∧ (¬ (d 34 11 ≤ x1))))] g d Q
  suffices k4 : (((¬ ((¬ (x1 < 0)) ∧ (¬ (d 34 11 ≤ x1)))) ∨ (¬ ((¬ (x2 < 0)) ∧ (¬ (d 34 11 ≤ x2))))) → MW mX11_tryLinkOccurrences 0 0 34 [(0, vR 0), (1, vI x1), (2, vI x2)] [] g d Q) ∧ ((¬ ((¬ ((¬ (x1 < 0)) ∧ (¬ (d 34 11 ≤ x1)))) ∨ (¬ ((¬ (x2 < 0)) ∧ (¬ (d 34 11 ≤ x2)))))) → MW mX11_tryLinkOccurrences 0 0 36 [(0, vR 0), (1, vI x1), (2, vI x2)] [] g d Q) by
    refine mw_if_eq (tgt := 34) (pc' := 17) dX11_tryLinkOccurrences_14 rfl (by decide) (fun c5 => ?_) (fun c5 => ?_)
    · replace c5 := bI_0.mp c5
      exact k4.1 (Or.inl c5)
    · replace c5 := bI_n0.mp c5
      refine mw_aload_n (v := vR 0) (pc' := 18) dX11_tryLinkOccurrences_17 rfl rfl (Or.inl rfl) rfl ?_
      refine mw_getP (v := 6) (pc' := 21) dX11_tryLinkOccurrences_18 rfl fr_RX11_26_0 rfl sp_0_3 ⟨by decide, by decide⟩ ?_
      refine mw_getP (v := 33) (pc' := 24) dX11_tryLinkOccurrences_21 rfl fr_RX11_384_6 rfl sp_6_5 ⟨by decide, by decide⟩ ?_
      refine mw_getP (v := 34) (pc' := 27) dX11_tryLinkOccurrences_24 rfl fr_RX11_397_33 rfl sp_33_0 ⟨by decide, by decide⟩ ?_
      refine mw_iload_n (pc' := 28) dX11_tryLinkOccurrences_27 rfl rfl rfl ?_
      refine mw_callV (M' := mX2_has) (A := [vI x2]) (A' := [vR 34, vI x2]) (S := []) (a := 34) (pc' := 31) dX11_tryLinkOccurrences_28 rfl cl_RX11_322 cm_X2_has cv_X2_has ⟨by decide, by decide, by decide, by decide, by decide⟩ rfl rfl rfl ⟨by decide, by omega⟩ (by decide +kernel) (by decide +kernel) (Nat.le_of_ble_eq_true rfl) (eX2_has_p ?_)
      show MW mX11_tryLinkOccurrences 0 0 31 [(0, vR 0), (1, vI x1), (2, vI x2)] [vI (bI ((¬ (x2 < 0)) ∧ (¬ (d 34 11 ≤ x2))))] g d Q
      refine mw_if_ne (tgt := 36) (pc' := 34) dX11_tryLinkOccurrences_31 rfl (by decide) (fun c6 => ?_) (fun c6 => ?_)
      · replace c6 := bI_n0.mp c6
        exact k4.2 (fun h => h.elim (fun q => (q c5)) (fun h => (h c6)))
      · replace c6 := bI_0.mp c6
        exact k4.1 (Or.inr c6)
  refine ⟨fun c7 => ?_, fun c7 => ?_⟩
  · replace h := h.1 c7
    refine mw_iconst (pc' := 35) dX11_tryLinkOccurrences_34 rfl ⟨by decide, by decide⟩ ?_
    exact mw_iret (pc' := 0) (S := []) dX11_tryLinkOccurrences_35 rfl (Or.inl rfl) h
  · replace h := h.2 c7
    refine mw_iload_n (pc' := 37) dX11_tryLinkOccurrences_36 rfl rfl rfl ?_
    refine mw_iload_n (pc' := 38) dX11_tryLinkOccurrences_37 rfl rfl rfl ?_
    refine mw_icmp_ne (tgt := 44) (pc' := 41) dX11_tryLinkOccurrences_38 rfl (by decide) (fun c14 => ?_) (fun c14 => ?_)
    · replace h := h.2 c14
      refine mw_aload_n (v := vR 0) (pc' := 45) dX11_tryLinkOccurrences_44 rfl rfl (Or.inl rfl) rfl ?_
      refine mw_getP (v := 6) (pc' := 48) dX11_tryLinkOccurrences_45 rfl fr_RX11_26_0 rfl sp_0_3 ⟨by decide, by decide⟩ ?_
      refine mw_getP (v := 33) (pc' := 51) dX11_tryLinkOccurrences_48 rfl fr_RX11_384_6 rfl sp_6_5 ⟨by decide, by decide⟩ ?_
      refine mw_iload_n (pc' := 52) dX11_tryLinkOccurrences_51 rfl rfl rfl ?_
      refine mw_iload_n (pc' := 53) dX11_tryLinkOccurrences_52 rfl rfl rfl ?_
      obtain ⟨o15, h⟩ := h
      obtain ⟨o16, h⟩ := h
      obtain ⟨o17, h⟩ := h
      refine mw_callV (M' := mX1_areLinked) (A := [vI x1, vI x2]) (A' := [vR 33, vI x1, vI x2]) (S := []) (a := 33) (pc' := 56) dX11_tryLinkOccurrences_53 rfl cl_RX11_422 cm_X1_areLinked cv_X1_areLinked ⟨by decide, by decide, by decide, by decide, by decide⟩ rfl rfl rfl ⟨by decide, by omega⟩ (by decide +kernel) (by decide +kernel) (Nat.le_of_ble_eq_true rfl) (eX1_areLinked (⟨o15, o16, o17, ?_⟩))
      show MW mX11_tryLinkOccurrences 0 0 56 [(0, vR 0), (1, vI x1), (2, vI x2)] [vI (bI (((d 46 x1) / 2 ^ (x2).toNat) % (2 : Int) = 1))] g d Q
      refine mw_if_eq (tgt := 62) (pc' := 59) dX11_tryLinkOccurrences_56 rfl (by decide) (fun c18 => ?_) (fun c18 => ?_)
      · replace c18 := bI_0.mp c18
        replace h := h.2 c18
        refine mw_aload_n (v := vR 0) (pc' := 63) dX11_tryLinkOccurrences_62 rfl rfl (Or.inl rfl) rfl ?_
        refine mw_getP (v := 6) (pc' := 66) dX11_tryLinkOccurrences_63 rfl fr_RX11_26_0 rfl sp_0_3 ⟨by decide, by decide⟩ ?_
        refine mw_getP (v := 33) (pc' := 69) dX11_tryLinkOccurrences_66 rfl fr_RX11_384_6 rfl sp_6_5 ⟨by decide, by decide⟩ ?_
        refine mw_iload_n (pc' := 70) dX11_tryLinkOccurrences_69 rfl rfl rfl ?_
        refine mw_iload_n (pc' := 71) dX11_tryLinkOccurrences_70 rfl rfl rfl ?_
        refine mw_callV (M' := mX1_link) (A := [vI x1, vI x2]) (A' := [vR 33, vI x1, vI x2]) (S := []) (a := 33) (pc' := 74) dX11_tryLinkOccurrences_71 rfl cl_RX11_425 cm_X1_link cv_X1_link ⟨by decide, by decide, by decide, by decide, by decide⟩ rfl rfl rfl ⟨by decide, by omega⟩ (by decide +kernel) (by decide +kernel) (Nat.le_of_ble_eq_true rfl) (MM.mono ?_ h)
        intro o g21 d22 h19
        rcases o with v20 | k
        · refine mw_top (fun hT => ?_)
          have hG : 65 ≤ g21.2.1 := hT.2
          show MW mX11_tryLinkOccurrences 0 0 74 [(0, vR 0), (1, vI x1), (2, vI x2)] [] g21 d22 Q
          refine mw_aload_n (v := vR 0) (pc' := 75) dX11_tryLinkOccurrences_74 rfl rfl (Or.inl rfl) rfl ?_
          refine mw_getP (v := 6) (pc' := 78) dX11_tryLinkOccurrences_75 rfl fr_RX11_26_0 rfl sp_0_3 ⟨by decide, by decide⟩ ?_
          refine mw_getP (v := 33) (pc' := 81) dX11_tryLinkOccurrences_78 rfl fr_RX11_384_6 rfl sp_6_5 ⟨by decide, by decide⟩ ?_
          obtain ⟨o23, h19⟩ := h19
          refine mw_callV (M' := mX1_countGroups) (A := []) (A' := [vR 33]) (S := []) (a := 33) (pc' := 84) dX11_tryLinkOccurrences_81 rfl cl_RX11_428 cm_X1_countGroups cv_X1_countGroups ⟨by decide, by decide, by decide, by decide, by decide⟩ rfl rfl rfl ⟨by decide, by omega⟩ (by decide +kernel) (by decide +kernel) (Nat.le_of_ble_eq_true rfl) (f_countGroups (⟨o23, ?_⟩))
          show MW mX11_tryLinkOccurrences 0 0 84 [(0, vR 0), (1, vI x1), (2, vI x2)] [vI (nuF (fun i => d22 47 i = i) (d22 34 11))] g21 d22 Q
          exact mw_iret (pc' := 0) (S := []) dX11_tryLinkOccurrences_84 rfl (Or.inl rfl) h19
        · exact mx_out rfl h19
      · replace c18 := bI_n0.mp c18
        replace h := h.1 c18
        refine mw_bipush (pc' := 61) dX11_tryLinkOccurrences_59 rfl ⟨by decide, by decide⟩ ?_
        exact mw_iret (pc' := 0) (S := []) dX11_tryLinkOccurrences_61 rfl (Or.inl rfl) h
    · replace h := h.1 c14
      refine mw_bipush (pc' := 43) dX11_tryLinkOccurrences_41 rfl ⟨by decide, by decide⟩ ?_
      exact mw_iret (pc' := 0) (S := []) dX11_tryLinkOccurrences_43 rfl (Or.inl rfl) h
theorem eX11_tryFileClaim {x1 x2 : Int} {g : mG} {d : mD} {Q : mQ} (h : (((¬ ((¬ (x1 < 0)) ∧ (¬ (d 7 2 ≤ x1)))) ∨ (¬ ((¬ (x2 < 0)) ∧ (¬ (d 34 11 ≤ x2))))) → Q (.inl (-1)) g d) ∧ ((¬ ((¬ ((¬ (x1 < 0)) ∧ (¬ (d 7 2 ≤ x1)))) ∨ (¬ ((¬ (x2 < 0)) ∧ (¬ (d 34 11 ≤ x2)))))) → ((d 33 7 < 20) → ((d 33 (7 : Int) < 20) → (0 ≤ d 33 7 ∧ d 33 (7 : Int) < 20) ∧ ((iI ((d 33 7) + 1)) ∧ ((iI (((d 33 7) + 1) - 1)) ∧ (Q (.inl (((d 33 7) + 1) - 1)) g (ud (ud (ud (ud (ud d 48 (d 33 7) x1) 49 (d 33 7) x2) 50 (d 33 7) (d 10 0)) 51 (d 33 7) (-1)) 33 7 ((d 33 7) + 1)))))) ∧ ((¬ (d 33 (7 : Int) < 20)) → Q (.inl (-3)) g d)) ∧ ((¬ (d 33 7 < 20)) → Q (.inl (-3)) g d))) : MM mX11_tryFileClaim [vR 0, vI x1, vI x2] g d Q := by
  refine MM_of (by decide) rfl (by simp [catV]) (Nat.le_of_ble_eq_true rfl) ?_
  show MW mX11_tryFileClaim 0 0 0 [(0, vR 0), (1, vI x1), (2, vI x2)] [] g d Q
  refine mw_top (fun hT => ?_)
  have hG : 65 ≤ g.2.1 := hT.2
  refine mw_aload_n (v := vR 0) (pc' := 1) dX11_tryFileClaim_0 rfl rfl (Or.inl rfl) rfl ?_
  refine mw_getP (v := 6) (pc' := 4) dX11_tryFileClaim_1 rfl fr_RX11_26_0 rfl sp_0_3 ⟨by decide, by decide⟩ ?_
  refine mw_getP (v := 7) (pc' := 7) dX11_tryFileClaim_4 rfl fr_RX11_107_6 rfl sp_6_0 ⟨by decide, by decide⟩ ?_
  refine mw_iload_n (pc' := 8) dX11_tryFileClaim_7 rfl rfl rfl ?_
  refine mw_callV (M' := mX5_has) (A := [vI x1]) (A' := [vR 7, vI x1]) (S := []) (a := 7) (pc' := 11) dX11_tryFileClaim_8 rfl cl_RX11_146 cm_X5_has cv_X5_has ⟨by decide, by decide, by decide, by decide, by decide⟩ rfl rfl rfl ⟨by decide, by omega⟩ (by decide +kernel) (by decide +kernel) (Nat.le_of_ble_eq_true rfl) (eX5_has ?_)
  show MW mX11_tryFileClaim 0 0 11 [(0, vR 0), (1, vI x1), (2, vI x2)] [vI (bI ((¬ (x1 < 0)) ∧ (¬ (d 7 2 ≤ x1))))] g d Q
  suffices k1 : (((¬ ((¬ (x1 < 0)) ∧ (¬ (d 7 2 ≤ x1)))) ∨ (¬ ((¬ (x2 < 0)) ∧ (¬ (d 34 11 ≤ x2))))) → MW mX11_tryFileClaim 0 0 31 [(0, vR 0), (1, vI x1), (2, vI x2)] [] g d Q) ∧ ((¬ ((¬ ((¬ (x1 < 0)) ∧ (¬ (d 7 2 ≤ x1)))) ∨ (¬ ((¬ (x2 < 0)) ∧ (¬ (d 34 11 ≤ x2)))))) → MW mX11_tryFileClaim 0 0 33 [(0, vR 0), (1, vI x1), (2, vI x2)] [] g d Q) by
    refine mw_if_eq (tgt := 31) (pc' := 14) dX11_tryFileClaim_11 rfl (by decide) (fun c2 => ?_) (fun c2 => ?_)
    · replace c2 := bI_0.mp c2
      exact k1.1 (Or.inl c2)
    · replace c2 := bI_n0.mp c2
      refine mw_aload_n (v := vR 0) (pc' := 15) dX11_tryFileClaim_14 rfl rfl (Or.inl rfl) rfl ?_
      refine mw_getP (v := 6) (pc' := 18) dX11_tryFileClaim_15 rfl fr_RX11_26_0 rfl sp_0_3 ⟨by decide, by decide⟩ ?_
      refine mw_getP (v := 33) (pc' := 21) dX11_tryFileClaim_18 rfl fr_RX11_384_6 rfl sp_6_5 ⟨by decide, by decide⟩ ?_
      refine mw_getP (v := 34) (pc' := 24) dX11_tryFileClaim_21 rfl fr_RX11_397_33 rfl sp_33_0 ⟨by decide, by decide⟩ ?_
      refine mw_iload_n (pc' := 25) dX11_tryFileClaim_24 rfl rfl rfl ?_
      refine mw_callV (M' := mX2_has) (A := [vI x2]) (A' := [vR 34, vI x2]) (S := []) (a := 34) (pc' := 28) dX11_tryFileClaim_25 rfl cl_RX11_322 cm_X2_has cv_X2_has ⟨by decide, by decide, by decide, by decide, by decide⟩ rfl rfl rfl ⟨by decide, by omega⟩ (by decide +kernel) (by decide +kernel) (Nat.le_of_ble_eq_true rfl) (eX2_has_p ?_)
      show MW mX11_tryFileClaim 0 0 28 [(0, vR 0), (1, vI x1), (2, vI x2)] [vI (bI ((¬ (x2 < 0)) ∧ (¬ (d 34 11 ≤ x2))))] g d Q
      refine mw_if_ne (tgt := 33) (pc' := 31) dX11_tryFileClaim_28 rfl (by decide) (fun c3 => ?_) (fun c3 => ?_)
      · replace c3 := bI_n0.mp c3
        exact k1.2 (fun h => h.elim (fun q => (q c2)) (fun h => (h c3)))
      · replace c3 := bI_0.mp c3
        exact k1.1 (Or.inr c3)
  refine ⟨fun c4 => ?_, fun c4 => ?_⟩
  · replace h := h.1 c4
    refine mw_iconst (pc' := 32) dX11_tryFileClaim_31 rfl ⟨by decide, by decide⟩ ?_
    exact mw_iret (pc' := 0) (S := []) dX11_tryFileClaim_32 rfl (Or.inl rfl) h
  · replace h := h.2 c4
    refine mw_aload_n (v := vR 0) (pc' := 34) dX11_tryFileClaim_33 rfl rfl (Or.inl rfl) rfl ?_
    refine mw_getP (v := 6) (pc' := 37) dX11_tryFileClaim_34 rfl fr_RX11_26_0 rfl sp_0_3 ⟨by decide, by decide⟩ ?_
    refine mw_getP (v := 33) (pc' := 40) dX11_tryFileClaim_37 rfl fr_RX11_384_6 rfl sp_6_5 ⟨by decide, by decide⟩ ?_
    refine mw_getI (ji := 7) (pc' := 43) dX11_tryFileClaim_40 rfl fi_RX11_415_33 rfl ⟨by decide, by decide⟩ ?_
    refine mw_bipush (pc' := 45) dX11_tryFileClaim_43 rfl ⟨by decide, by decide⟩ ?_
    refine mw_icmp_lt (tgt := 51) (pc' := 48) dX11_tryFileClaim_45 rfl (by decide) (fun c5 => ?_) (fun c5 => ?_)
    · replace h := h.1 c5
      refine mw_aload_n (v := vR 0) (pc' := 52) dX11_tryFileClaim_51 rfl rfl (Or.inl rfl) rfl ?_
      refine mw_getP (v := 6) (pc' := 55) dX11_tryFileClaim_52 rfl fr_RX11_26_0 rfl sp_0_3 ⟨by decide, by decide⟩ ?_
      refine mw_getP (v := 33) (pc' := 58) dX11_tryFileClaim_55 rfl fr_RX11_384_6 rfl sp_6_5 ⟨by decide, by decide⟩ ?_
      refine mw_iload_n (pc' := 59) dX11_tryFileClaim_58 rfl rfl rfl ?_
      refine mw_iload_n (pc' := 60) dX11_tryFileClaim_59 rfl rfl rfl ?_
      refine mw_aload_n (v := vR 0) (pc' := 61) dX11_tryFileClaim_60 rfl rfl (Or.inl rfl) rfl ?_
      refine mw_getP (v := 6) (pc' := 64) dX11_tryFileClaim_61 rfl fr_RX11_26_0 rfl sp_0_3 ⟨by decide, by decide⟩ ?_
      refine mw_getP (v := 10) (pc' := 67) dX11_tryFileClaim_64 rfl fr_RX11_36_6 rfl sp_6_1 ⟨by decide, by decide⟩ ?_
      refine mw_getI (ji := 0) (pc' := 70) dX11_tryFileClaim_67 rfl fi_RX11_152_10 rfl ⟨by decide, by decide⟩ ?_
      refine mw_iconst (pc' := 71) dX11_tryFileClaim_70 rfl ⟨by decide, by decide⟩ ?_
      refine mw_callV (M' := mX1_addClaim) (A := [vI x1, vI x2, vI (d 10 0), vI (-1)]) (A' := [vR 33, vI x1, vI x2, vI (d 10 0), vI (-1)]) (S := []) (a := 33) (pc' := 74) dX11_tryFileClaim_71 rfl cl_RX11_431 cm_X1_addClaim cv_X1_addClaim ⟨by decide, by decide, by decide, by decide, by decide⟩ rfl rfl rfl ⟨by decide, by omega⟩ (by decide +kernel) (by decide +kernel) (Nat.le_of_ble_eq_true rfl) (eX1_addClaim ?_)
      refine ⟨fun c6 => ?_, fun c6 => ?_⟩
      · replace h := h.1 (show d 33 (7 : Int) < 20 from c6)
        obtain ⟨o7, h⟩ := h
        refine ⟨o7, ?_⟩
        obtain ⟨o8, h⟩ := h
        refine ⟨o8, ?_⟩
        obtain ⟨o9, h⟩ := h
        refine ⟨o9, ?_⟩
        show MW mX11_tryFileClaim 0 0 74 [(0, vR 0), (1, vI x1), (2, vI x2)] [vI (((d 33 7) + 1) - 1)] g (ud (ud (ud (ud (ud d 48 (d 33 7) x1) 49 (d 33 7) x2) 50 (d 33 7) (d 10 0)) 51 (d 33 7) (-1)) 33 7 ((d 33 7) + 1)) Q
        exact mw_iret (pc' := 0) (S := []) dX11_tryFileClaim_74 rfl (Or.inl rfl) h
      · replace h := h.2 (show ¬ (d 33 (7 : Int) < 20) from c6)
        show MW mX11_tryFileClaim 0 0 74 [(0, vR 0), (1, vI x1), (2, vI x2)] [vI (-3)] g d Q
        exact mw_iret (pc' := 0) (S := []) dX11_tryFileClaim_74 rfl (Or.inl rfl) h
    · replace h := h.2 c5
      refine mw_bipush (pc' := 50) dX11_tryFileClaim_48 rfl ⟨by decide, by decide⟩ ?_
      exact mw_iret (pc' := 0) (S := []) dX11_tryFileClaim_50 rfl (Or.inl rfl) h
theorem eX11_tryAmendClaim {x1 x2 : Int} {g : mG} {d : mD} {Q : mQ} (h : (((¬ ((¬ (x1 < 0)) ∧ (¬ (d 33 7 ≤ x1)))) ∨ (¬ ((¬ (x2 < 0)) ∧ (¬ (d 34 11 ≤ x2))))) → Q (.inl (-1)) g d) ∧ ((¬ ((¬ ((¬ (x1 < 0)) ∧ (¬ (d 33 7 ≤ x1)))) ∨ (¬ ((¬ (x2 < 0)) ∧ (¬ (d 34 11 ≤ x2)))))) → ((d 33 7 < 20) → (0 ≤ x1 ∧ x1 < 20) ∧ (((d 33 (7 : Int) < 20) → (0 ≤ d 33 7 ∧ d 33 (7 : Int) < 20) ∧ ((iI ((d 33 7) + 1)) ∧ ((iI (((d 33 7) + 1) - 1)) ∧ (Q (.inl (((d 33 7) + 1) - 1)) g (ud (ud (ud (ud (ud d 48 (d 33 7) (d 48 x1)) 49 (d 33 7) x2) 50 (d 33 7) (d 10 0)) 51 (d 33 7) x1) 33 7 ((d 33 7) + 1)))))) ∧ ((¬ (d 33 (7 : Int) < 20)) → Q (.inl (-3)) g d))) ∧ ((¬ (d 33 7 < 20)) → Q (.inl (-3)) g d))) : MM mX11_tryAmendClaim [vR 0, vI x1, vI x2] g d Q := by
  refine MM_of (by decide) rfl (by simp [catV]) (Nat.le_of_ble_eq_true rfl) ?_
  show MW mX11_tryAmendClaim 0 0 0 [(0, vR 0), (1, vI x1), (2, vI x2)] [] g d Q
  refine mw_top (fun hT => ?_)
  have hG : 65 ≤ g.2.1 := hT.2
  refine mw_aload_n (v := vR 0) (pc' := 1) dX11_tryAmendClaim_0 rfl rfl (Or.inl rfl) rfl ?_
  refine mw_getP (v := 6) (pc' := 4) dX11_tryAmendClaim_1 rfl fr_RX11_26_0 rfl sp_0_3 ⟨by decide, by decide⟩ ?_
  refine mw_getP (v := 33) (pc' := 7) dX11_tryAmendClaim_4 rfl fr_RX11_384_6 rfl sp_6_5 ⟨by decide, by decide⟩ ?_
  refine mw_iload_n (pc' := 8) dX11_tryAmendClaim_7 rfl rfl rfl ?_
  refine mw_callV (M' := mX1_has) (A := [vI x1]) (A' := [vR 33, vI x1]) (S := []) (a := 33) (pc' := 11) dX11_tryAmendClaim_8 rfl cl_RX11_435 cm_X1_has cv_X1_has ⟨by decide, by decide, by decide, by decide, by decide⟩ rfl rfl rfl ⟨by decide, by omega⟩ (by decide +kernel) (by decide +kernel) (Nat.le_of_ble_eq_true rfl) (eX1_has ?_)
  show MW mX11_tryAmendClaim 0 0 11 [(0, vR 0), (1, vI x1), (2, vI x2)] [vI (bI ((¬ (x1 < 0)) ∧ (¬ (d 33 7 ≤ x1))))] g d Q
  suffices k2 : (((¬ ((¬ (x1 < 0)) ∧ (¬ (d 33 7 ≤ x1)))) ∨ (¬ ((¬ (x2 < 0)) ∧ (¬ (d 34 11 ≤ x2))))) → MW mX11_tryAmendClaim 0 0 31 [(0, vR 0), (1, vI x1), (2, vI x2)] [] g d Q) ∧ ((¬ ((¬ ((¬ (x1 < 0)) ∧ (¬ (d 33 7 ≤ x1)))) ∨ (¬ ((¬ (x2 < 0)) ∧ (¬ (d 34 11 ≤ x2)))))) → MW mX11_tryAmendClaim 0 0 33 [(0, vR 0), (1, vI x1), (2, vI x2)] [] g d Q) by
    refine mw_if_eq (tgt := 31) (pc' := 14) dX11_tryAmendClaim_11 rfl (by decide) (fun c3 => ?_) (fun c3 => ?_)
    · replace c3 := bI_0.mp c3
      exact k2.1 (Or.inl c3)
    · replace c3 := bI_n0.mp c3
      refine mw_aload_n (v := vR 0) (pc' := 15) dX11_tryAmendClaim_14 rfl rfl (Or.inl rfl) rfl ?_
      refine mw_getP (v := 6) (pc' := 18) dX11_tryAmendClaim_15 rfl fr_RX11_26_0 rfl sp_0_3 ⟨by decide, by decide⟩ ?_
      refine mw_getP (v := 33) (pc' := 21) dX11_tryAmendClaim_18 rfl fr_RX11_384_6 rfl sp_6_5 ⟨by decide, by decide⟩ ?_
      refine mw_getP (v := 34) (pc' := 24) dX11_tryAmendClaim_21 rfl fr_RX11_397_33 rfl sp_33_0 ⟨by decide, by decide⟩ ?_
      refine mw_iload_n (pc' := 25) dX11_tryAmendClaim_24 rfl rfl rfl ?_
      refine mw_callV (M' := mX2_has) (A := [vI x2]) (A' := [vR 34, vI x2]) (S := []) (a := 34) (pc' := 28) dX11_tryAmendClaim_25 rfl cl_RX11_322 cm_X2_has cv_X2_has ⟨by decide, by decide, by decide, by decide, by decide⟩ rfl rfl rfl ⟨by decide, by omega⟩ (by decide +kernel) (by decide +kernel) (Nat.le_of_ble_eq_true rfl) (eX2_has_p ?_)
      show MW mX11_tryAmendClaim 0 0 28 [(0, vR 0), (1, vI x1), (2, vI x2)] [vI (bI ((¬ (x2 < 0)) ∧ (¬ (d 34 11 ≤ x2))))] g d Q
      refine mw_if_ne (tgt := 33) (pc' := 31) dX11_tryAmendClaim_28 rfl (by decide) (fun c4 => ?_) (fun c4 => ?_)
      · replace c4 := bI_n0.mp c4
        exact k2.2 (fun h => h.elim (fun q => (q c3)) (fun h => (h c4)))
      · replace c4 := bI_0.mp c4
        exact k2.1 (Or.inr c4)
  refine ⟨fun c5 => ?_, fun c5 => ?_⟩
  · replace h := h.1 c5
    refine mw_iconst (pc' := 32) dX11_tryAmendClaim_31 rfl ⟨by decide, by decide⟩ ?_
    exact mw_iret (pc' := 0) (S := []) dX11_tryAmendClaim_32 rfl (Or.inl rfl) h
  · replace h := h.2 c5
    refine mw_aload_n (v := vR 0) (pc' := 34) dX11_tryAmendClaim_33 rfl rfl (Or.inl rfl) rfl ?_
    refine mw_getP (v := 6) (pc' := 37) dX11_tryAmendClaim_34 rfl fr_RX11_26_0 rfl sp_0_3 ⟨by decide, by decide⟩ ?_
    refine mw_getP (v := 33) (pc' := 40) dX11_tryAmendClaim_37 rfl fr_RX11_384_6 rfl sp_6_5 ⟨by decide, by decide⟩ ?_
    refine mw_getI (ji := 7) (pc' := 43) dX11_tryAmendClaim_40 rfl fi_RX11_415_33 rfl ⟨by decide, by decide⟩ ?_
    refine mw_bipush (pc' := 45) dX11_tryAmendClaim_43 rfl ⟨by decide, by decide⟩ ?_
    refine mw_icmp_lt (tgt := 51) (pc' := 48) dX11_tryAmendClaim_45 rfl (by decide) (fun c8 => ?_) (fun c8 => ?_)
    · replace h := h.1 c8
      refine mw_aload_n (v := vR 0) (pc' := 52) dX11_tryAmendClaim_51 rfl rfl (Or.inl rfl) rfl ?_
      refine mw_getP (v := 6) (pc' := 55) dX11_tryAmendClaim_52 rfl fr_RX11_26_0 rfl sp_0_3 ⟨by decide, by decide⟩ ?_
      refine mw_getP (v := 33) (pc' := 58) dX11_tryAmendClaim_55 rfl fr_RX11_384_6 rfl sp_6_5 ⟨by decide, by decide⟩ ?_
      refine mw_aload_n (v := vR 0) (pc' := 59) dX11_tryAmendClaim_58 rfl rfl (Or.inl rfl) rfl ?_
      refine mw_getP (v := 6) (pc' := 62) dX11_tryAmendClaim_59 rfl fr_RX11_26_0 rfl sp_0_3 ⟨by decide, by decide⟩ ?_
      refine mw_getP (v := 33) (pc' := 65) dX11_tryAmendClaim_62 rfl fr_RX11_384_6 rfl sp_6_5 ⟨by decide, by decide⟩ ?_
      refine mw_getP (v := 48) (pc' := 68) dX11_tryAmendClaim_65 rfl fr_RX11_416_33 rfl sp_33_3 ⟨by decide, by decide⟩ ?_
      refine mw_iload_n (pc' := 69) dX11_tryAmendClaim_68 rfl rfl rfl ?_
      obtain ⟨o9, h⟩ := h
      refine mw_iald (pc' := 70) dX11_tryAmendClaim_69 rfl lk_48 ⟨by decide, by decide⟩ (by rw [ln_48]; exact o9) ?_
      refine mw_iload_n (pc' := 71) dX11_tryAmendClaim_70 rfl rfl rfl ?_
      refine mw_aload_n (v := vR 0) (pc' := 72) dX11_tryAmendClaim_71 rfl rfl (Or.inl rfl) rfl ?_
      refine mw_getP (v := 6) (pc' := 75) dX11_tryAmendClaim_72 rfl fr_RX11_26_0 rfl sp_0_3 ⟨by decide, by decide⟩ ?_
      refine mw_getP (v := 10) (pc' := 78) dX11_tryAmendClaim_75 rfl fr_RX11_36_6 rfl sp_6_1 ⟨by decide, by decide⟩ ?_
      refine mw_getI (ji := 0) (pc' := 81) dX11_tryAmendClaim_78 rfl fi_RX11_152_10 rfl ⟨by decide, by decide⟩ ?_
      refine mw_iload_n (pc' := 82) dX11_tryAmendClaim_81 rfl rfl rfl ?_
      refine mw_callV (M' := mX1_addClaim) (A := [vI (d 48 x1), vI x2, vI (d 10 0), vI x1]) (A' := [vR 33, vI (d 48 x1), vI x2, vI (d 10 0), vI x1]) (S := []) (a := 33) (pc' := 85) dX11_tryAmendClaim_82 rfl cl_RX11_431 cm_X1_addClaim cv_X1_addClaim ⟨by decide, by decide, by decide, by decide, by decide⟩ rfl rfl rfl ⟨by decide, by omega⟩ (by decide +kernel) (by decide +kernel) (Nat.le_of_ble_eq_true rfl) (eX1_addClaim ?_)
      refine ⟨fun c10 => ?_, fun c10 => ?_⟩
      · replace h := h.1 (show d 33 (7 : Int) < 20 from c10)
        obtain ⟨o11, h⟩ := h
        refine ⟨o11, ?_⟩
        obtain ⟨o12, h⟩ := h
        refine ⟨o12, ?_⟩
        obtain ⟨o13, h⟩ := h
        refine ⟨o13, ?_⟩
        show MW mX11_tryAmendClaim 0 0 85 [(0, vR 0), (1, vI x1), (2, vI x2)] [vI (((d 33 7) + 1) - 1)] g (ud (ud (ud (ud (ud d 48 (d 33 7) (d 48 x1)) 49 (d 33 7) x2) 50 (d 33 7) (d 10 0)) 51 (d 33 7) x1) 33 7 ((d 33 7) + 1)) Q
        exact mw_iret (pc' := 0) (S := []) dX11_tryAmendClaim_85 rfl (Or.inl rfl) h
      · replace h := h.2 (show ¬ (d 33 (7 : Int) < 20) from c10)
        show MW mX11_tryAmendClaim 0 0 85 [(0, vR 0), (1, vI x1), (2, vI x2)] [vI (-3)] g d Q
        exact mw_iret (pc' := 0) (S := []) dX11_tryAmendClaim_85 rfl (Or.inl rfl) h
    · replace h := h.2 c8
      refine mw_bipush (pc' := 50) dX11_tryAmendClaim_48 rfl ⟨by decide, by decide⟩ ?_
      exact mw_iret (pc' := 0) (S := []) dX11_tryAmendClaim_50 rfl (Or.inl rfl) h
theorem eX11_tryAddParty {R : rW} {g : mG} {d : mD} {Q : mQ} (h : MM mX9_readName [vR 1, vR 5] g d (fun o g3 d4 => match o with | .inl v2 => ((v2 = 0) → Q (.inl (-2)) g3 (ud d4 1 1 0)) ∧ ((¬ (v2 = 0)) → ((¬ (8 ≤ d4 7 2)) → CI (ud d4 1 1 0) R) ∧ (((¬ (8 ≤ d4 7 2)) → 0 ≤ v2 ∧ v2 ≤ 8) ∧ ((((8 ≤ d4 7 2) ∨ (¬ (nmF R (d4 5) v2 = (-1)))) → Q (.inl (-3)) g3 (ud d4 1 1 0)) ∧ ((¬ ((8 ≤ d4 7 2) ∨ (¬ (nmF R (d4 5) v2 = (-1))))) → ((d4 7 (2 : Int) < 8) → (iI ((d4 7 2) * 8)) ∧ ((0 ≤ (d4 7 2) * 8 ∧ (d4 7 2) * 8 + (8 : Int) ≤ 64) ∧ ((0 ≤ d4 7 2 ∧ d4 7 (2 : Int) < 8) ∧ ((iI ((d4 7 2) + 1)) ∧ ((iI (((d4 7 2) + 1) - 1)) ∧ (Q (.inl (((d4 7 2) + 1) - 1)) g3 (ud (ud (cpy (ud d4 1 1 0) 5 8 0 ((d4 7 2) * 8) 8) 9 (d4 7 2) v2) 7 2 ((d4 7 2) + 1)))))))) ∧ ((¬ (d4 7 (2 : Int) < 8)) → Q (.inl (-3)) g3 (ud d4 1 1 0)))))) | .inr k => Q (.inr k) g3 d4)) : MM mX11_tryAddParty [vR 0] g d Q := by
  refine MM_of (by decide) rfl (by simp [catV]) (Nat.le_of_ble_eq_true rfl) ?_
  show MW mX11_tryAddParty 0 0 0 [(0, vR 0)] [] g d Q
  refine mw_top (fun hT => ?_)
  have hG : 65 ≤ g.2.1 := hT.2
  refine mw_aload_n (v := vR 0) (pc' := 1) dX11_tryAddParty_0 rfl rfl (Or.inl rfl) rfl ?_
  refine mw_getP (v := 1) (pc' := 4) dX11_tryAddParty_1 rfl fr_RX11_12_0 rfl sp_0_0 ⟨by decide, by decide⟩ ?_
  refine mw_aload_n (v := vR 0) (pc' := 5) dX11_tryAddParty_4 rfl rfl (Or.inl rfl) rfl ?_
  refine mw_getP (v := 5) (pc' := 8) dX11_tryAddParty_5 rfl fr_RX11_19_0 rfl sp_0_2 ⟨by decide, by decide⟩ ?_
  refine mw_callV (M' := mX9_readName) (A := [vR 5]) (A' := [vR 1, vR 5]) (S := []) (a := 1) (pc' := 11) dX11_tryAddParty_8 rfl cl_RX11_100 cm_X9_readName cv_X9_readName ⟨by decide, by decide, by decide, by decide, by decide⟩ rfl rfl rfl ⟨by decide, by omega⟩ (by decide +kernel) (by decide +kernel) (Nat.le_of_ble_eq_true rfl) (MM.mono ?_ h)
  intro o g3 d4 h1
  rcases o with v2 | k
  · refine mw_top (fun hT => ?_)
    have hG : 65 ≤ g3.2.1 := hT.2
    show MW mX11_tryAddParty 0 0 11 [(0, vR 0)] [vI v2] g3 d4 Q
    refine mw_istore_n (pc' := 12) (L' := [(0, vR 0), (1, vI v2)]) dX11_tryAddParty_11 rfl rfl (by decide) rfl ?_
    refine mw_aload_n (v := vR 0) (pc' := 13) dX11_tryAddParty_12 rfl rfl (Or.inl rfl) rfl ?_
    refine mw_getP (v := 1) (pc' := 16) dX11_tryAddParty_13 rfl fr_RX11_12_0 rfl sp_0_0 ⟨by decide, by decide⟩ ?_
    refine mw_callV (M' := mX9_clear) (A := []) (A' := [vR 1]) (S := []) (a := 1) (pc' := 19) dX11_tryAddParty_16 rfl cl_RX11_104 cm_X9_clear cv_X9_clear ⟨by decide, by decide, by decide, by decide, by decide⟩ rfl rfl rfl ⟨by decide, by omega⟩ (by decide +kernel) (by decide +kernel) (Nat.le_of_ble_eq_true rfl) (eX9_clear_b ?_)
    show MW mX11_tryAddParty 0 0 19 [(0, vR 0), (1, vI v2)] [] g3 (ud d4 1 1 0) Q
    refine mw_iload_n (pc' := 20) dX11_tryAddParty_19 rfl rfl rfl ?_
    refine mw_if_ne (tgt := 26) (pc' := 23) dX11_tryAddParty_20 rfl (by decide) (fun c7 => ?_) (fun c7 => ?_)
    · replace h1 := h1.2 c7
      refine mw_aload_n (v := vR 0) (pc' := 27) dX11_tryAddParty_26 rfl rfl (Or.inl rfl) rfl ?_
      refine mw_getP (v := 6) (pc' := 30) dX11_tryAddParty_27 rfl fr_RX11_26_0 rfl sp_0_3 ⟨by decide, by decide⟩ ?_
      refine mw_getP (v := 7) (pc' := 33) dX11_tryAddParty_30 rfl fr_RX11_107_6 rfl sp_6_0 ⟨by decide, by decide⟩ ?_
      refine mw_getI (ji := 2) (pc' := 36) dX11_tryAddParty_33 rfl fi_RX11_122_7 rfl ⟨by decide, by decide⟩ ?_
      refine mw_st (b := d4 7 2) (udA (by decide) (rfl)) ?_
      refine mw_bipush (pc' := 38) dX11_tryAddParty_36 rfl ⟨by decide, by decide⟩ ?_
      obtain ⟨o8, h1⟩ := h1
      obtain ⟨o9, h1⟩ := h1
      suffices k10 : (((8 ≤ d4 7 2) ∨ (¬ (nmF R (d4 5) v2 = (-1)))) → MW mX11_tryAddParty 0 0 60 [(0, vR 0), (1, vI v2)] [] g3 (ud d4 1 1 0) Q) ∧ ((¬ ((8 ≤ d4 7 2) ∨ (¬ (nmF R (d4 5) v2 = (-1))))) → MW mX11_tryAddParty 0 0 63 [(0, vR 0), (1, vI v2)] [] g3 (ud d4 1 1 0) Q) by
        refine mw_icmp_ge (tgt := 60) (pc' := 41) dX11_tryAddParty_38 rfl (by decide) (fun c11 => ?_) (fun c11 => ?_)
        · exact k10.1 (Or.inl c11)
        · refine mw_aload_n (v := vR 0) (pc' := 42) dX11_tryAddParty_41 rfl rfl (Or.inl rfl) rfl ?_
          refine mw_getP (v := 6) (pc' := 45) dX11_tryAddParty_42 rfl fr_RX11_26_0 rfl sp_0_3 ⟨by decide, by decide⟩ ?_
          refine mw_getP (v := 7) (pc' := 48) dX11_tryAddParty_45 rfl fr_RX11_107_6 rfl sp_6_0 ⟨by decide, by decide⟩ ?_
          refine mw_aload_n (v := vR 0) (pc' := 49) dX11_tryAddParty_48 rfl rfl (Or.inl rfl) rfl ?_
          refine mw_getP (v := 5) (pc' := 52) dX11_tryAddParty_49 rfl fr_RX11_19_0 rfl sp_0_2 ⟨by decide, by decide⟩ ?_
          refine mw_iload_n (pc' := 53) dX11_tryAddParty_52 rfl rfl rfl ?_
          refine mw_callV (M' := mX5_find) (A := [vR 5, vI v2]) (A' := [vR 7, vR 5, vI v2]) (S := []) (a := 7) (pc' := 56) dX11_tryAddParty_53 rfl cl_RX11_111 cm_X5_find cv_X5_find ⟨by decide, by decide, by decide, by decide, by decide⟩ rfl rfl rfl ⟨by decide, by omega⟩ (by decide +kernel) (by decide +kernel) (Nat.le_of_ble_eq_true rfl) (f_find (⟨(o8 c11), (o9 c11), ?_⟩))
          show MW mX11_tryAddParty 0 0 56 [(0, vR 0), (1, vI v2)] [vI (nmF R (d4 5) v2)] g3 (ud d4 1 1 0) Q
          refine mw_iconst (pc' := 57) dX11_tryAddParty_56 rfl ⟨by decide, by decide⟩ ?_
          refine mw_icmp_eq (tgt := 63) (pc' := 60) dX11_tryAddParty_57 rfl (by decide) (fun c12 => ?_) (fun c12 => ?_)
          · exact k10.2 (fun h => h.elim (fun q => (c11 q)) (fun h => (h c12)))
          · exact k10.1 (Or.inr c12)
      refine ⟨fun c13 => ?_, fun c13 => ?_⟩
      · replace h1 := h1.1 c13
        refine mw_bipush (pc' := 62) dX11_tryAddParty_60 rfl ⟨by decide, by decide⟩ ?_
        exact mw_iret (pc' := 0) (S := []) dX11_tryAddParty_62 rfl (Or.inl rfl) h1
      · replace h1 := h1.2 c13
        refine mw_aload_n (v := vR 0) (pc' := 64) dX11_tryAddParty_63 rfl rfl (Or.inl rfl) rfl ?_
        refine mw_getP (v := 6) (pc' := 67) dX11_tryAddParty_64 rfl fr_RX11_26_0 rfl sp_0_3 ⟨by decide, by decide⟩ ?_
        refine mw_getP (v := 7) (pc' := 70) dX11_tryAddParty_67 rfl fr_RX11_107_6 rfl sp_6_0 ⟨by decide, by decide⟩ ?_
        refine mw_aload_n (v := vR 0) (pc' := 71) dX11_tryAddParty_70 rfl rfl (Or.inl rfl) rfl ?_
        refine mw_getP (v := 5) (pc' := 74) dX11_tryAddParty_71 rfl fr_RX11_19_0 rfl sp_0_2 ⟨by decide, by decide⟩ ?_
        refine mw_iload_n (pc' := 75) dX11_tryAddParty_74 rfl rfl rfl ?_
        refine mw_callV (M' := mX5_add) (A := [vR 5, vI v2]) (A' := [vR 7, vR 5, vI v2]) (S := []) (a := 7) (pc' := 78) dX11_tryAddParty_75 rfl cl_RX11_143 cm_X5_add cv_X5_add ⟨by decide, by decide, by decide, by decide, by decide⟩ rfl rfl rfl ⟨by decide, by omega⟩ (by decide +kernel) (by decide +kernel) (Nat.le_of_ble_eq_true rfl) (eX5_add ?_)
        refine ⟨fun c14 => ?_, fun c14 => ?_⟩
        · replace h1 := h1.1 (show d4 7 (2 : Int) < 8 from c14)
          obtain ⟨o15, h1⟩ := h1
          refine ⟨o15, ?_⟩
          obtain ⟨o16, h1⟩ := h1
          refine ⟨o16, ?_⟩
          obtain ⟨o17, h1⟩ := h1
          refine ⟨o17, ?_⟩
          obtain ⟨o18, h1⟩ := h1
          refine ⟨o18, ?_⟩
          obtain ⟨o19, h1⟩ := h1
          refine ⟨o19, ?_⟩
          show MW mX11_tryAddParty 0 0 78 [(0, vR 0), (1, vI v2)] [vI (((d4 7 2) + 1) - 1)] g3 (ud (ud (cpy (ud d4 1 1 0) 5 8 0 ((d4 7 2) * 8) 8) 9 (d4 7 2) v2) 7 2 ((d4 7 2) + 1)) Q
          exact mw_iret (pc' := 0) (S := []) dX11_tryAddParty_78 rfl (Or.inl rfl) h1
        · replace h1 := h1.2 (show ¬ (d4 7 (2 : Int) < 8) from c14)
          show MW mX11_tryAddParty 0 0 78 [(0, vR 0), (1, vI v2)] [vI (-3)] g3 (ud d4 1 1 0) Q
          exact mw_iret (pc' := 0) (S := []) dX11_tryAddParty_78 rfl (Or.inl rfl) h1
    · replace h1 := h1.1 c7
      refine mw_bipush (pc' := 25) dX11_tryAddParty_23 rfl ⟨by decide, by decide⟩ ?_
      exact mw_iret (pc' := 0) (S := []) dX11_tryAddParty_25 rfl (Or.inl rfl) h1
  · exact mx_out rfl h1
theorem eX11_addParty {g : mG} {d : mD} {Q : mQ} (h : MM mX11_setAside [vR 0] g d (fun o g3 d4 => match o with | .inl v2 => MM mX11_tryAddParty [vR 0] g3 d4 (fun o g7 d8 => match o with | .inl v6 => MM mX11_settle [vR 0, vI v6] g7 d8 (fun o g11 d12 => match o with | .inl v10 => Q (.inl v10) g11 d12 | .inr k => Q (.inr k) g11 d12) | .inr k => Q (.inr k) g7 d8) | .inr k => Q (.inr k) g3 d4)) : MM mX11_addParty [vR 0] g d Q := by
  refine MM_of (by decide) rfl (by simp [catV]) (Nat.le_of_ble_eq_true rfl) ?_
  show MW mX11_addParty 47 8228 0 [(0, vR 0)] [] g d Q
  refine mw_top (fun hT => ?_)
  have hG : 65 ≤ g.2.1 := hT.2
  refine mw_aload_n (v := vR 0) (pc' := 1) dX11_addParty_0 rfl rfl (Or.inl rfl) rfl ?_
  refine mw_callV (M' := mX11_setAside) (A := []) (A' := [vR 0]) (S := []) (a := 0) (pc' := 4) dX11_addParty_1 rfl cl_RX11_89 cm_X11_setAside cv_X11_setAside ⟨by decide, by decide, by decide, by decide, by decide⟩ rfl rfl rfl ⟨by decide, by omega⟩ (by decide +kernel) (by decide +kernel) (Nat.le_of_ble_eq_true rfl) (MM.mono ?_ h)
  intro o g3 d4 h1
  rcases o with v2 | k
  · refine mw_top (fun hT => ?_)
    have hG : 65 ≤ g3.2.1 := hT.2
    show MW mX11_addParty 1 6 4 [(0, vR 0)] [] g3 d4 Q
    refine mw_aload_n (v := vR 0) (pc' := 5) dX11_addParty_4 rfl rfl (Or.inl rfl) rfl ?_
    refine mw_aload_n (v := vR 0) (pc' := 6) dX11_addParty_5 rfl rfl (Or.inl rfl) rfl ?_
    refine mw_callV (M' := mX11_tryAddParty) (A := []) (A' := [vR 0]) (S := [vR 0]) (a := 0) (pc' := 9) dX11_addParty_6 rfl cl_RX11_92 cm_X11_tryAddParty cv_X11_tryAddParty ⟨by decide, by decide, by decide, by decide, by decide⟩ rfl rfl rfl ⟨by decide, by omega⟩ (by decide +kernel) (by decide +kernel) (Nat.le_of_ble_eq_true rfl) (MM.mono ?_ h1)
    intro o g7 d8 h5
    rcases o with v6 | k
    · refine mw_top (fun hT => ?_)
      have hG : 65 ≤ g7.2.1 := hT.2
      show MW mX11_addParty 1 6 9 [(0, vR 0)] [vI v6, vR 0] g7 d8 Q
      refine mw_callV (M' := mX11_settle) (A := [vI v6]) (A' := [vR 0, vI v6]) (S := []) (a := 0) (pc' := 12) dX11_addParty_9 rfl cl_RX11_96 cm_X11_settle cv_X11_settle ⟨by decide, by decide, by decide, by decide, by decide⟩ rfl rfl rfl ⟨by decide, by omega⟩ (by decide +kernel) (by decide +kernel) (Nat.le_of_ble_eq_true rfl) (MM.mono ?_ h5)
      intro o g11 d12 h9
      rcases o with v10 | k
      · refine mw_top (fun hT => ?_)
        have hG : 65 ≤ g11.2.1 := hT.2
        show MW mX11_addParty 0 0 12 [(0, vR 0)] [vI v10] g11 d12 Q
        exact mw_iret (pc' := 0) (S := []) dX11_addParty_12 rfl (Or.inl rfl) h9
      · exact mx_out rfl h9
    · exact mx_out rfl h5
  · exact mx_out rfl h1
theorem eX11_advance {x1 : Int} {g : mG} {d : mD} {Q : mQ} (h : MM mX11_setAside [vR 0] g d (fun o g3 d4 => match o with | .inl v2 => (((x1 < 1) ∨ (¬ (x1 ≤ 400))) → MM mX11_settle [vR 0, vI (-2)] g3 d4 (fun o g8 d9 => match o with | .inl v7 => Q (.inl v7) g8 d9 | .inr k => Q (.inr k) g8 d9)) ∧ ((¬ ((x1 < 1) ∨ (¬ (x1 ≤ 400)))) → (iI ((d4 10 0) + x1)) ∧ ((((d4 10 0) + x1 ≤ 1500) → MM mX11_settle [vR 0, vI ((d4 10 0) + x1)] g3 (ud d4 10 0 ((d4 10 0) + x1)) (fun o g14 d15 => match o with | .inl v13 => Q (.inl v13) g14 d15 | .inr k => Q (.inr k) g14 d15)) ∧ ((¬ ((d4 10 0) + x1 ≤ 1500)) → MM mX11_settle [vR 0, vI (-3)] g3 d4 (fun o g18 d19 => match o with | .inl v17 => Q (.inl v17) g18 d19 | .inr k => Q (.inr k) g18 d19)))) | .inr k => Q (.inr k) g3 d4)) : MM mX11_advance [vR 0, vI x1] g d Q := by
  refine MM_of (by decide) rfl (by simp [catV]) (Nat.le_of_ble_eq_true rfl) ?_
  show MW mX11_advance 47 8228 0 [(0, vR 0), (1, vI x1)] [] g d Q
  refine mw_top (fun hT => ?_)
  have hG : 65 ≤ g.2.1 := hT.2
  refine mw_aload_n (v := vR 0) (pc' := 1) dX11_advance_0 rfl rfl (Or.inl rfl) rfl ?_
  refine mw_callV (M' := mX11_setAside) (A := []) (A' := [vR 0]) (S := []) (a := 0) (pc' := 4) dX11_advance_1 rfl cl_RX11_89 cm_X11_setAside cv_X11_setAside ⟨by decide, by decide, by decide, by decide, by decide⟩ rfl rfl rfl ⟨by decide, by omega⟩ (by decide +kernel) (by decide +kernel) (Nat.le_of_ble_eq_true rfl) (MM.mono ?_ h)
  intro o g3 d4 h1
  rcases o with v2 | k
  · refine mw_top (fun hT => ?_)
    have hG : 65 ≤ g3.2.1 := hT.2
    show MW mX11_advance 1 6 4 [(0, vR 0), (1, vI x1)] [] g3 d4 Q
    refine mw_aload_n (v := vR 0) (pc' := 5) dX11_advance_4 rfl rfl (Or.inl rfl) rfl ?_
    refine mw_aload_n (v := vR 0) (pc' := 6) dX11_advance_5 rfl rfl (Or.inl rfl) rfl ?_
    refine mw_iload_n (pc' := 7) dX11_advance_6 rfl rfl rfl ?_
    refine mw_callV (M' := mX11_tryAdvance) (A := [vI x1]) (A' := [vR 0, vI x1]) (S := [vR 0]) (a := 0) (pc' := 10) dX11_advance_7 rfl cl_RX11_157 cm_X11_tryAdvance cv_X11_tryAdvance ⟨by decide, by decide, by decide, by decide, by decide⟩ rfl rfl rfl ⟨by decide, by omega⟩ (by decide +kernel) (by decide +kernel) (Nat.le_of_ble_eq_true rfl) (eX11_tryAdvance ?_)
    refine ⟨fun c5 => ?_, fun c5 => ?_⟩
    · replace h1 := h1.1 (show (x1 < 1) ∨ (¬ (x1 ≤ 400)) from c5)
      show MW mX11_advance 1 6 10 [(0, vR 0), (1, vI x1)] [vI (-2), vR 0] g3 d4 Q
      refine mw_callV (M' := mX11_settle) (A := [vI (-2)]) (A' := [vR 0, vI (-2)]) (S := []) (a := 0) (pc' := 13) dX11_advance_10 rfl cl_RX11_96 cm_X11_settle cv_X11_settle ⟨by decide, by decide, by decide, by decide, by decide⟩ rfl rfl rfl ⟨by decide, by omega⟩ (by decide +kernel) (by decide +kernel) (Nat.le_of_ble_eq_true rfl) (MM.mono ?_ h1)
      intro o g8 d9 h6
      rcases o with v7 | k
      · refine mw_top (fun hT => ?_)
        have hG : 65 ≤ g8.2.1 := hT.2
        show MW mX11_advance 0 0 13 [(0, vR 0), (1, vI x1)] [vI v7] g8 d9 Q
        exact mw_iret (pc' := 0) (S := []) dX11_advance_13 rfl (Or.inl rfl) h6
      · exact mx_out rfl h6
    · replace h1 := h1.2 (show ¬ ((x1 < 1) ∨ (¬ (x1 ≤ 400))) from c5)
      obtain ⟨o10, h1⟩ := h1
      refine ⟨o10, ?_⟩
      refine ⟨fun c11 => ?_, fun c11 => ?_⟩
      · replace h1 := h1.1 (show (d4 10 0) + x1 ≤ 1500 from c11)
        show MW mX11_advance 1 6 10 [(0, vR 0), (1, vI x1)] [vI ((d4 10 0) + x1), vR 0] g3 (ud d4 10 0 ((d4 10 0) + x1)) Q
        refine mw_callV (M' := mX11_settle) (A := [vI ((d4 10 0) + x1)]) (A' := [vR 0, vI ((d4 10 0) + x1)]) (S := []) (a := 0) (pc' := 13) dX11_advance_10 rfl cl_RX11_96 cm_X11_settle cv_X11_settle ⟨by decide, by decide, by decide, by decide, by decide⟩ rfl rfl rfl ⟨by decide, by omega⟩ (by decide +kernel) (by decide +kernel) (Nat.le_of_ble_eq_true rfl) (MM.mono ?_ h1)
        intro o g14 d15 h12
        rcases o with v13 | k
        · refine mw_top (fun hT => ?_)
          have hG : 65 ≤ g14.2.1 := hT.2
          show MW mX11_advance 0 0 13 [(0, vR 0), (1, vI x1)] [vI v13] g14 d15 Q
          exact mw_iret (pc' := 0) (S := []) dX11_advance_13 rfl (Or.inl rfl) h12
        · exact mx_out rfl h12
      · replace h1 := h1.2 (show ¬ ((d4 10 0) + x1 ≤ 1500) from c11)
        show MW mX11_advance 1 6 10 [(0, vR 0), (1, vI x1)] [vI (-3), vR 0] g3 d4 Q
        refine mw_callV (M' := mX11_settle) (A := [vI (-3)]) (A' := [vR 0, vI (-3)]) (S := []) (a := 0) (pc' := 13) dX11_advance_10 rfl cl_RX11_96 cm_X11_settle cv_X11_settle ⟨by decide, by decide, by decide, by decide, by decide⟩ rfl rfl rfl ⟨by decide, by omega⟩ (by decide +kernel) (by decide +kernel) (Nat.le_of_ble_eq_true rfl) (MM.mono ?_ h1)
        intro o g18 d19 h16
        rcases o with v17 | k
        · refine mw_top (fun hT => ?_)
          have hG : 65 ≤ g18.2.1 := hT.2
          show MW mX11_advance 0 0 13 [(0, vR 0), (1, vI x1)] [vI v17] g18 d19 Q
          exact mw_iret (pc' := 0) (S := []) dX11_advance_13 rfl (Or.inl rfl) h16
        · exact mx_out rfl h16
  · exact mx_out rfl h1
theorem eX11_addHoliday {x1 : Int} {g : mG} {d : mD} {Q : mQ} (h : MM mX11_setAside [vR 0] g d (fun o g3 d4 => match o with | .inl v2 => MM mX11_tryAddHoliday [vR 0, vI x1] g3 d4 (fun o g7 d8 => match o with | .inl v6 => MM mX11_settle [vR 0, vI v6] g7 d8 (fun o g11 d12 => match o with | .inl v10 => Q (.inl v10) g11 d12 | .inr k => Q (.inr k) g11 d12) | .inr k => Q (.inr k) g7 d8) | .inr k => Q (.inr k) g3 d4)) : MM mX11_addHoliday [vR 0, vI x1] g d Q := by
  refine MM_of (by decide) rfl (by simp [catV]) (Nat.le_of_ble_eq_true rfl) ?_
  show MW mX11_addHoliday 47 8228 0 [(0, vR 0), (1, vI x1)] [] g d Q
  refine mw_top (fun hT => ?_)
  have hG : 65 ≤ g.2.1 := hT.2
  refine mw_aload_n (v := vR 0) (pc' := 1) dX11_addHoliday_0 rfl rfl (Or.inl rfl) rfl ?_
  refine mw_callV (M' := mX11_setAside) (A := []) (A' := [vR 0]) (S := []) (a := 0) (pc' := 4) dX11_addHoliday_1 rfl cl_RX11_89 cm_X11_setAside cv_X11_setAside ⟨by decide, by decide, by decide, by decide, by decide⟩ rfl rfl rfl ⟨by decide, by omega⟩ (by decide +kernel) (by decide +kernel) (Nat.le_of_ble_eq_true rfl) (MM.mono ?_ h)
  intro o g3 d4 h1
  rcases o with v2 | k
  · refine mw_top (fun hT => ?_)
    have hG : 65 ≤ g3.2.1 := hT.2
    show MW mX11_addHoliday 1 6 4 [(0, vR 0), (1, vI x1)] [] g3 d4 Q
    refine mw_aload_n (v := vR 0) (pc' := 5) dX11_addHoliday_4 rfl rfl (Or.inl rfl) rfl ?_
    refine mw_aload_n (v := vR 0) (pc' := 6) dX11_addHoliday_5 rfl rfl (Or.inl rfl) rfl ?_
    refine mw_iload_n (pc' := 7) dX11_addHoliday_6 rfl rfl rfl ?_
    refine mw_callV (M' := mX11_tryAddHoliday) (A := [vI x1]) (A' := [vR 0, vI x1]) (S := [vR 0]) (a := 0) (pc' := 10) dX11_addHoliday_7 rfl cl_RX11_166 cm_X11_tryAddHoliday cv_X11_tryAddHoliday ⟨by decide, by decide, by decide, by decide, by decide⟩ rfl rfl rfl ⟨by decide, by omega⟩ (by decide +kernel) (by decide +kernel) (Nat.le_of_ble_eq_true rfl) (MM.mono ?_ h1)
    intro o g7 d8 h5
    rcases o with v6 | k
    · refine mw_top (fun hT => ?_)
      have hG : 65 ≤ g7.2.1 := hT.2
      show MW mX11_addHoliday 1 6 10 [(0, vR 0), (1, vI x1)] [vI v6, vR 0] g7 d8 Q
      refine mw_callV (M' := mX11_settle) (A := [vI v6]) (A' := [vR 0, vI v6]) (S := []) (a := 0) (pc' := 13) dX11_addHoliday_10 rfl cl_RX11_96 cm_X11_settle cv_X11_settle ⟨by decide, by decide, by decide, by decide, by decide⟩ rfl rfl rfl ⟨by decide, by omega⟩ (by decide +kernel) (by decide +kernel) (Nat.le_of_ble_eq_true rfl) (MM.mono ?_ h5)
      intro o g11 d12 h9
      rcases o with v10 | k
      · refine mw_top (fun hT => ?_)
        have hG : 65 ≤ g11.2.1 := hT.2
        show MW mX11_addHoliday 0 0 13 [(0, vR 0), (1, vI x1)] [vI v10] g11 d12 Q
        exact mw_iret (pc' := 0) (S := []) dX11_addHoliday_13 rfl (Or.inl rfl) h9
      · exact mx_out rfl h9
    · exact mx_out rfl h5
  · exact mx_out rfl h1
theorem eX11_setRule {x1 x2 x3 : Int} {g : mG} {d : mD} {Q : mQ} (h : MM mX11_setAside [vR 0] g d (fun o g3 d4 => match o with | .inl v2 => (((¬ (x1 < 0)) ∧ (¬ (8 ≤ x1))) → (((x2 < 1) ∨ (¬ (x2 ≤ 200))) → MM mX11_settle [vR 0, vI (-2)] g3 d4 (fun o g9 d10 => match o with | .inl v8 => Q (.inl v8) g9 d10 | .inr k => Q (.inr k) g9 d10)) ∧ ((¬ ((x2 < 1) ∨ (¬ (x2 ≤ 200)))) → (0 ≤ x1 ∧ x1 < 8) ∧ ((0 ≤ x3 ∧ x3 ≤ 1) ∧ (MM mX11_settle [vR 0, vI (d4 13 x1)] g3 (ud (ud d4 13 x1 x2) 14 x1 x3) (fun o g15 d16 => match o with | .inl v14 => Q (.inl v14) g15 d16 | .inr k => Q (.inr k) g15 d16))))) ∧ ((¬ ((¬ (x1 < 0)) ∧ (¬ (8 ≤ x1)))) → MM mX11_settle [vR 0, vI (-1)] g3 d4 (fun o g19 d20 => match o with | .inl v18 => Q (.inl v18) g19 d20 | .inr k => Q (.inr k) g19 d20)) | .inr k => Q (.inr k) g3 d4)) : MM mX11_setRule [vR 0, vI x1, vI x2, vI x3] g d Q := by
  refine MM_of (by decide) rfl (by simp [catV]) (Nat.le_of_ble_eq_true rfl) ?_
  show MW mX11_setRule 47 8228 0 [(0, vR 0), (1, vI x1), (2, vI x2), (3, vI x3)] [] g d Q
  refine mw_top (fun hT => ?_)
  have hG : 65 ≤ g.2.1 := hT.2
  refine mw_aload_n (v := vR 0) (pc' := 1) dX11_setRule_0 rfl rfl (Or.inl rfl) rfl ?_
  refine mw_callV (M' := mX11_setAside) (A := []) (A' := [vR 0]) (S := []) (a := 0) (pc' := 4) dX11_setRule_1 rfl cl_RX11_89 cm_X11_setAside cv_X11_setAside ⟨by decide, by decide, by decide, by decide, by decide⟩ rfl rfl rfl ⟨by decide, by omega⟩ (by decide +kernel) (by decide +kernel) (Nat.le_of_ble_eq_true rfl) (MM.mono ?_ h)
  intro o g3 d4 h1
  rcases o with v2 | k
  · refine mw_top (fun hT => ?_)
    have hG : 65 ≤ g3.2.1 := hT.2
    show MW mX11_setRule 1 6 4 [(0, vR 0), (1, vI x1), (2, vI x2), (3, vI x3)] [] g3 d4 Q
    refine mw_aload_n (v := vR 0) (pc' := 5) dX11_setRule_4 rfl rfl (Or.inl rfl) rfl ?_
    refine mw_aload_n (v := vR 0) (pc' := 6) dX11_setRule_5 rfl rfl (Or.inl rfl) rfl ?_
    refine mw_iload_n (pc' := 7) dX11_setRule_6 rfl rfl rfl ?_
    refine mw_iload_n (pc' := 8) dX11_setRule_7 rfl rfl rfl ?_
    refine mw_iload_n (pc' := 9) dX11_setRule_8 rfl rfl rfl ?_
    refine mw_callV (M' := mX11_trySetRule) (A := [vI x1, vI x2, vI x3]) (A' := [vR 0, vI x1, vI x2, vI x3]) (S := [vR 0]) (a := 0) (pc' := 12) dX11_setRule_9 rfl cl_RX11_203 cm_X11_trySetRule cv_X11_trySetRule ⟨by decide, by decide, by decide, by decide, by decide⟩ rfl rfl rfl ⟨by decide, by omega⟩ (by decide +kernel) (by decide +kernel) (Nat.le_of_ble_eq_true rfl) (eX11_trySetRule ?_)
    refine ⟨fun c5 => ?_, fun c5 => ?_⟩
    · replace h1 := h1.1 (show (¬ (x1 < 0)) ∧ (¬ (8 ≤ x1)) from c5)
      refine ⟨fun c6 => ?_, fun c6 => ?_⟩
      · replace h1 := h1.1 (show (x2 < 1) ∨ (¬ (x2 ≤ 200)) from c6)
        show MW mX11_setRule 1 6 12 [(0, vR 0), (1, vI x1), (2, vI x2), (3, vI x3)] [vI (-2), vR 0] g3 d4 Q
        refine mw_callV (M' := mX11_settle) (A := [vI (-2)]) (A' := [vR 0, vI (-2)]) (S := []) (a := 0) (pc' := 15) dX11_setRule_12 rfl cl_RX11_96 cm_X11_settle cv_X11_settle ⟨by decide, by decide, by decide, by decide, by decide⟩ rfl rfl rfl ⟨by decide, by omega⟩ (by decide +kernel) (by decide +kernel) (Nat.le_of_ble_eq_true rfl) (MM.mono ?_ h1)
        intro o g9 d10 h7
        rcases o with v8 | k
        · refine mw_top (fun hT => ?_)
          have hG : 65 ≤ g9.2.1 := hT.2
          show MW mX11_setRule 0 0 15 [(0, vR 0), (1, vI x1), (2, vI x2), (3, vI x3)] [vI v8] g9 d10 Q
          exact mw_iret (pc' := 0) (S := []) dX11_setRule_15 rfl (Or.inl rfl) h7
        · exact mx_out rfl h7
      · replace h1 := h1.2 (show ¬ ((x2 < 1) ∨ (¬ (x2 ≤ 200))) from c6)
        obtain ⟨o11, h1⟩ := h1
        refine ⟨o11, ?_⟩
        obtain ⟨o12, h1⟩ := h1
        refine ⟨o12, ?_⟩
        show MW mX11_setRule 1 6 12 [(0, vR 0), (1, vI x1), (2, vI x2), (3, vI x3)] [vI (d4 13 x1), vR 0] g3 (ud (ud d4 13 x1 x2) 14 x1 x3) Q
        refine mw_callV (M' := mX11_settle) (A := [vI (d4 13 x1)]) (A' := [vR 0, vI (d4 13 x1)]) (S := []) (a := 0) (pc' := 15) dX11_setRule_12 rfl cl_RX11_96 cm_X11_settle cv_X11_settle ⟨by decide, by decide, by decide, by decide, by decide⟩ rfl rfl rfl ⟨by decide, by omega⟩ (by decide +kernel) (by decide +kernel) (Nat.le_of_ble_eq_true rfl) (MM.mono ?_ h1)
        intro o g15 d16 h13
        rcases o with v14 | k
        · refine mw_top (fun hT => ?_)
          have hG : 65 ≤ g15.2.1 := hT.2
          show MW mX11_setRule 0 0 15 [(0, vR 0), (1, vI x1), (2, vI x2), (3, vI x3)] [vI v14] g15 d16 Q
          exact mw_iret (pc' := 0) (S := []) dX11_setRule_15 rfl (Or.inl rfl) h13
        · exact mx_out rfl h13
    · replace h1 := h1.2 (show ¬ ((¬ (x1 < 0)) ∧ (¬ (8 ≤ x1))) from c5)
      show MW mX11_setRule 1 6 12 [(0, vR 0), (1, vI x1), (2, vI x2), (3, vI x3)] [vI (-1), vR 0] g3 d4 Q
      refine mw_callV (M' := mX11_settle) (A := [vI (-1)]) (A' := [vR 0, vI (-1)]) (S := []) (a := 0) (pc' := 15) dX11_setRule_12 rfl cl_RX11_96 cm_X11_settle cv_X11_settle ⟨by decide, by decide, by decide, by decide, by decide⟩ rfl rfl rfl ⟨by decide, by omega⟩ (by decide +kernel) (by decide +kernel) (Nat.le_of_ble_eq_true rfl) (MM.mono ?_ h1)
      intro o g19 d20 h17
      rcases o with v18 | k
      · refine mw_top (fun hT => ?_)
        have hG : 65 ≤ g19.2.1 := hT.2
        show MW mX11_setRule 0 0 15 [(0, vR 0), (1, vI x1), (2, vI x2), (3, vI x3)] [vI v18] g19 d20 Q
        exact mw_iret (pc' := 0) (S := []) dX11_setRule_15 rfl (Or.inl rfl) h17
      · exact mx_out rfl h17
  · exact mx_out rfl h1
theorem eX11_setServiceDays {x1 x2 : Int} {g : mG} {d : mD} {Q : mQ} (h : MM mX11_setAside [vR 0] g d (fun o g3 d4 => match o with | .inl v2 => MM mX11_trySetServiceDays [vR 0, vI x1, vI x2] g3 d4 (fun o g7 d8 => match o with | .inl v6 => MM mX11_settle [vR 0, vI v6] g7 d8 (fun o g11 d12 => match o with | .inl v10 => Q (.inl v10) g11 d12 | .inr k => Q (.inr k) g11 d12) | .inr k => Q (.inr k) g7 d8) | .inr k => Q (.inr k) g3 d4)) : MM mX11_setServiceDays [vR 0, vI x1, vI x2] g d Q := by
  refine MM_of (by decide) rfl (by simp [catV]) (Nat.le_of_ble_eq_true rfl) ?_
  show MW mX11_setServiceDays 47 8228 0 [(0, vR 0), (1, vI x1), (2, vI x2)] [] g d Q
  refine mw_top (fun hT => ?_)
  have hG : 65 ≤ g.2.1 := hT.2
  refine mw_aload_n (v := vR 0) (pc' := 1) dX11_setServiceDays_0 rfl rfl (Or.inl rfl) rfl ?_
  refine mw_callV (M' := mX11_setAside) (A := []) (A' := [vR 0]) (S := []) (a := 0) (pc' := 4) dX11_setServiceDays_1 rfl cl_RX11_89 cm_X11_setAside cv_X11_setAside ⟨by decide, by decide, by decide, by decide, by decide⟩ rfl rfl rfl ⟨by decide, by omega⟩ (by decide +kernel) (by decide +kernel) (Nat.le_of_ble_eq_true rfl) (MM.mono ?_ h)
  intro o g3 d4 h1
  rcases o with v2 | k
  · refine mw_top (fun hT => ?_)
    have hG : 65 ≤ g3.2.1 := hT.2
    show MW mX11_setServiceDays 1 6 4 [(0, vR 0), (1, vI x1), (2, vI x2)] [] g3 d4 Q
    refine mw_aload_n (v := vR 0) (pc' := 5) dX11_setServiceDays_4 rfl rfl (Or.inl rfl) rfl ?_
    refine mw_aload_n (v := vR 0) (pc' := 6) dX11_setServiceDays_5 rfl rfl (Or.inl rfl) rfl ?_
    refine mw_iload_n (pc' := 7) dX11_setServiceDays_6 rfl rfl rfl ?_
    refine mw_iload_n (pc' := 8) dX11_setServiceDays_7 rfl rfl rfl ?_
    refine mw_callV (M' := mX11_trySetServiceDays) (A := [vI x1, vI x2]) (A' := [vR 0, vI x1, vI x2]) (S := [vR 0]) (a := 0) (pc' := 11) dX11_setServiceDays_8 rfl cl_RX11_221 cm_X11_trySetServiceDays cv_X11_trySetServiceDays ⟨by decide, by decide, by decide, by decide, by decide⟩ rfl rfl rfl ⟨by decide, by omega⟩ (by decide +kernel) (by decide +kernel) (Nat.le_of_ble_eq_true rfl) (MM.mono ?_ h1)
    intro o g7 d8 h5
    rcases o with v6 | k
    · refine mw_top (fun hT => ?_)
      have hG : 65 ≤ g7.2.1 := hT.2
      show MW mX11_setServiceDays 1 6 11 [(0, vR 0), (1, vI x1), (2, vI x2)] [vI v6, vR 0] g7 d8 Q
      refine mw_callV (M' := mX11_settle) (A := [vI v6]) (A' := [vR 0, vI v6]) (S := []) (a := 0) (pc' := 14) dX11_setServiceDays_11 rfl cl_RX11_96 cm_X11_settle cv_X11_settle ⟨by decide, by decide, by decide, by decide, by decide⟩ rfl rfl rfl ⟨by decide, by omega⟩ (by decide +kernel) (by decide +kernel) (Nat.le_of_ble_eq_true rfl) (MM.mono ?_ h5)
      intro o g11 d12 h9
      rcases o with v10 | k
      · refine mw_top (fun hT => ?_)
        have hG : 65 ≤ g11.2.1 := hT.2
        show MW mX11_setServiceDays 0 0 14 [(0, vR 0), (1, vI x1), (2, vI x2)] [vI v10] g11 d12 Q
        exact mw_iret (pc' := 0) (S := []) dX11_setServiceDays_14 rfl (Or.inl rfl) h9
      · exact mx_out rfl h9
    · exact mx_out rfl h5
  · exact mx_out rfl h1
theorem eX11_serve {x1 x2 x3 : Int} {g : mG} {d : mD} {Q : mQ} (h : MM mX11_setAside [vR 0] g d (fun o g3 d4 => match o with | .inl v2 => MM mX11_tryServe [vR 0, vI x1, vI x2, vI x3] g3 d4 (fun o g7 d8 => match o with | .inl v6 => MM mX11_settle [vR 0, vI v6] g7 d8 (fun o g11 d12 => match o with | .inl v10 => Q (.inl v10) g11 d12 | .inr k => Q (.inr k) g11 d12) | .inr k => Q (.inr k) g7 d8) | .inr k => Q (.inr k) g3 d4)) : MM mX11_serve [vR 0, vI x1, vI x2, vI x3] g d Q := by
  refine MM_of (by decide) rfl (by simp [catV]) (Nat.le_of_ble_eq_true rfl) ?_
  show MW mX11_serve 47 8228 0 [(0, vR 0), (1, vI x1), (2, vI x2), (3, vI x3)] [] g d Q
  refine mw_top (fun hT => ?_)
  have hG : 65 ≤ g.2.1 := hT.2
  refine mw_aload_n (v := vR 0) (pc' := 1) dX11_serve_0 rfl rfl (Or.inl rfl) rfl ?_
  refine mw_callV (M' := mX11_setAside) (A := []) (A' := [vR 0]) (S := []) (a := 0) (pc' := 4) dX11_serve_1 rfl cl_RX11_89 cm_X11_setAside cv_X11_setAside ⟨by decide, by decide, by decide, by decide, by decide⟩ rfl rfl rfl ⟨by decide, by omega⟩ (by decide +kernel) (by decide +kernel) (Nat.le_of_ble_eq_true rfl) (MM.mono ?_ h)
  intro o g3 d4 h1
  rcases o with v2 | k
  · refine mw_top (fun hT => ?_)
    have hG : 65 ≤ g3.2.1 := hT.2
    show MW mX11_serve 1 6 4 [(0, vR 0), (1, vI x1), (2, vI x2), (3, vI x3)] [] g3 d4 Q
    refine mw_aload_n (v := vR 0) (pc' := 5) dX11_serve_4 rfl rfl (Or.inl rfl) rfl ?_
    refine mw_aload_n (v := vR 0) (pc' := 6) dX11_serve_5 rfl rfl (Or.inl rfl) rfl ?_
    refine mw_iload_n (pc' := 7) dX11_serve_6 rfl rfl rfl ?_
    refine mw_iload_n (pc' := 8) dX11_serve_7 rfl rfl rfl ?_
    refine mw_iload_n (pc' := 9) dX11_serve_8 rfl rfl rfl ?_
    refine mw_callV (M' := mX11_tryServe) (A := [vI x1, vI x2, vI x3]) (A' := [vR 0, vI x1, vI x2, vI x3]) (S := [vR 0]) (a := 0) (pc' := 12) dX11_serve_9 rfl cl_RX11_248 cm_X11_tryServe cv_X11_tryServe ⟨by decide, by decide, by decide, by decide, by decide⟩ rfl rfl rfl ⟨by decide, by omega⟩ (by decide +kernel) (by decide +kernel) (Nat.le_of_ble_eq_true rfl) (MM.mono ?_ h1)
    intro o g7 d8 h5
    rcases o with v6 | k
    · refine mw_top (fun hT => ?_)
      have hG : 65 ≤ g7.2.1 := hT.2
      show MW mX11_serve 1 6 12 [(0, vR 0), (1, vI x1), (2, vI x2), (3, vI x3)] [vI v6, vR 0] g7 d8 Q
      refine mw_callV (M' := mX11_settle) (A := [vI v6]) (A' := [vR 0, vI v6]) (S := []) (a := 0) (pc' := 15) dX11_serve_12 rfl cl_RX11_96 cm_X11_settle cv_X11_settle ⟨by decide, by decide, by decide, by decide, by decide⟩ rfl rfl rfl ⟨by decide, by omega⟩ (by decide +kernel) (by decide +kernel) (Nat.le_of_ble_eq_true rfl) (MM.mono ?_ h5)
      intro o g11 d12 h9
      rcases o with v10 | k
      · refine mw_top (fun hT => ?_)
        have hG : 65 ≤ g11.2.1 := hT.2
        show MW mX11_serve 0 0 15 [(0, vR 0), (1, vI x1), (2, vI x2), (3, vI x3)] [vI v10] g11 d12 Q
        exact mw_iret (pc' := 0) (S := []) dX11_serve_15 rfl (Or.inl rfl) h9
      · exact mx_out rfl h9
    · exact mx_out rfl h5
  · exact mx_out rfl h1
theorem eX11_extendByConsent {x1 x2 : Int} {g : mG} {d : mD} {Q : mQ} (h : MM mX11_setAside [vR 0] g d (fun o g3 d4 => match o with | .inl v2 => MM mX11_tryExtendByConsent [vR 0, vI x1, vI x2] g3 d4 (fun o g7 d8 => match o with | .inl v6 => MM mX11_settle [vR 0, vI v6] g7 d8 (fun o g11 d12 => match o with | .inl v10 => Q (.inl v10) g11 d12 | .inr k => Q (.inr k) g11 d12) | .inr k => Q (.inr k) g7 d8) | .inr k => Q (.inr k) g3 d4)) : MM mX11_extendByConsent [vR 0, vI x1, vI x2] g d Q := by
  refine MM_of (by decide) rfl (by simp [catV]) (Nat.le_of_ble_eq_true rfl) ?_
  show MW mX11_extendByConsent 47 8228 0 [(0, vR 0), (1, vI x1), (2, vI x2)] [] g d Q
  refine mw_top (fun hT => ?_)
  have hG : 65 ≤ g.2.1 := hT.2
  refine mw_aload_n (v := vR 0) (pc' := 1) dX11_extendByConsent_0 rfl rfl (Or.inl rfl) rfl ?_
  refine mw_callV (M' := mX11_setAside) (A := []) (A' := [vR 0]) (S := []) (a := 0) (pc' := 4) dX11_extendByConsent_1 rfl cl_RX11_89 cm_X11_setAside cv_X11_setAside ⟨by decide, by decide, by decide, by decide, by decide⟩ rfl rfl rfl ⟨by decide, by omega⟩ (by decide +kernel) (by decide +kernel) (Nat.le_of_ble_eq_true rfl) (MM.mono ?_ h)
  intro o g3 d4 h1
  rcases o with v2 | k
  · refine mw_top (fun hT => ?_)
    have hG : 65 ≤ g3.2.1 := hT.2
    show MW mX11_extendByConsent 1 6 4 [(0, vR 0), (1, vI x1), (2, vI x2)] [] g3 d4 Q
    refine mw_aload_n (v := vR 0) (pc' := 5) dX11_extendByConsent_4 rfl rfl (Or.inl rfl) rfl ?_
    refine mw_aload_n (v := vR 0) (pc' := 6) dX11_extendByConsent_5 rfl rfl (Or.inl rfl) rfl ?_
    refine mw_iload_n (pc' := 7) dX11_extendByConsent_6 rfl rfl rfl ?_
    refine mw_iload_n (pc' := 8) dX11_extendByConsent_7 rfl rfl rfl ?_
    refine mw_callV (M' := mX11_tryExtendByConsent) (A := [vI x1, vI x2]) (A' := [vR 0, vI x1, vI x2]) (S := [vR 0]) (a := 0) (pc' := 11) dX11_extendByConsent_8 rfl cl_RX11_278 cm_X11_tryExtendByConsent cv_X11_tryExtendByConsent ⟨by decide, by decide, by decide, by decide, by decide⟩ rfl rfl rfl ⟨by decide, by omega⟩ (by decide +kernel) (by decide +kernel) (Nat.le_of_ble_eq_true rfl) (MM.mono ?_ h1)
    intro o g7 d8 h5
    rcases o with v6 | k
    · refine mw_top (fun hT => ?_)
      have hG : 65 ≤ g7.2.1 := hT.2
      show MW mX11_extendByConsent 1 6 11 [(0, vR 0), (1, vI x1), (2, vI x2)] [vI v6, vR 0] g7 d8 Q
      refine mw_callV (M' := mX11_settle) (A := [vI v6]) (A' := [vR 0, vI v6]) (S := []) (a := 0) (pc' := 14) dX11_extendByConsent_11 rfl cl_RX11_96 cm_X11_settle cv_X11_settle ⟨by decide, by decide, by decide, by decide, by decide⟩ rfl rfl rfl ⟨by decide, by omega⟩ (by decide +kernel) (by decide +kernel) (Nat.le_of_ble_eq_true rfl) (MM.mono ?_ h5)
      intro o g11 d12 h9
      rcases o with v10 | k
      · refine mw_top (fun hT => ?_)
        have hG : 65 ≤ g11.2.1 := hT.2
        show MW mX11_extendByConsent 0 0 14 [(0, vR 0), (1, vI x1), (2, vI x2)] [vI v10] g11 d12 Q
        exact mw_iret (pc' := 0) (S := []) dX11_extendByConsent_14 rfl (Or.inl rfl) h9
      · exact mx_out rfl h9
    · exact mx_out rfl h5
  · exact mx_out rfl h1
theorem eX11_extendByOrder {x1 x2 : Int} {g : mG} {d : mD} {Q : mQ} (h : MM mX11_setAside [vR 0] g d (fun o g3 d4 => match o with | .inl v2 => MM mX11_tryExtendByOrder [vR 0, vI x1, vI x2] g3 d4 (fun o g7 d8 => match o with | .inl v6 => MM mX11_settle [vR 0, vI v6] g7 d8 (fun o g11 d12 => match o with | .inl v10 => Q (.inl v10) g11 d12 | .inr k => Q (.inr k) g11 d12) | .inr k => Q (.inr k) g7 d8) | .inr k => Q (.inr k) g3 d4)) : MM mX11_extendByOrder [vR 0, vI x1, vI x2] g d Q := by
  refine MM_of (by decide) rfl (by simp [catV]) (Nat.le_of_ble_eq_true rfl) ?_
  show MW mX11_extendByOrder 47 8228 0 [(0, vR 0), (1, vI x1), (2, vI x2)] [] g d Q
  refine mw_top (fun hT => ?_)
  have hG : 65 ≤ g.2.1 := hT.2
  refine mw_aload_n (v := vR 0) (pc' := 1) dX11_extendByOrder_0 rfl rfl (Or.inl rfl) rfl ?_
  refine mw_callV (M' := mX11_setAside) (A := []) (A' := [vR 0]) (S := []) (a := 0) (pc' := 4) dX11_extendByOrder_1 rfl cl_RX11_89 cm_X11_setAside cv_X11_setAside ⟨by decide, by decide, by decide, by decide, by decide⟩ rfl rfl rfl ⟨by decide, by omega⟩ (by decide +kernel) (by decide +kernel) (Nat.le_of_ble_eq_true rfl) (MM.mono ?_ h)
  intro o g3 d4 h1
  rcases o with v2 | k
  · refine mw_top (fun hT => ?_)
    have hG : 65 ≤ g3.2.1 := hT.2
    show MW mX11_extendByOrder 1 6 4 [(0, vR 0), (1, vI x1), (2, vI x2)] [] g3 d4 Q
    refine mw_aload_n (v := vR 0) (pc' := 5) dX11_extendByOrder_4 rfl rfl (Or.inl rfl) rfl ?_
    refine mw_aload_n (v := vR 0) (pc' := 6) dX11_extendByOrder_5 rfl rfl (Or.inl rfl) rfl ?_
    refine mw_iload_n (pc' := 7) dX11_extendByOrder_6 rfl rfl rfl ?_
    refine mw_iload_n (pc' := 8) dX11_extendByOrder_7 rfl rfl rfl ?_
    refine mw_callV (M' := mX11_tryExtendByOrder) (A := [vI x1, vI x2]) (A' := [vR 0, vI x1, vI x2]) (S := [vR 0]) (a := 0) (pc' := 11) dX11_extendByOrder_8 rfl cl_RX11_281 cm_X11_tryExtendByOrder cv_X11_tryExtendByOrder ⟨by decide, by decide, by decide, by decide, by decide⟩ rfl rfl rfl ⟨by decide, by omega⟩ (by decide +kernel) (by decide +kernel) (Nat.le_of_ble_eq_true rfl) (MM.mono ?_ h1)
    intro o g7 d8 h5
    rcases o with v6 | k
    · refine mw_top (fun hT => ?_)
      have hG : 65 ≤ g7.2.1 := hT.2
      show MW mX11_extendByOrder 1 6 11 [(0, vR 0), (1, vI x1), (2, vI x2)] [vI v6, vR 0] g7 d8 Q
      refine mw_callV (M' := mX11_settle) (A := [vI v6]) (A' := [vR 0, vI v6]) (S := []) (a := 0) (pc' := 14) dX11_extendByOrder_11 rfl cl_RX11_96 cm_X11_settle cv_X11_settle ⟨by decide, by decide, by decide, by decide, by decide⟩ rfl rfl rfl ⟨by decide, by omega⟩ (by decide +kernel) (by decide +kernel) (Nat.le_of_ble_eq_true rfl) (MM.mono ?_ h5)
      intro o g11 d12 h9
      rcases o with v10 | k
      · refine mw_top (fun hT => ?_)
        have hG : 65 ≤ g11.2.1 := hT.2
        show MW mX11_extendByOrder 0 0 14 [(0, vR 0), (1, vI x1), (2, vI x2)] [vI v10] g11 d12 Q
        exact mw_iret (pc' := 0) (S := []) dX11_extendByOrder_14 rfl (Or.inl rfl) h9
      · exact mx_out rfl h9
    · exact mx_out rfl h5
  · exact mx_out rfl h1
theorem eX11_file {x1 : Int} {g : mG} {d : mD} {Q : mQ} (h : MM mX11_setAside [vR 0] g d (fun o g3 d4 => match o with | .inl v2 => MM mX11_tryFile [vR 0, vI x1] g3 d4 (fun o g7 d8 => match o with | .inl v6 => MM mX11_settle [vR 0, vI v6] g7 d8 (fun o g11 d12 => match o with | .inl v10 => Q (.inl (bI (v10 = 1))) g11 d12 | .inr k => Q (.inr k) g11 d12) | .inr k => Q (.inr k) g7 d8) | .inr k => Q (.inr k) g3 d4)) : MM mX11_file [vR 0, vI x1] g d Q := by
  refine MM_of (by decide) rfl (by simp [catV]) (Nat.le_of_ble_eq_true rfl) ?_
  show MW mX11_file 47 8228 0 [(0, vR 0), (1, vI x1)] [] g d Q
  refine mw_top (fun hT => ?_)
  have hG : 65 ≤ g.2.1 := hT.2
  refine mw_aload_n (v := vR 0) (pc' := 1) dX11_file_0 rfl rfl (Or.inl rfl) rfl ?_
  refine mw_callV (M' := mX11_setAside) (A := []) (A' := [vR 0]) (S := []) (a := 0) (pc' := 4) dX11_file_1 rfl cl_RX11_89 cm_X11_setAside cv_X11_setAside ⟨by decide, by decide, by decide, by decide, by decide⟩ rfl rfl rfl ⟨by decide, by omega⟩ (by decide +kernel) (by decide +kernel) (Nat.le_of_ble_eq_true rfl) (MM.mono ?_ h)
  intro o g3 d4 h1
  rcases o with v2 | k
  · refine mw_top (fun hT => ?_)
    have hG : 65 ≤ g3.2.1 := hT.2
    show MW mX11_file 1 6 4 [(0, vR 0), (1, vI x1)] [] g3 d4 Q
    refine mw_aload_n (v := vR 0) (pc' := 5) dX11_file_4 rfl rfl (Or.inl rfl) rfl ?_
    refine mw_aload_n (v := vR 0) (pc' := 6) dX11_file_5 rfl rfl (Or.inl rfl) rfl ?_
    refine mw_iload_n (pc' := 7) dX11_file_6 rfl rfl rfl ?_
    refine mw_callV (M' := mX11_tryFile) (A := [vI x1]) (A' := [vR 0, vI x1]) (S := [vR 0]) (a := 0) (pc' := 10) dX11_file_7 rfl cl_RX11_287 cm_X11_tryFile cv_X11_tryFile ⟨by decide, by decide, by decide, by decide, by decide⟩ rfl rfl rfl ⟨by decide, by omega⟩ (by decide +kernel) (by decide +kernel) (Nat.le_of_ble_eq_true rfl) (MM.mono ?_ h1)
    intro o g7 d8 h5
    rcases o with v6 | k
    · refine mw_top (fun hT => ?_)
      have hG : 65 ≤ g7.2.1 := hT.2
      show MW mX11_file 1 6 10 [(0, vR 0), (1, vI x1)] [vI v6, vR 0] g7 d8 Q
      refine mw_callV (M' := mX11_settle) (A := [vI v6]) (A' := [vR 0, vI v6]) (S := []) (a := 0) (pc' := 13) dX11_file_10 rfl cl_RX11_96 cm_X11_settle cv_X11_settle ⟨by decide, by decide, by decide, by decide, by decide⟩ rfl rfl rfl ⟨by decide, by omega⟩ (by decide +kernel) (by decide +kernel) (Nat.le_of_ble_eq_true rfl) (MM.mono ?_ h5)
      intro o g11 d12 h9
      rcases o with v10 | k
      · refine mw_top (fun hT => ?_)
        have hG : 65 ≤ g11.2.1 := hT.2
        show MW mX11_file 0 0 13 [(0, vR 0), (1, vI x1)] [vI v10] g11 d12 Q
        refine mw_iconst (pc' := 14) dX11_file_13 rfl ⟨by decide, by decide⟩ ?_
        suffices k13 : MW mX11_file 0 0 22 [(0, vR 0), (1, vI x1)] [vI (bI (v10 = 1))] g11 d12 Q by
          refine mw_icmp_ne (tgt := 21) (pc' := 17) dX11_file_14 rfl (by decide) (fun c14 => ?_) (fun c14 => ?_)
          · refine mw_iconst (pc' := 22) dX11_file_21 rfl ⟨by decide, by decide⟩ ?_
            exact mw_st (bI_f (fun h => (c14 h))).symm k13
          · refine mw_iconst (pc' := 18) dX11_file_17 rfl ⟨by decide, by decide⟩ ?_
            refine mw_goto (pc' := 0) (tgt := 22) dX11_file_18 (by decide) ?_
            exact mw_st (bI_t c14).symm k13
        exact mw_iret (pc' := 0) (S := []) dX11_file_22 rfl (Or.inr (Or.inl ⟨rfl, bI_rng⟩)) h9
      · exact mx_out rfl h9
    · exact mx_out rfl h5
  · exact mx_out rfl h1
theorem eX11_strike {x1 : Int} {g : mG} {d : mD} {Q : mQ} (h : MM mX11_setAside [vR 0] g d (fun o g3 d4 => match o with | .inl v2 => (((¬ (x1 < 0)) ∧ (¬ (d4 16 11 ≤ x1))) → (0 ≤ x1 ∧ x1 < 30) ∧ (((d4 27 x1 = 111) → (0 ≤ d4 16 11 ∧ d4 16 (11 : Int) ≤ 30) ∧ (MM mX11_settle [vR 0, vI (nuF (fun i => ((ud d4 27 x1 115) 27 i) = 111) (d4 16 11))] g3 (ud d4 27 x1 115) (fun o g11 d12 => match o with | .inl v10 => Q (.inl v10) g11 d12 | .inr k => Q (.inr k) g11 d12))) ∧ ((¬ (d4 27 x1 = 111)) → MM mX11_settle [vR 0, vI (-3)] g3 d4 (fun o g15 d16 => match o with | .inl v14 => Q (.inl v14) g15 d16 | .inr k => Q (.inr k) g15 d16)))) ∧ ((¬ ((¬ (x1 < 0)) ∧ (¬ (d4 16 11 ≤ x1)))) → MM mX11_settle [vR 0, vI (-1)] g3 d4 (fun o g19 d20 => match o with | .inl v18 => Q (.inl v18) g19 d20 | .inr k => Q (.inr k) g19 d20)) | .inr k => Q (.inr k) g3 d4)) : MM mX11_strike [vR 0, vI x1] g d Q := by
  refine MM_of (by decide) rfl (by simp [catV]) (Nat.le_of_ble_eq_true rfl) ?_
  show MW mX11_strike 47 8228 0 [(0, vR 0), (1, vI x1)] [] g d Q
  refine mw_top (fun hT => ?_)
  have hG : 65 ≤ g.2.1 := hT.2
  refine mw_aload_n (v := vR 0) (pc' := 1) dX11_strike_0 rfl rfl (Or.inl rfl) rfl ?_
  refine mw_callV (M' := mX11_setAside) (A := []) (A' := [vR 0]) (S := []) (a := 0) (pc' := 4) dX11_strike_1 rfl cl_RX11_89 cm_X11_setAside cv_X11_setAside ⟨by decide, by decide, by decide, by decide, by decide⟩ rfl rfl rfl ⟨by decide, by omega⟩ (by decide +kernel) (by decide +kernel) (Nat.le_of_ble_eq_true rfl) (MM.mono ?_ h)
  intro o g3 d4 h1
  rcases o with v2 | k
  · refine mw_top (fun hT => ?_)
    have hG : 65 ≤ g3.2.1 := hT.2
    show MW mX11_strike 1 6 4 [(0, vR 0), (1, vI x1)] [] g3 d4 Q
    refine mw_aload_n (v := vR 0) (pc' := 5) dX11_strike_4 rfl rfl (Or.inl rfl) rfl ?_
    refine mw_aload_n (v := vR 0) (pc' := 6) dX11_strike_5 rfl rfl (Or.inl rfl) rfl ?_
    refine mw_iload_n (pc' := 7) dX11_strike_6 rfl rfl rfl ?_
    refine mw_callV (M' := mX11_tryStrike) (A := [vI x1]) (A' := [vR 0, vI x1]) (S := [vR 0]) (a := 0) (pc' := 10) dX11_strike_7 rfl cl_RX11_290 cm_X11_tryStrike cv_X11_tryStrike ⟨by decide, by decide, by decide, by decide, by decide⟩ rfl rfl rfl ⟨by decide, by omega⟩ (by decide +kernel) (by decide +kernel) (Nat.le_of_ble_eq_true rfl) (eX11_tryStrike ?_)
    refine ⟨fun c5 => ?_, fun c5 => ?_⟩
    · replace h1 := h1.1 (show (¬ (x1 < 0)) ∧ (¬ (d4 16 11 ≤ x1)) from c5)
      obtain ⟨o6, h1⟩ := h1
      refine ⟨o6, ?_⟩
      refine ⟨fun c7 => ?_, fun c7 => ?_⟩
      · replace h1 := h1.1 (show d4 27 x1 = 111 from c7)
        obtain ⟨o8, h1⟩ := h1
        refine ⟨o8, ?_⟩
        show MW mX11_strike 1 6 10 [(0, vR 0), (1, vI x1)] [vI (nuF (fun i => ((ud d4 27 x1 115) 27 i) = 111) (d4 16 11)), vR 0] g3 (ud d4 27 x1 115) Q
        refine mw_callV (M' := mX11_settle) (A := [vI (nuF (fun i => ((ud d4 27 x1 115) 27 i) = 111) (d4 16 11))]) (A' := [vR 0, vI (nuF (fun i => ((ud d4 27 x1 115) 27 i) = 111) (d4 16 11))]) (S := []) (a := 0) (pc' := 13) dX11_strike_10 rfl cl_RX11_96 cm_X11_settle cv_X11_settle ⟨by decide, by decide, by decide, by decide, by decide⟩ rfl rfl rfl ⟨by decide, by omega⟩ (by decide +kernel) (by decide +kernel) (Nat.le_of_ble_eq_true rfl) (MM.mono ?_ h1)
        intro o g11 d12 h9
        rcases o with v10 | k
        · refine mw_top (fun hT => ?_)
          have hG : 65 ≤ g11.2.1 := hT.2
          show MW mX11_strike 0 0 13 [(0, vR 0), (1, vI x1)] [vI v10] g11 d12 Q
          exact mw_iret (pc' := 0) (S := []) dX11_strike_13 rfl (Or.inl rfl) h9
        · exact mx_out rfl h9
      · replace h1 := h1.2 (show ¬ (d4 27 x1 = 111) from c7)
        show MW mX11_strike 1 6 10 [(0, vR 0), (1, vI x1)] [vI (-3), vR 0] g3 d4 Q
        refine mw_callV (M' := mX11_settle) (A := [vI (-3)]) (A' := [vR 0, vI (-3)]) (S := []) (a := 0) (pc' := 13) dX11_strike_10 rfl cl_RX11_96 cm_X11_settle cv_X11_settle ⟨by decide, by decide, by decide, by decide, by decide⟩ rfl rfl rfl ⟨by decide, by omega⟩ (by decide +kernel) (by decide +kernel) (Nat.le_of_ble_eq_true rfl) (MM.mono ?_ h1)
        intro o g15 d16 h13
        rcases o with v14 | k
        · refine mw_top (fun hT => ?_)
          have hG : 65 ≤ g15.2.1 := hT.2
          show MW mX11_strike 0 0 13 [(0, vR 0), (1, vI x1)] [vI v14] g15 d16 Q
          exact mw_iret (pc' := 0) (S := []) dX11_strike_13 rfl (Or.inl rfl) h13
        · exact mx_out rfl h13
    · replace h1 := h1.2 (show ¬ ((¬ (x1 < 0)) ∧ (¬ (d4 16 11 ≤ x1))) from c5)
      show MW mX11_strike 1 6 10 [(0, vR 0), (1, vI x1)] [vI (-1), vR 0] g3 d4 Q
      refine mw_callV (M' := mX11_settle) (A := [vI (-1)]) (A' := [vR 0, vI (-1)]) (S := []) (a := 0) (pc' := 13) dX11_strike_10 rfl cl_RX11_96 cm_X11_settle cv_X11_settle ⟨by decide, by decide, by decide, by decide, by decide⟩ rfl rfl rfl ⟨by decide, by omega⟩ (by decide +kernel) (by decide +kernel) (Nat.le_of_ble_eq_true rfl) (MM.mono ?_ h1)
      intro o g19 d20 h17
      rcases o with v18 | k
      · refine mw_top (fun hT => ?_)
        have hG : 65 ≤ g19.2.1 := hT.2
        show MW mX11_strike 0 0 13 [(0, vR 0), (1, vI x1)] [vI v18] g19 d20 Q
        exact mw_iret (pc' := 0) (S := []) dX11_strike_13 rfl (Or.inl rfl) h17
      · exact mx_out rfl h17
  · exact mx_out rfl h1
theorem eX11_stayParty {x1 x2 : Int} {g : mG} {d : mD} {Q : mQ} (h : MM mX11_setAside [vR 0] g d (fun o g3 d4 => match o with | .inl v2 => MM mX11_tryStayParty [vR 0, vI x1, vI x2] g3 d4 (fun o g7 d8 => match o with | .inl v6 => MM mX11_settle [vR 0, vI v6] g7 d8 (fun o g11 d12 => match o with | .inl v10 => Q (.inl v10) g11 d12 | .inr k => Q (.inr k) g11 d12) | .inr k => Q (.inr k) g7 d8) | .inr k => Q (.inr k) g3 d4)) : MM mX11_stayParty [vR 0, vI x1, vI x2] g d Q := by
  refine MM_of (by decide) rfl (by simp [catV]) (Nat.le_of_ble_eq_true rfl) ?_
  show MW mX11_stayParty 47 8228 0 [(0, vR 0), (1, vI x1), (2, vI x2)] [] g d Q
  refine mw_top (fun hT => ?_)
  have hG : 65 ≤ g.2.1 := hT.2
  refine mw_aload_n (v := vR 0) (pc' := 1) dX11_stayParty_0 rfl rfl (Or.inl rfl) rfl ?_
  refine mw_callV (M' := mX11_setAside) (A := []) (A' := [vR 0]) (S := []) (a := 0) (pc' := 4) dX11_stayParty_1 rfl cl_RX11_89 cm_X11_setAside cv_X11_setAside ⟨by decide, by decide, by decide, by decide, by decide⟩ rfl rfl rfl ⟨by decide, by omega⟩ (by decide +kernel) (by decide +kernel) (Nat.le_of_ble_eq_true rfl) (MM.mono ?_ h)
  intro o g3 d4 h1
  rcases o with v2 | k
  · refine mw_top (fun hT => ?_)
    have hG : 65 ≤ g3.2.1 := hT.2
    show MW mX11_stayParty 1 6 4 [(0, vR 0), (1, vI x1), (2, vI x2)] [] g3 d4 Q
    refine mw_aload_n (v := vR 0) (pc' := 5) dX11_stayParty_4 rfl rfl (Or.inl rfl) rfl ?_
    refine mw_aload_n (v := vR 0) (pc' := 6) dX11_stayParty_5 rfl rfl (Or.inl rfl) rfl ?_
    refine mw_iload_n (pc' := 7) dX11_stayParty_6 rfl rfl rfl ?_
    refine mw_iload_n (pc' := 8) dX11_stayParty_7 rfl rfl rfl ?_
    refine mw_callV (M' := mX11_tryStayParty) (A := [vI x1, vI x2]) (A' := [vR 0, vI x1, vI x2]) (S := [vR 0]) (a := 0) (pc' := 11) dX11_stayParty_8 rfl cl_RX11_342 cm_X11_tryStayParty cv_X11_tryStayParty ⟨by decide, by decide, by decide, by decide, by decide⟩ rfl rfl rfl ⟨by decide, by omega⟩ (by decide +kernel) (by decide +kernel) (Nat.le_of_ble_eq_true rfl) (MM.mono ?_ h1)
    intro o g7 d8 h5
    rcases o with v6 | k
    · refine mw_top (fun hT => ?_)
      have hG : 65 ≤ g7.2.1 := hT.2
      show MW mX11_stayParty 1 6 11 [(0, vR 0), (1, vI x1), (2, vI x2)] [vI v6, vR 0] g7 d8 Q
      refine mw_callV (M' := mX11_settle) (A := [vI v6]) (A' := [vR 0, vI v6]) (S := []) (a := 0) (pc' := 14) dX11_stayParty_11 rfl cl_RX11_96 cm_X11_settle cv_X11_settle ⟨by decide, by decide, by decide, by decide, by decide⟩ rfl rfl rfl ⟨by decide, by omega⟩ (by decide +kernel) (by decide +kernel) (Nat.le_of_ble_eq_true rfl) (MM.mono ?_ h5)
      intro o g11 d12 h9
      rcases o with v10 | k
      · refine mw_top (fun hT => ?_)
        have hG : 65 ≤ g11.2.1 := hT.2
        show MW mX11_stayParty 0 0 14 [(0, vR 0), (1, vI x1), (2, vI x2)] [vI v10] g11 d12 Q
        exact mw_iret (pc' := 0) (S := []) dX11_stayParty_14 rfl (Or.inl rfl) h9
      · exact mx_out rfl h9
    · exact mx_out rfl h5
  · exact mx_out rfl h1
theorem eX11_stayAll {x1 : Int} {g : mG} {d : mD} {Q : mQ} (h : MM mX11_setAside [vR 0] g d (fun o g3 d4 => match o with | .inl v2 => MM mX11_tryStay [vR 0, vI (-1), vI x1] g3 d4 (fun o g7 d8 => match o with | .inl v6 => MM mX11_settle [vR 0, vI v6] g7 d8 (fun o g11 d12 => match o with | .inl v10 => Q (.inl v10) g11 d12 | .inr k => Q (.inr k) g11 d12) | .inr k => Q (.inr k) g7 d8) | .inr k => Q (.inr k) g3 d4)) : MM mX11_stayAll [vR 0, vI x1] g d Q := by
  refine MM_of (by decide) rfl (by simp [catV]) (Nat.le_of_ble_eq_true rfl) ?_
  show MW mX11_stayAll 47 8228 0 [(0, vR 0), (1, vI x1)] [] g d Q
  refine mw_top (fun hT => ?_)
  have hG : 65 ≤ g.2.1 := hT.2
  refine mw_aload_n (v := vR 0) (pc' := 1) dX11_stayAll_0 rfl rfl (Or.inl rfl) rfl ?_
  refine mw_callV (M' := mX11_setAside) (A := []) (A' := [vR 0]) (S := []) (a := 0) (pc' := 4) dX11_stayAll_1 rfl cl_RX11_89 cm_X11_setAside cv_X11_setAside ⟨by decide, by decide, by decide, by decide, by decide⟩ rfl rfl rfl ⟨by decide, by omega⟩ (by decide +kernel) (by decide +kernel) (Nat.le_of_ble_eq_true rfl) (MM.mono ?_ h)
  intro o g3 d4 h1
  rcases o with v2 | k
  · refine mw_top (fun hT => ?_)
    have hG : 65 ≤ g3.2.1 := hT.2
    show MW mX11_stayAll 1 6 4 [(0, vR 0), (1, vI x1)] [] g3 d4 Q
    refine mw_aload_n (v := vR 0) (pc' := 5) dX11_stayAll_4 rfl rfl (Or.inl rfl) rfl ?_
    refine mw_aload_n (v := vR 0) (pc' := 6) dX11_stayAll_5 rfl rfl (Or.inl rfl) rfl ?_
    refine mw_iconst (pc' := 7) dX11_stayAll_6 rfl ⟨by decide, by decide⟩ ?_
    refine mw_iload_n (pc' := 8) dX11_stayAll_7 rfl rfl rfl ?_
    refine mw_callV (M' := mX11_tryStay) (A := [vI (-1), vI x1]) (A' := [vR 0, vI (-1), vI x1]) (S := [vR 0]) (a := 0) (pc' := 11) dX11_stayAll_8 rfl cl_RX11_345 cm_X11_tryStay cv_X11_tryStay ⟨by decide, by decide, by decide, by decide, by decide⟩ rfl rfl rfl ⟨by decide, by omega⟩ (by decide +kernel) (by decide +kernel) (Nat.le_of_ble_eq_true rfl) (MM.mono ?_ h1)
    intro o g7 d8 h5
    rcases o with v6 | k
    · refine mw_top (fun hT => ?_)
      have hG : 65 ≤ g7.2.1 := hT.2
      show MW mX11_stayAll 1 6 11 [(0, vR 0), (1, vI x1)] [vI v6, vR 0] g7 d8 Q
      refine mw_callV (M' := mX11_settle) (A := [vI v6]) (A' := [vR 0, vI v6]) (S := []) (a := 0) (pc' := 14) dX11_stayAll_11 rfl cl_RX11_96 cm_X11_settle cv_X11_settle ⟨by decide, by decide, by decide, by decide, by decide⟩ rfl rfl rfl ⟨by decide, by omega⟩ (by decide +kernel) (by decide +kernel) (Nat.le_of_ble_eq_true rfl) (MM.mono ?_ h5)
      intro o g11 d12 h9
      rcases o with v10 | k
      · refine mw_top (fun hT => ?_)
        have hG : 65 ≤ g11.2.1 := hT.2
        show MW mX11_stayAll 0 0 14 [(0, vR 0), (1, vI x1)] [vI v10] g11 d12 Q
        exact mw_iret (pc' := 0) (S := []) dX11_stayAll_14 rfl (Or.inl rfl) h9
      · exact mx_out rfl h9
    · exact mx_out rfl h5
  · exact mx_out rfl h1
theorem eX11_lift {x1 : Int} {g : mG} {d : mD} {Q : mQ} (h : MM mX11_setAside [vR 0] g d (fun o g3 d4 => match o with | .inl v2 => (((¬ (x1 < 0)) ∧ (¬ (d4 28 4 ≤ x1))) → (0 ≤ x1 ∧ x1 < 12) ∧ (((d4 32 x1 = 4999) → (iI ((d4 10 0) - (d4 31 x1))) ∧ (MM mX11_settle [vR 0, vI ((d4 10 0) - (d4 31 x1))] g3 (ud d4 32 x1 (d4 10 0)) (fun o g11 d12 => match o with | .inl v10 => Q (.inl v10) g11 d12 | .inr k => Q (.inr k) g11 d12))) ∧ ((¬ (d4 32 x1 = 4999)) → MM mX11_settle [vR 0, vI (-3)] g3 d4 (fun o g15 d16 => match o with | .inl v14 => Q (.inl v14) g15 d16 | .inr k => Q (.inr k) g15 d16)))) ∧ ((¬ ((¬ (x1 < 0)) ∧ (¬ (d4 28 4 ≤ x1)))) → MM mX11_settle [vR 0, vI (-1)] g3 d4 (fun o g19 d20 => match o with | .inl v18 => Q (.inl v18) g19 d20 | .inr k => Q (.inr k) g19 d20)) | .inr k => Q (.inr k) g3 d4)) : MM mX11_lift [vR 0, vI x1] g d Q := by
  refine MM_of (by decide) rfl (by simp [catV]) (Nat.le_of_ble_eq_true rfl) ?_
  show MW mX11_lift 47 8228 0 [(0, vR 0), (1, vI x1)] [] g d Q
  refine mw_top (fun hT => ?_)
  have hG : 65 ≤ g.2.1 := hT.2
  refine mw_aload_n (v := vR 0) (pc' := 1) dX11_lift_0 rfl rfl (Or.inl rfl) rfl ?_
  refine mw_callV (M' := mX11_setAside) (A := []) (A' := [vR 0]) (S := []) (a := 0) (pc' := 4) dX11_lift_1 rfl cl_RX11_89 cm_X11_setAside cv_X11_setAside ⟨by decide, by decide, by decide, by decide, by decide⟩ rfl rfl rfl ⟨by decide, by omega⟩ (by decide +kernel) (by decide +kernel) (Nat.le_of_ble_eq_true rfl) (MM.mono ?_ h)
  intro o g3 d4 h1
  rcases o with v2 | k
  · refine mw_top (fun hT => ?_)
    have hG : 65 ≤ g3.2.1 := hT.2
    show MW mX11_lift 1 6 4 [(0, vR 0), (1, vI x1)] [] g3 d4 Q
    refine mw_aload_n (v := vR 0) (pc' := 5) dX11_lift_4 rfl rfl (Or.inl rfl) rfl ?_
    refine mw_aload_n (v := vR 0) (pc' := 6) dX11_lift_5 rfl rfl (Or.inl rfl) rfl ?_
    refine mw_iload_n (pc' := 7) dX11_lift_6 rfl rfl rfl ?_
    refine mw_callV (M' := mX11_tryLift) (A := [vI x1]) (A' := [vR 0, vI x1]) (S := [vR 0]) (a := 0) (pc' := 10) dX11_lift_7 rfl cl_RX11_348 cm_X11_tryLift cv_X11_tryLift ⟨by decide, by decide, by decide, by decide, by decide⟩ rfl rfl rfl ⟨by decide, by omega⟩ (by decide +kernel) (by decide +kernel) (Nat.le_of_ble_eq_true rfl) (eX11_tryLift ?_)
    refine ⟨fun c5 => ?_, fun c5 => ?_⟩
    · replace h1 := h1.1 (show (¬ (x1 < 0)) ∧ (¬ (d4 28 4 ≤ x1)) from c5)
      obtain ⟨o6, h1⟩ := h1
      refine ⟨o6, ?_⟩
      refine ⟨fun c7 => ?_, fun c7 => ?_⟩
      · replace h1 := h1.1 (show d4 32 x1 = 4999 from c7)
        obtain ⟨o8, h1⟩ := h1
        refine ⟨o8, ?_⟩
        show MW mX11_lift 1 6 10 [(0, vR 0), (1, vI x1)] [vI ((d4 10 0) - (d4 31 x1)), vR 0] g3 (ud d4 32 x1 (d4 10 0)) Q
        refine mw_callV (M' := mX11_settle) (A := [vI ((d4 10 0) - (d4 31 x1))]) (A' := [vR 0, vI ((d4 10 0) - (d4 31 x1))]) (S := []) (a := 0) (pc' := 13) dX11_lift_10 rfl cl_RX11_96 cm_X11_settle cv_X11_settle ⟨by decide, by decide, by decide, by decide, by decide⟩ rfl rfl rfl ⟨by decide, by omega⟩ (by decide +kernel) (by decide +kernel) (Nat.le_of_ble_eq_true rfl) (MM.mono ?_ h1)
        intro o g11 d12 h9
        rcases o with v10 | k
        · refine mw_top (fun hT => ?_)
          have hG : 65 ≤ g11.2.1 := hT.2
          show MW mX11_lift 0 0 13 [(0, vR 0), (1, vI x1)] [vI v10] g11 d12 Q
          exact mw_iret (pc' := 0) (S := []) dX11_lift_13 rfl (Or.inl rfl) h9
        · exact mx_out rfl h9
      · replace h1 := h1.2 (show ¬ (d4 32 x1 = 4999) from c7)
        show MW mX11_lift 1 6 10 [(0, vR 0), (1, vI x1)] [vI (-3), vR 0] g3 d4 Q
        refine mw_callV (M' := mX11_settle) (A := [vI (-3)]) (A' := [vR 0, vI (-3)]) (S := []) (a := 0) (pc' := 13) dX11_lift_10 rfl cl_RX11_96 cm_X11_settle cv_X11_settle ⟨by decide, by decide, by decide, by decide, by decide⟩ rfl rfl rfl ⟨by decide, by omega⟩ (by decide +kernel) (by decide +kernel) (Nat.le_of_ble_eq_true rfl) (MM.mono ?_ h1)
        intro o g15 d16 h13
        rcases o with v14 | k
        · refine mw_top (fun hT => ?_)
          have hG : 65 ≤ g15.2.1 := hT.2
          show MW mX11_lift 0 0 13 [(0, vR 0), (1, vI x1)] [vI v14] g15 d16 Q
          exact mw_iret (pc' := 0) (S := []) dX11_lift_13 rfl (Or.inl rfl) h13
        · exact mx_out rfl h13
    · replace h1 := h1.2 (show ¬ ((¬ (x1 < 0)) ∧ (¬ (d4 28 4 ≤ x1))) from c5)
      show MW mX11_lift 1 6 10 [(0, vR 0), (1, vI x1)] [vI (-1), vR 0] g3 d4 Q
      refine mw_callV (M' := mX11_settle) (A := [vI (-1)]) (A' := [vR 0, vI (-1)]) (S := []) (a := 0) (pc' := 13) dX11_lift_10 rfl cl_RX11_96 cm_X11_settle cv_X11_settle ⟨by decide, by decide, by decide, by decide, by decide⟩ rfl rfl rfl ⟨by decide, by omega⟩ (by decide +kernel) (by decide +kernel) (Nat.le_of_ble_eq_true rfl) (MM.mono ?_ h1)
      intro o g19 d20 h17
      rcases o with v18 | k
      · refine mw_top (fun hT => ?_)
        have hG : 65 ≤ g19.2.1 := hT.2
        show MW mX11_lift 0 0 13 [(0, vR 0), (1, vI x1)] [vI v18] g19 d20 Q
        exact mw_iret (pc' := 0) (S := []) dX11_lift_13 rfl (Or.inl rfl) h17
      · exact mx_out rfl h17
  · exact mx_out rfl h1
theorem eX11_addOccurrence {x1 x2 : Int} {g : mG} {d : mD} {Q : mQ} (h : MM mX11_setAside [vR 0] g d (fun o g3 d4 => match o with | .inl v2 => MM mX11_tryAddOccurrence [vR 0, vI x1, vI x2] g3 d4 (fun o g7 d8 => match o with | .inl v6 => MM mX11_settle [vR 0, vI v6] g7 d8 (fun o g11 d12 => match o with | .inl v10 => Q (.inl v10) g11 d12 | .inr k => Q (.inr k) g11 d12) | .inr k => Q (.inr k) g7 d8) | .inr k => Q (.inr k) g3 d4)) : MM mX11_addOccurrence [vR 0, vI x1, vI x2] g d Q := by
  refine MM_of (by decide) rfl (by simp [catV]) (Nat.le_of_ble_eq_true rfl) ?_
  show MW mX11_addOccurrence 47 8228 0 [(0, vR 0), (1, vI x1), (2, vI x2)] [] g d Q
  refine mw_top (fun hT => ?_)
  have hG : 65 ≤ g.2.1 := hT.2
  refine mw_aload_n (v := vR 0) (pc' := 1) dX11_addOccurrence_0 rfl rfl (Or.inl rfl) rfl ?_
  refine mw_callV (M' := mX11_setAside) (A := []) (A' := [vR 0]) (S := []) (a := 0) (pc' := 4) dX11_addOccurrence_1 rfl cl_RX11_89 cm_X11_setAside cv_X11_setAside ⟨by decide, by decide, by decide, by decide, by decide⟩ rfl rfl rfl ⟨by decide, by omega⟩ (by decide +kernel) (by decide +kernel) (Nat.le_of_ble_eq_true rfl) (MM.mono ?_ h)
  intro o g3 d4 h1
  rcases o with v2 | k
  · refine mw_top (fun hT => ?_)
    have hG : 65 ≤ g3.2.1 := hT.2
    show MW mX11_addOccurrence 1 6 4 [(0, vR 0), (1, vI x1), (2, vI x2)] [] g3 d4 Q
    refine mw_aload_n (v := vR 0) (pc' := 5) dX11_addOccurrence_4 rfl rfl (Or.inl rfl) rfl ?_
    refine mw_aload_n (v := vR 0) (pc' := 6) dX11_addOccurrence_5 rfl rfl (Or.inl rfl) rfl ?_
    refine mw_iload_n (pc' := 7) dX11_addOccurrence_6 rfl rfl rfl ?_
    refine mw_iload_n (pc' := 8) dX11_addOccurrence_7 rfl rfl rfl ?_
    refine mw_callV (M' := mX11_tryAddOccurrence) (A := [vI x1, vI x2]) (A' := [vR 0, vI x1, vI x2]) (S := [vR 0]) (a := 0) (pc' := 11) dX11_addOccurrence_8 rfl cl_RX11_375 cm_X11_tryAddOccurrence cv_X11_tryAddOccurrence ⟨by decide, by decide, by decide, by decide, by decide⟩ rfl rfl rfl ⟨by decide, by omega⟩ (by decide +kernel) (by decide +kernel) (Nat.le_of_ble_eq_true rfl) (MM.mono ?_ h1)
    intro o g7 d8 h5
    rcases o with v6 | k
    · refine mw_top (fun hT => ?_)
      have hG : 65 ≤ g7.2.1 := hT.2
      show MW mX11_addOccurrence 1 6 11 [(0, vR 0), (1, vI x1), (2, vI x2)] [vI v6, vR 0] g7 d8 Q
      refine mw_callV (M' := mX11_settle) (A := [vI v6]) (A' := [vR 0, vI v6]) (S := []) (a := 0) (pc' := 14) dX11_addOccurrence_11 rfl cl_RX11_96 cm_X11_settle cv_X11_settle ⟨by decide, by decide, by decide, by decide, by decide⟩ rfl rfl rfl ⟨by decide, by omega⟩ (by decide +kernel) (by decide +kernel) (Nat.le_of_ble_eq_true rfl) (MM.mono ?_ h5)
      intro o g11 d12 h9
      rcases o with v10 | k
      · refine mw_top (fun hT => ?_)
        have hG : 65 ≤ g11.2.1 := hT.2
        show MW mX11_addOccurrence 0 0 14 [(0, vR 0), (1, vI x1), (2, vI x2)] [vI v10] g11 d12 Q
        exact mw_iret (pc' := 0) (S := []) dX11_addOccurrence_14 rfl (Or.inl rfl) h9
      · exact mx_out rfl h9
    · exact mx_out rfl h5
  · exact mx_out rfl h1
theorem eX11_linkOccurrences {x1 x2 : Int} {g : mG} {d : mD} {Q : mQ} (h : MM mX11_setAside [vR 0] g d (fun o g3 d4 => match o with | .inl v2 => MM mX11_tryLinkOccurrences [vR 0, vI x1, vI x2] g3 d4 (fun o g7 d8 => match o with | .inl v6 => MM mX11_settle [vR 0, vI v6] g7 d8 (fun o g11 d12 => match o with | .inl v10 => Q (.inl v10) g11 d12 | .inr k => Q (.inr k) g11 d12) | .inr k => Q (.inr k) g7 d8) | .inr k => Q (.inr k) g3 d4)) : MM mX11_linkOccurrences [vR 0, vI x1, vI x2] g d Q := by
  refine MM_of (by decide) rfl (by simp [catV]) (Nat.le_of_ble_eq_true rfl) ?_
  show MW mX11_linkOccurrences 47 8228 0 [(0, vR 0), (1, vI x1), (2, vI x2)] [] g d Q
  refine mw_top (fun hT => ?_)
  have hG : 65 ≤ g.2.1 := hT.2
  refine mw_aload_n (v := vR 0) (pc' := 1) dX11_linkOccurrences_0 rfl rfl (Or.inl rfl) rfl ?_
  refine mw_callV (M' := mX11_setAside) (A := []) (A' := [vR 0]) (S := []) (a := 0) (pc' := 4) dX11_linkOccurrences_1 rfl cl_RX11_89 cm_X11_setAside cv_X11_setAside ⟨by decide, by decide, by decide, by decide, by decide⟩ rfl rfl rfl ⟨by decide, by omega⟩ (by decide +kernel) (by decide +kernel) (Nat.le_of_ble_eq_true rfl) (MM.mono ?_ h)
  intro o g3 d4 h1
  rcases o with v2 | k
  · refine mw_top (fun hT => ?_)
    have hG : 65 ≤ g3.2.1 := hT.2
    show MW mX11_linkOccurrences 1 6 4 [(0, vR 0), (1, vI x1), (2, vI x2)] [] g3 d4 Q
    refine mw_aload_n (v := vR 0) (pc' := 5) dX11_linkOccurrences_4 rfl rfl (Or.inl rfl) rfl ?_
    refine mw_aload_n (v := vR 0) (pc' := 6) dX11_linkOccurrences_5 rfl rfl (Or.inl rfl) rfl ?_
    refine mw_iload_n (pc' := 7) dX11_linkOccurrences_6 rfl rfl rfl ?_
    refine mw_iload_n (pc' := 8) dX11_linkOccurrences_7 rfl rfl rfl ?_
    refine mw_callV (M' := mX11_tryLinkOccurrences) (A := [vI x1, vI x2]) (A' := [vR 0, vI x1, vI x2]) (S := [vR 0]) (a := 0) (pc' := 11) dX11_linkOccurrences_8 rfl cl_RX11_378 cm_X11_tryLinkOccurrences cv_X11_tryLinkOccurrences ⟨by decide, by decide, by decide, by decide, by decide⟩ rfl rfl rfl ⟨by decide, by omega⟩ (by decide +kernel) (by decide +kernel) (Nat.le_of_ble_eq_true rfl) (MM.mono ?_ h1)
    intro o g7 d8 h5
    rcases o with v6 | k
    · refine mw_top (fun hT => ?_)
      have hG : 65 ≤ g7.2.1 := hT.2
      show MW mX11_linkOccurrences 1 6 11 [(0, vR 0), (1, vI x1), (2, vI x2)] [vI v6, vR 0] g7 d8 Q
      refine mw_callV (M' := mX11_settle) (A := [vI v6]) (A' := [vR 0, vI v6]) (S := []) (a := 0) (pc' := 14) dX11_linkOccurrences_11 rfl cl_RX11_96 cm_X11_settle cv_X11_settle ⟨by decide, by decide, by decide, by decide, by decide⟩ rfl rfl rfl ⟨by decide, by omega⟩ (by decide +kernel) (by decide +kernel) (Nat.le_of_ble_eq_true rfl) (MM.mono ?_ h5)
      intro o g11 d12 h9
      rcases o with v10 | k
      · refine mw_top (fun hT => ?_)
        have hG : 65 ≤ g11.2.1 := hT.2
        show MW mX11_linkOccurrences 0 0 14 [(0, vR 0), (1, vI x1), (2, vI x2)] [vI v10] g11 d12 Q
        exact mw_iret (pc' := 0) (S := []) dX11_linkOccurrences_14 rfl (Or.inl rfl) h9
      · exact mx_out rfl h9
    · exact mx_out rfl h5
  · exact mx_out rfl h1
theorem eX11_fileClaim {x1 x2 : Int} {g : mG} {d : mD} {Q : mQ} (h : MM mX11_setAside [vR 0] g d (fun o g3 d4 => match o with | .inl v2 => MM mX11_tryFileClaim [vR 0, vI x1, vI x2] g3 d4 (fun o g7 d8 => match o with | .inl v6 => MM mX11_settle [vR 0, vI v6] g7 d8 (fun o g11 d12 => match o with | .inl v10 => Q (.inl v10) g11 d12 | .inr k => Q (.inr k) g11 d12) | .inr k => Q (.inr k) g7 d8) | .inr k => Q (.inr k) g3 d4)) : MM mX11_fileClaim [vR 0, vI x1, vI x2] g d Q := by
  refine MM_of (by decide) rfl (by simp [catV]) (Nat.le_of_ble_eq_true rfl) ?_
  show MW mX11_fileClaim 47 8228 0 [(0, vR 0), (1, vI x1), (2, vI x2)] [] g d Q
  refine mw_top (fun hT => ?_)
  have hG : 65 ≤ g.2.1 := hT.2
  refine mw_aload_n (v := vR 0) (pc' := 1) dX11_fileClaim_0 rfl rfl (Or.inl rfl) rfl ?_
  refine mw_callV (M' := mX11_setAside) (A := []) (A' := [vR 0]) (S := []) (a := 0) (pc' := 4) dX11_fileClaim_1 rfl cl_RX11_89 cm_X11_setAside cv_X11_setAside ⟨by decide, by decide, by decide, by decide, by decide⟩ rfl rfl rfl ⟨by decide, by omega⟩ (by decide +kernel) (by decide +kernel) (Nat.le_of_ble_eq_true rfl) (MM.mono ?_ h)
  intro o g3 d4 h1
  rcases o with v2 | k
  · refine mw_top (fun hT => ?_)
    have hG : 65 ≤ g3.2.1 := hT.2
    show MW mX11_fileClaim 1 6 4 [(0, vR 0), (1, vI x1), (2, vI x2)] [] g3 d4 Q
    refine mw_aload_n (v := vR 0) (pc' := 5) dX11_fileClaim_4 rfl rfl (Or.inl rfl) rfl ?_
    refine mw_aload_n (v := vR 0) (pc' := 6) dX11_fileClaim_5 rfl rfl (Or.inl rfl) rfl ?_
    refine mw_iload_n (pc' := 7) dX11_fileClaim_6 rfl rfl rfl ?_
    refine mw_iload_n (pc' := 8) dX11_fileClaim_7 rfl rfl rfl ?_
    refine mw_callV (M' := mX11_tryFileClaim) (A := [vI x1, vI x2]) (A' := [vR 0, vI x1, vI x2]) (S := [vR 0]) (a := 0) (pc' := 11) dX11_fileClaim_8 rfl cl_RX11_400 cm_X11_tryFileClaim cv_X11_tryFileClaim ⟨by decide, by decide, by decide, by decide, by decide⟩ rfl rfl rfl ⟨by decide, by omega⟩ (by decide +kernel) (by decide +kernel) (Nat.le_of_ble_eq_true rfl) (MM.mono ?_ h1)
    intro o g7 d8 h5
    rcases o with v6 | k
    · refine mw_top (fun hT => ?_)
      have hG : 65 ≤ g7.2.1 := hT.2
      show MW mX11_fileClaim 1 6 11 [(0, vR 0), (1, vI x1), (2, vI x2)] [vI v6, vR 0] g7 d8 Q
      refine mw_callV (M' := mX11_settle) (A := [vI v6]) (A' := [vR 0, vI v6]) (S := []) (a := 0) (pc' := 14) dX11_fileClaim_11 rfl cl_RX11_96 cm_X11_settle cv_X11_settle ⟨by decide, by decide, by decide, by decide, by decide⟩ rfl rfl rfl ⟨by decide, by omega⟩ (by decide +kernel) (by decide +kernel) (Nat.le_of_ble_eq_true rfl) (MM.mono ?_ h5)
      intro o g11 d12 h9
      rcases o with v10 | k
      · refine mw_top (fun hT => ?_)
        have hG : 65 ≤ g11.2.1 := hT.2
        show MW mX11_fileClaim 0 0 14 [(0, vR 0), (1, vI x1), (2, vI x2)] [vI v10] g11 d12 Q
        exact mw_iret (pc' := 0) (S := []) dX11_fileClaim_14 rfl (Or.inl rfl) h9
      · exact mx_out rfl h9
    · exact mx_out rfl h5
  · exact mx_out rfl h1
theorem eX11_amendClaim {x1 x2 : Int} {g : mG} {d : mD} {Q : mQ} (h : MM mX11_setAside [vR 0] g d (fun o g3 d4 => match o with | .inl v2 => MM mX11_tryAmendClaim [vR 0, vI x1, vI x2] g3 d4 (fun o g7 d8 => match o with | .inl v6 => MM mX11_settle [vR 0, vI v6] g7 d8 (fun o g11 d12 => match o with | .inl v10 => Q (.inl v10) g11 d12 | .inr k => Q (.inr k) g11 d12) | .inr k => Q (.inr k) g7 d8) | .inr k => Q (.inr k) g3 d4)) : MM mX11_amendClaim [vR 0, vI x1, vI x2] g d Q := by
  refine MM_of (by decide) rfl (by simp [catV]) (Nat.le_of_ble_eq_true rfl) ?_
  show MW mX11_amendClaim 47 8228 0 [(0, vR 0), (1, vI x1), (2, vI x2)] [] g d Q
  refine mw_top (fun hT => ?_)
  have hG : 65 ≤ g.2.1 := hT.2
  refine mw_aload_n (v := vR 0) (pc' := 1) dX11_amendClaim_0 rfl rfl (Or.inl rfl) rfl ?_
  refine mw_callV (M' := mX11_setAside) (A := []) (A' := [vR 0]) (S := []) (a := 0) (pc' := 4) dX11_amendClaim_1 rfl cl_RX11_89 cm_X11_setAside cv_X11_setAside ⟨by decide, by decide, by decide, by decide, by decide⟩ rfl rfl rfl ⟨by decide, by omega⟩ (by decide +kernel) (by decide +kernel) (Nat.le_of_ble_eq_true rfl) (MM.mono ?_ h)
  intro o g3 d4 h1
  rcases o with v2 | k
  · refine mw_top (fun hT => ?_)
    have hG : 65 ≤ g3.2.1 := hT.2
    show MW mX11_amendClaim 1 6 4 [(0, vR 0), (1, vI x1), (2, vI x2)] [] g3 d4 Q
    refine mw_aload_n (v := vR 0) (pc' := 5) dX11_amendClaim_4 rfl rfl (Or.inl rfl) rfl ?_
    refine mw_aload_n (v := vR 0) (pc' := 6) dX11_amendClaim_5 rfl rfl (Or.inl rfl) rfl ?_
    refine mw_iload_n (pc' := 7) dX11_amendClaim_6 rfl rfl rfl ?_
    refine mw_iload_n (pc' := 8) dX11_amendClaim_7 rfl rfl rfl ?_
    refine mw_callV (M' := mX11_tryAmendClaim) (A := [vI x1, vI x2]) (A' := [vR 0, vI x1, vI x2]) (S := [vR 0]) (a := 0) (pc' := 11) dX11_amendClaim_8 rfl cl_RX11_403 cm_X11_tryAmendClaim cv_X11_tryAmendClaim ⟨by decide, by decide, by decide, by decide, by decide⟩ rfl rfl rfl ⟨by decide, by omega⟩ (by decide +kernel) (by decide +kernel) (Nat.le_of_ble_eq_true rfl) (MM.mono ?_ h1)
    intro o g7 d8 h5
    rcases o with v6 | k
    · refine mw_top (fun hT => ?_)
      have hG : 65 ≤ g7.2.1 := hT.2
      show MW mX11_amendClaim 1 6 11 [(0, vR 0), (1, vI x1), (2, vI x2)] [vI v6, vR 0] g7 d8 Q
      refine mw_callV (M' := mX11_settle) (A := [vI v6]) (A' := [vR 0, vI v6]) (S := []) (a := 0) (pc' := 14) dX11_amendClaim_11 rfl cl_RX11_96 cm_X11_settle cv_X11_settle ⟨by decide, by decide, by decide, by decide, by decide⟩ rfl rfl rfl ⟨by decide, by omega⟩ (by decide +kernel) (by decide +kernel) (Nat.le_of_ble_eq_true rfl) (MM.mono ?_ h5)
      intro o g11 d12 h9
      rcases o with v10 | k
      · refine mw_top (fun hT => ?_)
        have hG : 65 ≤ g11.2.1 := hT.2
        show MW mX11_amendClaim 0 0 14 [(0, vR 0), (1, vI x1), (2, vI x2)] [vI v10] g11 d12 Q
        exact mw_iret (pc' := 0) (S := []) dX11_amendClaim_14 rfl (Or.inl rfl) h9
      · exact mx_out rfl h9
    · exact mx_out rfl h5
  · exact mx_out rfl h1
theorem eX11_settle {x1 : Int} {g : mG} {d : mD} {Q : mQ} (h : ((x1 = (-5)) → Q (.inr 4) g d) ∧ ((¬ (x1 = (-5))) → ((x1 = (-4)) → Q (.inr 5) g d) ∧ ((¬ (x1 = (-4))) → ((x1 = (-3)) → Q (.inr 1) g d) ∧ ((¬ (x1 = (-3))) → ((x1 = (-2)) → Q (.inr 2) g d) ∧ ((¬ (x1 = (-2))) → ((x1 = (-1)) → Q (.inr 3) g d) ∧ ((¬ (x1 = (-1))) → ((¬ (d 0 5 = 8)) → iI ((d 0 5) + 1)) ∧ ((iI ((d 0 6) + 1)) ∧ (Q (.inl x1) g (ud (ud d 0 5 (iT (d 0 5 = 8) 0 ((d 0 5) + 1))) 0 6 (min 8 ((d 0 6) + 1))))))))))) : MM mX11_settle [vR 0, vI x1] g d Q := by
  refine MM_of (by decide) rfl (by simp [catV]) (Nat.le_of_ble_eq_true rfl) ?_
  show MW mX11_settle 1 6 0 [(0, vR 0), (1, vI x1)] [] g d Q
  refine mw_top (fun hT => ?_)
  have hG : 65 ≤ g.2.1 := hT.2
  refine mw_iload_n (pc' := 1) dX11_settle_0 rfl rfl rfl ?_
  by_cases c1 : x1 = (-5)
  · replace h := h.1 c1
    refine mw_tabIn (pc' := 0) (off := 79) (tgt := 80) dX11_settle_1 (by omega) (by rw [c1]; rfl) (by decide) ?_
    exact mw_throw4W (pc' := 0) (i := 31) dX11_settle_80 dX11_settle_83 dX11_settle_84 dX11_settle_87 dX11_settle_90 tk_RX11_117_121 ti_RX11_117_121 rfl t4_RX11_117_121 t5_RX11_117_121 rfl (by decide) (by decide) (by decide) (by decide) (by decide) h
  · replace h := h.2 c1
    by_cases c2 : x1 = (-4)
    · replace h := h.1 c2
      refine mw_tabIn (pc' := 0) (off := 68) (tgt := 69) dX11_settle_1 (by omega) (by rw [c2]; rfl) (by decide) ?_
      exact mw_throwW (pc' := 0) (k := 5) (i := 30) dX11_settle_69 dX11_settle_72 dX11_settle_73 dX11_settle_76 dX11_settle_79 (by decide +kernel) (by decide +kernel) tk_RX11_476_480 ti_RX11_476_480 rfl ta_RX11_476_480 tg_RX11_476_480 rfl (by decide) (by decide) (by decide) (by decide) (by decide) h
    · replace h := h.2 c2
      by_cases c3 : x1 = (-3)
      · replace h := h.1 c3
        refine mw_tabIn (pc' := 0) (off := 57) (tgt := 58) dX11_settle_1 (by omega) (by rw [c3]; rfl) (by decide) ?_
        exact mw_throwW (pc' := 0) (k := 1) (i := 29) dX11_settle_58 dX11_settle_61 dX11_settle_62 dX11_settle_65 dX11_settle_68 (by decide +kernel) (by decide +kernel) tk_RX11_78_82 ti_RX11_78_82 rfl ta_RX11_78_82 tg_RX11_78_82 rfl (by decide) (by decide) (by decide) (by decide) (by decide) h
      · replace h := h.2 c3
        by_cases c4 : x1 = (-2)
        · replace h := h.1 c4
          refine mw_tabIn (pc' := 0) (off := 46) (tgt := 47) dX11_settle_1 (by omega) (by rw [c4]; rfl) (by decide) ?_
          exact mw_throwW (pc' := 0) (k := 2) (i := 28) dX11_settle_47 dX11_settle_50 dX11_settle_51 dX11_settle_54 dX11_settle_57 (by decide +kernel) (by decide +kernel) tk_RX11_196_200 ti_RX11_196_200 rfl ta_RX11_196_200 tg_RX11_196_200 rfl (by decide) (by decide) (by decide) (by decide) (by decide) h
        · replace h := h.2 c4
          by_cases c5 : x1 = (-1)
          · replace h := h.1 c5
            refine mw_tabIn (pc' := 0) (off := 35) (tgt := 36) dX11_settle_1 (by omega) (by rw [c5]; rfl) (by decide) ?_
            exact mw_throwW (pc' := 0) (k := 3) (i := 27) dX11_settle_36 dX11_settle_39 dX11_settle_40 dX11_settle_43 dX11_settle_46 (by decide +kernel) (by decide +kernel) tk_RX11_132_136 ti_RX11_132_136 rfl ta_RX11_132_136 tg_RX11_132_136 rfl (by decide) (by decide) (by decide) (by decide) (by decide) h
          · replace h := h.2 c5
            refine mw_tabOut (pc' := 0) (tgt := 91) dX11_settle_1 (by omega) (by decide) ?_
            refine mw_aload_n (v := vR 0) (pc' := 92) dX11_settle_91 rfl rfl (Or.inl rfl) rfl ?_
            refine mw_aload_n (v := vR 0) (pc' := 93) dX11_settle_92 rfl rfl (Or.inl rfl) rfl ?_
            refine mw_getI (ji := 5) (pc' := 96) dX11_settle_93 rfl fi_RX11_490_0 rfl ⟨by decide, by decide⟩ ?_
            refine mw_bipush (pc' := 98) dX11_settle_96 rfl ⟨by decide, by decide⟩ ?_
            obtain ⟨o6, h⟩ := h
            suffices k7 : MW mX11_settle 1 6 111 [(0, vR 0), (1, vI x1)] [vI (iT (d 0 5 = 8) 0 ((d 0 5) + 1)), vR 0] g d Q by
              refine mw_icmp_ne (tgt := 105) (pc' := 101) dX11_settle_98 rfl (by decide) (fun c8 => ?_) (fun c8 => ?_)
              · refine mw_aload_n (v := vR 0) (pc' := 106) dX11_settle_105 rfl rfl (Or.inl rfl) rfl ?_
                refine mw_getI (ji := 5) (pc' := 109) dX11_settle_106 rfl fi_RX11_490_0 rfl ⟨by decide, by decide⟩ ?_
                refine mw_iconst (pc' := 110) dX11_settle_109 rfl ⟨by decide, by decide⟩ ?_
                refine mw_iadd (pc' := 111) dX11_settle_110 rfl (o6 c8) ?_
                exact mw_st (((iT_f c8).trans rfl)).symm k7
              · refine mw_iconst (pc' := 102) dX11_settle_101 rfl ⟨by decide, by decide⟩ ?_
                refine mw_goto (pc' := 0) (tgt := 111) dX11_settle_102 (by decide) ?_
                exact mw_st (((iT_t c8).trans rfl)).symm k7
            refine mw_putI (ji := 5) (pc' := 114) dX11_settle_111 rfl (fq_RX11_490_0) (by decide +kernel) rfl (Or.inl ⟨rfl, rc_0_5⟩) (Or.inr rfl) ⟨by decide, by omega⟩ ?_
            refine mw_aload_n (v := vR 0) (pc' := 115) dX11_settle_114 rfl rfl (Or.inl rfl) rfl ?_
            refine mw_bipush (pc' := 117) dX11_settle_115 rfl ⟨by decide, by decide⟩ ?_
            refine mw_aload_n (v := vR 0) (pc' := 118) dX11_settle_117 rfl rfl (Or.inl rfl) rfl ?_
            refine mw_getI (ji := 6) (pc' := 121) dX11_settle_118 rfl fi_RX11_485_0 rfl ⟨by decide, by decide⟩ ?_
            refine mw_st (b := d 0 6) (udI (by decide) (rfl)) ?_
            refine mw_iconst (pc' := 122) dX11_settle_121 rfl ⟨by decide, by decide⟩ ?_
            obtain ⟨o9, h⟩ := h
            refine mw_iadd (pc' := 123) dX11_settle_122 rfl o9 ?_
            refine mw_min (pc' := 126) dX11_settle_123 rfl bw_779 bw_447 bw_24 bw_448 (by decide) (by decide) (Nat.le_of_ble_eq_true rfl) ?_
            refine mw_putI (ji := 6) (pc' := 129) dX11_settle_126 rfl (fq_RX11_485_0) (by decide +kernel) rfl (Or.inl ⟨rfl, rc_0_6⟩) (Or.inr rfl) ⟨by decide, by omega⟩ ?_
            refine mw_iload_n (pc' := 130) dX11_settle_129 rfl rfl rfl ?_
            exact mw_iret (pc' := 0) (S := []) dX11_settle_130 rfl (Or.inl rfl) h
theorem eX11_undo {g : mG} {d : mD} {Q : mQ} (h : ((d 0 6 = 0) → Q (.inr 1) g d) ∧ ((¬ (d 0 6 = 0)) → ((¬ (d 0 5 = 0)) → iI ((d 0 5) - 1)) ∧ (MM mX11_takeBack [vR 0] g (ud d 0 5 (iT (d 0 5 = 0) 8 ((d 0 5) - 1))) (fun o g8 d9 => match o with | .inl v7 => (iI ((d9 0 6) - 1)) ∧ (Q (.inl ((d9 0 6) - 1)) g8 (ud d9 0 6 ((d9 0 6) - 1))) | .inr k => Q (.inr k) g8 d9)))) : MM mX11_undo [vR 0] g d Q := by
  refine MM_of (by decide) rfl (by simp [catV]) (Nat.le_of_ble_eq_true rfl) ?_
  show MW mX11_undo 1 6 0 [(0, vR 0)] [] g d Q
  refine mw_top (fun hT => ?_)
  have hG : 65 ≤ g.2.1 := hT.2
  refine mw_aload_n (v := vR 0) (pc' := 1) dX11_undo_0 rfl rfl (Or.inl rfl) rfl ?_
  refine mw_getI (ji := 6) (pc' := 4) dX11_undo_1 rfl fi_RX11_485_0 rfl ⟨by decide, by decide⟩ ?_
  refine mw_if_ne (tgt := 18) (pc' := 7) dX11_undo_4 rfl (by decide) (fun c2 => ?_) (fun c2 => ?_)
  · replace h := h.2 c2
    refine mw_aload_n (v := vR 0) (pc' := 19) dX11_undo_18 rfl rfl (Or.inl rfl) rfl ?_
    refine mw_aload_n (v := vR 0) (pc' := 20) dX11_undo_19 rfl rfl (Or.inl rfl) rfl ?_
    refine mw_getI (ji := 5) (pc' := 23) dX11_undo_20 rfl fi_RX11_490_0 rfl ⟨by decide, by decide⟩ ?_
    obtain ⟨o3, h⟩ := h
    suffices k4 : MW mX11_undo 1 6 37 [(0, vR 0)] [vI (iT (d 0 5 = 0) 8 ((d 0 5) - 1)), vR 0] g d Q by
      refine mw_if_ne (tgt := 31) (pc' := 26) dX11_undo_23 rfl (by decide) (fun c5 => ?_) (fun c5 => ?_)
      · refine mw_aload_n (v := vR 0) (pc' := 32) dX11_undo_31 rfl rfl (Or.inl rfl) rfl ?_
        refine mw_getI (ji := 5) (pc' := 35) dX11_undo_32 rfl fi_RX11_490_0 rfl ⟨by decide, by decide⟩ ?_
        refine mw_iconst (pc' := 36) dX11_undo_35 rfl ⟨by decide, by decide⟩ ?_
        refine mw_isub (pc' := 37) dX11_undo_36 rfl (o3 c5) ?_
        exact mw_st (((iT_f c5).trans rfl)).symm k4
      · refine mw_bipush (pc' := 28) dX11_undo_26 rfl ⟨by decide, by decide⟩ ?_
        refine mw_goto (pc' := 0) (tgt := 37) dX11_undo_28 (by decide) ?_
        exact mw_st (((iT_t c5).trans rfl)).symm k4
    refine mw_putI (ji := 5) (pc' := 40) dX11_undo_37 rfl (fq_RX11_490_0) (by decide +kernel) rfl (Or.inl ⟨rfl, rc_0_5⟩) (Or.inr rfl) ⟨by decide, by omega⟩ ?_
    refine mw_aload_n (v := vR 0) (pc' := 41) dX11_undo_40 rfl rfl (Or.inl rfl) rfl ?_
    refine mw_callV (M' := mX11_takeBack) (A := []) (A' := [vR 0]) (S := []) (a := 0) (pc' := 44) dX11_undo_41 rfl cl_RX11_473 cm_X11_takeBack cv_X11_takeBack ⟨by decide, by decide, by decide, by decide, by decide⟩ rfl rfl rfl ⟨by decide, by omega⟩ (by decide +kernel) (by decide +kernel) (Nat.le_of_ble_eq_true rfl) (MM.mono ?_ h)
    intro o g8 d9 h6
    rcases o with v7 | k
    · refine mw_top (fun hT => ?_)
      have hG : 65 ≤ g8.2.1 := hT.2
      show MW mX11_undo 1 6 44 [(0, vR 0)] [] g8 d9 Q
      refine mw_aload_n (v := vR 0) (pc' := 45) dX11_undo_44 rfl rfl (Or.inl rfl) rfl ?_
      refine mw_dup (pc' := 46) dX11_undo_45 rfl rfl ?_
      refine mw_getI (ji := 6) (pc' := 49) dX11_undo_46 rfl fi_RX11_485_0 rfl ⟨by decide, by decide⟩ ?_
      refine mw_iconst (pc' := 50) dX11_undo_49 rfl ⟨by decide, by decide⟩ ?_
      obtain ⟨o10, h6⟩ := h6
      refine mw_isub (pc' := 51) dX11_undo_50 rfl o10 ?_
      refine mw_putI (ji := 6) (pc' := 54) dX11_undo_51 rfl (fq_RX11_485_0) (by decide +kernel) rfl (Or.inl ⟨rfl, rc_0_6⟩) (Or.inr rfl) ⟨by decide, by omega⟩ ?_
      refine mw_aload_n (v := vR 0) (pc' := 55) dX11_undo_54 rfl rfl (Or.inl rfl) rfl ?_
      refine mw_getI (ji := 6) (pc' := 58) dX11_undo_55 rfl fi_RX11_485_0 rfl ⟨by decide, by decide⟩ ?_
      refine mw_st (b := (d9 0 6) - 1) (udS) ?_
      exact mw_iret (pc' := 0) (S := []) dX11_undo_58 rfl (Or.inl rfl) h6
    · exact mx_out rfl h6
  · replace h := h.1 c2
    exact mw_throwW (pc' := 0) (k := 1) (i := 26) dX11_undo_7 dX11_undo_10 dX11_undo_11 dX11_undo_14 dX11_undo_17 (by decide +kernel) (by decide +kernel) tk_RX11_78_82 ti_RX11_78_82 rfl ta_RX11_78_82 tg_RX11_78_82 rfl (by decide) (by decide) (by decide) (by decide) (by decide) h
