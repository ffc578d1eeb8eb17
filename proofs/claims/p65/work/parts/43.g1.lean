theorem fr_RX5_15_7 : FR RX5 15 7 1 := ⟨(show LK 7 = 5 by decide +kernel) ▸ fg_RX5_15, by decide +kernel, by decide +kernel, by decide⟩
theorem sp_7_1 : ((7, 1, 9) : Int × Int × Int) ∈ SPl := by decide +kernel
theorem ln_9 : LN 9 = 8 := by decide +kernel
theorem lk_9 : LK 9 = 100 := by decide +kernel
theorem fr_RX5_9_7 : FR RX5 9 7 0 := ⟨(show LK 7 = 5 by decide +kernel) ▸ fg_RX5_9, by decide +kernel, by decide +kernel, by decide⟩
theorem sp_7_0 : ((7, 0, 8) : Int × Int × Int) ∈ SPl := by decide +kernel
theorem ln_8 : LN 8 = 64 := by decide +kernel
theorem lk_8 : LK 8 = 100 := by decide +kernel
theorem ln_5 : LN 5 = 8 := by decide +kernel
theorem lk_5 : LK 5 = 100 := by decide +kernel
theorem rc_7_2 : RC 7 2 = 0 := by decide +kernel
theorem fq_RX5_24_7 : FP RX5 24 (LK 7) 2 .int false := (show LK 7 = 5 by decide +kernel) ▸ fp_RX5_24
theorem fr_RX2_9_16 : FR RX2 9 16 0 := ⟨(show LK 16 = 2 by decide +kernel) ▸ fg_RX2_9, by decide +kernel, by decide +kernel, by decide⟩
theorem sp_16_0 : ((16, 0, 17) : Int × Int × Int) ∈ SPl := by decide +kernel
theorem ln_17 : LN 17 = 30 := by decide +kernel
theorem lk_17 : LK 17 = 100 := by decide +kernel
theorem fr_RX2_15_16 : FR RX2 15 16 1 := ⟨(show LK 16 = 2 by decide +kernel) ▸ fg_RX2_15, by decide +kernel, by decide +kernel, by decide⟩
theorem sp_16_1 : ((16, 1, 18) : Int × Int × Int) ∈ SPl := by decide +kernel
theorem ln_18 : LN 18 = 30 := by decide +kernel
theorem lk_18 : LK 18 = 100 := by decide +kernel
theorem fr_RX2_18_16 : FR RX2 18 16 2 := ⟨(show LK 16 = 2 by decide +kernel) ▸ fg_RX2_18, by decide +kernel, by decide +kernel, by decide⟩
theorem sp_16_2 : ((16, 2, 19) : Int × Int × Int) ∈ SPl := by decide +kernel
theorem ln_19 : LN 19 = 30 := by decide +kernel
theorem lk_19 : LK 19 = 100 := by decide +kernel
theorem fr_RX2_61_12 : FR RX2 61 12 1 := ⟨(show LK 12 = 7 by decide +kernel) ▸ fg_RX2_61, by decide +kernel, by decide +kernel, by decide⟩
theorem sp_12_1 : ((12, 1, 14) : Int × Int × Int) ∈ SPl := by decide +kernel
theorem ln_14 : LN 14 = 8 := by decide +kernel
theorem lk_14 : LK 14 = 102 := by decide +kernel
theorem fr_RX2_31_16 : FR RX2 31 16 6 := ⟨(show LK 16 = 2 by decide +kernel) ▸ fg_RX2_31, by decide +kernel, by decide +kernel, by decide⟩
theorem sp_16_6 : ((16, 6, 23) : Int × Int × Int) ∈ SPl := by decide +kernel
theorem ln_23 : LN 23 = 30 := by decide +kernel
theorem lk_23 : LK 23 = 100 := by decide +kernel
theorem fr_RX2_34_16 : FR RX2 34 16 7 := ⟨(show LK 16 = 2 by decide +kernel) ▸ fg_RX2_34, by decide +kernel, by decide +kernel, by decide⟩
theorem sp_16_7 : ((16, 7, 24) : Int × Int × Int) ∈ SPl := by decide +kernel
theorem ln_24 : LN 24 = 30 := by decide +kernel
theorem lk_24 : LK 24 = 100 := by decide +kernel
theorem fr_RX2_37_16 : FR RX2 37 16 8 := ⟨(show LK 16 = 2 by decide +kernel) ▸ fg_RX2_37, by decide +kernel, by decide +kernel, by decide⟩
theorem sp_16_8 : ((16, 8, 25) : Int × Int × Int) ∈ SPl := by decide +kernel
theorem ln_25 : LN 25 = 30 := by decide +kernel
theorem lk_25 : LK 25 = 100 := by decide +kernel
theorem fr_RX2_40_16 : FR RX2 40 16 9 := ⟨(show LK 16 = 2 by decide +kernel) ▸ fg_RX2_40, by decide +kernel, by decide +kernel, by decide⟩
theorem sp_16_9 : ((16, 9, 26) : Int × Int × Int) ∈ SPl := by decide +kernel
theorem ln_26 : LN 26 = 30 := by decide +kernel
theorem lk_26 : LK 26 = 100 := by decide +kernel
theorem rc_16_11 : RC 16 11 = 0 := by decide +kernel
theorem fq_RX2_53_16 : FP RX2 53 (LK 16) 11 .int false := (show LK 16 = 2 by decide +kernel) ▸ fp_RX2_53
theorem fr_RX2_64_12 : FR RX2 64 12 0 := ⟨(show LK 12 = 7 by decide +kernel) ▸ fg_RX2_64, by decide +kernel, by decide +kernel, by decide⟩
theorem sp_12_0 : ((12, 0, 13) : Int × Int × Int) ∈ SPl := by decide +kernel
theorem ln_13 : LN 13 = 8 := by decide +kernel
theorem lk_13 : LK 13 = 100 := by decide +kernel
theorem fr_RX2_9_34 : FR RX2 9 34 0 := ⟨(show LK 34 = 2 by decide +kernel) ▸ fg_RX2_9, by decide +kernel, by decide +kernel, by decide⟩
theorem sp_34_0 : ((34, 0, 35) : Int × Int × Int) ∈ SPl := by decide +kernel
theorem ln_35 : LN 35 = 30 := by decide +kernel
theorem lk_35 : LK 35 = 100 := by decide +kernel
theorem fr_RX2_15_34 : FR RX2 15 34 1 := ⟨(show LK 34 = 2 by decide +kernel) ▸ fg_RX2_15, by decide +kernel, by decide +kernel, by decide⟩
theorem sp_34_1 : ((34, 1, 36) : Int × Int × Int) ∈ SPl := by decide +kernel
theorem ln_36 : LN 36 = 30 := by decide +kernel
theorem lk_36 : LK 36 = 100 := by decide +kernel
theorem fr_RX2_18_34 : FR RX2 18 34 2 := ⟨(show LK 34 = 2 by decide +kernel) ▸ fg_RX2_18, by decide +kernel, by decide +kernel, by decide⟩
theorem sp_34_2 : ((34, 2, 37) : Int × Int × Int) ∈ SPl := by decide +kernel
theorem ln_37 : LN 37 = 30 := by decide +kernel
theorem lk_37 : LK 37 = 100 := by decide +kernel
theorem fr_RX2_31_34 : FR RX2 31 34 6 := ⟨(show LK 34 = 2 by decide +kernel) ▸ fg_RX2_31, by decide +kernel, by decide +kernel, by decide⟩
theorem sp_34_6 : ((34, 6, 41) : Int × Int × Int) ∈ SPl := by decide +kernel
theorem ln_41 : LN 41 = 30 := by decide +kernel
theorem lk_41 : LK 41 = 100 := by decide +kernel
theorem fr_RX2_34_34 : FR RX2 34 34 7 := ⟨(show LK 34 = 2 by decide +kernel) ▸ fg_RX2_34, by decide +kernel, by decide +kernel, by decide⟩
theorem sp_34_7 : ((34, 7, 42) : Int × Int × Int) ∈ SPl := by decide +kernel
theorem ln_42 : LN 42 = 30 := by decide +kernel
theorem lk_42 : LK 42 = 100 := by decide +kernel
theorem fr_RX2_37_34 : FR RX2 37 34 8 := ⟨(show LK 34 = 2 by decide +kernel) ▸ fg_RX2_37, by decide +kernel, by decide +kernel, by decide⟩
theorem sp_34_8 : ((34, 8, 43) : Int × Int × Int) ∈ SPl := by decide +kernel
theorem ln_43 : LN 43 = 30 := by decide +kernel
theorem lk_43 : LK 43 = 100 := by decide +kernel
theorem fr_RX2_40_34 : FR RX2 40 34 9 := ⟨(show LK 34 = 2 by decide +kernel) ▸ fg_RX2_40, by decide +kernel, by decide +kernel, by decide⟩
theorem sp_34_9 : ((34, 9, 44) : Int × Int × Int) ∈ SPl := by decide +kernel
theorem ln_44 : LN 44 = 30 := by decide +kernel
theorem lk_44 : LK 44 = 100 := by decide +kernel
theorem fr_RX2_43_34 : FR RX2 43 34 10 := ⟨(show LK 34 = 2 by decide +kernel) ▸ fg_RX2_43, by decide +kernel, by decide +kernel, by decide⟩
theorem sp_34_10 : ((34, 10, 45) : Int × Int × Int) ∈ SPl := by decide +kernel
theorem ln_45 : LN 45 = 30 := by decide +kernel
theorem lk_45 : LK 45 = 101 := by decide +kernel
theorem rc_34_11 : RC 34 11 = 0 := by decide +kernel
theorem fq_RX2_53_34 : FP RX2 53 (LK 34) 11 .int false := (show LK 34 = 2 by decide +kernel) ▸ fp_RX2_53
theorem fr_RX1_12_33 : FR RX1 12 33 0 := ⟨(show LK 33 = 1 by decide +kernel) ▸ fg_RX1_12, by decide +kernel, by decide +kernel, by decide⟩
theorem sp_33_0 : ((33, 0, 34) : Int × Int × Int) ∈ SPl := by decide +kernel
theorem fi_RX1_51_34 : FI RX1 51 34 11 := ⟨(show LK 34 = 2 by decide +kernel) ▸ fg_RX1_51, by decide +kernel, by decide +kernel, by decide⟩
theorem fr_RX10_22_53 : FR RX10 22 53 1 := ⟨(show LK 53 = 10 by decide +kernel) ▸ fg_RX10_22, by decide +kernel, by decide +kernel, by decide⟩
theorem sp_53_1 : ((53, 1, 28) : Int × Int × Int) ∈ SPl := by decide +kernel
theorem fi_RX10_30_28 : FI RX10 30 28 4 := ⟨(show LK 28 = 8 by decide +kernel) ▸ fg_RX10_30, by decide +kernel, by decide +kernel, by decide⟩
theorem fr_RX10_35_16 : FR RX10 35 16 0 := ⟨(show LK 16 = 2 by decide +kernel) ▸ fg_RX10_35, by decide +kernel, by decide +kernel, by decide⟩
theorem fr_RX10_40_16 : FR RX10 40 16 1 := ⟨(show LK 16 = 2 by decide +kernel) ▸ fg_RX10_40, by decide +kernel, by decide +kernel, by decide⟩
theorem fr_RX10_47_28 : FR RX10 47 28 2 := ⟨(show LK 28 = 8 by decide +kernel) ▸ fg_RX10_47, by decide +kernel, by decide +kernel, by decide⟩
theorem fr_RX10_50_28 : FR RX10 50 28 3 := ⟨(show LK 28 = 8 by decide +kernel) ▸ fg_RX10_50, by decide +kernel, by decide +kernel, by decide⟩
theorem fr_RX10_35_34 : FR RX10 35 34 0 := ⟨(show LK 34 = 2 by decide +kernel) ▸ fg_RX10_35, by decide +kernel, by decide +kernel, by decide⟩
theorem fr_RX10_40_34 : FR RX10 40 34 1 := ⟨(show LK 34 = 2 by decide +kernel) ▸ fg_RX10_40, by decide +kernel, by decide +kernel, by decide⟩
theorem eX0_isHoliday {R : rW} {x1 : Int} {g : mG} {d : mD} {Q : mQ} (h : (CI d R) ∧ (Q (.inl (bI (¬ (hAt R x1 = (-1))))) g d)) : MM mX0_isHoliday [vR 10, vI x1] g d Q := by
  refine MM_of (by decide) rfl (by simp [catV]) (Nat.le_of_ble_eq_true rfl) ?_
  show MW mX0_isHoliday 0 0 0 [(0, vR 10), (1, vI x1)] [] g d Q
  refine mw_top (fun hT => ?_)
  have hG : 65 ≤ g.2.1 := hT.2
  refine mw_aload_n (v := vR 10) (pc' := 1) dX0_isHoliday_0 rfl rfl (Or.inl rfl) rfl ?_
  refine mw_iload_n (pc' := 2) dX0_isHoliday_1 rfl rfl rfl ?_
  obtain ⟨o1, h⟩ := h
  refine mw_callV (M' := mX0_placeOf) (A := [vI x1]) (A' := [vR 10, vI x1]) (S := []) (a := 10) (pc' := 5) dX0_isHoliday_2 rfl cl_RX0_28 cm_X0_placeOf cv_X0_placeOf ⟨by decide, by decide, by decide, by decide, by decide⟩ rfl rfl rfl ⟨by decide, by omega⟩ (by decide +kernel) (by decide +kernel) (Nat.le_of_ble_eq_true rfl) (f_placeOf (⟨o1, ?_⟩))
  show MW mX0_isHoliday 0 0 5 [(0, vR 10), (1, vI x1)] [vI (hAt R x1)] g d Q
  refine mw_iconst (pc' := 6) dX0_isHoliday_5 rfl ⟨by decide, by decide⟩ ?_
  suffices k2 : MW mX0_isHoliday 0 0 14 [(0, vR 10), (1, vI x1)] [vI (bI (¬ (hAt R x1 = (-1))))] g d Q by
    refine mw_icmp_eq (tgt := 13) (pc' := 9) dX0_isHoliday_6 rfl (by decide) (fun c3 => ?_) (fun c3 => ?_)
    · refine mw_iconst (pc' := 14) dX0_isHoliday_13 rfl ⟨by decide, by decide⟩ ?_
      exact mw_st (bI_f (fun h => (h c3))).symm k2
    · refine mw_iconst (pc' := 10) dX0_isHoliday_9 rfl ⟨by decide, by decide⟩ ?_
      refine mw_goto (pc' := 0) (tgt := 14) dX0_isHoliday_10 (by decide) ?_
      exact mw_st (bI_t c3).symm k2
  exact mw_iret (pc' := 0) (S := []) dX0_isHoliday_14 rfl (Or.inr (Or.inl ⟨rfl, bI_rng⟩)) h
theorem eX0_isCourt {R : rW} {x1 : Int} {g : mG} {d : mD} {Q : mQ} (h : (0 ≤ x1) ∧ (((¬ (5 ≤ x1 % 7)) → CI d R) ∧ (Q (.inl (bI ((¬ (5 ≤ x1 % 7)) ∧ (hAt R x1 = (-1))))) g d))) : MM mX0_isCourt [vR 10, vI x1] g d Q := by
  refine MM_of (by decide) rfl (by simp [catV]) (Nat.le_of_ble_eq_true rfl) ?_
  show MW mX0_isCourt 0 0 0 [(0, vR 10), (1, vI x1)] [] g d Q
  refine mw_top (fun hT => ?_)
  have hG : 65 ≤ g.2.1 := hT.2
  refine mw_iload_n (pc' := 1) dX0_isCourt_0 rfl rfl rfl ?_
  refine mw_bipush (pc' := 3) dX0_isCourt_1 rfl ⟨by decide, by decide⟩ ?_
  obtain ⟨o1, h⟩ := h
  refine mw_irem (pc' := 4) dX0_isCourt_3 rfl o1 (by decide) ?_
  refine mw_iconst (pc' := 5) dX0_isCourt_4 rfl ⟨by decide, by decide⟩ ?_
  obtain ⟨o2, h⟩ := h
  suffices k3 : MW mX0_isCourt 0 0 22 [(0, vR 10), (1, vI x1)] [vI (bI ((¬ (5 ≤ x1 % 7)) ∧ (hAt R x1 = (-1))))] g d Q by
    refine mw_icmp_ge (tgt := 21) (pc' := 8) dX0_isCourt_5 rfl (by decide) (fun c4 => ?_) (fun c4 => ?_)
    · refine mw_iconst (pc' := 22) dX0_isCourt_21 rfl ⟨by decide, by decide⟩ ?_
      exact mw_st (bI_f (fun h => (h.1 c4))).symm k3
    · refine mw_aload_n (v := vR 10) (pc' := 9) dX0_isCourt_8 rfl rfl (Or.inl rfl) rfl ?_
      refine mw_iload_n (pc' := 10) dX0_isCourt_9 rfl rfl rfl ?_
      refine mw_callV (M' := mX0_placeOf) (A := [vI x1]) (A' := [vR 10, vI x1]) (S := []) (a := 10) (pc' := 13) dX0_isCourt_10 rfl cl_RX0_28 cm_X0_placeOf cv_X0_placeOf ⟨by decide, by decide, by decide, by decide, by decide⟩ rfl rfl rfl ⟨by decide, by omega⟩ (by decide +kernel) (by decide +kernel) (Nat.le_of_ble_eq_true rfl) (f_placeOf (⟨(o2 c4), ?_⟩))
      show MW mX0_isCourt 0 0 13 [(0, vR 10), (1, vI x1)] [vI (hAt R x1)] g d Q
      refine mw_iconst (pc' := 14) dX0_isCourt_13 rfl ⟨by decide, by decide⟩ ?_
      refine mw_icmp_ne (tgt := 21) (pc' := 17) dX0_isCourt_14 rfl (by decide) (fun c5 => ?_) (fun c5 => ?_)
      · refine mw_iconst (pc' := 22) dX0_isCourt_21 rfl ⟨by decide, by decide⟩ ?_
        exact mw_st (bI_f (fun h => (fun h => (c5 h)) h.2)).symm k3
      · refine mw_iconst (pc' := 18) dX0_isCourt_17 rfl ⟨by decide, by decide⟩ ?_
        refine mw_goto (pc' := 0) (tgt := 22) dX0_isCourt_18 (by decide) ?_
        exact mw_st (bI_t ⟨c4, c5⟩).symm k3
  exact mw_iret (pc' := 0) (S := []) dX0_isCourt_22 rfl (Or.inr (Or.inl ⟨rfl, bI_rng⟩)) h
def pX0_countCourt_1 (x1 x2 x3 x4 x5 : Int) (g : mG) (d : mD) (Q : mQ) : Prop := MW mX0_countCourt 0 0 29 [(0, vR 10), (1, vI x1), (2, vI x2), (3, vI x3), (4, vI x4), (5, vI x5)] [] g d Q
def pX0_countCourt_2 (x1 x2 x3 x4 x5 : Int) (g : mG) (d : mD) (Q : mQ) : Prop := MW mX0_countCourt 0 0 63 [(0, vR 10), (1, vI x1), (2, vI x2), (3, vI x3), (4, vI x4), (5, vI x5)] [] g d Q
theorem eX0_countCourt {x1 x2 : Int} {g : mG} {d : mD} {Q : mQ} (h : ((x1 ≤ x2) → (iI (x2 - x1)) ∧ ((iI ((x2 - x1) + 1)) ∧ ((0 ≤ (x2 - x1) + 1) ∧ ((iI ((((x2 - x1) + 1) / 7) * 5)) ∧ ((iI ((((x2 - x1) + 1) / 7) * 7)) ∧ ((iI (x1 + ((((x2 - x1) + 1) / 7) * 7))) ∧ (pX0_countCourt_1 x1 x2 (((x2 - x1) + 1) / 7) ((((x2 - x1) + 1) / 7) * 5) (x1 + ((((x2 - x1) + 1) / 7) * 7)) g d Q))))))) ∧ ((¬ (x1 ≤ x2)) → Q (.inl 0) g d)) : MM mX0_countCourt [vR 10, vI x1, vI x2] g d Q := by
  refine MM_of (by decide) rfl (by simp [catV]) (Nat.le_of_ble_eq_true rfl) ?_
  show MW mX0_countCourt 0 0 0 [(0, vR 10), (1, vI x1), (2, vI x2)] [] g d Q
  refine mw_top (fun hT => ?_)
  have hG : 65 ≤ g.2.1 := hT.2
  refine mw_iload_n (pc' := 1) dX0_countCourt_0 rfl rfl rfl ?_
  refine mw_iload_n (pc' := 2) dX0_countCourt_1 rfl rfl rfl ?_
  refine mw_icmp_ge (tgt := 7) (pc' := 5) dX0_countCourt_2 rfl (by decide) (fun c7 => ?_) (fun c7 => ?_)
  · replace h := h.1 c7
    refine mw_iload_n (pc' := 8) dX0_countCourt_7 rfl rfl rfl ?_
    refine mw_iload_n (pc' := 9) dX0_countCourt_8 rfl rfl rfl ?_
    obtain ⟨o8, h⟩ := h
    refine mw_isub (pc' := 10) dX0_countCourt_9 rfl o8 ?_
    refine mw_iconst (pc' := 11) dX0_countCourt_10 rfl ⟨by decide, by decide⟩ ?_
    obtain ⟨o9, h⟩ := h
    refine mw_iadd (pc' := 12) dX0_countCourt_11 rfl o9 ?_
    refine mw_bipush (pc' := 14) dX0_countCourt_12 rfl ⟨by decide, by decide⟩ ?_
    obtain ⟨o10, h⟩ := h
    refine mw_idiv (pc' := 15) dX0_countCourt_14 rfl o10 (by decide) ?_
    refine mw_istore_n (pc' := 16) (L' := [(0, vR 10), (1, vI x1), (2, vI x2), (3, vI (((x2 - x1) + 1) / 7))]) dX0_countCourt_15 rfl rfl (by decide) rfl ?_
    refine mw_iload_n (pc' := 17) dX0_countCourt_16 rfl rfl rfl ?_
    refine mw_iconst (pc' := 18) dX0_countCourt_17 rfl ⟨by decide, by decide⟩ ?_
    obtain ⟨o11, h⟩ := h
    refine mw_imul (pc' := 19) dX0_countCourt_18 rfl o11 ?_
    refine mw_istore (pc' := 21) (L' := [(0, vR 10), (1, vI x1), (2, vI x2), (3, vI (((x2 - x1) + 1) / 7)), (4, vI ((((x2 - x1) + 1) / 7) * 5))]) dX0_countCourt_19 rfl (by decide) rfl ?_
    refine mw_iload_n (pc' := 22) dX0_countCourt_21 rfl rfl rfl ?_
    refine mw_iload_n (pc' := 23) dX0_countCourt_22 rfl rfl rfl ?_
    refine mw_bipush (pc' := 25) dX0_countCourt_23 rfl ⟨by decide, by decide⟩ ?_
    obtain ⟨o12, h⟩ := h
    refine mw_imul (pc' := 26) dX0_countCourt_25 rfl o12 ?_
    obtain ⟨o13, h⟩ := h
    refine mw_iadd (pc' := 27) dX0_countCourt_26 rfl o13 ?_
    refine mw_istore (pc' := 29) (L' := [(0, vR 10), (1, vI x1), (2, vI x2), (3, vI (((x2 - x1) + 1) / 7)), (4, vI ((((x2 - x1) + 1) / 7) * 5)), (5, vI (x1 + ((((x2 - x1) + 1) / 7) * 7)))]) dX0_countCourt_27 rfl (by decide) rfl ?_
    exact h
  · replace h := h.2 c7
    refine mw_iconst (pc' := 6) dX0_countCourt_5 rfl ⟨by decide, by decide⟩ ?_
    exact mw_iret (pc' := 0) (S := []) dX0_countCourt_6 rfl (Or.inl rfl) h
theorem aX0_countCourt_1 {x1 x2 x3 x4 x5 : Int} {g : mG} {d : mD} {Q : mQ} (h : ((x2 < x5) → pX0_countCourt_2 x1 x2 x3 x4 0 g d Q) ∧ ((¬ (x2 < x5)) → (0 ≤ x5) ∧ ((iI (x4 + (bI (¬ (5 ≤ x5 % 7))))) ∧ ((iI (x5 + 1)) ∧ (pX0_countCourt_1 x1 x2 x3 (x4 + (bI (¬ (5 ≤ x5 % 7)))) (x5 + 1) g d Q))))) : pX0_countCourt_1 x1 x2 x3 x4 x5 g d Q := by
  unfold pX0_countCourt_1
  refine mw_top (fun hT => ?_)
  have hG : 65 ≤ g.2.1 := hT.2
  refine mw_iload (pc' := 31) dX0_countCourt_29 rfl rfl ?_
  refine mw_iload_n (pc' := 32) dX0_countCourt_31 rfl rfl rfl ?_
  refine mw_icmp_gt (tgt := 60) (pc' := 35) dX0_countCourt_32 rfl (by decide) (fun c16 => ?_) (fun c16 => ?_)
  · replace h := h.1 c16
    refine mw_iconst (pc' := 61) dX0_countCourt_60 rfl ⟨by decide, by decide⟩ ?_
    refine mw_istore (pc' := 63) (L' := [(0, vR 10), (1, vI x1), (2, vI x2), (3, vI x3), (4, vI x4), (5, vI 0)]) dX0_countCourt_61 rfl (by decide) rfl ?_
    exact h
  · replace h := h.2 c16
    refine mw_iload (pc' := 37) dX0_countCourt_35 rfl rfl ?_
    refine mw_iload (pc' := 39) dX0_countCourt_37 rfl rfl ?_
    refine mw_bipush (pc' := 41) dX0_countCourt_39 rfl ⟨by decide, by decide⟩ ?_
    obtain ⟨o17, h⟩ := h
    refine mw_irem (pc' := 42) dX0_countCourt_41 rfl o17 (by decide) ?_
    refine mw_iconst (pc' := 43) dX0_countCourt_42 rfl ⟨by decide, by decide⟩ ?_
    suffices k18 : MW mX0_countCourt 0 0 51 [(0, vR 10), (1, vI x1), (2, vI x2), (3, vI x3), (4, vI x4), (5, vI x5)] [vI (bI (¬ (5 ≤ x5 % 7))), vI x4] g d Q by
      refine mw_icmp_ge (tgt := 50) (pc' := 46) dX0_countCourt_43 rfl (by decide) (fun c19 => ?_) (fun c19 => ?_)
      · refine mw_iconst (pc' := 51) dX0_countCourt_50 rfl ⟨by decide, by decide⟩ ?_
        exact mw_st (bI_f (fun h => (h c19))).symm k18
      · refine mw_iconst (pc' := 47) dX0_countCourt_46 rfl ⟨by decide, by decide⟩ ?_
        refine mw_goto (pc' := 0) (tgt := 51) dX0_countCourt_47 (by decide) ?_
        exact mw_st (bI_t c19).symm k18
    obtain ⟨o20, h⟩ := h
    refine mw_iadd (pc' := 52) dX0_countCourt_51 rfl o20 ?_
    refine mw_istore (pc' := 54) (L' := [(0, vR 10), (1, vI x1), (2, vI x2), (3, vI x3), (4, vI (x4 + (bI (¬ (5 ≤ x5 % 7))))), (5, vI x5)]) dX0_countCourt_52 rfl (by decide) rfl ?_
    obtain ⟨o21, h⟩ := h
    refine mw_iinc (pc' := 57) (L' := [(0, vR 10), (1, vI x1), (2, vI x2), (3, vI x3), (4, vI (x4 + (bI (¬ (5 ≤ x5 % 7))))), (5, vI (x5 + 1))]) dX0_countCourt_54 rfl rfl (by decide) o21 rfl ?_
    refine mw_goto (pc' := 0) (tgt := 29) dX0_countCourt_57 (by decide) ?_
    exact h
theorem aX0_countCourt_2 {x1 x2 x3 x4 x5 : Int} {g : mG} {d : mD} {Q : mQ} (h : ((d 10 2 ≤ x5) → Q (.inl x4) g d) ∧ ((¬ (d 10 2 ≤ x5)) → (0 ≤ x5 ∧ x5 < 40) ∧ (((¬ (d 11 x5 < x1)) → (¬ (x2 < d 11 x5)) → 0 ≤ d 11 x5) ∧ ((iI (x4 - (bI ((¬ (d 11 x5 < x1)) ∧ ((¬ (x2 < d 11 x5)) ∧ (¬ (5 ≤ (d 11 x5) % 7))))))) ∧ ((iI (x5 + 1)) ∧ (pX0_countCourt_2 x1 x2 x3 (x4 - (bI ((¬ (d 11 x5 < x1)) ∧ ((¬ (x2 < d 11 x5)) ∧ (¬ (5 ≤ (d 11 x5) % 7)))))) (x5 + 1) g d Q)))))) : pX0_countCourt_2 x1 x2 x3 x4 x5 g d Q := by
  unfold pX0_countCourt_2
  refine mw_top (fun hT => ?_)
  have hG : 65 ≤ g.2.1 := hT.2
  refine mw_iload (pc' := 65) dX0_countCourt_63 rfl rfl ?_
  refine mw_aload_n (v := vR 10) (pc' := 66) dX0_countCourt_65 rfl rfl (Or.inl rfl) rfl ?_
  refine mw_getI (ji := 2) (pc' := 69) dX0_countCourt_66 rfl fi_RX0_25_10 rfl ⟨by decide, by decide⟩ ?_
  refine mw_icmp_ge (tgt := 118) (pc' := 72) dX0_countCourt_69 rfl (by decide) (fun c24 => ?_) (fun c24 => ?_)
  · replace h := h.1 c24
    refine mw_iload (pc' := 120) dX0_countCourt_118 rfl rfl ?_
    exact mw_iret (pc' := 0) (S := []) dX0_countCourt_120 rfl (Or.inl rfl) h
  · replace h := h.2 c24
    refine mw_aload_n (v := vR 10) (pc' := 73) dX0_countCourt_72 rfl rfl (Or.inl rfl) rfl ?_
    refine mw_getP (v := 11) (pc' := 76) dX0_countCourt_73 rfl fr_RX0_9_10 rfl sp_10_1 ⟨by decide, by decide⟩ ?_
    refine mw_iload (pc' := 78) dX0_countCourt_76 rfl rfl ?_
    obtain ⟨o25, h⟩ := h
    refine mw_iald (pc' := 79) dX0_countCourt_78 rfl lk_11 ⟨by decide, by decide⟩ (by rw [ln_11]; exact o25) ?_
    refine mw_istore (pc' := 81) (L' := [(0, vR 10), (1, vI x1), (2, vI x2), (3, vI x3), (4, vI x4), (5, vI x5), (6, vI (d 11 x5))]) dX0_countCourt_79 rfl (by decide) rfl ?_
    refine mw_iload (pc' := 83) dX0_countCourt_81 rfl rfl ?_
    refine mw_iload (pc' := 85) dX0_countCourt_83 rfl rfl ?_
    refine mw_iload_n (pc' := 86) dX0_countCourt_85 rfl rfl rfl ?_
    obtain ⟨o26, h⟩ := h
    suffices k27 : MW mX0_countCourt 0 0 109 [(0, vR 10), (1, vI x1), (2, vI x2), (3, vI x3), (4, vI x4), (5, vI x5), (6, vI (d 11 x5))] [vI (bI ((¬ (d 11 x5 < x1)) ∧ ((¬ (x2 < d 11 x5)) ∧ (¬ (5 ≤ (d 11 x5) % 7))))), vI x4] g d Q by
      refine mw_icmp_lt (tgt := 108) (pc' := 89) dX0_countCourt_86 rfl (by decide) (fun c28 => ?_) (fun c28 => ?_)
      · refine mw_iconst (pc' := 109) dX0_countCourt_108 rfl ⟨by decide, by decide⟩ ?_
        exact mw_st (bI_f (fun h => (h.1 c28))).symm k27
      · refine mw_iload (pc' := 91) dX0_countCourt_89 rfl rfl ?_
        refine mw_iload_n (pc' := 92) dX0_countCourt_91 rfl rfl rfl ?_
        refine mw_icmp_gt (tgt := 108) (pc' := 95) dX0_countCourt_92 rfl (by decide) (fun c29 => ?_) (fun c29 => ?_)
        · refine mw_iconst (pc' := 109) dX0_countCourt_108 rfl ⟨by decide, by decide⟩ ?_
          exact mw_st (bI_f (fun h => (fun h => (h.1 c29)) h.2)).symm k27
        · refine mw_iload (pc' := 97) dX0_countCourt_95 rfl rfl ?_
          refine mw_bipush (pc' := 99) dX0_countCourt_97 rfl ⟨by decide, by decide⟩ ?_
          refine mw_irem (pc' := 100) dX0_countCourt_99 rfl (o26 c28 c29) (by decide) ?_
          refine mw_iconst (pc' := 101) dX0_countCourt_100 rfl ⟨by decide, by decide⟩ ?_
          refine mw_icmp_ge (tgt := 108) (pc' := 104) dX0_countCourt_101 rfl (by decide) (fun c30 => ?_) (fun c30 => ?_)
          · refine mw_iconst (pc' := 109) dX0_countCourt_108 rfl ⟨by decide, by decide⟩ ?_
            exact mw_st (bI_f (fun h => (fun h => (fun h => (h c30)) h.2) h.2)).symm k27
          · refine mw_iconst (pc' := 105) dX0_countCourt_104 rfl ⟨by decide, by decide⟩ ?_
            refine mw_goto (pc' := 0) (tgt := 109) dX0_countCourt_105 (by decide) ?_
            exact mw_st (bI_t ⟨c28, ⟨c29, c30⟩⟩).symm k27
    obtain ⟨o31, h⟩ := h
    refine mw_isub (pc' := 110) dX0_countCourt_109 rfl o31 ?_
    refine mw_istore (pc' := 112) (L' := [(0, vR 10), (1, vI x1), (2, vI x2), (3, vI x3), (4, vI (x4 - (bI ((¬ (d 11 x5 < x1)) ∧ ((¬ (x2 < d 11 x5)) ∧ (¬ (5 ≤ (d 11 x5) % 7))))))), (5, vI x5), (6, vI (d 11 x5))]) dX0_countCourt_110 rfl (by decide) rfl ?_
    obtain ⟨o32, h⟩ := h
    refine mw_iinc (pc' := 115) (L' := [(0, vR 10), (1, vI x1), (2, vI x2), (3, vI x3), (4, vI (x4 - (bI ((¬ (d 11 x5 < x1)) ∧ ((¬ (x2 < d 11 x5)) ∧ (¬ (5 ≤ (d 11 x5) % 7))))))), (5, vI (x5 + 1)), (6, vI (d 11 x5))]) dX0_countCourt_112 rfl rfl (by decide) o32 rfl ?_
    refine mw_goto (pc' := 0) (tgt := 63) dX0_countCourt_115 (by decide) ?_
    exact mw_loc (pc' := 0) [0, 1, 2, 3, 4, 5] rfl h
def pX5_isNamed_1 (x1 x3 x4 : Int) (g : mG) (d : mD) (Q : mQ) : Prop := MW mX5_isNamed 0 0 15 [(0, vR 7), (1, vI x1), (2, vR 5), (3, vI x3), (4, vI x4)] [] g d Q
theorem eX5_isNamed {x1 x3 : Int} {g : mG} {d : mD} {Q : mQ} (h : (0 ≤ x1 ∧ x1 < 8) ∧ (((d 9 x1 = x3) → pX5_isNamed_1 x1 x3 0 g d Q) ∧ ((¬ (d 9 x1 = x3)) → Q (.inl 0) g d))) : MM mX5_isNamed [vR 7, vI x1, vR 5, vI x3] g d Q := by
  refine MM_of (by decide) rfl (by simp [catV]) (Nat.le_of_ble_eq_true rfl) ?_
  show MW mX5_isNamed 0 0 0 [(0, vR 7), (1, vI x1), (2, vR 5), (3, vI x3)] [] g d Q
  refine mw_top (fun hT => ?_)
  have hG : 65 ≤ g.2.1 := hT.2
  refine mw_aload_n (v := vR 7) (pc' := 1) dX5_isNamed_0 rfl rfl (Or.inl rfl) rfl ?_
  refine mw_getP (v := 9) (pc' := 4) dX5_isNamed_1 rfl fr_RX5_15_7 rfl sp_7_1 ⟨by decide, by decide⟩ ?_
  refine mw_iload_n (pc' := 5) dX5_isNamed_4 rfl rfl rfl ?_
  obtain ⟨o1, h⟩ := h
  refine mw_iald (pc' := 6) dX5_isNamed_5 rfl lk_9 ⟨by decide, by decide⟩ (by rw [ln_9]; exact o1) ?_
  refine mw_iload_n (pc' := 7) dX5_isNamed_6 rfl rfl rfl ?_
  refine mw_icmp_eq (tgt := 12) (pc' := 10) dX5_isNamed_7 rfl (by decide) (fun c2 => ?_) (fun c2 => ?_)
  · replace h := h.1 c2
    refine mw_iconst (pc' := 13) dX5_isNamed_12 rfl ⟨by decide, by decide⟩ ?_
    refine mw_istore (pc' := 15) (L' := [(0, vR 7), (1, vI x1), (2, vR 5), (3, vI x3), (4, vI 0)]) dX5_isNamed_13 rfl (by decide) rfl ?_
    exact h
  · replace h := h.2 c2
    refine mw_iconst (pc' := 11) dX5_isNamed_10 rfl ⟨by decide, by decide⟩ ?_
    exact mw_iret (pc' := 0) (S := []) dX5_isNamed_11 rfl (Or.inr (Or.inl ⟨rfl, by decide, by decide⟩)) h
theorem aX5_isNamed_1 {x1 x3 x4 : Int} {g : mG} {d : mD} {Q : mQ} (h : ((x3 ≤ x4) → Q (.inl 1) g d) ∧ ((¬ (x3 ≤ x4)) → (iI (x1 * 8)) ∧ ((iI ((x1 * 8) + x4)) ∧ ((0 ≤ (x1 * 8) + x4 ∧ (x1 * 8) + x4 < 64) ∧ ((0 ≤ x4 ∧ x4 < 8) ∧ (((d 8 ((x1 * 8) + x4) = d 5 x4) → (iI (x4 + 1)) ∧ (pX5_isNamed_1 x1 x3 (x4 + 1) g d Q)) ∧ ((¬ (d 8 ((x1 * 8) + x4) = d 5 x4)) → Q (.inl 0) g d))))))) : pX5_isNamed_1 x1 x3 x4 g d Q := by
  unfold pX5_isNamed_1
  refine mw_top (fun hT => ?_)
  have hG : 65 ≤ g.2.1 := hT.2
  refine mw_iload (pc' := 17) dX5_isNamed_15 rfl rfl ?_
  refine mw_iload_n (pc' := 18) dX5_isNamed_17 rfl rfl rfl ?_
  refine mw_icmp_ge (tgt := 48) (pc' := 21) dX5_isNamed_18 rfl (by decide) (fun c11 => ?_) (fun c11 => ?_)
  · replace h := h.1 c11
    refine mw_iconst (pc' := 49) dX5_isNamed_48 rfl ⟨by decide, by decide⟩ ?_
    exact mw_iret (pc' := 0) (S := []) dX5_isNamed_49 rfl (Or.inr (Or.inl ⟨rfl, by decide, by decide⟩)) h
  · replace h := h.2 c11
    refine mw_aload_n (v := vR 7) (pc' := 22) dX5_isNamed_21 rfl rfl (Or.inl rfl) rfl ?_
    refine mw_getP (v := 8) (pc' := 25) dX5_isNamed_22 rfl fr_RX5_9_7 rfl sp_7_0 ⟨by decide, by decide⟩ ?_
    refine mw_iload_n (pc' := 26) dX5_isNamed_25 rfl rfl rfl ?_
    refine mw_bipush (pc' := 28) dX5_isNamed_26 rfl ⟨by decide, by decide⟩ ?_
    obtain ⟨o12, h⟩ := h
    refine mw_imul (pc' := 29) dX5_isNamed_28 rfl o12 ?_
    refine mw_iload (pc' := 31) dX5_isNamed_29 rfl rfl ?_
    obtain ⟨o13, h⟩ := h
    refine mw_iadd (pc' := 32) dX5_isNamed_31 rfl o13 ?_
    obtain ⟨o14, h⟩ := h
    refine mw_iald (pc' := 33) dX5_isNamed_32 rfl lk_8 ⟨by decide, by decide⟩ (by rw [ln_8]; exact o14) ?_
    refine mw_aload_n (v := vR 5) (pc' := 34) dX5_isNamed_33 rfl rfl (Or.inl rfl) rfl ?_
    refine mw_iload (pc' := 36) dX5_isNamed_34 rfl rfl ?_
    obtain ⟨o15, h⟩ := h
    refine mw_iald (pc' := 37) dX5_isNamed_36 rfl lk_5 ⟨by decide, by decide⟩ (by rw [ln_5]; exact o15) ?_
    refine mw_icmp_eq (tgt := 42) (pc' := 40) dX5_isNamed_37 rfl (by decide) (fun c16 => ?_) (fun c16 => ?_)
    · replace h := h.1 c16
      obtain ⟨o17, h⟩ := h
      refine mw_iinc (pc' := 45) (L' := [(0, vR 7), (1, vI x1), (2, vR 5), (3, vI x3), (4, vI (x4 + 1))]) dX5_isNamed_42 rfl rfl (by decide) o17 rfl ?_
      refine mw_goto (pc' := 0) (tgt := 15) dX5_isNamed_45 (by decide) ?_
      exact h
    · replace h := h.2 c16
      refine mw_iconst (pc' := 41) dX5_isNamed_40 rfl ⟨by decide, by decide⟩ ?_
      exact mw_iret (pc' := 0) (S := []) dX5_isNamed_41 rfl (Or.inr (Or.inl ⟨rfl, by decide, by decide⟩)) h
theorem eX5_add {x2 : Int} {g : mG} {d : mD} {Q : mQ} (h : ((d 7 2 < 8) → (iI ((d 7 2) * 8)) ∧ ((0 ≤ (d 7 2) * 8 ∧ (d 7 2) * 8 + 8 ≤ 64) ∧ ((0 ≤ d 7 2 ∧ d 7 2 < 8) ∧ ((iI ((d 7 2) + 1)) ∧ ((iI (((d 7 2) + 1) - 1)) ∧ (Q (.inl (((d 7 2) + 1) - 1)) g (ud (ud (cpy d 5 8 0 ((d 7 2) * 8) 8) 9 (d 7 2) x2) 7 2 ((d 7 2) + 1)))))))) ∧ ((¬ (d 7 2 < 8)) → Q (.inl (-3)) g d)) : MM mX5_add [vR 7, vR 5, vI x2] g d Q := by
  refine MM_of (by decide) rfl (by simp [catV]) (Nat.le_of_ble_eq_true rfl) ?_
  show MW mX5_add 0 0 0 [(0, vR 7), (1, vR 5), (2, vI x2)] [] g d Q
  refine mw_top (fun hT => ?_)
  have hG : 65 ≤ g.2.1 := hT.2
  refine mw_aload_n (v := vR 7) (pc' := 1) dX5_add_0 rfl rfl (Or.inl rfl) rfl ?_
  refine mw_getI (ji := 2) (pc' := 4) dX5_add_1 rfl fi_RX5_24_7 rfl ⟨by decide, by decide⟩ ?_
  refine mw_bipush (pc' := 6) dX5_add_4 rfl ⟨by decide, by decide⟩ ?_
  refine mw_icmp_lt (tgt := 12) (pc' := 9) dX5_add_6 rfl (by decide) (fun c5 => ?_) (fun c5 => ?_)
  · replace h := h.1 c5
    refine mw_aload_n (v := vR 5) (pc' := 13) dX5_add_12 rfl rfl (Or.inl rfl) rfl ?_
    refine mw_iconst (pc' := 14) dX5_add_13 rfl ⟨by decide, by decide⟩ ?_
    refine mw_aload_n (v := vR 7) (pc' := 15) dX5_add_14 rfl rfl (Or.inl rfl) rfl ?_
    refine mw_getP (v := 8) (pc' := 18) dX5_add_15 rfl fr_RX5_9_7 rfl sp_7_0 ⟨by decide, by decide⟩ ?_
    refine mw_aload_n (v := vR 7) (pc' := 19) dX5_add_18 rfl rfl (Or.inl rfl) rfl ?_
    refine mw_getI (ji := 2) (pc' := 22) dX5_add_19 rfl fi_RX5_24_7 rfl ⟨by decide, by decide⟩ ?_
    refine mw_bipush (pc' := 24) dX5_add_22 rfl ⟨by decide, by decide⟩ ?_
    obtain ⟨o6, h⟩ := h
    refine mw_imul (pc' := 25) dX5_add_24 rfl o6 ?_
    refine mw_aload_n (v := vR 5) (pc' := 26) dX5_add_25 rfl rfl (Or.inl rfl) rfl ?_
    refine mw_alenN (n := 8) (pc' := 27) dX5_add_26 rfl (by rw [lk_5]; exact ⟨by decide, by decide⟩) ⟨by decide, by decide⟩ ln_5 ⟨by decide, by decide⟩ ?_
    obtain ⟨o7, h⟩ := h
    refine mw_copy (k := 100) (pc' := 30) dX5_add_27 rfl bw_665 bw_667 bw_666 bw_19 ⟨by decide, by decide⟩ lk_5 lk_8 ⟨by decide, by omega⟩ ⟨by decide, by omega⟩ (by rw [ln_5]; exact (by decide)) (by rw [ln_8]; exact o7) (by decide) (by decide) (Nat.le_of_ble_eq_true rfl) ?_
    refine mw_aload_n (v := vR 7) (pc' := 31) dX5_add_30 rfl rfl (Or.inl rfl) rfl ?_
    refine mw_getP (v := 9) (pc' := 34) dX5_add_31 rfl fr_RX5_15_7 rfl sp_7_1 ⟨by decide, by decide⟩ ?_
    refine mw_aload_n (v := vR 7) (pc' := 35) dX5_add_34 rfl rfl (Or.inl rfl) rfl ?_
    refine mw_getI (ji := 2) (pc' := 38) dX5_add_35 rfl fi_RX5_24_7 rfl ⟨by decide, by decide⟩ ?_
    refine mw_st (b := d 7 2) (cpA (by decide) (rfl)) ?_
    refine mw_iload_n (pc' := 39) dX5_add_38 rfl rfl rfl ?_
    obtain ⟨o8, h⟩ := h
    refine mw_iast (pc' := 40) dX5_add_39 rfl lk_9 ⟨by decide, by decide⟩ (by rw [ln_9]; exact o8) ?_
    refine mw_aload_n (v := vR 7) (pc' := 41) dX5_add_40 rfl rfl (Or.inl rfl) rfl ?_
    refine mw_dup (pc' := 42) dX5_add_41 rfl rfl ?_
    refine mw_getI (ji := 2) (pc' := 45) dX5_add_42 rfl fi_RX5_24_7 rfl ⟨by decide, by decide⟩ ?_
    refine mw_st (b := d 7 2) (udA (by decide) (cpA (by decide) (rfl))) ?_
    refine mw_iconst (pc' := 46) dX5_add_45 rfl ⟨by decide, by decide⟩ ?_
    obtain ⟨o9, h⟩ := h
    refine mw_iadd (pc' := 47) dX5_add_46 rfl o9 ?_
    refine mw_putI (ji := 2) (pc' := 50) dX5_add_47 rfl (fq_RX5_24_7) (by decide +kernel) rfl (Or.inl ⟨rfl, rc_7_2⟩) (Or.inr rfl) ⟨by decide, by omega⟩ ?_
    refine mw_aload_n (v := vR 7) (pc' := 51) dX5_add_50 rfl rfl (Or.inl rfl) rfl ?_
    refine mw_getI (ji := 2) (pc' := 54) dX5_add_51 rfl fi_RX5_24_7 rfl ⟨by decide, by decide⟩ ?_
    refine mw_st (b := (d 7 2) + 1) (udS) ?_
    refine mw_iconst (pc' := 55) dX5_add_54 rfl ⟨by decide, by decide⟩ ?_
    obtain ⟨o10, h⟩ := h
    refine mw_isub (pc' := 56) dX5_add_55 rfl o10 ?_
    exact mw_iret (pc' := 0) (S := []) dX5_add_56 rfl (Or.inl rfl) h
  · replace h := h.2 c5
    refine mw_bipush (pc' := 11) dX5_add_9 rfl ⟨by decide, by decide⟩ ?_
    exact mw_iret (pc' := 0) (S := []) dX5_add_11 rfl (Or.inl rfl) h
theorem eX2_add_d {x1 x2 x3 : Int} {g : mG} {d : mD} {Q : mQ} (h : ((d 16 11 < 30) → (0 ≤ d 16 11 ∧ d 16 11 < 30) ∧ ((0 ≤ x2 ∧ x2 < 8) ∧ ((0 ≤ d 14 x2 ∧ d 14 x2 ≤ 1) ∧ ((iI ((d 16 11) + 1)) ∧ ((0 ≤ (d 16 11) ∧ (d 16 11) < 30) ∧ ((0 ≤ ((ud (ud (ud (ud (ud d 17 (d 16 11) x1) 18 (d 16 11) x2) 19 (d 16 11) x3) 20 (d 16 11) (d 14 x2)) 21 (d 16 11) 0) 21 (d 16 11)) ∧ ((ud (ud (ud (ud (ud d 17 (d 16 11) x1) 18 (d 16 11) x2) 19 (d 16 11) x3) 20 (d 16 11) (d 14 x2)) 21 (d 16 11) 0) 21 (d 16 11)) < 7) ∧ (Q (.inl (d 16 11)) g (ud (ud (ud (ud (ud (ud (ud (ud (ud (ud (ud (ud (ud d 17 (d 16 11) x1) 18 (d 16 11) x2) 19 (d 16 11) x3) 20 (d 16 11) (d 14 x2)) 21 (d 16 11) 0) 23 (d 16 11) 0) 24 (d 16 11) 0) 25 (d 16 11) 0) 26 (d 16 11) 0) 27 (d 16 11) 111) 16 11 ((d 16 11) + 1)) 22 ((d 16 11) * 7 + ((ud (ud (ud (ud (ud d 17 (d 16 11) x1) 18 (d 16 11) x2) 19 (d 16 11) x3) 20 (d 16 11) (d 14 x2)) 21 (d 16 11) 0) 21 (d 16 11))) (d 13 x2)) 21 (d 16 11) ((((ud (ud (ud (ud (ud d 17 (d 16 11) x1) 18 (d 16 11) x2) 19 (d 16 11) x3) 20 (d 16 11) (d 14 x2)) 21 (d 16 11) 0) 21 (d 16 11))) + 1))))))))) ∧ ((¬ (d 16 11 < 30)) → Q (.inl (-3)) g d)) : MM mX2_add [vR 16, vI x1, vI x2, vI x3, vR 12] g d Q := by
  refine MM_of (by decide) rfl (by simp [catV]) (Nat.le_of_ble_eq_true rfl) ?_
  show MW mX2_add 0 0 0 [(0, vR 16), (1, vI x1), (2, vI x2), (3, vI x3), (4, vR 12)] [] g d Q
  refine mw_top (fun hT => ?_)
  have hG : 65 ≤ g.2.1 := hT.2
  refine mw_aload_n (v := vR 16) (pc' := 1) dX2_add_0 rfl rfl (Or.inl rfl) rfl ?_
  refine mw_getI (ji := 11) (pc' := 4) dX2_add_1 rfl fi_RX2_53_16 rfl ⟨by decide, by decide⟩ ?_
  refine mw_bipush (pc' := 6) dX2_add_4 rfl ⟨by decide, by decide⟩ ?_
  refine mw_icmp_lt (tgt := 12) (pc' := 9) dX2_add_6 rfl (by decide) (fun c1 => ?_) (fun c1 => ?_)
  · replace h := h.1 c1
    refine mw_aload_n (v := vR 16) (pc' := 13) dX2_add_12 rfl rfl (Or.inl rfl) rfl ?_
    refine mw_getI (ji := 11) (pc' := 16) dX2_add_13 rfl fi_RX2_53_16 rfl ⟨by decide, by decide⟩ ?_
    refine mw_istore (pc' := 18) (L' := [(0, vR 16), (1, vI x1), (2, vI x2), (3, vI x3), (4, vR 12), (5, vI (d 16 11))]) dX2_add_16 rfl (by decide) rfl ?_
    refine mw_aload_n (v := vR 16) (pc' := 19) dX2_add_18 rfl rfl (Or.inl rfl) rfl ?_
    refine mw_getP (v := 17) (pc' := 22) dX2_add_19 rfl fr_RX2_9_16 rfl sp_16_0 ⟨by decide, by decide⟩ ?_
    refine mw_iload (pc' := 24) dX2_add_22 rfl rfl ?_
    refine mw_iload_n (pc' := 25) dX2_add_24 rfl rfl rfl ?_
    obtain ⟨o2, h⟩ := h
    refine mw_iast (pc' := 26) dX2_add_25 rfl lk_17 ⟨by decide, by decide⟩ (by rw [ln_17]; exact o2) ?_
    refine mw_aload_n (v := vR 16) (pc' := 27) dX2_add_26 rfl rfl (Or.inl rfl) rfl ?_
    refine mw_getP (v := 18) (pc' := 30) dX2_add_27 rfl fr_RX2_15_16 rfl sp_16_1 ⟨by decide, by decide⟩ ?_
    refine mw_iload (pc' := 32) dX2_add_30 rfl rfl ?_
    refine mw_iload_n (pc' := 33) dX2_add_32 rfl rfl rfl ?_
    refine mw_iast (pc' := 34) dX2_add_33 rfl lk_18 ⟨by decide, by decide⟩ (by rw [ln_18]; exact o2) ?_
    refine mw_aload_n (v := vR 16) (pc' := 35) dX2_add_34 rfl rfl (Or.inl rfl) rfl ?_
    refine mw_getP (v := 19) (pc' := 38) dX2_add_35 rfl fr_RX2_18_16 rfl sp_16_2 ⟨by decide, by decide⟩ ?_
    refine mw_iload (pc' := 40) dX2_add_38 rfl rfl ?_
    refine mw_iload_n (pc' := 41) dX2_add_40 rfl rfl rfl ?_
    refine mw_iast (pc' := 42) dX2_add_41 rfl lk_19 ⟨by decide, by decide⟩ (by rw [ln_19]; exact o2) ?_
    refine mw_aload_n (v := vR 16) (pc' := 43) dX2_add_42 rfl rfl (Or.inl rfl) rfl ?_
    refine mw_getP (v := 20) (pc' := 46) dX2_add_43 rfl fr_RX2_21_16 rfl sp_16_3 ⟨by decide, by decide⟩ ?_
    refine mw_iload (pc' := 48) dX2_add_46 rfl rfl ?_
    refine mw_aload (v := vR 12) (pc' := 50) dX2_add_48 rfl (Or.inl rfl) rfl ?_
    refine mw_getP (v := 14) (pc' := 53) dX2_add_50 rfl fr_RX2_61_12 rfl sp_12_1 ⟨by decide, by decide⟩ ?_
    refine mw_iload_n (pc' := 54) dX2_add_53 rfl rfl rfl ?_
    obtain ⟨o5, h⟩ := h
    refine mw_zald (pc' := 55) dX2_add_54 rfl lk_14 ⟨by decide, by decide⟩ (by rw [ln_14]; exact o5) ?_
    refine mw_st (b := d 14 x2) (udA (by decide) (udA (by decide) (udA (by decide) (rfl)))) ?_
    obtain ⟨o7, h⟩ := h
    refine mw_zast (pc' := 56) dX2_add_55 rfl lk_20 ⟨by decide, by decide⟩ (by rw [ln_20]; exact o2) o7 ?_
    refine mw_aload_n (v := vR 16) (pc' := 57) dX2_add_56 rfl rfl (Or.inl rfl) rfl ?_
    refine mw_getP (v := 21) (pc' := 60) dX2_add_57 rfl fr_RX2_25_16 rfl sp_16_4 ⟨by decide, by decide⟩ ?_
    refine mw_iload (pc' := 62) dX2_add_60 rfl rfl ?_
    refine mw_iconst (pc' := 63) dX2_add_62 rfl ⟨by decide, by decide⟩ ?_
    refine mw_iast (pc' := 64) dX2_add_63 rfl lk_21 ⟨by decide, by decide⟩ (by rw [ln_21]; exact o2) ?_
    refine mw_aload_n (v := vR 16) (pc' := 65) dX2_add_64 rfl rfl (Or.inl rfl) rfl ?_
    refine mw_getP (v := 23) (pc' := 68) dX2_add_65 rfl fr_RX2_31_16 rfl sp_16_6 ⟨by decide, by decide⟩ ?_
    refine mw_iload (pc' := 70) dX2_add_68 rfl rfl ?_
    refine mw_iconst (pc' := 71) dX2_add_70 rfl ⟨by decide, by decide⟩ ?_
    refine mw_iast (pc' := 72) dX2_add_71 rfl lk_23 ⟨by decide, by decide⟩ (by rw [ln_23]; exact o2) ?_
    refine mw_aload_n (v := vR 16) (pc' := 73) dX2_add_72 rfl rfl (Or.inl rfl) rfl ?_
    refine mw_getP (v := 24) (pc' := 76) dX2_add_73 rfl fr_RX2_34_16 rfl sp_16_7 ⟨by decide, by decide⟩ ?_
    refine mw_iload (pc' := 78) dX2_add_76 rfl rfl ?_
    refine mw_iconst (pc' := 79) dX2_add_78 rfl ⟨by decide, by decide⟩ ?_
    refine mw_iast (pc' := 80) dX2_add_79 rfl lk_24 ⟨by decide, by decide⟩ (by rw [ln_24]; exact o2) ?_
    refine mw_aload_n (v := vR 16) (pc' := 81) dX2_add_80 rfl rfl (Or.inl rfl) rfl ?_
    refine mw_getP (v := 25) (pc' := 84) dX2_add_81 rfl fr_RX2_37_16 rfl sp_16_8 ⟨by decide, by decide⟩ ?_
    refine mw_iload (pc' := 86) dX2_add_84 rfl rfl ?_
    refine mw_iconst (pc' := 87) dX2_add_86 rfl ⟨by decide, by decide⟩ ?_
    refine mw_iast (pc' := 88) dX2_add_87 rfl lk_25 ⟨by decide, by decide⟩ (by rw [ln_25]; exact o2) ?_
    refine mw_aload_n (v := vR 16) (pc' := 89) dX2_add_88 rfl rfl (Or.inl rfl) rfl ?_
    refine mw_getP (v := 26) (pc' := 92) dX2_add_89 rfl fr_RX2_40_16 rfl sp_16_9 ⟨by decide, by decide⟩ ?_
    refine mw_iload (pc' := 94) dX2_add_92 rfl rfl ?_
    refine mw_iconst (pc' := 95) dX2_add_94 rfl ⟨by decide, by decide⟩ ?_
    refine mw_iast (pc' := 96) dX2_add_95 rfl lk_26 ⟨by decide, by decide⟩ (by rw [ln_26]; exact o2) ?_
    refine mw_aload_n (v := vR 16) (pc' := 97) dX2_add_96 rfl rfl (Or.inl rfl) rfl ?_
    refine mw_getP (v := 27) (pc' := 100) dX2_add_97 rfl fr_RX2_43_16 rfl sp_16_10 ⟨by decide, by decide⟩ ?_
    refine mw_iload (pc' := 102) dX2_add_100 rfl rfl ?_
    refine mw_bipush (pc' := 104) dX2_add_102 rfl ⟨by decide, by decide⟩ ?_
    refine mw_cast (pc' := 105) dX2_add_104 rfl lk_27 ⟨by decide, by decide⟩ (by rw [ln_27]; exact o2) ⟨by decide, by decide⟩ ?_
    refine mw_aload_n (v := vR 16) (pc' := 106) dX2_add_105 rfl rfl (Or.inl rfl) rfl ?_
    refine mw_dup (pc' := 107) dX2_add_106 rfl rfl ?_
    refine mw_getI (ji := 11) (pc' := 110) dX2_add_107 rfl fi_RX2_53_16 rfl ⟨by decide, by decide⟩ ?_
    refine mw_st (b := d 16 11) (udA (by decide) (udA (by decide) (udA (by decide) (udA (by decide) (udA (by decide) (udA (by decide) (udA (by decide) (udA (by decide) (udA (by decide) (udA (by decide) (rfl))))))))))) ?_
    refine mw_iconst (pc' := 111) dX2_add_110 rfl ⟨by decide, by decide⟩ ?_
    obtain ⟨o14, h⟩ := h
    refine mw_iadd (pc' := 112) dX2_add_111 rfl o14 ?_
    refine mw_putI (ji := 11) (pc' := 115) dX2_add_112 rfl (fq_RX2_53_16) (by decide +kernel) rfl (Or.inl ⟨rfl, rc_16_11⟩) (Or.inr rfl) ⟨by decide, by omega⟩ ?_
    refine mw_aload_n (v := vR 16) (pc' := 116) dX2_add_115 rfl rfl (Or.inl rfl) rfl ?_
    refine mw_iload (pc' := 118) dX2_add_116 rfl rfl ?_
    refine mw_aload (v := vR 12) (pc' := 120) dX2_add_118 rfl (Or.inl rfl) rfl ?_
    refine mw_getP (v := 13) (pc' := 123) dX2_add_120 rfl fr_RX2_64_12 rfl sp_12_0 ⟨by decide, by decide⟩ ?_
    refine mw_iload_n (pc' := 124) dX2_add_123 rfl rfl rfl ?_
    refine mw_iald (pc' := 125) dX2_add_124 rfl lk_13 ⟨by decide, by decide⟩ (by rw [ln_13]; exact o5) ?_
    refine mw_st (b := d 13 x2) (udA (by decide) (udA (by decide) (udA (by decide) (udA (by decide) (udA (by decide) (udA (by decide) (udA (by decide) (udA (by decide) (udA (by decide) (udA (by decide) (udA (by decide) (rfl)))))))))))) ?_
    obtain ⟨o16, h⟩ := h
    obtain ⟨o17, h⟩ := h
    refine mw_callV (M' := mX2_addPart) (A := [vI (d 16 11), vI (d 13 x2)]) (A' := [vR 16, vI (d 16 11), vI (d 13 x2)]) (S := []) (a := 16) (pc' := 128) dX2_add_125 rfl cl_RX2_67 cm_X2_addPart cv_X2_addPart ⟨by decide, by decide, by decide, by decide, by decide⟩ rfl rfl rfl ⟨by decide, by omega⟩ (by decide +kernel) (by decide +kernel) (Nat.le_of_ble_eq_true rfl) (f_addPart_d (⟨o16, o17, ?_⟩))
    show MW mX2_add 0 0 128 [(0, vR 16), (1, vI x1), (2, vI x2), (3, vI x3), (4, vR 12), (5, vI (d 16 11))] [] g (ud (ud (ud (ud (ud (ud (ud (ud (ud (ud (ud (ud (ud d 17 (d 16 11) x1) 18 (d 16 11) x2) 19 (d 16 11) x3) 20 (d 16 11) (d 14 x2)) 21 (d 16 11) 0) 23 (d 16 11) 0) 24 (d 16 11) 0) 25 (d 16 11) 0) 26 (d 16 11) 0) 27 (d 16 11) 111) 16 11 ((d 16 11) + 1)) 22 ((d 16 11) * 7 + ((ud (ud (ud (ud (ud d 17 (d 16 11) x1) 18 (d 16 11) x2) 19 (d 16 11) x3) 20 (d 16 11) (d 14 x2)) 21 (d 16 11) 0) 21 (d 16 11))) (d 13 x2)) 21 (d 16 11) ((((ud (ud (ud (ud (ud d 17 (d 16 11) x1) 18 (d 16 11) x2) 19 (d 16 11) x3) 20 (d 16 11) (d 14 x2)) 21 (d 16 11) 0) 21 (d 16 11))) + 1)) Q
    refine mw_iload (pc' := 130) dX2_add_128 rfl rfl ?_
    exact mw_iret (pc' := 0) (S := []) dX2_add_130 rfl (Or.inl rfl) h
  · replace h := h.2 c1
    refine mw_bipush (pc' := 11) dX2_add_9 rfl ⟨by decide, by decide⟩ ?_
    exact mw_iret (pc' := 0) (S := []) dX2_add_11 rfl (Or.inl rfl) h
theorem eX2_add_p {x1 x2 x3 : Int} {g : mG} {d : mD} {Q : mQ} (h : ((d 34 11 < 30) → (0 ≤ d 34 11 ∧ d 34 11 < 30) ∧ ((0 ≤ x2 ∧ x2 < 8) ∧ ((0 ≤ d 14 x2 ∧ d 14 x2 ≤ 1) ∧ ((iI ((d 34 11) + 1)) ∧ ((0 ≤ (d 34 11) ∧ (d 34 11) < 30) ∧ ((0 ≤ ((ud (ud (ud (ud (ud d 35 (d 34 11) x1) 36 (d 34 11) x2) 37 (d 34 11) x3) 38 (d 34 11) (d 14 x2)) 39 (d 34 11) 0) 39 (d 34 11)) ∧ ((ud (ud (ud (ud (ud d 35 (d 34 11) x1) 36 (d 34 11) x2) 37 (d 34 11) x3) 38 (d 34 11) (d 14 x2)) 39 (d 34 11) 0) 39 (d 34 11)) < 7) ∧ (Q (.inl (d 34 11)) g (ud (ud (ud (ud (ud (ud (ud (ud (ud (ud (ud (ud (ud d 35 (d 34 11) x1) 36 (d 34 11) x2) 37 (d 34 11) x3) 38 (d 34 11) (d 14 x2)) 39 (d 34 11) 0) 41 (d 34 11) 0) 42 (d 34 11) 0) 43 (d 34 11) 0) 44 (d 34 11) 0) 45 (d 34 11) 111) 34 11 ((d 34 11) + 1)) 40 ((d 34 11) * 7 + ((ud (ud (ud (ud (ud d 35 (d 34 11) x1) 36 (d 34 11) x2) 37 (d 34 11) x3) 38 (d 34 11) (d 14 x2)) 39 (d 34 11) 0) 39 (d 34 11))) (d 13 x2)) 39 (d 34 11) ((((ud (ud (ud (ud (ud d 35 (d 34 11) x1) 36 (d 34 11) x2) 37 (d 34 11) x3) 38 (d 34 11) (d 14 x2)) 39 (d 34 11) 0) 39 (d 34 11))) + 1))))))))) ∧ ((¬ (d 34 11 < 30)) → Q (.inl (-3)) g d)) : MM mX2_add [vR 34, vI x1, vI x2, vI x3, vR 12] g d Q := by
  refine MM_of (by decide) rfl (by simp [catV]) (Nat.le_of_ble_eq_true rfl) ?_
  show MW mX2_add 0 0 0 [(0, vR 34), (1, vI x1), (2, vI x2), (3, vI x3), (4, vR 12)] [] g d Q
  refine mw_top (fun hT => ?_)
  have hG : 65 ≤ g.2.1 := hT.2
  refine mw_aload_n (v := vR 34) (pc' := 1) dX2_add_0 rfl rfl (Or.inl rfl) rfl ?_
  refine mw_getI (ji := 11) (pc' := 4) dX2_add_1 rfl fi_RX2_53_34 rfl ⟨by decide, by decide⟩ ?_
  refine mw_bipush (pc' := 6) dX2_add_4 rfl ⟨by decide, by decide⟩ ?_
  refine mw_icmp_lt (tgt := 12) (pc' := 9) dX2_add_6 rfl (by decide) (fun c1 => ?_) (fun c1 => ?_)
  · replace h := h.1 c1
    refine mw_aload_n (v := vR 34) (pc' := 13) dX2_add_12 rfl rfl (Or.inl rfl) rfl ?_
    refine mw_getI (ji := 11) (pc' := 16) dX2_add_13 rfl fi_RX2_53_34 rfl ⟨by decide, by decide⟩ ?_
    refine mw_istore (pc' := 18) (L' := [(0, vR 34), (1, vI x1), (2, vI x2), (3, vI x3), (4, vR 12), (5, vI (d 34 11))]) dX2_add_16 rfl (by decide) rfl ?_
    refine mw_aload_n (v := vR 34) (pc' := 19) dX2_add_18 rfl rfl (Or.inl rfl) rfl ?_
    refine mw_getP (v := 35) (pc' := 22) dX2_add_19 rfl fr_RX2_9_34 rfl sp_34_0 ⟨by decide, by decide⟩ ?_
    refine mw_iload (pc' := 24) dX2_add_22 rfl rfl ?_
    refine mw_iload_n (pc' := 25) dX2_add_24 rfl rfl rfl ?_
    obtain ⟨o2, h⟩ := h
    refine mw_iast (pc' := 26) dX2_add_25 rfl lk_35 ⟨by decide, by decide⟩ (by rw [ln_35]; exact o2) ?_
    refine mw_aload_n (v := vR 34) (pc' := 27) dX2_add_26 rfl rfl (Or.inl rfl) rfl ?_
    refine mw_getP (v := 36) (pc' := 30) dX2_add_27 rfl fr_RX2_15_34 rfl sp_34_1 ⟨by decide, by decide⟩ ?_
    refine mw_iload (pc' := 32) dX2_add_30 rfl rfl ?_
    refine mw_iload_n (pc' := 33) dX2_add_32 rfl rfl rfl ?_
    refine mw_iast (pc' := 34) dX2_add_33 rfl lk_36 ⟨by decide, by decide⟩ (by rw [ln_36]; exact o2) ?_
    refine mw_aload_n (v := vR 34) (pc' := 35) dX2_add_34 rfl rfl (Or.inl rfl) rfl ?_
    refine mw_getP (v := 37) (pc' := 38) dX2_add_35 rfl fr_RX2_18_34 rfl sp_34_2 ⟨by decide, by decide⟩ ?_
    refine mw_iload (pc' := 40) dX2_add_38 rfl rfl ?_
    refine mw_iload_n (pc' := 41) dX2_add_40 rfl rfl rfl ?_
    refine mw_iast (pc' := 42) dX2_add_41 rfl lk_37 ⟨by decide, by decide⟩ (by rw [ln_37]; exact o2) ?_
    refine mw_aload_n (v := vR 34) (pc' := 43) dX2_add_42 rfl rfl (Or.inl rfl) rfl ?_
    refine mw_getP (v := 38) (pc' := 46) dX2_add_43 rfl fr_RX2_21_34 rfl sp_34_3 ⟨by decide, by decide⟩ ?_
    refine mw_iload (pc' := 48) dX2_add_46 rfl rfl ?_
    refine mw_aload (v := vR 12) (pc' := 50) dX2_add_48 rfl (Or.inl rfl) rfl ?_
    refine mw_getP (v := 14) (pc' := 53) dX2_add_50 rfl fr_RX2_61_12 rfl sp_12_1 ⟨by decide, by decide⟩ ?_
    refine mw_iload_n (pc' := 54) dX2_add_53 rfl rfl rfl ?_
    obtain ⟨o5, h⟩ := h
    refine mw_zald (pc' := 55) dX2_add_54 rfl lk_14 ⟨by decide, by decide⟩ (by rw [ln_14]; exact o5) ?_
    refine mw_st (b := d 14 x2) (udA (by decide) (udA (by decide) (udA (by decide) (rfl)))) ?_
    obtain ⟨o7, h⟩ := h
    refine mw_zast (pc' := 56) dX2_add_55 rfl lk_38 ⟨by decide, by decide⟩ (by rw [ln_38]; exact o2) o7 ?_
    refine mw_aload_n (v := vR 34) (pc' := 57) dX2_add_56 rfl rfl (Or.inl rfl) rfl ?_
    refine mw_getP (v := 39) (pc' := 60) dX2_add_57 rfl fr_RX2_25_34 rfl sp_34_4 ⟨by decide, by decide⟩ ?_
    refine mw_iload (pc' := 62) dX2_add_60 rfl rfl ?_
    refine mw_iconst (pc' := 63) dX2_add_62 rfl ⟨by decide, by decide⟩ ?_
    refine mw_iast (pc' := 64) dX2_add_63 rfl lk_39 ⟨by decide, by decide⟩ (by rw [ln_39]; exact o2) ?_
    refine mw_aload_n (v := vR 34) (pc' := 65) dX2_add_64 rfl rfl (Or.inl rfl) rfl ?_
    refine mw_getP (v := 41) (pc' := 68) dX2_add_65 rfl fr_RX2_31_34 rfl sp_34_6 ⟨by decide, by decide⟩ ?_
    refine mw_iload (pc' := 70) dX2_add_68 rfl rfl ?_
    refine mw_iconst (pc' := 71) dX2_add_70 rfl ⟨by decide, by decide⟩ ?_
    refine mw_iast (pc' := 72) dX2_add_71 rfl lk_41 ⟨by decide, by decide⟩ (by rw [ln_41]; exact o2) ?_
    refine mw_aload_n (v := vR 34) (pc' := 73) dX2_add_72 rfl rfl (Or.inl rfl) rfl ?_
    refine mw_getP (v := 42) (pc' := 76) dX2_add_73 rfl fr_RX2_34_34 rfl sp_34_7 ⟨by decide, by decide⟩ ?_
    refine mw_iload (pc' := 78) dX2_add_76 rfl rfl ?_
    refine mw_iconst (pc' := 79) dX2_add_78 rfl ⟨by decide, by decide⟩ ?_
    refine mw_iast (pc' := 80) dX2_add_79 rfl lk_42 ⟨by decide, by decide⟩ (by rw [ln_42]; exact o2) ?_
    refine mw_aload_n (v := vR 34) (pc' := 81) dX2_add_80 rfl rfl (Or.inl rfl) rfl ?_
    refine mw_getP (v := 43) (pc' := 84) dX2_add_81 rfl fr_RX2_37_34 rfl sp_34_8 ⟨by decide, by decide⟩ ?_
    refine mw_iload (pc' := 86) dX2_add_84 rfl rfl ?_
    refine mw_iconst (pc' := 87) dX2_add_86 rfl ⟨by decide, by decide⟩ ?_
    refine mw_iast (pc' := 88) dX2_add_87 rfl lk_43 ⟨by decide, by decide⟩ (by rw [ln_43]; exact o2) ?_
    refine mw_aload_n (v := vR 34) (pc' := 89) dX2_add_88 rfl rfl (Or.inl rfl) rfl ?_
    refine mw_getP (v := 44) (pc' := 92) dX2_add_89 rfl fr_RX2_40_34 rfl sp_34_9 ⟨by decide, by decide⟩ ?_
    refine mw_iload (pc' := 94) dX2_add_92 rfl rfl ?_
    refine mw_iconst (pc' := 95) dX2_add_94 rfl ⟨by decide, by decide⟩ ?_
    refine mw_iast (pc' := 96) dX2_add_95 rfl lk_44 ⟨by decide, by decide⟩ (by rw [ln_44]; exact o2) ?_
    refine mw_aload_n (v := vR 34) (pc' := 97) dX2_add_96 rfl rfl (Or.inl rfl) rfl ?_
    refine mw_getP (v := 45) (pc' := 100) dX2_add_97 rfl fr_RX2_43_34 rfl sp_34_10 ⟨by decide, by decide⟩ ?_
    refine mw_iload (pc' := 102) dX2_add_100 rfl rfl ?_
    refine mw_bipush (pc' := 104) dX2_add_102 rfl ⟨by decide, by decide⟩ ?_
    refine mw_cast (pc' := 105) dX2_add_104 rfl lk_45 ⟨by decide, by decide⟩ (by rw [ln_45]; exact o2) ⟨by decide, by decide⟩ ?_
    refine mw_aload_n (v := vR 34) (pc' := 106) dX2_add_105 rfl rfl (Or.inl rfl) rfl ?_
    refine mw_dup (pc' := 107) dX2_add_106 rfl rfl ?_
    refine mw_getI (ji := 11) (pc' := 110) dX2_add_107 rfl fi_RX2_53_34 rfl ⟨by decide, by decide⟩ ?_
    refine mw_st (b := d 34 11) (udA (by decide) (udA (by decide) (udA (by decide) (udA (by decide) (udA (by decide) (udA (by decide) (udA (by decide) (udA (by decide) (udA (by decide) (udA (by decide) (rfl))))))))))) ?_
    refine mw_iconst (pc' := 111) dX2_add_110 rfl ⟨by decide, by decide⟩ ?_
    obtain ⟨o14, h⟩ := h
    refine mw_iadd (pc' := 112) dX2_add_111 rfl o14 ?_
    refine mw_putI (ji := 11) (pc' := 115) dX2_add_112 rfl (fq_RX2_53_34) (by decide +kernel) rfl (Or.inl ⟨rfl, rc_34_11⟩) (Or.inr rfl) ⟨by decide, by omega⟩ ?_
    refine mw_aload_n (v := vR 34) (pc' := 116) dX2_add_115 rfl rfl (Or.inl rfl) rfl ?_
    refine mw_iload (pc' := 118) dX2_add_116 rfl rfl ?_
    refine mw_aload (v := vR 12) (pc' := 120) dX2_add_118 rfl (Or.inl rfl) rfl ?_
    refine mw_getP (v := 13) (pc' := 123) dX2_add_120 rfl fr_RX2_64_12 rfl sp_12_0 ⟨by decide, by decide⟩ ?_
    refine mw_iload_n (pc' := 124) dX2_add_123 rfl rfl rfl ?_
    refine mw_iald (pc' := 125) dX2_add_124 rfl lk_13 ⟨by decide, by decide⟩ (by rw [ln_13]; exact o5) ?_
    refine mw_st (b := d 13 x2) (udA (by decide) (udA (by decide) (udA (by decide) (udA (by decide) (udA (by decide) (udA (by decide) (udA (by decide) (udA (by decide) (udA (by decide) (udA (by decide) (udA (by decide) (rfl)))))))))))) ?_
    obtain ⟨o16, h⟩ := h
    obtain ⟨o17, h⟩ := h
    refine mw_callV (M' := mX2_addPart) (A := [vI (d 34 11), vI (d 13 x2)]) (A' := [vR 34, vI (d 34 11), vI (d 13 x2)]) (S := []) (a := 34) (pc' := 128) dX2_add_125 rfl cl_RX2_67 cm_X2_addPart cv_X2_addPart ⟨by decide, by decide, by decide, by decide, by decide⟩ rfl rfl rfl ⟨by decide, by omega⟩ (by decide +kernel) (by decide +kernel) (Nat.le_of_ble_eq_true rfl) (f_addPart_p (⟨o16, o17, ?_⟩))
    show MW mX2_add 0 0 128 [(0, vR 34), (1, vI x1), (2, vI x2), (3, vI x3), (4, vR 12), (5, vI (d 34 11))] [] g (ud (ud (ud (ud (ud (ud (ud (ud (ud (ud (ud (ud (ud d 35 (d 34 11) x1) 36 (d 34 11) x2) 37 (d 34 11) x3) 38 (d 34 11) (d 14 x2)) 39 (d 34 11) 0) 41 (d 34 11) 0) 42 (d 34 11) 0) 43 (d 34 11) 0) 44 (d 34 11) 0) 45 (d 34 11) 111) 34 11 ((d 34 11) + 1)) 40 ((d 34 11) * 7 + ((ud (ud (ud (ud (ud d 35 (d 34 11) x1) 36 (d 34 11) x2) 37 (d 34 11) x3) 38 (d 34 11) (d 14 x2)) 39 (d 34 11) 0) 39 (d 34 11))) (d 13 x2)) 39 (d 34 11) ((((ud (ud (ud (ud (ud d 35 (d 34 11) x1) 36 (d 34 11) x2) 37 (d 34 11) x3) 38 (d 34 11) (d 14 x2)) 39 (d 34 11) 0) 39 (d 34 11))) + 1)) Q
    refine mw_iload (pc' := 130) dX2_add_128 rfl rfl ?_
    exact mw_iret (pc' := 0) (S := []) dX2_add_130 rfl (Or.inl rfl) h
  · replace h := h.2 c1
    refine mw_bipush (pc' := 11) dX2_add_9 rfl ⟨by decide, by decide⟩ ?_
    exact mw_iret (pc' := 0) (S := []) dX2_add_11 rfl (Or.inl rfl) h
def pX2_countOpen_1 (x1 x2 : Int) (g : mG) (d : mD) (Q : mQ) : Prop := MW mX2_countOpen 0 0 4 [(0, vR 16), (1, vI x1), (2, vI x2)] [] g d Q
theorem eX2_countOpen {g : mG} {d : mD} {Q : mQ} (h : pX2_countOpen_1 0 0 g d Q) : MM mX2_countOpen [vR 16] g d Q := by
  refine MM_of (by decide) rfl (by simp [catV]) (Nat.le_of_ble_eq_true rfl) ?_
  show MW mX2_countOpen 0 0 0 [(0, vR 16)] [] g d Q
  refine mw_top (fun hT => ?_)
  have hG : 65 ≤ g.2.1 := hT.2
  refine mw_iconst (pc' := 1) dX2_countOpen_0 rfl ⟨by decide, by decide⟩ ?_
  refine mw_istore_n (pc' := 2) (L' := [(0, vR 16), (1, vI 0)]) dX2_countOpen_1 rfl rfl (by decide) rfl ?_
  refine mw_iconst (pc' := 3) dX2_countOpen_2 rfl ⟨by decide, by decide⟩ ?_
  refine mw_istore_n (pc' := 4) (L' := [(0, vR 16), (1, vI 0), (2, vI 0)]) dX2_countOpen_3 rfl rfl (by decide) rfl ?_
  exact h
theorem aX2_countOpen_1 {x1 x2 : Int} {g : mG} {d : mD} {Q : mQ} (h : ((d 16 11 ≤ x2) → Q (.inl x1) g d) ∧ ((¬ (d 16 11 ≤ x2)) → (0 ≤ x2 ∧ x2 < 30) ∧ ((iI (x1 + (bI (d 27 x2 = 111)))) ∧ ((iI (x2 + 1)) ∧ (pX2_countOpen_1 (x1 + (bI (d 27 x2 = 111))) (x2 + 1) g d Q))))) : pX2_countOpen_1 x1 x2 g d Q := by
  unfold pX2_countOpen_1
  refine mw_top (fun hT => ?_)
  have hG : 65 ≤ g.2.1 := hT.2
  refine mw_iload_n (pc' := 5) dX2_countOpen_4 rfl rfl rfl ?_
  refine mw_aload_n (v := vR 16) (pc' := 6) dX2_countOpen_5 rfl rfl (Or.inl rfl) rfl ?_
  refine mw_getI (ji := 11) (pc' := 9) dX2_countOpen_6 rfl fi_RX2_53_16 rfl ⟨by decide, by decide⟩ ?_
  refine mw_icmp_ge (tgt := 34) (pc' := 12) dX2_countOpen_9 rfl (by decide) (fun c3 => ?_) (fun c3 => ?_)
  · replace h := h.1 c3
    refine mw_iload_n (pc' := 35) dX2_countOpen_34 rfl rfl rfl ?_
    exact mw_iret (pc' := 0) (S := []) dX2_countOpen_35 rfl (Or.inl rfl) h
  · replace h := h.2 c3
    refine mw_iload_n (pc' := 13) dX2_countOpen_12 rfl rfl rfl ?_
    refine mw_aload_n (v := vR 16) (pc' := 14) dX2_countOpen_13 rfl rfl (Or.inl rfl) rfl ?_
    refine mw_iload_n (pc' := 15) dX2_countOpen_14 rfl rfl rfl ?_
    obtain ⟨o4, h⟩ := h
    refine mw_callV (M' := mX2_isOpen) (A := [vI x2]) (A' := [vR 16, vI x2]) (S := [vI x1]) (a := 16) (pc' := 18) dX2_countOpen_15 rfl cl_RX2_57 cm_X2_isOpen cv_X2_isOpen ⟨by decide, by decide, by decide, by decide, by decide⟩ rfl rfl rfl ⟨by decide, by omega⟩ (by decide +kernel) (by decide +kernel) (Nat.le_of_ble_eq_true rfl) (eX2_isOpen (⟨o4, ?_⟩))
    show MW mX2_countOpen 0 0 18 [(0, vR 16), (1, vI x1), (2, vI x2)] [vI (bI (d 27 x2 = 111)), vI x1] g d Q
    suffices k5 : MW mX2_countOpen 0 0 26 [(0, vR 16), (1, vI x1), (2, vI x2)] [vI (bI (d 27 x2 = 111)), vI x1] g d Q by
      refine mw_if_eq (tgt := 25) (pc' := 21) dX2_countOpen_18 rfl (by decide) (fun c6 => ?_) (fun c6 => ?_)
      · replace c6 := bI_0.mp c6
        refine mw_iconst (pc' := 26) dX2_countOpen_25 rfl ⟨by decide, by decide⟩ ?_
        exact mw_st (bI_f (fun h => (c6 h))).symm k5
      · replace c6 := bI_n0.mp c6
        refine mw_iconst (pc' := 22) dX2_countOpen_21 rfl ⟨by decide, by decide⟩ ?_
        refine mw_goto (pc' := 0) (tgt := 26) dX2_countOpen_22 (by decide) ?_
        exact mw_st (bI_t c6).symm k5
    obtain ⟨o7, h⟩ := h
    refine mw_iadd (pc' := 27) dX2_countOpen_26 rfl o7 ?_
    refine mw_istore_n (pc' := 28) (L' := [(0, vR 16), (1, vI (x1 + (bI (d 27 x2 = 111)))), (2, vI x2)]) dX2_countOpen_27 rfl rfl (by decide) rfl ?_
    obtain ⟨o8, h⟩ := h
    refine mw_iinc (pc' := 31) (L' := [(0, vR 16), (1, vI (x1 + (bI (d 27 x2 = 111)))), (2, vI (x2 + 1))]) dX2_countOpen_28 rfl rfl (by decide) o8 rfl ?_
    refine mw_goto (pc' := 0) (tgt := 4) dX2_countOpen_31 (by decide) ?_
    exact h
theorem eX2_grant {x1 x2 : Int} {g : mG} {d : mD} {Q : mQ} (h : (0 ≤ x1 ∧ x1 < 30) ∧ ((0 ≤ d 21 x1 ∧ d 21 x1 < 7) ∧ ((iI ((d 26 x1) + x2)) ∧ (Q (.inl ((d 26 x1) + x2)) g (ud (ud (ud d 22 (x1 * 7 + d 21 x1) x2) 21 x1 ((d 21 x1) + 1)) 26 x1 ((d 26 x1) + x2)))))) : MM mX2_grant [vR 16, vI x1, vI x2] g d Q := by
  refine MM_of (by decide) rfl (by simp [catV]) (Nat.le_of_ble_eq_true rfl) ?_
  show MW mX2_grant 0 0 0 [(0, vR 16), (1, vI x1), (2, vI x2)] [] g d Q
  refine mw_top (fun hT => ?_)
  have hG : 65 ≤ g.2.1 := hT.2
  refine mw_aload_n (v := vR 16) (pc' := 1) dX2_grant_0 rfl rfl (Or.inl rfl) rfl ?_
  refine mw_iload_n (pc' := 2) dX2_grant_1 rfl rfl rfl ?_
  refine mw_iload_n (pc' := 3) dX2_grant_2 rfl rfl rfl ?_
  obtain ⟨o1, h⟩ := h
  obtain ⟨o2, h⟩ := h
  refine mw_callV (M' := mX2_addPart) (A := [vI x1, vI x2]) (A' := [vR 16, vI x1, vI x2]) (S := []) (a := 16) (pc' := 6) dX2_grant_3 rfl cl_RX2_67 cm_X2_addPart cv_X2_addPart ⟨by decide, by decide, by decide, by decide, by decide⟩ rfl rfl rfl ⟨by decide, by omega⟩ (by decide +kernel) (by decide +kernel) (Nat.le_of_ble_eq_true rfl) (f_addPart_d (⟨o1, o2, ?_⟩))
  show MW mX2_grant 0 0 6 [(0, vR 16), (1, vI x1), (2, vI x2)] [] g (ud (ud d 22 (x1 * 7 + d 21 x1) x2) 21 x1 ((d 21 x1) + 1)) Q
  refine mw_aload_n (v := vR 16) (pc' := 7) dX2_grant_6 rfl rfl (Or.inl rfl) rfl ?_
  refine mw_getP (v := 26) (pc' := 10) dX2_grant_7 rfl fr_RX2_40_16 rfl sp_16_9 ⟨by decide, by decide⟩ ?_
  refine mw_iload_n (pc' := 11) dX2_grant_10 rfl rfl rfl ?_
  refine mw_dup2 (pc' := 12) dX2_grant_11 rfl rfl rfl ?_
  refine mw_iald (pc' := 13) dX2_grant_12 rfl lk_26 ⟨by decide, by decide⟩ (by rw [ln_26]; exact o1) ?_
  refine mw_st (b := d 26 x1) (udA (by decide) (udA (by decide) (rfl))) ?_
  refine mw_iload_n (pc' := 14) dX2_grant_13 rfl rfl rfl ?_
  obtain ⟨o4, h⟩ := h
  refine mw_iadd (pc' := 15) dX2_grant_14 rfl o4 ?_
  refine mw_iast (pc' := 16) dX2_grant_15 rfl lk_26 ⟨by decide, by decide⟩ (by rw [ln_26]; exact o1) ?_
  refine mw_aload_n (v := vR 16) (pc' := 17) dX2_grant_16 rfl rfl (Or.inl rfl) rfl ?_
  refine mw_getP (v := 26) (pc' := 20) dX2_grant_17 rfl fr_RX2_40_16 rfl sp_16_9 ⟨by decide, by decide⟩ ?_
  refine mw_iload_n (pc' := 21) dX2_grant_20 rfl rfl rfl ?_
  refine mw_iald (pc' := 22) dX2_grant_21 rfl lk_26 ⟨by decide, by decide⟩ (by rw [ln_26]; exact o1) ?_
  refine mw_st (b := (d 26 x1) + x2) (udS) ?_
  exact mw_iret (pc' := 0) (S := []) dX2_grant_22 rfl (Or.inl rfl) h
def pX2_sumOfParts_1 (x1 x2 x3 : Int) (g : mG) (d : mD) (Q : mQ) : Prop := MW mX2_sumOfParts 0 0 4 [(0, vR 16), (1, vI x1), (2, vI x2), (3, vI x3)] [] g d Q
theorem eX2_sumOfParts {x1 : Int} {g : mG} {d : mD} {Q : mQ} (h : pX2_sumOfParts_1 x1 0 0 g d Q) : MM mX2_sumOfParts [vR 16, vI x1] g d Q := by
  refine MM_of (by decide) rfl (by simp [catV]) (Nat.le_of_ble_eq_true rfl) ?_
  show MW mX2_sumOfParts 0 0 0 [(0, vR 16), (1, vI x1)] [] g d Q
  refine mw_top (fun hT => ?_)
  have hG : 65 ≤ g.2.1 := hT.2
  refine mw_iconst (pc' := 1) dX2_sumOfParts_0 rfl ⟨by decide, by decide⟩ ?_
  refine mw_istore_n (pc' := 2) (L' := [(0, vR 16), (1, vI x1), (2, vI 0)]) dX2_sumOfParts_1 rfl rfl (by decide) rfl ?_
  refine mw_iconst (pc' := 3) dX2_sumOfParts_2 rfl ⟨by decide, by decide⟩ ?_
  refine mw_istore_n (pc' := 4) (L' := [(0, vR 16), (1, vI x1), (2, vI 0), (3, vI 0)]) dX2_sumOfParts_3 rfl rfl (by decide) rfl ?_
  exact h
theorem aX2_sumOfParts_1 {x1 x2 x3 : Int} {g : mG} {d : mD} {Q : mQ} (h : (0 ≤ x1 ∧ x1 < 30) ∧ (((d 21 x1 ≤ x3) → Q (.inl x2) g d) ∧ ((¬ (d 21 x1 ≤ x3)) → (iI (x1 * 7)) ∧ ((iI ((x1 * 7) + x3)) ∧ ((0 ≤ (x1 * 7) + x3 ∧ (x1 * 7) + x3 < 210) ∧ ((iI (x2 + (d 22 ((x1 * 7) + x3)))) ∧ ((iI (x3 + 1)) ∧ (pX2_sumOfParts_1 x1 (x2 + (d 22 ((x1 * 7) + x3))) (x3 + 1) g d Q)))))))) : pX2_sumOfParts_1 x1 x2 x3 g d Q := by
  unfold pX2_sumOfParts_1
  refine mw_top (fun hT => ?_)
  have hG : 65 ≤ g.2.1 := hT.2
  refine mw_iload_n (pc' := 5) dX2_sumOfParts_4 rfl rfl rfl ?_
  refine mw_aload_n (v := vR 16) (pc' := 6) dX2_sumOfParts_5 rfl rfl (Or.inl rfl) rfl ?_
  refine mw_getP (v := 21) (pc' := 9) dX2_sumOfParts_6 rfl fr_RX2_25_16 rfl sp_16_4 ⟨by decide, by decide⟩ ?_
  refine mw_iload_n (pc' := 10) dX2_sumOfParts_9 rfl rfl rfl ?_
  obtain ⟨o1, h⟩ := h
  refine mw_iald (pc' := 11) dX2_sumOfParts_10 rfl lk_21 ⟨by decide, by decide⟩ (by rw [ln_21]; exact o1) ?_
  refine mw_icmp_ge (tgt := 29) (pc' := 14) dX2_sumOfParts_11 rfl (by decide) (fun c10 => ?_) (fun c10 => ?_)
  · replace h := h.1 c10
    refine mw_iload_n (pc' := 30) dX2_sumOfParts_29 rfl rfl rfl ?_
    exact mw_iret (pc' := 0) (S := []) dX2_sumOfParts_30 rfl (Or.inl rfl) h
  · replace h := h.2 c10
    refine mw_iload_n (pc' := 15) dX2_sumOfParts_14 rfl rfl rfl ?_
    refine mw_aload_n (v := vR 16) (pc' := 16) dX2_sumOfParts_15 rfl rfl (Or.inl rfl) rfl ?_
    refine mw_iload_n (pc' := 17) dX2_sumOfParts_16 rfl rfl rfl ?_
    refine mw_iload_n (pc' := 18) dX2_sumOfParts_17 rfl rfl rfl ?_
    obtain ⟨o11, h⟩ := h
    obtain ⟨o12, h⟩ := h
    obtain ⟨o13, h⟩ := h
    refine mw_callV (M' := mX2_lengthOfPart) (A := [vI x1, vI x3]) (A' := [vR 16, vI x1, vI x3]) (S := [vI x2]) (a := 16) (pc' := 21) dX2_sumOfParts_18 rfl cl_RX2_71 cm_X2_lengthOfPart cv_X2_lengthOfPart ⟨by decide, by decide, by decide, by decide, by decide⟩ rfl rfl rfl ⟨by decide, by omega⟩ (by decide +kernel) (by decide +kernel) (Nat.le_of_ble_eq_true rfl) (eX2_lengthOfPart_d (⟨o11, o12, o13, ?_⟩))
    show MW mX2_sumOfParts 0 0 21 [(0, vR 16), (1, vI x1), (2, vI x2), (3, vI x3)] [vI (d 22 ((x1 * 7) + x3)), vI x2] g d Q
    obtain ⟨o14, h⟩ := h
    refine mw_iadd (pc' := 22) dX2_sumOfParts_21 rfl o14 ?_
    refine mw_istore_n (pc' := 23) (L' := [(0, vR 16), (1, vI x1), (2, vI (x2 + (d 22 ((x1 * 7) + x3)))), (3, vI x3)]) dX2_sumOfParts_22 rfl rfl (by decide) rfl ?_
    obtain ⟨o15, h⟩ := h
    refine mw_iinc (pc' := 26) (L' := [(0, vR 16), (1, vI x1), (2, vI (x2 + (d 22 ((x1 * 7) + x3)))), (3, vI (x3 + 1))]) dX2_sumOfParts_23 rfl rfl (by decide) o15 rfl ?_
    refine mw_goto (pc' := 0) (tgt := 4) dX2_sumOfParts_26 (by decide) ?_
    exact h
def pX8_countInForce_1 (x1 x2 : Int) (g : mG) (d : mD) (Q : mQ) : Prop := MW mX8_countInForce 0 0 4 [(0, vR 28), (1, vI x1), (2, vI x2)] [] g d Q
theorem eX8_countInForce {g : mG} {d : mD} {Q : mQ} (h : pX8_countInForce_1 0 0 g d Q) : MM mX8_countInForce [vR 28] g d Q := by
  refine MM_of (by decide) rfl (by simp [catV]) (Nat.le_of_ble_eq_true rfl) ?_
  show MW mX8_countInForce 0 0 0 [(0, vR 28)] [] g d Q
  refine mw_top (fun hT => ?_)
  have hG : 65 ≤ g.2.1 := hT.2
  refine mw_iconst (pc' := 1) dX8_countInForce_0 rfl ⟨by decide, by decide⟩ ?_
  refine mw_istore_n (pc' := 2) (L' := [(0, vR 28), (1, vI 0)]) dX8_countInForce_1 rfl rfl (by decide) rfl ?_
  refine mw_iconst (pc' := 3) dX8_countInForce_2 rfl ⟨by decide, by decide⟩ ?_
  refine mw_istore_n (pc' := 4) (L' := [(0, vR 28), (1, vI 0), (2, vI 0)]) dX8_countInForce_3 rfl rfl (by decide) rfl ?_
  exact h
theorem aX8_countInForce_1 {x1 x2 : Int} {g : mG} {d : mD} {Q : mQ} (h : ((d 28 4 ≤ x2) → Q (.inl x1) g d) ∧ ((¬ (d 28 4 ≤ x2)) → (0 ≤ x2 ∧ x2 < 12) ∧ ((iI (x1 + (bI (d 32 x2 = 4999)))) ∧ ((iI (x2 + 1)) ∧ (pX8_countInForce_1 (x1 + (bI (d 32 x2 = 4999))) (x2 + 1) g d Q))))) : pX8_countInForce_1 x1 x2 g d Q := by
  unfold pX8_countInForce_1
  refine mw_top (fun hT => ?_)
  have hG : 65 ≤ g.2.1 := hT.2
  refine mw_iload_n (pc' := 5) dX8_countInForce_4 rfl rfl rfl ?_
  refine mw_aload_n (v := vR 28) (pc' := 6) dX8_countInForce_5 rfl rfl (Or.inl rfl) rfl ?_
  refine mw_getI (ji := 4) (pc' := 9) dX8_countInForce_6 rfl fi_RX8_30_28 rfl ⟨by decide, by decide⟩ ?_
  refine mw_icmp_ge (tgt := 34) (pc' := 12) dX8_countInForce_9 rfl (by decide) (fun c3 => ?_) (fun c3 => ?_)
  · replace h := h.1 c3
    refine mw_iload_n (pc' := 35) dX8_countInForce_34 rfl rfl rfl ?_
    exact mw_iret (pc' := 0) (S := []) dX8_countInForce_35 rfl (Or.inl rfl) h
  · replace h := h.2 c3
    refine mw_iload_n (pc' := 13) dX8_countInForce_12 rfl rfl rfl ?_
    refine mw_aload_n (v := vR 28) (pc' := 14) dX8_countInForce_13 rfl rfl (Or.inl rfl) rfl ?_
    refine mw_iload_n (pc' := 15) dX8_countInForce_14 rfl rfl rfl ?_
    obtain ⟨o4, h⟩ := h
    refine mw_callV (M' := mX8_isInForce) (A := [vI x2]) (A' := [vR 28, vI x2]) (S := [vI x1]) (a := 28) (pc' := 18) dX8_countInForce_15 rfl cl_RX8_34 cm_X8_isInForce cv_X8_isInForce ⟨by decide, by decide, by decide, by decide, by decide⟩ rfl rfl rfl ⟨by decide, by omega⟩ (by decide +kernel) (by decide +kernel) (Nat.le_of_ble_eq_true rfl) (eX8_isInForce (⟨o4, ?_⟩))
    show MW mX8_countInForce 0 0 18 [(0, vR 28), (1, vI x1), (2, vI x2)] [vI (bI (d 32 x2 = 4999)), vI x1] g d Q
    suffices k5 : MW mX8_countInForce 0 0 26 [(0, vR 28), (1, vI x1), (2, vI x2)] [vI (bI (d 32 x2 = 4999)), vI x1] g d Q by
      refine mw_if_eq (tgt := 25) (pc' := 21) dX8_countInForce_18 rfl (by decide) (fun c6 => ?_) (fun c6 => ?_)
      · replace c6 := bI_0.mp c6
        refine mw_iconst (pc' := 26) dX8_countInForce_25 rfl ⟨by decide, by decide⟩ ?_
        exact mw_st (bI_f (fun h => (c6 h))).symm k5
      · replace c6 := bI_n0.mp c6
        refine mw_iconst (pc' := 22) dX8_countInForce_21 rfl ⟨by decide, by decide⟩ ?_
        refine mw_goto (pc' := 0) (tgt := 26) dX8_countInForce_22 (by decide) ?_
        exact mw_st (bI_t c6).symm k5
    obtain ⟨o7, h⟩ := h
    refine mw_iadd (pc' := 27) dX8_countInForce_26 rfl o7 ?_
    refine mw_istore_n (pc' := 28) (L' := [(0, vR 28), (1, vI (x1 + (bI (d 32 x2 = 4999)))), (2, vI x2)]) dX8_countInForce_27 rfl rfl (by decide) rfl ?_
    obtain ⟨o8, h⟩ := h
    refine mw_iinc (pc' := 31) (L' := [(0, vR 28), (1, vI (x1 + (bI (d 32 x2 = 4999)))), (2, vI (x2 + 1))]) dX8_countInForce_28 rfl rfl (by decide) o8 rfl ?_
    refine mw_goto (pc' := 0) (tgt := 4) dX8_countInForce_31 (by decide) ?_
    exact h
theorem eX1_keepOccurrence {x1 x2 : Int} {g : mG} {d : mD} {Q : mQ} (h : ((d 34 11 < 8) → ((d 34 (11 : Int) < 30) → (0 ≤ d 34 11 ∧ d 34 (11 : Int) < 30) ∧ ((0 ≤ x1 ∧ x1 < 8) ∧ ((0 ≤ d 14 x1 ∧ d 14 x1 ≤ 1) ∧ ((iI ((d 34 11) + 1)) ∧ ((0 ≤ (d 34 11) ∧ (d 34 11) < 30) ∧ ((0 ≤ ((ud (ud (ud (ud (ud d 35 (d 34 11) (-1)) 36 (d 34 11) x1) 37 (d 34 11) x2) 38 (d 34 11) (d 14 x1)) 39 (d 34 11) 0) 39 (d 34 11)) ∧ ((ud (ud (ud (ud (ud d 35 (d 34 11) (-1)) 36 (d 34 11) x1) 37 (d 34 11) x2) 38 (d 34 11) (d 14 x1)) 39 (d 34 11) 0) 39 (d 34 11)) < 7) ∧ ((0 ≤ d 34 11 ∧ d 34 11 < 8) ∧ (Q (.inl (d 34 11)) g (ud (ud (ud (ud (ud (ud (ud (ud (ud (ud (ud (ud (ud (ud (ud d 35 (d 34 11) (-1)) 36 (d 34 11) x1) 37 (d 34 11) x2) 38 (d 34 11) (d 14 x1)) 39 (d 34 11) 0) 41 (d 34 11) 0) 42 (d 34 11) 0) 43 (d 34 11) 0) 44 (d 34 11) 0) 45 (d 34 11) 111) 34 11 ((d 34 11) + 1)) 40 ((d 34 11) * 7 + ((ud (ud (ud (ud (ud d 35 (d 34 11) (-1)) 36 (d 34 11) x1) 37 (d 34 11) x2) 38 (d 34 11) (d 14 x1)) 39 (d 34 11) 0) 39 (d 34 11))) (d 13 x1)) 39 (d 34 11) ((((ud (ud (ud (ud (ud d 35 (d 34 11) (-1)) 36 (d 34 11) x1) 37 (d 34 11) x2) 38 (d 34 11) (d 14 x1)) 39 (d 34 11) 0) 39 (d 34 11))) + 1)) 46 (d 34 11) 0) 47 (d 34 11) (d 34 11)))))))))) ∧ ((¬ (d 34 (11 : Int) < 30)) → (0 ≤ (-3) ∧ (-3) < 8) ∧ (Q (.inl (-3)) g (ud (ud d 46 (-3) 0) 47 (-3) (-3))))) ∧ ((¬ (d 34 11 < 8)) → Q (.inl (-3)) g d)) : MM mX1_keepOccurrence [vR 33, vI x1, vI x2, vR 12] g d Q := by
  refine MM_of (by decide) rfl (by simp [catV]) (Nat.le_of_ble_eq_true rfl) ?_
  show MW mX1_keepOccurrence 0 0 0 [(0, vR 33), (1, vI x1), (2, vI x2), (3, vR 12)] [] g d Q
  refine mw_top (fun hT => ?_)
  have hG : 65 ≤ g.2.1 := hT.2
  refine mw_aload_n (v := vR 33) (pc' := 1) dX1_keepOccurrence_0 rfl rfl (Or.inl rfl) rfl ?_
  refine mw_getP (v := 34) (pc' := 4) dX1_keepOccurrence_1 rfl fr_RX1_12_33 rfl sp_33_0 ⟨by decide, by decide⟩ ?_
  refine mw_getI (ji := 11) (pc' := 7) dX1_keepOccurrence_4 rfl fi_RX1_51_34 rfl ⟨by decide, by decide⟩ ?_
  refine mw_bipush (pc' := 9) dX1_keepOccurrence_7 rfl ⟨by decide, by decide⟩ ?_
  refine mw_icmp_lt (tgt := 15) (pc' := 12) dX1_keepOccurrence_9 rfl (by decide) (fun c1 => ?_) (fun c1 => ?_)
  · replace h := h.1 c1
    refine mw_aload_n (v := vR 33) (pc' := 16) dX1_keepOccurrence_15 rfl rfl (Or.inl rfl) rfl ?_
    refine mw_getP (v := 34) (pc' := 19) dX1_keepOccurrence_16 rfl fr_RX1_12_33 rfl sp_33_0 ⟨by decide, by decide⟩ ?_
    refine mw_iconst (pc' := 20) dX1_keepOccurrence_19 rfl ⟨by decide, by decide⟩ ?_
    refine mw_iload_n (pc' := 21) dX1_keepOccurrence_20 rfl rfl rfl ?_
    refine mw_iload_n (pc' := 22) dX1_keepOccurrence_21 rfl rfl rfl ?_
    refine mw_aload_n (v := vR 12) (pc' := 23) dX1_keepOccurrence_22 rfl rfl (Or.inl rfl) rfl ?_
    refine mw_callV (M' := mX2_add) (A := [vI (-1), vI x1, vI x2, vR 12]) (A' := [vR 34, vI (-1), vI x1, vI x2, vR 12]) (S := []) (a := 34) (pc' := 26) dX1_keepOccurrence_23 rfl cl_RX1_52 cm_X2_add cv_X2_add ⟨by decide, by decide, by decide, by decide, by decide⟩ rfl rfl rfl ⟨by decide, by omega⟩ (by decide +kernel) (by decide +kernel) (Nat.le_of_ble_eq_true rfl) (eX2_add_p ?_)
    refine ⟨fun c2 => ?_, fun c2 => ?_⟩
    · replace h := h.1 (show d 34 (11 : Int) < 30 from c2)
      obtain ⟨o3, h⟩ := h
      refine ⟨o3, ?_⟩
      obtain ⟨o4, h⟩ := h
      refine ⟨o4, ?_⟩
      obtain ⟨o5, h⟩ := h
      refine ⟨o5, ?_⟩
      obtain ⟨o6, h⟩ := h
      refine ⟨o6, ?_⟩
      obtain ⟨o7, h⟩ := h
      refine ⟨o7, ?_⟩
      obtain ⟨o8, h⟩ := h
      refine ⟨o8, ?_⟩
      show MW mX1_keepOccurrence 0 0 26 [(0, vR 33), (1, vI x1), (2, vI x2), (3, vR 12)] [vI (d 34 11)] g (ud (ud (ud (ud (ud (ud (ud (ud (ud (ud (ud (ud (ud d 35 (d 34 11) (-1)) 36 (d 34 11) x1) 37 (d 34 11) x2) 38 (d 34 11) (d 14 x1)) 39 (d 34 11) 0) 41 (d 34 11) 0) 42 (d 34 11) 0) 43 (d 34 11) 0) 44 (d 34 11) 0) 45 (d 34 11) 111) 34 11 ((d 34 11) + 1)) 40 ((d 34 11) * 7 + ((ud (ud (ud (ud (ud d 35 (d 34 11) (-1)) 36 (d 34 11) x1) 37 (d 34 11) x2) 38 (d 34 11) (d 14 x1)) 39 (d 34 11) 0) 39 (d 34 11))) (d 13 x1)) 39 (d 34 11) ((((ud (ud (ud (ud (ud d 35 (d 34 11) (-1)) 36 (d 34 11) x1) 37 (d 34 11) x2) 38 (d 34 11) (d 14 x1)) 39 (d 34 11) 0) 39 (d 34 11))) + 1)) Q
      refine mw_istore (pc' := 28) (L' := [(0, vR 33), (1, vI x1), (2, vI x2), (3, vR 12), (4, vI (d 34 11))]) dX1_keepOccurrence_26 rfl (by decide) rfl ?_
      refine mw_aload_n (v := vR 33) (pc' := 29) dX1_keepOccurrence_28 rfl rfl (Or.inl rfl) rfl ?_
      refine mw_getP (v := 46) (pc' := 32) dX1_keepOccurrence_29 rfl fr_RX1_18_33 rfl sp_33_1 ⟨by decide, by decide⟩ ?_
      refine mw_iload (pc' := 34) dX1_keepOccurrence_32 rfl rfl ?_
      refine mw_iconst (pc' := 35) dX1_keepOccurrence_34 rfl ⟨by decide, by decide⟩ ?_
      obtain ⟨o9, h⟩ := h
      refine mw_iast (pc' := 36) dX1_keepOccurrence_35 rfl lk_46 ⟨by decide, by decide⟩ (by rw [ln_46]; exact o9) ?_
      refine mw_aload_n (v := vR 33) (pc' := 37) dX1_keepOccurrence_36 rfl rfl (Or.inl rfl) rfl ?_
      refine mw_getP (v := 47) (pc' := 40) dX1_keepOccurrence_37 rfl fr_RX1_22_33 rfl sp_33_2 ⟨by decide, by decide⟩ ?_
      refine mw_iload (pc' := 42) dX1_keepOccurrence_40 rfl rfl ?_
      refine mw_iload (pc' := 44) dX1_keepOccurrence_42 rfl rfl ?_
      refine mw_iast (pc' := 45) dX1_keepOccurrence_44 rfl lk_47 ⟨by decide, by decide⟩ (by rw [ln_47]; exact o9) ?_
      refine mw_iload (pc' := 47) dX1_keepOccurrence_45 rfl rfl ?_
      exact mw_iret (pc' := 0) (S := []) dX1_keepOccurrence_47 rfl (Or.inl rfl) h
    · replace h := h.2 (show ¬ (d 34 (11 : Int) < 30) from c2)
      show MW mX1_keepOccurrence 0 0 26 [(0, vR 33), (1, vI x1), (2, vI x2), (3, vR 12)] [vI (-3)] g d Q
      refine mw_istore (pc' := 28) (L' := [(0, vR 33), (1, vI x1), (2, vI x2), (3, vR 12), (4, vI (-3))]) dX1_keepOccurrence_26 rfl (by decide) rfl ?_
      refine mw_aload_n (v := vR 33) (pc' := 29) dX1_keepOccurrence_28 rfl rfl (Or.inl rfl) rfl ?_
      refine mw_getP (v := 46) (pc' := 32) dX1_keepOccurrence_29 rfl fr_RX1_18_33 rfl sp_33_1 ⟨by decide, by decide⟩ ?_
      refine mw_iload (pc' := 34) dX1_keepOccurrence_32 rfl rfl ?_
      refine mw_iconst (pc' := 35) dX1_keepOccurrence_34 rfl ⟨by decide, by decide⟩ ?_
      obtain ⟨o11, h⟩ := h
      refine mw_iast (pc' := 36) dX1_keepOccurrence_35 rfl lk_46 ⟨by decide, by decide⟩ (by rw [ln_46]; exact o11) ?_
      refine mw_aload_n (v := vR 33) (pc' := 37) dX1_keepOccurrence_36 rfl rfl (Or.inl rfl) rfl ?_
      refine mw_getP (v := 47) (pc' := 40) dX1_keepOccurrence_37 rfl fr_RX1_22_33 rfl sp_33_2 ⟨by decide, by decide⟩ ?_
      refine mw_iload (pc' := 42) dX1_keepOccurrence_40 rfl rfl ?_
      refine mw_iload (pc' := 44) dX1_keepOccurrence_42 rfl rfl ?_
      refine mw_iast (pc' := 45) dX1_keepOccurrence_44 rfl lk_47 ⟨by decide, by decide⟩ (by rw [ln_47]; exact o11) ?_
      refine mw_iload (pc' := 47) dX1_keepOccurrence_45 rfl rfl ?_
      exact mw_iret (pc' := 0) (S := []) dX1_keepOccurrence_47 rfl (Or.inl rfl) h
  · replace h := h.2 c1
    refine mw_bipush (pc' := 14) dX1_keepOccurrence_12 rfl ⟨by decide, by decide⟩ ?_
    exact mw_iret (pc' := 0) (S := []) dX1_keepOccurrence_14 rfl (Or.inl rfl) h
def pX1_link_1 (x1 x2 x3 x4 x5 : Int) (g : mG) (d : mD) (Q : mQ) : Prop := MW mX1_link 0 0 60 [(0, vR 33), (1, vI x1), (2, vI x2), (3, vI x3), (4, vI x4), (5, vI x5)] [] g d Q
theorem eX1_link {x1 x2 : Int} {g : mG} {d : mD} {Q : mQ} (h : (0 ≤ x1 ∧ x1 < 8) ∧ ((0 ≤ x2 ∧ x2 < 31) ∧ ((iI ((1 : Int) * 2 ^ (x2).toNat)) ∧ ((0 ≤ d 46 x1) ∧ ((0 ≤ (1 : Int) * 2 ^ (x2).toNat) ∧ ((0 ≤ x2 ∧ x2 < 8) ∧ ((0 ≤ x1 ∧ x1 < 31) ∧ ((iI ((1 : Int) * 2 ^ (x1).toNat)) ∧ ((0 ≤ (ud d 46 x1 (nOr (d 46 x1) ((1 : Int) * 2 ^ (x2).toNat))) 46 x2) ∧ ((0 ≤ (1 : Int) * 2 ^ (x1).toNat) ∧ (pX1_link_1 x1 x2 (min (d 47 x1) (d 47 x2)) (max (d 47 x1) (d 47 x2)) 0 g (ud (ud d 46 x1 (nOr (d 46 x1) ((1 : Int) * 2 ^ (x2).toNat))) 46 x2 (nOr ((ud d 46 x1 (nOr (d 46 x1) ((1 : Int) * 2 ^ (x2).toNat))) 46 x2) ((1 : Int) * 2 ^ (x1).toNat))) Q))))))))))) : MM mX1_link [vR 33, vI x1, vI x2] g d Q := by
  refine MM_of (by decide) rfl (by simp [catV]) (Nat.le_of_ble_eq_true rfl) ?_
  show MW mX1_link 0 0 0 [(0, vR 33), (1, vI x1), (2, vI x2)] [] g d Q
  refine mw_top (fun hT => ?_)
  have hG : 65 ≤ g.2.1 := hT.2
  refine mw_aload_n (v := vR 33) (pc' := 1) dX1_link_0 rfl rfl (Or.inl rfl) rfl ?_
  refine mw_getP (v := 46) (pc' := 4) dX1_link_1 rfl fr_RX1_18_33 rfl sp_33_1 ⟨by decide, by decide⟩ ?_
  refine mw_iload_n (pc' := 5) dX1_link_4 rfl rfl rfl ?_
  refine mw_dup2 (pc' := 6) dX1_link_5 rfl rfl rfl ?_
  obtain ⟨o1, h⟩ := h
  refine mw_iald (pc' := 7) dX1_link_6 rfl lk_46 ⟨by decide, by decide⟩ (by rw [ln_46]; exact o1) ?_
  refine mw_iconst (pc' := 8) dX1_link_7 rfl ⟨by decide, by decide⟩ ?_
  refine mw_iload_n (pc' := 9) dX1_link_8 rfl rfl rfl ?_
  obtain ⟨o2, h⟩ := h
  obtain ⟨o3, h⟩ := h
  refine mw_ishl (pc' := 10) dX1_link_9 rfl (by decide) o2 o3 ?_
  obtain ⟨o4, h⟩ := h
  obtain ⟨o5, h⟩ := h
  refine mw_ior (pc' := 11) dX1_link_10 rfl o4 o5 ?_
  refine mw_iast (pc' := 12) dX1_link_11 rfl lk_46 ⟨by decide, by decide⟩ (by rw [ln_46]; exact o1) ?_
  refine mw_aload_n (v := vR 33) (pc' := 13) dX1_link_12 rfl rfl (Or.inl rfl) rfl ?_
  refine mw_getP (v := 46) (pc' := 16) dX1_link_13 rfl fr_RX1_18_33 rfl sp_33_1 ⟨by decide, by decide⟩ ?_
  refine mw_iload_n (pc' := 17) dX1_link_16 rfl rfl rfl ?_
  refine mw_dup2 (pc' := 18) dX1_link_17 rfl rfl rfl ?_
  obtain ⟨o7, h⟩ := h
  refine mw_iald (pc' := 19) dX1_link_18 rfl lk_46 ⟨by decide, by decide⟩ (by rw [ln_46]; exact o7) ?_
  refine mw_iconst (pc' := 20) dX1_link_19 rfl ⟨by decide, by decide⟩ ?_
  refine mw_iload_n (pc' := 21) dX1_link_20 rfl rfl rfl ?_
  obtain ⟨o8, h⟩ := h
  obtain ⟨o9, h⟩ := h
  refine mw_ishl (pc' := 22) dX1_link_21 rfl (by decide) o8 o9 ?_
  obtain ⟨o10, h⟩ := h
  obtain ⟨o11, h⟩ := h
  refine mw_ior (pc' := 23) dX1_link_22 rfl o10 o11 ?_
  refine mw_iast (pc' := 24) dX1_link_23 rfl lk_46 ⟨by decide, by decide⟩ (by rw [ln_46]; exact o7) ?_
  refine mw_aload_n (v := vR 33) (pc' := 25) dX1_link_24 rfl rfl (Or.inl rfl) rfl ?_
  refine mw_getP (v := 47) (pc' := 28) dX1_link_25 rfl fr_RX1_22_33 rfl sp_33_2 ⟨by decide, by decide⟩ ?_
  refine mw_iload_n (pc' := 29) dX1_link_28 rfl rfl rfl ?_
  refine mw_iald (pc' := 30) dX1_link_29 rfl lk_47 ⟨by decide, by decide⟩ (by rw [ln_47]; exact o1) ?_
  refine mw_st (b := d 47 x1) (udA (by decide) (udA (by decide) (rfl))) ?_
  refine mw_aload_n (v := vR 33) (pc' := 31) dX1_link_30 rfl rfl (Or.inl rfl) rfl ?_
  refine mw_getP (v := 47) (pc' := 34) dX1_link_31 rfl fr_RX1_22_33 rfl sp_33_2 ⟨by decide, by decide⟩ ?_
  refine mw_iload_n (pc' := 35) dX1_link_34 rfl rfl rfl ?_
  refine mw_iald (pc' := 36) dX1_link_35 rfl lk_47 ⟨by decide, by decide⟩ (by rw [ln_47]; exact o7) ?_
  refine mw_st (b := d 47 x2) (udA (by decide) (udA (by decide) (rfl))) ?_
  refine mw_min (pc' := 39) dX1_link_36 rfl bw_969 bw_447 bw_24 bw_448 (by decide) (by decide) (Nat.le_of_ble_eq_true rfl) ?_
  refine mw_istore_n (pc' := 40) (L' := [(0, vR 33), (1, vI x1), (2, vI x2), (3, vI (min (d 47 x1) (d 47 x2)))]) dX1_link_39 rfl rfl (by decide) rfl ?_
  refine mw_aload_n (v := vR 33) (pc' := 41) dX1_link_40 rfl rfl (Or.inl rfl) rfl ?_
  refine mw_getP (v := 47) (pc' := 44) dX1_link_41 rfl fr_RX1_22_33 rfl sp_33_2 ⟨by decide, by decide⟩ ?_
  refine mw_iload_n (pc' := 45) dX1_link_44 rfl rfl rfl ?_
  refine mw_iald (pc' := 46) dX1_link_45 rfl lk_47 ⟨by decide, by decide⟩ (by rw [ln_47]; exact o1) ?_
  refine mw_st (b := d 47 x1) (udA (by decide) (udA (by decide) (rfl))) ?_
  refine mw_aload_n (v := vR 33) (pc' := 47) dX1_link_46 rfl rfl (Or.inl rfl) rfl ?_
  refine mw_getP (v := 47) (pc' := 50) dX1_link_47 rfl fr_RX1_22_33 rfl sp_33_2 ⟨by decide, by decide⟩ ?_
  refine mw_iload_n (pc' := 51) dX1_link_50 rfl rfl rfl ?_
  refine mw_iald (pc' := 52) dX1_link_51 rfl lk_47 ⟨by decide, by decide⟩ (by rw [ln_47]; exact o7) ?_
  refine mw_st (b := d 47 x2) (udA (by decide) (udA (by decide) (rfl))) ?_
  refine mw_max (pc' := 55) dX1_link_52 rfl bw_970 bw_416 bw_24 bw_417 (by decide) (by decide) (Nat.le_of_ble_eq_true rfl) ?_
  refine mw_istore (pc' := 57) (L' := [(0, vR 33), (1, vI x1), (2, vI x2), (3, vI (min (d 47 x1) (d 47 x2))), (4, vI (max (d 47 x1) (d 47 x2)))]) dX1_link_55 rfl (by decide) rfl ?_
  refine mw_iconst (pc' := 58) dX1_link_57 rfl ⟨by decide, by decide⟩ ?_
  refine mw_istore (pc' := 60) (L' := [(0, vR 33), (1, vI x1), (2, vI x2), (3, vI (min (d 47 x1) (d 47 x2))), (4, vI (max (d 47 x1) (d 47 x2))), (5, vI 0)]) dX1_link_58 rfl (by decide) rfl ?_
  exact h
theorem aX1_link_1 {x1 x2 x3 x4 x5 : Int} {g : mG} {d : mD} {Q : mQ} (h : ((d 34 11 ≤ x5) → Q (.inl 0) g d) ∧ ((¬ (d 34 11 ≤ x5)) → (0 ≤ x5 ∧ x5 < 8) ∧ (((d 47 x5 = x4) → (iI (x5 + 1)) ∧ (pX1_link_1 x1 x2 x3 x4 (x5 + 1) g (ud d 47 x5 x3) Q)) ∧ ((¬ (d 47 x5 = x4)) → (iI (x5 + 1)) ∧ (pX1_link_1 x1 x2 x3 x4 (x5 + 1) g d Q))))) : pX1_link_1 x1 x2 x3 x4 x5 g d Q := by
  unfold pX1_link_1
  refine mw_top (fun hT => ?_)
  have hG : 65 ≤ g.2.1 := hT.2
  refine mw_iload (pc' := 62) dX1_link_60 rfl rfl ?_
  refine mw_aload_n (v := vR 33) (pc' := 63) dX1_link_62 rfl rfl (Or.inl rfl) rfl ?_
  refine mw_getP (v := 34) (pc' := 66) dX1_link_63 rfl fr_RX1_12_33 rfl sp_33_0 ⟨by decide, by decide⟩ ?_
  refine mw_getI (ji := 11) (pc' := 69) dX1_link_66 rfl fi_RX1_51_34 rfl ⟨by decide, by decide⟩ ?_
  refine mw_icmp_ge (tgt := 98) (pc' := 72) dX1_link_69 rfl (by decide) (fun c19 => ?_) (fun c19 => ?_)
  · replace h := h.1 c19
    exact mw_vret (pc' := 0) (S := []) dX1_link_98 rfl h
  · replace h := h.2 c19
    refine mw_aload_n (v := vR 33) (pc' := 73) dX1_link_72 rfl rfl (Or.inl rfl) rfl ?_
    refine mw_getP (v := 47) (pc' := 76) dX1_link_73 rfl fr_RX1_22_33 rfl sp_33_2 ⟨by decide, by decide⟩ ?_
    refine mw_iload (pc' := 78) dX1_link_76 rfl rfl ?_
    obtain ⟨o20, h⟩ := h
    refine mw_iald (pc' := 79) dX1_link_78 rfl lk_47 ⟨by decide, by decide⟩ (by rw [ln_47]; exact o20) ?_
    refine mw_iload (pc' := 81) dX1_link_79 rfl rfl ?_
    refine mw_icmp_ne (tgt := 92) (pc' := 84) dX1_link_81 rfl (by decide) (fun c21 => ?_) (fun c21 => ?_)
    · replace h := h.2 c21
      obtain ⟨o24, h⟩ := h
      refine mw_iinc (pc' := 95) (L' := [(0, vR 33), (1, vI x1), (2, vI x2), (3, vI x3), (4, vI x4), (5, vI (x5 + 1))]) dX1_link_92 rfl rfl (by decide) o24 rfl ?_
      refine mw_goto (pc' := 0) (tgt := 60) dX1_link_95 (by decide) ?_
      exact h
    · replace h := h.1 c21
      refine mw_aload_n (v := vR 33) (pc' := 85) dX1_link_84 rfl rfl (Or.inl rfl) rfl ?_
      refine mw_getP (v := 47) (pc' := 88) dX1_link_85 rfl fr_RX1_22_33 rfl sp_33_2 ⟨by decide, by decide⟩ ?_
      refine mw_iload (pc' := 90) dX1_link_88 rfl rfl ?_
      refine mw_iload_n (pc' := 91) dX1_link_90 rfl rfl rfl ?_
      refine mw_iast (pc' := 92) dX1_link_91 rfl lk_47 ⟨by decide, by decide⟩ (by rw [ln_47]; exact o20) ?_
      obtain ⟨o23, h⟩ := h
      refine mw_iinc (pc' := 95) (L' := [(0, vR 33), (1, vI x1), (2, vI x2), (3, vI x3), (4, vI x4), (5, vI (x5 + 1))]) dX1_link_92 rfl rfl (by decide) o23 rfl ?_
      refine mw_goto (pc' := 0) (tgt := 60) dX1_link_95 (by decide) ?_
      exact h
def pX1_countGroups_1 (x1 x2 : Int) (g : mG) (d : mD) (Q : mQ) : Prop := MW mX1_countGroups 0 0 4 [(0, vR 33), (1, vI x1), (2, vI x2)] [] g d Q
theorem eX1_countGroups {g : mG} {d : mD} {Q : mQ} (h : pX1_countGroups_1 0 0 g d Q) : MM mX1_countGroups [vR 33] g d Q := by
  refine MM_of (by decide) rfl (by simp [catV]) (Nat.le_of_ble_eq_true rfl) ?_
  show MW mX1_countGroups 0 0 0 [(0, vR 33)] [] g d Q
  refine mw_top (fun hT => ?_)
  have hG : 65 ≤ g.2.1 := hT.2
  refine mw_iconst (pc' := 1) dX1_countGroups_0 rfl ⟨by decide, by decide⟩ ?_
  refine mw_istore_n (pc' := 2) (L' := [(0, vR 33), (1, vI 0)]) dX1_countGroups_1 rfl rfl (by decide) rfl ?_
  refine mw_iconst (pc' := 3) dX1_countGroups_2 rfl ⟨by decide, by decide⟩ ?_
  refine mw_istore_n (pc' := 4) (L' := [(0, vR 33), (1, vI 0), (2, vI 0)]) dX1_countGroups_3 rfl rfl (by decide) rfl ?_
  exact h
theorem aX1_countGroups_1 {x1 x2 : Int} {g : mG} {d : mD} {Q : mQ} (h : ((d 34 11 ≤ x2) → Q (.inl x1) g d) ∧ ((¬ (d 34 11 ≤ x2)) → (0 ≤ x2 ∧ x2 < 8) ∧ ((iI (x1 + (bI (d 47 x2 = x2)))) ∧ ((iI (x2 + 1)) ∧ (pX1_countGroups_1 (x1 + (bI (d 47 x2 = x2))) (x2 + 1) g d Q))))) : pX1_countGroups_1 x1 x2 g d Q := by
  unfold pX1_countGroups_1
  refine mw_top (fun hT => ?_)
  have hG : 65 ≤ g.2.1 := hT.2
  refine mw_iload_n (pc' := 5) dX1_countGroups_4 rfl rfl rfl ?_
  refine mw_aload_n (v := vR 33) (pc' := 6) dX1_countGroups_5 rfl rfl (Or.inl rfl) rfl ?_
  refine mw_getP (v := 34) (pc' := 9) dX1_countGroups_6 rfl fr_RX1_12_33 rfl sp_33_0 ⟨by decide, by decide⟩ ?_
  refine mw_getI (ji := 11) (pc' := 12) dX1_countGroups_9 rfl fi_RX1_51_34 rfl ⟨by decide, by decide⟩ ?_
  refine mw_icmp_ge (tgt := 39) (pc' := 15) dX1_countGroups_12 rfl (by decide) (fun c3 => ?_) (fun c3 => ?_)
  · replace h := h.1 c3
    refine mw_iload_n (pc' := 40) dX1_countGroups_39 rfl rfl rfl ?_
    exact mw_iret (pc' := 0) (S := []) dX1_countGroups_40 rfl (Or.inl rfl) h
  · replace h := h.2 c3
    refine mw_iload_n (pc' := 16) dX1_countGroups_15 rfl rfl rfl ?_
    refine mw_aload_n (v := vR 33) (pc' := 17) dX1_countGroups_16 rfl rfl (Or.inl rfl) rfl ?_
    refine mw_getP (v := 47) (pc' := 20) dX1_countGroups_17 rfl fr_RX1_22_33 rfl sp_33_2 ⟨by decide, by decide⟩ ?_
    refine mw_iload_n (pc' := 21) dX1_countGroups_20 rfl rfl rfl ?_
    obtain ⟨o4, h⟩ := h
    refine mw_iald (pc' := 22) dX1_countGroups_21 rfl lk_47 ⟨by decide, by decide⟩ (by rw [ln_47]; exact o4) ?_
    refine mw_iload_n (pc' := 23) dX1_countGroups_22 rfl rfl rfl ?_
    suffices k5 : MW mX1_countGroups 0 0 31 [(0, vR 33), (1, vI x1), (2, vI x2)] [vI (bI (d 47 x2 = x2)), vI x1] g d Q by
      refine mw_icmp_ne (tgt := 30) (pc' := 26) dX1_countGroups_23 rfl (by decide) (fun c6 => ?_) (fun c6 => ?_)
      · refine mw_iconst (pc' := 31) dX1_countGroups_30 rfl ⟨by decide, by decide⟩ ?_
        exact mw_st (bI_f (fun h => (c6 h))).symm k5
      · refine mw_iconst (pc' := 27) dX1_countGroups_26 rfl ⟨by decide, by decide⟩ ?_
        refine mw_goto (pc' := 0) (tgt := 31) dX1_countGroups_27 (by decide) ?_
        exact mw_st (bI_t c6).symm k5
    obtain ⟨o7, h⟩ := h
    refine mw_iadd (pc' := 32) dX1_countGroups_31 rfl o7 ?_
    refine mw_istore_n (pc' := 33) (L' := [(0, vR 33), (1, vI (x1 + (bI (d 47 x2 = x2)))), (2, vI x2)]) dX1_countGroups_32 rfl rfl (by decide) rfl ?_
    obtain ⟨o8, h⟩ := h
    refine mw_iinc (pc' := 36) (L' := [(0, vR 33), (1, vI (x1 + (bI (d 47 x2 = x2)))), (2, vI (x2 + 1))]) dX1_countGroups_33 rfl rfl (by decide) o8 rfl ?_
    refine mw_goto (pc' := 0) (tgt := 4) dX1_countGroups_36 (by decide) ?_
    exact h
def pX9_readName_1 (x2 x3 : Int) (g : mG) (d : mD) (Q : mQ) : Prop := MW mX9_readName 0 0 4 [(0, vR 1), (1, vR 5), (2, vI x2), (3, vI x3)] [] g d Q
theorem eX9_readName {g : mG} {d : mD} {Q : mQ} (h : pX9_readName_1 0 0 g d Q) : MM mX9_readName [vR 1, vR 5] g d Q := by
  refine MM_of (by decide) rfl (by simp [catV]) (Nat.le_of_ble_eq_true rfl) ?_
  show MW mX9_readName 0 0 0 [(0, vR 1), (1, vR 5)] [] g d Q
  refine mw_top (fun hT => ?_)
  have hG : 65 ≤ g.2.1 := hT.2
  refine mw_iconst (pc' := 1) dX9_readName_0 rfl ⟨by decide, by decide⟩ ?_
  refine mw_istore_n (pc' := 2) (L' := [(0, vR 1), (1, vR 5), (2, vI 0)]) dX9_readName_1 rfl rfl (by decide) rfl ?_
  refine mw_iconst (pc' := 3) dX9_readName_2 rfl ⟨by decide, by decide⟩ ?_
  refine mw_istore_n (pc' := 4) (L' := [(0, vR 1), (1, vR 5), (2, vI 0), (3, vI 0)]) dX9_readName_3 rfl rfl (by decide) rfl ?_
  exact h
theorem aX9_readName_1 {x2 x3 : Int} {g : mG} {d : mD} {Q : mQ} (h : ((d 1 1 ≤ x3) → Q (.inl x2) g d) ∧ ((¬ (d 1 1 ≤ x3)) → (0 ≤ x3 ∧ x3 < 60) ∧ ((((¬ ((d 2 x3) < 55296)) ∧ (¬ (56319 < (d 2 x3)))) → iI (x3 + 1)) ∧ ((((¬ ((d 2 x3) < 55296)) ∧ (¬ (56319 < (d 2 x3)))) → (¬ ((x3 + 1) < 0)) → (¬ (d 1 1 ≤ (x3 + 1))) → 0 ≤ (x3 + 1) ∧ (x3 + 1) < 60) ∧ ((((¬ ((d 2 x3) < 55296)) ∧ (¬ (56319 < (d 2 x3)))) → 0 ≤ iT ((x3 + 1) < 0) 0 (iT (d 1 1 ≤ (x3 + 1)) 0 (d 2 (x3 + 1))) ∧ iT ((x3 + 1) < 0) 0 (iT (d 1 1 ≤ (x3 + 1)) 0 (d 2 (x3 + 1))) ≤ 65535) ∧ ((((8 ≤ x2) ∨ ((¬ (((¬ ((d 2 x3) < 55296)) ∧ (¬ (56319 < (d 2 x3)))) ∧ ((¬ ((iT ((x3 + 1) < 0) 0 (iT (d 1 1 ≤ (x3 + 1)) 0 (d 2 (x3 + 1)))) < 56320)) ∧ (¬ (57343 < (iT ((x3 + 1) < 0) 0 (iT (d 1 1 ≤ (x3 + 1)) 0 (d 2 (x3 + 1))))))))) ∧ (((¬ ((d 2 x3) < 55296)) ∧ (¬ (56319 < (d 2 x3)))) ∨ ((¬ ((d 2 x3) < 56320)) ∧ (¬ (57343 < (d 2 x3))))))) → Q (.inl 0) g d) ∧ ((¬ ((8 ≤ x2) ∨ ((¬ (((¬ ((d 2 x3) < 55296)) ∧ (¬ (56319 < (d 2 x3)))) ∧ ((¬ ((iT ((x3 + 1) < 0) 0 (iT (d 1 1 ≤ (x3 + 1)) 0 (d 2 (x3 + 1)))) < 56320)) ∧ (¬ (57343 < (iT ((x3 + 1) < 0) 0 (iT (d 1 1 ≤ (x3 + 1)) 0 (d 2 (x3 + 1))))))))) ∧ (((¬ ((d 2 x3) < 55296)) ∧ (¬ (56319 < (d 2 x3)))) ∨ ((¬ ((d 2 x3) < 56320)) ∧ (¬ (57343 < (d 2 x3)))))))) → ((((¬ ((d 2 x3) < 55296)) ∧ (¬ (56319 < (d 2 x3)))) ∧ ((¬ ((iT ((x3 + 1) < 0) 0 (iT (d 1 1 ≤ (x3 + 1)) 0 (d 2 (x3 + 1)))) < 56320)) ∧ (¬ (57343 < (iT ((x3 + 1) < 0) 0 (iT (d 1 1 ≤ (x3 + 1)) 0 (d 2 (x3 + 1)))))))) → iI (x3 + 1)) ∧ (((((¬ ((d 2 x3) < 55296)) ∧ (¬ (56319 < (d 2 x3)))) ∧ ((¬ ((iT ((x3 + 1) < 0) 0 (iT (d 1 1 ≤ (x3 + 1)) 0 (d 2 (x3 + 1)))) < 56320)) ∧ (¬ (57343 < (iT ((x3 + 1) < 0) 0 (iT (d 1 1 ≤ (x3 + 1)) 0 (d 2 (x3 + 1)))))))) → (¬ ((x3 + 1) < 0)) → (¬ (d 1 1 ≤ (x3 + 1))) → 0 ≤ (x3 + 1) ∧ (x3 + 1) < 60) ∧ (((((¬ ((d 2 x3) < 55296)) ∧ (¬ (56319 < (d 2 x3)))) ∧ ((¬ ((iT ((x3 + 1) < 0) 0 (iT (d 1 1 ≤ (x3 + 1)) 0 (d 2 (x3 + 1)))) < 56320)) ∧ (¬ (57343 < (iT ((x3 + 1) < 0) 0 (iT (d 1 1 ≤ (x3 + 1)) 0 (d 2 (x3 + 1)))))))) → 0 ≤ iT ((x3 + 1) < 0) 0 (iT (d 1 1 ≤ (x3 + 1)) 0 (d 2 (x3 + 1))) ∧ iT ((x3 + 1) < 0) 0 (iT (d 1 1 ≤ (x3 + 1)) 0 (d 2 (x3 + 1))) ≤ 65535) ∧ (((((¬ ((d 2 x3) < 55296)) ∧ (¬ (56319 < (d 2 x3)))) ∧ ((¬ ((iT ((x3 + 1) < 0) 0 (iT (d 1 1 ≤ (x3 + 1)) 0 (d 2 (x3 + 1)))) < 56320)) ∧ (¬ (57343 < (iT ((x3 + 1) < 0) 0 (iT (d 1 1 ≤ (x3 + 1)) 0 (d 2 (x3 + 1)))))))) → iI ((d 2 x3) - 55296)) ∧ (((((¬ ((d 2 x3) < 55296)) ∧ (¬ (56319 < (d 2 x3)))) ∧ ((¬ ((iT ((x3 + 1) < 0) 0 (iT (d 1 1 ≤ (x3 + 1)) 0 (d 2 (x3 + 1)))) < 56320)) ∧ (¬ (57343 < (iT ((x3 + 1) < 0) 0 (iT (d 1 1 ≤ (x3 + 1)) 0 (d 2 (x3 + 1)))))))) → 0 ≤ (d 2 x3) - 55296) ∧ (((((¬ ((d 2 x3) < 55296)) ∧ (¬ (56319 < (d 2 x3)))) ∧ ((¬ ((iT ((x3 + 1) < 0) 0 (iT (d 1 1 ≤ (x3 + 1)) 0 (d 2 (x3 + 1)))) < 56320)) ∧ (¬ (57343 < (iT ((x3 + 1) < 0) 0 (iT (d 1 1 ≤ (x3 + 1)) 0 (d 2 (x3 + 1)))))))) → iI (((d 2 x3) - 55296) * 2 ^ (10 : Int).toNat)) ∧ (((((¬ ((d 2 x3) < 55296)) ∧ (¬ (56319 < (d 2 x3)))) ∧ ((¬ ((iT ((x3 + 1) < 0) 0 (iT (d 1 1 ≤ (x3 + 1)) 0 (d 2 (x3 + 1)))) < 56320)) ∧ (¬ (57343 < (iT ((x3 + 1) < 0) 0 (iT (d 1 1 ≤ (x3 + 1)) 0 (d 2 (x3 + 1)))))))) → iI (65536 + (((d 2 x3) - 55296) * 2 ^ (10 : Int).toNat))) ∧ (((((¬ ((d 2 x3) < 55296)) ∧ (¬ (56319 < (d 2 x3)))) ∧ ((¬ ((iT ((x3 + 1) < 0) 0 (iT (d 1 1 ≤ (x3 + 1)) 0 (d 2 (x3 + 1)))) < 56320)) ∧ (¬ (57343 < (iT ((x3 + 1) < 0) 0 (iT (d 1 1 ≤ (x3 + 1)) 0 (d 2 (x3 + 1)))))))) → iI ((iT ((x3 + 1) < 0) 0 (iT (d 1 1 ≤ (x3 + 1)) 0 (d 2 (x3 + 1)))) - 56320)) ∧ (((((¬ ((d 2 x3) < 55296)) ∧ (¬ (56319 < (d 2 x3)))) ∧ ((¬ ((iT ((x3 + 1) < 0) 0 (iT (d 1 1 ≤ (x3 + 1)) 0 (d 2 (x3 + 1)))) < 56320)) ∧ (¬ (57343 < (iT ((x3 + 1) < 0) 0 (iT (d 1 1 ≤ (x3 + 1)) 0 (d 2 (x3 + 1)))))))) → iI ((65536 + (((d 2 x3) - 55296) * 2 ^ (10 : Int).toNat)) + ((iT ((x3 + 1) < 0) 0 (iT (d 1 1 ≤ (x3 + 1)) 0 (d 2 (x3 + 1)))) - 56320))) ∧ ((0 ≤ x2 ∧ x2 < 8) ∧ ((iI (x2 + 1)) ∧ ((iI (x3 + (iT (((¬ ((d 2 x3) < 55296)) ∧ (¬ (56319 < (d 2 x3)))) ∧ ((¬ ((iT ((x3 + 1) < 0) 0 (iT (d 1 1 ≤ (x3 + 1)) 0 (d 2 (x3 + 1)))) < 56320)) ∧ (¬ (57343 < (iT ((x3 + 1) < 0) 0 (iT (d 1 1 ≤ (x3 + 1)) 0 (d 2 (x3 + 1)))))))) 2 1))) ∧ (pX9_readName_1 (x2 + 1) (x3 + (iT (((¬ ((d 2 x3) < 55296)) ∧ (¬ (56319 < (d 2 x3)))) ∧ ((¬ ((iT ((x3 + 1) < 0) 0 (iT (d 1 1 ≤ (x3 + 1)) 0 (d 2 (x3 + 1)))) < 56320)) ∧ (¬ (57343 < (iT ((x3 + 1) < 0) 0 (iT (d 1 1 ≤ (x3 + 1)) 0 (d 2 (x3 + 1)))))))) 2 1)) g (ud d 5 x2 (iT (((¬ ((d 2 x3) < 55296)) ∧ (¬ (56319 < (d 2 x3)))) ∧ ((¬ ((iT ((x3 + 1) < 0) 0 (iT (d 1 1 ≤ (x3 + 1)) 0 (d 2 (x3 + 1)))) < 56320)) ∧ (¬ (57343 < (iT ((x3 + 1) < 0) 0 (iT (d 1 1 ≤ (x3 + 1)) 0 (d 2 (x3 + 1)))))))) ((65536 + (((d 2 x3) - 55296) * 2 ^ (10 : Int).toNat)) + ((iT ((x3 + 1) < 0) 0 (iT (d 1 1 ≤ (x3 + 1)) 0 (d 2 (x3 + 1)))) - 56320)) (d 2 x3))) Q))))))))))))))))))) : pX9_readName_1 x2 x3 g d Q := by
  unfold pX9_readName_1
  refine mw_top (fun hT => ?_)
  have hG : 65 ≤ g.2.1 := hT.2
  refine mw_iload_n (pc' := 5) dX9_readName_4 rfl rfl rfl ?_
  refine mw_aload_n (v := vR 1) (pc' := 6) dX9_readName_5 rfl rfl (Or.inl rfl) rfl ?_
  refine mw_getI (ji := 1) (pc' := 9) dX9_readName_6 rfl fi_RX9_15_1 rfl ⟨by decide, by decide⟩ ?_
  refine mw_icmp_ge (tgt := 121) (pc' := 12) dX9_readName_9 rfl (by decide) (fun c3 => ?_) (fun c3 => ?_)
  · replace h := h.1 c3
    refine mw_iload_n (pc' := 122) dX9_readName_121 rfl rfl rfl ?_
    exact mw_iret (pc' := 0) (S := []) dX9_readName_122 rfl (Or.inl rfl) h
  · replace h := h.2 c3
    refine mw_aload_n (v := vR 1) (pc' := 13) dX9_readName_12 rfl rfl (Or.inl rfl) rfl ?_
    refine mw_getP (v := 2) (pc' := 16) dX9_readName_13 rfl fr_RX9_9_1 rfl sp_1_0 ⟨by decide, by decide⟩ ?_
    refine mw_iload_n (pc' := 17) dX9_readName_16 rfl rfl rfl ?_
    obtain ⟨o4, h⟩ := h
    refine mw_cald (pc' := 18) dX9_readName_17 rfl lk_2 ⟨by decide, by decide⟩ (by rw [ln_2]; exact o4) ?_
    refine mw_istore (pc' := 20) (L' := [(0, vR 1), (1, vR 5), (2, vI x2), (3, vI x3), (4, vI (d 2 x3))]) dX9_readName_18 rfl (by decide) rfl ?_
    refine mw_iload (pc' := 22) dX9_readName_20 rfl rfl ?_
    refine mw_callS (M' := mX9_isHigh) (A := [vI (d 2 x3)]) (S := []) (pc' := 25) dX9_readName_22 rfl cl_RX9_26 cm_X9_isHigh cs_X9_isHigh ⟨by decide, by decide, by decide, by decide, by decide⟩ rfl rfl (Nat.le_of_ble_eq_true rfl) (eX9_isHigh ?_)
    show MW mX9_readName 0 0 25 [(0, vR 1), (1, vR 5), (2, vI x2), (3, vI x3), (4, vI (d 2 x3))] [vI (bI ((¬ ((d 2 x3) < 55296)) ∧ (¬ (56319 < (d 2 x3)))))] g d Q
    obtain ⟨o5, h⟩ := h
    obtain ⟨o6, h⟩ := h
    obtain ⟨o7, h⟩ := h
    suffices k8 : MW mX9_readName 0 0 46 [(0, vR 1), (1, vR 5), (2, vI x2), (3, vI x3), (4, vI (d 2 x3))] [vI (bI (((¬ ((d 2 x3) < 55296)) ∧ (¬ (56319 < (d 2 x3)))) ∧ ((¬ ((iT ((x3 + 1) < 0) 0 (iT (d 1 1 ≤ (x3 + 1)) 0 (d 2 (x3 + 1)))) < 56320)) ∧ (¬ (57343 < (iT ((x3 + 1) < 0) 0 (iT (d 1 1 ≤ (x3 + 1)) 0 (d 2 (x3 + 1)))))))))] g d Q by
      refine mw_if_eq (tgt := 45) (pc' := 28) dX9_readName_25 rfl (by decide) (fun c9 => ?_) (fun c9 => ?_)
      · replace c9 := bI_0.mp c9
        refine mw_iconst (pc' := 46) dX9_readName_45 rfl ⟨by decide, by decide⟩ ?_
        exact mw_st (bI_f (fun h => (c9 h.1))).symm k8
      · replace c9 := bI_n0.mp c9
        refine mw_aload_n (v := vR 1) (pc' := 29) dX9_readName_28 rfl rfl (Or.inl rfl) rfl ?_
        refine mw_iload_n (pc' := 30) dX9_readName_29 rfl rfl rfl ?_
        refine mw_iconst (pc' := 31) dX9_readName_30 rfl ⟨by decide, by decide⟩ ?_
        refine mw_iadd (pc' := 32) dX9_readName_31 rfl (o5 c9) ?_
        refine mw_callV (M' := mX9_signAt) (A := [vI (x3 + 1)]) (A' := [vR 1, vI (x3 + 1)]) (S := []) (a := 1) (pc' := 35) dX9_readName_32 rfl cl_RX9_30 cm_X9_signAt cv_X9_signAt ⟨by decide, by decide, by decide, by decide, by decide⟩ rfl rfl rfl ⟨by decide, by omega⟩ (by decide +kernel) (by decide +kernel) (Nat.le_of_ble_eq_true rfl) (eX9_signAt_b (⟨(o6 c9), (o7 c9), ?_⟩))
        show MW mX9_readName 0 0 35 [(0, vR 1), (1, vR 5), (2, vI x2), (3, vI x3), (4, vI (d 2 x3))] [vI (iT ((x3 + 1) < 0) 0 (iT (d 1 1 ≤ (x3 + 1)) 0 (d 2 (x3 + 1))))] g d Q
        refine mw_callS (M' := mX9_isLow) (A := [vI (iT ((x3 + 1) < 0) 0 (iT (d 1 1 ≤ (x3 + 1)) 0 (d 2 (x3 + 1))))]) (S := []) (pc' := 38) dX9_readName_35 rfl cl_RX9_34 cm_X9_isLow cs_X9_isLow ⟨by decide, by decide, by decide, by decide, by decide⟩ rfl rfl (Nat.le_of_ble_eq_true rfl) (eX9_isLow ?_)
        show MW mX9_readName 0 0 38 [(0, vR 1), (1, vR 5), (2, vI x2), (3, vI x3), (4, vI (d 2 x3))] [vI (bI ((¬ ((iT ((x3 + 1) < 0) 0 (iT (d 1 1 ≤ (x3 + 1)) 0 (d 2 (x3 + 1)))) < 56320)) ∧ (¬ (57343 < (iT ((x3 + 1) < 0) 0 (iT (d 1 1 ≤ (x3 + 1)) 0 (d 2 (x3 + 1))))))))] g d Q
        refine mw_if_eq (tgt := 45) (pc' := 41) dX9_readName_38 rfl (by decide) (fun c10 => ?_) (fun c10 => ?_)
        · replace c10 := bI_0.mp c10
          refine mw_iconst (pc' := 46) dX9_readName_45 rfl ⟨by decide, by decide⟩ ?_
          exact mw_st (bI_f (fun h => (fun h => (c10 h)) h.2)).symm k8
        · replace c10 := bI_n0.mp c10
          refine mw_iconst (pc' := 42) dX9_readName_41 rfl ⟨by decide, by decide⟩ ?_
          refine mw_goto (pc' := 0) (tgt := 46) dX9_readName_42 (by decide) ?_
          exact mw_st (bI_t ⟨c9, c10⟩).symm k8
    refine mw_istore (pc' := 48) (L' := [(0, vR 1), (1, vR 5), (2, vI x2), (3, vI x3), (4, vI (d 2 x3)), (5, vI (bI (((¬ ((d 2 x3) < 55296)) ∧ (¬ (56319 < (d 2 x3)))) ∧ ((¬ ((iT ((x3 + 1) < 0) 0 (iT (d 1 1 ≤ (x3 + 1)) 0 (d 2 (x3 + 1)))) < 56320)) ∧ (¬ (57343 < (iT ((x3 + 1) < 0) 0 (iT (d 1 1 ≤ (x3 + 1)) 0 (d 2 (x3 + 1))))))))))]) dX9_readName_46 rfl (by decide) rfl ?_
    refine mw_iload_n (pc' := 49) dX9_readName_48 rfl rfl rfl ?_
    refine mw_aload_n (v := vR 5) (pc' := 50) dX9_readName_49 rfl rfl (Or.inl rfl) rfl ?_
    refine mw_alenN (n := 8) (pc' := 51) dX9_readName_50 rfl (by rw [lk_5]; exact ⟨by decide, by decide⟩) ⟨by decide, by decide⟩ ln_5 ⟨by decide, by decide⟩ ?_
    suffices k11 : (((8 ≤ x2) ∨ ((¬ (((¬ ((d 2 x3) < 55296)) ∧ (¬ (56319 < (d 2 x3)))) ∧ ((¬ ((iT ((x3 + 1) < 0) 0 (iT (d 1 1 ≤ (x3 + 1)) 0 (d 2 (x3 + 1)))) < 56320)) ∧ (¬ (57343 < (iT ((x3 + 1) < 0) 0 (iT (d 1 1 ≤ (x3 + 1)) 0 (d 2 (x3 + 1))))))))) ∧ (((¬ ((d 2 x3) < 55296)) ∧ (¬ (56319 < (d 2 x3)))) ∨ ((¬ ((d 2 x3) < 56320)) ∧ (¬ (57343 < (d 2 x3))))))) → MW mX9_readName 0 0 75 [(0, vR 1), (1, vR 5), (2, vI x2), (3, vI x3), (4, vI (d 2 x3)), (5, vI (bI (((¬ ((d 2 x3) < 55296)) ∧ (¬ (56319 < (d 2 x3)))) ∧ ((¬ ((iT ((x3 + 1) < 0) 0 (iT (d 1 1 ≤ (x3 + 1)) 0 (d 2 (x3 + 1)))) < 56320)) ∧ (¬ (57343 < (iT ((x3 + 1) < 0) 0 (iT (d 1 1 ≤ (x3 + 1)) 0 (d 2 (x3 + 1))))))))))] [] g d Q) ∧ ((¬ ((8 ≤ x2) ∨ ((¬ (((¬ ((d 2 x3) < 55296)) ∧ (¬ (56319 < (d 2 x3)))) ∧ ((¬ ((iT ((x3 + 1) < 0) 0 (iT (d 1 1 ≤ (x3 + 1)) 0 (d 2 (x3 + 1)))) < 56320)) ∧ (¬ (57343 < (iT ((x3 + 1) < 0) 0 (iT (d 1 1 ≤ (x3 + 1)) 0 (d 2 (x3 + 1))))))))) ∧ (((¬ ((d 2 x3) < 55296)) ∧ (¬ (56319 < (d 2 x3)))) ∨ ((¬ ((d 2 x3) < 56320)) ∧ (¬ (57343 < (d 2 x3)))))))) → MW mX9_readName 0 0 77 [(0, vR 1), (1, vR 5), (2, vI x2), (3, vI x3), (4, vI (d 2 x3)), (5, vI (bI (((¬ ((d 2 x3) < 55296)) ∧ (¬ (56319 < (d 2 x3)))) ∧ ((¬ ((iT ((x3 + 1) < 0) 0 (iT (d 1 1 ≤ (x3 + 1)) 0 (d 2 (x3 + 1)))) < 56320)) ∧ (¬ (57343 < (iT ((x3 + 1) < 0) 0 (iT (d 1 1 ≤ (x3 + 1)) 0 (d 2 (x3 + 1))))))))))] [] g d Q) by
      refine mw_icmp_ge (tgt := 75) (pc' := 54) dX9_readName_51 rfl (by decide) (fun c12 => ?_) (fun c12 => ?_)
      · exact k11.1 (Or.inl c12)
      · refine mw_iload (pc' := 56) dX9_readName_54 rfl rfl ?_
        refine mw_if_ne (tgt := 77) (pc' := 59) dX9_readName_56 rfl (by decide) (fun c13 => ?_) (fun c13 => ?_)
        · replace c13 := bI_n0.mp c13
          exact k11.2 (fun h => h.elim (fun q => (c12 q)) (fun h => (h.1 c13)))
        · replace c13 := bI_0.mp c13
          refine mw_iload (pc' := 61) dX9_readName_59 rfl rfl ?_
          refine mw_callS (M' := mX9_isHigh) (A := [vI (d 2 x3)]) (S := []) (pc' := 64) dX9_readName_61 rfl cl_RX9_26 cm_X9_isHigh cs_X9_isHigh ⟨by decide, by decide, by decide, by decide, by decide⟩ rfl rfl (Nat.le_of_ble_eq_true rfl) (eX9_isHigh ?_)
          show MW mX9_readName 0 0 64 [(0, vR 1), (1, vR 5), (2, vI x2), (3, vI x3), (4, vI (d 2 x3)), (5, vI (bI (((¬ ((d 2 x3) < 55296)) ∧ (¬ (56319 < (d 2 x3)))) ∧ ((¬ ((iT ((x3 + 1) < 0) 0 (iT (d 1 1 ≤ (x3 + 1)) 0 (d 2 (x3 + 1)))) < 56320)) ∧ (¬ (57343 < (iT ((x3 + 1) < 0) 0 (iT (d 1 1 ≤ (x3 + 1)) 0 (d 2 (x3 + 1))))))))))] [vI (bI ((¬ ((d 2 x3) < 55296)) ∧ (¬ (56319 < (d 2 x3)))))] g d Q
          refine mw_if_ne (tgt := 75) (pc' := 67) dX9_readName_64 rfl (by decide) (fun c14 => ?_) (fun c14 => ?_)
          · replace c14 := bI_n0.mp c14
            exact k11.1 (Or.inr ⟨c13, (Or.inl c14)⟩)
          · replace c14 := bI_0.mp c14
            refine mw_iload (pc' := 69) dX9_readName_67 rfl rfl ?_
            refine mw_callS (M' := mX9_isLow) (A := [vI (d 2 x3)]) (S := []) (pc' := 72) dX9_readName_69 rfl cl_RX9_34 cm_X9_isLow cs_X9_isLow ⟨by decide, by decide, by decide, by decide, by decide⟩ rfl rfl (Nat.le_of_ble_eq_true rfl) (eX9_isLow ?_)
            show MW mX9_readName 0 0 72 [(0, vR 1), (1, vR 5), (2, vI x2), (3, vI x3), (4, vI (d 2 x3)), (5, vI (bI (((¬ ((d 2 x3) < 55296)) ∧ (¬ (56319 < (d 2 x3)))) ∧ ((¬ ((iT ((x3 + 1) < 0) 0 (iT (d 1 1 ≤ (x3 + 1)) 0 (d 2 (x3 + 1)))) < 56320)) ∧ (¬ (57343 < (iT ((x3 + 1) < 0) 0 (iT (d 1 1 ≤ (x3 + 1)) 0 (d 2 (x3 + 1))))))))))] [vI (bI ((¬ ((d 2 x3) < 56320)) ∧ (¬ (57343 < (d 2 x3)))))] g d Q
            refine mw_if_eq (tgt := 77) (pc' := 75) dX9_readName_72 rfl (by decide) (fun c15 => ?_) (fun c15 => ?_)
            · replace c15 := bI_0.mp c15
              exact k11.2 (fun h => h.elim (fun q => (c12 q)) (fun h => (fun h => h.elim (fun q => (c14 q)) (fun h => (c15 h))) h.2))
            · replace c15 := bI_n0.mp c15
              exact k11.1 (Or.inr ⟨c13, (Or.inr c15)⟩)
    refine ⟨fun c16 => ?_, fun c16 => ?_⟩
    · replace h := h.1 c16
      refine mw_iconst (pc' := 76) dX9_readName_75 rfl ⟨by decide, by decide⟩ ?_
      exact mw_iret (pc' := 0) (S := []) dX9_readName_76 rfl (Or.inl rfl) h
    · replace h := h.2 c16
      refine mw_aload_n (v := vR 5) (pc' := 78) dX9_readName_77 rfl rfl (Or.inl rfl) rfl ?_
      refine mw_iload_n (pc' := 79) dX9_readName_78 rfl rfl rfl ?_
      refine mw_iload (pc' := 81) dX9_readName_79 rfl rfl ?_
      obtain ⟨o17, h⟩ := h
      obtain ⟨o18, h⟩ := h
      obtain ⟨o19, h⟩ := h
      obtain ⟨o20, h⟩ := h
      obtain ⟨o21, h⟩ := h
      obtain ⟨o22, h⟩ := h
      obtain ⟨o23, h⟩ := h
      obtain ⟨o24, h⟩ := h
      obtain ⟨o25, h⟩ := h
      suffices k26 : MW mX9_readName 0 0 101 [(0, vR 1), (1, vR 5), (2, vI x2), (3, vI x3), (4, vI (d 2 x3)), (5, vI (bI (((¬ ((d 2 x3) < 55296)) ∧ (¬ (56319 < (d 2 x3)))) ∧ ((¬ ((iT ((x3 + 1) < 0) 0 (iT (d 1 1 ≤ (x3 + 1)) 0 (d 2 (x3 + 1)))) < 56320)) ∧ (¬ (57343 < (iT ((x3 + 1) < 0) 0 (iT (d 1 1 ≤ (x3 + 1)) 0 (d 2 (x3 + 1))))))))))] [vI (iT (((¬ ((d 2 x3) < 55296)) ∧ (¬ (56319 < (d 2 x3)))) ∧ ((¬ ((iT ((x3 + 1) < 0) 0 (iT (d 1 1 ≤ (x3 + 1)) 0 (d 2 (x3 + 1)))) < 56320)) ∧ (¬ (57343 < (iT ((x3 + 1) < 0) 0 (iT (d 1 1 ≤ (x3 + 1)) 0 (d 2 (x3 + 1)))))))) ((65536 + (((d 2 x3) - 55296) * 2 ^ (10 : Int).toNat)) + ((iT ((x3 + 1) < 0) 0 (iT (d 1 1 ≤ (x3 + 1)) 0 (d 2 (x3 + 1)))) - 56320)) (d 2 x3)), vI x2, vR 5] g d Q by
        refine mw_if_eq (tgt := 99) (pc' := 84) dX9_readName_81 rfl (by decide) (fun c27 => ?_) (fun c27 => ?_)
        · replace c27 := bI_0.mp c27
          refine mw_iload (pc' := 101) dX9_readName_99 rfl rfl ?_
          exact mw_st (((iT_f c27).trans rfl)).symm k26
        · replace c27 := bI_n0.mp c27
          refine mw_iload (pc' := 86) dX9_readName_84 rfl rfl ?_
          refine mw_aload_n (v := vR 1) (pc' := 87) dX9_readName_86 rfl rfl (Or.inl rfl) rfl ?_
          refine mw_iload_n (pc' := 88) dX9_readName_87 rfl rfl rfl ?_
          refine mw_iconst (pc' := 89) dX9_readName_88 rfl ⟨by decide, by decide⟩ ?_
          refine mw_iadd (pc' := 90) dX9_readName_89 rfl (o17 c27) ?_
          refine mw_callV (M' := mX9_signAt) (A := [vI (x3 + 1)]) (A' := [vR 1, vI (x3 + 1)]) (S := [vI (d 2 x3), vI x2, vR 5]) (a := 1) (pc' := 93) dX9_readName_90 rfl cl_RX9_30 cm_X9_signAt cv_X9_signAt ⟨by decide, by decide, by decide, by decide, by decide⟩ rfl rfl rfl ⟨by decide, by omega⟩ (by decide +kernel) (by decide +kernel) (Nat.le_of_ble_eq_true rfl) (eX9_signAt_b (⟨(o18 c27), (o19 c27), ?_⟩))
          show MW mX9_readName 0 0 93 [(0, vR 1), (1, vR 5), (2, vI x2), (3, vI x3), (4, vI (d 2 x3)), (5, vI (bI (((¬ ((d 2 x3) < 55296)) ∧ (¬ (56319 < (d 2 x3)))) ∧ ((¬ ((iT ((x3 + 1) < 0) 0 (iT (d 1 1 ≤ (x3 + 1)) 0 (d 2 (x3 + 1)))) < 56320)) ∧ (¬ (57343 < (iT ((x3 + 1) < 0) 0 (iT (d 1 1 ≤ (x3 + 1)) 0 (d 2 (x3 + 1))))))))))] [vI (iT ((x3 + 1) < 0) 0 (iT (d 1 1 ≤ (x3 + 1)) 0 (d 2 (x3 + 1)))), vI (d 2 x3), vI x2, vR 5] g d Q
          refine mw_callS (M' := mX9_joinPair) (A := [vI (d 2 x3), vI (iT ((x3 + 1) < 0) 0 (iT (d 1 1 ≤ (x3 + 1)) 0 (d 2 (x3 + 1))))]) (S := [vI x2, vR 5]) (pc' := 96) dX9_readName_93 rfl cl_RX9_37 cm_X9_joinPair cs_X9_joinPair ⟨by decide, by decide, by decide, by decide, by decide⟩ rfl rfl (Nat.le_of_ble_eq_true rfl) (eX9_joinPair (⟨(o20 c27), (o21 c27), (o22 c27), (o23 c27), (o24 c27), (o25 c27), ?_⟩))
          show MW mX9_readName 0 0 96 [(0, vR 1), (1, vR 5), (2, vI x2), (3, vI x3), (4, vI (d 2 x3)), (5, vI (bI (((¬ ((d 2 x3) < 55296)) ∧ (¬ (56319 < (d 2 x3)))) ∧ ((¬ ((iT ((x3 + 1) < 0) 0 (iT (d 1 1 ≤ (x3 + 1)) 0 (d 2 (x3 + 1)))) < 56320)) ∧ (¬ (57343 < (iT ((x3 + 1) < 0) 0 (iT (d 1 1 ≤ (x3 + 1)) 0 (d 2 (x3 + 1))))))))))] [vI ((65536 + (((d 2 x3) - 55296) * 2 ^ (10 : Int).toNat)) + ((iT ((x3 + 1) < 0) 0 (iT (d 1 1 ≤ (x3 + 1)) 0 (d 2 (x3 + 1)))) - 56320)), vI x2, vR 5] g d Q
          refine mw_goto (pc' := 0) (tgt := 101) dX9_readName_96 (by decide) ?_
          exact mw_st (((iT_t c27).trans rfl)).symm k26
      obtain ⟨o28, h⟩ := h
      refine mw_iast (pc' := 102) dX9_readName_101 rfl lk_5 ⟨by decide, by decide⟩ (by rw [ln_5]; exact o28) ?_
      obtain ⟨o29, h⟩ := h
      refine mw_iinc (pc' := 105) (L' := [(0, vR 1), (1, vR 5), (2, vI (x2 + 1)), (3, vI x3), (4, vI (d 2 x3)), (5, vI (bI (((¬ ((d 2 x3) < 55296)) ∧ (¬ (56319 < (d 2 x3)))) ∧ ((¬ ((iT ((x3 + 1) < 0) 0 (iT (d 1 1 ≤ (x3 + 1)) 0 (d 2 (x3 + 1)))) < 56320)) ∧ (¬ (57343 < (iT ((x3 + 1) < 0) 0 (iT (d 1 1 ≤ (x3 + 1)) 0 (d 2 (x3 + 1))))))))))]) dX9_readName_102 rfl rfl (by decide) o29 rfl ?_
      refine mw_iload_n (pc' := 106) dX9_readName_105 rfl rfl rfl ?_
      refine mw_iload (pc' := 108) dX9_readName_106 rfl rfl ?_
      suffices k30 : MW mX9_readName 0 0 116 [(0, vR 1), (1, vR 5), (2, vI (x2 + 1)), (3, vI x3), (4, vI (d 2 x3)), (5, vI (bI (((¬ ((d 2 x3) < 55296)) ∧ (¬ (56319 < (d 2 x3)))) ∧ ((¬ ((iT ((x3 + 1) < 0) 0 (iT (d 1 1 ≤ (x3 + 1)) 0 (d 2 (x3 + 1)))) < 56320)) ∧ (¬ (57343 < (iT ((x3 + 1) < 0) 0 (iT (d 1 1 ≤ (x3 + 1)) 0 (d 2 (x3 + 1))))))))))] [vI (iT (((¬ ((d 2 x3) < 55296)) ∧ (¬ (56319 < (d 2 x3)))) ∧ ((¬ ((iT ((x3 + 1) < 0) 0 (iT (d 1 1 ≤ (x3 + 1)) 0 (d 2 (x3 + 1)))) < 56320)) ∧ (¬ (57343 < (iT ((x3 + 1) < 0) 0 (iT (d 1 1 ≤ (x3 + 1)) 0 (d 2 (x3 + 1)))))))) 2 1), vI x3] g (ud d 5 x2 (iT (((¬ ((d 2 x3) < 55296)) ∧ (¬ (56319 < (d 2 x3)))) ∧ ((¬ ((iT ((x3 + 1) < 0) 0 (iT (d 1 1 ≤ (x3 + 1)) 0 (d 2 (x3 + 1)))) < 56320)) ∧ (¬ (57343 < (iT ((x3 + 1) < 0) 0 (iT (d 1 1 ≤ (x3 + 1)) 0 (d 2 (x3 + 1)))))))) ((65536 + (((d 2 x3) - 55296) * 2 ^ (10 : Int).toNat)) + ((iT ((x3 + 1) < 0) 0 (iT (d 1 1 ≤ (x3 + 1)) 0 (d 2 (x3 + 1)))) - 56320)) (d 2 x3))) Q by
        refine mw_if_eq (tgt := 115) (pc' := 111) dX9_readName_108 rfl (by decide) (fun c31 => ?_) (fun c31 => ?_)
        · replace c31 := bI_0.mp c31
          refine mw_iconst (pc' := 116) dX9_readName_115 rfl ⟨by decide, by decide⟩ ?_
          exact mw_st (((iT_f c31).trans rfl)).symm k30
        · replace c31 := bI_n0.mp c31
          refine mw_iconst (pc' := 112) dX9_readName_111 rfl ⟨by decide, by decide⟩ ?_
          refine mw_goto (pc' := 0) (tgt := 116) dX9_readName_112 (by decide) ?_
          exact mw_st (((iT_t c31).trans rfl)).symm k30
      obtain ⟨o32, h⟩ := h
      refine mw_iadd (pc' := 117) dX9_readName_116 rfl o32 ?_
      refine mw_istore_n (pc' := 118) (L' := [(0, vR 1), (1, vR 5), (2, vI (x2 + 1)), (3, vI (x3 + (iT (((¬ ((d 2 x3) < 55296)) ∧ (¬ (56319 < (d 2 x3)))) ∧ ((¬ ((iT ((x3 + 1) < 0) 0 (iT (d 1 1 ≤ (x3 + 1)) 0 (d 2 (x3 + 1)))) < 56320)) ∧ (¬ (57343 < (iT ((x3 + 1) < 0) 0 (iT (d 1 1 ≤ (x3 + 1)) 0 (d 2 (x3 + 1)))))))) 2 1))), (4, vI (d 2 x3)), (5, vI (bI (((¬ ((d 2 x3) < 55296)) ∧ (¬ (56319 < (d 2 x3)))) ∧ ((¬ ((iT ((x3 + 1) < 0) 0 (iT (d 1 1 ≤ (x3 + 1)) 0 (d 2 (x3 + 1)))) < 56320)) ∧ (¬ (57343 < (iT ((x3 + 1) < 0) 0 (iT (d 1 1 ≤ (x3 + 1)) 0 (d 2 (x3 + 1))))))))))]) dX9_readName_117 rfl rfl (by decide) rfl ?_
      refine mw_goto (pc' := 0) (tgt := 4) dX9_readName_118 (by decide) ?_
      exact mw_loc (pc' := 0) [0, 1, 2, 3] rfl h
def pX10_takeStays_d_1 (x2 x3 : Int) (g : mG) (d : mD) (Q : mQ) : Prop := MW mX10_takeStays 0 0 7 [(0, vR 53), (1, vR 16), (2, vI x2), (3, vI x3)] [] g d Q
theorem eX10_takeStays_d {x2 : Int} {g : mG} {d : mD} {Q : mQ} (h : pX10_takeStays_d_1 x2 0 g (ud d 53 4 0) Q) : MM mX10_takeStays [vR 53, vR 16, vI x2] g d Q := by
  refine MM_of (by decide) rfl (by simp [catV]) (Nat.le_of_ble_eq_true rfl) ?_
  show MW mX10_takeStays 0 0 0 [(0, vR 53), (1, vR 16), (2, vI x2)] [] g d Q
  refine mw_top (fun hT => ?_)
  have hG : 65 ≤ g.2.1 := hT.2
  refine mw_aload_n (v := vR 53) (pc' := 1) dX10_takeStays_0 rfl rfl (Or.inl rfl) rfl ?_
  refine mw_iconst (pc' := 2) dX10_takeStays_1 rfl ⟨by decide, by decide⟩ ?_
  refine mw_putI (ji := 4) (pc' := 5) dX10_takeStays_2 rfl (fq_RX10_26_53) (by decide +kernel) rfl (Or.inl ⟨rfl, rc_53_4⟩) (Or.inr rfl) ⟨by decide, by omega⟩ ?_
  refine mw_iconst (pc' := 6) dX10_takeStays_5 rfl ⟨by decide, by decide⟩ ?_
  refine mw_istore_n (pc' := 7) (L' := [(0, vR 53), (1, vR 16), (2, vI x2), (3, vI 0)]) dX10_takeStays_6 rfl rfl (by decide) rfl ?_
  exact h
theorem aX10_takeStays_d_1 {x2 x3 : Int} {g : mG} {d : mD} {Q : mQ} (h : ((d 28 4 ≤ x3) → Q (.inl 0) g d) ∧ ((¬ (d 28 4 ≤ x3)) → (0 ≤ x2 ∧ x2 < 30) ∧ ((0 ≤ x3 ∧ x3 < 12) ∧ ((((d 29 x3 = (-1)) ∨ (d 29 x3 = (d 17 x2))) → 0 ≤ d 30 x3) ∧ ((((d 29 x3 = (-1)) ∨ (d 29 x3 = (d 17 x2))) → 0 ≤ (d 18 x2) ∧ (d 18 x2) < 32) ∧ (((((d 29 x3 = (-1)) ∨ (d 29 x3 = (d 17 x2))) ∧ (((d 30 x3) / 2 ^ ((d 18 x2)).toNat) % (2 : Int) = 1)) → (iI ((d 31 x3) + 1)) ∧ (MM mX10_joinRange [vR 53, vI ((d 31 x3) + 1), vI (d 32 x3)] g d (fun o g32 d33 => match o with | .inl v31 => (iI (x3 + 1)) ∧ (pX10_takeStays_d_1 x2 (x3 + 1) g32 d33 Q) | .inr k => Q (.inr k) g32 d33))) ∧ ((¬ (((d 29 x3 = (-1)) ∨ (d 29 x3 = (d 17 x2))) ∧ (((d 30 x3) / 2 ^ ((d 18 x2)).toNat) % (2 : Int) = 1))) → (iI (x3 + 1)) ∧ (pX10_takeStays_d_1 x2 (x3 + 1) g d Q)))))))) : pX10_takeStays_d_1 x2 x3 g d Q := by
  unfold pX10_takeStays_d_1
  refine mw_top (fun hT => ?_)
  have hG : 65 ≤ g.2.1 := hT.2
  refine mw_iload_n (pc' := 8) dX10_takeStays_7 rfl rfl rfl ?_
  refine mw_aload_n (v := vR 53) (pc' := 9) dX10_takeStays_8 rfl rfl (Or.inl rfl) rfl ?_
  refine mw_getP (v := 28) (pc' := 12) dX10_takeStays_9 rfl fr_RX10_22_53 rfl sp_53_1 ⟨by decide, by decide⟩ ?_
  refine mw_getI (ji := 4) (pc' := 15) dX10_takeStays_12 rfl fi_RX10_30_28 rfl ⟨by decide, by decide⟩ ?_
  refine mw_icmp_ge (tgt := 71) (pc' := 18) dX10_takeStays_15 rfl (by decide) (fun c14 => ?_) (fun c14 => ?_)
  · replace h := h.1 c14
    exact mw_vret (pc' := 0) (S := []) dX10_takeStays_71 rfl h
  · replace h := h.2 c14
    refine mw_aload_n (v := vR 53) (pc' := 19) dX10_takeStays_18 rfl rfl (Or.inl rfl) rfl ?_
    refine mw_getP (v := 28) (pc' := 22) dX10_takeStays_19 rfl fr_RX10_22_53 rfl sp_53_1 ⟨by decide, by decide⟩ ?_
    refine mw_iload_n (pc' := 23) dX10_takeStays_22 rfl rfl rfl ?_
    refine mw_aload_n (v := vR 16) (pc' := 24) dX10_takeStays_23 rfl rfl (Or.inl rfl) rfl ?_
    refine mw_getP (v := 17) (pc' := 27) dX10_takeStays_24 rfl fr_RX10_35_16 rfl sp_16_0 ⟨by decide, by decide⟩ ?_
    refine mw_iload_n (pc' := 28) dX10_takeStays_27 rfl rfl rfl ?_
    obtain ⟨o15, h⟩ := h
    refine mw_iald (pc' := 29) dX10_takeStays_28 rfl lk_17 ⟨by decide, by decide⟩ (by rw [ln_17]; exact o15) ?_
    refine mw_aload_n (v := vR 16) (pc' := 30) dX10_takeStays_29 rfl rfl (Or.inl rfl) rfl ?_
    refine mw_getP (v := 18) (pc' := 33) dX10_takeStays_30 rfl fr_RX10_40_16 rfl sp_16_1 ⟨by decide, by decide⟩ ?_
    refine mw_iload_n (pc' := 34) dX10_takeStays_33 rfl rfl rfl ?_
    refine mw_iald (pc' := 35) dX10_takeStays_34 rfl lk_18 ⟨by decide, by decide⟩ (by rw [ln_18]; exact o15) ?_
    obtain ⟨o17, h⟩ := h
    obtain ⟨o18, h⟩ := h
    obtain ⟨o19, h⟩ := h
    refine mw_callV (M' := mX8_concerns) (A := [vI x3, vI (d 17 x2), vI (d 18 x2)]) (A' := [vR 28, vI x3, vI (d 17 x2), vI (d 18 x2)]) (S := []) (a := 28) (pc' := 38) dX10_takeStays_35 rfl cl_RX10_43 cm_X8_concerns cv_X8_concerns ⟨by decide, by decide, by decide, by decide, by decide⟩ rfl rfl rfl ⟨by decide, by omega⟩ (by decide +kernel) (by decide +kernel) (Nat.le_of_ble_eq_true rfl) (eX8_concerns (⟨o17, o18, o19, ?_⟩))
    show MW mX10_takeStays 0 0 38 [(0, vR 53), (1, vR 16), (2, vI x2), (3, vI x3)] [vI (bI (((d 29 x3 = (-1)) ∨ (d 29 x3 = (d 17 x2))) ∧ (((d 30 x3) / 2 ^ ((d 18 x2)).toNat) % (2 : Int) = 1)))] g d Q
    refine mw_if_eq (tgt := 65) (pc' := 41) dX10_takeStays_38 rfl (by decide) (fun c26 => ?_) (fun c26 => ?_)
    · replace c26 := bI_0.mp c26
      replace h := h.2 c26
      obtain ⟨o35, h⟩ := h
      refine mw_iinc (pc' := 68) (L' := [(0, vR 53), (1, vR 16), (2, vI x2), (3, vI (x3 + 1))]) dX10_takeStays_65 rfl rfl (by decide) o35 rfl ?_
      refine mw_goto (pc' := 0) (tgt := 7) dX10_takeStays_68 (by decide) ?_
      exact h
    · replace c26 := bI_n0.mp c26
      replace h := h.1 c26
      refine mw_aload_n (v := vR 53) (pc' := 42) dX10_takeStays_41 rfl rfl (Or.inl rfl) rfl ?_
      refine mw_aload_n (v := vR 53) (pc' := 43) dX10_takeStays_42 rfl rfl (Or.inl rfl) rfl ?_
      refine mw_getP (v := 28) (pc' := 46) dX10_takeStays_43 rfl fr_RX10_22_53 rfl sp_53_1 ⟨by decide, by decide⟩ ?_
      refine mw_getP (v := 31) (pc' := 49) dX10_takeStays_46 rfl fr_RX10_47_28 rfl sp_28_2 ⟨by decide, by decide⟩ ?_
      refine mw_iload_n (pc' := 50) dX10_takeStays_49 rfl rfl rfl ?_
      refine mw_iald (pc' := 51) dX10_takeStays_50 rfl lk_31 ⟨by decide, by decide⟩ (by rw [ln_31]; exact o17) ?_
      refine mw_iconst (pc' := 52) dX10_takeStays_51 rfl ⟨by decide, by decide⟩ ?_
      obtain ⟨o28, h⟩ := h
      refine mw_iadd (pc' := 53) dX10_takeStays_52 rfl o28 ?_
      refine mw_aload_n (v := vR 53) (pc' := 54) dX10_takeStays_53 rfl rfl (Or.inl rfl) rfl ?_
      refine mw_getP (v := 28) (pc' := 57) dX10_takeStays_54 rfl fr_RX10_22_53 rfl sp_53_1 ⟨by decide, by decide⟩ ?_
      refine mw_getP (v := 32) (pc' := 60) dX10_takeStays_57 rfl fr_RX10_50_28 rfl sp_28_3 ⟨by decide, by decide⟩ ?_
      refine mw_iload_n (pc' := 61) dX10_takeStays_60 rfl rfl rfl ?_
      refine mw_iald (pc' := 62) dX10_takeStays_61 rfl lk_32 ⟨by decide, by decide⟩ (by rw [ln_32]; exact o17) ?_
      refine mw_callV (M' := mX10_joinRange) (A := [vI ((d 31 x3) + 1), vI (d 32 x3)]) (A' := [vR 53, vI ((d 31 x3) + 1), vI (d 32 x3)]) (S := []) (a := 53) (pc' := 65) dX10_takeStays_62 rfl cl_RX10_53 cm_X10_joinRange cv_X10_joinRange ⟨by decide, by decide, by decide, by decide, by decide⟩ rfl rfl rfl ⟨by decide, by omega⟩ (by decide +kernel) (by decide +kernel) (Nat.le_of_ble_eq_true rfl) (MM.mono ?_ h)
      intro o g32 d33 h30
      rcases o with v31 | k
      · refine mw_top (fun hT => ?_)
        have hG : 65 ≤ g32.2.1 := hT.2
        show MW mX10_takeStays 0 0 65 [(0, vR 53), (1, vR 16), (2, vI x2), (3, vI x3)] [] g32 d33 Q
        obtain ⟨o34, h30⟩ := h30
        refine mw_iinc (pc' := 68) (L' := [(0, vR 53), (1, vR 16), (2, vI x2), (3, vI (x3 + 1))]) dX10_takeStays_65 rfl rfl (by decide) o34 rfl ?_
        refine mw_goto (pc' := 0) (tgt := 7) dX10_takeStays_68 (by decide) ?_
        exact h30
      · exact mx_out rfl h30
def pX10_takeStays_p_1 (x2 x3 : Int) (g : mG) (d : mD) (Q : mQ) : Prop := MW mX10_takeStays 0 0 7 [(0, vR 53), (1, vR 34), (2, vI x2), (3, vI x3)] [] g d Q
theorem eX10_takeStays_p {x2 : Int} {g : mG} {d : mD} {Q : mQ} (h : pX10_takeStays_p_1 x2 0 g (ud d 53 4 0) Q) : MM mX10_takeStays [vR 53, vR 34, vI x2] g d Q := by
  refine MM_of (by decide) rfl (by simp [catV]) (Nat.le_of_ble_eq_true rfl) ?_
  show MW mX10_takeStays 0 0 0 [(0, vR 53), (1, vR 34), (2, vI x2)] [] g d Q
  refine mw_top (fun hT => ?_)
  have hG : 65 ≤ g.2.1 := hT.2
  refine mw_aload_n (v := vR 53) (pc' := 1) dX10_takeStays_0 rfl rfl (Or.inl rfl) rfl ?_
  refine mw_iconst (pc' := 2) dX10_takeStays_1 rfl ⟨by decide, by decide⟩ ?_
  refine mw_putI (ji := 4) (pc' := 5) dX10_takeStays_2 rfl (fq_RX10_26_53) (by decide +kernel) rfl (Or.inl ⟨rfl, rc_53_4⟩) (Or.inr rfl) ⟨by decide, by omega⟩ ?_
  refine mw_iconst (pc' := 6) dX10_takeStays_5 rfl ⟨by decide, by decide⟩ ?_
  refine mw_istore_n (pc' := 7) (L' := [(0, vR 53), (1, vR 34), (2, vI x2), (3, vI 0)]) dX10_takeStays_6 rfl rfl (by decide) rfl ?_
  exact h
theorem aX10_takeStays_p_1 {x2 x3 : Int} {g : mG} {d : mD} {Q : mQ} (h : ((d 28 4 ≤ x3) → Q (.inl 0) g d) ∧ ((¬ (d 28 4 ≤ x3)) → (0 ≤ x2 ∧ x2 < 30) ∧ ((0 ≤ x3 ∧ x3 < 12) ∧ ((((d 29 x3 = (-1)) ∨ (d 29 x3 = (d 35 x2))) → 0 ≤ d 30 x3) ∧ ((((d 29 x3 = (-1)) ∨ (d 29 x3 = (d 35 x2))) → 0 ≤ (d 36 x2) ∧ (d 36 x2) < 32) ∧ (((((d 29 x3 = (-1)) ∨ (d 29 x3 = (d 35 x2))) ∧ (((d 30 x3) / 2 ^ ((d 36 x2)).toNat) % (2 : Int) = 1)) → (iI ((d 31 x3) + 1)) ∧ (MM mX10_joinRange [vR 53, vI ((d 31 x3) + 1), vI (d 32 x3)] g d (fun o g32 d33 => match o with | .inl v31 => (iI (x3 + 1)) ∧ (pX10_takeStays_p_1 x2 (x3 + 1) g32 d33 Q) | .inr k => Q (.inr k) g32 d33))) ∧ ((¬ (((d 29 x3 = (-1)) ∨ (d 29 x3 = (d 35 x2))) ∧ (((d 30 x3) / 2 ^ ((d 36 x2)).toNat) % (2 : Int) = 1))) → (iI (x3 + 1)) ∧ (pX10_takeStays_p_1 x2 (x3 + 1) g d Q)))))))) : pX10_takeStays_p_1 x2 x3 g d Q := by
  unfold pX10_takeStays_p_1
  refine mw_top (fun hT => ?_)
  have hG : 65 ≤ g.2.1 := hT.2
  refine mw_iload_n (pc' := 8) dX10_takeStays_7 rfl rfl rfl ?_
  refine mw_aload_n (v := vR 53) (pc' := 9) dX10_takeStays_8 rfl rfl (Or.inl rfl) rfl ?_
  refine mw_getP (v := 28) (pc' := 12) dX10_takeStays_9 rfl fr_RX10_22_53 rfl sp_53_1 ⟨by decide, by decide⟩ ?_
  refine mw_getI (ji := 4) (pc' := 15) dX10_takeStays_12 rfl fi_RX10_30_28 rfl ⟨by decide, by decide⟩ ?_
  refine mw_icmp_ge (tgt := 71) (pc' := 18) dX10_takeStays_15 rfl (by decide) (fun c14 => ?_) (fun c14 => ?_)
  · replace h := h.1 c14
    exact mw_vret (pc' := 0) (S := []) dX10_takeStays_71 rfl h
  · replace h := h.2 c14
    refine mw_aload_n (v := vR 53) (pc' := 19) dX10_takeStays_18 rfl rfl (Or.inl rfl) rfl ?_
    refine mw_getP (v := 28) (pc' := 22) dX10_takeStays_19 rfl fr_RX10_22_53 rfl sp_53_1 ⟨by decide, by decide⟩ ?_
    refine mw_iload_n (pc' := 23) dX10_takeStays_22 rfl rfl rfl ?_
    refine mw_aload_n (v := vR 34) (pc' := 24) dX10_takeStays_23 rfl rfl (Or.inl rfl) rfl ?_
    refine mw_getP (v := 35) (pc' := 27) dX10_takeStays_24 rfl fr_RX10_35_34 rfl sp_34_0 ⟨by decide, by decide⟩ ?_
    refine mw_iload_n (pc' := 28) dX10_takeStays_27 rfl rfl rfl ?_
    obtain ⟨o15, h⟩ := h
    refine mw_iald (pc' := 29) dX10_takeStays_28 rfl lk_35 ⟨by decide, by decide⟩ (by rw [ln_35]; exact o15) ?_
    refine mw_aload_n (v := vR 34) (pc' := 30) dX10_takeStays_29 rfl rfl (Or.inl rfl) rfl ?_
    refine mw_getP (v := 36) (pc' := 33) dX10_takeStays_30 rfl fr_RX10_40_34 rfl sp_34_1 ⟨by decide, by decide⟩ ?_
    refine mw_iload_n (pc' := 34) dX10_takeStays_33 rfl rfl rfl ?_
    refine mw_iald (pc' := 35) dX10_takeStays_34 rfl lk_36 ⟨by decide, by decide⟩ (by rw [ln_36]; exact o15) ?_
    obtain ⟨o17, h⟩ := h
    obtain ⟨o18, h⟩ := h
    obtain ⟨o19, h⟩ := h
    refine mw_callV (M' := mX8_concerns) (A := [vI x3, vI (d 35 x2), vI (d 36 x2)]) (A' := [vR 28, vI x3, vI (d 35 x2), vI (d 36 x2)]) (S := []) (a := 28) (pc' := 38) dX10_takeStays_35 rfl cl_RX10_43 cm_X8_concerns cv_X8_concerns ⟨by decide, by decide, by decide, by decide, by decide⟩ rfl rfl rfl ⟨by decide, by omega⟩ (by decide +kernel) (by decide +kernel) (Nat.le_of_ble_eq_true rfl) (eX8_concerns (⟨o17, o18, o19, ?_⟩))
    show MW mX10_takeStays 0 0 38 [(0, vR 53), (1, vR 34), (2, vI x2), (3, vI x3)] [vI (bI (((d 29 x3 = (-1)) ∨ (d 29 x3 = (d 35 x2))) ∧ (((d 30 x3) / 2 ^ ((d 36 x2)).toNat) % (2 : Int) = 1)))] g d Q
    refine mw_if_eq (tgt := 65) (pc' := 41) dX10_takeStays_38 rfl (by decide) (fun c26 => ?_) (fun c26 => ?_)
    · replace c26 := bI_0.mp c26
      replace h := h.2 c26
      obtain ⟨o35, h⟩ := h
      refine mw_iinc (pc' := 68) (L' := [(0, vR 53), (1, vR 34), (2, vI x2), (3, vI (x3 + 1))]) dX10_takeStays_65 rfl rfl (by decide) o35 rfl ?_
      refine mw_goto (pc' := 0) (tgt := 7) dX10_takeStays_68 (by decide) ?_
      exact h
    · replace c26 := bI_n0.mp c26
      replace h := h.1 c26
      refine mw_aload_n (v := vR 53) (pc' := 42) dX10_takeStays_41 rfl rfl (Or.inl rfl) rfl ?_
      refine mw_aload_n (v := vR 53) (pc' := 43) dX10_takeStays_42 rfl rfl (Or.inl rfl) rfl ?_
      refine mw_getP (v := 28) (pc' := 46) dX10_takeStays_43 rfl fr_RX10_22_53 rfl sp_53_1 ⟨by decide, by decide⟩ ?_
      refine mw_getP (v := 31) (pc' := 49) dX10_takeStays_46 rfl fr_RX10_47_28 rfl sp_28_2 ⟨by decide, by decide⟩ ?_
      refine mw_iload_n (pc' := 50) dX10_takeStays_49 rfl rfl rfl ?_
      refine mw_iald (pc' := 51) dX10_takeStays_50 rfl lk_31 ⟨by decide, by decide⟩ (by rw [ln_31]; exact o17) ?_
      refine mw_iconst (pc' := 52) dX10_takeStays_51 rfl ⟨by decide, by decide⟩ ?_
      obtain ⟨o28, h⟩ := h
      refine mw_iadd (pc' := 53) dX10_takeStays_52 rfl o28 ?_
      refine mw_aload_n (v := vR 53) (pc' := 54) dX10_takeStays_53 rfl rfl (Or.inl rfl) rfl ?_
      refine mw_getP (v := 28) (pc' := 57) dX10_takeStays_54 rfl fr_RX10_22_53 rfl sp_53_1 ⟨by decide, by decide⟩ ?_
      refine mw_getP (v := 32) (pc' := 60) dX10_takeStays_57 rfl fr_RX10_50_28 rfl sp_28_3 ⟨by decide, by decide⟩ ?_
      refine mw_iload_n (pc' := 61) dX10_takeStays_60 rfl rfl rfl ?_
      refine mw_iald (pc' := 62) dX10_takeStays_61 rfl lk_32 ⟨by decide, by decide⟩ (by rw [ln_32]; exact o17) ?_
      refine mw_callV (M' := mX10_joinRange) (A := [vI ((d 31 x3) + 1), vI (d 32 x3)]) (A' := [vR 53, vI ((d 31 x3) + 1), vI (d 32 x3)]) (S := []) (a := 53) (pc' := 65) dX10_takeStays_62 rfl cl_RX10_53 cm_X10_joinRange cv_X10_joinRange ⟨by decide, by decide, by decide, by decide, by decide⟩ rfl rfl rfl ⟨by decide, by omega⟩ (by decide +kernel) (by decide +kernel) (Nat.le_of_ble_eq_true rfl) (MM.mono ?_ h)
      intro o g32 d33 h30
      rcases o with v31 | k
      · refine mw_top (fun hT => ?_)
        have hG : 65 ≤ g32.2.1 := hT.2
        show MW mX10_takeStays 0 0 65 [(0, vR 53), (1, vR 34), (2, vI x2), (3, vI x3)] [] g32 d33 Q
        obtain ⟨o34, h30⟩ := h30
        refine mw_iinc (pc' := 68) (L' := [(0, vR 53), (1, vR 34), (2, vI x2), (3, vI (x3 + 1))]) dX10_takeStays_65 rfl rfl (by decide) o34 rfl ?_
        refine mw_goto (pc' := 0) (tgt := 7) dX10_takeStays_68 (by decide) ?_
        exact h30
      · exact mx_out rfl h30
