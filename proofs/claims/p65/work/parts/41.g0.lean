theorem fi_RX0_25_10 : FI RX0 25 10 2 := ⟨(show LK 10 = 0 by decide +kernel) ▸ fg_RX0_25, by decide +kernel, by decide +kernel, by decide⟩
theorem fr_RX0_9_10 : FR RX0 9 10 1 := ⟨(show LK 10 = 0 by decide +kernel) ▸ fg_RX0_9, by decide +kernel, by decide +kernel, by decide⟩
theorem sp_10_1 : ((10, 1, 11) : Int × Int × Int) ∈ SPl := by decide +kernel
theorem ln_11 : LN 11 = 40 := by decide +kernel
theorem lk_11 : LK 11 = 100 := by decide +kernel
theorem rc_10_2 : RC 10 2 = 0 := by decide +kernel
theorem fq_RX0_25_10 : FP RX0 25 (LK 10) 2 .int false := (show LK 10 = 0 by decide +kernel) ▸ fp_RX0_25
theorem fi_RX5_24_7 : FI RX5 24 7 2 := ⟨(show LK 7 = 5 by decide +kernel) ▸ fg_RX5_24, by decide +kernel, by decide +kernel, by decide⟩
theorem rc_1_1 : RC 1 1 = 0 := by decide +kernel
theorem fq_RX9_15_1 : FP RX9 15 (LK 1) 1 .int false := (show LK 1 = 9 by decide +kernel) ▸ fp_RX9_15
theorem rc_3_1 : RC 3 1 = 0 := by decide +kernel
theorem fq_RX9_15_3 : FP RX9 15 (LK 3) 1 .int false := (show LK 3 = 9 by decide +kernel) ▸ fp_RX9_15
theorem fi_RX9_15_1 : FI RX9 15 1 1 := ⟨(show LK 1 = 9 by decide +kernel) ▸ fg_RX9_15, by decide +kernel, by decide +kernel, by decide⟩
theorem fr_RX9_9_1 : FR RX9 9 1 0 := ⟨(show LK 1 = 9 by decide +kernel) ▸ fg_RX9_9, by decide +kernel, by decide +kernel, by decide⟩
theorem sp_1_0 : ((1, 0, 2) : Int × Int × Int) ∈ SPl := by decide +kernel
theorem ln_2 : LN 2 = 60 := by decide +kernel
theorem lk_2 : LK 2 = 101 := by decide +kernel
theorem fi_RX9_15_3 : FI RX9 15 3 1 := ⟨(show LK 3 = 9 by decide +kernel) ▸ fg_RX9_15, by decide +kernel, by decide +kernel, by decide⟩
theorem fr_RX9_9_3 : FR RX9 9 3 0 := ⟨(show LK 3 = 9 by decide +kernel) ▸ fg_RX9_9, by decide +kernel, by decide +kernel, by decide⟩
theorem sp_3_0 : ((3, 0, 4) : Int × Int × Int) ∈ SPl := by decide +kernel
theorem ln_4 : LN 4 = 60 := by decide +kernel
theorem lk_4 : LK 4 = 101 := by decide +kernel
theorem fi_RX2_53_16 : FI RX2 53 16 11 := ⟨(show LK 16 = 2 by decide +kernel) ▸ fg_RX2_53, by decide +kernel, by decide +kernel, by decide⟩
theorem fi_RX2_53_34 : FI RX2 53 34 11 := ⟨(show LK 34 = 2 by decide +kernel) ▸ fg_RX2_53, by decide +kernel, by decide +kernel, by decide⟩
theorem fr_RX2_43_16 : FR RX2 43 16 10 := ⟨(show LK 16 = 2 by decide +kernel) ▸ fg_RX2_43, by decide +kernel, by decide +kernel, by decide⟩
theorem sp_16_10 : ((16, 10, 27) : Int × Int × Int) ∈ SPl := by decide +kernel
theorem ln_27 : LN 27 = 30 := by decide +kernel
theorem lk_27 : LK 27 = 101 := by decide +kernel
theorem fr_RX2_25_16 : FR RX2 25 16 4 := ⟨(show LK 16 = 2 by decide +kernel) ▸ fg_RX2_25, by decide +kernel, by decide +kernel, by decide⟩
theorem sp_16_4 : ((16, 4, 21) : Int × Int × Int) ∈ SPl := by decide +kernel
theorem ln_21 : LN 21 = 30 := by decide +kernel
theorem lk_21 : LK 21 = 100 := by decide +kernel
theorem fr_RX2_28_16 : FR RX2 28 16 5 := ⟨(show LK 16 = 2 by decide +kernel) ▸ fg_RX2_28, by decide +kernel, by decide +kernel, by decide⟩
theorem sp_16_5 : ((16, 5, 22) : Int × Int × Int) ∈ SPl := by decide +kernel
theorem ln_22 : LN 22 = 210 := by decide +kernel
theorem lk_22 : LK 22 = 100 := by decide +kernel
theorem fr_RX2_25_34 : FR RX2 25 34 4 := ⟨(show LK 34 = 2 by decide +kernel) ▸ fg_RX2_25, by decide +kernel, by decide +kernel, by decide⟩
theorem sp_34_4 : ((34, 4, 39) : Int × Int × Int) ∈ SPl := by decide +kernel
theorem ln_39 : LN 39 = 30 := by decide +kernel
theorem lk_39 : LK 39 = 100 := by decide +kernel
theorem fr_RX2_28_34 : FR RX2 28 34 5 := ⟨(show LK 34 = 2 by decide +kernel) ▸ fg_RX2_28, by decide +kernel, by decide +kernel, by decide⟩
theorem sp_34_5 : ((34, 5, 40) : Int × Int × Int) ∈ SPl := by decide +kernel
theorem ln_40 : LN 40 = 210 := by decide +kernel
theorem lk_40 : LK 40 = 100 := by decide +kernel
theorem fr_RX2_21_16 : FR RX2 21 16 3 := ⟨(show LK 16 = 2 by decide +kernel) ▸ fg_RX2_21, by decide +kernel, by decide +kernel, by decide⟩
theorem sp_16_3 : ((16, 3, 20) : Int × Int × Int) ∈ SPl := by decide +kernel
theorem ln_20 : LN 20 = 30 := by decide +kernel
theorem lk_20 : LK 20 = 102 := by decide +kernel
theorem fr_RX2_21_34 : FR RX2 21 34 3 := ⟨(show LK 34 = 2 by decide +kernel) ▸ fg_RX2_21, by decide +kernel, by decide +kernel, by decide⟩
theorem sp_34_3 : ((34, 3, 38) : Int × Int × Int) ∈ SPl := by decide +kernel
theorem ln_38 : LN 38 = 30 := by decide +kernel
theorem lk_38 : LK 38 = 102 := by decide +kernel
theorem fi_RX8_30_28 : FI RX8 30 28 4 := ⟨(show LK 28 = 8 by decide +kernel) ▸ fg_RX8_30, by decide +kernel, by decide +kernel, by decide⟩
theorem fr_RX8_21_28 : FR RX8 21 28 3 := ⟨(show LK 28 = 8 by decide +kernel) ▸ fg_RX8_21, by decide +kernel, by decide +kernel, by decide⟩
theorem sp_28_3 : ((28, 3, 32) : Int × Int × Int) ∈ SPl := by decide +kernel
theorem ln_32 : LN 32 = 12 := by decide +kernel
theorem lk_32 : LK 32 = 100 := by decide +kernel
theorem fr_RX8_9_28 : FR RX8 9 28 0 := ⟨(show LK 28 = 8 by decide +kernel) ▸ fg_RX8_9, by decide +kernel, by decide +kernel, by decide⟩
theorem sp_28_0 : ((28, 0, 29) : Int × Int × Int) ∈ SPl := by decide +kernel
theorem ln_29 : LN 29 = 12 := by decide +kernel
theorem lk_29 : LK 29 = 100 := by decide +kernel
theorem fr_RX8_15_28 : FR RX8 15 28 1 := ⟨(show LK 28 = 8 by decide +kernel) ▸ fg_RX8_15, by decide +kernel, by decide +kernel, by decide⟩
theorem sp_28_1 : ((28, 1, 30) : Int × Int × Int) ∈ SPl := by decide +kernel
theorem ln_30 : LN 30 = 12 := by decide +kernel
theorem lk_30 : LK 30 = 100 := by decide +kernel
theorem fr_RX8_18_28 : FR RX8 18 28 2 := ⟨(show LK 28 = 8 by decide +kernel) ▸ fg_RX8_18, by decide +kernel, by decide +kernel, by decide⟩
theorem sp_28_2 : ((28, 2, 31) : Int × Int × Int) ∈ SPl := by decide +kernel
theorem ln_31 : LN 31 = 12 := by decide +kernel
theorem lk_31 : LK 31 = 100 := by decide +kernel
theorem rc_28_4 : RC 28 4 = 0 := by decide +kernel
theorem fq_RX8_30_28 : FP RX8 30 (LK 28) 4 .int false := (show LK 28 = 8 by decide +kernel) ▸ fp_RX8_30
theorem fi_RX1_47_33 : FI RX1 47 33 7 := ⟨(show LK 33 = 1 by decide +kernel) ▸ fg_RX1_47, by decide +kernel, by decide +kernel, by decide⟩
theorem fr_RX1_18_33 : FR RX1 18 33 1 := ⟨(show LK 33 = 1 by decide +kernel) ▸ fg_RX1_18, by decide +kernel, by decide +kernel, by decide⟩
theorem sp_33_1 : ((33, 1, 46) : Int × Int × Int) ∈ SPl := by decide +kernel
theorem ln_46 : LN 46 = 8 := by decide +kernel
theorem lk_46 : LK 46 = 100 := by decide +kernel
theorem fr_RX1_22_33 : FR RX1 22 33 2 := ⟨(show LK 33 = 1 by decide +kernel) ▸ fg_RX1_22, by decide +kernel, by decide +kernel, by decide⟩
theorem sp_33_2 : ((33, 2, 47) : Int × Int × Int) ∈ SPl := by decide +kernel
theorem ln_47 : LN 47 = 8 := by decide +kernel
theorem lk_47 : LK 47 = 100 := by decide +kernel
theorem fr_RX1_25_33 : FR RX1 25 33 3 := ⟨(show LK 33 = 1 by decide +kernel) ▸ fg_RX1_25, by decide +kernel, by decide +kernel, by decide⟩
theorem sp_33_3 : ((33, 3, 48) : Int × Int × Int) ∈ SPl := by decide +kernel
theorem ln_48 : LN 48 = 20 := by decide +kernel
theorem lk_48 : LK 48 = 100 := by decide +kernel
theorem fr_RX1_28_33 : FR RX1 28 33 4 := ⟨(show LK 33 = 1 by decide +kernel) ▸ fg_RX1_28, by decide +kernel, by decide +kernel, by decide⟩
theorem sp_33_4 : ((33, 4, 49) : Int × Int × Int) ∈ SPl := by decide +kernel
theorem ln_49 : LN 49 = 20 := by decide +kernel
theorem lk_49 : LK 49 = 100 := by decide +kernel
theorem fr_RX1_31_33 : FR RX1 31 33 5 := ⟨(show LK 33 = 1 by decide +kernel) ▸ fg_RX1_31, by decide +kernel, by decide +kernel, by decide⟩
theorem sp_33_5 : ((33, 5, 50) : Int × Int × Int) ∈ SPl := by decide +kernel
theorem ln_50 : LN 50 = 20 := by decide +kernel
theorem lk_50 : LK 50 = 100 := by decide +kernel
theorem fr_RX1_34_33 : FR RX1 34 33 6 := ⟨(show LK 33 = 1 by decide +kernel) ▸ fg_RX1_34, by decide +kernel, by decide +kernel, by decide⟩
theorem sp_33_6 : ((33, 6, 51) : Int × Int × Int) ∈ SPl := by decide +kernel
theorem ln_51 : LN 51 = 20 := by decide +kernel
theorem lk_51 : LK 51 = 100 := by decide +kernel
theorem rc_33_7 : RC 33 7 = 0 := by decide +kernel
theorem fq_RX1_47_33 : FP RX1 47 (LK 33) 7 .int false := (show LK 33 = 1 by decide +kernel) ▸ fp_RX1_47
theorem fi_RX10_26_53 : FI RX10 26 53 4 := ⟨(show LK 53 = 10 by decide +kernel) ▸ fg_RX10_26, by decide +kernel, by decide +kernel, by decide⟩
theorem fr_RX10_9_53 : FR RX10 9 53 2 := ⟨(show LK 53 = 10 by decide +kernel) ▸ fg_RX10_9, by decide +kernel, by decide +kernel, by decide⟩
theorem sp_53_2 : ((53, 2, 54) : Int × Int × Int) ∈ SPl := by decide +kernel
theorem ln_54 : LN 54 = 12 := by decide +kernel
theorem lk_54 : LK 54 = 100 := by decide +kernel
theorem fr_RX10_15_53 : FR RX10 15 53 3 := ⟨(show LK 53 = 10 by decide +kernel) ▸ fg_RX10_15, by decide +kernel, by decide +kernel, by decide⟩
theorem sp_53_3 : ((53, 3, 55) : Int × Int × Int) ∈ SPl := by decide +kernel
theorem ln_55 : LN 55 = 12 := by decide +kernel
theorem lk_55 : LK 55 = 100 := by decide +kernel
theorem rc_53_4 : RC 53 4 = 0 := by decide +kernel
theorem fq_RX10_26_53 : FP RX10 26 (LK 53) 4 .int false := (show LK 53 = 10 by decide +kernel) ▸ fp_RX10_26
def pX0_placeOf_1 (x1 x2 : Int) (g : mG) (d : mD) (Q : mQ) : Prop := MW mX0_placeOf 0 0 2 [(0, vR 10), (1, vI x1), (2, vI x2)] [] g d Q
theorem eX0_placeOf {x1 : Int} {g : mG} {d : mD} {Q : mQ} (h : pX0_placeOf_1 x1 0 g d Q) : MM mX0_placeOf [vR 10, vI x1] g d Q := by
  refine MM_of (by decide) rfl (by simp [catV]) (Nat.le_of_ble_eq_true rfl) ?_
  show MW mX0_placeOf 0 0 0 [(0, vR 10), (1, vI x1)] [] g d Q
  refine mw_top (fun hT => ?_)
  have hG : 65 ≤ g.2.1 := hT.2
  refine mw_iconst (pc' := 1) dX0_placeOf_0 rfl ⟨by decide, by decide⟩ ?_
  refine mw_istore_n (pc' := 2) (L' := [(0, vR 10), (1, vI x1), (2, vI 0)]) dX0_placeOf_1 rfl rfl (by decide) rfl ?_
  exact h
theorem aX0_placeOf_1 {x1 x2 : Int} {g : mG} {d : mD} {Q : mQ} (h : ((d 10 2 ≤ x2) → Q (.inl (-1)) g d) ∧ ((¬ (d 10 2 ≤ x2)) → (0 ≤ x2 ∧ x2 < 40) ∧ (((d 11 x2 = x1) → Q (.inl x2) g d) ∧ ((¬ (d 11 x2 = x1)) → (iI (x2 + 1)) ∧ (pX0_placeOf_1 x1 (x2 + 1) g d Q))))) : pX0_placeOf_1 x1 x2 g d Q := by
  unfold pX0_placeOf_1
  refine mw_top (fun hT => ?_)
  have hG : 65 ≤ g.2.1 := hT.2
  refine mw_iload_n (pc' := 3) dX0_placeOf_2 rfl rfl rfl ?_
  refine mw_aload_n (v := vR 10) (pc' := 4) dX0_placeOf_3 rfl rfl (Or.inl rfl) rfl ?_
  refine mw_getI (ji := 2) (pc' := 7) dX0_placeOf_4 rfl fi_RX0_25_10 rfl ⟨by decide, by decide⟩ ?_
  refine mw_icmp_ge (tgt := 28) (pc' := 10) dX0_placeOf_7 rfl (by decide) (fun c3 => ?_) (fun c3 => ?_)
  · replace h := h.1 c3
    refine mw_iconst (pc' := 29) dX0_placeOf_28 rfl ⟨by decide, by decide⟩ ?_
    exact mw_iret (pc' := 0) (S := []) dX0_placeOf_29 rfl (Or.inl rfl) h
  · replace h := h.2 c3
    refine mw_aload_n (v := vR 10) (pc' := 11) dX0_placeOf_10 rfl rfl (Or.inl rfl) rfl ?_
    refine mw_getP (v := 11) (pc' := 14) dX0_placeOf_11 rfl fr_RX0_9_10 rfl sp_10_1 ⟨by decide, by decide⟩ ?_
    refine mw_iload_n (pc' := 15) dX0_placeOf_14 rfl rfl rfl ?_
    obtain ⟨o4, h⟩ := h
    refine mw_iald (pc' := 16) dX0_placeOf_15 rfl lk_11 ⟨by decide, by decide⟩ (by rw [ln_11]; exact o4) ?_
    refine mw_iload_n (pc' := 17) dX0_placeOf_16 rfl rfl rfl ?_
    refine mw_icmp_ne (tgt := 22) (pc' := 20) dX0_placeOf_17 rfl (by decide) (fun c5 => ?_) (fun c5 => ?_)
    · replace h := h.2 c5
      obtain ⟨o6, h⟩ := h
      refine mw_iinc (pc' := 25) (L' := [(0, vR 10), (1, vI x1), (2, vI (x2 + 1))]) dX0_placeOf_22 rfl rfl (by decide) o6 rfl ?_
      refine mw_goto (pc' := 0) (tgt := 2) dX0_placeOf_25 (by decide) ?_
      exact h
    · replace h := h.1 c5
      refine mw_iload_n (pc' := 21) dX0_placeOf_20 rfl rfl rfl ?_
      exact mw_iret (pc' := 0) (S := []) dX0_placeOf_21 rfl (Or.inl rfl) h
theorem eX0_insertHoliday {x1 : Int} {g : mG} {d : mD} {Q : mQ} (h : ((40 ≤ d 10 2) → Q (.inl 0) g d) ∧ ((¬ (40 ≤ d 10 2)) → (0 ≤ d 10 2 ∧ d 10 2 < 40) ∧ ((iI ((d 10 2) + 1)) ∧ (Q (.inl 0) g (ud (ud d 11 (d 10 2) x1) 10 2 ((d 10 2) + 1)))))) : MM mX0_insertHoliday [vR 10, vI x1] g d Q := by
  refine MM_of (by decide) rfl (by simp [catV]) (Nat.le_of_ble_eq_true rfl) ?_
  show MW mX0_insertHoliday 0 0 0 [(0, vR 10), (1, vI x1)] [] g d Q
  refine mw_top (fun hT => ?_)
  have hG : 65 ≤ g.2.1 := hT.2
  refine mw_aload_n (v := vR 10) (pc' := 1) dX0_insertHoliday_0 rfl rfl (Or.inl rfl) rfl ?_
  refine mw_getI (ji := 2) (pc' := 4) dX0_insertHoliday_1 rfl fi_RX0_25_10 rfl ⟨by decide, by decide⟩ ?_
  refine mw_bipush (pc' := 6) dX0_insertHoliday_4 rfl ⟨by decide, by decide⟩ ?_
  refine mw_icmp_ge (tgt := 29) (pc' := 9) dX0_insertHoliday_6 rfl (by decide) (fun c1 => ?_) (fun c1 => ?_)
  · replace h := h.1 c1
    exact mw_vret (pc' := 0) (S := []) dX0_insertHoliday_29 rfl h
  · replace h := h.2 c1
    refine mw_aload_n (v := vR 10) (pc' := 10) dX0_insertHoliday_9 rfl rfl (Or.inl rfl) rfl ?_
    refine mw_getP (v := 11) (pc' := 13) dX0_insertHoliday_10 rfl fr_RX0_9_10 rfl sp_10_1 ⟨by decide, by decide⟩ ?_
    refine mw_aload_n (v := vR 10) (pc' := 14) dX0_insertHoliday_13 rfl rfl (Or.inl rfl) rfl ?_
    refine mw_getI (ji := 2) (pc' := 17) dX0_insertHoliday_14 rfl fi_RX0_25_10 rfl ⟨by decide, by decide⟩ ?_
    refine mw_iload_n (pc' := 18) dX0_insertHoliday_17 rfl rfl rfl ?_
    obtain ⟨o2, h⟩ := h
    refine mw_iast (pc' := 19) dX0_insertHoliday_18 rfl lk_11 ⟨by decide, by decide⟩ (by rw [ln_11]; exact o2) ?_
    refine mw_aload_n (v := vR 10) (pc' := 20) dX0_insertHoliday_19 rfl rfl (Or.inl rfl) rfl ?_
    refine mw_dup (pc' := 21) dX0_insertHoliday_20 rfl rfl ?_
    refine mw_getI (ji := 2) (pc' := 24) dX0_insertHoliday_21 rfl fi_RX0_25_10 rfl ⟨by decide, by decide⟩ ?_
    refine mw_st (b := d 10 2) (udA (by decide) (rfl)) ?_
    refine mw_iconst (pc' := 25) dX0_insertHoliday_24 rfl ⟨by decide, by decide⟩ ?_
    obtain ⟨o3, h⟩ := h
    refine mw_iadd (pc' := 26) dX0_insertHoliday_25 rfl o3 ?_
    refine mw_putI (ji := 2) (pc' := 29) dX0_insertHoliday_26 rfl (fq_RX0_25_10) (by decide +kernel) rfl (Or.inl ⟨rfl, rc_10_2⟩) (Or.inr rfl) ⟨by decide, by omega⟩ ?_
    exact mw_vret (pc' := 0) (S := []) dX0_insertHoliday_29 rfl h
theorem eX5_has {x1 : Int} {g : mG} {d : mD} {Q : mQ} (h : Q (.inl (bI ((¬ (x1 < 0)) ∧ (¬ (d 7 2 ≤ x1))))) g d) : MM mX5_has [vR 7, vI x1] g d Q := by
  refine MM_of (by decide) rfl (by simp [catV]) (Nat.le_of_ble_eq_true rfl) ?_
  show MW mX5_has 0 0 0 [(0, vR 7), (1, vI x1)] [] g d Q
  refine mw_top (fun hT => ?_)
  have hG : 65 ≤ g.2.1 := hT.2
  refine mw_iload_n (pc' := 1) dX5_has_0 rfl rfl rfl ?_
  suffices k1 : MW mX5_has 0 0 17 [(0, vR 7), (1, vI x1)] [vI (bI ((¬ (x1 < 0)) ∧ (¬ (d 7 2 ≤ x1))))] g d Q by
    refine mw_if_lt (tgt := 16) (pc' := 4) dX5_has_1 rfl (by decide) (fun c2 => ?_) (fun c2 => ?_)
    · refine mw_iconst (pc' := 17) dX5_has_16 rfl ⟨by decide, by decide⟩ ?_
      exact mw_st (bI_f (fun h => (h.1 c2))).symm k1
    · refine mw_iload_n (pc' := 5) dX5_has_4 rfl rfl rfl ?_
      refine mw_aload_n (v := vR 7) (pc' := 6) dX5_has_5 rfl rfl (Or.inl rfl) rfl ?_
      refine mw_getI (ji := 2) (pc' := 9) dX5_has_6 rfl fi_RX5_24_7 rfl ⟨by decide, by decide⟩ ?_
      refine mw_icmp_ge (tgt := 16) (pc' := 12) dX5_has_9 rfl (by decide) (fun c3 => ?_) (fun c3 => ?_)
      · refine mw_iconst (pc' := 17) dX5_has_16 rfl ⟨by decide, by decide⟩ ?_
        exact mw_st (bI_f (fun h => (fun h => (h c3)) h.2)).symm k1
      · refine mw_iconst (pc' := 13) dX5_has_12 rfl ⟨by decide, by decide⟩ ?_
        refine mw_goto (pc' := 0) (tgt := 17) dX5_has_13 (by decide) ?_
        exact mw_st (bI_t ⟨c2, c3⟩).symm k1
  exact mw_iret (pc' := 0) (S := []) dX5_has_17 rfl (Or.inr (Or.inl ⟨rfl, bI_rng⟩)) h
theorem eX7_placeOfWay {x0 : Int} {g : mG} {d : mD} {Q : mQ} (h : ((x0 = 97) → Q (.inl 3) g d) ∧ ((¬ (x0 = 97)) → ((x0 = 101) → Q (.inl 1) g d) ∧ ((¬ (x0 = 101)) → ((x0 = 109) → Q (.inl 2) g d) ∧ ((¬ (x0 = 109)) → ((x0 = 112) → Q (.inl 0) g d) ∧ ((¬ (x0 = 112)) → Q (.inl (-1)) g d))))) : MM mX7_placeOfWay [vI x0] g d Q := by
  refine MM_of (by decide) rfl (by simp [catV]) (Nat.le_of_ble_eq_true rfl) ?_
  show MW mX7_placeOfWay 0 0 0 [(0, vI x0)] [] g d Q
  refine mw_top (fun hT => ?_)
  have hG : 65 ≤ g.2.1 := hT.2
  refine mw_iload_n (pc' := 1) dX7_placeOfWay_0 rfl rfl rfl ?_
  by_cases c1 : x0 = 97
  · replace h := h.1 c1
    refine mw_look (pc' := 0) (off := 49) (tgt := 50) dX7_placeOfWay_1 (by decide) (by rw [c1]; rfl) (by decide) ?_
    refine mw_iconst (pc' := 51) dX7_placeOfWay_50 rfl ⟨by decide, by decide⟩ ?_
    exact mw_iret (pc' := 0) (S := []) dX7_placeOfWay_51 rfl (Or.inl rfl) h
  · replace h := h.2 c1
    by_cases c2 : x0 = 101
    · replace h := h.1 c2
      refine mw_look (pc' := 0) (off := 45) (tgt := 46) dX7_placeOfWay_1 (by decide) (by rw [c2]; rfl) (by decide) ?_
      refine mw_iconst (pc' := 47) dX7_placeOfWay_46 rfl ⟨by decide, by decide⟩ ?_
      exact mw_iret (pc' := 0) (S := []) dX7_placeOfWay_47 rfl (Or.inl rfl) h
    · replace h := h.2 c2
      by_cases c3 : x0 = 109
      · replace h := h.1 c3
        refine mw_look (pc' := 0) (off := 47) (tgt := 48) dX7_placeOfWay_1 (by decide) (by rw [c3]; rfl) (by decide) ?_
        refine mw_iconst (pc' := 49) dX7_placeOfWay_48 rfl ⟨by decide, by decide⟩ ?_
        exact mw_iret (pc' := 0) (S := []) dX7_placeOfWay_49 rfl (Or.inl rfl) h
      · replace h := h.2 c3
        by_cases c4 : x0 = 112
        · replace h := h.1 c4
          refine mw_look (pc' := 0) (off := 43) (tgt := 44) dX7_placeOfWay_1 (by decide) (by rw [c4]; rfl) (by decide) ?_
          refine mw_iconst (pc' := 45) dX7_placeOfWay_44 rfl ⟨by decide, by decide⟩ ?_
          exact mw_iret (pc' := 0) (S := []) dX7_placeOfWay_45 rfl (Or.inl rfl) h
        · replace h := h.2 c4
          refine mw_look (pc' := 0) (off := 51) (tgt := 52) dX7_placeOfWay_1 (by decide) (by simp [Op.lookupswitch.offset]; (repeat' split) <;> omega) (by decide) ?_
          refine mw_iconst (pc' := 53) dX7_placeOfWay_52 rfl ⟨by decide, by decide⟩ ?_
          exact mw_iret (pc' := 0) (S := []) dX7_placeOfWay_53 rfl (Or.inl rfl) h
theorem eX9_clear_b {g : mG} {d : mD} {Q : mQ} (h : Q (.inl 0) g (ud d 1 1 0)) : MM mX9_clear [vR 1] g d Q := by
  refine MM_of (by decide) rfl (by simp [catV]) (Nat.le_of_ble_eq_true rfl) ?_
  show MW mX9_clear 0 0 0 [(0, vR 1)] [] g d Q
  refine mw_top (fun hT => ?_)
  have hG : 65 ≤ g.2.1 := hT.2
  refine mw_aload_n (v := vR 1) (pc' := 1) dX9_clear_0 rfl rfl (Or.inl rfl) rfl ?_
  refine mw_iconst (pc' := 2) dX9_clear_1 rfl ⟨by decide, by decide⟩ ?_
  refine mw_putI (ji := 1) (pc' := 5) dX9_clear_2 rfl (fq_RX9_15_1) (by decide +kernel) rfl (Or.inl ⟨rfl, rc_1_1⟩) (Or.inr rfl) ⟨by decide, by omega⟩ ?_
  exact mw_vret (pc' := 0) (S := []) dX9_clear_5 rfl h
theorem eX9_clear_l {g : mG} {d : mD} {Q : mQ} (h : Q (.inl 0) g (ud d 3 1 0)) : MM mX9_clear [vR 3] g d Q := by
  refine MM_of (by decide) rfl (by simp [catV]) (Nat.le_of_ble_eq_true rfl) ?_
  show MW mX9_clear 0 0 0 [(0, vR 3)] [] g d Q
  refine mw_top (fun hT => ?_)
  have hG : 65 ≤ g.2.1 := hT.2
  refine mw_aload_n (v := vR 3) (pc' := 1) dX9_clear_0 rfl rfl (Or.inl rfl) rfl ?_
  refine mw_iconst (pc' := 2) dX9_clear_1 rfl ⟨by decide, by decide⟩ ?_
  refine mw_putI (ji := 1) (pc' := 5) dX9_clear_2 rfl (fq_RX9_15_3) (by decide +kernel) rfl (Or.inl ⟨rfl, rc_3_1⟩) (Or.inr rfl) ⟨by decide, by omega⟩ ?_
  exact mw_vret (pc' := 0) (S := []) dX9_clear_5 rfl h
theorem eX9_append_b {x1 : Int} {g : mG} {d : mD} {Q : mQ} (h : ((60 ≤ d 1 1) → Q (.inl 0) g d) ∧ ((¬ (60 ≤ d 1 1)) → (0 ≤ d 1 1 ∧ d 1 1 < 60) ∧ ((0 ≤ x1 ∧ x1 ≤ 65535) ∧ ((iI ((d 1 1) + 1)) ∧ (Q (.inl 0) g (ud (ud d 2 (d 1 1) x1) 1 1 ((d 1 1) + 1))))))) : MM mX9_append [vR 1, vI x1] g d Q := by
  refine MM_of (by decide) rfl (by simp [catV]) (Nat.le_of_ble_eq_true rfl) ?_
  show MW mX9_append 0 0 0 [(0, vR 1), (1, vI x1)] [] g d Q
  refine mw_top (fun hT => ?_)
  have hG : 65 ≤ g.2.1 := hT.2
  refine mw_aload_n (v := vR 1) (pc' := 1) dX9_append_0 rfl rfl (Or.inl rfl) rfl ?_
  refine mw_getI (ji := 1) (pc' := 4) dX9_append_1 rfl fi_RX9_15_1 rfl ⟨by decide, by decide⟩ ?_
  refine mw_bipush (pc' := 6) dX9_append_4 rfl ⟨by decide, by decide⟩ ?_
  refine mw_icmp_ge (tgt := 29) (pc' := 9) dX9_append_6 rfl (by decide) (fun c1 => ?_) (fun c1 => ?_)
  · replace h := h.1 c1
    exact mw_vret (pc' := 0) (S := []) dX9_append_29 rfl h
  · replace h := h.2 c1
    refine mw_aload_n (v := vR 1) (pc' := 10) dX9_append_9 rfl rfl (Or.inl rfl) rfl ?_
    refine mw_getP (v := 2) (pc' := 13) dX9_append_10 rfl fr_RX9_9_1 rfl sp_1_0 ⟨by decide, by decide⟩ ?_
    refine mw_aload_n (v := vR 1) (pc' := 14) dX9_append_13 rfl rfl (Or.inl rfl) rfl ?_
    refine mw_getI (ji := 1) (pc' := 17) dX9_append_14 rfl fi_RX9_15_1 rfl ⟨by decide, by decide⟩ ?_
    refine mw_iload_n (pc' := 18) dX9_append_17 rfl rfl rfl ?_
    obtain ⟨o2, h⟩ := h
    obtain ⟨o3, h⟩ := h
    refine mw_cast (pc' := 19) dX9_append_18 rfl lk_2 ⟨by decide, by decide⟩ (by rw [ln_2]; exact o2) o3 ?_
    refine mw_aload_n (v := vR 1) (pc' := 20) dX9_append_19 rfl rfl (Or.inl rfl) rfl ?_
    refine mw_dup (pc' := 21) dX9_append_20 rfl rfl ?_
    refine mw_getI (ji := 1) (pc' := 24) dX9_append_21 rfl fi_RX9_15_1 rfl ⟨by decide, by decide⟩ ?_
    refine mw_st (b := d 1 1) (udA (by decide) (rfl)) ?_
    refine mw_iconst (pc' := 25) dX9_append_24 rfl ⟨by decide, by decide⟩ ?_
    obtain ⟨o4, h⟩ := h
    refine mw_iadd (pc' := 26) dX9_append_25 rfl o4 ?_
    refine mw_putI (ji := 1) (pc' := 29) dX9_append_26 rfl (fq_RX9_15_1) (by decide +kernel) rfl (Or.inl ⟨rfl, rc_1_1⟩) (Or.inr rfl) ⟨by decide, by omega⟩ ?_
    exact mw_vret (pc' := 0) (S := []) dX9_append_29 rfl h
theorem eX9_append_l {x1 : Int} {g : mG} {d : mD} {Q : mQ} (h : ((60 ≤ d 3 1) → Q (.inl 0) g d) ∧ ((¬ (60 ≤ d 3 1)) → (0 ≤ d 3 1 ∧ d 3 1 < 60) ∧ ((0 ≤ x1 ∧ x1 ≤ 65535) ∧ ((iI ((d 3 1) + 1)) ∧ (Q (.inl 0) g (ud (ud d 4 (d 3 1) x1) 3 1 ((d 3 1) + 1))))))) : MM mX9_append [vR 3, vI x1] g d Q := by
  refine MM_of (by decide) rfl (by simp [catV]) (Nat.le_of_ble_eq_true rfl) ?_
  show MW mX9_append 0 0 0 [(0, vR 3), (1, vI x1)] [] g d Q
  refine mw_top (fun hT => ?_)
  have hG : 65 ≤ g.2.1 := hT.2
  refine mw_aload_n (v := vR 3) (pc' := 1) dX9_append_0 rfl rfl (Or.inl rfl) rfl ?_
  refine mw_getI (ji := 1) (pc' := 4) dX9_append_1 rfl fi_RX9_15_3 rfl ⟨by decide, by decide⟩ ?_
  refine mw_bipush (pc' := 6) dX9_append_4 rfl ⟨by decide, by decide⟩ ?_
  refine mw_icmp_ge (tgt := 29) (pc' := 9) dX9_append_6 rfl (by decide) (fun c1 => ?_) (fun c1 => ?_)
  · replace h := h.1 c1
    exact mw_vret (pc' := 0) (S := []) dX9_append_29 rfl h
  · replace h := h.2 c1
    refine mw_aload_n (v := vR 3) (pc' := 10) dX9_append_9 rfl rfl (Or.inl rfl) rfl ?_
    refine mw_getP (v := 4) (pc' := 13) dX9_append_10 rfl fr_RX9_9_3 rfl sp_3_0 ⟨by decide, by decide⟩ ?_
    refine mw_aload_n (v := vR 3) (pc' := 14) dX9_append_13 rfl rfl (Or.inl rfl) rfl ?_
    refine mw_getI (ji := 1) (pc' := 17) dX9_append_14 rfl fi_RX9_15_3 rfl ⟨by decide, by decide⟩ ?_
    refine mw_iload_n (pc' := 18) dX9_append_17 rfl rfl rfl ?_
    obtain ⟨o2, h⟩ := h
    obtain ⟨o3, h⟩ := h
    refine mw_cast (pc' := 19) dX9_append_18 rfl lk_4 ⟨by decide, by decide⟩ (by rw [ln_4]; exact o2) o3 ?_
    refine mw_aload_n (v := vR 3) (pc' := 20) dX9_append_19 rfl rfl (Or.inl rfl) rfl ?_
    refine mw_dup (pc' := 21) dX9_append_20 rfl rfl ?_
    refine mw_getI (ji := 1) (pc' := 24) dX9_append_21 rfl fi_RX9_15_3 rfl ⟨by decide, by decide⟩ ?_
    refine mw_st (b := d 3 1) (udA (by decide) (rfl)) ?_
    refine mw_iconst (pc' := 25) dX9_append_24 rfl ⟨by decide, by decide⟩ ?_
    obtain ⟨o4, h⟩ := h
    refine mw_iadd (pc' := 26) dX9_append_25 rfl o4 ?_
    refine mw_putI (ji := 1) (pc' := 29) dX9_append_26 rfl (fq_RX9_15_3) (by decide +kernel) rfl (Or.inl ⟨rfl, rc_3_1⟩) (Or.inr rfl) ⟨by decide, by omega⟩ ?_
    exact mw_vret (pc' := 0) (S := []) dX9_append_29 rfl h
theorem eX9_signAt_b {x1 : Int} {g : mG} {d : mD} {Q : mQ} (h : ((¬ (x1 < 0)) → (¬ (d 1 1 ≤ x1)) → 0 ≤ x1 ∧ x1 < 60) ∧ ((0 ≤ iT (x1 < 0) 0 (iT (d 1 1 ≤ x1) 0 (d 2 x1)) ∧ iT (x1 < 0) 0 (iT (d 1 1 ≤ x1) 0 (d 2 x1)) ≤ 65535) ∧ (Q (.inl (iT (x1 < 0) 0 (iT (d 1 1 ≤ x1) 0 (d 2 x1)))) g d))) : MM mX9_signAt [vR 1, vI x1] g d Q := by
  refine MM_of (by decide) rfl (by simp [catV]) (Nat.le_of_ble_eq_true rfl) ?_
  show MW mX9_signAt 0 0 0 [(0, vR 1), (1, vI x1)] [] g d Q
  refine mw_top (fun hT => ?_)
  have hG : 65 ≤ g.2.1 := hT.2
  refine mw_iload_n (pc' := 1) dX9_signAt_0 rfl rfl rfl ?_
  obtain ⟨o1, h⟩ := h
  suffices k2 : MW mX9_signAt 0 0 22 [(0, vR 1), (1, vI x1)] [vI (iT (x1 < 0) 0 (iT (d 1 1 ≤ x1) 0 (d 2 x1)))] g d Q by
    refine mw_if_lt (tgt := 21) (pc' := 4) dX9_signAt_1 rfl (by decide) (fun c3 => ?_) (fun c3 => ?_)
    · refine mw_iconst (pc' := 22) dX9_signAt_21 rfl ⟨by decide, by decide⟩ ?_
      exact mw_st (((iT_t c3).trans rfl)).symm k2
    · refine mw_iload_n (pc' := 5) dX9_signAt_4 rfl rfl rfl ?_
      refine mw_aload_n (v := vR 1) (pc' := 6) dX9_signAt_5 rfl rfl (Or.inl rfl) rfl ?_
      refine mw_getI (ji := 1) (pc' := 9) dX9_signAt_6 rfl fi_RX9_15_1 rfl ⟨by decide, by decide⟩ ?_
      refine mw_icmp_ge (tgt := 21) (pc' := 12) dX9_signAt_9 rfl (by decide) (fun c4 => ?_) (fun c4 => ?_)
      · refine mw_iconst (pc' := 22) dX9_signAt_21 rfl ⟨by decide, by decide⟩ ?_
        exact mw_st (((iT_f c3).trans ((iT_t c4).trans rfl))).symm k2
      · refine mw_aload_n (v := vR 1) (pc' := 13) dX9_signAt_12 rfl rfl (Or.inl rfl) rfl ?_
        refine mw_getP (v := 2) (pc' := 16) dX9_signAt_13 rfl fr_RX9_9_1 rfl sp_1_0 ⟨by decide, by decide⟩ ?_
        refine mw_iload_n (pc' := 17) dX9_signAt_16 rfl rfl rfl ?_
        refine mw_cald (pc' := 18) dX9_signAt_17 rfl lk_2 ⟨by decide, by decide⟩ (by rw [ln_2]; exact (o1 c3 c4)) ?_
        refine mw_goto (pc' := 0) (tgt := 22) dX9_signAt_18 (by decide) ?_
        exact mw_st (((iT_f c3).trans ((iT_f c4).trans rfl))).symm k2
  obtain ⟨o5, h⟩ := h
  exact mw_iret (pc' := 0) (S := []) dX9_signAt_22 rfl (Or.inr (Or.inr ⟨rfl, o5⟩)) h
theorem eX9_signAt_l {x1 : Int} {g : mG} {d : mD} {Q : mQ} (h : ((¬ (x1 < 0)) → (¬ (d 3 1 ≤ x1)) → 0 ≤ x1 ∧ x1 < 60) ∧ ((0 ≤ iT (x1 < 0) 0 (iT (d 3 1 ≤ x1) 0 (d 4 x1)) ∧ iT (x1 < 0) 0 (iT (d 3 1 ≤ x1) 0 (d 4 x1)) ≤ 65535) ∧ (Q (.inl (iT (x1 < 0) 0 (iT (d 3 1 ≤ x1) 0 (d 4 x1)))) g d))) : MM mX9_signAt [vR 3, vI x1] g d Q := by
  refine MM_of (by decide) rfl (by simp [catV]) (Nat.le_of_ble_eq_true rfl) ?_
  show MW mX9_signAt 0 0 0 [(0, vR 3), (1, vI x1)] [] g d Q
  refine mw_top (fun hT => ?_)
  have hG : 65 ≤ g.2.1 := hT.2
  refine mw_iload_n (pc' := 1) dX9_signAt_0 rfl rfl rfl ?_
  obtain ⟨o1, h⟩ := h
  suffices k2 : MW mX9_signAt 0 0 22 [(0, vR 3), (1, vI x1)] [vI (iT (x1 < 0) 0 (iT (d 3 1 ≤ x1) 0 (d 4 x1)))] g d Q by
    refine mw_if_lt (tgt := 21) (pc' := 4) dX9_signAt_1 rfl (by decide) (fun c3 => ?_) (fun c3 => ?_)
    · refine mw_iconst (pc' := 22) dX9_signAt_21 rfl ⟨by decide, by decide⟩ ?_
      exact mw_st (((iT_t c3).trans rfl)).symm k2
    · refine mw_iload_n (pc' := 5) dX9_signAt_4 rfl rfl rfl ?_
      refine mw_aload_n (v := vR 3) (pc' := 6) dX9_signAt_5 rfl rfl (Or.inl rfl) rfl ?_
      refine mw_getI (ji := 1) (pc' := 9) dX9_signAt_6 rfl fi_RX9_15_3 rfl ⟨by decide, by decide⟩ ?_
      refine mw_icmp_ge (tgt := 21) (pc' := 12) dX9_signAt_9 rfl (by decide) (fun c4 => ?_) (fun c4 => ?_)
      · refine mw_iconst (pc' := 22) dX9_signAt_21 rfl ⟨by decide, by decide⟩ ?_
        exact mw_st (((iT_f c3).trans ((iT_t c4).trans rfl))).symm k2
      · refine mw_aload_n (v := vR 3) (pc' := 13) dX9_signAt_12 rfl rfl (Or.inl rfl) rfl ?_
        refine mw_getP (v := 4) (pc' := 16) dX9_signAt_13 rfl fr_RX9_9_3 rfl sp_3_0 ⟨by decide, by decide⟩ ?_
        refine mw_iload_n (pc' := 17) dX9_signAt_16 rfl rfl rfl ?_
        refine mw_cald (pc' := 18) dX9_signAt_17 rfl lk_4 ⟨by decide, by decide⟩ (by rw [ln_4]; exact (o1 c3 c4)) ?_
        refine mw_goto (pc' := 0) (tgt := 22) dX9_signAt_18 (by decide) ?_
        exact mw_st (((iT_f c3).trans ((iT_f c4).trans rfl))).symm k2
  obtain ⟨o5, h⟩ := h
  exact mw_iret (pc' := 0) (S := []) dX9_signAt_22 rfl (Or.inr (Or.inr ⟨rfl, o5⟩)) h
theorem eX9_isHigh {x0 : Int} {g : mG} {d : mD} {Q : mQ} (h : Q (.inl (bI ((¬ (x0 < 55296)) ∧ (¬ (56319 < x0))))) g d) : MM mX9_isHigh [vI x0] g d Q := by
  refine MM_of (by decide) rfl (by simp [catV]) (Nat.le_of_ble_eq_true rfl) ?_
  show MW mX9_isHigh 0 0 0 [(0, vI x0)] [] g d Q
  refine mw_top (fun hT => ?_)
  have hG : 65 ≤ g.2.1 := hT.2
  refine mw_iload_n (pc' := 1) dX9_isHigh_0 rfl rfl rfl ?_
  refine mw_ldc (n := 55296) (pc' := 3) dX9_isHigh_1 rfl bw_1014 ⟨by decide, by decide⟩ ?_
  suffices k1 : MW mX9_isHigh 0 0 17 [(0, vI x0)] [vI (bI ((¬ (x0 < 55296)) ∧ (¬ (56319 < x0))))] g d Q by
    refine mw_icmp_lt (tgt := 16) (pc' := 6) dX9_isHigh_3 rfl (by decide) (fun c2 => ?_) (fun c2 => ?_)
    · refine mw_iconst (pc' := 17) dX9_isHigh_16 rfl ⟨by decide, by decide⟩ ?_
      exact mw_st (bI_f (fun h => (h.1 c2))).symm k1
    · refine mw_iload_n (pc' := 7) dX9_isHigh_6 rfl rfl rfl ?_
      refine mw_ldc (n := 56319) (pc' := 9) dX9_isHigh_7 rfl bw_1015 ⟨by decide, by decide⟩ ?_
      refine mw_icmp_gt (tgt := 16) (pc' := 12) dX9_isHigh_9 rfl (by decide) (fun c3 => ?_) (fun c3 => ?_)
      · refine mw_iconst (pc' := 17) dX9_isHigh_16 rfl ⟨by decide, by decide⟩ ?_
        exact mw_st (bI_f (fun h => (fun h => (h c3)) h.2)).symm k1
      · refine mw_iconst (pc' := 13) dX9_isHigh_12 rfl ⟨by decide, by decide⟩ ?_
        refine mw_goto (pc' := 0) (tgt := 17) dX9_isHigh_13 (by decide) ?_
        exact mw_st (bI_t ⟨c2, c3⟩).symm k1
  exact mw_iret (pc' := 0) (S := []) dX9_isHigh_17 rfl (Or.inr (Or.inl ⟨rfl, bI_rng⟩)) h
theorem eX9_isLow {x0 : Int} {g : mG} {d : mD} {Q : mQ} (h : Q (.inl (bI ((¬ (x0 < 56320)) ∧ (¬ (57343 < x0))))) g d) : MM mX9_isLow [vI x0] g d Q := by
  refine MM_of (by decide) rfl (by simp [catV]) (Nat.le_of_ble_eq_true rfl) ?_
  show MW mX9_isLow 0 0 0 [(0, vI x0)] [] g d Q
  refine mw_top (fun hT => ?_)
  have hG : 65 ≤ g.2.1 := hT.2
  refine mw_iload_n (pc' := 1) dX9_isLow_0 rfl rfl rfl ?_
  refine mw_ldc (n := 56320) (pc' := 3) dX9_isLow_1 rfl bw_1023 ⟨by decide, by decide⟩ ?_
  suffices k1 : MW mX9_isLow 0 0 17 [(0, vI x0)] [vI (bI ((¬ (x0 < 56320)) ∧ (¬ (57343 < x0))))] g d Q by
    refine mw_icmp_lt (tgt := 16) (pc' := 6) dX9_isLow_3 rfl (by decide) (fun c2 => ?_) (fun c2 => ?_)
    · refine mw_iconst (pc' := 17) dX9_isLow_16 rfl ⟨by decide, by decide⟩ ?_
      exact mw_st (bI_f (fun h => (h.1 c2))).symm k1
    · refine mw_iload_n (pc' := 7) dX9_isLow_6 rfl rfl rfl ?_
      refine mw_ldc (n := 57343) (pc' := 9) dX9_isLow_7 rfl bw_1024 ⟨by decide, by decide⟩ ?_
      refine mw_icmp_gt (tgt := 16) (pc' := 12) dX9_isLow_9 rfl (by decide) (fun c3 => ?_) (fun c3 => ?_)
      · refine mw_iconst (pc' := 17) dX9_isLow_16 rfl ⟨by decide, by decide⟩ ?_
        exact mw_st (bI_f (fun h => (fun h => (h c3)) h.2)).symm k1
      · refine mw_iconst (pc' := 13) dX9_isLow_12 rfl ⟨by decide, by decide⟩ ?_
        refine mw_goto (pc' := 0) (tgt := 17) dX9_isLow_13 (by decide) ?_
        exact mw_st (bI_t ⟨c2, c3⟩).symm k1
  exact mw_iret (pc' := 0) (S := []) dX9_isLow_17 rfl (Or.inr (Or.inl ⟨rfl, bI_rng⟩)) h
theorem eX9_joinPair {x0 x1 : Int} {g : mG} {d : mD} {Q : mQ} (h : (iI (x0 - 55296)) ∧ ((0 ≤ x0 - 55296) ∧ ((iI ((x0 - 55296) * 2 ^ (10 : Int).toNat)) ∧ ((iI (65536 + ((x0 - 55296) * 2 ^ (10 : Int).toNat))) ∧ ((iI (x1 - 56320)) ∧ ((iI ((65536 + ((x0 - 55296) * 2 ^ (10 : Int).toNat)) + (x1 - 56320))) ∧ (Q (.inl ((65536 + ((x0 - 55296) * 2 ^ (10 : Int).toNat)) + (x1 - 56320))) g d))))))) : MM mX9_joinPair [vI x0, vI x1] g d Q := by
  refine MM_of (by decide) rfl (by simp [catV]) (Nat.le_of_ble_eq_true rfl) ?_
  show MW mX9_joinPair 0 0 0 [(0, vI x0), (1, vI x1)] [] g d Q
  refine mw_top (fun hT => ?_)
  have hG : 65 ≤ g.2.1 := hT.2
  refine mw_ldc (n := 65536) (pc' := 2) dX9_joinPair_0 rfl bw_1028 ⟨by decide, by decide⟩ ?_
  refine mw_iload_n (pc' := 3) dX9_joinPair_2 rfl rfl rfl ?_
  refine mw_ldc (n := 55296) (pc' := 5) dX9_joinPair_3 rfl bw_1014 ⟨by decide, by decide⟩ ?_
  obtain ⟨o1, h⟩ := h
  refine mw_isub (pc' := 6) dX9_joinPair_5 rfl o1 ?_
  refine mw_bipush (pc' := 8) dX9_joinPair_6 rfl ⟨by decide, by decide⟩ ?_
  obtain ⟨o2, h⟩ := h
  obtain ⟨o3, h⟩ := h
  refine mw_ishl (pc' := 9) dX9_joinPair_8 rfl o2 ⟨by decide, by decide⟩ o3 ?_
  obtain ⟨o4, h⟩ := h
  refine mw_iadd (pc' := 10) dX9_joinPair_9 rfl o4 ?_
  refine mw_iload_n (pc' := 11) dX9_joinPair_10 rfl rfl rfl ?_
  refine mw_ldc (n := 56320) (pc' := 13) dX9_joinPair_11 rfl bw_1023 ⟨by decide, by decide⟩ ?_
  obtain ⟨o5, h⟩ := h
  refine mw_isub (pc' := 14) dX9_joinPair_13 rfl o5 ?_
  obtain ⟨o6, h⟩ := h
  refine mw_iadd (pc' := 15) dX9_joinPair_14 rfl o6 ?_
  exact mw_iret (pc' := 0) (S := []) dX9_joinPair_15 rfl (Or.inl rfl) h
theorem eX2_has_d {x1 : Int} {g : mG} {d : mD} {Q : mQ} (h : Q (.inl (bI ((¬ (x1 < 0)) ∧ (¬ (d 16 11 ≤ x1))))) g d) : MM mX2_has [vR 16, vI x1] g d Q := by
  refine MM_of (by decide) rfl (by simp [catV]) (Nat.le_of_ble_eq_true rfl) ?_
  show MW mX2_has 0 0 0 [(0, vR 16), (1, vI x1)] [] g d Q
  refine mw_top (fun hT => ?_)
  have hG : 65 ≤ g.2.1 := hT.2
  refine mw_iload_n (pc' := 1) dX2_has_0 rfl rfl rfl ?_
  suffices k1 : MW mX2_has 0 0 17 [(0, vR 16), (1, vI x1)] [vI (bI ((¬ (x1 < 0)) ∧ (¬ (d 16 11 ≤ x1))))] g d Q by
    refine mw_if_lt (tgt := 16) (pc' := 4) dX2_has_1 rfl (by decide) (fun c2 => ?_) (fun c2 => ?_)
    · refine mw_iconst (pc' := 17) dX2_has_16 rfl ⟨by decide, by decide⟩ ?_
      exact mw_st (bI_f (fun h => (h.1 c2))).symm k1
    · refine mw_iload_n (pc' := 5) dX2_has_4 rfl rfl rfl ?_
      refine mw_aload_n (v := vR 16) (pc' := 6) dX2_has_5 rfl rfl (Or.inl rfl) rfl ?_
      refine mw_getI (ji := 11) (pc' := 9) dX2_has_6 rfl fi_RX2_53_16 rfl ⟨by decide, by decide⟩ ?_
      refine mw_icmp_ge (tgt := 16) (pc' := 12) dX2_has_9 rfl (by decide) (fun c3 => ?_) (fun c3 => ?_)
      · refine mw_iconst (pc' := 17) dX2_has_16 rfl ⟨by decide, by decide⟩ ?_
        exact mw_st (bI_f (fun h => (fun h => (h c3)) h.2)).symm k1
      · refine mw_iconst (pc' := 13) dX2_has_12 rfl ⟨by decide, by decide⟩ ?_
        refine mw_goto (pc' := 0) (tgt := 17) dX2_has_13 (by decide) ?_
        exact mw_st (bI_t ⟨c2, c3⟩).symm k1
  exact mw_iret (pc' := 0) (S := []) dX2_has_17 rfl (Or.inr (Or.inl ⟨rfl, bI_rng⟩)) h
theorem eX2_has_p {x1 : Int} {g : mG} {d : mD} {Q : mQ} (h : Q (.inl (bI ((¬ (x1 < 0)) ∧ (¬ (d 34 11 ≤ x1))))) g d) : MM mX2_has [vR 34, vI x1] g d Q := by
  refine MM_of (by decide) rfl (by simp [catV]) (Nat.le_of_ble_eq_true rfl) ?_
  show MW mX2_has 0 0 0 [(0, vR 34), (1, vI x1)] [] g d Q
  refine mw_top (fun hT => ?_)
  have hG : 65 ≤ g.2.1 := hT.2
  refine mw_iload_n (pc' := 1) dX2_has_0 rfl rfl rfl ?_
  suffices k1 : MW mX2_has 0 0 17 [(0, vR 34), (1, vI x1)] [vI (bI ((¬ (x1 < 0)) ∧ (¬ (d 34 11 ≤ x1))))] g d Q by
    refine mw_if_lt (tgt := 16) (pc' := 4) dX2_has_1 rfl (by decide) (fun c2 => ?_) (fun c2 => ?_)
    · refine mw_iconst (pc' := 17) dX2_has_16 rfl ⟨by decide, by decide⟩ ?_
      exact mw_st (bI_f (fun h => (h.1 c2))).symm k1
    · refine mw_iload_n (pc' := 5) dX2_has_4 rfl rfl rfl ?_
      refine mw_aload_n (v := vR 34) (pc' := 6) dX2_has_5 rfl rfl (Or.inl rfl) rfl ?_
      refine mw_getI (ji := 11) (pc' := 9) dX2_has_6 rfl fi_RX2_53_34 rfl ⟨by decide, by decide⟩ ?_
      refine mw_icmp_ge (tgt := 16) (pc' := 12) dX2_has_9 rfl (by decide) (fun c3 => ?_) (fun c3 => ?_)
      · refine mw_iconst (pc' := 17) dX2_has_16 rfl ⟨by decide, by decide⟩ ?_
        exact mw_st (bI_f (fun h => (fun h => (h c3)) h.2)).symm k1
      · refine mw_iconst (pc' := 13) dX2_has_12 rfl ⟨by decide, by decide⟩ ?_
        refine mw_goto (pc' := 0) (tgt := 17) dX2_has_13 (by decide) ?_
        exact mw_st (bI_t ⟨c2, c3⟩).symm k1
  exact mw_iret (pc' := 0) (S := []) dX2_has_17 rfl (Or.inr (Or.inl ⟨rfl, bI_rng⟩)) h
theorem eX2_isOpen {x1 : Int} {g : mG} {d : mD} {Q : mQ} (h : (0 ≤ x1 ∧ x1 < 30) ∧ (Q (.inl (bI (d 27 x1 = 111))) g d)) : MM mX2_isOpen [vR 16, vI x1] g d Q := by
  refine MM_of (by decide) rfl (by simp [catV]) (Nat.le_of_ble_eq_true rfl) ?_
  show MW mX2_isOpen 0 0 0 [(0, vR 16), (1, vI x1)] [] g d Q
  refine mw_top (fun hT => ?_)
  have hG : 65 ≤ g.2.1 := hT.2
  refine mw_aload_n (v := vR 16) (pc' := 1) dX2_isOpen_0 rfl rfl (Or.inl rfl) rfl ?_
  refine mw_getP (v := 27) (pc' := 4) dX2_isOpen_1 rfl fr_RX2_43_16 rfl sp_16_10 ⟨by decide, by decide⟩ ?_
  refine mw_iload_n (pc' := 5) dX2_isOpen_4 rfl rfl rfl ?_
  obtain ⟨o1, h⟩ := h
  refine mw_cald (pc' := 6) dX2_isOpen_5 rfl lk_27 ⟨by decide, by decide⟩ (by rw [ln_27]; exact o1) ?_
  refine mw_bipush (pc' := 8) dX2_isOpen_6 rfl ⟨by decide, by decide⟩ ?_
  suffices k2 : MW mX2_isOpen 0 0 16 [(0, vR 16), (1, vI x1)] [vI (bI (d 27 x1 = 111))] g d Q by
    refine mw_icmp_ne (tgt := 15) (pc' := 11) dX2_isOpen_8 rfl (by decide) (fun c3 => ?_) (fun c3 => ?_)
    · refine mw_iconst (pc' := 16) dX2_isOpen_15 rfl ⟨by decide, by decide⟩ ?_
      exact mw_st (bI_f (fun h => (c3 h))).symm k2
    · refine mw_iconst (pc' := 12) dX2_isOpen_11 rfl ⟨by decide, by decide⟩ ?_
      refine mw_goto (pc' := 0) (tgt := 16) dX2_isOpen_12 (by decide) ?_
      exact mw_st (bI_t c3).symm k2
  exact mw_iret (pc' := 0) (S := []) dX2_isOpen_16 rfl (Or.inr (Or.inl ⟨rfl, bI_rng⟩)) h
theorem eX2_addPart_d {x1 x2 : Int} {g : mG} {d : mD} {Q : mQ} (h : (0 ≤ x1 ∧ x1 < 30) ∧ (((7 ≤ d 21 x1) → Q (.inl 0) g d) ∧ ((¬ (7 ≤ d 21 x1)) → (iI (x1 * 7)) ∧ ((iI ((x1 * 7) + (d 21 x1))) ∧ ((0 ≤ (x1 * 7) + (d 21 x1) ∧ (x1 * 7) + (d 21 x1) < 210) ∧ ((iI ((d 21 x1) + 1)) ∧ (Q (.inl 0) g (ud (ud d 22 ((x1 * 7) + (d 21 x1)) x2) 21 x1 ((d 21 x1) + 1))))))))) : MM mX2_addPart [vR 16, vI x1, vI x2] g d Q := by
  refine MM_of (by decide) rfl (by simp [catV]) (Nat.le_of_ble_eq_true rfl) ?_
  show MW mX2_addPart 0 0 0 [(0, vR 16), (1, vI x1), (2, vI x2)] [] g d Q
  refine mw_top (fun hT => ?_)
  have hG : 65 ≤ g.2.1 := hT.2
  refine mw_aload_n (v := vR 16) (pc' := 1) dX2_addPart_0 rfl rfl (Or.inl rfl) rfl ?_
  refine mw_getP (v := 21) (pc' := 4) dX2_addPart_1 rfl fr_RX2_25_16 rfl sp_16_4 ⟨by decide, by decide⟩ ?_
  refine mw_iload_n (pc' := 5) dX2_addPart_4 rfl rfl rfl ?_
  obtain ⟨o1, h⟩ := h
  refine mw_iald (pc' := 6) dX2_addPart_5 rfl lk_21 ⟨by decide, by decide⟩ (by rw [ln_21]; exact o1) ?_
  refine mw_bipush (pc' := 8) dX2_addPart_6 rfl ⟨by decide, by decide⟩ ?_
  refine mw_icmp_ge (tgt := 38) (pc' := 11) dX2_addPart_8 rfl (by decide) (fun c8 => ?_) (fun c8 => ?_)
  · replace h := h.1 c8
    exact mw_vret (pc' := 0) (S := []) dX2_addPart_38 rfl h
  · replace h := h.2 c8
    refine mw_aload_n (v := vR 16) (pc' := 12) dX2_addPart_11 rfl rfl (Or.inl rfl) rfl ?_
    refine mw_getP (v := 22) (pc' := 15) dX2_addPart_12 rfl fr_RX2_28_16 rfl sp_16_5 ⟨by decide, by decide⟩ ?_
    refine mw_iload_n (pc' := 16) dX2_addPart_15 rfl rfl rfl ?_
    refine mw_bipush (pc' := 18) dX2_addPart_16 rfl ⟨by decide, by decide⟩ ?_
    obtain ⟨o9, h⟩ := h
    refine mw_imul (pc' := 19) dX2_addPart_18 rfl o9 ?_
    refine mw_aload_n (v := vR 16) (pc' := 20) dX2_addPart_19 rfl rfl (Or.inl rfl) rfl ?_
    refine mw_getP (v := 21) (pc' := 23) dX2_addPart_20 rfl fr_RX2_25_16 rfl sp_16_4 ⟨by decide, by decide⟩ ?_
    refine mw_iload_n (pc' := 24) dX2_addPart_23 rfl rfl rfl ?_
    refine mw_iald (pc' := 25) dX2_addPart_24 rfl lk_21 ⟨by decide, by decide⟩ (by rw [ln_21]; exact o1) ?_
    obtain ⟨o11, h⟩ := h
    refine mw_iadd (pc' := 26) dX2_addPart_25 rfl o11 ?_
    refine mw_iload_n (pc' := 27) dX2_addPart_26 rfl rfl rfl ?_
    obtain ⟨o12, h⟩ := h
    refine mw_iast (pc' := 28) dX2_addPart_27 rfl lk_22 ⟨by decide, by decide⟩ (by rw [ln_22]; exact o12) ?_
    refine mw_aload_n (v := vR 16) (pc' := 29) dX2_addPart_28 rfl rfl (Or.inl rfl) rfl ?_
    refine mw_getP (v := 21) (pc' := 32) dX2_addPart_29 rfl fr_RX2_25_16 rfl sp_16_4 ⟨by decide, by decide⟩ ?_
    refine mw_iload_n (pc' := 33) dX2_addPart_32 rfl rfl rfl ?_
    refine mw_dup2 (pc' := 34) dX2_addPart_33 rfl rfl rfl ?_
    refine mw_iald (pc' := 35) dX2_addPart_34 rfl lk_21 ⟨by decide, by decide⟩ (by rw [ln_21]; exact o1) ?_
    refine mw_st (b := d 21 x1) (udA (by decide) (rfl)) ?_
    refine mw_iconst (pc' := 36) dX2_addPart_35 rfl ⟨by decide, by decide⟩ ?_
    obtain ⟨o14, h⟩ := h
    refine mw_iadd (pc' := 37) dX2_addPart_36 rfl o14 ?_
    refine mw_iast (pc' := 38) dX2_addPart_37 rfl lk_21 ⟨by decide, by decide⟩ (by rw [ln_21]; exact o1) ?_
    exact mw_vret (pc' := 0) (S := []) dX2_addPart_38 rfl h
theorem eX2_addPart_p {x1 x2 : Int} {g : mG} {d : mD} {Q : mQ} (h : (0 ≤ x1 ∧ x1 < 30) ∧ (((7 ≤ d 39 x1) → Q (.inl 0) g d) ∧ ((¬ (7 ≤ d 39 x1)) → (iI (x1 * 7)) ∧ ((iI ((x1 * 7) + (d 39 x1))) ∧ ((0 ≤ (x1 * 7) + (d 39 x1) ∧ (x1 * 7) + (d 39 x1) < 210) ∧ ((iI ((d 39 x1) + 1)) ∧ (Q (.inl 0) g (ud (ud d 40 ((x1 * 7) + (d 39 x1)) x2) 39 x1 ((d 39 x1) + 1))))))))) : MM mX2_addPart [vR 34, vI x1, vI x2] g d Q := by
  refine MM_of (by decide) rfl (by simp [catV]) (Nat.le_of_ble_eq_true rfl) ?_
  show MW mX2_addPart 0 0 0 [(0, vR 34), (1, vI x1), (2, vI x2)] [] g d Q
  refine mw_top (fun hT => ?_)
  have hG : 65 ≤ g.2.1 := hT.2
  refine mw_aload_n (v := vR 34) (pc' := 1) dX2_addPart_0 rfl rfl (Or.inl rfl) rfl ?_
  refine mw_getP (v := 39) (pc' := 4) dX2_addPart_1 rfl fr_RX2_25_34 rfl sp_34_4 ⟨by decide, by decide⟩ ?_
  refine mw_iload_n (pc' := 5) dX2_addPart_4 rfl rfl rfl ?_
  obtain ⟨o1, h⟩ := h
  refine mw_iald (pc' := 6) dX2_addPart_5 rfl lk_39 ⟨by decide, by decide⟩ (by rw [ln_39]; exact o1) ?_
  refine mw_bipush (pc' := 8) dX2_addPart_6 rfl ⟨by decide, by decide⟩ ?_
  refine mw_icmp_ge (tgt := 38) (pc' := 11) dX2_addPart_8 rfl (by decide) (fun c8 => ?_) (fun c8 => ?_)
  · replace h := h.1 c8
    exact mw_vret (pc' := 0) (S := []) dX2_addPart_38 rfl h
  · replace h := h.2 c8
    refine mw_aload_n (v := vR 34) (pc' := 12) dX2_addPart_11 rfl rfl (Or.inl rfl) rfl ?_
    refine mw_getP (v := 40) (pc' := 15) dX2_addPart_12 rfl fr_RX2_28_34 rfl sp_34_5 ⟨by decide, by decide⟩ ?_
    refine mw_iload_n (pc' := 16) dX2_addPart_15 rfl rfl rfl ?_
    refine mw_bipush (pc' := 18) dX2_addPart_16 rfl ⟨by decide, by decide⟩ ?_
    obtain ⟨o9, h⟩ := h
    refine mw_imul (pc' := 19) dX2_addPart_18 rfl o9 ?_
    refine mw_aload_n (v := vR 34) (pc' := 20) dX2_addPart_19 rfl rfl (Or.inl rfl) rfl ?_
    refine mw_getP (v := 39) (pc' := 23) dX2_addPart_20 rfl fr_RX2_25_34 rfl sp_34_4 ⟨by decide, by decide⟩ ?_
    refine mw_iload_n (pc' := 24) dX2_addPart_23 rfl rfl rfl ?_
    refine mw_iald (pc' := 25) dX2_addPart_24 rfl lk_39 ⟨by decide, by decide⟩ (by rw [ln_39]; exact o1) ?_
    obtain ⟨o11, h⟩ := h
    refine mw_iadd (pc' := 26) dX2_addPart_25 rfl o11 ?_
    refine mw_iload_n (pc' := 27) dX2_addPart_26 rfl rfl rfl ?_
    obtain ⟨o12, h⟩ := h
    refine mw_iast (pc' := 28) dX2_addPart_27 rfl lk_40 ⟨by decide, by decide⟩ (by rw [ln_40]; exact o12) ?_
    refine mw_aload_n (v := vR 34) (pc' := 29) dX2_addPart_28 rfl rfl (Or.inl rfl) rfl ?_
    refine mw_getP (v := 39) (pc' := 32) dX2_addPart_29 rfl fr_RX2_25_34 rfl sp_34_4 ⟨by decide, by decide⟩ ?_
    refine mw_iload_n (pc' := 33) dX2_addPart_32 rfl rfl rfl ?_
    refine mw_dup2 (pc' := 34) dX2_addPart_33 rfl rfl rfl ?_
    refine mw_iald (pc' := 35) dX2_addPart_34 rfl lk_39 ⟨by decide, by decide⟩ (by rw [ln_39]; exact o1) ?_
    refine mw_st (b := d 39 x1) (udA (by decide) (rfl)) ?_
    refine mw_iconst (pc' := 36) dX2_addPart_35 rfl ⟨by decide, by decide⟩ ?_
    obtain ⟨o14, h⟩ := h
    refine mw_iadd (pc' := 37) dX2_addPart_36 rfl o14 ?_
    refine mw_iast (pc' := 38) dX2_addPart_37 rfl lk_39 ⟨by decide, by decide⟩ (by rw [ln_39]; exact o1) ?_
    exact mw_vret (pc' := 0) (S := []) dX2_addPart_38 rfl h
theorem eX2_lengthOfPart_d {x1 x2 : Int} {g : mG} {d : mD} {Q : mQ} (h : (iI (x1 * 7)) ∧ ((iI ((x1 * 7) + x2)) ∧ ((0 ≤ (x1 * 7) + x2 ∧ (x1 * 7) + x2 < 210) ∧ (Q (.inl (d 22 ((x1 * 7) + x2))) g d)))) : MM mX2_lengthOfPart [vR 16, vI x1, vI x2] g d Q := by
  refine MM_of (by decide) rfl (by simp [catV]) (Nat.le_of_ble_eq_true rfl) ?_
  show MW mX2_lengthOfPart 0 0 0 [(0, vR 16), (1, vI x1), (2, vI x2)] [] g d Q
  refine mw_top (fun hT => ?_)
  have hG : 65 ≤ g.2.1 := hT.2
  refine mw_aload_n (v := vR 16) (pc' := 1) dX2_lengthOfPart_0 rfl rfl (Or.inl rfl) rfl ?_
  refine mw_getP (v := 22) (pc' := 4) dX2_lengthOfPart_1 rfl fr_RX2_28_16 rfl sp_16_5 ⟨by decide, by decide⟩ ?_
  refine mw_iload_n (pc' := 5) dX2_lengthOfPart_4 rfl rfl rfl ?_
  refine mw_bipush (pc' := 7) dX2_lengthOfPart_5 rfl ⟨by decide, by decide⟩ ?_
  obtain ⟨o1, h⟩ := h
  refine mw_imul (pc' := 8) dX2_lengthOfPart_7 rfl o1 ?_
  refine mw_iload_n (pc' := 9) dX2_lengthOfPart_8 rfl rfl rfl ?_
  obtain ⟨o2, h⟩ := h
  refine mw_iadd (pc' := 10) dX2_lengthOfPart_9 rfl o2 ?_
  obtain ⟨o3, h⟩ := h
  refine mw_iald (pc' := 11) dX2_lengthOfPart_10 rfl lk_22 ⟨by decide, by decide⟩ (by rw [ln_22]; exact o3) ?_
  exact mw_iret (pc' := 0) (S := []) dX2_lengthOfPart_11 rfl (Or.inl rfl) h
theorem eX2_lengthOfPart_p {x1 x2 : Int} {g : mG} {d : mD} {Q : mQ} (h : (iI (x1 * 7)) ∧ ((iI ((x1 * 7) + x2)) ∧ ((0 ≤ (x1 * 7) + x2 ∧ (x1 * 7) + x2 < 210) ∧ (Q (.inl (d 40 ((x1 * 7) + x2))) g d)))) : MM mX2_lengthOfPart [vR 34, vI x1, vI x2] g d Q := by
  refine MM_of (by decide) rfl (by simp [catV]) (Nat.le_of_ble_eq_true rfl) ?_
  show MW mX2_lengthOfPart 0 0 0 [(0, vR 34), (1, vI x1), (2, vI x2)] [] g d Q
  refine mw_top (fun hT => ?_)
  have hG : 65 ≤ g.2.1 := hT.2
  refine mw_aload_n (v := vR 34) (pc' := 1) dX2_lengthOfPart_0 rfl rfl (Or.inl rfl) rfl ?_
  refine mw_getP (v := 40) (pc' := 4) dX2_lengthOfPart_1 rfl fr_RX2_28_34 rfl sp_34_5 ⟨by decide, by decide⟩ ?_
  refine mw_iload_n (pc' := 5) dX2_lengthOfPart_4 rfl rfl rfl ?_
  refine mw_bipush (pc' := 7) dX2_lengthOfPart_5 rfl ⟨by decide, by decide⟩ ?_
  obtain ⟨o1, h⟩ := h
  refine mw_imul (pc' := 8) dX2_lengthOfPart_7 rfl o1 ?_
  refine mw_iload_n (pc' := 9) dX2_lengthOfPart_8 rfl rfl rfl ?_
  obtain ⟨o2, h⟩ := h
  refine mw_iadd (pc' := 10) dX2_lengthOfPart_9 rfl o2 ?_
  obtain ⟨o3, h⟩ := h
  refine mw_iald (pc' := 11) dX2_lengthOfPart_10 rfl lk_40 ⟨by decide, by decide⟩ (by rw [ln_40]; exact o3) ?_
  exact mw_iret (pc' := 0) (S := []) dX2_lengthOfPart_11 rfl (Or.inl rfl) h
theorem eX2_partCountsCourt_d {x1 x2 : Int} {g : mG} {d : mD} {Q : mQ} (h : ((x2 = 0) → 0 ≤ x1 ∧ x1 < 30) ∧ (Q (.inl (bI ((x2 = 0) ∧ (¬ (d 20 x1 = 0))))) g d)) : MM mX2_partCountsCourt [vR 16, vI x1, vI x2] g d Q := by
  refine MM_of (by decide) rfl (by simp [catV]) (Nat.le_of_ble_eq_true rfl) ?_
  show MW mX2_partCountsCourt 0 0 0 [(0, vR 16), (1, vI x1), (2, vI x2)] [] g d Q
  refine mw_top (fun hT => ?_)
  have hG : 65 ≤ g.2.1 := hT.2
  refine mw_iload_n (pc' := 1) dX2_partCountsCourt_0 rfl rfl rfl ?_
  obtain ⟨o1, h⟩ := h
  suffices k2 : MW mX2_partCountsCourt 0 0 18 [(0, vR 16), (1, vI x1), (2, vI x2)] [vI (bI ((x2 = 0) ∧ (¬ (d 20 x1 = 0))))] g d Q by
    refine mw_if_ne (tgt := 17) (pc' := 4) dX2_partCountsCourt_1 rfl (by decide) (fun c3 => ?_) (fun c3 => ?_)
    · refine mw_iconst (pc' := 18) dX2_partCountsCourt_17 rfl ⟨by decide, by decide⟩ ?_
      exact mw_st (bI_f (fun h => (c3 h.1))).symm k2
    · refine mw_aload_n (v := vR 16) (pc' := 5) dX2_partCountsCourt_4 rfl rfl (Or.inl rfl) rfl ?_
      refine mw_getP (v := 20) (pc' := 8) dX2_partCountsCourt_5 rfl fr_RX2_21_16 rfl sp_16_3 ⟨by decide, by decide⟩ ?_
      refine mw_iload_n (pc' := 9) dX2_partCountsCourt_8 rfl rfl rfl ?_
      refine mw_zald (pc' := 10) dX2_partCountsCourt_9 rfl lk_20 ⟨by decide, by decide⟩ (by rw [ln_20]; exact (o1 c3)) ?_
      refine mw_if_eq (tgt := 17) (pc' := 13) dX2_partCountsCourt_10 rfl (by decide) (fun c4 => ?_) (fun c4 => ?_)
      · refine mw_iconst (pc' := 18) dX2_partCountsCourt_17 rfl ⟨by decide, by decide⟩ ?_
        exact mw_st (bI_f (fun h => (fun h => (h c4)) h.2)).symm k2
      · refine mw_iconst (pc' := 14) dX2_partCountsCourt_13 rfl ⟨by decide, by decide⟩ ?_
        refine mw_goto (pc' := 0) (tgt := 18) dX2_partCountsCourt_14 (by decide) ?_
        exact mw_st (bI_t ⟨c3, c4⟩).symm k2
  exact mw_iret (pc' := 0) (S := []) dX2_partCountsCourt_18 rfl (Or.inr (Or.inl ⟨rfl, bI_rng⟩)) h
theorem eX2_partCountsCourt_p {x1 x2 : Int} {g : mG} {d : mD} {Q : mQ} (h : ((x2 = 0) → 0 ≤ x1 ∧ x1 < 30) ∧ (Q (.inl (bI ((x2 = 0) ∧ (¬ (d 38 x1 = 0))))) g d)) : MM mX2_partCountsCourt [vR 34, vI x1, vI x2] g d Q := by
  refine MM_of (by decide) rfl (by simp [catV]) (Nat.le_of_ble_eq_true rfl) ?_
  show MW mX2_partCountsCourt 0 0 0 [(0, vR 34), (1, vI x1), (2, vI x2)] [] g d Q
  refine mw_top (fun hT => ?_)
  have hG : 65 ≤ g.2.1 := hT.2
  refine mw_iload_n (pc' := 1) dX2_partCountsCourt_0 rfl rfl rfl ?_
  obtain ⟨o1, h⟩ := h
  suffices k2 : MW mX2_partCountsCourt 0 0 18 [(0, vR 34), (1, vI x1), (2, vI x2)] [vI (bI ((x2 = 0) ∧ (¬ (d 38 x1 = 0))))] g d Q by
    refine mw_if_ne (tgt := 17) (pc' := 4) dX2_partCountsCourt_1 rfl (by decide) (fun c3 => ?_) (fun c3 => ?_)
    · refine mw_iconst (pc' := 18) dX2_partCountsCourt_17 rfl ⟨by decide, by decide⟩ ?_
      exact mw_st (bI_f (fun h => (c3 h.1))).symm k2
    · refine mw_aload_n (v := vR 34) (pc' := 5) dX2_partCountsCourt_4 rfl rfl (Or.inl rfl) rfl ?_
      refine mw_getP (v := 38) (pc' := 8) dX2_partCountsCourt_5 rfl fr_RX2_21_34 rfl sp_34_3 ⟨by decide, by decide⟩ ?_
      refine mw_iload_n (pc' := 9) dX2_partCountsCourt_8 rfl rfl rfl ?_
      refine mw_zald (pc' := 10) dX2_partCountsCourt_9 rfl lk_38 ⟨by decide, by decide⟩ (by rw [ln_38]; exact (o1 c3)) ?_
      refine mw_if_eq (tgt := 17) (pc' := 13) dX2_partCountsCourt_10 rfl (by decide) (fun c4 => ?_) (fun c4 => ?_)
      · refine mw_iconst (pc' := 18) dX2_partCountsCourt_17 rfl ⟨by decide, by decide⟩ ?_
        exact mw_st (bI_f (fun h => (fun h => (h c4)) h.2)).symm k2
      · refine mw_iconst (pc' := 14) dX2_partCountsCourt_13 rfl ⟨by decide, by decide⟩ ?_
        refine mw_goto (pc' := 0) (tgt := 18) dX2_partCountsCourt_14 (by decide) ?_
        exact mw_st (bI_t ⟨c3, c4⟩).symm k2
  exact mw_iret (pc' := 0) (S := []) dX2_partCountsCourt_18 rfl (Or.inr (Or.inl ⟨rfl, bI_rng⟩)) h
theorem eX8_has {x1 : Int} {g : mG} {d : mD} {Q : mQ} (h : Q (.inl (bI ((¬ (x1 < 0)) ∧ (¬ (d 28 4 ≤ x1))))) g d) : MM mX8_has [vR 28, vI x1] g d Q := by
  refine MM_of (by decide) rfl (by simp [catV]) (Nat.le_of_ble_eq_true rfl) ?_
  show MW mX8_has 0 0 0 [(0, vR 28), (1, vI x1)] [] g d Q
  refine mw_top (fun hT => ?_)
  have hG : 65 ≤ g.2.1 := hT.2
  refine mw_iload_n (pc' := 1) dX8_has_0 rfl rfl rfl ?_
  suffices k1 : MW mX8_has 0 0 17 [(0, vR 28), (1, vI x1)] [vI (bI ((¬ (x1 < 0)) ∧ (¬ (d 28 4 ≤ x1))))] g d Q by
    refine mw_if_lt (tgt := 16) (pc' := 4) dX8_has_1 rfl (by decide) (fun c2 => ?_) (fun c2 => ?_)
    · refine mw_iconst (pc' := 17) dX8_has_16 rfl ⟨by decide, by decide⟩ ?_
      exact mw_st (bI_f (fun h => (h.1 c2))).symm k1
    · refine mw_iload_n (pc' := 5) dX8_has_4 rfl rfl rfl ?_
      refine mw_aload_n (v := vR 28) (pc' := 6) dX8_has_5 rfl rfl (Or.inl rfl) rfl ?_
      refine mw_getI (ji := 4) (pc' := 9) dX8_has_6 rfl fi_RX8_30_28 rfl ⟨by decide, by decide⟩ ?_
      refine mw_icmp_ge (tgt := 16) (pc' := 12) dX8_has_9 rfl (by decide) (fun c3 => ?_) (fun c3 => ?_)
      · refine mw_iconst (pc' := 17) dX8_has_16 rfl ⟨by decide, by decide⟩ ?_
        exact mw_st (bI_f (fun h => (fun h => (h c3)) h.2)).symm k1
      · refine mw_iconst (pc' := 13) dX8_has_12 rfl ⟨by decide, by decide⟩ ?_
        refine mw_goto (pc' := 0) (tgt := 17) dX8_has_13 (by decide) ?_
        exact mw_st (bI_t ⟨c2, c3⟩).symm k1
  exact mw_iret (pc' := 0) (S := []) dX8_has_17 rfl (Or.inr (Or.inl ⟨rfl, bI_rng⟩)) h
theorem eX8_isInForce {x1 : Int} {g : mG} {d : mD} {Q : mQ} (h : (0 ≤ x1 ∧ x1 < 12) ∧ (Q (.inl (bI (d 32 x1 = 4999))) g d)) : MM mX8_isInForce [vR 28, vI x1] g d Q := by
  refine MM_of (by decide) rfl (by simp [catV]) (Nat.le_of_ble_eq_true rfl) ?_
  show MW mX8_isInForce 0 0 0 [(0, vR 28), (1, vI x1)] [] g d Q
  refine mw_top (fun hT => ?_)
  have hG : 65 ≤ g.2.1 := hT.2
  refine mw_aload_n (v := vR 28) (pc' := 1) dX8_isInForce_0 rfl rfl (Or.inl rfl) rfl ?_
  refine mw_getP (v := 32) (pc' := 4) dX8_isInForce_1 rfl fr_RX8_21_28 rfl sp_28_3 ⟨by decide, by decide⟩ ?_
  refine mw_iload_n (pc' := 5) dX8_isInForce_4 rfl rfl rfl ?_
  obtain ⟨o1, h⟩ := h
  refine mw_iald (pc' := 6) dX8_isInForce_5 rfl lk_32 ⟨by decide, by decide⟩ (by rw [ln_32]; exact o1) ?_
  refine mw_sipush (pc' := 9) dX8_isInForce_6 rfl ⟨by decide, by decide⟩ ?_
  suffices k2 : MW mX8_isInForce 0 0 17 [(0, vR 28), (1, vI x1)] [vI (bI (d 32 x1 = 4999))] g d Q by
    refine mw_icmp_ne (tgt := 16) (pc' := 12) dX8_isInForce_9 rfl (by decide) (fun c3 => ?_) (fun c3 => ?_)
    · refine mw_iconst (pc' := 17) dX8_isInForce_16 rfl ⟨by decide, by decide⟩ ?_
      exact mw_st (bI_f (fun h => (c3 h))).symm k2
    · refine mw_iconst (pc' := 13) dX8_isInForce_12 rfl ⟨by decide, by decide⟩ ?_
      refine mw_goto (pc' := 0) (tgt := 17) dX8_isInForce_13 (by decide) ?_
      exact mw_st (bI_t c3).symm k2
  exact mw_iret (pc' := 0) (S := []) dX8_isInForce_17 rfl (Or.inr (Or.inl ⟨rfl, bI_rng⟩)) h
theorem eX8_concerns {x1 x2 x3 : Int} {g : mG} {d : mD} {Q : mQ} (h : (0 ≤ x1 ∧ x1 < 12) ∧ ((((d 29 x1 = (-1)) ∨ (d 29 x1 = x2)) → 0 ≤ d 30 x1) ∧ ((((d 29 x1 = (-1)) ∨ (d 29 x1 = x2)) → 0 ≤ x3 ∧ x3 < 32) ∧ (Q (.inl (bI (((d 29 x1 = (-1)) ∨ (d 29 x1 = x2)) ∧ (((d 30 x1) / 2 ^ (x3).toNat) % 2 = 1)))) g d)))) : MM mX8_concerns [vR 28, vI x1, vI x2, vI x3] g d Q := by
  refine MM_of (by decide) rfl (by simp [catV]) (Nat.le_of_ble_eq_true rfl) ?_
  show MW mX8_concerns 0 0 0 [(0, vR 28), (1, vI x1), (2, vI x2), (3, vI x3)] [] g d Q
  refine mw_top (fun hT => ?_)
  have hG : 65 ≤ g.2.1 := hT.2
  refine mw_aload_n (v := vR 28) (pc' := 1) dX8_concerns_0 rfl rfl (Or.inl rfl) rfl ?_
  refine mw_getP (v := 29) (pc' := 4) dX8_concerns_1 rfl fr_RX8_9_28 rfl sp_28_0 ⟨by decide, by decide⟩ ?_
  refine mw_iload_n (pc' := 5) dX8_concerns_4 rfl rfl rfl ?_
  obtain ⟨o1, h⟩ := h
  refine mw_iald (pc' := 6) dX8_concerns_5 rfl lk_29 ⟨by decide, by decide⟩ (by rw [ln_29]; exact o1) ?_
  refine mw_iconst (pc' := 7) dX8_concerns_6 rfl ⟨by decide, by decide⟩ ?_
  suffices k3 : MW mX8_concerns 0 0 25 [(0, vR 28), (1, vI x1), (2, vI x2), (3, vI x3)] [vI (bI ((d 29 x1 = (-1)) ∨ (d 29 x1 = x2)))] g d Q by
    refine mw_icmp_eq (tgt := 20) (pc' := 10) dX8_concerns_7 rfl (by decide) (fun c4 => ?_) (fun c4 => ?_)
    · refine mw_iconst (pc' := 21) dX8_concerns_20 rfl ⟨by decide, by decide⟩ ?_
      refine mw_goto (pc' := 0) (tgt := 25) dX8_concerns_21 (by decide) ?_
      exact mw_st (bI_t (Or.inl c4)).symm k3
    · refine mw_aload_n (v := vR 28) (pc' := 11) dX8_concerns_10 rfl rfl (Or.inl rfl) rfl ?_
      refine mw_getP (v := 29) (pc' := 14) dX8_concerns_11 rfl fr_RX8_9_28 rfl sp_28_0 ⟨by decide, by decide⟩ ?_
      refine mw_iload_n (pc' := 15) dX8_concerns_14 rfl rfl rfl ?_
      refine mw_iald (pc' := 16) dX8_concerns_15 rfl lk_29 ⟨by decide, by decide⟩ (by rw [ln_29]; exact o1) ?_
      refine mw_iload_n (pc' := 17) dX8_concerns_16 rfl rfl rfl ?_
      refine mw_icmp_ne (tgt := 24) (pc' := 20) dX8_concerns_17 rfl (by decide) (fun c5 => ?_) (fun c5 => ?_)
      · refine mw_iconst (pc' := 25) dX8_concerns_24 rfl ⟨by decide, by decide⟩ ?_
        exact mw_st (bI_f (fun h => h.elim (fun q => (c4 q)) (fun h => (c5 h)))).symm k3
      · refine mw_iconst (pc' := 21) dX8_concerns_20 rfl ⟨by decide, by decide⟩ ?_
        refine mw_goto (pc' := 0) (tgt := 25) dX8_concerns_21 (by decide) ?_
        exact mw_st (bI_t (Or.inr c5)).symm k3
  refine mw_istore (pc' := 27) (L' := [(0, vR 28), (1, vI x1), (2, vI x2), (3, vI x3), (4, vI (bI ((d 29 x1 = (-1)) ∨ (d 29 x1 = x2))))]) dX8_concerns_25 rfl (by decide) rfl ?_
  refine mw_iload (pc' := 29) dX8_concerns_27 rfl rfl ?_
  obtain ⟨o7, h⟩ := h
  obtain ⟨o8, h⟩ := h
  suffices k9 : MW mX8_concerns 0 0 51 [(0, vR 28), (1, vI x1), (2, vI x2), (3, vI x3), (4, vI (bI ((d 29 x1 = (-1)) ∨ (d 29 x1 = x2))))] [vI (bI (((d 29 x1 = (-1)) ∨ (d 29 x1 = x2)) ∧ (((d 30 x1) / 2 ^ (x3).toNat) % 2 = 1)))] g d Q by
    refine mw_if_eq (tgt := 50) (pc' := 32) dX8_concerns_29 rfl (by decide) (fun c10 => ?_) (fun c10 => ?_)
    · replace c10 := bI_0.mp c10
      refine mw_iconst (pc' := 51) dX8_concerns_50 rfl ⟨by decide, by decide⟩ ?_
      exact mw_st (bI_f (fun h => (c10 h.1))).symm k9
    · replace c10 := bI_n0.mp c10
      refine mw_aload_n (v := vR 28) (pc' := 33) dX8_concerns_32 rfl rfl (Or.inl rfl) rfl ?_
      refine mw_getP (v := 30) (pc' := 36) dX8_concerns_33 rfl fr_RX8_15_28 rfl sp_28_1 ⟨by decide, by decide⟩ ?_
      refine mw_iload_n (pc' := 37) dX8_concerns_36 rfl rfl rfl ?_
      refine mw_iald (pc' := 38) dX8_concerns_37 rfl lk_30 ⟨by decide, by decide⟩ (by rw [ln_30]; exact o1) ?_
      refine mw_iload_n (pc' := 39) dX8_concerns_38 rfl rfl rfl ?_
      refine mw_ishr (pc' := 40) dX8_concerns_39 rfl (o7 c10) (o8 c10) ?_
      refine mw_iconst (pc' := 41) dX8_concerns_40 rfl ⟨by decide, by decide⟩ ?_
      refine mw_imask (n := 2) (n1 := 2) (k := 1) (pc' := 42) dX8_concerns_41 rfl (by decide) (by decide) (by decide) (by decide) ?_
      refine mw_iconst (pc' := 43) dX8_concerns_42 rfl ⟨by decide, by decide⟩ ?_
      refine mw_icmp_ne (tgt := 50) (pc' := 46) dX8_concerns_43 rfl (by decide) (fun c11 => ?_) (fun c11 => ?_)
      · refine mw_iconst (pc' := 51) dX8_concerns_50 rfl ⟨by decide, by decide⟩ ?_
        exact mw_st (bI_f (fun h => (fun h => (c11 h)) h.2)).symm k9
      · refine mw_iconst (pc' := 47) dX8_concerns_46 rfl ⟨by decide, by decide⟩ ?_
        refine mw_goto (pc' := 0) (tgt := 51) dX8_concerns_47 (by decide) ?_
        exact mw_st (bI_t ⟨c10, c11⟩).symm k9
  exact mw_iret (pc' := 0) (S := []) dX8_concerns_51 rfl (Or.inr (Or.inl ⟨rfl, bI_rng⟩)) h
theorem eX8_add {x1 x2 x3 : Int} {g : mG} {d : mD} {Q : mQ} (h : ((d 28 4 < 12) → (0 ≤ d 28 4 ∧ d 28 4 < 12) ∧ ((iI ((d 28 4) + 1)) ∧ ((iI (((d 28 4) + 1) - 1)) ∧ (Q (.inl (((d 28 4) + 1) - 1)) g (ud (ud (ud (ud (ud d 29 (d 28 4) x1) 30 (d 28 4) x2) 31 (d 28 4) x3) 32 (d 28 4) 4999) 28 4 ((d 28 4) + 1)))))) ∧ ((¬ (d 28 4 < 12)) → Q (.inl (-3)) g d)) : MM mX8_add [vR 28, vI x1, vI x2, vI x3] g d Q := by
  refine MM_of (by decide) rfl (by simp [catV]) (Nat.le_of_ble_eq_true rfl) ?_
  show MW mX8_add 0 0 0 [(0, vR 28), (1, vI x1), (2, vI x2), (3, vI x3)] [] g d Q
  refine mw_top (fun hT => ?_)
  have hG : 65 ≤ g.2.1 := hT.2
  refine mw_aload_n (v := vR 28) (pc' := 1) dX8_add_0 rfl rfl (Or.inl rfl) rfl ?_
  refine mw_getI (ji := 4) (pc' := 4) dX8_add_1 rfl fi_RX8_30_28 rfl ⟨by decide, by decide⟩ ?_
  refine mw_bipush (pc' := 6) dX8_add_4 rfl ⟨by decide, by decide⟩ ?_
  refine mw_icmp_lt (tgt := 12) (pc' := 9) dX8_add_6 rfl (by decide) (fun c1 => ?_) (fun c1 => ?_)
  · replace h := h.1 c1
    refine mw_aload_n (v := vR 28) (pc' := 13) dX8_add_12 rfl rfl (Or.inl rfl) rfl ?_
    refine mw_getP (v := 29) (pc' := 16) dX8_add_13 rfl fr_RX8_9_28 rfl sp_28_0 ⟨by decide, by decide⟩ ?_
    refine mw_aload_n (v := vR 28) (pc' := 17) dX8_add_16 rfl rfl (Or.inl rfl) rfl ?_
    refine mw_getI (ji := 4) (pc' := 20) dX8_add_17 rfl fi_RX8_30_28 rfl ⟨by decide, by decide⟩ ?_
    refine mw_iload_n (pc' := 21) dX8_add_20 rfl rfl rfl ?_
    obtain ⟨o2, h⟩ := h
    refine mw_iast (pc' := 22) dX8_add_21 rfl lk_29 ⟨by decide, by decide⟩ (by rw [ln_29]; exact o2) ?_
    refine mw_aload_n (v := vR 28) (pc' := 23) dX8_add_22 rfl rfl (Or.inl rfl) rfl ?_
    refine mw_getP (v := 30) (pc' := 26) dX8_add_23 rfl fr_RX8_15_28 rfl sp_28_1 ⟨by decide, by decide⟩ ?_
    refine mw_aload_n (v := vR 28) (pc' := 27) dX8_add_26 rfl rfl (Or.inl rfl) rfl ?_
    refine mw_getI (ji := 4) (pc' := 30) dX8_add_27 rfl fi_RX8_30_28 rfl ⟨by decide, by decide⟩ ?_
    refine mw_st (b := d 28 4) (udA (by decide) (rfl)) ?_
    refine mw_iload_n (pc' := 31) dX8_add_30 rfl rfl rfl ?_
    refine mw_iast (pc' := 32) dX8_add_31 rfl lk_30 ⟨by decide, by decide⟩ (by rw [ln_30]; exact o2) ?_
    refine mw_aload_n (v := vR 28) (pc' := 33) dX8_add_32 rfl rfl (Or.inl rfl) rfl ?_
    refine mw_getP (v := 31) (pc' := 36) dX8_add_33 rfl fr_RX8_18_28 rfl sp_28_2 ⟨by decide, by decide⟩ ?_
    refine mw_aload_n (v := vR 28) (pc' := 37) dX8_add_36 rfl rfl (Or.inl rfl) rfl ?_
    refine mw_getI (ji := 4) (pc' := 40) dX8_add_37 rfl fi_RX8_30_28 rfl ⟨by decide, by decide⟩ ?_
    refine mw_st (b := d 28 4) (udA (by decide) (udA (by decide) (rfl))) ?_
    refine mw_iload_n (pc' := 41) dX8_add_40 rfl rfl rfl ?_
    refine mw_iast (pc' := 42) dX8_add_41 rfl lk_31 ⟨by decide, by decide⟩ (by rw [ln_31]; exact o2) ?_
    refine mw_aload_n (v := vR 28) (pc' := 43) dX8_add_42 rfl rfl (Or.inl rfl) rfl ?_
    refine mw_getP (v := 32) (pc' := 46) dX8_add_43 rfl fr_RX8_21_28 rfl sp_28_3 ⟨by decide, by decide⟩ ?_
    refine mw_aload_n (v := vR 28) (pc' := 47) dX8_add_46 rfl rfl (Or.inl rfl) rfl ?_
    refine mw_getI (ji := 4) (pc' := 50) dX8_add_47 rfl fi_RX8_30_28 rfl ⟨by decide, by decide⟩ ?_
    refine mw_st (b := d 28 4) (udA (by decide) (udA (by decide) (udA (by decide) (rfl)))) ?_
    refine mw_sipush (pc' := 53) dX8_add_50 rfl ⟨by decide, by decide⟩ ?_
    refine mw_iast (pc' := 54) dX8_add_53 rfl lk_32 ⟨by decide, by decide⟩ (by rw [ln_32]; exact o2) ?_
    refine mw_aload_n (v := vR 28) (pc' := 55) dX8_add_54 rfl rfl (Or.inl rfl) rfl ?_
    refine mw_dup (pc' := 56) dX8_add_55 rfl rfl ?_
    refine mw_getI (ji := 4) (pc' := 59) dX8_add_56 rfl fi_RX8_30_28 rfl ⟨by decide, by decide⟩ ?_
    refine mw_st (b := d 28 4) (udA (by decide) (udA (by decide) (udA (by decide) (udA (by decide) (rfl))))) ?_
    refine mw_iconst (pc' := 60) dX8_add_59 rfl ⟨by decide, by decide⟩ ?_
    obtain ⟨o6, h⟩ := h
    refine mw_iadd (pc' := 61) dX8_add_60 rfl o6 ?_
    refine mw_putI (ji := 4) (pc' := 64) dX8_add_61 rfl (fq_RX8_30_28) (by decide +kernel) rfl (Or.inl ⟨rfl, rc_28_4⟩) (Or.inr rfl) ⟨by decide, by omega⟩ ?_
    refine mw_aload_n (v := vR 28) (pc' := 65) dX8_add_64 rfl rfl (Or.inl rfl) rfl ?_
    refine mw_getI (ji := 4) (pc' := 68) dX8_add_65 rfl fi_RX8_30_28 rfl ⟨by decide, by decide⟩ ?_
    refine mw_st (b := (d 28 4) + 1) (udS) ?_
    refine mw_iconst (pc' := 69) dX8_add_68 rfl ⟨by decide, by decide⟩ ?_
    obtain ⟨o7, h⟩ := h
    refine mw_isub (pc' := 70) dX8_add_69 rfl o7 ?_
    exact mw_iret (pc' := 0) (S := []) dX8_add_70 rfl (Or.inl rfl) h
  · replace h := h.2 c1
    refine mw_bipush (pc' := 11) dX8_add_9 rfl ⟨by decide, by decide⟩ ?_
    exact mw_iret (pc' := 0) (S := []) dX8_add_11 rfl (Or.inl rfl) h
theorem eX1_has {x1 : Int} {g : mG} {d : mD} {Q : mQ} (h : Q (.inl (bI ((¬ (x1 < 0)) ∧ (¬ (d 33 7 ≤ x1))))) g d) : MM mX1_has [vR 33, vI x1] g d Q := by
  refine MM_of (by decide) rfl (by simp [catV]) (Nat.le_of_ble_eq_true rfl) ?_
  show MW mX1_has 0 0 0 [(0, vR 33), (1, vI x1)] [] g d Q
  refine mw_top (fun hT => ?_)
  have hG : 65 ≤ g.2.1 := hT.2
  refine mw_iload_n (pc' := 1) dX1_has_0 rfl rfl rfl ?_
  suffices k1 : MW mX1_has 0 0 17 [(0, vR 33), (1, vI x1)] [vI (bI ((¬ (x1 < 0)) ∧ (¬ (d 33 7 ≤ x1))))] g d Q by
    refine mw_if_lt (tgt := 16) (pc' := 4) dX1_has_1 rfl (by decide) (fun c2 => ?_) (fun c2 => ?_)
    · refine mw_iconst (pc' := 17) dX1_has_16 rfl ⟨by decide, by decide⟩ ?_
      exact mw_st (bI_f (fun h => (h.1 c2))).symm k1
    · refine mw_iload_n (pc' := 5) dX1_has_4 rfl rfl rfl ?_
      refine mw_aload_n (v := vR 33) (pc' := 6) dX1_has_5 rfl rfl (Or.inl rfl) rfl ?_
      refine mw_getI (ji := 7) (pc' := 9) dX1_has_6 rfl fi_RX1_47_33 rfl ⟨by decide, by decide⟩ ?_
      refine mw_icmp_ge (tgt := 16) (pc' := 12) dX1_has_9 rfl (by decide) (fun c3 => ?_) (fun c3 => ?_)
      · refine mw_iconst (pc' := 17) dX1_has_16 rfl ⟨by decide, by decide⟩ ?_
        exact mw_st (bI_f (fun h => (fun h => (h c3)) h.2)).symm k1
      · refine mw_iconst (pc' := 13) dX1_has_12 rfl ⟨by decide, by decide⟩ ?_
        refine mw_goto (pc' := 0) (tgt := 17) dX1_has_13 (by decide) ?_
        exact mw_st (bI_t ⟨c2, c3⟩).symm k1
  exact mw_iret (pc' := 0) (S := []) dX1_has_17 rfl (Or.inr (Or.inl ⟨rfl, bI_rng⟩)) h
theorem eX1_areLinked {x1 x2 : Int} {g : mG} {d : mD} {Q : mQ} (h : (0 ≤ x1 ∧ x1 < 8) ∧ ((0 ≤ d 46 x1) ∧ ((0 ≤ x2 ∧ x2 < 32) ∧ (Q (.inl (bI (((d 46 x1) / 2 ^ (x2).toNat) % 2 = 1))) g d)))) : MM mX1_areLinked [vR 33, vI x1, vI x2] g d Q := by
  refine MM_of (by decide) rfl (by simp [catV]) (Nat.le_of_ble_eq_true rfl) ?_
  show MW mX1_areLinked 0 0 0 [(0, vR 33), (1, vI x1), (2, vI x2)] [] g d Q
  refine mw_top (fun hT => ?_)
  have hG : 65 ≤ g.2.1 := hT.2
  refine mw_aload_n (v := vR 33) (pc' := 1) dX1_areLinked_0 rfl rfl (Or.inl rfl) rfl ?_
  refine mw_getP (v := 46) (pc' := 4) dX1_areLinked_1 rfl fr_RX1_18_33 rfl sp_33_1 ⟨by decide, by decide⟩ ?_
  refine mw_iload_n (pc' := 5) dX1_areLinked_4 rfl rfl rfl ?_
  obtain ⟨o1, h⟩ := h
  refine mw_iald (pc' := 6) dX1_areLinked_5 rfl lk_46 ⟨by decide, by decide⟩ (by rw [ln_46]; exact o1) ?_
  refine mw_iload_n (pc' := 7) dX1_areLinked_6 rfl rfl rfl ?_
  obtain ⟨o2, h⟩ := h
  obtain ⟨o3, h⟩ := h
  refine mw_ishr (pc' := 8) dX1_areLinked_7 rfl o2 o3 ?_
  refine mw_iconst (pc' := 9) dX1_areLinked_8 rfl ⟨by decide, by decide⟩ ?_
  refine mw_imask (n := 2) (n1 := 2) (k := 1) (pc' := 10) dX1_areLinked_9 rfl (by decide) (by decide) (by decide) (by decide) ?_
  refine mw_iconst (pc' := 11) dX1_areLinked_10 rfl ⟨by decide, by decide⟩ ?_
  suffices k4 : MW mX1_areLinked 0 0 19 [(0, vR 33), (1, vI x1), (2, vI x2)] [vI (bI (((d 46 x1) / 2 ^ (x2).toNat) % 2 = 1))] g d Q by
    refine mw_icmp_ne (tgt := 18) (pc' := 14) dX1_areLinked_11 rfl (by decide) (fun c5 => ?_) (fun c5 => ?_)
    · refine mw_iconst (pc' := 19) dX1_areLinked_18 rfl ⟨by decide, by decide⟩ ?_
      exact mw_st (bI_f (fun h => (c5 h))).symm k4
    · refine mw_iconst (pc' := 15) dX1_areLinked_14 rfl ⟨by decide, by decide⟩ ?_
      refine mw_goto (pc' := 0) (tgt := 19) dX1_areLinked_15 (by decide) ?_
      exact mw_st (bI_t c5).symm k4
  exact mw_iret (pc' := 0) (S := []) dX1_areLinked_19 rfl (Or.inr (Or.inl ⟨rfl, bI_rng⟩)) h
theorem eX1_inSameGroup {x1 x2 : Int} {g : mG} {d : mD} {Q : mQ} (h : (0 ≤ x1 ∧ x1 < 8) ∧ ((0 ≤ x2 ∧ x2 < 8) ∧ (Q (.inl (bI (d 47 x1 = d 47 x2))) g d))) : MM mX1_inSameGroup [vR 33, vI x1, vI x2] g d Q := by
  refine MM_of (by decide) rfl (by simp [catV]) (Nat.le_of_ble_eq_true rfl) ?_
  show MW mX1_inSameGroup 0 0 0 [(0, vR 33), (1, vI x1), (2, vI x2)] [] g d Q
  refine mw_top (fun hT => ?_)
  have hG : 65 ≤ g.2.1 := hT.2
  refine mw_aload_n (v := vR 33) (pc' := 1) dX1_inSameGroup_0 rfl rfl (Or.inl rfl) rfl ?_
  refine mw_getP (v := 47) (pc' := 4) dX1_inSameGroup_1 rfl fr_RX1_22_33 rfl sp_33_2 ⟨by decide, by decide⟩ ?_
  refine mw_iload_n (pc' := 5) dX1_inSameGroup_4 rfl rfl rfl ?_
  obtain ⟨o1, h⟩ := h
  refine mw_iald (pc' := 6) dX1_inSameGroup_5 rfl lk_47 ⟨by decide, by decide⟩ (by rw [ln_47]; exact o1) ?_
  refine mw_aload_n (v := vR 33) (pc' := 7) dX1_inSameGroup_6 rfl rfl (Or.inl rfl) rfl ?_
  refine mw_getP (v := 47) (pc' := 10) dX1_inSameGroup_7 rfl fr_RX1_22_33 rfl sp_33_2 ⟨by decide, by decide⟩ ?_
  refine mw_iload_n (pc' := 11) dX1_inSameGroup_10 rfl rfl rfl ?_
  obtain ⟨o2, h⟩ := h
  refine mw_iald (pc' := 12) dX1_inSameGroup_11 rfl lk_47 ⟨by decide, by decide⟩ (by rw [ln_47]; exact o2) ?_
  suffices k3 : MW mX1_inSameGroup 0 0 20 [(0, vR 33), (1, vI x1), (2, vI x2)] [vI (bI (d 47 x1 = d 47 x2))] g d Q by
    refine mw_icmp_ne (tgt := 19) (pc' := 15) dX1_inSameGroup_12 rfl (by decide) (fun c4 => ?_) (fun c4 => ?_)
    · refine mw_iconst (pc' := 20) dX1_inSameGroup_19 rfl ⟨by decide, by decide⟩ ?_
      exact mw_st (bI_f (fun h => (c4 h))).symm k3
    · refine mw_iconst (pc' := 16) dX1_inSameGroup_15 rfl ⟨by decide, by decide⟩ ?_
      refine mw_goto (pc' := 0) (tgt := 20) dX1_inSameGroup_16 (by decide) ?_
      exact mw_st (bI_t c4).symm k3
  exact mw_iret (pc' := 0) (S := []) dX1_inSameGroup_20 rfl (Or.inr (Or.inl ⟨rfl, bI_rng⟩)) h
theorem eX1_addClaim {x1 x2 x3 x4 : Int} {g : mG} {d : mD} {Q : mQ} (h : ((d 33 7 < 20) → (0 ≤ d 33 7 ∧ d 33 7 < 20) ∧ ((iI ((d 33 7) + 1)) ∧ ((iI (((d 33 7) + 1) - 1)) ∧ (Q (.inl (((d 33 7) + 1) - 1)) g (ud (ud (ud (ud (ud d 48 (d 33 7) x1) 49 (d 33 7) x2) 50 (d 33 7) x3) 51 (d 33 7) x4) 33 7 ((d 33 7) + 1)))))) ∧ ((¬ (d 33 7 < 20)) → Q (.inl (-3)) g d)) : MM mX1_addClaim [vR 33, vI x1, vI x2, vI x3, vI x4] g d Q := by
  refine MM_of (by decide) rfl (by simp [catV]) (Nat.le_of_ble_eq_true rfl) ?_
  show MW mX1_addClaim 0 0 0 [(0, vR 33), (1, vI x1), (2, vI x2), (3, vI x3), (4, vI x4)] [] g d Q
  refine mw_top (fun hT => ?_)
  have hG : 65 ≤ g.2.1 := hT.2
  refine mw_aload_n (v := vR 33) (pc' := 1) dX1_addClaim_0 rfl rfl (Or.inl rfl) rfl ?_
  refine mw_getI (ji := 7) (pc' := 4) dX1_addClaim_1 rfl fi_RX1_47_33 rfl ⟨by decide, by decide⟩ ?_
  refine mw_bipush (pc' := 6) dX1_addClaim_4 rfl ⟨by decide, by decide⟩ ?_
  refine mw_icmp_lt (tgt := 12) (pc' := 9) dX1_addClaim_6 rfl (by decide) (fun c1 => ?_) (fun c1 => ?_)
  · replace h := h.1 c1
    refine mw_aload_n (v := vR 33) (pc' := 13) dX1_addClaim_12 rfl rfl (Or.inl rfl) rfl ?_
    refine mw_getP (v := 48) (pc' := 16) dX1_addClaim_13 rfl fr_RX1_25_33 rfl sp_33_3 ⟨by decide, by decide⟩ ?_
    refine mw_aload_n (v := vR 33) (pc' := 17) dX1_addClaim_16 rfl rfl (Or.inl rfl) rfl ?_
    refine mw_getI (ji := 7) (pc' := 20) dX1_addClaim_17 rfl fi_RX1_47_33 rfl ⟨by decide, by decide⟩ ?_
    refine mw_iload_n (pc' := 21) dX1_addClaim_20 rfl rfl rfl ?_
    obtain ⟨o2, h⟩ := h
    refine mw_iast (pc' := 22) dX1_addClaim_21 rfl lk_48 ⟨by decide, by decide⟩ (by rw [ln_48]; exact o2) ?_
    refine mw_aload_n (v := vR 33) (pc' := 23) dX1_addClaim_22 rfl rfl (Or.inl rfl) rfl ?_
    refine mw_getP (v := 49) (pc' := 26) dX1_addClaim_23 rfl fr_RX1_28_33 rfl sp_33_4 ⟨by decide, by decide⟩ ?_
    refine mw_aload_n (v := vR 33) (pc' := 27) dX1_addClaim_26 rfl rfl (Or.inl rfl) rfl ?_
    refine mw_getI (ji := 7) (pc' := 30) dX1_addClaim_27 rfl fi_RX1_47_33 rfl ⟨by decide, by decide⟩ ?_
    refine mw_st (b := d 33 7) (udA (by decide) (rfl)) ?_
    refine mw_iload_n (pc' := 31) dX1_addClaim_30 rfl rfl rfl ?_
    refine mw_iast (pc' := 32) dX1_addClaim_31 rfl lk_49 ⟨by decide, by decide⟩ (by rw [ln_49]; exact o2) ?_
    refine mw_aload_n (v := vR 33) (pc' := 33) dX1_addClaim_32 rfl rfl (Or.inl rfl) rfl ?_
    refine mw_getP (v := 50) (pc' := 36) dX1_addClaim_33 rfl fr_RX1_31_33 rfl sp_33_5 ⟨by decide, by decide⟩ ?_
    refine mw_aload_n (v := vR 33) (pc' := 37) dX1_addClaim_36 rfl rfl (Or.inl rfl) rfl ?_
    refine mw_getI (ji := 7) (pc' := 40) dX1_addClaim_37 rfl fi_RX1_47_33 rfl ⟨by decide, by decide⟩ ?_
    refine mw_st (b := d 33 7) (udA (by decide) (udA (by decide) (rfl))) ?_
    refine mw_iload_n (pc' := 41) dX1_addClaim_40 rfl rfl rfl ?_
    refine mw_iast (pc' := 42) dX1_addClaim_41 rfl lk_50 ⟨by decide, by decide⟩ (by rw [ln_50]; exact o2) ?_
    refine mw_aload_n (v := vR 33) (pc' := 43) dX1_addClaim_42 rfl rfl (Or.inl rfl) rfl ?_
    refine mw_getP (v := 51) (pc' := 46) dX1_addClaim_43 rfl fr_RX1_34_33 rfl sp_33_6 ⟨by decide, by decide⟩ ?_
    refine mw_aload_n (v := vR 33) (pc' := 47) dX1_addClaim_46 rfl rfl (Or.inl rfl) rfl ?_
    refine mw_getI (ji := 7) (pc' := 50) dX1_addClaim_47 rfl fi_RX1_47_33 rfl ⟨by decide, by decide⟩ ?_
    refine mw_st (b := d 33 7) (udA (by decide) (udA (by decide) (udA (by decide) (rfl)))) ?_
    refine mw_iload (pc' := 52) dX1_addClaim_50 rfl rfl ?_
    refine mw_iast (pc' := 53) dX1_addClaim_52 rfl lk_51 ⟨by decide, by decide⟩ (by rw [ln_51]; exact o2) ?_
    refine mw_aload_n (v := vR 33) (pc' := 54) dX1_addClaim_53 rfl rfl (Or.inl rfl) rfl ?_
    refine mw_dup (pc' := 55) dX1_addClaim_54 rfl rfl ?_
    refine mw_getI (ji := 7) (pc' := 58) dX1_addClaim_55 rfl fi_RX1_47_33 rfl ⟨by decide, by decide⟩ ?_
    refine mw_st (b := d 33 7) (udA (by decide) (udA (by decide) (udA (by decide) (udA (by decide) (rfl))))) ?_
    refine mw_iconst (pc' := 59) dX1_addClaim_58 rfl ⟨by decide, by decide⟩ ?_
    obtain ⟨o6, h⟩ := h
    refine mw_iadd (pc' := 60) dX1_addClaim_59 rfl o6 ?_
    refine mw_putI (ji := 7) (pc' := 63) dX1_addClaim_60 rfl (fq_RX1_47_33) (by decide +kernel) rfl (Or.inl ⟨rfl, rc_33_7⟩) (Or.inr rfl) ⟨by decide, by omega⟩ ?_
    refine mw_aload_n (v := vR 33) (pc' := 64) dX1_addClaim_63 rfl rfl (Or.inl rfl) rfl ?_
    refine mw_getI (ji := 7) (pc' := 67) dX1_addClaim_64 rfl fi_RX1_47_33 rfl ⟨by decide, by decide⟩ ?_
    refine mw_st (b := (d 33 7) + 1) (udS) ?_
    refine mw_iconst (pc' := 68) dX1_addClaim_67 rfl ⟨by decide, by decide⟩ ?_
    obtain ⟨o7, h⟩ := h
    refine mw_isub (pc' := 69) dX1_addClaim_68 rfl o7 ?_
    exact mw_iret (pc' := 0) (S := []) dX1_addClaim_69 rfl (Or.inl rfl) h
  · replace h := h.2 c1
    refine mw_bipush (pc' := 11) dX1_addClaim_9 rfl ⟨by decide, by decide⟩ ?_
    exact mw_iret (pc' := 0) (S := []) dX1_addClaim_11 rfl (Or.inl rfl) h
theorem eX10_lastDayOfGap {x1 : Int} {g : mG} {d : mD} {Q : mQ} (h : ((¬ (d 53 4 ≤ x1)) → 0 ≤ x1 ∧ x1 < 12) ∧ (((¬ (d 53 4 ≤ x1)) → iI ((d 54 x1) - 1)) ∧ (Q (.inl (iT (d 53 4 ≤ x1) 4999 ((d 54 x1) - 1))) g d))) : MM mX10_lastDayOfGap [vR 53, vI x1] g d Q := by
  refine MM_of (by decide) rfl (by simp [catV]) (Nat.le_of_ble_eq_true rfl) ?_
  show MW mX10_lastDayOfGap 0 0 0 [(0, vR 53), (1, vI x1)] [] g d Q
  refine mw_top (fun hT => ?_)
  have hG : 65 ≤ g.2.1 := hT.2
  refine mw_iload_n (pc' := 1) dX10_lastDayOfGap_0 rfl rfl rfl ?_
  refine mw_aload_n (v := vR 53) (pc' := 2) dX10_lastDayOfGap_1 rfl rfl (Or.inl rfl) rfl ?_
  refine mw_getI (ji := 4) (pc' := 5) dX10_lastDayOfGap_2 rfl fi_RX10_26_53 rfl ⟨by decide, by decide⟩ ?_
  obtain ⟨o1, h⟩ := h
  obtain ⟨o2, h⟩ := h
  suffices k3 : MW mX10_lastDayOfGap 0 0 22 [(0, vR 53), (1, vI x1)] [vI (iT (d 53 4 ≤ x1) 4999 ((d 54 x1) - 1))] g d Q by
    refine mw_icmp_ge (tgt := 19) (pc' := 8) dX10_lastDayOfGap_5 rfl (by decide) (fun c4 => ?_) (fun c4 => ?_)
    · refine mw_sipush (pc' := 22) dX10_lastDayOfGap_19 rfl ⟨by decide, by decide⟩ ?_
      exact mw_st (((iT_t c4).trans rfl)).symm k3
    · refine mw_aload_n (v := vR 53) (pc' := 9) dX10_lastDayOfGap_8 rfl rfl (Or.inl rfl) rfl ?_
      refine mw_getP (v := 54) (pc' := 12) dX10_lastDayOfGap_9 rfl fr_RX10_9_53 rfl sp_53_2 ⟨by decide, by decide⟩ ?_
      refine mw_iload_n (pc' := 13) dX10_lastDayOfGap_12 rfl rfl rfl ?_
      refine mw_iald (pc' := 14) dX10_lastDayOfGap_13 rfl lk_54 ⟨by decide, by decide⟩ (by rw [ln_54]; exact (o1 c4)) ?_
      refine mw_iconst (pc' := 15) dX10_lastDayOfGap_14 rfl ⟨by decide, by decide⟩ ?_
      refine mw_isub (pc' := 16) dX10_lastDayOfGap_15 rfl (o2 c4) ?_
      refine mw_goto (pc' := 0) (tgt := 22) dX10_lastDayOfGap_16 (by decide) ?_
      exact mw_st (((iT_f c4).trans rfl)).symm k3
  exact mw_iret (pc' := 0) (S := []) dX10_lastDayOfGap_22 rfl (Or.inl rfl) h
theorem eX10_dayBehindRange {x1 x2 : Int} {g : mG} {d : mD} {Q : mQ} (h : ((¬ (d 53 4 ≤ x1)) → 0 ≤ x1 ∧ x1 < 12) ∧ (((¬ (d 53 4 ≤ x1)) → iI ((d 55 x1) + 1)) ∧ (Q (.inl (iT (d 53 4 ≤ x1) 5000 (max x2 ((d 55 x1) + 1)))) g d))) : MM mX10_dayBehindRange [vR 53, vI x1, vI x2] g d Q := by
  refine MM_of (by decide) rfl (by simp [catV]) (Nat.le_of_ble_eq_true rfl) ?_
  show MW mX10_dayBehindRange 0 0 0 [(0, vR 53), (1, vI x1), (2, vI x2)] [] g d Q
  refine mw_top (fun hT => ?_)
  have hG : 65 ≤ g.2.1 := hT.2
  refine mw_iload_n (pc' := 1) dX10_dayBehindRange_0 rfl rfl rfl ?_
  refine mw_aload_n (v := vR 53) (pc' := 2) dX10_dayBehindRange_1 rfl rfl (Or.inl rfl) rfl ?_
  refine mw_getI (ji := 4) (pc' := 5) dX10_dayBehindRange_2 rfl fi_RX10_26_53 rfl ⟨by decide, by decide⟩ ?_
  obtain ⟨o1, h⟩ := h
  obtain ⟨o2, h⟩ := h
  suffices k3 : MW mX10_dayBehindRange 0 0 26 [(0, vR 53), (1, vI x1), (2, vI x2)] [vI (iT (d 53 4 ≤ x1) 5000 (max x2 ((d 55 x1) + 1)))] g d Q by
    refine mw_icmp_ge (tgt := 23) (pc' := 8) dX10_dayBehindRange_5 rfl (by decide) (fun c4 => ?_) (fun c4 => ?_)
    · refine mw_sipush (pc' := 26) dX10_dayBehindRange_23 rfl ⟨by decide, by decide⟩ ?_
      exact mw_st (((iT_t c4).trans rfl)).symm k3
    · refine mw_iload_n (pc' := 9) dX10_dayBehindRange_8 rfl rfl rfl ?_
      refine mw_aload_n (v := vR 53) (pc' := 10) dX10_dayBehindRange_9 rfl rfl (Or.inl rfl) rfl ?_
      refine mw_getP (v := 55) (pc' := 13) dX10_dayBehindRange_10 rfl fr_RX10_15_53 rfl sp_53_3 ⟨by decide, by decide⟩ ?_
      refine mw_iload_n (pc' := 14) dX10_dayBehindRange_13 rfl rfl rfl ?_
      refine mw_iald (pc' := 15) dX10_dayBehindRange_14 rfl lk_55 ⟨by decide, by decide⟩ (by rw [ln_55]; exact (o1 c4)) ?_
      refine mw_iconst (pc' := 16) dX10_dayBehindRange_15 rfl ⟨by decide, by decide⟩ ?_
      refine mw_iadd (pc' := 17) dX10_dayBehindRange_16 rfl (o2 c4) ?_
      refine mw_max (pc' := 20) dX10_dayBehindRange_17 rfl bw_415 bw_416 bw_24 bw_417 (by decide) (by decide) (Nat.le_of_ble_eq_true rfl) ?_
      refine mw_goto (pc' := 0) (tgt := 26) dX10_dayBehindRange_20 (by decide) ?_
      exact mw_st (((iT_f c4).trans rfl)).symm k3
  exact mw_iret (pc' := 0) (S := []) dX10_dayBehindRange_26 rfl (Or.inl rfl) h
def pX10_skipRange_1 (x1 x2 : Int) (g : mG) (d : mD) (Q : mQ) : Prop := MW mX10_skipRange 0 0 2 [(0, vR 53), (1, vI x1), (2, vI x2)] [] g d Q
theorem eX10_skipRange {x1 : Int} {g : mG} {d : mD} {Q : mQ} (h : pX10_skipRange_1 x1 0 g d Q) : MM mX10_skipRange [vR 53, vI x1] g d Q := by
  refine MM_of (by decide) rfl (by simp [catV]) (Nat.le_of_ble_eq_true rfl) ?_
  show MW mX10_skipRange 0 0 0 [(0, vR 53), (1, vI x1)] [] g d Q
  refine mw_top (fun hT => ?_)
  have hG : 65 ≤ g.2.1 := hT.2
  refine mw_iconst (pc' := 1) dX10_skipRange_0 rfl ⟨by decide, by decide⟩ ?_
  refine mw_istore_n (pc' := 2) (L' := [(0, vR 53), (1, vI x1), (2, vI 0)]) dX10_skipRange_1 rfl rfl (by decide) rfl ?_
  exact h
theorem aX10_skipRange_1 {x1 x2 : Int} {g : mG} {d : mD} {Q : mQ} (h : ((d 53 4 ≤ x2) → Q (.inl x1) g d) ∧ ((¬ (d 53 4 ≤ x2)) → (0 ≤ x2 ∧ x2 < 12) ∧ ((((¬ (x1 < d 54 x2)) ∧ (¬ (d 55 x2 < x1))) → (iI ((d 55 x2) + 1)) ∧ (Q (.inl ((d 55 x2) + 1)) g d)) ∧ ((¬ ((¬ (x1 < d 54 x2)) ∧ (¬ (d 55 x2 < x1)))) → (iI (x2 + 1)) ∧ (pX10_skipRange_1 x1 (x2 + 1) g d Q))))) : pX10_skipRange_1 x1 x2 g d Q := by
  unfold pX10_skipRange_1
  refine mw_top (fun hT => ?_)
  have hG : 65 ≤ g.2.1 := hT.2
  refine mw_iload_n (pc' := 3) dX10_skipRange_2 rfl rfl rfl ?_
  refine mw_aload_n (v := vR 53) (pc' := 4) dX10_skipRange_3 rfl rfl (Or.inl rfl) rfl ?_
  refine mw_getI (ji := 4) (pc' := 7) dX10_skipRange_4 rfl fi_RX10_26_53 rfl ⟨by decide, by decide⟩ ?_
  refine mw_icmp_ge (tgt := 45) (pc' := 10) dX10_skipRange_7 rfl (by decide) (fun c7 => ?_) (fun c7 => ?_)
  · replace h := h.1 c7
    refine mw_iload_n (pc' := 46) dX10_skipRange_45 rfl rfl rfl ?_
    exact mw_iret (pc' := 0) (S := []) dX10_skipRange_46 rfl (Or.inl rfl) h
  · replace h := h.2 c7
    refine mw_iload_n (pc' := 11) dX10_skipRange_10 rfl rfl rfl ?_
    refine mw_aload_n (v := vR 53) (pc' := 12) dX10_skipRange_11 rfl rfl (Or.inl rfl) rfl ?_
    refine mw_getP (v := 54) (pc' := 15) dX10_skipRange_12 rfl fr_RX10_9_53 rfl sp_53_2 ⟨by decide, by decide⟩ ?_
    refine mw_iload_n (pc' := 16) dX10_skipRange_15 rfl rfl rfl ?_
    obtain ⟨o8, h⟩ := h
    refine mw_iald (pc' := 17) dX10_skipRange_16 rfl lk_54 ⟨by decide, by decide⟩ (by rw [ln_54]; exact o8) ?_
    suffices k14 : (((¬ (x1 < d 54 x2)) ∧ (¬ (d 55 x2 < x1))) → MW mX10_skipRange 0 0 30 [(0, vR 53), (1, vI x1), (2, vI x2)] [] g d Q) ∧ ((¬ ((¬ (x1 < d 54 x2)) ∧ (¬ (d 55 x2 < x1)))) → MW mX10_skipRange 0 0 39 [(0, vR 53), (1, vI x1), (2, vI x2)] [] g d Q) by
      refine mw_icmp_lt (tgt := 39) (pc' := 20) dX10_skipRange_17 rfl (by decide) (fun c15 => ?_) (fun c15 => ?_)
      · exact k14.2 (fun h => (h.1 c15))
      · refine mw_iload_n (pc' := 21) dX10_skipRange_20 rfl rfl rfl ?_
        refine mw_aload_n (v := vR 53) (pc' := 22) dX10_skipRange_21 rfl rfl (Or.inl rfl) rfl ?_
        refine mw_getP (v := 55) (pc' := 25) dX10_skipRange_22 rfl fr_RX10_15_53 rfl sp_53_3 ⟨by decide, by decide⟩ ?_
        refine mw_iload_n (pc' := 26) dX10_skipRange_25 rfl rfl rfl ?_
        refine mw_iald (pc' := 27) dX10_skipRange_26 rfl lk_55 ⟨by decide, by decide⟩ (by rw [ln_55]; exact o8) ?_
        refine mw_icmp_gt (tgt := 39) (pc' := 30) dX10_skipRange_27 rfl (by decide) (fun c16 => ?_) (fun c16 => ?_)
        · exact k14.2 (fun h => (fun h => (h c16)) h.2)
        · exact k14.1 ⟨c15, c16⟩
    refine ⟨fun c17 => ?_, fun c17 => ?_⟩
    · replace h := h.1 c17
      refine mw_aload_n (v := vR 53) (pc' := 31) dX10_skipRange_30 rfl rfl (Or.inl rfl) rfl ?_
      refine mw_getP (v := 55) (pc' := 34) dX10_skipRange_31 rfl fr_RX10_15_53 rfl sp_53_3 ⟨by decide, by decide⟩ ?_
      refine mw_iload_n (pc' := 35) dX10_skipRange_34 rfl rfl rfl ?_
      refine mw_iald (pc' := 36) dX10_skipRange_35 rfl lk_55 ⟨by decide, by decide⟩ (by rw [ln_55]; exact o8) ?_
      refine mw_iconst (pc' := 37) dX10_skipRange_36 rfl ⟨by decide, by decide⟩ ?_
      obtain ⟨o19, h⟩ := h
      refine mw_iadd (pc' := 38) dX10_skipRange_37 rfl o19 ?_
      exact mw_iret (pc' := 0) (S := []) dX10_skipRange_38 rfl (Or.inl rfl) h
    · replace h := h.2 c17
      obtain ⟨o20, h⟩ := h
      refine mw_iinc (pc' := 42) (L' := [(0, vR 53), (1, vI x1), (2, vI (x2 + 1))]) dX10_skipRange_39 rfl rfl (by decide) o20 rfl ?_
      refine mw_goto (pc' := 0) (tgt := 2) dX10_skipRange_42 (by decide) ?_
      exact h
theorem eX10_joinRange {x1 x2 : Int} {g : mG} {d : mD} {Q : mQ} (h : ((x1 ≤ x2) → ((¬ (d 53 4 ≤ 0)) → iI ((d 53 4) - 1)) ∧ (((¬ (d 53 4 ≤ 0)) → 0 ≤ (d 53 4) - 1 ∧ (d 53 4) - 1 < 12) ∧ (((¬ (d 53 4 ≤ 0)) → iI ((d 55 ((d 53 4) - 1)) + 1)) ∧ ((((¬ (d 53 4 ≤ 0)) ∧ (¬ ((d 55 ((d 53 4) - 1)) + 1 < x1))) → (iI ((d 53 4) - 1)) ∧ ((0 ≤ (d 53 4) - 1 ∧ (d 53 4) - 1 < 12) ∧ (Q (.inl 0) g (ud d 55 ((d 53 4) - 1) (max (d 55 ((d 53 4) - 1)) x2))))) ∧ ((¬ ((¬ (d 53 4 ≤ 0)) ∧ (¬ ((d 55 ((d 53 4) - 1)) + 1 < x1)))) → ((12 ≤ d 53 4) → Q (.inl 0) g d) ∧ ((¬ (12 ≤ d 53 4)) → (0 ≤ d 53 4 ∧ d 53 4 < 12) ∧ ((iI ((d 53 4) + 1)) ∧ (Q (.inl 0) g (ud (ud (ud d 54 (d 53 4) x1) 55 (d 53 4) x2) 53 4 ((d 53 4) + 1)))))))))) ∧ ((¬ (x1 ≤ x2)) → Q (.inl 0) g d)) : MM mX10_joinRange [vR 53, vI x1, vI x2] g d Q := by
  refine MM_of (by decide) rfl (by simp [catV]) (Nat.le_of_ble_eq_true rfl) ?_
  show MW mX10_joinRange 0 0 0 [(0, vR 53), (1, vI x1), (2, vI x2)] [] g d Q
  refine mw_top (fun hT => ?_)
  have hG : 65 ≤ g.2.1 := hT.2
  refine mw_iload_n (pc' := 1) dX10_joinRange_0 rfl rfl rfl ?_
  refine mw_iload_n (pc' := 2) dX10_joinRange_1 rfl rfl rfl ?_
  refine mw_icmp_ge (tgt := 6) (pc' := 5) dX10_joinRange_2 rfl (by decide) (fun c10 => ?_) (fun c10 => ?_)
  · replace h := h.1 c10
    refine mw_aload_n (v := vR 53) (pc' := 7) dX10_joinRange_6 rfl rfl (Or.inl rfl) rfl ?_
    refine mw_getI (ji := 4) (pc' := 10) dX10_joinRange_7 rfl fi_RX10_26_53 rfl ⟨by decide, by decide⟩ ?_
    obtain ⟨o11, h⟩ := h
    obtain ⟨o12, h⟩ := h
    obtain ⟨o13, h⟩ := h
    suffices k20 : (((¬ (d 53 4 ≤ 0)) ∧ (¬ ((d 55 ((d 53 4) - 1)) + 1 < x1))) → MW mX10_joinRange 0 0 30 [(0, vR 53), (1, vI x1), (2, vI x2)] [] g d Q) ∧ ((¬ ((¬ (d 53 4 ≤ 0)) ∧ (¬ ((d 55 ((d 53 4) - 1)) + 1 < x1)))) → MW mX10_joinRange 0 0 59 [(0, vR 53), (1, vI x1), (2, vI x2)] [] g d Q) by
      refine mw_if_le (tgt := 59) (pc' := 13) dX10_joinRange_10 rfl (by decide) (fun c21 => ?_) (fun c21 => ?_)
      · exact k20.2 (fun h => (h.1 c21))
      · refine mw_iload_n (pc' := 14) dX10_joinRange_13 rfl rfl rfl ?_
        refine mw_aload_n (v := vR 53) (pc' := 15) dX10_joinRange_14 rfl rfl (Or.inl rfl) rfl ?_
        refine mw_getP (v := 55) (pc' := 18) dX10_joinRange_15 rfl fr_RX10_15_53 rfl sp_53_3 ⟨by decide, by decide⟩ ?_
        refine mw_aload_n (v := vR 53) (pc' := 19) dX10_joinRange_18 rfl rfl (Or.inl rfl) rfl ?_
        refine mw_getI (ji := 4) (pc' := 22) dX10_joinRange_19 rfl fi_RX10_26_53 rfl ⟨by decide, by decide⟩ ?_
        refine mw_iconst (pc' := 23) dX10_joinRange_22 rfl ⟨by decide, by decide⟩ ?_
        refine mw_isub (pc' := 24) dX10_joinRange_23 rfl (o11 c21) ?_
        refine mw_iald (pc' := 25) dX10_joinRange_24 rfl lk_55 ⟨by decide, by decide⟩ (by rw [ln_55]; exact (o12 c21)) ?_
        refine mw_iconst (pc' := 26) dX10_joinRange_25 rfl ⟨by decide, by decide⟩ ?_
        refine mw_iadd (pc' := 27) dX10_joinRange_26 rfl (o13 c21) ?_
        refine mw_icmp_gt (tgt := 59) (pc' := 30) dX10_joinRange_27 rfl (by decide) (fun c22 => ?_) (fun c22 => ?_)
        · exact k20.2 (fun h => (fun h => (h c22)) h.2)
        · exact k20.1 ⟨c21, c22⟩
    refine ⟨fun c23 => ?_, fun c23 => ?_⟩
    · replace h := h.1 c23
      refine mw_aload_n (v := vR 53) (pc' := 31) dX10_joinRange_30 rfl rfl (Or.inl rfl) rfl ?_
      refine mw_getP (v := 55) (pc' := 34) dX10_joinRange_31 rfl fr_RX10_15_53 rfl sp_53_3 ⟨by decide, by decide⟩ ?_
      refine mw_aload_n (v := vR 53) (pc' := 35) dX10_joinRange_34 rfl rfl (Or.inl rfl) rfl ?_
      refine mw_getI (ji := 4) (pc' := 38) dX10_joinRange_35 rfl fi_RX10_26_53 rfl ⟨by decide, by decide⟩ ?_
      refine mw_iconst (pc' := 39) dX10_joinRange_38 rfl ⟨by decide, by decide⟩ ?_
      obtain ⟨o24, h⟩ := h
      refine mw_isub (pc' := 40) dX10_joinRange_39 rfl o24 ?_
      refine mw_aload_n (v := vR 53) (pc' := 41) dX10_joinRange_40 rfl rfl (Or.inl rfl) rfl ?_
      refine mw_getP (v := 55) (pc' := 44) dX10_joinRange_41 rfl fr_RX10_15_53 rfl sp_53_3 ⟨by decide, by decide⟩ ?_
      refine mw_aload_n (v := vR 53) (pc' := 45) dX10_joinRange_44 rfl rfl (Or.inl rfl) rfl ?_
      refine mw_getI (ji := 4) (pc' := 48) dX10_joinRange_45 rfl fi_RX10_26_53 rfl ⟨by decide, by decide⟩ ?_
      refine mw_iconst (pc' := 49) dX10_joinRange_48 rfl ⟨by decide, by decide⟩ ?_
      refine mw_isub (pc' := 50) dX10_joinRange_49 rfl o24 ?_
      obtain ⟨o26, h⟩ := h
      refine mw_iald (pc' := 51) dX10_joinRange_50 rfl lk_55 ⟨by decide, by decide⟩ (by rw [ln_55]; exact o26) ?_
      refine mw_iload_n (pc' := 52) dX10_joinRange_51 rfl rfl rfl ?_
      refine mw_max (pc' := 55) dX10_joinRange_52 rfl bw_415 bw_416 bw_24 bw_417 (by decide) (by decide) (Nat.le_of_ble_eq_true rfl) ?_
      refine mw_iast (pc' := 56) dX10_joinRange_55 rfl lk_55 ⟨by decide, by decide⟩ (by rw [ln_55]; exact o26) ?_
      refine mw_goto (pc' := 0) (tgt := 98) dX10_joinRange_56 (by decide) ?_
      exact mw_vret (pc' := 0) (S := []) dX10_joinRange_98 rfl h
    · replace h := h.2 c23
      refine mw_aload_n (v := vR 53) (pc' := 60) dX10_joinRange_59 rfl rfl (Or.inl rfl) rfl ?_
      refine mw_getI (ji := 4) (pc' := 63) dX10_joinRange_60 rfl fi_RX10_26_53 rfl ⟨by decide, by decide⟩ ?_
      refine mw_bipush (pc' := 65) dX10_joinRange_63 rfl ⟨by decide, by decide⟩ ?_
      refine mw_icmp_ge (tgt := 98) (pc' := 68) dX10_joinRange_65 rfl (by decide) (fun c28 => ?_) (fun c28 => ?_)
      · replace h := h.1 c28
        exact mw_vret (pc' := 0) (S := []) dX10_joinRange_98 rfl h
      · replace h := h.2 c28
        refine mw_aload_n (v := vR 53) (pc' := 69) dX10_joinRange_68 rfl rfl (Or.inl rfl) rfl ?_
        refine mw_getP (v := 54) (pc' := 72) dX10_joinRange_69 rfl fr_RX10_9_53 rfl sp_53_2 ⟨by decide, by decide⟩ ?_
        refine mw_aload_n (v := vR 53) (pc' := 73) dX10_joinRange_72 rfl rfl (Or.inl rfl) rfl ?_
        refine mw_getI (ji := 4) (pc' := 76) dX10_joinRange_73 rfl fi_RX10_26_53 rfl ⟨by decide, by decide⟩ ?_
        refine mw_iload_n (pc' := 77) dX10_joinRange_76 rfl rfl rfl ?_
        obtain ⟨o29, h⟩ := h
        refine mw_iast (pc' := 78) dX10_joinRange_77 rfl lk_54 ⟨by decide, by decide⟩ (by rw [ln_54]; exact o29) ?_
        refine mw_aload_n (v := vR 53) (pc' := 79) dX10_joinRange_78 rfl rfl (Or.inl rfl) rfl ?_
        refine mw_getP (v := 55) (pc' := 82) dX10_joinRange_79 rfl fr_RX10_15_53 rfl sp_53_3 ⟨by decide, by decide⟩ ?_
        refine mw_aload_n (v := vR 53) (pc' := 83) dX10_joinRange_82 rfl rfl (Or.inl rfl) rfl ?_
        refine mw_getI (ji := 4) (pc' := 86) dX10_joinRange_83 rfl fi_RX10_26_53 rfl ⟨by decide, by decide⟩ ?_
        refine mw_st (b := d 53 4) (udA (by decide) (rfl)) ?_
        refine mw_iload_n (pc' := 87) dX10_joinRange_86 rfl rfl rfl ?_
        refine mw_iast (pc' := 88) dX10_joinRange_87 rfl lk_55 ⟨by decide, by decide⟩ (by rw [ln_55]; exact o29) ?_
        refine mw_aload_n (v := vR 53) (pc' := 89) dX10_joinRange_88 rfl rfl (Or.inl rfl) rfl ?_
        refine mw_dup (pc' := 90) dX10_joinRange_89 rfl rfl ?_
        refine mw_getI (ji := 4) (pc' := 93) dX10_joinRange_90 rfl fi_RX10_26_53 rfl ⟨by decide, by decide⟩ ?_
        refine mw_st (b := d 53 4) (udA (by decide) (udA (by decide) (rfl))) ?_
        refine mw_iconst (pc' := 94) dX10_joinRange_93 rfl ⟨by decide, by decide⟩ ?_
        obtain ⟨o31, h⟩ := h
        refine mw_iadd (pc' := 95) dX10_joinRange_94 rfl o31 ?_
        refine mw_putI (ji := 4) (pc' := 98) dX10_joinRange_95 rfl (fq_RX10_26_53) (by decide +kernel) rfl (Or.inl ⟨rfl, rc_53_4⟩) (Or.inr rfl) ⟨by decide, by omega⟩ ?_
        exact mw_vret (pc' := 0) (S := []) dX10_joinRange_98 rfl h
  · replace h := h.2 c10
    exact mw_vret (pc' := 0) (S := []) dX10_joinRange_5 rfl h
theorem eX11_isDay {x0 : Int} {g : mG} {d : mD} {Q : mQ} (h : Q (.inl (bI ((¬ (x0 < 0)) ∧ (¬ (4999 < x0))))) g d) : MM mX11_isDay [vI x0] g d Q := by
  refine MM_of (by decide) rfl (by simp [catV]) (Nat.le_of_ble_eq_true rfl) ?_
  show MW mX11_isDay 0 0 0 [(0, vI x0)] [] g d Q
  refine mw_top (fun hT => ?_)
  have hG : 65 ≤ g.2.1 := hT.2
  refine mw_iload_n (pc' := 1) dX11_isDay_0 rfl rfl rfl ?_
  suffices k1 : MW mX11_isDay 0 0 16 [(0, vI x0)] [vI (bI ((¬ (x0 < 0)) ∧ (¬ (4999 < x0))))] g d Q by
    refine mw_if_lt (tgt := 15) (pc' := 4) dX11_isDay_1 rfl (by decide) (fun c2 => ?_) (fun c2 => ?_)
    · refine mw_iconst (pc' := 16) dX11_isDay_15 rfl ⟨by decide, by decide⟩ ?_
      exact mw_st (bI_f (fun h => (h.1 c2))).symm k1
    · refine mw_iload_n (pc' := 5) dX11_isDay_4 rfl rfl rfl ?_
      refine mw_sipush (pc' := 8) dX11_isDay_5 rfl ⟨by decide, by decide⟩ ?_
      refine mw_icmp_gt (tgt := 15) (pc' := 11) dX11_isDay_8 rfl (by decide) (fun c3 => ?_) (fun c3 => ?_)
      · refine mw_iconst (pc' := 16) dX11_isDay_15 rfl ⟨by decide, by decide⟩ ?_
        exact mw_st (bI_f (fun h => (fun h => (h c3)) h.2)).symm k1
      · refine mw_iconst (pc' := 12) dX11_isDay_11 rfl ⟨by decide, by decide⟩ ?_
        refine mw_goto (pc' := 0) (tgt := 16) dX11_isDay_12 (by decide) ?_
        exact mw_st (bI_t ⟨c2, c3⟩).symm k1
  exact mw_iret (pc' := 0) (S := []) dX11_isDay_16 rfl (Or.inr (Or.inl ⟨rfl, bI_rng⟩)) h
theorem eX11_isRule {x0 : Int} {g : mG} {d : mD} {Q : mQ} (h : Q (.inl (bI ((¬ (x0 < 0)) ∧ (¬ (8 ≤ x0))))) g d) : MM mX11_isRule [vI x0] g d Q := by
  refine MM_of (by decide) rfl (by simp [catV]) (Nat.le_of_ble_eq_true rfl) ?_
  show MW mX11_isRule 0 0 0 [(0, vI x0)] [] g d Q
  refine mw_top (fun hT => ?_)
  have hG : 65 ≤ g.2.1 := hT.2
  refine mw_iload_n (pc' := 1) dX11_isRule_0 rfl rfl rfl ?_
  suffices k1 : MW mX11_isRule 0 0 15 [(0, vI x0)] [vI (bI ((¬ (x0 < 0)) ∧ (¬ (8 ≤ x0))))] g d Q by
    refine mw_if_lt (tgt := 14) (pc' := 4) dX11_isRule_1 rfl (by decide) (fun c2 => ?_) (fun c2 => ?_)
    · refine mw_iconst (pc' := 15) dX11_isRule_14 rfl ⟨by decide, by decide⟩ ?_
      exact mw_st (bI_f (fun h => (h.1 c2))).symm k1
    · refine mw_iload_n (pc' := 5) dX11_isRule_4 rfl rfl rfl ?_
      refine mw_bipush (pc' := 7) dX11_isRule_5 rfl ⟨by decide, by decide⟩ ?_
      refine mw_icmp_ge (tgt := 14) (pc' := 10) dX11_isRule_7 rfl (by decide) (fun c3 => ?_) (fun c3 => ?_)
      · refine mw_iconst (pc' := 15) dX11_isRule_14 rfl ⟨by decide, by decide⟩ ?_
        exact mw_st (bI_f (fun h => (fun h => (h c3)) h.2)).symm k1
      · refine mw_iconst (pc' := 11) dX11_isRule_10 rfl ⟨by decide, by decide⟩ ?_
        refine mw_goto (pc' := 0) (tgt := 15) dX11_isRule_11 (by decide) ?_
        exact mw_st (bI_t ⟨c2, c3⟩).symm k1
  exact mw_iret (pc' := 0) (S := []) dX11_isRule_15 rfl (Or.inr (Or.inl ⟨rfl, bI_rng⟩)) h
theorem eX11_needDay {x0 : Int} {g : mG} {d : mD} {Q : mQ} (h : (((¬ (x0 < 0)) ∧ (¬ (4999 < x0))) → Q (.inl 0) g d) ∧ ((¬ ((¬ (x0 < 0)) ∧ (¬ (4999 < x0)))) → Q (.inr 2) g d)) : MM mX11_needDay [vI x0] g d Q := by
  refine MM_of (by decide) rfl (by simp [catV]) (Nat.le_of_ble_eq_true rfl) ?_
  show MW mX11_needDay 1 6 0 [(0, vI x0)] [] g d Q
  refine mw_top (fun hT => ?_)
  have hG : 65 ≤ g.2.1 := hT.2
  refine mw_iload_n (pc' := 1) dX11_needDay_0 rfl rfl rfl ?_
  refine mw_callS (M' := mX11_isDay) (A := [vI x0]) (S := []) (pc' := 4) dX11_needDay_1 rfl cl_RX11_181 cm_X11_isDay cs_X11_isDay ⟨by decide, by decide, by decide, by decide, by decide⟩ rfl rfl (Nat.le_of_ble_eq_true rfl) (eX11_isDay ?_)
  show MW mX11_needDay 1 6 4 [(0, vI x0)] [vI (bI ((¬ (x0 < 0)) ∧ (¬ (4999 < x0))))] g d Q
  refine mw_if_ne (tgt := 17) (pc' := 7) dX11_needDay_4 rfl (by decide) (fun c1 => ?_) (fun c1 => ?_)
  · replace c1 := bI_n0.mp c1
    replace h := h.1 c1
    exact mw_vret (pc' := 0) (S := []) dX11_needDay_17 rfl h
  · replace c1 := bI_0.mp c1
    replace h := h.2 c1
    exact mw_throw (pc' := 0) (k := 2) (i := 11) dX11_needDay_7 dX11_needDay_10 dX11_needDay_11 dX11_needDay_13 dX11_needDay_16 (by decide +kernel) (by decide +kernel) tk_RX11_196_200 ti_RX11_196_200 rfl ta_RX11_196_200 tg_RX11_196_200 rfl (by decide) (by decide) (by decide) (by decide) (by decide) h
theorem eX11_needRange {x0 x1 : Int} {g : mG} {d : mD} {Q : mQ} (h : (((¬ ((¬ (x0 < 0)) ∧ (¬ (4999 < x0)))) ∨ ((¬ ((¬ (x1 < 0)) ∧ (¬ (4999 < x1)))) ∨ (¬ (x0 ≤ x1)))) → Q (.inr 2) g d) ∧ ((¬ ((¬ ((¬ (x0 < 0)) ∧ (¬ (4999 < x0)))) ∨ ((¬ ((¬ (x1 < 0)) ∧ (¬ (4999 < x1)))) ∨ (¬ (x0 ≤ x1))))) → Q (.inl 0) g d)) : MM mX11_needRange [vI x0, vI x1] g d Q := by
  refine MM_of (by decide) rfl (by simp [catV]) (Nat.le_of_ble_eq_true rfl) ?_
  show MW mX11_needRange 1 6 0 [(0, vI x0), (1, vI x1)] [] g d Q
  refine mw_top (fun hT => ?_)
  have hG : 65 ≤ g.2.1 := hT.2
  refine mw_iload_n (pc' := 1) dX11_needRange_0 rfl rfl rfl ?_
  refine mw_callS (M' := mX11_isDay) (A := [vI x0]) (S := []) (pc' := 4) dX11_needRange_1 rfl cl_RX11_181 cm_X11_isDay cs_X11_isDay ⟨by decide, by decide, by decide, by decide, by decide⟩ rfl rfl (Nat.le_of_ble_eq_true rfl) (eX11_isDay ?_)
  show MW mX11_needRange 1 6 4 [(0, vI x0), (1, vI x1)] [vI (bI ((¬ (x0 < 0)) ∧ (¬ (4999 < x0))))] g d Q
  suffices k1 : (((¬ ((¬ (x0 < 0)) ∧ (¬ (4999 < x0)))) ∨ ((¬ ((¬ (x1 < 0)) ∧ (¬ (4999 < x1)))) ∨ (¬ (x0 ≤ x1)))) → MW mX11_needRange 1 6 19 [(0, vI x0), (1, vI x1)] [] g d Q) ∧ ((¬ ((¬ ((¬ (x0 < 0)) ∧ (¬ (4999 < x0)))) ∨ ((¬ ((¬ (x1 < 0)) ∧ (¬ (4999 < x1)))) ∨ (¬ (x0 ≤ x1))))) → MW mX11_needRange 1 6 29 [(0, vI x0), (1, vI x1)] [] g d Q) by
    refine mw_if_eq (tgt := 19) (pc' := 7) dX11_needRange_4 rfl (by decide) (fun c2 => ?_) (fun c2 => ?_)
    · replace c2 := bI_0.mp c2
      exact k1.1 (Or.inl c2)
    · replace c2 := bI_n0.mp c2
      refine mw_iload_n (pc' := 8) dX11_needRange_7 rfl rfl rfl ?_
      refine mw_callS (M' := mX11_isDay) (A := [vI x1]) (S := []) (pc' := 11) dX11_needRange_8 rfl cl_RX11_181 cm_X11_isDay cs_X11_isDay ⟨by decide, by decide, by decide, by decide, by decide⟩ rfl rfl (Nat.le_of_ble_eq_true rfl) (eX11_isDay ?_)
      show MW mX11_needRange 1 6 11 [(0, vI x0), (1, vI x1)] [vI (bI ((¬ (x1 < 0)) ∧ (¬ (4999 < x1))))] g d Q
      refine mw_if_eq (tgt := 19) (pc' := 14) dX11_needRange_11 rfl (by decide) (fun c3 => ?_) (fun c3 => ?_)
      · replace c3 := bI_0.mp c3
        exact k1.1 (Or.inr (Or.inl c3))
      · replace c3 := bI_n0.mp c3
        refine mw_iload_n (pc' := 15) dX11_needRange_14 rfl rfl rfl ?_
        refine mw_iload_n (pc' := 16) dX11_needRange_15 rfl rfl rfl ?_
        refine mw_icmp_ge (tgt := 29) (pc' := 19) dX11_needRange_16 rfl (by decide) (fun c4 => ?_) (fun c4 => ?_)
        · exact k1.2 (fun h => h.elim (fun q => (q c2)) (fun h => h.elim (fun q => (q c3)) (fun h => (h c4))))
        · exact k1.1 (Or.inr (Or.inr c4))
  refine ⟨fun c5 => ?_, fun c5 => ?_⟩
  · replace h := h.1 c5
    exact mw_throw (pc' := 0) (k := 2) (i := 12) dX11_needRange_19 dX11_needRange_22 dX11_needRange_23 dX11_needRange_25 dX11_needRange_28 (by decide +kernel) (by decide +kernel) tk_RX11_196_200 ti_RX11_196_200 rfl ta_RX11_196_200 tg_RX11_196_200 rfl (by decide) (by decide) (by decide) (by decide) (by decide) h
  · replace h := h.2 c5
    exact mw_vret (pc' := 0) (S := []) dX11_needRange_29 rfl h
theorem eX11_needRule {x0 : Int} {g : mG} {d : mD} {Q : mQ} (h : (((¬ (x0 < 0)) ∧ (¬ (8 ≤ x0))) → Q (.inl 0) g d) ∧ ((¬ ((¬ (x0 < 0)) ∧ (¬ (8 ≤ x0)))) → Q (.inr 3) g d)) : MM mX11_needRule [vI x0] g d Q := by
  refine MM_of (by decide) rfl (by simp [catV]) (Nat.le_of_ble_eq_true rfl) ?_
  show MW mX11_needRule 1 6 0 [(0, vI x0)] [] g d Q
  refine mw_top (fun hT => ?_)
  have hG : 65 ≤ g.2.1 := hT.2
  refine mw_iload_n (pc' := 1) dX11_needRule_0 rfl rfl rfl ?_
  refine mw_callS (M' := mX11_isRule) (A := [vI x0]) (S := []) (pc' := 4) dX11_needRule_1 rfl cl_RX11_241 cm_X11_isRule cs_X11_isRule ⟨by decide, by decide, by decide, by decide, by decide⟩ rfl rfl (Nat.le_of_ble_eq_true rfl) (eX11_isRule ?_)
  show MW mX11_needRule 1 6 4 [(0, vI x0)] [vI (bI ((¬ (x0 < 0)) ∧ (¬ (8 ≤ x0))))] g d Q
  refine mw_if_ne (tgt := 17) (pc' := 7) dX11_needRule_4 rfl (by decide) (fun c1 => ?_) (fun c1 => ?_)
  · replace c1 := bI_n0.mp c1
    replace h := h.1 c1
    exact mw_vret (pc' := 0) (S := []) dX11_needRule_17 rfl h
  · replace c1 := bI_0.mp c1
    replace h := h.2 c1
    exact mw_throw (pc' := 0) (k := 3) (i := 14) dX11_needRule_7 dX11_needRule_10 dX11_needRule_11 dX11_needRule_13 dX11_needRule_16 (by decide +kernel) (by decide +kernel) tk_RX11_132_136 ti_RX11_132_136 rfl ta_RX11_132_136 tg_RX11_132_136 rfl (by decide) (by decide) (by decide) (by decide) (by decide) h
theorem eX11_needNotBeforeDayZero {x0 : Int} {g : mG} {d : mD} {Q : mQ} (h : ((0 ≤ x0) → Q (.inl x0) g d) ∧ ((¬ (0 ≤ x0)) → Q (.inr 4) g d)) : MM mX11_needNotBeforeDayZero [vI x0] g d Q := by
  refine MM_of (by decide) rfl (by simp [catV]) (Nat.le_of_ble_eq_true rfl) ?_
  show MW mX11_needNotBeforeDayZero 1 6 0 [(0, vI x0)] [] g d Q
  refine mw_top (fun hT => ?_)
  have hG : 65 ≤ g.2.1 := hT.2
  refine mw_iload_n (pc' := 1) dX11_needNotBeforeDayZero_0 rfl rfl rfl ?_
  refine mw_if_ge (tgt := 14) (pc' := 4) dX11_needNotBeforeDayZero_1 rfl (by decide) (fun c1 => ?_) (fun c1 => ?_)
  · replace h := h.1 c1
    refine mw_iload_n (pc' := 15) dX11_needNotBeforeDayZero_14 rfl rfl rfl ?_
    exact mw_iret (pc' := 0) (S := []) dX11_needNotBeforeDayZero_15 rfl (Or.inl rfl) h
  · replace h := h.2 c1
    exact mw_throw4 (pc' := 0) (i := 15) dX11_needNotBeforeDayZero_4 dX11_needNotBeforeDayZero_7 dX11_needNotBeforeDayZero_8 dX11_needNotBeforeDayZero_10 dX11_needNotBeforeDayZero_13 tk_RX11_117_121 ti_RX11_117_121 rfl t4_RX11_117_121 t5_RX11_117_121 rfl (by decide) (by decide) (by decide) (by decide) (by decide) h
theorem eX11_needSomeDay {x0 : Int} {g : mG} {d : mD} {Q : mQ} (h : ((x0 = 5000) → Q (.inr 4) g d) ∧ ((¬ (x0 = 5000)) → Q (.inl x0) g d)) : MM mX11_needSomeDay [vI x0] g d Q := by
  refine MM_of (by decide) rfl (by simp [catV]) (Nat.le_of_ble_eq_true rfl) ?_
  show MW mX11_needSomeDay 1 6 0 [(0, vI x0)] [] g d Q
  refine mw_top (fun hT => ?_)
  have hG : 65 ≤ g.2.1 := hT.2
  refine mw_iload_n (pc' := 1) dX11_needSomeDay_0 rfl rfl rfl ?_
  refine mw_sipush (pc' := 4) dX11_needSomeDay_1 rfl ⟨by decide, by decide⟩ ?_
  refine mw_icmp_ne (tgt := 18) (pc' := 7) dX11_needSomeDay_4 rfl (by decide) (fun c1 => ?_) (fun c1 => ?_)
  · replace h := h.2 c1
    refine mw_iload_n (pc' := 19) dX11_needSomeDay_18 rfl rfl rfl ?_
    exact mw_iret (pc' := 0) (S := []) dX11_needSomeDay_19 rfl (Or.inl rfl) h
  · replace h := h.1 c1
    exact mw_throw4W (pc' := 0) (i := 18) dX11_needSomeDay_7 dX11_needSomeDay_10 dX11_needSomeDay_11 dX11_needSomeDay_14 dX11_needSomeDay_17 tk_RX11_117_121 ti_RX11_117_121 rfl t4_RX11_117_121 t5_RX11_117_121 rfl (by decide) (by decide) (by decide) (by decide) (by decide) h
