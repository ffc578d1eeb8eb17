theorem fr_RX4_11_56 : FR RX4 11 56 2 := ⟨(show LK 56 = 4 by decide +kernel) ▸ fg_RX4_11, by decide +kernel, by decide +kernel, by decide⟩
theorem sp_56_2 : ((56, 2, 57) : Int × Int × Int) ∈ SPl := by decide +kernel
theorem fr_RX4_18_56 : FR RX4 18 56 0 := ⟨(show LK 56 = 4 by decide +kernel) ▸ fg_RX4_18, by decide +kernel, by decide +kernel, by decide⟩
theorem sp_56_0 : ((56, 0, 10) : Int × Int × Int) ∈ SPl := by decide +kernel
theorem fi_RX4_30_10 : FI RX4 30 10 2 := ⟨(show LK 10 = 0 by decide +kernel) ▸ fg_RX4_30, by decide +kernel, by decide +kernel, by decide⟩
theorem fr_RX4_36_10 : FR RX4 36 10 1 := ⟨(show LK 10 = 0 by decide +kernel) ▸ fg_RX4_36, by decide +kernel, by decide +kernel, by decide⟩
theorem fr_RX4_15_56 : FR RX4 15 56 3 := ⟨(show LK 56 = 4 by decide +kernel) ▸ fg_RX4_15, by decide +kernel, by decide +kernel, by decide⟩
theorem sp_56_3 : ((56, 3, 58) : Int × Int × Int) ∈ SPl := by decide +kernel
theorem fr_RX4_22_56 : FR RX4 22 56 1 := ⟨(show LK 56 = 4 by decide +kernel) ▸ fg_RX4_22, by decide +kernel, by decide +kernel, by decide⟩
theorem sp_56_1 : ((56, 1, 28) : Int × Int × Int) ∈ SPl := by decide +kernel
theorem fi_RX4_43_28 : FI RX4 43 28 4 := ⟨(show LK 28 = 8 by decide +kernel) ▸ fg_RX4_43, by decide +kernel, by decide +kernel, by decide⟩
theorem fr_RX4_48_16 : FR RX4 48 16 0 := ⟨(show LK 16 = 2 by decide +kernel) ▸ fg_RX4_48, by decide +kernel, by decide +kernel, by decide⟩
theorem fr_RX4_53_16 : FR RX4 53 16 1 := ⟨(show LK 16 = 2 by decide +kernel) ▸ fg_RX4_53, by decide +kernel, by decide +kernel, by decide⟩
theorem fr_RX4_60_28 : FR RX4 60 28 2 := ⟨(show LK 28 = 8 by decide +kernel) ▸ fg_RX4_60, by decide +kernel, by decide +kernel, by decide⟩
theorem fr_RX4_63_28 : FR RX4 63 28 3 := ⟨(show LK 28 = 8 by decide +kernel) ▸ fg_RX4_63, by decide +kernel, by decide +kernel, by decide⟩
theorem fi_RX4_90_56 : FI RX4 90 56 5 := ⟨(show LK 56 = 4 by decide +kernel) ▸ fg_RX4_90, by decide +kernel, by decide +kernel, by decide⟩
theorem fi_RX4_93_56 : FI RX4 93 56 4 := ⟨(show LK 56 = 4 by decide +kernel) ▸ fg_RX4_93, by decide +kernel, by decide +kernel, by decide⟩
theorem fr_RX4_96_16 : FR RX4 96 16 4 := ⟨(show LK 16 = 2 by decide +kernel) ▸ fg_RX4_96, by decide +kernel, by decide +kernel, by decide⟩
theorem rc_56_4 : RC 56 4 = 0 := by decide +kernel
theorem fq_RX4_93_56 : FP RX4 93 (LK 56) 4 .int false := (show LK 56 = 4 by decide +kernel) ▸ fp_RX4_93
theorem rc_56_5 : RC 56 5 = 0 := by decide +kernel
theorem fq_RX4_90_56 : FP RX4 90 (LK 56) 5 .int false := (show LK 56 = 4 by decide +kernel) ▸ fp_RX4_90
theorem fr_RX4_99_16 : FR RX4 99 16 2 := ⟨(show LK 16 = 2 by decide +kernel) ▸ fg_RX4_99, by decide +kernel, by decide +kernel, by decide⟩
theorem eX4_isCourt {x1 : Int} {g : mG} {d : mD} {Q : mQ} (h : (0 ≤ x1) ∧ (Q (.inl (bI ((¬ (5 ≤ x1 % 7)) ∧ (¬ (mkB (d 57) x1))))) g d)) : MM mX4_isCourt [vR 56, vI x1] g d Q := by
  refine MM_of (by decide) rfl (by simp [catV]) (Nat.le_of_ble_eq_true rfl) ?_
  show MW mX4_isCourt 0 0 0 [(0, vR 56), (1, vI x1)] [] g d Q
  refine mw_top (fun hT => ?_)
  have hG : 65 ≤ g.2.1 := hT.2
  refine mw_iload_n (pc' := 1) dX4_isCourt_0 rfl rfl rfl ?_
  refine mw_bipush (pc' := 3) dX4_isCourt_1 rfl ⟨by decide, by decide⟩ ?_
  obtain ⟨o1, h⟩ := h
  refine mw_irem (pc' := 4) dX4_isCourt_3 rfl o1 (by decide) ?_
  refine mw_iconst (pc' := 5) dX4_isCourt_4 rfl ⟨by decide, by decide⟩ ?_
  suffices k2 : MW mX4_isCourt 0 0 24 [(0, vR 56), (1, vI x1)] [vI (bI ((¬ (5 ≤ x1 % 7)) ∧ (¬ (mkB (d 57) x1))))] g d Q by
    refine mw_icmp_ge (tgt := 23) (pc' := 8) dX4_isCourt_5 rfl (by decide) (fun c3 => ?_) (fun c3 => ?_)
    · refine mw_iconst (pc' := 24) dX4_isCourt_23 rfl ⟨by decide, by decide⟩ ?_
      exact mw_st (bI_f (fun h => (h.1 c3))).symm k2
    · refine mw_aload_n (v := vR 56) (pc' := 9) dX4_isCourt_8 rfl rfl (Or.inl rfl) rfl ?_
      refine mw_getP (v := 57) (pc' := 12) dX4_isCourt_9 rfl fr_RX4_11_56 rfl sp_56_2 ⟨by decide, by decide⟩ ?_
      refine mw_iload_n (pc' := 13) dX4_isCourt_12 rfl rfl rfl ?_
      refine mw_callS (M' := mX4_isMarked) (A := [vR 57, vI x1]) (S := []) (pc' := 16) dX4_isCourt_13 rfl cl_RX4_72 cm_X4_isMarked cs_X4_isMarked ⟨by decide, by decide, by decide, by decide, by decide⟩ rfl rfl (Nat.le_of_ble_eq_true rfl) (f_isMarked_h ?_)
      show MW mX4_isCourt 0 0 16 [(0, vR 56), (1, vI x1)] [vI (bI (mkB (d 57) x1))] g d Q
      refine mw_if_ne (tgt := 23) (pc' := 19) dX4_isCourt_16 rfl (by decide) (fun c4 => ?_) (fun c4 => ?_)
      · replace c4 := bI_n0.mp c4
        refine mw_iconst (pc' := 24) dX4_isCourt_23 rfl ⟨by decide, by decide⟩ ?_
        exact mw_st (bI_f (fun h => (fun h => (h c4)) h.2)).symm k2
      · replace c4 := bI_0.mp c4
        refine mw_iconst (pc' := 20) dX4_isCourt_19 rfl ⟨by decide, by decide⟩ ?_
        refine mw_goto (pc' := 0) (tgt := 24) dX4_isCourt_20 (by decide) ?_
        exact mw_st (bI_t ⟨c3, c4⟩).symm k2
  exact mw_iret (pc' := 0) (S := []) dX4_isCourt_24 rfl (Or.inr (Or.inl ⟨rfl, bI_rng⟩)) h
def pX4_markHolidays_1 (x1 : Int) (g : mG) (d : mD) (Q : mQ) : Prop := MW mX4_markHolidays 0 0 9 [(0, vR 56), (1, vI x1)] [] g d Q
theorem eX4_markHolidays {g : mG} {d : mD} {Q : mQ} (h : MM mX4_clear [vR 57] g d (fun o g3 d4 => match o with | .inl v2 => pX4_markHolidays_1 0 g3 d4 Q | .inr k => Q (.inr k) g3 d4)) : MM mX4_markHolidays [vR 56] g d Q := by
  refine MM_of (by decide) rfl (by simp [catV]) (Nat.le_of_ble_eq_true rfl) ?_
  show MW mX4_markHolidays 0 0 0 [(0, vR 56)] [] g d Q
  refine mw_top (fun hT => ?_)
  have hG : 65 ≤ g.2.1 := hT.2
  refine mw_aload_n (v := vR 56) (pc' := 1) dX4_markHolidays_0 rfl rfl (Or.inl rfl) rfl ?_
  refine mw_getP (v := 57) (pc' := 4) dX4_markHolidays_1 rfl fr_RX4_11_56 rfl sp_56_2 ⟨by decide, by decide⟩ ?_
  refine mw_callS (M' := mX4_clear) (A := [vR 57]) (S := []) (pc' := 7) dX4_markHolidays_4 rfl cl_RX4_26 cm_X4_clear cs_X4_clear ⟨by decide, by decide, by decide, by decide, by decide⟩ rfl rfl (Nat.le_of_ble_eq_true rfl) (MM.mono ?_ h)
  intro o g3 d4 h1
  rcases o with v2 | k
  · refine mw_top (fun hT => ?_)
    have hG : 65 ≤ g3.2.1 := hT.2
    show MW mX4_markHolidays 0 0 7 [(0, vR 56)] [] g3 d4 Q
    refine mw_iconst (pc' := 8) dX4_markHolidays_7 rfl ⟨by decide, by decide⟩ ?_
    refine mw_istore_n (pc' := 9) (L' := [(0, vR 56), (1, vI 0)]) dX4_markHolidays_8 rfl rfl (by decide) rfl ?_
    exact h1
  · exact mx_out rfl h1
theorem aX4_markHolidays_1 {x1 : Int} {g : mG} {d : mD} {Q : mQ} (h : ((d 10 2 ≤ x1) → Q (.inl 0) g d) ∧ ((¬ (d 10 2 ≤ x1)) → (0 ≤ x1 ∧ x1 < 40) ∧ (MM mX4_mark [vR 57, vI (d 11 x1), vI (d 11 x1)] g d (fun o g14 d15 => match o with | .inl v13 => (iI (x1 + 1)) ∧ (pX4_markHolidays_1 (x1 + 1) g14 d15 Q) | .inr k => Q (.inr k) g14 d15)))) : pX4_markHolidays_1 x1 g d Q := by
  unfold pX4_markHolidays_1
  refine mw_top (fun hT => ?_)
  have hG : 65 ≤ g.2.1 := hT.2
  refine mw_iload_n (pc' := 10) dX4_markHolidays_9 rfl rfl rfl ?_
  refine mw_aload_n (v := vR 56) (pc' := 11) dX4_markHolidays_10 rfl rfl (Or.inl rfl) rfl ?_
  refine mw_getP (v := 10) (pc' := 14) dX4_markHolidays_11 rfl fr_RX4_18_56 rfl sp_56_0 ⟨by decide, by decide⟩ ?_
  refine mw_getI (ji := 2) (pc' := 17) dX4_markHolidays_14 rfl fi_RX4_30_10 rfl ⟨by decide, by decide⟩ ?_
  refine mw_icmp_ge (tgt := 51) (pc' := 20) dX4_markHolidays_17 rfl (by decide) (fun c9 => ?_) (fun c9 => ?_)
  · replace h := h.1 c9
    exact mw_vret (pc' := 0) (S := []) dX4_markHolidays_51 rfl h
  · replace h := h.2 c9
    refine mw_aload_n (v := vR 56) (pc' := 21) dX4_markHolidays_20 rfl rfl (Or.inl rfl) rfl ?_
    refine mw_getP (v := 57) (pc' := 24) dX4_markHolidays_21 rfl fr_RX4_11_56 rfl sp_56_2 ⟨by decide, by decide⟩ ?_
    refine mw_aload_n (v := vR 56) (pc' := 25) dX4_markHolidays_24 rfl rfl (Or.inl rfl) rfl ?_
    refine mw_getP (v := 10) (pc' := 28) dX4_markHolidays_25 rfl fr_RX4_18_56 rfl sp_56_0 ⟨by decide, by decide⟩ ?_
    refine mw_getP (v := 11) (pc' := 31) dX4_markHolidays_28 rfl fr_RX4_36_10 rfl sp_10_1 ⟨by decide, by decide⟩ ?_
    refine mw_iload_n (pc' := 32) dX4_markHolidays_31 rfl rfl rfl ?_
    obtain ⟨o10, h⟩ := h
    refine mw_iald (pc' := 33) dX4_markHolidays_32 rfl lk_11 ⟨by decide, by decide⟩ (by rw [ln_11]; exact o10) ?_
    refine mw_aload_n (v := vR 56) (pc' := 34) dX4_markHolidays_33 rfl rfl (Or.inl rfl) rfl ?_
    refine mw_getP (v := 10) (pc' := 37) dX4_markHolidays_34 rfl fr_RX4_18_56 rfl sp_56_0 ⟨by decide, by decide⟩ ?_
    refine mw_getP (v := 11) (pc' := 40) dX4_markHolidays_37 rfl fr_RX4_36_10 rfl sp_10_1 ⟨by decide, by decide⟩ ?_
    refine mw_iload_n (pc' := 41) dX4_markHolidays_40 rfl rfl rfl ?_
    refine mw_iald (pc' := 42) dX4_markHolidays_41 rfl lk_11 ⟨by decide, by decide⟩ (by rw [ln_11]; exact o10) ?_
    refine mw_callS (M' := mX4_mark) (A := [vR 57, vI (d 11 x1), vI (d 11 x1)]) (S := []) (pc' := 45) dX4_markHolidays_42 rfl cl_RX4_39 cm_X4_mark cs_X4_mark ⟨by decide, by decide, by decide, by decide, by decide⟩ rfl rfl (Nat.le_of_ble_eq_true rfl) (MM.mono ?_ h)
    intro o g14 d15 h12
    rcases o with v13 | k
    · refine mw_top (fun hT => ?_)
      have hG : 65 ≤ g14.2.1 := hT.2
      show MW mX4_markHolidays 0 0 45 [(0, vR 56), (1, vI x1)] [] g14 d15 Q
      obtain ⟨o16, h12⟩ := h12
      refine mw_iinc (pc' := 48) (L' := [(0, vR 56), (1, vI (x1 + 1))]) dX4_markHolidays_45 rfl rfl (by decide) o16 rfl ?_
      refine mw_goto (pc' := 0) (tgt := 9) dX4_markHolidays_48 (by decide) ?_
      exact h12
    · exact mx_out rfl h12
def pX4_markStays_1 (x2 x3 : Int) (g : mG) (d : mD) (Q : mQ) : Prop := MW mX4_markStays 0 0 9 [(0, vR 56), (1, vR 16), (2, vI x2), (3, vI x3)] [] g d Q
theorem eX4_markStays {x2 : Int} {g : mG} {d : mD} {Q : mQ} (h : MM mX4_clear [vR 58] g d (fun o g3 d4 => match o with | .inl v2 => pX4_markStays_1 x2 0 g3 d4 Q | .inr k => Q (.inr k) g3 d4)) : MM mX4_markStays [vR 56, vR 16, vI x2] g d Q := by
  refine MM_of (by decide) rfl (by simp [catV]) (Nat.le_of_ble_eq_true rfl) ?_
  show MW mX4_markStays 0 0 0 [(0, vR 56), (1, vR 16), (2, vI x2)] [] g d Q
  refine mw_top (fun hT => ?_)
  have hG : 65 ≤ g.2.1 := hT.2
  refine mw_aload_n (v := vR 56) (pc' := 1) dX4_markStays_0 rfl rfl (Or.inl rfl) rfl ?_
  refine mw_getP (v := 58) (pc' := 4) dX4_markStays_1 rfl fr_RX4_15_56 rfl sp_56_3 ⟨by decide, by decide⟩ ?_
  refine mw_callS (M' := mX4_clear) (A := [vR 58]) (S := []) (pc' := 7) dX4_markStays_4 rfl cl_RX4_26 cm_X4_clear cs_X4_clear ⟨by decide, by decide, by decide, by decide, by decide⟩ rfl rfl (Nat.le_of_ble_eq_true rfl) (MM.mono ?_ h)
  intro o g3 d4 h1
  rcases o with v2 | k
  · refine mw_top (fun hT => ?_)
    have hG : 65 ≤ g3.2.1 := hT.2
    show MW mX4_markStays 0 0 7 [(0, vR 56), (1, vR 16), (2, vI x2)] [] g3 d4 Q
    refine mw_iconst (pc' := 8) dX4_markStays_7 rfl ⟨by decide, by decide⟩ ?_
    refine mw_istore_n (pc' := 9) (L' := [(0, vR 56), (1, vR 16), (2, vI x2), (3, vI 0)]) dX4_markStays_8 rfl rfl (by decide) rfl ?_
    exact h1
  · exact mx_out rfl h1
theorem aX4_markStays_1 {x2 x3 : Int} {g : mG} {d : mD} {Q : mQ} (h : ((d 28 4 ≤ x3) → Q (.inl 0) g d) ∧ ((¬ (d 28 4 ≤ x3)) → (0 ≤ x2 ∧ x2 < 30) ∧ ((0 ≤ x3 ∧ x3 < 12) ∧ ((((d 29 x3 = (-1)) ∨ (d 29 x3 = (d 17 x2))) → 0 ≤ d 30 x3) ∧ ((((d 29 x3 = (-1)) ∨ (d 29 x3 = (d 17 x2))) → 0 ≤ (d 18 x2) ∧ (d 18 x2) < 32) ∧ (((((d 29 x3 = (-1)) ∨ (d 29 x3 = (d 17 x2))) ∧ (((d 30 x3) / 2 ^ ((d 18 x2)).toNat) % (2 : Int) = 1)) → (iI ((d 31 x3) + 1)) ∧ (MM mX4_mark [vR 58, vI ((d 31 x3) + 1), vI (d 32 x3)] g d (fun o g36 d37 => match o with | .inl v35 => (iI (x3 + 1)) ∧ (pX4_markStays_1 x2 (x3 + 1) g36 d37 Q) | .inr k => Q (.inr k) g36 d37))) ∧ ((¬ (((d 29 x3 = (-1)) ∨ (d 29 x3 = (d 17 x2))) ∧ (((d 30 x3) / 2 ^ ((d 18 x2)).toNat) % (2 : Int) = 1))) → (iI (x3 + 1)) ∧ (pX4_markStays_1 x2 (x3 + 1) g d Q)))))))) : pX4_markStays_1 x2 x3 g d Q := by
  unfold pX4_markStays_1
  refine mw_top (fun hT => ?_)
  have hG : 65 ≤ g.2.1 := hT.2
  refine mw_iload_n (pc' := 10) dX4_markStays_9 rfl rfl rfl ?_
  refine mw_aload_n (v := vR 56) (pc' := 11) dX4_markStays_10 rfl rfl (Or.inl rfl) rfl ?_
  refine mw_getP (v := 28) (pc' := 14) dX4_markStays_11 rfl fr_RX4_22_56 rfl sp_56_1 ⟨by decide, by decide⟩ ?_
  refine mw_getI (ji := 4) (pc' := 17) dX4_markStays_14 rfl fi_RX4_43_28 rfl ⟨by decide, by decide⟩ ?_
  refine mw_icmp_ge (tgt := 76) (pc' := 20) dX4_markStays_17 rfl (by decide) (fun c18 => ?_) (fun c18 => ?_)
  · replace h := h.1 c18
    exact mw_vret (pc' := 0) (S := []) dX4_markStays_76 rfl h
  · replace h := h.2 c18
    refine mw_aload_n (v := vR 56) (pc' := 21) dX4_markStays_20 rfl rfl (Or.inl rfl) rfl ?_
    refine mw_getP (v := 28) (pc' := 24) dX4_markStays_21 rfl fr_RX4_22_56 rfl sp_56_1 ⟨by decide, by decide⟩ ?_
    refine mw_iload_n (pc' := 25) dX4_markStays_24 rfl rfl rfl ?_
    refine mw_aload_n (v := vR 16) (pc' := 26) dX4_markStays_25 rfl rfl (Or.inl rfl) rfl ?_
    refine mw_getP (v := 17) (pc' := 29) dX4_markStays_26 rfl fr_RX4_48_16 rfl sp_16_0 ⟨by decide, by decide⟩ ?_
    refine mw_iload_n (pc' := 30) dX4_markStays_29 rfl rfl rfl ?_
    obtain ⟨o19, h⟩ := h
    refine mw_iald (pc' := 31) dX4_markStays_30 rfl lk_17 ⟨by decide, by decide⟩ (by rw [ln_17]; exact o19) ?_
    refine mw_aload_n (v := vR 16) (pc' := 32) dX4_markStays_31 rfl rfl (Or.inl rfl) rfl ?_
    refine mw_getP (v := 18) (pc' := 35) dX4_markStays_32 rfl fr_RX4_53_16 rfl sp_16_1 ⟨by decide, by decide⟩ ?_
    refine mw_iload_n (pc' := 36) dX4_markStays_35 rfl rfl rfl ?_
    refine mw_iald (pc' := 37) dX4_markStays_36 rfl lk_18 ⟨by decide, by decide⟩ (by rw [ln_18]; exact o19) ?_
    obtain ⟨o21, h⟩ := h
    obtain ⟨o22, h⟩ := h
    obtain ⟨o23, h⟩ := h
    refine mw_callV (M' := mX8_concerns) (A := [vI x3, vI (d 17 x2), vI (d 18 x2)]) (A' := [vR 28, vI x3, vI (d 17 x2), vI (d 18 x2)]) (S := []) (a := 28) (pc' := 40) dX4_markStays_37 rfl cl_RX4_56 cm_X8_concerns cv_X8_concerns ⟨by decide, by decide, by decide, by decide, by decide⟩ rfl rfl rfl ⟨by decide, by omega⟩ (by decide +kernel) (by decide +kernel) (Nat.le_of_ble_eq_true rfl) (eX8_concerns (⟨o21, o22, o23, ?_⟩))
    show MW mX4_markStays 0 0 40 [(0, vR 56), (1, vR 16), (2, vI x2), (3, vI x3)] [vI (bI (((d 29 x3 = (-1)) ∨ (d 29 x3 = (d 17 x2))) ∧ (((d 30 x3) / 2 ^ ((d 18 x2)).toNat) % (2 : Int) = 1)))] g d Q
    refine mw_if_eq (tgt := 70) (pc' := 43) dX4_markStays_40 rfl (by decide) (fun c30 => ?_) (fun c30 => ?_)
    · replace c30 := bI_0.mp c30
      replace h := h.2 c30
      obtain ⟨o39, h⟩ := h
      refine mw_iinc (pc' := 73) (L' := [(0, vR 56), (1, vR 16), (2, vI x2), (3, vI (x3 + 1))]) dX4_markStays_70 rfl rfl (by decide) o39 rfl ?_
      refine mw_goto (pc' := 0) (tgt := 9) dX4_markStays_73 (by decide) ?_
      exact h
    · replace c30 := bI_n0.mp c30
      replace h := h.1 c30
      refine mw_aload_n (v := vR 56) (pc' := 44) dX4_markStays_43 rfl rfl (Or.inl rfl) rfl ?_
      refine mw_getP (v := 58) (pc' := 47) dX4_markStays_44 rfl fr_RX4_15_56 rfl sp_56_3 ⟨by decide, by decide⟩ ?_
      refine mw_aload_n (v := vR 56) (pc' := 48) dX4_markStays_47 rfl rfl (Or.inl rfl) rfl ?_
      refine mw_getP (v := 28) (pc' := 51) dX4_markStays_48 rfl fr_RX4_22_56 rfl sp_56_1 ⟨by decide, by decide⟩ ?_
      refine mw_getP (v := 31) (pc' := 54) dX4_markStays_51 rfl fr_RX4_60_28 rfl sp_28_2 ⟨by decide, by decide⟩ ?_
      refine mw_iload_n (pc' := 55) dX4_markStays_54 rfl rfl rfl ?_
      refine mw_iald (pc' := 56) dX4_markStays_55 rfl lk_31 ⟨by decide, by decide⟩ (by rw [ln_31]; exact o21) ?_
      refine mw_iconst (pc' := 57) dX4_markStays_56 rfl ⟨by decide, by decide⟩ ?_
      obtain ⟨o32, h⟩ := h
      refine mw_iadd (pc' := 58) dX4_markStays_57 rfl o32 ?_
      refine mw_aload_n (v := vR 56) (pc' := 59) dX4_markStays_58 rfl rfl (Or.inl rfl) rfl ?_
      refine mw_getP (v := 28) (pc' := 62) dX4_markStays_59 rfl fr_RX4_22_56 rfl sp_56_1 ⟨by decide, by decide⟩ ?_
      refine mw_getP (v := 32) (pc' := 65) dX4_markStays_62 rfl fr_RX4_63_28 rfl sp_28_3 ⟨by decide, by decide⟩ ?_
      refine mw_iload_n (pc' := 66) dX4_markStays_65 rfl rfl rfl ?_
      refine mw_iald (pc' := 67) dX4_markStays_66 rfl lk_32 ⟨by decide, by decide⟩ (by rw [ln_32]; exact o21) ?_
      refine mw_callS (M' := mX4_mark) (A := [vR 58, vI ((d 31 x3) + 1), vI (d 32 x3)]) (S := []) (pc' := 70) dX4_markStays_67 rfl cl_RX4_39 cm_X4_mark cs_X4_mark ⟨by decide, by decide, by decide, by decide, by decide⟩ rfl rfl (Nat.le_of_ble_eq_true rfl) (MM.mono ?_ h)
      intro o g36 d37 h34
      rcases o with v35 | k
      · refine mw_top (fun hT => ?_)
        have hG : 65 ≤ g36.2.1 := hT.2
        show MW mX4_markStays 0 0 70 [(0, vR 56), (1, vR 16), (2, vI x2), (3, vI x3)] [] g36 d37 Q
        obtain ⟨o38, h34⟩ := h34
        refine mw_iinc (pc' := 73) (L' := [(0, vR 56), (1, vR 16), (2, vI x2), (3, vI (x3 + 1))]) dX4_markStays_70 rfl rfl (by decide) o38 rfl ?_
        refine mw_goto (pc' := 0) (tgt := 9) dX4_markStays_73 (by decide) ?_
        exact h34
      · exact mx_out rfl h34
def pX4_countCourt_1 (x1 x2 x3 x4 : Int) (g : mG) (d : mD) (Q : mQ) : Prop := MW mX4_countCourt 0 0 9 [(0, vR 56), (1, vI x1), (2, vI x2), (3, vI x3), (4, vI x4)] [] g d Q
theorem eX4_countCourt {x1 x2 : Int} {g : mG} {d : mD} {Q : mQ} (h : MM mX4_markHolidays [vR 56] g d (fun o g3 d4 => match o with | .inl v2 => pX4_countCourt_1 x1 x2 0 x1 g3 d4 Q | .inr k => Q (.inr k) g3 d4)) : MM mX4_countCourt [vR 56, vI x1, vI x2] g d Q := by
  refine MM_of (by decide) rfl (by simp [catV]) (Nat.le_of_ble_eq_true rfl) ?_
  show MW mX4_countCourt 0 0 0 [(0, vR 56), (1, vI x1), (2, vI x2)] [] g d Q
  refine mw_top (fun hT => ?_)
  have hG : 65 ≤ g.2.1 := hT.2
  refine mw_aload_n (v := vR 56) (pc' := 1) dX4_countCourt_0 rfl rfl (Or.inl rfl) rfl ?_
  refine mw_callV (M' := mX4_markHolidays) (A := []) (A' := [vR 56]) (S := []) (a := 56) (pc' := 4) dX4_countCourt_1 rfl cl_RX4_76 cm_X4_markHolidays cv_X4_markHolidays ⟨by decide, by decide, by decide, by decide, by decide⟩ rfl rfl rfl ⟨by decide, by omega⟩ (by decide +kernel) (by decide +kernel) (Nat.le_of_ble_eq_true rfl) (MM.mono ?_ h)
  intro o g3 d4 h1
  rcases o with v2 | k
  · refine mw_top (fun hT => ?_)
    have hG : 65 ≤ g3.2.1 := hT.2
    show MW mX4_countCourt 0 0 4 [(0, vR 56), (1, vI x1), (2, vI x2)] [] g3 d4 Q
    refine mw_iconst (pc' := 5) dX4_countCourt_4 rfl ⟨by decide, by decide⟩ ?_
    refine mw_istore_n (pc' := 6) (L' := [(0, vR 56), (1, vI x1), (2, vI x2), (3, vI 0)]) dX4_countCourt_5 rfl rfl (by decide) rfl ?_
    refine mw_iload_n (pc' := 7) dX4_countCourt_6 rfl rfl rfl ?_
    refine mw_istore (pc' := 9) (L' := [(0, vR 56), (1, vI x1), (2, vI x2), (3, vI 0), (4, vI x1)]) dX4_countCourt_7 rfl (by decide) rfl ?_
    exact h1
  · exact mx_out rfl h1
theorem aX4_countCourt_1 {x1 x2 x3 x4 : Int} {g : mG} {d : mD} {Q : mQ} (h : ((x2 < x4) → Q (.inl x3) g d) ∧ ((¬ (x2 < x4)) → (0 ≤ x4) ∧ ((iI (x3 + (bI ((¬ (5 ≤ x4 % 7)) ∧ (¬ (mkB (d 57) x4)))))) ∧ ((iI (x4 + 1)) ∧ (pX4_countCourt_1 x1 x2 (x3 + (bI ((¬ (5 ≤ x4 % 7)) ∧ (¬ (mkB (d 57) x4))))) (x4 + 1) g d Q))))) : pX4_countCourt_1 x1 x2 x3 x4 g d Q := by
  unfold pX4_countCourt_1
  refine mw_top (fun hT => ?_)
  have hG : 65 ≤ g.2.1 := hT.2
  refine mw_iload (pc' := 11) dX4_countCourt_9 rfl rfl ?_
  refine mw_iload_n (pc' := 12) dX4_countCourt_11 rfl rfl rfl ?_
  refine mw_icmp_gt (tgt := 38) (pc' := 15) dX4_countCourt_12 rfl (by decide) (fun c7 => ?_) (fun c7 => ?_)
  · replace h := h.1 c7
    refine mw_iload_n (pc' := 39) dX4_countCourt_38 rfl rfl rfl ?_
    exact mw_iret (pc' := 0) (S := []) dX4_countCourt_39 rfl (Or.inl rfl) h
  · replace h := h.2 c7
    refine mw_iload_n (pc' := 16) dX4_countCourt_15 rfl rfl rfl ?_
    refine mw_aload_n (v := vR 56) (pc' := 17) dX4_countCourt_16 rfl rfl (Or.inl rfl) rfl ?_
    refine mw_iload (pc' := 19) dX4_countCourt_17 rfl rfl ?_
    obtain ⟨o8, h⟩ := h
    refine mw_callV (M' := mX4_isCourt) (A := [vI x4]) (A' := [vR 56, vI x4]) (S := [vI x3]) (a := 56) (pc' := 22) dX4_countCourt_19 rfl cl_RX4_79 cm_X4_isCourt cv_X4_isCourt ⟨by decide, by decide, by decide, by decide, by decide⟩ rfl rfl rfl ⟨by decide, by omega⟩ (by decide +kernel) (by decide +kernel) (Nat.le_of_ble_eq_true rfl) (eX4_isCourt (⟨o8, ?_⟩))
    show MW mX4_countCourt 0 0 22 [(0, vR 56), (1, vI x1), (2, vI x2), (3, vI x3), (4, vI x4)] [vI (bI ((¬ (5 ≤ x4 % 7)) ∧ (¬ (mkB (d 57) x4)))), vI x3] g d Q
    suffices k9 : MW mX4_countCourt 0 0 30 [(0, vR 56), (1, vI x1), (2, vI x2), (3, vI x3), (4, vI x4)] [vI (bI ((¬ (5 ≤ x4 % 7)) ∧ (¬ (mkB (d 57) x4)))), vI x3] g d Q by
      refine mw_if_eq (tgt := 29) (pc' := 25) dX4_countCourt_22 rfl (by decide) (fun c10 => ?_) (fun c10 => ?_)
      · replace c10 := bI_0.mp c10
        refine mw_iconst (pc' := 30) dX4_countCourt_29 rfl ⟨by decide, by decide⟩ ?_
        exact mw_st (bI_f (fun h => (c10 h))).symm k9
      · replace c10 := bI_n0.mp c10
        refine mw_iconst (pc' := 26) dX4_countCourt_25 rfl ⟨by decide, by decide⟩ ?_
        refine mw_goto (pc' := 0) (tgt := 30) dX4_countCourt_26 (by decide) ?_
        exact mw_st (bI_t c10).symm k9
    obtain ⟨o11, h⟩ := h
    refine mw_iadd (pc' := 31) dX4_countCourt_30 rfl o11 ?_
    refine mw_istore_n (pc' := 32) (L' := [(0, vR 56), (1, vI x1), (2, vI x2), (3, vI (x3 + (bI ((¬ (5 ≤ x4 % 7)) ∧ (¬ (mkB (d 57) x4)))))), (4, vI x4)]) dX4_countCourt_31 rfl rfl (by decide) rfl ?_
    obtain ⟨o12, h⟩ := h
    refine mw_iinc (pc' := 35) (L' := [(0, vR 56), (1, vI x1), (2, vI x2), (3, vI (x3 + (bI ((¬ (5 ≤ x4 % 7)) ∧ (¬ (mkB (d 57) x4)))))), (4, vI (x4 + 1))]) dX4_countCourt_32 rfl rfl (by decide) o12 rfl ?_
    refine mw_goto (pc' := 0) (tgt := 9) dX4_countCourt_35 (by decide) ?_
    exact h
def pX4_countStopped_1 (x2 x3 x4 x5 x6 : Int) (g : mG) (d : mD) (Q : mQ) : Prop := MW mX4_countStopped 0 0 12 [(0, vR 56), (1, vR 16), (2, vI x2), (3, vI x3), (4, vI x4), (5, vI x5), (6, vI x6)] [] g d Q
theorem eX4_countStopped {x2 x3 x4 : Int} {g : mG} {d : mD} {Q : mQ} (h : MM mX4_markStays [vR 56, vR 16, vI x2] g d (fun o g3 d4 => match o with | .inl v2 => pX4_countStopped_1 x2 x3 x4 0 x3 g3 d4 Q | .inr k => Q (.inr k) g3 d4)) : MM mX4_countStopped [vR 56, vR 16, vI x2, vI x3, vI x4] g d Q := by
  refine MM_of (by decide) rfl (by simp [catV]) (Nat.le_of_ble_eq_true rfl) ?_
  show MW mX4_countStopped 0 0 0 [(0, vR 56), (1, vR 16), (2, vI x2), (3, vI x3), (4, vI x4)] [] g d Q
  refine mw_top (fun hT => ?_)
  have hG : 65 ≤ g.2.1 := hT.2
  refine mw_aload_n (v := vR 56) (pc' := 1) dX4_countStopped_0 rfl rfl (Or.inl rfl) rfl ?_
  refine mw_aload_n (v := vR 16) (pc' := 2) dX4_countStopped_1 rfl rfl (Or.inl rfl) rfl ?_
  refine mw_iload_n (pc' := 3) dX4_countStopped_2 rfl rfl rfl ?_
  refine mw_callV (M' := mX4_markStays) (A := [vR 16, vI x2]) (A' := [vR 56, vR 16, vI x2]) (S := []) (a := 56) (pc' := 6) dX4_countStopped_3 rfl cl_RX4_82 cm_X4_markStays cv_X4_markStays ⟨by decide, by decide, by decide, by decide, by decide⟩ rfl rfl rfl ⟨by decide, by omega⟩ (by decide +kernel) (by decide +kernel) (Nat.le_of_ble_eq_true rfl) (MM.mono ?_ h)
  intro o g3 d4 h1
  rcases o with v2 | k
  · refine mw_top (fun hT => ?_)
    have hG : 65 ≤ g3.2.1 := hT.2
    show MW mX4_countStopped 0 0 6 [(0, vR 56), (1, vR 16), (2, vI x2), (3, vI x3), (4, vI x4)] [] g3 d4 Q
    refine mw_iconst (pc' := 7) dX4_countStopped_6 rfl ⟨by decide, by decide⟩ ?_
    refine mw_istore (pc' := 9) (L' := [(0, vR 56), (1, vR 16), (2, vI x2), (3, vI x3), (4, vI x4), (5, vI 0)]) dX4_countStopped_7 rfl (by decide) rfl ?_
    refine mw_iload_n (pc' := 10) dX4_countStopped_9 rfl rfl rfl ?_
    refine mw_istore (pc' := 12) (L' := [(0, vR 56), (1, vR 16), (2, vI x2), (3, vI x3), (4, vI x4), (5, vI 0), (6, vI x3)]) dX4_countStopped_10 rfl (by decide) rfl ?_
    exact h1
  · exact mx_out rfl h1
theorem aX4_countStopped_1 {x2 x3 x4 x5 x6 : Int} {g : mG} {d : mD} {Q : mQ} (h : ((x4 < x6) → Q (.inl x5) g d) ∧ ((¬ (x4 < x6)) → (iI (x5 + (bI (mkB (d 58) x6)))) ∧ ((iI (x6 + 1)) ∧ (pX4_countStopped_1 x2 x3 x4 (x5 + (bI (mkB (d 58) x6))) (x6 + 1) g d Q)))) : pX4_countStopped_1 x2 x3 x4 x5 x6 g d Q := by
  unfold pX4_countStopped_1
  refine mw_top (fun hT => ?_)
  have hG : 65 ≤ g.2.1 := hT.2
  refine mw_iload (pc' := 14) dX4_countStopped_12 rfl rfl ?_
  refine mw_iload (pc' := 16) dX4_countStopped_14 rfl rfl ?_
  refine mw_icmp_gt (tgt := 47) (pc' := 19) dX4_countStopped_16 rfl (by decide) (fun c6 => ?_) (fun c6 => ?_)
  · replace h := h.1 c6
    refine mw_iload (pc' := 49) dX4_countStopped_47 rfl rfl ?_
    exact mw_iret (pc' := 0) (S := []) dX4_countStopped_49 rfl (Or.inl rfl) h
  · replace h := h.2 c6
    refine mw_iload (pc' := 21) dX4_countStopped_19 rfl rfl ?_
    refine mw_aload_n (v := vR 56) (pc' := 22) dX4_countStopped_21 rfl rfl (Or.inl rfl) rfl ?_
    refine mw_getP (v := 58) (pc' := 25) dX4_countStopped_22 rfl fr_RX4_15_56 rfl sp_56_3 ⟨by decide, by decide⟩ ?_
    refine mw_iload (pc' := 27) dX4_countStopped_25 rfl rfl ?_
    refine mw_callS (M' := mX4_isMarked) (A := [vR 58, vI x6]) (S := [vI x5]) (pc' := 30) dX4_countStopped_27 rfl cl_RX4_72 cm_X4_isMarked cs_X4_isMarked ⟨by decide, by decide, by decide, by decide, by decide⟩ rfl rfl (Nat.le_of_ble_eq_true rfl) (f_isMarked_s ?_)
    show MW mX4_countStopped 0 0 30 [(0, vR 56), (1, vR 16), (2, vI x2), (3, vI x3), (4, vI x4), (5, vI x5), (6, vI x6)] [vI (bI (mkB (d 58) x6)), vI x5] g d Q
    suffices k7 : MW mX4_countStopped 0 0 38 [(0, vR 56), (1, vR 16), (2, vI x2), (3, vI x3), (4, vI x4), (5, vI x5), (6, vI x6)] [vI (bI (mkB (d 58) x6)), vI x5] g d Q by
      refine mw_if_eq (tgt := 37) (pc' := 33) dX4_countStopped_30 rfl (by decide) (fun c8 => ?_) (fun c8 => ?_)
      · replace c8 := bI_0.mp c8
        refine mw_iconst (pc' := 38) dX4_countStopped_37 rfl ⟨by decide, by decide⟩ ?_
        exact mw_st (bI_f (fun h => (c8 h))).symm k7
      · replace c8 := bI_n0.mp c8
        refine mw_iconst (pc' := 34) dX4_countStopped_33 rfl ⟨by decide, by decide⟩ ?_
        refine mw_goto (pc' := 0) (tgt := 38) dX4_countStopped_34 (by decide) ?_
        exact mw_st (bI_t c8).symm k7
    obtain ⟨o9, h⟩ := h
    refine mw_iadd (pc' := 39) dX4_countStopped_38 rfl o9 ?_
    refine mw_istore (pc' := 41) (L' := [(0, vR 56), (1, vR 16), (2, vI x2), (3, vI x3), (4, vI x4), (5, vI (x5 + (bI (mkB (d 58) x6)))), (6, vI x6)]) dX4_countStopped_39 rfl (by decide) rfl ?_
    obtain ⟨o10, h⟩ := h
    refine mw_iinc (pc' := 44) (L' := [(0, vR 56), (1, vR 16), (2, vI x2), (3, vI x3), (4, vI x4), (5, vI (x5 + (bI (mkB (d 58) x6)))), (6, vI (x6 + 1))]) dX4_countStopped_41 rfl rfl (by decide) o10 rfl ?_
    refine mw_goto (pc' := 0) (tgt := 12) dX4_countStopped_44 (by decide) ?_
    exact h
theorem eX4_endOf {x2 : Int} {g : mG} {d : mD} {Q : mQ} (h : MM mX4_walk [vR 56, vR 16, vI x2, vI 4999] g d (fun o g3 d4 => match o with | .inl v2 => Q (.inl (d4 56 5)) g3 d4 | .inr k => Q (.inr k) g3 d4)) : MM mX4_endOf [vR 56, vR 16, vI x2] g d Q := by
  refine MM_of (by decide) rfl (by simp [catV]) (Nat.le_of_ble_eq_true rfl) ?_
  show MW mX4_endOf 0 0 0 [(0, vR 56), (1, vR 16), (2, vI x2)] [] g d Q
  refine mw_top (fun hT => ?_)
  have hG : 65 ≤ g.2.1 := hT.2
  refine mw_aload_n (v := vR 56) (pc' := 1) dX4_endOf_0 rfl rfl (Or.inl rfl) rfl ?_
  refine mw_aload_n (v := vR 16) (pc' := 2) dX4_endOf_1 rfl rfl (Or.inl rfl) rfl ?_
  refine mw_iload_n (pc' := 3) dX4_endOf_2 rfl rfl rfl ?_
  refine mw_sipush (pc' := 6) dX4_endOf_3 rfl ⟨by decide, by decide⟩ ?_
  refine mw_callV (M' := mX4_walk) (A := [vR 16, vI x2, vI 4999]) (A' := [vR 56, vR 16, vI x2, vI 4999]) (S := []) (a := 56) (pc' := 9) dX4_endOf_6 rfl cl_RX4_86 cm_X4_walk cv_X4_walk ⟨by decide, by decide, by decide, by decide, by decide⟩ rfl rfl rfl ⟨by decide, by omega⟩ (by decide +kernel) (by decide +kernel) (Nat.le_of_ble_eq_true rfl) (MM.mono ?_ h)
  intro o g3 d4 h1
  rcases o with v2 | k
  · refine mw_top (fun hT => ?_)
    have hG : 65 ≤ g3.2.1 := hT.2
    show MW mX4_endOf 0 0 9 [(0, vR 56), (1, vR 16), (2, vI x2)] [] g3 d4 Q
    refine mw_aload_n (v := vR 56) (pc' := 10) dX4_endOf_9 rfl rfl (Or.inl rfl) rfl ?_
    refine mw_getI (ji := 5) (pc' := 13) dX4_endOf_10 rfl fi_RX4_90_56 rfl ⟨by decide, by decide⟩ ?_
    exact mw_iret (pc' := 0) (S := []) dX4_endOf_13 rfl (Or.inl rfl) h1
  · exact mx_out rfl h1
theorem eX4_countedUntil {x2 x3 : Int} {g : mG} {d : mD} {Q : mQ} (h : MM mX4_walk [vR 56, vR 16, vI x2, vI x3] g d (fun o g3 d4 => match o with | .inl v2 => Q (.inl (d4 56 4)) g3 d4 | .inr k => Q (.inr k) g3 d4)) : MM mX4_countedUntil [vR 56, vR 16, vI x2, vI x3] g d Q := by
  refine MM_of (by decide) rfl (by simp [catV]) (Nat.le_of_ble_eq_true rfl) ?_
  show MW mX4_countedUntil 0 0 0 [(0, vR 56), (1, vR 16), (2, vI x2), (3, vI x3)] [] g d Q
  refine mw_top (fun hT => ?_)
  have hG : 65 ≤ g.2.1 := hT.2
  refine mw_aload_n (v := vR 56) (pc' := 1) dX4_countedUntil_0 rfl rfl (Or.inl rfl) rfl ?_
  refine mw_aload_n (v := vR 16) (pc' := 2) dX4_countedUntil_1 rfl rfl (Or.inl rfl) rfl ?_
  refine mw_iload_n (pc' := 3) dX4_countedUntil_2 rfl rfl rfl ?_
  refine mw_iload_n (pc' := 4) dX4_countedUntil_3 rfl rfl rfl ?_
  refine mw_callV (M' := mX4_walk) (A := [vR 16, vI x2, vI x3]) (A' := [vR 56, vR 16, vI x2, vI x3]) (S := []) (a := 56) (pc' := 7) dX4_countedUntil_4 rfl cl_RX4_86 cm_X4_walk cv_X4_walk ⟨by decide, by decide, by decide, by decide, by decide⟩ rfl rfl rfl ⟨by decide, by omega⟩ (by decide +kernel) (by decide +kernel) (Nat.le_of_ble_eq_true rfl) (MM.mono ?_ h)
  intro o g3 d4 h1
  rcases o with v2 | k
  · refine mw_top (fun hT => ?_)
    have hG : 65 ≤ g3.2.1 := hT.2
    show MW mX4_countedUntil 0 0 7 [(0, vR 56), (1, vR 16), (2, vI x2), (3, vI x3)] [] g3 d4 Q
    refine mw_aload_n (v := vR 56) (pc' := 8) dX4_countedUntil_7 rfl rfl (Or.inl rfl) rfl ?_
    refine mw_getI (ji := 4) (pc' := 11) dX4_countedUntil_8 rfl fi_RX4_93_56 rfl ⟨by decide, by decide⟩ ?_
    exact mw_iret (pc' := 0) (S := []) dX4_countedUntil_11 rfl (Or.inl rfl) h1
  · exact mx_out rfl h1
def pX4_walk_1 (x2 x3 x4 x5 x6 x7 : Int) (g : mG) (d : mD) (Q : mQ) : Prop := MW mX4_walk 0 0 46 [(0, vR 56), (1, vR 16), (2, vI x2), (3, vI x3), (4, vI x4), (5, vI x5), (6, vI x6), (7, vI x7)] [] g d Q
theorem eX4_walk {x2 x3 : Int} {g : mG} {d : mD} {Q : mQ} (h : MM mX4_markHolidays [vR 56] g d (fun o g3 d4 => match o with | .inl v2 => MM mX4_markStays [vR 56, vR 16, vI x2] g3 d4 (fun o g7 d8 => match o with | .inl v6 => (0 ≤ x2 ∧ x2 < 30) ∧ ((iI ((d8 19 x2) + 1)) ∧ (pX4_walk_1 x2 x3 (d8 21 x2) 0 0 ((d8 19 x2) + 1) g7 (ud (ud d8 56 4 0) 56 5 5000) Q)) | .inr k => Q (.inr k) g7 d8) | .inr k => Q (.inr k) g3 d4)) : MM mX4_walk [vR 56, vR 16, vI x2, vI x3] g d Q := by
  refine MM_of (by decide) rfl (by simp [catV]) (Nat.le_of_ble_eq_true rfl) ?_
  show MW mX4_walk 0 0 0 [(0, vR 56), (1, vR 16), (2, vI x2), (3, vI x3)] [] g d Q
  refine mw_top (fun hT => ?_)
  have hG : 65 ≤ g.2.1 := hT.2
  refine mw_aload_n (v := vR 56) (pc' := 1) dX4_walk_0 rfl rfl (Or.inl rfl) rfl ?_
  refine mw_callV (M' := mX4_markHolidays) (A := []) (A' := [vR 56]) (S := []) (a := 56) (pc' := 4) dX4_walk_1 rfl cl_RX4_76 cm_X4_markHolidays cv_X4_markHolidays ⟨by decide, by decide, by decide, by decide, by decide⟩ rfl rfl rfl ⟨by decide, by omega⟩ (by decide +kernel) (by decide +kernel) (Nat.le_of_ble_eq_true rfl) (MM.mono ?_ h)
  intro o g3 d4 h1
  rcases o with v2 | k
  · refine mw_top (fun hT => ?_)
    have hG : 65 ≤ g3.2.1 := hT.2
    show MW mX4_walk 0 0 4 [(0, vR 56), (1, vR 16), (2, vI x2), (3, vI x3)] [] g3 d4 Q
    refine mw_aload_n (v := vR 56) (pc' := 5) dX4_walk_4 rfl rfl (Or.inl rfl) rfl ?_
    refine mw_aload_n (v := vR 16) (pc' := 6) dX4_walk_5 rfl rfl (Or.inl rfl) rfl ?_
    refine mw_iload_n (pc' := 7) dX4_walk_6 rfl rfl rfl ?_
    refine mw_callV (M' := mX4_markStays) (A := [vR 16, vI x2]) (A' := [vR 56, vR 16, vI x2]) (S := []) (a := 56) (pc' := 10) dX4_walk_7 rfl cl_RX4_82 cm_X4_markStays cv_X4_markStays ⟨by decide, by decide, by decide, by decide, by decide⟩ rfl rfl rfl ⟨by decide, by omega⟩ (by decide +kernel) (by decide +kernel) (Nat.le_of_ble_eq_true rfl) (MM.mono ?_ h1)
    intro o g7 d8 h5
    rcases o with v6 | k
    · refine mw_top (fun hT => ?_)
      have hG : 65 ≤ g7.2.1 := hT.2
      show MW mX4_walk 0 0 10 [(0, vR 56), (1, vR 16), (2, vI x2), (3, vI x3)] [] g7 d8 Q
      refine mw_aload_n (v := vR 16) (pc' := 11) dX4_walk_10 rfl rfl (Or.inl rfl) rfl ?_
      refine mw_getP (v := 21) (pc' := 14) dX4_walk_11 rfl fr_RX4_96_16 rfl sp_16_4 ⟨by decide, by decide⟩ ?_
      refine mw_iload_n (pc' := 15) dX4_walk_14 rfl rfl rfl ?_
      obtain ⟨o9, h5⟩ := h5
      refine mw_iald (pc' := 16) dX4_walk_15 rfl lk_21 ⟨by decide, by decide⟩ (by rw [ln_21]; exact o9) ?_
      refine mw_istore (pc' := 18) (L' := [(0, vR 56), (1, vR 16), (2, vI x2), (3, vI x3), (4, vI (d8 21 x2))]) dX4_walk_16 rfl (by decide) rfl ?_
      refine mw_iconst (pc' := 19) dX4_walk_18 rfl ⟨by decide, by decide⟩ ?_
      refine mw_istore (pc' := 21) (L' := [(0, vR 56), (1, vR 16), (2, vI x2), (3, vI x3), (4, vI (d8 21 x2)), (5, vI 0)]) dX4_walk_19 rfl (by decide) rfl ?_
      refine mw_iconst (pc' := 22) dX4_walk_21 rfl ⟨by decide, by decide⟩ ?_
      refine mw_istore (pc' := 24) (L' := [(0, vR 56), (1, vR 16), (2, vI x2), (3, vI x3), (4, vI (d8 21 x2)), (5, vI 0), (6, vI 0)]) dX4_walk_22 rfl (by decide) rfl ?_
      refine mw_aload_n (v := vR 56) (pc' := 25) dX4_walk_24 rfl rfl (Or.inl rfl) rfl ?_
      refine mw_iconst (pc' := 26) dX4_walk_25 rfl ⟨by decide, by decide⟩ ?_
      refine mw_putI (ji := 4) (pc' := 29) dX4_walk_26 rfl (fq_RX4_93_56) (by decide +kernel) rfl (Or.inl ⟨rfl, rc_56_4⟩) (Or.inr rfl) ⟨by decide, by omega⟩ ?_
      refine mw_aload_n (v := vR 56) (pc' := 30) dX4_walk_29 rfl rfl (Or.inl rfl) rfl ?_
      refine mw_sipush (pc' := 33) dX4_walk_30 rfl ⟨by decide, by decide⟩ ?_
      refine mw_putI (ji := 5) (pc' := 36) dX4_walk_33 rfl (fq_RX4_90_56) (by decide +kernel) rfl (Or.inl ⟨rfl, rc_56_5⟩) (Or.inr rfl) ⟨by decide, by omega⟩ ?_
      refine mw_aload_n (v := vR 16) (pc' := 37) dX4_walk_36 rfl rfl (Or.inl rfl) rfl ?_
      refine mw_getP (v := 19) (pc' := 40) dX4_walk_37 rfl fr_RX4_99_16 rfl sp_16_2 ⟨by decide, by decide⟩ ?_
      refine mw_iload_n (pc' := 41) dX4_walk_40 rfl rfl rfl ?_
      refine mw_iald (pc' := 42) dX4_walk_41 rfl lk_19 ⟨by decide, by decide⟩ (by rw [ln_19]; exact o9) ?_
      refine mw_st (b := d8 19 x2) (udA (by decide) (udA (by decide) (rfl))) ?_
      refine mw_iconst (pc' := 43) dX4_walk_42 rfl ⟨by decide, by decide⟩ ?_
      obtain ⟨o11, h5⟩ := h5
      refine mw_iadd (pc' := 44) dX4_walk_43 rfl o11 ?_
      refine mw_istore (pc' := 46) (L' := [(0, vR 56), (1, vR 16), (2, vI x2), (3, vI x3), (4, vI (d8 21 x2)), (5, vI 0), (6, vI 0), (7, vI ((d8 19 x2) + 1))]) dX4_walk_44 rfl (by decide) rfl ?_
      exact h5
    · exact mx_out rfl h5
  · exact mx_out rfl h1
theorem aX4_walk_1 {x2 x3 x4 x5 x6 x7 : Int} {g : mG} {d : mD} {Q : mQ} (h : (((¬ (x3 < x7)) ∧ (¬ (x4 ≤ x5))) → ((mkB (d 58) x7) → (iI (x7 + 1)) ∧ (pX4_walk_1 x2 x3 x4 x5 x6 (x7 + 1) g d Q)) ∧ ((¬ (mkB (d 58) x7)) → (0 ≤ x7) ∧ ((iI (x2 * 7)) ∧ ((iI ((x2 * 7) + x5)) ∧ ((0 ≤ (x2 * 7) + x5 ∧ (x2 * 7) + x5 < 210) ∧ (((¬ (d 22 ((x2 * 7) + x5) ≤ x6)) → (¬ ((¬ (5 ≤ x7 % 7)) ∧ (¬ (mkB (d 57) x7)))) → (x5 = 0) → 0 ≤ x2 ∧ x2 < 30) ∧ ((((¬ (d 22 ((x2 * 7) + x5) ≤ x6)) ∧ (((¬ (5 ≤ x7 % 7)) ∧ (¬ (mkB (d 57) x7))) ∨ (¬ ((x5 = 0) ∧ (¬ (d 20 x2 = 0)))))) → (iI (x6 + 1)) ∧ ((iI ((d 56 4) + 1)) ∧ ((((x6 + 1 = d 22 ((x2 * 7) + x5)) ∧ ((¬ (5 ≤ x7 % 7)) ∧ (¬ (mkB (d 57) x7)))) → (iI (x5 + 1)) ∧ ((iI (x7 + 1)) ∧ (pX4_walk_1 x2 x3 x4 (x5 + 1) 0 (x7 + 1) g (ud (ud d 56 4 ((d 56 4) + 1)) 56 5 (iT (x5 + 1 = x4) x7 5000)) Q))) ∧ ((¬ ((x6 + 1 = d 22 ((x2 * 7) + x5)) ∧ ((¬ (5 ≤ x7 % 7)) ∧ (¬ (mkB (d 57) x7))))) → (iI (x7 + 1)) ∧ (pX4_walk_1 x2 x3 x4 x5 (x6 + 1) (x7 + 1) g (ud d 56 4 ((d 56 4) + 1)) Q))))) ∧ ((¬ ((¬ (d 22 ((x2 * 7) + x5) ≤ x6)) ∧ (((¬ (5 ≤ x7 % 7)) ∧ (¬ (mkB (d 57) x7))) ∨ (¬ ((x5 = 0) ∧ (¬ (d 20 x2 = 0))))))) → (((x6 = d 22 ((x2 * 7) + x5)) ∧ ((¬ (5 ≤ x7 % 7)) ∧ (¬ (mkB (d 57) x7)))) → (iI (x5 + 1)) ∧ ((iI (x7 + 1)) ∧ (pX4_walk_1 x2 x3 x4 (x5 + 1) 0 (x7 + 1) g (ud d 56 5 (iT (x5 + 1 = x4) x7 5000)) Q))) ∧ ((¬ ((x6 = d 22 ((x2 * 7) + x5)) ∧ ((¬ (5 ≤ x7 % 7)) ∧ (¬ (mkB (d 57) x7))))) → (iI (x7 + 1)) ∧ (pX4_walk_1 x2 x3 x4 x5 x6 (x7 + 1) g d Q)))))))))) ∧ ((¬ ((¬ (x3 < x7)) ∧ (¬ (x4 ≤ x5)))) → Q (.inl 0) g d)) : pX4_walk_1 x2 x3 x4 x5 x6 x7 g d Q := by
  unfold pX4_walk_1
  refine mw_top (fun hT => ?_)
  have hG : 65 ≤ g.2.1 := hT.2
  refine mw_iload (pc' := 48) dX4_walk_46 rfl rfl ?_
  refine mw_iload_n (pc' := 49) dX4_walk_48 rfl rfl rfl ?_
  suffices k13 : (((¬ (x3 < x7)) ∧ (¬ (x4 ≤ x5))) → MW mX4_walk 0 0 59 [(0, vR 56), (1, vR 16), (2, vI x2), (3, vI x3), (4, vI x4), (5, vI x5), (6, vI x6), (7, vI x7)] [] g d Q) ∧ ((¬ ((¬ (x3 < x7)) ∧ (¬ (x4 ≤ x5)))) → MW mX4_walk 0 0 169 [(0, vR 56), (1, vR 16), (2, vI x2), (3, vI x3), (4, vI x4), (5, vI x5), (6, vI x6), (7, vI x7)] [] g d Q) by
    refine mw_icmp_gt (tgt := 169) (pc' := 52) dX4_walk_49 rfl (by decide) (fun c14 => ?_) (fun c14 => ?_)
    · exact k13.2 (fun h => (h.1 c14))
    · refine mw_iload (pc' := 54) dX4_walk_52 rfl rfl ?_
      refine mw_iload (pc' := 56) dX4_walk_54 rfl rfl ?_
      refine mw_icmp_ge (tgt := 169) (pc' := 59) dX4_walk_56 rfl (by decide) (fun c15 => ?_) (fun c15 => ?_)
      · exact k13.2 (fun h => (fun h => (h c15)) h.2)
      · exact k13.1 ⟨c14, c15⟩
  refine ⟨fun c16 => ?_, fun c16 => ?_⟩
  · replace h := h.1 c16
    refine mw_aload_n (v := vR 56) (pc' := 60) dX4_walk_59 rfl rfl (Or.inl rfl) rfl ?_
    refine mw_getP (v := 58) (pc' := 63) dX4_walk_60 rfl fr_RX4_15_56 rfl sp_56_3 ⟨by decide, by decide⟩ ?_
    refine mw_iload (pc' := 65) dX4_walk_63 rfl rfl ?_
    refine mw_callS (M' := mX4_isMarked) (A := [vR 58, vI x7]) (S := []) (pc' := 68) dX4_walk_65 rfl cl_RX4_72 cm_X4_isMarked cs_X4_isMarked ⟨by decide, by decide, by decide, by decide, by decide⟩ rfl rfl (Nat.le_of_ble_eq_true rfl) (f_isMarked_s ?_)
    show MW mX4_walk 0 0 68 [(0, vR 56), (1, vR 16), (2, vI x2), (3, vI x3), (4, vI x4), (5, vI x5), (6, vI x6), (7, vI x7)] [vI (bI (mkB (d 58) x7))] g d Q
    refine mw_if_eq (tgt := 74) (pc' := 71) dX4_walk_68 rfl (by decide) (fun c19 => ?_) (fun c19 => ?_)
    · replace c19 := bI_0.mp c19
      replace h := h.2 c19
      refine mw_aload_n (v := vR 56) (pc' := 75) dX4_walk_74 rfl rfl (Or.inl rfl) rfl ?_
      refine mw_iload (pc' := 77) dX4_walk_75 rfl rfl ?_
      obtain ⟨o21, h⟩ := h
      refine mw_callV (M' := mX4_isCourt) (A := [vI x7]) (A' := [vR 56, vI x7]) (S := []) (a := 56) (pc' := 80) dX4_walk_77 rfl cl_RX4_79 cm_X4_isCourt cv_X4_isCourt ⟨by decide, by decide, by decide, by decide, by decide⟩ rfl rfl rfl ⟨by decide, by omega⟩ (by decide +kernel) (by decide +kernel) (Nat.le_of_ble_eq_true rfl) (eX4_isCourt (⟨o21, ?_⟩))
      show MW mX4_walk 0 0 80 [(0, vR 56), (1, vR 16), (2, vI x2), (3, vI x3), (4, vI x4), (5, vI x5), (6, vI x6), (7, vI x7)] [vI (bI ((¬ (5 ≤ x7 % 7)) ∧ (¬ (mkB (d 57) x7))))] g d Q
      refine mw_istore (pc' := 82) (L' := [(0, vR 56), (1, vR 16), (2, vI x2), (3, vI x3), (4, vI x4), (5, vI x5), (6, vI x6), (7, vI x7), (8, vI (bI ((¬ (5 ≤ x7 % 7)) ∧ (¬ (mkB (d 57) x7)))))]) dX4_walk_80 rfl (by decide) rfl ?_
      refine mw_aload_n (v := vR 16) (pc' := 83) dX4_walk_82 rfl rfl (Or.inl rfl) rfl ?_
      refine mw_iload_n (pc' := 84) dX4_walk_83 rfl rfl rfl ?_
      refine mw_iload (pc' := 86) dX4_walk_84 rfl rfl ?_
      obtain ⟨o22, h⟩ := h
      obtain ⟨o23, h⟩ := h
      obtain ⟨o24, h⟩ := h
      refine mw_callV (M' := mX2_lengthOfPart) (A := [vI x2, vI x5]) (A' := [vR 16, vI x2, vI x5]) (S := []) (a := 16) (pc' := 89) dX4_walk_86 rfl cl_RX4_102 cm_X2_lengthOfPart cv_X2_lengthOfPart ⟨by decide, by decide, by decide, by decide, by decide⟩ rfl rfl rfl ⟨by decide, by omega⟩ (by decide +kernel) (by decide +kernel) (Nat.le_of_ble_eq_true rfl) (eX2_lengthOfPart_d (⟨o22, o23, o24, ?_⟩))
      show MW mX4_walk 0 0 89 [(0, vR 56), (1, vR 16), (2, vI x2), (3, vI x3), (4, vI x4), (5, vI x5), (6, vI x6), (7, vI x7), (8, vI (bI ((¬ (5 ≤ x7 % 7)) ∧ (¬ (mkB (d 57) x7)))))] [vI (d 22 ((x2 * 7) + x5))] g d Q
      refine mw_istore (pc' := 91) (L' := [(0, vR 56), (1, vR 16), (2, vI x2), (3, vI x3), (4, vI x4), (5, vI x5), (6, vI x6), (7, vI x7), (8, vI (bI ((¬ (5 ≤ x7 % 7)) ∧ (¬ (mkB (d 57) x7))))), (9, vI (d 22 ((x2 * 7) + x5)))]) dX4_walk_89 rfl (by decide) rfl ?_
      refine mw_iload (pc' := 93) dX4_walk_91 rfl rfl ?_
      refine mw_iload (pc' := 95) dX4_walk_93 rfl rfl ?_
      obtain ⟨o25, h⟩ := h
      suffices k26 : (((¬ (d 22 ((x2 * 7) + x5) ≤ x6)) ∧ (((¬ (5 ≤ x7 % 7)) ∧ (¬ (mkB (d 57) x7))) ∨ (¬ ((x5 = 0) ∧ (¬ (d 20 x2 = 0)))))) → MW mX4_walk 0 0 113 [(0, vR 56), (1, vR 16), (2, vI x2), (3, vI x3), (4, vI x4), (5, vI x5), (6, vI x6), (7, vI x7), (8, vI (bI ((¬ (5 ≤ x7 % 7)) ∧ (¬ (mkB (d 57) x7))))), (9, vI (d 22 ((x2 * 7) + x5)))] [] g d Q) ∧ ((¬ ((¬ (d 22 ((x2 * 7) + x5) ≤ x6)) ∧ (((¬ (5 ≤ x7 % 7)) ∧ (¬ (mkB (d 57) x7))) ∨ (¬ ((x5 = 0) ∧ (¬ (d 20 x2 = 0))))))) → MW mX4_walk 0 0 126 [(0, vR 56), (1, vR 16), (2, vI x2), (3, vI x3), (4, vI x4), (5, vI x5), (6, vI x6), (7, vI x7), (8, vI (bI ((¬ (5 ≤ x7 % 7)) ∧ (¬ (mkB (d 57) x7))))), (9, vI (d 22 ((x2 * 7) + x5)))] [] g d Q) by
        refine mw_icmp_ge (tgt := 126) (pc' := 98) dX4_walk_95 rfl (by decide) (fun c27 => ?_) (fun c27 => ?_)
        · exact k26.2 (fun h => (h.1 c27))
        · refine mw_iload (pc' := 100) dX4_walk_98 rfl rfl ?_
          refine mw_if_ne (tgt := 113) (pc' := 103) dX4_walk_100 rfl (by decide) (fun c28 => ?_) (fun c28 => ?_)
          · replace c28 := bI_n0.mp c28
            exact k26.1 ⟨c27, (Or.inl c28)⟩
          · replace c28 := bI_0.mp c28
            refine mw_aload_n (v := vR 16) (pc' := 104) dX4_walk_103 rfl rfl (Or.inl rfl) rfl ?_
            refine mw_iload_n (pc' := 105) dX4_walk_104 rfl rfl rfl ?_
            refine mw_iload (pc' := 107) dX4_walk_105 rfl rfl ?_
            refine mw_callV (M' := mX2_partCountsCourt) (A := [vI x2, vI x5]) (A' := [vR 16, vI x2, vI x5]) (S := []) (a := 16) (pc' := 110) dX4_walk_107 rfl cl_RX4_106 cm_X2_partCountsCourt cv_X2_partCountsCourt ⟨by decide, by decide, by decide, by decide, by decide⟩ rfl rfl rfl ⟨by decide, by omega⟩ (by decide +kernel) (by decide +kernel) (Nat.le_of_ble_eq_true rfl) (eX2_partCountsCourt_d (⟨(o25 c27 c28), ?_⟩))
            show MW mX4_walk 0 0 110 [(0, vR 56), (1, vR 16), (2, vI x2), (3, vI x3), (4, vI x4), (5, vI x5), (6, vI x6), (7, vI x7), (8, vI (bI ((¬ (5 ≤ x7 % 7)) ∧ (¬ (mkB (d 57) x7))))), (9, vI (d 22 ((x2 * 7) + x5)))] [vI (bI ((x5 = 0) ∧ (¬ (d 20 x2 = 0))))] g d Q
            refine mw_if_ne (tgt := 126) (pc' := 113) dX4_walk_110 rfl (by decide) (fun c29 => ?_) (fun c29 => ?_)
            · replace c29 := bI_n0.mp c29
              exact k26.2 (fun h => (fun h => h.elim (fun q => (c28 q)) (fun h => (h c29))) h.2)
            · replace c29 := bI_0.mp c29
              exact k26.1 ⟨c27, (Or.inr c29)⟩
      refine ⟨fun c30 => ?_, fun c30 => ?_⟩
      · replace h := h.1 c30
        obtain ⟨o31, h⟩ := h
        refine mw_iinc (pc' := 116) (L' := [(0, vR 56), (1, vR 16), (2, vI x2), (3, vI x3), (4, vI x4), (5, vI x5), (6, vI (x6 + 1)), (7, vI x7), (8, vI (bI ((¬ (5 ≤ x7 % 7)) ∧ (¬ (mkB (d 57) x7))))), (9, vI (d 22 ((x2 * 7) + x5)))]) dX4_walk_113 rfl rfl (by decide) o31 rfl ?_
        refine mw_aload_n (v := vR 56) (pc' := 117) dX4_walk_116 rfl rfl (Or.inl rfl) rfl ?_
        refine mw_dup (pc' := 118) dX4_walk_117 rfl rfl ?_
        refine mw_getI (ji := 4) (pc' := 121) dX4_walk_118 rfl fi_RX4_93_56 rfl ⟨by decide, by decide⟩ ?_
        refine mw_iconst (pc' := 122) dX4_walk_121 rfl ⟨by decide, by decide⟩ ?_
        obtain ⟨o32, h⟩ := h
        refine mw_iadd (pc' := 123) dX4_walk_122 rfl o32 ?_
        refine mw_putI (ji := 4) (pc' := 126) dX4_walk_123 rfl (fq_RX4_93_56) (by decide +kernel) rfl (Or.inl ⟨rfl, rc_56_4⟩) (Or.inr rfl) ⟨by decide, by omega⟩ ?_
        refine mw_iload (pc' := 128) dX4_walk_126 rfl rfl ?_
        refine mw_iload (pc' := 130) dX4_walk_128 rfl rfl ?_
        suffices k33 : (((x6 + 1 = d 22 ((x2 * 7) + x5)) ∧ ((¬ (5 ≤ x7 % 7)) ∧ (¬ (mkB (d 57) x7)))) → MW mX4_walk 0 0 138 [(0, vR 56), (1, vR 16), (2, vI x2), (3, vI x3), (4, vI x4), (5, vI x5), (6, vI (x6 + 1)), (7, vI x7), (8, vI (bI ((¬ (5 ≤ x7 % 7)) ∧ (¬ (mkB (d 57) x7))))), (9, vI (d 22 ((x2 * 7) + x5)))] [] g (ud d 56 4 ((d 56 4) + 1)) Q) ∧ ((¬ ((x6 + 1 = d 22 ((x2 * 7) + x5)) ∧ ((¬ (5 ≤ x7 % 7)) ∧ (¬ (mkB (d 57) x7))))) → MW mX4_walk 0 0 163 [(0, vR 56), (1, vR 16), (2, vI x2), (3, vI x3), (4, vI x4), (5, vI x5), (6, vI (x6 + 1)), (7, vI x7), (8, vI (bI ((¬ (5 ≤ x7 % 7)) ∧ (¬ (mkB (d 57) x7))))), (9, vI (d 22 ((x2 * 7) + x5)))] [] g (ud d 56 4 ((d 56 4) + 1)) Q) by
          refine mw_icmp_ne (tgt := 163) (pc' := 133) dX4_walk_130 rfl (by decide) (fun c34 => ?_) (fun c34 => ?_)
          · exact k33.2 (fun h => (c34 h.1))
          · refine mw_iload (pc' := 135) dX4_walk_133 rfl rfl ?_
            refine mw_if_eq (tgt := 163) (pc' := 138) dX4_walk_135 rfl (by decide) (fun c35 => ?_) (fun c35 => ?_)
            · replace c35 := bI_0.mp c35
              exact k33.2 (fun h => (fun h => (c35 h)) h.2)
            · replace c35 := bI_n0.mp c35
              exact k33.1 ⟨c34, c35⟩
        refine ⟨fun c36 => ?_, fun c36 => ?_⟩
        · replace h := h.1 c36
          obtain ⟨o37, h⟩ := h
          refine mw_iinc (pc' := 141) (L' := [(0, vR 56), (1, vR 16), (2, vI x2), (3, vI x3), (4, vI x4), (5, vI (x5 + 1)), (6, vI (x6 + 1)), (7, vI x7), (8, vI (bI ((¬ (5 ≤ x7 % 7)) ∧ (¬ (mkB (d 57) x7))))), (9, vI (d 22 ((x2 * 7) + x5)))]) dX4_walk_138 rfl rfl (by decide) o37 rfl ?_
          refine mw_iconst (pc' := 142) dX4_walk_141 rfl ⟨by decide, by decide⟩ ?_
          refine mw_istore (pc' := 144) (L' := [(0, vR 56), (1, vR 16), (2, vI x2), (3, vI x3), (4, vI x4), (5, vI (x5 + 1)), (6, vI 0), (7, vI x7), (8, vI (bI ((¬ (5 ≤ x7 % 7)) ∧ (¬ (mkB (d 57) x7))))), (9, vI (d 22 ((x2 * 7) + x5)))]) dX4_walk_142 rfl (by decide) rfl ?_
          refine mw_aload_n (v := vR 56) (pc' := 145) dX4_walk_144 rfl rfl (Or.inl rfl) rfl ?_
          refine mw_iload (pc' := 147) dX4_walk_145 rfl rfl ?_
          refine mw_iload (pc' := 149) dX4_walk_147 rfl rfl ?_
          suffices k38 : MW mX4_walk 0 0 160 [(0, vR 56), (1, vR 16), (2, vI x2), (3, vI x3), (4, vI x4), (5, vI (x5 + 1)), (6, vI 0), (7, vI x7), (8, vI (bI ((¬ (5 ≤ x7 % 7)) ∧ (¬ (mkB (d 57) x7))))), (9, vI (d 22 ((x2 * 7) + x5)))] [vI (iT (x5 + 1 = x4) x7 5000), vR 56] g (ud d 56 4 ((d 56 4) + 1)) Q by
            refine mw_icmp_ne (tgt := 157) (pc' := 152) dX4_walk_149 rfl (by decide) (fun c39 => ?_) (fun c39 => ?_)
            · refine mw_sipush (pc' := 160) dX4_walk_157 rfl ⟨by decide, by decide⟩ ?_
              exact mw_st (((iT_f c39).trans rfl)).symm k38
            · refine mw_iload (pc' := 154) dX4_walk_152 rfl rfl ?_
              refine mw_goto (pc' := 0) (tgt := 160) dX4_walk_154 (by decide) ?_
              exact mw_st (((iT_t c39).trans rfl)).symm k38
          refine mw_putI (ji := 5) (pc' := 163) dX4_walk_160 rfl (fq_RX4_90_56) (by decide +kernel) rfl (Or.inl ⟨rfl, rc_56_5⟩) (Or.inr rfl) ⟨by decide, by omega⟩ ?_
          obtain ⟨o40, h⟩ := h
          refine mw_iinc (pc' := 166) (L' := [(0, vR 56), (1, vR 16), (2, vI x2), (3, vI x3), (4, vI x4), (5, vI (x5 + 1)), (6, vI 0), (7, vI (x7 + 1)), (8, vI (bI ((¬ (5 ≤ x7 % 7)) ∧ (¬ (mkB (d 57) x7))))), (9, vI (d 22 ((x2 * 7) + x5)))]) dX4_walk_163 rfl rfl (by decide) o40 rfl ?_
          refine mw_goto (pc' := 0) (tgt := 46) dX4_walk_166 (by decide) ?_
          exact mw_loc (pc' := 0) [0, 1, 2, 3, 4, 5, 6, 7] rfl h
        · replace h := h.2 c36
          obtain ⟨o41, h⟩ := h
          refine mw_iinc (pc' := 166) (L' := [(0, vR 56), (1, vR 16), (2, vI x2), (3, vI x3), (4, vI x4), (5, vI x5), (6, vI (x6 + 1)), (7, vI (x7 + 1)), (8, vI (bI ((¬ (5 ≤ x7 % 7)) ∧ (¬ (mkB (d 57) x7))))), (9, vI (d 22 ((x2 * 7) + x5)))]) dX4_walk_163 rfl rfl (by decide) o41 rfl ?_
          refine mw_goto (pc' := 0) (tgt := 46) dX4_walk_166 (by decide) ?_
          exact mw_loc (pc' := 0) [0, 1, 2, 3, 4, 5, 6, 7] rfl h
      · replace h := h.2 c30
        refine mw_iload (pc' := 128) dX4_walk_126 rfl rfl ?_
        refine mw_iload (pc' := 130) dX4_walk_128 rfl rfl ?_
        suffices k42 : (((x6 = d 22 ((x2 * 7) + x5)) ∧ ((¬ (5 ≤ x7 % 7)) ∧ (¬ (mkB (d 57) x7)))) → MW mX4_walk 0 0 138 [(0, vR 56), (1, vR 16), (2, vI x2), (3, vI x3), (4, vI x4), (5, vI x5), (6, vI x6), (7, vI x7), (8, vI (bI ((¬ (5 ≤ x7 % 7)) ∧ (¬ (mkB (d 57) x7))))), (9, vI (d 22 ((x2 * 7) + x5)))] [] g d Q) ∧ ((¬ ((x6 = d 22 ((x2 * 7) + x5)) ∧ ((¬ (5 ≤ x7 % 7)) ∧ (¬ (mkB (d 57) x7))))) → MW mX4_walk 0 0 163 [(0, vR 56), (1, vR 16), (2, vI x2), (3, vI x3), (4, vI x4), (5, vI x5), (6, vI x6), (7, vI x7), (8, vI (bI ((¬ (5 ≤ x7 % 7)) ∧ (¬ (mkB (d 57) x7))))), (9, vI (d 22 ((x2 * 7) + x5)))] [] g d Q) by
          refine mw_icmp_ne (tgt := 163) (pc' := 133) dX4_walk_130 rfl (by decide) (fun c43 => ?_) (fun c43 => ?_)
          · exact k42.2 (fun h => (c43 h.1))
          · refine mw_iload (pc' := 135) dX4_walk_133 rfl rfl ?_
            refine mw_if_eq (tgt := 163) (pc' := 138) dX4_walk_135 rfl (by decide) (fun c44 => ?_) (fun c44 => ?_)
            · replace c44 := bI_0.mp c44
              exact k42.2 (fun h => (fun h => (c44 h)) h.2)
            · replace c44 := bI_n0.mp c44
              exact k42.1 ⟨c43, c44⟩
        refine ⟨fun c45 => ?_, fun c45 => ?_⟩
        · replace h := h.1 c45
          obtain ⟨o46, h⟩ := h
          refine mw_iinc (pc' := 141) (L' := [(0, vR 56), (1, vR 16), (2, vI x2), (3, vI x3), (4, vI x4), (5, vI (x5 + 1)), (6, vI x6), (7, vI x7), (8, vI (bI ((¬ (5 ≤ x7 % 7)) ∧ (¬ (mkB (d 57) x7))))), (9, vI (d 22 ((x2 * 7) + x5)))]) dX4_walk_138 rfl rfl (by decide) o46 rfl ?_
          refine mw_iconst (pc' := 142) dX4_walk_141 rfl ⟨by decide, by decide⟩ ?_
          refine mw_istore (pc' := 144) (L' := [(0, vR 56), (1, vR 16), (2, vI x2), (3, vI x3), (4, vI x4), (5, vI (x5 + 1)), (6, vI 0), (7, vI x7), (8, vI (bI ((¬ (5 ≤ x7 % 7)) ∧ (¬ (mkB (d 57) x7))))), (9, vI (d 22 ((x2 * 7) + x5)))]) dX4_walk_142 rfl (by decide) rfl ?_
          refine mw_aload_n (v := vR 56) (pc' := 145) dX4_walk_144 rfl rfl (Or.inl rfl) rfl ?_
          refine mw_iload (pc' := 147) dX4_walk_145 rfl rfl ?_
          refine mw_iload (pc' := 149) dX4_walk_147 rfl rfl ?_
          suffices k47 : MW mX4_walk 0 0 160 [(0, vR 56), (1, vR 16), (2, vI x2), (3, vI x3), (4, vI x4), (5, vI (x5 + 1)), (6, vI 0), (7, vI x7), (8, vI (bI ((¬ (5 ≤ x7 % 7)) ∧ (¬ (mkB (d 57) x7))))), (9, vI (d 22 ((x2 * 7) + x5)))] [vI (iT (x5 + 1 = x4) x7 5000), vR 56] g d Q by
            refine mw_icmp_ne (tgt := 157) (pc' := 152) dX4_walk_149 rfl (by decide) (fun c48 => ?_) (fun c48 => ?_)
            · refine mw_sipush (pc' := 160) dX4_walk_157 rfl ⟨by decide, by decide⟩ ?_
              exact mw_st (((iT_f c48).trans rfl)).symm k47
            · refine mw_iload (pc' := 154) dX4_walk_152 rfl rfl ?_
              refine mw_goto (pc' := 0) (tgt := 160) dX4_walk_154 (by decide) ?_
              exact mw_st (((iT_t c48).trans rfl)).symm k47
          refine mw_putI (ji := 5) (pc' := 163) dX4_walk_160 rfl (fq_RX4_90_56) (by decide +kernel) rfl (Or.inl ⟨rfl, rc_56_5⟩) (Or.inr rfl) ⟨by decide, by omega⟩ ?_
          obtain ⟨o49, h⟩ := h
          refine mw_iinc (pc' := 166) (L' := [(0, vR 56), (1, vR 16), (2, vI x2), (3, vI x3), (4, vI x4), (5, vI (x5 + 1)), (6, vI 0), (7, vI (x7 + 1)), (8, vI (bI ((¬ (5 ≤ x7 % 7)) ∧ (¬ (mkB (d 57) x7))))), (9, vI (d 22 ((x2 * 7) + x5)))]) dX4_walk_163 rfl rfl (by decide) o49 rfl ?_
          refine mw_goto (pc' := 0) (tgt := 46) dX4_walk_166 (by decide) ?_
          exact mw_loc (pc' := 0) [0, 1, 2, 3, 4, 5, 6, 7] rfl h
        · replace h := h.2 c45
          obtain ⟨o50, h⟩ := h
          refine mw_iinc (pc' := 166) (L' := [(0, vR 56), (1, vR 16), (2, vI x2), (3, vI x3), (4, vI x4), (5, vI x5), (6, vI x6), (7, vI (x7 + 1)), (8, vI (bI ((¬ (5 ≤ x7 % 7)) ∧ (¬ (mkB (d 57) x7))))), (9, vI (d 22 ((x2 * 7) + x5)))]) dX4_walk_163 rfl rfl (by decide) o50 rfl ?_
          refine mw_goto (pc' := 0) (tgt := 46) dX4_walk_166 (by decide) ?_
          exact mw_loc (pc' := 0) [0, 1, 2, 3, 4, 5, 6, 7] rfl h
    · replace c19 := bI_n0.mp c19
      replace h := h.1 c19
      refine mw_goto (pc' := 0) (tgt := 163) dX4_walk_71 (by decide) ?_
      obtain ⟨o20, h⟩ := h
      refine mw_iinc (pc' := 166) (L' := [(0, vR 56), (1, vR 16), (2, vI x2), (3, vI x3), (4, vI x4), (5, vI x5), (6, vI x6), (7, vI (x7 + 1))]) dX4_walk_163 rfl rfl (by decide) o20 rfl ?_
      refine mw_goto (pc' := 0) (tgt := 46) dX4_walk_166 (by decide) ?_
      exact h
  · replace h := h.2 c16
    exact mw_vret (pc' := 0) (S := []) dX4_walk_169 rfl h
def pX4_countBack_1 (x1 x2 x3 x4 x5 : Int) (g : mG) (d : mD) (Q : mQ) : Prop := MW mX4_countBack 0 0 12 [(0, vR 56), (1, vI x1), (2, vI x2), (3, vI x3), (4, vI x4), (5, vI x5)] [] g d Q
theorem eX4_countBack {x1 x2 x3 : Int} {g : mG} {d : mD} {Q : mQ} (h : MM mX4_markHolidays [vR 56] g d (fun o g3 d4 => match o with | .inl v2 => (iI (x1 - 1)) ∧ (pX4_countBack_1 x1 x2 x3 0 (x1 - 1) g3 d4 Q) | .inr k => Q (.inr k) g3 d4)) : MM mX4_countBack [vR 56, vI x1, vI x2, vI x3] g d Q := by
  refine MM_of (by decide) rfl (by simp [catV]) (Nat.le_of_ble_eq_true rfl) ?_
  show MW mX4_countBack 0 0 0 [(0, vR 56), (1, vI x1), (2, vI x2), (3, vI x3)] [] g d Q
  refine mw_top (fun hT => ?_)
  have hG : 65 ≤ g.2.1 := hT.2
  refine mw_aload_n (v := vR 56) (pc' := 1) dX4_countBack_0 rfl rfl (Or.inl rfl) rfl ?_
  refine mw_callV (M' := mX4_markHolidays) (A := []) (A' := [vR 56]) (S := []) (a := 56) (pc' := 4) dX4_countBack_1 rfl cl_RX4_76 cm_X4_markHolidays cv_X4_markHolidays ⟨by decide, by decide, by decide, by decide, by decide⟩ rfl rfl rfl ⟨by decide, by omega⟩ (by decide +kernel) (by decide +kernel) (Nat.le_of_ble_eq_true rfl) (MM.mono ?_ h)
  intro o g3 d4 h1
  rcases o with v2 | k
  · refine mw_top (fun hT => ?_)
    have hG : 65 ≤ g3.2.1 := hT.2
    show MW mX4_countBack 0 0 4 [(0, vR 56), (1, vI x1), (2, vI x2), (3, vI x3)] [] g3 d4 Q
    refine mw_iconst (pc' := 5) dX4_countBack_4 rfl ⟨by decide, by decide⟩ ?_
    refine mw_istore (pc' := 7) (L' := [(0, vR 56), (1, vI x1), (2, vI x2), (3, vI x3), (4, vI 0)]) dX4_countBack_5 rfl (by decide) rfl ?_
    refine mw_iload_n (pc' := 8) dX4_countBack_7 rfl rfl rfl ?_
    refine mw_iconst (pc' := 9) dX4_countBack_8 rfl ⟨by decide, by decide⟩ ?_
    obtain ⟨o5, h1⟩ := h1
    refine mw_isub (pc' := 10) dX4_countBack_9 rfl o5 ?_
    refine mw_istore (pc' := 12) (L' := [(0, vR 56), (1, vI x1), (2, vI x2), (3, vI x3), (4, vI 0), (5, vI (x1 - 1))]) dX4_countBack_10 rfl (by decide) rfl ?_
    exact h1
  · exact mx_out rfl h1
theorem aX4_countBack_1 {x1 x2 x3 x4 x5 : Int} {g : mG} {d : mD} {Q : mQ} (h : ((x5 < 0) → Q (.inl (-1)) g d) ∧ ((¬ (x5 < 0)) → (0 ≤ x5) ∧ ((iI (x4 + (bI (((¬ (5 ≤ x5 % 7)) ∧ (¬ (mkB (d 57) x5))) ∨ (x3 = 0))))) ∧ ((((¬ (x4 + (bI (((¬ (5 ≤ x5 % 7)) ∧ (¬ (mkB (d 57) x5))) ∨ (x3 = 0))) < x2)) ∧ ((¬ (5 ≤ x5 % 7)) ∧ (¬ (mkB (d 57) x5)))) → Q (.inl x5) g d) ∧ ((¬ ((¬ (x4 + (bI (((¬ (5 ≤ x5 % 7)) ∧ (¬ (mkB (d 57) x5))) ∨ (x3 = 0))) < x2)) ∧ ((¬ (5 ≤ x5 % 7)) ∧ (¬ (mkB (d 57) x5))))) → (iI (x5 + (-1))) ∧ (pX4_countBack_1 x1 x2 x3 (x4 + (bI (((¬ (5 ≤ x5 % 7)) ∧ (¬ (mkB (d 57) x5))) ∨ (x3 = 0)))) (x5 + (-1)) g d Q)))))) : pX4_countBack_1 x1 x2 x3 x4 x5 g d Q := by
  unfold pX4_countBack_1
  refine mw_top (fun hT => ?_)
  have hG : 65 ≤ g.2.1 := hT.2
  refine mw_iload (pc' := 14) dX4_countBack_12 rfl rfl ?_
  refine mw_if_lt (tgt := 64) (pc' := 17) dX4_countBack_14 rfl (by decide) (fun c8 => ?_) (fun c8 => ?_)
  · replace h := h.1 c8
    refine mw_iconst (pc' := 65) dX4_countBack_64 rfl ⟨by decide, by decide⟩ ?_
    exact mw_iret (pc' := 0) (S := []) dX4_countBack_65 rfl (Or.inl rfl) h
  · replace h := h.2 c8
    refine mw_aload_n (v := vR 56) (pc' := 18) dX4_countBack_17 rfl rfl (Or.inl rfl) rfl ?_
    refine mw_iload (pc' := 20) dX4_countBack_18 rfl rfl ?_
    obtain ⟨o9, h⟩ := h
    refine mw_callV (M' := mX4_isCourt) (A := [vI x5]) (A' := [vR 56, vI x5]) (S := []) (a := 56) (pc' := 23) dX4_countBack_20 rfl cl_RX4_79 cm_X4_isCourt cv_X4_isCourt ⟨by decide, by decide, by decide, by decide, by decide⟩ rfl rfl rfl ⟨by decide, by omega⟩ (by decide +kernel) (by decide +kernel) (Nat.le_of_ble_eq_true rfl) (eX4_isCourt (⟨o9, ?_⟩))
    show MW mX4_countBack 0 0 23 [(0, vR 56), (1, vI x1), (2, vI x2), (3, vI x3), (4, vI x4), (5, vI x5)] [vI (bI ((¬ (5 ≤ x5 % 7)) ∧ (¬ (mkB (d 57) x5))))] g d Q
    refine mw_istore (pc' := 25) (L' := [(0, vR 56), (1, vI x1), (2, vI x2), (3, vI x3), (4, vI x4), (5, vI x5), (6, vI (bI ((¬ (5 ≤ x5 % 7)) ∧ (¬ (mkB (d 57) x5)))))]) dX4_countBack_23 rfl (by decide) rfl ?_
    refine mw_iload (pc' := 27) dX4_countBack_25 rfl rfl ?_
    refine mw_iload (pc' := 29) dX4_countBack_27 rfl rfl ?_
    suffices k10 : MW mX4_countBack 0 0 41 [(0, vR 56), (1, vI x1), (2, vI x2), (3, vI x3), (4, vI x4), (5, vI x5), (6, vI (bI ((¬ (5 ≤ x5 % 7)) ∧ (¬ (mkB (d 57) x5)))))] [vI (bI (((¬ (5 ≤ x5 % 7)) ∧ (¬ (mkB (d 57) x5))) ∨ (x3 = 0))), vI x4] g d Q by
      refine mw_if_ne (tgt := 36) (pc' := 32) dX4_countBack_29 rfl (by decide) (fun c11 => ?_) (fun c11 => ?_)
      · replace c11 := bI_n0.mp c11
        refine mw_iconst (pc' := 37) dX4_countBack_36 rfl ⟨by decide, by decide⟩ ?_
        refine mw_goto (pc' := 0) (tgt := 41) dX4_countBack_37 (by decide) ?_
        exact mw_st (bI_t (Or.inl c11)).symm k10
      · replace c11 := bI_0.mp c11
        refine mw_iload_n (pc' := 33) dX4_countBack_32 rfl rfl rfl ?_
        refine mw_if_ne (tgt := 40) (pc' := 36) dX4_countBack_33 rfl (by decide) (fun c12 => ?_) (fun c12 => ?_)
        · refine mw_iconst (pc' := 41) dX4_countBack_40 rfl ⟨by decide, by decide⟩ ?_
          exact mw_st (bI_f (fun h => h.elim (fun q => (c11 q)) (fun h => (c12 h)))).symm k10
        · refine mw_iconst (pc' := 37) dX4_countBack_36 rfl ⟨by decide, by decide⟩ ?_
          refine mw_goto (pc' := 0) (tgt := 41) dX4_countBack_37 (by decide) ?_
          exact mw_st (bI_t (Or.inr c12)).symm k10
    obtain ⟨o13, h⟩ := h
    refine mw_iadd (pc' := 42) dX4_countBack_41 rfl o13 ?_
    refine mw_istore (pc' := 44) (L' := [(0, vR 56), (1, vI x1), (2, vI x2), (3, vI x3), (4, vI (x4 + (bI (((¬ (5 ≤ x5 % 7)) ∧ (¬ (mkB (d 57) x5))) ∨ (x3 = 0))))), (5, vI x5), (6, vI (bI ((¬ (5 ≤ x5 % 7)) ∧ (¬ (mkB (d 57) x5)))))]) dX4_countBack_42 rfl (by decide) rfl ?_
    refine mw_iload (pc' := 46) dX4_countBack_44 rfl rfl ?_
    refine mw_iload_n (pc' := 47) dX4_countBack_46 rfl rfl rfl ?_
    suffices k14 : (((¬ (x4 + (bI (((¬ (5 ≤ x5 % 7)) ∧ (¬ (mkB (d 57) x5))) ∨ (x3 = 0))) < x2)) ∧ ((¬ (5 ≤ x5 % 7)) ∧ (¬ (mkB (d 57) x5)))) → MW mX4_countBack 0 0 55 [(0, vR 56), (1, vI x1), (2, vI x2), (3, vI x3), (4, vI (x4 + (bI (((¬ (5 ≤ x5 % 7)) ∧ (¬ (mkB (d 57) x5))) ∨ (x3 = 0))))), (5, vI x5), (6, vI (bI ((¬ (5 ≤ x5 % 7)) ∧ (¬ (mkB (d 57) x5)))))] [] g d Q) ∧ ((¬ ((¬ (x4 + (bI (((¬ (5 ≤ x5 % 7)) ∧ (¬ (mkB (d 57) x5))) ∨ (x3 = 0))) < x2)) ∧ ((¬ (5 ≤ x5 % 7)) ∧ (¬ (mkB (d 57) x5))))) → MW mX4_countBack 0 0 58 [(0, vR 56), (1, vI x1), (2, vI x2), (3, vI x3), (4, vI (x4 + (bI (((¬ (5 ≤ x5 % 7)) ∧ (¬ (mkB (d 57) x5))) ∨ (x3 = 0))))), (5, vI x5), (6, vI (bI ((¬ (5 ≤ x5 % 7)) ∧ (¬ (mkB (d 57) x5)))))] [] g d Q) by
      refine mw_icmp_lt (tgt := 58) (pc' := 50) dX4_countBack_47 rfl (by decide) (fun c15 => ?_) (fun c15 => ?_)
      · exact k14.2 (fun h => (h.1 c15))
      · refine mw_iload (pc' := 52) dX4_countBack_50 rfl rfl ?_
        refine mw_if_eq (tgt := 58) (pc' := 55) dX4_countBack_52 rfl (by decide) (fun c16 => ?_) (fun c16 => ?_)
        · replace c16 := bI_0.mp c16
          exact k14.2 (fun h => (fun h => (c16 h)) h.2)
        · replace c16 := bI_n0.mp c16
          exact k14.1 ⟨c15, c16⟩
    refine ⟨fun c17 => ?_, fun c17 => ?_⟩
    · replace h := h.1 c17
      refine mw_iload (pc' := 57) dX4_countBack_55 rfl rfl ?_
      exact mw_iret (pc' := 0) (S := []) dX4_countBack_57 rfl (Or.inl rfl) h
    · replace h := h.2 c17
      obtain ⟨o18, h⟩ := h
      refine mw_iinc (pc' := 61) (L' := [(0, vR 56), (1, vI x1), (2, vI x2), (3, vI x3), (4, vI (x4 + (bI (((¬ (5 ≤ x5 % 7)) ∧ (¬ (mkB (d 57) x5))) ∨ (x3 = 0))))), (5, vI (x5 + (-1))), (6, vI (bI ((¬ (5 ≤ x5 % 7)) ∧ (¬ (mkB (d 57) x5)))))]) dX4_countBack_58 rfl rfl (by decide) o18 rfl ?_
      refine mw_goto (pc' := 0) (tgt := 12) dX4_countBack_61 (by decide) ?_
      exact mw_loc (pc' := 0) [0, 1, 2, 3, 4, 5] rfl h
