theorem fr_RX12_38_65 : FR RX12 38 65 16 := ⟨(show LK 65 = 12 by decide +kernel) ▸ fg_RX12_38, by decide +kernel, by decide +kernel, by decide⟩
theorem sp_65_16 : ((65, 16, 73) : Int × Int × Int) ∈ SPl := by decide +kernel
theorem ln_73 : LN 73 = 30 := by decide +kernel
theorem lk_73 : LK 73 = 100 := by decide +kernel
theorem fi_RX12_25_65 : FI RX12 25 65 10 := ⟨(show LK 65 = 12 by decide +kernel) ▸ fg_RX12_25, by decide +kernel, by decide +kernel, by decide⟩
theorem fi_RX12_29_65 : FI RX12 29 65 11 := ⟨(show LK 65 = 12 by decide +kernel) ▸ fg_RX12_29, by decide +kernel, by decide +kernel, by decide⟩
theorem eX12_isOpen {x1 : Int} {g : mG} {d : mD} {Q : mQ} (h : (0 ≤ x1 ∧ x1 < 30) ∧ (Q (.inl (bI (d 66 (145 + 16 * x1) = 111))) g d)) : MM mX12_isOpen [vR 65, vI x1] g d Q := by
  refine MM_of (by decide) rfl (by simp [catV]) (Nat.le_of_ble_eq_true rfl) ?_
  show MW mX12_isOpen 0 0 0 [(0, vR 65), (1, vI x1)] [] g d Q
  refine mw_top (fun hT => ?_)
  have hG : 76 ≤ g.2.1 := hT.2
  refine mw_aload_n (v := vR 65) (pc' := 1) dX12_isOpen_0 rfl rfl (Or.inl rfl) rfl ?_
  refine mw_iload_n (pc' := 2) dX12_isOpen_1 rfl rfl rfl ?_
  refine mw_bipush (pc' := 4) dX12_isOpen_2 rfl ⟨by decide, by decide⟩ ?_
  obtain ⟨o1, h⟩ := h
  refine mw_callV (M' := mX12_of) (A := [vI x1, vI 6]) (A' := [vR 65, vI x1, vI 6]) (S := []) (a := 65) (pc' := 7) dX12_isOpen_4 rfl cl_RX12_131 cm_X12_of cv_X12_of ⟨by decide, by decide, by decide, by decide, by decide⟩ rfl rfl rfl ⟨by decide, by omega⟩ (by decide +kernel) (by decide +kernel) (Nat.le_of_ble_eq_true rfl) (f_dlOf (k := 145 + 16 * x1) (by omega) (⟨o1, (by decide), ?_⟩))
  show MW mX12_isOpen 0 0 7 [(0, vR 65), (1, vI x1)] [vI (d 66 (145 + 16 * x1))] g d Q
  refine mw_bipush (pc' := 9) dX12_isOpen_7 rfl ⟨by decide, by decide⟩ ?_
  suffices k2 : MW mX12_isOpen 0 0 17 [(0, vR 65), (1, vI x1)] [vI (bI (d 66 (145 + 16 * x1) = 111))] g d Q by
    refine mw_icmp_ne (tgt := 16) (pc' := 12) dX12_isOpen_9 rfl (by decide) (fun c3 => ?_) (fun c3 => ?_)
    · refine mw_iconst (pc' := 17) dX12_isOpen_16 rfl ⟨by decide, by decide⟩ ?_
      exact mw_st (bI_f (fun h => (c3 h))).symm k2
    · refine mw_iconst (pc' := 13) dX12_isOpen_12 rfl ⟨by decide, by decide⟩ ?_
      refine mw_goto (pc' := 0) (tgt := 17) dX12_isOpen_13 (by decide) ?_
      exact mw_st (bI_t c3).symm k2
  exact mw_iret (pc' := 0) (S := []) dX12_isOpen_17 rfl (Or.inr (Or.inl ⟨rfl, bI_rng⟩)) h
theorem eX12_isPast {x1 : Int} {g : mG} {d : mD} {Q : mQ} (h : (RW (d 66)) ∧ ((0 ≤ x1 ∧ x1 < d 66 3) ∧ (Q (.inl (bI ((¬ (dueM (d 66) x1 = (-1))) ∧ (¬ (d 66 0 ≤ dueM (d 66) x1))))) g d))) : MM mX12_isPast [vR 65, vI x1] g d Q := by
  refine MM_of (by decide) rfl (by simp [catV]) (Nat.le_of_ble_eq_true rfl) ?_
  show MW mX12_isPast 0 0 0 [(0, vR 65), (1, vI x1)] [] g d Q
  refine mw_top (fun hT => ?_)
  have hG : 76 ≤ g.2.1 := hT.2
  refine mw_aload_n (v := vR 65) (pc' := 1) dX12_isPast_0 rfl rfl (Or.inl rfl) rfl ?_
  refine mw_iload_n (pc' := 2) dX12_isPast_1 rfl rfl rfl ?_
  obtain ⟨o1, h⟩ := h
  obtain ⟨o2, h⟩ := h
  refine mw_callV (M' := mX12_dueOf) (A := [vI x1]) (A' := [vR 65, vI x1]) (S := []) (a := 65) (pc' := 5) dX12_isPast_2 rfl cl_RX12_150 cm_X12_dueOf cv_X12_dueOf ⟨by decide, by decide, by decide, by decide, by decide⟩ rfl rfl rfl ⟨by decide, by omega⟩ (by decide +kernel) (by decide +kernel) (Nat.le_of_ble_eq_true rfl) (f_dueOf (⟨o1, o2, ?_⟩))
  show MW mX12_isPast 0 0 5 [(0, vR 65), (1, vI x1)] [vI (dueM (d 66) x1)] g d Q
  refine mw_istore_n (pc' := 6) (L' := [(0, vR 65), (1, vI x1), (2, vI (dueM (d 66) x1))]) dX12_isPast_5 rfl rfl (by decide) rfl ?_
  refine mw_iload_n (pc' := 7) dX12_isPast_6 rfl rfl rfl ?_
  refine mw_iconst (pc' := 8) dX12_isPast_7 rfl ⟨by decide, by decide⟩ ?_
  suffices k3 : MW mX12_isPast 0 0 26 [(0, vR 65), (1, vI x1), (2, vI (dueM (d 66) x1))] [vI (bI ((¬ (dueM (d 66) x1 = (-1))) ∧ (¬ (d 66 0 ≤ dueM (d 66) x1))))] g d Q by
    refine mw_icmp_eq (tgt := 25) (pc' := 11) dX12_isPast_8 rfl (by decide) (fun c4 => ?_) (fun c4 => ?_)
    · refine mw_iconst (pc' := 26) dX12_isPast_25 rfl ⟨by decide, by decide⟩ ?_
      exact mw_st (bI_f (fun h => (h.1 c4))).symm k3
    · refine mw_iload_n (pc' := 12) dX12_isPast_11 rfl rfl rfl ?_
      refine mw_aload_n (v := vR 65) (pc' := 13) dX12_isPast_12 rfl rfl (Or.inl rfl) rfl ?_
      refine mw_getP (v := 66) (pc' := 16) dX12_isPast_13 rfl fr_RX12_9_65 rfl sp_65_0 ⟨by decide, by decide⟩ ?_
      refine mw_iconst (pc' := 17) dX12_isPast_16 rfl ⟨by decide, by decide⟩ ?_
      refine mw_iald (pc' := 18) dX12_isPast_17 rfl lk_66 ⟨by decide, by decide⟩ (by rw [ln_66]; exact ⟨by decide, by decide⟩) ?_
      refine mw_icmp_ge (tgt := 25) (pc' := 21) dX12_isPast_18 rfl (by decide) (fun c5 => ?_) (fun c5 => ?_)
      · refine mw_iconst (pc' := 26) dX12_isPast_25 rfl ⟨by decide, by decide⟩ ?_
        exact mw_st (bI_f (fun h => (fun h => (h c5)) h.2)).symm k3
      · refine mw_iconst (pc' := 22) dX12_isPast_21 rfl ⟨by decide, by decide⟩ ?_
        refine mw_goto (pc' := 0) (tgt := 26) dX12_isPast_22 (by decide) ?_
        exact mw_st (bI_t ⟨c4, c5⟩).symm k3
  exact mw_iret (pc' := 0) (S := []) dX12_isPast_26 rfl (Or.inr (Or.inl ⟨rfl, bI_rng⟩)) h
theorem eX12_isStoppedOf {x1 x2 : Int} {g : mG} {d : mD} {Q : mQ} (h : (0 ≤ x1 ∧ x1 < 30) ∧ ((RW (d 66)) ∧ ((0 ≤ (d 66 (140 + 16 * x1)) ∧ (d 66 (140 + 16 * x1)) < 8) ∧ (Q (.inl (bI (stopd (d 66) (d 66 (139 + 16 * x1)) (d 66 (140 + 16 * x1)) x2))) g d)))) : MM mX12_isStoppedOf [vR 65, vI x1, vI x2] g d Q := by
  refine MM_of (by decide) rfl (by simp [catV]) (Nat.le_of_ble_eq_true rfl) ?_
  show MW mX12_isStoppedOf 0 0 0 [(0, vR 65), (1, vI x1), (2, vI x2)] [] g d Q
  refine mw_top (fun hT => ?_)
  have hG : 76 ≤ g.2.1 := hT.2
  refine mw_aload_n (v := vR 65) (pc' := 1) dX12_isStoppedOf_0 rfl rfl (Or.inl rfl) rfl ?_
  refine mw_aload_n (v := vR 65) (pc' := 2) dX12_isStoppedOf_1 rfl rfl (Or.inl rfl) rfl ?_
  refine mw_iload_n (pc' := 3) dX12_isStoppedOf_2 rfl rfl rfl ?_
  refine mw_iconst (pc' := 4) dX12_isStoppedOf_3 rfl ⟨by decide, by decide⟩ ?_
  obtain ⟨o1, h⟩ := h
  refine mw_callV (M' := mX12_of) (A := [vI x1, vI 0]) (A' := [vR 65, vI x1, vI 0]) (S := [vR 65]) (a := 65) (pc' := 7) dX12_isStoppedOf_4 rfl cl_RX12_131 cm_X12_of cv_X12_of ⟨by decide, by decide, by decide, by decide, by decide⟩ rfl rfl rfl ⟨by decide, by omega⟩ (by decide +kernel) (by decide +kernel) (Nat.le_of_ble_eq_true rfl) (f_dlOf (k := 139 + 16 * x1) (by omega) (⟨o1, (by decide), ?_⟩))
  show MW mX12_isStoppedOf 0 0 7 [(0, vR 65), (1, vI x1), (2, vI x2)] [vI (d 66 (139 + 16 * x1)), vR 65] g d Q
  refine mw_aload_n (v := vR 65) (pc' := 8) dX12_isStoppedOf_7 rfl rfl (Or.inl rfl) rfl ?_
  refine mw_iload_n (pc' := 9) dX12_isStoppedOf_8 rfl rfl rfl ?_
  refine mw_iconst (pc' := 10) dX12_isStoppedOf_9 rfl ⟨by decide, by decide⟩ ?_
  refine mw_callV (M' := mX12_of) (A := [vI x1, vI 1]) (A' := [vR 65, vI x1, vI 1]) (S := [vI (d 66 (139 + 16 * x1)), vR 65]) (a := 65) (pc' := 13) dX12_isStoppedOf_10 rfl cl_RX12_131 cm_X12_of cv_X12_of ⟨by decide, by decide, by decide, by decide, by decide⟩ rfl rfl rfl ⟨by decide, by omega⟩ (by decide +kernel) (by decide +kernel) (Nat.le_of_ble_eq_true rfl) (f_dlOf (k := 140 + 16 * x1) (by omega) (⟨o1, (by decide), ?_⟩))
  show MW mX12_isStoppedOf 0 0 13 [(0, vR 65), (1, vI x1), (2, vI x2)] [vI (d 66 (140 + 16 * x1)), vI (d 66 (139 + 16 * x1)), vR 65] g d Q
  refine mw_iload_n (pc' := 14) dX12_isStoppedOf_13 rfl rfl rfl ?_
  obtain ⟨o3, h⟩ := h
  obtain ⟨o4, h⟩ := h
  refine mw_callV (M' := mX12_isStoppedFor) (A := [vI (d 66 (139 + 16 * x1)), vI (d 66 (140 + 16 * x1)), vI x2]) (A' := [vR 65, vI (d 66 (139 + 16 * x1)), vI (d 66 (140 + 16 * x1)), vI x2]) (S := []) (a := 65) (pc' := 17) dX12_isStoppedOf_14 rfl cl_RX12_134 cm_X12_isStoppedFor cv_X12_isStoppedFor ⟨by decide, by decide, by decide, by decide, by decide⟩ rfl rfl rfl ⟨by decide, by omega⟩ (by decide +kernel) (by decide +kernel) (Nat.le_of_ble_eq_true rfl) (f_isStoppedFor (⟨o3, o4, ?_⟩))
  show MW mX12_isStoppedOf 0 0 17 [(0, vR 65), (1, vI x1), (2, vI x2)] [vI (bI (stopd (d 66) (d 66 (139 + 16 * x1)) (d 66 (140 + 16 * x1)) x2))] g d Q
  exact mw_iret (pc' := 0) (S := []) dX12_isStoppedOf_17 rfl (Or.inr (Or.inl ⟨rfl, bI_rng⟩)) h
theorem eX12_barOf {x1 : Int} {g : mG} {d : mD} {Q : mQ} (h : (iI (5 * x1)) ∧ ((iI (667 + (5 * x1))) ∧ ((iI ((667 + (5 * x1)) + 1)) ∧ ((0 ≤ (667 + (5 * x1)) + 1 ∧ (667 + (5 * x1)) + 1 < 787) ∧ ((0 ≤ 667 + (5 * x1) ∧ 667 + (5 * x1) < 787) ∧ ((iI ((667 + (5 * x1)) + 2)) ∧ ((0 ≤ (667 + (5 * x1)) + 2 ∧ (667 + (5 * x1)) + 2 < 787) ∧ ((iI ((667 + (5 * x1)) + 3)) ∧ ((0 ≤ (667 + (5 * x1)) + 3 ∧ (667 + (5 * x1)) + 3 < 787) ∧ ((RW (d 66)) ∧ ((0 ≤ (d 66 (668 + 5 * x1)) ∧ (d 66 (668 + 5 * x1)) < 8) ∧ ((0 ≤ (d 66 (667 + 5 * x1)) ∧ (d 66 (667 + 5 * x1)) ≤ 4999) ∧ ((1 ≤ (d 66 (669 + 5 * x1)) ∧ (d 66 (669 + 5 * x1)) ≤ 200) ∧ (Q (.inl (endM (d 66) (-1) (d 66 (668 + 5 * x1)) (d 66 (667 + 5 * x1)) (d 66 (669 + 5 * x1)) (bI (d 66 (670 + 5 * x1) = 1)))) g d)))))))))))))) : MM mX12_barOf [vR 65, vI x1] g d Q := by
  refine MM_of (by decide) rfl (by simp [catV]) (Nat.le_of_ble_eq_true rfl) ?_
  show MW mX12_barOf 0 0 0 [(0, vR 65), (1, vI x1)] [] g d Q
  refine mw_top (fun hT => ?_)
  have hG : 76 ≤ g.2.1 := hT.2
  refine mw_iload_n (pc' := 1) dX12_barOf_0 rfl rfl rfl ?_
  obtain ⟨o1, h⟩ := h
  obtain ⟨o2, h⟩ := h
  refine mw_callS (M' := mX12_occurrenceAt) (A := [vI x1]) (S := []) (pc' := 4) dX12_barOf_1 rfl cl_RX12_188 cm_X12_occurrenceAt cs_X12_occurrenceAt ⟨by decide, by decide, by decide, by decide, by decide⟩ rfl rfl (Nat.le_of_ble_eq_true rfl) (eX12_occurrenceAt (⟨o1, o2, ?_⟩))
  show MW mX12_barOf 0 0 4 [(0, vR 65), (1, vI x1)] [vI (667 + (5 * x1))] g d Q
  refine mw_istore_n (pc' := 5) (L' := [(0, vR 65), (1, vI x1), (2, vI (667 + (5 * x1)))]) dX12_barOf_4 rfl rfl (by decide) rfl ?_
  refine mw_aload_n (v := vR 65) (pc' := 6) dX12_barOf_5 rfl rfl (Or.inl rfl) rfl ?_
  refine mw_iconst (pc' := 7) dX12_barOf_6 rfl ⟨by decide, by decide⟩ ?_
  refine mw_aload_n (v := vR 65) (pc' := 8) dX12_barOf_7 rfl rfl (Or.inl rfl) rfl ?_
  refine mw_getP (v := 66) (pc' := 11) dX12_barOf_8 rfl fr_RX12_9_65 rfl sp_65_0 ⟨by decide, by decide⟩ ?_
  refine mw_iload_n (pc' := 12) dX12_barOf_11 rfl rfl rfl ?_
  refine mw_iconst (pc' := 13) dX12_barOf_12 rfl ⟨by decide, by decide⟩ ?_
  obtain ⟨o3, h⟩ := h
  refine mw_iadd (pc' := 14) dX12_barOf_13 rfl o3 ?_
  obtain ⟨o4, h⟩ := h
  refine mw_iald (pc' := 15) dX12_barOf_14 rfl lk_66 ⟨by decide, by decide⟩ (by rw [ln_66]; exact o4) ?_
  refine mw_st (b := d 66 (668 + 5 * x1)) (congrArg (d 66) (by omega)) ?_
  refine mw_aload_n (v := vR 65) (pc' := 16) dX12_barOf_15 rfl rfl (Or.inl rfl) rfl ?_
  refine mw_getP (v := 66) (pc' := 19) dX12_barOf_16 rfl fr_RX12_9_65 rfl sp_65_0 ⟨by decide, by decide⟩ ?_
  refine mw_iload_n (pc' := 20) dX12_barOf_19 rfl rfl rfl ?_
  obtain ⟨o5, h⟩ := h
  refine mw_iald (pc' := 21) dX12_barOf_20 rfl lk_66 ⟨by decide, by decide⟩ (by rw [ln_66]; exact o5) ?_
  refine mw_st (b := d 66 (667 + 5 * x1)) (congrArg (d 66) (by omega)) ?_
  refine mw_aload_n (v := vR 65) (pc' := 22) dX12_barOf_21 rfl rfl (Or.inl rfl) rfl ?_
  refine mw_getP (v := 66) (pc' := 25) dX12_barOf_22 rfl fr_RX12_9_65 rfl sp_65_0 ⟨by decide, by decide⟩ ?_
  refine mw_iload_n (pc' := 26) dX12_barOf_25 rfl rfl rfl ?_
  refine mw_iconst (pc' := 27) dX12_barOf_26 rfl ⟨by decide, by decide⟩ ?_
  obtain ⟨o6, h⟩ := h
  refine mw_iadd (pc' := 28) dX12_barOf_27 rfl o6 ?_
  obtain ⟨o7, h⟩ := h
  refine mw_iald (pc' := 29) dX12_barOf_28 rfl lk_66 ⟨by decide, by decide⟩ (by rw [ln_66]; exact o7) ?_
  refine mw_st (b := d 66 (669 + 5 * x1)) (congrArg (d 66) (by omega)) ?_
  refine mw_aload_n (v := vR 65) (pc' := 30) dX12_barOf_29 rfl rfl (Or.inl rfl) rfl ?_
  refine mw_getP (v := 66) (pc' := 33) dX12_barOf_30 rfl fr_RX12_9_65 rfl sp_65_0 ⟨by decide, by decide⟩ ?_
  refine mw_iload_n (pc' := 34) dX12_barOf_33 rfl rfl rfl ?_
  refine mw_iconst (pc' := 35) dX12_barOf_34 rfl ⟨by decide, by decide⟩ ?_
  obtain ⟨o8, h⟩ := h
  refine mw_iadd (pc' := 36) dX12_barOf_35 rfl o8 ?_
  obtain ⟨o9, h⟩ := h
  refine mw_iald (pc' := 37) dX12_barOf_36 rfl lk_66 ⟨by decide, by decide⟩ (by rw [ln_66]; exact o9) ?_
  refine mw_st (b := d 66 (670 + 5 * x1)) (congrArg (d 66) (by omega)) ?_
  refine mw_iconst (pc' := 38) dX12_barOf_37 rfl ⟨by decide, by decide⟩ ?_
  suffices k10 : MW mX12_barOf 0 0 46 [(0, vR 65), (1, vI x1), (2, vI (667 + (5 * x1)))] [vI (bI (d 66 (670 + 5 * x1) = 1)), vI (d 66 (669 + 5 * x1)), vI (d 66 (667 + 5 * x1)), vI (d 66 (668 + 5 * x1)), vI (-1), vR 65] g d Q by
    refine mw_icmp_ne (tgt := 45) (pc' := 41) dX12_barOf_38 rfl (by decide) (fun c11 => ?_) (fun c11 => ?_)
    · refine mw_iconst (pc' := 46) dX12_barOf_45 rfl ⟨by decide, by decide⟩ ?_
      exact mw_st (bI_f (fun h => (c11 h))).symm k10
    · refine mw_iconst (pc' := 42) dX12_barOf_41 rfl ⟨by decide, by decide⟩ ?_
      refine mw_goto (pc' := 0) (tgt := 46) dX12_barOf_42 (by decide) ?_
      exact mw_st (bI_t c11).symm k10
  obtain ⟨o12, h⟩ := h
  obtain ⟨o13, h⟩ := h
  obtain ⟨o14, h⟩ := h
  obtain ⟨o15, h⟩ := h
  refine mw_callV (M' := mX12_endOf) (A := [vI (-1), vI (d 66 (668 + 5 * x1)), vI (d 66 (667 + 5 * x1)), vI (d 66 (669 + 5 * x1)), vI (bI (d 66 (670 + 5 * x1) = 1))]) (A' := [vR 65, vI (-1), vI (d 66 (668 + 5 * x1)), vI (d 66 (667 + 5 * x1)), vI (d 66 (669 + 5 * x1)), vI (bI (d 66 (670 + 5 * x1) = 1))]) (S := []) (a := 65) (pc' := 49) dX12_barOf_46 rfl cl_RX12_143 cm_X12_endOf cv_X12_endOf ⟨by decide, by decide, by decide, by decide, by decide⟩ rfl rfl rfl ⟨by decide, by omega⟩ (by decide +kernel) (by decide +kernel) (Nat.le_of_ble_eq_true rfl) (f_endOf (⟨o12, o13, o14, o15, ?_⟩))
  show MW mX12_barOf 0 0 49 [(0, vR 65), (1, vI x1), (2, vI (667 + (5 * x1)))] [vI (endM (d 66) (-1) (d 66 (668 + 5 * x1)) (d 66 (667 + 5 * x1)) (d 66 (669 + 5 * x1)) (bI (d 66 (670 + 5 * x1) = 1)))] g d Q
  exact mw_iret (pc' := 0) (S := []) dX12_barOf_49 rfl (Or.inl rfl) h
theorem eX12_isTimelyNow {x1 : Int} {g : mG} {d : mD} {Q : mQ} (h : (iI (4 * x1)) ∧ ((iI (707 + (4 * x1))) ∧ ((iI ((707 + (4 * x1)) + 1)) ∧ ((0 ≤ (707 + (4 * x1)) + 1 ∧ (707 + (4 * x1)) + 1 < 787) ∧ ((iI (5 * (d 66 (708 + 4 * x1)))) ∧ ((iI (667 + (5 * (d 66 (708 + 4 * x1))))) ∧ ((iI ((667 + (5 * (d 66 (708 + 4 * x1)))) + 1)) ∧ ((0 ≤ (667 + (5 * (d 66 (708 + 4 * x1)))) + 1 ∧ (667 + (5 * (d 66 (708 + 4 * x1)))) + 1 < 787) ∧ ((0 ≤ 667 + (5 * (d 66 (708 + 4 * x1))) ∧ 667 + (5 * (d 66 (708 + 4 * x1))) < 787) ∧ ((iI ((667 + (5 * (d 66 (708 + 4 * x1)))) + 2)) ∧ ((0 ≤ (667 + (5 * (d 66 (708 + 4 * x1)))) + 2 ∧ (667 + (5 * (d 66 (708 + 4 * x1)))) + 2 < 787) ∧ ((iI ((667 + (5 * (d 66 (708 + 4 * x1)))) + 3)) ∧ ((0 ≤ (667 + (5 * (d 66 (708 + 4 * x1)))) + 3 ∧ (667 + (5 * (d 66 (708 + 4 * x1)))) + 3 < 787) ∧ ((RW (d 66)) ∧ ((0 ≤ (d 66 (668 + 5 * (d 66 (708 + 4 * x1)))) ∧ (d 66 (668 + 5 * (d 66 (708 + 4 * x1)))) < 8) ∧ ((0 ≤ (d 66 (667 + 5 * (d 66 (708 + 4 * x1)))) ∧ (d 66 (667 + 5 * (d 66 (708 + 4 * x1)))) ≤ 4999) ∧ ((1 ≤ (d 66 (669 + 5 * (d 66 (708 + 4 * x1)))) ∧ (d 66 (669 + 5 * (d 66 (708 + 4 * x1)))) ≤ 200) ∧ (((¬ (endM (d 66) (-1) (d 66 (668 + 5 * (d 66 (708 + 4 * x1)))) (d 66 (667 + 5 * (d 66 (708 + 4 * x1)))) (d 66 (669 + 5 * (d 66 (708 + 4 * x1)))) (bI (d 66 (670 + 5 * (d 66 (708 + 4 * x1))) = 1)) = (-1))) → 0 ≤ x1 ∧ x1 < d 66 6) ∧ (Q (.inl (bI ((endM (d 66) (-1) (d 66 (668 + 5 * (d 66 (708 + 4 * x1)))) (d 66 (667 + 5 * (d 66 (708 + 4 * x1)))) (d 66 (669 + 5 * (d 66 (708 + 4 * x1)))) (bI (d 66 (670 + 5 * (d 66 (708 + 4 * x1))) = 1)) = (-1)) ∨ (¬ (endM (d 66) (-1) (d 66 (668 + 5 * (d 66 (708 + 4 * x1)))) (d 66 (667 + 5 * (d 66 (708 + 4 * x1)))) (d 66 (669 + 5 * (d 66 (708 + 4 * x1)))) (bI (d 66 (670 + 5 * (d 66 (708 + 4 * x1))) = 1)) < effF (d 66) x1))))) g d))))))))))))))))))) : MM mX12_isTimelyNow [vR 65, vI x1] g d Q := by
  refine MM_of (by decide) rfl (by simp [catV]) (Nat.le_of_ble_eq_true rfl) ?_
  show MW mX12_isTimelyNow 0 0 0 [(0, vR 65), (1, vI x1)] [] g d Q
  refine mw_top (fun hT => ?_)
  have hG : 76 ≤ g.2.1 := hT.2
  refine mw_aload_n (v := vR 65) (pc' := 1) dX12_isTimelyNow_0 rfl rfl (Or.inl rfl) rfl ?_
  refine mw_aload_n (v := vR 65) (pc' := 2) dX12_isTimelyNow_1 rfl rfl (Or.inl rfl) rfl ?_
  refine mw_getP (v := 66) (pc' := 5) dX12_isTimelyNow_2 rfl fr_RX12_9_65 rfl sp_65_0 ⟨by decide, by decide⟩ ?_
  refine mw_iload_n (pc' := 6) dX12_isTimelyNow_5 rfl rfl rfl ?_
  obtain ⟨o1, h⟩ := h
  obtain ⟨o2, h⟩ := h
  refine mw_callS (M' := mX12_claimAt) (A := [vI x1]) (S := [vR 66, vR 65]) (pc' := 9) dX12_isTimelyNow_6 rfl cl_RX12_203 cm_X12_claimAt cs_X12_claimAt ⟨by decide, by decide, by decide, by decide, by decide⟩ rfl rfl (Nat.le_of_ble_eq_true rfl) (eX12_claimAt (⟨o1, o2, ?_⟩))
  show MW mX12_isTimelyNow 0 0 9 [(0, vR 65), (1, vI x1)] [vI (707 + (4 * x1)), vR 66, vR 65] g d Q
  refine mw_iconst (pc' := 10) dX12_isTimelyNow_9 rfl ⟨by decide, by decide⟩ ?_
  obtain ⟨o3, h⟩ := h
  refine mw_iadd (pc' := 11) dX12_isTimelyNow_10 rfl o3 ?_
  obtain ⟨o4, h⟩ := h
  refine mw_iald (pc' := 12) dX12_isTimelyNow_11 rfl lk_66 ⟨by decide, by decide⟩ (by rw [ln_66]; exact o4) ?_
  refine mw_st (b := d 66 (708 + 4 * x1)) (congrArg (d 66) (by omega)) ?_
  obtain ⟨o5, h⟩ := h
  obtain ⟨o6, h⟩ := h
  obtain ⟨o7, h⟩ := h
  obtain ⟨o8, h⟩ := h
  obtain ⟨o9, h⟩ := h
  obtain ⟨o10, h⟩ := h
  obtain ⟨o11, h⟩ := h
  obtain ⟨o12, h⟩ := h
  obtain ⟨o13, h⟩ := h
  obtain ⟨o14, h⟩ := h
  obtain ⟨o15, h⟩ := h
  obtain ⟨o16, h⟩ := h
  obtain ⟨o17, h⟩ := h
  refine mw_callV (M' := mX12_barOf) (A := [vI (d 66 (708 + 4 * x1))]) (A' := [vR 65, vI (d 66 (708 + 4 * x1))]) (S := []) (a := 65) (pc' := 15) dX12_isTimelyNow_12 rfl cl_RX12_200 cm_X12_barOf cv_X12_barOf ⟨by decide, by decide, by decide, by decide, by decide⟩ rfl rfl rfl ⟨by decide, by omega⟩ (by decide +kernel) (by decide +kernel) (Nat.le_of_ble_eq_true rfl) (eX12_barOf (⟨o5, o6, o7, o8, o9, o10, o11, o12, o13, o14, o15, o16, o17, ?_⟩))
  show MW mX12_isTimelyNow 0 0 15 [(0, vR 65), (1, vI x1)] [vI (endM (d 66) (-1) (d 66 (668 + 5 * (d 66 (708 + 4 * x1)))) (d 66 (667 + 5 * (d 66 (708 + 4 * x1)))) (d 66 (669 + 5 * (d 66 (708 + 4 * x1)))) (bI (d 66 (670 + 5 * (d 66 (708 + 4 * x1))) = 1)))] g d Q
  refine mw_istore_n (pc' := 16) (L' := [(0, vR 65), (1, vI x1), (2, vI (endM (d 66) (-1) (d 66 (668 + 5 * (d 66 (708 + 4 * x1)))) (d 66 (667 + 5 * (d 66 (708 + 4 * x1)))) (d 66 (669 + 5 * (d 66 (708 + 4 * x1)))) (bI (d 66 (670 + 5 * (d 66 (708 + 4 * x1))) = 1))))]) dX12_isTimelyNow_15 rfl rfl (by decide) rfl ?_
  refine mw_iload_n (pc' := 17) dX12_isTimelyNow_16 rfl rfl rfl ?_
  refine mw_iconst (pc' := 18) dX12_isTimelyNow_17 rfl ⟨by decide, by decide⟩ ?_
  obtain ⟨o19, h⟩ := h
  suffices k20 : MW mX12_isTimelyNow 0 0 35 [(0, vR 65), (1, vI x1), (2, vI (endM (d 66) (-1) (d 66 (668 + 5 * (d 66 (708 + 4 * x1)))) (d 66 (667 + 5 * (d 66 (708 + 4 * x1)))) (d 66 (669 + 5 * (d 66 (708 + 4 * x1)))) (bI (d 66 (670 + 5 * (d 66 (708 + 4 * x1))) = 1))))] [vI (bI ((endM (d 66) (-1) (d 66 (668 + 5 * (d 66 (708 + 4 * x1)))) (d 66 (667 + 5 * (d 66 (708 + 4 * x1)))) (d 66 (669 + 5 * (d 66 (708 + 4 * x1)))) (bI (d 66 (670 + 5 * (d 66 (708 + 4 * x1))) = 1)) = (-1)) ∨ (¬ (endM (d 66) (-1) (d 66 (668 + 5 * (d 66 (708 + 4 * x1)))) (d 66 (667 + 5 * (d 66 (708 + 4 * x1)))) (d 66 (669 + 5 * (d 66 (708 + 4 * x1)))) (bI (d 66 (670 + 5 * (d 66 (708 + 4 * x1))) = 1)) < effF (d 66) x1))))] g d Q by
    refine mw_icmp_eq (tgt := 30) (pc' := 21) dX12_isTimelyNow_18 rfl (by decide) (fun c21 => ?_) (fun c21 => ?_)
    · refine mw_iconst (pc' := 31) dX12_isTimelyNow_30 rfl ⟨by decide, by decide⟩ ?_
      refine mw_goto (pc' := 0) (tgt := 35) dX12_isTimelyNow_31 (by decide) ?_
      exact mw_st (bI_t (Or.inl c21)).symm k20
    · refine mw_aload_n (v := vR 65) (pc' := 22) dX12_isTimelyNow_21 rfl rfl (Or.inl rfl) rfl ?_
      refine mw_iload_n (pc' := 23) dX12_isTimelyNow_22 rfl rfl rfl ?_
      refine mw_callV (M' := mX12_effectiveOf) (A := [vI x1]) (A' := [vR 65, vI x1]) (S := []) (a := 65) (pc' := 26) dX12_isTimelyNow_23 rfl cl_RX12_212 cm_X12_effectiveOf cv_X12_effectiveOf ⟨by decide, by decide, by decide, by decide, by decide⟩ rfl rfl rfl ⟨by decide, by omega⟩ (by decide +kernel) (by decide +kernel) (Nat.le_of_ble_eq_true rfl) (f_effectiveOf (⟨o14, (o19 c21), ?_⟩))
      show MW mX12_isTimelyNow 0 0 26 [(0, vR 65), (1, vI x1), (2, vI (endM (d 66) (-1) (d 66 (668 + 5 * (d 66 (708 + 4 * x1)))) (d 66 (667 + 5 * (d 66 (708 + 4 * x1)))) (d 66 (669 + 5 * (d 66 (708 + 4 * x1)))) (bI (d 66 (670 + 5 * (d 66 (708 + 4 * x1))) = 1))))] [vI (effF (d 66) x1)] g d Q
      refine mw_iload_n (pc' := 27) dX12_isTimelyNow_26 rfl rfl rfl ?_
      refine mw_icmp_gt (tgt := 34) (pc' := 30) dX12_isTimelyNow_27 rfl (by decide) (fun c22 => ?_) (fun c22 => ?_)
      · refine mw_iconst (pc' := 35) dX12_isTimelyNow_34 rfl ⟨by decide, by decide⟩ ?_
        exact mw_st (bI_f (fun h => h.elim (fun q => (c21 q)) (fun h => (h c22)))).symm k20
      · refine mw_iconst (pc' := 31) dX12_isTimelyNow_30 rfl ⟨by decide, by decide⟩ ?_
        refine mw_goto (pc' := 0) (tgt := 35) dX12_isTimelyNow_31 (by decide) ?_
        exact mw_st (bI_t (Or.inr c22)).symm k20
  exact mw_iret (pc' := 0) (S := []) dX12_isTimelyNow_35 rfl (Or.inr (Or.inl ⟨rfl, bI_rng⟩)) h
def pX12_findDues_1 (x1 : Int) (g : mG) (d : mD) (Q : mQ) : Prop := MW mX12_findDues 0 0 2 [(0, vR 65), (1, vI x1)] [] g d Q
theorem eX12_findDues {g : mG} {d : mD} {Q : mQ} (h : pX12_findDues_1 0 g d Q) : MM mX12_findDues [vR 65] g d Q := by
  refine MM_of (by decide) rfl (by simp [catV]) (Nat.le_of_ble_eq_true rfl) ?_
  show MW mX12_findDues 0 0 0 [(0, vR 65)] [] g d Q
  refine mw_top (fun hT => ?_)
  have hG : 76 ≤ g.2.1 := hT.2
  refine mw_iconst (pc' := 1) dX12_findDues_0 rfl ⟨by decide, by decide⟩ ?_
  refine mw_istore_n (pc' := 2) (L' := [(0, vR 65), (1, vI 0)]) dX12_findDues_1 rfl rfl (by decide) rfl ?_
  exact h
theorem aX12_findDues_1 {x1 : Int} {g : mG} {d : mD} {Q : mQ} (h : ((d 66 3 ≤ x1) → Q (.inl 0) g d) ∧ ((¬ (d 66 3 ≤ x1)) → (0 ≤ x1 ∧ x1 < 30) ∧ (((d 66 (145 + 16 * x1) = 111) → RW (d 66)) ∧ (((d 66 (145 + 16 * x1) = 111) → 0 ≤ x1 ∧ x1 < d 66 3) ∧ ((iI (x1 + 1)) ∧ (pX12_findDues_1 (x1 + 1) g (ud d 73 x1 (iT (iT (d 66 (145 + 16 * x1) = 111) (dueM (d 66) x1) (-1) = (-1)) 5000 (iT (d 66 (145 + 16 * x1) = 111) (dueM (d 66) x1) (-1)))) Q)))))) : pX12_findDues_1 x1 g d Q := by
  unfold pX12_findDues_1
  refine mw_top (fun hT => ?_)
  have hG : 76 ≤ g.2.1 := hT.2
  refine mw_iload_n (pc' := 3) dX12_findDues_2 rfl rfl rfl ?_
  refine mw_aload_n (v := vR 65) (pc' := 4) dX12_findDues_3 rfl rfl (Or.inl rfl) rfl ?_
  refine mw_getP (v := 66) (pc' := 7) dX12_findDues_4 rfl fr_RX12_9_65 rfl sp_65_0 ⟨by decide, by decide⟩ ?_
  refine mw_iconst (pc' := 8) dX12_findDues_7 rfl ⟨by decide, by decide⟩ ?_
  refine mw_iald (pc' := 9) dX12_findDues_8 rfl lk_66 ⟨by decide, by decide⟩ (by rw [ln_66]; exact ⟨by decide, by decide⟩) ?_
  refine mw_icmp_ge (tgt := 54) (pc' := 12) dX12_findDues_9 rfl (by decide) (fun c4 => ?_) (fun c4 => ?_)
  · replace h := h.1 c4
    exact mw_vret (pc' := 0) (S := []) dX12_findDues_54 rfl h
  · replace h := h.2 c4
    refine mw_aload_n (v := vR 65) (pc' := 13) dX12_findDues_12 rfl rfl (Or.inl rfl) rfl ?_
    refine mw_iload_n (pc' := 14) dX12_findDues_13 rfl rfl rfl ?_
    obtain ⟨o5, h⟩ := h
    refine mw_callV (M' := mX12_isOpen) (A := [vI x1]) (A' := [vR 65, vI x1]) (S := []) (a := 65) (pc' := 17) dX12_findDues_14 rfl cl_RX12_165 cm_X12_isOpen cv_X12_isOpen ⟨by decide, by decide, by decide, by decide, by decide⟩ rfl rfl rfl ⟨by decide, by omega⟩ (by decide +kernel) (by decide +kernel) (Nat.le_of_ble_eq_true rfl) (eX12_isOpen (⟨o5, ?_⟩))
    show MW mX12_findDues 0 0 17 [(0, vR 65), (1, vI x1)] [vI (bI (d 66 (145 + 16 * x1) = 111))] g d Q
    obtain ⟨o6, h⟩ := h
    obtain ⟨o7, h⟩ := h
    suffices k8 : MW mX12_findDues 0 0 29 [(0, vR 65), (1, vI x1)] [vI (iT (d 66 (145 + 16 * x1) = 111) (dueM (d 66) x1) (-1))] g d Q by
      refine mw_if_eq (tgt := 28) (pc' := 20) dX12_findDues_17 rfl (by decide) (fun c9 => ?_) (fun c9 => ?_)
      · replace c9 := bI_0.mp c9
        refine mw_iconst (pc' := 29) dX12_findDues_28 rfl ⟨by decide, by decide⟩ ?_
        exact mw_st (((iT_f c9).trans rfl)).symm k8
      · replace c9 := bI_n0.mp c9
        refine mw_aload_n (v := vR 65) (pc' := 21) dX12_findDues_20 rfl rfl (Or.inl rfl) rfl ?_
        refine mw_iload_n (pc' := 22) dX12_findDues_21 rfl rfl rfl ?_
        refine mw_callV (M' := mX12_dueOf) (A := [vI x1]) (A' := [vR 65, vI x1]) (S := []) (a := 65) (pc' := 25) dX12_findDues_22 rfl cl_RX12_150 cm_X12_dueOf cv_X12_dueOf ⟨by decide, by decide, by decide, by decide, by decide⟩ rfl rfl rfl ⟨by decide, by omega⟩ (by decide +kernel) (by decide +kernel) (Nat.le_of_ble_eq_true rfl) (f_dueOf (⟨(o6 c9), (o7 c9), ?_⟩))
        show MW mX12_findDues 0 0 25 [(0, vR 65), (1, vI x1)] [vI (dueM (d 66) x1)] g d Q
        refine mw_goto (pc' := 0) (tgt := 29) dX12_findDues_25 (by decide) ?_
        exact mw_st (((iT_t c9).trans rfl)).symm k8
    refine mw_istore_n (pc' := 30) (L' := [(0, vR 65), (1, vI x1), (2, vI (iT (d 66 (145 + 16 * x1) = 111) (dueM (d 66) x1) (-1)))]) dX12_findDues_29 rfl rfl (by decide) rfl ?_
    refine mw_aload_n (v := vR 65) (pc' := 31) dX12_findDues_30 rfl rfl (Or.inl rfl) rfl ?_
    refine mw_getP (v := 73) (pc' := 34) dX12_findDues_31 rfl fr_RX12_38_65 rfl sp_65_16 ⟨by decide, by decide⟩ ?_
    refine mw_iload_n (pc' := 35) dX12_findDues_34 rfl rfl rfl ?_
    refine mw_iload_n (pc' := 36) dX12_findDues_35 rfl rfl rfl ?_
    refine mw_iconst (pc' := 37) dX12_findDues_36 rfl ⟨by decide, by decide⟩ ?_
    suffices k10 : MW mX12_findDues 0 0 47 [(0, vR 65), (1, vI x1), (2, vI (iT (d 66 (145 + 16 * x1) = 111) (dueM (d 66) x1) (-1)))] [vI (iT (iT (d 66 (145 + 16 * x1) = 111) (dueM (d 66) x1) (-1) = (-1)) 5000 (iT (d 66 (145 + 16 * x1) = 111) (dueM (d 66) x1) (-1))), vI x1, vR 73] g d Q by
      refine mw_icmp_ne (tgt := 46) (pc' := 40) dX12_findDues_37 rfl (by decide) (fun c11 => ?_) (fun c11 => ?_)
      · refine mw_iload_n (pc' := 47) dX12_findDues_46 rfl rfl rfl ?_
        exact mw_st (((iT_f c11).trans rfl)).symm k10
      · refine mw_sipush (pc' := 43) dX12_findDues_40 rfl ⟨by decide, by decide⟩ ?_
        refine mw_goto (pc' := 0) (tgt := 47) dX12_findDues_43 (by decide) ?_
        exact mw_st (((iT_t c11).trans rfl)).symm k10
    refine mw_iast (pc' := 48) dX12_findDues_47 rfl lk_73 ⟨by decide, by decide⟩ (by rw [ln_73]; exact o5) ?_
    obtain ⟨o13, h⟩ := h
    refine mw_iinc (pc' := 51) (L' := [(0, vR 65), (1, vI (x1 + 1)), (2, vI (iT (d 66 (145 + 16 * x1) = 111) (dueM (d 66) x1) (-1)))]) dX12_findDues_48 rfl rfl (by decide) o13 rfl ?_
    refine mw_goto (pc' := 0) (tgt := 2) dX12_findDues_51 (by decide) ?_
    exact mw_loc (pc' := 0) [0, 1] rfl h
def pX12_putNumber_1 (x1 x2 : Int) (g : mG) (d : mD) (Q : mQ) : Prop := MW mX12_putNumber 0 0 2 [(0, vR 65), (1, vI x1), (2, vI x2)] [] g d Q
def pX12_putNumber_2 (x1 x2 : Int) (g : mG) (d : mD) (Q : mQ) : Prop := MW mX12_putNumber 0 0 18 [(0, vR 65), (1, vI x1), (2, vI x2)] [] g d Q
theorem eX12_putNumber {x1 : Int} {g : mG} {d : mD} {Q : mQ} (h : pX12_putNumber_1 x1 1 g d Q) : MM mX12_putNumber [vR 65, vI x1] g d Q := by
  refine MM_of (by decide) rfl (by simp [catV]) (Nat.le_of_ble_eq_true rfl) ?_
  show MW mX12_putNumber 0 0 0 [(0, vR 65), (1, vI x1)] [] g d Q
  refine mw_top (fun hT => ?_)
  have hG : 76 ≤ g.2.1 := hT.2
  refine mw_iconst (pc' := 1) dX12_putNumber_0 rfl ⟨by decide, by decide⟩ ?_
  refine mw_istore_n (pc' := 2) (L' := [(0, vR 65), (1, vI x1), (2, vI 1)]) dX12_putNumber_1 rfl rfl (by decide) rfl ?_
  exact h
theorem aX12_putNumber_1 {x1 x2 : Int} {g : mG} {d : mD} {Q : mQ} (h : (0 ≤ x1) ∧ ((0 < x2) ∧ (((x1 / x2 < 10) → pX12_putNumber_2 x1 x2 g d Q) ∧ ((¬ (x1 / x2 < 10)) → (iI (x2 * 10)) ∧ (pX12_putNumber_1 x1 (x2 * 10) g d Q))))) : pX12_putNumber_1 x1 x2 g d Q := by
  unfold pX12_putNumber_1
  refine mw_top (fun hT => ?_)
  have hG : 76 ≤ g.2.1 := hT.2
  refine mw_iload_n (pc' := 3) dX12_putNumber_2 rfl rfl rfl ?_
  refine mw_iload_n (pc' := 4) dX12_putNumber_3 rfl rfl rfl ?_
  obtain ⟨o1, h⟩ := h
  obtain ⟨o2, h⟩ := h
  refine mw_idiv (pc' := 5) dX12_putNumber_4 rfl o1 o2 ?_
  refine mw_bipush (pc' := 7) dX12_putNumber_5 rfl ⟨by decide, by decide⟩ ?_
  refine mw_icmp_lt (tgt := 18) (pc' := 10) dX12_putNumber_7 rfl (by decide) (fun c5 => ?_) (fun c5 => ?_)
  · replace h := h.1 c5
    exact h
  · replace h := h.2 c5
    refine mw_iload_n (pc' := 11) dX12_putNumber_10 rfl rfl rfl ?_
    refine mw_bipush (pc' := 13) dX12_putNumber_11 rfl ⟨by decide, by decide⟩ ?_
    obtain ⟨o6, h⟩ := h
    refine mw_imul (pc' := 14) dX12_putNumber_13 rfl o6 ?_
    refine mw_istore_n (pc' := 15) (L' := [(0, vR 65), (1, vI x1), (2, vI (x2 * 10))]) dX12_putNumber_14 rfl rfl (by decide) rfl ?_
    refine mw_goto (pc' := 0) (tgt := 2) dX12_putNumber_15 (by decide) ?_
    exact h
theorem aX12_putNumber_2 {x1 x2 : Int} {g : mG} {d : mD} {Q : mQ} (h : ((x2 ≤ 0) → Q (.inl 0) g d) ∧ ((¬ (x2 ≤ 0)) → (0 ≤ x1) ∧ ((0 < x2) ∧ ((0 ≤ x1 / x2) ∧ ((iI (48 + ((x1 / x2) % 10))) ∧ ((0 ≤ d 65 9 ∧ d 65 9 < 80) ∧ ((iI ((d 65 9) + 1)) ∧ ((0 ≤ x2) ∧ (pX12_putNumber_2 x1 (x2 / 10) g (ud (ud d 70 (d 65 9) (48 + ((x1 / x2) % 10))) 65 9 ((d 65 9) + 1)) Q))))))))) : pX12_putNumber_2 x1 x2 g d Q := by
  unfold pX12_putNumber_2
  refine mw_top (fun hT => ?_)
  have hG : 76 ≤ g.2.1 := hT.2
  refine mw_iload_n (pc' := 19) dX12_putNumber_18 rfl rfl rfl ?_
  refine mw_if_le (tgt := 43) (pc' := 22) dX12_putNumber_19 rfl (by decide) (fun c19 => ?_) (fun c19 => ?_)
  · replace h := h.1 c19
    exact mw_vret (pc' := 0) (S := []) dX12_putNumber_43 rfl h
  · replace h := h.2 c19
    refine mw_aload_n (v := vR 65) (pc' := 23) dX12_putNumber_22 rfl rfl (Or.inl rfl) rfl ?_
    refine mw_bipush (pc' := 25) dX12_putNumber_23 rfl ⟨by decide, by decide⟩ ?_
    refine mw_iload_n (pc' := 26) dX12_putNumber_25 rfl rfl rfl ?_
    refine mw_iload_n (pc' := 27) dX12_putNumber_26 rfl rfl rfl ?_
    obtain ⟨o20, h⟩ := h
    obtain ⟨o21, h⟩ := h
    refine mw_idiv (pc' := 28) dX12_putNumber_27 rfl o20 o21 ?_
    refine mw_bipush (pc' := 30) dX12_putNumber_28 rfl ⟨by decide, by decide⟩ ?_
    obtain ⟨o22, h⟩ := h
    refine mw_irem (pc' := 31) dX12_putNumber_30 rfl o22 (by decide) ?_
    obtain ⟨o23, h⟩ := h
    refine mw_iadd (pc' := 32) dX12_putNumber_31 rfl o23 ?_
    obtain ⟨o24, h⟩ := h
    obtain ⟨o25, h⟩ := h
    refine mw_callV (M' := mX12_put) (A := [vI (48 + ((x1 / x2) % 10))]) (A' := [vR 65, vI (48 + ((x1 / x2) % 10))]) (S := []) (a := 65) (pc' := 35) dX12_putNumber_32 rfl cl_RX12_102 cm_X12_put cv_X12_put ⟨by decide, by decide, by decide, by decide, by decide⟩ rfl rfl rfl ⟨by decide, by omega⟩ (by decide +kernel) (by decide +kernel) (Nat.le_of_ble_eq_true rfl) (eX12_put (⟨o24, o25, ?_⟩))
    show MW mX12_putNumber 0 0 35 [(0, vR 65), (1, vI x1), (2, vI x2)] [] g (ud (ud d 70 (d 65 9) (48 + ((x1 / x2) % 10))) 65 9 ((d 65 9) + 1)) Q
    refine mw_iload_n (pc' := 36) dX12_putNumber_35 rfl rfl rfl ?_
    refine mw_bipush (pc' := 38) dX12_putNumber_36 rfl ⟨by decide, by decide⟩ ?_
    obtain ⟨o26, h⟩ := h
    refine mw_idiv (pc' := 39) dX12_putNumber_38 rfl o26 (by decide) ?_
    refine mw_istore_n (pc' := 40) (L' := [(0, vR 65), (1, vI x1), (2, vI (x2 / 10))]) dX12_putNumber_39 rfl rfl (by decide) rfl ?_
    refine mw_goto (pc' := 0) (tgt := 18) dX12_putNumber_40 (by decide) ?_
    exact h
theorem eX12_type {x1 : Int} {g : mG} {d : mD} {Q : mQ} (h : (((d 65 7 = 60)) → Q (.inl 0) g (ud (ud d 65 5 0) 65 5 1)) ∧ ((¬ (d 65 7 = 60)) → (0 ≤ d 65 7 ∧ d 65 7 < 60) ∧ ((iI ((d 65 7) + 1)) ∧ (Q (.inl ((d 65 7) + 1)) g (ud (ud (ud d 65 5 0) 69 (d 65 7) x1) 65 7 ((d 65 7) + 1)))))) : MM mX12_type [vR 65, vI x1] g d Q := by
  refine MM_of (by decide) rfl (by simp [catV]) (Nat.le_of_ble_eq_true rfl) ?_
  show MW mX12_type 0 0 0 [(0, vR 65), (1, vI x1)] [] g d Q
  refine mw_top (fun hT => ?_)
  have hG : 76 ≤ g.2.1 := hT.2
  refine mw_aload_n (v := vR 65) (pc' := 1) dX12_type_0 rfl rfl (Or.inl rfl) rfl ?_
  refine mw_iconst (pc' := 2) dX12_type_1 rfl ⟨by decide, by decide⟩ ?_
  refine mw_putI (ji := 5) (pc' := 5) dX12_type_2 rfl (fq_RX12_41_65) (by decide +kernel) rfl (Or.inl ⟨rfl, rc_65_5⟩) (Or.inr rfl) ⟨by decide, by omega⟩ ?_
  refine mw_aload_n (v := vR 65) (pc' := 6) dX12_type_5 rfl rfl (Or.inl rfl) rfl ?_
  refine mw_aload_n (v := vR 65) (pc' := 7) dX12_type_6 rfl rfl (Or.inl rfl) rfl ?_
  refine mw_getI (ji := 7) (pc' := 10) dX12_type_7 rfl fi_RX12_59_65 rfl ⟨by decide, by decide⟩ ?_
  refine mw_st (b := d 65 7) (udI (by decide) (rfl)) ?_
  refine mw_bipush (pc' := 12) dX12_type_10 rfl ⟨by decide, by decide⟩ ?_
  suffices k1 : MW mX12_type 0 0 20 [(0, vR 65), (1, vI x1)] [vI (bI (d 65 7 = 60)), vR 65] g (ud d 65 5 0) Q by
    refine mw_icmp_ne (tgt := 19) (pc' := 15) dX12_type_12 rfl (by decide) (fun c2 => ?_) (fun c2 => ?_)
    · refine mw_iconst (pc' := 20) dX12_type_19 rfl ⟨by decide, by decide⟩ ?_
      exact mw_st (bI_f (fun h => (c2 h))).symm k1
    · refine mw_iconst (pc' := 16) dX12_type_15 rfl ⟨by decide, by decide⟩ ?_
      refine mw_goto (pc' := 0) (tgt := 20) dX12_type_16 (by decide) ?_
      exact mw_st (bI_t c2).symm k1
  refine mw_iconst (pc' := 21) dX12_type_20 rfl ⟨by decide, by decide⟩ ?_
  refine mw_callV (M' := mX12_fails) (A := [vI (bI (d 65 7 = 60)), vI 1]) (A' := [vR 65, vI (bI (d 65 7 = 60)), vI 1]) (S := []) (a := 65) (pc' := 24) dX12_type_21 rfl cl_RX12_55 cm_X12_fails cv_X12_fails ⟨by decide, by decide, by decide, by decide, by decide⟩ rfl rfl rfl ⟨by decide, by omega⟩ (by decide +kernel) (by decide +kernel) (Nat.le_of_ble_eq_true rfl) (f_fails (udS) (by decide) ?_)
  refine ⟨fun c3 => ?_, fun c3 => ?_⟩
  · replace h := h.1 (show (d 65 7 = 60) from c3)
    show MW mX12_type 0 0 24 [(0, vR 65), (1, vI x1)] [vI 1] g (ud (ud d 65 5 0) 65 5 1) Q
    refine mw_if_eq (tgt := 29) (pc' := 27) dX12_type_24 rfl (by decide) (fun q => absurd q (by decide)) (fun _ => ?_)
    refine mw_iconst (pc' := 28) dX12_type_27 rfl ⟨by decide, by decide⟩ ?_
    exact mw_iret (pc' := 0) (S := []) dX12_type_28 rfl (Or.inl rfl) h
  · replace h := h.2 (show ¬ (d 65 7 = 60) from c3)
    show MW mX12_type 0 0 24 [(0, vR 65), (1, vI x1)] [vI 0] g (ud d 65 5 0) Q
    refine mw_if_eq (tgt := 29) (pc' := 27) dX12_type_24 rfl (by decide) (fun _ => ?_) (fun q => absurd q (by decide))
    refine mw_aload_n (v := vR 65) (pc' := 30) dX12_type_29 rfl rfl (Or.inl rfl) rfl ?_
    refine mw_getP (v := 69) (pc' := 33) dX12_type_30 rfl fr_RX12_19_65 rfl sp_65_6 ⟨by decide, by decide⟩ ?_
    refine mw_aload_n (v := vR 65) (pc' := 34) dX12_type_33 rfl rfl (Or.inl rfl) rfl ?_
    refine mw_getI (ji := 7) (pc' := 37) dX12_type_34 rfl fi_RX12_59_65 rfl ⟨by decide, by decide⟩ ?_
    refine mw_st (b := d 65 7) (udI (by decide) (rfl)) ?_
    refine mw_iload_n (pc' := 38) dX12_type_37 rfl rfl rfl ?_
    obtain ⟨o4, h⟩ := h
    refine mw_iast (pc' := 39) dX12_type_38 rfl lk_69 ⟨by decide, by decide⟩ (by rw [ln_69]; exact o4) ?_
    refine mw_aload_n (v := vR 65) (pc' := 40) dX12_type_39 rfl rfl (Or.inl rfl) rfl ?_
    refine mw_dup (pc' := 41) dX12_type_40 rfl rfl ?_
    refine mw_getI (ji := 7) (pc' := 44) dX12_type_41 rfl fi_RX12_59_65 rfl ⟨by decide, by decide⟩ ?_
    refine mw_st (b := d 65 7) (udA (by decide) (udI (by decide) (rfl))) ?_
    refine mw_iconst (pc' := 45) dX12_type_44 rfl ⟨by decide, by decide⟩ ?_
    obtain ⟨o5, h⟩ := h
    refine mw_iadd (pc' := 46) dX12_type_45 rfl o5 ?_
    refine mw_putI (ji := 7) (pc' := 49) dX12_type_46 rfl (fq_RX12_59_65) (by decide +kernel) rfl (Or.inl ⟨rfl, rc_65_7⟩) (Or.inr rfl) ⟨by decide, by omega⟩ ?_
    refine mw_aload_n (v := vR 65) (pc' := 50) dX12_type_49 rfl rfl (Or.inl rfl) rfl ?_
    refine mw_getI (ji := 7) (pc' := 53) dX12_type_50 rfl fi_RX12_59_65 rfl ⟨by decide, by decide⟩ ?_
    refine mw_st (b := (d 65 7) + 1) (udS) ?_
    exact mw_iret (pc' := 0) (S := []) dX12_type_53 rfl (Or.inl rfl) h
theorem eX12_findParty {g : mG} {d : mD} {Q : mQ} (h : MM mX12_readName [vR 65] g (ud d 65 5 0) (fun o g3 d4 => match o with | .inl v2 => ((¬ (v2 = 0)) → RW (d4 66)) ∧ (((¬ (v2 = 0)) → 0 ≤ d4 65 13 ∧ d4 65 13 ≤ 8) ∧ (MM mX12_fails [vR 65, vI (bI (iT (v2 = 0) (-1) (nmF (d4 66) (d4 71) (d4 65 13)) = (-1))), vI 1] g3 d4 (fun o g13 d14 => match o with | .inl v12 => Q (.inl (iT (v12 = 0) (iT (v2 = 0) (-1) (nmF (d4 66) (d4 71) (d4 65 13))) 0)) g13 d14 | .inr k => Q (.inr k) g13 d14))) | .inr k => Q (.inr k) g3 d4)) : MM mX12_findParty [vR 65] g d Q := by
  refine MM_of (by decide) rfl (by simp [catV]) (Nat.le_of_ble_eq_true rfl) ?_
  show MW mX12_findParty 0 0 0 [(0, vR 65)] [] g d Q
  refine mw_top (fun hT => ?_)
  have hG : 76 ≤ g.2.1 := hT.2
  refine mw_aload_n (v := vR 65) (pc' := 1) dX12_findParty_0 rfl rfl (Or.inl rfl) rfl ?_
  refine mw_iconst (pc' := 2) dX12_findParty_1 rfl ⟨by decide, by decide⟩ ?_
  refine mw_putI (ji := 5) (pc' := 5) dX12_findParty_2 rfl (fq_RX12_41_65) (by decide +kernel) rfl (Or.inl ⟨rfl, rc_65_5⟩) (Or.inr rfl) ⟨by decide, by omega⟩ ?_
  refine mw_aload_n (v := vR 65) (pc' := 6) dX12_findParty_5 rfl rfl (Or.inl rfl) rfl ?_
  refine mw_callV (M' := mX12_readName) (A := []) (A' := [vR 65]) (S := []) (a := 65) (pc' := 9) dX12_findParty_6 rfl cl_RX12_85 cm_X12_readName cv_X12_readName ⟨by decide, by decide, by decide, by decide, by decide⟩ rfl rfl rfl ⟨by decide, by omega⟩ (by decide +kernel) (by decide +kernel) (Nat.le_of_ble_eq_true rfl) (MM.mono ?_ h)
  intro o g3 d4 h1
  rcases o with v2 | k
  · refine mw_top (fun hT => ?_)
    have hG : 76 ≤ g3.2.1 := hT.2
    show MW mX12_findParty 0 0 9 [(0, vR 65)] [vI v2] g3 d4 Q
    obtain ⟨o5, h1⟩ := h1
    obtain ⟨o6, h1⟩ := h1
    suffices k7 : MW mX12_findParty 0 0 20 [(0, vR 65)] [vI (iT (v2 = 0) (-1) (nmF (d4 66) (d4 71) (d4 65 13)))] g3 d4 Q by
      refine mw_if_eq (tgt := 19) (pc' := 12) dX12_findParty_9 rfl (by decide) (fun c8 => ?_) (fun c8 => ?_)
      · refine mw_iconst (pc' := 20) dX12_findParty_19 rfl ⟨by decide, by decide⟩ ?_
        exact mw_st (((iT_t c8).trans rfl)).symm k7
      · refine mw_aload_n (v := vR 65) (pc' := 13) dX12_findParty_12 rfl rfl (Or.inl rfl) rfl ?_
        refine mw_callV (M' := mX12_named) (A := []) (A' := [vR 65]) (S := []) (a := 65) (pc' := 16) dX12_findParty_13 rfl cl_RX12_89 cm_X12_named cv_X12_named ⟨by decide, by decide, by decide, by decide, by decide⟩ rfl rfl rfl ⟨by decide, by omega⟩ (by decide +kernel) (by decide +kernel) (Nat.le_of_ble_eq_true rfl) (f_named (⟨(o5 c8), (o6 c8), ?_⟩))
        show MW mX12_findParty 0 0 16 [(0, vR 65)] [vI (nmF (d4 66) (d4 71) (d4 65 13))] g3 d4 Q
        refine mw_goto (pc' := 0) (tgt := 20) dX12_findParty_16 (by decide) ?_
        exact mw_st (((iT_f c8).trans rfl)).symm k7
    refine mw_istore_n (pc' := 21) (L' := [(0, vR 65), (1, vI (iT (v2 = 0) (-1) (nmF (d4 66) (d4 71) (d4 65 13))))]) dX12_findParty_20 rfl rfl (by decide) rfl ?_
    refine mw_aload_n (v := vR 65) (pc' := 22) dX12_findParty_21 rfl rfl (Or.inl rfl) rfl ?_
    refine mw_iload_n (pc' := 23) dX12_findParty_22 rfl rfl rfl ?_
    refine mw_iconst (pc' := 24) dX12_findParty_23 rfl ⟨by decide, by decide⟩ ?_
    suffices k9 : MW mX12_findParty 0 0 32 [(0, vR 65), (1, vI (iT (v2 = 0) (-1) (nmF (d4 66) (d4 71) (d4 65 13))))] [vI (bI (iT (v2 = 0) (-1) (nmF (d4 66) (d4 71) (d4 65 13)) = (-1))), vR 65] g3 d4 Q by
      refine mw_icmp_ne (tgt := 31) (pc' := 27) dX12_findParty_24 rfl (by decide) (fun c10 => ?_) (fun c10 => ?_)
      · refine mw_iconst (pc' := 32) dX12_findParty_31 rfl ⟨by decide, by decide⟩ ?_
        exact mw_st (bI_f (fun h => (c10 h))).symm k9
      · refine mw_iconst (pc' := 28) dX12_findParty_27 rfl ⟨by decide, by decide⟩ ?_
        refine mw_goto (pc' := 0) (tgt := 32) dX12_findParty_28 (by decide) ?_
        exact mw_st (bI_t c10).symm k9
    refine mw_iconst (pc' := 33) dX12_findParty_32 rfl ⟨by decide, by decide⟩ ?_
    refine mw_callV (M' := mX12_fails) (A := [vI (bI (iT (v2 = 0) (-1) (nmF (d4 66) (d4 71) (d4 65 13)) = (-1))), vI 1]) (A' := [vR 65, vI (bI (iT (v2 = 0) (-1) (nmF (d4 66) (d4 71) (d4 65 13)) = (-1))), vI 1]) (S := []) (a := 65) (pc' := 36) dX12_findParty_33 rfl cl_RX12_55 cm_X12_fails cv_X12_fails ⟨by decide, by decide, by decide, by decide, by decide⟩ rfl rfl rfl ⟨by decide, by omega⟩ (by decide +kernel) (by decide +kernel) (Nat.le_of_ble_eq_true rfl) (MM.mono ?_ h1)
    intro o g13 d14 h11
    rcases o with v12 | k
    · refine mw_top (fun hT => ?_)
      have hG : 76 ≤ g13.2.1 := hT.2
      show MW mX12_findParty 0 0 36 [(0, vR 65), (1, vI (iT (v2 = 0) (-1) (nmF (d4 66) (d4 71) (d4 65 13))))] [vI v12] g13 d14 Q
      suffices k15 : MW mX12_findParty 0 0 44 [(0, vR 65), (1, vI (iT (v2 = 0) (-1) (nmF (d4 66) (d4 71) (d4 65 13))))] [vI (iT (v12 = 0) (iT (v2 = 0) (-1) (nmF (d4 66) (d4 71) (d4 65 13))) 0)] g13 d14 Q by
        refine mw_if_eq (tgt := 43) (pc' := 39) dX12_findParty_36 rfl (by decide) (fun c16 => ?_) (fun c16 => ?_)
        · refine mw_iload_n (pc' := 44) dX12_findParty_43 rfl rfl rfl ?_
          exact mw_st (((iT_t c16).trans rfl)).symm k15
        · refine mw_iconst (pc' := 40) dX12_findParty_39 rfl ⟨by decide, by decide⟩ ?_
          refine mw_goto (pc' := 0) (tgt := 44) dX12_findParty_40 (by decide) ?_
          exact mw_st (((iT_f c16).trans rfl)).symm k15
      exact mw_iret (pc' := 0) (S := []) dX12_findParty_44 rfl (Or.inl rfl) h11
    · exact mx_out rfl h11
  · exact mx_out rfl h1
theorem eX12_parties {g : mG} {d : mD} {Q : mQ} (h : Q (.inl (d 66 1)) g (ud d 65 5 0)) : MM mX12_parties [vR 65] g d Q := by
  refine MM_of (by decide) rfl (by simp [catV]) (Nat.le_of_ble_eq_true rfl) ?_
  show MW mX12_parties 0 0 0 [(0, vR 65)] [] g d Q
  refine mw_top (fun hT => ?_)
  have hG : 76 ≤ g.2.1 := hT.2
  refine mw_aload_n (v := vR 65) (pc' := 1) dX12_parties_0 rfl rfl (Or.inl rfl) rfl ?_
  refine mw_iconst (pc' := 2) dX12_parties_1 rfl ⟨by decide, by decide⟩ ?_
  refine mw_putI (ji := 5) (pc' := 5) dX12_parties_2 rfl (fq_RX12_41_65) (by decide +kernel) rfl (Or.inl ⟨rfl, rc_65_5⟩) (Or.inr rfl) ⟨by decide, by omega⟩ ?_
  refine mw_aload_n (v := vR 65) (pc' := 6) dX12_parties_5 rfl rfl (Or.inl rfl) rfl ?_
  refine mw_getP (v := 66) (pc' := 9) dX12_parties_6 rfl fr_RX12_9_65 rfl sp_65_0 ⟨by decide, by decide⟩ ?_
  refine mw_iconst (pc' := 10) dX12_parties_9 rfl ⟨by decide, by decide⟩ ?_
  refine mw_iald (pc' := 11) dX12_parties_10 rfl lk_66 ⟨by decide, by decide⟩ (by rw [ln_66]; exact ⟨by decide, by decide⟩) ?_
  refine mw_st (b := d 66 1) (udA (by decide) (rfl)) ?_
  exact mw_iret (pc' := 0) (S := []) dX12_parties_11 rfl (Or.inl rfl) h
theorem eX12_nameLength {x1 : Int} {g : mG} {d : mD} {Q : mQ} (h : (iI ((d 66 1) - 1)) ∧ ((((¬ ((¬ (x1 < 0)) ∧ (¬ (((d 66 1) - 1) < x1))))) → Q (.inl 0) g (ud (ud d 65 5 0) 65 5 1)) ∧ (((¬ (x1 < 0)) ∧ (¬ (((d 66 1) - 1) < x1))) → (iI (x1 * 9)) ∧ ((iI (7 + (x1 * 9))) ∧ ((0 ≤ 7 + (x1 * 9) ∧ 7 + (x1 * 9) < 787) ∧ (Q (.inl (d 66 (7 + 9 * x1))) g (ud d 65 5 0))))))) : MM mX12_nameLength [vR 65, vI x1] g d Q := by
  refine MM_of (by decide) rfl (by simp [catV]) (Nat.le_of_ble_eq_true rfl) ?_
  show MW mX12_nameLength 0 0 0 [(0, vR 65), (1, vI x1)] [] g d Q
  refine mw_top (fun hT => ?_)
  have hG : 76 ≤ g.2.1 := hT.2
  refine mw_aload_n (v := vR 65) (pc' := 1) dX12_nameLength_0 rfl rfl (Or.inl rfl) rfl ?_
  refine mw_iconst (pc' := 2) dX12_nameLength_1 rfl ⟨by decide, by decide⟩ ?_
  refine mw_putI (ji := 5) (pc' := 5) dX12_nameLength_2 rfl (fq_RX12_41_65) (by decide +kernel) rfl (Or.inl ⟨rfl, rc_65_5⟩) (Or.inr rfl) ⟨by decide, by omega⟩ ?_
  refine mw_aload_n (v := vR 65) (pc' := 6) dX12_nameLength_5 rfl rfl (Or.inl rfl) rfl ?_
  refine mw_aload_n (v := vR 65) (pc' := 7) dX12_nameLength_6 rfl rfl (Or.inl rfl) rfl ?_
  refine mw_iload_n (pc' := 8) dX12_nameLength_7 rfl rfl rfl ?_
  obtain ⟨o1, h⟩ := h
  refine mw_callV (M' := mX12_noParty) (A := [vI x1]) (A' := [vR 65, vI x1]) (S := [vR 65]) (a := 65) (pc' := 11) dX12_nameLength_8 rfl cl_RX12_96 cm_X12_noParty cv_X12_noParty ⟨by decide, by decide, by decide, by decide, by decide⟩ rfl rfl rfl ⟨by decide, by omega⟩ (by decide +kernel) (by decide +kernel) (Nat.le_of_ble_eq_true rfl) (eX12_noParty (⟨o1, ?_⟩))
  show MW mX12_nameLength 0 0 11 [(0, vR 65), (1, vI x1)] [vI (bI (¬ ((¬ (x1 < 0)) ∧ (¬ (((d 66 1) - 1) < x1))))), vR 65] g (ud d 65 5 0) Q
  refine mw_iconst (pc' := 12) dX12_nameLength_11 rfl ⟨by decide, by decide⟩ ?_
  refine mw_callV (M' := mX12_fails) (A := [vI (bI (¬ ((¬ (x1 < 0)) ∧ (¬ (((d 66 1) - 1) < x1))))), vI 1]) (A' := [vR 65, vI (bI (¬ ((¬ (x1 < 0)) ∧ (¬ (((d 66 1) - 1) < x1))))), vI 1]) (S := []) (a := 65) (pc' := 15) dX12_nameLength_12 rfl cl_RX12_55 cm_X12_fails cv_X12_fails ⟨by decide, by decide, by decide, by decide, by decide⟩ rfl rfl rfl ⟨by decide, by omega⟩ (by decide +kernel) (by decide +kernel) (Nat.le_of_ble_eq_true rfl) (f_fails (udS) (by decide) ?_)
  refine ⟨fun c2 => ?_, fun c2 => ?_⟩
  · replace h := h.1 (show (¬ ((¬ (x1 < 0)) ∧ (¬ (((d 66 1) - 1) < x1)))) from c2)
    show MW mX12_nameLength 0 0 15 [(0, vR 65), (1, vI x1)] [vI 1] g (ud (ud d 65 5 0) 65 5 1) Q
    refine mw_if_eq (tgt := 22) (pc' := 18) dX12_nameLength_15 rfl (by decide) (fun q => absurd q (by decide)) (fun _ => ?_)
    refine mw_iconst (pc' := 19) dX12_nameLength_18 rfl ⟨by decide, by decide⟩ ?_
    refine mw_goto (pc' := 0) (tgt := 31) dX12_nameLength_19 (by decide) ?_
    exact mw_iret (pc' := 0) (S := []) dX12_nameLength_31 rfl (Or.inl rfl) h
  · replace h := h.2 (show (¬ (x1 < 0)) ∧ (¬ (((d 66 1) - 1) < x1)) from (Classical.not_not.mp c2))
    show MW mX12_nameLength 0 0 15 [(0, vR 65), (1, vI x1)] [vI 0] g (ud d 65 5 0) Q
    refine mw_if_eq (tgt := 22) (pc' := 18) dX12_nameLength_15 rfl (by decide) (fun _ => ?_) (fun q => absurd q (by decide))
    refine mw_aload_n (v := vR 65) (pc' := 23) dX12_nameLength_22 rfl rfl (Or.inl rfl) rfl ?_
    refine mw_getP (v := 66) (pc' := 26) dX12_nameLength_23 rfl fr_RX12_9_65 rfl sp_65_0 ⟨by decide, by decide⟩ ?_
    refine mw_iload_n (pc' := 27) dX12_nameLength_26 rfl rfl rfl ?_
    obtain ⟨o3, h⟩ := h
    obtain ⟨o4, h⟩ := h
    refine mw_callS (M' := mX12_nameAt) (A := [vI x1]) (S := [vR 66]) (pc' := 30) dX12_nameLength_27 rfl cl_RX12_81 cm_X12_nameAt cs_X12_nameAt ⟨by decide, by decide, by decide, by decide, by decide⟩ rfl rfl (Nat.le_of_ble_eq_true rfl) (eX12_nameAt (⟨o3, o4, ?_⟩))
    show MW mX12_nameLength 0 0 30 [(0, vR 65), (1, vI x1)] [vI (7 + (x1 * 9)), vR 66] g (ud d 65 5 0) Q
    obtain ⟨o5, h⟩ := h
    refine mw_iald (pc' := 31) dX12_nameLength_30 rfl lk_66 ⟨by decide, by decide⟩ (by rw [ln_66]; exact o5) ?_
    refine mw_st (b := (ud d 65 5 0) 66 (7 + 9 * x1)) (congrArg ((ud d 65 5 0) 66) (by omega)) ?_
    refine mw_st (b := d 66 (7 + 9 * x1)) (udA (by decide) (rfl)) ?_
    exact mw_iret (pc' := 0) (S := []) dX12_nameLength_31 rfl (Or.inl rfl) h
theorem eX12_nameCodePoint {x1 x2 : Int} {g : mG} {d : mD} {Q : mQ} (h : (iI ((d 66 1) - 1)) ∧ ((((¬ ((¬ (x1 < 0)) ∧ (¬ (((d 66 1) - 1) < x1))))) → Q (.inl 0) g (ud (ud d 65 5 0) 65 5 1)) ∧ (((¬ (x1 < 0)) ∧ (¬ (((d 66 1) - 1) < x1))) → (iI (x1 * 9)) ∧ ((iI (7 + (x1 * 9))) ∧ ((0 ≤ 7 + (x1 * 9) ∧ 7 + (x1 * 9) < 787) ∧ ((iI ((d 66 (7 + 9 * x1)) - 1)) ∧ ((((¬ ((¬ (x2 < 0)) ∧ (¬ (((d 66 (7 + 9 * x1)) - 1) < x2))))) → Q (.inl 0) g (ud (ud d 65 5 0) 65 5 1)) ∧ (((¬ (x2 < 0)) ∧ (¬ (((d 66 (7 + 9 * x1)) - 1) < x2))) → (iI ((7 + (x1 * 9)) + 1)) ∧ ((iI (((7 + (x1 * 9)) + 1) + x2)) ∧ ((0 ≤ ((7 + (x1 * 9)) + 1) + x2 ∧ ((7 + (x1 * 9)) + 1) + x2 < 787) ∧ (Q (.inl (d 66 (8 + 9 * x1 + x2))) g (ud d 65 5 0)))))))))))) : MM mX12_nameCodePoint [vR 65, vI x1, vI x2] g d Q := by
  refine MM_of (by decide) rfl (by simp [catV]) (Nat.le_of_ble_eq_true rfl) ?_
  show MW mX12_nameCodePoint 0 0 0 [(0, vR 65), (1, vI x1), (2, vI x2)] [] g d Q
  refine mw_top (fun hT => ?_)
  have hG : 76 ≤ g.2.1 := hT.2
  refine mw_aload_n (v := vR 65) (pc' := 1) dX12_nameCodePoint_0 rfl rfl (Or.inl rfl) rfl ?_
  refine mw_iconst (pc' := 2) dX12_nameCodePoint_1 rfl ⟨by decide, by decide⟩ ?_
  refine mw_putI (ji := 5) (pc' := 5) dX12_nameCodePoint_2 rfl (fq_RX12_41_65) (by decide +kernel) rfl (Or.inl ⟨rfl, rc_65_5⟩) (Or.inr rfl) ⟨by decide, by omega⟩ ?_
  refine mw_aload_n (v := vR 65) (pc' := 6) dX12_nameCodePoint_5 rfl rfl (Or.inl rfl) rfl ?_
  refine mw_aload_n (v := vR 65) (pc' := 7) dX12_nameCodePoint_6 rfl rfl (Or.inl rfl) rfl ?_
  refine mw_iload_n (pc' := 8) dX12_nameCodePoint_7 rfl rfl rfl ?_
  obtain ⟨o1, h⟩ := h
  refine mw_callV (M' := mX12_noParty) (A := [vI x1]) (A' := [vR 65, vI x1]) (S := [vR 65]) (a := 65) (pc' := 11) dX12_nameCodePoint_8 rfl cl_RX12_96 cm_X12_noParty cv_X12_noParty ⟨by decide, by decide, by decide, by decide, by decide⟩ rfl rfl rfl ⟨by decide, by omega⟩ (by decide +kernel) (by decide +kernel) (Nat.le_of_ble_eq_true rfl) (eX12_noParty (⟨o1, ?_⟩))
  show MW mX12_nameCodePoint 0 0 11 [(0, vR 65), (1, vI x1), (2, vI x2)] [vI (bI (¬ ((¬ (x1 < 0)) ∧ (¬ (((d 66 1) - 1) < x1))))), vR 65] g (ud d 65 5 0) Q
  refine mw_iconst (pc' := 12) dX12_nameCodePoint_11 rfl ⟨by decide, by decide⟩ ?_
  refine mw_callV (M' := mX12_fails) (A := [vI (bI (¬ ((¬ (x1 < 0)) ∧ (¬ (((d 66 1) - 1) < x1))))), vI 1]) (A' := [vR 65, vI (bI (¬ ((¬ (x1 < 0)) ∧ (¬ (((d 66 1) - 1) < x1))))), vI 1]) (S := []) (a := 65) (pc' := 15) dX12_nameCodePoint_12 rfl cl_RX12_55 cm_X12_fails cv_X12_fails ⟨by decide, by decide, by decide, by decide, by decide⟩ rfl rfl rfl ⟨by decide, by omega⟩ (by decide +kernel) (by decide +kernel) (Nat.le_of_ble_eq_true rfl) (f_fails (udS) (by decide) ?_)
  refine ⟨fun c2 => ?_, fun c2 => ?_⟩
  · replace h := h.1 (show (¬ ((¬ (x1 < 0)) ∧ (¬ (((d 66 1) - 1) < x1)))) from c2)
    show MW mX12_nameCodePoint 0 0 15 [(0, vR 65), (1, vI x1), (2, vI x2)] [vI 1] g (ud (ud d 65 5 0) 65 5 1) Q
    refine mw_if_ne (tgt := 50) (pc' := 18) dX12_nameCodePoint_15 rfl (by decide) (fun _ => ?_) (fun q => absurd q (by decide))
    refine mw_iconst (pc' := 51) dX12_nameCodePoint_50 rfl ⟨by decide, by decide⟩ ?_
    refine mw_goto (pc' := 0) (tgt := 67) dX12_nameCodePoint_51 (by decide) ?_
    exact mw_iret (pc' := 0) (S := []) dX12_nameCodePoint_67 rfl (Or.inl rfl) h
  · replace h := h.2 (show (¬ (x1 < 0)) ∧ (¬ (((d 66 1) - 1) < x1)) from (Classical.not_not.mp c2))
    show MW mX12_nameCodePoint 0 0 15 [(0, vR 65), (1, vI x1), (2, vI x2)] [vI 0] g (ud d 65 5 0) Q
    refine mw_if_ne (tgt := 50) (pc' := 18) dX12_nameCodePoint_15 rfl (by decide) (fun q => absurd q (by decide)) (fun _ => ?_)
    refine mw_aload_n (v := vR 65) (pc' := 19) dX12_nameCodePoint_18 rfl rfl (Or.inl rfl) rfl ?_
    refine mw_iload_n (pc' := 20) dX12_nameCodePoint_19 rfl rfl rfl ?_
    refine mw_iconst (pc' := 21) dX12_nameCodePoint_20 rfl ⟨by decide, by decide⟩ ?_
    refine mw_aload_n (v := vR 65) (pc' := 22) dX12_nameCodePoint_21 rfl rfl (Or.inl rfl) rfl ?_
    refine mw_getP (v := 66) (pc' := 25) dX12_nameCodePoint_22 rfl fr_RX12_9_65 rfl sp_65_0 ⟨by decide, by decide⟩ ?_
    refine mw_iload_n (pc' := 26) dX12_nameCodePoint_25 rfl rfl rfl ?_
    obtain ⟨o3, h⟩ := h
    obtain ⟨o4, h⟩ := h
    refine mw_callS (M' := mX12_nameAt) (A := [vI x1]) (S := [vR 66, vI 0, vI x2, vR 65]) (pc' := 29) dX12_nameCodePoint_26 rfl cl_RX12_81 cm_X12_nameAt cs_X12_nameAt ⟨by decide, by decide, by decide, by decide, by decide⟩ rfl rfl (Nat.le_of_ble_eq_true rfl) (eX12_nameAt (⟨o3, o4, ?_⟩))
    show MW mX12_nameCodePoint 0 0 29 [(0, vR 65), (1, vI x1), (2, vI x2)] [vI (7 + (x1 * 9)), vR 66, vI 0, vI x2, vR 65] g (ud d 65 5 0) Q
    obtain ⟨o5, h⟩ := h
    refine mw_iald (pc' := 30) dX12_nameCodePoint_29 rfl lk_66 ⟨by decide, by decide⟩ (by rw [ln_66]; exact o5) ?_
    refine mw_st (b := (ud d 65 5 0) 66 (7 + 9 * x1)) (congrArg ((ud d 65 5 0) 66) (by omega)) ?_
    refine mw_st (b := d 66 (7 + 9 * x1)) (udA (by decide) (rfl)) ?_
    refine mw_iconst (pc' := 31) dX12_nameCodePoint_30 rfl ⟨by decide, by decide⟩ ?_
    obtain ⟨o6, h⟩ := h
    refine mw_isub (pc' := 32) dX12_nameCodePoint_31 rfl o6 ?_
    refine mw_callS (M' := mX12_in) (A := [vI x2, vI 0, vI ((d 66 (7 + 9 * x1)) - 1)]) (S := [vR 65]) (pc' := 35) dX12_nameCodePoint_32 rfl cl_RX12_64 cm_X12_in cs_X12_in ⟨by decide, by decide, by decide, by decide, by decide⟩ rfl rfl (Nat.le_of_ble_eq_true rfl) (eX12_in ?_)
    show MW mX12_nameCodePoint 0 0 35 [(0, vR 65), (1, vI x1), (2, vI x2)] [vI (bI ((¬ (x2 < 0)) ∧ (¬ (((d 66 (7 + 9 * x1)) - 1) < x2)))), vR 65] g (ud d 65 5 0) Q
    suffices k7 : MW mX12_nameCodePoint 0 0 43 [(0, vR 65), (1, vI x1), (2, vI x2)] [vI (bI (¬ ((¬ (x2 < 0)) ∧ (¬ (((d 66 (7 + 9 * x1)) - 1) < x2))))), vR 65] g (ud d 65 5 0) Q by
      refine mw_if_ne (tgt := 42) (pc' := 38) dX12_nameCodePoint_35 rfl (by decide) (fun c8 => ?_) (fun c8 => ?_)
      · replace c8 := bI_n0.mp c8
        refine mw_iconst (pc' := 43) dX12_nameCodePoint_42 rfl ⟨by decide, by decide⟩ ?_
        exact mw_st (bI_f (fun h => (h c8))).symm k7
      · replace c8 := bI_0.mp c8
        refine mw_iconst (pc' := 39) dX12_nameCodePoint_38 rfl ⟨by decide, by decide⟩ ?_
        refine mw_goto (pc' := 0) (tgt := 43) dX12_nameCodePoint_39 (by decide) ?_
        exact mw_st (bI_t c8).symm k7
    refine mw_iconst (pc' := 44) dX12_nameCodePoint_43 rfl ⟨by decide, by decide⟩ ?_
    refine mw_callV (M' := mX12_fails) (A := [vI (bI (¬ ((¬ (x2 < 0)) ∧ (¬ (((d 66 (7 + 9 * x1)) - 1) < x2))))), vI 1]) (A' := [vR 65, vI (bI (¬ ((¬ (x2 < 0)) ∧ (¬ (((d 66 (7 + 9 * x1)) - 1) < x2))))), vI 1]) (S := []) (a := 65) (pc' := 47) dX12_nameCodePoint_44 rfl cl_RX12_55 cm_X12_fails cv_X12_fails ⟨by decide, by decide, by decide, by decide, by decide⟩ rfl rfl rfl ⟨by decide, by omega⟩ (by decide +kernel) (by decide +kernel) (Nat.le_of_ble_eq_true rfl) (f_fails (udS) (by decide) ?_)
    refine ⟨fun c9 => ?_, fun c9 => ?_⟩
    · replace h := h.1 (show (¬ ((¬ (x2 < 0)) ∧ (¬ (((d 66 (7 + 9 * x1)) - 1) < x2)))) from c9)
      show MW mX12_nameCodePoint 0 0 47 [(0, vR 65), (1, vI x1), (2, vI x2)] [vI 1] g (ud (ud d 65 5 0) 65 5 1) Q
      refine mw_if_eq (tgt := 54) (pc' := 50) dX12_nameCodePoint_47 rfl (by decide) (fun q => absurd q (by decide)) (fun _ => ?_)
      refine mw_iconst (pc' := 51) dX12_nameCodePoint_50 rfl ⟨by decide, by decide⟩ ?_
      refine mw_goto (pc' := 0) (tgt := 67) dX12_nameCodePoint_51 (by decide) ?_
      exact mw_iret (pc' := 0) (S := []) dX12_nameCodePoint_67 rfl (Or.inl rfl) h
    · replace h := h.2 (show (¬ (x2 < 0)) ∧ (¬ (((d 66 (7 + 9 * x1)) - 1) < x2)) from (Classical.not_not.mp c9))
      show MW mX12_nameCodePoint 0 0 47 [(0, vR 65), (1, vI x1), (2, vI x2)] [vI 0] g (ud d 65 5 0) Q
      refine mw_if_eq (tgt := 54) (pc' := 50) dX12_nameCodePoint_47 rfl (by decide) (fun _ => ?_) (fun q => absurd q (by decide))
      refine mw_aload_n (v := vR 65) (pc' := 55) dX12_nameCodePoint_54 rfl rfl (Or.inl rfl) rfl ?_
      refine mw_getP (v := 66) (pc' := 58) dX12_nameCodePoint_55 rfl fr_RX12_9_65 rfl sp_65_0 ⟨by decide, by decide⟩ ?_
      refine mw_iload_n (pc' := 59) dX12_nameCodePoint_58 rfl rfl rfl ?_
      refine mw_callS (M' := mX12_nameAt) (A := [vI x1]) (S := [vR 66]) (pc' := 62) dX12_nameCodePoint_59 rfl cl_RX12_81 cm_X12_nameAt cs_X12_nameAt ⟨by decide, by decide, by decide, by decide, by decide⟩ rfl rfl (Nat.le_of_ble_eq_true rfl) (eX12_nameAt (⟨o3, o4, ?_⟩))
      show MW mX12_nameCodePoint 0 0 62 [(0, vR 65), (1, vI x1), (2, vI x2)] [vI (7 + (x1 * 9)), vR 66] g (ud d 65 5 0) Q
      refine mw_iconst (pc' := 63) dX12_nameCodePoint_62 rfl ⟨by decide, by decide⟩ ?_
      obtain ⟨o12, h⟩ := h
      refine mw_iadd (pc' := 64) dX12_nameCodePoint_63 rfl o12 ?_
      refine mw_iload_n (pc' := 65) dX12_nameCodePoint_64 rfl rfl rfl ?_
      obtain ⟨o13, h⟩ := h
      refine mw_iadd (pc' := 66) dX12_nameCodePoint_65 rfl o13 ?_
      obtain ⟨o14, h⟩ := h
      refine mw_iald (pc' := 67) dX12_nameCodePoint_66 rfl lk_66 ⟨by decide, by decide⟩ (by rw [ln_66]; exact o14) ?_
      refine mw_st (b := (ud d 65 5 0) 66 (8 + 9 * x1 + x2)) (congrArg ((ud d 65 5 0) 66) (by omega)) ?_
      refine mw_st (b := d 66 (8 + 9 * x1 + x2)) (udA (by decide) (rfl)) ?_
      exact mw_iret (pc' := 0) (S := []) dX12_nameCodePoint_67 rfl (Or.inl rfl) h
def pX12_writeNameReversed_1 (x1 x2 : Int) (g : mG) (d : mD) (Q : mQ) : Prop := MW mX12_writeNameReversed 0 0 35 [(0, vR 65), (1, vI x1), (2, vI x2)] [] g d Q
theorem eX12_writeNameReversed {x1 : Int} {g : mG} {d : mD} {Q : mQ} (h : (iI ((d 66 1) - 1)) ∧ ((((¬ ((¬ (x1 < 0)) ∧ (¬ (((d 66 1) - 1) < x1))))) → Q (.inl 0) g (ud (ud d 65 5 0) 65 5 1)) ∧ (((¬ (x1 < 0)) ∧ (¬ (((d 66 1) - 1) < x1))) → (iI (x1 * 9)) ∧ ((iI (7 + (x1 * 9))) ∧ ((0 ≤ 7 + (x1 * 9) ∧ 7 + (x1 * 9) < 787) ∧ (pX12_writeNameReversed_1 x1 (d 66 (7 + 9 * x1)) g (ud (ud d 65 5 0) 65 9 0) Q)))))) : MM mX12_writeNameReversed [vR 65, vI x1] g d Q := by
  refine MM_of (by decide) rfl (by simp [catV]) (Nat.le_of_ble_eq_true rfl) ?_
  show MW mX12_writeNameReversed 0 0 0 [(0, vR 65), (1, vI x1)] [] g d Q
  refine mw_top (fun hT => ?_)
  have hG : 76 ≤ g.2.1 := hT.2
  refine mw_aload_n (v := vR 65) (pc' := 1) dX12_writeNameReversed_0 rfl rfl (Or.inl rfl) rfl ?_
  refine mw_iconst (pc' := 2) dX12_writeNameReversed_1 rfl ⟨by decide, by decide⟩ ?_
  refine mw_putI (ji := 5) (pc' := 5) dX12_writeNameReversed_2 rfl (fq_RX12_41_65) (by decide +kernel) rfl (Or.inl ⟨rfl, rc_65_5⟩) (Or.inr rfl) ⟨by decide, by omega⟩ ?_
  refine mw_aload_n (v := vR 65) (pc' := 6) dX12_writeNameReversed_5 rfl rfl (Or.inl rfl) rfl ?_
  refine mw_aload_n (v := vR 65) (pc' := 7) dX12_writeNameReversed_6 rfl rfl (Or.inl rfl) rfl ?_
  refine mw_iload_n (pc' := 8) dX12_writeNameReversed_7 rfl rfl rfl ?_
  obtain ⟨o1, h⟩ := h
  refine mw_callV (M' := mX12_noParty) (A := [vI x1]) (A' := [vR 65, vI x1]) (S := [vR 65]) (a := 65) (pc' := 11) dX12_writeNameReversed_8 rfl cl_RX12_96 cm_X12_noParty cv_X12_noParty ⟨by decide, by decide, by decide, by decide, by decide⟩ rfl rfl rfl ⟨by decide, by omega⟩ (by decide +kernel) (by decide +kernel) (Nat.le_of_ble_eq_true rfl) (eX12_noParty (⟨o1, ?_⟩))
  show MW mX12_writeNameReversed 0 0 11 [(0, vR 65), (1, vI x1)] [vI (bI (¬ ((¬ (x1 < 0)) ∧ (¬ (((d 66 1) - 1) < x1))))), vR 65] g (ud d 65 5 0) Q
  refine mw_iconst (pc' := 12) dX12_writeNameReversed_11 rfl ⟨by decide, by decide⟩ ?_
  refine mw_callV (M' := mX12_fails) (A := [vI (bI (¬ ((¬ (x1 < 0)) ∧ (¬ (((d 66 1) - 1) < x1))))), vI 1]) (A' := [vR 65, vI (bI (¬ ((¬ (x1 < 0)) ∧ (¬ (((d 66 1) - 1) < x1))))), vI 1]) (S := []) (a := 65) (pc' := 15) dX12_writeNameReversed_12 rfl cl_RX12_55 cm_X12_fails cv_X12_fails ⟨by decide, by decide, by decide, by decide, by decide⟩ rfl rfl rfl ⟨by decide, by omega⟩ (by decide +kernel) (by decide +kernel) (Nat.le_of_ble_eq_true rfl) (f_fails (udS) (by decide) ?_)
  refine ⟨fun c2 => ?_, fun c2 => ?_⟩
  · replace h := h.1 (show (¬ ((¬ (x1 < 0)) ∧ (¬ (((d 66 1) - 1) < x1)))) from c2)
    show MW mX12_writeNameReversed 0 0 15 [(0, vR 65), (1, vI x1)] [vI 1] g (ud (ud d 65 5 0) 65 5 1) Q
    refine mw_if_eq (tgt := 20) (pc' := 18) dX12_writeNameReversed_15 rfl (by decide) (fun q => absurd q (by decide)) (fun _ => ?_)
    refine mw_iconst (pc' := 19) dX12_writeNameReversed_18 rfl ⟨by decide, by decide⟩ ?_
    exact mw_iret (pc' := 0) (S := []) dX12_writeNameReversed_19 rfl (Or.inl rfl) h
  · replace h := h.2 (show (¬ (x1 < 0)) ∧ (¬ (((d 66 1) - 1) < x1)) from (Classical.not_not.mp c2))
    show MW mX12_writeNameReversed 0 0 15 [(0, vR 65), (1, vI x1)] [vI 0] g (ud d 65 5 0) Q
    refine mw_if_eq (tgt := 20) (pc' := 18) dX12_writeNameReversed_15 rfl (by decide) (fun _ => ?_) (fun q => absurd q (by decide))
    refine mw_aload_n (v := vR 65) (pc' := 21) dX12_writeNameReversed_20 rfl rfl (Or.inl rfl) rfl ?_
    refine mw_iconst (pc' := 22) dX12_writeNameReversed_21 rfl ⟨by decide, by decide⟩ ?_
    refine mw_putI (ji := 9) (pc' := 25) dX12_writeNameReversed_22 rfl (fq_RX12_99_65) (by decide +kernel) rfl (Or.inl ⟨rfl, rc_65_9⟩) (Or.inr rfl) ⟨by decide, by omega⟩ ?_
    refine mw_aload_n (v := vR 65) (pc' := 26) dX12_writeNameReversed_25 rfl rfl (Or.inl rfl) rfl ?_
    refine mw_getP (v := 66) (pc' := 29) dX12_writeNameReversed_26 rfl fr_RX12_9_65 rfl sp_65_0 ⟨by decide, by decide⟩ ?_
    refine mw_iload_n (pc' := 30) dX12_writeNameReversed_29 rfl rfl rfl ?_
    obtain ⟨o3, h⟩ := h
    obtain ⟨o4, h⟩ := h
    refine mw_callS (M' := mX12_nameAt) (A := [vI x1]) (S := [vR 66]) (pc' := 33) dX12_writeNameReversed_30 rfl cl_RX12_81 cm_X12_nameAt cs_X12_nameAt ⟨by decide, by decide, by decide, by decide, by decide⟩ rfl rfl (Nat.le_of_ble_eq_true rfl) (eX12_nameAt (⟨o3, o4, ?_⟩))
    show MW mX12_writeNameReversed 0 0 33 [(0, vR 65), (1, vI x1)] [vI (7 + (x1 * 9)), vR 66] g (ud (ud d 65 5 0) 65 9 0) Q
    obtain ⟨o5, h⟩ := h
    refine mw_iald (pc' := 34) dX12_writeNameReversed_33 rfl lk_66 ⟨by decide, by decide⟩ (by rw [ln_66]; exact o5) ?_
    refine mw_st (b := (ud (ud d 65 5 0) 65 9 0) 66 (7 + 9 * x1)) (congrArg ((ud (ud d 65 5 0) 65 9 0) 66) (by omega)) ?_
    refine mw_st (b := d 66 (7 + 9 * x1)) (udA (by decide) (udA (by decide) (rfl))) ?_
    refine mw_istore_n (pc' := 35) (L' := [(0, vR 65), (1, vI x1), (2, vI (d 66 (7 + 9 * x1)))]) dX12_writeNameReversed_34 rfl rfl (by decide) rfl ?_
    exact h
theorem aX12_writeNameReversed_1 {x1 x2 : Int} {g : mG} {d : mD} {Q : mQ} (h : ((x2 ≤ 0) → Q (.inl (d 65 9)) g d) ∧ ((¬ (x2 ≤ 0)) → (iI (x1 * 9)) ∧ ((iI (7 + (x1 * 9))) ∧ ((iI ((7 + (x1 * 9)) + x2)) ∧ ((0 ≤ (7 + (x1 * 9)) + x2 ∧ (7 + (x1 * 9)) + x2 < 787) ∧ (((d 66 (7 + 9 * x1 + x2) < 65536) → (0 ≤ d 65 9 ∧ d 65 9 < 80) ∧ ((iI ((d 65 9) + 1)) ∧ ((iI (x2 + (-1))) ∧ (pX12_writeNameReversed_1 x1 (x2 + (-1)) g (ud (ud d 70 (d 65 9) (d 66 (7 + 9 * x1 + x2))) 65 9 ((d 65 9) + 1)) Q)))) ∧ ((¬ (d 66 (7 + 9 * x1 + x2) < 65536)) → (iI ((d 66 (7 + 9 * x1 + x2)) - 65536)) ∧ ((0 ≤ (d 66 (7 + 9 * x1 + x2)) - 65536) ∧ ((iI (55296 + (((d 66 (7 + 9 * x1 + x2)) - 65536) / 1024))) ∧ ((0 ≤ d 65 9 ∧ d 65 9 < 80) ∧ ((iI ((d 65 9) + 1)) ∧ ((iI (56320 + (((d 66 (7 + 9 * x1 + x2)) - 65536) % 1024))) ∧ ((0 ≤ ((d 65 9) + 1) ∧ ((d 65 9) + 1) < 80) ∧ ((iI ((((d 65 9) + 1)) + 1)) ∧ ((iI (x2 + (-1))) ∧ (pX12_writeNameReversed_1 x1 (x2 + (-1)) g (ud (ud (ud (ud d 70 (d 65 9) (55296 + (((d 66 (7 + 9 * x1 + x2)) - 65536) / 1024))) 65 9 ((d 65 9) + 1)) 70 ((d 65 9) + 1) (56320 + (((d 66 (7 + 9 * x1 + x2)) - 65536) % 1024))) 65 9 ((((d 65 9) + 1)) + 1)) Q)))))))))))))))) : pX12_writeNameReversed_1 x1 x2 g d Q := by
  unfold pX12_writeNameReversed_1
  refine mw_top (fun hT => ?_)
  have hG : 76 ≤ g.2.1 := hT.2
  refine mw_iload_n (pc' := 36) dX12_writeNameReversed_35 rfl rfl rfl ?_
  refine mw_if_le (tgt := 101) (pc' := 39) dX12_writeNameReversed_36 rfl (by decide) (fun c14 => ?_) (fun c14 => ?_)
  · replace h := h.1 c14
    refine mw_aload_n (v := vR 65) (pc' := 102) dX12_writeNameReversed_101 rfl rfl (Or.inl rfl) rfl ?_
    refine mw_getI (ji := 9) (pc' := 105) dX12_writeNameReversed_102 rfl fi_RX12_99_65 rfl ⟨by decide, by decide⟩ ?_
    exact mw_iret (pc' := 0) (S := []) dX12_writeNameReversed_105 rfl (Or.inl rfl) h
  · replace h := h.2 c14
    refine mw_aload_n (v := vR 65) (pc' := 40) dX12_writeNameReversed_39 rfl rfl (Or.inl rfl) rfl ?_
    refine mw_getP (v := 66) (pc' := 43) dX12_writeNameReversed_40 rfl fr_RX12_9_65 rfl sp_65_0 ⟨by decide, by decide⟩ ?_
    refine mw_iload_n (pc' := 44) dX12_writeNameReversed_43 rfl rfl rfl ?_
    obtain ⟨o15, h⟩ := h
    obtain ⟨o16, h⟩ := h
    refine mw_callS (M' := mX12_nameAt) (A := [vI x1]) (S := [vR 66]) (pc' := 47) dX12_writeNameReversed_44 rfl cl_RX12_81 cm_X12_nameAt cs_X12_nameAt ⟨by decide, by decide, by decide, by decide, by decide⟩ rfl rfl (Nat.le_of_ble_eq_true rfl) (eX12_nameAt (⟨o15, o16, ?_⟩))
    show MW mX12_writeNameReversed 0 0 47 [(0, vR 65), (1, vI x1), (2, vI x2)] [vI (7 + (x1 * 9)), vR 66] g d Q
    refine mw_iload_n (pc' := 48) dX12_writeNameReversed_47 rfl rfl rfl ?_
    obtain ⟨o17, h⟩ := h
    refine mw_iadd (pc' := 49) dX12_writeNameReversed_48 rfl o17 ?_
    obtain ⟨o18, h⟩ := h
    refine mw_iald (pc' := 50) dX12_writeNameReversed_49 rfl lk_66 ⟨by decide, by decide⟩ (by rw [ln_66]; exact o18) ?_
    refine mw_st (b := d 66 (7 + 9 * x1 + x2)) (congrArg (d 66) (by omega)) ?_
    refine mw_istore_n (pc' := 51) (L' := [(0, vR 65), (1, vI x1), (2, vI x2), (3, vI (d 66 (7 + 9 * x1 + x2)))]) dX12_writeNameReversed_50 rfl rfl (by decide) rfl ?_
    refine mw_iload_n (pc' := 52) dX12_writeNameReversed_51 rfl rfl rfl ?_
    refine mw_ldc (n := 65536) (pc' := 54) dX12_writeNameReversed_52 rfl bw_1716 ⟨by decide, by decide⟩ ?_
    refine mw_icmp_lt (tgt := 90) (pc' := 57) dX12_writeNameReversed_54 rfl (by decide) (fun c33 => ?_) (fun c33 => ?_)
    · replace h := h.1 c33
      refine mw_aload_n (v := vR 65) (pc' := 91) dX12_writeNameReversed_90 rfl rfl (Or.inl rfl) rfl ?_
      refine mw_iload_n (pc' := 92) dX12_writeNameReversed_91 rfl rfl rfl ?_
      obtain ⟨o34, h⟩ := h
      obtain ⟨o35, h⟩ := h
      refine mw_callV (M' := mX12_put) (A := [vI (d 66 (7 + 9 * x1 + x2))]) (A' := [vR 65, vI (d 66 (7 + 9 * x1 + x2))]) (S := []) (a := 65) (pc' := 95) dX12_writeNameReversed_92 rfl cl_RX12_102 cm_X12_put cv_X12_put ⟨by decide, by decide, by decide, by decide, by decide⟩ rfl rfl rfl ⟨by decide, by omega⟩ (by decide +kernel) (by decide +kernel) (Nat.le_of_ble_eq_true rfl) (eX12_put (⟨o34, o35, ?_⟩))
      show MW mX12_writeNameReversed 0 0 95 [(0, vR 65), (1, vI x1), (2, vI x2), (3, vI (d 66 (7 + 9 * x1 + x2)))] [] g (ud (ud d 70 (d 65 9) (d 66 (7 + 9 * x1 + x2))) 65 9 ((d 65 9) + 1)) Q
      obtain ⟨o36, h⟩ := h
      refine mw_iinc (pc' := 98) (L' := [(0, vR 65), (1, vI x1), (2, vI (x2 + (-1))), (3, vI (d 66 (7 + 9 * x1 + x2)))]) dX12_writeNameReversed_95 rfl rfl (by decide) o36 rfl ?_
      refine mw_goto (pc' := 0) (tgt := 35) dX12_writeNameReversed_98 (by decide) ?_
      exact mw_loc (pc' := 0) [0, 1, 2] rfl h
    · replace h := h.2 c33
      refine mw_aload_n (v := vR 65) (pc' := 58) dX12_writeNameReversed_57 rfl rfl (Or.inl rfl) rfl ?_
      refine mw_ldc (n := 55296) (pc' := 60) dX12_writeNameReversed_58 rfl bw_1706 ⟨by decide, by decide⟩ ?_
      refine mw_iload_n (pc' := 61) dX12_writeNameReversed_60 rfl rfl rfl ?_
      refine mw_ldc (n := 65536) (pc' := 63) dX12_writeNameReversed_61 rfl bw_1716 ⟨by decide, by decide⟩ ?_
      obtain ⟨o37, h⟩ := h
      refine mw_isub (pc' := 64) dX12_writeNameReversed_63 rfl o37 ?_
      refine mw_sipush (pc' := 67) dX12_writeNameReversed_64 rfl ⟨by decide, by decide⟩ ?_
      obtain ⟨o38, h⟩ := h
      refine mw_idiv (pc' := 68) dX12_writeNameReversed_67 rfl o38 (by decide) ?_
      obtain ⟨o39, h⟩ := h
      refine mw_iadd (pc' := 69) dX12_writeNameReversed_68 rfl o39 ?_
      obtain ⟨o40, h⟩ := h
      obtain ⟨o41, h⟩ := h
      refine mw_callV (M' := mX12_put) (A := [vI (55296 + (((d 66 (7 + 9 * x1 + x2)) - 65536) / 1024))]) (A' := [vR 65, vI (55296 + (((d 66 (7 + 9 * x1 + x2)) - 65536) / 1024))]) (S := []) (a := 65) (pc' := 72) dX12_writeNameReversed_69 rfl cl_RX12_102 cm_X12_put cv_X12_put ⟨by decide, by decide, by decide, by decide, by decide⟩ rfl rfl rfl ⟨by decide, by omega⟩ (by decide +kernel) (by decide +kernel) (Nat.le_of_ble_eq_true rfl) (eX12_put (⟨o40, o41, ?_⟩))
      show MW mX12_writeNameReversed 0 0 72 [(0, vR 65), (1, vI x1), (2, vI x2), (3, vI (d 66 (7 + 9 * x1 + x2)))] [] g (ud (ud d 70 (d 65 9) (55296 + (((d 66 (7 + 9 * x1 + x2)) - 65536) / 1024))) 65 9 ((d 65 9) + 1)) Q
      refine mw_aload_n (v := vR 65) (pc' := 73) dX12_writeNameReversed_72 rfl rfl (Or.inl rfl) rfl ?_
      refine mw_ldc (n := 56320) (pc' := 75) dX12_writeNameReversed_73 rfl bw_1714 ⟨by decide, by decide⟩ ?_
      refine mw_iload_n (pc' := 76) dX12_writeNameReversed_75 rfl rfl rfl ?_
      refine mw_ldc (n := 65536) (pc' := 78) dX12_writeNameReversed_76 rfl bw_1716 ⟨by decide, by decide⟩ ?_
      refine mw_isub (pc' := 79) dX12_writeNameReversed_78 rfl o37 ?_
      refine mw_sipush (pc' := 82) dX12_writeNameReversed_79 rfl ⟨by decide, by decide⟩ ?_
      refine mw_irem (pc' := 83) dX12_writeNameReversed_82 rfl o38 (by decide) ?_
      obtain ⟨o44, h⟩ := h
      refine mw_iadd (pc' := 84) dX12_writeNameReversed_83 rfl o44 ?_
      obtain ⟨o45, h⟩ := h
      obtain ⟨o46, h⟩ := h
      refine mw_callV (M' := mX12_put) (A := [vI (56320 + (((d 66 (7 + 9 * x1 + x2)) - 65536) % 1024))]) (A' := [vR 65, vI (56320 + (((d 66 (7 + 9 * x1 + x2)) - 65536) % 1024))]) (S := []) (a := 65) (pc' := 87) dX12_writeNameReversed_84 rfl cl_RX12_102 cm_X12_put cv_X12_put ⟨by decide, by decide, by decide, by decide, by decide⟩ rfl rfl rfl ⟨by decide, by omega⟩ (by decide +kernel) (by decide +kernel) (Nat.le_of_ble_eq_true rfl) (eX12_put (⟨o45, o46, ?_⟩))
      show MW mX12_writeNameReversed 0 0 87 [(0, vR 65), (1, vI x1), (2, vI x2), (3, vI (d 66 (7 + 9 * x1 + x2)))] [] g (ud (ud (ud (ud d 70 (d 65 9) (55296 + (((d 66 (7 + 9 * x1 + x2)) - 65536) / 1024))) 65 9 ((d 65 9) + 1)) 70 ((d 65 9) + 1) (56320 + (((d 66 (7 + 9 * x1 + x2)) - 65536) % 1024))) 65 9 ((((d 65 9) + 1)) + 1)) Q
      refine mw_goto (pc' := 0) (tgt := 95) dX12_writeNameReversed_87 (by decide) ?_
      obtain ⟨o47, h⟩ := h
      refine mw_iinc (pc' := 98) (L' := [(0, vR 65), (1, vI x1), (2, vI (x2 + (-1))), (3, vI (d 66 (7 + 9 * x1 + x2)))]) dX12_writeNameReversed_95 rfl rfl (by decide) o47 rfl ?_
      refine mw_goto (pc' := 0) (tgt := 35) dX12_writeNameReversed_98 (by decide) ?_
      exact mw_loc (pc' := 0) [0, 1, 2] rfl h
theorem eX12_today {g : mG} {d : mD} {Q : mQ} (h : Q (.inl (d 66 0)) g (ud d 65 5 0)) : MM mX12_today [vR 65] g d Q := by
  refine MM_of (by decide) rfl (by simp [catV]) (Nat.le_of_ble_eq_true rfl) ?_
  show MW mX12_today 0 0 0 [(0, vR 65)] [] g d Q
  refine mw_top (fun hT => ?_)
  have hG : 76 ≤ g.2.1 := hT.2
  refine mw_aload_n (v := vR 65) (pc' := 1) dX12_today_0 rfl rfl (Or.inl rfl) rfl ?_
  refine mw_iconst (pc' := 2) dX12_today_1 rfl ⟨by decide, by decide⟩ ?_
  refine mw_putI (ji := 5) (pc' := 5) dX12_today_2 rfl (fq_RX12_41_65) (by decide +kernel) rfl (Or.inl ⟨rfl, rc_65_5⟩) (Or.inr rfl) ⟨by decide, by omega⟩ ?_
  refine mw_aload_n (v := vR 65) (pc' := 6) dX12_today_5 rfl rfl (Or.inl rfl) rfl ?_
  refine mw_getP (v := 66) (pc' := 9) dX12_today_6 rfl fr_RX12_9_65 rfl sp_65_0 ⟨by decide, by decide⟩ ?_
  refine mw_iconst (pc' := 10) dX12_today_9 rfl ⟨by decide, by decide⟩ ?_
  refine mw_iald (pc' := 11) dX12_today_10 rfl lk_66 ⟨by decide, by decide⟩ (by rw [ln_66]; exact ⟨by decide, by decide⟩) ?_
  refine mw_st (b := d 66 0) (udA (by decide) (rfl)) ?_
  exact mw_iret (pc' := 0) (S := []) dX12_today_11 rfl (Or.inl rfl) h
theorem eX12_advance {x1 : Int} {g : mG} {d : mD} {Q : mQ} (h : (((¬ ((¬ (x1 < 1)) ∧ (¬ (400 < x1))))) → Q (.inl 0) g (ud (ud d 65 5 0) 65 5 1)) ∧ (((¬ (x1 < 1)) ∧ (¬ (400 < x1))) → (iI ((d 66 0) + x1)) ∧ ((((¬ ((d 66 0) + x1 ≤ 1500))) → Q (.inl 0) g (ud (ud d 65 5 0) 65 5 2)) ∧ (((d 66 0) + x1 ≤ 1500) → (0 ≤ d 65 3 ∧ d 65 3 ≤ 8) ∧ (Q (.inl ((d 66 0) + x1)) g (ud (mChg (ud d 65 5 0)) 66 0 ((d 66 0) + x1))))))) : MM mX12_advance [vR 65, vI x1] g d Q := by
  refine MM_of (by decide) rfl (by simp [catV]) (Nat.le_of_ble_eq_true rfl) ?_
  show MW mX12_advance 0 0 0 [(0, vR 65), (1, vI x1)] [] g d Q
  refine mw_top (fun hT => ?_)
  have hG : 76 ≤ g.2.1 := hT.2
  refine mw_aload_n (v := vR 65) (pc' := 1) dX12_advance_0 rfl rfl (Or.inl rfl) rfl ?_
  refine mw_iconst (pc' := 2) dX12_advance_1 rfl ⟨by decide, by decide⟩ ?_
  refine mw_putI (ji := 5) (pc' := 5) dX12_advance_2 rfl (fq_RX12_41_65) (by decide +kernel) rfl (Or.inl ⟨rfl, rc_65_5⟩) (Or.inr rfl) ⟨by decide, by omega⟩ ?_
  refine mw_aload_n (v := vR 65) (pc' := 6) dX12_advance_5 rfl rfl (Or.inl rfl) rfl ?_
  refine mw_iload_n (pc' := 7) dX12_advance_6 rfl rfl rfl ?_
  refine mw_iconst (pc' := 8) dX12_advance_7 rfl ⟨by decide, by decide⟩ ?_
  refine mw_sipush (pc' := 11) dX12_advance_8 rfl ⟨by decide, by decide⟩ ?_
  refine mw_callS (M' := mX12_in) (A := [vI x1, vI 1, vI 400]) (S := [vR 65]) (pc' := 14) dX12_advance_11 rfl cl_RX12_64 cm_X12_in cs_X12_in ⟨by decide, by decide, by decide, by decide, by decide⟩ rfl rfl (Nat.le_of_ble_eq_true rfl) (eX12_in ?_)
  show MW mX12_advance 0 0 14 [(0, vR 65), (1, vI x1)] [vI (bI ((¬ (x1 < 1)) ∧ (¬ (400 < x1)))), vR 65] g (ud d 65 5 0) Q
  suffices k1 : MW mX12_advance 0 0 22 [(0, vR 65), (1, vI x1)] [vI (bI (¬ ((¬ (x1 < 1)) ∧ (¬ (400 < x1))))), vR 65] g (ud d 65 5 0) Q by
    refine mw_if_ne (tgt := 21) (pc' := 17) dX12_advance_14 rfl (by decide) (fun c2 => ?_) (fun c2 => ?_)
    · replace c2 := bI_n0.mp c2
      refine mw_iconst (pc' := 22) dX12_advance_21 rfl ⟨by decide, by decide⟩ ?_
      exact mw_st (bI_f (fun h => (h c2))).symm k1
    · replace c2 := bI_0.mp c2
      refine mw_iconst (pc' := 18) dX12_advance_17 rfl ⟨by decide, by decide⟩ ?_
      refine mw_goto (pc' := 0) (tgt := 22) dX12_advance_18 (by decide) ?_
      exact mw_st (bI_t c2).symm k1
  refine mw_iconst (pc' := 23) dX12_advance_22 rfl ⟨by decide, by decide⟩ ?_
  refine mw_callV (M' := mX12_fails) (A := [vI (bI (¬ ((¬ (x1 < 1)) ∧ (¬ (400 < x1))))), vI 1]) (A' := [vR 65, vI (bI (¬ ((¬ (x1 < 1)) ∧ (¬ (400 < x1))))), vI 1]) (S := []) (a := 65) (pc' := 26) dX12_advance_23 rfl cl_RX12_55 cm_X12_fails cv_X12_fails ⟨by decide, by decide, by decide, by decide, by decide⟩ rfl rfl rfl ⟨by decide, by omega⟩ (by decide +kernel) (by decide +kernel) (Nat.le_of_ble_eq_true rfl) (f_fails (udS) (by decide) ?_)
  refine ⟨fun c3 => ?_, fun c3 => ?_⟩
  · replace h := h.1 (show (¬ ((¬ (x1 < 1)) ∧ (¬ (400 < x1)))) from c3)
    show MW mX12_advance 0 0 26 [(0, vR 65), (1, vI x1)] [vI 1] g (ud (ud d 65 5 0) 65 5 1) Q
    refine mw_if_ne (tgt := 56) (pc' := 29) dX12_advance_26 rfl (by decide) (fun _ => ?_) (fun q => absurd q (by decide))
    refine mw_iconst (pc' := 57) dX12_advance_56 rfl ⟨by decide, by decide⟩ ?_
    exact mw_iret (pc' := 0) (S := []) dX12_advance_57 rfl (Or.inl rfl) h
  · replace h := h.2 (show (¬ (x1 < 1)) ∧ (¬ (400 < x1)) from (Classical.not_not.mp c3))
    show MW mX12_advance 0 0 26 [(0, vR 65), (1, vI x1)] [vI 0] g (ud d 65 5 0) Q
    refine mw_if_ne (tgt := 56) (pc' := 29) dX12_advance_26 rfl (by decide) (fun q => absurd q (by decide)) (fun _ => ?_)
    refine mw_aload_n (v := vR 65) (pc' := 30) dX12_advance_29 rfl rfl (Or.inl rfl) rfl ?_
    refine mw_aload_n (v := vR 65) (pc' := 31) dX12_advance_30 rfl rfl (Or.inl rfl) rfl ?_
    refine mw_getP (v := 66) (pc' := 34) dX12_advance_31 rfl fr_RX12_9_65 rfl sp_65_0 ⟨by decide, by decide⟩ ?_
    refine mw_iconst (pc' := 35) dX12_advance_34 rfl ⟨by decide, by decide⟩ ?_
    refine mw_iald (pc' := 36) dX12_advance_35 rfl lk_66 ⟨by decide, by decide⟩ (by rw [ln_66]; exact ⟨by decide, by decide⟩) ?_
    refine mw_st (b := d 66 0) (udA (by decide) (rfl)) ?_
    refine mw_iload_n (pc' := 37) dX12_advance_36 rfl rfl rfl ?_
    obtain ⟨o4, h⟩ := h
    refine mw_iadd (pc' := 38) dX12_advance_37 rfl o4 ?_
    refine mw_sipush (pc' := 41) dX12_advance_38 rfl ⟨by decide, by decide⟩ ?_
    suffices k5 : MW mX12_advance 0 0 49 [(0, vR 65), (1, vI x1)] [vI (bI (¬ ((d 66 0) + x1 ≤ 1500))), vR 65] g (ud d 65 5 0) Q by
      refine mw_icmp_le (tgt := 48) (pc' := 44) dX12_advance_41 rfl (by decide) (fun c6 => ?_) (fun c6 => ?_)
      · refine mw_iconst (pc' := 49) dX12_advance_48 rfl ⟨by decide, by decide⟩ ?_
        exact mw_st (bI_f (fun h => (h c6))).symm k5
      · refine mw_iconst (pc' := 45) dX12_advance_44 rfl ⟨by decide, by decide⟩ ?_
        refine mw_goto (pc' := 0) (tgt := 49) dX12_advance_45 (by decide) ?_
        exact mw_st (bI_t c6).symm k5
    refine mw_iconst (pc' := 50) dX12_advance_49 rfl ⟨by decide, by decide⟩ ?_
    refine mw_callV (M' := mX12_fails) (A := [vI (bI (¬ ((d 66 0) + x1 ≤ 1500))), vI 2]) (A' := [vR 65, vI (bI (¬ ((d 66 0) + x1 ≤ 1500))), vI 2]) (S := []) (a := 65) (pc' := 53) dX12_advance_50 rfl cl_RX12_55 cm_X12_fails cv_X12_fails ⟨by decide, by decide, by decide, by decide, by decide⟩ rfl rfl rfl ⟨by decide, by omega⟩ (by decide +kernel) (by decide +kernel) (Nat.le_of_ble_eq_true rfl) (f_fails (udS) (by decide) ?_)
    refine ⟨fun c7 => ?_, fun c7 => ?_⟩
    · replace h := h.1 (show (¬ ((d 66 0) + x1 ≤ 1500)) from c7)
      show MW mX12_advance 0 0 53 [(0, vR 65), (1, vI x1)] [vI 1] g (ud (ud d 65 5 0) 65 5 2) Q
      refine mw_if_eq (tgt := 58) (pc' := 56) dX12_advance_53 rfl (by decide) (fun q => absurd q (by decide)) (fun _ => ?_)
      refine mw_iconst (pc' := 57) dX12_advance_56 rfl ⟨by decide, by decide⟩ ?_
      exact mw_iret (pc' := 0) (S := []) dX12_advance_57 rfl (Or.inl rfl) h
    · replace h := h.2 (show (d 66 0) + x1 ≤ 1500 from (Classical.not_not.mp c7))
      show MW mX12_advance 0 0 53 [(0, vR 65), (1, vI x1)] [vI 0] g (ud d 65 5 0) Q
      refine mw_if_eq (tgt := 58) (pc' := 56) dX12_advance_53 rfl (by decide) (fun _ => ?_) (fun q => absurd q (by decide))
      refine mw_aload_n (v := vR 65) (pc' := 59) dX12_advance_58 rfl rfl (Or.inl rfl) rfl ?_
      obtain ⟨o8, h⟩ := h
      refine mw_callV (M' := mX12_change) (A := []) (A' := [vR 65]) (S := []) (a := 65) (pc' := 62) dX12_advance_59 rfl cl_RX12_93 cm_X12_change cv_X12_change ⟨by decide, by decide, by decide, by decide, by decide⟩ rfl rfl rfl ⟨by decide, by omega⟩ (by decide +kernel) (by decide +kernel) (Nat.le_of_ble_eq_true rfl) (f_change (⟨o8, ?_⟩))
      show MW mX12_advance 0 0 62 [(0, vR 65), (1, vI x1)] [] g (mChg (ud d 65 5 0)) Q
      refine mw_aload_n (v := vR 65) (pc' := 63) dX12_advance_62 rfl rfl (Or.inl rfl) rfl ?_
      refine mw_getP (v := 66) (pc' := 66) dX12_advance_63 rfl fr_RX12_9_65 rfl sp_65_0 ⟨by decide, by decide⟩ ?_
      refine mw_iconst (pc' := 67) dX12_advance_66 rfl ⟨by decide, by decide⟩ ?_
      refine mw_dup2 (pc' := 68) dX12_advance_67 rfl rfl rfl ?_
      refine mw_iald (pc' := 69) dX12_advance_68 rfl lk_66 ⟨by decide, by decide⟩ (by rw [ln_66]; exact ⟨by decide, by decide⟩) ?_
      refine mw_st (b := d 66 0) (Eq.trans (mChg_fr (by omega)) (udA (by decide) (rfl))) ?_
      refine mw_iload_n (pc' := 70) dX12_advance_69 rfl rfl rfl ?_
      refine mw_iadd (pc' := 71) dX12_advance_70 rfl o4 ?_
      refine mw_iast (pc' := 72) dX12_advance_71 rfl lk_66 ⟨by decide, by decide⟩ (by rw [ln_66]; exact ⟨by decide, by decide⟩) ?_
      refine mw_aload_n (v := vR 65) (pc' := 73) dX12_advance_72 rfl rfl (Or.inl rfl) rfl ?_
      refine mw_getP (v := 66) (pc' := 76) dX12_advance_73 rfl fr_RX12_9_65 rfl sp_65_0 ⟨by decide, by decide⟩ ?_
      refine mw_iconst (pc' := 77) dX12_advance_76 rfl ⟨by decide, by decide⟩ ?_
      refine mw_iald (pc' := 78) dX12_advance_77 rfl lk_66 ⟨by decide, by decide⟩ (by rw [ln_66]; exact ⟨by decide, by decide⟩) ?_
      refine mw_st (b := (d 66 0) + x1) (udS) ?_
      exact mw_iret (pc' := 0) (S := []) dX12_advance_78 rfl (Or.inl rfl) h
theorem eX12_weekday {x1 : Int} {g : mG} {d : mD} {Q : mQ} (h : (((¬ ((¬ (x1 < 0)) ∧ (¬ (4999 < x1))))) → Q (.inl 0) g (ud (ud d 65 5 0) 65 5 1)) ∧ (((¬ (x1 < 0)) ∧ (¬ (4999 < x1))) → (0 ≤ x1) ∧ (Q (.inl (x1 % 7)) g (ud d 65 5 0)))) : MM mX12_weekday [vR 65, vI x1] g d Q := by
  refine MM_of (by decide) rfl (by simp [catV]) (Nat.le_of_ble_eq_true rfl) ?_
  show MW mX12_weekday 0 0 0 [(0, vR 65), (1, vI x1)] [] g d Q
  refine mw_top (fun hT => ?_)
  have hG : 76 ≤ g.2.1 := hT.2
  refine mw_aload_n (v := vR 65) (pc' := 1) dX12_weekday_0 rfl rfl (Or.inl rfl) rfl ?_
  refine mw_iconst (pc' := 2) dX12_weekday_1 rfl ⟨by decide, by decide⟩ ?_
  refine mw_putI (ji := 5) (pc' := 5) dX12_weekday_2 rfl (fq_RX12_41_65) (by decide +kernel) rfl (Or.inl ⟨rfl, rc_65_5⟩) (Or.inr rfl) ⟨by decide, by omega⟩ ?_
  refine mw_aload_n (v := vR 65) (pc' := 6) dX12_weekday_5 rfl rfl (Or.inl rfl) rfl ?_
  refine mw_iload_n (pc' := 7) dX12_weekday_6 rfl rfl rfl ?_
  refine mw_callS (M' := mX12_isDay) (A := [vI x1]) (S := [vR 65]) (pc' := 10) dX12_weekday_7 rfl cl_RX12_106 cm_X12_isDay cs_X12_isDay ⟨by decide, by decide, by decide, by decide, by decide⟩ rfl rfl (Nat.le_of_ble_eq_true rfl) (eX12_isDay ?_)
  show MW mX12_weekday 0 0 10 [(0, vR 65), (1, vI x1)] [vI (bI ((¬ (x1 < 0)) ∧ (¬ (4999 < x1)))), vR 65] g (ud d 65 5 0) Q
  suffices k1 : MW mX12_weekday 0 0 18 [(0, vR 65), (1, vI x1)] [vI (bI (¬ ((¬ (x1 < 0)) ∧ (¬ (4999 < x1))))), vR 65] g (ud d 65 5 0) Q by
    refine mw_if_ne (tgt := 17) (pc' := 13) dX12_weekday_10 rfl (by decide) (fun c2 => ?_) (fun c2 => ?_)
    · replace c2 := bI_n0.mp c2
      refine mw_iconst (pc' := 18) dX12_weekday_17 rfl ⟨by decide, by decide⟩ ?_
      exact mw_st (bI_f (fun h => (h c2))).symm k1
    · replace c2 := bI_0.mp c2
      refine mw_iconst (pc' := 14) dX12_weekday_13 rfl ⟨by decide, by decide⟩ ?_
      refine mw_goto (pc' := 0) (tgt := 18) dX12_weekday_14 (by decide) ?_
      exact mw_st (bI_t c2).symm k1
  refine mw_iconst (pc' := 19) dX12_weekday_18 rfl ⟨by decide, by decide⟩ ?_
  refine mw_callV (M' := mX12_fails) (A := [vI (bI (¬ ((¬ (x1 < 0)) ∧ (¬ (4999 < x1))))), vI 1]) (A' := [vR 65, vI (bI (¬ ((¬ (x1 < 0)) ∧ (¬ (4999 < x1))))), vI 1]) (S := []) (a := 65) (pc' := 22) dX12_weekday_19 rfl cl_RX12_55 cm_X12_fails cv_X12_fails ⟨by decide, by decide, by decide, by decide, by decide⟩ rfl rfl rfl ⟨by decide, by omega⟩ (by decide +kernel) (by decide +kernel) (Nat.le_of_ble_eq_true rfl) (f_fails (udS) (by decide) ?_)
  refine ⟨fun c3 => ?_, fun c3 => ?_⟩
  · replace h := h.1 (show (¬ ((¬ (x1 < 0)) ∧ (¬ (4999 < x1)))) from c3)
    show MW mX12_weekday 0 0 22 [(0, vR 65), (1, vI x1)] [vI 1] g (ud (ud d 65 5 0) 65 5 1) Q
    refine mw_if_eq (tgt := 29) (pc' := 25) dX12_weekday_22 rfl (by decide) (fun q => absurd q (by decide)) (fun _ => ?_)
    refine mw_iconst (pc' := 26) dX12_weekday_25 rfl ⟨by decide, by decide⟩ ?_
    refine mw_goto (pc' := 0) (tgt := 33) dX12_weekday_26 (by decide) ?_
    exact mw_iret (pc' := 0) (S := []) dX12_weekday_33 rfl (Or.inl rfl) h
  · replace h := h.2 (show (¬ (x1 < 0)) ∧ (¬ (4999 < x1)) from (Classical.not_not.mp c3))
    show MW mX12_weekday 0 0 22 [(0, vR 65), (1, vI x1)] [vI 0] g (ud d 65 5 0) Q
    refine mw_if_eq (tgt := 29) (pc' := 25) dX12_weekday_22 rfl (by decide) (fun _ => ?_) (fun q => absurd q (by decide))
    refine mw_iload_n (pc' := 30) dX12_weekday_29 rfl rfl rfl ?_
    refine mw_bipush (pc' := 32) dX12_weekday_30 rfl ⟨by decide, by decide⟩ ?_
    obtain ⟨o4, h⟩ := h
    refine mw_irem (pc' := 33) dX12_weekday_32 rfl o4 (by decide) ?_
    exact mw_iret (pc' := 0) (S := []) dX12_weekday_33 rfl (Or.inl rfl) h
theorem eX12_isCourtDay {x1 : Int} {g : mG} {d : mD} {Q : mQ} (h : (((¬ ((¬ (x1 < 0)) ∧ (¬ (4999 < x1))))) → Q (.inl 0) g (ud (ud d 65 5 0) 65 5 1)) ∧ (((¬ (x1 < 0)) ∧ (¬ (4999 < x1))) → (RW (d 66)) ∧ ((0 ≤ x1) ∧ (Q (.inl (bI (court (d 66) x1))) g (ud d 65 5 0))))) : MM mX12_isCourtDay [vR 65, vI x1] g d Q := by
  refine MM_of (by decide) rfl (by simp [catV]) (Nat.le_of_ble_eq_true rfl) ?_
  show MW mX12_isCourtDay 0 0 0 [(0, vR 65), (1, vI x1)] [] g d Q
  refine mw_top (fun hT => ?_)
  have hG : 76 ≤ g.2.1 := hT.2
  refine mw_aload_n (v := vR 65) (pc' := 1) dX12_isCourtDay_0 rfl rfl (Or.inl rfl) rfl ?_
  refine mw_iconst (pc' := 2) dX12_isCourtDay_1 rfl ⟨by decide, by decide⟩ ?_
  refine mw_putI (ji := 5) (pc' := 5) dX12_isCourtDay_2 rfl (fq_RX12_41_65) (by decide +kernel) rfl (Or.inl ⟨rfl, rc_65_5⟩) (Or.inr rfl) ⟨by decide, by omega⟩ ?_
  refine mw_aload_n (v := vR 65) (pc' := 6) dX12_isCourtDay_5 rfl rfl (Or.inl rfl) rfl ?_
  refine mw_iload_n (pc' := 7) dX12_isCourtDay_6 rfl rfl rfl ?_
  refine mw_callS (M' := mX12_isDay) (A := [vI x1]) (S := [vR 65]) (pc' := 10) dX12_isCourtDay_7 rfl cl_RX12_106 cm_X12_isDay cs_X12_isDay ⟨by decide, by decide, by decide, by decide, by decide⟩ rfl rfl (Nat.le_of_ble_eq_true rfl) (eX12_isDay ?_)
  show MW mX12_isCourtDay 0 0 10 [(0, vR 65), (1, vI x1)] [vI (bI ((¬ (x1 < 0)) ∧ (¬ (4999 < x1)))), vR 65] g (ud d 65 5 0) Q
  suffices k1 : MW mX12_isCourtDay 0 0 18 [(0, vR 65), (1, vI x1)] [vI (bI (¬ ((¬ (x1 < 0)) ∧ (¬ (4999 < x1))))), vR 65] g (ud d 65 5 0) Q by
    refine mw_if_ne (tgt := 17) (pc' := 13) dX12_isCourtDay_10 rfl (by decide) (fun c2 => ?_) (fun c2 => ?_)
    · replace c2 := bI_n0.mp c2
      refine mw_iconst (pc' := 18) dX12_isCourtDay_17 rfl ⟨by decide, by decide⟩ ?_
      exact mw_st (bI_f (fun h => (h c2))).symm k1
    · replace c2 := bI_0.mp c2
      refine mw_iconst (pc' := 14) dX12_isCourtDay_13 rfl ⟨by decide, by decide⟩ ?_
      refine mw_goto (pc' := 0) (tgt := 18) dX12_isCourtDay_14 (by decide) ?_
      exact mw_st (bI_t c2).symm k1
  refine mw_iconst (pc' := 19) dX12_isCourtDay_18 rfl ⟨by decide, by decide⟩ ?_
  refine mw_callV (M' := mX12_fails) (A := [vI (bI (¬ ((¬ (x1 < 0)) ∧ (¬ (4999 < x1))))), vI 1]) (A' := [vR 65, vI (bI (¬ ((¬ (x1 < 0)) ∧ (¬ (4999 < x1))))), vI 1]) (S := []) (a := 65) (pc' := 22) dX12_isCourtDay_19 rfl cl_RX12_55 cm_X12_fails cv_X12_fails ⟨by decide, by decide, by decide, by decide, by decide⟩ rfl rfl rfl ⟨by decide, by omega⟩ (by decide +kernel) (by decide +kernel) (Nat.le_of_ble_eq_true rfl) (f_fails (udS) (by decide) ?_)
  refine ⟨fun c3 => ?_, fun c3 => ?_⟩
  · replace h := h.1 (show (¬ ((¬ (x1 < 0)) ∧ (¬ (4999 < x1)))) from c3)
    show MW mX12_isCourtDay 0 0 22 [(0, vR 65), (1, vI x1)] [vI 1] g (ud (ud d 65 5 0) 65 5 1) Q
    refine mw_if_ne (tgt := 37) (pc' := 25) dX12_isCourtDay_22 rfl (by decide) (fun _ => ?_) (fun q => absurd q (by decide))
    refine mw_iconst (pc' := 38) dX12_isCourtDay_37 rfl ⟨by decide, by decide⟩ ?_
    exact mw_iret (pc' := 0) (S := []) dX12_isCourtDay_38 rfl (Or.inr (Or.inl ⟨rfl, by decide, by decide⟩)) h
  · replace h := h.2 (show (¬ (x1 < 0)) ∧ (¬ (4999 < x1)) from (Classical.not_not.mp c3))
    show MW mX12_isCourtDay 0 0 22 [(0, vR 65), (1, vI x1)] [vI 0] g (ud d 65 5 0) Q
    refine mw_if_ne (tgt := 37) (pc' := 25) dX12_isCourtDay_22 rfl (by decide) (fun q => absurd q (by decide)) (fun _ => ?_)
    refine mw_aload_n (v := vR 65) (pc' := 26) dX12_isCourtDay_25 rfl rfl (Or.inl rfl) rfl ?_
    refine mw_iload_n (pc' := 27) dX12_isCourtDay_26 rfl rfl rfl ?_
    obtain ⟨o4, h⟩ := h
    obtain ⟨o5, h⟩ := h
    refine mw_callV (M' := mX12_isCourt) (A := [vI x1]) (A' := [vR 65, vI x1]) (S := []) (a := 65) (pc' := 30) dX12_isCourtDay_27 rfl cl_RX12_112 cm_X12_isCourt cv_X12_isCourt ⟨by decide, by decide, by decide, by decide, by decide⟩ rfl rfl rfl ⟨by decide, by omega⟩ (by decide +kernel) (by decide +kernel) (Nat.le_of_ble_eq_true rfl) (f_isCourt (⟨o4, o5, ?_⟩))
    show MW mX12_isCourtDay 0 0 30 [(0, vR 65), (1, vI x1)] [vI (bI (court (d 66) x1))] g (ud d 65 5 0) Q
    suffices k6 : MW mX12_isCourtDay 0 0 38 [(0, vR 65), (1, vI x1)] [vI (bI (court (d 66) x1))] g (ud d 65 5 0) Q by
      refine mw_if_eq (tgt := 37) (pc' := 33) dX12_isCourtDay_30 rfl (by decide) (fun c7 => ?_) (fun c7 => ?_)
      · replace c7 := bI_0.mp c7
        refine mw_iconst (pc' := 38) dX12_isCourtDay_37 rfl ⟨by decide, by decide⟩ ?_
        exact mw_st (bI_f (fun h => (c7 h))).symm k6
      · replace c7 := bI_n0.mp c7
        refine mw_iconst (pc' := 34) dX12_isCourtDay_33 rfl ⟨by decide, by decide⟩ ?_
        refine mw_goto (pc' := 0) (tgt := 38) dX12_isCourtDay_34 (by decide) ?_
        exact mw_st (bI_t c7).symm k6
    exact mw_iret (pc' := 0) (S := []) dX12_isCourtDay_38 rfl (Or.inr (Or.inl ⟨rfl, bI_rng⟩)) h
theorem eX12_addHoliday {x1 : Int} {g : mG} {d : mD} {Q : mQ} (h : (((¬ ((¬ (x1 < 0)) ∧ (¬ (4999 < x1))))) → Q (.inl 0) g (ud (ud d 65 5 0) 65 5 1)) ∧ (((¬ (x1 < 0)) ∧ (¬ (4999 < x1))) → (RW (d 66)) ∧ (((((¬ (hAt (d 66) x1 = (-1))) ∨ (d 66 2 = 40))) → Q (.inl 0) g (ud (ud d 65 5 0) 65 5 2)) ∧ ((¬ ((¬ (hAt (d 66) x1 = (-1))) ∨ (d 66 2 = 40))) → (0 ≤ d 65 3 ∧ d 65 3 ≤ 8) ∧ ((iI (79 + (d 66 2))) ∧ ((0 ≤ 79 + (d 66 2) ∧ 79 + (d 66 2) < 787) ∧ ((¬ (2 = 79 + (d 66 2))) ∧ ((iI ((d 66 2) + 1)) ∧ (Q (.inl ((d 66 2) + 1)) g (ud (ud (mChg (ud d 65 5 0)) 66 (79 + (d 66 2)) x1) 66 2 ((d 66 2) + 1))))))))))) : MM mX12_addHoliday [vR 65, vI x1] g d Q := by
  refine MM_of (by decide) rfl (by simp [catV]) (Nat.le_of_ble_eq_true rfl) ?_
  show MW mX12_addHoliday 0 0 0 [(0, vR 65), (1, vI x1)] [] g d Q
  refine mw_top (fun hT => ?_)
  have hG : 76 ≤ g.2.1 := hT.2
  refine mw_aload_n (v := vR 65) (pc' := 1) dX12_addHoliday_0 rfl rfl (Or.inl rfl) rfl ?_
  refine mw_iconst (pc' := 2) dX12_addHoliday_1 rfl ⟨by decide, by decide⟩ ?_
  refine mw_putI (ji := 5) (pc' := 5) dX12_addHoliday_2 rfl (fq_RX12_41_65) (by decide +kernel) rfl (Or.inl ⟨rfl, rc_65_5⟩) (Or.inr rfl) ⟨by decide, by omega⟩ ?_
  refine mw_aload_n (v := vR 65) (pc' := 6) dX12_addHoliday_5 rfl rfl (Or.inl rfl) rfl ?_
  refine mw_iload_n (pc' := 7) dX12_addHoliday_6 rfl rfl rfl ?_
  refine mw_callS (M' := mX12_isDay) (A := [vI x1]) (S := [vR 65]) (pc' := 10) dX12_addHoliday_7 rfl cl_RX12_106 cm_X12_isDay cs_X12_isDay ⟨by decide, by decide, by decide, by decide, by decide⟩ rfl rfl (Nat.le_of_ble_eq_true rfl) (eX12_isDay ?_)
  show MW mX12_addHoliday 0 0 10 [(0, vR 65), (1, vI x1)] [vI (bI ((¬ (x1 < 0)) ∧ (¬ (4999 < x1)))), vR 65] g (ud d 65 5 0) Q
  suffices k1 : MW mX12_addHoliday 0 0 18 [(0, vR 65), (1, vI x1)] [vI (bI (¬ ((¬ (x1 < 0)) ∧ (¬ (4999 < x1))))), vR 65] g (ud d 65 5 0) Q by
    refine mw_if_ne (tgt := 17) (pc' := 13) dX12_addHoliday_10 rfl (by decide) (fun c2 => ?_) (fun c2 => ?_)
    · replace c2 := bI_n0.mp c2
      refine mw_iconst (pc' := 18) dX12_addHoliday_17 rfl ⟨by decide, by decide⟩ ?_
      exact mw_st (bI_f (fun h => (h c2))).symm k1
    · replace c2 := bI_0.mp c2
      refine mw_iconst (pc' := 14) dX12_addHoliday_13 rfl ⟨by decide, by decide⟩ ?_
      refine mw_goto (pc' := 0) (tgt := 18) dX12_addHoliday_14 (by decide) ?_
      exact mw_st (bI_t c2).symm k1
  refine mw_iconst (pc' := 19) dX12_addHoliday_18 rfl ⟨by decide, by decide⟩ ?_
  refine mw_callV (M' := mX12_fails) (A := [vI (bI (¬ ((¬ (x1 < 0)) ∧ (¬ (4999 < x1))))), vI 1]) (A' := [vR 65, vI (bI (¬ ((¬ (x1 < 0)) ∧ (¬ (4999 < x1))))), vI 1]) (S := []) (a := 65) (pc' := 22) dX12_addHoliday_19 rfl cl_RX12_55 cm_X12_fails cv_X12_fails ⟨by decide, by decide, by decide, by decide, by decide⟩ rfl rfl rfl ⟨by decide, by omega⟩ (by decide +kernel) (by decide +kernel) (Nat.le_of_ble_eq_true rfl) (f_fails (udS) (by decide) ?_)
  refine ⟨fun c3 => ?_, fun c3 => ?_⟩
  · replace h := h.1 (show (¬ ((¬ (x1 < 0)) ∧ (¬ (4999 < x1)))) from c3)
    show MW mX12_addHoliday 0 0 22 [(0, vR 65), (1, vI x1)] [vI 1] g (ud (ud d 65 5 0) 65 5 1) Q
    refine mw_if_ne (tgt := 58) (pc' := 25) dX12_addHoliday_22 rfl (by decide) (fun _ => ?_) (fun q => absurd q (by decide))
    refine mw_iconst (pc' := 59) dX12_addHoliday_58 rfl ⟨by decide, by decide⟩ ?_
    exact mw_iret (pc' := 0) (S := []) dX12_addHoliday_59 rfl (Or.inl rfl) h
  · replace h := h.2 (show (¬ (x1 < 0)) ∧ (¬ (4999 < x1)) from (Classical.not_not.mp c3))
    show MW mX12_addHoliday 0 0 22 [(0, vR 65), (1, vI x1)] [vI 0] g (ud d 65 5 0) Q
    refine mw_if_ne (tgt := 58) (pc' := 25) dX12_addHoliday_22 rfl (by decide) (fun q => absurd q (by decide)) (fun _ => ?_)
    refine mw_aload_n (v := vR 65) (pc' := 26) dX12_addHoliday_25 rfl rfl (Or.inl rfl) rfl ?_
    refine mw_aload_n (v := vR 65) (pc' := 27) dX12_addHoliday_26 rfl rfl (Or.inl rfl) rfl ?_
    refine mw_iload_n (pc' := 28) dX12_addHoliday_27 rfl rfl rfl ?_
    obtain ⟨o4, h⟩ := h
    refine mw_callV (M' := mX12_holidayAt) (A := [vI x1]) (A' := [vR 65, vI x1]) (S := [vR 65]) (a := 65) (pc' := 31) dX12_addHoliday_28 rfl cl_RX12_109 cm_X12_holidayAt cv_X12_holidayAt ⟨by decide, by decide, by decide, by decide, by decide⟩ rfl rfl rfl ⟨by decide, by omega⟩ (by decide +kernel) (by decide +kernel) (Nat.le_of_ble_eq_true rfl) (f_holidayAt (⟨o4, ?_⟩))
    show MW mX12_addHoliday 0 0 31 [(0, vR 65), (1, vI x1)] [vI (hAt (d 66) x1), vR 65] g (ud d 65 5 0) Q
    refine mw_iconst (pc' := 32) dX12_addHoliday_31 rfl ⟨by decide, by decide⟩ ?_
    suffices k5 : MW mX12_addHoliday 0 0 51 [(0, vR 65), (1, vI x1)] [vI (bI ((¬ (hAt (d 66) x1 = (-1))) ∨ (d 66 2 = 40))), vR 65] g (ud d 65 5 0) Q by
      refine mw_icmp_ne (tgt := 46) (pc' := 35) dX12_addHoliday_32 rfl (by decide) (fun c6 => ?_) (fun c6 => ?_)
      · refine mw_iconst (pc' := 47) dX12_addHoliday_46 rfl ⟨by decide, by decide⟩ ?_
        refine mw_goto (pc' := 0) (tgt := 51) dX12_addHoliday_47 (by decide) ?_
        exact mw_st (bI_t (Or.inl c6)).symm k5
      · refine mw_aload_n (v := vR 65) (pc' := 36) dX12_addHoliday_35 rfl rfl (Or.inl rfl) rfl ?_
        refine mw_getP (v := 66) (pc' := 39) dX12_addHoliday_36 rfl fr_RX12_9_65 rfl sp_65_0 ⟨by decide, by decide⟩ ?_
        refine mw_iconst (pc' := 40) dX12_addHoliday_39 rfl ⟨by decide, by decide⟩ ?_
        refine mw_iald (pc' := 41) dX12_addHoliday_40 rfl lk_66 ⟨by decide, by decide⟩ (by rw [ln_66]; exact ⟨by decide, by decide⟩) ?_
        refine mw_st (b := d 66 2) (udA (by decide) (rfl)) ?_
        refine mw_bipush (pc' := 43) dX12_addHoliday_41 rfl ⟨by decide, by decide⟩ ?_
        refine mw_icmp_ne (tgt := 50) (pc' := 46) dX12_addHoliday_43 rfl (by decide) (fun c7 => ?_) (fun c7 => ?_)
        · refine mw_iconst (pc' := 51) dX12_addHoliday_50 rfl ⟨by decide, by decide⟩ ?_
          exact mw_st (bI_f (fun h => h.elim (fun q => (q c6)) (fun h => (c7 h)))).symm k5
        · refine mw_iconst (pc' := 47) dX12_addHoliday_46 rfl ⟨by decide, by decide⟩ ?_
          refine mw_goto (pc' := 0) (tgt := 51) dX12_addHoliday_47 (by decide) ?_
          exact mw_st (bI_t (Or.inr c7)).symm k5
    refine mw_iconst (pc' := 52) dX12_addHoliday_51 rfl ⟨by decide, by decide⟩ ?_
    refine mw_callV (M' := mX12_fails) (A := [vI (bI ((¬ (hAt (d 66) x1 = (-1))) ∨ (d 66 2 = 40))), vI 2]) (A' := [vR 65, vI (bI ((¬ (hAt (d 66) x1 = (-1))) ∨ (d 66 2 = 40))), vI 2]) (S := []) (a := 65) (pc' := 55) dX12_addHoliday_52 rfl cl_RX12_55 cm_X12_fails cv_X12_fails ⟨by decide, by decide, by decide, by decide, by decide⟩ rfl rfl rfl ⟨by decide, by omega⟩ (by decide +kernel) (by decide +kernel) (Nat.le_of_ble_eq_true rfl) (f_fails (udS) (by decide) ?_)
    refine ⟨fun c8 => ?_, fun c8 => ?_⟩
    · replace h := h.1 (show ((¬ (hAt (d 66) x1 = (-1))) ∨ (d 66 2 = 40)) from c8)
      show MW mX12_addHoliday 0 0 55 [(0, vR 65), (1, vI x1)] [vI 1] g (ud (ud d 65 5 0) 65 5 2) Q
      refine mw_if_eq (tgt := 60) (pc' := 58) dX12_addHoliday_55 rfl (by decide) (fun q => absurd q (by decide)) (fun _ => ?_)
      refine mw_iconst (pc' := 59) dX12_addHoliday_58 rfl ⟨by decide, by decide⟩ ?_
      exact mw_iret (pc' := 0) (S := []) dX12_addHoliday_59 rfl (Or.inl rfl) h
    · replace h := h.2 (show ¬ ((¬ (hAt (d 66) x1 = (-1))) ∨ (d 66 2 = 40)) from c8)
      show MW mX12_addHoliday 0 0 55 [(0, vR 65), (1, vI x1)] [vI 0] g (ud d 65 5 0) Q
      refine mw_if_eq (tgt := 60) (pc' := 58) dX12_addHoliday_55 rfl (by decide) (fun _ => ?_) (fun q => absurd q (by decide))
      refine mw_aload_n (v := vR 65) (pc' := 61) dX12_addHoliday_60 rfl rfl (Or.inl rfl) rfl ?_
      obtain ⟨o9, h⟩ := h
      refine mw_callV (M' := mX12_change) (A := []) (A' := [vR 65]) (S := []) (a := 65) (pc' := 64) dX12_addHoliday_61 rfl cl_RX12_93 cm_X12_change cv_X12_change ⟨by decide, by decide, by decide, by decide, by decide⟩ rfl rfl rfl ⟨by decide, by omega⟩ (by decide +kernel) (by decide +kernel) (Nat.le_of_ble_eq_true rfl) (f_change (⟨o9, ?_⟩))
      show MW mX12_addHoliday 0 0 64 [(0, vR 65), (1, vI x1)] [] g (mChg (ud d 65 5 0)) Q
      refine mw_aload_n (v := vR 65) (pc' := 65) dX12_addHoliday_64 rfl rfl (Or.inl rfl) rfl ?_
      refine mw_getP (v := 66) (pc' := 68) dX12_addHoliday_65 rfl fr_RX12_9_65 rfl sp_65_0 ⟨by decide, by decide⟩ ?_
      refine mw_bipush (pc' := 70) dX12_addHoliday_68 rfl ⟨by decide, by decide⟩ ?_
      refine mw_aload_n (v := vR 65) (pc' := 71) dX12_addHoliday_70 rfl rfl (Or.inl rfl) rfl ?_
      refine mw_getP (v := 66) (pc' := 74) dX12_addHoliday_71 rfl fr_RX12_9_65 rfl sp_65_0 ⟨by decide, by decide⟩ ?_
      refine mw_iconst (pc' := 75) dX12_addHoliday_74 rfl ⟨by decide, by decide⟩ ?_
      refine mw_iald (pc' := 76) dX12_addHoliday_75 rfl lk_66 ⟨by decide, by decide⟩ (by rw [ln_66]; exact ⟨by decide, by decide⟩) ?_
      refine mw_st (b := d 66 2) (Eq.trans (mChg_fr (by omega)) (udA (by decide) (rfl))) ?_
      obtain ⟨o10, h⟩ := h
      refine mw_iadd (pc' := 77) dX12_addHoliday_76 rfl o10 ?_
      refine mw_iload_n (pc' := 78) dX12_addHoliday_77 rfl rfl rfl ?_
      obtain ⟨o11, h⟩ := h
      refine mw_iast (pc' := 79) dX12_addHoliday_78 rfl lk_66 ⟨by decide, by decide⟩ (by rw [ln_66]; exact o11) ?_
      refine mw_aload_n (v := vR 65) (pc' := 80) dX12_addHoliday_79 rfl rfl (Or.inl rfl) rfl ?_
      refine mw_getP (v := 66) (pc' := 83) dX12_addHoliday_80 rfl fr_RX12_9_65 rfl sp_65_0 ⟨by decide, by decide⟩ ?_
      refine mw_iconst (pc' := 84) dX12_addHoliday_83 rfl ⟨by decide, by decide⟩ ?_
      refine mw_dup2 (pc' := 85) dX12_addHoliday_84 rfl rfl rfl ?_
      obtain ⟨o12, h⟩ := h
      refine mw_iald (pc' := 86) dX12_addHoliday_85 rfl lk_66 ⟨by decide, by decide⟩ (by rw [ln_66]; exact ⟨by decide, by decide⟩) ?_
      refine mw_st (b := d 66 2) (udI o12 (Eq.trans (mChg_fr (by omega)) (udA (by decide) (rfl)))) ?_
      refine mw_iconst (pc' := 87) dX12_addHoliday_86 rfl ⟨by decide, by decide⟩ ?_
      obtain ⟨o13, h⟩ := h
      refine mw_iadd (pc' := 88) dX12_addHoliday_87 rfl o13 ?_
      refine mw_iast (pc' := 89) dX12_addHoliday_88 rfl lk_66 ⟨by decide, by decide⟩ (by rw [ln_66]; exact ⟨by decide, by decide⟩) ?_
      refine mw_aload_n (v := vR 65) (pc' := 90) dX12_addHoliday_89 rfl rfl (Or.inl rfl) rfl ?_
      refine mw_getP (v := 66) (pc' := 93) dX12_addHoliday_90 rfl fr_RX12_9_65 rfl sp_65_0 ⟨by decide, by decide⟩ ?_
      refine mw_iconst (pc' := 94) dX12_addHoliday_93 rfl ⟨by decide, by decide⟩ ?_
      refine mw_iald (pc' := 95) dX12_addHoliday_94 rfl lk_66 ⟨by decide, by decide⟩ (by rw [ln_66]; exact ⟨by decide, by decide⟩) ?_
      refine mw_st (b := (d 66 2) + 1) (udS) ?_
      exact mw_iret (pc' := 0) (S := []) dX12_addHoliday_95 rfl (Or.inl rfl) h
theorem eX12_removeHoliday {x1 : Int} {g : mG} {d : mD} {Q : mQ} (h : (((¬ ((¬ (x1 < 0)) ∧ (¬ (4999 < x1))))) → Q (.inl 0) g (ud (ud d 65 5 0) 65 5 1)) ∧ (((¬ (x1 < 0)) ∧ (¬ (4999 < x1))) → (RW (d 66)) ∧ ((((hAt (d 66) x1 = (-1))) → Q (.inl 0) g (ud (ud d 65 5 0) 65 5 2)) ∧ ((¬ (hAt (d 66) x1 = (-1))) → (0 ≤ d 65 3 ∧ d 65 3 ≤ 8) ∧ ((RW ((mChg (ud d 65 5 0)) 66)) ∧ ((iI ((d 66 2) - 1)) ∧ ((iI (79 + (hAt ((mChg (ud d 65 5 0)) 66) x1))) ∧ ((iI (79 + ((d 66 2) - 1))) ∧ ((0 ≤ 79 + ((d 66 2) - 1) ∧ 79 + ((d 66 2) - 1) < 787) ∧ ((¬ (78 + (d 66 2) = 2)) ∧ ((0 ≤ 79 + (hAt ((mChg (ud d 65 5 0)) 66) x1) ∧ 79 + (hAt ((mChg (ud d 65 5 0)) 66) x1) < 787) ∧ ((¬ (2 = 79 + (hAt ((mChg (ud d 65 5 0)) 66) x1))) ∧ (Q (.inl ((d 66 2) - 1)) g (ud (ud (mChg (ud d 65 5 0)) 66 2 ((d 66 2) - 1)) 66 (79 + (hAt ((mChg (ud d 65 5 0)) 66) x1)) (d 66 (78 + (d 66 2))))))))))))))))) : MM mX12_removeHoliday [vR 65, vI x1] g d Q := by
  refine MM_of (by decide) rfl (by simp [catV]) (Nat.le_of_ble_eq_true rfl) ?_
  show MW mX12_removeHoliday 0 0 0 [(0, vR 65), (1, vI x1)] [] g d Q
  refine mw_top (fun hT => ?_)
  have hG : 76 ≤ g.2.1 := hT.2
  refine mw_aload_n (v := vR 65) (pc' := 1) dX12_removeHoliday_0 rfl rfl (Or.inl rfl) rfl ?_
  refine mw_iconst (pc' := 2) dX12_removeHoliday_1 rfl ⟨by decide, by decide⟩ ?_
  refine mw_putI (ji := 5) (pc' := 5) dX12_removeHoliday_2 rfl (fq_RX12_41_65) (by decide +kernel) rfl (Or.inl ⟨rfl, rc_65_5⟩) (Or.inr rfl) ⟨by decide, by omega⟩ ?_
  refine mw_aload_n (v := vR 65) (pc' := 6) dX12_removeHoliday_5 rfl rfl (Or.inl rfl) rfl ?_
  refine mw_iload_n (pc' := 7) dX12_removeHoliday_6 rfl rfl rfl ?_
  refine mw_callS (M' := mX12_isDay) (A := [vI x1]) (S := [vR 65]) (pc' := 10) dX12_removeHoliday_7 rfl cl_RX12_106 cm_X12_isDay cs_X12_isDay ⟨by decide, by decide, by decide, by decide, by decide⟩ rfl rfl (Nat.le_of_ble_eq_true rfl) (eX12_isDay ?_)
  show MW mX12_removeHoliday 0 0 10 [(0, vR 65), (1, vI x1)] [vI (bI ((¬ (x1 < 0)) ∧ (¬ (4999 < x1)))), vR 65] g (ud d 65 5 0) Q
  suffices k1 : MW mX12_removeHoliday 0 0 18 [(0, vR 65), (1, vI x1)] [vI (bI (¬ ((¬ (x1 < 0)) ∧ (¬ (4999 < x1))))), vR 65] g (ud d 65 5 0) Q by
    refine mw_if_ne (tgt := 17) (pc' := 13) dX12_removeHoliday_10 rfl (by decide) (fun c2 => ?_) (fun c2 => ?_)
    · replace c2 := bI_n0.mp c2
      refine mw_iconst (pc' := 18) dX12_removeHoliday_17 rfl ⟨by decide, by decide⟩ ?_
      exact mw_st (bI_f (fun h => (h c2))).symm k1
    · replace c2 := bI_0.mp c2
      refine mw_iconst (pc' := 14) dX12_removeHoliday_13 rfl ⟨by decide, by decide⟩ ?_
      refine mw_goto (pc' := 0) (tgt := 18) dX12_removeHoliday_14 (by decide) ?_
      exact mw_st (bI_t c2).symm k1
  refine mw_iconst (pc' := 19) dX12_removeHoliday_18 rfl ⟨by decide, by decide⟩ ?_
  refine mw_callV (M' := mX12_fails) (A := [vI (bI (¬ ((¬ (x1 < 0)) ∧ (¬ (4999 < x1))))), vI 1]) (A' := [vR 65, vI (bI (¬ ((¬ (x1 < 0)) ∧ (¬ (4999 < x1))))), vI 1]) (S := []) (a := 65) (pc' := 22) dX12_removeHoliday_19 rfl cl_RX12_55 cm_X12_fails cv_X12_fails ⟨by decide, by decide, by decide, by decide, by decide⟩ rfl rfl rfl ⟨by decide, by omega⟩ (by decide +kernel) (by decide +kernel) (Nat.le_of_ble_eq_true rfl) (f_fails (udS) (by decide) ?_)
  refine ⟨fun c3 => ?_, fun c3 => ?_⟩
  · replace h := h.1 (show (¬ ((¬ (x1 < 0)) ∧ (¬ (4999 < x1)))) from c3)
    show MW mX12_removeHoliday 0 0 22 [(0, vR 65), (1, vI x1)] [vI 1] g (ud (ud d 65 5 0) 65 5 1) Q
    refine mw_if_ne (tgt := 47) (pc' := 25) dX12_removeHoliday_22 rfl (by decide) (fun _ => ?_) (fun q => absurd q (by decide))
    refine mw_iconst (pc' := 48) dX12_removeHoliday_47 rfl ⟨by decide, by decide⟩ ?_
    exact mw_iret (pc' := 0) (S := []) dX12_removeHoliday_48 rfl (Or.inl rfl) h
  · replace h := h.2 (show (¬ (x1 < 0)) ∧ (¬ (4999 < x1)) from (Classical.not_not.mp c3))
    show MW mX12_removeHoliday 0 0 22 [(0, vR 65), (1, vI x1)] [vI 0] g (ud d 65 5 0) Q
    refine mw_if_ne (tgt := 47) (pc' := 25) dX12_removeHoliday_22 rfl (by decide) (fun q => absurd q (by decide)) (fun _ => ?_)
    refine mw_aload_n (v := vR 65) (pc' := 26) dX12_removeHoliday_25 rfl rfl (Or.inl rfl) rfl ?_
    refine mw_aload_n (v := vR 65) (pc' := 27) dX12_removeHoliday_26 rfl rfl (Or.inl rfl) rfl ?_
    refine mw_iload_n (pc' := 28) dX12_removeHoliday_27 rfl rfl rfl ?_
    obtain ⟨o4, h⟩ := h
    refine mw_callV (M' := mX12_holidayAt) (A := [vI x1]) (A' := [vR 65, vI x1]) (S := [vR 65]) (a := 65) (pc' := 31) dX12_removeHoliday_28 rfl cl_RX12_109 cm_X12_holidayAt cv_X12_holidayAt ⟨by decide, by decide, by decide, by decide, by decide⟩ rfl rfl rfl ⟨by decide, by omega⟩ (by decide +kernel) (by decide +kernel) (Nat.le_of_ble_eq_true rfl) (f_holidayAt (⟨o4, ?_⟩))
    show MW mX12_removeHoliday 0 0 31 [(0, vR 65), (1, vI x1)] [vI (hAt (d 66) x1), vR 65] g (ud d 65 5 0) Q
    refine mw_iconst (pc' := 32) dX12_removeHoliday_31 rfl ⟨by decide, by decide⟩ ?_
    suffices k5 : MW mX12_removeHoliday 0 0 40 [(0, vR 65), (1, vI x1)] [vI (bI (hAt (d 66) x1 = (-1))), vR 65] g (ud d 65 5 0) Q by
      refine mw_icmp_ne (tgt := 39) (pc' := 35) dX12_removeHoliday_32 rfl (by decide) (fun c6 => ?_) (fun c6 => ?_)
      · refine mw_iconst (pc' := 40) dX12_removeHoliday_39 rfl ⟨by decide, by decide⟩ ?_
        exact mw_st (bI_f (fun h => (c6 h))).symm k5
      · refine mw_iconst (pc' := 36) dX12_removeHoliday_35 rfl ⟨by decide, by decide⟩ ?_
        refine mw_goto (pc' := 0) (tgt := 40) dX12_removeHoliday_36 (by decide) ?_
        exact mw_st (bI_t c6).symm k5
    refine mw_iconst (pc' := 41) dX12_removeHoliday_40 rfl ⟨by decide, by decide⟩ ?_
    refine mw_callV (M' := mX12_fails) (A := [vI (bI (hAt (d 66) x1 = (-1))), vI 2]) (A' := [vR 65, vI (bI (hAt (d 66) x1 = (-1))), vI 2]) (S := []) (a := 65) (pc' := 44) dX12_removeHoliday_41 rfl cl_RX12_55 cm_X12_fails cv_X12_fails ⟨by decide, by decide, by decide, by decide, by decide⟩ rfl rfl rfl ⟨by decide, by omega⟩ (by decide +kernel) (by decide +kernel) (Nat.le_of_ble_eq_true rfl) (f_fails (udS) (by decide) ?_)
    refine ⟨fun c7 => ?_, fun c7 => ?_⟩
    · replace h := h.1 (show (hAt (d 66) x1 = (-1)) from c7)
      show MW mX12_removeHoliday 0 0 44 [(0, vR 65), (1, vI x1)] [vI 1] g (ud (ud d 65 5 0) 65 5 2) Q
      refine mw_if_eq (tgt := 49) (pc' := 47) dX12_removeHoliday_44 rfl (by decide) (fun q => absurd q (by decide)) (fun _ => ?_)
      refine mw_iconst (pc' := 48) dX12_removeHoliday_47 rfl ⟨by decide, by decide⟩ ?_
      exact mw_iret (pc' := 0) (S := []) dX12_removeHoliday_48 rfl (Or.inl rfl) h
    · replace h := h.2 (show ¬ (hAt (d 66) x1 = (-1)) from c7)
      show MW mX12_removeHoliday 0 0 44 [(0, vR 65), (1, vI x1)] [vI 0] g (ud d 65 5 0) Q
      refine mw_if_eq (tgt := 49) (pc' := 47) dX12_removeHoliday_44 rfl (by decide) (fun _ => ?_) (fun q => absurd q (by decide))
      refine mw_aload_n (v := vR 65) (pc' := 50) dX12_removeHoliday_49 rfl rfl (Or.inl rfl) rfl ?_
      obtain ⟨o8, h⟩ := h
      refine mw_callV (M' := mX12_change) (A := []) (A' := [vR 65]) (S := []) (a := 65) (pc' := 53) dX12_removeHoliday_50 rfl cl_RX12_93 cm_X12_change cv_X12_change ⟨by decide, by decide, by decide, by decide, by decide⟩ rfl rfl rfl ⟨by decide, by omega⟩ (by decide +kernel) (by decide +kernel) (Nat.le_of_ble_eq_true rfl) (f_change (⟨o8, ?_⟩))
      show MW mX12_removeHoliday 0 0 53 [(0, vR 65), (1, vI x1)] [] g (mChg (ud d 65 5 0)) Q
      refine mw_aload_n (v := vR 65) (pc' := 54) dX12_removeHoliday_53 rfl rfl (Or.inl rfl) rfl ?_
      refine mw_iload_n (pc' := 55) dX12_removeHoliday_54 rfl rfl rfl ?_
      obtain ⟨o9, h⟩ := h
      refine mw_callV (M' := mX12_holidayAt) (A := [vI x1]) (A' := [vR 65, vI x1]) (S := []) (a := 65) (pc' := 58) dX12_removeHoliday_55 rfl cl_RX12_109 cm_X12_holidayAt cv_X12_holidayAt ⟨by decide, by decide, by decide, by decide, by decide⟩ rfl rfl rfl ⟨by decide, by omega⟩ (by decide +kernel) (by decide +kernel) (Nat.le_of_ble_eq_true rfl) (f_holidayAt (⟨o9, ?_⟩))
      show MW mX12_removeHoliday 0 0 58 [(0, vR 65), (1, vI x1)] [vI (hAt ((mChg (ud d 65 5 0)) 66) x1)] g (mChg (ud d 65 5 0)) Q
      refine mw_istore_n (pc' := 59) (L' := [(0, vR 65), (1, vI x1), (2, vI (hAt ((mChg (ud d 65 5 0)) 66) x1))]) dX12_removeHoliday_58 rfl rfl (by decide) rfl ?_
      refine mw_aload_n (v := vR 65) (pc' := 60) dX12_removeHoliday_59 rfl rfl (Or.inl rfl) rfl ?_
      refine mw_getP (v := 66) (pc' := 63) dX12_removeHoliday_60 rfl fr_RX12_9_65 rfl sp_65_0 ⟨by decide, by decide⟩ ?_
      refine mw_iconst (pc' := 64) dX12_removeHoliday_63 rfl ⟨by decide, by decide⟩ ?_
      refine mw_dup2 (pc' := 65) dX12_removeHoliday_64 rfl rfl rfl ?_
      refine mw_iald (pc' := 66) dX12_removeHoliday_65 rfl lk_66 ⟨by decide, by decide⟩ (by rw [ln_66]; exact ⟨by decide, by decide⟩) ?_
      refine mw_st (b := d 66 2) (Eq.trans (mChg_fr (by omega)) (udA (by decide) (rfl))) ?_
      refine mw_iconst (pc' := 67) dX12_removeHoliday_66 rfl ⟨by decide, by decide⟩ ?_
      obtain ⟨o10, h⟩ := h
      refine mw_isub (pc' := 68) dX12_removeHoliday_67 rfl o10 ?_
      refine mw_iast (pc' := 69) dX12_removeHoliday_68 rfl lk_66 ⟨by decide, by decide⟩ (by rw [ln_66]; exact ⟨by decide, by decide⟩) ?_
      refine mw_aload_n (v := vR 65) (pc' := 70) dX12_removeHoliday_69 rfl rfl (Or.inl rfl) rfl ?_
      refine mw_getP (v := 66) (pc' := 73) dX12_removeHoliday_70 rfl fr_RX12_9_65 rfl sp_65_0 ⟨by decide, by decide⟩ ?_
      refine mw_bipush (pc' := 75) dX12_removeHoliday_73 rfl ⟨by decide, by decide⟩ ?_
      refine mw_iload_n (pc' := 76) dX12_removeHoliday_75 rfl rfl rfl ?_
      obtain ⟨o11, h⟩ := h
      refine mw_iadd (pc' := 77) dX12_removeHoliday_76 rfl o11 ?_
      refine mw_aload_n (v := vR 65) (pc' := 78) dX12_removeHoliday_77 rfl rfl (Or.inl rfl) rfl ?_
      refine mw_getP (v := 66) (pc' := 81) dX12_removeHoliday_78 rfl fr_RX12_9_65 rfl sp_65_0 ⟨by decide, by decide⟩ ?_
      refine mw_bipush (pc' := 83) dX12_removeHoliday_81 rfl ⟨by decide, by decide⟩ ?_
      refine mw_aload_n (v := vR 65) (pc' := 84) dX12_removeHoliday_83 rfl rfl (Or.inl rfl) rfl ?_
      refine mw_getP (v := 66) (pc' := 87) dX12_removeHoliday_84 rfl fr_RX12_9_65 rfl sp_65_0 ⟨by decide, by decide⟩ ?_
      refine mw_iconst (pc' := 88) dX12_removeHoliday_87 rfl ⟨by decide, by decide⟩ ?_
      refine mw_iald (pc' := 89) dX12_removeHoliday_88 rfl lk_66 ⟨by decide, by decide⟩ (by rw [ln_66]; exact ⟨by decide, by decide⟩) ?_
      refine mw_st (b := (d 66 2) - 1) (udS) ?_
      obtain ⟨o12, h⟩ := h
      refine mw_iadd (pc' := 90) dX12_removeHoliday_89 rfl o12 ?_
      obtain ⟨o13, h⟩ := h
      obtain ⟨o14, h⟩ := h
      refine mw_iald (pc' := 91) dX12_removeHoliday_90 rfl lk_66 ⟨by decide, by decide⟩ (by rw [ln_66]; exact o13) ?_
      refine mw_st (b := (ud (mChg (ud d 65 5 0)) 66 2 ((d 66 2) - 1)) 66 (78 + (d 66 2))) (congrArg ((ud (mChg (ud d 65 5 0)) 66 2 ((d 66 2) - 1)) 66) (by omega)) ?_
      refine mw_st (b := d 66 (78 + (d 66 2))) (udI o14 (Eq.trans (mChg_fr (by omega)) (udA (by decide) (rfl)))) ?_
      obtain ⟨o15, h⟩ := h
      refine mw_iast (pc' := 92) dX12_removeHoliday_91 rfl lk_66 ⟨by decide, by decide⟩ (by rw [ln_66]; exact o15) ?_
      refine mw_aload_n (v := vR 65) (pc' := 93) dX12_removeHoliday_92 rfl rfl (Or.inl rfl) rfl ?_
      refine mw_getP (v := 66) (pc' := 96) dX12_removeHoliday_93 rfl fr_RX12_9_65 rfl sp_65_0 ⟨by decide, by decide⟩ ?_
      refine mw_iconst (pc' := 97) dX12_removeHoliday_96 rfl ⟨by decide, by decide⟩ ?_
      obtain ⟨o16, h⟩ := h
      refine mw_iald (pc' := 98) dX12_removeHoliday_97 rfl lk_66 ⟨by decide, by decide⟩ (by rw [ln_66]; exact ⟨by decide, by decide⟩) ?_
      refine mw_st (b := (d 66 2) - 1) (udI o16 (udS)) ?_
      exact mw_iret (pc' := 0) (S := []) dX12_removeHoliday_98 rfl (Or.inl rfl) h
def pX12_courtDays_1 (x1 x2 x3 x4 : Int) (g : mG) (d : mD) (Q : mQ) : Prop := MW mX12_courtDays 0 0 44 [(0, vR 65), (1, vI x1), (2, vI x2), (3, vI x3), (4, vI x4)] [] g d Q
theorem eX12_courtDays {x1 x2 : Int} {g : mG} {d : mD} {Q : mQ} (h : ((((¬ ((¬ (x1 < 0)) ∧ (¬ (4999 < x1)))) ∨ ((¬ ((¬ (x2 < 0)) ∧ (¬ (4999 < x2)))) ∨ (¬ (x1 ≤ x2))))) → Q (.inl 0) g (ud (ud d 65 5 0) 65 5 1)) ∧ ((¬ ((¬ ((¬ (x1 < 0)) ∧ (¬ (4999 < x1)))) ∨ ((¬ ((¬ (x2 < 0)) ∧ (¬ (4999 < x2)))) ∨ (¬ (x1 ≤ x2))))) → pX12_courtDays_1 x1 x2 0 x1 g (ud d 65 5 0) Q)) : MM mX12_courtDays [vR 65, vI x1, vI x2] g d Q := by
  refine MM_of (by decide) rfl (by simp [catV]) (Nat.le_of_ble_eq_true rfl) ?_
  show MW mX12_courtDays 0 0 0 [(0, vR 65), (1, vI x1), (2, vI x2)] [] g d Q
  refine mw_top (fun hT => ?_)
  have hG : 76 ≤ g.2.1 := hT.2
  refine mw_aload_n (v := vR 65) (pc' := 1) dX12_courtDays_0 rfl rfl (Or.inl rfl) rfl ?_
  refine mw_iconst (pc' := 2) dX12_courtDays_1 rfl ⟨by decide, by decide⟩ ?_
  refine mw_putI (ji := 5) (pc' := 5) dX12_courtDays_2 rfl (fq_RX12_41_65) (by decide +kernel) rfl (Or.inl ⟨rfl, rc_65_5⟩) (Or.inr rfl) ⟨by decide, by omega⟩ ?_
  refine mw_aload_n (v := vR 65) (pc' := 6) dX12_courtDays_5 rfl rfl (Or.inl rfl) rfl ?_
  refine mw_iload_n (pc' := 7) dX12_courtDays_6 rfl rfl rfl ?_
  refine mw_callS (M' := mX12_isDay) (A := [vI x1]) (S := [vR 65]) (pc' := 10) dX12_courtDays_7 rfl cl_RX12_106 cm_X12_isDay cs_X12_isDay ⟨by decide, by decide, by decide, by decide, by decide⟩ rfl rfl (Nat.le_of_ble_eq_true rfl) (eX12_isDay ?_)
  show MW mX12_courtDays 0 0 10 [(0, vR 65), (1, vI x1), (2, vI x2)] [vI (bI ((¬ (x1 < 0)) ∧ (¬ (4999 < x1)))), vR 65] g (ud d 65 5 0) Q
  suffices k1 : MW mX12_courtDays 0 0 30 [(0, vR 65), (1, vI x1), (2, vI x2)] [vI (bI ((¬ ((¬ (x1 < 0)) ∧ (¬ (4999 < x1)))) ∨ ((¬ ((¬ (x2 < 0)) ∧ (¬ (4999 < x2)))) ∨ (¬ (x1 ≤ x2))))), vR 65] g (ud d 65 5 0) Q by
    refine mw_if_eq (tgt := 25) (pc' := 13) dX12_courtDays_10 rfl (by decide) (fun c2 => ?_) (fun c2 => ?_)
    · replace c2 := bI_0.mp c2
      refine mw_iconst (pc' := 26) dX12_courtDays_25 rfl ⟨by decide, by decide⟩ ?_
      refine mw_goto (pc' := 0) (tgt := 30) dX12_courtDays_26 (by decide) ?_
      exact mw_st (bI_t (Or.inl c2)).symm k1
    · replace c2 := bI_n0.mp c2
      refine mw_iload_n (pc' := 14) dX12_courtDays_13 rfl rfl rfl ?_
      refine mw_callS (M' := mX12_isDay) (A := [vI x2]) (S := [vR 65]) (pc' := 17) dX12_courtDays_14 rfl cl_RX12_106 cm_X12_isDay cs_X12_isDay ⟨by decide, by decide, by decide, by decide, by decide⟩ rfl rfl (Nat.le_of_ble_eq_true rfl) (eX12_isDay ?_)
      show MW mX12_courtDays 0 0 17 [(0, vR 65), (1, vI x1), (2, vI x2)] [vI (bI ((¬ (x2 < 0)) ∧ (¬ (4999 < x2)))), vR 65] g (ud d 65 5 0) Q
      refine mw_if_eq (tgt := 25) (pc' := 20) dX12_courtDays_17 rfl (by decide) (fun c3 => ?_) (fun c3 => ?_)
      · replace c3 := bI_0.mp c3
        refine mw_iconst (pc' := 26) dX12_courtDays_25 rfl ⟨by decide, by decide⟩ ?_
        refine mw_goto (pc' := 0) (tgt := 30) dX12_courtDays_26 (by decide) ?_
        exact mw_st (bI_t (Or.inr (Or.inl c3))).symm k1
      · replace c3 := bI_n0.mp c3
        refine mw_iload_n (pc' := 21) dX12_courtDays_20 rfl rfl rfl ?_
        refine mw_iload_n (pc' := 22) dX12_courtDays_21 rfl rfl rfl ?_
        refine mw_icmp_ge (tgt := 29) (pc' := 25) dX12_courtDays_22 rfl (by decide) (fun c4 => ?_) (fun c4 => ?_)
        · refine mw_iconst (pc' := 30) dX12_courtDays_29 rfl ⟨by decide, by decide⟩ ?_
          exact mw_st (bI_f (fun h => h.elim (fun q => (q c2)) (fun h => h.elim (fun q => (q c3)) (fun h => (h c4))))).symm k1
        · refine mw_iconst (pc' := 26) dX12_courtDays_25 rfl ⟨by decide, by decide⟩ ?_
          refine mw_goto (pc' := 0) (tgt := 30) dX12_courtDays_26 (by decide) ?_
          exact mw_st (bI_t (Or.inr (Or.inr c4))).symm k1
  refine mw_iconst (pc' := 31) dX12_courtDays_30 rfl ⟨by decide, by decide⟩ ?_
  refine mw_callV (M' := mX12_fails) (A := [vI (bI ((¬ ((¬ (x1 < 0)) ∧ (¬ (4999 < x1)))) ∨ ((¬ ((¬ (x2 < 0)) ∧ (¬ (4999 < x2)))) ∨ (¬ (x1 ≤ x2))))), vI 1]) (A' := [vR 65, vI (bI ((¬ ((¬ (x1 < 0)) ∧ (¬ (4999 < x1)))) ∨ ((¬ ((¬ (x2 < 0)) ∧ (¬ (4999 < x2)))) ∨ (¬ (x1 ≤ x2))))), vI 1]) (S := []) (a := 65) (pc' := 34) dX12_courtDays_31 rfl cl_RX12_55 cm_X12_fails cv_X12_fails ⟨by decide, by decide, by decide, by decide, by decide⟩ rfl rfl rfl ⟨by decide, by omega⟩ (by decide +kernel) (by decide +kernel) (Nat.le_of_ble_eq_true rfl) (f_fails (udS) (by decide) ?_)
  refine ⟨fun c5 => ?_, fun c5 => ?_⟩
  · replace h := h.1 (show ((¬ ((¬ (x1 < 0)) ∧ (¬ (4999 < x1)))) ∨ ((¬ ((¬ (x2 < 0)) ∧ (¬ (4999 < x2)))) ∨ (¬ (x1 ≤ x2)))) from c5)
    show MW mX12_courtDays 0 0 34 [(0, vR 65), (1, vI x1), (2, vI x2)] [vI 1] g (ud (ud d 65 5 0) 65 5 1) Q
    refine mw_if_eq (tgt := 39) (pc' := 37) dX12_courtDays_34 rfl (by decide) (fun q => absurd q (by decide)) (fun _ => ?_)
    refine mw_iconst (pc' := 38) dX12_courtDays_37 rfl ⟨by decide, by decide⟩ ?_
    exact mw_iret (pc' := 0) (S := []) dX12_courtDays_38 rfl (Or.inl rfl) h
  · replace h := h.2 (show ¬ ((¬ ((¬ (x1 < 0)) ∧ (¬ (4999 < x1)))) ∨ ((¬ ((¬ (x2 < 0)) ∧ (¬ (4999 < x2)))) ∨ (¬ (x1 ≤ x2)))) from c5)
    show MW mX12_courtDays 0 0 34 [(0, vR 65), (1, vI x1), (2, vI x2)] [vI 0] g (ud d 65 5 0) Q
    refine mw_if_eq (tgt := 39) (pc' := 37) dX12_courtDays_34 rfl (by decide) (fun _ => ?_) (fun q => absurd q (by decide))
    refine mw_iconst (pc' := 40) dX12_courtDays_39 rfl ⟨by decide, by decide⟩ ?_
    refine mw_istore_n (pc' := 41) (L' := [(0, vR 65), (1, vI x1), (2, vI x2), (3, vI 0)]) dX12_courtDays_40 rfl rfl (by decide) rfl ?_
    refine mw_iload_n (pc' := 42) dX12_courtDays_41 rfl rfl rfl ?_
    refine mw_istore (pc' := 44) (L' := [(0, vR 65), (1, vI x1), (2, vI x2), (3, vI 0), (4, vI x1)]) dX12_courtDays_42 rfl (by decide) rfl ?_
    exact h
theorem aX12_courtDays_1 {x1 x2 x3 x4 : Int} {g : mG} {d : mD} {Q : mQ} (h : ((x2 < x4) → Q (.inl x3) g d) ∧ ((¬ (x2 < x4)) → (RW (d 66)) ∧ ((0 ≤ x4) ∧ ((iI (x3 + (bI (court (d 66) x4)))) ∧ ((iI (x4 + 1)) ∧ (pX12_courtDays_1 x1 x2 (x3 + (bI (court (d 66) x4))) (x4 + 1) g d Q)))))) : pX12_courtDays_1 x1 x2 x3 x4 g d Q := by
  unfold pX12_courtDays_1
  refine mw_top (fun hT => ?_)
  have hG : 76 ≤ g.2.1 := hT.2
  refine mw_iload (pc' := 46) dX12_courtDays_44 rfl rfl ?_
  refine mw_iload_n (pc' := 47) dX12_courtDays_46 rfl rfl rfl ?_
  refine mw_icmp_gt (tgt := 73) (pc' := 50) dX12_courtDays_47 rfl (by decide) (fun c9 => ?_) (fun c9 => ?_)
  · replace h := h.1 c9
    refine mw_iload_n (pc' := 74) dX12_courtDays_73 rfl rfl rfl ?_
    exact mw_iret (pc' := 0) (S := []) dX12_courtDays_74 rfl (Or.inl rfl) h
  · replace h := h.2 c9
    refine mw_iload_n (pc' := 51) dX12_courtDays_50 rfl rfl rfl ?_
    refine mw_aload_n (v := vR 65) (pc' := 52) dX12_courtDays_51 rfl rfl (Or.inl rfl) rfl ?_
    refine mw_iload (pc' := 54) dX12_courtDays_52 rfl rfl ?_
    obtain ⟨o10, h⟩ := h
    obtain ⟨o11, h⟩ := h
    refine mw_callV (M' := mX12_isCourt) (A := [vI x4]) (A' := [vR 65, vI x4]) (S := [vI x3]) (a := 65) (pc' := 57) dX12_courtDays_54 rfl cl_RX12_112 cm_X12_isCourt cv_X12_isCourt ⟨by decide, by decide, by decide, by decide, by decide⟩ rfl rfl rfl ⟨by decide, by omega⟩ (by decide +kernel) (by decide +kernel) (Nat.le_of_ble_eq_true rfl) (f_isCourt (⟨o10, o11, ?_⟩))
    show MW mX12_courtDays 0 0 57 [(0, vR 65), (1, vI x1), (2, vI x2), (3, vI x3), (4, vI x4)] [vI (bI (court (d 66) x4)), vI x3] g d Q
    suffices k12 : MW mX12_courtDays 0 0 65 [(0, vR 65), (1, vI x1), (2, vI x2), (3, vI x3), (4, vI x4)] [vI (bI (court (d 66) x4)), vI x3] g d Q by
      refine mw_if_eq (tgt := 64) (pc' := 60) dX12_courtDays_57 rfl (by decide) (fun c13 => ?_) (fun c13 => ?_)
      · replace c13 := bI_0.mp c13
        refine mw_iconst (pc' := 65) dX12_courtDays_64 rfl ⟨by decide, by decide⟩ ?_
        exact mw_st (bI_f (fun h => (c13 h))).symm k12
      · replace c13 := bI_n0.mp c13
        refine mw_iconst (pc' := 61) dX12_courtDays_60 rfl ⟨by decide, by decide⟩ ?_
        refine mw_goto (pc' := 0) (tgt := 65) dX12_courtDays_61 (by decide) ?_
        exact mw_st (bI_t c13).symm k12
    obtain ⟨o14, h⟩ := h
    refine mw_iadd (pc' := 66) dX12_courtDays_65 rfl o14 ?_
    refine mw_istore_n (pc' := 67) (L' := [(0, vR 65), (1, vI x1), (2, vI x2), (3, vI (x3 + (bI (court (d 66) x4)))), (4, vI x4)]) dX12_courtDays_66 rfl rfl (by decide) rfl ?_
    obtain ⟨o15, h⟩ := h
    refine mw_iinc (pc' := 70) (L' := [(0, vR 65), (1, vI x1), (2, vI x2), (3, vI (x3 + (bI (court (d 66) x4)))), (4, vI (x4 + 1))]) dX12_courtDays_67 rfl rfl (by decide) o15 rfl ?_
    refine mw_goto (pc' := 0) (tgt := 44) dX12_courtDays_70 (by decide) ?_
    exact h
theorem eX12_courtDaysByMarking {x1 x2 : Int} {g : mG} {d : mD} {Q : mQ} (h : MM mX12_courtDays [vR 65, vI x1, vI x2] g d (fun o g3 d4 => match o with | .inl v2 => Q (.inl v2) g3 d4 | .inr k => Q (.inr k) g3 d4)) : MM mX12_courtDaysByMarking [vR 65, vI x1, vI x2] g d Q := by
  refine MM_of (by decide) rfl (by simp [catV]) (Nat.le_of_ble_eq_true rfl) ?_
  show MW mX12_courtDaysByMarking 0 0 0 [(0, vR 65), (1, vI x1), (2, vI x2)] [] g d Q
  refine mw_top (fun hT => ?_)
  have hG : 76 ≤ g.2.1 := hT.2
  refine mw_aload_n (v := vR 65) (pc' := 1) dX12_courtDaysByMarking_0 rfl rfl (Or.inl rfl) rfl ?_
  refine mw_iload_n (pc' := 2) dX12_courtDaysByMarking_1 rfl rfl rfl ?_
  refine mw_iload_n (pc' := 3) dX12_courtDaysByMarking_2 rfl rfl rfl ?_
  refine mw_callV (M' := mX12_courtDays) (A := [vI x1, vI x2]) (A' := [vR 65, vI x1, vI x2]) (S := []) (a := 65) (pc' := 6) dX12_courtDaysByMarking_3 rfl cl_RX12_115 cm_X12_courtDays cv_X12_courtDays ⟨by decide, by decide, by decide, by decide, by decide⟩ rfl rfl rfl ⟨by decide, by omega⟩ (by decide +kernel) (by decide +kernel) (Nat.le_of_ble_eq_true rfl) (MM.mono ?_ h)
  intro o g3 d4 h1
  rcases o with v2 | k
  · refine mw_top (fun hT => ?_)
    have hG : 76 ≤ g3.2.1 := hT.2
    show MW mX12_courtDaysByMarking 0 0 6 [(0, vR 65), (1, vI x1), (2, vI x2)] [vI v2] g3 d4 Q
    exact mw_iret (pc' := 0) (S := []) dX12_courtDaysByMarking_6 rfl (Or.inl rfl) h1
  · exact mx_out rfl h1
theorem eX12_setRule {x1 x2 x3 : Int} {g : mG} {d : mD} {Q : mQ} (h : (((¬ ((¬ (x1 < 0)) ∧ (¬ (7 < x1))))) → Q (.inl 0) g (ud (ud d 65 5 0) 65 5 1)) ∧ (((¬ (x1 < 0)) ∧ (¬ (7 < x1))) → (((¬ ((¬ (x2 < 1)) ∧ (¬ (200 < x2))))) → Q (.inl 0) g (ud (ud d 65 5 0) 65 5 2)) ∧ (((¬ (x2 < 1)) ∧ (¬ (200 < x2))) → (0 ≤ d 65 3 ∧ d 65 3 ≤ 8) ∧ ((iI (2 * x1)) ∧ ((iI (119 + (2 * x1))) ∧ ((0 ≤ 119 + (2 * x1) ∧ 119 + (2 * x1) < 787) ∧ ((iI ((119 + (2 * x1)) + 1)) ∧ ((0 ≤ (119 + (2 * x1)) + 1 ∧ (119 + (2 * x1)) + 1 < 787) ∧ (Q (.inl (d 66 (119 + 2 * x1))) g (ud (ud (mChg (ud d 65 5 0)) 66 (119 + 2 * x1) x2) 66 (120 + 2 * x1) (bI (¬ (x3 = 0))))))))))))) : MM mX12_setRule [vR 65, vI x1, vI x2, vI x3] g d Q := by
  refine MM_of (by decide) rfl (by simp [catV]) (Nat.le_of_ble_eq_true rfl) ?_
  show MW mX12_setRule 0 0 0 [(0, vR 65), (1, vI x1), (2, vI x2), (3, vI x3)] [] g d Q
  refine mw_top (fun hT => ?_)
  have hG : 76 ≤ g.2.1 := hT.2
  refine mw_aload_n (v := vR 65) (pc' := 1) dX12_setRule_0 rfl rfl (Or.inl rfl) rfl ?_
  refine mw_iconst (pc' := 2) dX12_setRule_1 rfl ⟨by decide, by decide⟩ ?_
  refine mw_putI (ji := 5) (pc' := 5) dX12_setRule_2 rfl (fq_RX12_41_65) (by decide +kernel) rfl (Or.inl ⟨rfl, rc_65_5⟩) (Or.inr rfl) ⟨by decide, by omega⟩ ?_
  refine mw_aload_n (v := vR 65) (pc' := 6) dX12_setRule_5 rfl rfl (Or.inl rfl) rfl ?_
  refine mw_iload_n (pc' := 7) dX12_setRule_6 rfl rfl rfl ?_
  refine mw_callS (M' := mX12_noRule) (A := [vI x1]) (S := [vR 65]) (pc' := 10) dX12_setRule_7 rfl cl_RX12_119 cm_X12_noRule cs_X12_noRule ⟨by decide, by decide, by decide, by decide, by decide⟩ rfl rfl (Nat.le_of_ble_eq_true rfl) (eX12_noRule ?_)
  show MW mX12_setRule 0 0 10 [(0, vR 65), (1, vI x1), (2, vI x2), (3, vI x3)] [vI (bI (¬ ((¬ (x1 < 0)) ∧ (¬ (7 < x1))))), vR 65] g (ud d 65 5 0) Q
  refine mw_iconst (pc' := 11) dX12_setRule_10 rfl ⟨by decide, by decide⟩ ?_
  refine mw_callV (M' := mX12_fails) (A := [vI (bI (¬ ((¬ (x1 < 0)) ∧ (¬ (7 < x1))))), vI 1]) (A' := [vR 65, vI (bI (¬ ((¬ (x1 < 0)) ∧ (¬ (7 < x1))))), vI 1]) (S := []) (a := 65) (pc' := 14) dX12_setRule_11 rfl cl_RX12_55 cm_X12_fails cv_X12_fails ⟨by decide, by decide, by decide, by decide, by decide⟩ rfl rfl rfl ⟨by decide, by omega⟩ (by decide +kernel) (by decide +kernel) (Nat.le_of_ble_eq_true rfl) (f_fails (udS) (by decide) ?_)
  refine ⟨fun c1 => ?_, fun c1 => ?_⟩
  · replace h := h.1 (show (¬ ((¬ (x1 < 0)) ∧ (¬ (7 < x1)))) from c1)
    show MW mX12_setRule 0 0 14 [(0, vR 65), (1, vI x1), (2, vI x2), (3, vI x3)] [vI 1] g (ud (ud d 65 5 0) 65 5 1) Q
    refine mw_if_ne (tgt := 41) (pc' := 17) dX12_setRule_14 rfl (by decide) (fun _ => ?_) (fun q => absurd q (by decide))
    refine mw_iconst (pc' := 42) dX12_setRule_41 rfl ⟨by decide, by decide⟩ ?_
    exact mw_iret (pc' := 0) (S := []) dX12_setRule_42 rfl (Or.inl rfl) h
  · replace h := h.2 (show (¬ (x1 < 0)) ∧ (¬ (7 < x1)) from (Classical.not_not.mp c1))
    show MW mX12_setRule 0 0 14 [(0, vR 65), (1, vI x1), (2, vI x2), (3, vI x3)] [vI 0] g (ud d 65 5 0) Q
    refine mw_if_ne (tgt := 41) (pc' := 17) dX12_setRule_14 rfl (by decide) (fun q => absurd q (by decide)) (fun _ => ?_)
    refine mw_aload_n (v := vR 65) (pc' := 18) dX12_setRule_17 rfl rfl (Or.inl rfl) rfl ?_
    refine mw_iload_n (pc' := 19) dX12_setRule_18 rfl rfl rfl ?_
    refine mw_iconst (pc' := 20) dX12_setRule_19 rfl ⟨by decide, by decide⟩ ?_
    refine mw_sipush (pc' := 23) dX12_setRule_20 rfl ⟨by decide, by decide⟩ ?_
    refine mw_callS (M' := mX12_in) (A := [vI x2, vI 1, vI 200]) (S := [vR 65]) (pc' := 26) dX12_setRule_23 rfl cl_RX12_64 cm_X12_in cs_X12_in ⟨by decide, by decide, by decide, by decide, by decide⟩ rfl rfl (Nat.le_of_ble_eq_true rfl) (eX12_in ?_)
    show MW mX12_setRule 0 0 26 [(0, vR 65), (1, vI x1), (2, vI x2), (3, vI x3)] [vI (bI ((¬ (x2 < 1)) ∧ (¬ (200 < x2)))), vR 65] g (ud d 65 5 0) Q
    suffices k2 : MW mX12_setRule 0 0 34 [(0, vR 65), (1, vI x1), (2, vI x2), (3, vI x3)] [vI (bI (¬ ((¬ (x2 < 1)) ∧ (¬ (200 < x2))))), vR 65] g (ud d 65 5 0) Q by
      refine mw_if_ne (tgt := 33) (pc' := 29) dX12_setRule_26 rfl (by decide) (fun c3 => ?_) (fun c3 => ?_)
      · replace c3 := bI_n0.mp c3
        refine mw_iconst (pc' := 34) dX12_setRule_33 rfl ⟨by decide, by decide⟩ ?_
        exact mw_st (bI_f (fun h => (h c3))).symm k2
      · replace c3 := bI_0.mp c3
        refine mw_iconst (pc' := 30) dX12_setRule_29 rfl ⟨by decide, by decide⟩ ?_
        refine mw_goto (pc' := 0) (tgt := 34) dX12_setRule_30 (by decide) ?_
        exact mw_st (bI_t c3).symm k2
    refine mw_iconst (pc' := 35) dX12_setRule_34 rfl ⟨by decide, by decide⟩ ?_
    refine mw_callV (M' := mX12_fails) (A := [vI (bI (¬ ((¬ (x2 < 1)) ∧ (¬ (200 < x2))))), vI 2]) (A' := [vR 65, vI (bI (¬ ((¬ (x2 < 1)) ∧ (¬ (200 < x2))))), vI 2]) (S := []) (a := 65) (pc' := 38) dX12_setRule_35 rfl cl_RX12_55 cm_X12_fails cv_X12_fails ⟨by decide, by decide, by decide, by decide, by decide⟩ rfl rfl rfl ⟨by decide, by omega⟩ (by decide +kernel) (by decide +kernel) (Nat.le_of_ble_eq_true rfl) (f_fails (udS) (by decide) ?_)
    refine ⟨fun c4 => ?_, fun c4 => ?_⟩
    · replace h := h.1 (show (¬ ((¬ (x2 < 1)) ∧ (¬ (200 < x2)))) from c4)
      show MW mX12_setRule 0 0 38 [(0, vR 65), (1, vI x1), (2, vI x2), (3, vI x3)] [vI 1] g (ud (ud d 65 5 0) 65 5 2) Q
      refine mw_if_eq (tgt := 43) (pc' := 41) dX12_setRule_38 rfl (by decide) (fun q => absurd q (by decide)) (fun _ => ?_)
      refine mw_iconst (pc' := 42) dX12_setRule_41 rfl ⟨by decide, by decide⟩ ?_
      exact mw_iret (pc' := 0) (S := []) dX12_setRule_42 rfl (Or.inl rfl) h
    · replace h := h.2 (show (¬ (x2 < 1)) ∧ (¬ (200 < x2)) from (Classical.not_not.mp c4))
      show MW mX12_setRule 0 0 38 [(0, vR 65), (1, vI x1), (2, vI x2), (3, vI x3)] [vI 0] g (ud d 65 5 0) Q
      refine mw_if_eq (tgt := 43) (pc' := 41) dX12_setRule_38 rfl (by decide) (fun _ => ?_) (fun q => absurd q (by decide))
      refine mw_aload_n (v := vR 65) (pc' := 44) dX12_setRule_43 rfl rfl (Or.inl rfl) rfl ?_
      obtain ⟨o5, h⟩ := h
      refine mw_callV (M' := mX12_change) (A := []) (A' := [vR 65]) (S := []) (a := 65) (pc' := 47) dX12_setRule_44 rfl cl_RX12_93 cm_X12_change cv_X12_change ⟨by decide, by decide, by decide, by decide, by decide⟩ rfl rfl rfl ⟨by decide, by omega⟩ (by decide +kernel) (by decide +kernel) (Nat.le_of_ble_eq_true rfl) (f_change (⟨o5, ?_⟩))
      show MW mX12_setRule 0 0 47 [(0, vR 65), (1, vI x1), (2, vI x2), (3, vI x3)] [] g (mChg (ud d 65 5 0)) Q
      refine mw_aload_n (v := vR 65) (pc' := 48) dX12_setRule_47 rfl rfl (Or.inl rfl) rfl ?_
      refine mw_getP (v := 66) (pc' := 51) dX12_setRule_48 rfl fr_RX12_9_65 rfl sp_65_0 ⟨by decide, by decide⟩ ?_
      refine mw_bipush (pc' := 53) dX12_setRule_51 rfl ⟨by decide, by decide⟩ ?_
      refine mw_iconst (pc' := 54) dX12_setRule_53 rfl ⟨by decide, by decide⟩ ?_
      refine mw_iload_n (pc' := 55) dX12_setRule_54 rfl rfl rfl ?_
      obtain ⟨o6, h⟩ := h
      refine mw_imul (pc' := 56) dX12_setRule_55 rfl o6 ?_
      obtain ⟨o7, h⟩ := h
      refine mw_iadd (pc' := 57) dX12_setRule_56 rfl o7 ?_
      obtain ⟨o8, h⟩ := h
      refine mw_iald (pc' := 58) dX12_setRule_57 rfl lk_66 ⟨by decide, by decide⟩ (by rw [ln_66]; exact o8) ?_
      refine mw_st (b := (mChg (ud d 65 5 0)) 66 (119 + 2 * x1)) (congrArg ((mChg (ud d 65 5 0)) 66) (by omega)) ?_
      refine mw_st (b := d 66 (119 + 2 * x1)) (Eq.trans (mChg_fr (by omega)) (udA (by decide) (rfl))) ?_
      refine mw_istore (pc' := 60) (L' := [(0, vR 65), (1, vI x1), (2, vI x2), (3, vI x3), (4, vI (d 66 (119 + 2 * x1)))]) dX12_setRule_58 rfl (by decide) rfl ?_
      refine mw_aload_n (v := vR 65) (pc' := 61) dX12_setRule_60 rfl rfl (Or.inl rfl) rfl ?_
      refine mw_getP (v := 66) (pc' := 64) dX12_setRule_61 rfl fr_RX12_9_65 rfl sp_65_0 ⟨by decide, by decide⟩ ?_
      refine mw_bipush (pc' := 66) dX12_setRule_64 rfl ⟨by decide, by decide⟩ ?_
      refine mw_iconst (pc' := 67) dX12_setRule_66 rfl ⟨by decide, by decide⟩ ?_
      refine mw_iload_n (pc' := 68) dX12_setRule_67 rfl rfl rfl ?_
      refine mw_imul (pc' := 69) dX12_setRule_68 rfl o6 ?_
      refine mw_iadd (pc' := 70) dX12_setRule_69 rfl o7 ?_
      refine mw_iload_n (pc' := 71) dX12_setRule_70 rfl rfl rfl ?_
      refine mw_iast (pc' := 72) dX12_setRule_71 rfl lk_66 ⟨by decide, by decide⟩ (by rw [ln_66]; exact o8) ?_
      refine mw_dd (b := (ud (mChg (ud d 65 5 0)) 66 (119 + 2 * x1) x2)) (congrArg (fun z => ud (mChg (ud d 65 5 0)) 66 z x2) (by omega)) ?_
      refine mw_aload_n (v := vR 65) (pc' := 73) dX12_setRule_72 rfl rfl (Or.inl rfl) rfl ?_
      refine mw_getP (v := 66) (pc' := 76) dX12_setRule_73 rfl fr_RX12_9_65 rfl sp_65_0 ⟨by decide, by decide⟩ ?_
      refine mw_bipush (pc' := 78) dX12_setRule_76 rfl ⟨by decide, by decide⟩ ?_
      refine mw_iconst (pc' := 79) dX12_setRule_78 rfl ⟨by decide, by decide⟩ ?_
      refine mw_iload_n (pc' := 80) dX12_setRule_79 rfl rfl rfl ?_
      refine mw_imul (pc' := 81) dX12_setRule_80 rfl o6 ?_
      refine mw_iadd (pc' := 82) dX12_setRule_81 rfl o7 ?_
      refine mw_iconst (pc' := 83) dX12_setRule_82 rfl ⟨by decide, by decide⟩ ?_
      obtain ⟨o14, h⟩ := h
      refine mw_iadd (pc' := 84) dX12_setRule_83 rfl o14 ?_
      refine mw_iload_n (pc' := 85) dX12_setRule_84 rfl rfl rfl ?_
      suffices k15 : MW mX12_setRule 0 0 93 [(0, vR 65), (1, vI x1), (2, vI x2), (3, vI x3), (4, vI (d 66 (119 + 2 * x1)))] [vI (bI (¬ (x3 = 0))), vI ((119 + (2 * x1)) + 1), vR 66] g (ud (mChg (ud d 65 5 0)) 66 (119 + 2 * x1) x2) Q by
        refine mw_if_eq (tgt := 92) (pc' := 88) dX12_setRule_85 rfl (by decide) (fun c16 => ?_) (fun c16 => ?_)
        · refine mw_iconst (pc' := 93) dX12_setRule_92 rfl ⟨by decide, by decide⟩ ?_
          exact mw_st (bI_f (fun h => (h c16))).symm k15
        · refine mw_iconst (pc' := 89) dX12_setRule_88 rfl ⟨by decide, by decide⟩ ?_
          refine mw_goto (pc' := 0) (tgt := 93) dX12_setRule_89 (by decide) ?_
          exact mw_st (bI_t c16).symm k15
      obtain ⟨o17, h⟩ := h
      refine mw_iast (pc' := 94) dX12_setRule_93 rfl lk_66 ⟨by decide, by decide⟩ (by rw [ln_66]; exact o17) ?_
      refine mw_dd (b := (ud (ud (mChg (ud d 65 5 0)) 66 (119 + 2 * x1) x2) 66 (120 + 2 * x1) (bI (¬ (x3 = 0))))) (congrArg (fun z => ud (ud (mChg (ud d 65 5 0)) 66 (119 + 2 * x1) x2) 66 z (bI (¬ (x3 = 0)))) (by omega)) ?_
      refine mw_iload (pc' := 96) dX12_setRule_94 rfl rfl ?_
      exact mw_iret (pc' := 0) (S := []) dX12_setRule_96 rfl (Or.inl rfl) h
theorem eX12_ruleLength {x1 : Int} {g : mG} {d : mD} {Q : mQ} (h : (((¬ ((¬ (x1 < 0)) ∧ (¬ (7 < x1))))) → Q (.inl 0) g (ud (ud d 65 5 0) 65 5 1)) ∧ (((¬ (x1 < 0)) ∧ (¬ (7 < x1))) → (iI (2 * x1)) ∧ ((iI (119 + (2 * x1))) ∧ ((0 ≤ 119 + (2 * x1) ∧ 119 + (2 * x1) < 787) ∧ (Q (.inl (d 66 (119 + 2 * x1))) g (ud d 65 5 0)))))) : MM mX12_ruleLength [vR 65, vI x1] g d Q := by
  refine MM_of (by decide) rfl (by simp [catV]) (Nat.le_of_ble_eq_true rfl) ?_
  show MW mX12_ruleLength 0 0 0 [(0, vR 65), (1, vI x1)] [] g d Q
  refine mw_top (fun hT => ?_)
  have hG : 76 ≤ g.2.1 := hT.2
  refine mw_aload_n (v := vR 65) (pc' := 1) dX12_ruleLength_0 rfl rfl (Or.inl rfl) rfl ?_
  refine mw_iconst (pc' := 2) dX12_ruleLength_1 rfl ⟨by decide, by decide⟩ ?_
  refine mw_putI (ji := 5) (pc' := 5) dX12_ruleLength_2 rfl (fq_RX12_41_65) (by decide +kernel) rfl (Or.inl ⟨rfl, rc_65_5⟩) (Or.inr rfl) ⟨by decide, by omega⟩ ?_
  refine mw_aload_n (v := vR 65) (pc' := 6) dX12_ruleLength_5 rfl rfl (Or.inl rfl) rfl ?_
  refine mw_iload_n (pc' := 7) dX12_ruleLength_6 rfl rfl rfl ?_
  refine mw_callS (M' := mX12_noRule) (A := [vI x1]) (S := [vR 65]) (pc' := 10) dX12_ruleLength_7 rfl cl_RX12_119 cm_X12_noRule cs_X12_noRule ⟨by decide, by decide, by decide, by decide, by decide⟩ rfl rfl (Nat.le_of_ble_eq_true rfl) (eX12_noRule ?_)
  show MW mX12_ruleLength 0 0 10 [(0, vR 65), (1, vI x1)] [vI (bI (¬ ((¬ (x1 < 0)) ∧ (¬ (7 < x1))))), vR 65] g (ud d 65 5 0) Q
  refine mw_iconst (pc' := 11) dX12_ruleLength_10 rfl ⟨by decide, by decide⟩ ?_
  refine mw_callV (M' := mX12_fails) (A := [vI (bI (¬ ((¬ (x1 < 0)) ∧ (¬ (7 < x1))))), vI 1]) (A' := [vR 65, vI (bI (¬ ((¬ (x1 < 0)) ∧ (¬ (7 < x1))))), vI 1]) (S := []) (a := 65) (pc' := 14) dX12_ruleLength_11 rfl cl_RX12_55 cm_X12_fails cv_X12_fails ⟨by decide, by decide, by decide, by decide, by decide⟩ rfl rfl rfl ⟨by decide, by omega⟩ (by decide +kernel) (by decide +kernel) (Nat.le_of_ble_eq_true rfl) (f_fails (udS) (by decide) ?_)
  refine ⟨fun c1 => ?_, fun c1 => ?_⟩
  · replace h := h.1 (show (¬ ((¬ (x1 < 0)) ∧ (¬ (7 < x1)))) from c1)
    show MW mX12_ruleLength 0 0 14 [(0, vR 65), (1, vI x1)] [vI 1] g (ud (ud d 65 5 0) 65 5 1) Q
    refine mw_if_eq (tgt := 21) (pc' := 17) dX12_ruleLength_14 rfl (by decide) (fun q => absurd q (by decide)) (fun _ => ?_)
    refine mw_iconst (pc' := 18) dX12_ruleLength_17 rfl ⟨by decide, by decide⟩ ?_
    refine mw_goto (pc' := 0) (tgt := 32) dX12_ruleLength_18 (by decide) ?_
    exact mw_iret (pc' := 0) (S := []) dX12_ruleLength_32 rfl (Or.inl rfl) h
  · replace h := h.2 (show (¬ (x1 < 0)) ∧ (¬ (7 < x1)) from (Classical.not_not.mp c1))
    show MW mX12_ruleLength 0 0 14 [(0, vR 65), (1, vI x1)] [vI 0] g (ud d 65 5 0) Q
    refine mw_if_eq (tgt := 21) (pc' := 17) dX12_ruleLength_14 rfl (by decide) (fun _ => ?_) (fun q => absurd q (by decide))
    refine mw_aload_n (v := vR 65) (pc' := 22) dX12_ruleLength_21 rfl rfl (Or.inl rfl) rfl ?_
    refine mw_getP (v := 66) (pc' := 25) dX12_ruleLength_22 rfl fr_RX12_9_65 rfl sp_65_0 ⟨by decide, by decide⟩ ?_
    refine mw_bipush (pc' := 27) dX12_ruleLength_25 rfl ⟨by decide, by decide⟩ ?_
    refine mw_iconst (pc' := 28) dX12_ruleLength_27 rfl ⟨by decide, by decide⟩ ?_
    refine mw_iload_n (pc' := 29) dX12_ruleLength_28 rfl rfl rfl ?_
    obtain ⟨o2, h⟩ := h
    refine mw_imul (pc' := 30) dX12_ruleLength_29 rfl o2 ?_
    obtain ⟨o3, h⟩ := h
    refine mw_iadd (pc' := 31) dX12_ruleLength_30 rfl o3 ?_
    obtain ⟨o4, h⟩ := h
    refine mw_iald (pc' := 32) dX12_ruleLength_31 rfl lk_66 ⟨by decide, by decide⟩ (by rw [ln_66]; exact o4) ?_
    refine mw_st (b := (ud d 65 5 0) 66 (119 + 2 * x1)) (congrArg ((ud d 65 5 0) 66) (by omega)) ?_
    refine mw_st (b := d 66 (119 + 2 * x1)) (udA (by decide) (rfl)) ?_
    exact mw_iret (pc' := 0) (S := []) dX12_ruleLength_32 rfl (Or.inl rfl) h
theorem eX12_countsCourtDays {x1 : Int} {g : mG} {d : mD} {Q : mQ} (h : (((¬ ((¬ (x1 < 0)) ∧ (¬ (7 < x1))))) → Q (.inl 0) g (ud (ud d 65 5 0) 65 5 1)) ∧ (((¬ (x1 < 0)) ∧ (¬ (7 < x1))) → (iI (2 * x1)) ∧ ((iI (119 + (2 * x1))) ∧ ((iI ((119 + (2 * x1)) + 1)) ∧ ((0 ≤ (119 + (2 * x1)) + 1 ∧ (119 + (2 * x1)) + 1 < 787) ∧ (Q (.inl (bI (d 66 (120 + 2 * x1) = 1))) g (ud d 65 5 0))))))) : MM mX12_countsCourtDays [vR 65, vI x1] g d Q := by
  refine MM_of (by decide) rfl (by simp [catV]) (Nat.le_of_ble_eq_true rfl) ?_
  show MW mX12_countsCourtDays 0 0 0 [(0, vR 65), (1, vI x1)] [] g d Q
  refine mw_top (fun hT => ?_)
  have hG : 76 ≤ g.2.1 := hT.2
  refine mw_aload_n (v := vR 65) (pc' := 1) dX12_countsCourtDays_0 rfl rfl (Or.inl rfl) rfl ?_
  refine mw_iconst (pc' := 2) dX12_countsCourtDays_1 rfl ⟨by decide, by decide⟩ ?_
  refine mw_putI (ji := 5) (pc' := 5) dX12_countsCourtDays_2 rfl (fq_RX12_41_65) (by decide +kernel) rfl (Or.inl ⟨rfl, rc_65_5⟩) (Or.inr rfl) ⟨by decide, by omega⟩ ?_
  refine mw_aload_n (v := vR 65) (pc' := 6) dX12_countsCourtDays_5 rfl rfl (Or.inl rfl) rfl ?_
  refine mw_iload_n (pc' := 7) dX12_countsCourtDays_6 rfl rfl rfl ?_
  refine mw_callS (M' := mX12_noRule) (A := [vI x1]) (S := [vR 65]) (pc' := 10) dX12_countsCourtDays_7 rfl cl_RX12_119 cm_X12_noRule cs_X12_noRule ⟨by decide, by decide, by decide, by decide, by decide⟩ rfl rfl (Nat.le_of_ble_eq_true rfl) (eX12_noRule ?_)
  show MW mX12_countsCourtDays 0 0 10 [(0, vR 65), (1, vI x1)] [vI (bI (¬ ((¬ (x1 < 0)) ∧ (¬ (7 < x1))))), vR 65] g (ud d 65 5 0) Q
  refine mw_iconst (pc' := 11) dX12_countsCourtDays_10 rfl ⟨by decide, by decide⟩ ?_
  refine mw_callV (M' := mX12_fails) (A := [vI (bI (¬ ((¬ (x1 < 0)) ∧ (¬ (7 < x1))))), vI 1]) (A' := [vR 65, vI (bI (¬ ((¬ (x1 < 0)) ∧ (¬ (7 < x1))))), vI 1]) (S := []) (a := 65) (pc' := 14) dX12_countsCourtDays_11 rfl cl_RX12_55 cm_X12_fails cv_X12_fails ⟨by decide, by decide, by decide, by decide, by decide⟩ rfl rfl rfl ⟨by decide, by omega⟩ (by decide +kernel) (by decide +kernel) (Nat.le_of_ble_eq_true rfl) (f_fails (udS) (by decide) ?_)
  refine ⟨fun c1 => ?_, fun c1 => ?_⟩
  · replace h := h.1 (show (¬ ((¬ (x1 < 0)) ∧ (¬ (7 < x1)))) from c1)
    show MW mX12_countsCourtDays 0 0 14 [(0, vR 65), (1, vI x1)] [vI 1] g (ud (ud d 65 5 0) 65 5 1) Q
    refine mw_if_ne (tgt := 38) (pc' := 17) dX12_countsCourtDays_14 rfl (by decide) (fun _ => ?_) (fun q => absurd q (by decide))
    refine mw_iconst (pc' := 39) dX12_countsCourtDays_38 rfl ⟨by decide, by decide⟩ ?_
    exact mw_iret (pc' := 0) (S := []) dX12_countsCourtDays_39 rfl (Or.inr (Or.inl ⟨rfl, by decide, by decide⟩)) h
  · replace h := h.2 (show (¬ (x1 < 0)) ∧ (¬ (7 < x1)) from (Classical.not_not.mp c1))
    show MW mX12_countsCourtDays 0 0 14 [(0, vR 65), (1, vI x1)] [vI 0] g (ud d 65 5 0) Q
    refine mw_if_ne (tgt := 38) (pc' := 17) dX12_countsCourtDays_14 rfl (by decide) (fun q => absurd q (by decide)) (fun _ => ?_)
    refine mw_aload_n (v := vR 65) (pc' := 18) dX12_countsCourtDays_17 rfl rfl (Or.inl rfl) rfl ?_
    refine mw_getP (v := 66) (pc' := 21) dX12_countsCourtDays_18 rfl fr_RX12_9_65 rfl sp_65_0 ⟨by decide, by decide⟩ ?_
    refine mw_bipush (pc' := 23) dX12_countsCourtDays_21 rfl ⟨by decide, by decide⟩ ?_
    refine mw_iconst (pc' := 24) dX12_countsCourtDays_23 rfl ⟨by decide, by decide⟩ ?_
    refine mw_iload_n (pc' := 25) dX12_countsCourtDays_24 rfl rfl rfl ?_
    obtain ⟨o2, h⟩ := h
    refine mw_imul (pc' := 26) dX12_countsCourtDays_25 rfl o2 ?_
    obtain ⟨o3, h⟩ := h
    refine mw_iadd (pc' := 27) dX12_countsCourtDays_26 rfl o3 ?_
    refine mw_iconst (pc' := 28) dX12_countsCourtDays_27 rfl ⟨by decide, by decide⟩ ?_
    obtain ⟨o4, h⟩ := h
    refine mw_iadd (pc' := 29) dX12_countsCourtDays_28 rfl o4 ?_
    obtain ⟨o5, h⟩ := h
    refine mw_iald (pc' := 30) dX12_countsCourtDays_29 rfl lk_66 ⟨by decide, by decide⟩ (by rw [ln_66]; exact o5) ?_
    refine mw_st (b := (ud d 65 5 0) 66 (120 + 2 * x1)) (congrArg ((ud d 65 5 0) 66) (by omega)) ?_
    refine mw_st (b := d 66 (120 + 2 * x1)) (udA (by decide) (rfl)) ?_
    refine mw_iconst (pc' := 31) dX12_countsCourtDays_30 rfl ⟨by decide, by decide⟩ ?_
    suffices k6 : MW mX12_countsCourtDays 0 0 39 [(0, vR 65), (1, vI x1)] [vI (bI (d 66 (120 + 2 * x1) = 1))] g (ud d 65 5 0) Q by
      refine mw_icmp_ne (tgt := 38) (pc' := 34) dX12_countsCourtDays_31 rfl (by decide) (fun c7 => ?_) (fun c7 => ?_)
      · refine mw_iconst (pc' := 39) dX12_countsCourtDays_38 rfl ⟨by decide, by decide⟩ ?_
        exact mw_st (bI_f (fun h => (c7 h))).symm k6
      · refine mw_iconst (pc' := 35) dX12_countsCourtDays_34 rfl ⟨by decide, by decide⟩ ?_
        refine mw_goto (pc' := 0) (tgt := 39) dX12_countsCourtDays_35 (by decide) ?_
        exact mw_st (bI_t c7).symm k6
    exact mw_iret (pc' := 0) (S := []) dX12_countsCourtDays_39 rfl (Or.inr (Or.inl ⟨rfl, bI_rng⟩)) h
theorem eX12_setServiceDays {x1 x2 : Int} {g : mG} {d : mD} {Q : mQ} (h : ((((iT (x1 = 112) 0 (iT (x1 = 101) 1 (iT (x1 = 109) 2 (iT (x1 = 97) 3 (-1)))) = (-1)) ∨ (¬ ((¬ (x2 < 0)) ∧ (¬ (30 < x2)))))) → Q (.inl 0) g (ud (ud d 65 5 0) 65 5 1)) ∧ ((¬ ((iT (x1 = 112) 0 (iT (x1 = 101) 1 (iT (x1 = 109) 2 (iT (x1 = 97) 3 (-1)))) = (-1)) ∨ (¬ ((¬ (x2 < 0)) ∧ (¬ (30 < x2)))))) → (0 ≤ d 65 3 ∧ d 65 3 ≤ 8) ∧ ((iI (135 + (iT (x1 = 112) 0 (iT (x1 = 101) 1 (iT (x1 = 109) 2 (iT (x1 = 97) 3 (-1))))))) ∧ ((0 ≤ 135 + (iT (x1 = 112) 0 (iT (x1 = 101) 1 (iT (x1 = 109) 2 (iT (x1 = 97) 3 (-1))))) ∧ 135 + (iT (x1 = 112) 0 (iT (x1 = 101) 1 (iT (x1 = 109) 2 (iT (x1 = 97) 3 (-1))))) < 787) ∧ (Q (.inl (d 66 (135 + (iT (x1 = 112) 0 (iT (x1 = 101) 1 (iT (x1 = 109) 2 (iT (x1 = 97) 3 (-1)))))))) g (ud (mChg (ud d 65 5 0)) 66 (135 + (iT (x1 = 112) 0 (iT (x1 = 101) 1 (iT (x1 = 109) 2 (iT (x1 = 97) 3 (-1)))))) x2)))))) : MM mX12_setServiceDays [vR 65, vI x1, vI x2] g d Q := by
  refine MM_of (by decide) rfl (by simp [catV]) (Nat.le_of_ble_eq_true rfl) ?_
  show MW mX12_setServiceDays 0 0 0 [(0, vR 65), (1, vI x1), (2, vI x2)] [] g d Q
  refine mw_top (fun hT => ?_)
  have hG : 76 ≤ g.2.1 := hT.2
  refine mw_aload_n (v := vR 65) (pc' := 1) dX12_setServiceDays_0 rfl rfl (Or.inl rfl) rfl ?_
  refine mw_iconst (pc' := 2) dX12_setServiceDays_1 rfl ⟨by decide, by decide⟩ ?_
  refine mw_putI (ji := 5) (pc' := 5) dX12_setServiceDays_2 rfl (fq_RX12_41_65) (by decide +kernel) rfl (Or.inl ⟨rfl, rc_65_5⟩) (Or.inr rfl) ⟨by decide, by omega⟩ ?_
  refine mw_aload_n (v := vR 65) (pc' := 6) dX12_setServiceDays_5 rfl rfl (Or.inl rfl) rfl ?_
  refine mw_iload_n (pc' := 7) dX12_setServiceDays_6 rfl rfl rfl ?_
  refine mw_callS (M' := mX12_wayOf) (A := [vI x1]) (S := [vR 65]) (pc' := 10) dX12_setServiceDays_7 rfl cl_RX12_122 cm_X12_wayOf cs_X12_wayOf ⟨by decide, by decide, by decide, by decide, by decide⟩ rfl rfl (Nat.le_of_ble_eq_true rfl) (eX12_wayOf ?_)
  show MW mX12_setServiceDays 0 0 10 [(0, vR 65), (1, vI x1), (2, vI x2)] [vI (iT (x1 = 112) 0 (iT (x1 = 101) 1 (iT (x1 = 109) 2 (iT (x1 = 97) 3 (-1))))), vR 65] g (ud d 65 5 0) Q
  refine mw_iconst (pc' := 11) dX12_setServiceDays_10 rfl ⟨by decide, by decide⟩ ?_
  suffices k1 : MW mX12_setServiceDays 0 0 29 [(0, vR 65), (1, vI x1), (2, vI x2)] [vI (bI ((iT (x1 = 112) 0 (iT (x1 = 101) 1 (iT (x1 = 109) 2 (iT (x1 = 97) 3 (-1)))) = (-1)) ∨ (¬ ((¬ (x2 < 0)) ∧ (¬ (30 < x2)))))), vR 65] g (ud d 65 5 0) Q by
    refine mw_icmp_eq (tgt := 24) (pc' := 14) dX12_setServiceDays_11 rfl (by decide) (fun c2 => ?_) (fun c2 => ?_)
    · refine mw_iconst (pc' := 25) dX12_setServiceDays_24 rfl ⟨by decide, by decide⟩ ?_
      refine mw_goto (pc' := 0) (tgt := 29) dX12_setServiceDays_25 (by decide) ?_
      exact mw_st (bI_t (Or.inl c2)).symm k1
    · refine mw_iload_n (pc' := 15) dX12_setServiceDays_14 rfl rfl rfl ?_
      refine mw_iconst (pc' := 16) dX12_setServiceDays_15 rfl ⟨by decide, by decide⟩ ?_
      refine mw_bipush (pc' := 18) dX12_setServiceDays_16 rfl ⟨by decide, by decide⟩ ?_
      refine mw_callS (M' := mX12_in) (A := [vI x2, vI 0, vI 30]) (S := [vR 65]) (pc' := 21) dX12_setServiceDays_18 rfl cl_RX12_64 cm_X12_in cs_X12_in ⟨by decide, by decide, by decide, by decide, by decide⟩ rfl rfl (Nat.le_of_ble_eq_true rfl) (eX12_in ?_)
      show MW mX12_setServiceDays 0 0 21 [(0, vR 65), (1, vI x1), (2, vI x2)] [vI (bI ((¬ (x2 < 0)) ∧ (¬ (30 < x2)))), vR 65] g (ud d 65 5 0) Q
      refine mw_if_ne (tgt := 28) (pc' := 24) dX12_setServiceDays_21 rfl (by decide) (fun c3 => ?_) (fun c3 => ?_)
      · replace c3 := bI_n0.mp c3
        refine mw_iconst (pc' := 29) dX12_setServiceDays_28 rfl ⟨by decide, by decide⟩ ?_
        exact mw_st (bI_f (fun h => h.elim (fun q => (c2 q)) (fun h => (h c3)))).symm k1
      · replace c3 := bI_0.mp c3
        refine mw_iconst (pc' := 25) dX12_setServiceDays_24 rfl ⟨by decide, by decide⟩ ?_
        refine mw_goto (pc' := 0) (tgt := 29) dX12_setServiceDays_25 (by decide) ?_
        exact mw_st (bI_t (Or.inr c3)).symm k1
  refine mw_iconst (pc' := 30) dX12_setServiceDays_29 rfl ⟨by decide, by decide⟩ ?_
  refine mw_callV (M' := mX12_fails) (A := [vI (bI ((iT (x1 = 112) 0 (iT (x1 = 101) 1 (iT (x1 = 109) 2 (iT (x1 = 97) 3 (-1)))) = (-1)) ∨ (¬ ((¬ (x2 < 0)) ∧ (¬ (30 < x2)))))), vI 1]) (A' := [vR 65, vI (bI ((iT (x1 = 112) 0 (iT (x1 = 101) 1 (iT (x1 = 109) 2 (iT (x1 = 97) 3 (-1)))) = (-1)) ∨ (¬ ((¬ (x2 < 0)) ∧ (¬ (30 < x2)))))), vI 1]) (S := []) (a := 65) (pc' := 33) dX12_setServiceDays_30 rfl cl_RX12_55 cm_X12_fails cv_X12_fails ⟨by decide, by decide, by decide, by decide, by decide⟩ rfl rfl rfl ⟨by decide, by omega⟩ (by decide +kernel) (by decide +kernel) (Nat.le_of_ble_eq_true rfl) (f_fails (udS) (by decide) ?_)
  refine ⟨fun c4 => ?_, fun c4 => ?_⟩
  · replace h := h.1 (show ((iT (x1 = 112) 0 (iT (x1 = 101) 1 (iT (x1 = 109) 2 (iT (x1 = 97) 3 (-1)))) = (-1)) ∨ (¬ ((¬ (x2 < 0)) ∧ (¬ (30 < x2))))) from c4)
    show MW mX12_setServiceDays 0 0 33 [(0, vR 65), (1, vI x1), (2, vI x2)] [vI 1] g (ud (ud d 65 5 0) 65 5 1) Q
    refine mw_if_eq (tgt := 38) (pc' := 36) dX12_setServiceDays_33 rfl (by decide) (fun q => absurd q (by decide)) (fun _ => ?_)
    refine mw_iconst (pc' := 37) dX12_setServiceDays_36 rfl ⟨by decide, by decide⟩ ?_
    exact mw_iret (pc' := 0) (S := []) dX12_setServiceDays_37 rfl (Or.inl rfl) h
  · replace h := h.2 (show ¬ ((iT (x1 = 112) 0 (iT (x1 = 101) 1 (iT (x1 = 109) 2 (iT (x1 = 97) 3 (-1)))) = (-1)) ∨ (¬ ((¬ (x2 < 0)) ∧ (¬ (30 < x2))))) from c4)
    show MW mX12_setServiceDays 0 0 33 [(0, vR 65), (1, vI x1), (2, vI x2)] [vI 0] g (ud d 65 5 0) Q
    refine mw_if_eq (tgt := 38) (pc' := 36) dX12_setServiceDays_33 rfl (by decide) (fun _ => ?_) (fun q => absurd q (by decide))
    refine mw_aload_n (v := vR 65) (pc' := 39) dX12_setServiceDays_38 rfl rfl (Or.inl rfl) rfl ?_
    obtain ⟨o5, h⟩ := h
    refine mw_callV (M' := mX12_change) (A := []) (A' := [vR 65]) (S := []) (a := 65) (pc' := 42) dX12_setServiceDays_39 rfl cl_RX12_93 cm_X12_change cv_X12_change ⟨by decide, by decide, by decide, by decide, by decide⟩ rfl rfl rfl ⟨by decide, by omega⟩ (by decide +kernel) (by decide +kernel) (Nat.le_of_ble_eq_true rfl) (f_change (⟨o5, ?_⟩))
    show MW mX12_setServiceDays 0 0 42 [(0, vR 65), (1, vI x1), (2, vI x2)] [] g (mChg (ud d 65 5 0)) Q
    refine mw_aload_n (v := vR 65) (pc' := 43) dX12_setServiceDays_42 rfl rfl (Or.inl rfl) rfl ?_
    refine mw_getP (v := 66) (pc' := 46) dX12_setServiceDays_43 rfl fr_RX12_9_65 rfl sp_65_0 ⟨by decide, by decide⟩ ?_
    refine mw_sipush (pc' := 49) dX12_setServiceDays_46 rfl ⟨by decide, by decide⟩ ?_
    refine mw_iload_n (pc' := 50) dX12_setServiceDays_49 rfl rfl rfl ?_
    refine mw_callS (M' := mX12_wayOf) (A := [vI x1]) (S := [vI 135, vR 66]) (pc' := 53) dX12_setServiceDays_50 rfl cl_RX12_122 cm_X12_wayOf cs_X12_wayOf ⟨by decide, by decide, by decide, by decide, by decide⟩ rfl rfl (Nat.le_of_ble_eq_true rfl) (eX12_wayOf ?_)
    show MW mX12_setServiceDays 0 0 53 [(0, vR 65), (1, vI x1), (2, vI x2)] [vI (iT (x1 = 112) 0 (iT (x1 = 101) 1 (iT (x1 = 109) 2 (iT (x1 = 97) 3 (-1))))), vI 135, vR 66] g (mChg (ud d 65 5 0)) Q
    obtain ⟨o6, h⟩ := h
    refine mw_iadd (pc' := 54) dX12_setServiceDays_53 rfl o6 ?_
    obtain ⟨o7, h⟩ := h
    refine mw_iald (pc' := 55) dX12_setServiceDays_54 rfl lk_66 ⟨by decide, by decide⟩ (by rw [ln_66]; exact o7) ?_
    refine mw_st (b := d 66 (135 + (iT (x1 = 112) 0 (iT (x1 = 101) 1 (iT (x1 = 109) 2 (iT (x1 = 97) 3 (-1))))))) (Eq.trans (mChg_fr (by omega)) (udA (by decide) (rfl))) ?_
    refine mw_istore_n (pc' := 56) (L' := [(0, vR 65), (1, vI x1), (2, vI x2), (3, vI (d 66 (135 + (iT (x1 = 112) 0 (iT (x1 = 101) 1 (iT (x1 = 109) 2 (iT (x1 = 97) 3 (-1))))))))]) dX12_setServiceDays_55 rfl rfl (by decide) rfl ?_
    refine mw_aload_n (v := vR 65) (pc' := 57) dX12_setServiceDays_56 rfl rfl (Or.inl rfl) rfl ?_
    refine mw_getP (v := 66) (pc' := 60) dX12_setServiceDays_57 rfl fr_RX12_9_65 rfl sp_65_0 ⟨by decide, by decide⟩ ?_
    refine mw_sipush (pc' := 63) dX12_setServiceDays_60 rfl ⟨by decide, by decide⟩ ?_
    refine mw_iload_n (pc' := 64) dX12_setServiceDays_63 rfl rfl rfl ?_
    refine mw_callS (M' := mX12_wayOf) (A := [vI x1]) (S := [vI 135, vR 66]) (pc' := 67) dX12_setServiceDays_64 rfl cl_RX12_122 cm_X12_wayOf cs_X12_wayOf ⟨by decide, by decide, by decide, by decide, by decide⟩ rfl rfl (Nat.le_of_ble_eq_true rfl) (eX12_wayOf ?_)
    show MW mX12_setServiceDays 0 0 67 [(0, vR 65), (1, vI x1), (2, vI x2), (3, vI (d 66 (135 + (iT (x1 = 112) 0 (iT (x1 = 101) 1 (iT (x1 = 109) 2 (iT (x1 = 97) 3 (-1))))))))] [vI (iT (x1 = 112) 0 (iT (x1 = 101) 1 (iT (x1 = 109) 2 (iT (x1 = 97) 3 (-1))))), vI 135, vR 66] g (mChg (ud d 65 5 0)) Q
    refine mw_iadd (pc' := 68) dX12_setServiceDays_67 rfl o6 ?_
    refine mw_iload_n (pc' := 69) dX12_setServiceDays_68 rfl rfl rfl ?_
    refine mw_iast (pc' := 70) dX12_setServiceDays_69 rfl lk_66 ⟨by decide, by decide⟩ (by rw [ln_66]; exact o7) ?_
    refine mw_iload_n (pc' := 71) dX12_setServiceDays_70 rfl rfl rfl ?_
    exact mw_iret (pc' := 0) (S := []) dX12_setServiceDays_71 rfl (Or.inl rfl) h
theorem eX12_serviceDays {x1 : Int} {g : mG} {d : mD} {Q : mQ} (h : (((iT (x1 = 112) 0 (iT (x1 = 101) 1 (iT (x1 = 109) 2 (iT (x1 = 97) 3 (-1)))) = (-1))) → Q (.inl 0) g (ud (ud d 65 5 0) 65 5 1)) ∧ ((¬ (iT (x1 = 112) 0 (iT (x1 = 101) 1 (iT (x1 = 109) 2 (iT (x1 = 97) 3 (-1)))) = (-1))) → (iI (135 + (iT (x1 = 112) 0 (iT (x1 = 101) 1 (iT (x1 = 109) 2 (iT (x1 = 97) 3 (-1))))))) ∧ ((0 ≤ 135 + (iT (x1 = 112) 0 (iT (x1 = 101) 1 (iT (x1 = 109) 2 (iT (x1 = 97) 3 (-1))))) ∧ 135 + (iT (x1 = 112) 0 (iT (x1 = 101) 1 (iT (x1 = 109) 2 (iT (x1 = 97) 3 (-1))))) < 787) ∧ (Q (.inl (d 66 (135 + (iT (x1 = 112) 0 (iT (x1 = 101) 1 (iT (x1 = 109) 2 (iT (x1 = 97) 3 (-1)))))))) g (ud d 65 5 0))))) : MM mX12_serviceDays [vR 65, vI x1] g d Q := by
  refine MM_of (by decide) rfl (by simp [catV]) (Nat.le_of_ble_eq_true rfl) ?_
  show MW mX12_serviceDays 0 0 0 [(0, vR 65), (1, vI x1)] [] g d Q
  refine mw_top (fun hT => ?_)
  have hG : 76 ≤ g.2.1 := hT.2
  refine mw_aload_n (v := vR 65) (pc' := 1) dX12_serviceDays_0 rfl rfl (Or.inl rfl) rfl ?_
  refine mw_iconst (pc' := 2) dX12_serviceDays_1 rfl ⟨by decide, by decide⟩ ?_
  refine mw_putI (ji := 5) (pc' := 5) dX12_serviceDays_2 rfl (fq_RX12_41_65) (by decide +kernel) rfl (Or.inl ⟨rfl, rc_65_5⟩) (Or.inr rfl) ⟨by decide, by omega⟩ ?_
  refine mw_aload_n (v := vR 65) (pc' := 6) dX12_serviceDays_5 rfl rfl (Or.inl rfl) rfl ?_
  refine mw_iload_n (pc' := 7) dX12_serviceDays_6 rfl rfl rfl ?_
  refine mw_callS (M' := mX12_wayOf) (A := [vI x1]) (S := [vR 65]) (pc' := 10) dX12_serviceDays_7 rfl cl_RX12_122 cm_X12_wayOf cs_X12_wayOf ⟨by decide, by decide, by decide, by decide, by decide⟩ rfl rfl (Nat.le_of_ble_eq_true rfl) (eX12_wayOf ?_)
  show MW mX12_serviceDays 0 0 10 [(0, vR 65), (1, vI x1)] [vI (iT (x1 = 112) 0 (iT (x1 = 101) 1 (iT (x1 = 109) 2 (iT (x1 = 97) 3 (-1))))), vR 65] g (ud d 65 5 0) Q
  refine mw_iconst (pc' := 11) dX12_serviceDays_10 rfl ⟨by decide, by decide⟩ ?_
  suffices k1 : MW mX12_serviceDays 0 0 19 [(0, vR 65), (1, vI x1)] [vI (bI (iT (x1 = 112) 0 (iT (x1 = 101) 1 (iT (x1 = 109) 2 (iT (x1 = 97) 3 (-1)))) = (-1))), vR 65] g (ud d 65 5 0) Q by
    refine mw_icmp_ne (tgt := 18) (pc' := 14) dX12_serviceDays_11 rfl (by decide) (fun c2 => ?_) (fun c2 => ?_)
    · refine mw_iconst (pc' := 19) dX12_serviceDays_18 rfl ⟨by decide, by decide⟩ ?_
      exact mw_st (bI_f (fun h => (c2 h))).symm k1
    · refine mw_iconst (pc' := 15) dX12_serviceDays_14 rfl ⟨by decide, by decide⟩ ?_
      refine mw_goto (pc' := 0) (tgt := 19) dX12_serviceDays_15 (by decide) ?_
      exact mw_st (bI_t c2).symm k1
  refine mw_iconst (pc' := 20) dX12_serviceDays_19 rfl ⟨by decide, by decide⟩ ?_
  refine mw_callV (M' := mX12_fails) (A := [vI (bI (iT (x1 = 112) 0 (iT (x1 = 101) 1 (iT (x1 = 109) 2 (iT (x1 = 97) 3 (-1)))) = (-1))), vI 1]) (A' := [vR 65, vI (bI (iT (x1 = 112) 0 (iT (x1 = 101) 1 (iT (x1 = 109) 2 (iT (x1 = 97) 3 (-1)))) = (-1))), vI 1]) (S := []) (a := 65) (pc' := 23) dX12_serviceDays_20 rfl cl_RX12_55 cm_X12_fails cv_X12_fails ⟨by decide, by decide, by decide, by decide, by decide⟩ rfl rfl rfl ⟨by decide, by omega⟩ (by decide +kernel) (by decide +kernel) (Nat.le_of_ble_eq_true rfl) (f_fails (udS) (by decide) ?_)
  refine ⟨fun c3 => ?_, fun c3 => ?_⟩
  · replace h := h.1 (show (iT (x1 = 112) 0 (iT (x1 = 101) 1 (iT (x1 = 109) 2 (iT (x1 = 97) 3 (-1)))) = (-1)) from c3)
    show MW mX12_serviceDays 0 0 23 [(0, vR 65), (1, vI x1)] [vI 1] g (ud (ud d 65 5 0) 65 5 1) Q
    refine mw_if_eq (tgt := 30) (pc' := 26) dX12_serviceDays_23 rfl (by decide) (fun q => absurd q (by decide)) (fun _ => ?_)
    refine mw_iconst (pc' := 27) dX12_serviceDays_26 rfl ⟨by decide, by decide⟩ ?_
    refine mw_goto (pc' := 0) (tgt := 43) dX12_serviceDays_27 (by decide) ?_
    exact mw_iret (pc' := 0) (S := []) dX12_serviceDays_43 rfl (Or.inl rfl) h
  · replace h := h.2 (show ¬ (iT (x1 = 112) 0 (iT (x1 = 101) 1 (iT (x1 = 109) 2 (iT (x1 = 97) 3 (-1)))) = (-1)) from c3)
    show MW mX12_serviceDays 0 0 23 [(0, vR 65), (1, vI x1)] [vI 0] g (ud d 65 5 0) Q
    refine mw_if_eq (tgt := 30) (pc' := 26) dX12_serviceDays_23 rfl (by decide) (fun _ => ?_) (fun q => absurd q (by decide))
    refine mw_aload_n (v := vR 65) (pc' := 31) dX12_serviceDays_30 rfl rfl (Or.inl rfl) rfl ?_
    refine mw_getP (v := 66) (pc' := 34) dX12_serviceDays_31 rfl fr_RX12_9_65 rfl sp_65_0 ⟨by decide, by decide⟩ ?_
    refine mw_sipush (pc' := 37) dX12_serviceDays_34 rfl ⟨by decide, by decide⟩ ?_
    refine mw_iload_n (pc' := 38) dX12_serviceDays_37 rfl rfl rfl ?_
    refine mw_callS (M' := mX12_wayOf) (A := [vI x1]) (S := [vI 135, vR 66]) (pc' := 41) dX12_serviceDays_38 rfl cl_RX12_122 cm_X12_wayOf cs_X12_wayOf ⟨by decide, by decide, by decide, by decide, by decide⟩ rfl rfl (Nat.le_of_ble_eq_true rfl) (eX12_wayOf ?_)
    show MW mX12_serviceDays 0 0 41 [(0, vR 65), (1, vI x1)] [vI (iT (x1 = 112) 0 (iT (x1 = 101) 1 (iT (x1 = 109) 2 (iT (x1 = 97) 3 (-1))))), vI 135, vR 66] g (ud d 65 5 0) Q
    obtain ⟨o4, h⟩ := h
    refine mw_iadd (pc' := 42) dX12_serviceDays_41 rfl o4 ?_
    obtain ⟨o5, h⟩ := h
    refine mw_iald (pc' := 43) dX12_serviceDays_42 rfl lk_66 ⟨by decide, by decide⟩ (by rw [ln_66]; exact o5) ?_
    refine mw_st (b := d 66 (135 + (iT (x1 = 112) 0 (iT (x1 = 101) 1 (iT (x1 = 109) 2 (iT (x1 = 97) 3 (-1))))))) (udA (by decide) (rfl)) ?_
    exact mw_iret (pc' := 0) (S := []) dX12_serviceDays_43 rfl (Or.inl rfl) h
def pX12_lastDayBefore_1 (x1 x2 x3 x4 x5 : Int) (g : mG) (d : mD) (Q : mQ) : Prop := MW mX12_lastDayBefore 0 0 78 [(0, vR 65), (1, vI x1), (2, vI x2), (3, vI x3), (4, vI x4), (5, vI x5)] [] g d Q
def pX12_lastDayBefore_2 (x1 x2 x3 x4 x5 : Int) (g : mG) (d : mD) (Q : mQ) : Prop := MW mX12_lastDayBefore 0 0 120 [(0, vR 65), (1, vI x1), (2, vI x2), (3, vI x3), (4, vI x4), (5, vI x5)] [] g d Q
theorem eX12_lastDayBefore {x1 x2 : Int} {g : mG} {d : mD} {Q : mQ} (h : (((¬ ((¬ (x1 < 0)) ∧ (¬ (7 < x1))))) → Q (.inl 0) g (ud (ud d 65 5 0) 65 5 1)) ∧ (((¬ (x1 < 0)) ∧ (¬ (7 < x1))) → (((¬ ((¬ (x2 < 0)) ∧ (¬ (4999 < x2))))) → Q (.inl 0) g (ud (ud d 65 5 0) 65 5 2)) ∧ (((¬ (x2 < 0)) ∧ (¬ (4999 < x2))) → (iI (2 * x1)) ∧ ((iI (119 + (2 * x1))) ∧ ((0 ≤ 119 + (2 * x1) ∧ 119 + (2 * x1) < 787) ∧ ((iI ((119 + (2 * x1)) + 1)) ∧ ((0 ≤ (119 + (2 * x1)) + 1 ∧ (119 + (2 * x1)) + 1 < 787) ∧ (pX12_lastDayBefore_1 x1 x2 (d 66 (119 + 2 * x1)) (bI (d 66 (120 + 2 * x1) = 1)) x2 g (ud d 65 5 0) Q)))))))) : MM mX12_lastDayBefore [vR 65, vI x1, vI x2] g d Q := by
  refine MM_of (by decide) rfl (by simp [catV]) (Nat.le_of_ble_eq_true rfl) ?_
  show MW mX12_lastDayBefore 0 0 0 [(0, vR 65), (1, vI x1), (2, vI x2)] [] g d Q
  refine mw_top (fun hT => ?_)
  have hG : 76 ≤ g.2.1 := hT.2
  refine mw_aload_n (v := vR 65) (pc' := 1) dX12_lastDayBefore_0 rfl rfl (Or.inl rfl) rfl ?_
  refine mw_iconst (pc' := 2) dX12_lastDayBefore_1 rfl ⟨by decide, by decide⟩ ?_
  refine mw_putI (ji := 5) (pc' := 5) dX12_lastDayBefore_2 rfl (fq_RX12_41_65) (by decide +kernel) rfl (Or.inl ⟨rfl, rc_65_5⟩) (Or.inr rfl) ⟨by decide, by omega⟩ ?_
  refine mw_aload_n (v := vR 65) (pc' := 6) dX12_lastDayBefore_5 rfl rfl (Or.inl rfl) rfl ?_
  refine mw_iload_n (pc' := 7) dX12_lastDayBefore_6 rfl rfl rfl ?_
  refine mw_callS (M' := mX12_noRule) (A := [vI x1]) (S := [vR 65]) (pc' := 10) dX12_lastDayBefore_7 rfl cl_RX12_119 cm_X12_noRule cs_X12_noRule ⟨by decide, by decide, by decide, by decide, by decide⟩ rfl rfl (Nat.le_of_ble_eq_true rfl) (eX12_noRule ?_)
  show MW mX12_lastDayBefore 0 0 10 [(0, vR 65), (1, vI x1), (2, vI x2)] [vI (bI (¬ ((¬ (x1 < 0)) ∧ (¬ (7 < x1))))), vR 65] g (ud d 65 5 0) Q
  refine mw_iconst (pc' := 11) dX12_lastDayBefore_10 rfl ⟨by decide, by decide⟩ ?_
  refine mw_callV (M' := mX12_fails) (A := [vI (bI (¬ ((¬ (x1 < 0)) ∧ (¬ (7 < x1))))), vI 1]) (A' := [vR 65, vI (bI (¬ ((¬ (x1 < 0)) ∧ (¬ (7 < x1))))), vI 1]) (S := []) (a := 65) (pc' := 14) dX12_lastDayBefore_11 rfl cl_RX12_55 cm_X12_fails cv_X12_fails ⟨by decide, by decide, by decide, by decide, by decide⟩ rfl rfl rfl ⟨by decide, by omega⟩ (by decide +kernel) (by decide +kernel) (Nat.le_of_ble_eq_true rfl) (f_fails (udS) (by decide) ?_)
  refine ⟨fun c1 => ?_, fun c1 => ?_⟩
  · replace h := h.1 (show (¬ ((¬ (x1 < 0)) ∧ (¬ (7 < x1)))) from c1)
    show MW mX12_lastDayBefore 0 0 14 [(0, vR 65), (1, vI x1), (2, vI x2)] [vI 1] g (ud (ud d 65 5 0) 65 5 1) Q
    refine mw_if_ne (tgt := 37) (pc' := 17) dX12_lastDayBefore_14 rfl (by decide) (fun _ => ?_) (fun q => absurd q (by decide))
    refine mw_iconst (pc' := 38) dX12_lastDayBefore_37 rfl ⟨by decide, by decide⟩ ?_
    exact mw_iret (pc' := 0) (S := []) dX12_lastDayBefore_38 rfl (Or.inl rfl) h
  · replace h := h.2 (show (¬ (x1 < 0)) ∧ (¬ (7 < x1)) from (Classical.not_not.mp c1))
    show MW mX12_lastDayBefore 0 0 14 [(0, vR 65), (1, vI x1), (2, vI x2)] [vI 0] g (ud d 65 5 0) Q
    refine mw_if_ne (tgt := 37) (pc' := 17) dX12_lastDayBefore_14 rfl (by decide) (fun q => absurd q (by decide)) (fun _ => ?_)
    refine mw_aload_n (v := vR 65) (pc' := 18) dX12_lastDayBefore_17 rfl rfl (Or.inl rfl) rfl ?_
    refine mw_iload_n (pc' := 19) dX12_lastDayBefore_18 rfl rfl rfl ?_
    refine mw_callS (M' := mX12_isDay) (A := [vI x2]) (S := [vR 65]) (pc' := 22) dX12_lastDayBefore_19 rfl cl_RX12_106 cm_X12_isDay cs_X12_isDay ⟨by decide, by decide, by decide, by decide, by decide⟩ rfl rfl (Nat.le_of_ble_eq_true rfl) (eX12_isDay ?_)
    show MW mX12_lastDayBefore 0 0 22 [(0, vR 65), (1, vI x1), (2, vI x2)] [vI (bI ((¬ (x2 < 0)) ∧ (¬ (4999 < x2)))), vR 65] g (ud d 65 5 0) Q
    suffices k2 : MW mX12_lastDayBefore 0 0 30 [(0, vR 65), (1, vI x1), (2, vI x2)] [vI (bI (¬ ((¬ (x2 < 0)) ∧ (¬ (4999 < x2))))), vR 65] g (ud d 65 5 0) Q by
      refine mw_if_ne (tgt := 29) (pc' := 25) dX12_lastDayBefore_22 rfl (by decide) (fun c3 => ?_) (fun c3 => ?_)
      · replace c3 := bI_n0.mp c3
        refine mw_iconst (pc' := 30) dX12_lastDayBefore_29 rfl ⟨by decide, by decide⟩ ?_
        exact mw_st (bI_f (fun h => (h c3))).symm k2
      · replace c3 := bI_0.mp c3
        refine mw_iconst (pc' := 26) dX12_lastDayBefore_25 rfl ⟨by decide, by decide⟩ ?_
        refine mw_goto (pc' := 0) (tgt := 30) dX12_lastDayBefore_26 (by decide) ?_
        exact mw_st (bI_t c3).symm k2
    refine mw_iconst (pc' := 31) dX12_lastDayBefore_30 rfl ⟨by decide, by decide⟩ ?_
    refine mw_callV (M' := mX12_fails) (A := [vI (bI (¬ ((¬ (x2 < 0)) ∧ (¬ (4999 < x2))))), vI 2]) (A' := [vR 65, vI (bI (¬ ((¬ (x2 < 0)) ∧ (¬ (4999 < x2))))), vI 2]) (S := []) (a := 65) (pc' := 34) dX12_lastDayBefore_31 rfl cl_RX12_55 cm_X12_fails cv_X12_fails ⟨by decide, by decide, by decide, by decide, by decide⟩ rfl rfl rfl ⟨by decide, by omega⟩ (by decide +kernel) (by decide +kernel) (Nat.le_of_ble_eq_true rfl) (f_fails (udS) (by decide) ?_)
    refine ⟨fun c4 => ?_, fun c4 => ?_⟩
    · replace h := h.1 (show (¬ ((¬ (x2 < 0)) ∧ (¬ (4999 < x2)))) from c4)
      show MW mX12_lastDayBefore 0 0 34 [(0, vR 65), (1, vI x1), (2, vI x2)] [vI 1] g (ud (ud d 65 5 0) 65 5 2) Q
      refine mw_if_eq (tgt := 39) (pc' := 37) dX12_lastDayBefore_34 rfl (by decide) (fun q => absurd q (by decide)) (fun _ => ?_)
      refine mw_iconst (pc' := 38) dX12_lastDayBefore_37 rfl ⟨by decide, by decide⟩ ?_
      exact mw_iret (pc' := 0) (S := []) dX12_lastDayBefore_38 rfl (Or.inl rfl) h
    · replace h := h.2 (show (¬ (x2 < 0)) ∧ (¬ (4999 < x2)) from (Classical.not_not.mp c4))
      show MW mX12_lastDayBefore 0 0 34 [(0, vR 65), (1, vI x1), (2, vI x2)] [vI 0] g (ud d 65 5 0) Q
      refine mw_if_eq (tgt := 39) (pc' := 37) dX12_lastDayBefore_34 rfl (by decide) (fun _ => ?_) (fun q => absurd q (by decide))
      refine mw_aload_n (v := vR 65) (pc' := 40) dX12_lastDayBefore_39 rfl rfl (Or.inl rfl) rfl ?_
      refine mw_getP (v := 66) (pc' := 43) dX12_lastDayBefore_40 rfl fr_RX12_9_65 rfl sp_65_0 ⟨by decide, by decide⟩ ?_
      refine mw_bipush (pc' := 45) dX12_lastDayBefore_43 rfl ⟨by decide, by decide⟩ ?_
      refine mw_iconst (pc' := 46) dX12_lastDayBefore_45 rfl ⟨by decide, by decide⟩ ?_
      refine mw_iload_n (pc' := 47) dX12_lastDayBefore_46 rfl rfl rfl ?_
      obtain ⟨o5, h⟩ := h
      refine mw_imul (pc' := 48) dX12_lastDayBefore_47 rfl o5 ?_
      obtain ⟨o6, h⟩ := h
      refine mw_iadd (pc' := 49) dX12_lastDayBefore_48 rfl o6 ?_
      obtain ⟨o7, h⟩ := h
      refine mw_iald (pc' := 50) dX12_lastDayBefore_49 rfl lk_66 ⟨by decide, by decide⟩ (by rw [ln_66]; exact o7) ?_
      refine mw_st (b := (ud d 65 5 0) 66 (119 + 2 * x1)) (congrArg ((ud d 65 5 0) 66) (by omega)) ?_
      refine mw_st (b := d 66 (119 + 2 * x1)) (udA (by decide) (rfl)) ?_
      refine mw_istore_n (pc' := 51) (L' := [(0, vR 65), (1, vI x1), (2, vI x2), (3, vI (d 66 (119 + 2 * x1)))]) dX12_lastDayBefore_50 rfl rfl (by decide) rfl ?_
      refine mw_aload_n (v := vR 65) (pc' := 52) dX12_lastDayBefore_51 rfl rfl (Or.inl rfl) rfl ?_
      refine mw_getP (v := 66) (pc' := 55) dX12_lastDayBefore_52 rfl fr_RX12_9_65 rfl sp_65_0 ⟨by decide, by decide⟩ ?_
      refine mw_bipush (pc' := 57) dX12_lastDayBefore_55 rfl ⟨by decide, by decide⟩ ?_
      refine mw_iconst (pc' := 58) dX12_lastDayBefore_57 rfl ⟨by decide, by decide⟩ ?_
      refine mw_iload_n (pc' := 59) dX12_lastDayBefore_58 rfl rfl rfl ?_
      refine mw_imul (pc' := 60) dX12_lastDayBefore_59 rfl o5 ?_
      refine mw_iadd (pc' := 61) dX12_lastDayBefore_60 rfl o6 ?_
      refine mw_iconst (pc' := 62) dX12_lastDayBefore_61 rfl ⟨by decide, by decide⟩ ?_
      obtain ⟨o10, h⟩ := h
      refine mw_iadd (pc' := 63) dX12_lastDayBefore_62 rfl o10 ?_
      obtain ⟨o11, h⟩ := h
      refine mw_iald (pc' := 64) dX12_lastDayBefore_63 rfl lk_66 ⟨by decide, by decide⟩ (by rw [ln_66]; exact o11) ?_
      refine mw_st (b := (ud d 65 5 0) 66 (120 + 2 * x1)) (congrArg ((ud d 65 5 0) 66) (by omega)) ?_
      refine mw_st (b := d 66 (120 + 2 * x1)) (udA (by decide) (rfl)) ?_
      refine mw_iconst (pc' := 65) dX12_lastDayBefore_64 rfl ⟨by decide, by decide⟩ ?_
      suffices k12 : MW mX12_lastDayBefore 0 0 73 [(0, vR 65), (1, vI x1), (2, vI x2), (3, vI (d 66 (119 + 2 * x1)))] [vI (bI (d 66 (120 + 2 * x1) = 1))] g (ud d 65 5 0) Q by
        refine mw_icmp_ne (tgt := 72) (pc' := 68) dX12_lastDayBefore_65 rfl (by decide) (fun c13 => ?_) (fun c13 => ?_)
        · refine mw_iconst (pc' := 73) dX12_lastDayBefore_72 rfl ⟨by decide, by decide⟩ ?_
          exact mw_st (bI_f (fun h => (c13 h))).symm k12
        · refine mw_iconst (pc' := 69) dX12_lastDayBefore_68 rfl ⟨by decide, by decide⟩ ?_
          refine mw_goto (pc' := 0) (tgt := 73) dX12_lastDayBefore_69 (by decide) ?_
          exact mw_st (bI_t c13).symm k12
      refine mw_istore (pc' := 75) (L' := [(0, vR 65), (1, vI x1), (2, vI x2), (3, vI (d 66 (119 + 2 * x1))), (4, vI (bI (d 66 (120 + 2 * x1) = 1)))]) dX12_lastDayBefore_73 rfl (by decide) rfl ?_
      refine mw_iload_n (pc' := 76) dX12_lastDayBefore_75 rfl rfl rfl ?_
      refine mw_istore (pc' := 78) (L' := [(0, vR 65), (1, vI x1), (2, vI x2), (3, vI (d 66 (119 + 2 * x1))), (4, vI (bI (d 66 (120 + 2 * x1) = 1))), (5, vI x2)]) dX12_lastDayBefore_76 rfl (by decide) rfl ?_
      exact h
theorem aX12_lastDayBefore_1 {x1 x2 x3 x4 x5 : Int} {g : mG} {d : mD} {Q : mQ} (h : (((¬ (x5 < 0)) ∧ (¬ (x3 ≤ 0))) → (iI (x5 + (-1))) ∧ (((¬ (x5 + (-1) < 0)) → (¬ (x4 = 0)) → RW (d 66)) ∧ (((¬ (x5 + (-1) < 0)) → (¬ (x4 = 0)) → 0 ≤ (x5 + (-1))) ∧ ((((¬ (x5 + (-1) < 0)) ∧ ((x4 = 0) ∨ (court (d 66) (x5 + (-1))))) → (iI (x3 - 1)) ∧ (pX12_lastDayBefore_1 x1 x2 (x3 - 1) x4 (x5 + (-1)) g d Q)) ∧ ((¬ ((¬ (x5 + (-1) < 0)) ∧ ((x4 = 0) ∨ (court (d 66) (x5 + (-1)))))) → (iI (x3 - 0)) ∧ (pX12_lastDayBefore_1 x1 x2 (x3 - 0) x4 (x5 + (-1)) g d Q)))))) ∧ ((¬ ((¬ (x5 < 0)) ∧ (¬ (x3 ≤ 0)))) → pX12_lastDayBefore_2 x1 x2 x3 x4 x5 g d Q)) : pX12_lastDayBefore_1 x1 x2 x3 x4 x5 g d Q := by
  unfold pX12_lastDayBefore_1
  refine mw_top (fun hT => ?_)
  have hG : 76 ≤ g.2.1 := hT.2
  refine mw_iload (pc' := 80) dX12_lastDayBefore_78 rfl rfl ?_
  suffices k14 : (((¬ (x5 < 0)) ∧ (¬ (x3 ≤ 0))) → MW mX12_lastDayBefore 0 0 87 [(0, vR 65), (1, vI x1), (2, vI x2), (3, vI x3), (4, vI x4), (5, vI x5)] [] g d Q) ∧ ((¬ ((¬ (x5 < 0)) ∧ (¬ (x3 ≤ 0)))) → MW mX12_lastDayBefore 0 0 120 [(0, vR 65), (1, vI x1), (2, vI x2), (3, vI x3), (4, vI x4), (5, vI x5)] [] g d Q) by
    refine mw_if_lt (tgt := 120) (pc' := 83) dX12_lastDayBefore_80 rfl (by decide) (fun c15 => ?_) (fun c15 => ?_)
    · exact k14.2 (fun h => (h.1 c15))
    · refine mw_iload_n (pc' := 84) dX12_lastDayBefore_83 rfl rfl rfl ?_
      refine mw_if_le (tgt := 120) (pc' := 87) dX12_lastDayBefore_84 rfl (by decide) (fun c16 => ?_) (fun c16 => ?_)
      · exact k14.2 (fun h => (fun h => (h c16)) h.2)
      · exact k14.1 ⟨c15, c16⟩
  refine ⟨fun c17 => ?_, fun c17 => ?_⟩
  · replace h := h.1 c17
    obtain ⟨o18, h⟩ := h
    refine mw_iinc (pc' := 90) (L' := [(0, vR 65), (1, vI x1), (2, vI x2), (3, vI x3), (4, vI x4), (5, vI (x5 + (-1)))]) dX12_lastDayBefore_87 rfl rfl (by decide) o18 rfl ?_
    refine mw_iload_n (pc' := 91) dX12_lastDayBefore_90 rfl rfl rfl ?_
    refine mw_iload (pc' := 93) dX12_lastDayBefore_91 rfl rfl ?_
    obtain ⟨o19, h⟩ := h
    obtain ⟨o20, h⟩ := h
    suffices k21 : (((¬ (x5 + (-1) < 0)) ∧ ((x4 = 0) ∨ (court (d 66) (x5 + (-1))))) → MW mX12_lastDayBefore 0 0 110 [(0, vR 65), (1, vI x1), (2, vI x2), (3, vI x3), (4, vI x4), (5, vI (x5 + (-1)))] [vI x3] g d Q) ∧ ((¬ ((¬ (x5 + (-1) < 0)) ∧ ((x4 = 0) ∨ (court (d 66) (x5 + (-1)))))) → MW mX12_lastDayBefore 0 0 114 [(0, vR 65), (1, vI x1), (2, vI x2), (3, vI x3), (4, vI x4), (5, vI (x5 + (-1)))] [vI x3] g d Q) by
      refine mw_if_lt (tgt := 114) (pc' := 96) dX12_lastDayBefore_93 rfl (by decide) (fun c22 => ?_) (fun c22 => ?_)
      · exact k21.2 (fun h => (h.1 c22))
      · refine mw_iload (pc' := 98) dX12_lastDayBefore_96 rfl rfl ?_
        refine mw_if_eq (tgt := 110) (pc' := 101) dX12_lastDayBefore_98 rfl (by decide) (fun c23 => ?_) (fun c23 => ?_)
        · exact k21.1 ⟨c22, (Or.inl c23)⟩
        · refine mw_aload_n (v := vR 65) (pc' := 102) dX12_lastDayBefore_101 rfl rfl (Or.inl rfl) rfl ?_
          refine mw_iload (pc' := 104) dX12_lastDayBefore_102 rfl rfl ?_
          refine mw_callV (M' := mX12_isCourt) (A := [vI (x5 + (-1))]) (A' := [vR 65, vI (x5 + (-1))]) (S := [vI x3]) (a := 65) (pc' := 107) dX12_lastDayBefore_104 rfl cl_RX12_112 cm_X12_isCourt cv_X12_isCourt ⟨by decide, by decide, by decide, by decide, by decide⟩ rfl rfl rfl ⟨by decide, by omega⟩ (by decide +kernel) (by decide +kernel) (Nat.le_of_ble_eq_true rfl) (f_isCourt (⟨(o19 c22 c23), (o20 c22 c23), ?_⟩))
          show MW mX12_lastDayBefore 0 0 107 [(0, vR 65), (1, vI x1), (2, vI x2), (3, vI x3), (4, vI x4), (5, vI (x5 + (-1)))] [vI (bI (court (d 66) (x5 + (-1)))), vI x3] g d Q
          refine mw_if_eq (tgt := 114) (pc' := 110) dX12_lastDayBefore_107 rfl (by decide) (fun c24 => ?_) (fun c24 => ?_)
          · replace c24 := bI_0.mp c24
            exact k21.2 (fun h => (fun h => h.elim (fun q => (c23 q)) (fun h => (c24 h))) h.2)
          · replace c24 := bI_n0.mp c24
            exact k21.1 ⟨c22, (Or.inr c24)⟩
    refine ⟨fun c25 => ?_, fun c25 => ?_⟩
    · replace h := h.1 c25
      refine mw_iconst (pc' := 111) dX12_lastDayBefore_110 rfl ⟨by decide, by decide⟩ ?_
      refine mw_goto (pc' := 0) (tgt := 115) dX12_lastDayBefore_111 (by decide) ?_
      obtain ⟨o26, h⟩ := h
      refine mw_isub (pc' := 116) dX12_lastDayBefore_115 rfl o26 ?_
      refine mw_istore_n (pc' := 117) (L' := [(0, vR 65), (1, vI x1), (2, vI x2), (3, vI (x3 - 1)), (4, vI x4), (5, vI (x5 + (-1)))]) dX12_lastDayBefore_116 rfl rfl (by decide) rfl ?_
      refine mw_goto (pc' := 0) (tgt := 78) dX12_lastDayBefore_117 (by decide) ?_
      exact h
    · replace h := h.2 c25
      refine mw_iconst (pc' := 115) dX12_lastDayBefore_114 rfl ⟨by decide, by decide⟩ ?_
      obtain ⟨o27, h⟩ := h
      refine mw_isub (pc' := 116) dX12_lastDayBefore_115 rfl o27 ?_
      refine mw_istore_n (pc' := 117) (L' := [(0, vR 65), (1, vI x1), (2, vI x2), (3, vI (x3 - 0)), (4, vI x4), (5, vI (x5 + (-1)))]) dX12_lastDayBefore_116 rfl rfl (by decide) rfl ?_
      refine mw_goto (pc' := 0) (tgt := 78) dX12_lastDayBefore_117 (by decide) ?_
      exact h
  · replace h := h.2 c17
    exact h
theorem aX12_lastDayBefore_2 {x1 x2 x3 x4 x5 : Int} {g : mG} {d : mD} {Q : mQ} (h : ((¬ (x5 < 0)) → RW (d 66)) ∧ (((¬ (x5 < 0)) → 0 ≤ x5) ∧ ((((¬ (x5 < 0)) ∧ (¬ (court (d 66) x5))) → (iI (x5 + (-1))) ∧ (pX12_lastDayBefore_2 x1 x2 x3 x4 (x5 + (-1)) g d Q)) ∧ ((¬ ((¬ (x5 < 0)) ∧ (¬ (court (d 66) x5)))) → MM mX12_fails [vR 65, vI (bI (¬ (0 ≤ x5))), vI 3] g d (fun o g39 d40 => match o with | .inl v38 => Q (.inl (iT (v38 = 0) x5 0)) g39 d40 | .inr k => Q (.inr k) g39 d40))))) : pX12_lastDayBefore_2 x1 x2 x3 x4 x5 g d Q := by
  unfold pX12_lastDayBefore_2
  refine mw_top (fun hT => ?_)
  have hG : 76 ≤ g.2.1 := hT.2
  refine mw_iload (pc' := 122) dX12_lastDayBefore_120 rfl rfl ?_
  obtain ⟨o28, h⟩ := h
  obtain ⟨o29, h⟩ := h
  suffices k30 : (((¬ (x5 < 0)) ∧ (¬ (court (d 66) x5))) → MW mX12_lastDayBefore 0 0 134 [(0, vR 65), (1, vI x1), (2, vI x2), (3, vI x3), (4, vI x4), (5, vI x5)] [] g d Q) ∧ ((¬ ((¬ (x5 < 0)) ∧ (¬ (court (d 66) x5)))) → MW mX12_lastDayBefore 0 0 140 [(0, vR 65), (1, vI x1), (2, vI x2), (3, vI x3), (4, vI x4), (5, vI x5)] [] g d Q) by
    refine mw_if_lt (tgt := 140) (pc' := 125) dX12_lastDayBefore_122 rfl (by decide) (fun c31 => ?_) (fun c31 => ?_)
    · exact k30.2 (fun h => (h.1 c31))
    · refine mw_aload_n (v := vR 65) (pc' := 126) dX12_lastDayBefore_125 rfl rfl (Or.inl rfl) rfl ?_
      refine mw_iload (pc' := 128) dX12_lastDayBefore_126 rfl rfl ?_
      refine mw_callV (M' := mX12_isCourt) (A := [vI x5]) (A' := [vR 65, vI x5]) (S := []) (a := 65) (pc' := 131) dX12_lastDayBefore_128 rfl cl_RX12_112 cm_X12_isCourt cv_X12_isCourt ⟨by decide, by decide, by decide, by decide, by decide⟩ rfl rfl rfl ⟨by decide, by omega⟩ (by decide +kernel) (by decide +kernel) (Nat.le_of_ble_eq_true rfl) (f_isCourt (⟨(o28 c31), (o29 c31), ?_⟩))
      show MW mX12_lastDayBefore 0 0 131 [(0, vR 65), (1, vI x1), (2, vI x2), (3, vI x3), (4, vI x4), (5, vI x5)] [vI (bI (court (d 66) x5))] g d Q
      refine mw_if_ne (tgt := 140) (pc' := 134) dX12_lastDayBefore_131 rfl (by decide) (fun c32 => ?_) (fun c32 => ?_)
      · replace c32 := bI_n0.mp c32
        exact k30.2 (fun h => (fun h => (h c32)) h.2)
      · replace c32 := bI_0.mp c32
        exact k30.1 ⟨c31, c32⟩
  refine ⟨fun c33 => ?_, fun c33 => ?_⟩
  · replace h := h.1 c33
    obtain ⟨o34, h⟩ := h
    refine mw_iinc (pc' := 137) (L' := [(0, vR 65), (1, vI x1), (2, vI x2), (3, vI x3), (4, vI x4), (5, vI (x5 + (-1)))]) dX12_lastDayBefore_134 rfl rfl (by decide) o34 rfl ?_
    refine mw_goto (pc' := 0) (tgt := 120) dX12_lastDayBefore_137 (by decide) ?_
    exact h
  · replace h := h.2 c33
    refine mw_aload_n (v := vR 65) (pc' := 141) dX12_lastDayBefore_140 rfl rfl (Or.inl rfl) rfl ?_
    refine mw_iload (pc' := 143) dX12_lastDayBefore_141 rfl rfl ?_
    suffices k35 : MW mX12_lastDayBefore 0 0 151 [(0, vR 65), (1, vI x1), (2, vI x2), (3, vI x3), (4, vI x4), (5, vI x5)] [vI (bI (¬ (0 ≤ x5))), vR 65] g d Q by
      refine mw_if_ge (tgt := 150) (pc' := 146) dX12_lastDayBefore_143 rfl (by decide) (fun c36 => ?_) (fun c36 => ?_)
      · refine mw_iconst (pc' := 151) dX12_lastDayBefore_150 rfl ⟨by decide, by decide⟩ ?_
        exact mw_st (bI_f (fun h => (h c36))).symm k35
      · refine mw_iconst (pc' := 147) dX12_lastDayBefore_146 rfl ⟨by decide, by decide⟩ ?_
        refine mw_goto (pc' := 0) (tgt := 151) dX12_lastDayBefore_147 (by decide) ?_
        exact mw_st (bI_t c36).symm k35
    refine mw_iconst (pc' := 152) dX12_lastDayBefore_151 rfl ⟨by decide, by decide⟩ ?_
    refine mw_callV (M' := mX12_fails) (A := [vI (bI (¬ (0 ≤ x5))), vI 3]) (A' := [vR 65, vI (bI (¬ (0 ≤ x5))), vI 3]) (S := []) (a := 65) (pc' := 155) dX12_lastDayBefore_152 rfl cl_RX12_55 cm_X12_fails cv_X12_fails ⟨by decide, by decide, by decide, by decide, by decide⟩ rfl rfl rfl ⟨by decide, by omega⟩ (by decide +kernel) (by decide +kernel) (Nat.le_of_ble_eq_true rfl) (MM.mono ?_ h)
    intro o g39 d40 h37
    rcases o with v38 | k
    · refine mw_top (fun hT => ?_)
      have hG : 76 ≤ g39.2.1 := hT.2
      show MW mX12_lastDayBefore 0 0 155 [(0, vR 65), (1, vI x1), (2, vI x2), (3, vI x3), (4, vI x4), (5, vI x5)] [vI v38] g39 d40 Q
      suffices k41 : MW mX12_lastDayBefore 0 0 164 [(0, vR 65), (1, vI x1), (2, vI x2), (3, vI x3), (4, vI x4), (5, vI x5)] [vI (iT (v38 = 0) x5 0)] g39 d40 Q by
        refine mw_if_eq (tgt := 162) (pc' := 158) dX12_lastDayBefore_155 rfl (by decide) (fun c42 => ?_) (fun c42 => ?_)
        · refine mw_iload (pc' := 164) dX12_lastDayBefore_162 rfl rfl ?_
          exact mw_st (((iT_t c42).trans rfl)).symm k41
        · refine mw_iconst (pc' := 159) dX12_lastDayBefore_158 rfl ⟨by decide, by decide⟩ ?_
          refine mw_goto (pc' := 0) (tgt := 164) dX12_lastDayBefore_159 (by decide) ?_
          exact mw_st (((iT_f c42).trans rfl)).symm k41
      exact mw_iret (pc' := 0) (S := []) dX12_lastDayBefore_164 rfl (Or.inl rfl) h37
    · exact mx_out rfl h37
theorem eX12_lastDayBeforeByMarking {x1 x2 : Int} {g : mG} {d : mD} {Q : mQ} (h : MM mX12_lastDayBefore [vR 65, vI x1, vI x2] g d (fun o g3 d4 => match o with | .inl v2 => Q (.inl v2) g3 d4 | .inr k => Q (.inr k) g3 d4)) : MM mX12_lastDayBeforeByMarking [vR 65, vI x1, vI x2] g d Q := by
  refine MM_of (by decide) rfl (by simp [catV]) (Nat.le_of_ble_eq_true rfl) ?_
  show MW mX12_lastDayBeforeByMarking 0 0 0 [(0, vR 65), (1, vI x1), (2, vI x2)] [] g d Q
  refine mw_top (fun hT => ?_)
  have hG : 76 ≤ g.2.1 := hT.2
  refine mw_aload_n (v := vR 65) (pc' := 1) dX12_lastDayBeforeByMarking_0 rfl rfl (Or.inl rfl) rfl ?_
  refine mw_iload_n (pc' := 2) dX12_lastDayBeforeByMarking_1 rfl rfl rfl ?_
  refine mw_iload_n (pc' := 3) dX12_lastDayBeforeByMarking_2 rfl rfl rfl ?_
  refine mw_callV (M' := mX12_lastDayBefore) (A := [vI x1, vI x2]) (A' := [vR 65, vI x1, vI x2]) (S := []) (a := 65) (pc' := 6) dX12_lastDayBeforeByMarking_3 rfl cl_RX12_125 cm_X12_lastDayBefore cv_X12_lastDayBefore ⟨by decide, by decide, by decide, by decide, by decide⟩ rfl rfl rfl ⟨by decide, by omega⟩ (by decide +kernel) (by decide +kernel) (Nat.le_of_ble_eq_true rfl) (MM.mono ?_ h)
  intro o g3 d4 h1
  rcases o with v2 | k
  · refine mw_top (fun hT => ?_)
    have hG : 76 ≤ g3.2.1 := hT.2
    show MW mX12_lastDayBeforeByMarking 0 0 6 [(0, vR 65), (1, vI x1), (2, vI x2)] [vI v2] g3 d4 Q
    exact mw_iret (pc' := 0) (S := []) dX12_lastDayBeforeByMarking_6 rfl (Or.inl rfl) h1
  · exact mx_out rfl h1
def pX12_serve_1 (x1 x2 x3 x4 x5 : Int) (g : mG) (d : mD) (Q : mQ) : Prop := MW mX12_serve 0 0 98 [(0, vR 65), (1, vI x1), (2, vI x2), (3, vI x3), (4, vI x4), (5, vI x5)] [] g d Q
theorem eX12_serve {x1 x2 x3 : Int} {g : mG} {d : mD} {Q : mQ} (h : (iI ((d 66 1) - 1)) ∧ (((((¬ ((¬ (x1 < 0)) ∧ (¬ (((d 66 1) - 1) < x1)))) ∨ (¬ ((¬ (x2 < 0)) ∧ (¬ (7 < x2)))))) → Q (.inl 0) g (ud (ud d 65 5 0) 65 5 1)) ∧ ((¬ ((¬ ((¬ (x1 < 0)) ∧ (¬ (((d 66 1) - 1) < x1)))) ∨ (¬ ((¬ (x2 < 0)) ∧ (¬ (7 < x2)))))) → (((iT (x3 = 112) 0 (iT (x3 = 101) 1 (iT (x3 = 109) 2 (iT (x3 = 97) 3 (-1)))) = (-1))) → Q (.inl 0) g (ud (ud d 65 5 0) 65 5 2)) ∧ ((¬ (iT (x3 = 112) 0 (iT (x3 = 101) 1 (iT (x3 = 109) 2 (iT (x3 = 97) 3 (-1)))) = (-1))) → (((d 66 3 = 30)) → Q (.inl 0) g (ud (ud d 65 5 0) 65 5 3)) ∧ ((¬ (d 66 3 = 30)) → (0 ≤ d 65 3 ∧ d 65 3 ≤ 8) ∧ ((iI (16 * (d 66 3))) ∧ ((iI (139 + (16 * (d 66 3)))) ∧ (pX12_serve_1 x1 x2 x3 (139 + (16 * (d 66 3))) 0 g (mChg (ud d 65 5 0)) Q)))))))) : MM mX12_serve [vR 65, vI x1, vI x2, vI x3] g d Q := by
  refine MM_of (by decide) rfl (by simp [catV]) (Nat.le_of_ble_eq_true rfl) ?_
  show MW mX12_serve 0 0 0 [(0, vR 65), (1, vI x1), (2, vI x2), (3, vI x3)] [] g d Q
  refine mw_top (fun hT => ?_)
  have hG : 76 ≤ g.2.1 := hT.2
  refine mw_aload_n (v := vR 65) (pc' := 1) dX12_serve_0 rfl rfl (Or.inl rfl) rfl ?_
  refine mw_iconst (pc' := 2) dX12_serve_1 rfl ⟨by decide, by decide⟩ ?_
  refine mw_putI (ji := 5) (pc' := 5) dX12_serve_2 rfl (fq_RX12_41_65) (by decide +kernel) rfl (Or.inl ⟨rfl, rc_65_5⟩) (Or.inr rfl) ⟨by decide, by omega⟩ ?_
  refine mw_aload_n (v := vR 65) (pc' := 6) dX12_serve_5 rfl rfl (Or.inl rfl) rfl ?_
  refine mw_aload_n (v := vR 65) (pc' := 7) dX12_serve_6 rfl rfl (Or.inl rfl) rfl ?_
  refine mw_iload_n (pc' := 8) dX12_serve_7 rfl rfl rfl ?_
  obtain ⟨o1, h⟩ := h
  refine mw_callV (M' := mX12_noParty) (A := [vI x1]) (A' := [vR 65, vI x1]) (S := [vR 65]) (a := 65) (pc' := 11) dX12_serve_8 rfl cl_RX12_96 cm_X12_noParty cv_X12_noParty ⟨by decide, by decide, by decide, by decide, by decide⟩ rfl rfl rfl ⟨by decide, by omega⟩ (by decide +kernel) (by decide +kernel) (Nat.le_of_ble_eq_true rfl) (eX12_noParty (⟨o1, ?_⟩))
  show MW mX12_serve 0 0 11 [(0, vR 65), (1, vI x1), (2, vI x2), (3, vI x3)] [vI (bI (¬ ((¬ (x1 < 0)) ∧ (¬ (((d 66 1) - 1) < x1))))), vR 65] g (ud d 65 5 0) Q
  suffices k2 : MW mX12_serve 0 0 26 [(0, vR 65), (1, vI x1), (2, vI x2), (3, vI x3)] [vI (bI ((¬ ((¬ (x1 < 0)) ∧ (¬ (((d 66 1) - 1) < x1)))) ∨ (¬ ((¬ (x2 < 0)) ∧ (¬ (7 < x2)))))), vR 65] g (ud d 65 5 0) Q by
    refine mw_if_ne (tgt := 21) (pc' := 14) dX12_serve_11 rfl (by decide) (fun c3 => ?_) (fun c3 => ?_)
    · replace c3 := bI_n0.mp c3
      refine mw_iconst (pc' := 22) dX12_serve_21 rfl ⟨by decide, by decide⟩ ?_
      refine mw_goto (pc' := 0) (tgt := 26) dX12_serve_22 (by decide) ?_
      exact mw_st (bI_t (Or.inl c3)).symm k2
    · replace c3 := bI_0.mp c3
      replace c3 := (Classical.not_not.mp c3)
      refine mw_iload_n (pc' := 15) dX12_serve_14 rfl rfl rfl ?_
      refine mw_callS (M' := mX12_noRule) (A := [vI x2]) (S := [vR 65]) (pc' := 18) dX12_serve_15 rfl cl_RX12_119 cm_X12_noRule cs_X12_noRule ⟨by decide, by decide, by decide, by decide, by decide⟩ rfl rfl (Nat.le_of_ble_eq_true rfl) (eX12_noRule ?_)
      show MW mX12_serve 0 0 18 [(0, vR 65), (1, vI x1), (2, vI x2), (3, vI x3)] [vI (bI (¬ ((¬ (x2 < 0)) ∧ (¬ (7 < x2))))), vR 65] g (ud d 65 5 0) Q
      refine mw_if_eq (tgt := 25) (pc' := 21) dX12_serve_18 rfl (by decide) (fun c4 => ?_) (fun c4 => ?_)
      · replace c4 := bI_0.mp c4
        replace c4 := (Classical.not_not.mp c4)
        refine mw_iconst (pc' := 26) dX12_serve_25 rfl ⟨by decide, by decide⟩ ?_
        exact mw_st (bI_f (fun h => h.elim (fun q => (q c3)) (fun h => (h c4)))).symm k2
      · replace c4 := bI_n0.mp c4
        refine mw_iconst (pc' := 22) dX12_serve_21 rfl ⟨by decide, by decide⟩ ?_
        refine mw_goto (pc' := 0) (tgt := 26) dX12_serve_22 (by decide) ?_
        exact mw_st (bI_t (Or.inr c4)).symm k2
  refine mw_iconst (pc' := 27) dX12_serve_26 rfl ⟨by decide, by decide⟩ ?_
  refine mw_callV (M' := mX12_fails) (A := [vI (bI ((¬ ((¬ (x1 < 0)) ∧ (¬ (((d 66 1) - 1) < x1)))) ∨ (¬ ((¬ (x2 < 0)) ∧ (¬ (7 < x2)))))), vI 1]) (A' := [vR 65, vI (bI ((¬ ((¬ (x1 < 0)) ∧ (¬ (((d 66 1) - 1) < x1)))) ∨ (¬ ((¬ (x2 < 0)) ∧ (¬ (7 < x2)))))), vI 1]) (S := []) (a := 65) (pc' := 30) dX12_serve_27 rfl cl_RX12_55 cm_X12_fails cv_X12_fails ⟨by decide, by decide, by decide, by decide, by decide⟩ rfl rfl rfl ⟨by decide, by omega⟩ (by decide +kernel) (by decide +kernel) (Nat.le_of_ble_eq_true rfl) (f_fails (udS) (by decide) ?_)
  refine ⟨fun c5 => ?_, fun c5 => ?_⟩
  · replace h := h.1 (show ((¬ ((¬ (x1 < 0)) ∧ (¬ (((d 66 1) - 1) < x1)))) ∨ (¬ ((¬ (x2 < 0)) ∧ (¬ (7 < x2))))) from c5)
    show MW mX12_serve 0 0 30 [(0, vR 65), (1, vI x1), (2, vI x2), (3, vI x3)] [vI 1] g (ud (ud d 65 5 0) 65 5 1) Q
    refine mw_if_ne (tgt := 78) (pc' := 33) dX12_serve_30 rfl (by decide) (fun _ => ?_) (fun q => absurd q (by decide))
    refine mw_iconst (pc' := 79) dX12_serve_78 rfl ⟨by decide, by decide⟩ ?_
    exact mw_iret (pc' := 0) (S := []) dX12_serve_79 rfl (Or.inl rfl) h
  · replace h := h.2 (show ¬ ((¬ ((¬ (x1 < 0)) ∧ (¬ (((d 66 1) - 1) < x1)))) ∨ (¬ ((¬ (x2 < 0)) ∧ (¬ (7 < x2))))) from c5)
    show MW mX12_serve 0 0 30 [(0, vR 65), (1, vI x1), (2, vI x2), (3, vI x3)] [vI 0] g (ud d 65 5 0) Q
    refine mw_if_ne (tgt := 78) (pc' := 33) dX12_serve_30 rfl (by decide) (fun q => absurd q (by decide)) (fun _ => ?_)
    refine mw_aload_n (v := vR 65) (pc' := 34) dX12_serve_33 rfl rfl (Or.inl rfl) rfl ?_
    refine mw_iload_n (pc' := 35) dX12_serve_34 rfl rfl rfl ?_
    refine mw_callS (M' := mX12_wayOf) (A := [vI x3]) (S := [vR 65]) (pc' := 38) dX12_serve_35 rfl cl_RX12_122 cm_X12_wayOf cs_X12_wayOf ⟨by decide, by decide, by decide, by decide, by decide⟩ rfl rfl (Nat.le_of_ble_eq_true rfl) (eX12_wayOf ?_)
    show MW mX12_serve 0 0 38 [(0, vR 65), (1, vI x1), (2, vI x2), (3, vI x3)] [vI (iT (x3 = 112) 0 (iT (x3 = 101) 1 (iT (x3 = 109) 2 (iT (x3 = 97) 3 (-1))))), vR 65] g (ud d 65 5 0) Q
    refine mw_iconst (pc' := 39) dX12_serve_38 rfl ⟨by decide, by decide⟩ ?_
    suffices k6 : MW mX12_serve 0 0 47 [(0, vR 65), (1, vI x1), (2, vI x2), (3, vI x3)] [vI (bI (iT (x3 = 112) 0 (iT (x3 = 101) 1 (iT (x3 = 109) 2 (iT (x3 = 97) 3 (-1)))) = (-1))), vR 65] g (ud d 65 5 0) Q by
      refine mw_icmp_ne (tgt := 46) (pc' := 42) dX12_serve_39 rfl (by decide) (fun c7 => ?_) (fun c7 => ?_)
      · refine mw_iconst (pc' := 47) dX12_serve_46 rfl ⟨by decide, by decide⟩ ?_
        exact mw_st (bI_f (fun h => (c7 h))).symm k6
      · refine mw_iconst (pc' := 43) dX12_serve_42 rfl ⟨by decide, by decide⟩ ?_
        refine mw_goto (pc' := 0) (tgt := 47) dX12_serve_43 (by decide) ?_
        exact mw_st (bI_t c7).symm k6
    refine mw_iconst (pc' := 48) dX12_serve_47 rfl ⟨by decide, by decide⟩ ?_
    refine mw_callV (M' := mX12_fails) (A := [vI (bI (iT (x3 = 112) 0 (iT (x3 = 101) 1 (iT (x3 = 109) 2 (iT (x3 = 97) 3 (-1)))) = (-1))), vI 2]) (A' := [vR 65, vI (bI (iT (x3 = 112) 0 (iT (x3 = 101) 1 (iT (x3 = 109) 2 (iT (x3 = 97) 3 (-1)))) = (-1))), vI 2]) (S := []) (a := 65) (pc' := 51) dX12_serve_48 rfl cl_RX12_55 cm_X12_fails cv_X12_fails ⟨by decide, by decide, by decide, by decide, by decide⟩ rfl rfl rfl ⟨by decide, by omega⟩ (by decide +kernel) (by decide +kernel) (Nat.le_of_ble_eq_true rfl) (f_fails (udS) (by decide) ?_)
    refine ⟨fun c8 => ?_, fun c8 => ?_⟩
    · replace h := h.1 (show (iT (x3 = 112) 0 (iT (x3 = 101) 1 (iT (x3 = 109) 2 (iT (x3 = 97) 3 (-1)))) = (-1)) from c8)
      show MW mX12_serve 0 0 51 [(0, vR 65), (1, vI x1), (2, vI x2), (3, vI x3)] [vI 1] g (ud (ud d 65 5 0) 65 5 2) Q
      refine mw_if_ne (tgt := 78) (pc' := 54) dX12_serve_51 rfl (by decide) (fun _ => ?_) (fun q => absurd q (by decide))
      refine mw_iconst (pc' := 79) dX12_serve_78 rfl ⟨by decide, by decide⟩ ?_
      exact mw_iret (pc' := 0) (S := []) dX12_serve_79 rfl (Or.inl rfl) h
    · replace h := h.2 (show ¬ (iT (x3 = 112) 0 (iT (x3 = 101) 1 (iT (x3 = 109) 2 (iT (x3 = 97) 3 (-1)))) = (-1)) from c8)
      show MW mX12_serve 0 0 51 [(0, vR 65), (1, vI x1), (2, vI x2), (3, vI x3)] [vI 0] g (ud d 65 5 0) Q
      refine mw_if_ne (tgt := 78) (pc' := 54) dX12_serve_51 rfl (by decide) (fun q => absurd q (by decide)) (fun _ => ?_)
      refine mw_aload_n (v := vR 65) (pc' := 55) dX12_serve_54 rfl rfl (Or.inl rfl) rfl ?_
      refine mw_aload_n (v := vR 65) (pc' := 56) dX12_serve_55 rfl rfl (Or.inl rfl) rfl ?_
      refine mw_getP (v := 66) (pc' := 59) dX12_serve_56 rfl fr_RX12_9_65 rfl sp_65_0 ⟨by decide, by decide⟩ ?_
      refine mw_iconst (pc' := 60) dX12_serve_59 rfl ⟨by decide, by decide⟩ ?_
      refine mw_iald (pc' := 61) dX12_serve_60 rfl lk_66 ⟨by decide, by decide⟩ (by rw [ln_66]; exact ⟨by decide, by decide⟩) ?_
      refine mw_st (b := d 66 3) (udA (by decide) (rfl)) ?_
      refine mw_bipush (pc' := 63) dX12_serve_61 rfl ⟨by decide, by decide⟩ ?_
      suffices k9 : MW mX12_serve 0 0 71 [(0, vR 65), (1, vI x1), (2, vI x2), (3, vI x3)] [vI (bI (d 66 3 = 30)), vR 65] g (ud d 65 5 0) Q by
        refine mw_icmp_ne (tgt := 70) (pc' := 66) dX12_serve_63 rfl (by decide) (fun c10 => ?_) (fun c10 => ?_)
        · refine mw_iconst (pc' := 71) dX12_serve_70 rfl ⟨by decide, by decide⟩ ?_
          exact mw_st (bI_f (fun h => (c10 h))).symm k9
        · refine mw_iconst (pc' := 67) dX12_serve_66 rfl ⟨by decide, by decide⟩ ?_
          refine mw_goto (pc' := 0) (tgt := 71) dX12_serve_67 (by decide) ?_
          exact mw_st (bI_t c10).symm k9
      refine mw_iconst (pc' := 72) dX12_serve_71 rfl ⟨by decide, by decide⟩ ?_
      refine mw_callV (M' := mX12_fails) (A := [vI (bI (d 66 3 = 30)), vI 3]) (A' := [vR 65, vI (bI (d 66 3 = 30)), vI 3]) (S := []) (a := 65) (pc' := 75) dX12_serve_72 rfl cl_RX12_55 cm_X12_fails cv_X12_fails ⟨by decide, by decide, by decide, by decide, by decide⟩ rfl rfl rfl ⟨by decide, by omega⟩ (by decide +kernel) (by decide +kernel) (Nat.le_of_ble_eq_true rfl) (f_fails (udS) (by decide) ?_)
      refine ⟨fun c11 => ?_, fun c11 => ?_⟩
      · replace h := h.1 (show (d 66 3 = 30) from c11)
        show MW mX12_serve 0 0 75 [(0, vR 65), (1, vI x1), (2, vI x2), (3, vI x3)] [vI 1] g (ud (ud d 65 5 0) 65 5 3) Q
        refine mw_if_eq (tgt := 80) (pc' := 78) dX12_serve_75 rfl (by decide) (fun q => absurd q (by decide)) (fun _ => ?_)
        refine mw_iconst (pc' := 79) dX12_serve_78 rfl ⟨by decide, by decide⟩ ?_
        exact mw_iret (pc' := 0) (S := []) dX12_serve_79 rfl (Or.inl rfl) h
      · replace h := h.2 (show ¬ (d 66 3 = 30) from c11)
        show MW mX12_serve 0 0 75 [(0, vR 65), (1, vI x1), (2, vI x2), (3, vI x3)] [vI 0] g (ud d 65 5 0) Q
        refine mw_if_eq (tgt := 80) (pc' := 78) dX12_serve_75 rfl (by decide) (fun _ => ?_) (fun q => absurd q (by decide))
        refine mw_aload_n (v := vR 65) (pc' := 81) dX12_serve_80 rfl rfl (Or.inl rfl) rfl ?_
        obtain ⟨o12, h⟩ := h
        refine mw_callV (M' := mX12_change) (A := []) (A' := [vR 65]) (S := []) (a := 65) (pc' := 84) dX12_serve_81 rfl cl_RX12_93 cm_X12_change cv_X12_change ⟨by decide, by decide, by decide, by decide, by decide⟩ rfl rfl rfl ⟨by decide, by omega⟩ (by decide +kernel) (by decide +kernel) (Nat.le_of_ble_eq_true rfl) (f_change (⟨o12, ?_⟩))
        show MW mX12_serve 0 0 84 [(0, vR 65), (1, vI x1), (2, vI x2), (3, vI x3)] [] g (mChg (ud d 65 5 0)) Q
        refine mw_aload_n (v := vR 65) (pc' := 85) dX12_serve_84 rfl rfl (Or.inl rfl) rfl ?_
        refine mw_getP (v := 66) (pc' := 88) dX12_serve_85 rfl fr_RX12_9_65 rfl sp_65_0 ⟨by decide, by decide⟩ ?_
        refine mw_iconst (pc' := 89) dX12_serve_88 rfl ⟨by decide, by decide⟩ ?_
        refine mw_iald (pc' := 90) dX12_serve_89 rfl lk_66 ⟨by decide, by decide⟩ (by rw [ln_66]; exact ⟨by decide, by decide⟩) ?_
        refine mw_st (b := d 66 3) (Eq.trans (mChg_fr (by omega)) (udA (by decide) (rfl))) ?_
        obtain ⟨o13, h⟩ := h
        obtain ⟨o14, h⟩ := h
        refine mw_callS (M' := mX12_deadlineAt) (A := [vI (d 66 3)]) (S := []) (pc' := 93) dX12_serve_90 rfl cl_RX12_128 cm_X12_deadlineAt cs_X12_deadlineAt ⟨by decide, by decide, by decide, by decide, by decide⟩ rfl rfl (Nat.le_of_ble_eq_true rfl) (eX12_deadlineAt (⟨o13, o14, ?_⟩))
        show MW mX12_serve 0 0 93 [(0, vR 65), (1, vI x1), (2, vI x2), (3, vI x3)] [vI (139 + (16 * (d 66 3)))] g (mChg (ud d 65 5 0)) Q
        refine mw_istore (pc' := 95) (L' := [(0, vR 65), (1, vI x1), (2, vI x2), (3, vI x3), (4, vI (139 + (16 * (d 66 3))))]) dX12_serve_93 rfl (by decide) rfl ?_
        refine mw_iconst (pc' := 96) dX12_serve_95 rfl ⟨by decide, by decide⟩ ?_
        refine mw_istore (pc' := 98) (L' := [(0, vR 65), (1, vI x1), (2, vI x2), (3, vI x3), (4, vI (139 + (16 * (d 66 3)))), (5, vI 0)]) dX12_serve_96 rfl (by decide) rfl ?_
        exact h
theorem aX12_serve_1 {x1 x2 x3 x4 x5 : Int} {g : mG} {d : mD} {Q : mQ} (h : ((16 ≤ x5) → (iI (x4 + 0)) ∧ ((0 ≤ x4 + 0 ∧ x4 + 0 < 787) ∧ ((iI (x4 + 1)) ∧ ((0 ≤ x4 + 1 ∧ x4 + 1 < 787) ∧ ((iI (x4 + 2)) ∧ ((¬ (0 = 1 + x4)) ∧ ((¬ (0 = x4)) ∧ ((0 ≤ x4 + 2 ∧ x4 + 2 < 787) ∧ ((iI (x4 + 3)) ∧ ((iI (2 * x2)) ∧ ((iI (119 + (2 * x2))) ∧ ((0 ≤ 119 + (2 * x2) ∧ 119 + (2 * x2) < 787) ∧ ((¬ (119 + 2 * x2 = 2 + x4)) ∧ ((¬ (119 + 2 * x2 = 1 + x4)) ∧ ((¬ (119 + 2 * x2 = x4)) ∧ ((0 ≤ x4 + 3 ∧ x4 + 3 < 787) ∧ ((iI (x4 + 4)) ∧ ((iI ((119 + (2 * x2)) + 1)) ∧ ((0 ≤ (119 + (2 * x2)) + 1 ∧ (119 + (2 * x2)) + 1 < 787) ∧ ((¬ (120 + 2 * x2 = 3 + x4)) ∧ ((¬ (120 + 2 * x2 = 2 + x4)) ∧ ((¬ (120 + 2 * x2 = 1 + x4)) ∧ ((¬ (120 + 2 * x2 = x4)) ∧ ((0 ≤ x4 + 4 ∧ x4 + 4 < 787) ∧ ((iI (x4 + 5)) ∧ ((iI (135 + (iT (x3 = 112) 0 (iT (x3 = 101) 1 (iT (x3 = 109) 2 (iT (x3 = 97) 3 (-1))))))) ∧ ((0 ≤ 135 + (iT (x3 = 112) 0 (iT (x3 = 101) 1 (iT (x3 = 109) 2 (iT (x3 = 97) 3 (-1))))) ∧ 135 + (iT (x3 = 112) 0 (iT (x3 = 101) 1 (iT (x3 = 109) 2 (iT (x3 = 97) 3 (-1))))) < 787) ∧ ((¬ (135 + (iT (x3 = 112) 0 (iT (x3 = 101) 1 (iT (x3 = 109) 2 (iT (x3 = 97) 3 (-1))))) = 4 + x4)) ∧ ((¬ (135 + (iT (x3 = 112) 0 (iT (x3 = 101) 1 (iT (x3 = 109) 2 (iT (x3 = 97) 3 (-1))))) = 3 + x4)) ∧ ((¬ (135 + (iT (x3 = 112) 0 (iT (x3 = 101) 1 (iT (x3 = 109) 2 (iT (x3 = 97) 3 (-1))))) = 2 + x4)) ∧ ((¬ (135 + (iT (x3 = 112) 0 (iT (x3 = 101) 1 (iT (x3 = 109) 2 (iT (x3 = 97) 3 (-1))))) = 1 + x4)) ∧ ((¬ (135 + (iT (x3 = 112) 0 (iT (x3 = 101) 1 (iT (x3 = 109) 2 (iT (x3 = 97) 3 (-1))))) = x4)) ∧ ((0 ≤ x4 + 5 ∧ x4 + 5 < 787) ∧ ((iI (x4 + 6)) ∧ ((0 ≤ x4 + 6 ∧ x4 + 6 < 787) ∧ ((¬ (3 = 6 + x4)) ∧ ((¬ (3 = 5 + x4)) ∧ ((¬ (3 = 4 + x4)) ∧ ((¬ (3 = 3 + x4)) ∧ ((¬ (3 = 2 + x4)) ∧ ((¬ (3 = 1 + x4)) ∧ ((¬ (3 = x4)) ∧ ((iI ((d 66 3) + 1)) ∧ ((iI (((d 66 3) + 1) - 1)) ∧ (Q (.inl (((d 66 3) + 1) - 1)) g (ud (ud (ud (ud (ud (ud (ud (ud d 66 x4 x1) 66 (1 + x4) x2) 66 (2 + x4) (d 66 0)) 66 (3 + x4) (d 66 (119 + 2 * x2))) 66 (4 + x4) (d 66 (120 + 2 * x2))) 66 (5 + x4) (d 66 (135 + (iT (x3 = 112) 0 (iT (x3 = 101) 1 (iT (x3 = 109) 2 (iT (x3 = 97) 3 (-1)))))))) 66 (6 + x4) 111) 66 3 ((d 66 3) + 1))))))))))))))))))))))))))))))))))))))))))))))) ∧ ((¬ (16 ≤ x5)) → (iI (x4 + x5)) ∧ ((0 ≤ x4 + x5 ∧ x4 + x5 < 787) ∧ ((iI (x5 + 1)) ∧ (pX12_serve_1 x1 x2 x3 x4 (x5 + 1) g (ud d 66 (x4 + x5) 0) Q))))) : pX12_serve_1 x1 x2 x3 x4 x5 g d Q := by
  unfold pX12_serve_1
  refine mw_top (fun hT => ?_)
  have hG : 76 ≤ g.2.1 := hT.2
  refine mw_iload (pc' := 100) dX12_serve_98 rfl rfl ?_
  refine mw_bipush (pc' := 102) dX12_serve_100 rfl ⟨by decide, by decide⟩ ?_
  refine mw_icmp_ge (tgt := 122) (pc' := 105) dX12_serve_102 rfl (by decide) (fun c19 => ?_) (fun c19 => ?_)
  · replace h := h.1 c19
    refine mw_aload_n (v := vR 65) (pc' := 123) dX12_serve_122 rfl rfl (Or.inl rfl) rfl ?_
    refine mw_getP (v := 66) (pc' := 126) dX12_serve_123 rfl fr_RX12_9_65 rfl sp_65_0 ⟨by decide, by decide⟩ ?_
    refine mw_iload (pc' := 128) dX12_serve_126 rfl rfl ?_
    refine mw_iconst (pc' := 129) dX12_serve_128 rfl ⟨by decide, by decide⟩ ?_
    obtain ⟨o20, h⟩ := h
    refine mw_iadd (pc' := 130) dX12_serve_129 rfl o20 ?_
    refine mw_iload_n (pc' := 131) dX12_serve_130 rfl rfl rfl ?_
    obtain ⟨o21, h⟩ := h
    refine mw_iast (pc' := 132) dX12_serve_131 rfl lk_66 ⟨by decide, by decide⟩ (by rw [ln_66]; exact o21) ?_
    refine mw_dd (b := (ud d 66 x4 x1)) (congrArg (fun z => ud d 66 z x1) (by omega)) ?_
    refine mw_aload_n (v := vR 65) (pc' := 133) dX12_serve_132 rfl rfl (Or.inl rfl) rfl ?_
    refine mw_getP (v := 66) (pc' := 136) dX12_serve_133 rfl fr_RX12_9_65 rfl sp_65_0 ⟨by decide, by decide⟩ ?_
    refine mw_iload (pc' := 138) dX12_serve_136 rfl rfl ?_
    refine mw_iconst (pc' := 139) dX12_serve_138 rfl ⟨by decide, by decide⟩ ?_
    obtain ⟨o22, h⟩ := h
    refine mw_iadd (pc' := 140) dX12_serve_139 rfl o22 ?_
    refine mw_iload_n (pc' := 141) dX12_serve_140 rfl rfl rfl ?_
    obtain ⟨o23, h⟩ := h
    refine mw_iast (pc' := 142) dX12_serve_141 rfl lk_66 ⟨by decide, by decide⟩ (by rw [ln_66]; exact o23) ?_
    refine mw_dd (b := (ud (ud d 66 x4 x1) 66 (1 + x4) x2)) (congrArg (fun z => ud (ud d 66 x4 x1) 66 z x2) (by omega)) ?_
    refine mw_aload_n (v := vR 65) (pc' := 143) dX12_serve_142 rfl rfl (Or.inl rfl) rfl ?_
    refine mw_getP (v := 66) (pc' := 146) dX12_serve_143 rfl fr_RX12_9_65 rfl sp_65_0 ⟨by decide, by decide⟩ ?_
    refine mw_iload (pc' := 148) dX12_serve_146 rfl rfl ?_
    refine mw_iconst (pc' := 149) dX12_serve_148 rfl ⟨by decide, by decide⟩ ?_
    obtain ⟨o24, h⟩ := h
    refine mw_iadd (pc' := 150) dX12_serve_149 rfl o24 ?_
    refine mw_aload_n (v := vR 65) (pc' := 151) dX12_serve_150 rfl rfl (Or.inl rfl) rfl ?_
    refine mw_getP (v := 66) (pc' := 154) dX12_serve_151 rfl fr_RX12_9_65 rfl sp_65_0 ⟨by decide, by decide⟩ ?_
    refine mw_iconst (pc' := 155) dX12_serve_154 rfl ⟨by decide, by decide⟩ ?_
    obtain ⟨o25, h⟩ := h
    obtain ⟨o26, h⟩ := h
    refine mw_iald (pc' := 156) dX12_serve_155 rfl lk_66 ⟨by decide, by decide⟩ (by rw [ln_66]; exact ⟨by decide, by decide⟩) ?_
    refine mw_st (b := d 66 0) (udI o25 (udI o26 (rfl))) ?_
    obtain ⟨o27, h⟩ := h
    refine mw_iast (pc' := 157) dX12_serve_156 rfl lk_66 ⟨by decide, by decide⟩ (by rw [ln_66]; exact o27) ?_
    refine mw_dd (b := (ud (ud (ud d 66 x4 x1) 66 (1 + x4) x2) 66 (2 + x4) (d 66 0))) (congrArg (fun z => ud (ud (ud d 66 x4 x1) 66 (1 + x4) x2) 66 z (d 66 0)) (by omega)) ?_
    refine mw_aload_n (v := vR 65) (pc' := 158) dX12_serve_157 rfl rfl (Or.inl rfl) rfl ?_
    refine mw_getP (v := 66) (pc' := 161) dX12_serve_158 rfl fr_RX12_9_65 rfl sp_65_0 ⟨by decide, by decide⟩ ?_
    refine mw_iload (pc' := 163) dX12_serve_161 rfl rfl ?_
    refine mw_iconst (pc' := 164) dX12_serve_163 rfl ⟨by decide, by decide⟩ ?_
    obtain ⟨o28, h⟩ := h
    refine mw_iadd (pc' := 165) dX12_serve_164 rfl o28 ?_
    refine mw_aload_n (v := vR 65) (pc' := 166) dX12_serve_165 rfl rfl (Or.inl rfl) rfl ?_
    refine mw_getP (v := 66) (pc' := 169) dX12_serve_166 rfl fr_RX12_9_65 rfl sp_65_0 ⟨by decide, by decide⟩ ?_
    refine mw_bipush (pc' := 171) dX12_serve_169 rfl ⟨by decide, by decide⟩ ?_
    refine mw_iconst (pc' := 172) dX12_serve_171 rfl ⟨by decide, by decide⟩ ?_
    refine mw_iload_n (pc' := 173) dX12_serve_172 rfl rfl rfl ?_
    obtain ⟨o29, h⟩ := h
    refine mw_imul (pc' := 174) dX12_serve_173 rfl o29 ?_
    obtain ⟨o30, h⟩ := h
    refine mw_iadd (pc' := 175) dX12_serve_174 rfl o30 ?_
    obtain ⟨o31, h⟩ := h
    obtain ⟨o32, h⟩ := h
    obtain ⟨o33, h⟩ := h
    obtain ⟨o34, h⟩ := h
    refine mw_iald (pc' := 176) dX12_serve_175 rfl lk_66 ⟨by decide, by decide⟩ (by rw [ln_66]; exact o31) ?_
    refine mw_st (b := (ud (ud (ud d 66 x4 x1) 66 (1 + x4) x2) 66 (2 + x4) (d 66 0)) 66 (119 + 2 * x2)) (congrArg ((ud (ud (ud d 66 x4 x1) 66 (1 + x4) x2) 66 (2 + x4) (d 66 0)) 66) (by omega)) ?_
    refine mw_st (b := d 66 (119 + 2 * x2)) (udI o32 (udI o33 (udI o34 (rfl)))) ?_
    obtain ⟨o35, h⟩ := h
    refine mw_iast (pc' := 177) dX12_serve_176 rfl lk_66 ⟨by decide, by decide⟩ (by rw [ln_66]; exact o35) ?_
    refine mw_dd (b := (ud (ud (ud (ud d 66 x4 x1) 66 (1 + x4) x2) 66 (2 + x4) (d 66 0)) 66 (3 + x4) (d 66 (119 + 2 * x2)))) (congrArg (fun z => ud (ud (ud (ud d 66 x4 x1) 66 (1 + x4) x2) 66 (2 + x4) (d 66 0)) 66 z (d 66 (119 + 2 * x2))) (by omega)) ?_
    refine mw_aload_n (v := vR 65) (pc' := 178) dX12_serve_177 rfl rfl (Or.inl rfl) rfl ?_
    refine mw_getP (v := 66) (pc' := 181) dX12_serve_178 rfl fr_RX12_9_65 rfl sp_65_0 ⟨by decide, by decide⟩ ?_
    refine mw_iload (pc' := 183) dX12_serve_181 rfl rfl ?_
    refine mw_iconst (pc' := 184) dX12_serve_183 rfl ⟨by decide, by decide⟩ ?_
    obtain ⟨o36, h⟩ := h
    refine mw_iadd (pc' := 185) dX12_serve_184 rfl o36 ?_
    refine mw_aload_n (v := vR 65) (pc' := 186) dX12_serve_185 rfl rfl (Or.inl rfl) rfl ?_
    refine mw_getP (v := 66) (pc' := 189) dX12_serve_186 rfl fr_RX12_9_65 rfl sp_65_0 ⟨by decide, by decide⟩ ?_
    refine mw_bipush (pc' := 191) dX12_serve_189 rfl ⟨by decide, by decide⟩ ?_
    refine mw_iconst (pc' := 192) dX12_serve_191 rfl ⟨by decide, by decide⟩ ?_
    refine mw_iload_n (pc' := 193) dX12_serve_192 rfl rfl rfl ?_
    refine mw_imul (pc' := 194) dX12_serve_193 rfl o29 ?_
    refine mw_iadd (pc' := 195) dX12_serve_194 rfl o30 ?_
    refine mw_iconst (pc' := 196) dX12_serve_195 rfl ⟨by decide, by decide⟩ ?_
    obtain ⟨o39, h⟩ := h
    refine mw_iadd (pc' := 197) dX12_serve_196 rfl o39 ?_
    obtain ⟨o40, h⟩ := h
    obtain ⟨o41, h⟩ := h
    obtain ⟨o42, h⟩ := h
    obtain ⟨o43, h⟩ := h
    obtain ⟨o44, h⟩ := h
    refine mw_iald (pc' := 198) dX12_serve_197 rfl lk_66 ⟨by decide, by decide⟩ (by rw [ln_66]; exact o40) ?_
    refine mw_st (b := (ud (ud (ud (ud d 66 x4 x1) 66 (1 + x4) x2) 66 (2 + x4) (d 66 0)) 66 (3 + x4) (d 66 (119 + 2 * x2))) 66 (120 + 2 * x2)) (congrArg ((ud (ud (ud (ud d 66 x4 x1) 66 (1 + x4) x2) 66 (2 + x4) (d 66 0)) 66 (3 + x4) (d 66 (119 + 2 * x2))) 66) (by omega)) ?_
    refine mw_st (b := d 66 (120 + 2 * x2)) (udI o41 (udI o42 (udI o43 (udI o44 (rfl))))) ?_
    obtain ⟨o45, h⟩ := h
    refine mw_iast (pc' := 199) dX12_serve_198 rfl lk_66 ⟨by decide, by decide⟩ (by rw [ln_66]; exact o45) ?_
    refine mw_dd (b := (ud (ud (ud (ud (ud d 66 x4 x1) 66 (1 + x4) x2) 66 (2 + x4) (d 66 0)) 66 (3 + x4) (d 66 (119 + 2 * x2))) 66 (4 + x4) (d 66 (120 + 2 * x2)))) (congrArg (fun z => ud (ud (ud (ud (ud d 66 x4 x1) 66 (1 + x4) x2) 66 (2 + x4) (d 66 0)) 66 (3 + x4) (d 66 (119 + 2 * x2))) 66 z (d 66 (120 + 2 * x2))) (by omega)) ?_
    refine mw_aload_n (v := vR 65) (pc' := 200) dX12_serve_199 rfl rfl (Or.inl rfl) rfl ?_
    refine mw_getP (v := 66) (pc' := 203) dX12_serve_200 rfl fr_RX12_9_65 rfl sp_65_0 ⟨by decide, by decide⟩ ?_
    refine mw_iload (pc' := 205) dX12_serve_203 rfl rfl ?_
    refine mw_iconst (pc' := 206) dX12_serve_205 rfl ⟨by decide, by decide⟩ ?_
    obtain ⟨o46, h⟩ := h
    refine mw_iadd (pc' := 207) dX12_serve_206 rfl o46 ?_
    refine mw_aload_n (v := vR 65) (pc' := 208) dX12_serve_207 rfl rfl (Or.inl rfl) rfl ?_
    refine mw_getP (v := 66) (pc' := 211) dX12_serve_208 rfl fr_RX12_9_65 rfl sp_65_0 ⟨by decide, by decide⟩ ?_
    refine mw_sipush (pc' := 214) dX12_serve_211 rfl ⟨by decide, by decide⟩ ?_
    refine mw_iload_n (pc' := 215) dX12_serve_214 rfl rfl rfl ?_
    refine mw_callS (M' := mX12_wayOf) (A := [vI x3]) (S := [vI 135, vR 66, vI (x4 + 5), vR 66]) (pc' := 218) dX12_serve_215 rfl cl_RX12_122 cm_X12_wayOf cs_X12_wayOf ⟨by decide, by decide, by decide, by decide, by decide⟩ rfl rfl (Nat.le_of_ble_eq_true rfl) (eX12_wayOf ?_)
    show MW mX12_serve 0 0 218 [(0, vR 65), (1, vI x1), (2, vI x2), (3, vI x3), (4, vI x4), (5, vI x5)] [vI (iT (x3 = 112) 0 (iT (x3 = 101) 1 (iT (x3 = 109) 2 (iT (x3 = 97) 3 (-1))))), vI 135, vR 66, vI (x4 + 5), vR 66] g (ud (ud (ud (ud (ud d 66 x4 x1) 66 (1 + x4) x2) 66 (2 + x4) (d 66 0)) 66 (3 + x4) (d 66 (119 + 2 * x2))) 66 (4 + x4) (d 66 (120 + 2 * x2))) Q
    obtain ⟨o47, h⟩ := h
    refine mw_iadd (pc' := 219) dX12_serve_218 rfl o47 ?_
    obtain ⟨o48, h⟩ := h
    obtain ⟨o49, h⟩ := h
    obtain ⟨o50, h⟩ := h
    obtain ⟨o51, h⟩ := h
    obtain ⟨o52, h⟩ := h
    obtain ⟨o53, h⟩ := h
    refine mw_iald (pc' := 220) dX12_serve_219 rfl lk_66 ⟨by decide, by decide⟩ (by rw [ln_66]; exact o48) ?_
    refine mw_st (b := d 66 (135 + (iT (x3 = 112) 0 (iT (x3 = 101) 1 (iT (x3 = 109) 2 (iT (x3 = 97) 3 (-1))))))) (udI o49 (udI o50 (udI o51 (udI o52 (udI o53 (rfl)))))) ?_
    obtain ⟨o54, h⟩ := h
    refine mw_iast (pc' := 221) dX12_serve_220 rfl lk_66 ⟨by decide, by decide⟩ (by rw [ln_66]; exact o54) ?_
    refine mw_dd (b := (ud (ud (ud (ud (ud (ud d 66 x4 x1) 66 (1 + x4) x2) 66 (2 + x4) (d 66 0)) 66 (3 + x4) (d 66 (119 + 2 * x2))) 66 (4 + x4) (d 66 (120 + 2 * x2))) 66 (5 + x4) (d 66 (135 + (iT (x3 = 112) 0 (iT (x3 = 101) 1 (iT (x3 = 109) 2 (iT (x3 = 97) 3 (-1))))))))) (congrArg (fun z => ud (ud (ud (ud (ud (ud d 66 x4 x1) 66 (1 + x4) x2) 66 (2 + x4) (d 66 0)) 66 (3 + x4) (d 66 (119 + 2 * x2))) 66 (4 + x4) (d 66 (120 + 2 * x2))) 66 z (d 66 (135 + (iT (x3 = 112) 0 (iT (x3 = 101) 1 (iT (x3 = 109) 2 (iT (x3 = 97) 3 (-1)))))))) (by omega)) ?_
    refine mw_aload_n (v := vR 65) (pc' := 222) dX12_serve_221 rfl rfl (Or.inl rfl) rfl ?_
    refine mw_getP (v := 66) (pc' := 225) dX12_serve_222 rfl fr_RX12_9_65 rfl sp_65_0 ⟨by decide, by decide⟩ ?_
    refine mw_iload (pc' := 227) dX12_serve_225 rfl rfl ?_
    refine mw_bipush (pc' := 229) dX12_serve_227 rfl ⟨by decide, by decide⟩ ?_
    obtain ⟨o55, h⟩ := h
    refine mw_iadd (pc' := 230) dX12_serve_229 rfl o55 ?_
    refine mw_bipush (pc' := 232) dX12_serve_230 rfl ⟨by decide, by decide⟩ ?_
    obtain ⟨o56, h⟩ := h
    refine mw_iast (pc' := 233) dX12_serve_232 rfl lk_66 ⟨by decide, by decide⟩ (by rw [ln_66]; exact o56) ?_
    refine mw_dd (b := (ud (ud (ud (ud (ud (ud (ud d 66 x4 x1) 66 (1 + x4) x2) 66 (2 + x4) (d 66 0)) 66 (3 + x4) (d 66 (119 + 2 * x2))) 66 (4 + x4) (d 66 (120 + 2 * x2))) 66 (5 + x4) (d 66 (135 + (iT (x3 = 112) 0 (iT (x3 = 101) 1 (iT (x3 = 109) 2 (iT (x3 = 97) 3 (-1)))))))) 66 (6 + x4) 111)) (congrArg (fun z => ud (ud (ud (ud (ud (ud (ud d 66 x4 x1) 66 (1 + x4) x2) 66 (2 + x4) (d 66 0)) 66 (3 + x4) (d 66 (119 + 2 * x2))) 66 (4 + x4) (d 66 (120 + 2 * x2))) 66 (5 + x4) (d 66 (135 + (iT (x3 = 112) 0 (iT (x3 = 101) 1 (iT (x3 = 109) 2 (iT (x3 = 97) 3 (-1)))))))) 66 z 111) (by omega)) ?_
    refine mw_aload_n (v := vR 65) (pc' := 234) dX12_serve_233 rfl rfl (Or.inl rfl) rfl ?_
    refine mw_getP (v := 66) (pc' := 237) dX12_serve_234 rfl fr_RX12_9_65 rfl sp_65_0 ⟨by decide, by decide⟩ ?_
    refine mw_iconst (pc' := 238) dX12_serve_237 rfl ⟨by decide, by decide⟩ ?_
    refine mw_dup2 (pc' := 239) dX12_serve_238 rfl rfl rfl ?_
    obtain ⟨o57, h⟩ := h
    obtain ⟨o58, h⟩ := h
    obtain ⟨o59, h⟩ := h
    obtain ⟨o60, h⟩ := h
    obtain ⟨o61, h⟩ := h
    obtain ⟨o62, h⟩ := h
    obtain ⟨o63, h⟩ := h
    refine mw_iald (pc' := 240) dX12_serve_239 rfl lk_66 ⟨by decide, by decide⟩ (by rw [ln_66]; exact ⟨by decide, by decide⟩) ?_
    refine mw_st (b := d 66 3) (udI o57 (udI o58 (udI o59 (udI o60 (udI o61 (udI o62 (udI o63 (rfl)))))))) ?_
    refine mw_iconst (pc' := 241) dX12_serve_240 rfl ⟨by decide, by decide⟩ ?_
    obtain ⟨o64, h⟩ := h
    refine mw_iadd (pc' := 242) dX12_serve_241 rfl o64 ?_
    refine mw_iast (pc' := 243) dX12_serve_242 rfl lk_66 ⟨by decide, by decide⟩ (by rw [ln_66]; exact ⟨by decide, by decide⟩) ?_
    refine mw_aload_n (v := vR 65) (pc' := 244) dX12_serve_243 rfl rfl (Or.inl rfl) rfl ?_
    refine mw_getP (v := 66) (pc' := 247) dX12_serve_244 rfl fr_RX12_9_65 rfl sp_65_0 ⟨by decide, by decide⟩ ?_
    refine mw_iconst (pc' := 248) dX12_serve_247 rfl ⟨by decide, by decide⟩ ?_
    refine mw_iald (pc' := 249) dX12_serve_248 rfl lk_66 ⟨by decide, by decide⟩ (by rw [ln_66]; exact ⟨by decide, by decide⟩) ?_
    refine mw_st (b := (d 66 3) + 1) (udS) ?_
    refine mw_iconst (pc' := 250) dX12_serve_249 rfl ⟨by decide, by decide⟩ ?_
    obtain ⟨o65, h⟩ := h
    refine mw_isub (pc' := 251) dX12_serve_250 rfl o65 ?_
    exact mw_iret (pc' := 0) (S := []) dX12_serve_251 rfl (Or.inl rfl) h
  · replace h := h.2 c19
    refine mw_aload_n (v := vR 65) (pc' := 106) dX12_serve_105 rfl rfl (Or.inl rfl) rfl ?_
    refine mw_getP (v := 66) (pc' := 109) dX12_serve_106 rfl fr_RX12_9_65 rfl sp_65_0 ⟨by decide, by decide⟩ ?_
    refine mw_iload (pc' := 111) dX12_serve_109 rfl rfl ?_
    refine mw_iload (pc' := 113) dX12_serve_111 rfl rfl ?_
    obtain ⟨o66, h⟩ := h
    refine mw_iadd (pc' := 114) dX12_serve_113 rfl o66 ?_
    refine mw_iconst (pc' := 115) dX12_serve_114 rfl ⟨by decide, by decide⟩ ?_
    obtain ⟨o67, h⟩ := h
    refine mw_iast (pc' := 116) dX12_serve_115 rfl lk_66 ⟨by decide, by decide⟩ (by rw [ln_66]; exact o67) ?_
    obtain ⟨o68, h⟩ := h
    refine mw_iinc (pc' := 119) (L' := [(0, vR 65), (1, vI x1), (2, vI x2), (3, vI x3), (4, vI x4), (5, vI (x5 + 1))]) dX12_serve_116 rfl rfl (by decide) o68 rfl ?_
    refine mw_goto (pc' := 0) (tgt := 98) dX12_serve_119 (by decide) ?_
    exact h
theorem eX12_deadlines {g : mG} {d : mD} {Q : mQ} (h : Q (.inl (d 66 3)) g (ud d 65 5 0)) : MM mX12_deadlines [vR 65] g d Q := by
  refine MM_of (by decide) rfl (by simp [catV]) (Nat.le_of_ble_eq_true rfl) ?_
  show MW mX12_deadlines 0 0 0 [(0, vR 65)] [] g d Q
  refine mw_top (fun hT => ?_)
  have hG : 76 ≤ g.2.1 := hT.2
  refine mw_aload_n (v := vR 65) (pc' := 1) dX12_deadlines_0 rfl rfl (Or.inl rfl) rfl ?_
  refine mw_iconst (pc' := 2) dX12_deadlines_1 rfl ⟨by decide, by decide⟩ ?_
  refine mw_putI (ji := 5) (pc' := 5) dX12_deadlines_2 rfl (fq_RX12_41_65) (by decide +kernel) rfl (Or.inl ⟨rfl, rc_65_5⟩) (Or.inr rfl) ⟨by decide, by omega⟩ ?_
  refine mw_aload_n (v := vR 65) (pc' := 6) dX12_deadlines_5 rfl rfl (Or.inl rfl) rfl ?_
  refine mw_getP (v := 66) (pc' := 9) dX12_deadlines_6 rfl fr_RX12_9_65 rfl sp_65_0 ⟨by decide, by decide⟩ ?_
  refine mw_iconst (pc' := 10) dX12_deadlines_9 rfl ⟨by decide, by decide⟩ ?_
  refine mw_iald (pc' := 11) dX12_deadlines_10 rfl lk_66 ⟨by decide, by decide⟩ (by rw [ln_66]; exact ⟨by decide, by decide⟩) ?_
  refine mw_st (b := d 66 3) (udA (by decide) (rfl)) ?_
  exact mw_iret (pc' := 0) (S := []) dX12_deadlines_11 rfl (Or.inl rfl) h
theorem eX12_due {x1 : Int} {g : mG} {d : mD} {Q : mQ} (h : (iI ((d 66 3) - 1)) ∧ ((((¬ ((¬ (x1 < 0)) ∧ (¬ (((d 66 3) - 1) < x1))))) → Q (.inl 0) g (ud (ud d 65 5 0) 65 5 1)) ∧ (((¬ (x1 < 0)) ∧ (¬ (((d 66 3) - 1) < x1))) → (RW (d 66)) ∧ ((0 ≤ x1 ∧ x1 < d 66 3) ∧ ((((dueM (d 66) x1 = (-1))) → Q (.inl 0) g (ud (ud d 65 5 0) 65 5 2)) ∧ ((¬ (dueM (d 66) x1 = (-1))) → Q (.inl (dueM (d 66) x1)) g (ud d 65 5 0))))))) : MM mX12_due [vR 65, vI x1] g d Q := by
  refine MM_of (by decide) rfl (by simp [catV]) (Nat.le_of_ble_eq_true rfl) ?_
  show MW mX12_due 0 0 0 [(0, vR 65), (1, vI x1)] [] g d Q
  refine mw_top (fun hT => ?_)
  have hG : 76 ≤ g.2.1 := hT.2
  refine mw_aload_n (v := vR 65) (pc' := 1) dX12_due_0 rfl rfl (Or.inl rfl) rfl ?_
  refine mw_iconst (pc' := 2) dX12_due_1 rfl ⟨by decide, by decide⟩ ?_
  refine mw_putI (ji := 5) (pc' := 5) dX12_due_2 rfl (fq_RX12_41_65) (by decide +kernel) rfl (Or.inl ⟨rfl, rc_65_5⟩) (Or.inr rfl) ⟨by decide, by omega⟩ ?_
  refine mw_aload_n (v := vR 65) (pc' := 6) dX12_due_5 rfl rfl (Or.inl rfl) rfl ?_
  refine mw_aload_n (v := vR 65) (pc' := 7) dX12_due_6 rfl rfl (Or.inl rfl) rfl ?_
  refine mw_iload_n (pc' := 8) dX12_due_7 rfl rfl rfl ?_
  obtain ⟨o1, h⟩ := h
  refine mw_callV (M' := mX12_noDeadline) (A := [vI x1]) (A' := [vR 65, vI x1]) (S := [vR 65]) (a := 65) (pc' := 11) dX12_due_8 rfl cl_RX12_147 cm_X12_noDeadline cv_X12_noDeadline ⟨by decide, by decide, by decide, by decide, by decide⟩ rfl rfl rfl ⟨by decide, by omega⟩ (by decide +kernel) (by decide +kernel) (Nat.le_of_ble_eq_true rfl) (eX12_noDeadline (⟨o1, ?_⟩))
  show MW mX12_due 0 0 11 [(0, vR 65), (1, vI x1)] [vI (bI (¬ ((¬ (x1 < 0)) ∧ (¬ (((d 66 3) - 1) < x1))))), vR 65] g (ud d 65 5 0) Q
  refine mw_iconst (pc' := 12) dX12_due_11 rfl ⟨by decide, by decide⟩ ?_
  refine mw_callV (M' := mX12_fails) (A := [vI (bI (¬ ((¬ (x1 < 0)) ∧ (¬ (((d 66 3) - 1) < x1))))), vI 1]) (A' := [vR 65, vI (bI (¬ ((¬ (x1 < 0)) ∧ (¬ (((d 66 3) - 1) < x1))))), vI 1]) (S := []) (a := 65) (pc' := 15) dX12_due_12 rfl cl_RX12_55 cm_X12_fails cv_X12_fails ⟨by decide, by decide, by decide, by decide, by decide⟩ rfl rfl rfl ⟨by decide, by omega⟩ (by decide +kernel) (by decide +kernel) (Nat.le_of_ble_eq_true rfl) (f_fails (udS) (by decide) ?_)
  refine ⟨fun c2 => ?_, fun c2 => ?_⟩
  · replace h := h.1 (show (¬ ((¬ (x1 < 0)) ∧ (¬ (((d 66 3) - 1) < x1)))) from c2)
    show MW mX12_due 0 0 15 [(0, vR 65), (1, vI x1)] [vI 1] g (ud (ud d 65 5 0) 65 5 1) Q
    refine mw_if_eq (tgt := 20) (pc' := 18) dX12_due_15 rfl (by decide) (fun q => absurd q (by decide)) (fun _ => ?_)
    refine mw_iconst (pc' := 19) dX12_due_18 rfl ⟨by decide, by decide⟩ ?_
    exact mw_iret (pc' := 0) (S := []) dX12_due_19 rfl (Or.inl rfl) h
  · replace h := h.2 (show (¬ (x1 < 0)) ∧ (¬ (((d 66 3) - 1) < x1)) from (Classical.not_not.mp c2))
    show MW mX12_due 0 0 15 [(0, vR 65), (1, vI x1)] [vI 0] g (ud d 65 5 0) Q
    refine mw_if_eq (tgt := 20) (pc' := 18) dX12_due_15 rfl (by decide) (fun _ => ?_) (fun q => absurd q (by decide))
    refine mw_aload_n (v := vR 65) (pc' := 21) dX12_due_20 rfl rfl (Or.inl rfl) rfl ?_
    refine mw_iload_n (pc' := 22) dX12_due_21 rfl rfl rfl ?_
    obtain ⟨o3, h⟩ := h
    obtain ⟨o4, h⟩ := h
    refine mw_callV (M' := mX12_dueOf) (A := [vI x1]) (A' := [vR 65, vI x1]) (S := []) (a := 65) (pc' := 25) dX12_due_22 rfl cl_RX12_150 cm_X12_dueOf cv_X12_dueOf ⟨by decide, by decide, by decide, by decide, by decide⟩ rfl rfl rfl ⟨by decide, by omega⟩ (by decide +kernel) (by decide +kernel) (Nat.le_of_ble_eq_true rfl) (f_dueOf (⟨o3, o4, ?_⟩))
    show MW mX12_due 0 0 25 [(0, vR 65), (1, vI x1)] [vI (dueM (d 66) x1)] g (ud d 65 5 0) Q
    refine mw_istore_n (pc' := 26) (L' := [(0, vR 65), (1, vI x1), (2, vI (dueM (d 66) x1))]) dX12_due_25 rfl rfl (by decide) rfl ?_
    refine mw_aload_n (v := vR 65) (pc' := 27) dX12_due_26 rfl rfl (Or.inl rfl) rfl ?_
    refine mw_iload_n (pc' := 28) dX12_due_27 rfl rfl rfl ?_
    refine mw_iconst (pc' := 29) dX12_due_28 rfl ⟨by decide, by decide⟩ ?_
    suffices k5 : MW mX12_due 0 0 37 [(0, vR 65), (1, vI x1), (2, vI (dueM (d 66) x1))] [vI (bI (dueM (d 66) x1 = (-1))), vR 65] g (ud d 65 5 0) Q by
      refine mw_icmp_ne (tgt := 36) (pc' := 32) dX12_due_29 rfl (by decide) (fun c6 => ?_) (fun c6 => ?_)
      · refine mw_iconst (pc' := 37) dX12_due_36 rfl ⟨by decide, by decide⟩ ?_
        exact mw_st (bI_f (fun h => (c6 h))).symm k5
      · refine mw_iconst (pc' := 33) dX12_due_32 rfl ⟨by decide, by decide⟩ ?_
        refine mw_goto (pc' := 0) (tgt := 37) dX12_due_33 (by decide) ?_
        exact mw_st (bI_t c6).symm k5
    refine mw_iconst (pc' := 38) dX12_due_37 rfl ⟨by decide, by decide⟩ ?_
    refine mw_callV (M' := mX12_fails) (A := [vI (bI (dueM (d 66) x1 = (-1))), vI 2]) (A' := [vR 65, vI (bI (dueM (d 66) x1 = (-1))), vI 2]) (S := []) (a := 65) (pc' := 41) dX12_due_38 rfl cl_RX12_55 cm_X12_fails cv_X12_fails ⟨by decide, by decide, by decide, by decide, by decide⟩ rfl rfl rfl ⟨by decide, by omega⟩ (by decide +kernel) (by decide +kernel) (Nat.le_of_ble_eq_true rfl) (f_fails (udS) (by decide) ?_)
    refine ⟨fun c7 => ?_, fun c7 => ?_⟩
    · replace h := h.1 (show (dueM (d 66) x1 = (-1)) from c7)
      show MW mX12_due 0 0 41 [(0, vR 65), (1, vI x1), (2, vI (dueM (d 66) x1))] [vI 1] g (ud (ud d 65 5 0) 65 5 2) Q
      refine mw_if_eq (tgt := 48) (pc' := 44) dX12_due_41 rfl (by decide) (fun q => absurd q (by decide)) (fun _ => ?_)
      refine mw_iconst (pc' := 45) dX12_due_44 rfl ⟨by decide, by decide⟩ ?_
      refine mw_goto (pc' := 0) (tgt := 49) dX12_due_45 (by decide) ?_
      exact mw_iret (pc' := 0) (S := []) dX12_due_49 rfl (Or.inl rfl) h
    · replace h := h.2 (show ¬ (dueM (d 66) x1 = (-1)) from c7)
      show MW mX12_due 0 0 41 [(0, vR 65), (1, vI x1), (2, vI (dueM (d 66) x1))] [vI 0] g (ud d 65 5 0) Q
      refine mw_if_eq (tgt := 48) (pc' := 44) dX12_due_41 rfl (by decide) (fun _ => ?_) (fun q => absurd q (by decide))
      refine mw_iload_n (pc' := 49) dX12_due_48 rfl rfl rfl ?_
      exact mw_iret (pc' := 0) (S := []) dX12_due_49 rfl (Or.inl rfl) h
theorem eX12_dueByMarking {x1 : Int} {g : mG} {d : mD} {Q : mQ} (h : (iI ((d 66 3) - 1)) ∧ ((((¬ ((¬ (x1 < 0)) ∧ (¬ (((d 66 3) - 1) < x1))))) → Q (.inl 0) g (ud (ud d 65 5 0) 65 5 1)) ∧ (((¬ (x1 < 0)) ∧ (¬ (((d 66 3) - 1) < x1))) → (RW (d 66)) ∧ ((0 ≤ x1 ∧ x1 < d 66 3) ∧ ((((dueM (d 66) x1 = (-1))) → Q (.inl 0) g (ud (ud d 65 5 0) 65 5 2)) ∧ ((¬ (dueM (d 66) x1 = (-1))) → Q (.inl (dueM (d 66) x1)) g (ud d 65 5 0))))))) : MM mX12_dueByMarking [vR 65, vI x1] g d Q := by
  refine MM_of (by decide) rfl (by simp [catV]) (Nat.le_of_ble_eq_true rfl) ?_
  show MW mX12_dueByMarking 0 0 0 [(0, vR 65), (1, vI x1)] [] g d Q
  refine mw_top (fun hT => ?_)
  have hG : 76 ≤ g.2.1 := hT.2
  refine mw_aload_n (v := vR 65) (pc' := 1) dX12_dueByMarking_0 rfl rfl (Or.inl rfl) rfl ?_
  refine mw_iload_n (pc' := 2) dX12_dueByMarking_1 rfl rfl rfl ?_
  refine mw_callV (M' := mX12_due) (A := [vI x1]) (A' := [vR 65, vI x1]) (S := []) (a := 65) (pc' := 5) dX12_dueByMarking_2 rfl cl_RX12_153 cm_X12_due cv_X12_due ⟨by decide, by decide, by decide, by decide, by decide⟩ rfl rfl rfl ⟨by decide, by omega⟩ (by decide +kernel) (by decide +kernel) (Nat.le_of_ble_eq_true rfl) (eX12_due ?_)
  obtain ⟨o1, h⟩ := h
  refine ⟨o1, ?_⟩
  refine ⟨fun c2 => ?_, fun c2 => ?_⟩
  · replace h := h.1 (show (¬ ((¬ (x1 < 0)) ∧ (¬ (((d 66 3) - 1) < x1)))) from c2)
    show MW mX12_dueByMarking 0 0 5 [(0, vR 65), (1, vI x1)] [vI 0] g (ud (ud d 65 5 0) 65 5 1) Q
    exact mw_iret (pc' := 0) (S := []) dX12_dueByMarking_5 rfl (Or.inl rfl) h
  · replace h := h.2 (show (¬ (x1 < 0)) ∧ (¬ (((d 66 3) - 1) < x1)) from c2)
    obtain ⟨o3, h⟩ := h
    refine ⟨o3, ?_⟩
    obtain ⟨o4, h⟩ := h
    refine ⟨o4, ?_⟩
    refine ⟨fun c5 => ?_, fun c5 => ?_⟩
    · replace h := h.1 (show (dueM (d 66) x1 = (-1)) from c5)
      show MW mX12_dueByMarking 0 0 5 [(0, vR 65), (1, vI x1)] [vI 0] g (ud (ud d 65 5 0) 65 5 2) Q
      exact mw_iret (pc' := 0) (S := []) dX12_dueByMarking_5 rfl (Or.inl rfl) h
    · replace h := h.2 (show ¬ (dueM (d 66) x1 = (-1)) from c5)
      show MW mX12_dueByMarking 0 0 5 [(0, vR 65), (1, vI x1)] [vI (dueM (d 66) x1)] g (ud d 65 5 0) Q
      exact mw_iret (pc' := 0) (S := []) dX12_dueByMarking_5 rfl (Or.inl rfl) h
theorem eX12_daysLeft {x1 : Int} {g : mG} {d : mD} {Q : mQ} (h : (iI ((d 66 3) - 1)) ∧ ((((¬ ((¬ (x1 < 0)) ∧ (¬ (((d 66 3) - 1) < x1))))) → Q (.inl 0) g (ud (ud d 65 5 0) 65 5 1)) ∧ (((¬ (x1 < 0)) ∧ (¬ (((d 66 3) - 1) < x1))) → (RW (d 66)) ∧ ((0 ≤ x1 ∧ x1 < d 66 3) ∧ (Q (.inl (leftF (d 66) x1)) g (ud d 65 5 0)))))) : MM mX12_daysLeft [vR 65, vI x1] g d Q := by
  refine MM_of (by decide) rfl (by simp [catV]) (Nat.le_of_ble_eq_true rfl) ?_
  show MW mX12_daysLeft 0 0 0 [(0, vR 65), (1, vI x1)] [] g d Q
  refine mw_top (fun hT => ?_)
  have hG : 76 ≤ g.2.1 := hT.2
  refine mw_aload_n (v := vR 65) (pc' := 1) dX12_daysLeft_0 rfl rfl (Or.inl rfl) rfl ?_
  refine mw_iconst (pc' := 2) dX12_daysLeft_1 rfl ⟨by decide, by decide⟩ ?_
  refine mw_putI (ji := 5) (pc' := 5) dX12_daysLeft_2 rfl (fq_RX12_41_65) (by decide +kernel) rfl (Or.inl ⟨rfl, rc_65_5⟩) (Or.inr rfl) ⟨by decide, by omega⟩ ?_
  refine mw_aload_n (v := vR 65) (pc' := 6) dX12_daysLeft_5 rfl rfl (Or.inl rfl) rfl ?_
  refine mw_aload_n (v := vR 65) (pc' := 7) dX12_daysLeft_6 rfl rfl (Or.inl rfl) rfl ?_
  refine mw_iload_n (pc' := 8) dX12_daysLeft_7 rfl rfl rfl ?_
  obtain ⟨o1, h⟩ := h
  refine mw_callV (M' := mX12_noDeadline) (A := [vI x1]) (A' := [vR 65, vI x1]) (S := [vR 65]) (a := 65) (pc' := 11) dX12_daysLeft_8 rfl cl_RX12_147 cm_X12_noDeadline cv_X12_noDeadline ⟨by decide, by decide, by decide, by decide, by decide⟩ rfl rfl rfl ⟨by decide, by omega⟩ (by decide +kernel) (by decide +kernel) (Nat.le_of_ble_eq_true rfl) (eX12_noDeadline (⟨o1, ?_⟩))
  show MW mX12_daysLeft 0 0 11 [(0, vR 65), (1, vI x1)] [vI (bI (¬ ((¬ (x1 < 0)) ∧ (¬ (((d 66 3) - 1) < x1))))), vR 65] g (ud d 65 5 0) Q
  refine mw_iconst (pc' := 12) dX12_daysLeft_11 rfl ⟨by decide, by decide⟩ ?_
  refine mw_callV (M' := mX12_fails) (A := [vI (bI (¬ ((¬ (x1 < 0)) ∧ (¬ (((d 66 3) - 1) < x1))))), vI 1]) (A' := [vR 65, vI (bI (¬ ((¬ (x1 < 0)) ∧ (¬ (((d 66 3) - 1) < x1))))), vI 1]) (S := []) (a := 65) (pc' := 15) dX12_daysLeft_12 rfl cl_RX12_55 cm_X12_fails cv_X12_fails ⟨by decide, by decide, by decide, by decide, by decide⟩ rfl rfl rfl ⟨by decide, by omega⟩ (by decide +kernel) (by decide +kernel) (Nat.le_of_ble_eq_true rfl) (f_fails (udS) (by decide) ?_)
  refine ⟨fun c2 => ?_, fun c2 => ?_⟩
  · replace h := h.1 (show (¬ ((¬ (x1 < 0)) ∧ (¬ (((d 66 3) - 1) < x1)))) from c2)
    show MW mX12_daysLeft 0 0 15 [(0, vR 65), (1, vI x1)] [vI 1] g (ud (ud d 65 5 0) 65 5 1) Q
    refine mw_if_eq (tgt := 22) (pc' := 18) dX12_daysLeft_15 rfl (by decide) (fun q => absurd q (by decide)) (fun _ => ?_)
    refine mw_iconst (pc' := 19) dX12_daysLeft_18 rfl ⟨by decide, by decide⟩ ?_
    refine mw_goto (pc' := 0) (tgt := 27) dX12_daysLeft_19 (by decide) ?_
    exact mw_iret (pc' := 0) (S := []) dX12_daysLeft_27 rfl (Or.inl rfl) h
  · replace h := h.2 (show (¬ (x1 < 0)) ∧ (¬ (((d 66 3) - 1) < x1)) from (Classical.not_not.mp c2))
    show MW mX12_daysLeft 0 0 15 [(0, vR 65), (1, vI x1)] [vI 0] g (ud d 65 5 0) Q
    refine mw_if_eq (tgt := 22) (pc' := 18) dX12_daysLeft_15 rfl (by decide) (fun _ => ?_) (fun q => absurd q (by decide))
    refine mw_aload_n (v := vR 65) (pc' := 23) dX12_daysLeft_22 rfl rfl (Or.inl rfl) rfl ?_
    refine mw_iload_n (pc' := 24) dX12_daysLeft_23 rfl rfl rfl ?_
    obtain ⟨o3, h⟩ := h
    obtain ⟨o4, h⟩ := h
    refine mw_callV (M' := mX12_leftOf) (A := [vI x1]) (A' := [vR 65, vI x1]) (S := []) (a := 65) (pc' := 27) dX12_daysLeft_24 rfl cl_RX12_156 cm_X12_leftOf cv_X12_leftOf ⟨by decide, by decide, by decide, by decide, by decide⟩ rfl rfl rfl ⟨by decide, by omega⟩ (by decide +kernel) (by decide +kernel) (Nat.le_of_ble_eq_true rfl) (f_leftOf (⟨o3, o4, ?_⟩))
    show MW mX12_daysLeft 0 0 27 [(0, vR 65), (1, vI x1)] [vI (leftF (d 66) x1)] g (ud d 65 5 0) Q
    exact mw_iret (pc' := 0) (S := []) dX12_daysLeft_27 rfl (Or.inl rfl) h
theorem eX12_daysLeftByMarking {x1 : Int} {g : mG} {d : mD} {Q : mQ} (h : (iI ((d 66 3) - 1)) ∧ ((((¬ ((¬ (x1 < 0)) ∧ (¬ (((d 66 3) - 1) < x1))))) → Q (.inl 0) g (ud (ud d 65 5 0) 65 5 1)) ∧ (((¬ (x1 < 0)) ∧ (¬ (((d 66 3) - 1) < x1))) → (RW (d 66)) ∧ ((0 ≤ x1 ∧ x1 < d 66 3) ∧ (Q (.inl (leftF (d 66) x1)) g (ud d 65 5 0)))))) : MM mX12_daysLeftByMarking [vR 65, vI x1] g d Q := by
  refine MM_of (by decide) rfl (by simp [catV]) (Nat.le_of_ble_eq_true rfl) ?_
  show MW mX12_daysLeftByMarking 0 0 0 [(0, vR 65), (1, vI x1)] [] g d Q
  refine mw_top (fun hT => ?_)
  have hG : 76 ≤ g.2.1 := hT.2
  refine mw_aload_n (v := vR 65) (pc' := 1) dX12_daysLeftByMarking_0 rfl rfl (Or.inl rfl) rfl ?_
  refine mw_iload_n (pc' := 2) dX12_daysLeftByMarking_1 rfl rfl rfl ?_
  refine mw_callV (M' := mX12_daysLeft) (A := [vI x1]) (A' := [vR 65, vI x1]) (S := []) (a := 65) (pc' := 5) dX12_daysLeftByMarking_2 rfl cl_RX12_159 cm_X12_daysLeft cv_X12_daysLeft ⟨by decide, by decide, by decide, by decide, by decide⟩ rfl rfl rfl ⟨by decide, by omega⟩ (by decide +kernel) (by decide +kernel) (Nat.le_of_ble_eq_true rfl) (eX12_daysLeft ?_)
  obtain ⟨o1, h⟩ := h
  refine ⟨o1, ?_⟩
  refine ⟨fun c2 => ?_, fun c2 => ?_⟩
  · replace h := h.1 (show (¬ ((¬ (x1 < 0)) ∧ (¬ (((d 66 3) - 1) < x1)))) from c2)
    show MW mX12_daysLeftByMarking 0 0 5 [(0, vR 65), (1, vI x1)] [vI 0] g (ud (ud d 65 5 0) 65 5 1) Q
    exact mw_iret (pc' := 0) (S := []) dX12_daysLeftByMarking_5 rfl (Or.inl rfl) h
  · replace h := h.2 (show (¬ (x1 < 0)) ∧ (¬ (((d 66 3) - 1) < x1)) from c2)
    obtain ⟨o3, h⟩ := h
    refine ⟨o3, ?_⟩
    obtain ⟨o4, h⟩ := h
    refine ⟨o4, ?_⟩
    show MW mX12_daysLeftByMarking 0 0 5 [(0, vR 65), (1, vI x1)] [vI (leftF (d 66) x1)] g (ud d 65 5 0) Q
    exact mw_iret (pc' := 0) (S := []) dX12_daysLeftByMarking_5 rfl (Or.inl rfl) h
theorem eX12_extendByConsent {x1 x2 : Int} {g : mG} {d : mD} {Q : mQ} (h : (iI ((d 66 3) - 1)) ∧ ((((¬ ((¬ (x1 < 0)) ∧ (¬ (((d 66 3) - 1) < x1))))) → Q (.inl 0) g (ud (ud d 65 5 0) 65 5 1)) ∧ (((¬ (x1 < 0)) ∧ (¬ (((d 66 3) - 1) < x1))) → (((¬ ((¬ (x2 < 1)) ∧ (¬ (28 < x2))))) → Q (.inl 0) g (ud (ud d 65 5 0) 65 5 2)) ∧ (((¬ (x2 < 1)) ∧ (¬ (28 < x2))) → (0 ≤ x1 ∧ x1 < 30) ∧ (((d 66 (145 + 16 * x1) = 111) → RW (d 66)) ∧ (((d 66 (145 + 16 * x1) = 111) → 0 ≤ x1 ∧ x1 < d 66 3) ∧ (((((¬ (d 66 (145 + 16 * x1) = 111)) ∨ (((¬ (dueM (d 66) x1 = (-1))) ∧ (¬ (d 66 0 ≤ dueM (d 66) x1))) ∨ (d 66 (147 + 16 * x1) = 2)))) → Q (.inl 0) g (ud (ud d 65 5 0) 65 5 3)) ∧ ((¬ ((¬ (d 66 (145 + 16 * x1) = 111)) ∨ (((¬ (dueM (d 66) x1 = (-1))) ∧ (¬ (d 66 0 ≤ dueM (d 66) x1))) ∨ (d 66 (147 + 16 * x1) = 2)))) → (iI ((d 66 (149 + 16 * x1)) + x2)) ∧ ((((¬ ((d 66 (149 + 16 * x1)) + x2 ≤ 28))) → Q (.inl 0) g (ud (ud d 65 5 0) 65 5 4)) ∧ (((d 66 (149 + 16 * x1)) + x2 ≤ 28) → (0 ≤ d 65 3 ∧ d 65 3 ≤ 8) ∧ ((iI (16 * x1)) ∧ ((iI (139 + (16 * x1))) ∧ ((iI ((139 + (16 * x1)) + 8)) ∧ ((0 ≤ (139 + (16 * x1)) + 8 ∧ (139 + (16 * x1)) + 8 < 787) ∧ ((iI ((d 66 (147 + 16 * x1)) + 1)) ∧ ((iI ((139 + (16 * x1)) + 10)) ∧ ((0 ≤ (139 + (16 * x1)) + 10 ∧ (139 + (16 * x1)) + 10 < 787) ∧ ((iI (((ud (mChg (ud d 65 5 0)) 66 (147 + 16 * x1) ((d 66 (147 + 16 * x1)) + 1)) 66 (149 + 16 * x1)) + x2)) ∧ ((RW ((ud (ud (ud (ud (mChg (ud d 65 5 0)) 66 (147 + 16 * x1) ((d 66 (147 + 16 * x1)) + 1)) 66 (149 + 16 * x1) (((ud (mChg (ud d 65 5 0)) 66 (147 + 16 * x1) ((d 66 (147 + 16 * x1)) + 1)) 66 (149 + 16 * x1)) + x2)) 66 (150 + 16 * x1 + (((ud (ud (mChg (ud d 65 5 0)) 66 (147 + 16 * x1) ((d 66 (147 + 16 * x1)) + 1)) 66 (149 + 16 * x1) (((ud (mChg (ud d 65 5 0)) 66 (147 + 16 * x1) ((d 66 (147 + 16 * x1)) + 1)) 66 (149 + 16 * x1)) + x2)) 66 (146 + 16 * x1)))) x2) 66 (146 + 16 * x1) ((((ud (ud (mChg (ud d 65 5 0)) 66 (147 + 16 * x1) ((d 66 (147 + 16 * x1)) + 1)) 66 (149 + 16 * x1) (((ud (mChg (ud d 65 5 0)) 66 (147 + 16 * x1) ((d 66 (147 + 16 * x1)) + 1)) 66 (149 + 16 * x1)) + x2)) 66 (146 + 16 * x1))) + 1)) 66)) ∧ ((0 ≤ x1 ∧ x1 < ((ud (ud (mChg (ud d 65 5 0)) 66 (147 + 16 * x1) ((d 66 (147 + 16 * x1)) + 1)) 66 (149 + 16 * x1) (((ud (mChg (ud d 65 5 0)) 66 (147 + 16 * x1) ((d 66 (147 + 16 * x1)) + 1)) 66 (149 + 16 * x1)) + x2)) 66 3)) ∧ ((0 ≤ ((ud (ud (mChg (ud d 65 5 0)) 66 (147 + 16 * x1) ((d 66 (147 + 16 * x1)) + 1)) 66 (149 + 16 * x1) (((ud (mChg (ud d 65 5 0)) 66 (147 + 16 * x1) ((d 66 (147 + 16 * x1)) + 1)) 66 (149 + 16 * x1)) + x2)) 66 (146 + 16 * x1)) ∧ ((ud (ud (mChg (ud d 65 5 0)) 66 (147 + 16 * x1) ((d 66 (147 + 16 * x1)) + 1)) 66 (149 + 16 * x1) (((ud (mChg (ud d 65 5 0)) 66 (147 + 16 * x1) ((d 66 (147 + 16 * x1)) + 1)) 66 (149 + 16 * x1)) + x2)) 66 (146 + 16 * x1)) < 5) ∧ (Q (.inl (grF ((ud (ud (mChg (ud d 65 5 0)) 66 (147 + 16 * x1) ((d 66 (147 + 16 * x1)) + 1)) 66 (149 + 16 * x1) (((ud (mChg (ud d 65 5 0)) 66 (147 + 16 * x1) ((d 66 (147 + 16 * x1)) + 1)) 66 (149 + 16 * x1)) + x2)) 66) x1 + x2)) g (ud (ud (ud (ud (mChg (ud d 65 5 0)) 66 (147 + 16 * x1) ((d 66 (147 + 16 * x1)) + 1)) 66 (149 + 16 * x1) (((ud (mChg (ud d 65 5 0)) 66 (147 + 16 * x1) ((d 66 (147 + 16 * x1)) + 1)) 66 (149 + 16 * x1)) + x2)) 66 (150 + 16 * x1 + (((ud (ud (mChg (ud d 65 5 0)) 66 (147 + 16 * x1) ((d 66 (147 + 16 * x1)) + 1)) 66 (149 + 16 * x1) (((ud (mChg (ud d 65 5 0)) 66 (147 + 16 * x1) ((d 66 (147 + 16 * x1)) + 1)) 66 (149 + 16 * x1)) + x2)) 66 (146 + 16 * x1)))) x2) 66 (146 + 16 * x1) ((((ud (ud (mChg (ud d 65 5 0)) 66 (147 + 16 * x1) ((d 66 (147 + 16 * x1)) + 1)) 66 (149 + 16 * x1) (((ud (mChg (ud d 65 5 0)) 66 (147 + 16 * x1) ((d 66 (147 + 16 * x1)) + 1)) 66 (149 + 16 * x1)) + x2)) 66 (146 + 16 * x1))) + 1)))))))))))))))))))))))) : MM mX12_extendByConsent [vR 65, vI x1, vI x2] g d Q := by
  refine MM_of (by decide) rfl (by simp [catV]) (Nat.le_of_ble_eq_true rfl) ?_
  show MW mX12_extendByConsent 0 0 0 [(0, vR 65), (1, vI x1), (2, vI x2)] [] g d Q
  refine mw_top (fun hT => ?_)
  have hG : 76 ≤ g.2.1 := hT.2
  refine mw_aload_n (v := vR 65) (pc' := 1) dX12_extendByConsent_0 rfl rfl (Or.inl rfl) rfl ?_
  refine mw_iconst (pc' := 2) dX12_extendByConsent_1 rfl ⟨by decide, by decide⟩ ?_
  refine mw_putI (ji := 5) (pc' := 5) dX12_extendByConsent_2 rfl (fq_RX12_41_65) (by decide +kernel) rfl (Or.inl ⟨rfl, rc_65_5⟩) (Or.inr rfl) ⟨by decide, by omega⟩ ?_
  refine mw_aload_n (v := vR 65) (pc' := 6) dX12_extendByConsent_5 rfl rfl (Or.inl rfl) rfl ?_
  refine mw_aload_n (v := vR 65) (pc' := 7) dX12_extendByConsent_6 rfl rfl (Or.inl rfl) rfl ?_
  refine mw_iload_n (pc' := 8) dX12_extendByConsent_7 rfl rfl rfl ?_
  obtain ⟨o1, h⟩ := h
  refine mw_callV (M' := mX12_noDeadline) (A := [vI x1]) (A' := [vR 65, vI x1]) (S := [vR 65]) (a := 65) (pc' := 11) dX12_extendByConsent_8 rfl cl_RX12_147 cm_X12_noDeadline cv_X12_noDeadline ⟨by decide, by decide, by decide, by decide, by decide⟩ rfl rfl rfl ⟨by decide, by omega⟩ (by decide +kernel) (by decide +kernel) (Nat.le_of_ble_eq_true rfl) (eX12_noDeadline (⟨o1, ?_⟩))
  show MW mX12_extendByConsent 0 0 11 [(0, vR 65), (1, vI x1), (2, vI x2)] [vI (bI (¬ ((¬ (x1 < 0)) ∧ (¬ (((d 66 3) - 1) < x1))))), vR 65] g (ud d 65 5 0) Q
  refine mw_iconst (pc' := 12) dX12_extendByConsent_11 rfl ⟨by decide, by decide⟩ ?_
  refine mw_callV (M' := mX12_fails) (A := [vI (bI (¬ ((¬ (x1 < 0)) ∧ (¬ (((d 66 3) - 1) < x1))))), vI 1]) (A' := [vR 65, vI (bI (¬ ((¬ (x1 < 0)) ∧ (¬ (((d 66 3) - 1) < x1))))), vI 1]) (S := []) (a := 65) (pc' := 15) dX12_extendByConsent_12 rfl cl_RX12_55 cm_X12_fails cv_X12_fails ⟨by decide, by decide, by decide, by decide, by decide⟩ rfl rfl rfl ⟨by decide, by omega⟩ (by decide +kernel) (by decide +kernel) (Nat.le_of_ble_eq_true rfl) (f_fails (udS) (by decide) ?_)
  refine ⟨fun c2 => ?_, fun c2 => ?_⟩
  · replace h := h.1 (show (¬ ((¬ (x1 < 0)) ∧ (¬ (((d 66 3) - 1) < x1)))) from c2)
    show MW mX12_extendByConsent 0 0 15 [(0, vR 65), (1, vI x1), (2, vI x2)] [vI 1] g (ud (ud d 65 5 0) 65 5 1) Q
    refine mw_if_ne (tgt := 108) (pc' := 18) dX12_extendByConsent_15 rfl (by decide) (fun _ => ?_) (fun q => absurd q (by decide))
    refine mw_iconst (pc' := 109) dX12_extendByConsent_108 rfl ⟨by decide, by decide⟩ ?_
    exact mw_iret (pc' := 0) (S := []) dX12_extendByConsent_109 rfl (Or.inl rfl) h
  · replace h := h.2 (show (¬ (x1 < 0)) ∧ (¬ (((d 66 3) - 1) < x1)) from (Classical.not_not.mp c2))
    show MW mX12_extendByConsent 0 0 15 [(0, vR 65), (1, vI x1), (2, vI x2)] [vI 0] g (ud d 65 5 0) Q
    refine mw_if_ne (tgt := 108) (pc' := 18) dX12_extendByConsent_15 rfl (by decide) (fun q => absurd q (by decide)) (fun _ => ?_)
    refine mw_aload_n (v := vR 65) (pc' := 19) dX12_extendByConsent_18 rfl rfl (Or.inl rfl) rfl ?_
    refine mw_iload_n (pc' := 20) dX12_extendByConsent_19 rfl rfl rfl ?_
    refine mw_iconst (pc' := 21) dX12_extendByConsent_20 rfl ⟨by decide, by decide⟩ ?_
    refine mw_bipush (pc' := 23) dX12_extendByConsent_21 rfl ⟨by decide, by decide⟩ ?_
    refine mw_callS (M' := mX12_in) (A := [vI x2, vI 1, vI 28]) (S := [vR 65]) (pc' := 26) dX12_extendByConsent_23 rfl cl_RX12_64 cm_X12_in cs_X12_in ⟨by decide, by decide, by decide, by decide, by decide⟩ rfl rfl (Nat.le_of_ble_eq_true rfl) (eX12_in ?_)
    show MW mX12_extendByConsent 0 0 26 [(0, vR 65), (1, vI x1), (2, vI x2)] [vI (bI ((¬ (x2 < 1)) ∧ (¬ (28 < x2)))), vR 65] g (ud d 65 5 0) Q
    suffices k3 : MW mX12_extendByConsent 0 0 34 [(0, vR 65), (1, vI x1), (2, vI x2)] [vI (bI (¬ ((¬ (x2 < 1)) ∧ (¬ (28 < x2))))), vR 65] g (ud d 65 5 0) Q by
      refine mw_if_ne (tgt := 33) (pc' := 29) dX12_extendByConsent_26 rfl (by decide) (fun c4 => ?_) (fun c4 => ?_)
      · replace c4 := bI_n0.mp c4
        refine mw_iconst (pc' := 34) dX12_extendByConsent_33 rfl ⟨by decide, by decide⟩ ?_
        exact mw_st (bI_f (fun h => (h c4))).symm k3
      · replace c4 := bI_0.mp c4
        refine mw_iconst (pc' := 30) dX12_extendByConsent_29 rfl ⟨by decide, by decide⟩ ?_
        refine mw_goto (pc' := 0) (tgt := 34) dX12_extendByConsent_30 (by decide) ?_
        exact mw_st (bI_t c4).symm k3
    refine mw_iconst (pc' := 35) dX12_extendByConsent_34 rfl ⟨by decide, by decide⟩ ?_
    refine mw_callV (M' := mX12_fails) (A := [vI (bI (¬ ((¬ (x2 < 1)) ∧ (¬ (28 < x2))))), vI 2]) (A' := [vR 65, vI (bI (¬ ((¬ (x2 < 1)) ∧ (¬ (28 < x2))))), vI 2]) (S := []) (a := 65) (pc' := 38) dX12_extendByConsent_35 rfl cl_RX12_55 cm_X12_fails cv_X12_fails ⟨by decide, by decide, by decide, by decide, by decide⟩ rfl rfl rfl ⟨by decide, by omega⟩ (by decide +kernel) (by decide +kernel) (Nat.le_of_ble_eq_true rfl) (f_fails (udS) (by decide) ?_)
    refine ⟨fun c5 => ?_, fun c5 => ?_⟩
    · replace h := h.1 (show (¬ ((¬ (x2 < 1)) ∧ (¬ (28 < x2)))) from c5)
      show MW mX12_extendByConsent 0 0 38 [(0, vR 65), (1, vI x1), (2, vI x2)] [vI 1] g (ud (ud d 65 5 0) 65 5 2) Q
      refine mw_if_ne (tgt := 108) (pc' := 41) dX12_extendByConsent_38 rfl (by decide) (fun _ => ?_) (fun q => absurd q (by decide))
      refine mw_iconst (pc' := 109) dX12_extendByConsent_108 rfl ⟨by decide, by decide⟩ ?_
      exact mw_iret (pc' := 0) (S := []) dX12_extendByConsent_109 rfl (Or.inl rfl) h
    · replace h := h.2 (show (¬ (x2 < 1)) ∧ (¬ (28 < x2)) from (Classical.not_not.mp c5))
      show MW mX12_extendByConsent 0 0 38 [(0, vR 65), (1, vI x1), (2, vI x2)] [vI 0] g (ud d 65 5 0) Q
      refine mw_if_ne (tgt := 108) (pc' := 41) dX12_extendByConsent_38 rfl (by decide) (fun q => absurd q (by decide)) (fun _ => ?_)
      refine mw_aload_n (v := vR 65) (pc' := 42) dX12_extendByConsent_41 rfl rfl (Or.inl rfl) rfl ?_
      refine mw_aload_n (v := vR 65) (pc' := 43) dX12_extendByConsent_42 rfl rfl (Or.inl rfl) rfl ?_
      refine mw_iload_n (pc' := 44) dX12_extendByConsent_43 rfl rfl rfl ?_
      obtain ⟨o6, h⟩ := h
      refine mw_callV (M' := mX12_isOpen) (A := [vI x1]) (A' := [vR 65, vI x1]) (S := [vR 65]) (a := 65) (pc' := 47) dX12_extendByConsent_44 rfl cl_RX12_165 cm_X12_isOpen cv_X12_isOpen ⟨by decide, by decide, by decide, by decide, by decide⟩ rfl rfl rfl ⟨by decide, by omega⟩ (by decide +kernel) (by decide +kernel) (Nat.le_of_ble_eq_true rfl) (eX12_isOpen (⟨o6, ?_⟩))
      show MW mX12_extendByConsent 0 0 47 [(0, vR 65), (1, vI x1), (2, vI x2)] [vI (bI (d 66 (145 + 16 * x1) = 111)), vR 65] g (ud d 65 5 0) Q
      obtain ⟨o7, h⟩ := h
      obtain ⟨o8, h⟩ := h
      suffices k10 : MW mX12_extendByConsent 0 0 74 [(0, vR 65), (1, vI x1), (2, vI x2)] [vI (bI ((¬ (d 66 (145 + 16 * x1) = 111)) ∨ (((¬ (dueM (d 66) x1 = (-1))) ∧ (¬ (d 66 0 ≤ dueM (d 66) x1))) ∨ (d 66 (147 + 16 * x1) = 2)))), vR 65] g (ud d 65 5 0) Q by
        refine mw_if_eq (tgt := 69) (pc' := 50) dX12_extendByConsent_47 rfl (by decide) (fun c11 => ?_) (fun c11 => ?_)
        · replace c11 := bI_0.mp c11
          refine mw_iconst (pc' := 70) dX12_extendByConsent_69 rfl ⟨by decide, by decide⟩ ?_
          refine mw_goto (pc' := 0) (tgt := 74) dX12_extendByConsent_70 (by decide) ?_
          exact mw_st (bI_t (Or.inl c11)).symm k10
        · replace c11 := bI_n0.mp c11
          refine mw_aload_n (v := vR 65) (pc' := 51) dX12_extendByConsent_50 rfl rfl (Or.inl rfl) rfl ?_
          refine mw_iload_n (pc' := 52) dX12_extendByConsent_51 rfl rfl rfl ?_
          refine mw_callV (M' := mX12_isPast) (A := [vI x1]) (A' := [vR 65, vI x1]) (S := [vR 65]) (a := 65) (pc' := 55) dX12_extendByConsent_52 rfl cl_RX12_168 cm_X12_isPast cv_X12_isPast ⟨by decide, by decide, by decide, by decide, by decide⟩ rfl rfl rfl ⟨by decide, by omega⟩ (by decide +kernel) (by decide +kernel) (Nat.le_of_ble_eq_true rfl) (eX12_isPast (⟨(o7 c11), (o8 c11), ?_⟩))
          show MW mX12_extendByConsent 0 0 55 [(0, vR 65), (1, vI x1), (2, vI x2)] [vI (bI ((¬ (dueM (d 66) x1 = (-1))) ∧ (¬ (d 66 0 ≤ dueM (d 66) x1)))), vR 65] g (ud d 65 5 0) Q
          refine mw_if_ne (tgt := 69) (pc' := 58) dX12_extendByConsent_55 rfl (by decide) (fun c12 => ?_) (fun c12 => ?_)
          · replace c12 := bI_n0.mp c12
            refine mw_iconst (pc' := 70) dX12_extendByConsent_69 rfl ⟨by decide, by decide⟩ ?_
            refine mw_goto (pc' := 0) (tgt := 74) dX12_extendByConsent_70 (by decide) ?_
            exact mw_st (bI_t (Or.inr (Or.inl c12))).symm k10
          · replace c12 := bI_0.mp c12
            refine mw_aload_n (v := vR 65) (pc' := 59) dX12_extendByConsent_58 rfl rfl (Or.inl rfl) rfl ?_
            refine mw_iload_n (pc' := 60) dX12_extendByConsent_59 rfl rfl rfl ?_
            refine mw_bipush (pc' := 62) dX12_extendByConsent_60 rfl ⟨by decide, by decide⟩ ?_
            refine mw_callV (M' := mX12_of) (A := [vI x1, vI 8]) (A' := [vR 65, vI x1, vI 8]) (S := [vR 65]) (a := 65) (pc' := 65) dX12_extendByConsent_62 rfl cl_RX12_131 cm_X12_of cv_X12_of ⟨by decide, by decide, by decide, by decide, by decide⟩ rfl rfl rfl ⟨by decide, by omega⟩ (by decide +kernel) (by decide +kernel) (Nat.le_of_ble_eq_true rfl) (f_dlOf (k := 147 + 16 * x1) (by omega) (⟨o6, (by decide), ?_⟩))
            show MW mX12_extendByConsent 0 0 65 [(0, vR 65), (1, vI x1), (2, vI x2)] [vI (d 66 (147 + 16 * x1)), vR 65] g (ud d 65 5 0) Q
            refine mw_iconst (pc' := 66) dX12_extendByConsent_65 rfl ⟨by decide, by decide⟩ ?_
            refine mw_icmp_ne (tgt := 73) (pc' := 69) dX12_extendByConsent_66 rfl (by decide) (fun c13 => ?_) (fun c13 => ?_)
            · refine mw_iconst (pc' := 74) dX12_extendByConsent_73 rfl ⟨by decide, by decide⟩ ?_
              exact mw_st (bI_f (fun h => h.elim (fun q => (q c11)) (fun h => h.elim (fun q => (c12 q)) (fun h => (c13 h))))).symm k10
            · refine mw_iconst (pc' := 70) dX12_extendByConsent_69 rfl ⟨by decide, by decide⟩ ?_
              refine mw_goto (pc' := 0) (tgt := 74) dX12_extendByConsent_70 (by decide) ?_
              exact mw_st (bI_t (Or.inr (Or.inr c13))).symm k10
      refine mw_iconst (pc' := 75) dX12_extendByConsent_74 rfl ⟨by decide, by decide⟩ ?_
      refine mw_callV (M' := mX12_fails) (A := [vI (bI ((¬ (d 66 (145 + 16 * x1) = 111)) ∨ (((¬ (dueM (d 66) x1 = (-1))) ∧ (¬ (d 66 0 ≤ dueM (d 66) x1))) ∨ (d 66 (147 + 16 * x1) = 2)))), vI 3]) (A' := [vR 65, vI (bI ((¬ (d 66 (145 + 16 * x1) = 111)) ∨ (((¬ (dueM (d 66) x1 = (-1))) ∧ (¬ (d 66 0 ≤ dueM (d 66) x1))) ∨ (d 66 (147 + 16 * x1) = 2)))), vI 3]) (S := []) (a := 65) (pc' := 78) dX12_extendByConsent_75 rfl cl_RX12_55 cm_X12_fails cv_X12_fails ⟨by decide, by decide, by decide, by decide, by decide⟩ rfl rfl rfl ⟨by decide, by omega⟩ (by decide +kernel) (by decide +kernel) (Nat.le_of_ble_eq_true rfl) (f_fails (udS) (by decide) ?_)
      refine ⟨fun c14 => ?_, fun c14 => ?_⟩
      · replace h := h.1 (show ((¬ (d 66 (145 + 16 * x1) = 111)) ∨ (((¬ (dueM (d 66) x1 = (-1))) ∧ (¬ (d 66 0 ≤ dueM (d 66) x1))) ∨ (d 66 (147 + 16 * x1) = 2))) from c14)
        show MW mX12_extendByConsent 0 0 78 [(0, vR 65), (1, vI x1), (2, vI x2)] [vI 1] g (ud (ud d 65 5 0) 65 5 3) Q
        refine mw_if_ne (tgt := 108) (pc' := 81) dX12_extendByConsent_78 rfl (by decide) (fun _ => ?_) (fun q => absurd q (by decide))
        refine mw_iconst (pc' := 109) dX12_extendByConsent_108 rfl ⟨by decide, by decide⟩ ?_
        exact mw_iret (pc' := 0) (S := []) dX12_extendByConsent_109 rfl (Or.inl rfl) h
      · replace h := h.2 (show ¬ ((¬ (d 66 (145 + 16 * x1) = 111)) ∨ (((¬ (dueM (d 66) x1 = (-1))) ∧ (¬ (d 66 0 ≤ dueM (d 66) x1))) ∨ (d 66 (147 + 16 * x1) = 2))) from c14)
        show MW mX12_extendByConsent 0 0 78 [(0, vR 65), (1, vI x1), (2, vI x2)] [vI 0] g (ud d 65 5 0) Q
        refine mw_if_ne (tgt := 108) (pc' := 81) dX12_extendByConsent_78 rfl (by decide) (fun q => absurd q (by decide)) (fun _ => ?_)
        refine mw_aload_n (v := vR 65) (pc' := 82) dX12_extendByConsent_81 rfl rfl (Or.inl rfl) rfl ?_
        refine mw_aload_n (v := vR 65) (pc' := 83) dX12_extendByConsent_82 rfl rfl (Or.inl rfl) rfl ?_
        refine mw_iload_n (pc' := 84) dX12_extendByConsent_83 rfl rfl rfl ?_
        refine mw_bipush (pc' := 86) dX12_extendByConsent_84 rfl ⟨by decide, by decide⟩ ?_
        refine mw_callV (M' := mX12_of) (A := [vI x1, vI 10]) (A' := [vR 65, vI x1, vI 10]) (S := [vR 65]) (a := 65) (pc' := 89) dX12_extendByConsent_86 rfl cl_RX12_131 cm_X12_of cv_X12_of ⟨by decide, by decide, by decide, by decide, by decide⟩ rfl rfl rfl ⟨by decide, by omega⟩ (by decide +kernel) (by decide +kernel) (Nat.le_of_ble_eq_true rfl) (f_dlOf (k := 149 + 16 * x1) (by omega) (⟨o6, (by decide), ?_⟩))
        show MW mX12_extendByConsent 0 0 89 [(0, vR 65), (1, vI x1), (2, vI x2)] [vI (d 66 (149 + 16 * x1)), vR 65] g (ud d 65 5 0) Q
        refine mw_iload_n (pc' := 90) dX12_extendByConsent_89 rfl rfl rfl ?_
        obtain ⟨o16, h⟩ := h
        refine mw_iadd (pc' := 91) dX12_extendByConsent_90 rfl o16 ?_
        refine mw_bipush (pc' := 93) dX12_extendByConsent_91 rfl ⟨by decide, by decide⟩ ?_
        suffices k17 : MW mX12_extendByConsent 0 0 101 [(0, vR 65), (1, vI x1), (2, vI x2)] [vI (bI (¬ ((d 66 (149 + 16 * x1)) + x2 ≤ 28))), vR 65] g (ud d 65 5 0) Q by
          refine mw_icmp_le (tgt := 100) (pc' := 96) dX12_extendByConsent_93 rfl (by decide) (fun c18 => ?_) (fun c18 => ?_)
          · refine mw_iconst (pc' := 101) dX12_extendByConsent_100 rfl ⟨by decide, by decide⟩ ?_
            exact mw_st (bI_f (fun h => (h c18))).symm k17
          · refine mw_iconst (pc' := 97) dX12_extendByConsent_96 rfl ⟨by decide, by decide⟩ ?_
            refine mw_goto (pc' := 0) (tgt := 101) dX12_extendByConsent_97 (by decide) ?_
            exact mw_st (bI_t c18).symm k17
        refine mw_iconst (pc' := 102) dX12_extendByConsent_101 rfl ⟨by decide, by decide⟩ ?_
        refine mw_callV (M' := mX12_fails) (A := [vI (bI (¬ ((d 66 (149 + 16 * x1)) + x2 ≤ 28))), vI 4]) (A' := [vR 65, vI (bI (¬ ((d 66 (149 + 16 * x1)) + x2 ≤ 28))), vI 4]) (S := []) (a := 65) (pc' := 105) dX12_extendByConsent_102 rfl cl_RX12_55 cm_X12_fails cv_X12_fails ⟨by decide, by decide, by decide, by decide, by decide⟩ rfl rfl rfl ⟨by decide, by omega⟩ (by decide +kernel) (by decide +kernel) (Nat.le_of_ble_eq_true rfl) (f_fails (udS) (by decide) ?_)
        refine ⟨fun c19 => ?_, fun c19 => ?_⟩
        · replace h := h.1 (show (¬ ((d 66 (149 + 16 * x1)) + x2 ≤ 28)) from c19)
          show MW mX12_extendByConsent 0 0 105 [(0, vR 65), (1, vI x1), (2, vI x2)] [vI 1] g (ud (ud d 65 5 0) 65 5 4) Q
          refine mw_if_eq (tgt := 110) (pc' := 108) dX12_extendByConsent_105 rfl (by decide) (fun q => absurd q (by decide)) (fun _ => ?_)
          refine mw_iconst (pc' := 109) dX12_extendByConsent_108 rfl ⟨by decide, by decide⟩ ?_
          exact mw_iret (pc' := 0) (S := []) dX12_extendByConsent_109 rfl (Or.inl rfl) h
        · replace h := h.2 (show (d 66 (149 + 16 * x1)) + x2 ≤ 28 from (Classical.not_not.mp c19))
          show MW mX12_extendByConsent 0 0 105 [(0, vR 65), (1, vI x1), (2, vI x2)] [vI 0] g (ud d 65 5 0) Q
          refine mw_if_eq (tgt := 110) (pc' := 108) dX12_extendByConsent_105 rfl (by decide) (fun _ => ?_) (fun q => absurd q (by decide))
          refine mw_aload_n (v := vR 65) (pc' := 111) dX12_extendByConsent_110 rfl rfl (Or.inl rfl) rfl ?_
          obtain ⟨o20, h⟩ := h
          refine mw_callV (M' := mX12_change) (A := []) (A' := [vR 65]) (S := []) (a := 65) (pc' := 114) dX12_extendByConsent_111 rfl cl_RX12_93 cm_X12_change cv_X12_change ⟨by decide, by decide, by decide, by decide, by decide⟩ rfl rfl rfl ⟨by decide, by omega⟩ (by decide +kernel) (by decide +kernel) (Nat.le_of_ble_eq_true rfl) (f_change (⟨o20, ?_⟩))
          show MW mX12_extendByConsent 0 0 114 [(0, vR 65), (1, vI x1), (2, vI x2)] [] g (mChg (ud d 65 5 0)) Q
          refine mw_aload_n (v := vR 65) (pc' := 115) dX12_extendByConsent_114 rfl rfl (Or.inl rfl) rfl ?_
          refine mw_getP (v := 66) (pc' := 118) dX12_extendByConsent_115 rfl fr_RX12_9_65 rfl sp_65_0 ⟨by decide, by decide⟩ ?_
          refine mw_iload_n (pc' := 119) dX12_extendByConsent_118 rfl rfl rfl ?_
          obtain ⟨o21, h⟩ := h
          obtain ⟨o22, h⟩ := h
          refine mw_callS (M' := mX12_deadlineAt) (A := [vI x1]) (S := [vR 66]) (pc' := 122) dX12_extendByConsent_119 rfl cl_RX12_128 cm_X12_deadlineAt cs_X12_deadlineAt ⟨by decide, by decide, by decide, by decide, by decide⟩ rfl rfl (Nat.le_of_ble_eq_true rfl) (eX12_deadlineAt (⟨o21, o22, ?_⟩))
          show MW mX12_extendByConsent 0 0 122 [(0, vR 65), (1, vI x1), (2, vI x2)] [vI (139 + (16 * x1)), vR 66] g (mChg (ud d 65 5 0)) Q
          refine mw_bipush (pc' := 124) dX12_extendByConsent_122 rfl ⟨by decide, by decide⟩ ?_
          obtain ⟨o23, h⟩ := h
          refine mw_iadd (pc' := 125) dX12_extendByConsent_124 rfl o23 ?_
          refine mw_dup2 (pc' := 126) dX12_extendByConsent_125 rfl rfl rfl ?_
          obtain ⟨o24, h⟩ := h
          refine mw_iald (pc' := 127) dX12_extendByConsent_126 rfl lk_66 ⟨by decide, by decide⟩ (by rw [ln_66]; exact o24) ?_
          refine mw_st (b := (mChg (ud d 65 5 0)) 66 (147 + 16 * x1)) (congrArg ((mChg (ud d 65 5 0)) 66) (by omega)) ?_
          refine mw_st (b := d 66 (147 + 16 * x1)) (Eq.trans (mChg_fr (by omega)) (udA (by decide) (rfl))) ?_
          refine mw_iconst (pc' := 128) dX12_extendByConsent_127 rfl ⟨by decide, by decide⟩ ?_
          obtain ⟨o25, h⟩ := h
          refine mw_iadd (pc' := 129) dX12_extendByConsent_128 rfl o25 ?_
          refine mw_iast (pc' := 130) dX12_extendByConsent_129 rfl lk_66 ⟨by decide, by decide⟩ (by rw [ln_66]; exact o24) ?_
          refine mw_dd (b := (ud (mChg (ud d 65 5 0)) 66 (147 + 16 * x1) ((d 66 (147 + 16 * x1)) + 1))) (congrArg (fun z => ud (mChg (ud d 65 5 0)) 66 z ((d 66 (147 + 16 * x1)) + 1)) (by omega)) ?_
          refine mw_aload_n (v := vR 65) (pc' := 131) dX12_extendByConsent_130 rfl rfl (Or.inl rfl) rfl ?_
          refine mw_getP (v := 66) (pc' := 134) dX12_extendByConsent_131 rfl fr_RX12_9_65 rfl sp_65_0 ⟨by decide, by decide⟩ ?_
          refine mw_iload_n (pc' := 135) dX12_extendByConsent_134 rfl rfl rfl ?_
          refine mw_callS (M' := mX12_deadlineAt) (A := [vI x1]) (S := [vR 66]) (pc' := 138) dX12_extendByConsent_135 rfl cl_RX12_128 cm_X12_deadlineAt cs_X12_deadlineAt ⟨by decide, by decide, by decide, by decide, by decide⟩ rfl rfl (Nat.le_of_ble_eq_true rfl) (eX12_deadlineAt (⟨o21, o22, ?_⟩))
          show MW mX12_extendByConsent 0 0 138 [(0, vR 65), (1, vI x1), (2, vI x2)] [vI (139 + (16 * x1)), vR 66] g (ud (mChg (ud d 65 5 0)) 66 (147 + 16 * x1) ((d 66 (147 + 16 * x1)) + 1)) Q
          refine mw_bipush (pc' := 140) dX12_extendByConsent_138 rfl ⟨by decide, by decide⟩ ?_
          obtain ⟨o29, h⟩ := h
          refine mw_iadd (pc' := 141) dX12_extendByConsent_140 rfl o29 ?_
          refine mw_dup2 (pc' := 142) dX12_extendByConsent_141 rfl rfl rfl ?_
          obtain ⟨o30, h⟩ := h
          refine mw_iald (pc' := 143) dX12_extendByConsent_142 rfl lk_66 ⟨by decide, by decide⟩ (by rw [ln_66]; exact o30) ?_
          refine mw_st (b := (ud (mChg (ud d 65 5 0)) 66 (147 + 16 * x1) ((d 66 (147 + 16 * x1)) + 1)) 66 (149 + 16 * x1)) (congrArg ((ud (mChg (ud d 65 5 0)) 66 (147 + 16 * x1) ((d 66 (147 + 16 * x1)) + 1)) 66) (by omega)) ?_
          refine mw_iload_n (pc' := 144) dX12_extendByConsent_143 rfl rfl rfl ?_
          obtain ⟨o31, h⟩ := h
          refine mw_iadd (pc' := 145) dX12_extendByConsent_144 rfl o31 ?_
          refine mw_iast (pc' := 146) dX12_extendByConsent_145 rfl lk_66 ⟨by decide, by decide⟩ (by rw [ln_66]; exact o30) ?_
          refine mw_dd (b := (ud (ud (mChg (ud d 65 5 0)) 66 (147 + 16 * x1) ((d 66 (147 + 16 * x1)) + 1)) 66 (149 + 16 * x1) (((ud (mChg (ud d 65 5 0)) 66 (147 + 16 * x1) ((d 66 (147 + 16 * x1)) + 1)) 66 (149 + 16 * x1)) + x2))) (congrArg (fun z => ud (ud (mChg (ud d 65 5 0)) 66 (147 + 16 * x1) ((d 66 (147 + 16 * x1)) + 1)) 66 z (((ud (mChg (ud d 65 5 0)) 66 (147 + 16 * x1) ((d 66 (147 + 16 * x1)) + 1)) 66 (149 + 16 * x1)) + x2)) (by omega)) ?_
          refine mw_aload_n (v := vR 65) (pc' := 147) dX12_extendByConsent_146 rfl rfl (Or.inl rfl) rfl ?_
          refine mw_iload_n (pc' := 148) dX12_extendByConsent_147 rfl rfl rfl ?_
          refine mw_iload_n (pc' := 149) dX12_extendByConsent_148 rfl rfl rfl ?_
          obtain ⟨o33, h⟩ := h
          obtain ⟨o34, h⟩ := h
          obtain ⟨o35, h⟩ := h
          refine mw_callV (M' := mX12_grant) (A := [vI x1, vI x2]) (A' := [vR 65, vI x1, vI x2]) (S := []) (a := 65) (pc' := 152) dX12_extendByConsent_149 rfl cl_RX12_171 cm_X12_grant cv_X12_grant ⟨by decide, by decide, by decide, by decide, by decide⟩ rfl rfl rfl ⟨by decide, by omega⟩ (by decide +kernel) (by decide +kernel) (Nat.le_of_ble_eq_true rfl) (f_grant (⟨o33, o34, o35, ?_⟩))
          show MW mX12_extendByConsent 0 0 152 [(0, vR 65), (1, vI x1), (2, vI x2)] [vI (grF ((ud (ud (mChg (ud d 65 5 0)) 66 (147 + 16 * x1) ((d 66 (147 + 16 * x1)) + 1)) 66 (149 + 16 * x1) (((ud (mChg (ud d 65 5 0)) 66 (147 + 16 * x1) ((d 66 (147 + 16 * x1)) + 1)) 66 (149 + 16 * x1)) + x2)) 66) x1 + x2)] g (ud (ud (ud (ud (mChg (ud d 65 5 0)) 66 (147 + 16 * x1) ((d 66 (147 + 16 * x1)) + 1)) 66 (149 + 16 * x1) (((ud (mChg (ud d 65 5 0)) 66 (147 + 16 * x1) ((d 66 (147 + 16 * x1)) + 1)) 66 (149 + 16 * x1)) + x2)) 66 (150 + 16 * x1 + (((ud (ud (mChg (ud d 65 5 0)) 66 (147 + 16 * x1) ((d 66 (147 + 16 * x1)) + 1)) 66 (149 + 16 * x1) (((ud (mChg (ud d 65 5 0)) 66 (147 + 16 * x1) ((d 66 (147 + 16 * x1)) + 1)) 66 (149 + 16 * x1)) + x2)) 66 (146 + 16 * x1)))) x2) 66 (146 + 16 * x1) ((((ud (ud (mChg (ud d 65 5 0)) 66 (147 + 16 * x1) ((d 66 (147 + 16 * x1)) + 1)) 66 (149 + 16 * x1) (((ud (mChg (ud d 65 5 0)) 66 (147 + 16 * x1) ((d 66 (147 + 16 * x1)) + 1)) 66 (149 + 16 * x1)) + x2)) 66 (146 + 16 * x1))) + 1)) Q
          exact mw_iret (pc' := 0) (S := []) dX12_extendByConsent_152 rfl (Or.inl rfl) h
theorem eX12_extendByOrder {x1 x2 : Int} {g : mG} {d : mD} {Q : mQ} (h : (iI ((d 66 3) - 1)) ∧ ((((¬ ((¬ (x1 < 0)) ∧ (¬ (((d 66 3) - 1) < x1))))) → Q (.inl 0) g (ud (ud d 65 5 0) 65 5 1)) ∧ (((¬ (x1 < 0)) ∧ (¬ (((d 66 3) - 1) < x1))) → (((¬ ((¬ (x2 < 1)) ∧ (¬ (100 < x2))))) → Q (.inl 0) g (ud (ud d 65 5 0) 65 5 2)) ∧ (((¬ (x2 < 1)) ∧ (¬ (100 < x2))) → (0 ≤ x1 ∧ x1 < 30) ∧ (((((¬ (d 66 (145 + 16 * x1) = 111)) ∨ (d 66 (148 + 16 * x1) = 3))) → Q (.inl 0) g (ud (ud d 65 5 0) 65 5 3)) ∧ ((¬ ((¬ (d 66 (145 + 16 * x1) = 111)) ∨ (d 66 (148 + 16 * x1) = 3))) → (0 ≤ d 65 3 ∧ d 65 3 ≤ 8) ∧ ((iI (16 * x1)) ∧ ((iI (139 + (16 * x1))) ∧ ((iI ((139 + (16 * x1)) + 9)) ∧ ((0 ≤ (139 + (16 * x1)) + 9 ∧ (139 + (16 * x1)) + 9 < 787) ∧ ((iI ((d 66 (148 + 16 * x1)) + 1)) ∧ ((RW ((ud (ud (ud (mChg (ud d 65 5 0)) 66 (148 + 16 * x1) ((d 66 (148 + 16 * x1)) + 1)) 66 (150 + 16 * x1 + (((ud (mChg (ud d 65 5 0)) 66 (148 + 16 * x1) ((d 66 (148 + 16 * x1)) + 1)) 66 (146 + 16 * x1)))) x2) 66 (146 + 16 * x1) ((((ud (mChg (ud d 65 5 0)) 66 (148 + 16 * x1) ((d 66 (148 + 16 * x1)) + 1)) 66 (146 + 16 * x1))) + 1)) 66)) ∧ ((0 ≤ x1 ∧ x1 < ((ud (mChg (ud d 65 5 0)) 66 (148 + 16 * x1) ((d 66 (148 + 16 * x1)) + 1)) 66 3)) ∧ ((0 ≤ ((ud (mChg (ud d 65 5 0)) 66 (148 + 16 * x1) ((d 66 (148 + 16 * x1)) + 1)) 66 (146 + 16 * x1)) ∧ ((ud (mChg (ud d 65 5 0)) 66 (148 + 16 * x1) ((d 66 (148 + 16 * x1)) + 1)) 66 (146 + 16 * x1)) < 5) ∧ (Q (.inl (grF ((ud (mChg (ud d 65 5 0)) 66 (148 + 16 * x1) ((d 66 (148 + 16 * x1)) + 1)) 66) x1 + x2)) g (ud (ud (ud (mChg (ud d 65 5 0)) 66 (148 + 16 * x1) ((d 66 (148 + 16 * x1)) + 1)) 66 (150 + 16 * x1 + (((ud (mChg (ud d 65 5 0)) 66 (148 + 16 * x1) ((d 66 (148 + 16 * x1)) + 1)) 66 (146 + 16 * x1)))) x2) 66 (146 + 16 * x1) ((((ud (mChg (ud d 65 5 0)) 66 (148 + 16 * x1) ((d 66 (148 + 16 * x1)) + 1)) 66 (146 + 16 * x1))) + 1))))))))))))))))) : MM mX12_extendByOrder [vR 65, vI x1, vI x2] g d Q := by
  refine MM_of (by decide) rfl (by simp [catV]) (Nat.le_of_ble_eq_true rfl) ?_
  show MW mX12_extendByOrder 0 0 0 [(0, vR 65), (1, vI x1), (2, vI x2)] [] g d Q
  refine mw_top (fun hT => ?_)
  have hG : 76 ≤ g.2.1 := hT.2
  refine mw_aload_n (v := vR 65) (pc' := 1) dX12_extendByOrder_0 rfl rfl (Or.inl rfl) rfl ?_
  refine mw_iconst (pc' := 2) dX12_extendByOrder_1 rfl ⟨by decide, by decide⟩ ?_
  refine mw_putI (ji := 5) (pc' := 5) dX12_extendByOrder_2 rfl (fq_RX12_41_65) (by decide +kernel) rfl (Or.inl ⟨rfl, rc_65_5⟩) (Or.inr rfl) ⟨by decide, by omega⟩ ?_
  refine mw_aload_n (v := vR 65) (pc' := 6) dX12_extendByOrder_5 rfl rfl (Or.inl rfl) rfl ?_
  refine mw_aload_n (v := vR 65) (pc' := 7) dX12_extendByOrder_6 rfl rfl (Or.inl rfl) rfl ?_
  refine mw_iload_n (pc' := 8) dX12_extendByOrder_7 rfl rfl rfl ?_
  obtain ⟨o1, h⟩ := h
  refine mw_callV (M' := mX12_noDeadline) (A := [vI x1]) (A' := [vR 65, vI x1]) (S := [vR 65]) (a := 65) (pc' := 11) dX12_extendByOrder_8 rfl cl_RX12_147 cm_X12_noDeadline cv_X12_noDeadline ⟨by decide, by decide, by decide, by decide, by decide⟩ rfl rfl rfl ⟨by decide, by omega⟩ (by decide +kernel) (by decide +kernel) (Nat.le_of_ble_eq_true rfl) (eX12_noDeadline (⟨o1, ?_⟩))
  show MW mX12_extendByOrder 0 0 11 [(0, vR 65), (1, vI x1), (2, vI x2)] [vI (bI (¬ ((¬ (x1 < 0)) ∧ (¬ (((d 66 3) - 1) < x1))))), vR 65] g (ud d 65 5 0) Q
  refine mw_iconst (pc' := 12) dX12_extendByOrder_11 rfl ⟨by decide, by decide⟩ ?_
  refine mw_callV (M' := mX12_fails) (A := [vI (bI (¬ ((¬ (x1 < 0)) ∧ (¬ (((d 66 3) - 1) < x1))))), vI 1]) (A' := [vR 65, vI (bI (¬ ((¬ (x1 < 0)) ∧ (¬ (((d 66 3) - 1) < x1))))), vI 1]) (S := []) (a := 65) (pc' := 15) dX12_extendByOrder_12 rfl cl_RX12_55 cm_X12_fails cv_X12_fails ⟨by decide, by decide, by decide, by decide, by decide⟩ rfl rfl rfl ⟨by decide, by omega⟩ (by decide +kernel) (by decide +kernel) (Nat.le_of_ble_eq_true rfl) (f_fails (udS) (by decide) ?_)
  refine ⟨fun c2 => ?_, fun c2 => ?_⟩
  · replace h := h.1 (show (¬ ((¬ (x1 < 0)) ∧ (¬ (((d 66 3) - 1) < x1)))) from c2)
    show MW mX12_extendByOrder 0 0 15 [(0, vR 65), (1, vI x1), (2, vI x2)] [vI 1] g (ud (ud d 65 5 0) 65 5 1) Q
    refine mw_if_ne (tgt := 73) (pc' := 18) dX12_extendByOrder_15 rfl (by decide) (fun _ => ?_) (fun q => absurd q (by decide))
    refine mw_iconst (pc' := 74) dX12_extendByOrder_73 rfl ⟨by decide, by decide⟩ ?_
    exact mw_iret (pc' := 0) (S := []) dX12_extendByOrder_74 rfl (Or.inl rfl) h
  · replace h := h.2 (show (¬ (x1 < 0)) ∧ (¬ (((d 66 3) - 1) < x1)) from (Classical.not_not.mp c2))
    show MW mX12_extendByOrder 0 0 15 [(0, vR 65), (1, vI x1), (2, vI x2)] [vI 0] g (ud d 65 5 0) Q
    refine mw_if_ne (tgt := 73) (pc' := 18) dX12_extendByOrder_15 rfl (by decide) (fun q => absurd q (by decide)) (fun _ => ?_)
    refine mw_aload_n (v := vR 65) (pc' := 19) dX12_extendByOrder_18 rfl rfl (Or.inl rfl) rfl ?_
    refine mw_iload_n (pc' := 20) dX12_extendByOrder_19 rfl rfl rfl ?_
    refine mw_iconst (pc' := 21) dX12_extendByOrder_20 rfl ⟨by decide, by decide⟩ ?_
    refine mw_bipush (pc' := 23) dX12_extendByOrder_21 rfl ⟨by decide, by decide⟩ ?_
    refine mw_callS (M' := mX12_in) (A := [vI x2, vI 1, vI 100]) (S := [vR 65]) (pc' := 26) dX12_extendByOrder_23 rfl cl_RX12_64 cm_X12_in cs_X12_in ⟨by decide, by decide, by decide, by decide, by decide⟩ rfl rfl (Nat.le_of_ble_eq_true rfl) (eX12_in ?_)
    show MW mX12_extendByOrder 0 0 26 [(0, vR 65), (1, vI x1), (2, vI x2)] [vI (bI ((¬ (x2 < 1)) ∧ (¬ (100 < x2)))), vR 65] g (ud d 65 5 0) Q
    suffices k3 : MW mX12_extendByOrder 0 0 34 [(0, vR 65), (1, vI x1), (2, vI x2)] [vI (bI (¬ ((¬ (x2 < 1)) ∧ (¬ (100 < x2))))), vR 65] g (ud d 65 5 0) Q by
      refine mw_if_ne (tgt := 33) (pc' := 29) dX12_extendByOrder_26 rfl (by decide) (fun c4 => ?_) (fun c4 => ?_)
      · replace c4 := bI_n0.mp c4
        refine mw_iconst (pc' := 34) dX12_extendByOrder_33 rfl ⟨by decide, by decide⟩ ?_
        exact mw_st (bI_f (fun h => (h c4))).symm k3
      · replace c4 := bI_0.mp c4
        refine mw_iconst (pc' := 30) dX12_extendByOrder_29 rfl ⟨by decide, by decide⟩ ?_
        refine mw_goto (pc' := 0) (tgt := 34) dX12_extendByOrder_30 (by decide) ?_
        exact mw_st (bI_t c4).symm k3
    refine mw_iconst (pc' := 35) dX12_extendByOrder_34 rfl ⟨by decide, by decide⟩ ?_
    refine mw_callV (M' := mX12_fails) (A := [vI (bI (¬ ((¬ (x2 < 1)) ∧ (¬ (100 < x2))))), vI 2]) (A' := [vR 65, vI (bI (¬ ((¬ (x2 < 1)) ∧ (¬ (100 < x2))))), vI 2]) (S := []) (a := 65) (pc' := 38) dX12_extendByOrder_35 rfl cl_RX12_55 cm_X12_fails cv_X12_fails ⟨by decide, by decide, by decide, by decide, by decide⟩ rfl rfl rfl ⟨by decide, by omega⟩ (by decide +kernel) (by decide +kernel) (Nat.le_of_ble_eq_true rfl) (f_fails (udS) (by decide) ?_)
    refine ⟨fun c5 => ?_, fun c5 => ?_⟩
    · replace h := h.1 (show (¬ ((¬ (x2 < 1)) ∧ (¬ (100 < x2)))) from c5)
      show MW mX12_extendByOrder 0 0 38 [(0, vR 65), (1, vI x1), (2, vI x2)] [vI 1] g (ud (ud d 65 5 0) 65 5 2) Q
      refine mw_if_ne (tgt := 73) (pc' := 41) dX12_extendByOrder_38 rfl (by decide) (fun _ => ?_) (fun q => absurd q (by decide))
      refine mw_iconst (pc' := 74) dX12_extendByOrder_73 rfl ⟨by decide, by decide⟩ ?_
      exact mw_iret (pc' := 0) (S := []) dX12_extendByOrder_74 rfl (Or.inl rfl) h
    · replace h := h.2 (show (¬ (x2 < 1)) ∧ (¬ (100 < x2)) from (Classical.not_not.mp c5))
      show MW mX12_extendByOrder 0 0 38 [(0, vR 65), (1, vI x1), (2, vI x2)] [vI 0] g (ud d 65 5 0) Q
      refine mw_if_ne (tgt := 73) (pc' := 41) dX12_extendByOrder_38 rfl (by decide) (fun q => absurd q (by decide)) (fun _ => ?_)
      refine mw_aload_n (v := vR 65) (pc' := 42) dX12_extendByOrder_41 rfl rfl (Or.inl rfl) rfl ?_
      refine mw_aload_n (v := vR 65) (pc' := 43) dX12_extendByOrder_42 rfl rfl (Or.inl rfl) rfl ?_
      refine mw_iload_n (pc' := 44) dX12_extendByOrder_43 rfl rfl rfl ?_
      obtain ⟨o6, h⟩ := h
      refine mw_callV (M' := mX12_isOpen) (A := [vI x1]) (A' := [vR 65, vI x1]) (S := [vR 65]) (a := 65) (pc' := 47) dX12_extendByOrder_44 rfl cl_RX12_165 cm_X12_isOpen cv_X12_isOpen ⟨by decide, by decide, by decide, by decide, by decide⟩ rfl rfl rfl ⟨by decide, by omega⟩ (by decide +kernel) (by decide +kernel) (Nat.le_of_ble_eq_true rfl) (eX12_isOpen (⟨o6, ?_⟩))
      show MW mX12_extendByOrder 0 0 47 [(0, vR 65), (1, vI x1), (2, vI x2)] [vI (bI (d 66 (145 + 16 * x1) = 111)), vR 65] g (ud d 65 5 0) Q
      suffices k8 : MW mX12_extendByOrder 0 0 66 [(0, vR 65), (1, vI x1), (2, vI x2)] [vI (bI ((¬ (d 66 (145 + 16 * x1) = 111)) ∨ (d 66 (148 + 16 * x1) = 3))), vR 65] g (ud d 65 5 0) Q by
        refine mw_if_eq (tgt := 61) (pc' := 50) dX12_extendByOrder_47 rfl (by decide) (fun c9 => ?_) (fun c9 => ?_)
        · replace c9 := bI_0.mp c9
          refine mw_iconst (pc' := 62) dX12_extendByOrder_61 rfl ⟨by decide, by decide⟩ ?_
          refine mw_goto (pc' := 0) (tgt := 66) dX12_extendByOrder_62 (by decide) ?_
          exact mw_st (bI_t (Or.inl c9)).symm k8
        · replace c9 := bI_n0.mp c9
          refine mw_aload_n (v := vR 65) (pc' := 51) dX12_extendByOrder_50 rfl rfl (Or.inl rfl) rfl ?_
          refine mw_iload_n (pc' := 52) dX12_extendByOrder_51 rfl rfl rfl ?_
          refine mw_bipush (pc' := 54) dX12_extendByOrder_52 rfl ⟨by decide, by decide⟩ ?_
          refine mw_callV (M' := mX12_of) (A := [vI x1, vI 9]) (A' := [vR 65, vI x1, vI 9]) (S := [vR 65]) (a := 65) (pc' := 57) dX12_extendByOrder_54 rfl cl_RX12_131 cm_X12_of cv_X12_of ⟨by decide, by decide, by decide, by decide, by decide⟩ rfl rfl rfl ⟨by decide, by omega⟩ (by decide +kernel) (by decide +kernel) (Nat.le_of_ble_eq_true rfl) (f_dlOf (k := 148 + 16 * x1) (by omega) (⟨o6, (by decide), ?_⟩))
          show MW mX12_extendByOrder 0 0 57 [(0, vR 65), (1, vI x1), (2, vI x2)] [vI (d 66 (148 + 16 * x1)), vR 65] g (ud d 65 5 0) Q
          refine mw_iconst (pc' := 58) dX12_extendByOrder_57 rfl ⟨by decide, by decide⟩ ?_
          refine mw_icmp_ne (tgt := 65) (pc' := 61) dX12_extendByOrder_58 rfl (by decide) (fun c10 => ?_) (fun c10 => ?_)
          · refine mw_iconst (pc' := 66) dX12_extendByOrder_65 rfl ⟨by decide, by decide⟩ ?_
            exact mw_st (bI_f (fun h => h.elim (fun q => (q c9)) (fun h => (c10 h)))).symm k8
          · refine mw_iconst (pc' := 62) dX12_extendByOrder_61 rfl ⟨by decide, by decide⟩ ?_
            refine mw_goto (pc' := 0) (tgt := 66) dX12_extendByOrder_62 (by decide) ?_
            exact mw_st (bI_t (Or.inr c10)).symm k8
      refine mw_iconst (pc' := 67) dX12_extendByOrder_66 rfl ⟨by decide, by decide⟩ ?_
      refine mw_callV (M' := mX12_fails) (A := [vI (bI ((¬ (d 66 (145 + 16 * x1) = 111)) ∨ (d 66 (148 + 16 * x1) = 3))), vI 3]) (A' := [vR 65, vI (bI ((¬ (d 66 (145 + 16 * x1) = 111)) ∨ (d 66 (148 + 16 * x1) = 3))), vI 3]) (S := []) (a := 65) (pc' := 70) dX12_extendByOrder_67 rfl cl_RX12_55 cm_X12_fails cv_X12_fails ⟨by decide, by decide, by decide, by decide, by decide⟩ rfl rfl rfl ⟨by decide, by omega⟩ (by decide +kernel) (by decide +kernel) (Nat.le_of_ble_eq_true rfl) (f_fails (udS) (by decide) ?_)
      refine ⟨fun c11 => ?_, fun c11 => ?_⟩
      · replace h := h.1 (show ((¬ (d 66 (145 + 16 * x1) = 111)) ∨ (d 66 (148 + 16 * x1) = 3)) from c11)
        show MW mX12_extendByOrder 0 0 70 [(0, vR 65), (1, vI x1), (2, vI x2)] [vI 1] g (ud (ud d 65 5 0) 65 5 3) Q
        refine mw_if_eq (tgt := 75) (pc' := 73) dX12_extendByOrder_70 rfl (by decide) (fun q => absurd q (by decide)) (fun _ => ?_)
        refine mw_iconst (pc' := 74) dX12_extendByOrder_73 rfl ⟨by decide, by decide⟩ ?_
        exact mw_iret (pc' := 0) (S := []) dX12_extendByOrder_74 rfl (Or.inl rfl) h
      · replace h := h.2 (show ¬ ((¬ (d 66 (145 + 16 * x1) = 111)) ∨ (d 66 (148 + 16 * x1) = 3)) from c11)
        show MW mX12_extendByOrder 0 0 70 [(0, vR 65), (1, vI x1), (2, vI x2)] [vI 0] g (ud d 65 5 0) Q
        refine mw_if_eq (tgt := 75) (pc' := 73) dX12_extendByOrder_70 rfl (by decide) (fun _ => ?_) (fun q => absurd q (by decide))
        refine mw_aload_n (v := vR 65) (pc' := 76) dX12_extendByOrder_75 rfl rfl (Or.inl rfl) rfl ?_
        obtain ⟨o12, h⟩ := h
        refine mw_callV (M' := mX12_change) (A := []) (A' := [vR 65]) (S := []) (a := 65) (pc' := 79) dX12_extendByOrder_76 rfl cl_RX12_93 cm_X12_change cv_X12_change ⟨by decide, by decide, by decide, by decide, by decide⟩ rfl rfl rfl ⟨by decide, by omega⟩ (by decide +kernel) (by decide +kernel) (Nat.le_of_ble_eq_true rfl) (f_change (⟨o12, ?_⟩))
        show MW mX12_extendByOrder 0 0 79 [(0, vR 65), (1, vI x1), (2, vI x2)] [] g (mChg (ud d 65 5 0)) Q
        refine mw_aload_n (v := vR 65) (pc' := 80) dX12_extendByOrder_79 rfl rfl (Or.inl rfl) rfl ?_
        refine mw_getP (v := 66) (pc' := 83) dX12_extendByOrder_80 rfl fr_RX12_9_65 rfl sp_65_0 ⟨by decide, by decide⟩ ?_
        refine mw_iload_n (pc' := 84) dX12_extendByOrder_83 rfl rfl rfl ?_
        obtain ⟨o13, h⟩ := h
        obtain ⟨o14, h⟩ := h
        refine mw_callS (M' := mX12_deadlineAt) (A := [vI x1]) (S := [vR 66]) (pc' := 87) dX12_extendByOrder_84 rfl cl_RX12_128 cm_X12_deadlineAt cs_X12_deadlineAt ⟨by decide, by decide, by decide, by decide, by decide⟩ rfl rfl (Nat.le_of_ble_eq_true rfl) (eX12_deadlineAt (⟨o13, o14, ?_⟩))
        show MW mX12_extendByOrder 0 0 87 [(0, vR 65), (1, vI x1), (2, vI x2)] [vI (139 + (16 * x1)), vR 66] g (mChg (ud d 65 5 0)) Q
        refine mw_bipush (pc' := 89) dX12_extendByOrder_87 rfl ⟨by decide, by decide⟩ ?_
        obtain ⟨o15, h⟩ := h
        refine mw_iadd (pc' := 90) dX12_extendByOrder_89 rfl o15 ?_
        refine mw_dup2 (pc' := 91) dX12_extendByOrder_90 rfl rfl rfl ?_
        obtain ⟨o16, h⟩ := h
        refine mw_iald (pc' := 92) dX12_extendByOrder_91 rfl lk_66 ⟨by decide, by decide⟩ (by rw [ln_66]; exact o16) ?_
        refine mw_st (b := (mChg (ud d 65 5 0)) 66 (148 + 16 * x1)) (congrArg ((mChg (ud d 65 5 0)) 66) (by omega)) ?_
        refine mw_st (b := d 66 (148 + 16 * x1)) (Eq.trans (mChg_fr (by omega)) (udA (by decide) (rfl))) ?_
        refine mw_iconst (pc' := 93) dX12_extendByOrder_92 rfl ⟨by decide, by decide⟩ ?_
        obtain ⟨o17, h⟩ := h
        refine mw_iadd (pc' := 94) dX12_extendByOrder_93 rfl o17 ?_
        refine mw_iast (pc' := 95) dX12_extendByOrder_94 rfl lk_66 ⟨by decide, by decide⟩ (by rw [ln_66]; exact o16) ?_
        refine mw_dd (b := (ud (mChg (ud d 65 5 0)) 66 (148 + 16 * x1) ((d 66 (148 + 16 * x1)) + 1))) (congrArg (fun z => ud (mChg (ud d 65 5 0)) 66 z ((d 66 (148 + 16 * x1)) + 1)) (by omega)) ?_
        refine mw_aload_n (v := vR 65) (pc' := 96) dX12_extendByOrder_95 rfl rfl (Or.inl rfl) rfl ?_
        refine mw_iload_n (pc' := 97) dX12_extendByOrder_96 rfl rfl rfl ?_
        refine mw_iload_n (pc' := 98) dX12_extendByOrder_97 rfl rfl rfl ?_
        obtain ⟨o19, h⟩ := h
        obtain ⟨o20, h⟩ := h
        obtain ⟨o21, h⟩ := h
        refine mw_callV (M' := mX12_grant) (A := [vI x1, vI x2]) (A' := [vR 65, vI x1, vI x2]) (S := []) (a := 65) (pc' := 101) dX12_extendByOrder_98 rfl cl_RX12_171 cm_X12_grant cv_X12_grant ⟨by decide, by decide, by decide, by decide, by decide⟩ rfl rfl rfl ⟨by decide, by omega⟩ (by decide +kernel) (by decide +kernel) (Nat.le_of_ble_eq_true rfl) (f_grant (⟨o19, o20, o21, ?_⟩))
        show MW mX12_extendByOrder 0 0 101 [(0, vR 65), (1, vI x1), (2, vI x2)] [vI (grF ((ud (mChg (ud d 65 5 0)) 66 (148 + 16 * x1) ((d 66 (148 + 16 * x1)) + 1)) 66) x1 + x2)] g (ud (ud (ud (mChg (ud d 65 5 0)) 66 (148 + 16 * x1) ((d 66 (148 + 16 * x1)) + 1)) 66 (150 + 16 * x1 + (((ud (mChg (ud d 65 5 0)) 66 (148 + 16 * x1) ((d 66 (148 + 16 * x1)) + 1)) 66 (146 + 16 * x1)))) x2) 66 (146 + 16 * x1) ((((ud (mChg (ud d 65 5 0)) 66 (148 + 16 * x1) ((d 66 (148 + 16 * x1)) + 1)) 66 (146 + 16 * x1))) + 1)) Q
        exact mw_iret (pc' := 0) (S := []) dX12_extendByOrder_101 rfl (Or.inl rfl) h
theorem eX12_extensionDays {x1 : Int} {g : mG} {d : mD} {Q : mQ} (h : (iI ((d 66 3) - 1)) ∧ ((((¬ ((¬ (x1 < 0)) ∧ (¬ (((d 66 3) - 1) < x1))))) → Q (.inl 0) g (ud (ud d 65 5 0) 65 5 1)) ∧ (((¬ (x1 < 0)) ∧ (¬ (((d 66 3) - 1) < x1))) → (RW (d 66)) ∧ ((0 ≤ x1 ∧ x1 < d 66 3) ∧ (Q (.inl (grF (d 66) x1)) g (ud d 65 5 0)))))) : MM mX12_extensionDays [vR 65, vI x1] g d Q := by
  refine MM_of (by decide) rfl (by simp [catV]) (Nat.le_of_ble_eq_true rfl) ?_
  show MW mX12_extensionDays 0 0 0 [(0, vR 65), (1, vI x1)] [] g d Q
  refine mw_top (fun hT => ?_)
  have hG : 76 ≤ g.2.1 := hT.2
  refine mw_aload_n (v := vR 65) (pc' := 1) dX12_extensionDays_0 rfl rfl (Or.inl rfl) rfl ?_
  refine mw_iconst (pc' := 2) dX12_extensionDays_1 rfl ⟨by decide, by decide⟩ ?_
  refine mw_putI (ji := 5) (pc' := 5) dX12_extensionDays_2 rfl (fq_RX12_41_65) (by decide +kernel) rfl (Or.inl ⟨rfl, rc_65_5⟩) (Or.inr rfl) ⟨by decide, by omega⟩ ?_
  refine mw_aload_n (v := vR 65) (pc' := 6) dX12_extensionDays_5 rfl rfl (Or.inl rfl) rfl ?_
  refine mw_aload_n (v := vR 65) (pc' := 7) dX12_extensionDays_6 rfl rfl (Or.inl rfl) rfl ?_
  refine mw_iload_n (pc' := 8) dX12_extensionDays_7 rfl rfl rfl ?_
  obtain ⟨o1, h⟩ := h
  refine mw_callV (M' := mX12_noDeadline) (A := [vI x1]) (A' := [vR 65, vI x1]) (S := [vR 65]) (a := 65) (pc' := 11) dX12_extensionDays_8 rfl cl_RX12_147 cm_X12_noDeadline cv_X12_noDeadline ⟨by decide, by decide, by decide, by decide, by decide⟩ rfl rfl rfl ⟨by decide, by omega⟩ (by decide +kernel) (by decide +kernel) (Nat.le_of_ble_eq_true rfl) (eX12_noDeadline (⟨o1, ?_⟩))
  show MW mX12_extensionDays 0 0 11 [(0, vR 65), (1, vI x1)] [vI (bI (¬ ((¬ (x1 < 0)) ∧ (¬ (((d 66 3) - 1) < x1))))), vR 65] g (ud d 65 5 0) Q
  refine mw_iconst (pc' := 12) dX12_extensionDays_11 rfl ⟨by decide, by decide⟩ ?_
  refine mw_callV (M' := mX12_fails) (A := [vI (bI (¬ ((¬ (x1 < 0)) ∧ (¬ (((d 66 3) - 1) < x1))))), vI 1]) (A' := [vR 65, vI (bI (¬ ((¬ (x1 < 0)) ∧ (¬ (((d 66 3) - 1) < x1))))), vI 1]) (S := []) (a := 65) (pc' := 15) dX12_extensionDays_12 rfl cl_RX12_55 cm_X12_fails cv_X12_fails ⟨by decide, by decide, by decide, by decide, by decide⟩ rfl rfl rfl ⟨by decide, by omega⟩ (by decide +kernel) (by decide +kernel) (Nat.le_of_ble_eq_true rfl) (f_fails (udS) (by decide) ?_)
  refine ⟨fun c2 => ?_, fun c2 => ?_⟩
  · replace h := h.1 (show (¬ ((¬ (x1 < 0)) ∧ (¬ (((d 66 3) - 1) < x1)))) from c2)
    show MW mX12_extensionDays 0 0 15 [(0, vR 65), (1, vI x1)] [vI 1] g (ud (ud d 65 5 0) 65 5 1) Q
    refine mw_if_eq (tgt := 22) (pc' := 18) dX12_extensionDays_15 rfl (by decide) (fun q => absurd q (by decide)) (fun _ => ?_)
    refine mw_iconst (pc' := 19) dX12_extensionDays_18 rfl ⟨by decide, by decide⟩ ?_
    refine mw_goto (pc' := 0) (tgt := 27) dX12_extensionDays_19 (by decide) ?_
    exact mw_iret (pc' := 0) (S := []) dX12_extensionDays_27 rfl (Or.inl rfl) h
  · replace h := h.2 (show (¬ (x1 < 0)) ∧ (¬ (((d 66 3) - 1) < x1)) from (Classical.not_not.mp c2))
    show MW mX12_extensionDays 0 0 15 [(0, vR 65), (1, vI x1)] [vI 0] g (ud d 65 5 0) Q
    refine mw_if_eq (tgt := 22) (pc' := 18) dX12_extensionDays_15 rfl (by decide) (fun _ => ?_) (fun q => absurd q (by decide))
    refine mw_aload_n (v := vR 65) (pc' := 23) dX12_extensionDays_22 rfl rfl (Or.inl rfl) rfl ?_
    refine mw_iload_n (pc' := 24) dX12_extensionDays_23 rfl rfl rfl ?_
    obtain ⟨o3, h⟩ := h
    obtain ⟨o4, h⟩ := h
    refine mw_callV (M' := mX12_grantedOf) (A := [vI x1]) (A' := [vR 65, vI x1]) (S := []) (a := 65) (pc' := 27) dX12_extensionDays_24 rfl cl_RX12_162 cm_X12_grantedOf cv_X12_grantedOf ⟨by decide, by decide, by decide, by decide, by decide⟩ rfl rfl rfl ⟨by decide, by omega⟩ (by decide +kernel) (by decide +kernel) (Nat.le_of_ble_eq_true rfl) (f_grantedOf (⟨o3, o4, ?_⟩))
    show MW mX12_extensionDays 0 0 27 [(0, vR 65), (1, vI x1)] [vI (grF (d 66) x1)] g (ud d 65 5 0) Q
    exact mw_iret (pc' := 0) (S := []) dX12_extensionDays_27 rfl (Or.inl rfl) h
theorem eX12_file {x1 : Int} {g : mG} {d : mD} {Q : mQ} (h : (iI ((d 66 3) - 1)) ∧ ((((¬ ((¬ (x1 < 0)) ∧ (¬ (((d 66 3) - 1) < x1))))) → Q (.inl 0) g (ud (ud d 65 5 0) 65 5 1)) ∧ (((¬ (x1 < 0)) ∧ (¬ (((d 66 3) - 1) < x1))) → (0 ≤ x1 ∧ x1 < 30) ∧ ((((¬ (d 66 (145 + 16 * x1) = 111))) → Q (.inl 0) g (ud (ud d 65 5 0) 65 5 2)) ∧ ((d 66 (145 + 16 * x1) = 111) → (RW (d 66)) ∧ ((0 ≤ x1 ∧ x1 < d 66 3) ∧ ((0 ≤ d 65 3 ∧ d 65 3 ≤ 8) ∧ ((iI (16 * x1)) ∧ ((iI (139 + (16 * x1))) ∧ ((iI ((139 + (16 * x1)) + 6)) ∧ ((0 ≤ (139 + (16 * x1)) + 6 ∧ (139 + (16 * x1)) + 6 < 787) ∧ (Q (.inl (bI (¬ ((¬ (dueM (d 66) x1 = (-1))) ∧ (¬ (d 66 0 ≤ dueM (d 66) x1)))))) g (ud (mChg (ud d 65 5 0)) 66 (145 + 16 * x1) (iT (¬ ((¬ (dueM (d 66) x1 = (-1))) ∧ (¬ (d 66 0 ≤ dueM (d 66) x1)))) 116 108)))))))))))))) : MM mX12_file [vR 65, vI x1] g d Q := by
  refine MM_of (by decide) rfl (by simp [catV]) (Nat.le_of_ble_eq_true rfl) ?_
  show MW mX12_file 0 0 0 [(0, vR 65), (1, vI x1)] [] g d Q
  refine mw_top (fun hT => ?_)
  have hG : 76 ≤ g.2.1 := hT.2
  refine mw_aload_n (v := vR 65) (pc' := 1) dX12_file_0 rfl rfl (Or.inl rfl) rfl ?_
  refine mw_iconst (pc' := 2) dX12_file_1 rfl ⟨by decide, by decide⟩ ?_
  refine mw_putI (ji := 5) (pc' := 5) dX12_file_2 rfl (fq_RX12_41_65) (by decide +kernel) rfl (Or.inl ⟨rfl, rc_65_5⟩) (Or.inr rfl) ⟨by decide, by omega⟩ ?_
  refine mw_aload_n (v := vR 65) (pc' := 6) dX12_file_5 rfl rfl (Or.inl rfl) rfl ?_
  refine mw_aload_n (v := vR 65) (pc' := 7) dX12_file_6 rfl rfl (Or.inl rfl) rfl ?_
  refine mw_iload_n (pc' := 8) dX12_file_7 rfl rfl rfl ?_
  obtain ⟨o1, h⟩ := h
  refine mw_callV (M' := mX12_noDeadline) (A := [vI x1]) (A' := [vR 65, vI x1]) (S := [vR 65]) (a := 65) (pc' := 11) dX12_file_8 rfl cl_RX12_147 cm_X12_noDeadline cv_X12_noDeadline ⟨by decide, by decide, by decide, by decide, by decide⟩ rfl rfl rfl ⟨by decide, by omega⟩ (by decide +kernel) (by decide +kernel) (Nat.le_of_ble_eq_true rfl) (eX12_noDeadline (⟨o1, ?_⟩))
  show MW mX12_file 0 0 11 [(0, vR 65), (1, vI x1)] [vI (bI (¬ ((¬ (x1 < 0)) ∧ (¬ (((d 66 3) - 1) < x1))))), vR 65] g (ud d 65 5 0) Q
  refine mw_iconst (pc' := 12) dX12_file_11 rfl ⟨by decide, by decide⟩ ?_
  refine mw_callV (M' := mX12_fails) (A := [vI (bI (¬ ((¬ (x1 < 0)) ∧ (¬ (((d 66 3) - 1) < x1))))), vI 1]) (A' := [vR 65, vI (bI (¬ ((¬ (x1 < 0)) ∧ (¬ (((d 66 3) - 1) < x1))))), vI 1]) (S := []) (a := 65) (pc' := 15) dX12_file_12 rfl cl_RX12_55 cm_X12_fails cv_X12_fails ⟨by decide, by decide, by decide, by decide, by decide⟩ rfl rfl rfl ⟨by decide, by omega⟩ (by decide +kernel) (by decide +kernel) (Nat.le_of_ble_eq_true rfl) (f_fails (udS) (by decide) ?_)
  refine ⟨fun c2 => ?_, fun c2 => ?_⟩
  · replace h := h.1 (show (¬ ((¬ (x1 < 0)) ∧ (¬ (((d 66 3) - 1) < x1)))) from c2)
    show MW mX12_file 0 0 15 [(0, vR 65), (1, vI x1)] [vI 1] g (ud (ud d 65 5 0) 65 5 1) Q
    refine mw_if_ne (tgt := 39) (pc' := 18) dX12_file_15 rfl (by decide) (fun _ => ?_) (fun q => absurd q (by decide))
    refine mw_iconst (pc' := 40) dX12_file_39 rfl ⟨by decide, by decide⟩ ?_
    exact mw_iret (pc' := 0) (S := []) dX12_file_40 rfl (Or.inr (Or.inl ⟨rfl, by decide, by decide⟩)) h
  · replace h := h.2 (show (¬ (x1 < 0)) ∧ (¬ (((d 66 3) - 1) < x1)) from (Classical.not_not.mp c2))
    show MW mX12_file 0 0 15 [(0, vR 65), (1, vI x1)] [vI 0] g (ud d 65 5 0) Q
    refine mw_if_ne (tgt := 39) (pc' := 18) dX12_file_15 rfl (by decide) (fun q => absurd q (by decide)) (fun _ => ?_)
    refine mw_aload_n (v := vR 65) (pc' := 19) dX12_file_18 rfl rfl (Or.inl rfl) rfl ?_
    refine mw_aload_n (v := vR 65) (pc' := 20) dX12_file_19 rfl rfl (Or.inl rfl) rfl ?_
    refine mw_iload_n (pc' := 21) dX12_file_20 rfl rfl rfl ?_
    obtain ⟨o3, h⟩ := h
    refine mw_callV (M' := mX12_isOpen) (A := [vI x1]) (A' := [vR 65, vI x1]) (S := [vR 65]) (a := 65) (pc' := 24) dX12_file_21 rfl cl_RX12_165 cm_X12_isOpen cv_X12_isOpen ⟨by decide, by decide, by decide, by decide, by decide⟩ rfl rfl rfl ⟨by decide, by omega⟩ (by decide +kernel) (by decide +kernel) (Nat.le_of_ble_eq_true rfl) (eX12_isOpen (⟨o3, ?_⟩))
    show MW mX12_file 0 0 24 [(0, vR 65), (1, vI x1)] [vI (bI (d 66 (145 + 16 * x1) = 111)), vR 65] g (ud d 65 5 0) Q
    suffices k4 : MW mX12_file 0 0 32 [(0, vR 65), (1, vI x1)] [vI (bI (¬ (d 66 (145 + 16 * x1) = 111))), vR 65] g (ud d 65 5 0) Q by
      refine mw_if_ne (tgt := 31) (pc' := 27) dX12_file_24 rfl (by decide) (fun c5 => ?_) (fun c5 => ?_)
      · replace c5 := bI_n0.mp c5
        refine mw_iconst (pc' := 32) dX12_file_31 rfl ⟨by decide, by decide⟩ ?_
        exact mw_st (bI_f (fun h => (h c5))).symm k4
      · replace c5 := bI_0.mp c5
        refine mw_iconst (pc' := 28) dX12_file_27 rfl ⟨by decide, by decide⟩ ?_
        refine mw_goto (pc' := 0) (tgt := 32) dX12_file_28 (by decide) ?_
        exact mw_st (bI_t c5).symm k4
    refine mw_iconst (pc' := 33) dX12_file_32 rfl ⟨by decide, by decide⟩ ?_
    refine mw_callV (M' := mX12_fails) (A := [vI (bI (¬ (d 66 (145 + 16 * x1) = 111))), vI 2]) (A' := [vR 65, vI (bI (¬ (d 66 (145 + 16 * x1) = 111))), vI 2]) (S := []) (a := 65) (pc' := 36) dX12_file_33 rfl cl_RX12_55 cm_X12_fails cv_X12_fails ⟨by decide, by decide, by decide, by decide, by decide⟩ rfl rfl rfl ⟨by decide, by omega⟩ (by decide +kernel) (by decide +kernel) (Nat.le_of_ble_eq_true rfl) (f_fails (udS) (by decide) ?_)
    refine ⟨fun c6 => ?_, fun c6 => ?_⟩
    · replace h := h.1 (show (¬ (d 66 (145 + 16 * x1) = 111)) from c6)
      show MW mX12_file 0 0 36 [(0, vR 65), (1, vI x1)] [vI 1] g (ud (ud d 65 5 0) 65 5 2) Q
      refine mw_if_eq (tgt := 41) (pc' := 39) dX12_file_36 rfl (by decide) (fun q => absurd q (by decide)) (fun _ => ?_)
      refine mw_iconst (pc' := 40) dX12_file_39 rfl ⟨by decide, by decide⟩ ?_
      exact mw_iret (pc' := 0) (S := []) dX12_file_40 rfl (Or.inr (Or.inl ⟨rfl, by decide, by decide⟩)) h
    · replace h := h.2 (show d 66 (145 + 16 * x1) = 111 from (Classical.not_not.mp c6))
      show MW mX12_file 0 0 36 [(0, vR 65), (1, vI x1)] [vI 0] g (ud d 65 5 0) Q
      refine mw_if_eq (tgt := 41) (pc' := 39) dX12_file_36 rfl (by decide) (fun _ => ?_) (fun q => absurd q (by decide))
      refine mw_aload_n (v := vR 65) (pc' := 42) dX12_file_41 rfl rfl (Or.inl rfl) rfl ?_
      refine mw_iload_n (pc' := 43) dX12_file_42 rfl rfl rfl ?_
      obtain ⟨o7, h⟩ := h
      obtain ⟨o8, h⟩ := h
      refine mw_callV (M' := mX12_isPast) (A := [vI x1]) (A' := [vR 65, vI x1]) (S := []) (a := 65) (pc' := 46) dX12_file_43 rfl cl_RX12_168 cm_X12_isPast cv_X12_isPast ⟨by decide, by decide, by decide, by decide, by decide⟩ rfl rfl rfl ⟨by decide, by omega⟩ (by decide +kernel) (by decide +kernel) (Nat.le_of_ble_eq_true rfl) (eX12_isPast (⟨o7, o8, ?_⟩))
      show MW mX12_file 0 0 46 [(0, vR 65), (1, vI x1)] [vI (bI ((¬ (dueM (d 66) x1 = (-1))) ∧ (¬ (d 66 0 ≤ dueM (d 66) x1))))] g (ud d 65 5 0) Q
      suffices k9 : MW mX12_file 0 0 54 [(0, vR 65), (1, vI x1)] [vI (bI (¬ ((¬ (dueM (d 66) x1 = (-1))) ∧ (¬ (d 66 0 ≤ dueM (d 66) x1)))))] g (ud d 65 5 0) Q by
        refine mw_if_ne (tgt := 53) (pc' := 49) dX12_file_46 rfl (by decide) (fun c10 => ?_) (fun c10 => ?_)
        · replace c10 := bI_n0.mp c10
          refine mw_iconst (pc' := 54) dX12_file_53 rfl ⟨by decide, by decide⟩ ?_
          exact mw_st (bI_f (fun h => (h c10))).symm k9
        · replace c10 := bI_0.mp c10
          refine mw_iconst (pc' := 50) dX12_file_49 rfl ⟨by decide, by decide⟩ ?_
          refine mw_goto (pc' := 0) (tgt := 54) dX12_file_50 (by decide) ?_
          exact mw_st (bI_t c10).symm k9
      refine mw_istore_n (pc' := 55) (L' := [(0, vR 65), (1, vI x1), (2, vI (bI (¬ ((¬ (dueM (d 66) x1 = (-1))) ∧ (¬ (d 66 0 ≤ dueM (d 66) x1))))))]) dX12_file_54 rfl rfl (by decide) rfl ?_
      refine mw_aload_n (v := vR 65) (pc' := 56) dX12_file_55 rfl rfl (Or.inl rfl) rfl ?_
      obtain ⟨o11, h⟩ := h
      refine mw_callV (M' := mX12_change) (A := []) (A' := [vR 65]) (S := []) (a := 65) (pc' := 59) dX12_file_56 rfl cl_RX12_93 cm_X12_change cv_X12_change ⟨by decide, by decide, by decide, by decide, by decide⟩ rfl rfl rfl ⟨by decide, by omega⟩ (by decide +kernel) (by decide +kernel) (Nat.le_of_ble_eq_true rfl) (f_change (⟨o11, ?_⟩))
      show MW mX12_file 0 0 59 [(0, vR 65), (1, vI x1), (2, vI (bI (¬ ((¬ (dueM (d 66) x1 = (-1))) ∧ (¬ (d 66 0 ≤ dueM (d 66) x1))))))] [] g (mChg (ud d 65 5 0)) Q
      refine mw_aload_n (v := vR 65) (pc' := 60) dX12_file_59 rfl rfl (Or.inl rfl) rfl ?_
      refine mw_getP (v := 66) (pc' := 63) dX12_file_60 rfl fr_RX12_9_65 rfl sp_65_0 ⟨by decide, by decide⟩ ?_
      refine mw_iload_n (pc' := 64) dX12_file_63 rfl rfl rfl ?_
      obtain ⟨o12, h⟩ := h
      obtain ⟨o13, h⟩ := h
      refine mw_callS (M' := mX12_deadlineAt) (A := [vI x1]) (S := [vR 66]) (pc' := 67) dX12_file_64 rfl cl_RX12_128 cm_X12_deadlineAt cs_X12_deadlineAt ⟨by decide, by decide, by decide, by decide, by decide⟩ rfl rfl (Nat.le_of_ble_eq_true rfl) (eX12_deadlineAt (⟨o12, o13, ?_⟩))
      show MW mX12_file 0 0 67 [(0, vR 65), (1, vI x1), (2, vI (bI (¬ ((¬ (dueM (d 66) x1 = (-1))) ∧ (¬ (d 66 0 ≤ dueM (d 66) x1))))))] [vI (139 + (16 * x1)), vR 66] g (mChg (ud d 65 5 0)) Q
      refine mw_bipush (pc' := 69) dX12_file_67 rfl ⟨by decide, by decide⟩ ?_
      obtain ⟨o14, h⟩ := h
      refine mw_iadd (pc' := 70) dX12_file_69 rfl o14 ?_
      refine mw_iload_n (pc' := 71) dX12_file_70 rfl rfl rfl ?_
      suffices k15 : MW mX12_file 0 0 81 [(0, vR 65), (1, vI x1), (2, vI (bI (¬ ((¬ (dueM (d 66) x1 = (-1))) ∧ (¬ (d 66 0 ≤ dueM (d 66) x1))))))] [vI (iT (¬ ((¬ (dueM (d 66) x1 = (-1))) ∧ (¬ (d 66 0 ≤ dueM (d 66) x1)))) 116 108), vI ((139 + (16 * x1)) + 6), vR 66] g (mChg (ud d 65 5 0)) Q by
        refine mw_if_eq (tgt := 79) (pc' := 74) dX12_file_71 rfl (by decide) (fun c16 => ?_) (fun c16 => ?_)
        · replace c16 := bI_0.mp c16
          replace c16 := (Classical.not_not.mp c16)
          refine mw_bipush (pc' := 81) dX12_file_79 rfl ⟨by decide, by decide⟩ ?_
          exact mw_st (((iT_f (fun z => z c16)).trans rfl)).symm k15
        · replace c16 := bI_n0.mp c16
          refine mw_bipush (pc' := 76) dX12_file_74 rfl ⟨by decide, by decide⟩ ?_
          refine mw_goto (pc' := 0) (tgt := 81) dX12_file_76 (by decide) ?_
          exact mw_st (((iT_t c16).trans rfl)).symm k15
      obtain ⟨o17, h⟩ := h
      refine mw_iast (pc' := 82) dX12_file_81 rfl lk_66 ⟨by decide, by decide⟩ (by rw [ln_66]; exact o17) ?_
      refine mw_dd (b := (ud (mChg (ud d 65 5 0)) 66 (145 + 16 * x1) (iT (¬ ((¬ (dueM (d 66) x1 = (-1))) ∧ (¬ (d 66 0 ≤ dueM (d 66) x1)))) 116 108))) (congrArg (fun z => ud (mChg (ud d 65 5 0)) 66 z (iT (¬ ((¬ (dueM (d 66) x1 = (-1))) ∧ (¬ (d 66 0 ≤ dueM (d 66) x1)))) 116 108)) (by omega)) ?_
      refine mw_iload_n (pc' := 83) dX12_file_82 rfl rfl rfl ?_
      exact mw_iret (pc' := 0) (S := []) dX12_file_83 rfl (Or.inr (Or.inl ⟨rfl, bI_rng⟩)) h
def pX12_strike_1 (x1 x2 x3 : Int) (g : mG) (d : mD) (Q : mQ) : Prop := MW mX12_strike 0 0 63 [(0, vR 65), (1, vI x1), (2, vI x2), (3, vI x3)] [] g d Q
theorem eX12_strike {x1 : Int} {g : mG} {d : mD} {Q : mQ} (h : (iI ((d 66 3) - 1)) ∧ ((((¬ ((¬ (x1 < 0)) ∧ (¬ (((d 66 3) - 1) < x1))))) → Q (.inl 0) g (ud (ud d 65 5 0) 65 5 1)) ∧ (((¬ (x1 < 0)) ∧ (¬ (((d 66 3) - 1) < x1))) → (0 ≤ x1 ∧ x1 < 30) ∧ ((((¬ (d 66 (145 + 16 * x1) = 111))) → Q (.inl 0) g (ud (ud d 65 5 0) 65 5 2)) ∧ ((d 66 (145 + 16 * x1) = 111) → (0 ≤ d 65 3 ∧ d 65 3 ≤ 8) ∧ ((iI (16 * x1)) ∧ ((iI (139 + (16 * x1))) ∧ ((iI ((139 + (16 * x1)) + 6)) ∧ ((0 ≤ (139 + (16 * x1)) + 6 ∧ (139 + (16 * x1)) + 6 < 787) ∧ (pX12_strike_1 x1 0 0 g (ud (mChg (ud d 65 5 0)) 66 (145 + 16 * x1) 115) Q)))))))))) : MM mX12_strike [vR 65, vI x1] g d Q := by
  refine MM_of (by decide) rfl (by simp [catV]) (Nat.le_of_ble_eq_true rfl) ?_
  show MW mX12_strike 0 0 0 [(0, vR 65), (1, vI x1)] [] g d Q
  refine mw_top (fun hT => ?_)
  have hG : 76 ≤ g.2.1 := hT.2
  refine mw_aload_n (v := vR 65) (pc' := 1) dX12_strike_0 rfl rfl (Or.inl rfl) rfl ?_
  refine mw_iconst (pc' := 2) dX12_strike_1 rfl ⟨by decide, by decide⟩ ?_
  refine mw_putI (ji := 5) (pc' := 5) dX12_strike_2 rfl (fq_RX12_41_65) (by decide +kernel) rfl (Or.inl ⟨rfl, rc_65_5⟩) (Or.inr rfl) ⟨by decide, by omega⟩ ?_
  refine mw_aload_n (v := vR 65) (pc' := 6) dX12_strike_5 rfl rfl (Or.inl rfl) rfl ?_
  refine mw_aload_n (v := vR 65) (pc' := 7) dX12_strike_6 rfl rfl (Or.inl rfl) rfl ?_
  refine mw_iload_n (pc' := 8) dX12_strike_7 rfl rfl rfl ?_
  obtain ⟨o1, h⟩ := h
  refine mw_callV (M' := mX12_noDeadline) (A := [vI x1]) (A' := [vR 65, vI x1]) (S := [vR 65]) (a := 65) (pc' := 11) dX12_strike_8 rfl cl_RX12_147 cm_X12_noDeadline cv_X12_noDeadline ⟨by decide, by decide, by decide, by decide, by decide⟩ rfl rfl rfl ⟨by decide, by omega⟩ (by decide +kernel) (by decide +kernel) (Nat.le_of_ble_eq_true rfl) (eX12_noDeadline (⟨o1, ?_⟩))
  show MW mX12_strike 0 0 11 [(0, vR 65), (1, vI x1)] [vI (bI (¬ ((¬ (x1 < 0)) ∧ (¬ (((d 66 3) - 1) < x1))))), vR 65] g (ud d 65 5 0) Q
  refine mw_iconst (pc' := 12) dX12_strike_11 rfl ⟨by decide, by decide⟩ ?_
  refine mw_callV (M' := mX12_fails) (A := [vI (bI (¬ ((¬ (x1 < 0)) ∧ (¬ (((d 66 3) - 1) < x1))))), vI 1]) (A' := [vR 65, vI (bI (¬ ((¬ (x1 < 0)) ∧ (¬ (((d 66 3) - 1) < x1))))), vI 1]) (S := []) (a := 65) (pc' := 15) dX12_strike_12 rfl cl_RX12_55 cm_X12_fails cv_X12_fails ⟨by decide, by decide, by decide, by decide, by decide⟩ rfl rfl rfl ⟨by decide, by omega⟩ (by decide +kernel) (by decide +kernel) (Nat.le_of_ble_eq_true rfl) (f_fails (udS) (by decide) ?_)
  refine ⟨fun c2 => ?_, fun c2 => ?_⟩
  · replace h := h.1 (show (¬ ((¬ (x1 < 0)) ∧ (¬ (((d 66 3) - 1) < x1)))) from c2)
    show MW mX12_strike 0 0 15 [(0, vR 65), (1, vI x1)] [vI 1] g (ud (ud d 65 5 0) 65 5 1) Q
    refine mw_if_ne (tgt := 39) (pc' := 18) dX12_strike_15 rfl (by decide) (fun _ => ?_) (fun q => absurd q (by decide))
    refine mw_iconst (pc' := 40) dX12_strike_39 rfl ⟨by decide, by decide⟩ ?_
    exact mw_iret (pc' := 0) (S := []) dX12_strike_40 rfl (Or.inl rfl) h
  · replace h := h.2 (show (¬ (x1 < 0)) ∧ (¬ (((d 66 3) - 1) < x1)) from (Classical.not_not.mp c2))
    show MW mX12_strike 0 0 15 [(0, vR 65), (1, vI x1)] [vI 0] g (ud d 65 5 0) Q
    refine mw_if_ne (tgt := 39) (pc' := 18) dX12_strike_15 rfl (by decide) (fun q => absurd q (by decide)) (fun _ => ?_)
    refine mw_aload_n (v := vR 65) (pc' := 19) dX12_strike_18 rfl rfl (Or.inl rfl) rfl ?_
    refine mw_aload_n (v := vR 65) (pc' := 20) dX12_strike_19 rfl rfl (Or.inl rfl) rfl ?_
    refine mw_iload_n (pc' := 21) dX12_strike_20 rfl rfl rfl ?_
    obtain ⟨o3, h⟩ := h
    refine mw_callV (M' := mX12_isOpen) (A := [vI x1]) (A' := [vR 65, vI x1]) (S := [vR 65]) (a := 65) (pc' := 24) dX12_strike_21 rfl cl_RX12_165 cm_X12_isOpen cv_X12_isOpen ⟨by decide, by decide, by decide, by decide, by decide⟩ rfl rfl rfl ⟨by decide, by omega⟩ (by decide +kernel) (by decide +kernel) (Nat.le_of_ble_eq_true rfl) (eX12_isOpen (⟨o3, ?_⟩))
    show MW mX12_strike 0 0 24 [(0, vR 65), (1, vI x1)] [vI (bI (d 66 (145 + 16 * x1) = 111)), vR 65] g (ud d 65 5 0) Q
    suffices k4 : MW mX12_strike 0 0 32 [(0, vR 65), (1, vI x1)] [vI (bI (¬ (d 66 (145 + 16 * x1) = 111))), vR 65] g (ud d 65 5 0) Q by
      refine mw_if_ne (tgt := 31) (pc' := 27) dX12_strike_24 rfl (by decide) (fun c5 => ?_) (fun c5 => ?_)
      · replace c5 := bI_n0.mp c5
        refine mw_iconst (pc' := 32) dX12_strike_31 rfl ⟨by decide, by decide⟩ ?_
        exact mw_st (bI_f (fun h => (h c5))).symm k4
      · replace c5 := bI_0.mp c5
        refine mw_iconst (pc' := 28) dX12_strike_27 rfl ⟨by decide, by decide⟩ ?_
        refine mw_goto (pc' := 0) (tgt := 32) dX12_strike_28 (by decide) ?_
        exact mw_st (bI_t c5).symm k4
    refine mw_iconst (pc' := 33) dX12_strike_32 rfl ⟨by decide, by decide⟩ ?_
    refine mw_callV (M' := mX12_fails) (A := [vI (bI (¬ (d 66 (145 + 16 * x1) = 111))), vI 2]) (A' := [vR 65, vI (bI (¬ (d 66 (145 + 16 * x1) = 111))), vI 2]) (S := []) (a := 65) (pc' := 36) dX12_strike_33 rfl cl_RX12_55 cm_X12_fails cv_X12_fails ⟨by decide, by decide, by decide, by decide, by decide⟩ rfl rfl rfl ⟨by decide, by omega⟩ (by decide +kernel) (by decide +kernel) (Nat.le_of_ble_eq_true rfl) (f_fails (udS) (by decide) ?_)
    refine ⟨fun c6 => ?_, fun c6 => ?_⟩
    · replace h := h.1 (show (¬ (d 66 (145 + 16 * x1) = 111)) from c6)
      show MW mX12_strike 0 0 36 [(0, vR 65), (1, vI x1)] [vI 1] g (ud (ud d 65 5 0) 65 5 2) Q
      refine mw_if_eq (tgt := 41) (pc' := 39) dX12_strike_36 rfl (by decide) (fun q => absurd q (by decide)) (fun _ => ?_)
      refine mw_iconst (pc' := 40) dX12_strike_39 rfl ⟨by decide, by decide⟩ ?_
      exact mw_iret (pc' := 0) (S := []) dX12_strike_40 rfl (Or.inl rfl) h
    · replace h := h.2 (show d 66 (145 + 16 * x1) = 111 from (Classical.not_not.mp c6))
      show MW mX12_strike 0 0 36 [(0, vR 65), (1, vI x1)] [vI 0] g (ud d 65 5 0) Q
      refine mw_if_eq (tgt := 41) (pc' := 39) dX12_strike_36 rfl (by decide) (fun _ => ?_) (fun q => absurd q (by decide))
      refine mw_aload_n (v := vR 65) (pc' := 42) dX12_strike_41 rfl rfl (Or.inl rfl) rfl ?_
      obtain ⟨o7, h⟩ := h
      refine mw_callV (M' := mX12_change) (A := []) (A' := [vR 65]) (S := []) (a := 65) (pc' := 45) dX12_strike_42 rfl cl_RX12_93 cm_X12_change cv_X12_change ⟨by decide, by decide, by decide, by decide, by decide⟩ rfl rfl rfl ⟨by decide, by omega⟩ (by decide +kernel) (by decide +kernel) (Nat.le_of_ble_eq_true rfl) (f_change (⟨o7, ?_⟩))
      show MW mX12_strike 0 0 45 [(0, vR 65), (1, vI x1)] [] g (mChg (ud d 65 5 0)) Q
      refine mw_aload_n (v := vR 65) (pc' := 46) dX12_strike_45 rfl rfl (Or.inl rfl) rfl ?_
      refine mw_getP (v := 66) (pc' := 49) dX12_strike_46 rfl fr_RX12_9_65 rfl sp_65_0 ⟨by decide, by decide⟩ ?_
      refine mw_iload_n (pc' := 50) dX12_strike_49 rfl rfl rfl ?_
      obtain ⟨o8, h⟩ := h
      obtain ⟨o9, h⟩ := h
      refine mw_callS (M' := mX12_deadlineAt) (A := [vI x1]) (S := [vR 66]) (pc' := 53) dX12_strike_50 rfl cl_RX12_128 cm_X12_deadlineAt cs_X12_deadlineAt ⟨by decide, by decide, by decide, by decide, by decide⟩ rfl rfl (Nat.le_of_ble_eq_true rfl) (eX12_deadlineAt (⟨o8, o9, ?_⟩))
      show MW mX12_strike 0 0 53 [(0, vR 65), (1, vI x1)] [vI (139 + (16 * x1)), vR 66] g (mChg (ud d 65 5 0)) Q
      refine mw_bipush (pc' := 55) dX12_strike_53 rfl ⟨by decide, by decide⟩ ?_
      obtain ⟨o10, h⟩ := h
      refine mw_iadd (pc' := 56) dX12_strike_55 rfl o10 ?_
      refine mw_bipush (pc' := 58) dX12_strike_56 rfl ⟨by decide, by decide⟩ ?_
      obtain ⟨o11, h⟩ := h
      refine mw_iast (pc' := 59) dX12_strike_58 rfl lk_66 ⟨by decide, by decide⟩ (by rw [ln_66]; exact o11) ?_
      refine mw_dd (b := (ud (mChg (ud d 65 5 0)) 66 (145 + 16 * x1) 115)) (congrArg (fun z => ud (mChg (ud d 65 5 0)) 66 z 115) (by omega)) ?_
      refine mw_iconst (pc' := 60) dX12_strike_59 rfl ⟨by decide, by decide⟩ ?_
      refine mw_istore_n (pc' := 61) (L' := [(0, vR 65), (1, vI x1), (2, vI 0)]) dX12_strike_60 rfl rfl (by decide) rfl ?_
      refine mw_iconst (pc' := 62) dX12_strike_61 rfl ⟨by decide, by decide⟩ ?_
      refine mw_istore_n (pc' := 63) (L' := [(0, vR 65), (1, vI x1), (2, vI 0), (3, vI 0)]) dX12_strike_62 rfl rfl (by decide) rfl ?_
      exact h
theorem aX12_strike_1 {x1 x2 x3 : Int} {g : mG} {d : mD} {Q : mQ} (h : ((d 66 3 ≤ x3) → Q (.inl x2) g d) ∧ ((¬ (d 66 3 ≤ x3)) → (0 ≤ x3 ∧ x3 < 30) ∧ ((iI (x2 + (bI (d 66 (145 + 16 * x3) = 111)))) ∧ ((iI (x3 + 1)) ∧ (pX12_strike_1 x1 (x2 + (bI (d 66 (145 + 16 * x3) = 111))) (x3 + 1) g d Q))))) : pX12_strike_1 x1 x2 x3 g d Q := by
  unfold pX12_strike_1
  refine mw_top (fun hT => ?_)
  have hG : 76 ≤ g.2.1 := hT.2
  refine mw_iload_n (pc' := 64) dX12_strike_63 rfl rfl rfl ?_
  refine mw_aload_n (v := vR 65) (pc' := 65) dX12_strike_64 rfl rfl (Or.inl rfl) rfl ?_
  refine mw_getP (v := 66) (pc' := 68) dX12_strike_65 rfl fr_RX12_9_65 rfl sp_65_0 ⟨by decide, by decide⟩ ?_
  refine mw_iconst (pc' := 69) dX12_strike_68 rfl ⟨by decide, by decide⟩ ?_
  refine mw_iald (pc' := 70) dX12_strike_69 rfl lk_66 ⟨by decide, by decide⟩ (by rw [ln_66]; exact ⟨by decide, by decide⟩) ?_
  refine mw_icmp_ge (tgt := 95) (pc' := 73) dX12_strike_70 rfl (by decide) (fun c14 => ?_) (fun c14 => ?_)
  · replace h := h.1 c14
    refine mw_iload_n (pc' := 96) dX12_strike_95 rfl rfl rfl ?_
    exact mw_iret (pc' := 0) (S := []) dX12_strike_96 rfl (Or.inl rfl) h
  · replace h := h.2 c14
    refine mw_iload_n (pc' := 74) dX12_strike_73 rfl rfl rfl ?_
    refine mw_aload_n (v := vR 65) (pc' := 75) dX12_strike_74 rfl rfl (Or.inl rfl) rfl ?_
    refine mw_iload_n (pc' := 76) dX12_strike_75 rfl rfl rfl ?_
    obtain ⟨o15, h⟩ := h
    refine mw_callV (M' := mX12_isOpen) (A := [vI x3]) (A' := [vR 65, vI x3]) (S := [vI x2]) (a := 65) (pc' := 79) dX12_strike_76 rfl cl_RX12_165 cm_X12_isOpen cv_X12_isOpen ⟨by decide, by decide, by decide, by decide, by decide⟩ rfl rfl rfl ⟨by decide, by omega⟩ (by decide +kernel) (by decide +kernel) (Nat.le_of_ble_eq_true rfl) (eX12_isOpen (⟨o15, ?_⟩))
    show MW mX12_strike 0 0 79 [(0, vR 65), (1, vI x1), (2, vI x2), (3, vI x3)] [vI (bI (d 66 (145 + 16 * x3) = 111)), vI x2] g d Q
    suffices k16 : MW mX12_strike 0 0 87 [(0, vR 65), (1, vI x1), (2, vI x2), (3, vI x3)] [vI (bI (d 66 (145 + 16 * x3) = 111)), vI x2] g d Q by
      refine mw_if_eq (tgt := 86) (pc' := 82) dX12_strike_79 rfl (by decide) (fun c17 => ?_) (fun c17 => ?_)
      · replace c17 := bI_0.mp c17
        refine mw_iconst (pc' := 87) dX12_strike_86 rfl ⟨by decide, by decide⟩ ?_
        exact mw_st (bI_f (fun h => (c17 h))).symm k16
      · replace c17 := bI_n0.mp c17
        refine mw_iconst (pc' := 83) dX12_strike_82 rfl ⟨by decide, by decide⟩ ?_
        refine mw_goto (pc' := 0) (tgt := 87) dX12_strike_83 (by decide) ?_
        exact mw_st (bI_t c17).symm k16
    obtain ⟨o18, h⟩ := h
    refine mw_iadd (pc' := 88) dX12_strike_87 rfl o18 ?_
    refine mw_istore_n (pc' := 89) (L' := [(0, vR 65), (1, vI x1), (2, vI (x2 + (bI (d 66 (145 + 16 * x3) = 111)))), (3, vI x3)]) dX12_strike_88 rfl rfl (by decide) rfl ?_
    obtain ⟨o19, h⟩ := h
    refine mw_iinc (pc' := 92) (L' := [(0, vR 65), (1, vI x1), (2, vI (x2 + (bI (d 66 (145 + 16 * x3) = 111)))), (3, vI (x3 + 1))]) dX12_strike_89 rfl rfl (by decide) o19 rfl ?_
    refine mw_goto (pc' := 0) (tgt := 63) dX12_strike_92 (by decide) ?_
    exact h
theorem eX12_status {x1 : Int} {g : mG} {d : mD} {Q : mQ} (h : (iI ((d 66 3) - 1)) ∧ ((((¬ ((¬ (x1 < 0)) ∧ (¬ (((d 66 3) - 1) < x1))))) → Q (.inl 0) g (ud (ud d 65 5 0) 65 5 1)) ∧ (((¬ (x1 < 0)) ∧ (¬ (((d 66 3) - 1) < x1))) → (0 ≤ x1 ∧ x1 < 30) ∧ ((0 ≤ (d 66 (145 + 16 * x1)) % 65536 ∧ (d 66 (145 + 16 * x1)) % 65536 ≤ 65535) ∧ (Q (.inl ((d 66 (145 + 16 * x1)) % 65536)) g (ud d 65 5 0)))))) : MM mX12_status [vR 65, vI x1] g d Q := by
  refine MM_of (by decide) rfl (by simp [catV]) (Nat.le_of_ble_eq_true rfl) ?_
  show MW mX12_status 0 0 0 [(0, vR 65), (1, vI x1)] [] g d Q
  refine mw_top (fun hT => ?_)
  have hG : 76 ≤ g.2.1 := hT.2
  refine mw_aload_n (v := vR 65) (pc' := 1) dX12_status_0 rfl rfl (Or.inl rfl) rfl ?_
  refine mw_iconst (pc' := 2) dX12_status_1 rfl ⟨by decide, by decide⟩ ?_
  refine mw_putI (ji := 5) (pc' := 5) dX12_status_2 rfl (fq_RX12_41_65) (by decide +kernel) rfl (Or.inl ⟨rfl, rc_65_5⟩) (Or.inr rfl) ⟨by decide, by omega⟩ ?_
  refine mw_aload_n (v := vR 65) (pc' := 6) dX12_status_5 rfl rfl (Or.inl rfl) rfl ?_
  refine mw_aload_n (v := vR 65) (pc' := 7) dX12_status_6 rfl rfl (Or.inl rfl) rfl ?_
  refine mw_iload_n (pc' := 8) dX12_status_7 rfl rfl rfl ?_
  obtain ⟨o1, h⟩ := h
  refine mw_callV (M' := mX12_noDeadline) (A := [vI x1]) (A' := [vR 65, vI x1]) (S := [vR 65]) (a := 65) (pc' := 11) dX12_status_8 rfl cl_RX12_147 cm_X12_noDeadline cv_X12_noDeadline ⟨by decide, by decide, by decide, by decide, by decide⟩ rfl rfl rfl ⟨by decide, by omega⟩ (by decide +kernel) (by decide +kernel) (Nat.le_of_ble_eq_true rfl) (eX12_noDeadline (⟨o1, ?_⟩))
  show MW mX12_status 0 0 11 [(0, vR 65), (1, vI x1)] [vI (bI (¬ ((¬ (x1 < 0)) ∧ (¬ (((d 66 3) - 1) < x1))))), vR 65] g (ud d 65 5 0) Q
  refine mw_iconst (pc' := 12) dX12_status_11 rfl ⟨by decide, by decide⟩ ?_
  refine mw_callV (M' := mX12_fails) (A := [vI (bI (¬ ((¬ (x1 < 0)) ∧ (¬ (((d 66 3) - 1) < x1))))), vI 1]) (A' := [vR 65, vI (bI (¬ ((¬ (x1 < 0)) ∧ (¬ (((d 66 3) - 1) < x1))))), vI 1]) (S := []) (a := 65) (pc' := 15) dX12_status_12 rfl cl_RX12_55 cm_X12_fails cv_X12_fails ⟨by decide, by decide, by decide, by decide, by decide⟩ rfl rfl rfl ⟨by decide, by omega⟩ (by decide +kernel) (by decide +kernel) (Nat.le_of_ble_eq_true rfl) (f_fails (udS) (by decide) ?_)
  refine ⟨fun c2 => ?_, fun c2 => ?_⟩
  · replace h := h.1 (show (¬ ((¬ (x1 < 0)) ∧ (¬ (((d 66 3) - 1) < x1)))) from c2)
    show MW mX12_status 0 0 15 [(0, vR 65), (1, vI x1)] [vI 1] g (ud (ud d 65 5 0) 65 5 1) Q
    refine mw_if_eq (tgt := 22) (pc' := 18) dX12_status_15 rfl (by decide) (fun q => absurd q (by decide)) (fun _ => ?_)
    refine mw_iconst (pc' := 19) dX12_status_18 rfl ⟨by decide, by decide⟩ ?_
    refine mw_goto (pc' := 0) (tgt := 30) dX12_status_19 (by decide) ?_
    exact mw_iret (pc' := 0) (S := []) dX12_status_30 rfl (Or.inr (Or.inr ⟨rfl, by decide, by decide⟩)) h
  · replace h := h.2 (show (¬ (x1 < 0)) ∧ (¬ (((d 66 3) - 1) < x1)) from (Classical.not_not.mp c2))
    show MW mX12_status 0 0 15 [(0, vR 65), (1, vI x1)] [vI 0] g (ud d 65 5 0) Q
    refine mw_if_eq (tgt := 22) (pc' := 18) dX12_status_15 rfl (by decide) (fun _ => ?_) (fun q => absurd q (by decide))
    refine mw_aload_n (v := vR 65) (pc' := 23) dX12_status_22 rfl rfl (Or.inl rfl) rfl ?_
    refine mw_iload_n (pc' := 24) dX12_status_23 rfl rfl rfl ?_
    refine mw_bipush (pc' := 26) dX12_status_24 rfl ⟨by decide, by decide⟩ ?_
    obtain ⟨o3, h⟩ := h
    refine mw_callV (M' := mX12_of) (A := [vI x1, vI 6]) (A' := [vR 65, vI x1, vI 6]) (S := []) (a := 65) (pc' := 29) dX12_status_26 rfl cl_RX12_131 cm_X12_of cv_X12_of ⟨by decide, by decide, by decide, by decide, by decide⟩ rfl rfl rfl ⟨by decide, by omega⟩ (by decide +kernel) (by decide +kernel) (Nat.le_of_ble_eq_true rfl) (f_dlOf (k := 145 + 16 * x1) (by omega) (⟨o3, (by decide), ?_⟩))
    show MW mX12_status 0 0 29 [(0, vR 65), (1, vI x1)] [vI (d 66 (145 + 16 * x1))] g (ud d 65 5 0) Q
    refine mw_i2c (pc' := 30) dX12_status_29 rfl ?_
    obtain ⟨o4, h⟩ := h
    exact mw_iret (pc' := 0) (S := []) dX12_status_30 rfl (Or.inr (Or.inr ⟨rfl, o4⟩)) h
def pX12_openAt_1 (x1 x2 : Int) (g : mG) (d : mD) (Q : mQ) : Prop := MW mX12_openAt 0 0 11 [(0, vR 65), (1, vI x1), (2, vI x2)] [] g d Q
def pX12_openAt_2 (x1 x2 x3 x4 : Int) (g : mG) (d : mD) (Q : mQ) : Prop := MW mX12_openAt 0 0 26 [(0, vR 65), (1, vI x1), (2, vI x2), (3, vI x3), (4, vI x4)] [] g d Q
theorem eX12_openAt {x1 : Int} {g : mG} {d : mD} {Q : mQ} (h : MM mX12_findDues [vR 65] g (ud d 65 5 0) (fun o g3 d4 => match o with | .inl v2 => pX12_openAt_1 x1 0 g3 d4 Q | .inr k => Q (.inr k) g3 d4)) : MM mX12_openAt [vR 65, vI x1] g d Q := by
  refine MM_of (by decide) rfl (by simp [catV]) (Nat.le_of_ble_eq_true rfl) ?_
  show MW mX12_openAt 0 0 0 [(0, vR 65), (1, vI x1)] [] g d Q
  refine mw_top (fun hT => ?_)
  have hG : 76 ≤ g.2.1 := hT.2
  refine mw_aload_n (v := vR 65) (pc' := 1) dX12_openAt_0 rfl rfl (Or.inl rfl) rfl ?_
  refine mw_iconst (pc' := 2) dX12_openAt_1 rfl ⟨by decide, by decide⟩ ?_
  refine mw_putI (ji := 5) (pc' := 5) dX12_openAt_2 rfl (fq_RX12_41_65) (by decide +kernel) rfl (Or.inl ⟨rfl, rc_65_5⟩) (Or.inr rfl) ⟨by decide, by omega⟩ ?_
  refine mw_aload_n (v := vR 65) (pc' := 6) dX12_openAt_5 rfl rfl (Or.inl rfl) rfl ?_
  refine mw_callV (M' := mX12_findDues) (A := []) (A' := [vR 65]) (S := []) (a := 65) (pc' := 9) dX12_openAt_6 rfl cl_RX12_174 cm_X12_findDues cv_X12_findDues ⟨by decide, by decide, by decide, by decide, by decide⟩ rfl rfl rfl ⟨by decide, by omega⟩ (by decide +kernel) (by decide +kernel) (Nat.le_of_ble_eq_true rfl) (MM.mono ?_ h)
  intro o g3 d4 h1
  rcases o with v2 | k
  · refine mw_top (fun hT => ?_)
    have hG : 76 ≤ g3.2.1 := hT.2
    show MW mX12_openAt 0 0 9 [(0, vR 65), (1, vI x1)] [] g3 d4 Q
    refine mw_iconst (pc' := 10) dX12_openAt_9 rfl ⟨by decide, by decide⟩ ?_
    refine mw_istore_n (pc' := 11) (L' := [(0, vR 65), (1, vI x1), (2, vI 0)]) dX12_openAt_10 rfl rfl (by decide) rfl ?_
    exact h1
  · exact mx_out rfl h1
theorem aX12_openAt_1 {x1 x2 : Int} {g : mG} {d : mD} {Q : mQ} (h : ((d 66 3 ≤ x2) → MM mX12_fails [vR 65, vI 1, vI 1] g d (fun o g8 d9 => match o with | .inl v7 => Q (.inl 0) g8 d9 | .inr k => Q (.inr k) g8 d9)) ∧ ((¬ (d 66 3 ≤ x2)) → pX12_openAt_2 x1 x2 0 0 g d Q)) : pX12_openAt_1 x1 x2 g d Q := by
  unfold pX12_openAt_1
  refine mw_top (fun hT => ?_)
  have hG : 76 ≤ g.2.1 := hT.2
  refine mw_iload_n (pc' := 12) dX12_openAt_11 rfl rfl rfl ?_
  refine mw_aload_n (v := vR 65) (pc' := 13) dX12_openAt_12 rfl rfl (Or.inl rfl) rfl ?_
  refine mw_getP (v := 66) (pc' := 16) dX12_openAt_13 rfl fr_RX12_9_65 rfl sp_65_0 ⟨by decide, by decide⟩ ?_
  refine mw_iconst (pc' := 17) dX12_openAt_16 rfl ⟨by decide, by decide⟩ ?_
  refine mw_iald (pc' := 18) dX12_openAt_17 rfl lk_66 ⟨by decide, by decide⟩ (by rw [ln_66]; exact ⟨by decide, by decide⟩) ?_
  refine mw_icmp_ge (tgt := 119) (pc' := 21) dX12_openAt_18 rfl (by decide) (fun c5 => ?_) (fun c5 => ?_)
  · replace h := h.1 c5
    refine mw_aload_n (v := vR 65) (pc' := 120) dX12_openAt_119 rfl rfl (Or.inl rfl) rfl ?_
    refine mw_iconst (pc' := 121) dX12_openAt_120 rfl ⟨by decide, by decide⟩ ?_
    refine mw_iconst (pc' := 122) dX12_openAt_121 rfl ⟨by decide, by decide⟩ ?_
    refine mw_callV (M' := mX12_fails) (A := [vI 1, vI 1]) (A' := [vR 65, vI 1, vI 1]) (S := []) (a := 65) (pc' := 125) dX12_openAt_122 rfl cl_RX12_55 cm_X12_fails cv_X12_fails ⟨by decide, by decide, by decide, by decide, by decide⟩ rfl rfl rfl ⟨by decide, by omega⟩ (by decide +kernel) (by decide +kernel) (Nat.le_of_ble_eq_true rfl) (MM.mono ?_ h)
    intro o g8 d9 h6
    rcases o with v7 | k
    · refine mw_top (fun hT => ?_)
      have hG : 76 ≤ g8.2.1 := hT.2
      show MW mX12_openAt 0 0 125 [(0, vR 65), (1, vI x1), (2, vI x2)] [vI v7] g8 d9 Q
      refine mw_pop (pc' := 126) dX12_openAt_125 rfl rfl ?_
      refine mw_iconst (pc' := 127) dX12_openAt_126 rfl ⟨by decide, by decide⟩ ?_
      exact mw_iret (pc' := 0) (S := []) dX12_openAt_127 rfl (Or.inl rfl) h6
    · exact mx_out rfl h6
  · replace h := h.2 c5
    refine mw_iconst (pc' := 22) dX12_openAt_21 rfl ⟨by decide, by decide⟩ ?_
    refine mw_istore_n (pc' := 23) (L' := [(0, vR 65), (1, vI x1), (2, vI x2), (3, vI 0)]) dX12_openAt_22 rfl rfl (by decide) rfl ?_
    refine mw_iconst (pc' := 24) dX12_openAt_23 rfl ⟨by decide, by decide⟩ ?_
    refine mw_istore (pc' := 26) (L' := [(0, vR 65), (1, vI x1), (2, vI x2), (3, vI 0), (4, vI 0)]) dX12_openAt_24 rfl (by decide) rfl ?_
    exact h
theorem aX12_openAt_2 {x1 x2 x3 x4 : Int} {g : mG} {d : mD} {Q : mQ} (h : ((d 66 3 ≤ x4) → (0 ≤ x2 ∧ x2 < 30) ∧ ((((d 66 (145 + 16 * x2) = 111) ∧ (x3 = x1)) → Q (.inl x2) g d) ∧ ((¬ ((d 66 (145 + 16 * x2) = 111) ∧ (x3 = x1))) → (iI (x2 + 1)) ∧ (pX12_openAt_1 x1 (x2 + 1) g d Q)))) ∧ ((¬ (d 66 3 ≤ x4)) → (0 ≤ x4 ∧ x4 < 30) ∧ (((d 66 (145 + 16 * x4) = 111) → 0 ≤ x2 ∧ x2 < 30) ∧ (((d 66 (145 + 16 * x4) = 111) → (¬ (d 73 x4 < d 73 x2)) → 0 ≤ x2 ∧ x2 < 30) ∧ ((((d 66 (145 + 16 * x4) = 111) ∧ ((d 73 x4 < d 73 x2) ∨ ((d 73 x4 = d 73 x2) ∧ (¬ (x2 ≤ x4))))) → (iI (x3 + 1)) ∧ ((iI (x4 + 1)) ∧ (pX12_openAt_2 x1 x2 (x3 + 1) (x4 + 1) g d Q))) ∧ ((¬ ((d 66 (145 + 16 * x4) = 111) ∧ ((d 73 x4 < d 73 x2) ∨ ((d 73 x4 = d 73 x2) ∧ (¬ (x2 ≤ x4)))))) → (iI (x3 + 0)) ∧ ((iI (x4 + 1)) ∧ (pX12_openAt_2 x1 x2 (x3 + 0) (x4 + 1) g d Q)))))))) : pX12_openAt_2 x1 x2 x3 x4 g d Q := by
  unfold pX12_openAt_2
  refine mw_top (fun hT => ?_)
  have hG : 76 ≤ g.2.1 := hT.2
  refine mw_iload (pc' := 28) dX12_openAt_26 rfl rfl ?_
  refine mw_aload_n (v := vR 65) (pc' := 29) dX12_openAt_28 rfl rfl (Or.inl rfl) rfl ?_
  refine mw_getP (v := 66) (pc' := 32) dX12_openAt_29 rfl fr_RX12_9_65 rfl sp_65_0 ⟨by decide, by decide⟩ ?_
  refine mw_iconst (pc' := 33) dX12_openAt_32 rfl ⟨by decide, by decide⟩ ?_
  refine mw_iald (pc' := 34) dX12_openAt_33 rfl lk_66 ⟨by decide, by decide⟩ (by rw [ln_66]; exact ⟨by decide, by decide⟩) ?_
  refine mw_icmp_ge (tgt := 98) (pc' := 37) dX12_openAt_34 rfl (by decide) (fun c16 => ?_) (fun c16 => ?_)
  · replace h := h.1 c16
    refine mw_aload_n (v := vR 65) (pc' := 99) dX12_openAt_98 rfl rfl (Or.inl rfl) rfl ?_
    refine mw_iload_n (pc' := 100) dX12_openAt_99 rfl rfl rfl ?_
    obtain ⟨o17, h⟩ := h
    refine mw_callV (M' := mX12_isOpen) (A := [vI x2]) (A' := [vR 65, vI x2]) (S := []) (a := 65) (pc' := 103) dX12_openAt_100 rfl cl_RX12_165 cm_X12_isOpen cv_X12_isOpen ⟨by decide, by decide, by decide, by decide, by decide⟩ rfl rfl rfl ⟨by decide, by omega⟩ (by decide +kernel) (by decide +kernel) (Nat.le_of_ble_eq_true rfl) (eX12_isOpen (⟨o17, ?_⟩))
    show MW mX12_openAt 0 0 103 [(0, vR 65), (1, vI x1), (2, vI x2), (3, vI x3), (4, vI x4)] [vI (bI (d 66 (145 + 16 * x2) = 111))] g d Q
    suffices k18 : (((d 66 (145 + 16 * x2) = 111) ∧ (x3 = x1)) → MW mX12_openAt 0 0 111 [(0, vR 65), (1, vI x1), (2, vI x2), (3, vI x3), (4, vI x4)] [] g d Q) ∧ ((¬ ((d 66 (145 + 16 * x2) = 111) ∧ (x3 = x1))) → MW mX12_openAt 0 0 113 [(0, vR 65), (1, vI x1), (2, vI x2), (3, vI x3), (4, vI x4)] [] g d Q) by
      refine mw_if_eq (tgt := 113) (pc' := 106) dX12_openAt_103 rfl (by decide) (fun c19 => ?_) (fun c19 => ?_)
      · replace c19 := bI_0.mp c19
        exact k18.2 (fun h => (c19 h.1))
      · replace c19 := bI_n0.mp c19
        refine mw_iload_n (pc' := 107) dX12_openAt_106 rfl rfl rfl ?_
        refine mw_iload_n (pc' := 108) dX12_openAt_107 rfl rfl rfl ?_
        refine mw_icmp_ne (tgt := 113) (pc' := 111) dX12_openAt_108 rfl (by decide) (fun c20 => ?_) (fun c20 => ?_)
        · exact k18.2 (fun h => (fun h => (c20 h)) h.2)
        · exact k18.1 ⟨c19, c20⟩
    refine ⟨fun c21 => ?_, fun c21 => ?_⟩
    · replace h := h.1 c21
      refine mw_iload_n (pc' := 112) dX12_openAt_111 rfl rfl rfl ?_
      exact mw_iret (pc' := 0) (S := []) dX12_openAt_112 rfl (Or.inl rfl) h
    · replace h := h.2 c21
      obtain ⟨o22, h⟩ := h
      refine mw_iinc (pc' := 116) (L' := [(0, vR 65), (1, vI x1), (2, vI (x2 + 1)), (3, vI x3), (4, vI x4)]) dX12_openAt_113 rfl rfl (by decide) o22 rfl ?_
      refine mw_goto (pc' := 0) (tgt := 11) dX12_openAt_116 (by decide) ?_
      exact mw_loc (pc' := 0) [0, 1, 2] rfl h
  · replace h := h.2 c16
    refine mw_iload_n (pc' := 38) dX12_openAt_37 rfl rfl rfl ?_
    refine mw_aload_n (v := vR 65) (pc' := 39) dX12_openAt_38 rfl rfl (Or.inl rfl) rfl ?_
    refine mw_iload (pc' := 41) dX12_openAt_39 rfl rfl ?_
    obtain ⟨o23, h⟩ := h
    refine mw_callV (M' := mX12_isOpen) (A := [vI x4]) (A' := [vR 65, vI x4]) (S := [vI x3]) (a := 65) (pc' := 44) dX12_openAt_41 rfl cl_RX12_165 cm_X12_isOpen cv_X12_isOpen ⟨by decide, by decide, by decide, by decide, by decide⟩ rfl rfl rfl ⟨by decide, by omega⟩ (by decide +kernel) (by decide +kernel) (Nat.le_of_ble_eq_true rfl) (eX12_isOpen (⟨o23, ?_⟩))
    show MW mX12_openAt 0 0 44 [(0, vR 65), (1, vI x1), (2, vI x2), (3, vI x3), (4, vI x4)] [vI (bI (d 66 (145 + 16 * x4) = 111)), vI x3] g d Q
    obtain ⟨o25, h⟩ := h
    obtain ⟨o27, h⟩ := h
    suffices k28 : (((d 66 (145 + 16 * x4) = 111) ∧ ((d 73 x4 < d 73 x2) ∨ ((d 73 x4 = d 73 x2) ∧ (¬ (x2 ≤ x4))))) → MW mX12_openAt 0 0 85 [(0, vR 65), (1, vI x1), (2, vI x2), (3, vI x3), (4, vI x4)] [vI x3] g d Q) ∧ ((¬ ((d 66 (145 + 16 * x4) = 111) ∧ ((d 73 x4 < d 73 x2) ∨ ((d 73 x4 = d 73 x2) ∧ (¬ (x2 ≤ x4)))))) → MW mX12_openAt 0 0 89 [(0, vR 65), (1, vI x1), (2, vI x2), (3, vI x3), (4, vI x4)] [vI x3] g d Q) by
      refine mw_if_eq (tgt := 89) (pc' := 47) dX12_openAt_44 rfl (by decide) (fun c29 => ?_) (fun c29 => ?_)
      · replace c29 := bI_0.mp c29
        exact k28.2 (fun h => (c29 h.1))
      · replace c29 := bI_n0.mp c29
        refine mw_aload_n (v := vR 65) (pc' := 48) dX12_openAt_47 rfl rfl (Or.inl rfl) rfl ?_
        refine mw_getP (v := 73) (pc' := 51) dX12_openAt_48 rfl fr_RX12_38_65 rfl sp_65_16 ⟨by decide, by decide⟩ ?_
        refine mw_iload (pc' := 53) dX12_openAt_51 rfl rfl ?_
        refine mw_iald (pc' := 54) dX12_openAt_53 rfl lk_73 ⟨by decide, by decide⟩ (by rw [ln_73]; exact o23) ?_
        refine mw_aload_n (v := vR 65) (pc' := 55) dX12_openAt_54 rfl rfl (Or.inl rfl) rfl ?_
        refine mw_getP (v := 73) (pc' := 58) dX12_openAt_55 rfl fr_RX12_38_65 rfl sp_65_16 ⟨by decide, by decide⟩ ?_
        refine mw_iload_n (pc' := 59) dX12_openAt_58 rfl rfl rfl ?_
        refine mw_iald (pc' := 60) dX12_openAt_59 rfl lk_73 ⟨by decide, by decide⟩ (by rw [ln_73]; exact (o25 c29)) ?_
        refine mw_icmp_lt (tgt := 85) (pc' := 63) dX12_openAt_60 rfl (by decide) (fun c30 => ?_) (fun c30 => ?_)
        · exact k28.1 ⟨c29, (Or.inl c30)⟩
        · refine mw_aload_n (v := vR 65) (pc' := 64) dX12_openAt_63 rfl rfl (Or.inl rfl) rfl ?_
          refine mw_getP (v := 73) (pc' := 67) dX12_openAt_64 rfl fr_RX12_38_65 rfl sp_65_16 ⟨by decide, by decide⟩ ?_
          refine mw_iload (pc' := 69) dX12_openAt_67 rfl rfl ?_
          refine mw_iald (pc' := 70) dX12_openAt_69 rfl lk_73 ⟨by decide, by decide⟩ (by rw [ln_73]; exact o23) ?_
          refine mw_aload_n (v := vR 65) (pc' := 71) dX12_openAt_70 rfl rfl (Or.inl rfl) rfl ?_
          refine mw_getP (v := 73) (pc' := 74) dX12_openAt_71 rfl fr_RX12_38_65 rfl sp_65_16 ⟨by decide, by decide⟩ ?_
          refine mw_iload_n (pc' := 75) dX12_openAt_74 rfl rfl rfl ?_
          refine mw_iald (pc' := 76) dX12_openAt_75 rfl lk_73 ⟨by decide, by decide⟩ (by rw [ln_73]; exact (o27 c29 c30)) ?_
          refine mw_icmp_ne (tgt := 89) (pc' := 79) dX12_openAt_76 rfl (by decide) (fun c31 => ?_) (fun c31 => ?_)
          · exact k28.2 (fun h => (fun h => h.elim (fun q => (c30 q)) (fun h => (c31 h.1))) h.2)
          · refine mw_iload (pc' := 81) dX12_openAt_79 rfl rfl ?_
            refine mw_iload_n (pc' := 82) dX12_openAt_81 rfl rfl rfl ?_
            refine mw_icmp_ge (tgt := 89) (pc' := 85) dX12_openAt_82 rfl (by decide) (fun c32 => ?_) (fun c32 => ?_)
            · exact k28.2 (fun h => (fun h => h.elim (fun q => (c30 q)) (fun h => (fun h => (h c32)) h.2)) h.2)
            · exact k28.1 ⟨c29, (Or.inr ⟨c31, c32⟩)⟩
    refine ⟨fun c33 => ?_, fun c33 => ?_⟩
    · replace h := h.1 c33
      refine mw_iconst (pc' := 86) dX12_openAt_85 rfl ⟨by decide, by decide⟩ ?_
      refine mw_goto (pc' := 0) (tgt := 90) dX12_openAt_86 (by decide) ?_
      obtain ⟨o34, h⟩ := h
      refine mw_iadd (pc' := 91) dX12_openAt_90 rfl o34 ?_
      refine mw_istore_n (pc' := 92) (L' := [(0, vR 65), (1, vI x1), (2, vI x2), (3, vI (x3 + 1)), (4, vI x4)]) dX12_openAt_91 rfl rfl (by decide) rfl ?_
      obtain ⟨o35, h⟩ := h
      refine mw_iinc (pc' := 95) (L' := [(0, vR 65), (1, vI x1), (2, vI x2), (3, vI (x3 + 1)), (4, vI (x4 + 1))]) dX12_openAt_92 rfl rfl (by decide) o35 rfl ?_
      refine mw_goto (pc' := 0) (tgt := 26) dX12_openAt_95 (by decide) ?_
      exact h
    · replace h := h.2 c33
      refine mw_iconst (pc' := 90) dX12_openAt_89 rfl ⟨by decide, by decide⟩ ?_
      obtain ⟨o36, h⟩ := h
      refine mw_iadd (pc' := 91) dX12_openAt_90 rfl o36 ?_
      refine mw_istore_n (pc' := 92) (L' := [(0, vR 65), (1, vI x1), (2, vI x2), (3, vI (x3 + 0)), (4, vI x4)]) dX12_openAt_91 rfl rfl (by decide) rfl ?_
      obtain ⟨o37, h⟩ := h
      refine mw_iinc (pc' := 95) (L' := [(0, vR 65), (1, vI x1), (2, vI x2), (3, vI (x3 + 0)), (4, vI (x4 + 1))]) dX12_openAt_92 rfl rfl (by decide) o37 rfl ?_
      refine mw_goto (pc' := 0) (tgt := 26) dX12_openAt_95 (by decide) ?_
      exact h
def pX12_overdue_1 (x1 x2 : Int) (g : mG) (d : mD) (Q : mQ) : Prop := MW mX12_overdue 0 0 9 [(0, vR 65), (1, vI x1), (2, vI x2)] [] g d Q
theorem eX12_overdue {g : mG} {d : mD} {Q : mQ} (h : pX12_overdue_1 0 0 g (ud d 65 5 0) Q) : MM mX12_overdue [vR 65] g d Q := by
  refine MM_of (by decide) rfl (by simp [catV]) (Nat.le_of_ble_eq_true rfl) ?_
  show MW mX12_overdue 0 0 0 [(0, vR 65)] [] g d Q
  refine mw_top (fun hT => ?_)
  have hG : 76 ≤ g.2.1 := hT.2
  refine mw_aload_n (v := vR 65) (pc' := 1) dX12_overdue_0 rfl rfl (Or.inl rfl) rfl ?_
  refine mw_iconst (pc' := 2) dX12_overdue_1 rfl ⟨by decide, by decide⟩ ?_
  refine mw_putI (ji := 5) (pc' := 5) dX12_overdue_2 rfl (fq_RX12_41_65) (by decide +kernel) rfl (Or.inl ⟨rfl, rc_65_5⟩) (Or.inr rfl) ⟨by decide, by omega⟩ ?_
  refine mw_iconst (pc' := 6) dX12_overdue_5 rfl ⟨by decide, by decide⟩ ?_
  refine mw_istore_n (pc' := 7) (L' := [(0, vR 65), (1, vI 0)]) dX12_overdue_6 rfl rfl (by decide) rfl ?_
  refine mw_iconst (pc' := 8) dX12_overdue_7 rfl ⟨by decide, by decide⟩ ?_
  refine mw_istore_n (pc' := 9) (L' := [(0, vR 65), (1, vI 0), (2, vI 0)]) dX12_overdue_8 rfl rfl (by decide) rfl ?_
  exact h
theorem aX12_overdue_1 {x1 x2 : Int} {g : mG} {d : mD} {Q : mQ} (h : ((d 66 3 ≤ x2) → Q (.inl x1) g d) ∧ ((¬ (d 66 3 ≤ x2)) → (0 ≤ x2 ∧ x2 < 30) ∧ (((d 66 (145 + 16 * x2) = 111) → RW (d 66)) ∧ (((d 66 (145 + 16 * x2) = 111) → 0 ≤ x2 ∧ x2 < d 66 3) ∧ ((iI (x1 + (bI ((d 66 (145 + 16 * x2) = 111) ∧ ((¬ (dueM (d 66) x2 = (-1))) ∧ (¬ (d 66 0 ≤ dueM (d 66) x2))))))) ∧ ((iI (x2 + 1)) ∧ (pX12_overdue_1 (x1 + (bI ((d 66 (145 + 16 * x2) = 111) ∧ ((¬ (dueM (d 66) x2 = (-1))) ∧ (¬ (d 66 0 ≤ dueM (d 66) x2)))))) (x2 + 1) g d Q))))))) : pX12_overdue_1 x1 x2 g d Q := by
  unfold pX12_overdue_1
  refine mw_top (fun hT => ?_)
  have hG : 76 ≤ g.2.1 := hT.2
  refine mw_iload_n (pc' := 10) dX12_overdue_9 rfl rfl rfl ?_
  refine mw_aload_n (v := vR 65) (pc' := 11) dX12_overdue_10 rfl rfl (Or.inl rfl) rfl ?_
  refine mw_getP (v := 66) (pc' := 14) dX12_overdue_11 rfl fr_RX12_9_65 rfl sp_65_0 ⟨by decide, by decide⟩ ?_
  refine mw_iconst (pc' := 15) dX12_overdue_14 rfl ⟨by decide, by decide⟩ ?_
  refine mw_iald (pc' := 16) dX12_overdue_15 rfl lk_66 ⟨by decide, by decide⟩ (by rw [ln_66]; exact ⟨by decide, by decide⟩) ?_
  refine mw_icmp_ge (tgt := 49) (pc' := 19) dX12_overdue_16 rfl (by decide) (fun c5 => ?_) (fun c5 => ?_)
  · replace h := h.1 c5
    refine mw_iload_n (pc' := 50) dX12_overdue_49 rfl rfl rfl ?_
    exact mw_iret (pc' := 0) (S := []) dX12_overdue_50 rfl (Or.inl rfl) h
  · replace h := h.2 c5
    refine mw_iload_n (pc' := 20) dX12_overdue_19 rfl rfl rfl ?_
    refine mw_aload_n (v := vR 65) (pc' := 21) dX12_overdue_20 rfl rfl (Or.inl rfl) rfl ?_
    refine mw_iload_n (pc' := 22) dX12_overdue_21 rfl rfl rfl ?_
    obtain ⟨o6, h⟩ := h
    refine mw_callV (M' := mX12_isOpen) (A := [vI x2]) (A' := [vR 65, vI x2]) (S := [vI x1]) (a := 65) (pc' := 25) dX12_overdue_22 rfl cl_RX12_165 cm_X12_isOpen cv_X12_isOpen ⟨by decide, by decide, by decide, by decide, by decide⟩ rfl rfl rfl ⟨by decide, by omega⟩ (by decide +kernel) (by decide +kernel) (Nat.le_of_ble_eq_true rfl) (eX12_isOpen (⟨o6, ?_⟩))
    show MW mX12_overdue 0 0 25 [(0, vR 65), (1, vI x1), (2, vI x2)] [vI (bI (d 66 (145 + 16 * x2) = 111)), vI x1] g d Q
    obtain ⟨o7, h⟩ := h
    obtain ⟨o8, h⟩ := h
    suffices k9 : MW mX12_overdue 0 0 41 [(0, vR 65), (1, vI x1), (2, vI x2)] [vI (bI ((d 66 (145 + 16 * x2) = 111) ∧ ((¬ (dueM (d 66) x2 = (-1))) ∧ (¬ (d 66 0 ≤ dueM (d 66) x2))))), vI x1] g d Q by
      refine mw_if_eq (tgt := 40) (pc' := 28) dX12_overdue_25 rfl (by decide) (fun c10 => ?_) (fun c10 => ?_)
      · replace c10 := bI_0.mp c10
        refine mw_iconst (pc' := 41) dX12_overdue_40 rfl ⟨by decide, by decide⟩ ?_
        exact mw_st (bI_f (fun h => (c10 h.1))).symm k9
      · replace c10 := bI_n0.mp c10
        refine mw_aload_n (v := vR 65) (pc' := 29) dX12_overdue_28 rfl rfl (Or.inl rfl) rfl ?_
        refine mw_iload_n (pc' := 30) dX12_overdue_29 rfl rfl rfl ?_
        refine mw_callV (M' := mX12_isPast) (A := [vI x2]) (A' := [vR 65, vI x2]) (S := [vI x1]) (a := 65) (pc' := 33) dX12_overdue_30 rfl cl_RX12_168 cm_X12_isPast cv_X12_isPast ⟨by decide, by decide, by decide, by decide, by decide⟩ rfl rfl rfl ⟨by decide, by omega⟩ (by decide +kernel) (by decide +kernel) (Nat.le_of_ble_eq_true rfl) (eX12_isPast (⟨(o7 c10), (o8 c10), ?_⟩))
        show MW mX12_overdue 0 0 33 [(0, vR 65), (1, vI x1), (2, vI x2)] [vI (bI ((¬ (dueM (d 66) x2 = (-1))) ∧ (¬ (d 66 0 ≤ dueM (d 66) x2)))), vI x1] g d Q
        refine mw_if_eq (tgt := 40) (pc' := 36) dX12_overdue_33 rfl (by decide) (fun c11 => ?_) (fun c11 => ?_)
        · replace c11 := bI_0.mp c11
          refine mw_iconst (pc' := 41) dX12_overdue_40 rfl ⟨by decide, by decide⟩ ?_
          exact mw_st (bI_f (fun h => (fun h => (c11 h)) h.2)).symm k9
        · replace c11 := bI_n0.mp c11
          refine mw_iconst (pc' := 37) dX12_overdue_36 rfl ⟨by decide, by decide⟩ ?_
          refine mw_goto (pc' := 0) (tgt := 41) dX12_overdue_37 (by decide) ?_
          exact mw_st (bI_t ⟨c10, c11⟩).symm k9
    obtain ⟨o12, h⟩ := h
    refine mw_iadd (pc' := 42) dX12_overdue_41 rfl o12 ?_
    refine mw_istore_n (pc' := 43) (L' := [(0, vR 65), (1, vI (x1 + (bI ((d 66 (145 + 16 * x2) = 111) ∧ ((¬ (dueM (d 66) x2 = (-1))) ∧ (¬ (d 66 0 ≤ dueM (d 66) x2))))))), (2, vI x2)]) dX12_overdue_42 rfl rfl (by decide) rfl ?_
    obtain ⟨o13, h⟩ := h
    refine mw_iinc (pc' := 46) (L' := [(0, vR 65), (1, vI (x1 + (bI ((d 66 (145 + 16 * x2) = 111) ∧ ((¬ (dueM (d 66) x2 = (-1))) ∧ (¬ (d 66 0 ≤ dueM (d 66) x2))))))), (2, vI (x2 + 1))]) dX12_overdue_43 rfl rfl (by decide) o13 rfl ?_
    refine mw_goto (pc' := 0) (tgt := 9) dX12_overdue_46 (by decide) ?_
    exact h
def pX12_busiestDay_1 (x1 x2 x3 : Int) (g : mG) (d : mD) (Q : mQ) : Prop := MW mX12_busiestDay 0 0 15 [(0, vR 65), (1, vI x1), (2, vI x2), (3, vI x3)] [] g d Q
def pX12_busiestDay_2 (x1 x2 x3 x4 x5 : Int) (g : mG) (d : mD) (Q : mQ) : Prop := MW mX12_busiestDay 0 0 31 [(0, vR 65), (1, vI x1), (2, vI x2), (3, vI x3), (4, vI x4), (5, vI x5)] [] g d Q
theorem eX12_busiestDay {g : mG} {d : mD} {Q : mQ} (h : MM mX12_findDues [vR 65] g (ud d 65 5 0) (fun o g3 d4 => match o with | .inl v2 => pX12_busiestDay_1 (-1) 0 0 g3 d4 Q | .inr k => Q (.inr k) g3 d4)) : MM mX12_busiestDay [vR 65] g d Q := by
  refine MM_of (by decide) rfl (by simp [catV]) (Nat.le_of_ble_eq_true rfl) ?_
  show MW mX12_busiestDay 0 0 0 [(0, vR 65)] [] g d Q
  refine mw_top (fun hT => ?_)
  have hG : 76 ≤ g.2.1 := hT.2
  refine mw_aload_n (v := vR 65) (pc' := 1) dX12_busiestDay_0 rfl rfl (Or.inl rfl) rfl ?_
  refine mw_iconst (pc' := 2) dX12_busiestDay_1 rfl ⟨by decide, by decide⟩ ?_
  refine mw_putI (ji := 5) (pc' := 5) dX12_busiestDay_2 rfl (fq_RX12_41_65) (by decide +kernel) rfl (Or.inl ⟨rfl, rc_65_5⟩) (Or.inr rfl) ⟨by decide, by omega⟩ ?_
  refine mw_aload_n (v := vR 65) (pc' := 6) dX12_busiestDay_5 rfl rfl (Or.inl rfl) rfl ?_
  refine mw_callV (M' := mX12_findDues) (A := []) (A' := [vR 65]) (S := []) (a := 65) (pc' := 9) dX12_busiestDay_6 rfl cl_RX12_174 cm_X12_findDues cv_X12_findDues ⟨by decide, by decide, by decide, by decide, by decide⟩ rfl rfl rfl ⟨by decide, by omega⟩ (by decide +kernel) (by decide +kernel) (Nat.le_of_ble_eq_true rfl) (MM.mono ?_ h)
  intro o g3 d4 h1
  rcases o with v2 | k
  · refine mw_top (fun hT => ?_)
    have hG : 76 ≤ g3.2.1 := hT.2
    show MW mX12_busiestDay 0 0 9 [(0, vR 65)] [] g3 d4 Q
    refine mw_iconst (pc' := 10) dX12_busiestDay_9 rfl ⟨by decide, by decide⟩ ?_
    refine mw_istore_n (pc' := 11) (L' := [(0, vR 65), (1, vI (-1))]) dX12_busiestDay_10 rfl rfl (by decide) rfl ?_
    refine mw_iconst (pc' := 12) dX12_busiestDay_11 rfl ⟨by decide, by decide⟩ ?_
    refine mw_istore_n (pc' := 13) (L' := [(0, vR 65), (1, vI (-1)), (2, vI 0)]) dX12_busiestDay_12 rfl rfl (by decide) rfl ?_
    refine mw_iconst (pc' := 14) dX12_busiestDay_13 rfl ⟨by decide, by decide⟩ ?_
    refine mw_istore_n (pc' := 15) (L' := [(0, vR 65), (1, vI (-1)), (2, vI 0), (3, vI 0)]) dX12_busiestDay_14 rfl rfl (by decide) rfl ?_
    exact h1
  · exact mx_out rfl h1
theorem aX12_busiestDay_1 {x1 x2 x3 : Int} {g : mG} {d : mD} {Q : mQ} (h : ((d 66 3 ≤ x3) → MM mX12_fails [vR 65, vI (bI (x2 = 0)), vI 1] g d (fun o g10 d11 => match o with | .inl v9 => Q (.inl (iT (v9 = 0) x1 0)) g10 d11 | .inr k => Q (.inr k) g10 d11)) ∧ ((¬ (d 66 3 ≤ x3)) → pX12_busiestDay_2 x1 x2 x3 0 0 g d Q)) : pX12_busiestDay_1 x1 x2 x3 g d Q := by
  unfold pX12_busiestDay_1
  refine mw_top (fun hT => ?_)
  have hG : 76 ≤ g.2.1 := hT.2
  refine mw_iload_n (pc' := 16) dX12_busiestDay_15 rfl rfl rfl ?_
  refine mw_aload_n (v := vR 65) (pc' := 17) dX12_busiestDay_16 rfl rfl (Or.inl rfl) rfl ?_
  refine mw_getP (v := 66) (pc' := 20) dX12_busiestDay_17 rfl fr_RX12_9_65 rfl sp_65_0 ⟨by decide, by decide⟩ ?_
  refine mw_iconst (pc' := 21) dX12_busiestDay_20 rfl ⟨by decide, by decide⟩ ?_
  refine mw_iald (pc' := 22) dX12_busiestDay_21 rfl lk_66 ⟨by decide, by decide⟩ (by rw [ln_66]; exact ⟨by decide, by decide⟩) ?_
  refine mw_icmp_ge (tgt := 141) (pc' := 25) dX12_busiestDay_22 rfl (by decide) (fun c5 => ?_) (fun c5 => ?_)
  · replace h := h.1 c5
    refine mw_aload_n (v := vR 65) (pc' := 142) dX12_busiestDay_141 rfl rfl (Or.inl rfl) rfl ?_
    refine mw_iload_n (pc' := 143) dX12_busiestDay_142 rfl rfl rfl ?_
    suffices k6 : MW mX12_busiestDay 0 0 151 [(0, vR 65), (1, vI x1), (2, vI x2), (3, vI x3)] [vI (bI (x2 = 0)), vR 65] g d Q by
      refine mw_if_ne (tgt := 150) (pc' := 146) dX12_busiestDay_143 rfl (by decide) (fun c7 => ?_) (fun c7 => ?_)
      · refine mw_iconst (pc' := 151) dX12_busiestDay_150 rfl ⟨by decide, by decide⟩ ?_
        exact mw_st (bI_f (fun h => (c7 h))).symm k6
      · refine mw_iconst (pc' := 147) dX12_busiestDay_146 rfl ⟨by decide, by decide⟩ ?_
        refine mw_goto (pc' := 0) (tgt := 151) dX12_busiestDay_147 (by decide) ?_
        exact mw_st (bI_t c7).symm k6
    refine mw_iconst (pc' := 152) dX12_busiestDay_151 rfl ⟨by decide, by decide⟩ ?_
    refine mw_callV (M' := mX12_fails) (A := [vI (bI (x2 = 0)), vI 1]) (A' := [vR 65, vI (bI (x2 = 0)), vI 1]) (S := []) (a := 65) (pc' := 155) dX12_busiestDay_152 rfl cl_RX12_55 cm_X12_fails cv_X12_fails ⟨by decide, by decide, by decide, by decide, by decide⟩ rfl rfl rfl ⟨by decide, by omega⟩ (by decide +kernel) (by decide +kernel) (Nat.le_of_ble_eq_true rfl) (MM.mono ?_ h)
    intro o g10 d11 h8
    rcases o with v9 | k
    · refine mw_top (fun hT => ?_)
      have hG : 76 ≤ g10.2.1 := hT.2
      show MW mX12_busiestDay 0 0 155 [(0, vR 65), (1, vI x1), (2, vI x2), (3, vI x3)] [vI v9] g10 d11 Q
      suffices k12 : MW mX12_busiestDay 0 0 163 [(0, vR 65), (1, vI x1), (2, vI x2), (3, vI x3)] [vI (iT (v9 = 0) x1 0)] g10 d11 Q by
        refine mw_if_eq (tgt := 162) (pc' := 158) dX12_busiestDay_155 rfl (by decide) (fun c13 => ?_) (fun c13 => ?_)
        · refine mw_iload_n (pc' := 163) dX12_busiestDay_162 rfl rfl rfl ?_
          exact mw_st (((iT_t c13).trans rfl)).symm k12
        · refine mw_iconst (pc' := 159) dX12_busiestDay_158 rfl ⟨by decide, by decide⟩ ?_
          refine mw_goto (pc' := 0) (tgt := 163) dX12_busiestDay_159 (by decide) ?_
          exact mw_st (((iT_f c13).trans rfl)).symm k12
      exact mw_iret (pc' := 0) (S := []) dX12_busiestDay_163 rfl (Or.inl rfl) h8
    · exact mx_out rfl h8
  · replace h := h.2 c5
    refine mw_iconst (pc' := 26) dX12_busiestDay_25 rfl ⟨by decide, by decide⟩ ?_
    refine mw_istore (pc' := 28) (L' := [(0, vR 65), (1, vI x1), (2, vI x2), (3, vI x3), (4, vI 0)]) dX12_busiestDay_26 rfl (by decide) rfl ?_
    refine mw_iconst (pc' := 29) dX12_busiestDay_28 rfl ⟨by decide, by decide⟩ ?_
    refine mw_istore (pc' := 31) (L' := [(0, vR 65), (1, vI x1), (2, vI x2), (3, vI x3), (4, vI 0), (5, vI 0)]) dX12_busiestDay_29 rfl (by decide) rfl ?_
    exact h
theorem aX12_busiestDay_2 {x1 x2 x3 x4 x5 : Int} {g : mG} {d : mD} {Q : mQ} (h : ((d 66 3 ≤ x5) → (0 ≤ x3 ∧ x3 < 30) ∧ ((((d 66 (145 + 16 * x3) = 111) ∧ ((¬ (4999 < d 73 x3)) ∧ ((x2 < x4) ∨ ((x4 = x2) ∧ (¬ (x1 ≤ d 73 x3)))))) → (iI (x3 + 1)) ∧ (pX12_busiestDay_1 (d 73 x3) x4 (x3 + 1) g d Q)) ∧ ((¬ ((d 66 (145 + 16 * x3) = 111) ∧ ((¬ (4999 < d 73 x3)) ∧ ((x2 < x4) ∨ ((x4 = x2) ∧ (¬ (x1 ≤ d 73 x3))))))) → (iI (x3 + 1)) ∧ (pX12_busiestDay_1 x1 x2 (x3 + 1) g d Q)))) ∧ ((¬ (d 66 3 ≤ x5)) → (0 ≤ x5 ∧ x5 < 30) ∧ (((d 66 (145 + 16 * x5) = 111) → 0 ≤ x3 ∧ x3 < 30) ∧ ((iI (x4 + (bI ((d 66 (145 + 16 * x5) = 111) ∧ (d 73 x5 = d 73 x3))))) ∧ ((iI (x5 + 1)) ∧ (pX12_busiestDay_2 x1 x2 x3 (x4 + (bI ((d 66 (145 + 16 * x5) = 111) ∧ (d 73 x5 = d 73 x3)))) (x5 + 1) g d Q)))))) : pX12_busiestDay_2 x1 x2 x3 x4 x5 g d Q := by
  unfold pX12_busiestDay_2
  refine mw_top (fun hT => ?_)
  have hG : 76 ≤ g.2.1 := hT.2
  refine mw_iload (pc' := 33) dX12_busiestDay_31 rfl rfl ?_
  refine mw_aload_n (v := vR 65) (pc' := 34) dX12_busiestDay_33 rfl rfl (Or.inl rfl) rfl ?_
  refine mw_getP (v := 66) (pc' := 37) dX12_busiestDay_34 rfl fr_RX12_9_65 rfl sp_65_0 ⟨by decide, by decide⟩ ?_
  refine mw_iconst (pc' := 38) dX12_busiestDay_37 rfl ⟨by decide, by decide⟩ ?_
  refine mw_iald (pc' := 39) dX12_busiestDay_38 rfl lk_66 ⟨by decide, by decide⟩ (by rw [ln_66]; exact ⟨by decide, by decide⟩) ?_
  refine mw_icmp_ge (tgt := 83) (pc' := 42) dX12_busiestDay_39 rfl (by decide) (fun c22 => ?_) (fun c22 => ?_)
  · replace h := h.1 c22
    refine mw_aload_n (v := vR 65) (pc' := 84) dX12_busiestDay_83 rfl rfl (Or.inl rfl) rfl ?_
    refine mw_iload_n (pc' := 85) dX12_busiestDay_84 rfl rfl rfl ?_
    obtain ⟨o23, h⟩ := h
    refine mw_callV (M' := mX12_isOpen) (A := [vI x3]) (A' := [vR 65, vI x3]) (S := []) (a := 65) (pc' := 88) dX12_busiestDay_85 rfl cl_RX12_165 cm_X12_isOpen cv_X12_isOpen ⟨by decide, by decide, by decide, by decide, by decide⟩ rfl rfl rfl ⟨by decide, by omega⟩ (by decide +kernel) (by decide +kernel) (Nat.le_of_ble_eq_true rfl) (eX12_isOpen (⟨o23, ?_⟩))
    show MW mX12_busiestDay 0 0 88 [(0, vR 65), (1, vI x1), (2, vI x2), (3, vI x3), (4, vI x4), (5, vI x5)] [vI (bI (d 66 (145 + 16 * x3) = 111))] g d Q
    suffices k27 : (((d 66 (145 + 16 * x3) = 111) ∧ ((¬ (4999 < d 73 x3)) ∧ ((x2 < x4) ∨ ((x4 = x2) ∧ (¬ (x1 ≤ d 73 x3)))))) → MW mX12_busiestDay 0 0 125 [(0, vR 65), (1, vI x1), (2, vI x2), (3, vI x3), (4, vI x4), (5, vI x5)] [] g d Q) ∧ ((¬ ((d 66 (145 + 16 * x3) = 111) ∧ ((¬ (4999 < d 73 x3)) ∧ ((x2 < x4) ∨ ((x4 = x2) ∧ (¬ (x1 ≤ d 73 x3))))))) → MW mX12_busiestDay 0 0 135 [(0, vR 65), (1, vI x1), (2, vI x2), (3, vI x3), (4, vI x4), (5, vI x5)] [] g d Q) by
      refine mw_if_eq (tgt := 135) (pc' := 91) dX12_busiestDay_88 rfl (by decide) (fun c28 => ?_) (fun c28 => ?_)
      · replace c28 := bI_0.mp c28
        exact k27.2 (fun h => (c28 h.1))
      · replace c28 := bI_n0.mp c28
        refine mw_aload_n (v := vR 65) (pc' := 92) dX12_busiestDay_91 rfl rfl (Or.inl rfl) rfl ?_
        refine mw_getP (v := 73) (pc' := 95) dX12_busiestDay_92 rfl fr_RX12_38_65 rfl sp_65_16 ⟨by decide, by decide⟩ ?_
        refine mw_iload_n (pc' := 96) dX12_busiestDay_95 rfl rfl rfl ?_
        refine mw_iald (pc' := 97) dX12_busiestDay_96 rfl lk_73 ⟨by decide, by decide⟩ (by rw [ln_73]; exact o23) ?_
        refine mw_sipush (pc' := 100) dX12_busiestDay_97 rfl ⟨by decide, by decide⟩ ?_
        refine mw_icmp_gt (tgt := 135) (pc' := 103) dX12_busiestDay_100 rfl (by decide) (fun c29 => ?_) (fun c29 => ?_)
        · exact k27.2 (fun h => (fun h => (h.1 c29)) h.2)
        · refine mw_iload (pc' := 105) dX12_busiestDay_103 rfl rfl ?_
          refine mw_iload_n (pc' := 106) dX12_busiestDay_105 rfl rfl rfl ?_
          refine mw_icmp_gt (tgt := 125) (pc' := 109) dX12_busiestDay_106 rfl (by decide) (fun c30 => ?_) (fun c30 => ?_)
          · exact k27.1 ⟨c28, ⟨c29, (Or.inl c30)⟩⟩
          · refine mw_iload (pc' := 111) dX12_busiestDay_109 rfl rfl ?_
            refine mw_iload_n (pc' := 112) dX12_busiestDay_111 rfl rfl rfl ?_
            refine mw_icmp_ne (tgt := 135) (pc' := 115) dX12_busiestDay_112 rfl (by decide) (fun c31 => ?_) (fun c31 => ?_)
            · exact k27.2 (fun h => (fun h => (fun h => h.elim (fun q => (c30 q)) (fun h => (c31 h.1))) h.2) h.2)
            · refine mw_aload_n (v := vR 65) (pc' := 116) dX12_busiestDay_115 rfl rfl (Or.inl rfl) rfl ?_
              refine mw_getP (v := 73) (pc' := 119) dX12_busiestDay_116 rfl fr_RX12_38_65 rfl sp_65_16 ⟨by decide, by decide⟩ ?_
              refine mw_iload_n (pc' := 120) dX12_busiestDay_119 rfl rfl rfl ?_
              refine mw_iald (pc' := 121) dX12_busiestDay_120 rfl lk_73 ⟨by decide, by decide⟩ (by rw [ln_73]; exact o23) ?_
              refine mw_iload_n (pc' := 122) dX12_busiestDay_121 rfl rfl rfl ?_
              refine mw_icmp_ge (tgt := 135) (pc' := 125) dX12_busiestDay_122 rfl (by decide) (fun c32 => ?_) (fun c32 => ?_)
              · exact k27.2 (fun h => (fun h => (fun h => h.elim (fun q => (c30 q)) (fun h => (fun h => (h c32)) h.2)) h.2) h.2)
              · exact k27.1 ⟨c28, ⟨c29, (Or.inr ⟨c31, c32⟩)⟩⟩
    refine ⟨fun c33 => ?_, fun c33 => ?_⟩
    · replace h := h.1 c33
      refine mw_aload_n (v := vR 65) (pc' := 126) dX12_busiestDay_125 rfl rfl (Or.inl rfl) rfl ?_
      refine mw_getP (v := 73) (pc' := 129) dX12_busiestDay_126 rfl fr_RX12_38_65 rfl sp_65_16 ⟨by decide, by decide⟩ ?_
      refine mw_iload_n (pc' := 130) dX12_busiestDay_129 rfl rfl rfl ?_
      refine mw_iald (pc' := 131) dX12_busiestDay_130 rfl lk_73 ⟨by decide, by decide⟩ (by rw [ln_73]; exact o23) ?_
      refine mw_istore_n (pc' := 132) (L' := [(0, vR 65), (1, vI (d 73 x3)), (2, vI x2), (3, vI x3), (4, vI x4), (5, vI x5)]) dX12_busiestDay_131 rfl rfl (by decide) rfl ?_
      refine mw_iload (pc' := 134) dX12_busiestDay_132 rfl rfl ?_
      refine mw_istore_n (pc' := 135) (L' := [(0, vR 65), (1, vI (d 73 x3)), (2, vI x4), (3, vI x3), (4, vI x4), (5, vI x5)]) dX12_busiestDay_134 rfl rfl (by decide) rfl ?_
      obtain ⟨o35, h⟩ := h
      refine mw_iinc (pc' := 138) (L' := [(0, vR 65), (1, vI (d 73 x3)), (2, vI x4), (3, vI (x3 + 1)), (4, vI x4), (5, vI x5)]) dX12_busiestDay_135 rfl rfl (by decide) o35 rfl ?_
      refine mw_goto (pc' := 0) (tgt := 15) dX12_busiestDay_138 (by decide) ?_
      exact mw_loc (pc' := 0) [0, 1, 2, 3] rfl h
    · replace h := h.2 c33
      obtain ⟨o36, h⟩ := h
      refine mw_iinc (pc' := 138) (L' := [(0, vR 65), (1, vI x1), (2, vI x2), (3, vI (x3 + 1)), (4, vI x4), (5, vI x5)]) dX12_busiestDay_135 rfl rfl (by decide) o36 rfl ?_
      refine mw_goto (pc' := 0) (tgt := 15) dX12_busiestDay_138 (by decide) ?_
      exact mw_loc (pc' := 0) [0, 1, 2, 3] rfl h
  · replace h := h.2 c22
    refine mw_iload (pc' := 44) dX12_busiestDay_42 rfl rfl ?_
    refine mw_aload_n (v := vR 65) (pc' := 45) dX12_busiestDay_44 rfl rfl (Or.inl rfl) rfl ?_
    refine mw_iload (pc' := 47) dX12_busiestDay_45 rfl rfl ?_
    obtain ⟨o37, h⟩ := h
    refine mw_callV (M' := mX12_isOpen) (A := [vI x5]) (A' := [vR 65, vI x5]) (S := [vI x4]) (a := 65) (pc' := 50) dX12_busiestDay_47 rfl cl_RX12_165 cm_X12_isOpen cv_X12_isOpen ⟨by decide, by decide, by decide, by decide, by decide⟩ rfl rfl rfl ⟨by decide, by omega⟩ (by decide +kernel) (by decide +kernel) (Nat.le_of_ble_eq_true rfl) (eX12_isOpen (⟨o37, ?_⟩))
    show MW mX12_busiestDay 0 0 50 [(0, vR 65), (1, vI x1), (2, vI x2), (3, vI x3), (4, vI x4), (5, vI x5)] [vI (bI (d 66 (145 + 16 * x5) = 111)), vI x4] g d Q
    obtain ⟨o39, h⟩ := h
    suffices k40 : MW mX12_busiestDay 0 0 74 [(0, vR 65), (1, vI x1), (2, vI x2), (3, vI x3), (4, vI x4), (5, vI x5)] [vI (bI ((d 66 (145 + 16 * x5) = 111) ∧ (d 73 x5 = d 73 x3))), vI x4] g d Q by
      refine mw_if_eq (tgt := 73) (pc' := 53) dX12_busiestDay_50 rfl (by decide) (fun c41 => ?_) (fun c41 => ?_)
      · replace c41 := bI_0.mp c41
        refine mw_iconst (pc' := 74) dX12_busiestDay_73 rfl ⟨by decide, by decide⟩ ?_
        exact mw_st (bI_f (fun h => (c41 h.1))).symm k40
      · replace c41 := bI_n0.mp c41
        refine mw_aload_n (v := vR 65) (pc' := 54) dX12_busiestDay_53 rfl rfl (Or.inl rfl) rfl ?_
        refine mw_getP (v := 73) (pc' := 57) dX12_busiestDay_54 rfl fr_RX12_38_65 rfl sp_65_16 ⟨by decide, by decide⟩ ?_
        refine mw_iload (pc' := 59) dX12_busiestDay_57 rfl rfl ?_
        refine mw_iald (pc' := 60) dX12_busiestDay_59 rfl lk_73 ⟨by decide, by decide⟩ (by rw [ln_73]; exact o37) ?_
        refine mw_aload_n (v := vR 65) (pc' := 61) dX12_busiestDay_60 rfl rfl (Or.inl rfl) rfl ?_
        refine mw_getP (v := 73) (pc' := 64) dX12_busiestDay_61 rfl fr_RX12_38_65 rfl sp_65_16 ⟨by decide, by decide⟩ ?_
        refine mw_iload_n (pc' := 65) dX12_busiestDay_64 rfl rfl rfl ?_
        refine mw_iald (pc' := 66) dX12_busiestDay_65 rfl lk_73 ⟨by decide, by decide⟩ (by rw [ln_73]; exact (o39 c41)) ?_
        refine mw_icmp_ne (tgt := 73) (pc' := 69) dX12_busiestDay_66 rfl (by decide) (fun c42 => ?_) (fun c42 => ?_)
        · refine mw_iconst (pc' := 74) dX12_busiestDay_73 rfl ⟨by decide, by decide⟩ ?_
          exact mw_st (bI_f (fun h => (fun h => (c42 h)) h.2)).symm k40
        · refine mw_iconst (pc' := 70) dX12_busiestDay_69 rfl ⟨by decide, by decide⟩ ?_
          refine mw_goto (pc' := 0) (tgt := 74) dX12_busiestDay_70 (by decide) ?_
          exact mw_st (bI_t ⟨c41, c42⟩).symm k40
    obtain ⟨o43, h⟩ := h
    refine mw_iadd (pc' := 75) dX12_busiestDay_74 rfl o43 ?_
    refine mw_istore (pc' := 77) (L' := [(0, vR 65), (1, vI x1), (2, vI x2), (3, vI x3), (4, vI (x4 + (bI ((d 66 (145 + 16 * x5) = 111) ∧ (d 73 x5 = d 73 x3))))), (5, vI x5)]) dX12_busiestDay_75 rfl (by decide) rfl ?_
    obtain ⟨o44, h⟩ := h
    refine mw_iinc (pc' := 80) (L' := [(0, vR 65), (1, vI x1), (2, vI x2), (3, vI x3), (4, vI (x4 + (bI ((d 66 (145 + 16 * x5) = 111) ∧ (d 73 x5 = d 73 x3))))), (5, vI (x5 + 1))]) dX12_busiestDay_77 rfl rfl (by decide) o44 rfl ?_
    refine mw_goto (pc' := 0) (tgt := 31) dX12_busiestDay_80 (by decide) ?_
    exact h
def pX12_meanDaysLeft_1 (x1 x2 x3 : Int) (g : mG) (d : mD) (Q : mQ) : Prop := MW mX12_meanDaysLeft 0 0 11 [(0, vR 65), (1, vI x1), (2, vI x2), (3, vI x3)] [] g d Q
theorem eX12_meanDaysLeft {g : mG} {d : mD} {Q : mQ} (h : pX12_meanDaysLeft_1 0 0 0 g (ud d 65 5 0) Q) : MM mX12_meanDaysLeft [vR 65] g d Q := by
  refine MM_of (by decide) rfl (by simp [catV]) (Nat.le_of_ble_eq_true rfl) ?_
  show MW mX12_meanDaysLeft 0 0 0 [(0, vR 65)] [] g d Q
  refine mw_top (fun hT => ?_)
  have hG : 76 ≤ g.2.1 := hT.2
  refine mw_aload_n (v := vR 65) (pc' := 1) dX12_meanDaysLeft_0 rfl rfl (Or.inl rfl) rfl ?_
  refine mw_iconst (pc' := 2) dX12_meanDaysLeft_1 rfl ⟨by decide, by decide⟩ ?_
  refine mw_putI (ji := 5) (pc' := 5) dX12_meanDaysLeft_2 rfl (fq_RX12_41_65) (by decide +kernel) rfl (Or.inl ⟨rfl, rc_65_5⟩) (Or.inr rfl) ⟨by decide, by omega⟩ ?_
  refine mw_iconst (pc' := 6) dX12_meanDaysLeft_5 rfl ⟨by decide, by decide⟩ ?_
  refine mw_istore_n (pc' := 7) (L' := [(0, vR 65), (1, vI 0)]) dX12_meanDaysLeft_6 rfl rfl (by decide) rfl ?_
  refine mw_iconst (pc' := 8) dX12_meanDaysLeft_7 rfl ⟨by decide, by decide⟩ ?_
  refine mw_istore_n (pc' := 9) (L' := [(0, vR 65), (1, vI 0), (2, vI 0)]) dX12_meanDaysLeft_8 rfl rfl (by decide) rfl ?_
  refine mw_iconst (pc' := 10) dX12_meanDaysLeft_9 rfl ⟨by decide, by decide⟩ ?_
  refine mw_istore_n (pc' := 11) (L' := [(0, vR 65), (1, vI 0), (2, vI 0), (3, vI 0)]) dX12_meanDaysLeft_10 rfl rfl (by decide) rfl ?_
  exact h
theorem aX12_meanDaysLeft_1 {x1 x2 x3 : Int} {g : mG} {d : mD} {Q : mQ} (h : ((d 66 3 ≤ x3) → MM mX12_fails [vR 65, vI (bI (x2 = 0)), vI 1] g d (fun o g11 d12 => match o with | .inl v10 => ((v10 = 0) → vf_n64 (FP.ddiv (UInt64.ofNat (fI2 x1).toNat) (UInt64.ofNat (fI2 x2).toNat))) ∧ (Q (.inl (iT (v10 = 0) (fDiv (fI2 x1) (fI2 x2)) 0)) g11 d12) | .inr k => Q (.inr k) g11 d12)) ∧ ((¬ (d 66 3 ≤ x3)) → (0 ≤ x3 ∧ x3 < 30) ∧ (((d 66 (145 + 16 * x3) = 111) → (RW (d 66)) ∧ ((0 ≤ x3 ∧ x3 < d 66 3) ∧ ((iI (x1 + (leftF (d 66) x3))) ∧ ((iI (x2 + 1)) ∧ ((iI (x3 + 1)) ∧ (pX12_meanDaysLeft_1 (x1 + (leftF (d 66) x3)) (x2 + 1) (x3 + 1) g d Q)))))) ∧ ((¬ (d 66 (145 + 16 * x3) = 111)) → (iI (x3 + 1)) ∧ (pX12_meanDaysLeft_1 x1 x2 (x3 + 1) g d Q))))) : pX12_meanDaysLeft_1 x1 x2 x3 g d Q := by
  unfold pX12_meanDaysLeft_1
  refine mw_top (fun hT => ?_)
  have hG : 76 ≤ g.2.1 := hT.2
  refine mw_iload_n (pc' := 12) dX12_meanDaysLeft_11 rfl rfl rfl ?_
  refine mw_aload_n (v := vR 65) (pc' := 13) dX12_meanDaysLeft_12 rfl rfl (Or.inl rfl) rfl ?_
  refine mw_getP (v := 66) (pc' := 16) dX12_meanDaysLeft_13 rfl fr_RX12_9_65 rfl sp_65_0 ⟨by decide, by decide⟩ ?_
  refine mw_iconst (pc' := 17) dX12_meanDaysLeft_16 rfl ⟨by decide, by decide⟩ ?_
  refine mw_iald (pc' := 18) dX12_meanDaysLeft_17 rfl lk_66 ⟨by decide, by decide⟩ (by rw [ln_66]; exact ⟨by decide, by decide⟩) ?_
  refine mw_icmp_ge (tgt := 46) (pc' := 21) dX12_meanDaysLeft_18 rfl (by decide) (fun c6 => ?_) (fun c6 => ?_)
  · replace h := h.1 c6
    refine mw_aload_n (v := vR 65) (pc' := 47) dX12_meanDaysLeft_46 rfl rfl (Or.inl rfl) rfl ?_
    refine mw_iload_n (pc' := 48) dX12_meanDaysLeft_47 rfl rfl rfl ?_
    suffices k7 : MW mX12_meanDaysLeft 0 0 56 [(0, vR 65), (1, vI x1), (2, vI x2), (3, vI x3)] [vI (bI (x2 = 0)), vR 65] g d Q by
      refine mw_if_ne (tgt := 55) (pc' := 51) dX12_meanDaysLeft_48 rfl (by decide) (fun c8 => ?_) (fun c8 => ?_)
      · refine mw_iconst (pc' := 56) dX12_meanDaysLeft_55 rfl ⟨by decide, by decide⟩ ?_
        exact mw_st (bI_f (fun h => (c8 h))).symm k7
      · refine mw_iconst (pc' := 52) dX12_meanDaysLeft_51 rfl ⟨by decide, by decide⟩ ?_
        refine mw_goto (pc' := 0) (tgt := 56) dX12_meanDaysLeft_52 (by decide) ?_
        exact mw_st (bI_t c8).symm k7
    refine mw_iconst (pc' := 57) dX12_meanDaysLeft_56 rfl ⟨by decide, by decide⟩ ?_
    refine mw_callV (M' := mX12_fails) (A := [vI (bI (x2 = 0)), vI 1]) (A' := [vR 65, vI (bI (x2 = 0)), vI 1]) (S := []) (a := 65) (pc' := 60) dX12_meanDaysLeft_57 rfl cl_RX12_55 cm_X12_fails cv_X12_fails ⟨by decide, by decide, by decide, by decide, by decide⟩ rfl rfl rfl ⟨by decide, by omega⟩ (by decide +kernel) (by decide +kernel) (Nat.le_of_ble_eq_true rfl) (MM.mono ?_ h)
    intro o g11 d12 h9
    rcases o with v10 | k
    · refine mw_top (fun hT => ?_)
      have hG : 76 ≤ g11.2.1 := hT.2
      show MW mX12_meanDaysLeft 0 0 60 [(0, vR 65), (1, vI x1), (2, vI x2), (3, vI x3)] [vI v10] g11 d12 Q
      obtain ⟨o13, h9⟩ := h9
      suffices k14 : MW mX12_meanDaysLeft 0 0 72 [(0, vR 65), (1, vI x1), (2, vI x2), (3, vI x3)] [vD (iT (v10 = 0) (fDiv (fI2 x1) (fI2 x2)) 0)] g11 d12 Q by
        refine mw_if_eq (tgt := 67) (pc' := 63) dX12_meanDaysLeft_60 rfl (by decide) (fun c15 => ?_) (fun c15 => ?_)
        · refine mw_iload_n (pc' := 68) dX12_meanDaysLeft_67 rfl rfl rfl ?_
          refine mw_i2d (pc' := 69) dX12_meanDaysLeft_68 rfl ?_
          refine mw_iload_n (pc' := 70) dX12_meanDaysLeft_69 rfl rfl rfl ?_
          refine mw_i2d (pc' := 71) dX12_meanDaysLeft_70 rfl ?_
          refine mw_ddiv (pc' := 72) dX12_meanDaysLeft_71 rfl (o13 c15) ?_
          exact mw_st (((iT_t c15).trans rfl)).symm k14
        · refine mw_dconst0 (pc' := 64) dX12_meanDaysLeft_63 rfl ?_
          refine mw_goto (pc' := 0) (tgt := 72) dX12_meanDaysLeft_64 (by decide) ?_
          exact mw_st (((iT_f c15).trans rfl)).symm k14
      exact mw_dret (pc' := 0) (S := []) dX12_meanDaysLeft_72 rfl h9
    · exact mx_out rfl h9
  · replace h := h.2 c6
    refine mw_aload_n (v := vR 65) (pc' := 22) dX12_meanDaysLeft_21 rfl rfl (Or.inl rfl) rfl ?_
    refine mw_iload_n (pc' := 23) dX12_meanDaysLeft_22 rfl rfl rfl ?_
    obtain ⟨o16, h⟩ := h
    refine mw_callV (M' := mX12_isOpen) (A := [vI x3]) (A' := [vR 65, vI x3]) (S := []) (a := 65) (pc' := 26) dX12_meanDaysLeft_23 rfl cl_RX12_165 cm_X12_isOpen cv_X12_isOpen ⟨by decide, by decide, by decide, by decide, by decide⟩ rfl rfl rfl ⟨by decide, by omega⟩ (by decide +kernel) (by decide +kernel) (Nat.le_of_ble_eq_true rfl) (eX12_isOpen (⟨o16, ?_⟩))
    show MW mX12_meanDaysLeft 0 0 26 [(0, vR 65), (1, vI x1), (2, vI x2), (3, vI x3)] [vI (bI (d 66 (145 + 16 * x3) = 111))] g d Q
    refine mw_if_eq (tgt := 40) (pc' := 29) dX12_meanDaysLeft_26 rfl (by decide) (fun c23 => ?_) (fun c23 => ?_)
    · replace c23 := bI_0.mp c23
      replace h := h.2 c23
      obtain ⟨o29, h⟩ := h
      refine mw_iinc (pc' := 43) (L' := [(0, vR 65), (1, vI x1), (2, vI x2), (3, vI (x3 + 1))]) dX12_meanDaysLeft_40 rfl rfl (by decide) o29 rfl ?_
      refine mw_goto (pc' := 0) (tgt := 11) dX12_meanDaysLeft_43 (by decide) ?_
      exact h
    · replace c23 := bI_n0.mp c23
      replace h := h.1 c23
      refine mw_iload_n (pc' := 30) dX12_meanDaysLeft_29 rfl rfl rfl ?_
      refine mw_aload_n (v := vR 65) (pc' := 31) dX12_meanDaysLeft_30 rfl rfl (Or.inl rfl) rfl ?_
      refine mw_iload_n (pc' := 32) dX12_meanDaysLeft_31 rfl rfl rfl ?_
      obtain ⟨o24, h⟩ := h
      obtain ⟨o25, h⟩ := h
      refine mw_callV (M' := mX12_leftOf) (A := [vI x3]) (A' := [vR 65, vI x3]) (S := [vI x1]) (a := 65) (pc' := 35) dX12_meanDaysLeft_32 rfl cl_RX12_156 cm_X12_leftOf cv_X12_leftOf ⟨by decide, by decide, by decide, by decide, by decide⟩ rfl rfl rfl ⟨by decide, by omega⟩ (by decide +kernel) (by decide +kernel) (Nat.le_of_ble_eq_true rfl) (f_leftOf (⟨o24, o25, ?_⟩))
      show MW mX12_meanDaysLeft 0 0 35 [(0, vR 65), (1, vI x1), (2, vI x2), (3, vI x3)] [vI (leftF (d 66) x3), vI x1] g d Q
      obtain ⟨o26, h⟩ := h
      refine mw_iadd (pc' := 36) dX12_meanDaysLeft_35 rfl o26 ?_
      refine mw_istore_n (pc' := 37) (L' := [(0, vR 65), (1, vI (x1 + (leftF (d 66) x3))), (2, vI x2), (3, vI x3)]) dX12_meanDaysLeft_36 rfl rfl (by decide) rfl ?_
      obtain ⟨o27, h⟩ := h
      refine mw_iinc (pc' := 40) (L' := [(0, vR 65), (1, vI (x1 + (leftF (d 66) x3))), (2, vI (x2 + 1)), (3, vI x3)]) dX12_meanDaysLeft_37 rfl rfl (by decide) o27 rfl ?_
      obtain ⟨o28, h⟩ := h
      refine mw_iinc (pc' := 43) (L' := [(0, vR 65), (1, vI (x1 + (leftF (d 66) x3))), (2, vI (x2 + 1)), (3, vI (x3 + 1))]) dX12_meanDaysLeft_40 rfl rfl (by decide) o28 rfl ?_
      refine mw_goto (pc' := 0) (tgt := 11) dX12_meanDaysLeft_43 (by decide) ?_
      exact h
theorem eX12_stayParty {x1 x2 : Int} {g : mG} {d : mD} {Q : mQ} (h : (iI ((d 66 1) - 1)) ∧ ((((¬ ((¬ (x1 < 0)) ∧ (¬ (((d 66 1) - 1) < x1))))) → Q (.inl 0) g (ud (ud d 65 5 0) 65 5 1)) ∧ (((¬ (x1 < 0)) ∧ (¬ (((d 66 1) - 1) < x1))) → (((¬ ((¬ (x2 < 1)) ∧ (¬ (255 < x2))))) → Q (.inl 0) g (ud (ud d 65 5 0) 65 5 2)) ∧ (((¬ (x2 < 1)) ∧ (¬ (255 < x2))) → (((d 66 4 = 12)) → Q (.inl 0) g (ud (ud d 65 5 0) 65 5 3)) ∧ ((¬ (d 66 4 = 12)) → (0 ≤ d 65 3 ∧ d 65 3 ≤ 8) ∧ ((RW ((mChg (ud d 65 5 0)) 66)) ∧ ((((mChg (ud d 65 5 0)) 66 4) < 12) ∧ (Q (.inl ((mChg (ud d 65 5 0)) 66 4)) g (ud (ud (ud (ud (ud (mChg (ud d 65 5 0)) 66 (619 + 4 * (((mChg (ud d 65 5 0)) 66 4))) x1) 66 (620 + 4 * (((mChg (ud d 65 5 0)) 66 4))) x2) 66 (621 + 4 * (((mChg (ud d 65 5 0)) 66 4))) ((mChg (ud d 65 5 0)) 66 0)) 66 (622 + 4 * (((mChg (ud d 65 5 0)) 66 4))) (-1)) 66 4 ((((mChg (ud d 65 5 0)) 66 4)) + 1)))))))))) : MM mX12_stayParty [vR 65, vI x1, vI x2] g d Q := by
  refine MM_of (by decide) rfl (by simp [catV]) (Nat.le_of_ble_eq_true rfl) ?_
  show MW mX12_stayParty 0 0 0 [(0, vR 65), (1, vI x1), (2, vI x2)] [] g d Q
  refine mw_top (fun hT => ?_)
  have hG : 76 ≤ g.2.1 := hT.2
  refine mw_aload_n (v := vR 65) (pc' := 1) dX12_stayParty_0 rfl rfl (Or.inl rfl) rfl ?_
  refine mw_iconst (pc' := 2) dX12_stayParty_1 rfl ⟨by decide, by decide⟩ ?_
  refine mw_putI (ji := 5) (pc' := 5) dX12_stayParty_2 rfl (fq_RX12_41_65) (by decide +kernel) rfl (Or.inl ⟨rfl, rc_65_5⟩) (Or.inr rfl) ⟨by decide, by omega⟩ ?_
  refine mw_aload_n (v := vR 65) (pc' := 6) dX12_stayParty_5 rfl rfl (Or.inl rfl) rfl ?_
  refine mw_aload_n (v := vR 65) (pc' := 7) dX12_stayParty_6 rfl rfl (Or.inl rfl) rfl ?_
  refine mw_iload_n (pc' := 8) dX12_stayParty_7 rfl rfl rfl ?_
  obtain ⟨o1, h⟩ := h
  refine mw_callV (M' := mX12_noParty) (A := [vI x1]) (A' := [vR 65, vI x1]) (S := [vR 65]) (a := 65) (pc' := 11) dX12_stayParty_8 rfl cl_RX12_96 cm_X12_noParty cv_X12_noParty ⟨by decide, by decide, by decide, by decide, by decide⟩ rfl rfl rfl ⟨by decide, by omega⟩ (by decide +kernel) (by decide +kernel) (Nat.le_of_ble_eq_true rfl) (eX12_noParty (⟨o1, ?_⟩))
  show MW mX12_stayParty 0 0 11 [(0, vR 65), (1, vI x1), (2, vI x2)] [vI (bI (¬ ((¬ (x1 < 0)) ∧ (¬ (((d 66 1) - 1) < x1))))), vR 65] g (ud d 65 5 0) Q
  refine mw_iconst (pc' := 12) dX12_stayParty_11 rfl ⟨by decide, by decide⟩ ?_
  refine mw_callV (M' := mX12_fails) (A := [vI (bI (¬ ((¬ (x1 < 0)) ∧ (¬ (((d 66 1) - 1) < x1))))), vI 1]) (A' := [vR 65, vI (bI (¬ ((¬ (x1 < 0)) ∧ (¬ (((d 66 1) - 1) < x1))))), vI 1]) (S := []) (a := 65) (pc' := 15) dX12_stayParty_12 rfl cl_RX12_55 cm_X12_fails cv_X12_fails ⟨by decide, by decide, by decide, by decide, by decide⟩ rfl rfl rfl ⟨by decide, by omega⟩ (by decide +kernel) (by decide +kernel) (Nat.le_of_ble_eq_true rfl) (f_fails (udS) (by decide) ?_)
  refine ⟨fun c2 => ?_, fun c2 => ?_⟩
  · replace h := h.1 (show (¬ ((¬ (x1 < 0)) ∧ (¬ (((d 66 1) - 1) < x1)))) from c2)
    show MW mX12_stayParty 0 0 15 [(0, vR 65), (1, vI x1), (2, vI x2)] [vI 1] g (ud (ud d 65 5 0) 65 5 1) Q
    refine mw_if_ne (tgt := 66) (pc' := 18) dX12_stayParty_15 rfl (by decide) (fun _ => ?_) (fun q => absurd q (by decide))
    refine mw_iconst (pc' := 67) dX12_stayParty_66 rfl ⟨by decide, by decide⟩ ?_
    exact mw_iret (pc' := 0) (S := []) dX12_stayParty_67 rfl (Or.inl rfl) h
  · replace h := h.2 (show (¬ (x1 < 0)) ∧ (¬ (((d 66 1) - 1) < x1)) from (Classical.not_not.mp c2))
    show MW mX12_stayParty 0 0 15 [(0, vR 65), (1, vI x1), (2, vI x2)] [vI 0] g (ud d 65 5 0) Q
    refine mw_if_ne (tgt := 66) (pc' := 18) dX12_stayParty_15 rfl (by decide) (fun q => absurd q (by decide)) (fun _ => ?_)
    refine mw_aload_n (v := vR 65) (pc' := 19) dX12_stayParty_18 rfl rfl (Or.inl rfl) rfl ?_
    refine mw_iload_n (pc' := 20) dX12_stayParty_19 rfl rfl rfl ?_
    refine mw_iconst (pc' := 21) dX12_stayParty_20 rfl ⟨by decide, by decide⟩ ?_
    refine mw_sipush (pc' := 24) dX12_stayParty_21 rfl ⟨by decide, by decide⟩ ?_
    refine mw_callS (M' := mX12_in) (A := [vI x2, vI 1, vI 255]) (S := [vR 65]) (pc' := 27) dX12_stayParty_24 rfl cl_RX12_64 cm_X12_in cs_X12_in ⟨by decide, by decide, by decide, by decide, by decide⟩ rfl rfl (Nat.le_of_ble_eq_true rfl) (eX12_in ?_)
    show MW mX12_stayParty 0 0 27 [(0, vR 65), (1, vI x1), (2, vI x2)] [vI (bI ((¬ (x2 < 1)) ∧ (¬ (255 < x2)))), vR 65] g (ud d 65 5 0) Q
    suffices k3 : MW mX12_stayParty 0 0 35 [(0, vR 65), (1, vI x1), (2, vI x2)] [vI (bI (¬ ((¬ (x2 < 1)) ∧ (¬ (255 < x2))))), vR 65] g (ud d 65 5 0) Q by
      refine mw_if_ne (tgt := 34) (pc' := 30) dX12_stayParty_27 rfl (by decide) (fun c4 => ?_) (fun c4 => ?_)
      · replace c4 := bI_n0.mp c4
        refine mw_iconst (pc' := 35) dX12_stayParty_34 rfl ⟨by decide, by decide⟩ ?_
        exact mw_st (bI_f (fun h => (h c4))).symm k3
      · replace c4 := bI_0.mp c4
        refine mw_iconst (pc' := 31) dX12_stayParty_30 rfl ⟨by decide, by decide⟩ ?_
        refine mw_goto (pc' := 0) (tgt := 35) dX12_stayParty_31 (by decide) ?_
        exact mw_st (bI_t c4).symm k3
    refine mw_iconst (pc' := 36) dX12_stayParty_35 rfl ⟨by decide, by decide⟩ ?_
    refine mw_callV (M' := mX12_fails) (A := [vI (bI (¬ ((¬ (x2 < 1)) ∧ (¬ (255 < x2))))), vI 2]) (A' := [vR 65, vI (bI (¬ ((¬ (x2 < 1)) ∧ (¬ (255 < x2))))), vI 2]) (S := []) (a := 65) (pc' := 39) dX12_stayParty_36 rfl cl_RX12_55 cm_X12_fails cv_X12_fails ⟨by decide, by decide, by decide, by decide, by decide⟩ rfl rfl rfl ⟨by decide, by omega⟩ (by decide +kernel) (by decide +kernel) (Nat.le_of_ble_eq_true rfl) (f_fails (udS) (by decide) ?_)
    refine ⟨fun c5 => ?_, fun c5 => ?_⟩
    · replace h := h.1 (show (¬ ((¬ (x2 < 1)) ∧ (¬ (255 < x2)))) from c5)
      show MW mX12_stayParty 0 0 39 [(0, vR 65), (1, vI x1), (2, vI x2)] [vI 1] g (ud (ud d 65 5 0) 65 5 2) Q
      refine mw_if_ne (tgt := 66) (pc' := 42) dX12_stayParty_39 rfl (by decide) (fun _ => ?_) (fun q => absurd q (by decide))
      refine mw_iconst (pc' := 67) dX12_stayParty_66 rfl ⟨by decide, by decide⟩ ?_
      exact mw_iret (pc' := 0) (S := []) dX12_stayParty_67 rfl (Or.inl rfl) h
    · replace h := h.2 (show (¬ (x2 < 1)) ∧ (¬ (255 < x2)) from (Classical.not_not.mp c5))
      show MW mX12_stayParty 0 0 39 [(0, vR 65), (1, vI x1), (2, vI x2)] [vI 0] g (ud d 65 5 0) Q
      refine mw_if_ne (tgt := 66) (pc' := 42) dX12_stayParty_39 rfl (by decide) (fun q => absurd q (by decide)) (fun _ => ?_)
      refine mw_aload_n (v := vR 65) (pc' := 43) dX12_stayParty_42 rfl rfl (Or.inl rfl) rfl ?_
      refine mw_aload_n (v := vR 65) (pc' := 44) dX12_stayParty_43 rfl rfl (Or.inl rfl) rfl ?_
      refine mw_getP (v := 66) (pc' := 47) dX12_stayParty_44 rfl fr_RX12_9_65 rfl sp_65_0 ⟨by decide, by decide⟩ ?_
      refine mw_iconst (pc' := 48) dX12_stayParty_47 rfl ⟨by decide, by decide⟩ ?_
      refine mw_iald (pc' := 49) dX12_stayParty_48 rfl lk_66 ⟨by decide, by decide⟩ (by rw [ln_66]; exact ⟨by decide, by decide⟩) ?_
      refine mw_st (b := d 66 4) (udA (by decide) (rfl)) ?_
      refine mw_bipush (pc' := 51) dX12_stayParty_49 rfl ⟨by decide, by decide⟩ ?_
      suffices k6 : MW mX12_stayParty 0 0 59 [(0, vR 65), (1, vI x1), (2, vI x2)] [vI (bI (d 66 4 = 12)), vR 65] g (ud d 65 5 0) Q by
        refine mw_icmp_ne (tgt := 58) (pc' := 54) dX12_stayParty_51 rfl (by decide) (fun c7 => ?_) (fun c7 => ?_)
        · refine mw_iconst (pc' := 59) dX12_stayParty_58 rfl ⟨by decide, by decide⟩ ?_
          exact mw_st (bI_f (fun h => (c7 h))).symm k6
        · refine mw_iconst (pc' := 55) dX12_stayParty_54 rfl ⟨by decide, by decide⟩ ?_
          refine mw_goto (pc' := 0) (tgt := 59) dX12_stayParty_55 (by decide) ?_
          exact mw_st (bI_t c7).symm k6
      refine mw_iconst (pc' := 60) dX12_stayParty_59 rfl ⟨by decide, by decide⟩ ?_
      refine mw_callV (M' := mX12_fails) (A := [vI (bI (d 66 4 = 12)), vI 3]) (A' := [vR 65, vI (bI (d 66 4 = 12)), vI 3]) (S := []) (a := 65) (pc' := 63) dX12_stayParty_60 rfl cl_RX12_55 cm_X12_fails cv_X12_fails ⟨by decide, by decide, by decide, by decide, by decide⟩ rfl rfl rfl ⟨by decide, by omega⟩ (by decide +kernel) (by decide +kernel) (Nat.le_of_ble_eq_true rfl) (f_fails (udS) (by decide) ?_)
      refine ⟨fun c8 => ?_, fun c8 => ?_⟩
      · replace h := h.1 (show (d 66 4 = 12) from c8)
        show MW mX12_stayParty 0 0 63 [(0, vR 65), (1, vI x1), (2, vI x2)] [vI 1] g (ud (ud d 65 5 0) 65 5 3) Q
        refine mw_if_eq (tgt := 68) (pc' := 66) dX12_stayParty_63 rfl (by decide) (fun q => absurd q (by decide)) (fun _ => ?_)
        refine mw_iconst (pc' := 67) dX12_stayParty_66 rfl ⟨by decide, by decide⟩ ?_
        exact mw_iret (pc' := 0) (S := []) dX12_stayParty_67 rfl (Or.inl rfl) h
      · replace h := h.2 (show ¬ (d 66 4 = 12) from c8)
        show MW mX12_stayParty 0 0 63 [(0, vR 65), (1, vI x1), (2, vI x2)] [vI 0] g (ud d 65 5 0) Q
        refine mw_if_eq (tgt := 68) (pc' := 66) dX12_stayParty_63 rfl (by decide) (fun _ => ?_) (fun q => absurd q (by decide))
        refine mw_aload_n (v := vR 65) (pc' := 69) dX12_stayParty_68 rfl rfl (Or.inl rfl) rfl ?_
        obtain ⟨o9, h⟩ := h
        refine mw_callV (M' := mX12_change) (A := []) (A' := [vR 65]) (S := []) (a := 65) (pc' := 72) dX12_stayParty_69 rfl cl_RX12_93 cm_X12_change cv_X12_change ⟨by decide, by decide, by decide, by decide, by decide⟩ rfl rfl rfl ⟨by decide, by omega⟩ (by decide +kernel) (by decide +kernel) (Nat.le_of_ble_eq_true rfl) (f_change (⟨o9, ?_⟩))
        show MW mX12_stayParty 0 0 72 [(0, vR 65), (1, vI x1), (2, vI x2)] [] g (mChg (ud d 65 5 0)) Q
        refine mw_aload_n (v := vR 65) (pc' := 73) dX12_stayParty_72 rfl rfl (Or.inl rfl) rfl ?_
        refine mw_iload_n (pc' := 74) dX12_stayParty_73 rfl rfl rfl ?_
        refine mw_iload_n (pc' := 75) dX12_stayParty_74 rfl rfl rfl ?_
        obtain ⟨o10, h⟩ := h
        obtain ⟨o11, h⟩ := h
        refine mw_callV (M' := mX12_order) (A := [vI x1, vI x2]) (A' := [vR 65, vI x1, vI x2]) (S := []) (a := 65) (pc' := 78) dX12_stayParty_75 rfl cl_RX12_177 cm_X12_order cv_X12_order ⟨by decide, by decide, by decide, by decide, by decide⟩ rfl rfl rfl ⟨by decide, by omega⟩ (by decide +kernel) (by decide +kernel) (Nat.le_of_ble_eq_true rfl) (f_order (⟨o10, o11, ?_⟩))
        show MW mX12_stayParty 0 0 78 [(0, vR 65), (1, vI x1), (2, vI x2)] [vI ((mChg (ud d 65 5 0)) 66 4)] g (ud (ud (ud (ud (ud (mChg (ud d 65 5 0)) 66 (619 + 4 * (((mChg (ud d 65 5 0)) 66 4))) x1) 66 (620 + 4 * (((mChg (ud d 65 5 0)) 66 4))) x2) 66 (621 + 4 * (((mChg (ud d 65 5 0)) 66 4))) ((mChg (ud d 65 5 0)) 66 0)) 66 (622 + 4 * (((mChg (ud d 65 5 0)) 66 4))) (-1)) 66 4 ((((mChg (ud d 65 5 0)) 66 4)) + 1)) Q
        exact mw_iret (pc' := 0) (S := []) dX12_stayParty_78 rfl (Or.inl rfl) h
theorem eX12_stayAll {x1 : Int} {g : mG} {d : mD} {Q : mQ} (h : (((¬ ((¬ (x1 < 1)) ∧ (¬ (255 < x1))))) → Q (.inl 0) g (ud (ud d 65 5 0) 65 5 1)) ∧ (((¬ (x1 < 1)) ∧ (¬ (255 < x1))) → (((d 66 4 = 12)) → Q (.inl 0) g (ud (ud d 65 5 0) 65 5 2)) ∧ ((¬ (d 66 4 = 12)) → (0 ≤ d 65 3 ∧ d 65 3 ≤ 8) ∧ ((RW ((mChg (ud d 65 5 0)) 66)) ∧ ((((mChg (ud d 65 5 0)) 66 4) < 12) ∧ (Q (.inl ((mChg (ud d 65 5 0)) 66 4)) g (ud (ud (ud (ud (ud (mChg (ud d 65 5 0)) 66 (619 + 4 * (((mChg (ud d 65 5 0)) 66 4))) (-1)) 66 (620 + 4 * (((mChg (ud d 65 5 0)) 66 4))) x1) 66 (621 + 4 * (((mChg (ud d 65 5 0)) 66 4))) ((mChg (ud d 65 5 0)) 66 0)) 66 (622 + 4 * (((mChg (ud d 65 5 0)) 66 4))) (-1)) 66 4 ((((mChg (ud d 65 5 0)) 66 4)) + 1)))))))) : MM mX12_stayAll [vR 65, vI x1] g d Q := by
  refine MM_of (by decide) rfl (by simp [catV]) (Nat.le_of_ble_eq_true rfl) ?_
  show MW mX12_stayAll 0 0 0 [(0, vR 65), (1, vI x1)] [] g d Q
  refine mw_top (fun hT => ?_)
  have hG : 76 ≤ g.2.1 := hT.2
  refine mw_aload_n (v := vR 65) (pc' := 1) dX12_stayAll_0 rfl rfl (Or.inl rfl) rfl ?_
  refine mw_iconst (pc' := 2) dX12_stayAll_1 rfl ⟨by decide, by decide⟩ ?_
  refine mw_putI (ji := 5) (pc' := 5) dX12_stayAll_2 rfl (fq_RX12_41_65) (by decide +kernel) rfl (Or.inl ⟨rfl, rc_65_5⟩) (Or.inr rfl) ⟨by decide, by omega⟩ ?_
  refine mw_aload_n (v := vR 65) (pc' := 6) dX12_stayAll_5 rfl rfl (Or.inl rfl) rfl ?_
  refine mw_iload_n (pc' := 7) dX12_stayAll_6 rfl rfl rfl ?_
  refine mw_iconst (pc' := 8) dX12_stayAll_7 rfl ⟨by decide, by decide⟩ ?_
  refine mw_sipush (pc' := 11) dX12_stayAll_8 rfl ⟨by decide, by decide⟩ ?_
  refine mw_callS (M' := mX12_in) (A := [vI x1, vI 1, vI 255]) (S := [vR 65]) (pc' := 14) dX12_stayAll_11 rfl cl_RX12_64 cm_X12_in cs_X12_in ⟨by decide, by decide, by decide, by decide, by decide⟩ rfl rfl (Nat.le_of_ble_eq_true rfl) (eX12_in ?_)
  show MW mX12_stayAll 0 0 14 [(0, vR 65), (1, vI x1)] [vI (bI ((¬ (x1 < 1)) ∧ (¬ (255 < x1)))), vR 65] g (ud d 65 5 0) Q
  suffices k1 : MW mX12_stayAll 0 0 22 [(0, vR 65), (1, vI x1)] [vI (bI (¬ ((¬ (x1 < 1)) ∧ (¬ (255 < x1))))), vR 65] g (ud d 65 5 0) Q by
    refine mw_if_ne (tgt := 21) (pc' := 17) dX12_stayAll_14 rfl (by decide) (fun c2 => ?_) (fun c2 => ?_)
    · replace c2 := bI_n0.mp c2
      refine mw_iconst (pc' := 22) dX12_stayAll_21 rfl ⟨by decide, by decide⟩ ?_
      exact mw_st (bI_f (fun h => (h c2))).symm k1
    · replace c2 := bI_0.mp c2
      refine mw_iconst (pc' := 18) dX12_stayAll_17 rfl ⟨by decide, by decide⟩ ?_
      refine mw_goto (pc' := 0) (tgt := 22) dX12_stayAll_18 (by decide) ?_
      exact mw_st (bI_t c2).symm k1
  refine mw_iconst (pc' := 23) dX12_stayAll_22 rfl ⟨by decide, by decide⟩ ?_
  refine mw_callV (M' := mX12_fails) (A := [vI (bI (¬ ((¬ (x1 < 1)) ∧ (¬ (255 < x1))))), vI 1]) (A' := [vR 65, vI (bI (¬ ((¬ (x1 < 1)) ∧ (¬ (255 < x1))))), vI 1]) (S := []) (a := 65) (pc' := 26) dX12_stayAll_23 rfl cl_RX12_55 cm_X12_fails cv_X12_fails ⟨by decide, by decide, by decide, by decide, by decide⟩ rfl rfl rfl ⟨by decide, by omega⟩ (by decide +kernel) (by decide +kernel) (Nat.le_of_ble_eq_true rfl) (f_fails (udS) (by decide) ?_)
  refine ⟨fun c3 => ?_, fun c3 => ?_⟩
  · replace h := h.1 (show (¬ ((¬ (x1 < 1)) ∧ (¬ (255 < x1)))) from c3)
    show MW mX12_stayAll 0 0 26 [(0, vR 65), (1, vI x1)] [vI 1] g (ud (ud d 65 5 0) 65 5 1) Q
    refine mw_if_ne (tgt := 53) (pc' := 29) dX12_stayAll_26 rfl (by decide) (fun _ => ?_) (fun q => absurd q (by decide))
    refine mw_iconst (pc' := 54) dX12_stayAll_53 rfl ⟨by decide, by decide⟩ ?_
    exact mw_iret (pc' := 0) (S := []) dX12_stayAll_54 rfl (Or.inl rfl) h
  · replace h := h.2 (show (¬ (x1 < 1)) ∧ (¬ (255 < x1)) from (Classical.not_not.mp c3))
    show MW mX12_stayAll 0 0 26 [(0, vR 65), (1, vI x1)] [vI 0] g (ud d 65 5 0) Q
    refine mw_if_ne (tgt := 53) (pc' := 29) dX12_stayAll_26 rfl (by decide) (fun q => absurd q (by decide)) (fun _ => ?_)
    refine mw_aload_n (v := vR 65) (pc' := 30) dX12_stayAll_29 rfl rfl (Or.inl rfl) rfl ?_
    refine mw_aload_n (v := vR 65) (pc' := 31) dX12_stayAll_30 rfl rfl (Or.inl rfl) rfl ?_
    refine mw_getP (v := 66) (pc' := 34) dX12_stayAll_31 rfl fr_RX12_9_65 rfl sp_65_0 ⟨by decide, by decide⟩ ?_
    refine mw_iconst (pc' := 35) dX12_stayAll_34 rfl ⟨by decide, by decide⟩ ?_
    refine mw_iald (pc' := 36) dX12_stayAll_35 rfl lk_66 ⟨by decide, by decide⟩ (by rw [ln_66]; exact ⟨by decide, by decide⟩) ?_
    refine mw_st (b := d 66 4) (udA (by decide) (rfl)) ?_
    refine mw_bipush (pc' := 38) dX12_stayAll_36 rfl ⟨by decide, by decide⟩ ?_
    suffices k4 : MW mX12_stayAll 0 0 46 [(0, vR 65), (1, vI x1)] [vI (bI (d 66 4 = 12)), vR 65] g (ud d 65 5 0) Q by
      refine mw_icmp_ne (tgt := 45) (pc' := 41) dX12_stayAll_38 rfl (by decide) (fun c5 => ?_) (fun c5 => ?_)
      · refine mw_iconst (pc' := 46) dX12_stayAll_45 rfl ⟨by decide, by decide⟩ ?_
        exact mw_st (bI_f (fun h => (c5 h))).symm k4
      · refine mw_iconst (pc' := 42) dX12_stayAll_41 rfl ⟨by decide, by decide⟩ ?_
        refine mw_goto (pc' := 0) (tgt := 46) dX12_stayAll_42 (by decide) ?_
        exact mw_st (bI_t c5).symm k4
    refine mw_iconst (pc' := 47) dX12_stayAll_46 rfl ⟨by decide, by decide⟩ ?_
    refine mw_callV (M' := mX12_fails) (A := [vI (bI (d 66 4 = 12)), vI 2]) (A' := [vR 65, vI (bI (d 66 4 = 12)), vI 2]) (S := []) (a := 65) (pc' := 50) dX12_stayAll_47 rfl cl_RX12_55 cm_X12_fails cv_X12_fails ⟨by decide, by decide, by decide, by decide, by decide⟩ rfl rfl rfl ⟨by decide, by omega⟩ (by decide +kernel) (by decide +kernel) (Nat.le_of_ble_eq_true rfl) (f_fails (udS) (by decide) ?_)
    refine ⟨fun c6 => ?_, fun c6 => ?_⟩
    · replace h := h.1 (show (d 66 4 = 12) from c6)
      show MW mX12_stayAll 0 0 50 [(0, vR 65), (1, vI x1)] [vI 1] g (ud (ud d 65 5 0) 65 5 2) Q
      refine mw_if_eq (tgt := 55) (pc' := 53) dX12_stayAll_50 rfl (by decide) (fun q => absurd q (by decide)) (fun _ => ?_)
      refine mw_iconst (pc' := 54) dX12_stayAll_53 rfl ⟨by decide, by decide⟩ ?_
      exact mw_iret (pc' := 0) (S := []) dX12_stayAll_54 rfl (Or.inl rfl) h
    · replace h := h.2 (show ¬ (d 66 4 = 12) from c6)
      show MW mX12_stayAll 0 0 50 [(0, vR 65), (1, vI x1)] [vI 0] g (ud d 65 5 0) Q
      refine mw_if_eq (tgt := 55) (pc' := 53) dX12_stayAll_50 rfl (by decide) (fun _ => ?_) (fun q => absurd q (by decide))
      refine mw_aload_n (v := vR 65) (pc' := 56) dX12_stayAll_55 rfl rfl (Or.inl rfl) rfl ?_
      obtain ⟨o7, h⟩ := h
      refine mw_callV (M' := mX12_change) (A := []) (A' := [vR 65]) (S := []) (a := 65) (pc' := 59) dX12_stayAll_56 rfl cl_RX12_93 cm_X12_change cv_X12_change ⟨by decide, by decide, by decide, by decide, by decide⟩ rfl rfl rfl ⟨by decide, by omega⟩ (by decide +kernel) (by decide +kernel) (Nat.le_of_ble_eq_true rfl) (f_change (⟨o7, ?_⟩))
      show MW mX12_stayAll 0 0 59 [(0, vR 65), (1, vI x1)] [] g (mChg (ud d 65 5 0)) Q
      refine mw_aload_n (v := vR 65) (pc' := 60) dX12_stayAll_59 rfl rfl (Or.inl rfl) rfl ?_
      refine mw_iconst (pc' := 61) dX12_stayAll_60 rfl ⟨by decide, by decide⟩ ?_
      refine mw_iload_n (pc' := 62) dX12_stayAll_61 rfl rfl rfl ?_
      obtain ⟨o8, h⟩ := h
      obtain ⟨o9, h⟩ := h
      refine mw_callV (M' := mX12_order) (A := [vI (-1), vI x1]) (A' := [vR 65, vI (-1), vI x1]) (S := []) (a := 65) (pc' := 65) dX12_stayAll_62 rfl cl_RX12_177 cm_X12_order cv_X12_order ⟨by decide, by decide, by decide, by decide, by decide⟩ rfl rfl rfl ⟨by decide, by omega⟩ (by decide +kernel) (by decide +kernel) (Nat.le_of_ble_eq_true rfl) (f_order (⟨o8, o9, ?_⟩))
      show MW mX12_stayAll 0 0 65 [(0, vR 65), (1, vI x1)] [vI ((mChg (ud d 65 5 0)) 66 4)] g (ud (ud (ud (ud (ud (mChg (ud d 65 5 0)) 66 (619 + 4 * (((mChg (ud d 65 5 0)) 66 4))) (-1)) 66 (620 + 4 * (((mChg (ud d 65 5 0)) 66 4))) x1) 66 (621 + 4 * (((mChg (ud d 65 5 0)) 66 4))) ((mChg (ud d 65 5 0)) 66 0)) 66 (622 + 4 * (((mChg (ud d 65 5 0)) 66 4))) (-1)) 66 4 ((((mChg (ud d 65 5 0)) 66 4)) + 1)) Q
      exact mw_iret (pc' := 0) (S := []) dX12_stayAll_65 rfl (Or.inl rfl) h
theorem eX12_lift {x1 : Int} {g : mG} {d : mD} {Q : mQ} (h : (iI ((d 66 4) - 1)) ∧ ((((¬ ((¬ (x1 < 0)) ∧ (¬ (((d 66 4) - 1) < x1))))) → Q (.inl 0) g (ud (ud d 65 5 0) 65 5 1)) ∧ (((¬ (x1 < 0)) ∧ (¬ (((d 66 4) - 1) < x1))) → (iI (4 * x1)) ∧ ((iI (619 + (4 * x1))) ∧ ((iI ((619 + (4 * x1)) + 3)) ∧ ((0 ≤ (619 + (4 * x1)) + 3 ∧ (619 + (4 * x1)) + 3 < 787) ∧ ((((¬ (d 66 (622 + 4 * x1) = (-1)))) → Q (.inl 0) g (ud (ud d 65 5 0) 65 5 2)) ∧ ((d 66 (622 + 4 * x1) = (-1)) → (0 ≤ d 65 3 ∧ d 65 3 ≤ 8) ∧ ((¬ (0 = 622 + 4 * x1)) ∧ ((iI ((619 + (4 * x1)) + 2)) ∧ ((0 ≤ (619 + (4 * x1)) + 2 ∧ (619 + (4 * x1)) + 2 < 787) ∧ ((iI ((d 66 0) - ((ud (mChg (ud d 65 5 0)) 66 (622 + 4 * x1) (d 66 0)) 66 (621 + 4 * x1)))) ∧ (Q (.inl ((d 66 0) - ((ud (mChg (ud d 65 5 0)) 66 (622 + 4 * x1) (d 66 0)) 66 (621 + 4 * x1)))) g (ud (mChg (ud d 65 5 0)) 66 (622 + 4 * x1) (d 66 0))))))))))))))) : MM mX12_lift [vR 65, vI x1] g d Q := by
  refine MM_of (by decide) rfl (by simp [catV]) (Nat.le_of_ble_eq_true rfl) ?_
  show MW mX12_lift 0 0 0 [(0, vR 65), (1, vI x1)] [] g d Q
  refine mw_top (fun hT => ?_)
  have hG : 76 ≤ g.2.1 := hT.2
  refine mw_aload_n (v := vR 65) (pc' := 1) dX12_lift_0 rfl rfl (Or.inl rfl) rfl ?_
  refine mw_iconst (pc' := 2) dX12_lift_1 rfl ⟨by decide, by decide⟩ ?_
  refine mw_putI (ji := 5) (pc' := 5) dX12_lift_2 rfl (fq_RX12_41_65) (by decide +kernel) rfl (Or.inl ⟨rfl, rc_65_5⟩) (Or.inr rfl) ⟨by decide, by omega⟩ ?_
  refine mw_aload_n (v := vR 65) (pc' := 6) dX12_lift_5 rfl rfl (Or.inl rfl) rfl ?_
  refine mw_iload_n (pc' := 7) dX12_lift_6 rfl rfl rfl ?_
  refine mw_iconst (pc' := 8) dX12_lift_7 rfl ⟨by decide, by decide⟩ ?_
  refine mw_aload_n (v := vR 65) (pc' := 9) dX12_lift_8 rfl rfl (Or.inl rfl) rfl ?_
  refine mw_getP (v := 66) (pc' := 12) dX12_lift_9 rfl fr_RX12_9_65 rfl sp_65_0 ⟨by decide, by decide⟩ ?_
  refine mw_iconst (pc' := 13) dX12_lift_12 rfl ⟨by decide, by decide⟩ ?_
  refine mw_iald (pc' := 14) dX12_lift_13 rfl lk_66 ⟨by decide, by decide⟩ (by rw [ln_66]; exact ⟨by decide, by decide⟩) ?_
  refine mw_st (b := d 66 4) (udA (by decide) (rfl)) ?_
  refine mw_iconst (pc' := 15) dX12_lift_14 rfl ⟨by decide, by decide⟩ ?_
  obtain ⟨o1, h⟩ := h
  refine mw_isub (pc' := 16) dX12_lift_15 rfl o1 ?_
  refine mw_callS (M' := mX12_in) (A := [vI x1, vI 0, vI ((d 66 4) - 1)]) (S := [vR 65]) (pc' := 19) dX12_lift_16 rfl cl_RX12_64 cm_X12_in cs_X12_in ⟨by decide, by decide, by decide, by decide, by decide⟩ rfl rfl (Nat.le_of_ble_eq_true rfl) (eX12_in ?_)
  show MW mX12_lift 0 0 19 [(0, vR 65), (1, vI x1)] [vI (bI ((¬ (x1 < 0)) ∧ (¬ (((d 66 4) - 1) < x1)))), vR 65] g (ud d 65 5 0) Q
  suffices k2 : MW mX12_lift 0 0 27 [(0, vR 65), (1, vI x1)] [vI (bI (¬ ((¬ (x1 < 0)) ∧ (¬ (((d 66 4) - 1) < x1))))), vR 65] g (ud d 65 5 0) Q by
    refine mw_if_ne (tgt := 26) (pc' := 22) dX12_lift_19 rfl (by decide) (fun c3 => ?_) (fun c3 => ?_)
    · replace c3 := bI_n0.mp c3
      refine mw_iconst (pc' := 27) dX12_lift_26 rfl ⟨by decide, by decide⟩ ?_
      exact mw_st (bI_f (fun h => (h c3))).symm k2
    · replace c3 := bI_0.mp c3
      refine mw_iconst (pc' := 23) dX12_lift_22 rfl ⟨by decide, by decide⟩ ?_
      refine mw_goto (pc' := 0) (tgt := 27) dX12_lift_23 (by decide) ?_
      exact mw_st (bI_t c3).symm k2
  refine mw_iconst (pc' := 28) dX12_lift_27 rfl ⟨by decide, by decide⟩ ?_
  refine mw_callV (M' := mX12_fails) (A := [vI (bI (¬ ((¬ (x1 < 0)) ∧ (¬ (((d 66 4) - 1) < x1))))), vI 1]) (A' := [vR 65, vI (bI (¬ ((¬ (x1 < 0)) ∧ (¬ (((d 66 4) - 1) < x1))))), vI 1]) (S := []) (a := 65) (pc' := 31) dX12_lift_28 rfl cl_RX12_55 cm_X12_fails cv_X12_fails ⟨by decide, by decide, by decide, by decide, by decide⟩ rfl rfl rfl ⟨by decide, by omega⟩ (by decide +kernel) (by decide +kernel) (Nat.le_of_ble_eq_true rfl) (f_fails (udS) (by decide) ?_)
  refine ⟨fun c4 => ?_, fun c4 => ?_⟩
  · replace h := h.1 (show (¬ ((¬ (x1 < 0)) ∧ (¬ (((d 66 4) - 1) < x1)))) from c4)
    show MW mX12_lift 0 0 31 [(0, vR 65), (1, vI x1)] [vI 1] g (ud (ud d 65 5 0) 65 5 1) Q
    refine mw_if_ne (tgt := 65) (pc' := 34) dX12_lift_31 rfl (by decide) (fun _ => ?_) (fun q => absurd q (by decide))
    refine mw_iconst (pc' := 66) dX12_lift_65 rfl ⟨by decide, by decide⟩ ?_
    exact mw_iret (pc' := 0) (S := []) dX12_lift_66 rfl (Or.inl rfl) h
  · replace h := h.2 (show (¬ (x1 < 0)) ∧ (¬ (((d 66 4) - 1) < x1)) from (Classical.not_not.mp c4))
    show MW mX12_lift 0 0 31 [(0, vR 65), (1, vI x1)] [vI 0] g (ud d 65 5 0) Q
    refine mw_if_ne (tgt := 65) (pc' := 34) dX12_lift_31 rfl (by decide) (fun q => absurd q (by decide)) (fun _ => ?_)
    refine mw_aload_n (v := vR 65) (pc' := 35) dX12_lift_34 rfl rfl (Or.inl rfl) rfl ?_
    refine mw_aload_n (v := vR 65) (pc' := 36) dX12_lift_35 rfl rfl (Or.inl rfl) rfl ?_
    refine mw_getP (v := 66) (pc' := 39) dX12_lift_36 rfl fr_RX12_9_65 rfl sp_65_0 ⟨by decide, by decide⟩ ?_
    refine mw_sipush (pc' := 42) dX12_lift_39 rfl ⟨by decide, by decide⟩ ?_
    refine mw_iconst (pc' := 43) dX12_lift_42 rfl ⟨by decide, by decide⟩ ?_
    refine mw_iload_n (pc' := 44) dX12_lift_43 rfl rfl rfl ?_
    obtain ⟨o5, h⟩ := h
    refine mw_imul (pc' := 45) dX12_lift_44 rfl o5 ?_
    obtain ⟨o6, h⟩ := h
    refine mw_iadd (pc' := 46) dX12_lift_45 rfl o6 ?_
    refine mw_iconst (pc' := 47) dX12_lift_46 rfl ⟨by decide, by decide⟩ ?_
    obtain ⟨o7, h⟩ := h
    refine mw_iadd (pc' := 48) dX12_lift_47 rfl o7 ?_
    obtain ⟨o8, h⟩ := h
    refine mw_iald (pc' := 49) dX12_lift_48 rfl lk_66 ⟨by decide, by decide⟩ (by rw [ln_66]; exact o8) ?_
    refine mw_st (b := (ud d 65 5 0) 66 (622 + 4 * x1)) (congrArg ((ud d 65 5 0) 66) (by omega)) ?_
    refine mw_st (b := d 66 (622 + 4 * x1)) (udA (by decide) (rfl)) ?_
    refine mw_iconst (pc' := 50) dX12_lift_49 rfl ⟨by decide, by decide⟩ ?_
    suffices k9 : MW mX12_lift 0 0 58 [(0, vR 65), (1, vI x1)] [vI (bI (¬ (d 66 (622 + 4 * x1) = (-1)))), vR 65] g (ud d 65 5 0) Q by
      refine mw_icmp_eq (tgt := 57) (pc' := 53) dX12_lift_50 rfl (by decide) (fun c10 => ?_) (fun c10 => ?_)
      · refine mw_iconst (pc' := 58) dX12_lift_57 rfl ⟨by decide, by decide⟩ ?_
        exact mw_st (bI_f (fun h => (h c10))).symm k9
      · refine mw_iconst (pc' := 54) dX12_lift_53 rfl ⟨by decide, by decide⟩ ?_
        refine mw_goto (pc' := 0) (tgt := 58) dX12_lift_54 (by decide) ?_
        exact mw_st (bI_t c10).symm k9
    refine mw_iconst (pc' := 59) dX12_lift_58 rfl ⟨by decide, by decide⟩ ?_
    refine mw_callV (M' := mX12_fails) (A := [vI (bI (¬ (d 66 (622 + 4 * x1) = (-1)))), vI 2]) (A' := [vR 65, vI (bI (¬ (d 66 (622 + 4 * x1) = (-1)))), vI 2]) (S := []) (a := 65) (pc' := 62) dX12_lift_59 rfl cl_RX12_55 cm_X12_fails cv_X12_fails ⟨by decide, by decide, by decide, by decide, by decide⟩ rfl rfl rfl ⟨by decide, by omega⟩ (by decide +kernel) (by decide +kernel) (Nat.le_of_ble_eq_true rfl) (f_fails (udS) (by decide) ?_)
    refine ⟨fun c11 => ?_, fun c11 => ?_⟩
    · replace h := h.1 (show (¬ (d 66 (622 + 4 * x1) = (-1))) from c11)
      show MW mX12_lift 0 0 62 [(0, vR 65), (1, vI x1)] [vI 1] g (ud (ud d 65 5 0) 65 5 2) Q
      refine mw_if_eq (tgt := 67) (pc' := 65) dX12_lift_62 rfl (by decide) (fun q => absurd q (by decide)) (fun _ => ?_)
      refine mw_iconst (pc' := 66) dX12_lift_65 rfl ⟨by decide, by decide⟩ ?_
      exact mw_iret (pc' := 0) (S := []) dX12_lift_66 rfl (Or.inl rfl) h
    · replace h := h.2 (show d 66 (622 + 4 * x1) = (-1) from (Classical.not_not.mp c11))
      show MW mX12_lift 0 0 62 [(0, vR 65), (1, vI x1)] [vI 0] g (ud d 65 5 0) Q
      refine mw_if_eq (tgt := 67) (pc' := 65) dX12_lift_62 rfl (by decide) (fun _ => ?_) (fun q => absurd q (by decide))
      refine mw_aload_n (v := vR 65) (pc' := 68) dX12_lift_67 rfl rfl (Or.inl rfl) rfl ?_
      obtain ⟨o12, h⟩ := h
      refine mw_callV (M' := mX12_change) (A := []) (A' := [vR 65]) (S := []) (a := 65) (pc' := 71) dX12_lift_68 rfl cl_RX12_93 cm_X12_change cv_X12_change ⟨by decide, by decide, by decide, by decide, by decide⟩ rfl rfl rfl ⟨by decide, by omega⟩ (by decide +kernel) (by decide +kernel) (Nat.le_of_ble_eq_true rfl) (f_change (⟨o12, ?_⟩))
      show MW mX12_lift 0 0 71 [(0, vR 65), (1, vI x1)] [] g (mChg (ud d 65 5 0)) Q
      refine mw_aload_n (v := vR 65) (pc' := 72) dX12_lift_71 rfl rfl (Or.inl rfl) rfl ?_
      refine mw_getP (v := 66) (pc' := 75) dX12_lift_72 rfl fr_RX12_9_65 rfl sp_65_0 ⟨by decide, by decide⟩ ?_
      refine mw_sipush (pc' := 78) dX12_lift_75 rfl ⟨by decide, by decide⟩ ?_
      refine mw_iconst (pc' := 79) dX12_lift_78 rfl ⟨by decide, by decide⟩ ?_
      refine mw_iload_n (pc' := 80) dX12_lift_79 rfl rfl rfl ?_
      refine mw_imul (pc' := 81) dX12_lift_80 rfl o5 ?_
      refine mw_iadd (pc' := 82) dX12_lift_81 rfl o6 ?_
      refine mw_iconst (pc' := 83) dX12_lift_82 rfl ⟨by decide, by decide⟩ ?_
      refine mw_iadd (pc' := 84) dX12_lift_83 rfl o7 ?_
      refine mw_aload_n (v := vR 65) (pc' := 85) dX12_lift_84 rfl rfl (Or.inl rfl) rfl ?_
      refine mw_getP (v := 66) (pc' := 88) dX12_lift_85 rfl fr_RX12_9_65 rfl sp_65_0 ⟨by decide, by decide⟩ ?_
      refine mw_iconst (pc' := 89) dX12_lift_88 rfl ⟨by decide, by decide⟩ ?_
      refine mw_iald (pc' := 90) dX12_lift_89 rfl lk_66 ⟨by decide, by decide⟩ (by rw [ln_66]; exact ⟨by decide, by decide⟩) ?_
      refine mw_st (b := d 66 0) (Eq.trans (mChg_fr (by omega)) (udA (by decide) (rfl))) ?_
      refine mw_iast (pc' := 91) dX12_lift_90 rfl lk_66 ⟨by decide, by decide⟩ (by rw [ln_66]; exact o8) ?_
      refine mw_dd (b := (ud (mChg (ud d 65 5 0)) 66 (622 + 4 * x1) (d 66 0))) (congrArg (fun z => ud (mChg (ud d 65 5 0)) 66 z (d 66 0)) (by omega)) ?_
      refine mw_aload_n (v := vR 65) (pc' := 92) dX12_lift_91 rfl rfl (Or.inl rfl) rfl ?_
      refine mw_getP (v := 66) (pc' := 95) dX12_lift_92 rfl fr_RX12_9_65 rfl sp_65_0 ⟨by decide, by decide⟩ ?_
      refine mw_iconst (pc' := 96) dX12_lift_95 rfl ⟨by decide, by decide⟩ ?_
      obtain ⟨o17, h⟩ := h
      refine mw_iald (pc' := 97) dX12_lift_96 rfl lk_66 ⟨by decide, by decide⟩ (by rw [ln_66]; exact ⟨by decide, by decide⟩) ?_
      refine mw_st (b := d 66 0) (udI o17 (Eq.trans (mChg_fr (by omega)) (udA (by decide) (rfl)))) ?_
      refine mw_aload_n (v := vR 65) (pc' := 98) dX12_lift_97 rfl rfl (Or.inl rfl) rfl ?_
      refine mw_getP (v := 66) (pc' := 101) dX12_lift_98 rfl fr_RX12_9_65 rfl sp_65_0 ⟨by decide, by decide⟩ ?_
      refine mw_sipush (pc' := 104) dX12_lift_101 rfl ⟨by decide, by decide⟩ ?_
      refine mw_iconst (pc' := 105) dX12_lift_104 rfl ⟨by decide, by decide⟩ ?_
      refine mw_iload_n (pc' := 106) dX12_lift_105 rfl rfl rfl ?_
      refine mw_imul (pc' := 107) dX12_lift_106 rfl o5 ?_
      refine mw_iadd (pc' := 108) dX12_lift_107 rfl o6 ?_
      refine mw_iconst (pc' := 109) dX12_lift_108 rfl ⟨by decide, by decide⟩ ?_
      obtain ⟨o20, h⟩ := h
      refine mw_iadd (pc' := 110) dX12_lift_109 rfl o20 ?_
      obtain ⟨o21, h⟩ := h
      refine mw_iald (pc' := 111) dX12_lift_110 rfl lk_66 ⟨by decide, by decide⟩ (by rw [ln_66]; exact o21) ?_
      refine mw_st (b := (ud (mChg (ud d 65 5 0)) 66 (622 + 4 * x1) (d 66 0)) 66 (621 + 4 * x1)) (congrArg ((ud (mChg (ud d 65 5 0)) 66 (622 + 4 * x1) (d 66 0)) 66) (by omega)) ?_
      obtain ⟨o22, h⟩ := h
      refine mw_isub (pc' := 112) dX12_lift_111 rfl o22 ?_
      exact mw_iret (pc' := 0) (S := []) dX12_lift_112 rfl (Or.inl rfl) h
def pX12_staysInForce_1 (x1 x2 : Int) (g : mG) (d : mD) (Q : mQ) : Prop := MW mX12_staysInForce 0 0 9 [(0, vR 65), (1, vI x1), (2, vI x2)] [] g d Q
theorem eX12_staysInForce {g : mG} {d : mD} {Q : mQ} (h : pX12_staysInForce_1 0 0 g (ud d 65 5 0) Q) : MM mX12_staysInForce [vR 65] g d Q := by
  refine MM_of (by decide) rfl (by simp [catV]) (Nat.le_of_ble_eq_true rfl) ?_
  show MW mX12_staysInForce 0 0 0 [(0, vR 65)] [] g d Q
  refine mw_top (fun hT => ?_)
  have hG : 76 ≤ g.2.1 := hT.2
  refine mw_aload_n (v := vR 65) (pc' := 1) dX12_staysInForce_0 rfl rfl (Or.inl rfl) rfl ?_
  refine mw_iconst (pc' := 2) dX12_staysInForce_1 rfl ⟨by decide, by decide⟩ ?_
  refine mw_putI (ji := 5) (pc' := 5) dX12_staysInForce_2 rfl (fq_RX12_41_65) (by decide +kernel) rfl (Or.inl ⟨rfl, rc_65_5⟩) (Or.inr rfl) ⟨by decide, by omega⟩ ?_
  refine mw_iconst (pc' := 6) dX12_staysInForce_5 rfl ⟨by decide, by decide⟩ ?_
  refine mw_istore_n (pc' := 7) (L' := [(0, vR 65), (1, vI 0)]) dX12_staysInForce_6 rfl rfl (by decide) rfl ?_
  refine mw_iconst (pc' := 8) dX12_staysInForce_7 rfl ⟨by decide, by decide⟩ ?_
  refine mw_istore_n (pc' := 9) (L' := [(0, vR 65), (1, vI 0), (2, vI 0)]) dX12_staysInForce_8 rfl rfl (by decide) rfl ?_
  exact h
theorem aX12_staysInForce_1 {x1 x2 : Int} {g : mG} {d : mD} {Q : mQ} (h : ((d 66 4 ≤ x2) → Q (.inl x1) g d) ∧ ((¬ (d 66 4 ≤ x2)) → (iI (4 * x2)) ∧ ((iI (619 + (4 * x2))) ∧ ((iI ((619 + (4 * x2)) + 3)) ∧ ((0 ≤ (619 + (4 * x2)) + 3 ∧ (619 + (4 * x2)) + 3 < 787) ∧ ((iI (x1 + (bI (d 66 (622 + 4 * x2) = (-1))))) ∧ ((iI (x2 + 1)) ∧ (pX12_staysInForce_1 (x1 + (bI (d 66 (622 + 4 * x2) = (-1)))) (x2 + 1) g d Q)))))))) : pX12_staysInForce_1 x1 x2 g d Q := by
  unfold pX12_staysInForce_1
  refine mw_top (fun hT => ?_)
  have hG : 76 ≤ g.2.1 := hT.2
  refine mw_iload_n (pc' := 10) dX12_staysInForce_9 rfl rfl rfl ?_
  refine mw_aload_n (v := vR 65) (pc' := 11) dX12_staysInForce_10 rfl rfl (Or.inl rfl) rfl ?_
  refine mw_getP (v := 66) (pc' := 14) dX12_staysInForce_11 rfl fr_RX12_9_65 rfl sp_65_0 ⟨by decide, by decide⟩ ?_
  refine mw_iconst (pc' := 15) dX12_staysInForce_14 rfl ⟨by decide, by decide⟩ ?_
  refine mw_iald (pc' := 16) dX12_staysInForce_15 rfl lk_66 ⟨by decide, by decide⟩ (by rw [ln_66]; exact ⟨by decide, by decide⟩) ?_
  refine mw_icmp_ge (tgt := 51) (pc' := 19) dX12_staysInForce_16 rfl (by decide) (fun c6 => ?_) (fun c6 => ?_)
  · replace h := h.1 c6
    refine mw_iload_n (pc' := 52) dX12_staysInForce_51 rfl rfl rfl ?_
    exact mw_iret (pc' := 0) (S := []) dX12_staysInForce_52 rfl (Or.inl rfl) h
  · replace h := h.2 c6
    refine mw_iload_n (pc' := 20) dX12_staysInForce_19 rfl rfl rfl ?_
    refine mw_aload_n (v := vR 65) (pc' := 21) dX12_staysInForce_20 rfl rfl (Or.inl rfl) rfl ?_
    refine mw_getP (v := 66) (pc' := 24) dX12_staysInForce_21 rfl fr_RX12_9_65 rfl sp_65_0 ⟨by decide, by decide⟩ ?_
    refine mw_sipush (pc' := 27) dX12_staysInForce_24 rfl ⟨by decide, by decide⟩ ?_
    refine mw_iconst (pc' := 28) dX12_staysInForce_27 rfl ⟨by decide, by decide⟩ ?_
    refine mw_iload_n (pc' := 29) dX12_staysInForce_28 rfl rfl rfl ?_
    obtain ⟨o7, h⟩ := h
    refine mw_imul (pc' := 30) dX12_staysInForce_29 rfl o7 ?_
    obtain ⟨o8, h⟩ := h
    refine mw_iadd (pc' := 31) dX12_staysInForce_30 rfl o8 ?_
    refine mw_iconst (pc' := 32) dX12_staysInForce_31 rfl ⟨by decide, by decide⟩ ?_
    obtain ⟨o9, h⟩ := h
    refine mw_iadd (pc' := 33) dX12_staysInForce_32 rfl o9 ?_
    obtain ⟨o10, h⟩ := h
    refine mw_iald (pc' := 34) dX12_staysInForce_33 rfl lk_66 ⟨by decide, by decide⟩ (by rw [ln_66]; exact o10) ?_
    refine mw_st (b := d 66 (622 + 4 * x2)) (congrArg (d 66) (by omega)) ?_
    refine mw_iconst (pc' := 35) dX12_staysInForce_34 rfl ⟨by decide, by decide⟩ ?_
    suffices k11 : MW mX12_staysInForce 0 0 43 [(0, vR 65), (1, vI x1), (2, vI x2)] [vI (bI (d 66 (622 + 4 * x2) = (-1))), vI x1] g d Q by
      refine mw_icmp_ne (tgt := 42) (pc' := 38) dX12_staysInForce_35 rfl (by decide) (fun c12 => ?_) (fun c12 => ?_)
      · refine mw_iconst (pc' := 43) dX12_staysInForce_42 rfl ⟨by decide, by decide⟩ ?_
        exact mw_st (bI_f (fun h => (c12 h))).symm k11
      · refine mw_iconst (pc' := 39) dX12_staysInForce_38 rfl ⟨by decide, by decide⟩ ?_
        refine mw_goto (pc' := 0) (tgt := 43) dX12_staysInForce_39 (by decide) ?_
        exact mw_st (bI_t c12).symm k11
    obtain ⟨o13, h⟩ := h
    refine mw_iadd (pc' := 44) dX12_staysInForce_43 rfl o13 ?_
    refine mw_istore_n (pc' := 45) (L' := [(0, vR 65), (1, vI (x1 + (bI (d 66 (622 + 4 * x2) = (-1))))), (2, vI x2)]) dX12_staysInForce_44 rfl rfl (by decide) rfl ?_
    obtain ⟨o14, h⟩ := h
    refine mw_iinc (pc' := 48) (L' := [(0, vR 65), (1, vI (x1 + (bI (d 66 (622 + 4 * x2) = (-1))))), (2, vI (x2 + 1))]) dX12_staysInForce_45 rfl rfl (by decide) o14 rfl ?_
    refine mw_goto (pc' := 0) (tgt := 9) dX12_staysInForce_48 (by decide) ?_
    exact h
theorem eX12_isStopped {x1 x2 : Int} {g : mG} {d : mD} {Q : mQ} (h : (iI ((d 66 3) - 1)) ∧ ((((¬ ((¬ (x1 < 0)) ∧ (¬ (((d 66 3) - 1) < x1))))) → Q (.inl 0) g (ud (ud d 65 5 0) 65 5 1)) ∧ (((¬ (x1 < 0)) ∧ (¬ (((d 66 3) - 1) < x1))) → (((¬ ((¬ (x2 < 0)) ∧ (¬ (4999 < x2))))) → Q (.inl 0) g (ud (ud d 65 5 0) 65 5 2)) ∧ (((¬ (x2 < 0)) ∧ (¬ (4999 < x2))) → (0 ≤ x1 ∧ x1 < 30) ∧ ((RW (d 66)) ∧ ((0 ≤ (d 66 (140 + 16 * x1)) ∧ (d 66 (140 + 16 * x1)) < 8) ∧ (Q (.inl (bI (stopd (d 66) (d 66 (139 + 16 * x1)) (d 66 (140 + 16 * x1)) x2))) g (ud d 65 5 0)))))))) : MM mX12_isStopped [vR 65, vI x1, vI x2] g d Q := by
  refine MM_of (by decide) rfl (by simp [catV]) (Nat.le_of_ble_eq_true rfl) ?_
  show MW mX12_isStopped 0 0 0 [(0, vR 65), (1, vI x1), (2, vI x2)] [] g d Q
  refine mw_top (fun hT => ?_)
  have hG : 76 ≤ g.2.1 := hT.2
  refine mw_aload_n (v := vR 65) (pc' := 1) dX12_isStopped_0 rfl rfl (Or.inl rfl) rfl ?_
  refine mw_iconst (pc' := 2) dX12_isStopped_1 rfl ⟨by decide, by decide⟩ ?_
  refine mw_putI (ji := 5) (pc' := 5) dX12_isStopped_2 rfl (fq_RX12_41_65) (by decide +kernel) rfl (Or.inl ⟨rfl, rc_65_5⟩) (Or.inr rfl) ⟨by decide, by omega⟩ ?_
  refine mw_aload_n (v := vR 65) (pc' := 6) dX12_isStopped_5 rfl rfl (Or.inl rfl) rfl ?_
  refine mw_aload_n (v := vR 65) (pc' := 7) dX12_isStopped_6 rfl rfl (Or.inl rfl) rfl ?_
  refine mw_iload_n (pc' := 8) dX12_isStopped_7 rfl rfl rfl ?_
  obtain ⟨o1, h⟩ := h
  refine mw_callV (M' := mX12_noDeadline) (A := [vI x1]) (A' := [vR 65, vI x1]) (S := [vR 65]) (a := 65) (pc' := 11) dX12_isStopped_8 rfl cl_RX12_147 cm_X12_noDeadline cv_X12_noDeadline ⟨by decide, by decide, by decide, by decide, by decide⟩ rfl rfl rfl ⟨by decide, by omega⟩ (by decide +kernel) (by decide +kernel) (Nat.le_of_ble_eq_true rfl) (eX12_noDeadline (⟨o1, ?_⟩))
  show MW mX12_isStopped 0 0 11 [(0, vR 65), (1, vI x1), (2, vI x2)] [vI (bI (¬ ((¬ (x1 < 0)) ∧ (¬ (((d 66 3) - 1) < x1))))), vR 65] g (ud d 65 5 0) Q
  refine mw_iconst (pc' := 12) dX12_isStopped_11 rfl ⟨by decide, by decide⟩ ?_
  refine mw_callV (M' := mX12_fails) (A := [vI (bI (¬ ((¬ (x1 < 0)) ∧ (¬ (((d 66 3) - 1) < x1))))), vI 1]) (A' := [vR 65, vI (bI (¬ ((¬ (x1 < 0)) ∧ (¬ (((d 66 3) - 1) < x1))))), vI 1]) (S := []) (a := 65) (pc' := 15) dX12_isStopped_12 rfl cl_RX12_55 cm_X12_fails cv_X12_fails ⟨by decide, by decide, by decide, by decide, by decide⟩ rfl rfl rfl ⟨by decide, by omega⟩ (by decide +kernel) (by decide +kernel) (Nat.le_of_ble_eq_true rfl) (f_fails (udS) (by decide) ?_)
  refine ⟨fun c2 => ?_, fun c2 => ?_⟩
  · replace h := h.1 (show (¬ ((¬ (x1 < 0)) ∧ (¬ (((d 66 3) - 1) < x1)))) from c2)
    show MW mX12_isStopped 0 0 15 [(0, vR 65), (1, vI x1), (2, vI x2)] [vI 1] g (ud (ud d 65 5 0) 65 5 1) Q
    refine mw_if_ne (tgt := 51) (pc' := 18) dX12_isStopped_15 rfl (by decide) (fun _ => ?_) (fun q => absurd q (by decide))
    refine mw_iconst (pc' := 52) dX12_isStopped_51 rfl ⟨by decide, by decide⟩ ?_
    exact mw_iret (pc' := 0) (S := []) dX12_isStopped_52 rfl (Or.inr (Or.inl ⟨rfl, by decide, by decide⟩)) h
  · replace h := h.2 (show (¬ (x1 < 0)) ∧ (¬ (((d 66 3) - 1) < x1)) from (Classical.not_not.mp c2))
    show MW mX12_isStopped 0 0 15 [(0, vR 65), (1, vI x1), (2, vI x2)] [vI 0] g (ud d 65 5 0) Q
    refine mw_if_ne (tgt := 51) (pc' := 18) dX12_isStopped_15 rfl (by decide) (fun q => absurd q (by decide)) (fun _ => ?_)
    refine mw_aload_n (v := vR 65) (pc' := 19) dX12_isStopped_18 rfl rfl (Or.inl rfl) rfl ?_
    refine mw_iload_n (pc' := 20) dX12_isStopped_19 rfl rfl rfl ?_
    refine mw_callS (M' := mX12_isDay) (A := [vI x2]) (S := [vR 65]) (pc' := 23) dX12_isStopped_20 rfl cl_RX12_106 cm_X12_isDay cs_X12_isDay ⟨by decide, by decide, by decide, by decide, by decide⟩ rfl rfl (Nat.le_of_ble_eq_true rfl) (eX12_isDay ?_)
    show MW mX12_isStopped 0 0 23 [(0, vR 65), (1, vI x1), (2, vI x2)] [vI (bI ((¬ (x2 < 0)) ∧ (¬ (4999 < x2)))), vR 65] g (ud d 65 5 0) Q
    suffices k3 : MW mX12_isStopped 0 0 31 [(0, vR 65), (1, vI x1), (2, vI x2)] [vI (bI (¬ ((¬ (x2 < 0)) ∧ (¬ (4999 < x2))))), vR 65] g (ud d 65 5 0) Q by
      refine mw_if_ne (tgt := 30) (pc' := 26) dX12_isStopped_23 rfl (by decide) (fun c4 => ?_) (fun c4 => ?_)
      · replace c4 := bI_n0.mp c4
        refine mw_iconst (pc' := 31) dX12_isStopped_30 rfl ⟨by decide, by decide⟩ ?_
        exact mw_st (bI_f (fun h => (h c4))).symm k3
      · replace c4 := bI_0.mp c4
        refine mw_iconst (pc' := 27) dX12_isStopped_26 rfl ⟨by decide, by decide⟩ ?_
        refine mw_goto (pc' := 0) (tgt := 31) dX12_isStopped_27 (by decide) ?_
        exact mw_st (bI_t c4).symm k3
    refine mw_iconst (pc' := 32) dX12_isStopped_31 rfl ⟨by decide, by decide⟩ ?_
    refine mw_callV (M' := mX12_fails) (A := [vI (bI (¬ ((¬ (x2 < 0)) ∧ (¬ (4999 < x2))))), vI 2]) (A' := [vR 65, vI (bI (¬ ((¬ (x2 < 0)) ∧ (¬ (4999 < x2))))), vI 2]) (S := []) (a := 65) (pc' := 35) dX12_isStopped_32 rfl cl_RX12_55 cm_X12_fails cv_X12_fails ⟨by decide, by decide, by decide, by decide, by decide⟩ rfl rfl rfl ⟨by decide, by omega⟩ (by decide +kernel) (by decide +kernel) (Nat.le_of_ble_eq_true rfl) (f_fails (udS) (by decide) ?_)
    refine ⟨fun c5 => ?_, fun c5 => ?_⟩
    · replace h := h.1 (show (¬ ((¬ (x2 < 0)) ∧ (¬ (4999 < x2)))) from c5)
      show MW mX12_isStopped 0 0 35 [(0, vR 65), (1, vI x1), (2, vI x2)] [vI 1] g (ud (ud d 65 5 0) 65 5 2) Q
      refine mw_if_ne (tgt := 51) (pc' := 38) dX12_isStopped_35 rfl (by decide) (fun _ => ?_) (fun q => absurd q (by decide))
      refine mw_iconst (pc' := 52) dX12_isStopped_51 rfl ⟨by decide, by decide⟩ ?_
      exact mw_iret (pc' := 0) (S := []) dX12_isStopped_52 rfl (Or.inr (Or.inl ⟨rfl, by decide, by decide⟩)) h
    · replace h := h.2 (show (¬ (x2 < 0)) ∧ (¬ (4999 < x2)) from (Classical.not_not.mp c5))
      show MW mX12_isStopped 0 0 35 [(0, vR 65), (1, vI x1), (2, vI x2)] [vI 0] g (ud d 65 5 0) Q
      refine mw_if_ne (tgt := 51) (pc' := 38) dX12_isStopped_35 rfl (by decide) (fun q => absurd q (by decide)) (fun _ => ?_)
      refine mw_aload_n (v := vR 65) (pc' := 39) dX12_isStopped_38 rfl rfl (Or.inl rfl) rfl ?_
      refine mw_iload_n (pc' := 40) dX12_isStopped_39 rfl rfl rfl ?_
      refine mw_iload_n (pc' := 41) dX12_isStopped_40 rfl rfl rfl ?_
      obtain ⟨o6, h⟩ := h
      obtain ⟨o7, h⟩ := h
      obtain ⟨o8, h⟩ := h
      refine mw_callV (M' := mX12_isStoppedOf) (A := [vI x1, vI x2]) (A' := [vR 65, vI x1, vI x2]) (S := []) (a := 65) (pc' := 44) dX12_isStopped_41 rfl cl_RX12_180 cm_X12_isStoppedOf cv_X12_isStoppedOf ⟨by decide, by decide, by decide, by decide, by decide⟩ rfl rfl rfl ⟨by decide, by omega⟩ (by decide +kernel) (by decide +kernel) (Nat.le_of_ble_eq_true rfl) (eX12_isStoppedOf (⟨o6, o7, o8, ?_⟩))
      show MW mX12_isStopped 0 0 44 [(0, vR 65), (1, vI x1), (2, vI x2)] [vI (bI (stopd (d 66) (d 66 (139 + 16 * x1)) (d 66 (140 + 16 * x1)) x2))] g (ud d 65 5 0) Q
      suffices k9 : MW mX12_isStopped 0 0 52 [(0, vR 65), (1, vI x1), (2, vI x2)] [vI (bI (stopd (d 66) (d 66 (139 + 16 * x1)) (d 66 (140 + 16 * x1)) x2))] g (ud d 65 5 0) Q by
        refine mw_if_eq (tgt := 51) (pc' := 47) dX12_isStopped_44 rfl (by decide) (fun c10 => ?_) (fun c10 => ?_)
        · replace c10 := bI_0.mp c10
          refine mw_iconst (pc' := 52) dX12_isStopped_51 rfl ⟨by decide, by decide⟩ ?_
          exact mw_st (bI_f (fun h => (c10 h))).symm k9
        · replace c10 := bI_n0.mp c10
          refine mw_iconst (pc' := 48) dX12_isStopped_47 rfl ⟨by decide, by decide⟩ ?_
          refine mw_goto (pc' := 0) (tgt := 52) dX12_isStopped_48 (by decide) ?_
          exact mw_st (bI_t c10).symm k9
      exact mw_iret (pc' := 0) (S := []) dX12_isStopped_52 rfl (Or.inr (Or.inl ⟨rfl, bI_rng⟩)) h
def pX12_stoppedDays_1 (x1 x2 x3 x4 x5 : Int) (g : mG) (d : mD) (Q : mQ) : Prop := MW mX12_stoppedDays 0 0 58 [(0, vR 65), (1, vI x1), (2, vI x2), (3, vI x3), (4, vI x4), (5, vI x5)] [] g d Q
theorem eX12_stoppedDays {x1 x2 x3 : Int} {g : mG} {d : mD} {Q : mQ} (h : (iI ((d 66 3) - 1)) ∧ ((((¬ ((¬ (x1 < 0)) ∧ (¬ (((d 66 3) - 1) < x1))))) → Q (.inl 0) g (ud (ud d 65 5 0) 65 5 1)) ∧ (((¬ (x1 < 0)) ∧ (¬ (((d 66 3) - 1) < x1))) → ((((¬ ((¬ (x2 < 0)) ∧ (¬ (4999 < x2)))) ∨ ((¬ ((¬ (x3 < 0)) ∧ (¬ (4999 < x3)))) ∨ (¬ (x2 ≤ x3))))) → Q (.inl 0) g (ud (ud d 65 5 0) 65 5 2)) ∧ ((¬ ((¬ ((¬ (x2 < 0)) ∧ (¬ (4999 < x2)))) ∨ ((¬ ((¬ (x3 < 0)) ∧ (¬ (4999 < x3)))) ∨ (¬ (x2 ≤ x3))))) → pX12_stoppedDays_1 x1 x2 x3 0 x2 g (ud d 65 5 0) Q)))) : MM mX12_stoppedDays [vR 65, vI x1, vI x2, vI x3] g d Q := by
  refine MM_of (by decide) rfl (by simp [catV]) (Nat.le_of_ble_eq_true rfl) ?_
  show MW mX12_stoppedDays 0 0 0 [(0, vR 65), (1, vI x1), (2, vI x2), (3, vI x3)] [] g d Q
  refine mw_top (fun hT => ?_)
  have hG : 76 ≤ g.2.1 := hT.2
  refine mw_aload_n (v := vR 65) (pc' := 1) dX12_stoppedDays_0 rfl rfl (Or.inl rfl) rfl ?_
  refine mw_iconst (pc' := 2) dX12_stoppedDays_1 rfl ⟨by decide, by decide⟩ ?_
  refine mw_putI (ji := 5) (pc' := 5) dX12_stoppedDays_2 rfl (fq_RX12_41_65) (by decide +kernel) rfl (Or.inl ⟨rfl, rc_65_5⟩) (Or.inr rfl) ⟨by decide, by omega⟩ ?_
  refine mw_aload_n (v := vR 65) (pc' := 6) dX12_stoppedDays_5 rfl rfl (Or.inl rfl) rfl ?_
  refine mw_aload_n (v := vR 65) (pc' := 7) dX12_stoppedDays_6 rfl rfl (Or.inl rfl) rfl ?_
  refine mw_iload_n (pc' := 8) dX12_stoppedDays_7 rfl rfl rfl ?_
  obtain ⟨o1, h⟩ := h
  refine mw_callV (M' := mX12_noDeadline) (A := [vI x1]) (A' := [vR 65, vI x1]) (S := [vR 65]) (a := 65) (pc' := 11) dX12_stoppedDays_8 rfl cl_RX12_147 cm_X12_noDeadline cv_X12_noDeadline ⟨by decide, by decide, by decide, by decide, by decide⟩ rfl rfl rfl ⟨by decide, by omega⟩ (by decide +kernel) (by decide +kernel) (Nat.le_of_ble_eq_true rfl) (eX12_noDeadline (⟨o1, ?_⟩))
  show MW mX12_stoppedDays 0 0 11 [(0, vR 65), (1, vI x1), (2, vI x2), (3, vI x3)] [vI (bI (¬ ((¬ (x1 < 0)) ∧ (¬ (((d 66 3) - 1) < x1))))), vR 65] g (ud d 65 5 0) Q
  refine mw_iconst (pc' := 12) dX12_stoppedDays_11 rfl ⟨by decide, by decide⟩ ?_
  refine mw_callV (M' := mX12_fails) (A := [vI (bI (¬ ((¬ (x1 < 0)) ∧ (¬ (((d 66 3) - 1) < x1))))), vI 1]) (A' := [vR 65, vI (bI (¬ ((¬ (x1 < 0)) ∧ (¬ (((d 66 3) - 1) < x1))))), vI 1]) (S := []) (a := 65) (pc' := 15) dX12_stoppedDays_12 rfl cl_RX12_55 cm_X12_fails cv_X12_fails ⟨by decide, by decide, by decide, by decide, by decide⟩ rfl rfl rfl ⟨by decide, by omega⟩ (by decide +kernel) (by decide +kernel) (Nat.le_of_ble_eq_true rfl) (f_fails (udS) (by decide) ?_)
  refine ⟨fun c2 => ?_, fun c2 => ?_⟩
  · replace h := h.1 (show (¬ ((¬ (x1 < 0)) ∧ (¬ (((d 66 3) - 1) < x1)))) from c2)
    show MW mX12_stoppedDays 0 0 15 [(0, vR 65), (1, vI x1), (2, vI x2), (3, vI x3)] [vI 1] g (ud (ud d 65 5 0) 65 5 1) Q
    refine mw_if_ne (tgt := 50) (pc' := 18) dX12_stoppedDays_15 rfl (by decide) (fun _ => ?_) (fun q => absurd q (by decide))
    refine mw_iconst (pc' := 51) dX12_stoppedDays_50 rfl ⟨by decide, by decide⟩ ?_
    exact mw_iret (pc' := 0) (S := []) dX12_stoppedDays_51 rfl (Or.inl rfl) h
  · replace h := h.2 (show (¬ (x1 < 0)) ∧ (¬ (((d 66 3) - 1) < x1)) from (Classical.not_not.mp c2))
    show MW mX12_stoppedDays 0 0 15 [(0, vR 65), (1, vI x1), (2, vI x2), (3, vI x3)] [vI 0] g (ud d 65 5 0) Q
    refine mw_if_ne (tgt := 50) (pc' := 18) dX12_stoppedDays_15 rfl (by decide) (fun q => absurd q (by decide)) (fun _ => ?_)
    refine mw_aload_n (v := vR 65) (pc' := 19) dX12_stoppedDays_18 rfl rfl (Or.inl rfl) rfl ?_
    refine mw_iload_n (pc' := 20) dX12_stoppedDays_19 rfl rfl rfl ?_
    refine mw_callS (M' := mX12_isDay) (A := [vI x2]) (S := [vR 65]) (pc' := 23) dX12_stoppedDays_20 rfl cl_RX12_106 cm_X12_isDay cs_X12_isDay ⟨by decide, by decide, by decide, by decide, by decide⟩ rfl rfl (Nat.le_of_ble_eq_true rfl) (eX12_isDay ?_)
    show MW mX12_stoppedDays 0 0 23 [(0, vR 65), (1, vI x1), (2, vI x2), (3, vI x3)] [vI (bI ((¬ (x2 < 0)) ∧ (¬ (4999 < x2)))), vR 65] g (ud d 65 5 0) Q
    suffices k3 : MW mX12_stoppedDays 0 0 43 [(0, vR 65), (1, vI x1), (2, vI x2), (3, vI x3)] [vI (bI ((¬ ((¬ (x2 < 0)) ∧ (¬ (4999 < x2)))) ∨ ((¬ ((¬ (x3 < 0)) ∧ (¬ (4999 < x3)))) ∨ (¬ (x2 ≤ x3))))), vR 65] g (ud d 65 5 0) Q by
      refine mw_if_eq (tgt := 38) (pc' := 26) dX12_stoppedDays_23 rfl (by decide) (fun c4 => ?_) (fun c4 => ?_)
      · replace c4 := bI_0.mp c4
        refine mw_iconst (pc' := 39) dX12_stoppedDays_38 rfl ⟨by decide, by decide⟩ ?_
        refine mw_goto (pc' := 0) (tgt := 43) dX12_stoppedDays_39 (by decide) ?_
        exact mw_st (bI_t (Or.inl c4)).symm k3
      · replace c4 := bI_n0.mp c4
        refine mw_iload_n (pc' := 27) dX12_stoppedDays_26 rfl rfl rfl ?_
        refine mw_callS (M' := mX12_isDay) (A := [vI x3]) (S := [vR 65]) (pc' := 30) dX12_stoppedDays_27 rfl cl_RX12_106 cm_X12_isDay cs_X12_isDay ⟨by decide, by decide, by decide, by decide, by decide⟩ rfl rfl (Nat.le_of_ble_eq_true rfl) (eX12_isDay ?_)
        show MW mX12_stoppedDays 0 0 30 [(0, vR 65), (1, vI x1), (2, vI x2), (3, vI x3)] [vI (bI ((¬ (x3 < 0)) ∧ (¬ (4999 < x3)))), vR 65] g (ud d 65 5 0) Q
        refine mw_if_eq (tgt := 38) (pc' := 33) dX12_stoppedDays_30 rfl (by decide) (fun c5 => ?_) (fun c5 => ?_)
        · replace c5 := bI_0.mp c5
          refine mw_iconst (pc' := 39) dX12_stoppedDays_38 rfl ⟨by decide, by decide⟩ ?_
          refine mw_goto (pc' := 0) (tgt := 43) dX12_stoppedDays_39 (by decide) ?_
          exact mw_st (bI_t (Or.inr (Or.inl c5))).symm k3
        · replace c5 := bI_n0.mp c5
          refine mw_iload_n (pc' := 34) dX12_stoppedDays_33 rfl rfl rfl ?_
          refine mw_iload_n (pc' := 35) dX12_stoppedDays_34 rfl rfl rfl ?_
          refine mw_icmp_ge (tgt := 42) (pc' := 38) dX12_stoppedDays_35 rfl (by decide) (fun c6 => ?_) (fun c6 => ?_)
          · refine mw_iconst (pc' := 43) dX12_stoppedDays_42 rfl ⟨by decide, by decide⟩ ?_
            exact mw_st (bI_f (fun h => h.elim (fun q => (q c4)) (fun h => h.elim (fun q => (q c5)) (fun h => (h c6))))).symm k3
          · refine mw_iconst (pc' := 39) dX12_stoppedDays_38 rfl ⟨by decide, by decide⟩ ?_
            refine mw_goto (pc' := 0) (tgt := 43) dX12_stoppedDays_39 (by decide) ?_
            exact mw_st (bI_t (Or.inr (Or.inr c6))).symm k3
    refine mw_iconst (pc' := 44) dX12_stoppedDays_43 rfl ⟨by decide, by decide⟩ ?_
    refine mw_callV (M' := mX12_fails) (A := [vI (bI ((¬ ((¬ (x2 < 0)) ∧ (¬ (4999 < x2)))) ∨ ((¬ ((¬ (x3 < 0)) ∧ (¬ (4999 < x3)))) ∨ (¬ (x2 ≤ x3))))), vI 2]) (A' := [vR 65, vI (bI ((¬ ((¬ (x2 < 0)) ∧ (¬ (4999 < x2)))) ∨ ((¬ ((¬ (x3 < 0)) ∧ (¬ (4999 < x3)))) ∨ (¬ (x2 ≤ x3))))), vI 2]) (S := []) (a := 65) (pc' := 47) dX12_stoppedDays_44 rfl cl_RX12_55 cm_X12_fails cv_X12_fails ⟨by decide, by decide, by decide, by decide, by decide⟩ rfl rfl rfl ⟨by decide, by omega⟩ (by decide +kernel) (by decide +kernel) (Nat.le_of_ble_eq_true rfl) (f_fails (udS) (by decide) ?_)
    refine ⟨fun c7 => ?_, fun c7 => ?_⟩
    · replace h := h.1 (show ((¬ ((¬ (x2 < 0)) ∧ (¬ (4999 < x2)))) ∨ ((¬ ((¬ (x3 < 0)) ∧ (¬ (4999 < x3)))) ∨ (¬ (x2 ≤ x3)))) from c7)
      show MW mX12_stoppedDays 0 0 47 [(0, vR 65), (1, vI x1), (2, vI x2), (3, vI x3)] [vI 1] g (ud (ud d 65 5 0) 65 5 2) Q
      refine mw_if_eq (tgt := 52) (pc' := 50) dX12_stoppedDays_47 rfl (by decide) (fun q => absurd q (by decide)) (fun _ => ?_)
      refine mw_iconst (pc' := 51) dX12_stoppedDays_50 rfl ⟨by decide, by decide⟩ ?_
      exact mw_iret (pc' := 0) (S := []) dX12_stoppedDays_51 rfl (Or.inl rfl) h
    · replace h := h.2 (show ¬ ((¬ ((¬ (x2 < 0)) ∧ (¬ (4999 < x2)))) ∨ ((¬ ((¬ (x3 < 0)) ∧ (¬ (4999 < x3)))) ∨ (¬ (x2 ≤ x3)))) from c7)
      show MW mX12_stoppedDays 0 0 47 [(0, vR 65), (1, vI x1), (2, vI x2), (3, vI x3)] [vI 0] g (ud d 65 5 0) Q
      refine mw_if_eq (tgt := 52) (pc' := 50) dX12_stoppedDays_47 rfl (by decide) (fun _ => ?_) (fun q => absurd q (by decide))
      refine mw_iconst (pc' := 53) dX12_stoppedDays_52 rfl ⟨by decide, by decide⟩ ?_
      refine mw_istore (pc' := 55) (L' := [(0, vR 65), (1, vI x1), (2, vI x2), (3, vI x3), (4, vI 0)]) dX12_stoppedDays_53 rfl (by decide) rfl ?_
      refine mw_iload_n (pc' := 56) dX12_stoppedDays_55 rfl rfl rfl ?_
      refine mw_istore (pc' := 58) (L' := [(0, vR 65), (1, vI x1), (2, vI x2), (3, vI x3), (4, vI 0), (5, vI x2)]) dX12_stoppedDays_56 rfl (by decide) rfl ?_
      exact h
theorem aX12_stoppedDays_1 {x1 x2 x3 x4 x5 : Int} {g : mG} {d : mD} {Q : mQ} (h : ((x3 < x5) → Q (.inl x4) g d) ∧ ((¬ (x3 < x5)) → (0 ≤ x1 ∧ x1 < 30) ∧ ((RW (d 66)) ∧ ((0 ≤ (d 66 (140 + 16 * x1)) ∧ (d 66 (140 + 16 * x1)) < 8) ∧ ((iI (x4 + (bI (stopd (d 66) (d 66 (139 + 16 * x1)) (d 66 (140 + 16 * x1)) x5)))) ∧ ((iI (x5 + 1)) ∧ (pX12_stoppedDays_1 x1 x2 x3 (x4 + (bI (stopd (d 66) (d 66 (139 + 16 * x1)) (d 66 (140 + 16 * x1)) x5))) (x5 + 1) g d Q))))))) : pX12_stoppedDays_1 x1 x2 x3 x4 x5 g d Q := by
  unfold pX12_stoppedDays_1
  refine mw_top (fun hT => ?_)
  have hG : 76 ≤ g.2.1 := hT.2
  refine mw_iload (pc' := 60) dX12_stoppedDays_58 rfl rfl ?_
  refine mw_iload_n (pc' := 61) dX12_stoppedDays_60 rfl rfl rfl ?_
  refine mw_icmp_gt (tgt := 90) (pc' := 64) dX12_stoppedDays_61 rfl (by decide) (fun c12 => ?_) (fun c12 => ?_)
  · replace h := h.1 c12
    refine mw_iload (pc' := 92) dX12_stoppedDays_90 rfl rfl ?_
    exact mw_iret (pc' := 0) (S := []) dX12_stoppedDays_92 rfl (Or.inl rfl) h
  · replace h := h.2 c12
    refine mw_iload (pc' := 66) dX12_stoppedDays_64 rfl rfl ?_
    refine mw_aload_n (v := vR 65) (pc' := 67) dX12_stoppedDays_66 rfl rfl (Or.inl rfl) rfl ?_
    refine mw_iload_n (pc' := 68) dX12_stoppedDays_67 rfl rfl rfl ?_
    refine mw_iload (pc' := 70) dX12_stoppedDays_68 rfl rfl ?_
    obtain ⟨o13, h⟩ := h
    obtain ⟨o14, h⟩ := h
    obtain ⟨o15, h⟩ := h
    refine mw_callV (M' := mX12_isStoppedOf) (A := [vI x1, vI x5]) (A' := [vR 65, vI x1, vI x5]) (S := [vI x4]) (a := 65) (pc' := 73) dX12_stoppedDays_70 rfl cl_RX12_180 cm_X12_isStoppedOf cv_X12_isStoppedOf ⟨by decide, by decide, by decide, by decide, by decide⟩ rfl rfl rfl ⟨by decide, by omega⟩ (by decide +kernel) (by decide +kernel) (Nat.le_of_ble_eq_true rfl) (eX12_isStoppedOf (⟨o13, o14, o15, ?_⟩))
    show MW mX12_stoppedDays 0 0 73 [(0, vR 65), (1, vI x1), (2, vI x2), (3, vI x3), (4, vI x4), (5, vI x5)] [vI (bI (stopd (d 66) (d 66 (139 + 16 * x1)) (d 66 (140 + 16 * x1)) x5)), vI x4] g d Q
    suffices k16 : MW mX12_stoppedDays 0 0 81 [(0, vR 65), (1, vI x1), (2, vI x2), (3, vI x3), (4, vI x4), (5, vI x5)] [vI (bI (stopd (d 66) (d 66 (139 + 16 * x1)) (d 66 (140 + 16 * x1)) x5)), vI x4] g d Q by
      refine mw_if_eq (tgt := 80) (pc' := 76) dX12_stoppedDays_73 rfl (by decide) (fun c17 => ?_) (fun c17 => ?_)
      · replace c17 := bI_0.mp c17
        refine mw_iconst (pc' := 81) dX12_stoppedDays_80 rfl ⟨by decide, by decide⟩ ?_
        exact mw_st (bI_f (fun h => (c17 h))).symm k16
      · replace c17 := bI_n0.mp c17
        refine mw_iconst (pc' := 77) dX12_stoppedDays_76 rfl ⟨by decide, by decide⟩ ?_
        refine mw_goto (pc' := 0) (tgt := 81) dX12_stoppedDays_77 (by decide) ?_
        exact mw_st (bI_t c17).symm k16
    obtain ⟨o18, h⟩ := h
    refine mw_iadd (pc' := 82) dX12_stoppedDays_81 rfl o18 ?_
    refine mw_istore (pc' := 84) (L' := [(0, vR 65), (1, vI x1), (2, vI x2), (3, vI x3), (4, vI (x4 + (bI (stopd (d 66) (d 66 (139 + 16 * x1)) (d 66 (140 + 16 * x1)) x5)))), (5, vI x5)]) dX12_stoppedDays_82 rfl (by decide) rfl ?_
    obtain ⟨o19, h⟩ := h
    refine mw_iinc (pc' := 87) (L' := [(0, vR 65), (1, vI x1), (2, vI x2), (3, vI x3), (4, vI (x4 + (bI (stopd (d 66) (d 66 (139 + 16 * x1)) (d 66 (140 + 16 * x1)) x5)))), (5, vI (x5 + 1))]) dX12_stoppedDays_84 rfl rfl (by decide) o19 rfl ?_
    refine mw_goto (pc' := 0) (tgt := 58) dX12_stoppedDays_87 (by decide) ?_
    exact h
theorem eX12_stoppedDaysByMarking {x1 x2 x3 : Int} {g : mG} {d : mD} {Q : mQ} (h : MM mX12_stoppedDays [vR 65, vI x1, vI x2, vI x3] g d (fun o g3 d4 => match o with | .inl v2 => Q (.inl v2) g3 d4 | .inr k => Q (.inr k) g3 d4)) : MM mX12_stoppedDaysByMarking [vR 65, vI x1, vI x2, vI x3] g d Q := by
  refine MM_of (by decide) rfl (by simp [catV]) (Nat.le_of_ble_eq_true rfl) ?_
  show MW mX12_stoppedDaysByMarking 0 0 0 [(0, vR 65), (1, vI x1), (2, vI x2), (3, vI x3)] [] g d Q
  refine mw_top (fun hT => ?_)
  have hG : 76 ≤ g.2.1 := hT.2
  refine mw_aload_n (v := vR 65) (pc' := 1) dX12_stoppedDaysByMarking_0 rfl rfl (Or.inl rfl) rfl ?_
  refine mw_iload_n (pc' := 2) dX12_stoppedDaysByMarking_1 rfl rfl rfl ?_
  refine mw_iload_n (pc' := 3) dX12_stoppedDaysByMarking_2 rfl rfl rfl ?_
  refine mw_iload_n (pc' := 4) dX12_stoppedDaysByMarking_3 rfl rfl rfl ?_
  refine mw_callV (M' := mX12_stoppedDays) (A := [vI x1, vI x2, vI x3]) (A' := [vR 65, vI x1, vI x2, vI x3]) (S := []) (a := 65) (pc' := 7) dX12_stoppedDaysByMarking_4 rfl cl_RX12_184 cm_X12_stoppedDays cv_X12_stoppedDays ⟨by decide, by decide, by decide, by decide, by decide⟩ rfl rfl rfl ⟨by decide, by omega⟩ (by decide +kernel) (by decide +kernel) (Nat.le_of_ble_eq_true rfl) (MM.mono ?_ h)
  intro o g3 d4 h1
  rcases o with v2 | k
  · refine mw_top (fun hT => ?_)
    have hG : 76 ≤ g3.2.1 := hT.2
    show MW mX12_stoppedDaysByMarking 0 0 7 [(0, vR 65), (1, vI x1), (2, vI x2), (3, vI x3)] [vI v2] g3 d4 Q
    exact mw_iret (pc' := 0) (S := []) dX12_stoppedDaysByMarking_7 rfl (Or.inl rfl) h1
  · exact mx_out rfl h1
theorem eX12_addOccurrence {x1 x2 : Int} {g : mG} {d : mD} {Q : mQ} (h : (((¬ ((¬ (x1 < 0)) ∧ (¬ ((d 66 0) < x1))))) → Q (.inl 0) g (ud (ud d 65 5 0) 65 5 1)) ∧ (((¬ (x1 < 0)) ∧ (¬ ((d 66 0) < x1))) → (((¬ ((¬ (x2 < 0)) ∧ (¬ (7 < x2))))) → Q (.inl 0) g (ud (ud d 65 5 0) 65 5 2)) ∧ (((¬ (x2 < 0)) ∧ (¬ (7 < x2))) → (((d 66 5 = 8)) → Q (.inl 0) g (ud (ud d 65 5 0) 65 5 3)) ∧ ((¬ (d 66 5 = 8)) → (0 ≤ d 65 3 ∧ d 65 3 ≤ 8) ∧ ((iI (5 * (d 66 5))) ∧ ((iI (667 + (5 * (d 66 5)))) ∧ ((0 ≤ 667 + (5 * (d 66 5)) ∧ 667 + (5 * (d 66 5)) < 787) ∧ ((iI ((667 + (5 * (d 66 5))) + 1)) ∧ ((0 ≤ (667 + (5 * (d 66 5))) + 1 ∧ (667 + (5 * (d 66 5))) + 1 < 787) ∧ ((iI ((667 + (5 * (d 66 5))) + 2)) ∧ ((iI (2 * x2)) ∧ ((iI (119 + (2 * x2))) ∧ ((0 ≤ 119 + (2 * x2) ∧ 119 + (2 * x2) < 787) ∧ ((¬ (119 + 2 * x2 = 668 + 5 * (d 66 5))) ∧ ((¬ (119 + 2 * x2 = 667 + 5 * (d 66 5))) ∧ ((0 ≤ (667 + (5 * (d 66 5))) + 2 ∧ (667 + (5 * (d 66 5))) + 2 < 787) ∧ ((iI ((667 + (5 * (d 66 5))) + 3)) ∧ ((iI ((119 + (2 * x2)) + 1)) ∧ ((0 ≤ (119 + (2 * x2)) + 1 ∧ (119 + (2 * x2)) + 1 < 787) ∧ ((¬ (120 + 2 * x2 = 669 + 5 * (d 66 5))) ∧ ((¬ (120 + 2 * x2 = 668 + 5 * (d 66 5))) ∧ ((¬ (120 + 2 * x2 = 667 + 5 * (d 66 5))) ∧ ((0 ≤ (667 + (5 * (d 66 5))) + 3 ∧ (667 + (5 * (d 66 5))) + 3 < 787) ∧ ((iI ((667 + (5 * (d 66 5))) + 4)) ∧ ((0 ≤ (667 + (5 * (d 66 5))) + 4 ∧ (667 + (5 * (d 66 5))) + 4 < 787) ∧ ((¬ (5 = 671 + 5 * (d 66 5))) ∧ ((¬ (5 = 670 + 5 * (d 66 5))) ∧ ((¬ (5 = 669 + 5 * (d 66 5))) ∧ ((¬ (5 = 668 + 5 * (d 66 5))) ∧ ((¬ (5 = 667 + 5 * (d 66 5))) ∧ ((iI ((d 66 5) + 1)) ∧ ((iI (((d 66 5) + 1) - 1)) ∧ (Q (.inl (((d 66 5) + 1) - 1)) g (ud (ud (ud (ud (ud (ud (mChg (ud d 65 5 0)) 66 (667 + 5 * (d 66 5)) x1) 66 (668 + 5 * (d 66 5)) x2) 66 (669 + 5 * (d 66 5)) (d 66 (119 + 2 * x2))) 66 (670 + 5 * (d 66 5)) (d 66 (120 + 2 * x2))) 66 (671 + 5 * (d 66 5)) 0) 66 5 ((d 66 5) + 1))))))))))))))))))))))))))))))))))) : MM mX12_addOccurrence [vR 65, vI x1, vI x2] g d Q := by
  refine MM_of (by decide) rfl (by simp [catV]) (Nat.le_of_ble_eq_true rfl) ?_
  show MW mX12_addOccurrence 0 0 0 [(0, vR 65), (1, vI x1), (2, vI x2)] [] g d Q
  refine mw_top (fun hT => ?_)
  have hG : 76 ≤ g.2.1 := hT.2
  refine mw_aload_n (v := vR 65) (pc' := 1) dX12_addOccurrence_0 rfl rfl (Or.inl rfl) rfl ?_
  refine mw_iconst (pc' := 2) dX12_addOccurrence_1 rfl ⟨by decide, by decide⟩ ?_
  refine mw_putI (ji := 5) (pc' := 5) dX12_addOccurrence_2 rfl (fq_RX12_41_65) (by decide +kernel) rfl (Or.inl ⟨rfl, rc_65_5⟩) (Or.inr rfl) ⟨by decide, by omega⟩ ?_
  refine mw_aload_n (v := vR 65) (pc' := 6) dX12_addOccurrence_5 rfl rfl (Or.inl rfl) rfl ?_
  refine mw_iload_n (pc' := 7) dX12_addOccurrence_6 rfl rfl rfl ?_
  refine mw_iconst (pc' := 8) dX12_addOccurrence_7 rfl ⟨by decide, by decide⟩ ?_
  refine mw_aload_n (v := vR 65) (pc' := 9) dX12_addOccurrence_8 rfl rfl (Or.inl rfl) rfl ?_
  refine mw_getP (v := 66) (pc' := 12) dX12_addOccurrence_9 rfl fr_RX12_9_65 rfl sp_65_0 ⟨by decide, by decide⟩ ?_
  refine mw_iconst (pc' := 13) dX12_addOccurrence_12 rfl ⟨by decide, by decide⟩ ?_
  refine mw_iald (pc' := 14) dX12_addOccurrence_13 rfl lk_66 ⟨by decide, by decide⟩ (by rw [ln_66]; exact ⟨by decide, by decide⟩) ?_
  refine mw_st (b := d 66 0) (udA (by decide) (rfl)) ?_
  refine mw_callS (M' := mX12_in) (A := [vI x1, vI 0, vI (d 66 0)]) (S := [vR 65]) (pc' := 17) dX12_addOccurrence_14 rfl cl_RX12_64 cm_X12_in cs_X12_in ⟨by decide, by decide, by decide, by decide, by decide⟩ rfl rfl (Nat.le_of_ble_eq_true rfl) (eX12_in ?_)
  show MW mX12_addOccurrence 0 0 17 [(0, vR 65), (1, vI x1), (2, vI x2)] [vI (bI ((¬ (x1 < 0)) ∧ (¬ ((d 66 0) < x1)))), vR 65] g (ud d 65 5 0) Q
  suffices k1 : MW mX12_addOccurrence 0 0 25 [(0, vR 65), (1, vI x1), (2, vI x2)] [vI (bI (¬ ((¬ (x1 < 0)) ∧ (¬ ((d 66 0) < x1))))), vR 65] g (ud d 65 5 0) Q by
    refine mw_if_ne (tgt := 24) (pc' := 20) dX12_addOccurrence_17 rfl (by decide) (fun c2 => ?_) (fun c2 => ?_)
    · replace c2 := bI_n0.mp c2
      refine mw_iconst (pc' := 25) dX12_addOccurrence_24 rfl ⟨by decide, by decide⟩ ?_
      exact mw_st (bI_f (fun h => (h c2))).symm k1
    · replace c2 := bI_0.mp c2
      refine mw_iconst (pc' := 21) dX12_addOccurrence_20 rfl ⟨by decide, by decide⟩ ?_
      refine mw_goto (pc' := 0) (tgt := 25) dX12_addOccurrence_21 (by decide) ?_
      exact mw_st (bI_t c2).symm k1
  refine mw_iconst (pc' := 26) dX12_addOccurrence_25 rfl ⟨by decide, by decide⟩ ?_
  refine mw_callV (M' := mX12_fails) (A := [vI (bI (¬ ((¬ (x1 < 0)) ∧ (¬ ((d 66 0) < x1))))), vI 1]) (A' := [vR 65, vI (bI (¬ ((¬ (x1 < 0)) ∧ (¬ ((d 66 0) < x1))))), vI 1]) (S := []) (a := 65) (pc' := 29) dX12_addOccurrence_26 rfl cl_RX12_55 cm_X12_fails cv_X12_fails ⟨by decide, by decide, by decide, by decide, by decide⟩ rfl rfl rfl ⟨by decide, by omega⟩ (by decide +kernel) (by decide +kernel) (Nat.le_of_ble_eq_true rfl) (f_fails (udS) (by decide) ?_)
  refine ⟨fun c3 => ?_, fun c3 => ?_⟩
  · replace h := h.1 (show (¬ ((¬ (x1 < 0)) ∧ (¬ ((d 66 0) < x1)))) from c3)
    show MW mX12_addOccurrence 0 0 29 [(0, vR 65), (1, vI x1), (2, vI x2)] [vI 1] g (ud (ud d 65 5 0) 65 5 1) Q
    refine mw_if_ne (tgt := 68) (pc' := 32) dX12_addOccurrence_29 rfl (by decide) (fun _ => ?_) (fun q => absurd q (by decide))
    refine mw_iconst (pc' := 69) dX12_addOccurrence_68 rfl ⟨by decide, by decide⟩ ?_
    exact mw_iret (pc' := 0) (S := []) dX12_addOccurrence_69 rfl (Or.inl rfl) h
  · replace h := h.2 (show (¬ (x1 < 0)) ∧ (¬ ((d 66 0) < x1)) from (Classical.not_not.mp c3))
    show MW mX12_addOccurrence 0 0 29 [(0, vR 65), (1, vI x1), (2, vI x2)] [vI 0] g (ud d 65 5 0) Q
    refine mw_if_ne (tgt := 68) (pc' := 32) dX12_addOccurrence_29 rfl (by decide) (fun q => absurd q (by decide)) (fun _ => ?_)
    refine mw_aload_n (v := vR 65) (pc' := 33) dX12_addOccurrence_32 rfl rfl (Or.inl rfl) rfl ?_
    refine mw_iload_n (pc' := 34) dX12_addOccurrence_33 rfl rfl rfl ?_
    refine mw_callS (M' := mX12_noRule) (A := [vI x2]) (S := [vR 65]) (pc' := 37) dX12_addOccurrence_34 rfl cl_RX12_119 cm_X12_noRule cs_X12_noRule ⟨by decide, by decide, by decide, by decide, by decide⟩ rfl rfl (Nat.le_of_ble_eq_true rfl) (eX12_noRule ?_)
    show MW mX12_addOccurrence 0 0 37 [(0, vR 65), (1, vI x1), (2, vI x2)] [vI (bI (¬ ((¬ (x2 < 0)) ∧ (¬ (7 < x2))))), vR 65] g (ud d 65 5 0) Q
    refine mw_iconst (pc' := 38) dX12_addOccurrence_37 rfl ⟨by decide, by decide⟩ ?_
    refine mw_callV (M' := mX12_fails) (A := [vI (bI (¬ ((¬ (x2 < 0)) ∧ (¬ (7 < x2))))), vI 2]) (A' := [vR 65, vI (bI (¬ ((¬ (x2 < 0)) ∧ (¬ (7 < x2))))), vI 2]) (S := []) (a := 65) (pc' := 41) dX12_addOccurrence_38 rfl cl_RX12_55 cm_X12_fails cv_X12_fails ⟨by decide, by decide, by decide, by decide, by decide⟩ rfl rfl rfl ⟨by decide, by omega⟩ (by decide +kernel) (by decide +kernel) (Nat.le_of_ble_eq_true rfl) (f_fails (udS) (by decide) ?_)
    refine ⟨fun c4 => ?_, fun c4 => ?_⟩
    · replace h := h.1 (show (¬ ((¬ (x2 < 0)) ∧ (¬ (7 < x2)))) from c4)
      show MW mX12_addOccurrence 0 0 41 [(0, vR 65), (1, vI x1), (2, vI x2)] [vI 1] g (ud (ud d 65 5 0) 65 5 2) Q
      refine mw_if_ne (tgt := 68) (pc' := 44) dX12_addOccurrence_41 rfl (by decide) (fun _ => ?_) (fun q => absurd q (by decide))
      refine mw_iconst (pc' := 69) dX12_addOccurrence_68 rfl ⟨by decide, by decide⟩ ?_
      exact mw_iret (pc' := 0) (S := []) dX12_addOccurrence_69 rfl (Or.inl rfl) h
    · replace h := h.2 (show (¬ (x2 < 0)) ∧ (¬ (7 < x2)) from (Classical.not_not.mp c4))
      show MW mX12_addOccurrence 0 0 41 [(0, vR 65), (1, vI x1), (2, vI x2)] [vI 0] g (ud d 65 5 0) Q
      refine mw_if_ne (tgt := 68) (pc' := 44) dX12_addOccurrence_41 rfl (by decide) (fun q => absurd q (by decide)) (fun _ => ?_)
      refine mw_aload_n (v := vR 65) (pc' := 45) dX12_addOccurrence_44 rfl rfl (Or.inl rfl) rfl ?_
      refine mw_aload_n (v := vR 65) (pc' := 46) dX12_addOccurrence_45 rfl rfl (Or.inl rfl) rfl ?_
      refine mw_getP (v := 66) (pc' := 49) dX12_addOccurrence_46 rfl fr_RX12_9_65 rfl sp_65_0 ⟨by decide, by decide⟩ ?_
      refine mw_iconst (pc' := 50) dX12_addOccurrence_49 rfl ⟨by decide, by decide⟩ ?_
      refine mw_iald (pc' := 51) dX12_addOccurrence_50 rfl lk_66 ⟨by decide, by decide⟩ (by rw [ln_66]; exact ⟨by decide, by decide⟩) ?_
      refine mw_st (b := d 66 5) (udA (by decide) (rfl)) ?_
      refine mw_bipush (pc' := 53) dX12_addOccurrence_51 rfl ⟨by decide, by decide⟩ ?_
      suffices k5 : MW mX12_addOccurrence 0 0 61 [(0, vR 65), (1, vI x1), (2, vI x2)] [vI (bI (d 66 5 = 8)), vR 65] g (ud d 65 5 0) Q by
        refine mw_icmp_ne (tgt := 60) (pc' := 56) dX12_addOccurrence_53 rfl (by decide) (fun c6 => ?_) (fun c6 => ?_)
        · refine mw_iconst (pc' := 61) dX12_addOccurrence_60 rfl ⟨by decide, by decide⟩ ?_
          exact mw_st (bI_f (fun h => (c6 h))).symm k5
        · refine mw_iconst (pc' := 57) dX12_addOccurrence_56 rfl ⟨by decide, by decide⟩ ?_
          refine mw_goto (pc' := 0) (tgt := 61) dX12_addOccurrence_57 (by decide) ?_
          exact mw_st (bI_t c6).symm k5
      refine mw_iconst (pc' := 62) dX12_addOccurrence_61 rfl ⟨by decide, by decide⟩ ?_
      refine mw_callV (M' := mX12_fails) (A := [vI (bI (d 66 5 = 8)), vI 3]) (A' := [vR 65, vI (bI (d 66 5 = 8)), vI 3]) (S := []) (a := 65) (pc' := 65) dX12_addOccurrence_62 rfl cl_RX12_55 cm_X12_fails cv_X12_fails ⟨by decide, by decide, by decide, by decide, by decide⟩ rfl rfl rfl ⟨by decide, by omega⟩ (by decide +kernel) (by decide +kernel) (Nat.le_of_ble_eq_true rfl) (f_fails (udS) (by decide) ?_)
      refine ⟨fun c7 => ?_, fun c7 => ?_⟩
      · replace h := h.1 (show (d 66 5 = 8) from c7)
        show MW mX12_addOccurrence 0 0 65 [(0, vR 65), (1, vI x1), (2, vI x2)] [vI 1] g (ud (ud d 65 5 0) 65 5 3) Q
        refine mw_if_eq (tgt := 70) (pc' := 68) dX12_addOccurrence_65 rfl (by decide) (fun q => absurd q (by decide)) (fun _ => ?_)
        refine mw_iconst (pc' := 69) dX12_addOccurrence_68 rfl ⟨by decide, by decide⟩ ?_
        exact mw_iret (pc' := 0) (S := []) dX12_addOccurrence_69 rfl (Or.inl rfl) h
      · replace h := h.2 (show ¬ (d 66 5 = 8) from c7)
        show MW mX12_addOccurrence 0 0 65 [(0, vR 65), (1, vI x1), (2, vI x2)] [vI 0] g (ud d 65 5 0) Q
        refine mw_if_eq (tgt := 70) (pc' := 68) dX12_addOccurrence_65 rfl (by decide) (fun _ => ?_) (fun q => absurd q (by decide))
        refine mw_aload_n (v := vR 65) (pc' := 71) dX12_addOccurrence_70 rfl rfl (Or.inl rfl) rfl ?_
        obtain ⟨o8, h⟩ := h
        refine mw_callV (M' := mX12_change) (A := []) (A' := [vR 65]) (S := []) (a := 65) (pc' := 74) dX12_addOccurrence_71 rfl cl_RX12_93 cm_X12_change cv_X12_change ⟨by decide, by decide, by decide, by decide, by decide⟩ rfl rfl rfl ⟨by decide, by omega⟩ (by decide +kernel) (by decide +kernel) (Nat.le_of_ble_eq_true rfl) (f_change (⟨o8, ?_⟩))
        show MW mX12_addOccurrence 0 0 74 [(0, vR 65), (1, vI x1), (2, vI x2)] [] g (mChg (ud d 65 5 0)) Q
        refine mw_aload_n (v := vR 65) (pc' := 75) dX12_addOccurrence_74 rfl rfl (Or.inl rfl) rfl ?_
        refine mw_getP (v := 66) (pc' := 78) dX12_addOccurrence_75 rfl fr_RX12_9_65 rfl sp_65_0 ⟨by decide, by decide⟩ ?_
        refine mw_iconst (pc' := 79) dX12_addOccurrence_78 rfl ⟨by decide, by decide⟩ ?_
        refine mw_iald (pc' := 80) dX12_addOccurrence_79 rfl lk_66 ⟨by decide, by decide⟩ (by rw [ln_66]; exact ⟨by decide, by decide⟩) ?_
        refine mw_st (b := d 66 5) (Eq.trans (mChg_fr (by omega)) (udA (by decide) (rfl))) ?_
        obtain ⟨o9, h⟩ := h
        obtain ⟨o10, h⟩ := h
        refine mw_callS (M' := mX12_occurrenceAt) (A := [vI (d 66 5)]) (S := []) (pc' := 83) dX12_addOccurrence_80 rfl cl_RX12_188 cm_X12_occurrenceAt cs_X12_occurrenceAt ⟨by decide, by decide, by decide, by decide, by decide⟩ rfl rfl (Nat.le_of_ble_eq_true rfl) (eX12_occurrenceAt (⟨o9, o10, ?_⟩))
        show MW mX12_addOccurrence 0 0 83 [(0, vR 65), (1, vI x1), (2, vI x2)] [vI (667 + (5 * (d 66 5)))] g (mChg (ud d 65 5 0)) Q
        refine mw_istore_n (pc' := 84) (L' := [(0, vR 65), (1, vI x1), (2, vI x2), (3, vI (667 + (5 * (d 66 5))))]) dX12_addOccurrence_83 rfl rfl (by decide) rfl ?_
        refine mw_aload_n (v := vR 65) (pc' := 85) dX12_addOccurrence_84 rfl rfl (Or.inl rfl) rfl ?_
        refine mw_getP (v := 66) (pc' := 88) dX12_addOccurrence_85 rfl fr_RX12_9_65 rfl sp_65_0 ⟨by decide, by decide⟩ ?_
        refine mw_iload_n (pc' := 89) dX12_addOccurrence_88 rfl rfl rfl ?_
        refine mw_iload_n (pc' := 90) dX12_addOccurrence_89 rfl rfl rfl ?_
        obtain ⟨o11, h⟩ := h
        refine mw_iast (pc' := 91) dX12_addOccurrence_90 rfl lk_66 ⟨by decide, by decide⟩ (by rw [ln_66]; exact o11) ?_
        refine mw_dd (b := (ud (mChg (ud d 65 5 0)) 66 (667 + 5 * (d 66 5)) x1)) (congrArg (fun z => ud (mChg (ud d 65 5 0)) 66 z x1) (by omega)) ?_
        refine mw_aload_n (v := vR 65) (pc' := 92) dX12_addOccurrence_91 rfl rfl (Or.inl rfl) rfl ?_
        refine mw_getP (v := 66) (pc' := 95) dX12_addOccurrence_92 rfl fr_RX12_9_65 rfl sp_65_0 ⟨by decide, by decide⟩ ?_
        refine mw_iload_n (pc' := 96) dX12_addOccurrence_95 rfl rfl rfl ?_
        refine mw_iconst (pc' := 97) dX12_addOccurrence_96 rfl ⟨by decide, by decide⟩ ?_
        obtain ⟨o12, h⟩ := h
        refine mw_iadd (pc' := 98) dX12_addOccurrence_97 rfl o12 ?_
        refine mw_iload_n (pc' := 99) dX12_addOccurrence_98 rfl rfl rfl ?_
        obtain ⟨o13, h⟩ := h
        refine mw_iast (pc' := 100) dX12_addOccurrence_99 rfl lk_66 ⟨by decide, by decide⟩ (by rw [ln_66]; exact o13) ?_
        refine mw_dd (b := (ud (ud (mChg (ud d 65 5 0)) 66 (667 + 5 * (d 66 5)) x1) 66 (668 + 5 * (d 66 5)) x2)) (congrArg (fun z => ud (ud (mChg (ud d 65 5 0)) 66 (667 + 5 * (d 66 5)) x1) 66 z x2) (by omega)) ?_
        refine mw_aload_n (v := vR 65) (pc' := 101) dX12_addOccurrence_100 rfl rfl (Or.inl rfl) rfl ?_
        refine mw_getP (v := 66) (pc' := 104) dX12_addOccurrence_101 rfl fr_RX12_9_65 rfl sp_65_0 ⟨by decide, by decide⟩ ?_
        refine mw_iload_n (pc' := 105) dX12_addOccurrence_104 rfl rfl rfl ?_
        refine mw_iconst (pc' := 106) dX12_addOccurrence_105 rfl ⟨by decide, by decide⟩ ?_
        obtain ⟨o14, h⟩ := h
        refine mw_iadd (pc' := 107) dX12_addOccurrence_106 rfl o14 ?_
        refine mw_aload_n (v := vR 65) (pc' := 108) dX12_addOccurrence_107 rfl rfl (Or.inl rfl) rfl ?_
        refine mw_getP (v := 66) (pc' := 111) dX12_addOccurrence_108 rfl fr_RX12_9_65 rfl sp_65_0 ⟨by decide, by decide⟩ ?_
        refine mw_bipush (pc' := 113) dX12_addOccurrence_111 rfl ⟨by decide, by decide⟩ ?_
        refine mw_iconst (pc' := 114) dX12_addOccurrence_113 rfl ⟨by decide, by decide⟩ ?_
        refine mw_iload_n (pc' := 115) dX12_addOccurrence_114 rfl rfl rfl ?_
        obtain ⟨o15, h⟩ := h
        refine mw_imul (pc' := 116) dX12_addOccurrence_115 rfl o15 ?_
        obtain ⟨o16, h⟩ := h
        refine mw_iadd (pc' := 117) dX12_addOccurrence_116 rfl o16 ?_
        obtain ⟨o17, h⟩ := h
        obtain ⟨o18, h⟩ := h
        obtain ⟨o19, h⟩ := h
        refine mw_iald (pc' := 118) dX12_addOccurrence_117 rfl lk_66 ⟨by decide, by decide⟩ (by rw [ln_66]; exact o17) ?_
        refine mw_st (b := (ud (ud (mChg (ud d 65 5 0)) 66 (667 + 5 * (d 66 5)) x1) 66 (668 + 5 * (d 66 5)) x2) 66 (119 + 2 * x2)) (congrArg ((ud (ud (mChg (ud d 65 5 0)) 66 (667 + 5 * (d 66 5)) x1) 66 (668 + 5 * (d 66 5)) x2) 66) (by omega)) ?_
        refine mw_st (b := d 66 (119 + 2 * x2)) (udI o18 (udI o19 (Eq.trans (mChg_fr (by omega)) (udA (by decide) (rfl))))) ?_
        obtain ⟨o20, h⟩ := h
        refine mw_iast (pc' := 119) dX12_addOccurrence_118 rfl lk_66 ⟨by decide, by decide⟩ (by rw [ln_66]; exact o20) ?_
        refine mw_dd (b := (ud (ud (ud (mChg (ud d 65 5 0)) 66 (667 + 5 * (d 66 5)) x1) 66 (668 + 5 * (d 66 5)) x2) 66 (669 + 5 * (d 66 5)) (d 66 (119 + 2 * x2)))) (congrArg (fun z => ud (ud (ud (mChg (ud d 65 5 0)) 66 (667 + 5 * (d 66 5)) x1) 66 (668 + 5 * (d 66 5)) x2) 66 z (d 66 (119 + 2 * x2))) (by omega)) ?_
        refine mw_aload_n (v := vR 65) (pc' := 120) dX12_addOccurrence_119 rfl rfl (Or.inl rfl) rfl ?_
        refine mw_getP (v := 66) (pc' := 123) dX12_addOccurrence_120 rfl fr_RX12_9_65 rfl sp_65_0 ⟨by decide, by decide⟩ ?_
        refine mw_iload_n (pc' := 124) dX12_addOccurrence_123 rfl rfl rfl ?_
        refine mw_iconst (pc' := 125) dX12_addOccurrence_124 rfl ⟨by decide, by decide⟩ ?_
        obtain ⟨o21, h⟩ := h
        refine mw_iadd (pc' := 126) dX12_addOccurrence_125 rfl o21 ?_
        refine mw_aload_n (v := vR 65) (pc' := 127) dX12_addOccurrence_126 rfl rfl (Or.inl rfl) rfl ?_
        refine mw_getP (v := 66) (pc' := 130) dX12_addOccurrence_127 rfl fr_RX12_9_65 rfl sp_65_0 ⟨by decide, by decide⟩ ?_
        refine mw_bipush (pc' := 132) dX12_addOccurrence_130 rfl ⟨by decide, by decide⟩ ?_
        refine mw_iconst (pc' := 133) dX12_addOccurrence_132 rfl ⟨by decide, by decide⟩ ?_
        refine mw_iload_n (pc' := 134) dX12_addOccurrence_133 rfl rfl rfl ?_
        refine mw_imul (pc' := 135) dX12_addOccurrence_134 rfl o15 ?_
        refine mw_iadd (pc' := 136) dX12_addOccurrence_135 rfl o16 ?_
        refine mw_iconst (pc' := 137) dX12_addOccurrence_136 rfl ⟨by decide, by decide⟩ ?_
        obtain ⟨o24, h⟩ := h
        refine mw_iadd (pc' := 138) dX12_addOccurrence_137 rfl o24 ?_
        obtain ⟨o25, h⟩ := h
        obtain ⟨o26, h⟩ := h
        obtain ⟨o27, h⟩ := h
        obtain ⟨o28, h⟩ := h
        refine mw_iald (pc' := 139) dX12_addOccurrence_138 rfl lk_66 ⟨by decide, by decide⟩ (by rw [ln_66]; exact o25) ?_
        refine mw_st (b := (ud (ud (ud (mChg (ud d 65 5 0)) 66 (667 + 5 * (d 66 5)) x1) 66 (668 + 5 * (d 66 5)) x2) 66 (669 + 5 * (d 66 5)) (d 66 (119 + 2 * x2))) 66 (120 + 2 * x2)) (congrArg ((ud (ud (ud (mChg (ud d 65 5 0)) 66 (667 + 5 * (d 66 5)) x1) 66 (668 + 5 * (d 66 5)) x2) 66 (669 + 5 * (d 66 5)) (d 66 (119 + 2 * x2))) 66) (by omega)) ?_
        refine mw_st (b := d 66 (120 + 2 * x2)) (udI o26 (udI o27 (udI o28 (Eq.trans (mChg_fr (by omega)) (udA (by decide) (rfl)))))) ?_
        obtain ⟨o29, h⟩ := h
        refine mw_iast (pc' := 140) dX12_addOccurrence_139 rfl lk_66 ⟨by decide, by decide⟩ (by rw [ln_66]; exact o29) ?_
        refine mw_dd (b := (ud (ud (ud (ud (mChg (ud d 65 5 0)) 66 (667 + 5 * (d 66 5)) x1) 66 (668 + 5 * (d 66 5)) x2) 66 (669 + 5 * (d 66 5)) (d 66 (119 + 2 * x2))) 66 (670 + 5 * (d 66 5)) (d 66 (120 + 2 * x2)))) (congrArg (fun z => ud (ud (ud (ud (mChg (ud d 65 5 0)) 66 (667 + 5 * (d 66 5)) x1) 66 (668 + 5 * (d 66 5)) x2) 66 (669 + 5 * (d 66 5)) (d 66 (119 + 2 * x2))) 66 z (d 66 (120 + 2 * x2))) (by omega)) ?_
        refine mw_aload_n (v := vR 65) (pc' := 141) dX12_addOccurrence_140 rfl rfl (Or.inl rfl) rfl ?_
        refine mw_getP (v := 66) (pc' := 144) dX12_addOccurrence_141 rfl fr_RX12_9_65 rfl sp_65_0 ⟨by decide, by decide⟩ ?_
        refine mw_iload_n (pc' := 145) dX12_addOccurrence_144 rfl rfl rfl ?_
        refine mw_iconst (pc' := 146) dX12_addOccurrence_145 rfl ⟨by decide, by decide⟩ ?_
        obtain ⟨o30, h⟩ := h
        refine mw_iadd (pc' := 147) dX12_addOccurrence_146 rfl o30 ?_
        refine mw_iconst (pc' := 148) dX12_addOccurrence_147 rfl ⟨by decide, by decide⟩ ?_
        obtain ⟨o31, h⟩ := h
        refine mw_iast (pc' := 149) dX12_addOccurrence_148 rfl lk_66 ⟨by decide, by decide⟩ (by rw [ln_66]; exact o31) ?_
        refine mw_dd (b := (ud (ud (ud (ud (ud (mChg (ud d 65 5 0)) 66 (667 + 5 * (d 66 5)) x1) 66 (668 + 5 * (d 66 5)) x2) 66 (669 + 5 * (d 66 5)) (d 66 (119 + 2 * x2))) 66 (670 + 5 * (d 66 5)) (d 66 (120 + 2 * x2))) 66 (671 + 5 * (d 66 5)) 0)) (congrArg (fun z => ud (ud (ud (ud (ud (mChg (ud d 65 5 0)) 66 (667 + 5 * (d 66 5)) x1) 66 (668 + 5 * (d 66 5)) x2) 66 (669 + 5 * (d 66 5)) (d 66 (119 + 2 * x2))) 66 (670 + 5 * (d 66 5)) (d 66 (120 + 2 * x2))) 66 z 0) (by omega)) ?_
        refine mw_aload_n (v := vR 65) (pc' := 150) dX12_addOccurrence_149 rfl rfl (Or.inl rfl) rfl ?_
        refine mw_getP (v := 66) (pc' := 153) dX12_addOccurrence_150 rfl fr_RX12_9_65 rfl sp_65_0 ⟨by decide, by decide⟩ ?_
        refine mw_iconst (pc' := 154) dX12_addOccurrence_153 rfl ⟨by decide, by decide⟩ ?_
        refine mw_dup2 (pc' := 155) dX12_addOccurrence_154 rfl rfl rfl ?_
        obtain ⟨o32, h⟩ := h
        obtain ⟨o33, h⟩ := h
        obtain ⟨o34, h⟩ := h
        obtain ⟨o35, h⟩ := h
        obtain ⟨o36, h⟩ := h
        refine mw_iald (pc' := 156) dX12_addOccurrence_155 rfl lk_66 ⟨by decide, by decide⟩ (by rw [ln_66]; exact ⟨by decide, by decide⟩) ?_
        refine mw_st (b := d 66 5) (udI o32 (udI o33 (udI o34 (udI o35 (udI o36 (Eq.trans (mChg_fr (by omega)) (udA (by decide) (rfl)))))))) ?_
        refine mw_iconst (pc' := 157) dX12_addOccurrence_156 rfl ⟨by decide, by decide⟩ ?_
        obtain ⟨o37, h⟩ := h
        refine mw_iadd (pc' := 158) dX12_addOccurrence_157 rfl o37 ?_
        refine mw_iast (pc' := 159) dX12_addOccurrence_158 rfl lk_66 ⟨by decide, by decide⟩ (by rw [ln_66]; exact ⟨by decide, by decide⟩) ?_
        refine mw_aload_n (v := vR 65) (pc' := 160) dX12_addOccurrence_159 rfl rfl (Or.inl rfl) rfl ?_
        refine mw_getP (v := 66) (pc' := 163) dX12_addOccurrence_160 rfl fr_RX12_9_65 rfl sp_65_0 ⟨by decide, by decide⟩ ?_
        refine mw_iconst (pc' := 164) dX12_addOccurrence_163 rfl ⟨by decide, by decide⟩ ?_
        refine mw_iald (pc' := 165) dX12_addOccurrence_164 rfl lk_66 ⟨by decide, by decide⟩ (by rw [ln_66]; exact ⟨by decide, by decide⟩) ?_
        refine mw_st (b := (d 66 5) + 1) (udS) ?_
        refine mw_iconst (pc' := 166) dX12_addOccurrence_165 rfl ⟨by decide, by decide⟩ ?_
        obtain ⟨o38, h⟩ := h
        refine mw_isub (pc' := 167) dX12_addOccurrence_166 rfl o38 ?_
        exact mw_iret (pc' := 0) (S := []) dX12_addOccurrence_167 rfl (Or.inl rfl) h
def pX12_linkOccurrences_1 (x1 x2 x3 x4 : Int) (g : mG) (d : mD) (Q : mQ) : Prop := MW mX12_linkOccurrences 0 0 129 [(0, vR 65), (1, vI x1), (2, vI x2), (3, vI x3), (4, vI x4)] [] g d Q
theorem eX12_linkOccurrences {x1 x2 : Int} {g : mG} {d : mD} {Q : mQ} (h : (iI ((d 66 5) - 1)) ∧ (((((¬ ((¬ (x1 < 0)) ∧ (¬ (((d 66 5) - 1) < x1)))) ∨ (¬ ((¬ (x2 < 0)) ∧ (¬ (((d 66 5) - 1) < x2)))))) → Q (.inl 0) g (ud (ud d 65 5 0) 65 5 1)) ∧ ((¬ ((¬ ((¬ (x1 < 0)) ∧ (¬ (((d 66 5) - 1) < x1)))) ∨ (¬ ((¬ (x2 < 0)) ∧ (¬ (((d 66 5) - 1) < x2)))))) → (((x1 = x2)) → Q (.inl 0) g (ud (ud d 65 5 0) 65 5 2)) ∧ ((¬ (x1 = x2)) → (iI (5 * x1)) ∧ ((iI (667 + (5 * x1))) ∧ ((iI ((667 + (5 * x1)) + 4)) ∧ ((0 ≤ (667 + (5 * x1)) + 4 ∧ (667 + (5 * x1)) + 4 < 787) ∧ ((0 ≤ d 66 (671 + 5 * x1)) ∧ ((0 ≤ x2 ∧ x2 < 32) ∧ ((((((d 66 (671 + 5 * x1)) / 2 ^ (x2).toNat) % 2 = 1)) → Q (.inl 0) g (ud (ud d 65 5 0) 65 5 3)) ∧ ((¬ (((d 66 (671 + 5 * x1)) / 2 ^ (x2).toNat) % 2 = 1)) → (0 ≤ d 65 3 ∧ d 65 3 ≤ 8) ∧ ((0 ≤ x2 ∧ x2 < 31) ∧ ((iI ((1 : Int) * 2 ^ (x2).toNat)) ∧ ((0 ≤ (1 : Int) * 2 ^ (x2).toNat) ∧ ((iI (5 * x2)) ∧ ((iI (667 + (5 * x2))) ∧ ((iI ((667 + (5 * x2)) + 4)) ∧ ((0 ≤ (667 + (5 * x2)) + 4 ∧ (667 + (5 * x2)) + 4 < 787) ∧ ((0 ≤ x1 ∧ x1 < 31) ∧ ((iI ((1 : Int) * 2 ^ (x1).toNat)) ∧ ((0 ≤ (ud (mChg (ud d 65 5 0)) 66 (671 + 5 * x1) (nOr (d 66 (671 + 5 * x1)) ((1 : Int) * 2 ^ (x2).toNat))) 66 (671 + 5 * x2)) ∧ ((0 ≤ (1 : Int) * 2 ^ (x1).toNat) ∧ (pX12_linkOccurrences_1 x1 x2 0 0 g (ud (ud (mChg (ud d 65 5 0)) 66 (671 + 5 * x1) (nOr (d 66 (671 + 5 * x1)) ((1 : Int) * 2 ^ (x2).toNat))) 66 (671 + 5 * x2) (nOr ((ud (mChg (ud d 65 5 0)) 66 (671 + 5 * x1) (nOr (d 66 (671 + 5 * x1)) ((1 : Int) * 2 ^ (x2).toNat))) 66 (671 + 5 * x2)) ((1 : Int) * 2 ^ (x1).toNat))) Q))))))))))))))))))))))) : MM mX12_linkOccurrences [vR 65, vI x1, vI x2] g d Q := by
  refine MM_of (by decide) rfl (by simp [catV]) (Nat.le_of_ble_eq_true rfl) ?_
  show MW mX12_linkOccurrences 0 0 0 [(0, vR 65), (1, vI x1), (2, vI x2)] [] g d Q
  refine mw_top (fun hT => ?_)
  have hG : 76 ≤ g.2.1 := hT.2
  refine mw_aload_n (v := vR 65) (pc' := 1) dX12_linkOccurrences_0 rfl rfl (Or.inl rfl) rfl ?_
  refine mw_iconst (pc' := 2) dX12_linkOccurrences_1 rfl ⟨by decide, by decide⟩ ?_
  refine mw_putI (ji := 5) (pc' := 5) dX12_linkOccurrences_2 rfl (fq_RX12_41_65) (by decide +kernel) rfl (Or.inl ⟨rfl, rc_65_5⟩) (Or.inr rfl) ⟨by decide, by omega⟩ ?_
  refine mw_aload_n (v := vR 65) (pc' := 6) dX12_linkOccurrences_5 rfl rfl (Or.inl rfl) rfl ?_
  refine mw_aload_n (v := vR 65) (pc' := 7) dX12_linkOccurrences_6 rfl rfl (Or.inl rfl) rfl ?_
  refine mw_iload_n (pc' := 8) dX12_linkOccurrences_7 rfl rfl rfl ?_
  obtain ⟨o1, h⟩ := h
  refine mw_callV (M' := mX12_noOccurrence) (A := [vI x1]) (A' := [vR 65, vI x1]) (S := [vR 65]) (a := 65) (pc' := 11) dX12_linkOccurrences_8 rfl cl_RX12_191 cm_X12_noOccurrence cv_X12_noOccurrence ⟨by decide, by decide, by decide, by decide, by decide⟩ rfl rfl rfl ⟨by decide, by omega⟩ (by decide +kernel) (by decide +kernel) (Nat.le_of_ble_eq_true rfl) (eX12_noOccurrence (⟨o1, ?_⟩))
  show MW mX12_linkOccurrences 0 0 11 [(0, vR 65), (1, vI x1), (2, vI x2)] [vI (bI (¬ ((¬ (x1 < 0)) ∧ (¬ (((d 66 5) - 1) < x1))))), vR 65] g (ud d 65 5 0) Q
  suffices k3 : MW mX12_linkOccurrences 0 0 27 [(0, vR 65), (1, vI x1), (2, vI x2)] [vI (bI ((¬ ((¬ (x1 < 0)) ∧ (¬ (((d 66 5) - 1) < x1)))) ∨ (¬ ((¬ (x2 < 0)) ∧ (¬ (((d 66 5) - 1) < x2)))))), vR 65] g (ud d 65 5 0) Q by
    refine mw_if_ne (tgt := 22) (pc' := 14) dX12_linkOccurrences_11 rfl (by decide) (fun c4 => ?_) (fun c4 => ?_)
    · replace c4 := bI_n0.mp c4
      refine mw_iconst (pc' := 23) dX12_linkOccurrences_22 rfl ⟨by decide, by decide⟩ ?_
      refine mw_goto (pc' := 0) (tgt := 27) dX12_linkOccurrences_23 (by decide) ?_
      exact mw_st (bI_t (Or.inl c4)).symm k3
    · replace c4 := bI_0.mp c4
      replace c4 := (Classical.not_not.mp c4)
      refine mw_aload_n (v := vR 65) (pc' := 15) dX12_linkOccurrences_14 rfl rfl (Or.inl rfl) rfl ?_
      refine mw_iload_n (pc' := 16) dX12_linkOccurrences_15 rfl rfl rfl ?_
      refine mw_callV (M' := mX12_noOccurrence) (A := [vI x2]) (A' := [vR 65, vI x2]) (S := [vR 65]) (a := 65) (pc' := 19) dX12_linkOccurrences_16 rfl cl_RX12_191 cm_X12_noOccurrence cv_X12_noOccurrence ⟨by decide, by decide, by decide, by decide, by decide⟩ rfl rfl rfl ⟨by decide, by omega⟩ (by decide +kernel) (by decide +kernel) (Nat.le_of_ble_eq_true rfl) (eX12_noOccurrence (⟨o1, ?_⟩))
      show MW mX12_linkOccurrences 0 0 19 [(0, vR 65), (1, vI x1), (2, vI x2)] [vI (bI (¬ ((¬ (x2 < 0)) ∧ (¬ (((d 66 5) - 1) < x2))))), vR 65] g (ud d 65 5 0) Q
      refine mw_if_eq (tgt := 26) (pc' := 22) dX12_linkOccurrences_19 rfl (by decide) (fun c5 => ?_) (fun c5 => ?_)
      · replace c5 := bI_0.mp c5
        replace c5 := (Classical.not_not.mp c5)
        refine mw_iconst (pc' := 27) dX12_linkOccurrences_26 rfl ⟨by decide, by decide⟩ ?_
        exact mw_st (bI_f (fun h => h.elim (fun q => (q c4)) (fun h => (h c5)))).symm k3
      · replace c5 := bI_n0.mp c5
        refine mw_iconst (pc' := 23) dX12_linkOccurrences_22 rfl ⟨by decide, by decide⟩ ?_
        refine mw_goto (pc' := 0) (tgt := 27) dX12_linkOccurrences_23 (by decide) ?_
        exact mw_st (bI_t (Or.inr c5)).symm k3
  refine mw_iconst (pc' := 28) dX12_linkOccurrences_27 rfl ⟨by decide, by decide⟩ ?_
  refine mw_callV (M' := mX12_fails) (A := [vI (bI ((¬ ((¬ (x1 < 0)) ∧ (¬ (((d 66 5) - 1) < x1)))) ∨ (¬ ((¬ (x2 < 0)) ∧ (¬ (((d 66 5) - 1) < x2)))))), vI 1]) (A' := [vR 65, vI (bI ((¬ ((¬ (x1 < 0)) ∧ (¬ (((d 66 5) - 1) < x1)))) ∨ (¬ ((¬ (x2 < 0)) ∧ (¬ (((d 66 5) - 1) < x2)))))), vI 1]) (S := []) (a := 65) (pc' := 31) dX12_linkOccurrences_28 rfl cl_RX12_55 cm_X12_fails cv_X12_fails ⟨by decide, by decide, by decide, by decide, by decide⟩ rfl rfl rfl ⟨by decide, by omega⟩ (by decide +kernel) (by decide +kernel) (Nat.le_of_ble_eq_true rfl) (f_fails (udS) (by decide) ?_)
  refine ⟨fun c6 => ?_, fun c6 => ?_⟩
  · replace h := h.1 (show ((¬ ((¬ (x1 < 0)) ∧ (¬ (((d 66 5) - 1) < x1)))) ∨ (¬ ((¬ (x2 < 0)) ∧ (¬ (((d 66 5) - 1) < x2))))) from c6)
    show MW mX12_linkOccurrences 0 0 31 [(0, vR 65), (1, vI x1), (2, vI x2)] [vI 1] g (ud (ud d 65 5 0) 65 5 1) Q
    refine mw_if_ne (tgt := 84) (pc' := 34) dX12_linkOccurrences_31 rfl (by decide) (fun _ => ?_) (fun q => absurd q (by decide))
    refine mw_iconst (pc' := 85) dX12_linkOccurrences_84 rfl ⟨by decide, by decide⟩ ?_
    exact mw_iret (pc' := 0) (S := []) dX12_linkOccurrences_85 rfl (Or.inl rfl) h
  · replace h := h.2 (show ¬ ((¬ ((¬ (x1 < 0)) ∧ (¬ (((d 66 5) - 1) < x1)))) ∨ (¬ ((¬ (x2 < 0)) ∧ (¬ (((d 66 5) - 1) < x2))))) from c6)
    show MW mX12_linkOccurrences 0 0 31 [(0, vR 65), (1, vI x1), (2, vI x2)] [vI 0] g (ud d 65 5 0) Q
    refine mw_if_ne (tgt := 84) (pc' := 34) dX12_linkOccurrences_31 rfl (by decide) (fun q => absurd q (by decide)) (fun _ => ?_)
    refine mw_aload_n (v := vR 65) (pc' := 35) dX12_linkOccurrences_34 rfl rfl (Or.inl rfl) rfl ?_
    refine mw_iload_n (pc' := 36) dX12_linkOccurrences_35 rfl rfl rfl ?_
    refine mw_iload_n (pc' := 37) dX12_linkOccurrences_36 rfl rfl rfl ?_
    suffices k7 : MW mX12_linkOccurrences 0 0 45 [(0, vR 65), (1, vI x1), (2, vI x2)] [vI (bI (x1 = x2)), vR 65] g (ud d 65 5 0) Q by
      refine mw_icmp_ne (tgt := 44) (pc' := 40) dX12_linkOccurrences_37 rfl (by decide) (fun c8 => ?_) (fun c8 => ?_)
      · refine mw_iconst (pc' := 45) dX12_linkOccurrences_44 rfl ⟨by decide, by decide⟩ ?_
        exact mw_st (bI_f (fun h => (c8 h))).symm k7
      · refine mw_iconst (pc' := 41) dX12_linkOccurrences_40 rfl ⟨by decide, by decide⟩ ?_
        refine mw_goto (pc' := 0) (tgt := 45) dX12_linkOccurrences_41 (by decide) ?_
        exact mw_st (bI_t c8).symm k7
    refine mw_iconst (pc' := 46) dX12_linkOccurrences_45 rfl ⟨by decide, by decide⟩ ?_
    refine mw_callV (M' := mX12_fails) (A := [vI (bI (x1 = x2)), vI 2]) (A' := [vR 65, vI (bI (x1 = x2)), vI 2]) (S := []) (a := 65) (pc' := 49) dX12_linkOccurrences_46 rfl cl_RX12_55 cm_X12_fails cv_X12_fails ⟨by decide, by decide, by decide, by decide, by decide⟩ rfl rfl rfl ⟨by decide, by omega⟩ (by decide +kernel) (by decide +kernel) (Nat.le_of_ble_eq_true rfl) (f_fails (udS) (by decide) ?_)
    refine ⟨fun c9 => ?_, fun c9 => ?_⟩
    · replace h := h.1 (show (x1 = x2) from c9)
      show MW mX12_linkOccurrences 0 0 49 [(0, vR 65), (1, vI x1), (2, vI x2)] [vI 1] g (ud (ud d 65 5 0) 65 5 2) Q
      refine mw_if_ne (tgt := 84) (pc' := 52) dX12_linkOccurrences_49 rfl (by decide) (fun _ => ?_) (fun q => absurd q (by decide))
      refine mw_iconst (pc' := 85) dX12_linkOccurrences_84 rfl ⟨by decide, by decide⟩ ?_
      exact mw_iret (pc' := 0) (S := []) dX12_linkOccurrences_85 rfl (Or.inl rfl) h
    · replace h := h.2 (show ¬ (x1 = x2) from c9)
      show MW mX12_linkOccurrences 0 0 49 [(0, vR 65), (1, vI x1), (2, vI x2)] [vI 0] g (ud d 65 5 0) Q
      refine mw_if_ne (tgt := 84) (pc' := 52) dX12_linkOccurrences_49 rfl (by decide) (fun q => absurd q (by decide)) (fun _ => ?_)
      refine mw_aload_n (v := vR 65) (pc' := 53) dX12_linkOccurrences_52 rfl rfl (Or.inl rfl) rfl ?_
      refine mw_aload_n (v := vR 65) (pc' := 54) dX12_linkOccurrences_53 rfl rfl (Or.inl rfl) rfl ?_
      refine mw_getP (v := 66) (pc' := 57) dX12_linkOccurrences_54 rfl fr_RX12_9_65 rfl sp_65_0 ⟨by decide, by decide⟩ ?_
      refine mw_iload_n (pc' := 58) dX12_linkOccurrences_57 rfl rfl rfl ?_
      obtain ⟨o10, h⟩ := h
      obtain ⟨o11, h⟩ := h
      refine mw_callS (M' := mX12_occurrenceAt) (A := [vI x1]) (S := [vR 66, vR 65]) (pc' := 61) dX12_linkOccurrences_58 rfl cl_RX12_188 cm_X12_occurrenceAt cs_X12_occurrenceAt ⟨by decide, by decide, by decide, by decide, by decide⟩ rfl rfl (Nat.le_of_ble_eq_true rfl) (eX12_occurrenceAt (⟨o10, o11, ?_⟩))
      show MW mX12_linkOccurrences 0 0 61 [(0, vR 65), (1, vI x1), (2, vI x2)] [vI (667 + (5 * x1)), vR 66, vR 65] g (ud d 65 5 0) Q
      refine mw_iconst (pc' := 62) dX12_linkOccurrences_61 rfl ⟨by decide, by decide⟩ ?_
      obtain ⟨o12, h⟩ := h
      refine mw_iadd (pc' := 63) dX12_linkOccurrences_62 rfl o12 ?_
      obtain ⟨o13, h⟩ := h
      refine mw_iald (pc' := 64) dX12_linkOccurrences_63 rfl lk_66 ⟨by decide, by decide⟩ (by rw [ln_66]; exact o13) ?_
      refine mw_st (b := (ud d 65 5 0) 66 (671 + 5 * x1)) (congrArg ((ud d 65 5 0) 66) (by omega)) ?_
      refine mw_st (b := d 66 (671 + 5 * x1)) (udA (by decide) (rfl)) ?_
      refine mw_iload_n (pc' := 65) dX12_linkOccurrences_64 rfl rfl rfl ?_
      obtain ⟨o14, h⟩ := h
      obtain ⟨o15, h⟩ := h
      refine mw_ishr (pc' := 66) dX12_linkOccurrences_65 rfl o14 o15 ?_
      refine mw_iconst (pc' := 67) dX12_linkOccurrences_66 rfl ⟨by decide, by decide⟩ ?_
      refine mw_imask (n := 2) (n1 := 2) (k := 1) (pc' := 68) dX12_linkOccurrences_67 rfl (by decide) (by decide) (by decide) (by decide) ?_
      refine mw_iconst (pc' := 69) dX12_linkOccurrences_68 rfl ⟨by decide, by decide⟩ ?_
      suffices k16 : MW mX12_linkOccurrences 0 0 77 [(0, vR 65), (1, vI x1), (2, vI x2)] [vI (bI (((d 66 (671 + 5 * x1)) / 2 ^ (x2).toNat) % 2 = 1)), vR 65] g (ud d 65 5 0) Q by
        refine mw_icmp_ne (tgt := 76) (pc' := 72) dX12_linkOccurrences_69 rfl (by decide) (fun c17 => ?_) (fun c17 => ?_)
        · refine mw_iconst (pc' := 77) dX12_linkOccurrences_76 rfl ⟨by decide, by decide⟩ ?_
          exact mw_st (bI_f (fun h => (c17 h))).symm k16
        · refine mw_iconst (pc' := 73) dX12_linkOccurrences_72 rfl ⟨by decide, by decide⟩ ?_
          refine mw_goto (pc' := 0) (tgt := 77) dX12_linkOccurrences_73 (by decide) ?_
          exact mw_st (bI_t c17).symm k16
      refine mw_iconst (pc' := 78) dX12_linkOccurrences_77 rfl ⟨by decide, by decide⟩ ?_
      refine mw_callV (M' := mX12_fails) (A := [vI (bI (((d 66 (671 + 5 * x1)) / 2 ^ (x2).toNat) % 2 = 1)), vI 3]) (A' := [vR 65, vI (bI (((d 66 (671 + 5 * x1)) / 2 ^ (x2).toNat) % 2 = 1)), vI 3]) (S := []) (a := 65) (pc' := 81) dX12_linkOccurrences_78 rfl cl_RX12_55 cm_X12_fails cv_X12_fails ⟨by decide, by decide, by decide, by decide, by decide⟩ rfl rfl rfl ⟨by decide, by omega⟩ (by decide +kernel) (by decide +kernel) (Nat.le_of_ble_eq_true rfl) (f_fails (udS) (by decide) ?_)
      refine ⟨fun c18 => ?_, fun c18 => ?_⟩
      · replace h := h.1 (show (((d 66 (671 + 5 * x1)) / 2 ^ (x2).toNat) % 2 = 1) from c18)
        show MW mX12_linkOccurrences 0 0 81 [(0, vR 65), (1, vI x1), (2, vI x2)] [vI 1] g (ud (ud d 65 5 0) 65 5 3) Q
        refine mw_if_eq (tgt := 86) (pc' := 84) dX12_linkOccurrences_81 rfl (by decide) (fun q => absurd q (by decide)) (fun _ => ?_)
        refine mw_iconst (pc' := 85) dX12_linkOccurrences_84 rfl ⟨by decide, by decide⟩ ?_
        exact mw_iret (pc' := 0) (S := []) dX12_linkOccurrences_85 rfl (Or.inl rfl) h
      · replace h := h.2 (show ¬ (((d 66 (671 + 5 * x1)) / 2 ^ (x2).toNat) % 2 = 1) from c18)
        show MW mX12_linkOccurrences 0 0 81 [(0, vR 65), (1, vI x1), (2, vI x2)] [vI 0] g (ud d 65 5 0) Q
        refine mw_if_eq (tgt := 86) (pc' := 84) dX12_linkOccurrences_81 rfl (by decide) (fun _ => ?_) (fun q => absurd q (by decide))
        refine mw_aload_n (v := vR 65) (pc' := 87) dX12_linkOccurrences_86 rfl rfl (Or.inl rfl) rfl ?_
        obtain ⟨o19, h⟩ := h
        refine mw_callV (M' := mX12_change) (A := []) (A' := [vR 65]) (S := []) (a := 65) (pc' := 90) dX12_linkOccurrences_87 rfl cl_RX12_93 cm_X12_change cv_X12_change ⟨by decide, by decide, by decide, by decide, by decide⟩ rfl rfl rfl ⟨by decide, by omega⟩ (by decide +kernel) (by decide +kernel) (Nat.le_of_ble_eq_true rfl) (f_change (⟨o19, ?_⟩))
        show MW mX12_linkOccurrences 0 0 90 [(0, vR 65), (1, vI x1), (2, vI x2)] [] g (mChg (ud d 65 5 0)) Q
        refine mw_aload_n (v := vR 65) (pc' := 91) dX12_linkOccurrences_90 rfl rfl (Or.inl rfl) rfl ?_
        refine mw_getP (v := 66) (pc' := 94) dX12_linkOccurrences_91 rfl fr_RX12_9_65 rfl sp_65_0 ⟨by decide, by decide⟩ ?_
        refine mw_iload_n (pc' := 95) dX12_linkOccurrences_94 rfl rfl rfl ?_
        refine mw_callS (M' := mX12_occurrenceAt) (A := [vI x1]) (S := [vR 66]) (pc' := 98) dX12_linkOccurrences_95 rfl cl_RX12_188 cm_X12_occurrenceAt cs_X12_occurrenceAt ⟨by decide, by decide, by decide, by decide, by decide⟩ rfl rfl (Nat.le_of_ble_eq_true rfl) (eX12_occurrenceAt (⟨o10, o11, ?_⟩))
        show MW mX12_linkOccurrences 0 0 98 [(0, vR 65), (1, vI x1), (2, vI x2)] [vI (667 + (5 * x1)), vR 66] g (mChg (ud d 65 5 0)) Q
        refine mw_iconst (pc' := 99) dX12_linkOccurrences_98 rfl ⟨by decide, by decide⟩ ?_
        refine mw_iadd (pc' := 100) dX12_linkOccurrences_99 rfl o12 ?_
        refine mw_dup2 (pc' := 101) dX12_linkOccurrences_100 rfl rfl rfl ?_
        refine mw_iald (pc' := 102) dX12_linkOccurrences_101 rfl lk_66 ⟨by decide, by decide⟩ (by rw [ln_66]; exact o13) ?_
        refine mw_st (b := (mChg (ud d 65 5 0)) 66 (671 + 5 * x1)) (congrArg ((mChg (ud d 65 5 0)) 66) (by omega)) ?_
        refine mw_st (b := d 66 (671 + 5 * x1)) (Eq.trans (mChg_fr (by omega)) (udA (by decide) (rfl))) ?_
        refine mw_iconst (pc' := 103) dX12_linkOccurrences_102 rfl ⟨by decide, by decide⟩ ?_
        refine mw_iload_n (pc' := 104) dX12_linkOccurrences_103 rfl rfl rfl ?_
        obtain ⟨o24, h⟩ := h
        obtain ⟨o25, h⟩ := h
        refine mw_ishl (pc' := 105) dX12_linkOccurrences_104 rfl (by decide) o24 o25 ?_
        obtain ⟨o27, h⟩ := h
        refine mw_ior (pc' := 106) dX12_linkOccurrences_105 rfl o14 o27 ?_
        refine mw_iast (pc' := 107) dX12_linkOccurrences_106 rfl lk_66 ⟨by decide, by decide⟩ (by rw [ln_66]; exact o13) ?_
        refine mw_dd (b := (ud (mChg (ud d 65 5 0)) 66 (671 + 5 * x1) (nOr (d 66 (671 + 5 * x1)) ((1 : Int) * 2 ^ (x2).toNat)))) (congrArg (fun z => ud (mChg (ud d 65 5 0)) 66 z (nOr (d 66 (671 + 5 * x1)) ((1 : Int) * 2 ^ (x2).toNat))) (by omega)) ?_
        refine mw_aload_n (v := vR 65) (pc' := 108) dX12_linkOccurrences_107 rfl rfl (Or.inl rfl) rfl ?_
        refine mw_getP (v := 66) (pc' := 111) dX12_linkOccurrences_108 rfl fr_RX12_9_65 rfl sp_65_0 ⟨by decide, by decide⟩ ?_
        refine mw_iload_n (pc' := 112) dX12_linkOccurrences_111 rfl rfl rfl ?_
        obtain ⟨o29, h⟩ := h
        obtain ⟨o30, h⟩ := h
        refine mw_callS (M' := mX12_occurrenceAt) (A := [vI x2]) (S := [vR 66]) (pc' := 115) dX12_linkOccurrences_112 rfl cl_RX12_188 cm_X12_occurrenceAt cs_X12_occurrenceAt ⟨by decide, by decide, by decide, by decide, by decide⟩ rfl rfl (Nat.le_of_ble_eq_true rfl) (eX12_occurrenceAt (⟨o29, o30, ?_⟩))
        show MW mX12_linkOccurrences 0 0 115 [(0, vR 65), (1, vI x1), (2, vI x2)] [vI (667 + (5 * x2)), vR 66] g (ud (mChg (ud d 65 5 0)) 66 (671 + 5 * x1) (nOr (d 66 (671 + 5 * x1)) ((1 : Int) * 2 ^ (x2).toNat))) Q
        refine mw_iconst (pc' := 116) dX12_linkOccurrences_115 rfl ⟨by decide, by decide⟩ ?_
        obtain ⟨o31, h⟩ := h
        refine mw_iadd (pc' := 117) dX12_linkOccurrences_116 rfl o31 ?_
        refine mw_dup2 (pc' := 118) dX12_linkOccurrences_117 rfl rfl rfl ?_
        obtain ⟨o32, h⟩ := h
        refine mw_iald (pc' := 119) dX12_linkOccurrences_118 rfl lk_66 ⟨by decide, by decide⟩ (by rw [ln_66]; exact o32) ?_
        refine mw_st (b := (ud (mChg (ud d 65 5 0)) 66 (671 + 5 * x1) (nOr (d 66 (671 + 5 * x1)) ((1 : Int) * 2 ^ (x2).toNat))) 66 (671 + 5 * x2)) (congrArg ((ud (mChg (ud d 65 5 0)) 66 (671 + 5 * x1) (nOr (d 66 (671 + 5 * x1)) ((1 : Int) * 2 ^ (x2).toNat))) 66) (by omega)) ?_
        refine mw_iconst (pc' := 120) dX12_linkOccurrences_119 rfl ⟨by decide, by decide⟩ ?_
        refine mw_iload_n (pc' := 121) dX12_linkOccurrences_120 rfl rfl rfl ?_
        obtain ⟨o33, h⟩ := h
        obtain ⟨o34, h⟩ := h
        refine mw_ishl (pc' := 122) dX12_linkOccurrences_121 rfl (by decide) o33 o34 ?_
        obtain ⟨o35, h⟩ := h
        obtain ⟨o36, h⟩ := h
        refine mw_ior (pc' := 123) dX12_linkOccurrences_122 rfl o35 o36 ?_
        refine mw_iast (pc' := 124) dX12_linkOccurrences_123 rfl lk_66 ⟨by decide, by decide⟩ (by rw [ln_66]; exact o32) ?_
        refine mw_dd (b := (ud (ud (mChg (ud d 65 5 0)) 66 (671 + 5 * x1) (nOr (d 66 (671 + 5 * x1)) ((1 : Int) * 2 ^ (x2).toNat))) 66 (671 + 5 * x2) (nOr ((ud (mChg (ud d 65 5 0)) 66 (671 + 5 * x1) (nOr (d 66 (671 + 5 * x1)) ((1 : Int) * 2 ^ (x2).toNat))) 66 (671 + 5 * x2)) ((1 : Int) * 2 ^ (x1).toNat)))) (congrArg (fun z => ud (ud (mChg (ud d 65 5 0)) 66 (671 + 5 * x1) (nOr (d 66 (671 + 5 * x1)) ((1 : Int) * 2 ^ (x2).toNat))) 66 z (nOr ((ud (mChg (ud d 65 5 0)) 66 (671 + 5 * x1) (nOr (d 66 (671 + 5 * x1)) ((1 : Int) * 2 ^ (x2).toNat))) 66 (671 + 5 * x2)) ((1 : Int) * 2 ^ (x1).toNat))) (by omega)) ?_
        refine mw_iconst (pc' := 125) dX12_linkOccurrences_124 rfl ⟨by decide, by decide⟩ ?_
        refine mw_istore_n (pc' := 126) (L' := [(0, vR 65), (1, vI x1), (2, vI x2), (3, vI 0)]) dX12_linkOccurrences_125 rfl rfl (by decide) rfl ?_
        refine mw_iconst (pc' := 127) dX12_linkOccurrences_126 rfl ⟨by decide, by decide⟩ ?_
        refine mw_istore (pc' := 129) (L' := [(0, vR 65), (1, vI x1), (2, vI x2), (3, vI 0), (4, vI 0)]) dX12_linkOccurrences_127 rfl (by decide) rfl ?_
        exact h
theorem aX12_linkOccurrences_1 {x1 x2 x3 x4 : Int} {g : mG} {d : mD} {Q : mQ} (h : ((d 66 5 ≤ x4) → Q (.inl x3) g d) ∧ ((¬ (d 66 5 ≤ x4)) → (RW (d 66)) ∧ ((0 ≤ x4 ∧ x4 < d 66 5) ∧ ((0 ≤ x4 ∧ x4 < 31) ∧ ((iI ((1 : Int) * 2 ^ (x4).toNat)) ∧ ((iI (((1 : Int) * 2 ^ (x4).toNat) - 1)) ∧ ((0 ≤ condF (d 66) x4) ∧ ((0 ≤ ((1 : Int) * 2 ^ (x4).toNat) - 1) ∧ ((iI (x3 + (bI (nAnd (condF (d 66) x4) (((1 : Int) * 2 ^ (x4).toNat) - 1) = 0)))) ∧ ((iI (x4 + 1)) ∧ (pX12_linkOccurrences_1 x1 x2 (x3 + (bI (nAnd (condF (d 66) x4) (((1 : Int) * 2 ^ (x4).toNat) - 1) = 0))) (x4 + 1) g d Q))))))))))) : pX12_linkOccurrences_1 x1 x2 x3 x4 g d Q := by
  unfold pX12_linkOccurrences_1
  refine mw_top (fun hT => ?_)
  have hG : 76 ≤ g.2.1 := hT.2
  refine mw_iload (pc' := 131) dX12_linkOccurrences_129 rfl rfl ?_
  refine mw_aload_n (v := vR 65) (pc' := 132) dX12_linkOccurrences_131 rfl rfl (Or.inl rfl) rfl ?_
  refine mw_getP (v := 66) (pc' := 135) dX12_linkOccurrences_132 rfl fr_RX12_9_65 rfl sp_65_0 ⟨by decide, by decide⟩ ?_
  refine mw_iconst (pc' := 136) dX12_linkOccurrences_135 rfl ⟨by decide, by decide⟩ ?_
  refine mw_iald (pc' := 137) dX12_linkOccurrences_136 rfl lk_66 ⟨by decide, by decide⟩ (by rw [ln_66]; exact ⟨by decide, by decide⟩) ?_
  refine mw_icmp_ge (tgt := 170) (pc' := 140) dX12_linkOccurrences_137 rfl (by decide) (fun c46 => ?_) (fun c46 => ?_)
  · replace h := h.1 c46
    refine mw_iload_n (pc' := 171) dX12_linkOccurrences_170 rfl rfl rfl ?_
    exact mw_iret (pc' := 0) (S := []) dX12_linkOccurrences_171 rfl (Or.inl rfl) h
  · replace h := h.2 c46
    refine mw_iload_n (pc' := 141) dX12_linkOccurrences_140 rfl rfl rfl ?_
    refine mw_aload_n (v := vR 65) (pc' := 142) dX12_linkOccurrences_141 rfl rfl (Or.inl rfl) rfl ?_
    refine mw_iload (pc' := 144) dX12_linkOccurrences_142 rfl rfl ?_
    obtain ⟨o47, h⟩ := h
    obtain ⟨o48, h⟩ := h
    refine mw_callV (M' := mX12_conduct) (A := [vI x4]) (A' := [vR 65, vI x4]) (S := [vI x3]) (a := 65) (pc' := 147) dX12_linkOccurrences_144 rfl cl_RX12_194 cm_X12_conduct cv_X12_conduct ⟨by decide, by decide, by decide, by decide, by decide⟩ rfl rfl rfl ⟨by decide, by omega⟩ (by decide +kernel) (by decide +kernel) (Nat.le_of_ble_eq_true rfl) (f_conduct (⟨o47, o48, ?_⟩))
    show MW mX12_linkOccurrences 0 0 147 [(0, vR 65), (1, vI x1), (2, vI x2), (3, vI x3), (4, vI x4)] [vI (condF (d 66) x4), vI x3] g d Q
    refine mw_iconst (pc' := 148) dX12_linkOccurrences_147 rfl ⟨by decide, by decide⟩ ?_
    refine mw_iload (pc' := 150) dX12_linkOccurrences_148 rfl rfl ?_
    obtain ⟨o49, h⟩ := h
    obtain ⟨o50, h⟩ := h
    refine mw_ishl (pc' := 151) dX12_linkOccurrences_150 rfl (by decide) o49 o50 ?_
    refine mw_iconst (pc' := 152) dX12_linkOccurrences_151 rfl ⟨by decide, by decide⟩ ?_
    obtain ⟨o51, h⟩ := h
    refine mw_isub (pc' := 153) dX12_linkOccurrences_152 rfl o51 ?_
    obtain ⟨o52, h⟩ := h
    obtain ⟨o53, h⟩ := h
    refine mw_iand (pc' := 154) dX12_linkOccurrences_153 rfl o52 o53 ?_
    suffices k54 : MW mX12_linkOccurrences 0 0 162 [(0, vR 65), (1, vI x1), (2, vI x2), (3, vI x3), (4, vI x4)] [vI (bI (nAnd (condF (d 66) x4) (((1 : Int) * 2 ^ (x4).toNat) - 1) = 0)), vI x3] g d Q by
      refine mw_if_ne (tgt := 161) (pc' := 157) dX12_linkOccurrences_154 rfl (by decide) (fun c55 => ?_) (fun c55 => ?_)
      · refine mw_iconst (pc' := 162) dX12_linkOccurrences_161 rfl ⟨by decide, by decide⟩ ?_
        exact mw_st (bI_f (fun h => (c55 h))).symm k54
      · refine mw_iconst (pc' := 158) dX12_linkOccurrences_157 rfl ⟨by decide, by decide⟩ ?_
        refine mw_goto (pc' := 0) (tgt := 162) dX12_linkOccurrences_158 (by decide) ?_
        exact mw_st (bI_t c55).symm k54
    obtain ⟨o56, h⟩ := h
    refine mw_iadd (pc' := 163) dX12_linkOccurrences_162 rfl o56 ?_
    refine mw_istore_n (pc' := 164) (L' := [(0, vR 65), (1, vI x1), (2, vI x2), (3, vI (x3 + (bI (nAnd (condF (d 66) x4) (((1 : Int) * 2 ^ (x4).toNat) - 1) = 0)))), (4, vI x4)]) dX12_linkOccurrences_163 rfl rfl (by decide) rfl ?_
    obtain ⟨o57, h⟩ := h
    refine mw_iinc (pc' := 167) (L' := [(0, vR 65), (1, vI x1), (2, vI x2), (3, vI (x3 + (bI (nAnd (condF (d 66) x4) (((1 : Int) * 2 ^ (x4).toNat) - 1) = 0)))), (4, vI (x4 + 1))]) dX12_linkOccurrences_164 rfl rfl (by decide) o57 rfl ?_
    refine mw_goto (pc' := 0) (tgt := 129) dX12_linkOccurrences_167 (by decide) ?_
    exact h
theorem eX12_sameConduct {x1 x2 : Int} {g : mG} {d : mD} {Q : mQ} (h : (iI ((d 66 5) - 1)) ∧ (((((¬ ((¬ (x1 < 0)) ∧ (¬ (((d 66 5) - 1) < x1)))) ∨ (¬ ((¬ (x2 < 0)) ∧ (¬ (((d 66 5) - 1) < x2)))))) → Q (.inl 0) g (ud (ud d 65 5 0) 65 5 1)) ∧ ((¬ ((¬ ((¬ (x1 < 0)) ∧ (¬ (((d 66 5) - 1) < x1)))) ∨ (¬ ((¬ (x2 < 0)) ∧ (¬ (((d 66 5) - 1) < x2)))))) → (RW (d 66)) ∧ ((0 ≤ x1 ∧ x1 < d 66 5) ∧ ((0 ≤ condF (d 66) x1) ∧ ((0 ≤ x2 ∧ x2 < 32) ∧ (Q (.inl (bI (((condF (d 66) x1) / 2 ^ (x2).toNat) % 2 = 1))) g (ud d 65 5 0)))))))) : MM mX12_sameConduct [vR 65, vI x1, vI x2] g d Q := by
  refine MM_of (by decide) rfl (by simp [catV]) (Nat.le_of_ble_eq_true rfl) ?_
  show MW mX12_sameConduct 0 0 0 [(0, vR 65), (1, vI x1), (2, vI x2)] [] g d Q
  refine mw_top (fun hT => ?_)
  have hG : 76 ≤ g.2.1 := hT.2
  refine mw_aload_n (v := vR 65) (pc' := 1) dX12_sameConduct_0 rfl rfl (Or.inl rfl) rfl ?_
  refine mw_iconst (pc' := 2) dX12_sameConduct_1 rfl ⟨by decide, by decide⟩ ?_
  refine mw_putI (ji := 5) (pc' := 5) dX12_sameConduct_2 rfl (fq_RX12_41_65) (by decide +kernel) rfl (Or.inl ⟨rfl, rc_65_5⟩) (Or.inr rfl) ⟨by decide, by omega⟩ ?_
  refine mw_aload_n (v := vR 65) (pc' := 6) dX12_sameConduct_5 rfl rfl (Or.inl rfl) rfl ?_
  refine mw_aload_n (v := vR 65) (pc' := 7) dX12_sameConduct_6 rfl rfl (Or.inl rfl) rfl ?_
  refine mw_iload_n (pc' := 8) dX12_sameConduct_7 rfl rfl rfl ?_
  obtain ⟨o1, h⟩ := h
  refine mw_callV (M' := mX12_noOccurrence) (A := [vI x1]) (A' := [vR 65, vI x1]) (S := [vR 65]) (a := 65) (pc' := 11) dX12_sameConduct_8 rfl cl_RX12_191 cm_X12_noOccurrence cv_X12_noOccurrence ⟨by decide, by decide, by decide, by decide, by decide⟩ rfl rfl rfl ⟨by decide, by omega⟩ (by decide +kernel) (by decide +kernel) (Nat.le_of_ble_eq_true rfl) (eX12_noOccurrence (⟨o1, ?_⟩))
  show MW mX12_sameConduct 0 0 11 [(0, vR 65), (1, vI x1), (2, vI x2)] [vI (bI (¬ ((¬ (x1 < 0)) ∧ (¬ (((d 66 5) - 1) < x1))))), vR 65] g (ud d 65 5 0) Q
  suffices k3 : MW mX12_sameConduct 0 0 27 [(0, vR 65), (1, vI x1), (2, vI x2)] [vI (bI ((¬ ((¬ (x1 < 0)) ∧ (¬ (((d 66 5) - 1) < x1)))) ∨ (¬ ((¬ (x2 < 0)) ∧ (¬ (((d 66 5) - 1) < x2)))))), vR 65] g (ud d 65 5 0) Q by
    refine mw_if_ne (tgt := 22) (pc' := 14) dX12_sameConduct_11 rfl (by decide) (fun c4 => ?_) (fun c4 => ?_)
    · replace c4 := bI_n0.mp c4
      refine mw_iconst (pc' := 23) dX12_sameConduct_22 rfl ⟨by decide, by decide⟩ ?_
      refine mw_goto (pc' := 0) (tgt := 27) dX12_sameConduct_23 (by decide) ?_
      exact mw_st (bI_t (Or.inl c4)).symm k3
    · replace c4 := bI_0.mp c4
      replace c4 := (Classical.not_not.mp c4)
      refine mw_aload_n (v := vR 65) (pc' := 15) dX12_sameConduct_14 rfl rfl (Or.inl rfl) rfl ?_
      refine mw_iload_n (pc' := 16) dX12_sameConduct_15 rfl rfl rfl ?_
      refine mw_callV (M' := mX12_noOccurrence) (A := [vI x2]) (A' := [vR 65, vI x2]) (S := [vR 65]) (a := 65) (pc' := 19) dX12_sameConduct_16 rfl cl_RX12_191 cm_X12_noOccurrence cv_X12_noOccurrence ⟨by decide, by decide, by decide, by decide, by decide⟩ rfl rfl rfl ⟨by decide, by omega⟩ (by decide +kernel) (by decide +kernel) (Nat.le_of_ble_eq_true rfl) (eX12_noOccurrence (⟨o1, ?_⟩))
      show MW mX12_sameConduct 0 0 19 [(0, vR 65), (1, vI x1), (2, vI x2)] [vI (bI (¬ ((¬ (x2 < 0)) ∧ (¬ (((d 66 5) - 1) < x2))))), vR 65] g (ud d 65 5 0) Q
      refine mw_if_eq (tgt := 26) (pc' := 22) dX12_sameConduct_19 rfl (by decide) (fun c5 => ?_) (fun c5 => ?_)
      · replace c5 := bI_0.mp c5
        replace c5 := (Classical.not_not.mp c5)
        refine mw_iconst (pc' := 27) dX12_sameConduct_26 rfl ⟨by decide, by decide⟩ ?_
        exact mw_st (bI_f (fun h => h.elim (fun q => (q c4)) (fun h => (h c5)))).symm k3
      · replace c5 := bI_n0.mp c5
        refine mw_iconst (pc' := 23) dX12_sameConduct_22 rfl ⟨by decide, by decide⟩ ?_
        refine mw_goto (pc' := 0) (tgt := 27) dX12_sameConduct_23 (by decide) ?_
        exact mw_st (bI_t (Or.inr c5)).symm k3
  refine mw_iconst (pc' := 28) dX12_sameConduct_27 rfl ⟨by decide, by decide⟩ ?_
  refine mw_callV (M' := mX12_fails) (A := [vI (bI ((¬ ((¬ (x1 < 0)) ∧ (¬ (((d 66 5) - 1) < x1)))) ∨ (¬ ((¬ (x2 < 0)) ∧ (¬ (((d 66 5) - 1) < x2)))))), vI 1]) (A' := [vR 65, vI (bI ((¬ ((¬ (x1 < 0)) ∧ (¬ (((d 66 5) - 1) < x1)))) ∨ (¬ ((¬ (x2 < 0)) ∧ (¬ (((d 66 5) - 1) < x2)))))), vI 1]) (S := []) (a := 65) (pc' := 31) dX12_sameConduct_28 rfl cl_RX12_55 cm_X12_fails cv_X12_fails ⟨by decide, by decide, by decide, by decide, by decide⟩ rfl rfl rfl ⟨by decide, by omega⟩ (by decide +kernel) (by decide +kernel) (Nat.le_of_ble_eq_true rfl) (f_fails (udS) (by decide) ?_)
  refine ⟨fun c6 => ?_, fun c6 => ?_⟩
  · replace h := h.1 (show ((¬ ((¬ (x1 < 0)) ∧ (¬ (((d 66 5) - 1) < x1)))) ∨ (¬ ((¬ (x2 < 0)) ∧ (¬ (((d 66 5) - 1) < x2))))) from c6)
    show MW mX12_sameConduct 0 0 31 [(0, vR 65), (1, vI x1), (2, vI x2)] [vI 1] g (ud (ud d 65 5 0) 65 5 1) Q
    refine mw_if_ne (tgt := 51) (pc' := 34) dX12_sameConduct_31 rfl (by decide) (fun _ => ?_) (fun q => absurd q (by decide))
    refine mw_iconst (pc' := 52) dX12_sameConduct_51 rfl ⟨by decide, by decide⟩ ?_
    exact mw_iret (pc' := 0) (S := []) dX12_sameConduct_52 rfl (Or.inr (Or.inl ⟨rfl, by decide, by decide⟩)) h
  · replace h := h.2 (show ¬ ((¬ ((¬ (x1 < 0)) ∧ (¬ (((d 66 5) - 1) < x1)))) ∨ (¬ ((¬ (x2 < 0)) ∧ (¬ (((d 66 5) - 1) < x2))))) from c6)
    show MW mX12_sameConduct 0 0 31 [(0, vR 65), (1, vI x1), (2, vI x2)] [vI 0] g (ud d 65 5 0) Q
    refine mw_if_ne (tgt := 51) (pc' := 34) dX12_sameConduct_31 rfl (by decide) (fun q => absurd q (by decide)) (fun _ => ?_)
    refine mw_aload_n (v := vR 65) (pc' := 35) dX12_sameConduct_34 rfl rfl (Or.inl rfl) rfl ?_
    refine mw_iload_n (pc' := 36) dX12_sameConduct_35 rfl rfl rfl ?_
    obtain ⟨o7, h⟩ := h
    obtain ⟨o8, h⟩ := h
    refine mw_callV (M' := mX12_conduct) (A := [vI x1]) (A' := [vR 65, vI x1]) (S := []) (a := 65) (pc' := 39) dX12_sameConduct_36 rfl cl_RX12_194 cm_X12_conduct cv_X12_conduct ⟨by decide, by decide, by decide, by decide, by decide⟩ rfl rfl rfl ⟨by decide, by omega⟩ (by decide +kernel) (by decide +kernel) (Nat.le_of_ble_eq_true rfl) (f_conduct (⟨o7, o8, ?_⟩))
    show MW mX12_sameConduct 0 0 39 [(0, vR 65), (1, vI x1), (2, vI x2)] [vI (condF (d 66) x1)] g (ud d 65 5 0) Q
    refine mw_iload_n (pc' := 40) dX12_sameConduct_39 rfl rfl rfl ?_
    obtain ⟨o9, h⟩ := h
    obtain ⟨o10, h⟩ := h
    refine mw_ishr (pc' := 41) dX12_sameConduct_40 rfl o9 o10 ?_
    refine mw_iconst (pc' := 42) dX12_sameConduct_41 rfl ⟨by decide, by decide⟩ ?_
    refine mw_imask (n := 2) (n1 := 2) (k := 1) (pc' := 43) dX12_sameConduct_42 rfl (by decide) (by decide) (by decide) (by decide) ?_
    refine mw_iconst (pc' := 44) dX12_sameConduct_43 rfl ⟨by decide, by decide⟩ ?_
    suffices k11 : MW mX12_sameConduct 0 0 52 [(0, vR 65), (1, vI x1), (2, vI x2)] [vI (bI (((condF (d 66) x1) / 2 ^ (x2).toNat) % 2 = 1))] g (ud d 65 5 0) Q by
      refine mw_icmp_ne (tgt := 51) (pc' := 47) dX12_sameConduct_44 rfl (by decide) (fun c12 => ?_) (fun c12 => ?_)
      · refine mw_iconst (pc' := 52) dX12_sameConduct_51 rfl ⟨by decide, by decide⟩ ?_
        exact mw_st (bI_f (fun h => (c12 h))).symm k11
      · refine mw_iconst (pc' := 48) dX12_sameConduct_47 rfl ⟨by decide, by decide⟩ ?_
        refine mw_goto (pc' := 0) (tgt := 52) dX12_sameConduct_48 (by decide) ?_
        exact mw_st (bI_t c12).symm k11
    exact mw_iret (pc' := 0) (S := []) dX12_sameConduct_52 rfl (Or.inr (Or.inl ⟨rfl, bI_rng⟩)) h
theorem eX12_sameConductBySearch {x1 x2 : Int} {g : mG} {d : mD} {Q : mQ} (h : (iI ((d 66 5) - 1)) ∧ (((((¬ ((¬ (x1 < 0)) ∧ (¬ (((d 66 5) - 1) < x1)))) ∨ (¬ ((¬ (x2 < 0)) ∧ (¬ (((d 66 5) - 1) < x2)))))) → Q (.inl 0) g (ud (ud d 65 5 0) 65 5 1)) ∧ ((¬ ((¬ ((¬ (x1 < 0)) ∧ (¬ (((d 66 5) - 1) < x1)))) ∨ (¬ ((¬ (x2 < 0)) ∧ (¬ (((d 66 5) - 1) < x2)))))) → (RW (d 66)) ∧ ((0 ≤ x1 ∧ x1 < d 66 5) ∧ ((0 ≤ condF (d 66) x1) ∧ ((0 ≤ x2 ∧ x2 < 32) ∧ (Q (.inl (bI (((condF (d 66) x1) / 2 ^ (x2).toNat) % 2 = 1))) g (ud d 65 5 0)))))))) : MM mX12_sameConductBySearch [vR 65, vI x1, vI x2] g d Q := by
  refine MM_of (by decide) rfl (by simp [catV]) (Nat.le_of_ble_eq_true rfl) ?_
  show MW mX12_sameConductBySearch 0 0 0 [(0, vR 65), (1, vI x1), (2, vI x2)] [] g d Q
  refine mw_top (fun hT => ?_)
  have hG : 76 ≤ g.2.1 := hT.2
  refine mw_aload_n (v := vR 65) (pc' := 1) dX12_sameConductBySearch_0 rfl rfl (Or.inl rfl) rfl ?_
  refine mw_iload_n (pc' := 2) dX12_sameConductBySearch_1 rfl rfl rfl ?_
  refine mw_iload_n (pc' := 3) dX12_sameConductBySearch_2 rfl rfl rfl ?_
  refine mw_callV (M' := mX12_sameConduct) (A := [vI x1, vI x2]) (A' := [vR 65, vI x1, vI x2]) (S := []) (a := 65) (pc' := 6) dX12_sameConductBySearch_3 rfl cl_RX12_197 cm_X12_sameConduct cv_X12_sameConduct ⟨by decide, by decide, by decide, by decide, by decide⟩ rfl rfl rfl ⟨by decide, by omega⟩ (by decide +kernel) (by decide +kernel) (Nat.le_of_ble_eq_true rfl) (eX12_sameConduct ?_)
  obtain ⟨o1, h⟩ := h
  refine ⟨o1, ?_⟩
  refine ⟨fun c2 => ?_, fun c2 => ?_⟩
  · replace h := h.1 (show ((¬ ((¬ (x1 < 0)) ∧ (¬ (((d 66 5) - 1) < x1)))) ∨ (¬ ((¬ (x2 < 0)) ∧ (¬ (((d 66 5) - 1) < x2))))) from c2)
    show MW mX12_sameConductBySearch 0 0 6 [(0, vR 65), (1, vI x1), (2, vI x2)] [vI 0] g (ud (ud d 65 5 0) 65 5 1) Q
    exact mw_iret (pc' := 0) (S := []) dX12_sameConductBySearch_6 rfl (Or.inr (Or.inl ⟨rfl, by decide, by decide⟩)) h
  · replace h := h.2 (show ¬ ((¬ ((¬ (x1 < 0)) ∧ (¬ (((d 66 5) - 1) < x1)))) ∨ (¬ ((¬ (x2 < 0)) ∧ (¬ (((d 66 5) - 1) < x2))))) from c2)
    obtain ⟨o3, h⟩ := h
    refine ⟨o3, ?_⟩
    obtain ⟨o4, h⟩ := h
    refine ⟨o4, ?_⟩
    obtain ⟨o5, h⟩ := h
    refine ⟨o5, ?_⟩
    obtain ⟨o6, h⟩ := h
    refine ⟨o6, ?_⟩
    show MW mX12_sameConductBySearch 0 0 6 [(0, vR 65), (1, vI x1), (2, vI x2)] [vI (bI (((condF (d 66) x1) / 2 ^ (x2).toNat) % 2 = 1))] g (ud d 65 5 0) Q
    exact mw_iret (pc' := 0) (S := []) dX12_sameConductBySearch_6 rfl (Or.inr (Or.inl ⟨rfl, bI_rng⟩)) h
theorem eX12_barDay {x1 : Int} {g : mG} {d : mD} {Q : mQ} (h : (iI ((d 66 5) - 1)) ∧ ((((¬ ((¬ (x1 < 0)) ∧ (¬ (((d 66 5) - 1) < x1))))) → Q (.inl 0) g (ud (ud d 65 5 0) 65 5 1)) ∧ (((¬ (x1 < 0)) ∧ (¬ (((d 66 5) - 1) < x1))) → (iI (5 * x1)) ∧ ((iI (667 + (5 * x1))) ∧ ((iI ((667 + (5 * x1)) + 1)) ∧ ((0 ≤ (667 + (5 * x1)) + 1 ∧ (667 + (5 * x1)) + 1 < 787) ∧ ((0 ≤ 667 + (5 * x1) ∧ 667 + (5 * x1) < 787) ∧ ((iI ((667 + (5 * x1)) + 2)) ∧ ((0 ≤ (667 + (5 * x1)) + 2 ∧ (667 + (5 * x1)) + 2 < 787) ∧ ((iI ((667 + (5 * x1)) + 3)) ∧ ((0 ≤ (667 + (5 * x1)) + 3 ∧ (667 + (5 * x1)) + 3 < 787) ∧ ((RW (d 66)) ∧ ((0 ≤ (d 66 (668 + 5 * x1)) ∧ (d 66 (668 + 5 * x1)) < 8) ∧ ((0 ≤ (d 66 (667 + 5 * x1)) ∧ (d 66 (667 + 5 * x1)) ≤ 4999) ∧ ((1 ≤ (d 66 (669 + 5 * x1)) ∧ (d 66 (669 + 5 * x1)) ≤ 200) ∧ ((((endM (d 66) (-1) (d 66 (668 + 5 * x1)) (d 66 (667 + 5 * x1)) (d 66 (669 + 5 * x1)) (bI (d 66 (670 + 5 * x1) = 1)) = (-1))) → Q (.inl 0) g (ud (ud d 65 5 0) 65 5 2)) ∧ ((¬ (endM (d 66) (-1) (d 66 (668 + 5 * x1)) (d 66 (667 + 5 * x1)) (d 66 (669 + 5 * x1)) (bI (d 66 (670 + 5 * x1) = 1)) = (-1))) → Q (.inl (endM (d 66) (-1) (d 66 (668 + 5 * x1)) (d 66 (667 + 5 * x1)) (d 66 (669 + 5 * x1)) (bI (d 66 (670 + 5 * x1) = 1)))) g (ud d 65 5 0)))))))))))))))))) : MM mX12_barDay [vR 65, vI x1] g d Q := by
  refine MM_of (by decide) rfl (by simp [catV]) (Nat.le_of_ble_eq_true rfl) ?_
  show MW mX12_barDay 0 0 0 [(0, vR 65), (1, vI x1)] [] g d Q
  refine mw_top (fun hT => ?_)
  have hG : 76 ≤ g.2.1 := hT.2
  refine mw_aload_n (v := vR 65) (pc' := 1) dX12_barDay_0 rfl rfl (Or.inl rfl) rfl ?_
  refine mw_iconst (pc' := 2) dX12_barDay_1 rfl ⟨by decide, by decide⟩ ?_
  refine mw_putI (ji := 5) (pc' := 5) dX12_barDay_2 rfl (fq_RX12_41_65) (by decide +kernel) rfl (Or.inl ⟨rfl, rc_65_5⟩) (Or.inr rfl) ⟨by decide, by omega⟩ ?_
  refine mw_aload_n (v := vR 65) (pc' := 6) dX12_barDay_5 rfl rfl (Or.inl rfl) rfl ?_
  refine mw_aload_n (v := vR 65) (pc' := 7) dX12_barDay_6 rfl rfl (Or.inl rfl) rfl ?_
  refine mw_iload_n (pc' := 8) dX12_barDay_7 rfl rfl rfl ?_
  obtain ⟨o1, h⟩ := h
  refine mw_callV (M' := mX12_noOccurrence) (A := [vI x1]) (A' := [vR 65, vI x1]) (S := [vR 65]) (a := 65) (pc' := 11) dX12_barDay_8 rfl cl_RX12_191 cm_X12_noOccurrence cv_X12_noOccurrence ⟨by decide, by decide, by decide, by decide, by decide⟩ rfl rfl rfl ⟨by decide, by omega⟩ (by decide +kernel) (by decide +kernel) (Nat.le_of_ble_eq_true rfl) (eX12_noOccurrence (⟨o1, ?_⟩))
  show MW mX12_barDay 0 0 11 [(0, vR 65), (1, vI x1)] [vI (bI (¬ ((¬ (x1 < 0)) ∧ (¬ (((d 66 5) - 1) < x1))))), vR 65] g (ud d 65 5 0) Q
  refine mw_iconst (pc' := 12) dX12_barDay_11 rfl ⟨by decide, by decide⟩ ?_
  refine mw_callV (M' := mX12_fails) (A := [vI (bI (¬ ((¬ (x1 < 0)) ∧ (¬ (((d 66 5) - 1) < x1))))), vI 1]) (A' := [vR 65, vI (bI (¬ ((¬ (x1 < 0)) ∧ (¬ (((d 66 5) - 1) < x1))))), vI 1]) (S := []) (a := 65) (pc' := 15) dX12_barDay_12 rfl cl_RX12_55 cm_X12_fails cv_X12_fails ⟨by decide, by decide, by decide, by decide, by decide⟩ rfl rfl rfl ⟨by decide, by omega⟩ (by decide +kernel) (by decide +kernel) (Nat.le_of_ble_eq_true rfl) (f_fails (udS) (by decide) ?_)
  refine ⟨fun c2 => ?_, fun c2 => ?_⟩
  · replace h := h.1 (show (¬ ((¬ (x1 < 0)) ∧ (¬ (((d 66 5) - 1) < x1)))) from c2)
    show MW mX12_barDay 0 0 15 [(0, vR 65), (1, vI x1)] [vI 1] g (ud (ud d 65 5 0) 65 5 1) Q
    refine mw_if_eq (tgt := 20) (pc' := 18) dX12_barDay_15 rfl (by decide) (fun q => absurd q (by decide)) (fun _ => ?_)
    refine mw_iconst (pc' := 19) dX12_barDay_18 rfl ⟨by decide, by decide⟩ ?_
    exact mw_iret (pc' := 0) (S := []) dX12_barDay_19 rfl (Or.inl rfl) h
  · replace h := h.2 (show (¬ (x1 < 0)) ∧ (¬ (((d 66 5) - 1) < x1)) from (Classical.not_not.mp c2))
    show MW mX12_barDay 0 0 15 [(0, vR 65), (1, vI x1)] [vI 0] g (ud d 65 5 0) Q
    refine mw_if_eq (tgt := 20) (pc' := 18) dX12_barDay_15 rfl (by decide) (fun _ => ?_) (fun q => absurd q (by decide))
    refine mw_aload_n (v := vR 65) (pc' := 21) dX12_barDay_20 rfl rfl (Or.inl rfl) rfl ?_
    refine mw_iload_n (pc' := 22) dX12_barDay_21 rfl rfl rfl ?_
    obtain ⟨o3, h⟩ := h
    obtain ⟨o4, h⟩ := h
    obtain ⟨o5, h⟩ := h
    obtain ⟨o6, h⟩ := h
    obtain ⟨o7, h⟩ := h
    obtain ⟨o8, h⟩ := h
    obtain ⟨o9, h⟩ := h
    obtain ⟨o10, h⟩ := h
    obtain ⟨o11, h⟩ := h
    obtain ⟨o12, h⟩ := h
    obtain ⟨o13, h⟩ := h
    obtain ⟨o14, h⟩ := h
    obtain ⟨o15, h⟩ := h
    refine mw_callV (M' := mX12_barOf) (A := [vI x1]) (A' := [vR 65, vI x1]) (S := []) (a := 65) (pc' := 25) dX12_barDay_22 rfl cl_RX12_200 cm_X12_barOf cv_X12_barOf ⟨by decide, by decide, by decide, by decide, by decide⟩ rfl rfl rfl ⟨by decide, by omega⟩ (by decide +kernel) (by decide +kernel) (Nat.le_of_ble_eq_true rfl) (eX12_barOf (⟨o3, o4, o5, o6, o7, o8, o9, o10, o11, o12, o13, o14, o15, ?_⟩))
    show MW mX12_barDay 0 0 25 [(0, vR 65), (1, vI x1)] [vI (endM (d 66) (-1) (d 66 (668 + 5 * x1)) (d 66 (667 + 5 * x1)) (d 66 (669 + 5 * x1)) (bI (d 66 (670 + 5 * x1) = 1)))] g (ud d 65 5 0) Q
    refine mw_istore_n (pc' := 26) (L' := [(0, vR 65), (1, vI x1), (2, vI (endM (d 66) (-1) (d 66 (668 + 5 * x1)) (d 66 (667 + 5 * x1)) (d 66 (669 + 5 * x1)) (bI (d 66 (670 + 5 * x1) = 1))))]) dX12_barDay_25 rfl rfl (by decide) rfl ?_
    refine mw_aload_n (v := vR 65) (pc' := 27) dX12_barDay_26 rfl rfl (Or.inl rfl) rfl ?_
    refine mw_iload_n (pc' := 28) dX12_barDay_27 rfl rfl rfl ?_
    refine mw_iconst (pc' := 29) dX12_barDay_28 rfl ⟨by decide, by decide⟩ ?_
    suffices k16 : MW mX12_barDay 0 0 37 [(0, vR 65), (1, vI x1), (2, vI (endM (d 66) (-1) (d 66 (668 + 5 * x1)) (d 66 (667 + 5 * x1)) (d 66 (669 + 5 * x1)) (bI (d 66 (670 + 5 * x1) = 1))))] [vI (bI (endM (d 66) (-1) (d 66 (668 + 5 * x1)) (d 66 (667 + 5 * x1)) (d 66 (669 + 5 * x1)) (bI (d 66 (670 + 5 * x1) = 1)) = (-1))), vR 65] g (ud d 65 5 0) Q by
      refine mw_icmp_ne (tgt := 36) (pc' := 32) dX12_barDay_29 rfl (by decide) (fun c17 => ?_) (fun c17 => ?_)
      · refine mw_iconst (pc' := 37) dX12_barDay_36 rfl ⟨by decide, by decide⟩ ?_
        exact mw_st (bI_f (fun h => (c17 h))).symm k16
      · refine mw_iconst (pc' := 33) dX12_barDay_32 rfl ⟨by decide, by decide⟩ ?_
        refine mw_goto (pc' := 0) (tgt := 37) dX12_barDay_33 (by decide) ?_
        exact mw_st (bI_t c17).symm k16
    refine mw_iconst (pc' := 38) dX12_barDay_37 rfl ⟨by decide, by decide⟩ ?_
    refine mw_callV (M' := mX12_fails) (A := [vI (bI (endM (d 66) (-1) (d 66 (668 + 5 * x1)) (d 66 (667 + 5 * x1)) (d 66 (669 + 5 * x1)) (bI (d 66 (670 + 5 * x1) = 1)) = (-1))), vI 2]) (A' := [vR 65, vI (bI (endM (d 66) (-1) (d 66 (668 + 5 * x1)) (d 66 (667 + 5 * x1)) (d 66 (669 + 5 * x1)) (bI (d 66 (670 + 5 * x1) = 1)) = (-1))), vI 2]) (S := []) (a := 65) (pc' := 41) dX12_barDay_38 rfl cl_RX12_55 cm_X12_fails cv_X12_fails ⟨by decide, by decide, by decide, by decide, by decide⟩ rfl rfl rfl ⟨by decide, by omega⟩ (by decide +kernel) (by decide +kernel) (Nat.le_of_ble_eq_true rfl) (f_fails (udS) (by decide) ?_)
    refine ⟨fun c18 => ?_, fun c18 => ?_⟩
    · replace h := h.1 (show (endM (d 66) (-1) (d 66 (668 + 5 * x1)) (d 66 (667 + 5 * x1)) (d 66 (669 + 5 * x1)) (bI (d 66 (670 + 5 * x1) = 1)) = (-1)) from c18)
      show MW mX12_barDay 0 0 41 [(0, vR 65), (1, vI x1), (2, vI (endM (d 66) (-1) (d 66 (668 + 5 * x1)) (d 66 (667 + 5 * x1)) (d 66 (669 + 5 * x1)) (bI (d 66 (670 + 5 * x1) = 1))))] [vI 1] g (ud (ud d 65 5 0) 65 5 2) Q
      refine mw_if_eq (tgt := 48) (pc' := 44) dX12_barDay_41 rfl (by decide) (fun q => absurd q (by decide)) (fun _ => ?_)
      refine mw_iconst (pc' := 45) dX12_barDay_44 rfl ⟨by decide, by decide⟩ ?_
      refine mw_goto (pc' := 0) (tgt := 49) dX12_barDay_45 (by decide) ?_
      exact mw_iret (pc' := 0) (S := []) dX12_barDay_49 rfl (Or.inl rfl) h
    · replace h := h.2 (show ¬ (endM (d 66) (-1) (d 66 (668 + 5 * x1)) (d 66 (667 + 5 * x1)) (d 66 (669 + 5 * x1)) (bI (d 66 (670 + 5 * x1) = 1)) = (-1)) from c18)
      show MW mX12_barDay 0 0 41 [(0, vR 65), (1, vI x1), (2, vI (endM (d 66) (-1) (d 66 (668 + 5 * x1)) (d 66 (667 + 5 * x1)) (d 66 (669 + 5 * x1)) (bI (d 66 (670 + 5 * x1) = 1))))] [vI 0] g (ud d 65 5 0) Q
      refine mw_if_eq (tgt := 48) (pc' := 44) dX12_barDay_41 rfl (by decide) (fun _ => ?_) (fun q => absurd q (by decide))
      refine mw_iload_n (pc' := 49) dX12_barDay_48 rfl rfl rfl ?_
      exact mw_iret (pc' := 0) (S := []) dX12_barDay_49 rfl (Or.inl rfl) h
theorem eX12_fileClaim {x1 x2 : Int} {g : mG} {d : mD} {Q : mQ} (h : (iI ((d 66 1) - 1)) ∧ ((((¬ (x1 < 0)) ∧ (¬ (((d 66 1) - 1) < x1))) → iI ((d 66 5) - 1)) ∧ (((((¬ ((¬ (x1 < 0)) ∧ (¬ (((d 66 1) - 1) < x1)))) ∨ (¬ ((¬ (x2 < 0)) ∧ (¬ (((d 66 5) - 1) < x2)))))) → Q (.inl 0) g (ud (ud d 65 5 0) 65 5 1)) ∧ ((¬ ((¬ ((¬ (x1 < 0)) ∧ (¬ (((d 66 1) - 1) < x1)))) ∨ (¬ ((¬ (x2 < 0)) ∧ (¬ (((d 66 5) - 1) < x2)))))) → (((d 66 6 = 20)) → Q (.inl 0) g (ud (ud d 65 5 0) 65 5 2)) ∧ ((¬ (d 66 6 = 20)) → (0 ≤ d 65 3 ∧ d 65 3 ≤ 8) ∧ ((RW ((mChg (ud d 65 5 0)) 66)) ∧ ((((mChg (ud d 65 5 0)) 66 6) < 20) ∧ (Q (.inl ((mChg (ud d 65 5 0)) 66 6)) g (ud (ud (ud (ud (ud (mChg (ud d 65 5 0)) 66 (707 + 4 * (((mChg (ud d 65 5 0)) 66 6))) x1) 66 (708 + 4 * (((mChg (ud d 65 5 0)) 66 6))) x2) 66 (709 + 4 * (((mChg (ud d 65 5 0)) 66 6))) ((mChg (ud d 65 5 0)) 66 0)) 66 (710 + 4 * (((mChg (ud d 65 5 0)) 66 6))) (-1)) 66 6 ((((mChg (ud d 65 5 0)) 66 6)) + 1)))))))))) : MM mX12_fileClaim [vR 65, vI x1, vI x2] g d Q := by
  refine MM_of (by decide) rfl (by simp [catV]) (Nat.le_of_ble_eq_true rfl) ?_
  show MW mX12_fileClaim 0 0 0 [(0, vR 65), (1, vI x1), (2, vI x2)] [] g d Q
  refine mw_top (fun hT => ?_)
  have hG : 76 ≤ g.2.1 := hT.2
  refine mw_aload_n (v := vR 65) (pc' := 1) dX12_fileClaim_0 rfl rfl (Or.inl rfl) rfl ?_
  refine mw_iconst (pc' := 2) dX12_fileClaim_1 rfl ⟨by decide, by decide⟩ ?_
  refine mw_putI (ji := 5) (pc' := 5) dX12_fileClaim_2 rfl (fq_RX12_41_65) (by decide +kernel) rfl (Or.inl ⟨rfl, rc_65_5⟩) (Or.inr rfl) ⟨by decide, by omega⟩ ?_
  refine mw_aload_n (v := vR 65) (pc' := 6) dX12_fileClaim_5 rfl rfl (Or.inl rfl) rfl ?_
  refine mw_aload_n (v := vR 65) (pc' := 7) dX12_fileClaim_6 rfl rfl (Or.inl rfl) rfl ?_
  refine mw_iload_n (pc' := 8) dX12_fileClaim_7 rfl rfl rfl ?_
  obtain ⟨o1, h⟩ := h
  refine mw_callV (M' := mX12_noParty) (A := [vI x1]) (A' := [vR 65, vI x1]) (S := [vR 65]) (a := 65) (pc' := 11) dX12_fileClaim_8 rfl cl_RX12_96 cm_X12_noParty cv_X12_noParty ⟨by decide, by decide, by decide, by decide, by decide⟩ rfl rfl rfl ⟨by decide, by omega⟩ (by decide +kernel) (by decide +kernel) (Nat.le_of_ble_eq_true rfl) (eX12_noParty (⟨o1, ?_⟩))
  show MW mX12_fileClaim 0 0 11 [(0, vR 65), (1, vI x1), (2, vI x2)] [vI (bI (¬ ((¬ (x1 < 0)) ∧ (¬ (((d 66 1) - 1) < x1))))), vR 65] g (ud d 65 5 0) Q
  obtain ⟨o2, h⟩ := h
  suffices k3 : MW mX12_fileClaim 0 0 27 [(0, vR 65), (1, vI x1), (2, vI x2)] [vI (bI ((¬ ((¬ (x1 < 0)) ∧ (¬ (((d 66 1) - 1) < x1)))) ∨ (¬ ((¬ (x2 < 0)) ∧ (¬ (((d 66 5) - 1) < x2)))))), vR 65] g (ud d 65 5 0) Q by
    refine mw_if_ne (tgt := 22) (pc' := 14) dX12_fileClaim_11 rfl (by decide) (fun c4 => ?_) (fun c4 => ?_)
    · replace c4 := bI_n0.mp c4
      refine mw_iconst (pc' := 23) dX12_fileClaim_22 rfl ⟨by decide, by decide⟩ ?_
      refine mw_goto (pc' := 0) (tgt := 27) dX12_fileClaim_23 (by decide) ?_
      exact mw_st (bI_t (Or.inl c4)).symm k3
    · replace c4 := bI_0.mp c4
      replace c4 := (Classical.not_not.mp c4)
      refine mw_aload_n (v := vR 65) (pc' := 15) dX12_fileClaim_14 rfl rfl (Or.inl rfl) rfl ?_
      refine mw_iload_n (pc' := 16) dX12_fileClaim_15 rfl rfl rfl ?_
      refine mw_callV (M' := mX12_noOccurrence) (A := [vI x2]) (A' := [vR 65, vI x2]) (S := [vR 65]) (a := 65) (pc' := 19) dX12_fileClaim_16 rfl cl_RX12_191 cm_X12_noOccurrence cv_X12_noOccurrence ⟨by decide, by decide, by decide, by decide, by decide⟩ rfl rfl rfl ⟨by decide, by omega⟩ (by decide +kernel) (by decide +kernel) (Nat.le_of_ble_eq_true rfl) (eX12_noOccurrence (⟨(o2 c4), ?_⟩))
      show MW mX12_fileClaim 0 0 19 [(0, vR 65), (1, vI x1), (2, vI x2)] [vI (bI (¬ ((¬ (x2 < 0)) ∧ (¬ (((d 66 5) - 1) < x2))))), vR 65] g (ud d 65 5 0) Q
      refine mw_if_eq (tgt := 26) (pc' := 22) dX12_fileClaim_19 rfl (by decide) (fun c5 => ?_) (fun c5 => ?_)
      · replace c5 := bI_0.mp c5
        replace c5 := (Classical.not_not.mp c5)
        refine mw_iconst (pc' := 27) dX12_fileClaim_26 rfl ⟨by decide, by decide⟩ ?_
        exact mw_st (bI_f (fun h => h.elim (fun q => (q c4)) (fun h => (h c5)))).symm k3
      · replace c5 := bI_n0.mp c5
        refine mw_iconst (pc' := 23) dX12_fileClaim_22 rfl ⟨by decide, by decide⟩ ?_
        refine mw_goto (pc' := 0) (tgt := 27) dX12_fileClaim_23 (by decide) ?_
        exact mw_st (bI_t (Or.inr c5)).symm k3
  refine mw_iconst (pc' := 28) dX12_fileClaim_27 rfl ⟨by decide, by decide⟩ ?_
  refine mw_callV (M' := mX12_fails) (A := [vI (bI ((¬ ((¬ (x1 < 0)) ∧ (¬ (((d 66 1) - 1) < x1)))) ∨ (¬ ((¬ (x2 < 0)) ∧ (¬ (((d 66 5) - 1) < x2)))))), vI 1]) (A' := [vR 65, vI (bI ((¬ ((¬ (x1 < 0)) ∧ (¬ (((d 66 1) - 1) < x1)))) ∨ (¬ ((¬ (x2 < 0)) ∧ (¬ (((d 66 5) - 1) < x2)))))), vI 1]) (S := []) (a := 65) (pc' := 31) dX12_fileClaim_28 rfl cl_RX12_55 cm_X12_fails cv_X12_fails ⟨by decide, by decide, by decide, by decide, by decide⟩ rfl rfl rfl ⟨by decide, by omega⟩ (by decide +kernel) (by decide +kernel) (Nat.le_of_ble_eq_true rfl) (f_fails (udS) (by decide) ?_)
  refine ⟨fun c6 => ?_, fun c6 => ?_⟩
  · replace h := h.1 (show ((¬ ((¬ (x1 < 0)) ∧ (¬ (((d 66 1) - 1) < x1)))) ∨ (¬ ((¬ (x2 < 0)) ∧ (¬ (((d 66 5) - 1) < x2))))) from c6)
    show MW mX12_fileClaim 0 0 31 [(0, vR 65), (1, vI x1), (2, vI x2)] [vI 1] g (ud (ud d 65 5 0) 65 5 1) Q
    refine mw_if_ne (tgt := 59) (pc' := 34) dX12_fileClaim_31 rfl (by decide) (fun _ => ?_) (fun q => absurd q (by decide))
    refine mw_iconst (pc' := 60) dX12_fileClaim_59 rfl ⟨by decide, by decide⟩ ?_
    exact mw_iret (pc' := 0) (S := []) dX12_fileClaim_60 rfl (Or.inl rfl) h
  · replace h := h.2 (show ¬ ((¬ ((¬ (x1 < 0)) ∧ (¬ (((d 66 1) - 1) < x1)))) ∨ (¬ ((¬ (x2 < 0)) ∧ (¬ (((d 66 5) - 1) < x2))))) from c6)
    show MW mX12_fileClaim 0 0 31 [(0, vR 65), (1, vI x1), (2, vI x2)] [vI 0] g (ud d 65 5 0) Q
    refine mw_if_ne (tgt := 59) (pc' := 34) dX12_fileClaim_31 rfl (by decide) (fun q => absurd q (by decide)) (fun _ => ?_)
    refine mw_aload_n (v := vR 65) (pc' := 35) dX12_fileClaim_34 rfl rfl (Or.inl rfl) rfl ?_
    refine mw_aload_n (v := vR 65) (pc' := 36) dX12_fileClaim_35 rfl rfl (Or.inl rfl) rfl ?_
    refine mw_getP (v := 66) (pc' := 39) dX12_fileClaim_36 rfl fr_RX12_9_65 rfl sp_65_0 ⟨by decide, by decide⟩ ?_
    refine mw_bipush (pc' := 41) dX12_fileClaim_39 rfl ⟨by decide, by decide⟩ ?_
    refine mw_iald (pc' := 42) dX12_fileClaim_41 rfl lk_66 ⟨by decide, by decide⟩ (by rw [ln_66]; exact ⟨by decide, by decide⟩) ?_
    refine mw_st (b := d 66 6) (udA (by decide) (rfl)) ?_
    refine mw_bipush (pc' := 44) dX12_fileClaim_42 rfl ⟨by decide, by decide⟩ ?_
    suffices k7 : MW mX12_fileClaim 0 0 52 [(0, vR 65), (1, vI x1), (2, vI x2)] [vI (bI (d 66 6 = 20)), vR 65] g (ud d 65 5 0) Q by
      refine mw_icmp_ne (tgt := 51) (pc' := 47) dX12_fileClaim_44 rfl (by decide) (fun c8 => ?_) (fun c8 => ?_)
      · refine mw_iconst (pc' := 52) dX12_fileClaim_51 rfl ⟨by decide, by decide⟩ ?_
        exact mw_st (bI_f (fun h => (c8 h))).symm k7
      · refine mw_iconst (pc' := 48) dX12_fileClaim_47 rfl ⟨by decide, by decide⟩ ?_
        refine mw_goto (pc' := 0) (tgt := 52) dX12_fileClaim_48 (by decide) ?_
        exact mw_st (bI_t c8).symm k7
    refine mw_iconst (pc' := 53) dX12_fileClaim_52 rfl ⟨by decide, by decide⟩ ?_
    refine mw_callV (M' := mX12_fails) (A := [vI (bI (d 66 6 = 20)), vI 2]) (A' := [vR 65, vI (bI (d 66 6 = 20)), vI 2]) (S := []) (a := 65) (pc' := 56) dX12_fileClaim_53 rfl cl_RX12_55 cm_X12_fails cv_X12_fails ⟨by decide, by decide, by decide, by decide, by decide⟩ rfl rfl rfl ⟨by decide, by omega⟩ (by decide +kernel) (by decide +kernel) (Nat.le_of_ble_eq_true rfl) (f_fails (udS) (by decide) ?_)
    refine ⟨fun c9 => ?_, fun c9 => ?_⟩
    · replace h := h.1 (show (d 66 6 = 20) from c9)
      show MW mX12_fileClaim 0 0 56 [(0, vR 65), (1, vI x1), (2, vI x2)] [vI 1] g (ud (ud d 65 5 0) 65 5 2) Q
      refine mw_if_eq (tgt := 61) (pc' := 59) dX12_fileClaim_56 rfl (by decide) (fun q => absurd q (by decide)) (fun _ => ?_)
      refine mw_iconst (pc' := 60) dX12_fileClaim_59 rfl ⟨by decide, by decide⟩ ?_
      exact mw_iret (pc' := 0) (S := []) dX12_fileClaim_60 rfl (Or.inl rfl) h
    · replace h := h.2 (show ¬ (d 66 6 = 20) from c9)
      show MW mX12_fileClaim 0 0 56 [(0, vR 65), (1, vI x1), (2, vI x2)] [vI 0] g (ud d 65 5 0) Q
      refine mw_if_eq (tgt := 61) (pc' := 59) dX12_fileClaim_56 rfl (by decide) (fun _ => ?_) (fun q => absurd q (by decide))
      refine mw_aload_n (v := vR 65) (pc' := 62) dX12_fileClaim_61 rfl rfl (Or.inl rfl) rfl ?_
      obtain ⟨o10, h⟩ := h
      refine mw_callV (M' := mX12_change) (A := []) (A' := [vR 65]) (S := []) (a := 65) (pc' := 65) dX12_fileClaim_62 rfl cl_RX12_93 cm_X12_change cv_X12_change ⟨by decide, by decide, by decide, by decide, by decide⟩ rfl rfl rfl ⟨by decide, by omega⟩ (by decide +kernel) (by decide +kernel) (Nat.le_of_ble_eq_true rfl) (f_change (⟨o10, ?_⟩))
      show MW mX12_fileClaim 0 0 65 [(0, vR 65), (1, vI x1), (2, vI x2)] [] g (mChg (ud d 65 5 0)) Q
      refine mw_aload_n (v := vR 65) (pc' := 66) dX12_fileClaim_65 rfl rfl (Or.inl rfl) rfl ?_
      refine mw_iload_n (pc' := 67) dX12_fileClaim_66 rfl rfl rfl ?_
      refine mw_iload_n (pc' := 68) dX12_fileClaim_67 rfl rfl rfl ?_
      refine mw_iconst (pc' := 69) dX12_fileClaim_68 rfl ⟨by decide, by decide⟩ ?_
      obtain ⟨o11, h⟩ := h
      obtain ⟨o12, h⟩ := h
      refine mw_callV (M' := mX12_claim) (A := [vI x1, vI x2, vI (-1)]) (A' := [vR 65, vI x1, vI x2, vI (-1)]) (S := []) (a := 65) (pc' := 72) dX12_fileClaim_69 rfl cl_RX12_206 cm_X12_claim cv_X12_claim ⟨by decide, by decide, by decide, by decide, by decide⟩ rfl rfl rfl ⟨by decide, by omega⟩ (by decide +kernel) (by decide +kernel) (Nat.le_of_ble_eq_true rfl) (f_claim (⟨o11, o12, ?_⟩))
      show MW mX12_fileClaim 0 0 72 [(0, vR 65), (1, vI x1), (2, vI x2)] [vI ((mChg (ud d 65 5 0)) 66 6)] g (ud (ud (ud (ud (ud (mChg (ud d 65 5 0)) 66 (707 + 4 * (((mChg (ud d 65 5 0)) 66 6))) x1) 66 (708 + 4 * (((mChg (ud d 65 5 0)) 66 6))) x2) 66 (709 + 4 * (((mChg (ud d 65 5 0)) 66 6))) ((mChg (ud d 65 5 0)) 66 0)) 66 (710 + 4 * (((mChg (ud d 65 5 0)) 66 6))) (-1)) 66 6 ((((mChg (ud d 65 5 0)) 66 6)) + 1)) Q
      exact mw_iret (pc' := 0) (S := []) dX12_fileClaim_72 rfl (Or.inl rfl) h
theorem eX12_amendClaim {x1 x2 : Int} {g : mG} {d : mD} {Q : mQ} (h : (iI ((d 66 6) - 1)) ∧ ((((¬ (x1 < 0)) ∧ (¬ (((d 66 6) - 1) < x1))) → iI ((d 66 5) - 1)) ∧ (((((¬ ((¬ (x1 < 0)) ∧ (¬ (((d 66 6) - 1) < x1)))) ∨ (¬ ((¬ (x2 < 0)) ∧ (¬ (((d 66 5) - 1) < x2)))))) → Q (.inl 0) g (ud (ud d 65 5 0) 65 5 1)) ∧ ((¬ ((¬ ((¬ (x1 < 0)) ∧ (¬ (((d 66 6) - 1) < x1)))) ∨ (¬ ((¬ (x2 < 0)) ∧ (¬ (((d 66 5) - 1) < x2)))))) → (((d 66 6 = 20)) → Q (.inl 0) g (ud (ud d 65 5 0) 65 5 2)) ∧ ((¬ (d 66 6 = 20)) → (0 ≤ d 65 3 ∧ d 65 3 ≤ 8) ∧ ((iI (4 * x1)) ∧ ((iI (707 + (4 * x1))) ∧ ((0 ≤ 707 + (4 * x1) ∧ 707 + (4 * x1) < 787) ∧ ((RW ((mChg (ud d 65 5 0)) 66)) ∧ ((((mChg (ud d 65 5 0)) 66 6) < 20) ∧ (Q (.inl ((mChg (ud d 65 5 0)) 66 6)) g (ud (ud (ud (ud (ud (mChg (ud d 65 5 0)) 66 (707 + 4 * (((mChg (ud d 65 5 0)) 66 6))) (d 66 (707 + 4 * x1))) 66 (708 + 4 * (((mChg (ud d 65 5 0)) 66 6))) x2) 66 (709 + 4 * (((mChg (ud d 65 5 0)) 66 6))) ((mChg (ud d 65 5 0)) 66 0)) 66 (710 + 4 * (((mChg (ud d 65 5 0)) 66 6))) x1) 66 6 ((((mChg (ud d 65 5 0)) 66 6)) + 1))))))))))))) : MM mX12_amendClaim [vR 65, vI x1, vI x2] g d Q := by
  refine MM_of (by decide) rfl (by simp [catV]) (Nat.le_of_ble_eq_true rfl) ?_
  show MW mX12_amendClaim 0 0 0 [(0, vR 65), (1, vI x1), (2, vI x2)] [] g d Q
  refine mw_top (fun hT => ?_)
  have hG : 76 ≤ g.2.1 := hT.2
  refine mw_aload_n (v := vR 65) (pc' := 1) dX12_amendClaim_0 rfl rfl (Or.inl rfl) rfl ?_
  refine mw_iconst (pc' := 2) dX12_amendClaim_1 rfl ⟨by decide, by decide⟩ ?_
  refine mw_putI (ji := 5) (pc' := 5) dX12_amendClaim_2 rfl (fq_RX12_41_65) (by decide +kernel) rfl (Or.inl ⟨rfl, rc_65_5⟩) (Or.inr rfl) ⟨by decide, by omega⟩ ?_
  refine mw_aload_n (v := vR 65) (pc' := 6) dX12_amendClaim_5 rfl rfl (Or.inl rfl) rfl ?_
  refine mw_aload_n (v := vR 65) (pc' := 7) dX12_amendClaim_6 rfl rfl (Or.inl rfl) rfl ?_
  refine mw_iload_n (pc' := 8) dX12_amendClaim_7 rfl rfl rfl ?_
  obtain ⟨o1, h⟩ := h
  refine mw_callV (M' := mX12_noClaim) (A := [vI x1]) (A' := [vR 65, vI x1]) (S := [vR 65]) (a := 65) (pc' := 11) dX12_amendClaim_8 rfl cl_RX12_209 cm_X12_noClaim cv_X12_noClaim ⟨by decide, by decide, by decide, by decide, by decide⟩ rfl rfl rfl ⟨by decide, by omega⟩ (by decide +kernel) (by decide +kernel) (Nat.le_of_ble_eq_true rfl) (eX12_noClaim (⟨o1, ?_⟩))
  show MW mX12_amendClaim 0 0 11 [(0, vR 65), (1, vI x1), (2, vI x2)] [vI (bI (¬ ((¬ (x1 < 0)) ∧ (¬ (((d 66 6) - 1) < x1))))), vR 65] g (ud d 65 5 0) Q
  obtain ⟨o2, h⟩ := h
  suffices k3 : MW mX12_amendClaim 0 0 27 [(0, vR 65), (1, vI x1), (2, vI x2)] [vI (bI ((¬ ((¬ (x1 < 0)) ∧ (¬ (((d 66 6) - 1) < x1)))) ∨ (¬ ((¬ (x2 < 0)) ∧ (¬ (((d 66 5) - 1) < x2)))))), vR 65] g (ud d 65 5 0) Q by
    refine mw_if_ne (tgt := 22) (pc' := 14) dX12_amendClaim_11 rfl (by decide) (fun c4 => ?_) (fun c4 => ?_)
    · replace c4 := bI_n0.mp c4
      refine mw_iconst (pc' := 23) dX12_amendClaim_22 rfl ⟨by decide, by decide⟩ ?_
      refine mw_goto (pc' := 0) (tgt := 27) dX12_amendClaim_23 (by decide) ?_
      exact mw_st (bI_t (Or.inl c4)).symm k3
    · replace c4 := bI_0.mp c4
      replace c4 := (Classical.not_not.mp c4)
      refine mw_aload_n (v := vR 65) (pc' := 15) dX12_amendClaim_14 rfl rfl (Or.inl rfl) rfl ?_
      refine mw_iload_n (pc' := 16) dX12_amendClaim_15 rfl rfl rfl ?_
      refine mw_callV (M' := mX12_noOccurrence) (A := [vI x2]) (A' := [vR 65, vI x2]) (S := [vR 65]) (a := 65) (pc' := 19) dX12_amendClaim_16 rfl cl_RX12_191 cm_X12_noOccurrence cv_X12_noOccurrence ⟨by decide, by decide, by decide, by decide, by decide⟩ rfl rfl rfl ⟨by decide, by omega⟩ (by decide +kernel) (by decide +kernel) (Nat.le_of_ble_eq_true rfl) (eX12_noOccurrence (⟨(o2 c4), ?_⟩))
      show MW mX12_amendClaim 0 0 19 [(0, vR 65), (1, vI x1), (2, vI x2)] [vI (bI (¬ ((¬ (x2 < 0)) ∧ (¬ (((d 66 5) - 1) < x2))))), vR 65] g (ud d 65 5 0) Q
      refine mw_if_eq (tgt := 26) (pc' := 22) dX12_amendClaim_19 rfl (by decide) (fun c5 => ?_) (fun c5 => ?_)
      · replace c5 := bI_0.mp c5
        replace c5 := (Classical.not_not.mp c5)
        refine mw_iconst (pc' := 27) dX12_amendClaim_26 rfl ⟨by decide, by decide⟩ ?_
        exact mw_st (bI_f (fun h => h.elim (fun q => (q c4)) (fun h => (h c5)))).symm k3
      · replace c5 := bI_n0.mp c5
        refine mw_iconst (pc' := 23) dX12_amendClaim_22 rfl ⟨by decide, by decide⟩ ?_
        refine mw_goto (pc' := 0) (tgt := 27) dX12_amendClaim_23 (by decide) ?_
        exact mw_st (bI_t (Or.inr c5)).symm k3
  refine mw_iconst (pc' := 28) dX12_amendClaim_27 rfl ⟨by decide, by decide⟩ ?_
  refine mw_callV (M' := mX12_fails) (A := [vI (bI ((¬ ((¬ (x1 < 0)) ∧ (¬ (((d 66 6) - 1) < x1)))) ∨ (¬ ((¬ (x2 < 0)) ∧ (¬ (((d 66 5) - 1) < x2)))))), vI 1]) (A' := [vR 65, vI (bI ((¬ ((¬ (x1 < 0)) ∧ (¬ (((d 66 6) - 1) < x1)))) ∨ (¬ ((¬ (x2 < 0)) ∧ (¬ (((d 66 5) - 1) < x2)))))), vI 1]) (S := []) (a := 65) (pc' := 31) dX12_amendClaim_28 rfl cl_RX12_55 cm_X12_fails cv_X12_fails ⟨by decide, by decide, by decide, by decide, by decide⟩ rfl rfl rfl ⟨by decide, by omega⟩ (by decide +kernel) (by decide +kernel) (Nat.le_of_ble_eq_true rfl) (f_fails (udS) (by decide) ?_)
  refine ⟨fun c6 => ?_, fun c6 => ?_⟩
  · replace h := h.1 (show ((¬ ((¬ (x1 < 0)) ∧ (¬ (((d 66 6) - 1) < x1)))) ∨ (¬ ((¬ (x2 < 0)) ∧ (¬ (((d 66 5) - 1) < x2))))) from c6)
    show MW mX12_amendClaim 0 0 31 [(0, vR 65), (1, vI x1), (2, vI x2)] [vI 1] g (ud (ud d 65 5 0) 65 5 1) Q
    refine mw_if_ne (tgt := 59) (pc' := 34) dX12_amendClaim_31 rfl (by decide) (fun _ => ?_) (fun q => absurd q (by decide))
    refine mw_iconst (pc' := 60) dX12_amendClaim_59 rfl ⟨by decide, by decide⟩ ?_
    exact mw_iret (pc' := 0) (S := []) dX12_amendClaim_60 rfl (Or.inl rfl) h
  · replace h := h.2 (show ¬ ((¬ ((¬ (x1 < 0)) ∧ (¬ (((d 66 6) - 1) < x1)))) ∨ (¬ ((¬ (x2 < 0)) ∧ (¬ (((d 66 5) - 1) < x2))))) from c6)
    show MW mX12_amendClaim 0 0 31 [(0, vR 65), (1, vI x1), (2, vI x2)] [vI 0] g (ud d 65 5 0) Q
    refine mw_if_ne (tgt := 59) (pc' := 34) dX12_amendClaim_31 rfl (by decide) (fun q => absurd q (by decide)) (fun _ => ?_)
    refine mw_aload_n (v := vR 65) (pc' := 35) dX12_amendClaim_34 rfl rfl (Or.inl rfl) rfl ?_
    refine mw_aload_n (v := vR 65) (pc' := 36) dX12_amendClaim_35 rfl rfl (Or.inl rfl) rfl ?_
    refine mw_getP (v := 66) (pc' := 39) dX12_amendClaim_36 rfl fr_RX12_9_65 rfl sp_65_0 ⟨by decide, by decide⟩ ?_
    refine mw_bipush (pc' := 41) dX12_amendClaim_39 rfl ⟨by decide, by decide⟩ ?_
    refine mw_iald (pc' := 42) dX12_amendClaim_41 rfl lk_66 ⟨by decide, by decide⟩ (by rw [ln_66]; exact ⟨by decide, by decide⟩) ?_
    refine mw_st (b := d 66 6) (udA (by decide) (rfl)) ?_
    refine mw_bipush (pc' := 44) dX12_amendClaim_42 rfl ⟨by decide, by decide⟩ ?_
    suffices k7 : MW mX12_amendClaim 0 0 52 [(0, vR 65), (1, vI x1), (2, vI x2)] [vI (bI (d 66 6 = 20)), vR 65] g (ud d 65 5 0) Q by
      refine mw_icmp_ne (tgt := 51) (pc' := 47) dX12_amendClaim_44 rfl (by decide) (fun c8 => ?_) (fun c8 => ?_)
      · refine mw_iconst (pc' := 52) dX12_amendClaim_51 rfl ⟨by decide, by decide⟩ ?_
        exact mw_st (bI_f (fun h => (c8 h))).symm k7
      · refine mw_iconst (pc' := 48) dX12_amendClaim_47 rfl ⟨by decide, by decide⟩ ?_
        refine mw_goto (pc' := 0) (tgt := 52) dX12_amendClaim_48 (by decide) ?_
        exact mw_st (bI_t c8).symm k7
    refine mw_iconst (pc' := 53) dX12_amendClaim_52 rfl ⟨by decide, by decide⟩ ?_
    refine mw_callV (M' := mX12_fails) (A := [vI (bI (d 66 6 = 20)), vI 2]) (A' := [vR 65, vI (bI (d 66 6 = 20)), vI 2]) (S := []) (a := 65) (pc' := 56) dX12_amendClaim_53 rfl cl_RX12_55 cm_X12_fails cv_X12_fails ⟨by decide, by decide, by decide, by decide, by decide⟩ rfl rfl rfl ⟨by decide, by omega⟩ (by decide +kernel) (by decide +kernel) (Nat.le_of_ble_eq_true rfl) (f_fails (udS) (by decide) ?_)
    refine ⟨fun c9 => ?_, fun c9 => ?_⟩
    · replace h := h.1 (show (d 66 6 = 20) from c9)
      show MW mX12_amendClaim 0 0 56 [(0, vR 65), (1, vI x1), (2, vI x2)] [vI 1] g (ud (ud d 65 5 0) 65 5 2) Q
      refine mw_if_eq (tgt := 61) (pc' := 59) dX12_amendClaim_56 rfl (by decide) (fun q => absurd q (by decide)) (fun _ => ?_)
      refine mw_iconst (pc' := 60) dX12_amendClaim_59 rfl ⟨by decide, by decide⟩ ?_
      exact mw_iret (pc' := 0) (S := []) dX12_amendClaim_60 rfl (Or.inl rfl) h
    · replace h := h.2 (show ¬ (d 66 6 = 20) from c9)
      show MW mX12_amendClaim 0 0 56 [(0, vR 65), (1, vI x1), (2, vI x2)] [vI 0] g (ud d 65 5 0) Q
      refine mw_if_eq (tgt := 61) (pc' := 59) dX12_amendClaim_56 rfl (by decide) (fun _ => ?_) (fun q => absurd q (by decide))
      refine mw_aload_n (v := vR 65) (pc' := 62) dX12_amendClaim_61 rfl rfl (Or.inl rfl) rfl ?_
      obtain ⟨o10, h⟩ := h
      refine mw_callV (M' := mX12_change) (A := []) (A' := [vR 65]) (S := []) (a := 65) (pc' := 65) dX12_amendClaim_62 rfl cl_RX12_93 cm_X12_change cv_X12_change ⟨by decide, by decide, by decide, by decide, by decide⟩ rfl rfl rfl ⟨by decide, by omega⟩ (by decide +kernel) (by decide +kernel) (Nat.le_of_ble_eq_true rfl) (f_change (⟨o10, ?_⟩))
      show MW mX12_amendClaim 0 0 65 [(0, vR 65), (1, vI x1), (2, vI x2)] [] g (mChg (ud d 65 5 0)) Q
      refine mw_aload_n (v := vR 65) (pc' := 66) dX12_amendClaim_65 rfl rfl (Or.inl rfl) rfl ?_
      refine mw_aload_n (v := vR 65) (pc' := 67) dX12_amendClaim_66 rfl rfl (Or.inl rfl) rfl ?_
      refine mw_getP (v := 66) (pc' := 70) dX12_amendClaim_67 rfl fr_RX12_9_65 rfl sp_65_0 ⟨by decide, by decide⟩ ?_
      refine mw_iload_n (pc' := 71) dX12_amendClaim_70 rfl rfl rfl ?_
      obtain ⟨o11, h⟩ := h
      obtain ⟨o12, h⟩ := h
      refine mw_callS (M' := mX12_claimAt) (A := [vI x1]) (S := [vR 66, vR 65]) (pc' := 74) dX12_amendClaim_71 rfl cl_RX12_203 cm_X12_claimAt cs_X12_claimAt ⟨by decide, by decide, by decide, by decide, by decide⟩ rfl rfl (Nat.le_of_ble_eq_true rfl) (eX12_claimAt (⟨o11, o12, ?_⟩))
      show MW mX12_amendClaim 0 0 74 [(0, vR 65), (1, vI x1), (2, vI x2)] [vI (707 + (4 * x1)), vR 66, vR 65] g (mChg (ud d 65 5 0)) Q
      obtain ⟨o13, h⟩ := h
      refine mw_iald (pc' := 75) dX12_amendClaim_74 rfl lk_66 ⟨by decide, by decide⟩ (by rw [ln_66]; exact o13) ?_
      refine mw_st (b := (mChg (ud d 65 5 0)) 66 (707 + 4 * x1)) (congrArg ((mChg (ud d 65 5 0)) 66) (by omega)) ?_
      refine mw_st (b := d 66 (707 + 4 * x1)) (Eq.trans (mChg_fr (by omega)) (udA (by decide) (rfl))) ?_
      refine mw_iload_n (pc' := 76) dX12_amendClaim_75 rfl rfl rfl ?_
      refine mw_iload_n (pc' := 77) dX12_amendClaim_76 rfl rfl rfl ?_
      obtain ⟨o14, h⟩ := h
      obtain ⟨o15, h⟩ := h
      refine mw_callV (M' := mX12_claim) (A := [vI (d 66 (707 + 4 * x1)), vI x2, vI x1]) (A' := [vR 65, vI (d 66 (707 + 4 * x1)), vI x2, vI x1]) (S := []) (a := 65) (pc' := 80) dX12_amendClaim_77 rfl cl_RX12_206 cm_X12_claim cv_X12_claim ⟨by decide, by decide, by decide, by decide, by decide⟩ rfl rfl rfl ⟨by decide, by omega⟩ (by decide +kernel) (by decide +kernel) (Nat.le_of_ble_eq_true rfl) (f_claim (⟨o14, o15, ?_⟩))
      show MW mX12_amendClaim 0 0 80 [(0, vR 65), (1, vI x1), (2, vI x2)] [vI ((mChg (ud d 65 5 0)) 66 6)] g (ud (ud (ud (ud (ud (mChg (ud d 65 5 0)) 66 (707 + 4 * (((mChg (ud d 65 5 0)) 66 6))) (d 66 (707 + 4 * x1))) 66 (708 + 4 * (((mChg (ud d 65 5 0)) 66 6))) x2) 66 (709 + 4 * (((mChg (ud d 65 5 0)) 66 6))) ((mChg (ud d 65 5 0)) 66 0)) 66 (710 + 4 * (((mChg (ud d 65 5 0)) 66 6))) x1) 66 6 ((((mChg (ud d 65 5 0)) 66 6)) + 1)) Q
      exact mw_iret (pc' := 0) (S := []) dX12_amendClaim_80 rfl (Or.inl rfl) h
theorem eX12_effectiveDay {x1 : Int} {g : mG} {d : mD} {Q : mQ} (h : (iI ((d 66 6) - 1)) ∧ ((((¬ ((¬ (x1 < 0)) ∧ (¬ (((d 66 6) - 1) < x1))))) → Q (.inl 0) g (ud (ud d 65 5 0) 65 5 1)) ∧ (((¬ (x1 < 0)) ∧ (¬ (((d 66 6) - 1) < x1))) → (RW (d 66)) ∧ ((0 ≤ x1 ∧ x1 < d 66 6) ∧ (Q (.inl (effF (d 66) x1)) g (ud d 65 5 0)))))) : MM mX12_effectiveDay [vR 65, vI x1] g d Q := by
  refine MM_of (by decide) rfl (by simp [catV]) (Nat.le_of_ble_eq_true rfl) ?_
  show MW mX12_effectiveDay 0 0 0 [(0, vR 65), (1, vI x1)] [] g d Q
  refine mw_top (fun hT => ?_)
  have hG : 76 ≤ g.2.1 := hT.2
  refine mw_aload_n (v := vR 65) (pc' := 1) dX12_effectiveDay_0 rfl rfl (Or.inl rfl) rfl ?_
  refine mw_iconst (pc' := 2) dX12_effectiveDay_1 rfl ⟨by decide, by decide⟩ ?_
  refine mw_putI (ji := 5) (pc' := 5) dX12_effectiveDay_2 rfl (fq_RX12_41_65) (by decide +kernel) rfl (Or.inl ⟨rfl, rc_65_5⟩) (Or.inr rfl) ⟨by decide, by omega⟩ ?_
  refine mw_aload_n (v := vR 65) (pc' := 6) dX12_effectiveDay_5 rfl rfl (Or.inl rfl) rfl ?_
  refine mw_aload_n (v := vR 65) (pc' := 7) dX12_effectiveDay_6 rfl rfl (Or.inl rfl) rfl ?_
  refine mw_iload_n (pc' := 8) dX12_effectiveDay_7 rfl rfl rfl ?_
  obtain ⟨o1, h⟩ := h
  refine mw_callV (M' := mX12_noClaim) (A := [vI x1]) (A' := [vR 65, vI x1]) (S := [vR 65]) (a := 65) (pc' := 11) dX12_effectiveDay_8 rfl cl_RX12_209 cm_X12_noClaim cv_X12_noClaim ⟨by decide, by decide, by decide, by decide, by decide⟩ rfl rfl rfl ⟨by decide, by omega⟩ (by decide +kernel) (by decide +kernel) (Nat.le_of_ble_eq_true rfl) (eX12_noClaim (⟨o1, ?_⟩))
  show MW mX12_effectiveDay 0 0 11 [(0, vR 65), (1, vI x1)] [vI (bI (¬ ((¬ (x1 < 0)) ∧ (¬ (((d 66 6) - 1) < x1))))), vR 65] g (ud d 65 5 0) Q
  refine mw_iconst (pc' := 12) dX12_effectiveDay_11 rfl ⟨by decide, by decide⟩ ?_
  refine mw_callV (M' := mX12_fails) (A := [vI (bI (¬ ((¬ (x1 < 0)) ∧ (¬ (((d 66 6) - 1) < x1))))), vI 1]) (A' := [vR 65, vI (bI (¬ ((¬ (x1 < 0)) ∧ (¬ (((d 66 6) - 1) < x1))))), vI 1]) (S := []) (a := 65) (pc' := 15) dX12_effectiveDay_12 rfl cl_RX12_55 cm_X12_fails cv_X12_fails ⟨by decide, by decide, by decide, by decide, by decide⟩ rfl rfl rfl ⟨by decide, by omega⟩ (by decide +kernel) (by decide +kernel) (Nat.le_of_ble_eq_true rfl) (f_fails (udS) (by decide) ?_)
  refine ⟨fun c2 => ?_, fun c2 => ?_⟩
  · replace h := h.1 (show (¬ ((¬ (x1 < 0)) ∧ (¬ (((d 66 6) - 1) < x1)))) from c2)
    show MW mX12_effectiveDay 0 0 15 [(0, vR 65), (1, vI x1)] [vI 1] g (ud (ud d 65 5 0) 65 5 1) Q
    refine mw_if_eq (tgt := 22) (pc' := 18) dX12_effectiveDay_15 rfl (by decide) (fun q => absurd q (by decide)) (fun _ => ?_)
    refine mw_iconst (pc' := 19) dX12_effectiveDay_18 rfl ⟨by decide, by decide⟩ ?_
    refine mw_goto (pc' := 0) (tgt := 27) dX12_effectiveDay_19 (by decide) ?_
    exact mw_iret (pc' := 0) (S := []) dX12_effectiveDay_27 rfl (Or.inl rfl) h
  · replace h := h.2 (show (¬ (x1 < 0)) ∧ (¬ (((d 66 6) - 1) < x1)) from (Classical.not_not.mp c2))
    show MW mX12_effectiveDay 0 0 15 [(0, vR 65), (1, vI x1)] [vI 0] g (ud d 65 5 0) Q
    refine mw_if_eq (tgt := 22) (pc' := 18) dX12_effectiveDay_15 rfl (by decide) (fun _ => ?_) (fun q => absurd q (by decide))
    refine mw_aload_n (v := vR 65) (pc' := 23) dX12_effectiveDay_22 rfl rfl (Or.inl rfl) rfl ?_
    refine mw_iload_n (pc' := 24) dX12_effectiveDay_23 rfl rfl rfl ?_
    obtain ⟨o3, h⟩ := h
    obtain ⟨o4, h⟩ := h
    refine mw_callV (M' := mX12_effectiveOf) (A := [vI x1]) (A' := [vR 65, vI x1]) (S := []) (a := 65) (pc' := 27) dX12_effectiveDay_24 rfl cl_RX12_212 cm_X12_effectiveOf cv_X12_effectiveOf ⟨by decide, by decide, by decide, by decide, by decide⟩ rfl rfl rfl ⟨by decide, by omega⟩ (by decide +kernel) (by decide +kernel) (Nat.le_of_ble_eq_true rfl) (f_effectiveOf (⟨o3, o4, ?_⟩))
    show MW mX12_effectiveDay 0 0 27 [(0, vR 65), (1, vI x1)] [vI (effF (d 66) x1)] g (ud d 65 5 0) Q
    exact mw_iret (pc' := 0) (S := []) dX12_effectiveDay_27 rfl (Or.inl rfl) h
theorem eX12_isTimely {x1 : Int} {g : mG} {d : mD} {Q : mQ} (h : (iI ((d 66 6) - 1)) ∧ ((((¬ ((¬ (x1 < 0)) ∧ (¬ (((d 66 6) - 1) < x1))))) → Q (.inl 0) g (ud (ud d 65 5 0) 65 5 1)) ∧ (((¬ (x1 < 0)) ∧ (¬ (((d 66 6) - 1) < x1))) → (iI (4 * x1)) ∧ ((iI (707 + (4 * x1))) ∧ ((iI ((707 + (4 * x1)) + 1)) ∧ ((0 ≤ (707 + (4 * x1)) + 1 ∧ (707 + (4 * x1)) + 1 < 787) ∧ ((iI (5 * (d 66 (708 + 4 * x1)))) ∧ ((iI (667 + (5 * (d 66 (708 + 4 * x1))))) ∧ ((iI ((667 + (5 * (d 66 (708 + 4 * x1)))) + 1)) ∧ ((0 ≤ (667 + (5 * (d 66 (708 + 4 * x1)))) + 1 ∧ (667 + (5 * (d 66 (708 + 4 * x1)))) + 1 < 787) ∧ ((0 ≤ 667 + (5 * (d 66 (708 + 4 * x1))) ∧ 667 + (5 * (d 66 (708 + 4 * x1))) < 787) ∧ ((iI ((667 + (5 * (d 66 (708 + 4 * x1)))) + 2)) ∧ ((0 ≤ (667 + (5 * (d 66 (708 + 4 * x1)))) + 2 ∧ (667 + (5 * (d 66 (708 + 4 * x1)))) + 2 < 787) ∧ ((iI ((667 + (5 * (d 66 (708 + 4 * x1)))) + 3)) ∧ ((0 ≤ (667 + (5 * (d 66 (708 + 4 * x1)))) + 3 ∧ (667 + (5 * (d 66 (708 + 4 * x1)))) + 3 < 787) ∧ ((RW (d 66)) ∧ ((0 ≤ (d 66 (668 + 5 * (d 66 (708 + 4 * x1)))) ∧ (d 66 (668 + 5 * (d 66 (708 + 4 * x1)))) < 8) ∧ ((0 ≤ (d 66 (667 + 5 * (d 66 (708 + 4 * x1)))) ∧ (d 66 (667 + 5 * (d 66 (708 + 4 * x1)))) ≤ 4999) ∧ ((1 ≤ (d 66 (669 + 5 * (d 66 (708 + 4 * x1)))) ∧ (d 66 (669 + 5 * (d 66 (708 + 4 * x1)))) ≤ 200) ∧ (((¬ (endM (d 66) (-1) (d 66 (668 + 5 * (d 66 (708 + 4 * x1)))) (d 66 (667 + 5 * (d 66 (708 + 4 * x1)))) (d 66 (669 + 5 * (d 66 (708 + 4 * x1)))) (bI (d 66 (670 + 5 * (d 66 (708 + 4 * x1))) = 1)) = (-1))) → 0 ≤ x1 ∧ x1 < d 66 6) ∧ (Q (.inl (bI ((endM (d 66) (-1) (d 66 (668 + 5 * (d 66 (708 + 4 * x1)))) (d 66 (667 + 5 * (d 66 (708 + 4 * x1)))) (d 66 (669 + 5 * (d 66 (708 + 4 * x1)))) (bI (d 66 (670 + 5 * (d 66 (708 + 4 * x1))) = 1)) = (-1)) ∨ (¬ (endM (d 66) (-1) (d 66 (668 + 5 * (d 66 (708 + 4 * x1)))) (d 66 (667 + 5 * (d 66 (708 + 4 * x1)))) (d 66 (669 + 5 * (d 66 (708 + 4 * x1)))) (bI (d 66 (670 + 5 * (d 66 (708 + 4 * x1))) = 1)) < effF (d 66) x1))))) g (ud d 65 5 0)))))))))))))))))))))) : MM mX12_isTimely [vR 65, vI x1] g d Q := by
  refine MM_of (by decide) rfl (by simp [catV]) (Nat.le_of_ble_eq_true rfl) ?_
  show MW mX12_isTimely 0 0 0 [(0, vR 65), (1, vI x1)] [] g d Q
  refine mw_top (fun hT => ?_)
  have hG : 76 ≤ g.2.1 := hT.2
  refine mw_aload_n (v := vR 65) (pc' := 1) dX12_isTimely_0 rfl rfl (Or.inl rfl) rfl ?_
  refine mw_iconst (pc' := 2) dX12_isTimely_1 rfl ⟨by decide, by decide⟩ ?_
  refine mw_putI (ji := 5) (pc' := 5) dX12_isTimely_2 rfl (fq_RX12_41_65) (by decide +kernel) rfl (Or.inl ⟨rfl, rc_65_5⟩) (Or.inr rfl) ⟨by decide, by omega⟩ ?_
  refine mw_aload_n (v := vR 65) (pc' := 6) dX12_isTimely_5 rfl rfl (Or.inl rfl) rfl ?_
  refine mw_aload_n (v := vR 65) (pc' := 7) dX12_isTimely_6 rfl rfl (Or.inl rfl) rfl ?_
  refine mw_iload_n (pc' := 8) dX12_isTimely_7 rfl rfl rfl ?_
  obtain ⟨o1, h⟩ := h
  refine mw_callV (M' := mX12_noClaim) (A := [vI x1]) (A' := [vR 65, vI x1]) (S := [vR 65]) (a := 65) (pc' := 11) dX12_isTimely_8 rfl cl_RX12_209 cm_X12_noClaim cv_X12_noClaim ⟨by decide, by decide, by decide, by decide, by decide⟩ rfl rfl rfl ⟨by decide, by omega⟩ (by decide +kernel) (by decide +kernel) (Nat.le_of_ble_eq_true rfl) (eX12_noClaim (⟨o1, ?_⟩))
  show MW mX12_isTimely 0 0 11 [(0, vR 65), (1, vI x1)] [vI (bI (¬ ((¬ (x1 < 0)) ∧ (¬ (((d 66 6) - 1) < x1))))), vR 65] g (ud d 65 5 0) Q
  refine mw_iconst (pc' := 12) dX12_isTimely_11 rfl ⟨by decide, by decide⟩ ?_
  refine mw_callV (M' := mX12_fails) (A := [vI (bI (¬ ((¬ (x1 < 0)) ∧ (¬ (((d 66 6) - 1) < x1))))), vI 1]) (A' := [vR 65, vI (bI (¬ ((¬ (x1 < 0)) ∧ (¬ (((d 66 6) - 1) < x1))))), vI 1]) (S := []) (a := 65) (pc' := 15) dX12_isTimely_12 rfl cl_RX12_55 cm_X12_fails cv_X12_fails ⟨by decide, by decide, by decide, by decide, by decide⟩ rfl rfl rfl ⟨by decide, by omega⟩ (by decide +kernel) (by decide +kernel) (Nat.le_of_ble_eq_true rfl) (f_fails (udS) (by decide) ?_)
  refine ⟨fun c2 => ?_, fun c2 => ?_⟩
  · replace h := h.1 (show (¬ ((¬ (x1 < 0)) ∧ (¬ (((d 66 6) - 1) < x1)))) from c2)
    show MW mX12_isTimely 0 0 15 [(0, vR 65), (1, vI x1)] [vI 1] g (ud (ud d 65 5 0) 65 5 1) Q
    refine mw_if_ne (tgt := 30) (pc' := 18) dX12_isTimely_15 rfl (by decide) (fun _ => ?_) (fun q => absurd q (by decide))
    refine mw_iconst (pc' := 31) dX12_isTimely_30 rfl ⟨by decide, by decide⟩ ?_
    exact mw_iret (pc' := 0) (S := []) dX12_isTimely_31 rfl (Or.inr (Or.inl ⟨rfl, by decide, by decide⟩)) h
  · replace h := h.2 (show (¬ (x1 < 0)) ∧ (¬ (((d 66 6) - 1) < x1)) from (Classical.not_not.mp c2))
    show MW mX12_isTimely 0 0 15 [(0, vR 65), (1, vI x1)] [vI 0] g (ud d 65 5 0) Q
    refine mw_if_ne (tgt := 30) (pc' := 18) dX12_isTimely_15 rfl (by decide) (fun q => absurd q (by decide)) (fun _ => ?_)
    refine mw_aload_n (v := vR 65) (pc' := 19) dX12_isTimely_18 rfl rfl (Or.inl rfl) rfl ?_
    refine mw_iload_n (pc' := 20) dX12_isTimely_19 rfl rfl rfl ?_
    obtain ⟨o3, h⟩ := h
    obtain ⟨o4, h⟩ := h
    obtain ⟨o5, h⟩ := h
    obtain ⟨o6, h⟩ := h
    obtain ⟨o7, h⟩ := h
    obtain ⟨o8, h⟩ := h
    obtain ⟨o9, h⟩ := h
    obtain ⟨o10, h⟩ := h
    obtain ⟨o11, h⟩ := h
    obtain ⟨o12, h⟩ := h
    obtain ⟨o13, h⟩ := h
    obtain ⟨o14, h⟩ := h
    obtain ⟨o15, h⟩ := h
    obtain ⟨o16, h⟩ := h
    obtain ⟨o17, h⟩ := h
    obtain ⟨o18, h⟩ := h
    obtain ⟨o19, h⟩ := h
    obtain ⟨o20, h⟩ := h
    refine mw_callV (M' := mX12_isTimelyNow) (A := [vI x1]) (A' := [vR 65, vI x1]) (S := []) (a := 65) (pc' := 23) dX12_isTimely_20 rfl cl_RX12_215 cm_X12_isTimelyNow cv_X12_isTimelyNow ⟨by decide, by decide, by decide, by decide, by decide⟩ rfl rfl rfl ⟨by decide, by omega⟩ (by decide +kernel) (by decide +kernel) (Nat.le_of_ble_eq_true rfl) (eX12_isTimelyNow (⟨o3, o4, o5, o6, o7, o8, o9, o10, o11, o12, o13, o14, o15, o16, o17, o18, o19, o20, ?_⟩))
    show MW mX12_isTimely 0 0 23 [(0, vR 65), (1, vI x1)] [vI (bI ((endM (d 66) (-1) (d 66 (668 + 5 * (d 66 (708 + 4 * x1)))) (d 66 (667 + 5 * (d 66 (708 + 4 * x1)))) (d 66 (669 + 5 * (d 66 (708 + 4 * x1)))) (bI (d 66 (670 + 5 * (d 66 (708 + 4 * x1))) = 1)) = (-1)) ∨ (¬ (endM (d 66) (-1) (d 66 (668 + 5 * (d 66 (708 + 4 * x1)))) (d 66 (667 + 5 * (d 66 (708 + 4 * x1)))) (d 66 (669 + 5 * (d 66 (708 + 4 * x1)))) (bI (d 66 (670 + 5 * (d 66 (708 + 4 * x1))) = 1)) < effF (d 66) x1))))] g (ud d 65 5 0) Q
    suffices k21 : MW mX12_isTimely 0 0 31 [(0, vR 65), (1, vI x1)] [vI (bI ((endM (d 66) (-1) (d 66 (668 + 5 * (d 66 (708 + 4 * x1)))) (d 66 (667 + 5 * (d 66 (708 + 4 * x1)))) (d 66 (669 + 5 * (d 66 (708 + 4 * x1)))) (bI (d 66 (670 + 5 * (d 66 (708 + 4 * x1))) = 1)) = (-1)) ∨ (¬ (endM (d 66) (-1) (d 66 (668 + 5 * (d 66 (708 + 4 * x1)))) (d 66 (667 + 5 * (d 66 (708 + 4 * x1)))) (d 66 (669 + 5 * (d 66 (708 + 4 * x1)))) (bI (d 66 (670 + 5 * (d 66 (708 + 4 * x1))) = 1)) < effF (d 66) x1))))] g (ud d 65 5 0) Q by
      refine mw_if_eq (tgt := 30) (pc' := 26) dX12_isTimely_23 rfl (by decide) (fun c22 => ?_) (fun c22 => ?_)
      · replace c22 := bI_0.mp c22
        refine mw_iconst (pc' := 31) dX12_isTimely_30 rfl ⟨by decide, by decide⟩ ?_
        exact mw_st (bI_f (fun h => (c22 h))).symm k21
      · replace c22 := bI_n0.mp c22
        refine mw_iconst (pc' := 27) dX12_isTimely_26 rfl ⟨by decide, by decide⟩ ?_
        refine mw_goto (pc' := 0) (tgt := 31) dX12_isTimely_27 (by decide) ?_
        exact mw_st (bI_t c22).symm k21
    exact mw_iret (pc' := 0) (S := []) dX12_isTimely_31 rfl (Or.inr (Or.inl ⟨rfl, bI_rng⟩)) h
def pX12_timelyClaims_1 (x1 x2 x3 : Int) (g : mG) (d : mD) (Q : mQ) : Prop := MW mX12_timelyClaims 0 0 24 [(0, vR 65), (1, vI x1), (2, vI x2), (3, vI x3)] [] g d Q
theorem eX12_timelyClaims {x1 : Int} {g : mG} {d : mD} {Q : mQ} (h : (iI ((d 66 1) - 1)) ∧ ((((¬ ((¬ (x1 < 0)) ∧ (¬ (((d 66 1) - 1) < x1))))) → Q (.inl 0) g (ud (ud d 65 5 0) 65 5 1)) ∧ (((¬ (x1 < 0)) ∧ (¬ (((d 66 1) - 1) < x1))) → pX12_timelyClaims_1 x1 0 0 g (ud d 65 5 0) Q))) : MM mX12_timelyClaims [vR 65, vI x1] g d Q := by
  refine MM_of (by decide) rfl (by simp [catV]) (Nat.le_of_ble_eq_true rfl) ?_
  show MW mX12_timelyClaims 0 0 0 [(0, vR 65), (1, vI x1)] [] g d Q
  refine mw_top (fun hT => ?_)
  have hG : 76 ≤ g.2.1 := hT.2
  refine mw_aload_n (v := vR 65) (pc' := 1) dX12_timelyClaims_0 rfl rfl (Or.inl rfl) rfl ?_
  refine mw_iconst (pc' := 2) dX12_timelyClaims_1 rfl ⟨by decide, by decide⟩ ?_
  refine mw_putI (ji := 5) (pc' := 5) dX12_timelyClaims_2 rfl (fq_RX12_41_65) (by decide +kernel) rfl (Or.inl ⟨rfl, rc_65_5⟩) (Or.inr rfl) ⟨by decide, by omega⟩ ?_
  refine mw_aload_n (v := vR 65) (pc' := 6) dX12_timelyClaims_5 rfl rfl (Or.inl rfl) rfl ?_
  refine mw_aload_n (v := vR 65) (pc' := 7) dX12_timelyClaims_6 rfl rfl (Or.inl rfl) rfl ?_
  refine mw_iload_n (pc' := 8) dX12_timelyClaims_7 rfl rfl rfl ?_
  obtain ⟨o1, h⟩ := h
  refine mw_callV (M' := mX12_noParty) (A := [vI x1]) (A' := [vR 65, vI x1]) (S := [vR 65]) (a := 65) (pc' := 11) dX12_timelyClaims_8 rfl cl_RX12_96 cm_X12_noParty cv_X12_noParty ⟨by decide, by decide, by decide, by decide, by decide⟩ rfl rfl rfl ⟨by decide, by omega⟩ (by decide +kernel) (by decide +kernel) (Nat.le_of_ble_eq_true rfl) (eX12_noParty (⟨o1, ?_⟩))
  show MW mX12_timelyClaims 0 0 11 [(0, vR 65), (1, vI x1)] [vI (bI (¬ ((¬ (x1 < 0)) ∧ (¬ (((d 66 1) - 1) < x1))))), vR 65] g (ud d 65 5 0) Q
  refine mw_iconst (pc' := 12) dX12_timelyClaims_11 rfl ⟨by decide, by decide⟩ ?_
  refine mw_callV (M' := mX12_fails) (A := [vI (bI (¬ ((¬ (x1 < 0)) ∧ (¬ (((d 66 1) - 1) < x1))))), vI 1]) (A' := [vR 65, vI (bI (¬ ((¬ (x1 < 0)) ∧ (¬ (((d 66 1) - 1) < x1))))), vI 1]) (S := []) (a := 65) (pc' := 15) dX12_timelyClaims_12 rfl cl_RX12_55 cm_X12_fails cv_X12_fails ⟨by decide, by decide, by decide, by decide, by decide⟩ rfl rfl rfl ⟨by decide, by omega⟩ (by decide +kernel) (by decide +kernel) (Nat.le_of_ble_eq_true rfl) (f_fails (udS) (by decide) ?_)
  refine ⟨fun c2 => ?_, fun c2 => ?_⟩
  · replace h := h.1 (show (¬ ((¬ (x1 < 0)) ∧ (¬ (((d 66 1) - 1) < x1)))) from c2)
    show MW mX12_timelyClaims 0 0 15 [(0, vR 65), (1, vI x1)] [vI 1] g (ud (ud d 65 5 0) 65 5 1) Q
    refine mw_if_eq (tgt := 20) (pc' := 18) dX12_timelyClaims_15 rfl (by decide) (fun q => absurd q (by decide)) (fun _ => ?_)
    refine mw_iconst (pc' := 19) dX12_timelyClaims_18 rfl ⟨by decide, by decide⟩ ?_
    exact mw_iret (pc' := 0) (S := []) dX12_timelyClaims_19 rfl (Or.inl rfl) h
  · replace h := h.2 (show (¬ (x1 < 0)) ∧ (¬ (((d 66 1) - 1) < x1)) from (Classical.not_not.mp c2))
    show MW mX12_timelyClaims 0 0 15 [(0, vR 65), (1, vI x1)] [vI 0] g (ud d 65 5 0) Q
    refine mw_if_eq (tgt := 20) (pc' := 18) dX12_timelyClaims_15 rfl (by decide) (fun _ => ?_) (fun q => absurd q (by decide))
    refine mw_iconst (pc' := 21) dX12_timelyClaims_20 rfl ⟨by decide, by decide⟩ ?_
    refine mw_istore_n (pc' := 22) (L' := [(0, vR 65), (1, vI x1), (2, vI 0)]) dX12_timelyClaims_21 rfl rfl (by decide) rfl ?_
    refine mw_iconst (pc' := 23) dX12_timelyClaims_22 rfl ⟨by decide, by decide⟩ ?_
    refine mw_istore_n (pc' := 24) (L' := [(0, vR 65), (1, vI x1), (2, vI 0), (3, vI 0)]) dX12_timelyClaims_23 rfl rfl (by decide) rfl ?_
    exact h
theorem aX12_timelyClaims_1 {x1 x2 x3 : Int} {g : mG} {d : mD} {Q : mQ} (h : ((d 66 6 ≤ x3) → Q (.inl x2) g d) ∧ ((¬ (d 66 6 ≤ x3)) → (iI (4 * x3)) ∧ ((iI (707 + (4 * x3))) ∧ ((0 ≤ 707 + (4 * x3) ∧ 707 + (4 * x3) < 787) ∧ (((d 66 (707 + 4 * x3) = x1) → iI ((707 + (4 * x3)) + 1)) ∧ (((d 66 (707 + 4 * x3) = x1) → 0 ≤ (707 + (4 * x3)) + 1 ∧ (707 + (4 * x3)) + 1 < 787) ∧ (((d 66 (707 + 4 * x3) = x1) → iI (5 * (d 66 (708 + 4 * x3)))) ∧ (((d 66 (707 + 4 * x3) = x1) → iI (667 + (5 * (d 66 (708 + 4 * x3))))) ∧ (((d 66 (707 + 4 * x3) = x1) → iI ((667 + (5 * (d 66 (708 + 4 * x3)))) + 1)) ∧ (((d 66 (707 + 4 * x3) = x1) → 0 ≤ (667 + (5 * (d 66 (708 + 4 * x3)))) + 1 ∧ (667 + (5 * (d 66 (708 + 4 * x3)))) + 1 < 787) ∧ (((d 66 (707 + 4 * x3) = x1) → 0 ≤ 667 + (5 * (d 66 (708 + 4 * x3))) ∧ 667 + (5 * (d 66 (708 + 4 * x3))) < 787) ∧ (((d 66 (707 + 4 * x3) = x1) → iI ((667 + (5 * (d 66 (708 + 4 * x3)))) + 2)) ∧ (((d 66 (707 + 4 * x3) = x1) → 0 ≤ (667 + (5 * (d 66 (708 + 4 * x3)))) + 2 ∧ (667 + (5 * (d 66 (708 + 4 * x3)))) + 2 < 787) ∧ (((d 66 (707 + 4 * x3) = x1) → iI ((667 + (5 * (d 66 (708 + 4 * x3)))) + 3)) ∧ (((d 66 (707 + 4 * x3) = x1) → 0 ≤ (667 + (5 * (d 66 (708 + 4 * x3)))) + 3 ∧ (667 + (5 * (d 66 (708 + 4 * x3)))) + 3 < 787) ∧ (((d 66 (707 + 4 * x3) = x1) → RW (d 66)) ∧ (((d 66 (707 + 4 * x3) = x1) → 0 ≤ (d 66 (668 + 5 * (d 66 (708 + 4 * x3)))) ∧ (d 66 (668 + 5 * (d 66 (708 + 4 * x3)))) < 8) ∧ (((d 66 (707 + 4 * x3) = x1) → 0 ≤ (d 66 (667 + 5 * (d 66 (708 + 4 * x3)))) ∧ (d 66 (667 + 5 * (d 66 (708 + 4 * x3)))) ≤ 4999) ∧ (((d 66 (707 + 4 * x3) = x1) → 1 ≤ (d 66 (669 + 5 * (d 66 (708 + 4 * x3)))) ∧ (d 66 (669 + 5 * (d 66 (708 + 4 * x3)))) ≤ 200) ∧ (((d 66 (707 + 4 * x3) = x1) → (¬ (endM (d 66) (-1) (d 66 (668 + 5 * (d 66 (708 + 4 * x3)))) (d 66 (667 + 5 * (d 66 (708 + 4 * x3)))) (d 66 (669 + 5 * (d 66 (708 + 4 * x3)))) (bI (d 66 (670 + 5 * (d 66 (708 + 4 * x3))) = 1)) = (-1))) → 0 ≤ x3 ∧ x3 < d 66 6) ∧ ((iI (x2 + (bI ((d 66 (707 + 4 * x3) = x1) ∧ ((endM (d 66) (-1) (d 66 (668 + 5 * (d 66 (708 + 4 * x3)))) (d 66 (667 + 5 * (d 66 (708 + 4 * x3)))) (d 66 (669 + 5 * (d 66 (708 + 4 * x3)))) (bI (d 66 (670 + 5 * (d 66 (708 + 4 * x3))) = 1)) = (-1)) ∨ (¬ (endM (d 66) (-1) (d 66 (668 + 5 * (d 66 (708 + 4 * x3)))) (d 66 (667 + 5 * (d 66 (708 + 4 * x3)))) (d 66 (669 + 5 * (d 66 (708 + 4 * x3)))) (bI (d 66 (670 + 5 * (d 66 (708 + 4 * x3))) = 1)) < effF (d 66) x3))))))) ∧ ((iI (x3 + 1)) ∧ (pX12_timelyClaims_1 x1 (x2 + (bI ((d 66 (707 + 4 * x3) = x1) ∧ ((endM (d 66) (-1) (d 66 (668 + 5 * (d 66 (708 + 4 * x3)))) (d 66 (667 + 5 * (d 66 (708 + 4 * x3)))) (d 66 (669 + 5 * (d 66 (708 + 4 * x3)))) (bI (d 66 (670 + 5 * (d 66 (708 + 4 * x3))) = 1)) = (-1)) ∨ (¬ (endM (d 66) (-1) (d 66 (668 + 5 * (d 66 (708 + 4 * x3)))) (d 66 (667 + 5 * (d 66 (708 + 4 * x3)))) (d 66 (669 + 5 * (d 66 (708 + 4 * x3)))) (bI (d 66 (670 + 5 * (d 66 (708 + 4 * x3))) = 1)) < effF (d 66) x3)))))) (x3 + 1) g d Q))))))))))))))))))))))) : pX12_timelyClaims_1 x1 x2 x3 g d Q := by
  unfold pX12_timelyClaims_1
  refine mw_top (fun hT => ?_)
  have hG : 76 ≤ g.2.1 := hT.2
  refine mw_iload_n (pc' := 25) dX12_timelyClaims_24 rfl rfl rfl ?_
  refine mw_aload_n (v := vR 65) (pc' := 26) dX12_timelyClaims_25 rfl rfl (Or.inl rfl) rfl ?_
  refine mw_getP (v := 66) (pc' := 29) dX12_timelyClaims_26 rfl fr_RX12_9_65 rfl sp_65_0 ⟨by decide, by decide⟩ ?_
  refine mw_bipush (pc' := 31) dX12_timelyClaims_29 rfl ⟨by decide, by decide⟩ ?_
  refine mw_iald (pc' := 32) dX12_timelyClaims_31 rfl lk_66 ⟨by decide, by decide⟩ (by rw [ln_66]; exact ⟨by decide, by decide⟩) ?_
  refine mw_icmp_ge (tgt := 70) (pc' := 35) dX12_timelyClaims_32 rfl (by decide) (fun c25 => ?_) (fun c25 => ?_)
  · replace h := h.1 c25
    refine mw_iload_n (pc' := 71) dX12_timelyClaims_70 rfl rfl rfl ?_
    exact mw_iret (pc' := 0) (S := []) dX12_timelyClaims_71 rfl (Or.inl rfl) h
  · replace h := h.2 c25
    refine mw_iload_n (pc' := 36) dX12_timelyClaims_35 rfl rfl rfl ?_
    refine mw_aload_n (v := vR 65) (pc' := 37) dX12_timelyClaims_36 rfl rfl (Or.inl rfl) rfl ?_
    refine mw_getP (v := 66) (pc' := 40) dX12_timelyClaims_37 rfl fr_RX12_9_65 rfl sp_65_0 ⟨by decide, by decide⟩ ?_
    refine mw_iload_n (pc' := 41) dX12_timelyClaims_40 rfl rfl rfl ?_
    obtain ⟨o26, h⟩ := h
    obtain ⟨o27, h⟩ := h
    refine mw_callS (M' := mX12_claimAt) (A := [vI x3]) (S := [vR 66, vI x2]) (pc' := 44) dX12_timelyClaims_41 rfl cl_RX12_203 cm_X12_claimAt cs_X12_claimAt ⟨by decide, by decide, by decide, by decide, by decide⟩ rfl rfl (Nat.le_of_ble_eq_true rfl) (eX12_claimAt (⟨o26, o27, ?_⟩))
    show MW mX12_timelyClaims 0 0 44 [(0, vR 65), (1, vI x1), (2, vI x2), (3, vI x3)] [vI (707 + (4 * x3)), vR 66, vI x2] g d Q
    obtain ⟨o28, h⟩ := h
    refine mw_iald (pc' := 45) dX12_timelyClaims_44 rfl lk_66 ⟨by decide, by decide⟩ (by rw [ln_66]; exact o28) ?_
    refine mw_st (b := d 66 (707 + 4 * x3)) (congrArg (d 66) (by omega)) ?_
    refine mw_iload_n (pc' := 46) dX12_timelyClaims_45 rfl rfl rfl ?_
    obtain ⟨o31, h⟩ := h
    obtain ⟨o32, h⟩ := h
    obtain ⟨o33, h⟩ := h
    obtain ⟨o34, h⟩ := h
    obtain ⟨o35, h⟩ := h
    obtain ⟨o36, h⟩ := h
    obtain ⟨o37, h⟩ := h
    obtain ⟨o38, h⟩ := h
    obtain ⟨o39, h⟩ := h
    obtain ⟨o40, h⟩ := h
    obtain ⟨o41, h⟩ := h
    obtain ⟨o42, h⟩ := h
    obtain ⟨o43, h⟩ := h
    obtain ⟨o44, h⟩ := h
    obtain ⟨o45, h⟩ := h
    obtain ⟨o46, h⟩ := h
    suffices k47 : MW mX12_timelyClaims 0 0 62 [(0, vR 65), (1, vI x1), (2, vI x2), (3, vI x3)] [vI (bI ((d 66 (707 + 4 * x3) = x1) ∧ ((endM (d 66) (-1) (d 66 (668 + 5 * (d 66 (708 + 4 * x3)))) (d 66 (667 + 5 * (d 66 (708 + 4 * x3)))) (d 66 (669 + 5 * (d 66 (708 + 4 * x3)))) (bI (d 66 (670 + 5 * (d 66 (708 + 4 * x3))) = 1)) = (-1)) ∨ (¬ (endM (d 66) (-1) (d 66 (668 + 5 * (d 66 (708 + 4 * x3)))) (d 66 (667 + 5 * (d 66 (708 + 4 * x3)))) (d 66 (669 + 5 * (d 66 (708 + 4 * x3)))) (bI (d 66 (670 + 5 * (d 66 (708 + 4 * x3))) = 1)) < effF (d 66) x3))))), vI x2] g d Q by
      refine mw_icmp_ne (tgt := 61) (pc' := 49) dX12_timelyClaims_46 rfl (by decide) (fun c48 => ?_) (fun c48 => ?_)
      · refine mw_iconst (pc' := 62) dX12_timelyClaims_61 rfl ⟨by decide, by decide⟩ ?_
        exact mw_st (bI_f (fun h => (c48 h.1))).symm k47
      · refine mw_aload_n (v := vR 65) (pc' := 50) dX12_timelyClaims_49 rfl rfl (Or.inl rfl) rfl ?_
        refine mw_iload_n (pc' := 51) dX12_timelyClaims_50 rfl rfl rfl ?_
        refine mw_callV (M' := mX12_isTimelyNow) (A := [vI x3]) (A' := [vR 65, vI x3]) (S := [vI x2]) (a := 65) (pc' := 54) dX12_timelyClaims_51 rfl cl_RX12_215 cm_X12_isTimelyNow cv_X12_isTimelyNow ⟨by decide, by decide, by decide, by decide, by decide⟩ rfl rfl rfl ⟨by decide, by omega⟩ (by decide +kernel) (by decide +kernel) (Nat.le_of_ble_eq_true rfl) (eX12_isTimelyNow (⟨o26, o27, (o31 c48), (o32 c48), (o33 c48), (o34 c48), (o35 c48), (o36 c48), (o37 c48), (o38 c48), (o39 c48), (o40 c48), (o41 c48), (o42 c48), (o43 c48), (o44 c48), (o45 c48), (o46 c48), ?_⟩))
        show MW mX12_timelyClaims 0 0 54 [(0, vR 65), (1, vI x1), (2, vI x2), (3, vI x3)] [vI (bI ((endM (d 66) (-1) (d 66 (668 + 5 * (d 66 (708 + 4 * x3)))) (d 66 (667 + 5 * (d 66 (708 + 4 * x3)))) (d 66 (669 + 5 * (d 66 (708 + 4 * x3)))) (bI (d 66 (670 + 5 * (d 66 (708 + 4 * x3))) = 1)) = (-1)) ∨ (¬ (endM (d 66) (-1) (d 66 (668 + 5 * (d 66 (708 + 4 * x3)))) (d 66 (667 + 5 * (d 66 (708 + 4 * x3)))) (d 66 (669 + 5 * (d 66 (708 + 4 * x3)))) (bI (d 66 (670 + 5 * (d 66 (708 + 4 * x3))) = 1)) < effF (d 66) x3)))), vI x2] g d Q
        refine mw_if_eq (tgt := 61) (pc' := 57) dX12_timelyClaims_54 rfl (by decide) (fun c49 => ?_) (fun c49 => ?_)
        · replace c49 := bI_0.mp c49
          refine mw_iconst (pc' := 62) dX12_timelyClaims_61 rfl ⟨by decide, by decide⟩ ?_
          exact mw_st (bI_f (fun h => (fun h => (c49 h)) h.2)).symm k47
        · replace c49 := bI_n0.mp c49
          refine mw_iconst (pc' := 58) dX12_timelyClaims_57 rfl ⟨by decide, by decide⟩ ?_
          refine mw_goto (pc' := 0) (tgt := 62) dX12_timelyClaims_58 (by decide) ?_
          exact mw_st (bI_t ⟨c48, c49⟩).symm k47
    obtain ⟨o50, h⟩ := h
    refine mw_iadd (pc' := 63) dX12_timelyClaims_62 rfl o50 ?_
    refine mw_istore_n (pc' := 64) (L' := [(0, vR 65), (1, vI x1), (2, vI (x2 + (bI ((d 66 (707 + 4 * x3) = x1) ∧ ((endM (d 66) (-1) (d 66 (668 + 5 * (d 66 (708 + 4 * x3)))) (d 66 (667 + 5 * (d 66 (708 + 4 * x3)))) (d 66 (669 + 5 * (d 66 (708 + 4 * x3)))) (bI (d 66 (670 + 5 * (d 66 (708 + 4 * x3))) = 1)) = (-1)) ∨ (¬ (endM (d 66) (-1) (d 66 (668 + 5 * (d 66 (708 + 4 * x3)))) (d 66 (667 + 5 * (d 66 (708 + 4 * x3)))) (d 66 (669 + 5 * (d 66 (708 + 4 * x3)))) (bI (d 66 (670 + 5 * (d 66 (708 + 4 * x3))) = 1)) < effF (d 66) x3))))))), (3, vI x3)]) dX12_timelyClaims_63 rfl rfl (by decide) rfl ?_
    obtain ⟨o51, h⟩ := h
    refine mw_iinc (pc' := 67) (L' := [(0, vR 65), (1, vI x1), (2, vI (x2 + (bI ((d 66 (707 + 4 * x3) = x1) ∧ ((endM (d 66) (-1) (d 66 (668 + 5 * (d 66 (708 + 4 * x3)))) (d 66 (667 + 5 * (d 66 (708 + 4 * x3)))) (d 66 (669 + 5 * (d 66 (708 + 4 * x3)))) (bI (d 66 (670 + 5 * (d 66 (708 + 4 * x3))) = 1)) = (-1)) ∨ (¬ (endM (d 66) (-1) (d 66 (668 + 5 * (d 66 (708 + 4 * x3)))) (d 66 (667 + 5 * (d 66 (708 + 4 * x3)))) (d 66 (669 + 5 * (d 66 (708 + 4 * x3)))) (bI (d 66 (670 + 5 * (d 66 (708 + 4 * x3))) = 1)) < effF (d 66) x3))))))), (3, vI (x3 + 1))]) dX12_timelyClaims_64 rfl rfl (by decide) o51 rfl ?_
    refine mw_goto (pc' := 0) (tgt := 24) dX12_timelyClaims_67 (by decide) ?_
    exact h
theorem eX12_writeDeadline {x1 : Int} {g : mG} {d : mD} {Q : mQ} (h : (iI ((d 66 3) - 1)) ∧ ((((¬ ((¬ (x1 < 0)) ∧ (¬ (((d 66 3) - 1) < x1))))) → Q (.inl 0) g (ud (ud d 65 5 0) 65 5 1)) ∧ (((¬ (x1 < 0)) ∧ (¬ (((d 66 3) - 1) < x1))) → (RW (d 66)) ∧ ((0 ≤ x1 ∧ x1 < d 66 3) ∧ (MM mX12_putNumber [vR 65, vI x1] g (ud (ud d 65 5 0) 65 9 0) (fun o g7 d8 => match o with | .inl v6 => (0 ≤ d8 65 9 ∧ d8 65 9 < 80) ∧ ((iI ((d8 65 9) + 1)) ∧ ((0 ≤ x1 ∧ x1 < 30) ∧ ((0 ≤ ((d8 65 9) + 1) ∧ ((d8 65 9) + 1) < 80) ∧ ((iI ((((d8 65 9) + 1)) + 1)) ∧ (MM mX12_putNumber [vR 65, vI (d8 66 (139 + 16 * x1))] g7 (ud (ud (ud (ud d8 70 (d8 65 9) 58) 65 9 ((d8 65 9) + 1)) 70 ((d8 65 9) + 1) (d8 66 (145 + 16 * x1))) 65 9 ((((d8 65 9) + 1)) + 1)) (fun o g17 d18 => match o with | .inl v16 => (0 ≤ d18 65 9 ∧ d18 65 9 < 80) ∧ ((iI ((d18 65 9) + 1)) ∧ (((dueM (d 66) x1 = (-1)) → (0 ≤ ((d18 65 9) + 1) ∧ ((d18 65 9) + 1) < 80) ∧ ((iI ((((d18 65 9) + 1)) + 1)) ∧ ((RW (d18 66)) ∧ ((0 ≤ x1 ∧ x1 < d18 66 3) ∧ (((grF (d18 66) x1 ≤ 0) → Q (.inl ((((d18 65 9) + 1)) + 1)) g17 (ud (ud (ud (ud d18 70 (d18 65 9) 62) 65 9 ((d18 65 9) + 1)) 70 ((d18 65 9) + 1) 45) 65 9 ((((d18 65 9) + 1)) + 1))) ∧ ((¬ (grF (d18 66) x1 ≤ 0)) → (0 ≤ ((((d18 65 9) + 1)) + 1) ∧ ((((d18 65 9) + 1)) + 1) < 80) ∧ ((iI ((((((d18 65 9) + 1)) + 1)) + 1)) ∧ (MM mX12_putNumber [vR 65, vI (grF (d18 66) x1)] g17 (ud (ud (ud (ud (ud (ud d18 70 (d18 65 9) 62) 65 9 ((d18 65 9) + 1)) 70 ((d18 65 9) + 1) 45) 65 9 ((((d18 65 9) + 1)) + 1)) 70 ((((d18 65 9) + 1)) + 1) 43) 65 9 ((((((d18 65 9) + 1)) + 1)) + 1)) (fun o g41 d42 => match o with | .inl v40 => Q (.inl (d42 65 9)) g41 d42 | .inr k => Q (.inr k) g41 d42))))))))) ∧ ((¬ (dueM (d 66) x1 = (-1))) → MM mX12_putNumber [vR 65, vI (dueM (d 66) x1)] g17 (ud (ud d18 70 (d18 65 9) 62) 65 9 ((d18 65 9) + 1)) (fun o g45 d46 => match o with | .inl v44 => (RW (d46 66)) ∧ ((0 ≤ x1 ∧ x1 < d46 66 3) ∧ (((grF (d46 66) x1 ≤ 0) → Q (.inl (d46 65 9)) g45 d46) ∧ ((¬ (grF (d46 66) x1 ≤ 0)) → (0 ≤ d46 65 9 ∧ d46 65 9 < 80) ∧ ((iI ((d46 65 9) + 1)) ∧ (MM mX12_putNumber [vR 65, vI (grF (d46 66) x1)] g45 (ud (ud d46 70 (d46 65 9) 43) 65 9 ((d46 65 9) + 1)) (fun o g60 d61 => match o with | .inl v59 => Q (.inl (d61 65 9)) g60 d61 | .inr k => Q (.inr k) g60 d61)))))) | .inr k => Q (.inr k) g45 d46)))) | .inr k => Q (.inr k) g17 d18)))))) | .inr k => Q (.inr k) g7 d8)))))) : MM mX12_writeDeadline [vR 65, vI x1] g d Q := by
  refine MM_of (by decide) rfl (by simp [catV]) (Nat.le_of_ble_eq_true rfl) ?_
  show MW mX12_writeDeadline 0 0 0 [(0, vR 65), (1, vI x1)] [] g d Q
  refine mw_top (fun hT => ?_)
  have hG : 76 ≤ g.2.1 := hT.2
  refine mw_aload_n (v := vR 65) (pc' := 1) dX12_writeDeadline_0 rfl rfl (Or.inl rfl) rfl ?_
  refine mw_iconst (pc' := 2) dX12_writeDeadline_1 rfl ⟨by decide, by decide⟩ ?_
  refine mw_putI (ji := 5) (pc' := 5) dX12_writeDeadline_2 rfl (fq_RX12_41_65) (by decide +kernel) rfl (Or.inl ⟨rfl, rc_65_5⟩) (Or.inr rfl) ⟨by decide, by omega⟩ ?_
  refine mw_aload_n (v := vR 65) (pc' := 6) dX12_writeDeadline_5 rfl rfl (Or.inl rfl) rfl ?_
  refine mw_aload_n (v := vR 65) (pc' := 7) dX12_writeDeadline_6 rfl rfl (Or.inl rfl) rfl ?_
  refine mw_iload_n (pc' := 8) dX12_writeDeadline_7 rfl rfl rfl ?_
  obtain ⟨o1, h⟩ := h
  refine mw_callV (M' := mX12_noDeadline) (A := [vI x1]) (A' := [vR 65, vI x1]) (S := [vR 65]) (a := 65) (pc' := 11) dX12_writeDeadline_8 rfl cl_RX12_147 cm_X12_noDeadline cv_X12_noDeadline ⟨by decide, by decide, by decide, by decide, by decide⟩ rfl rfl rfl ⟨by decide, by omega⟩ (by decide +kernel) (by decide +kernel) (Nat.le_of_ble_eq_true rfl) (eX12_noDeadline (⟨o1, ?_⟩))
  show MW mX12_writeDeadline 0 0 11 [(0, vR 65), (1, vI x1)] [vI (bI (¬ ((¬ (x1 < 0)) ∧ (¬ (((d 66 3) - 1) < x1))))), vR 65] g (ud d 65 5 0) Q
  refine mw_iconst (pc' := 12) dX12_writeDeadline_11 rfl ⟨by decide, by decide⟩ ?_
  refine mw_callV (M' := mX12_fails) (A := [vI (bI (¬ ((¬ (x1 < 0)) ∧ (¬ (((d 66 3) - 1) < x1))))), vI 1]) (A' := [vR 65, vI (bI (¬ ((¬ (x1 < 0)) ∧ (¬ (((d 66 3) - 1) < x1))))), vI 1]) (S := []) (a := 65) (pc' := 15) dX12_writeDeadline_12 rfl cl_RX12_55 cm_X12_fails cv_X12_fails ⟨by decide, by decide, by decide, by decide, by decide⟩ rfl rfl rfl ⟨by decide, by omega⟩ (by decide +kernel) (by decide +kernel) (Nat.le_of_ble_eq_true rfl) (f_fails (udS) (by decide) ?_)
  refine ⟨fun c2 => ?_, fun c2 => ?_⟩
  · replace h := h.1 (show (¬ ((¬ (x1 < 0)) ∧ (¬ (((d 66 3) - 1) < x1)))) from c2)
    show MW mX12_writeDeadline 0 0 15 [(0, vR 65), (1, vI x1)] [vI 1] g (ud (ud d 65 5 0) 65 5 1) Q
    refine mw_if_eq (tgt := 20) (pc' := 18) dX12_writeDeadline_15 rfl (by decide) (fun q => absurd q (by decide)) (fun _ => ?_)
    refine mw_iconst (pc' := 19) dX12_writeDeadline_18 rfl ⟨by decide, by decide⟩ ?_
    exact mw_iret (pc' := 0) (S := []) dX12_writeDeadline_19 rfl (Or.inl rfl) h
  · replace h := h.2 (show (¬ (x1 < 0)) ∧ (¬ (((d 66 3) - 1) < x1)) from (Classical.not_not.mp c2))
    show MW mX12_writeDeadline 0 0 15 [(0, vR 65), (1, vI x1)] [vI 0] g (ud d 65 5 0) Q
    refine mw_if_eq (tgt := 20) (pc' := 18) dX12_writeDeadline_15 rfl (by decide) (fun _ => ?_) (fun q => absurd q (by decide))
    refine mw_aload_n (v := vR 65) (pc' := 21) dX12_writeDeadline_20 rfl rfl (Or.inl rfl) rfl ?_
    refine mw_iload_n (pc' := 22) dX12_writeDeadline_21 rfl rfl rfl ?_
    obtain ⟨o3, h⟩ := h
    obtain ⟨o4, h⟩ := h
    refine mw_callV (M' := mX12_dueOf) (A := [vI x1]) (A' := [vR 65, vI x1]) (S := []) (a := 65) (pc' := 25) dX12_writeDeadline_22 rfl cl_RX12_150 cm_X12_dueOf cv_X12_dueOf ⟨by decide, by decide, by decide, by decide, by decide⟩ rfl rfl rfl ⟨by decide, by omega⟩ (by decide +kernel) (by decide +kernel) (Nat.le_of_ble_eq_true rfl) (f_dueOf (⟨o3, o4, ?_⟩))
    show MW mX12_writeDeadline 0 0 25 [(0, vR 65), (1, vI x1)] [vI (dueM (d 66) x1)] g (ud d 65 5 0) Q
    refine mw_istore_n (pc' := 26) (L' := [(0, vR 65), (1, vI x1), (2, vI (dueM (d 66) x1))]) dX12_writeDeadline_25 rfl rfl (by decide) rfl ?_
    refine mw_aload_n (v := vR 65) (pc' := 27) dX12_writeDeadline_26 rfl rfl (Or.inl rfl) rfl ?_
    refine mw_iconst (pc' := 28) dX12_writeDeadline_27 rfl ⟨by decide, by decide⟩ ?_
    refine mw_putI (ji := 9) (pc' := 31) dX12_writeDeadline_28 rfl (fq_RX12_99_65) (by decide +kernel) rfl (Or.inl ⟨rfl, rc_65_9⟩) (Or.inr rfl) ⟨by decide, by omega⟩ ?_
    refine mw_aload_n (v := vR 65) (pc' := 32) dX12_writeDeadline_31 rfl rfl (Or.inl rfl) rfl ?_
    refine mw_iload_n (pc' := 33) dX12_writeDeadline_32 rfl rfl rfl ?_
    refine mw_callV (M' := mX12_putNumber) (A := [vI x1]) (A' := [vR 65, vI x1]) (S := []) (a := 65) (pc' := 36) dX12_writeDeadline_33 rfl cl_RX12_218 cm_X12_putNumber cv_X12_putNumber ⟨by decide, by decide, by decide, by decide, by decide⟩ rfl rfl rfl ⟨by decide, by omega⟩ (by decide +kernel) (by decide +kernel) (Nat.le_of_ble_eq_true rfl) (MM.mono ?_ h)
    intro o g7 d8 h5
    rcases o with v6 | k
    · refine mw_top (fun hT => ?_)
      have hG : 76 ≤ g7.2.1 := hT.2
      show MW mX12_writeDeadline 0 0 36 [(0, vR 65), (1, vI x1), (2, vI (dueM (d 66) x1))] [] g7 d8 Q
      refine mw_aload_n (v := vR 65) (pc' := 37) dX12_writeDeadline_36 rfl rfl (Or.inl rfl) rfl ?_
      refine mw_bipush (pc' := 39) dX12_writeDeadline_37 rfl ⟨by decide, by decide⟩ ?_
      obtain ⟨o9, h5⟩ := h5
      obtain ⟨o10, h5⟩ := h5
      refine mw_callV (M' := mX12_put) (A := [vI 58]) (A' := [vR 65, vI 58]) (S := []) (a := 65) (pc' := 42) dX12_writeDeadline_39 rfl cl_RX12_102 cm_X12_put cv_X12_put ⟨by decide, by decide, by decide, by decide, by decide⟩ rfl rfl rfl ⟨by decide, by omega⟩ (by decide +kernel) (by decide +kernel) (Nat.le_of_ble_eq_true rfl) (eX12_put (⟨o9, o10, ?_⟩))
      show MW mX12_writeDeadline 0 0 42 [(0, vR 65), (1, vI x1), (2, vI (dueM (d 66) x1))] [] g7 (ud (ud d8 70 (d8 65 9) 58) 65 9 ((d8 65 9) + 1)) Q
      refine mw_aload_n (v := vR 65) (pc' := 43) dX12_writeDeadline_42 rfl rfl (Or.inl rfl) rfl ?_
      refine mw_aload_n (v := vR 65) (pc' := 44) dX12_writeDeadline_43 rfl rfl (Or.inl rfl) rfl ?_
      refine mw_iload_n (pc' := 45) dX12_writeDeadline_44 rfl rfl rfl ?_
      refine mw_bipush (pc' := 47) dX12_writeDeadline_45 rfl ⟨by decide, by decide⟩ ?_
      obtain ⟨o11, h5⟩ := h5
      refine mw_callV (M' := mX12_of) (A := [vI x1, vI 6]) (A' := [vR 65, vI x1, vI 6]) (S := [vR 65]) (a := 65) (pc' := 50) dX12_writeDeadline_47 rfl cl_RX12_131 cm_X12_of cv_X12_of ⟨by decide, by decide, by decide, by decide, by decide⟩ rfl rfl rfl ⟨by decide, by omega⟩ (by decide +kernel) (by decide +kernel) (Nat.le_of_ble_eq_true rfl) (f_dlOf (k := 145 + 16 * x1) (by omega) (⟨o11, (by decide), ?_⟩))
      show MW mX12_writeDeadline 0 0 50 [(0, vR 65), (1, vI x1), (2, vI (dueM (d 66) x1))] [vI (d8 66 (145 + 16 * x1)), vR 65] g7 (ud (ud d8 70 (d8 65 9) 58) 65 9 ((d8 65 9) + 1)) Q
      obtain ⟨o12, h5⟩ := h5
      obtain ⟨o13, h5⟩ := h5
      refine mw_callV (M' := mX12_put) (A := [vI (d8 66 (145 + 16 * x1))]) (A' := [vR 65, vI (d8 66 (145 + 16 * x1))]) (S := []) (a := 65) (pc' := 53) dX12_writeDeadline_50 rfl cl_RX12_102 cm_X12_put cv_X12_put ⟨by decide, by decide, by decide, by decide, by decide⟩ rfl rfl rfl ⟨by decide, by omega⟩ (by decide +kernel) (by decide +kernel) (Nat.le_of_ble_eq_true rfl) (eX12_put (⟨o12, o13, ?_⟩))
      show MW mX12_writeDeadline 0 0 53 [(0, vR 65), (1, vI x1), (2, vI (dueM (d 66) x1))] [] g7 (ud (ud (ud (ud d8 70 (d8 65 9) 58) 65 9 ((d8 65 9) + 1)) 70 ((d8 65 9) + 1) (d8 66 (145 + 16 * x1))) 65 9 ((((d8 65 9) + 1)) + 1)) Q
      refine mw_aload_n (v := vR 65) (pc' := 54) dX12_writeDeadline_53 rfl rfl (Or.inl rfl) rfl ?_
      refine mw_aload_n (v := vR 65) (pc' := 55) dX12_writeDeadline_54 rfl rfl (Or.inl rfl) rfl ?_
      refine mw_iload_n (pc' := 56) dX12_writeDeadline_55 rfl rfl rfl ?_
      refine mw_iconst (pc' := 57) dX12_writeDeadline_56 rfl ⟨by decide, by decide⟩ ?_
      refine mw_callV (M' := mX12_of) (A := [vI x1, vI 0]) (A' := [vR 65, vI x1, vI 0]) (S := [vR 65]) (a := 65) (pc' := 60) dX12_writeDeadline_57 rfl cl_RX12_131 cm_X12_of cv_X12_of ⟨by decide, by decide, by decide, by decide, by decide⟩ rfl rfl rfl ⟨by decide, by omega⟩ (by decide +kernel) (by decide +kernel) (Nat.le_of_ble_eq_true rfl) (f_dlOf (k := 139 + 16 * x1) (by omega) (⟨o11, (by decide), ?_⟩))
      show MW mX12_writeDeadline 0 0 60 [(0, vR 65), (1, vI x1), (2, vI (dueM (d 66) x1))] [vI (d8 66 (139 + 16 * x1)), vR 65] g7 (ud (ud (ud (ud d8 70 (d8 65 9) 58) 65 9 ((d8 65 9) + 1)) 70 ((d8 65 9) + 1) (d8 66 (145 + 16 * x1))) 65 9 ((((d8 65 9) + 1)) + 1)) Q
      refine mw_callV (M' := mX12_putNumber) (A := [vI (d8 66 (139 + 16 * x1))]) (A' := [vR 65, vI (d8 66 (139 + 16 * x1))]) (S := []) (a := 65) (pc' := 63) dX12_writeDeadline_60 rfl cl_RX12_218 cm_X12_putNumber cv_X12_putNumber ⟨by decide, by decide, by decide, by decide, by decide⟩ rfl rfl rfl ⟨by decide, by omega⟩ (by decide +kernel) (by decide +kernel) (Nat.le_of_ble_eq_true rfl) (MM.mono ?_ h5)
      intro o g17 d18 h15
      rcases o with v16 | k
      · refine mw_top (fun hT => ?_)
        have hG : 76 ≤ g17.2.1 := hT.2
        show MW mX12_writeDeadline 0 0 63 [(0, vR 65), (1, vI x1), (2, vI (dueM (d 66) x1))] [] g17 d18 Q
        refine mw_aload_n (v := vR 65) (pc' := 64) dX12_writeDeadline_63 rfl rfl (Or.inl rfl) rfl ?_
        refine mw_bipush (pc' := 66) dX12_writeDeadline_64 rfl ⟨by decide, by decide⟩ ?_
        obtain ⟨o19, h15⟩ := h15
        obtain ⟨o20, h15⟩ := h15
        refine mw_callV (M' := mX12_put) (A := [vI 62]) (A' := [vR 65, vI 62]) (S := []) (a := 65) (pc' := 69) dX12_writeDeadline_66 rfl cl_RX12_102 cm_X12_put cv_X12_put ⟨by decide, by decide, by decide, by decide, by decide⟩ rfl rfl rfl ⟨by decide, by omega⟩ (by decide +kernel) (by decide +kernel) (Nat.le_of_ble_eq_true rfl) (eX12_put (⟨o19, o20, ?_⟩))
        show MW mX12_writeDeadline 0 0 69 [(0, vR 65), (1, vI x1), (2, vI (dueM (d 66) x1))] [] g17 (ud (ud d18 70 (d18 65 9) 62) 65 9 ((d18 65 9) + 1)) Q
        refine mw_iload_n (pc' := 70) dX12_writeDeadline_69 rfl rfl rfl ?_
        refine mw_iconst (pc' := 71) dX12_writeDeadline_70 rfl ⟨by decide, by decide⟩ ?_
        refine mw_icmp_ne (tgt := 83) (pc' := 74) dX12_writeDeadline_71 rfl (by decide) (fun c25 => ?_) (fun c25 => ?_)
        · replace h15 := h15.2 c25
          refine mw_aload_n (v := vR 65) (pc' := 84) dX12_writeDeadline_83 rfl rfl (Or.inl rfl) rfl ?_
          refine mw_iload_n (pc' := 85) dX12_writeDeadline_84 rfl rfl rfl ?_
          refine mw_callV (M' := mX12_putNumber) (A := [vI (dueM (d 66) x1)]) (A' := [vR 65, vI (dueM (d 66) x1)]) (S := []) (a := 65) (pc' := 88) dX12_writeDeadline_85 rfl cl_RX12_218 cm_X12_putNumber cv_X12_putNumber ⟨by decide, by decide, by decide, by decide, by decide⟩ rfl rfl rfl ⟨by decide, by omega⟩ (by decide +kernel) (by decide +kernel) (Nat.le_of_ble_eq_true rfl) (MM.mono ?_ h15)
          intro o g45 d46 h43
          rcases o with v44 | k
          · refine mw_top (fun hT => ?_)
            have hG : 76 ≤ g45.2.1 := hT.2
            show MW mX12_writeDeadline 0 0 88 [(0, vR 65), (1, vI x1), (2, vI (dueM (d 66) x1))] [] g45 d46 Q
            refine mw_aload_n (v := vR 65) (pc' := 89) dX12_writeDeadline_88 rfl rfl (Or.inl rfl) rfl ?_
            refine mw_iload_n (pc' := 90) dX12_writeDeadline_89 rfl rfl rfl ?_
            obtain ⟨o47, h43⟩ := h43
            obtain ⟨o48, h43⟩ := h43
            refine mw_callV (M' := mX12_grantedOf) (A := [vI x1]) (A' := [vR 65, vI x1]) (S := []) (a := 65) (pc' := 93) dX12_writeDeadline_90 rfl cl_RX12_162 cm_X12_grantedOf cv_X12_grantedOf ⟨by decide, by decide, by decide, by decide, by decide⟩ rfl rfl rfl ⟨by decide, by omega⟩ (by decide +kernel) (by decide +kernel) (Nat.le_of_ble_eq_true rfl) (f_grantedOf (⟨o47, o48, ?_⟩))
            show MW mX12_writeDeadline 0 0 93 [(0, vR 65), (1, vI x1), (2, vI (dueM (d 66) x1))] [vI (grF (d46 66) x1)] g45 d46 Q
            refine mw_if_le (tgt := 111) (pc' := 96) dX12_writeDeadline_93 rfl (by decide) (fun c53 => ?_) (fun c53 => ?_)
            · replace h43 := h43.1 c53
              refine mw_aload_n (v := vR 65) (pc' := 112) dX12_writeDeadline_111 rfl rfl (Or.inl rfl) rfl ?_
              refine mw_getI (ji := 9) (pc' := 115) dX12_writeDeadline_112 rfl fi_RX12_99_65 rfl ⟨by decide, by decide⟩ ?_
              exact mw_iret (pc' := 0) (S := []) dX12_writeDeadline_115 rfl (Or.inl rfl) h43
            · replace h43 := h43.2 c53
              refine mw_aload_n (v := vR 65) (pc' := 97) dX12_writeDeadline_96 rfl rfl (Or.inl rfl) rfl ?_
              refine mw_bipush (pc' := 99) dX12_writeDeadline_97 rfl ⟨by decide, by decide⟩ ?_
              obtain ⟨o54, h43⟩ := h43
              obtain ⟨o55, h43⟩ := h43
              refine mw_callV (M' := mX12_put) (A := [vI 43]) (A' := [vR 65, vI 43]) (S := []) (a := 65) (pc' := 102) dX12_writeDeadline_99 rfl cl_RX12_102 cm_X12_put cv_X12_put ⟨by decide, by decide, by decide, by decide, by decide⟩ rfl rfl rfl ⟨by decide, by omega⟩ (by decide +kernel) (by decide +kernel) (Nat.le_of_ble_eq_true rfl) (eX12_put (⟨o54, o55, ?_⟩))
              show MW mX12_writeDeadline 0 0 102 [(0, vR 65), (1, vI x1), (2, vI (dueM (d 66) x1))] [] g45 (ud (ud d46 70 (d46 65 9) 43) 65 9 ((d46 65 9) + 1)) Q
              refine mw_aload_n (v := vR 65) (pc' := 103) dX12_writeDeadline_102 rfl rfl (Or.inl rfl) rfl ?_
              refine mw_aload_n (v := vR 65) (pc' := 104) dX12_writeDeadline_103 rfl rfl (Or.inl rfl) rfl ?_
              refine mw_iload_n (pc' := 105) dX12_writeDeadline_104 rfl rfl rfl ?_
              refine mw_callV (M' := mX12_grantedOf) (A := [vI x1]) (A' := [vR 65, vI x1]) (S := [vR 65]) (a := 65) (pc' := 108) dX12_writeDeadline_105 rfl cl_RX12_162 cm_X12_grantedOf cv_X12_grantedOf ⟨by decide, by decide, by decide, by decide, by decide⟩ rfl rfl rfl ⟨by decide, by omega⟩ (by decide +kernel) (by decide +kernel) (Nat.le_of_ble_eq_true rfl) (f_grantedOf (⟨o47, o48, ?_⟩))
              show MW mX12_writeDeadline 0 0 108 [(0, vR 65), (1, vI x1), (2, vI (dueM (d 66) x1))] [vI (grF (d46 66) x1), vR 65] g45 (ud (ud d46 70 (d46 65 9) 43) 65 9 ((d46 65 9) + 1)) Q
              refine mw_callV (M' := mX12_putNumber) (A := [vI (grF (d46 66) x1)]) (A' := [vR 65, vI (grF (d46 66) x1)]) (S := []) (a := 65) (pc' := 111) dX12_writeDeadline_108 rfl cl_RX12_218 cm_X12_putNumber cv_X12_putNumber ⟨by decide, by decide, by decide, by decide, by decide⟩ rfl rfl rfl ⟨by decide, by omega⟩ (by decide +kernel) (by decide +kernel) (Nat.le_of_ble_eq_true rfl) (MM.mono ?_ h43)
              intro o g60 d61 h58
              rcases o with v59 | k
              · refine mw_top (fun hT => ?_)
                have hG : 76 ≤ g60.2.1 := hT.2
                show MW mX12_writeDeadline 0 0 111 [(0, vR 65), (1, vI x1), (2, vI (dueM (d 66) x1))] [] g60 d61 Q
                refine mw_aload_n (v := vR 65) (pc' := 112) dX12_writeDeadline_111 rfl rfl (Or.inl rfl) rfl ?_
                refine mw_getI (ji := 9) (pc' := 115) dX12_writeDeadline_112 rfl fi_RX12_99_65 rfl ⟨by decide, by decide⟩ ?_
                exact mw_iret (pc' := 0) (S := []) dX12_writeDeadline_115 rfl (Or.inl rfl) h58
              · exact mx_out rfl h58
          · exact mx_out rfl h43
        · replace h15 := h15.1 c25
          refine mw_aload_n (v := vR 65) (pc' := 75) dX12_writeDeadline_74 rfl rfl (Or.inl rfl) rfl ?_
          refine mw_bipush (pc' := 77) dX12_writeDeadline_75 rfl ⟨by decide, by decide⟩ ?_
          obtain ⟨o26, h15⟩ := h15
          obtain ⟨o27, h15⟩ := h15
          refine mw_callV (M' := mX12_put) (A := [vI 45]) (A' := [vR 65, vI 45]) (S := []) (a := 65) (pc' := 80) dX12_writeDeadline_77 rfl cl_RX12_102 cm_X12_put cv_X12_put ⟨by decide, by decide, by decide, by decide, by decide⟩ rfl rfl rfl ⟨by decide, by omega⟩ (by decide +kernel) (by decide +kernel) (Nat.le_of_ble_eq_true rfl) (eX12_put (⟨o26, o27, ?_⟩))
          show MW mX12_writeDeadline 0 0 80 [(0, vR 65), (1, vI x1), (2, vI (dueM (d 66) x1))] [] g17 (ud (ud (ud (ud d18 70 (d18 65 9) 62) 65 9 ((d18 65 9) + 1)) 70 ((d18 65 9) + 1) 45) 65 9 ((((d18 65 9) + 1)) + 1)) Q
          refine mw_goto (pc' := 0) (tgt := 88) dX12_writeDeadline_80 (by decide) ?_
          refine mw_aload_n (v := vR 65) (pc' := 89) dX12_writeDeadline_88 rfl rfl (Or.inl rfl) rfl ?_
          refine mw_iload_n (pc' := 90) dX12_writeDeadline_89 rfl rfl rfl ?_
          obtain ⟨o28, h15⟩ := h15
          obtain ⟨o29, h15⟩ := h15
          refine mw_callV (M' := mX12_grantedOf) (A := [vI x1]) (A' := [vR 65, vI x1]) (S := []) (a := 65) (pc' := 93) dX12_writeDeadline_90 rfl cl_RX12_162 cm_X12_grantedOf cv_X12_grantedOf ⟨by decide, by decide, by decide, by decide, by decide⟩ rfl rfl rfl ⟨by decide, by omega⟩ (by decide +kernel) (by decide +kernel) (Nat.le_of_ble_eq_true rfl) (f_grantedOf (⟨o28, o29, ?_⟩))
          show MW mX12_writeDeadline 0 0 93 [(0, vR 65), (1, vI x1), (2, vI (dueM (d 66) x1))] [vI (grF (d18 66) x1)] g17 (ud (ud (ud (ud d18 70 (d18 65 9) 62) 65 9 ((d18 65 9) + 1)) 70 ((d18 65 9) + 1) 45) 65 9 ((((d18 65 9) + 1)) + 1)) Q
          refine mw_if_le (tgt := 111) (pc' := 96) dX12_writeDeadline_93 rfl (by decide) (fun c34 => ?_) (fun c34 => ?_)
          · replace h15 := h15.1 c34
            refine mw_aload_n (v := vR 65) (pc' := 112) dX12_writeDeadline_111 rfl rfl (Or.inl rfl) rfl ?_
            refine mw_getI (ji := 9) (pc' := 115) dX12_writeDeadline_112 rfl fi_RX12_99_65 rfl ⟨by decide, by decide⟩ ?_
            refine mw_st (b := (((d18 65 9) + 1)) + 1) (udS) ?_
            exact mw_iret (pc' := 0) (S := []) dX12_writeDeadline_115 rfl (Or.inl rfl) h15
          · replace h15 := h15.2 c34
            refine mw_aload_n (v := vR 65) (pc' := 97) dX12_writeDeadline_96 rfl rfl (Or.inl rfl) rfl ?_
            refine mw_bipush (pc' := 99) dX12_writeDeadline_97 rfl ⟨by decide, by decide⟩ ?_
            obtain ⟨o35, h15⟩ := h15
            obtain ⟨o36, h15⟩ := h15
            refine mw_callV (M' := mX12_put) (A := [vI 43]) (A' := [vR 65, vI 43]) (S := []) (a := 65) (pc' := 102) dX12_writeDeadline_99 rfl cl_RX12_102 cm_X12_put cv_X12_put ⟨by decide, by decide, by decide, by decide, by decide⟩ rfl rfl rfl ⟨by decide, by omega⟩ (by decide +kernel) (by decide +kernel) (Nat.le_of_ble_eq_true rfl) (eX12_put (⟨o35, o36, ?_⟩))
            show MW mX12_writeDeadline 0 0 102 [(0, vR 65), (1, vI x1), (2, vI (dueM (d 66) x1))] [] g17 (ud (ud (ud (ud (ud (ud d18 70 (d18 65 9) 62) 65 9 ((d18 65 9) + 1)) 70 ((d18 65 9) + 1) 45) 65 9 ((((d18 65 9) + 1)) + 1)) 70 ((((d18 65 9) + 1)) + 1) 43) 65 9 ((((((d18 65 9) + 1)) + 1)) + 1)) Q
            refine mw_aload_n (v := vR 65) (pc' := 103) dX12_writeDeadline_102 rfl rfl (Or.inl rfl) rfl ?_
            refine mw_aload_n (v := vR 65) (pc' := 104) dX12_writeDeadline_103 rfl rfl (Or.inl rfl) rfl ?_
            refine mw_iload_n (pc' := 105) dX12_writeDeadline_104 rfl rfl rfl ?_
            refine mw_callV (M' := mX12_grantedOf) (A := [vI x1]) (A' := [vR 65, vI x1]) (S := [vR 65]) (a := 65) (pc' := 108) dX12_writeDeadline_105 rfl cl_RX12_162 cm_X12_grantedOf cv_X12_grantedOf ⟨by decide, by decide, by decide, by decide, by decide⟩ rfl rfl rfl ⟨by decide, by omega⟩ (by decide +kernel) (by decide +kernel) (Nat.le_of_ble_eq_true rfl) (f_grantedOf (⟨o28, o29, ?_⟩))
            show MW mX12_writeDeadline 0 0 108 [(0, vR 65), (1, vI x1), (2, vI (dueM (d 66) x1))] [vI (grF (d18 66) x1), vR 65] g17 (ud (ud (ud (ud (ud (ud d18 70 (d18 65 9) 62) 65 9 ((d18 65 9) + 1)) 70 ((d18 65 9) + 1) 45) 65 9 ((((d18 65 9) + 1)) + 1)) 70 ((((d18 65 9) + 1)) + 1) 43) 65 9 ((((((d18 65 9) + 1)) + 1)) + 1)) Q
            refine mw_callV (M' := mX12_putNumber) (A := [vI (grF (d18 66) x1)]) (A' := [vR 65, vI (grF (d18 66) x1)]) (S := []) (a := 65) (pc' := 111) dX12_writeDeadline_108 rfl cl_RX12_218 cm_X12_putNumber cv_X12_putNumber ⟨by decide, by decide, by decide, by decide, by decide⟩ rfl rfl rfl ⟨by decide, by omega⟩ (by decide +kernel) (by decide +kernel) (Nat.le_of_ble_eq_true rfl) (MM.mono ?_ h15)
            intro o g41 d42 h39
            rcases o with v40 | k
            · refine mw_top (fun hT => ?_)
              have hG : 76 ≤ g41.2.1 := hT.2
              show MW mX12_writeDeadline 0 0 111 [(0, vR 65), (1, vI x1), (2, vI (dueM (d 66) x1))] [] g41 d42 Q
              refine mw_aload_n (v := vR 65) (pc' := 112) dX12_writeDeadline_111 rfl rfl (Or.inl rfl) rfl ?_
              refine mw_getI (ji := 9) (pc' := 115) dX12_writeDeadline_112 rfl fi_RX12_99_65 rfl ⟨by decide, by decide⟩ ?_
              exact mw_iret (pc' := 0) (S := []) dX12_writeDeadline_115 rfl (Or.inl rfl) h39
            · exact mx_out rfl h39
      · exact mx_out rfl h15
    · exact mx_out rfl h5
theorem eX12_charAt {x1 : Int} {g : mG} {d : mD} {Q : mQ} (h : (iI ((d 65 9) - 1)) ∧ ((((¬ ((¬ (x1 < 0)) ∧ (¬ (((d 65 9) - 1) < x1))))) → Q (.inl 0) g (ud (ud d 65 5 0) 65 5 1)) ∧ (((¬ (x1 < 0)) ∧ (¬ (((d 65 9) - 1) < x1))) → (0 ≤ x1 ∧ x1 < 80) ∧ ((0 ≤ (d 70 x1) % 65536 ∧ (d 70 x1) % 65536 ≤ 65535) ∧ (Q (.inl ((d 70 x1) % 65536)) g (ud d 65 5 0)))))) : MM mX12_charAt [vR 65, vI x1] g d Q := by
  refine MM_of (by decide) rfl (by simp [catV]) (Nat.le_of_ble_eq_true rfl) ?_
  show MW mX12_charAt 0 0 0 [(0, vR 65), (1, vI x1)] [] g d Q
  refine mw_top (fun hT => ?_)
  have hG : 76 ≤ g.2.1 := hT.2
  refine mw_aload_n (v := vR 65) (pc' := 1) dX12_charAt_0 rfl rfl (Or.inl rfl) rfl ?_
  refine mw_iconst (pc' := 2) dX12_charAt_1 rfl ⟨by decide, by decide⟩ ?_
  refine mw_putI (ji := 5) (pc' := 5) dX12_charAt_2 rfl (fq_RX12_41_65) (by decide +kernel) rfl (Or.inl ⟨rfl, rc_65_5⟩) (Or.inr rfl) ⟨by decide, by omega⟩ ?_
  refine mw_aload_n (v := vR 65) (pc' := 6) dX12_charAt_5 rfl rfl (Or.inl rfl) rfl ?_
  refine mw_iload_n (pc' := 7) dX12_charAt_6 rfl rfl rfl ?_
  refine mw_iconst (pc' := 8) dX12_charAt_7 rfl ⟨by decide, by decide⟩ ?_
  refine mw_aload_n (v := vR 65) (pc' := 9) dX12_charAt_8 rfl rfl (Or.inl rfl) rfl ?_
  refine mw_getI (ji := 9) (pc' := 12) dX12_charAt_9 rfl fi_RX12_99_65 rfl ⟨by decide, by decide⟩ ?_
  refine mw_st (b := d 65 9) (udI (by decide) (rfl)) ?_
  refine mw_iconst (pc' := 13) dX12_charAt_12 rfl ⟨by decide, by decide⟩ ?_
  obtain ⟨o1, h⟩ := h
  refine mw_isub (pc' := 14) dX12_charAt_13 rfl o1 ?_
  refine mw_callS (M' := mX12_in) (A := [vI x1, vI 0, vI ((d 65 9) - 1)]) (S := [vR 65]) (pc' := 17) dX12_charAt_14 rfl cl_RX12_64 cm_X12_in cs_X12_in ⟨by decide, by decide, by decide, by decide, by decide⟩ rfl rfl (Nat.le_of_ble_eq_true rfl) (eX12_in ?_)
  show MW mX12_charAt 0 0 17 [(0, vR 65), (1, vI x1)] [vI (bI ((¬ (x1 < 0)) ∧ (¬ (((d 65 9) - 1) < x1)))), vR 65] g (ud d 65 5 0) Q
  suffices k2 : MW mX12_charAt 0 0 25 [(0, vR 65), (1, vI x1)] [vI (bI (¬ ((¬ (x1 < 0)) ∧ (¬ (((d 65 9) - 1) < x1))))), vR 65] g (ud d 65 5 0) Q by
    refine mw_if_ne (tgt := 24) (pc' := 20) dX12_charAt_17 rfl (by decide) (fun c3 => ?_) (fun c3 => ?_)
    · replace c3 := bI_n0.mp c3
      refine mw_iconst (pc' := 25) dX12_charAt_24 rfl ⟨by decide, by decide⟩ ?_
      exact mw_st (bI_f (fun h => (h c3))).symm k2
    · replace c3 := bI_0.mp c3
      refine mw_iconst (pc' := 21) dX12_charAt_20 rfl ⟨by decide, by decide⟩ ?_
      refine mw_goto (pc' := 0) (tgt := 25) dX12_charAt_21 (by decide) ?_
      exact mw_st (bI_t c3).symm k2
  refine mw_iconst (pc' := 26) dX12_charAt_25 rfl ⟨by decide, by decide⟩ ?_
  refine mw_callV (M' := mX12_fails) (A := [vI (bI (¬ ((¬ (x1 < 0)) ∧ (¬ (((d 65 9) - 1) < x1))))), vI 1]) (A' := [vR 65, vI (bI (¬ ((¬ (x1 < 0)) ∧ (¬ (((d 65 9) - 1) < x1))))), vI 1]) (S := []) (a := 65) (pc' := 29) dX12_charAt_26 rfl cl_RX12_55 cm_X12_fails cv_X12_fails ⟨by decide, by decide, by decide, by decide, by decide⟩ rfl rfl rfl ⟨by decide, by omega⟩ (by decide +kernel) (by decide +kernel) (Nat.le_of_ble_eq_true rfl) (f_fails (udS) (by decide) ?_)
  refine ⟨fun c4 => ?_, fun c4 => ?_⟩
  · replace h := h.1 (show (¬ ((¬ (x1 < 0)) ∧ (¬ (((d 65 9) - 1) < x1)))) from c4)
    show MW mX12_charAt 0 0 29 [(0, vR 65), (1, vI x1)] [vI 1] g (ud (ud d 65 5 0) 65 5 1) Q
    refine mw_if_eq (tgt := 36) (pc' := 32) dX12_charAt_29 rfl (by decide) (fun q => absurd q (by decide)) (fun _ => ?_)
    refine mw_iconst (pc' := 33) dX12_charAt_32 rfl ⟨by decide, by decide⟩ ?_
    refine mw_goto (pc' := 0) (tgt := 43) dX12_charAt_33 (by decide) ?_
    exact mw_iret (pc' := 0) (S := []) dX12_charAt_43 rfl (Or.inr (Or.inr ⟨rfl, by decide, by decide⟩)) h
  · replace h := h.2 (show (¬ (x1 < 0)) ∧ (¬ (((d 65 9) - 1) < x1)) from (Classical.not_not.mp c4))
    show MW mX12_charAt 0 0 29 [(0, vR 65), (1, vI x1)] [vI 0] g (ud d 65 5 0) Q
    refine mw_if_eq (tgt := 36) (pc' := 32) dX12_charAt_29 rfl (by decide) (fun _ => ?_) (fun q => absurd q (by decide))
    refine mw_aload_n (v := vR 65) (pc' := 37) dX12_charAt_36 rfl rfl (Or.inl rfl) rfl ?_
    refine mw_getP (v := 70) (pc' := 40) dX12_charAt_37 rfl fr_RX12_22_65 rfl sp_65_8 ⟨by decide, by decide⟩ ?_
    refine mw_iload_n (pc' := 41) dX12_charAt_40 rfl rfl rfl ?_
    obtain ⟨o5, h⟩ := h
    refine mw_iald (pc' := 42) dX12_charAt_41 rfl lk_70 ⟨by decide, by decide⟩ (by rw [ln_70]; exact o5) ?_
    refine mw_st (b := d 70 x1) (udA (by decide) (rfl)) ?_
    refine mw_i2c (pc' := 43) dX12_charAt_42 rfl ?_
    obtain ⟨o6, h⟩ := h
    exact mw_iret (pc' := 0) (S := []) dX12_charAt_43 rfl (Or.inr (Or.inr ⟨rfl, o6⟩)) h
theorem eX12_isConsistent {g : mG} {d : mD} {Q : mQ} (h : Q (.inl 1) g (ud d 65 5 0)) : MM mX12_isConsistent [vR 65] g d Q := by
  refine MM_of (by decide) rfl (by simp [catV]) (Nat.le_of_ble_eq_true rfl) ?_
  show MW mX12_isConsistent 0 0 0 [(0, vR 65)] [] g d Q
  refine mw_top (fun hT => ?_)
  have hG : 76 ≤ g.2.1 := hT.2
  refine mw_aload_n (v := vR 65) (pc' := 1) dX12_isConsistent_0 rfl rfl (Or.inl rfl) rfl ?_
  refine mw_iconst (pc' := 2) dX12_isConsistent_1 rfl ⟨by decide, by decide⟩ ?_
  refine mw_putI (ji := 5) (pc' := 5) dX12_isConsistent_2 rfl (fq_RX12_41_65) (by decide +kernel) rfl (Or.inl ⟨rfl, rc_65_5⟩) (Or.inr rfl) ⟨by decide, by omega⟩ ?_
  refine mw_iconst (pc' := 6) dX12_isConsistent_5 rfl ⟨by decide, by decide⟩ ?_
  exact mw_iret (pc' := 0) (S := []) dX12_isConsistent_6 rfl (Or.inr (Or.inl ⟨rfl, by decide, by decide⟩)) h
theorem eX12_errorPosition {g : mG} {d : mD} {Q : mQ} (h : (((d 65 10 = (-1))) → Q (.inl 0) g (ud (ud d 65 5 0) 65 5 1)) ∧ ((¬ (d 65 10 = (-1))) → Q (.inl (d 65 10)) g (ud d 65 5 0))) : MM mX12_errorPosition [vR 65] g d Q := by
  refine MM_of (by decide) rfl (by simp [catV]) (Nat.le_of_ble_eq_true rfl) ?_
  show MW mX12_errorPosition 0 0 0 [(0, vR 65)] [] g d Q
  refine mw_top (fun hT => ?_)
  have hG : 76 ≤ g.2.1 := hT.2
  refine mw_aload_n (v := vR 65) (pc' := 1) dX12_errorPosition_0 rfl rfl (Or.inl rfl) rfl ?_
  refine mw_iconst (pc' := 2) dX12_errorPosition_1 rfl ⟨by decide, by decide⟩ ?_
  refine mw_putI (ji := 5) (pc' := 5) dX12_errorPosition_2 rfl (fq_RX12_41_65) (by decide +kernel) rfl (Or.inl ⟨rfl, rc_65_5⟩) (Or.inr rfl) ⟨by decide, by omega⟩ ?_
  refine mw_aload_n (v := vR 65) (pc' := 6) dX12_errorPosition_5 rfl rfl (Or.inl rfl) rfl ?_
  refine mw_aload_n (v := vR 65) (pc' := 7) dX12_errorPosition_6 rfl rfl (Or.inl rfl) rfl ?_
  refine mw_getI (ji := 10) (pc' := 10) dX12_errorPosition_7 rfl fi_RX12_25_65 rfl ⟨by decide, by decide⟩ ?_
  refine mw_st (b := d 65 10) (udI (by decide) (rfl)) ?_
  refine mw_iconst (pc' := 11) dX12_errorPosition_10 rfl ⟨by decide, by decide⟩ ?_
  suffices k1 : MW mX12_errorPosition 0 0 19 [(0, vR 65)] [vI (bI (d 65 10 = (-1))), vR 65] g (ud d 65 5 0) Q by
    refine mw_icmp_ne (tgt := 18) (pc' := 14) dX12_errorPosition_11 rfl (by decide) (fun c2 => ?_) (fun c2 => ?_)
    · refine mw_iconst (pc' := 19) dX12_errorPosition_18 rfl ⟨by decide, by decide⟩ ?_
      exact mw_st (bI_f (fun h => (c2 h))).symm k1
    · refine mw_iconst (pc' := 15) dX12_errorPosition_14 rfl ⟨by decide, by decide⟩ ?_
      refine mw_goto (pc' := 0) (tgt := 19) dX12_errorPosition_15 (by decide) ?_
      exact mw_st (bI_t c2).symm k1
  refine mw_iconst (pc' := 20) dX12_errorPosition_19 rfl ⟨by decide, by decide⟩ ?_
  refine mw_callV (M' := mX12_fails) (A := [vI (bI (d 65 10 = (-1))), vI 1]) (A' := [vR 65, vI (bI (d 65 10 = (-1))), vI 1]) (S := []) (a := 65) (pc' := 23) dX12_errorPosition_20 rfl cl_RX12_55 cm_X12_fails cv_X12_fails ⟨by decide, by decide, by decide, by decide, by decide⟩ rfl rfl rfl ⟨by decide, by omega⟩ (by decide +kernel) (by decide +kernel) (Nat.le_of_ble_eq_true rfl) (f_fails (udS) (by decide) ?_)
  refine ⟨fun c3 => ?_, fun c3 => ?_⟩
  · replace h := h.1 (show (d 65 10 = (-1)) from c3)
    show MW mX12_errorPosition 0 0 23 [(0, vR 65)] [vI 1] g (ud (ud d 65 5 0) 65 5 1) Q
    refine mw_if_eq (tgt := 30) (pc' := 26) dX12_errorPosition_23 rfl (by decide) (fun q => absurd q (by decide)) (fun _ => ?_)
    refine mw_iconst (pc' := 27) dX12_errorPosition_26 rfl ⟨by decide, by decide⟩ ?_
    refine mw_goto (pc' := 0) (tgt := 34) dX12_errorPosition_27 (by decide) ?_
    exact mw_iret (pc' := 0) (S := []) dX12_errorPosition_34 rfl (Or.inl rfl) h
  · replace h := h.2 (show ¬ (d 65 10 = (-1)) from c3)
    show MW mX12_errorPosition 0 0 23 [(0, vR 65)] [vI 0] g (ud d 65 5 0) Q
    refine mw_if_eq (tgt := 30) (pc' := 26) dX12_errorPosition_23 rfl (by decide) (fun _ => ?_) (fun q => absurd q (by decide))
    refine mw_aload_n (v := vR 65) (pc' := 31) dX12_errorPosition_30 rfl rfl (Or.inl rfl) rfl ?_
    refine mw_getI (ji := 10) (pc' := 34) dX12_errorPosition_31 rfl fi_RX12_25_65 rfl ⟨by decide, by decide⟩ ?_
    refine mw_st (b := d 65 10) (udI (by decide) (rfl)) ?_
    exact mw_iret (pc' := 0) (S := []) dX12_errorPosition_34 rfl (Or.inl rfl) h
theorem eX12_failedCommand {g : mG} {d : mD} {Q : mQ} (h : (((d 65 11 = (-1))) → Q (.inl 0) g (ud (ud d 65 5 0) 65 5 1)) ∧ ((¬ (d 65 11 = (-1))) → Q (.inl (d 65 11)) g (ud d 65 5 0))) : MM mX12_failedCommand [vR 65] g d Q := by
  refine MM_of (by decide) rfl (by simp [catV]) (Nat.le_of_ble_eq_true rfl) ?_
  show MW mX12_failedCommand 0 0 0 [(0, vR 65)] [] g d Q
  refine mw_top (fun hT => ?_)
  have hG : 76 ≤ g.2.1 := hT.2
  refine mw_aload_n (v := vR 65) (pc' := 1) dX12_failedCommand_0 rfl rfl (Or.inl rfl) rfl ?_
  refine mw_iconst (pc' := 2) dX12_failedCommand_1 rfl ⟨by decide, by decide⟩ ?_
  refine mw_putI (ji := 5) (pc' := 5) dX12_failedCommand_2 rfl (fq_RX12_41_65) (by decide +kernel) rfl (Or.inl ⟨rfl, rc_65_5⟩) (Or.inr rfl) ⟨by decide, by omega⟩ ?_
  refine mw_aload_n (v := vR 65) (pc' := 6) dX12_failedCommand_5 rfl rfl (Or.inl rfl) rfl ?_
  refine mw_aload_n (v := vR 65) (pc' := 7) dX12_failedCommand_6 rfl rfl (Or.inl rfl) rfl ?_
  refine mw_getI (ji := 11) (pc' := 10) dX12_failedCommand_7 rfl fi_RX12_29_65 rfl ⟨by decide, by decide⟩ ?_
  refine mw_st (b := d 65 11) (udI (by decide) (rfl)) ?_
  refine mw_iconst (pc' := 11) dX12_failedCommand_10 rfl ⟨by decide, by decide⟩ ?_
  suffices k1 : MW mX12_failedCommand 0 0 19 [(0, vR 65)] [vI (bI (d 65 11 = (-1))), vR 65] g (ud d 65 5 0) Q by
    refine mw_icmp_ne (tgt := 18) (pc' := 14) dX12_failedCommand_11 rfl (by decide) (fun c2 => ?_) (fun c2 => ?_)
    · refine mw_iconst (pc' := 19) dX12_failedCommand_18 rfl ⟨by decide, by decide⟩ ?_
      exact mw_st (bI_f (fun h => (c2 h))).symm k1
    · refine mw_iconst (pc' := 15) dX12_failedCommand_14 rfl ⟨by decide, by decide⟩ ?_
      refine mw_goto (pc' := 0) (tgt := 19) dX12_failedCommand_15 (by decide) ?_
      exact mw_st (bI_t c2).symm k1
  refine mw_iconst (pc' := 20) dX12_failedCommand_19 rfl ⟨by decide, by decide⟩ ?_
  refine mw_callV (M' := mX12_fails) (A := [vI (bI (d 65 11 = (-1))), vI 1]) (A' := [vR 65, vI (bI (d 65 11 = (-1))), vI 1]) (S := []) (a := 65) (pc' := 23) dX12_failedCommand_20 rfl cl_RX12_55 cm_X12_fails cv_X12_fails ⟨by decide, by decide, by decide, by decide, by decide⟩ rfl rfl rfl ⟨by decide, by omega⟩ (by decide +kernel) (by decide +kernel) (Nat.le_of_ble_eq_true rfl) (f_fails (udS) (by decide) ?_)
  refine ⟨fun c3 => ?_, fun c3 => ?_⟩
  · replace h := h.1 (show (d 65 11 = (-1)) from c3)
    show MW mX12_failedCommand 0 0 23 [(0, vR 65)] [vI 1] g (ud (ud d 65 5 0) 65 5 1) Q
    refine mw_if_eq (tgt := 30) (pc' := 26) dX12_failedCommand_23 rfl (by decide) (fun q => absurd q (by decide)) (fun _ => ?_)
    refine mw_iconst (pc' := 27) dX12_failedCommand_26 rfl ⟨by decide, by decide⟩ ?_
    refine mw_goto (pc' := 0) (tgt := 34) dX12_failedCommand_27 (by decide) ?_
    exact mw_iret (pc' := 0) (S := []) dX12_failedCommand_34 rfl (Or.inl rfl) h
  · replace h := h.2 (show ¬ (d 65 11 = (-1)) from c3)
    show MW mX12_failedCommand 0 0 23 [(0, vR 65)] [vI 0] g (ud d 65 5 0) Q
    refine mw_if_eq (tgt := 30) (pc' := 26) dX12_failedCommand_23 rfl (by decide) (fun _ => ?_) (fun q => absurd q (by decide))
    refine mw_aload_n (v := vR 65) (pc' := 31) dX12_failedCommand_30 rfl rfl (Or.inl rfl) rfl ?_
    refine mw_getI (ji := 11) (pc' := 34) dX12_failedCommand_31 rfl fi_RX12_29_65 rfl ⟨by decide, by decide⟩ ?_
    refine mw_st (b := d 65 11) (udI (by decide) (rfl)) ?_
    exact mw_iret (pc' := 0) (S := []) dX12_failedCommand_34 rfl (Or.inl rfl) h
def pX12_undo_1 (x1 : Int) (g : mG) (d : mD) (Q : mQ) : Prop := MW mX12_undo 0 0 39 [(0, vR 65), (1, vI x1)] [] g d Q
theorem eX12_undo {g : mG} {d : mD} {Q : mQ} (h : (((d 65 3 = 0)) → Q (.inl 0) g (ud (ud d 65 5 0) 65 5 1)) ∧ ((¬ (d 65 3 = 0)) → (iI ((d 65 3) - 1)) ∧ (pX12_undo_1 0 g (ud (ud d 65 5 0) 65 3 ((d 65 3) - 1)) Q))) : MM mX12_undo [vR 65] g d Q := by
  refine MM_of (by decide) rfl (by simp [catV]) (Nat.le_of_ble_eq_true rfl) ?_
  show MW mX12_undo 0 0 0 [(0, vR 65)] [] g d Q
  refine mw_top (fun hT => ?_)
  have hG : 76 ≤ g.2.1 := hT.2
  refine mw_aload_n (v := vR 65) (pc' := 1) dX12_undo_0 rfl rfl (Or.inl rfl) rfl ?_
  refine mw_iconst (pc' := 2) dX12_undo_1 rfl ⟨by decide, by decide⟩ ?_
  refine mw_putI (ji := 5) (pc' := 5) dX12_undo_2 rfl (fq_RX12_41_65) (by decide +kernel) rfl (Or.inl ⟨rfl, rc_65_5⟩) (Or.inr rfl) ⟨by decide, by omega⟩ ?_
  refine mw_aload_n (v := vR 65) (pc' := 6) dX12_undo_5 rfl rfl (Or.inl rfl) rfl ?_
  refine mw_aload_n (v := vR 65) (pc' := 7) dX12_undo_6 rfl rfl (Or.inl rfl) rfl ?_
  refine mw_getI (ji := 3) (pc' := 10) dX12_undo_7 rfl fi_RX12_44_65 rfl ⟨by decide, by decide⟩ ?_
  refine mw_st (b := d 65 3) (udI (by decide) (rfl)) ?_
  suffices k1 : MW mX12_undo 0 0 18 [(0, vR 65)] [vI (bI (d 65 3 = 0)), vR 65] g (ud d 65 5 0) Q by
    refine mw_if_ne (tgt := 17) (pc' := 13) dX12_undo_10 rfl (by decide) (fun c2 => ?_) (fun c2 => ?_)
    · refine mw_iconst (pc' := 18) dX12_undo_17 rfl ⟨by decide, by decide⟩ ?_
      exact mw_st (bI_f (fun h => (c2 h))).symm k1
    · refine mw_iconst (pc' := 14) dX12_undo_13 rfl ⟨by decide, by decide⟩ ?_
      refine mw_goto (pc' := 0) (tgt := 18) dX12_undo_14 (by decide) ?_
      exact mw_st (bI_t c2).symm k1
  refine mw_iconst (pc' := 19) dX12_undo_18 rfl ⟨by decide, by decide⟩ ?_
  refine mw_callV (M' := mX12_fails) (A := [vI (bI (d 65 3 = 0)), vI 1]) (A' := [vR 65, vI (bI (d 65 3 = 0)), vI 1]) (S := []) (a := 65) (pc' := 22) dX12_undo_19 rfl cl_RX12_55 cm_X12_fails cv_X12_fails ⟨by decide, by decide, by decide, by decide, by decide⟩ rfl rfl rfl ⟨by decide, by omega⟩ (by decide +kernel) (by decide +kernel) (Nat.le_of_ble_eq_true rfl) (f_fails (udS) (by decide) ?_)
  refine ⟨fun c3 => ?_, fun c3 => ?_⟩
  · replace h := h.1 (show (d 65 3 = 0) from c3)
    show MW mX12_undo 0 0 22 [(0, vR 65)] [vI 1] g (ud (ud d 65 5 0) 65 5 1) Q
    refine mw_if_eq (tgt := 27) (pc' := 25) dX12_undo_22 rfl (by decide) (fun q => absurd q (by decide)) (fun _ => ?_)
    refine mw_iconst (pc' := 26) dX12_undo_25 rfl ⟨by decide, by decide⟩ ?_
    exact mw_iret (pc' := 0) (S := []) dX12_undo_26 rfl (Or.inl rfl) h
  · replace h := h.2 (show ¬ (d 65 3 = 0) from c3)
    show MW mX12_undo 0 0 22 [(0, vR 65)] [vI 0] g (ud d 65 5 0) Q
    refine mw_if_eq (tgt := 27) (pc' := 25) dX12_undo_22 rfl (by decide) (fun _ => ?_) (fun q => absurd q (by decide))
    refine mw_aload_n (v := vR 65) (pc' := 28) dX12_undo_27 rfl rfl (Or.inl rfl) rfl ?_
    refine mw_dup (pc' := 29) dX12_undo_28 rfl rfl ?_
    refine mw_getI (ji := 3) (pc' := 32) dX12_undo_29 rfl fi_RX12_44_65 rfl ⟨by decide, by decide⟩ ?_
    refine mw_st (b := d 65 3) (udI (by decide) (rfl)) ?_
    refine mw_iconst (pc' := 33) dX12_undo_32 rfl ⟨by decide, by decide⟩ ?_
    obtain ⟨o4, h⟩ := h
    refine mw_isub (pc' := 34) dX12_undo_33 rfl o4 ?_
    refine mw_putI (ji := 3) (pc' := 37) dX12_undo_34 rfl (fq_RX12_44_65) (by decide +kernel) rfl (Or.inl ⟨rfl, rc_65_3⟩) (Or.inr rfl) ⟨by decide, by omega⟩ ?_
    refine mw_iconst (pc' := 38) dX12_undo_37 rfl ⟨by decide, by decide⟩ ?_
    refine mw_istore_n (pc' := 39) (L' := [(0, vR 65), (1, vI 0)]) dX12_undo_38 rfl rfl (by decide) rfl ?_
    exact h
theorem aX12_undo_1 {x1 : Int} {g : mG} {d : mD} {Q : mQ} (h : ((787 ≤ x1) → Q (.inl (d 65 3)) g d) ∧ ((¬ (787 ≤ x1)) → (iI ((d 65 3) * 787)) ∧ ((iI (((d 65 3) * 787) + x1)) ∧ ((0 ≤ ((d 65 3) * 787) + x1 ∧ ((d 65 3) * 787) + x1 < 6296) ∧ ((0 ≤ x1 ∧ x1 < 787) ∧ ((iI (x1 + 1)) ∧ (pX12_undo_1 (x1 + 1) g (ud d 66 x1 (d 68 (((d 65 3) * 787) + x1))) Q))))))) : pX12_undo_1 x1 g d Q := by
  unfold pX12_undo_1
  refine mw_top (fun hT => ?_)
  have hG : 76 ≤ g.2.1 := hT.2
  refine mw_iload_n (pc' := 40) dX12_undo_39 rfl rfl rfl ?_
  refine mw_sipush (pc' := 43) dX12_undo_40 rfl ⟨by decide, by decide⟩ ?_
  refine mw_icmp_ge (tgt := 73) (pc' := 46) dX12_undo_43 rfl (by decide) (fun c11 => ?_) (fun c11 => ?_)
  · replace h := h.1 c11
    refine mw_aload_n (v := vR 65) (pc' := 74) dX12_undo_73 rfl rfl (Or.inl rfl) rfl ?_
    refine mw_getI (ji := 3) (pc' := 77) dX12_undo_74 rfl fi_RX12_44_65 rfl ⟨by decide, by decide⟩ ?_
    exact mw_iret (pc' := 0) (S := []) dX12_undo_77 rfl (Or.inl rfl) h
  · replace h := h.2 c11
    refine mw_aload_n (v := vR 65) (pc' := 47) dX12_undo_46 rfl rfl (Or.inl rfl) rfl ?_
    refine mw_getP (v := 66) (pc' := 50) dX12_undo_47 rfl fr_RX12_9_65 rfl sp_65_0 ⟨by decide, by decide⟩ ?_
    refine mw_iload_n (pc' := 51) dX12_undo_50 rfl rfl rfl ?_
    refine mw_aload_n (v := vR 65) (pc' := 52) dX12_undo_51 rfl rfl (Or.inl rfl) rfl ?_
    refine mw_getP (v := 68) (pc' := 55) dX12_undo_52 rfl fr_RX12_16_65 rfl sp_65_2 ⟨by decide, by decide⟩ ?_
    refine mw_aload_n (v := vR 65) (pc' := 56) dX12_undo_55 rfl rfl (Or.inl rfl) rfl ?_
    refine mw_getI (ji := 3) (pc' := 59) dX12_undo_56 rfl fi_RX12_44_65 rfl ⟨by decide, by decide⟩ ?_
    refine mw_sipush (pc' := 62) dX12_undo_59 rfl ⟨by decide, by decide⟩ ?_
    obtain ⟨o12, h⟩ := h
    refine mw_imul (pc' := 63) dX12_undo_62 rfl o12 ?_
    refine mw_iload_n (pc' := 64) dX12_undo_63 rfl rfl rfl ?_
    obtain ⟨o13, h⟩ := h
    refine mw_iadd (pc' := 65) dX12_undo_64 rfl o13 ?_
    obtain ⟨o14, h⟩ := h
    refine mw_iald (pc' := 66) dX12_undo_65 rfl lk_68 ⟨by decide, by decide⟩ (by rw [ln_68]; exact o14) ?_
    obtain ⟨o15, h⟩ := h
    refine mw_iast (pc' := 67) dX12_undo_66 rfl lk_66 ⟨by decide, by decide⟩ (by rw [ln_66]; exact o15) ?_
    obtain ⟨o16, h⟩ := h
    refine mw_iinc (pc' := 70) (L' := [(0, vR 65), (1, vI (x1 + 1))]) dX12_undo_67 rfl rfl (by decide) o16 rfl ?_
    refine mw_goto (pc' := 0) (tgt := 39) dX12_undo_70 (by decide) ?_
    exact h
def pX12_addParty_1 (x1 x2 x3 : Int) (g : mG) (d : mD) (Q : mQ) : Prop := MW mX12_addParty 0 0 87 [(0, vR 65), (1, vI x1), (2, vI x2), (3, vI x3)] [] g d Q
theorem eX12_addParty {g : mG} {d : mD} {Q : mQ} (h : MM mX12_readName [vR 65] g (ud d 65 5 0) (fun o g3 d4 => match o with | .inl v2 => MM mX12_fails [vR 65, vI (bI (v2 = 0)), vI 1] g3 d4 (fun o g9 d10 => match o with | .inl v8 => ((v8 = 0) → ((¬ (d10 66 1 = 8)) → RW (d10 66)) ∧ (((¬ (d10 66 1 = 8)) → 0 ≤ d10 65 13 ∧ d10 65 13 ≤ 8) ∧ (MM mX12_fails [vR 65, vI (bI ((d10 66 1 = 8) ∨ (¬ (nmF (d10 66) (d10 71) (d10 65 13) = (-1))))), vI 2] g9 d10 (fun o g21 d22 => match o with | .inl v20 => ((v20 = 0) → (0 ≤ d22 65 3 ∧ d22 65 3 ≤ 8) ∧ ((iI ((d22 66 1) * 9)) ∧ ((iI (7 + ((d22 66 1) * 9))) ∧ ((0 ≤ 7 + ((d22 66 1) * 9) ∧ 7 + ((d22 66 1) * 9) < 787) ∧ (pX12_addParty_1 v2 (d22 66 1) 0 g21 (ud (mChg d22) 66 (7 + 9 * (d22 66 1)) (d22 65 13)) Q))))) ∧ ((¬ (v20 = 0)) → Q (.inl 0) g21 d22) | .inr k => Q (.inr k) g21 d22)))) ∧ ((¬ (v8 = 0)) → Q (.inl 0) g9 d10) | .inr k => Q (.inr k) g9 d10) | .inr k => Q (.inr k) g3 d4)) : MM mX12_addParty [vR 65] g d Q := by
  refine MM_of (by decide) rfl (by simp [catV]) (Nat.le_of_ble_eq_true rfl) ?_
  show MW mX12_addParty 0 0 0 [(0, vR 65)] [] g d Q
  refine mw_top (fun hT => ?_)
  have hG : 76 ≤ g.2.1 := hT.2
  refine mw_aload_n (v := vR 65) (pc' := 1) dX12_addParty_0 rfl rfl (Or.inl rfl) rfl ?_
  refine mw_iconst (pc' := 2) dX12_addParty_1 rfl ⟨by decide, by decide⟩ ?_
  refine mw_putI (ji := 5) (pc' := 5) dX12_addParty_2 rfl (fq_RX12_41_65) (by decide +kernel) rfl (Or.inl ⟨rfl, rc_65_5⟩) (Or.inr rfl) ⟨by decide, by omega⟩ ?_
  refine mw_aload_n (v := vR 65) (pc' := 6) dX12_addParty_5 rfl rfl (Or.inl rfl) rfl ?_
  refine mw_callV (M' := mX12_readName) (A := []) (A' := [vR 65]) (S := []) (a := 65) (pc' := 9) dX12_addParty_6 rfl cl_RX12_85 cm_X12_readName cv_X12_readName ⟨by decide, by decide, by decide, by decide, by decide⟩ rfl rfl rfl ⟨by decide, by omega⟩ (by decide +kernel) (by decide +kernel) (Nat.le_of_ble_eq_true rfl) (MM.mono ?_ h)
  intro o g3 d4 h1
  rcases o with v2 | k
  · refine mw_top (fun hT => ?_)
    have hG : 76 ≤ g3.2.1 := hT.2
    show MW mX12_addParty 0 0 9 [(0, vR 65)] [vI v2] g3 d4 Q
    refine mw_istore_n (pc' := 10) (L' := [(0, vR 65), (1, vI v2)]) dX12_addParty_9 rfl rfl (by decide) rfl ?_
    refine mw_aload_n (v := vR 65) (pc' := 11) dX12_addParty_10 rfl rfl (Or.inl rfl) rfl ?_
    refine mw_iload_n (pc' := 12) dX12_addParty_11 rfl rfl rfl ?_
    suffices k5 : MW mX12_addParty 0 0 20 [(0, vR 65), (1, vI v2)] [vI (bI (v2 = 0)), vR 65] g3 d4 Q by
      refine mw_if_ne (tgt := 19) (pc' := 15) dX12_addParty_12 rfl (by decide) (fun c6 => ?_) (fun c6 => ?_)
      · refine mw_iconst (pc' := 20) dX12_addParty_19 rfl ⟨by decide, by decide⟩ ?_
        exact mw_st (bI_f (fun h => (c6 h))).symm k5
      · refine mw_iconst (pc' := 16) dX12_addParty_15 rfl ⟨by decide, by decide⟩ ?_
        refine mw_goto (pc' := 0) (tgt := 20) dX12_addParty_16 (by decide) ?_
        exact mw_st (bI_t c6).symm k5
    refine mw_iconst (pc' := 21) dX12_addParty_20 rfl ⟨by decide, by decide⟩ ?_
    refine mw_callV (M' := mX12_fails) (A := [vI (bI (v2 = 0)), vI 1]) (A' := [vR 65, vI (bI (v2 = 0)), vI 1]) (S := []) (a := 65) (pc' := 24) dX12_addParty_21 rfl cl_RX12_55 cm_X12_fails cv_X12_fails ⟨by decide, by decide, by decide, by decide, by decide⟩ rfl rfl rfl ⟨by decide, by omega⟩ (by decide +kernel) (by decide +kernel) (Nat.le_of_ble_eq_true rfl) (MM.mono ?_ h1)
    intro o g9 d10 h7
    rcases o with v8 | k
    · refine mw_top (fun hT => ?_)
      have hG : 76 ≤ g9.2.1 := hT.2
      show MW mX12_addParty 0 0 24 [(0, vR 65), (1, vI v2)] [vI v8] g9 d10 Q
      refine mw_if_ne (tgt := 59) (pc' := 27) dX12_addParty_24 rfl (by decide) (fun c13 => ?_) (fun c13 => ?_)
      · replace h7 := h7.2 c13
        refine mw_iconst (pc' := 60) dX12_addParty_59 rfl ⟨by decide, by decide⟩ ?_
        exact mw_iret (pc' := 0) (S := []) dX12_addParty_60 rfl (Or.inl rfl) h7
      · replace h7 := h7.1 c13
        refine mw_aload_n (v := vR 65) (pc' := 28) dX12_addParty_27 rfl rfl (Or.inl rfl) rfl ?_
        refine mw_aload_n (v := vR 65) (pc' := 29) dX12_addParty_28 rfl rfl (Or.inl rfl) rfl ?_
        refine mw_getP (v := 66) (pc' := 32) dX12_addParty_29 rfl fr_RX12_9_65 rfl sp_65_0 ⟨by decide, by decide⟩ ?_
        refine mw_iconst (pc' := 33) dX12_addParty_32 rfl ⟨by decide, by decide⟩ ?_
        refine mw_iald (pc' := 34) dX12_addParty_33 rfl lk_66 ⟨by decide, by decide⟩ (by rw [ln_66]; exact ⟨by decide, by decide⟩) ?_
        refine mw_bipush (pc' := 36) dX12_addParty_34 rfl ⟨by decide, by decide⟩ ?_
        obtain ⟨o14, h7⟩ := h7
        obtain ⟨o15, h7⟩ := h7
        suffices k16 : MW mX12_addParty 0 0 52 [(0, vR 65), (1, vI v2)] [vI (bI ((d10 66 1 = 8) ∨ (¬ (nmF (d10 66) (d10 71) (d10 65 13) = (-1))))), vR 65] g9 d10 Q by
          refine mw_icmp_eq (tgt := 47) (pc' := 39) dX12_addParty_36 rfl (by decide) (fun c17 => ?_) (fun c17 => ?_)
          · refine mw_iconst (pc' := 48) dX12_addParty_47 rfl ⟨by decide, by decide⟩ ?_
            refine mw_goto (pc' := 0) (tgt := 52) dX12_addParty_48 (by decide) ?_
            exact mw_st (bI_t (Or.inl c17)).symm k16
          · refine mw_aload_n (v := vR 65) (pc' := 40) dX12_addParty_39 rfl rfl (Or.inl rfl) rfl ?_
            refine mw_callV (M' := mX12_named) (A := []) (A' := [vR 65]) (S := [vR 65]) (a := 65) (pc' := 43) dX12_addParty_40 rfl cl_RX12_89 cm_X12_named cv_X12_named ⟨by decide, by decide, by decide, by decide, by decide⟩ rfl rfl rfl ⟨by decide, by omega⟩ (by decide +kernel) (by decide +kernel) (Nat.le_of_ble_eq_true rfl) (f_named (⟨(o14 c17), (o15 c17), ?_⟩))
            show MW mX12_addParty 0 0 43 [(0, vR 65), (1, vI v2)] [vI (nmF (d10 66) (d10 71) (d10 65 13)), vR 65] g9 d10 Q
            refine mw_iconst (pc' := 44) dX12_addParty_43 rfl ⟨by decide, by decide⟩ ?_
            refine mw_icmp_eq (tgt := 51) (pc' := 47) dX12_addParty_44 rfl (by decide) (fun c18 => ?_) (fun c18 => ?_)
            · refine mw_iconst (pc' := 52) dX12_addParty_51 rfl ⟨by decide, by decide⟩ ?_
              exact mw_st (bI_f (fun h => h.elim (fun q => (c17 q)) (fun h => (h c18)))).symm k16
            · refine mw_iconst (pc' := 48) dX12_addParty_47 rfl ⟨by decide, by decide⟩ ?_
              refine mw_goto (pc' := 0) (tgt := 52) dX12_addParty_48 (by decide) ?_
              exact mw_st (bI_t (Or.inr c18)).symm k16
        refine mw_iconst (pc' := 53) dX12_addParty_52 rfl ⟨by decide, by decide⟩ ?_
        refine mw_callV (M' := mX12_fails) (A := [vI (bI ((d10 66 1 = 8) ∨ (¬ (nmF (d10 66) (d10 71) (d10 65 13) = (-1))))), vI 2]) (A' := [vR 65, vI (bI ((d10 66 1 = 8) ∨ (¬ (nmF (d10 66) (d10 71) (d10 65 13) = (-1))))), vI 2]) (S := []) (a := 65) (pc' := 56) dX12_addParty_53 rfl cl_RX12_55 cm_X12_fails cv_X12_fails ⟨by decide, by decide, by decide, by decide, by decide⟩ rfl rfl rfl ⟨by decide, by omega⟩ (by decide +kernel) (by decide +kernel) (Nat.le_of_ble_eq_true rfl) (MM.mono ?_ h7)
        intro o g21 d22 h19
        rcases o with v20 | k
        · refine mw_top (fun hT => ?_)
          have hG : 76 ≤ g21.2.1 := hT.2
          show MW mX12_addParty 0 0 56 [(0, vR 65), (1, vI v2)] [vI v20] g21 d22 Q
          refine mw_if_eq (tgt := 61) (pc' := 59) dX12_addParty_56 rfl (by decide) (fun c25 => ?_) (fun c25 => ?_)
          · replace h19 := h19.1 c25
            refine mw_aload_n (v := vR 65) (pc' := 62) dX12_addParty_61 rfl rfl (Or.inl rfl) rfl ?_
            obtain ⟨o26, h19⟩ := h19
            refine mw_callV (M' := mX12_change) (A := []) (A' := [vR 65]) (S := []) (a := 65) (pc' := 65) dX12_addParty_62 rfl cl_RX12_93 cm_X12_change cv_X12_change ⟨by decide, by decide, by decide, by decide, by decide⟩ rfl rfl rfl ⟨by decide, by omega⟩ (by decide +kernel) (by decide +kernel) (Nat.le_of_ble_eq_true rfl) (f_change (⟨o26, ?_⟩))
            show MW mX12_addParty 0 0 65 [(0, vR 65), (1, vI v2)] [] g21 (mChg d22) Q
            refine mw_aload_n (v := vR 65) (pc' := 66) dX12_addParty_65 rfl rfl (Or.inl rfl) rfl ?_
            refine mw_getP (v := 66) (pc' := 69) dX12_addParty_66 rfl fr_RX12_9_65 rfl sp_65_0 ⟨by decide, by decide⟩ ?_
            refine mw_iconst (pc' := 70) dX12_addParty_69 rfl ⟨by decide, by decide⟩ ?_
            refine mw_iald (pc' := 71) dX12_addParty_70 rfl lk_66 ⟨by decide, by decide⟩ (by rw [ln_66]; exact ⟨by decide, by decide⟩) ?_
            refine mw_st (b := d22 66 1) (Eq.trans (mChg_fr (by omega)) (rfl)) ?_
            refine mw_istore_n (pc' := 72) (L' := [(0, vR 65), (1, vI v2), (2, vI (d22 66 1))]) dX12_addParty_71 rfl rfl (by decide) rfl ?_
            refine mw_aload_n (v := vR 65) (pc' := 73) dX12_addParty_72 rfl rfl (Or.inl rfl) rfl ?_
            refine mw_getP (v := 66) (pc' := 76) dX12_addParty_73 rfl fr_RX12_9_65 rfl sp_65_0 ⟨by decide, by decide⟩ ?_
            refine mw_iload_n (pc' := 77) dX12_addParty_76 rfl rfl rfl ?_
            obtain ⟨o27, h19⟩ := h19
            obtain ⟨o28, h19⟩ := h19
            refine mw_callS (M' := mX12_nameAt) (A := [vI (d22 66 1)]) (S := [vR 66]) (pc' := 80) dX12_addParty_77 rfl cl_RX12_81 cm_X12_nameAt cs_X12_nameAt ⟨by decide, by decide, by decide, by decide, by decide⟩ rfl rfl (Nat.le_of_ble_eq_true rfl) (eX12_nameAt (⟨o27, o28, ?_⟩))
            show MW mX12_addParty 0 0 80 [(0, vR 65), (1, vI v2), (2, vI (d22 66 1))] [vI (7 + ((d22 66 1) * 9)), vR 66] g21 (mChg d22) Q
            refine mw_aload_n (v := vR 65) (pc' := 81) dX12_addParty_80 rfl rfl (Or.inl rfl) rfl ?_
            refine mw_getI (ji := 13) (pc' := 84) dX12_addParty_81 rfl fi_RX12_70_65 rfl ⟨by decide, by decide⟩ ?_
            refine mw_st (b := d22 65 13) (Eq.trans (mChg_fr (by omega)) (rfl)) ?_
            obtain ⟨o29, h19⟩ := h19
            refine mw_iast (pc' := 85) dX12_addParty_84 rfl lk_66 ⟨by decide, by decide⟩ (by rw [ln_66]; exact o29) ?_
            refine mw_dd (b := (ud (mChg d22) 66 (7 + 9 * (d22 66 1)) (d22 65 13))) (congrArg (fun z => ud (mChg d22) 66 z (d22 65 13)) (by omega)) ?_
            refine mw_iconst (pc' := 86) dX12_addParty_85 rfl ⟨by decide, by decide⟩ ?_
            refine mw_istore_n (pc' := 87) (L' := [(0, vR 65), (1, vI v2), (2, vI (d22 66 1)), (3, vI 0)]) dX12_addParty_86 rfl rfl (by decide) rfl ?_
            exact h19
          · replace h19 := h19.2 c25
            refine mw_iconst (pc' := 60) dX12_addParty_59 rfl ⟨by decide, by decide⟩ ?_
            exact mw_iret (pc' := 0) (S := []) dX12_addParty_60 rfl (Or.inl rfl) h19
        · exact mx_out rfl h19
    · exact mx_out rfl h7
  · exact mx_out rfl h1
theorem aX12_addParty_1 {x1 x2 x3 : Int} {g : mG} {d : mD} {Q : mQ} (h : ((d 65 13 ≤ x3) → (iI ((d 66 1) + 1)) ∧ (Q (.inl x2) g (ud d 66 1 ((d 66 1) + 1)))) ∧ ((¬ (d 65 13 ≤ x3)) → (iI (x2 * 9)) ∧ ((iI (7 + (x2 * 9))) ∧ ((iI ((7 + (x2 * 9)) + 1)) ∧ ((iI (((7 + (x2 * 9)) + 1) + x3)) ∧ ((0 ≤ x3 ∧ x3 < 8) ∧ ((0 ≤ ((7 + (x2 * 9)) + 1) + x3 ∧ ((7 + (x2 * 9)) + 1) + x3 < 787) ∧ ((iI (x3 + 1)) ∧ (pX12_addParty_1 x1 x2 (x3 + 1) g (ud d 66 (8 + 9 * x2 + x3) (d 71 x3)) Q))))))))) : pX12_addParty_1 x1 x2 x3 g d Q := by
  unfold pX12_addParty_1
  refine mw_top (fun hT => ?_)
  have hG : 76 ≤ g.2.1 := hT.2
  refine mw_iload_n (pc' := 88) dX12_addParty_87 rfl rfl rfl ?_
  refine mw_aload_n (v := vR 65) (pc' := 89) dX12_addParty_88 rfl rfl (Or.inl rfl) rfl ?_
  refine mw_getI (ji := 13) (pc' := 92) dX12_addParty_89 rfl fi_RX12_70_65 rfl ⟨by decide, by decide⟩ ?_
  refine mw_icmp_ge (tgt := 120) (pc' := 95) dX12_addParty_92 rfl (by decide) (fun c42 => ?_) (fun c42 => ?_)
  · replace h := h.1 c42
    refine mw_aload_n (v := vR 65) (pc' := 121) dX12_addParty_120 rfl rfl (Or.inl rfl) rfl ?_
    refine mw_getP (v := 66) (pc' := 124) dX12_addParty_121 rfl fr_RX12_9_65 rfl sp_65_0 ⟨by decide, by decide⟩ ?_
    refine mw_iconst (pc' := 125) dX12_addParty_124 rfl ⟨by decide, by decide⟩ ?_
    refine mw_dup2 (pc' := 126) dX12_addParty_125 rfl rfl rfl ?_
    refine mw_iald (pc' := 127) dX12_addParty_126 rfl lk_66 ⟨by decide, by decide⟩ (by rw [ln_66]; exact ⟨by decide, by decide⟩) ?_
    refine mw_iconst (pc' := 128) dX12_addParty_127 rfl ⟨by decide, by decide⟩ ?_
    obtain ⟨o43, h⟩ := h
    refine mw_iadd (pc' := 129) dX12_addParty_128 rfl o43 ?_
    refine mw_iast (pc' := 130) dX12_addParty_129 rfl lk_66 ⟨by decide, by decide⟩ (by rw [ln_66]; exact ⟨by decide, by decide⟩) ?_
    refine mw_iload_n (pc' := 131) dX12_addParty_130 rfl rfl rfl ?_
    exact mw_iret (pc' := 0) (S := []) dX12_addParty_131 rfl (Or.inl rfl) h
  · replace h := h.2 c42
    refine mw_aload_n (v := vR 65) (pc' := 96) dX12_addParty_95 rfl rfl (Or.inl rfl) rfl ?_
    refine mw_getP (v := 66) (pc' := 99) dX12_addParty_96 rfl fr_RX12_9_65 rfl sp_65_0 ⟨by decide, by decide⟩ ?_
    refine mw_iload_n (pc' := 100) dX12_addParty_99 rfl rfl rfl ?_
    obtain ⟨o44, h⟩ := h
    obtain ⟨o45, h⟩ := h
    refine mw_callS (M' := mX12_nameAt) (A := [vI x2]) (S := [vR 66]) (pc' := 103) dX12_addParty_100 rfl cl_RX12_81 cm_X12_nameAt cs_X12_nameAt ⟨by decide, by decide, by decide, by decide, by decide⟩ rfl rfl (Nat.le_of_ble_eq_true rfl) (eX12_nameAt (⟨o44, o45, ?_⟩))
    show MW mX12_addParty 0 0 103 [(0, vR 65), (1, vI x1), (2, vI x2), (3, vI x3)] [vI (7 + (x2 * 9)), vR 66] g d Q
    refine mw_iconst (pc' := 104) dX12_addParty_103 rfl ⟨by decide, by decide⟩ ?_
    obtain ⟨o46, h⟩ := h
    refine mw_iadd (pc' := 105) dX12_addParty_104 rfl o46 ?_
    refine mw_iload_n (pc' := 106) dX12_addParty_105 rfl rfl rfl ?_
    obtain ⟨o47, h⟩ := h
    refine mw_iadd (pc' := 107) dX12_addParty_106 rfl o47 ?_
    refine mw_aload_n (v := vR 65) (pc' := 108) dX12_addParty_107 rfl rfl (Or.inl rfl) rfl ?_
    refine mw_getP (v := 71) (pc' := 111) dX12_addParty_108 rfl fr_RX12_32_65 rfl sp_65_12 ⟨by decide, by decide⟩ ?_
    refine mw_iload_n (pc' := 112) dX12_addParty_111 rfl rfl rfl ?_
    obtain ⟨o48, h⟩ := h
    refine mw_iald (pc' := 113) dX12_addParty_112 rfl lk_71 ⟨by decide, by decide⟩ (by rw [ln_71]; exact o48) ?_
    obtain ⟨o49, h⟩ := h
    refine mw_iast (pc' := 114) dX12_addParty_113 rfl lk_66 ⟨by decide, by decide⟩ (by rw [ln_66]; exact o49) ?_
    refine mw_dd (b := (ud d 66 (8 + 9 * x2 + x3) (d 71 x3))) (congrArg (fun z => ud d 66 z (d 71 x3)) (by omega)) ?_
    obtain ⟨o50, h⟩ := h
    refine mw_iinc (pc' := 117) (L' := [(0, vR 65), (1, vI x1), (2, vI x2), (3, vI (x3 + 1))]) dX12_addParty_114 rfl rfl (by decide) o50 rfl ?_
    refine mw_goto (pc' := 0) (tgt := 87) dX12_addParty_117 (by decide) ?_
    exact h
