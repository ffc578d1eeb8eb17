theorem fr_RX10_18_53 : FR RX10 18 53 0 := ⟨(show LK 53 = 10 by decide +kernel) ▸ fg_RX10_18, by decide +kernel, by decide +kernel, by decide⟩
theorem sp_53_0 : ((53, 0, 10) : Int × Int × Int) ∈ SPl := by decide +kernel
def pX5_find_1 (x2 x3 : Int) (g : mG) (d : mD) (Q : mQ) : Prop := MW mX5_find 0 0 2 [(0, vR 7), (1, vR 5), (2, vI x2), (3, vI x3)] [] g d Q
theorem eX5_find {x2 : Int} {g : mG} {d : mD} {Q : mQ} (h : pX5_find_1 x2 0 g d Q) : MM mX5_find [vR 7, vR 5, vI x2] g d Q := by
  refine MM_of (by decide) rfl (by simp [catV]) (Nat.le_of_ble_eq_true rfl) ?_
  show MW mX5_find 0 0 0 [(0, vR 7), (1, vR 5), (2, vI x2)] [] g d Q
  refine mw_top (fun hT => ?_)
  have hG : 65 ≤ g.2.1 := hT.2
  refine mw_iconst (pc' := 1) dX5_find_0 rfl ⟨by decide, by decide⟩ ?_
  refine mw_istore_n (pc' := 2) (L' := [(0, vR 7), (1, vR 5), (2, vI x2), (3, vI 0)]) dX5_find_1 rfl rfl (by decide) rfl ?_
  exact h
theorem aX5_find_1 {R : rW} {x2 x3 : Int} {g : mG} {d : mD} {Q : mQ} (h : ((d 7 2 ≤ x3) → Q (.inl (-1)) g d) ∧ ((¬ (d 7 2 ≤ x3)) → (CI d R) ∧ ((0 ≤ x3 ∧ x3 < R 1) ∧ ((0 ≤ x2 ∧ x2 ≤ 8) ∧ (((nmd R (d 5) x3 x2) → Q (.inl x3) g d) ∧ ((¬ (nmd R (d 5) x3 x2)) → (iI (x3 + 1)) ∧ (pX5_find_1 x2 (x3 + 1) g d Q))))))) : pX5_find_1 x2 x3 g d Q := by
  unfold pX5_find_1
  refine mw_top (fun hT => ?_)
  have hG : 65 ≤ g.2.1 := hT.2
  refine mw_iload_n (pc' := 3) dX5_find_2 rfl rfl rfl ?_
  refine mw_aload_n (v := vR 7) (pc' := 4) dX5_find_3 rfl rfl (Or.inl rfl) rfl ?_
  refine mw_getI (ji := 2) (pc' := 7) dX5_find_4 rfl fi_RX5_24_7 rfl ⟨by decide, by decide⟩ ?_
  refine mw_icmp_ge (tgt := 28) (pc' := 10) dX5_find_7 rfl (by decide) (fun c7 => ?_) (fun c7 => ?_)
  · replace h := h.1 c7
    refine mw_iconst (pc' := 29) dX5_find_28 rfl ⟨by decide, by decide⟩ ?_
    exact mw_iret (pc' := 0) (S := []) dX5_find_29 rfl (Or.inl rfl) h
  · replace h := h.2 c7
    refine mw_aload_n (v := vR 7) (pc' := 11) dX5_find_10 rfl rfl (Or.inl rfl) rfl ?_
    refine mw_iload_n (pc' := 12) dX5_find_11 rfl rfl rfl ?_
    refine mw_aload_n (v := vR 5) (pc' := 13) dX5_find_12 rfl rfl (Or.inl rfl) rfl ?_
    refine mw_iload_n (pc' := 14) dX5_find_13 rfl rfl rfl ?_
    obtain ⟨o8, h⟩ := h
    obtain ⟨o9, h⟩ := h
    obtain ⟨o10, h⟩ := h
    refine mw_callV (M' := mX5_isNamed) (A := [vI x3, vR 5, vI x2]) (A' := [vR 7, vI x3, vR 5, vI x2]) (S := []) (a := 7) (pc' := 17) dX5_find_14 rfl cl_RX5_28 cm_X5_isNamed cv_X5_isNamed ⟨by decide, by decide, by decide, by decide, by decide⟩ rfl rfl rfl ⟨by decide, by omega⟩ (by decide +kernel) (by decide +kernel) (Nat.le_of_ble_eq_true rfl) (f_isNamed (⟨o8, o9, o10, ?_⟩))
    show MW mX5_find 0 0 17 [(0, vR 7), (1, vR 5), (2, vI x2), (3, vI x3)] [vI (bI (nmd R (d 5) x3 x2))] g d Q
    refine mw_if_eq (tgt := 22) (pc' := 20) dX5_find_17 rfl (by decide) (fun c11 => ?_) (fun c11 => ?_)
    · replace c11 := bI_0.mp c11
      replace h := h.2 c11
      obtain ⟨o12, h⟩ := h
      refine mw_iinc (pc' := 25) (L' := [(0, vR 7), (1, vR 5), (2, vI x2), (3, vI (x3 + 1))]) dX5_find_22 rfl rfl (by decide) o12 rfl ?_
      refine mw_goto (pc' := 0) (tgt := 2) dX5_find_25 (by decide) ?_
      exact h
    · replace c11 := bI_n0.mp c11
      replace h := h.1 c11
      refine mw_iload_n (pc' := 21) dX5_find_20 rfl rfl rfl ?_
      exact mw_iret (pc' := 0) (S := []) dX5_find_21 rfl (Or.inl rfl) h
theorem eX10_countDays {R : rW} {x1 x2 x3 : Int} {g : mG} {d : mD} {Q : mQ} (h : ((x3 = 0) → iI (x2 - x1)) ∧ (((x3 = 0) → iI ((x2 - x1) + 1)) ∧ (((¬ (x3 = 0)) → CI d R) ∧ (((¬ (x3 = 0)) → 0 ≤ x1 ∧ x1 ≤ 5001) ∧ (((¬ (x3 = 0)) → -1 ≤ x2 ∧ x2 ≤ 4999) ∧ (Q (.inl (iT (x3 = 0) (max 0 ((x2 - x1) + 1)) (cn (court R) x1 x2))) g d)))))) : MM mX10_countDays [vR 53, vI x1, vI x2, vI x3] g d Q := by
  refine MM_of (by decide) rfl (by simp [catV]) (Nat.le_of_ble_eq_true rfl) ?_
  show MW mX10_countDays 0 0 0 [(0, vR 53), (1, vI x1), (2, vI x2), (3, vI x3)] [] g d Q
  refine mw_top (fun hT => ?_)
  have hG : 65 ≤ g.2.1 := hT.2
  refine mw_iload_n (pc' := 1) dX10_countDays_0 rfl rfl rfl ?_
  obtain ⟨o1, h⟩ := h
  obtain ⟨o2, h⟩ := h
  obtain ⟨o3, h⟩ := h
  obtain ⟨o4, h⟩ := h
  obtain ⟨o5, h⟩ := h
  suffices k6 : MW mX10_countDays 0 0 25 [(0, vR 53), (1, vI x1), (2, vI x2), (3, vI x3)] [vI (iT (x3 = 0) (max 0 ((x2 - x1) + 1)) (cn (court R) x1 x2))] g d Q by
    refine mw_if_eq (tgt := 16) (pc' := 4) dX10_countDays_1 rfl (by decide) (fun c7 => ?_) (fun c7 => ?_)
    · refine mw_iconst (pc' := 17) dX10_countDays_16 rfl ⟨by decide, by decide⟩ ?_
      refine mw_iload_n (pc' := 18) dX10_countDays_17 rfl rfl rfl ?_
      refine mw_iload_n (pc' := 19) dX10_countDays_18 rfl rfl rfl ?_
      refine mw_isub (pc' := 20) dX10_countDays_19 rfl (o1 c7) ?_
      refine mw_iconst (pc' := 21) dX10_countDays_20 rfl ⟨by decide, by decide⟩ ?_
      refine mw_iadd (pc' := 22) dX10_countDays_21 rfl (o2 c7) ?_
      refine mw_max (pc' := 25) dX10_countDays_22 rfl bw_415 bw_416 bw_24 bw_417 (by decide) (by decide) (Nat.le_of_ble_eq_true rfl) ?_
      exact mw_st (((iT_t c7).trans rfl)).symm k6
    · refine mw_aload_n (v := vR 53) (pc' := 5) dX10_countDays_4 rfl rfl (Or.inl rfl) rfl ?_
      refine mw_getP (v := 10) (pc' := 8) dX10_countDays_5 rfl fr_RX10_18_53 rfl sp_53_0 ⟨by decide, by decide⟩ ?_
      refine mw_iload_n (pc' := 9) dX10_countDays_8 rfl rfl rfl ?_
      refine mw_iload_n (pc' := 10) dX10_countDays_9 rfl rfl rfl ?_
      refine mw_callV (M' := mX0_countCourt) (A := [vI x1, vI x2]) (A' := [vR 10, vI x1, vI x2]) (S := []) (a := 10) (pc' := 13) dX10_countDays_10 rfl cl_RX10_106 cm_X0_countCourt cv_X0_countCourt ⟨by decide, by decide, by decide, by decide, by decide⟩ rfl rfl rfl ⟨by decide, by omega⟩ (by decide +kernel) (by decide +kernel) (Nat.le_of_ble_eq_true rfl) (f_countCourt (⟨(o3 c7), (o4 c7), (o5 c7), ?_⟩))
      show MW mX10_countDays 0 0 13 [(0, vR 53), (1, vI x1), (2, vI x2), (3, vI x3)] [vI (cn (court R) x1 x2)] g d Q
      refine mw_goto (pc' := 0) (tgt := 25) dX10_countDays_13 (by decide) ?_
      exact mw_st (((iT_f c7).trans rfl)).symm k6
  exact mw_iret (pc' := 0) (S := []) dX10_countDays_25 rfl (Or.inl rfl) h
def pX10_courtDayOfCount_1 (x1 x2 x3 x4 : Int) (g : mG) (d : mD) (Q : mQ) : Prop := MW mX10_courtDayOfCount 0 0 5 [(0, vR 53), (1, vI x1), (2, vI x2), (3, vI x3), (4, vI x4)] [] g d Q
def pX10_courtDayOfCount_2 (x1 x2 x3 x4 : Int) (g : mG) (d : mD) (Q : mQ) : Prop := MW mX10_courtDayOfCount 0 0 70 [(0, vR 53), (1, vI x1), (2, vI x2), (3, vI x3), (4, vI x4)] [] g d Q
theorem eX10_courtDayOfCount {x1 x2 : Int} {g : mG} {d : mD} {Q : mQ} (h : pX10_courtDayOfCount_1 x1 x2 x1 x2 g d Q) : MM mX10_courtDayOfCount [vR 53, vI x1, vI x2] g d Q := by
  refine MM_of (by decide) rfl (by simp [catV]) (Nat.le_of_ble_eq_true rfl) ?_
  show MW mX10_courtDayOfCount 0 0 0 [(0, vR 53), (1, vI x1), (2, vI x2)] [] g d Q
  refine mw_top (fun hT => ?_)
  have hG : 65 ≤ g.2.1 := hT.2
  refine mw_iload_n (pc' := 1) dX10_courtDayOfCount_0 rfl rfl rfl ?_
  refine mw_istore_n (pc' := 2) (L' := [(0, vR 53), (1, vI x1), (2, vI x2), (3, vI x1)]) dX10_courtDayOfCount_1 rfl rfl (by decide) rfl ?_
  refine mw_iload_n (pc' := 3) dX10_courtDayOfCount_2 rfl rfl rfl ?_
  refine mw_istore (pc' := 5) (L' := [(0, vR 53), (1, vI x1), (2, vI x2), (3, vI x1), (4, vI x2)]) dX10_courtDayOfCount_3 rfl (by decide) rfl ?_
  exact h
theorem aX10_courtDayOfCount_1 {R : rW} {x1 x2 x3 x4 : Int} {g : mG} {d : mD} {Q : mQ} (h : ((¬ (x4 ≤ 5)) → iI (x3 + 7)) ∧ ((((¬ (x4 ≤ 5)) ∧ (¬ (4999 < x3 + 7))) → (iI (x4 - 1)) ∧ ((0 ≤ x4 - 1) ∧ ((iI (4999 - x3)) ∧ ((0 ≤ 4999 - x3) ∧ ((iI (7 * (min ((x4 - 1) / 5) ((4999 - x3) / 7)))) ∧ ((iI (x3 + (7 * (min ((x4 - 1) / 5) ((4999 - x3) / 7))))) ∧ ((iI ((x3 + (7 * (min ((x4 - 1) / 5) ((4999 - x3) / 7)))) - 1)) ∧ ((CI d R) ∧ ((0 ≤ x3 ∧ x3 ≤ 5001) ∧ ((-1 ≤ ((x3 + (7 * (min ((x4 - 1) / 5) ((4999 - x3) / 7)))) - 1) ∧ ((x3 + (7 * (min ((x4 - 1) / 5) ((4999 - x3) / 7)))) - 1) ≤ 4999) ∧ ((iI (x4 - (cn (court R) x3 ((x3 + (7 * (min ((x4 - 1) / 5) ((4999 - x3) / 7)))) - 1)))) ∧ (pX10_courtDayOfCount_1 x1 x2 (x3 + (7 * (min ((x4 - 1) / 5) ((4999 - x3) / 7)))) (x4 - (cn (court R) x3 ((x3 + (7 * (min ((x4 - 1) / 5) ((4999 - x3) / 7)))) - 1))) g d Q)))))))))))) ∧ ((¬ ((¬ (x4 ≤ 5)) ∧ (¬ (4999 < x3 + 7)))) → pX10_courtDayOfCount_2 x1 x2 x3 x4 g d Q))) : pX10_courtDayOfCount_1 x1 x2 x3 x4 g d Q := by
  unfold pX10_courtDayOfCount_1
  refine mw_top (fun hT => ?_)
  have hG : 65 ≤ g.2.1 := hT.2
  refine mw_iload (pc' := 7) dX10_courtDayOfCount_5 rfl rfl ?_
  refine mw_iconst (pc' := 8) dX10_courtDayOfCount_7 rfl ⟨by decide, by decide⟩ ?_
  obtain ⟨o1, h⟩ := h
  suffices k12 : (((¬ (x4 ≤ 5)) ∧ (¬ (4999 < x3 + 7))) → MW mX10_courtDayOfCount 0 0 21 [(0, vR 53), (1, vI x1), (2, vI x2), (3, vI x3), (4, vI x4)] [] g d Q) ∧ ((¬ ((¬ (x4 ≤ 5)) ∧ (¬ (4999 < x3 + 7)))) → MW mX10_courtDayOfCount 0 0 70 [(0, vR 53), (1, vI x1), (2, vI x2), (3, vI x3), (4, vI x4)] [] g d Q) by
    refine mw_icmp_le (tgt := 70) (pc' := 11) dX10_courtDayOfCount_8 rfl (by decide) (fun c13 => ?_) (fun c13 => ?_)
    · exact k12.2 (fun h => (h.1 c13))
    · refine mw_iload_n (pc' := 12) dX10_courtDayOfCount_11 rfl rfl rfl ?_
      refine mw_bipush (pc' := 14) dX10_courtDayOfCount_12 rfl ⟨by decide, by decide⟩ ?_
      refine mw_iadd (pc' := 15) dX10_courtDayOfCount_14 rfl (o1 c13) ?_
      refine mw_sipush (pc' := 18) dX10_courtDayOfCount_15 rfl ⟨by decide, by decide⟩ ?_
      refine mw_icmp_gt (tgt := 70) (pc' := 21) dX10_courtDayOfCount_18 rfl (by decide) (fun c14 => ?_) (fun c14 => ?_)
      · exact k12.2 (fun h => (fun h => (h c14)) h.2)
      · exact k12.1 ⟨c13, c14⟩
  refine ⟨fun c15 => ?_, fun c15 => ?_⟩
  · replace h := h.1 c15
    refine mw_bipush (pc' := 23) dX10_courtDayOfCount_21 rfl ⟨by decide, by decide⟩ ?_
    refine mw_iload (pc' := 25) dX10_courtDayOfCount_23 rfl rfl ?_
    refine mw_iconst (pc' := 26) dX10_courtDayOfCount_25 rfl ⟨by decide, by decide⟩ ?_
    obtain ⟨o16, h⟩ := h
    refine mw_isub (pc' := 27) dX10_courtDayOfCount_26 rfl o16 ?_
    refine mw_iconst (pc' := 28) dX10_courtDayOfCount_27 rfl ⟨by decide, by decide⟩ ?_
    obtain ⟨o17, h⟩ := h
    refine mw_idiv (pc' := 29) dX10_courtDayOfCount_28 rfl o17 (by decide) ?_
    refine mw_sipush (pc' := 32) dX10_courtDayOfCount_29 rfl ⟨by decide, by decide⟩ ?_
    refine mw_iload_n (pc' := 33) dX10_courtDayOfCount_32 rfl rfl rfl ?_
    obtain ⟨o18, h⟩ := h
    refine mw_isub (pc' := 34) dX10_courtDayOfCount_33 rfl o18 ?_
    refine mw_bipush (pc' := 36) dX10_courtDayOfCount_34 rfl ⟨by decide, by decide⟩ ?_
    obtain ⟨o19, h⟩ := h
    refine mw_idiv (pc' := 37) dX10_courtDayOfCount_36 rfl o19 (by decide) ?_
    refine mw_min (pc' := 40) dX10_courtDayOfCount_37 rfl bw_446 bw_447 bw_24 bw_448 (by decide) (by decide) (Nat.le_of_ble_eq_true rfl) ?_
    obtain ⟨o20, h⟩ := h
    refine mw_imul (pc' := 41) dX10_courtDayOfCount_40 rfl o20 ?_
    refine mw_istore (pc' := 43) (L' := [(0, vR 53), (1, vI x1), (2, vI x2), (3, vI x3), (4, vI x4), (5, vI (7 * (min ((x4 - 1) / 5) ((4999 - x3) / 7))))]) dX10_courtDayOfCount_41 rfl (by decide) rfl ?_
    refine mw_iload (pc' := 45) dX10_courtDayOfCount_43 rfl rfl ?_
    refine mw_aload_n (v := vR 53) (pc' := 46) dX10_courtDayOfCount_45 rfl rfl (Or.inl rfl) rfl ?_
    refine mw_getP (v := 10) (pc' := 49) dX10_courtDayOfCount_46 rfl fr_RX10_18_53 rfl sp_53_0 ⟨by decide, by decide⟩ ?_
    refine mw_iload_n (pc' := 50) dX10_courtDayOfCount_49 rfl rfl rfl ?_
    refine mw_iload_n (pc' := 51) dX10_courtDayOfCount_50 rfl rfl rfl ?_
    refine mw_iload (pc' := 53) dX10_courtDayOfCount_51 rfl rfl ?_
    obtain ⟨o21, h⟩ := h
    refine mw_iadd (pc' := 54) dX10_courtDayOfCount_53 rfl o21 ?_
    refine mw_iconst (pc' := 55) dX10_courtDayOfCount_54 rfl ⟨by decide, by decide⟩ ?_
    obtain ⟨o22, h⟩ := h
    refine mw_isub (pc' := 56) dX10_courtDayOfCount_55 rfl o22 ?_
    obtain ⟨o23, h⟩ := h
    obtain ⟨o24, h⟩ := h
    obtain ⟨o25, h⟩ := h
    refine mw_callV (M' := mX0_countCourt) (A := [vI x3, vI ((x3 + (7 * (min ((x4 - 1) / 5) ((4999 - x3) / 7)))) - 1)]) (A' := [vR 10, vI x3, vI ((x3 + (7 * (min ((x4 - 1) / 5) ((4999 - x3) / 7)))) - 1)]) (S := [vI x4]) (a := 10) (pc' := 59) dX10_courtDayOfCount_56 rfl cl_RX10_106 cm_X0_countCourt cv_X0_countCourt ⟨by decide, by decide, by decide, by decide, by decide⟩ rfl rfl rfl ⟨by decide, by omega⟩ (by decide +kernel) (by decide +kernel) (Nat.le_of_ble_eq_true rfl) (f_countCourt (⟨o23, o24, o25, ?_⟩))
    show MW mX10_courtDayOfCount 0 0 59 [(0, vR 53), (1, vI x1), (2, vI x2), (3, vI x3), (4, vI x4), (5, vI (7 * (min ((x4 - 1) / 5) ((4999 - x3) / 7))))] [vI (cn (court R) x3 ((x3 + (7 * (min ((x4 - 1) / 5) ((4999 - x3) / 7)))) - 1)), vI x4] g d Q
    obtain ⟨o26, h⟩ := h
    refine mw_isub (pc' := 60) dX10_courtDayOfCount_59 rfl o26 ?_
    refine mw_istore (pc' := 62) (L' := [(0, vR 53), (1, vI x1), (2, vI x2), (3, vI x3), (4, vI (x4 - (cn (court R) x3 ((x3 + (7 * (min ((x4 - 1) / 5) ((4999 - x3) / 7)))) - 1)))), (5, vI (7 * (min ((x4 - 1) / 5) ((4999 - x3) / 7))))]) dX10_courtDayOfCount_60 rfl (by decide) rfl ?_
    refine mw_iload_n (pc' := 63) dX10_courtDayOfCount_62 rfl rfl rfl ?_
    refine mw_iload (pc' := 65) dX10_courtDayOfCount_63 rfl rfl ?_
    refine mw_iadd (pc' := 66) dX10_courtDayOfCount_65 rfl o21 ?_
    refine mw_istore_n (pc' := 67) (L' := [(0, vR 53), (1, vI x1), (2, vI x2), (3, vI (x3 + (7 * (min ((x4 - 1) / 5) ((4999 - x3) / 7))))), (4, vI (x4 - (cn (court R) x3 ((x3 + (7 * (min ((x4 - 1) / 5) ((4999 - x3) / 7)))) - 1)))), (5, vI (7 * (min ((x4 - 1) / 5) ((4999 - x3) / 7))))]) dX10_courtDayOfCount_66 rfl rfl (by decide) rfl ?_
    refine mw_goto (pc' := 0) (tgt := 5) dX10_courtDayOfCount_67 (by decide) ?_
    exact mw_loc (pc' := 0) [0, 1, 2, 3, 4] rfl h
  · replace h := h.2 c15
    exact h
theorem aX10_courtDayOfCount_2 {R : rW} {x1 x2 x3 x4 : Int} {g : mG} {d : mD} {Q : mQ} (h : ((4999 < x3) → Q (.inl 5000) g d) ∧ ((¬ (4999 < x3)) → (CI d R) ∧ ((0 ≤ x3) ∧ ((iI (x4 - (bI (court R x3)))) ∧ (((x4 - (bI (court R x3)) = 0) → Q (.inl x3) g d) ∧ ((¬ (x4 - (bI (court R x3)) = 0)) → (iI (x3 + 1)) ∧ (pX10_courtDayOfCount_2 x1 x2 (x3 + 1) (x4 - (bI (court R x3))) g d Q))))))) : pX10_courtDayOfCount_2 x1 x2 x3 x4 g d Q := by
  unfold pX10_courtDayOfCount_2
  refine mw_top (fun hT => ?_)
  have hG : 65 ≤ g.2.1 := hT.2
  refine mw_iload_n (pc' := 71) dX10_courtDayOfCount_70 rfl rfl rfl ?_
  refine mw_sipush (pc' := 74) dX10_courtDayOfCount_71 rfl ⟨by decide, by decide⟩ ?_
  refine mw_icmp_gt (tgt := 111) (pc' := 77) dX10_courtDayOfCount_74 rfl (by decide) (fun c31 => ?_) (fun c31 => ?_)
  · replace h := h.1 c31
    refine mw_sipush (pc' := 114) dX10_courtDayOfCount_111 rfl ⟨by decide, by decide⟩ ?_
    exact mw_iret (pc' := 0) (S := []) dX10_courtDayOfCount_114 rfl (Or.inl rfl) h
  · replace h := h.2 c31
    refine mw_iload (pc' := 79) dX10_courtDayOfCount_77 rfl rfl ?_
    refine mw_aload_n (v := vR 53) (pc' := 80) dX10_courtDayOfCount_79 rfl rfl (Or.inl rfl) rfl ?_
    refine mw_getP (v := 10) (pc' := 83) dX10_courtDayOfCount_80 rfl fr_RX10_18_53 rfl sp_53_0 ⟨by decide, by decide⟩ ?_
    refine mw_iload_n (pc' := 84) dX10_courtDayOfCount_83 rfl rfl rfl ?_
    obtain ⟨o32, h⟩ := h
    obtain ⟨o33, h⟩ := h
    refine mw_callV (M' := mX0_isCourt) (A := [vI x3]) (A' := [vR 10, vI x3]) (S := [vI x4]) (a := 10) (pc' := 87) dX10_courtDayOfCount_84 rfl cl_RX10_111 cm_X0_isCourt cv_X0_isCourt ⟨by decide, by decide, by decide, by decide, by decide⟩ rfl rfl rfl ⟨by decide, by omega⟩ (by decide +kernel) (by decide +kernel) (Nat.le_of_ble_eq_true rfl) (f_isCourtC (⟨o32, o33, ?_⟩))
    show MW mX10_courtDayOfCount 0 0 87 [(0, vR 53), (1, vI x1), (2, vI x2), (3, vI x3), (4, vI x4)] [vI (bI (court R x3)), vI x4] g d Q
    suffices k34 : MW mX10_courtDayOfCount 0 0 95 [(0, vR 53), (1, vI x1), (2, vI x2), (3, vI x3), (4, vI x4)] [vI (bI (court R x3)), vI x4] g d Q by
      refine mw_if_eq (tgt := 94) (pc' := 90) dX10_courtDayOfCount_87 rfl (by decide) (fun c35 => ?_) (fun c35 => ?_)
      · replace c35 := bI_0.mp c35
        refine mw_iconst (pc' := 95) dX10_courtDayOfCount_94 rfl ⟨by decide, by decide⟩ ?_
        exact mw_st (bI_f (fun h => (c35 h))).symm k34
      · replace c35 := bI_n0.mp c35
        refine mw_iconst (pc' := 91) dX10_courtDayOfCount_90 rfl ⟨by decide, by decide⟩ ?_
        refine mw_goto (pc' := 0) (tgt := 95) dX10_courtDayOfCount_91 (by decide) ?_
        exact mw_st (bI_t c35).symm k34
    obtain ⟨o36, h⟩ := h
    refine mw_isub (pc' := 96) dX10_courtDayOfCount_95 rfl o36 ?_
    refine mw_istore (pc' := 98) (L' := [(0, vR 53), (1, vI x1), (2, vI x2), (3, vI x3), (4, vI (x4 - (bI (court R x3))))]) dX10_courtDayOfCount_96 rfl (by decide) rfl ?_
    refine mw_iload (pc' := 100) dX10_courtDayOfCount_98 rfl rfl ?_
    refine mw_if_ne (tgt := 105) (pc' := 103) dX10_courtDayOfCount_100 rfl (by decide) (fun c37 => ?_) (fun c37 => ?_)
    · replace h := h.2 c37
      obtain ⟨o38, h⟩ := h
      refine mw_iinc (pc' := 108) (L' := [(0, vR 53), (1, vI x1), (2, vI x2), (3, vI (x3 + 1)), (4, vI (x4 - (bI (court R x3))))]) dX10_courtDayOfCount_105 rfl rfl (by decide) o38 rfl ?_
      refine mw_goto (pc' := 0) (tgt := 70) dX10_courtDayOfCount_108 (by decide) ?_
      exact h
    · replace h := h.1 c37
      refine mw_iload_n (pc' := 104) dX10_courtDayOfCount_103 rfl rfl rfl ?_
      exact mw_iret (pc' := 0) (S := []) dX10_courtDayOfCount_104 rfl (Or.inl rfl) h
def pX10_dayOfCountBack_1 (x1 x2 x3 x4 : Int) (g : mG) (d : mD) (Q : mQ) : Prop := MW mX10_dayOfCountBack 0 0 5 [(0, vR 53), (1, vI x1), (2, vI x2), (3, vI x3), (4, vI x4)] [] g d Q
def pX10_dayOfCountBack_2 (x1 x2 x3 x4 : Int) (g : mG) (d : mD) (Q : mQ) : Prop := MW mX10_dayOfCountBack 0 0 62 [(0, vR 53), (1, vI x1), (2, vI x2), (3, vI x3), (4, vI x4)] [] g d Q
theorem eX10_dayOfCountBack {x1 x2 : Int} {g : mG} {d : mD} {Q : mQ} (h : pX10_dayOfCountBack_1 x1 x2 x1 x2 g d Q) : MM mX10_dayOfCountBack [vR 53, vI x1, vI x2] g d Q := by
  refine MM_of (by decide) rfl (by simp [catV]) (Nat.le_of_ble_eq_true rfl) ?_
  show MW mX10_dayOfCountBack 0 0 0 [(0, vR 53), (1, vI x1), (2, vI x2)] [] g d Q
  refine mw_top (fun hT => ?_)
  have hG : 65 ≤ g.2.1 := hT.2
  refine mw_iload_n (pc' := 1) dX10_dayOfCountBack_0 rfl rfl rfl ?_
  refine mw_istore_n (pc' := 2) (L' := [(0, vR 53), (1, vI x1), (2, vI x2), (3, vI x1)]) dX10_dayOfCountBack_1 rfl rfl (by decide) rfl ?_
  refine mw_iload_n (pc' := 3) dX10_dayOfCountBack_2 rfl rfl rfl ?_
  refine mw_istore (pc' := 5) (L' := [(0, vR 53), (1, vI x1), (2, vI x2), (3, vI x1), (4, vI x2)]) dX10_dayOfCountBack_3 rfl (by decide) rfl ?_
  exact h
theorem aX10_dayOfCountBack_1 {R : rW} {x1 x2 x3 x4 : Int} {g : mG} {d : mD} {Q : mQ} (h : (((¬ (x4 ≤ 5)) ∧ (¬ (x3 < 7))) → (iI (x4 - 1)) ∧ ((0 ≤ x4 - 1) ∧ ((0 ≤ x3) ∧ ((iI (7 * (min ((x4 - 1) / 5) (x3 / 7)))) ∧ ((iI (x3 - (7 * (min ((x4 - 1) / 5) (x3 / 7))))) ∧ ((iI ((x3 - (7 * (min ((x4 - 1) / 5) (x3 / 7)))) + 1)) ∧ ((CI d R) ∧ ((0 ≤ ((x3 - (7 * (min ((x4 - 1) / 5) (x3 / 7)))) + 1) ∧ ((x3 - (7 * (min ((x4 - 1) / 5) (x3 / 7)))) + 1) ≤ 5001) ∧ ((-1 ≤ x3 ∧ x3 ≤ 4999) ∧ ((iI (x4 - (cn (court R) ((x3 - (7 * (min ((x4 - 1) / 5) (x3 / 7)))) + 1) x3))) ∧ (pX10_dayOfCountBack_1 x1 x2 (x3 - (7 * (min ((x4 - 1) / 5) (x3 / 7)))) (x4 - (cn (court R) ((x3 - (7 * (min ((x4 - 1) / 5) (x3 / 7)))) + 1) x3)) g d Q))))))))))) ∧ ((¬ ((¬ (x4 ≤ 5)) ∧ (¬ (x3 < 7)))) → pX10_dayOfCountBack_2 x1 x2 x3 x4 g d Q)) : pX10_dayOfCountBack_1 x1 x2 x3 x4 g d Q := by
  unfold pX10_dayOfCountBack_1
  refine mw_top (fun hT => ?_)
  have hG : 65 ≤ g.2.1 := hT.2
  refine mw_iload (pc' := 7) dX10_dayOfCountBack_5 rfl rfl ?_
  refine mw_iconst (pc' := 8) dX10_dayOfCountBack_7 rfl ⟨by decide, by decide⟩ ?_
  suffices k9 : (((¬ (x4 ≤ 5)) ∧ (¬ (x3 < 7))) → MW mX10_dayOfCountBack 0 0 17 [(0, vR 53), (1, vI x1), (2, vI x2), (3, vI x3), (4, vI x4)] [] g d Q) ∧ ((¬ ((¬ (x4 ≤ 5)) ∧ (¬ (x3 < 7)))) → MW mX10_dayOfCountBack 0 0 62 [(0, vR 53), (1, vI x1), (2, vI x2), (3, vI x3), (4, vI x4)] [] g d Q) by
    refine mw_icmp_le (tgt := 62) (pc' := 11) dX10_dayOfCountBack_8 rfl (by decide) (fun c10 => ?_) (fun c10 => ?_)
    · exact k9.2 (fun h => (h.1 c10))
    · refine mw_iload_n (pc' := 12) dX10_dayOfCountBack_11 rfl rfl rfl ?_
      refine mw_bipush (pc' := 14) dX10_dayOfCountBack_12 rfl ⟨by decide, by decide⟩ ?_
      refine mw_icmp_lt (tgt := 62) (pc' := 17) dX10_dayOfCountBack_14 rfl (by decide) (fun c11 => ?_) (fun c11 => ?_)
      · exact k9.2 (fun h => (fun h => (h c11)) h.2)
      · exact k9.1 ⟨c10, c11⟩
  refine ⟨fun c12 => ?_, fun c12 => ?_⟩
  · replace h := h.1 c12
    refine mw_bipush (pc' := 19) dX10_dayOfCountBack_17 rfl ⟨by decide, by decide⟩ ?_
    refine mw_iload (pc' := 21) dX10_dayOfCountBack_19 rfl rfl ?_
    refine mw_iconst (pc' := 22) dX10_dayOfCountBack_21 rfl ⟨by decide, by decide⟩ ?_
    obtain ⟨o13, h⟩ := h
    refine mw_isub (pc' := 23) dX10_dayOfCountBack_22 rfl o13 ?_
    refine mw_iconst (pc' := 24) dX10_dayOfCountBack_23 rfl ⟨by decide, by decide⟩ ?_
    obtain ⟨o14, h⟩ := h
    refine mw_idiv (pc' := 25) dX10_dayOfCountBack_24 rfl o14 (by decide) ?_
    refine mw_iload_n (pc' := 26) dX10_dayOfCountBack_25 rfl rfl rfl ?_
    refine mw_bipush (pc' := 28) dX10_dayOfCountBack_26 rfl ⟨by decide, by decide⟩ ?_
    obtain ⟨o15, h⟩ := h
    refine mw_idiv (pc' := 29) dX10_dayOfCountBack_28 rfl o15 (by decide) ?_
    refine mw_min (pc' := 32) dX10_dayOfCountBack_29 rfl bw_446 bw_447 bw_24 bw_448 (by decide) (by decide) (Nat.le_of_ble_eq_true rfl) ?_
    obtain ⟨o16, h⟩ := h
    refine mw_imul (pc' := 33) dX10_dayOfCountBack_32 rfl o16 ?_
    refine mw_istore (pc' := 35) (L' := [(0, vR 53), (1, vI x1), (2, vI x2), (3, vI x3), (4, vI x4), (5, vI (7 * (min ((x4 - 1) / 5) (x3 / 7))))]) dX10_dayOfCountBack_33 rfl (by decide) rfl ?_
    refine mw_iload (pc' := 37) dX10_dayOfCountBack_35 rfl rfl ?_
    refine mw_aload_n (v := vR 53) (pc' := 38) dX10_dayOfCountBack_37 rfl rfl (Or.inl rfl) rfl ?_
    refine mw_getP (v := 10) (pc' := 41) dX10_dayOfCountBack_38 rfl fr_RX10_18_53 rfl sp_53_0 ⟨by decide, by decide⟩ ?_
    refine mw_iload_n (pc' := 42) dX10_dayOfCountBack_41 rfl rfl rfl ?_
    refine mw_iload (pc' := 44) dX10_dayOfCountBack_42 rfl rfl ?_
    obtain ⟨o17, h⟩ := h
    refine mw_isub (pc' := 45) dX10_dayOfCountBack_44 rfl o17 ?_
    refine mw_iconst (pc' := 46) dX10_dayOfCountBack_45 rfl ⟨by decide, by decide⟩ ?_
    obtain ⟨o18, h⟩ := h
    refine mw_iadd (pc' := 47) dX10_dayOfCountBack_46 rfl o18 ?_
    refine mw_iload_n (pc' := 48) dX10_dayOfCountBack_47 rfl rfl rfl ?_
    obtain ⟨o19, h⟩ := h
    obtain ⟨o20, h⟩ := h
    obtain ⟨o21, h⟩ := h
    refine mw_callV (M' := mX0_countCourt) (A := [vI ((x3 - (7 * (min ((x4 - 1) / 5) (x3 / 7)))) + 1), vI x3]) (A' := [vR 10, vI ((x3 - (7 * (min ((x4 - 1) / 5) (x3 / 7)))) + 1), vI x3]) (S := [vI x4]) (a := 10) (pc' := 51) dX10_dayOfCountBack_48 rfl cl_RX10_106 cm_X0_countCourt cv_X0_countCourt ⟨by decide, by decide, by decide, by decide, by decide⟩ rfl rfl rfl ⟨by decide, by omega⟩ (by decide +kernel) (by decide +kernel) (Nat.le_of_ble_eq_true rfl) (f_countCourt (⟨o19, o20, o21, ?_⟩))
    show MW mX10_dayOfCountBack 0 0 51 [(0, vR 53), (1, vI x1), (2, vI x2), (3, vI x3), (4, vI x4), (5, vI (7 * (min ((x4 - 1) / 5) (x3 / 7))))] [vI (cn (court R) ((x3 - (7 * (min ((x4 - 1) / 5) (x3 / 7)))) + 1) x3), vI x4] g d Q
    obtain ⟨o22, h⟩ := h
    refine mw_isub (pc' := 52) dX10_dayOfCountBack_51 rfl o22 ?_
    refine mw_istore (pc' := 54) (L' := [(0, vR 53), (1, vI x1), (2, vI x2), (3, vI x3), (4, vI (x4 - (cn (court R) ((x3 - (7 * (min ((x4 - 1) / 5) (x3 / 7)))) + 1) x3))), (5, vI (7 * (min ((x4 - 1) / 5) (x3 / 7))))]) dX10_dayOfCountBack_52 rfl (by decide) rfl ?_
    refine mw_iload_n (pc' := 55) dX10_dayOfCountBack_54 rfl rfl rfl ?_
    refine mw_iload (pc' := 57) dX10_dayOfCountBack_55 rfl rfl ?_
    refine mw_isub (pc' := 58) dX10_dayOfCountBack_57 rfl o17 ?_
    refine mw_istore_n (pc' := 59) (L' := [(0, vR 53), (1, vI x1), (2, vI x2), (3, vI (x3 - (7 * (min ((x4 - 1) / 5) (x3 / 7))))), (4, vI (x4 - (cn (court R) ((x3 - (7 * (min ((x4 - 1) / 5) (x3 / 7)))) + 1) x3))), (5, vI (7 * (min ((x4 - 1) / 5) (x3 / 7))))]) dX10_dayOfCountBack_58 rfl rfl (by decide) rfl ?_
    refine mw_goto (pc' := 0) (tgt := 5) dX10_dayOfCountBack_59 (by decide) ?_
    exact mw_loc (pc' := 0) [0, 1, 2, 3, 4] rfl h
  · replace h := h.2 c12
    exact h
theorem aX10_dayOfCountBack_2 {R : rW} {x1 x2 x3 x4 : Int} {g : mG} {d : mD} {Q : mQ} (h : ((x3 < 0) → Q (.inl (-1)) g d) ∧ ((¬ (x3 < 0)) → (CI d R) ∧ ((0 ≤ x3) ∧ ((iI (x4 - (bI (court R x3)))) ∧ (((x4 - (bI (court R x3)) = 0) → Q (.inl x3) g d) ∧ ((¬ (x4 - (bI (court R x3)) = 0)) → (iI (x3 + (-1))) ∧ (pX10_dayOfCountBack_2 x1 x2 (x3 + (-1)) (x4 - (bI (court R x3))) g d Q))))))) : pX10_dayOfCountBack_2 x1 x2 x3 x4 g d Q := by
  unfold pX10_dayOfCountBack_2
  refine mw_top (fun hT => ?_)
  have hG : 65 ≤ g.2.1 := hT.2
  refine mw_iload_n (pc' := 63) dX10_dayOfCountBack_62 rfl rfl rfl ?_
  refine mw_if_lt (tgt := 100) (pc' := 66) dX10_dayOfCountBack_63 rfl (by decide) (fun c27 => ?_) (fun c27 => ?_)
  · replace h := h.1 c27
    refine mw_iconst (pc' := 101) dX10_dayOfCountBack_100 rfl ⟨by decide, by decide⟩ ?_
    exact mw_iret (pc' := 0) (S := []) dX10_dayOfCountBack_101 rfl (Or.inl rfl) h
  · replace h := h.2 c27
    refine mw_iload (pc' := 68) dX10_dayOfCountBack_66 rfl rfl ?_
    refine mw_aload_n (v := vR 53) (pc' := 69) dX10_dayOfCountBack_68 rfl rfl (Or.inl rfl) rfl ?_
    refine mw_getP (v := 10) (pc' := 72) dX10_dayOfCountBack_69 rfl fr_RX10_18_53 rfl sp_53_0 ⟨by decide, by decide⟩ ?_
    refine mw_iload_n (pc' := 73) dX10_dayOfCountBack_72 rfl rfl rfl ?_
    obtain ⟨o28, h⟩ := h
    obtain ⟨o29, h⟩ := h
    refine mw_callV (M' := mX0_isCourt) (A := [vI x3]) (A' := [vR 10, vI x3]) (S := [vI x4]) (a := 10) (pc' := 76) dX10_dayOfCountBack_73 rfl cl_RX10_111 cm_X0_isCourt cv_X0_isCourt ⟨by decide, by decide, by decide, by decide, by decide⟩ rfl rfl rfl ⟨by decide, by omega⟩ (by decide +kernel) (by decide +kernel) (Nat.le_of_ble_eq_true rfl) (f_isCourtC (⟨o28, o29, ?_⟩))
    show MW mX10_dayOfCountBack 0 0 76 [(0, vR 53), (1, vI x1), (2, vI x2), (3, vI x3), (4, vI x4)] [vI (bI (court R x3)), vI x4] g d Q
    suffices k30 : MW mX10_dayOfCountBack 0 0 84 [(0, vR 53), (1, vI x1), (2, vI x2), (3, vI x3), (4, vI x4)] [vI (bI (court R x3)), vI x4] g d Q by
      refine mw_if_eq (tgt := 83) (pc' := 79) dX10_dayOfCountBack_76 rfl (by decide) (fun c31 => ?_) (fun c31 => ?_)
      · replace c31 := bI_0.mp c31
        refine mw_iconst (pc' := 84) dX10_dayOfCountBack_83 rfl ⟨by decide, by decide⟩ ?_
        exact mw_st (bI_f (fun h => (c31 h))).symm k30
      · replace c31 := bI_n0.mp c31
        refine mw_iconst (pc' := 80) dX10_dayOfCountBack_79 rfl ⟨by decide, by decide⟩ ?_
        refine mw_goto (pc' := 0) (tgt := 84) dX10_dayOfCountBack_80 (by decide) ?_
        exact mw_st (bI_t c31).symm k30
    obtain ⟨o32, h⟩ := h
    refine mw_isub (pc' := 85) dX10_dayOfCountBack_84 rfl o32 ?_
    refine mw_istore (pc' := 87) (L' := [(0, vR 53), (1, vI x1), (2, vI x2), (3, vI x3), (4, vI (x4 - (bI (court R x3))))]) dX10_dayOfCountBack_85 rfl (by decide) rfl ?_
    refine mw_iload (pc' := 89) dX10_dayOfCountBack_87 rfl rfl ?_
    refine mw_if_ne (tgt := 94) (pc' := 92) dX10_dayOfCountBack_89 rfl (by decide) (fun c33 => ?_) (fun c33 => ?_)
    · replace h := h.2 c33
      obtain ⟨o34, h⟩ := h
      refine mw_iinc (pc' := 97) (L' := [(0, vR 53), (1, vI x1), (2, vI x2), (3, vI (x3 + (-1))), (4, vI (x4 - (bI (court R x3))))]) dX10_dayOfCountBack_94 rfl rfl (by decide) o34 rfl ?_
      refine mw_goto (pc' := 0) (tgt := 62) dX10_dayOfCountBack_97 (by decide) ?_
      exact h
    · replace h := h.1 c33
      refine mw_iload_n (pc' := 93) dX10_dayOfCountBack_92 rfl rfl rfl ?_
      exact mw_iret (pc' := 0) (S := []) dX10_dayOfCountBack_93 rfl (Or.inl rfl) h
def pX10_moveEnd_1 (x1 x2 x3 : Int) (g : mG) (d : mD) (Q : mQ) : Prop := MW mX10_moveEnd 0 0 8 [(0, vR 53), (1, vI x1), (2, vI x2), (3, vI x3)] [] g d Q
theorem eX10_moveEnd {R : rW} {gp gr : Int} {x1 : Int} {g : mG} {d : mD} {Q : mQ} (h : (RG d R gp gr) ∧ ((0 ≤ x1 ∧ x1 ≤ 5000) ∧ (pX10_moveEnd_1 x1 (fd (fun x => ¬ stopd R gp gr x) x1) 0 g d Q))) : MM mX10_moveEnd [vR 53, vI x1] g d Q := by
  refine MM_of (by decide) rfl (by simp [catV]) (Nat.le_of_ble_eq_true rfl) ?_
  show MW mX10_moveEnd 0 0 0 [(0, vR 53), (1, vI x1)] [] g d Q
  refine mw_top (fun hT => ?_)
  have hG : 65 ≤ g.2.1 := hT.2
  refine mw_aload_n (v := vR 53) (pc' := 1) dX10_moveEnd_0 rfl rfl (Or.inl rfl) rfl ?_
  refine mw_iload_n (pc' := 2) dX10_moveEnd_1 rfl rfl rfl ?_
  obtain ⟨o1, h⟩ := h
  obtain ⟨o2, h⟩ := h
  refine mw_callV (M' := mX10_skipRange) (A := [vI x1]) (A' := [vR 53, vI x1]) (S := []) (a := 53) (pc' := 5) dX10_moveEnd_2 rfl cl_RX10_115 cm_X10_skipRange cv_X10_skipRange ⟨by decide, by decide, by decide, by decide, by decide⟩ rfl rfl rfl ⟨by decide, by omega⟩ (by decide +kernel) (by decide +kernel) (Nat.le_of_ble_eq_true rfl) (f_skipRange (⟨o1, o2, ?_⟩))
  show MW mX10_moveEnd 0 0 5 [(0, vR 53), (1, vI x1)] [vI (fd (fun x => ¬ stopd R gp gr x) x1)] g d Q
  refine mw_istore_n (pc' := 6) (L' := [(0, vR 53), (1, vI x1), (2, vI (fd (fun x => ¬ stopd R gp gr x) x1))]) dX10_moveEnd_5 rfl rfl (by decide) rfl ?_
  refine mw_iconst (pc' := 7) dX10_moveEnd_6 rfl ⟨by decide, by decide⟩ ?_
  refine mw_istore_n (pc' := 8) (L' := [(0, vR 53), (1, vI x1), (2, vI (fd (fun x => ¬ stopd R gp gr x) x1)), (3, vI 0)]) dX10_moveEnd_7 rfl rfl (by decide) rfl ?_
  exact h
theorem aX10_moveEnd_1 {R : rW} {gp gr : Int} {x1 x2 x3 : Int} {g : mG} {d : mD} {Q : mQ} (h : ((¬ (4999 < x3)) → (¬ (4999 < x2)) → CI d R) ∧ (((¬ (4999 < x3)) → (¬ (4999 < x2)) → 0 ≤ x2) ∧ ((((¬ (4999 < x3)) ∧ ((¬ (4999 < x2)) ∧ (¬ (court R x2)))) → (iI (x2 + 1)) ∧ ((RG d R gp gr) ∧ ((0 ≤ (x2 + 1) ∧ (x2 + 1) ≤ 5000) ∧ ((iI (x3 + 1)) ∧ (pX10_moveEnd_1 x1 (fd (fun x => ¬ stopd R gp gr x) (x2 + 1)) (x3 + 1) g d Q))))) ∧ ((¬ ((¬ (4999 < x3)) ∧ ((¬ (4999 < x2)) ∧ (¬ (court R x2))))) → Q (.inl x2) g d)))) : pX10_moveEnd_1 x1 x2 x3 g d Q := by
  unfold pX10_moveEnd_1
  refine mw_top (fun hT => ?_)
  have hG : 65 ≤ g.2.1 := hT.2
  refine mw_iload_n (pc' := 9) dX10_moveEnd_8 rfl rfl rfl ?_
  refine mw_sipush (pc' := 12) dX10_moveEnd_9 rfl ⟨by decide, by decide⟩ ?_
  obtain ⟨o3, h⟩ := h
  obtain ⟨o4, h⟩ := h
  suffices k11 : (((¬ (4999 < x3)) ∧ ((¬ (4999 < x2)) ∧ (¬ (court R x2)))) → MW mX10_moveEnd 0 0 33 [(0, vR 53), (1, vI x1), (2, vI x2), (3, vI x3)] [] g d Q) ∧ ((¬ ((¬ (4999 < x3)) ∧ ((¬ (4999 < x2)) ∧ (¬ (court R x2))))) → MW mX10_moveEnd 0 0 47 [(0, vR 53), (1, vI x1), (2, vI x2), (3, vI x3)] [] g d Q) by
    refine mw_icmp_gt (tgt := 47) (pc' := 15) dX10_moveEnd_12 rfl (by decide) (fun c12 => ?_) (fun c12 => ?_)
    · exact k11.2 (fun h => (h.1 c12))
    · refine mw_iload_n (pc' := 16) dX10_moveEnd_15 rfl rfl rfl ?_
      refine mw_sipush (pc' := 19) dX10_moveEnd_16 rfl ⟨by decide, by decide⟩ ?_
      refine mw_icmp_gt (tgt := 47) (pc' := 22) dX10_moveEnd_19 rfl (by decide) (fun c13 => ?_) (fun c13 => ?_)
      · exact k11.2 (fun h => (fun h => (h.1 c13)) h.2)
      · refine mw_aload_n (v := vR 53) (pc' := 23) dX10_moveEnd_22 rfl rfl (Or.inl rfl) rfl ?_
        refine mw_getP (v := 10) (pc' := 26) dX10_moveEnd_23 rfl fr_RX10_18_53 rfl sp_53_0 ⟨by decide, by decide⟩ ?_
        refine mw_iload_n (pc' := 27) dX10_moveEnd_26 rfl rfl rfl ?_
        refine mw_callV (M' := mX0_isCourt) (A := [vI x2]) (A' := [vR 10, vI x2]) (S := []) (a := 10) (pc' := 30) dX10_moveEnd_27 rfl cl_RX10_111 cm_X0_isCourt cv_X0_isCourt ⟨by decide, by decide, by decide, by decide, by decide⟩ rfl rfl rfl ⟨by decide, by omega⟩ (by decide +kernel) (by decide +kernel) (Nat.le_of_ble_eq_true rfl) (f_isCourtC (⟨(o3 c12 c13), (o4 c12 c13), ?_⟩))
        show MW mX10_moveEnd 0 0 30 [(0, vR 53), (1, vI x1), (2, vI x2), (3, vI x3)] [vI (bI (court R x2))] g d Q
        refine mw_if_ne (tgt := 47) (pc' := 33) dX10_moveEnd_30 rfl (by decide) (fun c14 => ?_) (fun c14 => ?_)
        · replace c14 := bI_n0.mp c14
          exact k11.2 (fun h => (fun h => (fun h => (h c14)) h.2) h.2)
        · replace c14 := bI_0.mp c14
          exact k11.1 ⟨c12, ⟨c13, c14⟩⟩
  refine ⟨fun c15 => ?_, fun c15 => ?_⟩
  · replace h := h.1 c15
    refine mw_aload_n (v := vR 53) (pc' := 34) dX10_moveEnd_33 rfl rfl (Or.inl rfl) rfl ?_
    refine mw_iload_n (pc' := 35) dX10_moveEnd_34 rfl rfl rfl ?_
    refine mw_iconst (pc' := 36) dX10_moveEnd_35 rfl ⟨by decide, by decide⟩ ?_
    obtain ⟨o16, h⟩ := h
    refine mw_iadd (pc' := 37) dX10_moveEnd_36 rfl o16 ?_
    obtain ⟨o17, h⟩ := h
    obtain ⟨o18, h⟩ := h
    refine mw_callV (M' := mX10_skipRange) (A := [vI (x2 + 1)]) (A' := [vR 53, vI (x2 + 1)]) (S := []) (a := 53) (pc' := 40) dX10_moveEnd_37 rfl cl_RX10_115 cm_X10_skipRange cv_X10_skipRange ⟨by decide, by decide, by decide, by decide, by decide⟩ rfl rfl rfl ⟨by decide, by omega⟩ (by decide +kernel) (by decide +kernel) (Nat.le_of_ble_eq_true rfl) (f_skipRange (⟨o17, o18, ?_⟩))
    show MW mX10_moveEnd 0 0 40 [(0, vR 53), (1, vI x1), (2, vI x2), (3, vI x3)] [vI (fd (fun x => ¬ stopd R gp gr x) (x2 + 1))] g d Q
    refine mw_istore_n (pc' := 41) (L' := [(0, vR 53), (1, vI x1), (2, vI (fd (fun x => ¬ stopd R gp gr x) (x2 + 1))), (3, vI x3)]) dX10_moveEnd_40 rfl rfl (by decide) rfl ?_
    obtain ⟨o19, h⟩ := h
    refine mw_iinc (pc' := 44) (L' := [(0, vR 53), (1, vI x1), (2, vI (fd (fun x => ¬ stopd R gp gr x) (x2 + 1))), (3, vI (x3 + 1))]) dX10_moveEnd_41 rfl rfl (by decide) o19 rfl ?_
    refine mw_goto (pc' := 0) (tgt := 8) dX10_moveEnd_44 (by decide) ?_
    exact h
  · replace h := h.2 c15
    refine mw_iload_n (pc' := 48) dX10_moveEnd_47 rfl rfl rfl ?_
    exact mw_iret (pc' := 0) (S := []) dX10_moveEnd_48 rfl (Or.inl rfl) h
