def pX12_dueOf_1 (x1 x2 x3 : Int) (g : mG) (d : mD) (Q : mQ) : Prop := MW mX12_dueOf 0 0 9 [(0, vR 65), (1, vI x1), (2, vI x2), (3, vI x3)] [] g d Q
theorem eX12_dueOf {x1 : Int} {g : mG} {d : mD} {Q : mQ} (h : (0 ≤ x1 ∧ x1 < 30) ∧ (pX12_dueOf_1 x1 (d 66 (141 + 16 * x1)) 0 g d Q)) : MM mX12_dueOf [vR 65, vI x1] g d Q := by
  refine MM_of (by decide) rfl (by simp [catV]) (Nat.le_of_ble_eq_true rfl) ?_
  show MW mX12_dueOf 0 0 0 [(0, vR 65), (1, vI x1)] [] g d Q
  refine mw_top (fun hT => ?_)
  have hG : 76 ≤ g.2.1 := hT.2
  refine mw_aload_n (v := vR 65) (pc' := 1) dX12_dueOf_0 rfl rfl (Or.inl rfl) rfl ?_
  refine mw_iload_n (pc' := 2) dX12_dueOf_1 rfl rfl rfl ?_
  refine mw_iconst (pc' := 3) dX12_dueOf_2 rfl ⟨by decide, by decide⟩ ?_
  obtain ⟨o1, h⟩ := h
  refine mw_callV (M' := mX12_of) (A := [vI x1, vI 2]) (A' := [vR 65, vI x1, vI 2]) (S := []) (a := 65) (pc' := 6) dX12_dueOf_3 rfl cl_RX12_131 cm_X12_of cv_X12_of ⟨by decide, by decide, by decide, by decide, by decide⟩ rfl rfl rfl ⟨by decide, by omega⟩ (by decide +kernel) (by decide +kernel) (Nat.le_of_ble_eq_true rfl) (f_dlOf (k := 141 + 16 * x1) (by omega) (⟨o1, (by decide), ?_⟩))
  show MW mX12_dueOf 0 0 6 [(0, vR 65), (1, vI x1)] [vI (d 66 (141 + 16 * x1))] g d Q
  refine mw_istore_n (pc' := 7) (L' := [(0, vR 65), (1, vI x1), (2, vI (d 66 (141 + 16 * x1)))]) dX12_dueOf_6 rfl rfl (by decide) rfl ?_
  refine mw_iconst (pc' := 8) dX12_dueOf_7 rfl ⟨by decide, by decide⟩ ?_
  refine mw_istore_n (pc' := 9) (L' := [(0, vR 65), (1, vI x1), (2, vI (d 66 (141 + 16 * x1))), (3, vI 0)]) dX12_dueOf_8 rfl rfl (by decide) rfl ?_
  exact h
theorem aX12_dueOf_1 {x1 x2 x3 : Int} {g : mG} {d : mD} {Q : mQ} (h : (RW (d 66)) ∧ ((0 ≤ x1 ∧ x1 < d 66 3) ∧ (((partsF (d 66) x1 ≤ x3) → Q (.inl x2) g d) ∧ ((¬ (partsF (d 66) x1 ≤ x3)) → ((x2 = (-1)) → Q (.inl x2) g d) ∧ ((¬ (x2 = (-1))) → (0 ≤ x1 ∧ x1 < 30) ∧ ((0 ≤ x3 ∧ x3 < partsF (d 66) x1) ∧ ((0 ≤ (d 66 (140 + 16 * x1)) ∧ (d 66 (140 + 16 * x1)) < 8) ∧ ((0 ≤ x2 ∧ x2 ≤ 4999) ∧ ((1 ≤ (plenF (d 66) x1 x3) ∧ (plenF (d 66) x1 x3) ≤ 200) ∧ ((iI (x3 + 1)) ∧ (pX12_dueOf_1 x1 (endM (d 66) (d 66 (139 + 16 * x1)) (d 66 (140 + 16 * x1)) x2 (plenF (d 66) x1 x3) (bI ((x3 = 0) ∧ (d 66 (143 + 16 * x1) = 1)))) (x3 + 1) g d Q))))))))))) : pX12_dueOf_1 x1 x2 x3 g d Q := by
  unfold pX12_dueOf_1
  refine mw_top (fun hT => ?_)
  have hG : 76 ≤ g.2.1 := hT.2
  refine mw_iload_n (pc' := 10) dX12_dueOf_9 rfl rfl rfl ?_
  refine mw_aload_n (v := vR 65) (pc' := 11) dX12_dueOf_10 rfl rfl (Or.inl rfl) rfl ?_
  refine mw_iload_n (pc' := 12) dX12_dueOf_11 rfl rfl rfl ?_
  obtain ⟨o2, h⟩ := h
  obtain ⟨o3, h⟩ := h
  refine mw_callV (M' := mX12_parts) (A := [vI x1]) (A' := [vR 65, vI x1]) (S := [vI x3]) (a := 65) (pc' := 15) dX12_dueOf_12 rfl cl_RX12_137 cm_X12_parts cv_X12_parts ⟨by decide, by decide, by decide, by decide, by decide⟩ rfl rfl rfl ⟨by decide, by omega⟩ (by decide +kernel) (by decide +kernel) (Nat.le_of_ble_eq_true rfl) (f_parts (⟨o2, o3, ?_⟩))
  show MW mX12_dueOf 0 0 15 [(0, vR 65), (1, vI x1), (2, vI x2), (3, vI x3)] [vI (partsF (d 66) x1), vI x3] g d Q
  refine mw_icmp_ge (tgt := 72) (pc' := 18) dX12_dueOf_15 rfl (by decide) (fun c14 => ?_) (fun c14 => ?_)
  · replace h := h.1 c14
    refine mw_iload_n (pc' := 73) dX12_dueOf_72 rfl rfl rfl ?_
    exact mw_iret (pc' := 0) (S := []) dX12_dueOf_73 rfl (Or.inl rfl) h
  · replace h := h.2 c14
    refine mw_iload_n (pc' := 19) dX12_dueOf_18 rfl rfl rfl ?_
    refine mw_iconst (pc' := 20) dX12_dueOf_19 rfl ⟨by decide, by decide⟩ ?_
    refine mw_icmp_eq (tgt := 72) (pc' := 23) dX12_dueOf_20 rfl (by decide) (fun c25 => ?_) (fun c25 => ?_)
    · replace h := h.1 c25
      refine mw_iload_n (pc' := 73) dX12_dueOf_72 rfl rfl rfl ?_
      exact mw_iret (pc' := 0) (S := []) dX12_dueOf_73 rfl (Or.inl rfl) h
    · replace h := h.2 c25
      refine mw_aload_n (v := vR 65) (pc' := 24) dX12_dueOf_23 rfl rfl (Or.inl rfl) rfl ?_
      refine mw_aload_n (v := vR 65) (pc' := 25) dX12_dueOf_24 rfl rfl (Or.inl rfl) rfl ?_
      refine mw_iload_n (pc' := 26) dX12_dueOf_25 rfl rfl rfl ?_
      refine mw_iconst (pc' := 27) dX12_dueOf_26 rfl ⟨by decide, by decide⟩ ?_
      obtain ⟨o26, h⟩ := h
      refine mw_callV (M' := mX12_of) (A := [vI x1, vI 0]) (A' := [vR 65, vI x1, vI 0]) (S := [vR 65]) (a := 65) (pc' := 30) dX12_dueOf_27 rfl cl_RX12_131 cm_X12_of cv_X12_of ⟨by decide, by decide, by decide, by decide, by decide⟩ rfl rfl rfl ⟨by decide, by omega⟩ (by decide +kernel) (by decide +kernel) (Nat.le_of_ble_eq_true rfl) (f_dlOf (k := 139 + 16 * x1) (by omega) (⟨o26, (by decide), ?_⟩))
      show MW mX12_dueOf 0 0 30 [(0, vR 65), (1, vI x1), (2, vI x2), (3, vI x3)] [vI (d 66 (139 + 16 * x1)), vR 65] g d Q
      refine mw_aload_n (v := vR 65) (pc' := 31) dX12_dueOf_30 rfl rfl (Or.inl rfl) rfl ?_
      refine mw_iload_n (pc' := 32) dX12_dueOf_31 rfl rfl rfl ?_
      refine mw_iconst (pc' := 33) dX12_dueOf_32 rfl ⟨by decide, by decide⟩ ?_
      refine mw_callV (M' := mX12_of) (A := [vI x1, vI 1]) (A' := [vR 65, vI x1, vI 1]) (S := [vI (d 66 (139 + 16 * x1)), vR 65]) (a := 65) (pc' := 36) dX12_dueOf_33 rfl cl_RX12_131 cm_X12_of cv_X12_of ⟨by decide, by decide, by decide, by decide, by decide⟩ rfl rfl rfl ⟨by decide, by omega⟩ (by decide +kernel) (by decide +kernel) (Nat.le_of_ble_eq_true rfl) (f_dlOf (k := 140 + 16 * x1) (by omega) (⟨o26, (by decide), ?_⟩))
      show MW mX12_dueOf 0 0 36 [(0, vR 65), (1, vI x1), (2, vI x2), (3, vI x3)] [vI (d 66 (140 + 16 * x1)), vI (d 66 (139 + 16 * x1)), vR 65] g d Q
      refine mw_iload_n (pc' := 37) dX12_dueOf_36 rfl rfl rfl ?_
      refine mw_aload_n (v := vR 65) (pc' := 38) dX12_dueOf_37 rfl rfl (Or.inl rfl) rfl ?_
      refine mw_iload_n (pc' := 39) dX12_dueOf_38 rfl rfl rfl ?_
      refine mw_iload_n (pc' := 40) dX12_dueOf_39 rfl rfl rfl ?_
      obtain ⟨o30, h⟩ := h
      refine mw_callV (M' := mX12_partLength) (A := [vI x1, vI x3]) (A' := [vR 65, vI x1, vI x3]) (S := [vI x2, vI (d 66 (140 + 16 * x1)), vI (d 66 (139 + 16 * x1)), vR 65]) (a := 65) (pc' := 43) dX12_dueOf_40 rfl cl_RX12_140 cm_X12_partLength cv_X12_partLength ⟨by decide, by decide, by decide, by decide, by decide⟩ rfl rfl rfl ⟨by decide, by omega⟩ (by decide +kernel) (by decide +kernel) (Nat.le_of_ble_eq_true rfl) (f_partLength (⟨o2, o3, o30, ?_⟩))
      show MW mX12_dueOf 0 0 43 [(0, vR 65), (1, vI x1), (2, vI x2), (3, vI x3)] [vI (plenF (d 66) x1 x3), vI x2, vI (d 66 (140 + 16 * x1)), vI (d 66 (139 + 16 * x1)), vR 65] g d Q
      refine mw_iload_n (pc' := 44) dX12_dueOf_43 rfl rfl rfl ?_
      suffices k32 : MW mX12_dueOf 0 0 62 [(0, vR 65), (1, vI x1), (2, vI x2), (3, vI x3)] [vI (bI ((x3 = 0) ∧ (d 66 (143 + 16 * x1) = 1))), vI (plenF (d 66) x1 x3), vI x2, vI (d 66 (140 + 16 * x1)), vI (d 66 (139 + 16 * x1)), vR 65] g d Q by
        refine mw_if_ne (tgt := 61) (pc' := 47) dX12_dueOf_44 rfl (by decide) (fun c33 => ?_) (fun c33 => ?_)
        · refine mw_iconst (pc' := 62) dX12_dueOf_61 rfl ⟨by decide, by decide⟩ ?_
          exact mw_st (bI_f (fun h => (c33 h.1))).symm k32
        · refine mw_aload_n (v := vR 65) (pc' := 48) dX12_dueOf_47 rfl rfl (Or.inl rfl) rfl ?_
          refine mw_iload_n (pc' := 49) dX12_dueOf_48 rfl rfl rfl ?_
          refine mw_iconst (pc' := 50) dX12_dueOf_49 rfl ⟨by decide, by decide⟩ ?_
          refine mw_callV (M' := mX12_of) (A := [vI x1, vI 4]) (A' := [vR 65, vI x1, vI 4]) (S := [vI (plenF (d 66) x1 x3), vI x2, vI (d 66 (140 + 16 * x1)), vI (d 66 (139 + 16 * x1)), vR 65]) (a := 65) (pc' := 53) dX12_dueOf_50 rfl cl_RX12_131 cm_X12_of cv_X12_of ⟨by decide, by decide, by decide, by decide, by decide⟩ rfl rfl rfl ⟨by decide, by omega⟩ (by decide +kernel) (by decide +kernel) (Nat.le_of_ble_eq_true rfl) (f_dlOf (k := 143 + 16 * x1) (by omega) (⟨o26, (by decide), ?_⟩))
          show MW mX12_dueOf 0 0 53 [(0, vR 65), (1, vI x1), (2, vI x2), (3, vI x3)] [vI (d 66 (143 + 16 * x1)), vI (plenF (d 66) x1 x3), vI x2, vI (d 66 (140 + 16 * x1)), vI (d 66 (139 + 16 * x1)), vR 65] g d Q
          refine mw_iconst (pc' := 54) dX12_dueOf_53 rfl ⟨by decide, by decide⟩ ?_
          refine mw_icmp_ne (tgt := 61) (pc' := 57) dX12_dueOf_54 rfl (by decide) (fun c34 => ?_) (fun c34 => ?_)
          · refine mw_iconst (pc' := 62) dX12_dueOf_61 rfl ⟨by decide, by decide⟩ ?_
            exact mw_st (bI_f (fun h => (fun h => (c34 h)) h.2)).symm k32
          · refine mw_iconst (pc' := 58) dX12_dueOf_57 rfl ⟨by decide, by decide⟩ ?_
            refine mw_goto (pc' := 0) (tgt := 62) dX12_dueOf_58 (by decide) ?_
            exact mw_st (bI_t ⟨c33, c34⟩).symm k32
      obtain ⟨o36, h⟩ := h
      obtain ⟨o37, h⟩ := h
      obtain ⟨o38, h⟩ := h
      refine mw_callV (M' := mX12_endOf) (A := [vI (d 66 (139 + 16 * x1)), vI (d 66 (140 + 16 * x1)), vI x2, vI (plenF (d 66) x1 x3), vI (bI ((x3 = 0) ∧ (d 66 (143 + 16 * x1) = 1)))]) (A' := [vR 65, vI (d 66 (139 + 16 * x1)), vI (d 66 (140 + 16 * x1)), vI x2, vI (plenF (d 66) x1 x3), vI (bI ((x3 = 0) ∧ (d 66 (143 + 16 * x1) = 1)))]) (S := []) (a := 65) (pc' := 65) dX12_dueOf_62 rfl cl_RX12_143 cm_X12_endOf cv_X12_endOf ⟨by decide, by decide, by decide, by decide, by decide⟩ rfl rfl rfl ⟨by decide, by omega⟩ (by decide +kernel) (by decide +kernel) (Nat.le_of_ble_eq_true rfl) (f_endOf (⟨o2, o36, o37, o38, ?_⟩))
      show MW mX12_dueOf 0 0 65 [(0, vR 65), (1, vI x1), (2, vI x2), (3, vI x3)] [vI (endM (d 66) (d 66 (139 + 16 * x1)) (d 66 (140 + 16 * x1)) x2 (plenF (d 66) x1 x3) (bI ((x3 = 0) ∧ (d 66 (143 + 16 * x1) = 1))))] g d Q
      refine mw_istore_n (pc' := 66) (L' := [(0, vR 65), (1, vI x1), (2, vI (endM (d 66) (d 66 (139 + 16 * x1)) (d 66 (140 + 16 * x1)) x2 (plenF (d 66) x1 x3) (bI ((x3 = 0) ∧ (d 66 (143 + 16 * x1) = 1))))), (3, vI x3)]) dX12_dueOf_65 rfl rfl (by decide) rfl ?_
      obtain ⟨o39, h⟩ := h
      refine mw_iinc (pc' := 69) (L' := [(0, vR 65), (1, vI x1), (2, vI (endM (d 66) (d 66 (139 + 16 * x1)) (d 66 (140 + 16 * x1)) x2 (plenF (d 66) x1 x3) (bI ((x3 = 0) ∧ (d 66 (143 + 16 * x1) = 1))))), (3, vI (x3 + 1))]) dX12_dueOf_66 rfl rfl (by decide) o39 rfl ?_
      refine mw_goto (pc' := 0) (tgt := 9) dX12_dueOf_69 (by decide) ?_
      exact h
def pX12_leftOf_1 (x1 x2 x3 : Int) (g : mG) (d : mD) (Q : mQ) : Prop := MW mX12_leftOf 0 0 4 [(0, vR 65), (1, vI x1), (2, vI x2), (3, vI x3)] [] g d Q
def pX12_leftOf_2 (x1 x2 x3 x4 x5 : Int) (g : mG) (d : mD) (Q : mQ) : Prop := MW mX12_leftOf 0 0 43 [(0, vR 65), (1, vI x1), (2, vI x2), (3, vI x3), (4, vI x4), (5, vI x5)] [] g d Q
theorem eX12_leftOf {x1 : Int} {g : mG} {d : mD} {Q : mQ} (h : pX12_leftOf_1 x1 0 0 g d Q) : MM mX12_leftOf [vR 65, vI x1] g d Q := by
  refine MM_of (by decide) rfl (by simp [catV]) (Nat.le_of_ble_eq_true rfl) ?_
  show MW mX12_leftOf 0 0 0 [(0, vR 65), (1, vI x1)] [] g d Q
  refine mw_top (fun hT => ?_)
  have hG : 76 ≤ g.2.1 := hT.2
  refine mw_iconst (pc' := 1) dX12_leftOf_0 rfl ⟨by decide, by decide⟩ ?_
  refine mw_istore_n (pc' := 2) (L' := [(0, vR 65), (1, vI x1), (2, vI 0)]) dX12_leftOf_1 rfl rfl (by decide) rfl ?_
  refine mw_iconst (pc' := 3) dX12_leftOf_2 rfl ⟨by decide, by decide⟩ ?_
  refine mw_istore_n (pc' := 4) (L' := [(0, vR 65), (1, vI x1), (2, vI 0), (3, vI 0)]) dX12_leftOf_3 rfl rfl (by decide) rfl ?_
  exact h
theorem aX12_leftOf_1 {x1 x2 x3 : Int} {g : mG} {d : mD} {Q : mQ} (h : (RW (d 66)) ∧ ((0 ≤ x1 ∧ x1 < d 66 3) ∧ (((partsF (d 66) x1 ≤ x3) → (0 ≤ x1 ∧ x1 < 30) ∧ ((iI ((d 66 (141 + 16 * x1)) + 1)) ∧ (pX12_leftOf_2 x1 x2 0 0 ((d 66 (141 + 16 * x1)) + 1) g d Q))) ∧ ((¬ (partsF (d 66) x1 ≤ x3)) → (0 ≤ x3 ∧ x3 < partsF (d 66) x1) ∧ ((iI (x2 + (plenF (d 66) x1 x3))) ∧ ((iI (x3 + 1)) ∧ (pX12_leftOf_1 x1 (x2 + (plenF (d 66) x1 x3)) (x3 + 1) g d Q))))))) : pX12_leftOf_1 x1 x2 x3 g d Q := by
  unfold pX12_leftOf_1
  refine mw_top (fun hT => ?_)
  have hG : 76 ≤ g.2.1 := hT.2
  refine mw_iload_n (pc' := 5) dX12_leftOf_4 rfl rfl rfl ?_
  refine mw_aload_n (v := vR 65) (pc' := 6) dX12_leftOf_5 rfl rfl (Or.inl rfl) rfl ?_
  refine mw_iload_n (pc' := 7) dX12_leftOf_6 rfl rfl rfl ?_
  obtain ⟨o1, h⟩ := h
  obtain ⟨o2, h⟩ := h
  refine mw_callV (M' := mX12_parts) (A := [vI x1]) (A' := [vR 65, vI x1]) (S := [vI x3]) (a := 65) (pc' := 10) dX12_leftOf_7 rfl cl_RX12_137 cm_X12_parts cv_X12_parts ⟨by decide, by decide, by decide, by decide, by decide⟩ rfl rfl rfl ⟨by decide, by omega⟩ (by decide +kernel) (by decide +kernel) (Nat.le_of_ble_eq_true rfl) (f_parts (⟨o1, o2, ?_⟩))
  show MW mX12_leftOf 0 0 10 [(0, vR 65), (1, vI x1), (2, vI x2), (3, vI x3)] [vI (partsF (d 66) x1), vI x3] g d Q
  refine mw_icmp_ge (tgt := 28) (pc' := 13) dX12_leftOf_10 rfl (by decide) (fun c11 => ?_) (fun c11 => ?_)
  · replace h := h.1 c11
    refine mw_iconst (pc' := 29) dX12_leftOf_28 rfl ⟨by decide, by decide⟩ ?_
    refine mw_istore_n (pc' := 30) (L' := [(0, vR 65), (1, vI x1), (2, vI x2), (3, vI 0)]) dX12_leftOf_29 rfl rfl (by decide) rfl ?_
    refine mw_iconst (pc' := 31) dX12_leftOf_30 rfl ⟨by decide, by decide⟩ ?_
    refine mw_istore (pc' := 33) (L' := [(0, vR 65), (1, vI x1), (2, vI x2), (3, vI 0), (4, vI 0)]) dX12_leftOf_31 rfl (by decide) rfl ?_
    refine mw_aload_n (v := vR 65) (pc' := 34) dX12_leftOf_33 rfl rfl (Or.inl rfl) rfl ?_
    refine mw_iload_n (pc' := 35) dX12_leftOf_34 rfl rfl rfl ?_
    refine mw_iconst (pc' := 36) dX12_leftOf_35 rfl ⟨by decide, by decide⟩ ?_
    obtain ⟨o12, h⟩ := h
    refine mw_callV (M' := mX12_of) (A := [vI x1, vI 2]) (A' := [vR 65, vI x1, vI 2]) (S := []) (a := 65) (pc' := 39) dX12_leftOf_36 rfl cl_RX12_131 cm_X12_of cv_X12_of ⟨by decide, by decide, by decide, by decide, by decide⟩ rfl rfl rfl ⟨by decide, by omega⟩ (by decide +kernel) (by decide +kernel) (Nat.le_of_ble_eq_true rfl) (f_dlOf (k := 141 + 16 * x1) (by omega) (⟨o12, (by decide), ?_⟩))
    show MW mX12_leftOf 0 0 39 [(0, vR 65), (1, vI x1), (2, vI x2), (3, vI 0), (4, vI 0)] [vI (d 66 (141 + 16 * x1))] g d Q
    refine mw_iconst (pc' := 40) dX12_leftOf_39 rfl ⟨by decide, by decide⟩ ?_
    obtain ⟨o13, h⟩ := h
    refine mw_iadd (pc' := 41) dX12_leftOf_40 rfl o13 ?_
    refine mw_istore (pc' := 43) (L' := [(0, vR 65), (1, vI x1), (2, vI x2), (3, vI 0), (4, vI 0), (5, vI ((d 66 (141 + 16 * x1)) + 1))]) dX12_leftOf_41 rfl (by decide) rfl ?_
    exact h
  · replace h := h.2 c11
    refine mw_iload_n (pc' := 14) dX12_leftOf_13 rfl rfl rfl ?_
    refine mw_aload_n (v := vR 65) (pc' := 15) dX12_leftOf_14 rfl rfl (Or.inl rfl) rfl ?_
    refine mw_iload_n (pc' := 16) dX12_leftOf_15 rfl rfl rfl ?_
    refine mw_iload_n (pc' := 17) dX12_leftOf_16 rfl rfl rfl ?_
    obtain ⟨o16, h⟩ := h
    refine mw_callV (M' := mX12_partLength) (A := [vI x1, vI x3]) (A' := [vR 65, vI x1, vI x3]) (S := [vI x2]) (a := 65) (pc' := 20) dX12_leftOf_17 rfl cl_RX12_140 cm_X12_partLength cv_X12_partLength ⟨by decide, by decide, by decide, by decide, by decide⟩ rfl rfl rfl ⟨by decide, by omega⟩ (by decide +kernel) (by decide +kernel) (Nat.le_of_ble_eq_true rfl) (f_partLength (⟨o1, o2, o16, ?_⟩))
    show MW mX12_leftOf 0 0 20 [(0, vR 65), (1, vI x1), (2, vI x2), (3, vI x3)] [vI (plenF (d 66) x1 x3), vI x2] g d Q
    obtain ⟨o17, h⟩ := h
    refine mw_iadd (pc' := 21) dX12_leftOf_20 rfl o17 ?_
    refine mw_istore_n (pc' := 22) (L' := [(0, vR 65), (1, vI x1), (2, vI (x2 + (plenF (d 66) x1 x3))), (3, vI x3)]) dX12_leftOf_21 rfl rfl (by decide) rfl ?_
    obtain ⟨o18, h⟩ := h
    refine mw_iinc (pc' := 25) (L' := [(0, vR 65), (1, vI x1), (2, vI (x2 + (plenF (d 66) x1 x3))), (3, vI (x3 + 1))]) dX12_leftOf_22 rfl rfl (by decide) o18 rfl ?_
    refine mw_goto (pc' := 0) (tgt := 4) dX12_leftOf_25 (by decide) ?_
    exact h
theorem aX12_leftOf_2 {x1 x2 x3 x4 x5 : Int} {g : mG} {d : mD} {Q : mQ} (h : ((¬ (d 66 0 < x5)) → RW (d 66)) ∧ (((¬ (d 66 0 < x5)) → 0 ≤ x1 ∧ x1 < d 66 3) ∧ ((((¬ (d 66 0 < x5)) ∧ (¬ (partsF (d 66) x1 ≤ x3))) → (0 ≤ x1 ∧ x1 < 30) ∧ ((RW (d 66)) ∧ ((0 ≤ (d 66 (140 + 16 * x1)) ∧ (d 66 (140 + 16 * x1)) < 8) ∧ ((0 ≤ x1 ∧ x1 < d 66 3) ∧ ((0 ≤ x3 ∧ x3 < partsF (d 66) x1) ∧ (((plenF (d 66) x1 x3 ≤ x4) → ((x4 = plenF (d 66) x1 x3) → 0 ≤ x5) ∧ ((((x4 = plenF (d 66) x1 x3) ∧ ((court (d 66) x5) ∧ (¬ (stopd (d 66) (d 66 (139 + 16 * x1)) (d 66 (140 + 16 * x1)) x5)))) → (iI (x3 + 1)) ∧ ((iI (x5 + 1)) ∧ (pX12_leftOf_2 x1 x2 (x3 + 1) 0 (x5 + 1) g d Q))) ∧ ((¬ ((x4 = plenF (d 66) x1 x3) ∧ ((court (d 66) x5) ∧ (¬ (stopd (d 66) (d 66 (139 + 16 * x1)) (d 66 (140 + 16 * x1)) x5))))) → (iI (x5 + 1)) ∧ (pX12_leftOf_2 x1 x2 x3 x4 (x5 + 1) g d Q)))) ∧ ((¬ (plenF (d 66) x1 x3 ≤ x4)) → ((¬ (stopd (d 66) (d 66 (139 + 16 * x1)) (d 66 (140 + 16 * x1)) x5)) → (¬ (0 < x3)) → (¬ (d 66 (143 + 16 * x1) = 0)) → 0 ≤ x5) ∧ ((((¬ (stopd (d 66) (d 66 (139 + 16 * x1)) (d 66 (140 + 16 * x1)) x5)) ∧ ((0 < x3) ∨ ((d 66 (143 + 16 * x1) = 0) ∨ (court (d 66) x5)))) → (iI (x4 + 1)) ∧ ((iI (x2 - 1)) ∧ (((x4 + 1 = plenF (d 66) x1 x3) → 0 ≤ x5) ∧ ((((x4 + 1 = plenF (d 66) x1 x3) ∧ ((court (d 66) x5) ∧ (¬ (stopd (d 66) (d 66 (139 + 16 * x1)) (d 66 (140 + 16 * x1)) x5)))) → (iI (x3 + 1)) ∧ ((iI (x5 + 1)) ∧ (pX12_leftOf_2 x1 (x2 - 1) (x3 + 1) 0 (x5 + 1) g d Q))) ∧ ((¬ ((x4 + 1 = plenF (d 66) x1 x3) ∧ ((court (d 66) x5) ∧ (¬ (stopd (d 66) (d 66 (139 + 16 * x1)) (d 66 (140 + 16 * x1)) x5))))) → (iI (x5 + 1)) ∧ (pX12_leftOf_2 x1 (x2 - 1) x3 (x4 + 1) (x5 + 1) g d Q)))))) ∧ ((¬ ((¬ (stopd (d 66) (d 66 (139 + 16 * x1)) (d 66 (140 + 16 * x1)) x5)) ∧ ((0 < x3) ∨ ((d 66 (143 + 16 * x1) = 0) ∨ (court (d 66) x5))))) → (iI (x4 + 0)) ∧ ((iI (x2 - 0)) ∧ (((x4 + 0 = plenF (d 66) x1 x3) → 0 ≤ x5) ∧ ((((x4 + 0 = plenF (d 66) x1 x3) ∧ ((court (d 66) x5) ∧ (¬ (stopd (d 66) (d 66 (139 + 16 * x1)) (d 66 (140 + 16 * x1)) x5)))) → (iI (x3 + 1)) ∧ ((iI (x5 + 1)) ∧ (pX12_leftOf_2 x1 (x2 - 0) (x3 + 1) 0 (x5 + 1) g d Q))) ∧ ((¬ ((x4 + 0 = plenF (d 66) x1 x3) ∧ ((court (d 66) x5) ∧ (¬ (stopd (d 66) (d 66 (139 + 16 * x1)) (d 66 (140 + 16 * x1)) x5))))) → (iI (x5 + 1)) ∧ (pX12_leftOf_2 x1 (x2 - 0) x3 (x4 + 0) (x5 + 1) g d Q)))))))))))))) ∧ ((¬ ((¬ (d 66 0 < x5)) ∧ (¬ (partsF (d 66) x1 ≤ x3)))) → Q (.inl x2) g d)))) : pX12_leftOf_2 x1 x2 x3 x4 x5 g d Q := by
  unfold pX12_leftOf_2
  refine mw_top (fun hT => ?_)
  have hG : 76 ≤ g.2.1 := hT.2
  refine mw_iload (pc' := 45) dX12_leftOf_43 rfl rfl ?_
  refine mw_aload_n (v := vR 65) (pc' := 46) dX12_leftOf_45 rfl rfl (Or.inl rfl) rfl ?_
  refine mw_getP (v := 66) (pc' := 49) dX12_leftOf_46 rfl fr_RX12_9_65 rfl sp_65_0 ⟨by decide, by decide⟩ ?_
  refine mw_iconst (pc' := 50) dX12_leftOf_49 rfl ⟨by decide, by decide⟩ ?_
  refine mw_iald (pc' := 51) dX12_leftOf_50 rfl lk_66 ⟨by decide, by decide⟩ (by rw [ln_66]; exact ⟨by decide, by decide⟩) ?_
  obtain ⟨o19, h⟩ := h
  obtain ⟨o20, h⟩ := h
  suffices k29 : (((¬ (d 66 0 < x5)) ∧ (¬ (partsF (d 66) x1 ≤ x3))) → MW mX12_leftOf 0 0 63 [(0, vR 65), (1, vI x1), (2, vI x2), (3, vI x3), (4, vI x4), (5, vI x5)] [] g d Q) ∧ ((¬ ((¬ (d 66 0 < x5)) ∧ (¬ (partsF (d 66) x1 ≤ x3)))) → MW mX12_leftOf 0 0 193 [(0, vR 65), (1, vI x1), (2, vI x2), (3, vI x3), (4, vI x4), (5, vI x5)] [] g d Q) by
    refine mw_icmp_gt (tgt := 193) (pc' := 54) dX12_leftOf_51 rfl (by decide) (fun c30 => ?_) (fun c30 => ?_)
    · exact k29.2 (fun h => (h.1 c30))
    · refine mw_iload_n (pc' := 55) dX12_leftOf_54 rfl rfl rfl ?_
      refine mw_aload_n (v := vR 65) (pc' := 56) dX12_leftOf_55 rfl rfl (Or.inl rfl) rfl ?_
      refine mw_iload_n (pc' := 57) dX12_leftOf_56 rfl rfl rfl ?_
      refine mw_callV (M' := mX12_parts) (A := [vI x1]) (A' := [vR 65, vI x1]) (S := [vI x3]) (a := 65) (pc' := 60) dX12_leftOf_57 rfl cl_RX12_137 cm_X12_parts cv_X12_parts ⟨by decide, by decide, by decide, by decide, by decide⟩ rfl rfl rfl ⟨by decide, by omega⟩ (by decide +kernel) (by decide +kernel) (Nat.le_of_ble_eq_true rfl) (f_parts (⟨(o19 c30), (o20 c30), ?_⟩))
      show MW mX12_leftOf 0 0 60 [(0, vR 65), (1, vI x1), (2, vI x2), (3, vI x3), (4, vI x4), (5, vI x5)] [vI (partsF (d 66) x1), vI x3] g d Q
      refine mw_icmp_ge (tgt := 193) (pc' := 63) dX12_leftOf_60 rfl (by decide) (fun c31 => ?_) (fun c31 => ?_)
      · exact k29.2 (fun h => (fun h => (h c31)) h.2)
      · exact k29.1 ⟨c30, c31⟩
  refine ⟨fun c32 => ?_, fun c32 => ?_⟩
  · replace h := h.1 c32
    refine mw_aload_n (v := vR 65) (pc' := 64) dX12_leftOf_63 rfl rfl (Or.inl rfl) rfl ?_
    refine mw_aload_n (v := vR 65) (pc' := 65) dX12_leftOf_64 rfl rfl (Or.inl rfl) rfl ?_
    refine mw_iload_n (pc' := 66) dX12_leftOf_65 rfl rfl rfl ?_
    refine mw_iconst (pc' := 67) dX12_leftOf_66 rfl ⟨by decide, by decide⟩ ?_
    obtain ⟨o33, h⟩ := h
    refine mw_callV (M' := mX12_of) (A := [vI x1, vI 0]) (A' := [vR 65, vI x1, vI 0]) (S := [vR 65]) (a := 65) (pc' := 70) dX12_leftOf_67 rfl cl_RX12_131 cm_X12_of cv_X12_of ⟨by decide, by decide, by decide, by decide, by decide⟩ rfl rfl rfl ⟨by decide, by omega⟩ (by decide +kernel) (by decide +kernel) (Nat.le_of_ble_eq_true rfl) (f_dlOf (k := 139 + 16 * x1) (by omega) (⟨o33, (by decide), ?_⟩))
    show MW mX12_leftOf 0 0 70 [(0, vR 65), (1, vI x1), (2, vI x2), (3, vI x3), (4, vI x4), (5, vI x5)] [vI (d 66 (139 + 16 * x1)), vR 65] g d Q
    refine mw_aload_n (v := vR 65) (pc' := 71) dX12_leftOf_70 rfl rfl (Or.inl rfl) rfl ?_
    refine mw_iload_n (pc' := 72) dX12_leftOf_71 rfl rfl rfl ?_
    refine mw_iconst (pc' := 73) dX12_leftOf_72 rfl ⟨by decide, by decide⟩ ?_
    refine mw_callV (M' := mX12_of) (A := [vI x1, vI 1]) (A' := [vR 65, vI x1, vI 1]) (S := [vI (d 66 (139 + 16 * x1)), vR 65]) (a := 65) (pc' := 76) dX12_leftOf_73 rfl cl_RX12_131 cm_X12_of cv_X12_of ⟨by decide, by decide, by decide, by decide, by decide⟩ rfl rfl rfl ⟨by decide, by omega⟩ (by decide +kernel) (by decide +kernel) (Nat.le_of_ble_eq_true rfl) (f_dlOf (k := 140 + 16 * x1) (by omega) (⟨o33, (by decide), ?_⟩))
    show MW mX12_leftOf 0 0 76 [(0, vR 65), (1, vI x1), (2, vI x2), (3, vI x3), (4, vI x4), (5, vI x5)] [vI (d 66 (140 + 16 * x1)), vI (d 66 (139 + 16 * x1)), vR 65] g d Q
    refine mw_iload (pc' := 78) dX12_leftOf_76 rfl rfl ?_
    obtain ⟨o35, h⟩ := h
    obtain ⟨o36, h⟩ := h
    refine mw_callV (M' := mX12_isStoppedFor) (A := [vI (d 66 (139 + 16 * x1)), vI (d 66 (140 + 16 * x1)), vI x5]) (A' := [vR 65, vI (d 66 (139 + 16 * x1)), vI (d 66 (140 + 16 * x1)), vI x5]) (S := []) (a := 65) (pc' := 81) dX12_leftOf_78 rfl cl_RX12_134 cm_X12_isStoppedFor cv_X12_isStoppedFor ⟨by decide, by decide, by decide, by decide, by decide⟩ rfl rfl rfl ⟨by decide, by omega⟩ (by decide +kernel) (by decide +kernel) (Nat.le_of_ble_eq_true rfl) (f_isStoppedFor (⟨o35, o36, ?_⟩))
    show MW mX12_leftOf 0 0 81 [(0, vR 65), (1, vI x1), (2, vI x2), (3, vI x3), (4, vI x4), (5, vI x5)] [vI (bI (stopd (d 66) (d 66 (139 + 16 * x1)) (d 66 (140 + 16 * x1)) x5))] g d Q
    refine mw_istore (pc' := 83) (L' := [(0, vR 65), (1, vI x1), (2, vI x2), (3, vI x3), (4, vI x4), (5, vI x5), (6, vI (bI (stopd (d 66) (d 66 (139 + 16 * x1)) (d 66 (140 + 16 * x1)) x5)))]) dX12_leftOf_81 rfl (by decide) rfl ?_
    refine mw_iload (pc' := 85) dX12_leftOf_83 rfl rfl ?_
    refine mw_aload_n (v := vR 65) (pc' := 86) dX12_leftOf_85 rfl rfl (Or.inl rfl) rfl ?_
    refine mw_iload_n (pc' := 87) dX12_leftOf_86 rfl rfl rfl ?_
    refine mw_iload_n (pc' := 88) dX12_leftOf_87 rfl rfl rfl ?_
    obtain ⟨o38, h⟩ := h
    obtain ⟨o39, h⟩ := h
    refine mw_callV (M' := mX12_partLength) (A := [vI x1, vI x3]) (A' := [vR 65, vI x1, vI x3]) (S := [vI x4]) (a := 65) (pc' := 91) dX12_leftOf_88 rfl cl_RX12_140 cm_X12_partLength cv_X12_partLength ⟨by decide, by decide, by decide, by decide, by decide⟩ rfl rfl rfl ⟨by decide, by omega⟩ (by decide +kernel) (by decide +kernel) (Nat.le_of_ble_eq_true rfl) (f_partLength (⟨o35, o38, o39, ?_⟩))
    show MW mX12_leftOf 0 0 91 [(0, vR 65), (1, vI x1), (2, vI x2), (3, vI x3), (4, vI x4), (5, vI x5), (6, vI (bI (stopd (d 66) (d 66 (139 + 16 * x1)) (d 66 (140 + 16 * x1)) x5)))] [vI (plenF (d 66) x1 x3), vI x4] g d Q
    refine mw_icmp_ge (tgt := 156) (pc' := 94) dX12_leftOf_91 rfl (by decide) (fun c46 => ?_) (fun c46 => ?_)
    · replace h := h.1 c46
      refine mw_iload (pc' := 158) dX12_leftOf_156 rfl rfl ?_
      refine mw_aload_n (v := vR 65) (pc' := 159) dX12_leftOf_158 rfl rfl (Or.inl rfl) rfl ?_
      refine mw_iload_n (pc' := 160) dX12_leftOf_159 rfl rfl rfl ?_
      refine mw_iload_n (pc' := 161) dX12_leftOf_160 rfl rfl rfl ?_
      refine mw_callV (M' := mX12_partLength) (A := [vI x1, vI x3]) (A' := [vR 65, vI x1, vI x3]) (S := [vI x4]) (a := 65) (pc' := 164) dX12_leftOf_161 rfl cl_RX12_140 cm_X12_partLength cv_X12_partLength ⟨by decide, by decide, by decide, by decide, by decide⟩ rfl rfl rfl ⟨by decide, by omega⟩ (by decide +kernel) (by decide +kernel) (Nat.le_of_ble_eq_true rfl) (f_partLength (⟨o35, o38, o39, ?_⟩))
      show MW mX12_leftOf 0 0 164 [(0, vR 65), (1, vI x1), (2, vI x2), (3, vI x3), (4, vI x4), (5, vI x5), (6, vI (bI (stopd (d 66) (d 66 (139 + 16 * x1)) (d 66 (140 + 16 * x1)) x5)))] [vI (plenF (d 66) x1 x3), vI x4] g d Q
      obtain ⟨o51, h⟩ := h
      suffices k52 : (((x4 = plenF (d 66) x1 x3) ∧ ((court (d 66) x5) ∧ (¬ (stopd (d 66) (d 66 (139 + 16 * x1)) (d 66 (140 + 16 * x1)) x5)))) → MW mX12_leftOf 0 0 181 [(0, vR 65), (1, vI x1), (2, vI x2), (3, vI x3), (4, vI x4), (5, vI x5), (6, vI (bI (stopd (d 66) (d 66 (139 + 16 * x1)) (d 66 (140 + 16 * x1)) x5)))] [] g d Q) ∧ ((¬ ((x4 = plenF (d 66) x1 x3) ∧ ((court (d 66) x5) ∧ (¬ (stopd (d 66) (d 66 (139 + 16 * x1)) (d 66 (140 + 16 * x1)) x5))))) → MW mX12_leftOf 0 0 187 [(0, vR 65), (1, vI x1), (2, vI x2), (3, vI x3), (4, vI x4), (5, vI x5), (6, vI (bI (stopd (d 66) (d 66 (139 + 16 * x1)) (d 66 (140 + 16 * x1)) x5)))] [] g d Q) by
        refine mw_icmp_ne (tgt := 187) (pc' := 167) dX12_leftOf_164 rfl (by decide) (fun c53 => ?_) (fun c53 => ?_)
        · exact k52.2 (fun h => (c53 h.1))
        · refine mw_aload_n (v := vR 65) (pc' := 168) dX12_leftOf_167 rfl rfl (Or.inl rfl) rfl ?_
          refine mw_iload (pc' := 170) dX12_leftOf_168 rfl rfl ?_
          refine mw_callV (M' := mX12_isCourt) (A := [vI x5]) (A' := [vR 65, vI x5]) (S := []) (a := 65) (pc' := 173) dX12_leftOf_170 rfl cl_RX12_112 cm_X12_isCourt cv_X12_isCourt ⟨by decide, by decide, by decide, by decide, by decide⟩ rfl rfl rfl ⟨by decide, by omega⟩ (by decide +kernel) (by decide +kernel) (Nat.le_of_ble_eq_true rfl) (f_isCourt (⟨o35, (o51 c53), ?_⟩))
          show MW mX12_leftOf 0 0 173 [(0, vR 65), (1, vI x1), (2, vI x2), (3, vI x3), (4, vI x4), (5, vI x5), (6, vI (bI (stopd (d 66) (d 66 (139 + 16 * x1)) (d 66 (140 + 16 * x1)) x5)))] [vI (bI (court (d 66) x5))] g d Q
          refine mw_if_eq (tgt := 187) (pc' := 176) dX12_leftOf_173 rfl (by decide) (fun c54 => ?_) (fun c54 => ?_)
          · replace c54 := bI_0.mp c54
            exact k52.2 (fun h => (fun h => (c54 h.1)) h.2)
          · replace c54 := bI_n0.mp c54
            refine mw_iload (pc' := 178) dX12_leftOf_176 rfl rfl ?_
            refine mw_if_ne (tgt := 187) (pc' := 181) dX12_leftOf_178 rfl (by decide) (fun c55 => ?_) (fun c55 => ?_)
            · replace c55 := bI_n0.mp c55
              exact k52.2 (fun h => (fun h => (fun h => (h c55)) h.2) h.2)
            · replace c55 := bI_0.mp c55
              exact k52.1 ⟨c53, ⟨c54, c55⟩⟩
      refine ⟨fun c56 => ?_, fun c56 => ?_⟩
      · replace h := h.1 c56
        obtain ⟨o57, h⟩ := h
        refine mw_iinc (pc' := 184) (L' := [(0, vR 65), (1, vI x1), (2, vI x2), (3, vI (x3 + 1)), (4, vI x4), (5, vI x5), (6, vI (bI (stopd (d 66) (d 66 (139 + 16 * x1)) (d 66 (140 + 16 * x1)) x5)))]) dX12_leftOf_181 rfl rfl (by decide) o57 rfl ?_
        refine mw_iconst (pc' := 185) dX12_leftOf_184 rfl ⟨by decide, by decide⟩ ?_
        refine mw_istore (pc' := 187) (L' := [(0, vR 65), (1, vI x1), (2, vI x2), (3, vI (x3 + 1)), (4, vI 0), (5, vI x5), (6, vI (bI (stopd (d 66) (d 66 (139 + 16 * x1)) (d 66 (140 + 16 * x1)) x5)))]) dX12_leftOf_185 rfl (by decide) rfl ?_
        obtain ⟨o58, h⟩ := h
        refine mw_iinc (pc' := 190) (L' := [(0, vR 65), (1, vI x1), (2, vI x2), (3, vI (x3 + 1)), (4, vI 0), (5, vI (x5 + 1)), (6, vI (bI (stopd (d 66) (d 66 (139 + 16 * x1)) (d 66 (140 + 16 * x1)) x5)))]) dX12_leftOf_187 rfl rfl (by decide) o58 rfl ?_
        refine mw_goto (pc' := 0) (tgt := 43) dX12_leftOf_190 (by decide) ?_
        exact mw_loc (pc' := 0) [0, 1, 2, 3, 4, 5] rfl h
      · replace h := h.2 c56
        obtain ⟨o59, h⟩ := h
        refine mw_iinc (pc' := 190) (L' := [(0, vR 65), (1, vI x1), (2, vI x2), (3, vI x3), (4, vI x4), (5, vI (x5 + 1)), (6, vI (bI (stopd (d 66) (d 66 (139 + 16 * x1)) (d 66 (140 + 16 * x1)) x5)))]) dX12_leftOf_187 rfl rfl (by decide) o59 rfl ?_
        refine mw_goto (pc' := 0) (tgt := 43) dX12_leftOf_190 (by decide) ?_
        exact mw_loc (pc' := 0) [0, 1, 2, 3, 4, 5] rfl h
    · replace h := h.2 c46
      refine mw_iload (pc' := 96) dX12_leftOf_94 rfl rfl ?_
      obtain ⟨o62, h⟩ := h
      suffices k63 : (((¬ (stopd (d 66) (d 66 (139 + 16 * x1)) (d 66 (140 + 16 * x1)) x5)) ∧ ((0 < x3) ∨ ((d 66 (143 + 16 * x1) = 0) ∨ (court (d 66) x5)))) → MW mX12_leftOf 0 0 121 [(0, vR 65), (1, vI x1), (2, vI x2), (3, vI x3), (4, vI x4), (5, vI x5), (6, vI (bI (stopd (d 66) (d 66 (139 + 16 * x1)) (d 66 (140 + 16 * x1)) x5)))] [] g d Q) ∧ ((¬ ((¬ (stopd (d 66) (d 66 (139 + 16 * x1)) (d 66 (140 + 16 * x1)) x5)) ∧ ((0 < x3) ∨ ((d 66 (143 + 16 * x1) = 0) ∨ (court (d 66) x5))))) → MW mX12_leftOf 0 0 125 [(0, vR 65), (1, vI x1), (2, vI x2), (3, vI x3), (4, vI x4), (5, vI x5), (6, vI (bI (stopd (d 66) (d 66 (139 + 16 * x1)) (d 66 (140 + 16 * x1)) x5)))] [] g d Q) by
        refine mw_if_ne (tgt := 125) (pc' := 99) dX12_leftOf_96 rfl (by decide) (fun c64 => ?_) (fun c64 => ?_)
        · replace c64 := bI_n0.mp c64
          exact k63.2 (fun h => (h.1 c64))
        · replace c64 := bI_0.mp c64
          refine mw_iload_n (pc' := 100) dX12_leftOf_99 rfl rfl rfl ?_
          refine mw_if_gt (tgt := 121) (pc' := 103) dX12_leftOf_100 rfl (by decide) (fun c65 => ?_) (fun c65 => ?_)
          · exact k63.1 ⟨c64, (Or.inl c65)⟩
          · refine mw_aload_n (v := vR 65) (pc' := 104) dX12_leftOf_103 rfl rfl (Or.inl rfl) rfl ?_
            refine mw_iload_n (pc' := 105) dX12_leftOf_104 rfl rfl rfl ?_
            refine mw_iconst (pc' := 106) dX12_leftOf_105 rfl ⟨by decide, by decide⟩ ?_
            refine mw_callV (M' := mX12_of) (A := [vI x1, vI 4]) (A' := [vR 65, vI x1, vI 4]) (S := []) (a := 65) (pc' := 109) dX12_leftOf_106 rfl cl_RX12_131 cm_X12_of cv_X12_of ⟨by decide, by decide, by decide, by decide, by decide⟩ rfl rfl rfl ⟨by decide, by omega⟩ (by decide +kernel) (by decide +kernel) (Nat.le_of_ble_eq_true rfl) (f_dlOf (k := 143 + 16 * x1) (by omega) (⟨o33, (by decide), ?_⟩))
            show MW mX12_leftOf 0 0 109 [(0, vR 65), (1, vI x1), (2, vI x2), (3, vI x3), (4, vI x4), (5, vI x5), (6, vI (bI (stopd (d 66) (d 66 (139 + 16 * x1)) (d 66 (140 + 16 * x1)) x5)))] [vI (d 66 (143 + 16 * x1))] g d Q
            refine mw_if_eq (tgt := 121) (pc' := 112) dX12_leftOf_109 rfl (by decide) (fun c66 => ?_) (fun c66 => ?_)
            · exact k63.1 ⟨c64, (Or.inr (Or.inl c66))⟩
            · refine mw_aload_n (v := vR 65) (pc' := 113) dX12_leftOf_112 rfl rfl (Or.inl rfl) rfl ?_
              refine mw_iload (pc' := 115) dX12_leftOf_113 rfl rfl ?_
              refine mw_callV (M' := mX12_isCourt) (A := [vI x5]) (A' := [vR 65, vI x5]) (S := []) (a := 65) (pc' := 118) dX12_leftOf_115 rfl cl_RX12_112 cm_X12_isCourt cv_X12_isCourt ⟨by decide, by decide, by decide, by decide, by decide⟩ rfl rfl rfl ⟨by decide, by omega⟩ (by decide +kernel) (by decide +kernel) (Nat.le_of_ble_eq_true rfl) (f_isCourt (⟨o35, (o62 c64 c65 c66), ?_⟩))
              show MW mX12_leftOf 0 0 118 [(0, vR 65), (1, vI x1), (2, vI x2), (3, vI x3), (4, vI x4), (5, vI x5), (6, vI (bI (stopd (d 66) (d 66 (139 + 16 * x1)) (d 66 (140 + 16 * x1)) x5)))] [vI (bI (court (d 66) x5))] g d Q
              refine mw_if_eq (tgt := 125) (pc' := 121) dX12_leftOf_118 rfl (by decide) (fun c67 => ?_) (fun c67 => ?_)
              · replace c67 := bI_0.mp c67
                exact k63.2 (fun h => (fun h => h.elim (fun q => (c65 q)) (fun h => h.elim (fun q => (c66 q)) (fun h => (c67 h)))) h.2)
              · replace c67 := bI_n0.mp c67
                exact k63.1 ⟨c64, (Or.inr (Or.inr c67))⟩
      refine ⟨fun c68 => ?_, fun c68 => ?_⟩
      · replace h := h.1 c68
        refine mw_iconst (pc' := 122) dX12_leftOf_121 rfl ⟨by decide, by decide⟩ ?_
        refine mw_goto (pc' := 0) (tgt := 126) dX12_leftOf_122 (by decide) ?_
        refine mw_istore (pc' := 128) (L' := [(0, vR 65), (1, vI x1), (2, vI x2), (3, vI x3), (4, vI x4), (5, vI x5), (6, vI (bI (stopd (d 66) (d 66 (139 + 16 * x1)) (d 66 (140 + 16 * x1)) x5))), (7, vI 1)]) dX12_leftOf_126 rfl (by decide) rfl ?_
        refine mw_iload (pc' := 130) dX12_leftOf_128 rfl rfl ?_
        refine mw_iload (pc' := 132) dX12_leftOf_130 rfl rfl ?_
        refine mw_if_eq (tgt := 139) (pc' := 135) dX12_leftOf_132 rfl (by decide) (fun q => absurd q (by decide)) (fun _ => ?_)
        refine mw_iconst (pc' := 136) dX12_leftOf_135 rfl ⟨by decide, by decide⟩ ?_
        refine mw_goto (pc' := 0) (tgt := 140) dX12_leftOf_136 (by decide) ?_
        obtain ⟨o69, h⟩ := h
        refine mw_iadd (pc' := 141) dX12_leftOf_140 rfl o69 ?_
        refine mw_istore (pc' := 143) (L' := [(0, vR 65), (1, vI x1), (2, vI x2), (3, vI x3), (4, vI (x4 + 1)), (5, vI x5), (6, vI (bI (stopd (d 66) (d 66 (139 + 16 * x1)) (d 66 (140 + 16 * x1)) x5))), (7, vI 1)]) dX12_leftOf_141 rfl (by decide) rfl ?_
        refine mw_iload_n (pc' := 144) dX12_leftOf_143 rfl rfl rfl ?_
        refine mw_iload (pc' := 146) dX12_leftOf_144 rfl rfl ?_
        refine mw_if_eq (tgt := 153) (pc' := 149) dX12_leftOf_146 rfl (by decide) (fun q => absurd q (by decide)) (fun _ => ?_)
        refine mw_iconst (pc' := 150) dX12_leftOf_149 rfl ⟨by decide, by decide⟩ ?_
        refine mw_goto (pc' := 0) (tgt := 154) dX12_leftOf_150 (by decide) ?_
        obtain ⟨o70, h⟩ := h
        refine mw_isub (pc' := 155) dX12_leftOf_154 rfl o70 ?_
        refine mw_istore_n (pc' := 156) (L' := [(0, vR 65), (1, vI x1), (2, vI (x2 - 1)), (3, vI x3), (4, vI (x4 + 1)), (5, vI x5), (6, vI (bI (stopd (d 66) (d 66 (139 + 16 * x1)) (d 66 (140 + 16 * x1)) x5))), (7, vI 1)]) dX12_leftOf_155 rfl rfl (by decide) rfl ?_
        refine mw_iload (pc' := 158) dX12_leftOf_156 rfl rfl ?_
        refine mw_aload_n (v := vR 65) (pc' := 159) dX12_leftOf_158 rfl rfl (Or.inl rfl) rfl ?_
        refine mw_iload_n (pc' := 160) dX12_leftOf_159 rfl rfl rfl ?_
        refine mw_iload_n (pc' := 161) dX12_leftOf_160 rfl rfl rfl ?_
        refine mw_callV (M' := mX12_partLength) (A := [vI x1, vI x3]) (A' := [vR 65, vI x1, vI x3]) (S := [vI (x4 + 1)]) (a := 65) (pc' := 164) dX12_leftOf_161 rfl cl_RX12_140 cm_X12_partLength cv_X12_partLength ⟨by decide, by decide, by decide, by decide, by decide⟩ rfl rfl rfl ⟨by decide, by omega⟩ (by decide +kernel) (by decide +kernel) (Nat.le_of_ble_eq_true rfl) (f_partLength (⟨o35, o38, o39, ?_⟩))
        show MW mX12_leftOf 0 0 164 [(0, vR 65), (1, vI x1), (2, vI (x2 - 1)), (3, vI x3), (4, vI (x4 + 1)), (5, vI x5), (6, vI (bI (stopd (d 66) (d 66 (139 + 16 * x1)) (d 66 (140 + 16 * x1)) x5))), (7, vI 1)] [vI (plenF (d 66) x1 x3), vI (x4 + 1)] g d Q
        obtain ⟨o75, h⟩ := h
        suffices k76 : (((x4 + 1 = plenF (d 66) x1 x3) ∧ ((court (d 66) x5) ∧ (¬ (stopd (d 66) (d 66 (139 + 16 * x1)) (d 66 (140 + 16 * x1)) x5)))) → MW mX12_leftOf 0 0 181 [(0, vR 65), (1, vI x1), (2, vI (x2 - 1)), (3, vI x3), (4, vI (x4 + 1)), (5, vI x5), (6, vI (bI (stopd (d 66) (d 66 (139 + 16 * x1)) (d 66 (140 + 16 * x1)) x5))), (7, vI 1)] [] g d Q) ∧ ((¬ ((x4 + 1 = plenF (d 66) x1 x3) ∧ ((court (d 66) x5) ∧ (¬ (stopd (d 66) (d 66 (139 + 16 * x1)) (d 66 (140 + 16 * x1)) x5))))) → MW mX12_leftOf 0 0 187 [(0, vR 65), (1, vI x1), (2, vI (x2 - 1)), (3, vI x3), (4, vI (x4 + 1)), (5, vI x5), (6, vI (bI (stopd (d 66) (d 66 (139 + 16 * x1)) (d 66 (140 + 16 * x1)) x5))), (7, vI 1)] [] g d Q) by
          refine mw_icmp_ne (tgt := 187) (pc' := 167) dX12_leftOf_164 rfl (by decide) (fun c77 => ?_) (fun c77 => ?_)
          · exact k76.2 (fun h => (c77 h.1))
          · refine mw_aload_n (v := vR 65) (pc' := 168) dX12_leftOf_167 rfl rfl (Or.inl rfl) rfl ?_
            refine mw_iload (pc' := 170) dX12_leftOf_168 rfl rfl ?_
            refine mw_callV (M' := mX12_isCourt) (A := [vI x5]) (A' := [vR 65, vI x5]) (S := []) (a := 65) (pc' := 173) dX12_leftOf_170 rfl cl_RX12_112 cm_X12_isCourt cv_X12_isCourt ⟨by decide, by decide, by decide, by decide, by decide⟩ rfl rfl rfl ⟨by decide, by omega⟩ (by decide +kernel) (by decide +kernel) (Nat.le_of_ble_eq_true rfl) (f_isCourt (⟨o35, (o75 c77), ?_⟩))
            show MW mX12_leftOf 0 0 173 [(0, vR 65), (1, vI x1), (2, vI (x2 - 1)), (3, vI x3), (4, vI (x4 + 1)), (5, vI x5), (6, vI (bI (stopd (d 66) (d 66 (139 + 16 * x1)) (d 66 (140 + 16 * x1)) x5))), (7, vI 1)] [vI (bI (court (d 66) x5))] g d Q
            refine mw_if_eq (tgt := 187) (pc' := 176) dX12_leftOf_173 rfl (by decide) (fun c78 => ?_) (fun c78 => ?_)
            · replace c78 := bI_0.mp c78
              exact k76.2 (fun h => (fun h => (c78 h.1)) h.2)
            · replace c78 := bI_n0.mp c78
              refine mw_iload (pc' := 178) dX12_leftOf_176 rfl rfl ?_
              refine mw_if_ne (tgt := 187) (pc' := 181) dX12_leftOf_178 rfl (by decide) (fun c79 => ?_) (fun c79 => ?_)
              · replace c79 := bI_n0.mp c79
                exact k76.2 (fun h => (fun h => (fun h => (h c79)) h.2) h.2)
              · replace c79 := bI_0.mp c79
                exact k76.1 ⟨c77, ⟨c78, c79⟩⟩
        refine ⟨fun c80 => ?_, fun c80 => ?_⟩
        · replace h := h.1 c80
          obtain ⟨o81, h⟩ := h
          refine mw_iinc (pc' := 184) (L' := [(0, vR 65), (1, vI x1), (2, vI (x2 - 1)), (3, vI (x3 + 1)), (4, vI (x4 + 1)), (5, vI x5), (6, vI (bI (stopd (d 66) (d 66 (139 + 16 * x1)) (d 66 (140 + 16 * x1)) x5))), (7, vI 1)]) dX12_leftOf_181 rfl rfl (by decide) o81 rfl ?_
          refine mw_iconst (pc' := 185) dX12_leftOf_184 rfl ⟨by decide, by decide⟩ ?_
          refine mw_istore (pc' := 187) (L' := [(0, vR 65), (1, vI x1), (2, vI (x2 - 1)), (3, vI (x3 + 1)), (4, vI 0), (5, vI x5), (6, vI (bI (stopd (d 66) (d 66 (139 + 16 * x1)) (d 66 (140 + 16 * x1)) x5))), (7, vI 1)]) dX12_leftOf_185 rfl (by decide) rfl ?_
          obtain ⟨o82, h⟩ := h
          refine mw_iinc (pc' := 190) (L' := [(0, vR 65), (1, vI x1), (2, vI (x2 - 1)), (3, vI (x3 + 1)), (4, vI 0), (5, vI (x5 + 1)), (6, vI (bI (stopd (d 66) (d 66 (139 + 16 * x1)) (d 66 (140 + 16 * x1)) x5))), (7, vI 1)]) dX12_leftOf_187 rfl rfl (by decide) o82 rfl ?_
          refine mw_goto (pc' := 0) (tgt := 43) dX12_leftOf_190 (by decide) ?_
          exact mw_loc (pc' := 0) [0, 1, 2, 3, 4, 5] rfl h
        · replace h := h.2 c80
          obtain ⟨o83, h⟩ := h
          refine mw_iinc (pc' := 190) (L' := [(0, vR 65), (1, vI x1), (2, vI (x2 - 1)), (3, vI x3), (4, vI (x4 + 1)), (5, vI (x5 + 1)), (6, vI (bI (stopd (d 66) (d 66 (139 + 16 * x1)) (d 66 (140 + 16 * x1)) x5))), (7, vI 1)]) dX12_leftOf_187 rfl rfl (by decide) o83 rfl ?_
          refine mw_goto (pc' := 0) (tgt := 43) dX12_leftOf_190 (by decide) ?_
          exact mw_loc (pc' := 0) [0, 1, 2, 3, 4, 5] rfl h
      · replace h := h.2 c68
        refine mw_iconst (pc' := 126) dX12_leftOf_125 rfl ⟨by decide, by decide⟩ ?_
        refine mw_istore (pc' := 128) (L' := [(0, vR 65), (1, vI x1), (2, vI x2), (3, vI x3), (4, vI x4), (5, vI x5), (6, vI (bI (stopd (d 66) (d 66 (139 + 16 * x1)) (d 66 (140 + 16 * x1)) x5))), (7, vI 0)]) dX12_leftOf_126 rfl (by decide) rfl ?_
        refine mw_iload (pc' := 130) dX12_leftOf_128 rfl rfl ?_
        refine mw_iload (pc' := 132) dX12_leftOf_130 rfl rfl ?_
        refine mw_if_eq (tgt := 139) (pc' := 135) dX12_leftOf_132 rfl (by decide) (fun _ => ?_) (fun q => absurd (by decide) q)
        refine mw_iconst (pc' := 140) dX12_leftOf_139 rfl ⟨by decide, by decide⟩ ?_
        obtain ⟨o84, h⟩ := h
        refine mw_iadd (pc' := 141) dX12_leftOf_140 rfl o84 ?_
        refine mw_istore (pc' := 143) (L' := [(0, vR 65), (1, vI x1), (2, vI x2), (3, vI x3), (4, vI (x4 + 0)), (5, vI x5), (6, vI (bI (stopd (d 66) (d 66 (139 + 16 * x1)) (d 66 (140 + 16 * x1)) x5))), (7, vI 0)]) dX12_leftOf_141 rfl (by decide) rfl ?_
        refine mw_iload_n (pc' := 144) dX12_leftOf_143 rfl rfl rfl ?_
        refine mw_iload (pc' := 146) dX12_leftOf_144 rfl rfl ?_
        refine mw_if_eq (tgt := 153) (pc' := 149) dX12_leftOf_146 rfl (by decide) (fun _ => ?_) (fun q => absurd (by decide) q)
        refine mw_iconst (pc' := 154) dX12_leftOf_153 rfl ⟨by decide, by decide⟩ ?_
        obtain ⟨o85, h⟩ := h
        refine mw_isub (pc' := 155) dX12_leftOf_154 rfl o85 ?_
        refine mw_istore_n (pc' := 156) (L' := [(0, vR 65), (1, vI x1), (2, vI (x2 - 0)), (3, vI x3), (4, vI (x4 + 0)), (5, vI x5), (6, vI (bI (stopd (d 66) (d 66 (139 + 16 * x1)) (d 66 (140 + 16 * x1)) x5))), (7, vI 0)]) dX12_leftOf_155 rfl rfl (by decide) rfl ?_
        refine mw_iload (pc' := 158) dX12_leftOf_156 rfl rfl ?_
        refine mw_aload_n (v := vR 65) (pc' := 159) dX12_leftOf_158 rfl rfl (Or.inl rfl) rfl ?_
        refine mw_iload_n (pc' := 160) dX12_leftOf_159 rfl rfl rfl ?_
        refine mw_iload_n (pc' := 161) dX12_leftOf_160 rfl rfl rfl ?_
        refine mw_callV (M' := mX12_partLength) (A := [vI x1, vI x3]) (A' := [vR 65, vI x1, vI x3]) (S := [vI (x4 + 0)]) (a := 65) (pc' := 164) dX12_leftOf_161 rfl cl_RX12_140 cm_X12_partLength cv_X12_partLength ⟨by decide, by decide, by decide, by decide, by decide⟩ rfl rfl rfl ⟨by decide, by omega⟩ (by decide +kernel) (by decide +kernel) (Nat.le_of_ble_eq_true rfl) (f_partLength (⟨o35, o38, o39, ?_⟩))
        show MW mX12_leftOf 0 0 164 [(0, vR 65), (1, vI x1), (2, vI (x2 - 0)), (3, vI x3), (4, vI (x4 + 0)), (5, vI x5), (6, vI (bI (stopd (d 66) (d 66 (139 + 16 * x1)) (d 66 (140 + 16 * x1)) x5))), (7, vI 0)] [vI (plenF (d 66) x1 x3), vI (x4 + 0)] g d Q
        obtain ⟨o90, h⟩ := h
        suffices k91 : (((x4 + 0 = plenF (d 66) x1 x3) ∧ ((court (d 66) x5) ∧ (¬ (stopd (d 66) (d 66 (139 + 16 * x1)) (d 66 (140 + 16 * x1)) x5)))) → MW mX12_leftOf 0 0 181 [(0, vR 65), (1, vI x1), (2, vI (x2 - 0)), (3, vI x3), (4, vI (x4 + 0)), (5, vI x5), (6, vI (bI (stopd (d 66) (d 66 (139 + 16 * x1)) (d 66 (140 + 16 * x1)) x5))), (7, vI 0)] [] g d Q) ∧ ((¬ ((x4 + 0 = plenF (d 66) x1 x3) ∧ ((court (d 66) x5) ∧ (¬ (stopd (d 66) (d 66 (139 + 16 * x1)) (d 66 (140 + 16 * x1)) x5))))) → MW mX12_leftOf 0 0 187 [(0, vR 65), (1, vI x1), (2, vI (x2 - 0)), (3, vI x3), (4, vI (x4 + 0)), (5, vI x5), (6, vI (bI (stopd (d 66) (d 66 (139 + 16 * x1)) (d 66 (140 + 16 * x1)) x5))), (7, vI 0)] [] g d Q) by
          refine mw_icmp_ne (tgt := 187) (pc' := 167) dX12_leftOf_164 rfl (by decide) (fun c92 => ?_) (fun c92 => ?_)
          · exact k91.2 (fun h => (c92 h.1))
          · refine mw_aload_n (v := vR 65) (pc' := 168) dX12_leftOf_167 rfl rfl (Or.inl rfl) rfl ?_
            refine mw_iload (pc' := 170) dX12_leftOf_168 rfl rfl ?_
            refine mw_callV (M' := mX12_isCourt) (A := [vI x5]) (A' := [vR 65, vI x5]) (S := []) (a := 65) (pc' := 173) dX12_leftOf_170 rfl cl_RX12_112 cm_X12_isCourt cv_X12_isCourt ⟨by decide, by decide, by decide, by decide, by decide⟩ rfl rfl rfl ⟨by decide, by omega⟩ (by decide +kernel) (by decide +kernel) (Nat.le_of_ble_eq_true rfl) (f_isCourt (⟨o35, (o90 c92), ?_⟩))
            show MW mX12_leftOf 0 0 173 [(0, vR 65), (1, vI x1), (2, vI (x2 - 0)), (3, vI x3), (4, vI (x4 + 0)), (5, vI x5), (6, vI (bI (stopd (d 66) (d 66 (139 + 16 * x1)) (d 66 (140 + 16 * x1)) x5))), (7, vI 0)] [vI (bI (court (d 66) x5))] g d Q
            refine mw_if_eq (tgt := 187) (pc' := 176) dX12_leftOf_173 rfl (by decide) (fun c93 => ?_) (fun c93 => ?_)
            · replace c93 := bI_0.mp c93
              exact k91.2 (fun h => (fun h => (c93 h.1)) h.2)
            · replace c93 := bI_n0.mp c93
              refine mw_iload (pc' := 178) dX12_leftOf_176 rfl rfl ?_
              refine mw_if_ne (tgt := 187) (pc' := 181) dX12_leftOf_178 rfl (by decide) (fun c94 => ?_) (fun c94 => ?_)
              · replace c94 := bI_n0.mp c94
                exact k91.2 (fun h => (fun h => (fun h => (h c94)) h.2) h.2)
              · replace c94 := bI_0.mp c94
                exact k91.1 ⟨c92, ⟨c93, c94⟩⟩
        refine ⟨fun c95 => ?_, fun c95 => ?_⟩
        · replace h := h.1 c95
          obtain ⟨o96, h⟩ := h
          refine mw_iinc (pc' := 184) (L' := [(0, vR 65), (1, vI x1), (2, vI (x2 - 0)), (3, vI (x3 + 1)), (4, vI (x4 + 0)), (5, vI x5), (6, vI (bI (stopd (d 66) (d 66 (139 + 16 * x1)) (d 66 (140 + 16 * x1)) x5))), (7, vI 0)]) dX12_leftOf_181 rfl rfl (by decide) o96 rfl ?_
          refine mw_iconst (pc' := 185) dX12_leftOf_184 rfl ⟨by decide, by decide⟩ ?_
          refine mw_istore (pc' := 187) (L' := [(0, vR 65), (1, vI x1), (2, vI (x2 - 0)), (3, vI (x3 + 1)), (4, vI 0), (5, vI x5), (6, vI (bI (stopd (d 66) (d 66 (139 + 16 * x1)) (d 66 (140 + 16 * x1)) x5))), (7, vI 0)]) dX12_leftOf_185 rfl (by decide) rfl ?_
          obtain ⟨o97, h⟩ := h
          refine mw_iinc (pc' := 190) (L' := [(0, vR 65), (1, vI x1), (2, vI (x2 - 0)), (3, vI (x3 + 1)), (4, vI 0), (5, vI (x5 + 1)), (6, vI (bI (stopd (d 66) (d 66 (139 + 16 * x1)) (d 66 (140 + 16 * x1)) x5))), (7, vI 0)]) dX12_leftOf_187 rfl rfl (by decide) o97 rfl ?_
          refine mw_goto (pc' := 0) (tgt := 43) dX12_leftOf_190 (by decide) ?_
          exact mw_loc (pc' := 0) [0, 1, 2, 3, 4, 5] rfl h
        · replace h := h.2 c95
          obtain ⟨o98, h⟩ := h
          refine mw_iinc (pc' := 190) (L' := [(0, vR 65), (1, vI x1), (2, vI (x2 - 0)), (3, vI x3), (4, vI (x4 + 0)), (5, vI (x5 + 1)), (6, vI (bI (stopd (d 66) (d 66 (139 + 16 * x1)) (d 66 (140 + 16 * x1)) x5))), (7, vI 0)]) dX12_leftOf_187 rfl rfl (by decide) o98 rfl ?_
          refine mw_goto (pc' := 0) (tgt := 43) dX12_leftOf_190 (by decide) ?_
          exact mw_loc (pc' := 0) [0, 1, 2, 3, 4, 5] rfl h
  · replace h := h.2 c32
    refine mw_iload_n (pc' := 194) dX12_leftOf_193 rfl rfl rfl ?_
    exact mw_iret (pc' := 0) (S := []) dX12_leftOf_194 rfl (Or.inl rfl) h
def pX10_dayOfCount_1 (x1 x2 x3 x4 x5 x6 : Int) (g : mG) (d : mD) (Q : mQ) : Prop := MW mX10_dayOfCount 0 0 9 [(0, vR 53), (1, vI x1), (2, vI x2), (3, vI x3), (4, vI x4), (5, vI x5), (6, vI x6)] [] g d Q
theorem eX10_dayOfCount {x1 x2 x3 : Int} {g : mG} {d : mD} {Q : mQ} (h : pX10_dayOfCount_1 x1 x2 x3 x1 x2 0 g d Q) : MM mX10_dayOfCount [vR 53, vI x1, vI x2, vI x3] g d Q := by
  refine MM_of (by decide) rfl (by simp [catV]) (Nat.le_of_ble_eq_true rfl) ?_
  show MW mX10_dayOfCount 0 0 0 [(0, vR 53), (1, vI x1), (2, vI x2), (3, vI x3)] [] g d Q
  refine mw_top (fun hT => ?_)
  have hG : 76 ≤ g.2.1 := hT.2
  refine mw_iload_n (pc' := 1) dX10_dayOfCount_0 rfl rfl rfl ?_
  refine mw_istore (pc' := 3) (L' := [(0, vR 53), (1, vI x1), (2, vI x2), (3, vI x3), (4, vI x1)]) dX10_dayOfCount_1 rfl (by decide) rfl ?_
  refine mw_iload_n (pc' := 4) dX10_dayOfCount_3 rfl rfl rfl ?_
  refine mw_istore (pc' := 6) (L' := [(0, vR 53), (1, vI x1), (2, vI x2), (3, vI x3), (4, vI x1), (5, vI x2)]) dX10_dayOfCount_4 rfl (by decide) rfl ?_
  refine mw_iconst (pc' := 7) dX10_dayOfCount_6 rfl ⟨by decide, by decide⟩ ?_
  refine mw_istore (pc' := 9) (L' := [(0, vR 53), (1, vI x1), (2, vI x2), (3, vI x3), (4, vI x1), (5, vI x2), (6, vI 0)]) dX10_dayOfCount_7 rfl (by decide) rfl ?_
  exact h
theorem aX10_dayOfCount_1 {R : rW} {x1 x2 x3 x4 x5 x6 : Int} {g : mG} {d : mD} {Q : mQ} (h : ((d 53 4 < x6) → Q (.inl 5000) g d) ∧ ((¬ (d 53 4 < x6)) → ((¬ (d 53 4 ≤ x6)) → 0 ≤ x6 ∧ x6 < 12) ∧ (((¬ (d 53 4 ≤ x6)) → iI ((d 54 x6) - 1)) ∧ (((x3 = 0) → iI ((iT (d 53 4 ≤ x6) 4999 ((d 54 x6) - 1)) - x4)) ∧ (((x3 = 0) → iI (((iT (d 53 4 ≤ x6) 4999 ((d 54 x6) - 1)) - x4) + 1)) ∧ (((¬ (x3 = 0)) → CI d R) ∧ (((¬ (x3 = 0)) → 0 ≤ x4 ∧ x4 ≤ 5001) ∧ (((¬ (x3 = 0)) → -1 ≤ (iT (d 53 4 ≤ x6) 4999 ((d 54 x6) - 1)) ∧ (iT (d 53 4 ≤ x6) 4999 ((d 54 x6) - 1)) ≤ 4999) ∧ (((iT (x3 = 0) (max 0 (((iT (d 53 4 ≤ x6) 4999 ((d 54 x6) - 1)) - x4) + 1)) (cn (court R) x4 (iT (d 53 4 ≤ x6) 4999 ((d 54 x6) - 1))) < x5) → (iI (x5 - (iT (x3 = 0) (max 0 (((iT (d 53 4 ≤ x6) 4999 ((d 54 x6) - 1)) - x4) + 1)) (cn (court R) x4 (iT (d 53 4 ≤ x6) 4999 ((d 54 x6) - 1)))))) ∧ (((¬ (d 53 4 ≤ x6)) → iI ((d 55 x6) + 1)) ∧ ((iI (x6 + 1)) ∧ (pX10_dayOfCount_1 x1 x2 x3 (iT (d 53 4 ≤ x6) 5000 (max x4 ((d 55 x6) + 1))) (x5 - (iT (x3 = 0) (max 0 (((iT (d 53 4 ≤ x6) 4999 ((d 54 x6) - 1)) - x4) + 1)) (cn (court R) x4 (iT (d 53 4 ≤ x6) 4999 ((d 54 x6) - 1))))) (x6 + 1) g d Q)))) ∧ ((¬ (iT (x3 = 0) (max 0 (((iT (d 53 4 ≤ x6) 4999 ((d 54 x6) - 1)) - x4) + 1)) (cn (court R) x4 (iT (d 53 4 ≤ x6) 4999 ((d 54 x6) - 1))) < x5)) → ((x3 = 0) → iI (x4 + x5)) ∧ (((x3 = 0) → iI ((x4 + x5) - 1)) ∧ (((¬ (x3 = 0)) → 0 ≤ x4 ∧ x4 ≤ 5000) ∧ (((¬ (x3 = 0)) → 1 ≤ x5 ∧ x5 ≤ 200) ∧ (Q (.inl (iT (x3 = 0) ((x4 + x5) - 1) (fd (fun x => x5 ≤ cn (court R) x4 x) x4))) g d)))))))))))))) : pX10_dayOfCount_1 x1 x2 x3 x4 x5 x6 g d Q := by
  unfold pX10_dayOfCount_1
  refine mw_top (fun hT => ?_)
  have hG : 76 ≤ g.2.1 := hT.2
  refine mw_iload (pc' := 11) dX10_dayOfCount_9 rfl rfl ?_
  refine mw_aload_n (v := vR 53) (pc' := 12) dX10_dayOfCount_11 rfl rfl (Or.inl rfl) rfl ?_
  refine mw_getI (ji := 4) (pc' := 15) dX10_dayOfCount_12 rfl fi_RX10_26_53 rfl ⟨by decide, by decide⟩ ?_
  refine mw_icmp_gt (tgt := 86) (pc' := 18) dX10_dayOfCount_15 rfl (by decide) (fun c15 => ?_) (fun c15 => ?_)
  · replace h := h.1 c15
    refine mw_sipush (pc' := 89) dX10_dayOfCount_86 rfl ⟨by decide, by decide⟩ ?_
    exact mw_iret (pc' := 0) (S := []) dX10_dayOfCount_89 rfl (Or.inl rfl) h
  · replace h := h.2 c15
    refine mw_aload_n (v := vR 53) (pc' := 19) dX10_dayOfCount_18 rfl rfl (Or.inl rfl) rfl ?_
    refine mw_iload (pc' := 21) dX10_dayOfCount_19 rfl rfl ?_
    refine mw_aload_n (v := vR 53) (pc' := 22) dX10_dayOfCount_21 rfl rfl (Or.inl rfl) rfl ?_
    refine mw_iload (pc' := 24) dX10_dayOfCount_22 rfl rfl ?_
    obtain ⟨o16, h⟩ := h
    obtain ⟨o17, h⟩ := h
    refine mw_callV (M' := mX10_lastDayOfGap) (A := [vI x6]) (A' := [vR 53, vI x6]) (S := [vI x4, vR 53]) (a := 53) (pc' := 27) dX10_dayOfCount_24 rfl cl_RX10_94 cm_X10_lastDayOfGap cv_X10_lastDayOfGap ⟨by decide, by decide, by decide, by decide, by decide⟩ rfl rfl rfl ⟨by decide, by omega⟩ (by decide +kernel) (by decide +kernel) (Nat.le_of_ble_eq_true rfl) (eX10_lastDayOfGap (⟨o16, o17, ?_⟩))
    show MW mX10_dayOfCount 0 0 27 [(0, vR 53), (1, vI x1), (2, vI x2), (3, vI x3), (4, vI x4), (5, vI x5), (6, vI x6)] [vI (iT (d 53 4 ≤ x6) 4999 ((d 54 x6) - 1)), vI x4, vR 53] g d Q
    refine mw_iload_n (pc' := 28) dX10_dayOfCount_27 rfl rfl rfl ?_
    obtain ⟨o18, h⟩ := h
    obtain ⟨o19, h⟩ := h
    obtain ⟨o20, h⟩ := h
    obtain ⟨o21, h⟩ := h
    obtain ⟨o22, h⟩ := h
    refine mw_callV (M' := mX10_countDays) (A := [vI x4, vI (iT (d 53 4 ≤ x6) 4999 ((d 54 x6) - 1)), vI x3]) (A' := [vR 53, vI x4, vI (iT (d 53 4 ≤ x6) 4999 ((d 54 x6) - 1)), vI x3]) (S := []) (a := 53) (pc' := 31) dX10_dayOfCount_28 rfl cl_RX10_97 cm_X10_countDays cv_X10_countDays ⟨by decide, by decide, by decide, by decide, by decide⟩ rfl rfl rfl ⟨by decide, by omega⟩ (by decide +kernel) (by decide +kernel) (Nat.le_of_ble_eq_true rfl) (eX10_countDays (⟨o18, o19, o20, o21, o22, ?_⟩))
    show MW mX10_dayOfCount 0 0 31 [(0, vR 53), (1, vI x1), (2, vI x2), (3, vI x3), (4, vI x4), (5, vI x5), (6, vI x6)] [vI (iT (x3 = 0) (max 0 (((iT (d 53 4 ≤ x6) 4999 ((d 54 x6) - 1)) - x4) + 1)) (cn (court R) x4 (iT (d 53 4 ≤ x6) 4999 ((d 54 x6) - 1))))] g d Q
    refine mw_istore (pc' := 33) (L' := [(0, vR 53), (1, vI x1), (2, vI x2), (3, vI x3), (4, vI x4), (5, vI x5), (6, vI x6), (7, vI (iT (x3 = 0) (max 0 (((iT (d 53 4 ≤ x6) 4999 ((d 54 x6) - 1)) - x4) + 1)) (cn (court R) x4 (iT (d 53 4 ≤ x6) 4999 ((d 54 x6) - 1)))))]) dX10_dayOfCount_31 rfl (by decide) rfl ?_
    refine mw_iload (pc' := 35) dX10_dayOfCount_33 rfl rfl ?_
    refine mw_iload (pc' := 37) dX10_dayOfCount_35 rfl rfl ?_
    refine mw_icmp_lt (tgt := 63) (pc' := 40) dX10_dayOfCount_37 rfl (by decide) (fun c30 => ?_) (fun c30 => ?_)
    · replace h := h.1 c30
      refine mw_iload (pc' := 65) dX10_dayOfCount_63 rfl rfl ?_
      refine mw_iload (pc' := 67) dX10_dayOfCount_65 rfl rfl ?_
      obtain ⟨o31, h⟩ := h
      refine mw_isub (pc' := 68) dX10_dayOfCount_67 rfl o31 ?_
      refine mw_istore (pc' := 70) (L' := [(0, vR 53), (1, vI x1), (2, vI x2), (3, vI x3), (4, vI x4), (5, vI (x5 - (iT (x3 = 0) (max 0 (((iT (d 53 4 ≤ x6) 4999 ((d 54 x6) - 1)) - x4) + 1)) (cn (court R) x4 (iT (d 53 4 ≤ x6) 4999 ((d 54 x6) - 1)))))), (6, vI x6), (7, vI (iT (x3 = 0) (max 0 (((iT (d 53 4 ≤ x6) 4999 ((d 54 x6) - 1)) - x4) + 1)) (cn (court R) x4 (iT (d 53 4 ≤ x6) 4999 ((d 54 x6) - 1)))))]) dX10_dayOfCount_68 rfl (by decide) rfl ?_
      refine mw_aload_n (v := vR 53) (pc' := 71) dX10_dayOfCount_70 rfl rfl (Or.inl rfl) rfl ?_
      refine mw_iload (pc' := 73) dX10_dayOfCount_71 rfl rfl ?_
      refine mw_iload (pc' := 75) dX10_dayOfCount_73 rfl rfl ?_
      obtain ⟨o33, h⟩ := h
      refine mw_callV (M' := mX10_dayBehindRange) (A := [vI x6, vI x4]) (A' := [vR 53, vI x6, vI x4]) (S := []) (a := 53) (pc' := 78) dX10_dayOfCount_75 rfl cl_RX10_103 cm_X10_dayBehindRange cv_X10_dayBehindRange ⟨by decide, by decide, by decide, by decide, by decide⟩ rfl rfl rfl ⟨by decide, by omega⟩ (by decide +kernel) (by decide +kernel) (Nat.le_of_ble_eq_true rfl) (eX10_dayBehindRange (⟨o16, o33, ?_⟩))
      show MW mX10_dayOfCount 0 0 78 [(0, vR 53), (1, vI x1), (2, vI x2), (3, vI x3), (4, vI x4), (5, vI (x5 - (iT (x3 = 0) (max 0 (((iT (d 53 4 ≤ x6) 4999 ((d 54 x6) - 1)) - x4) + 1)) (cn (court R) x4 (iT (d 53 4 ≤ x6) 4999 ((d 54 x6) - 1)))))), (6, vI x6), (7, vI (iT (x3 = 0) (max 0 (((iT (d 53 4 ≤ x6) 4999 ((d 54 x6) - 1)) - x4) + 1)) (cn (court R) x4 (iT (d 53 4 ≤ x6) 4999 ((d 54 x6) - 1)))))] [vI (iT (d 53 4 ≤ x6) 5000 (max x4 ((d 55 x6) + 1)))] g d Q
      refine mw_istore (pc' := 80) (L' := [(0, vR 53), (1, vI x1), (2, vI x2), (3, vI x3), (4, vI (iT (d 53 4 ≤ x6) 5000 (max x4 ((d 55 x6) + 1)))), (5, vI (x5 - (iT (x3 = 0) (max 0 (((iT (d 53 4 ≤ x6) 4999 ((d 54 x6) - 1)) - x4) + 1)) (cn (court R) x4 (iT (d 53 4 ≤ x6) 4999 ((d 54 x6) - 1)))))), (6, vI x6), (7, vI (iT (x3 = 0) (max 0 (((iT (d 53 4 ≤ x6) 4999 ((d 54 x6) - 1)) - x4) + 1)) (cn (court R) x4 (iT (d 53 4 ≤ x6) 4999 ((d 54 x6) - 1)))))]) dX10_dayOfCount_78 rfl (by decide) rfl ?_
      obtain ⟨o34, h⟩ := h
      refine mw_iinc (pc' := 83) (L' := [(0, vR 53), (1, vI x1), (2, vI x2), (3, vI x3), (4, vI (iT (d 53 4 ≤ x6) 5000 (max x4 ((d 55 x6) + 1)))), (5, vI (x5 - (iT (x3 = 0) (max 0 (((iT (d 53 4 ≤ x6) 4999 ((d 54 x6) - 1)) - x4) + 1)) (cn (court R) x4 (iT (d 53 4 ≤ x6) 4999 ((d 54 x6) - 1)))))), (6, vI (x6 + 1)), (7, vI (iT (x3 = 0) (max 0 (((iT (d 53 4 ≤ x6) 4999 ((d 54 x6) - 1)) - x4) + 1)) (cn (court R) x4 (iT (d 53 4 ≤ x6) 4999 ((d 54 x6) - 1)))))]) dX10_dayOfCount_80 rfl rfl (by decide) o34 rfl ?_
      refine mw_goto (pc' := 0) (tgt := 9) dX10_dayOfCount_83 (by decide) ?_
      exact mw_loc (pc' := 0) [0, 1, 2, 3, 4, 5, 6] rfl h
    · replace h := h.2 c30
      refine mw_iload_n (pc' := 41) dX10_dayOfCount_40 rfl rfl rfl ?_
      obtain ⟨o35, h⟩ := h
      obtain ⟨o36, h⟩ := h
      obtain ⟨o38, h⟩ := h
      obtain ⟨o39, h⟩ := h
      suffices k40 : MW mX10_dayOfCount 0 0 62 [(0, vR 53), (1, vI x1), (2, vI x2), (3, vI x3), (4, vI x4), (5, vI x5), (6, vI x6), (7, vI (iT (x3 = 0) (max 0 (((iT (d 53 4 ≤ x6) 4999 ((d 54 x6) - 1)) - x4) + 1)) (cn (court R) x4 (iT (d 53 4 ≤ x6) 4999 ((d 54 x6) - 1)))))] [vI (iT (x3 = 0) ((x4 + x5) - 1) (fd (fun x => x5 ≤ cn (court R) x4 x) x4))] g d Q by
        refine mw_if_eq (tgt := 55) (pc' := 44) dX10_dayOfCount_41 rfl (by decide) (fun c41 => ?_) (fun c41 => ?_)
        · refine mw_iload (pc' := 57) dX10_dayOfCount_55 rfl rfl ?_
          refine mw_iload (pc' := 59) dX10_dayOfCount_57 rfl rfl ?_
          refine mw_iadd (pc' := 60) dX10_dayOfCount_59 rfl (o35 c41) ?_
          refine mw_iconst (pc' := 61) dX10_dayOfCount_60 rfl ⟨by decide, by decide⟩ ?_
          refine mw_isub (pc' := 62) dX10_dayOfCount_61 rfl (o36 c41) ?_
          exact mw_st (((iT_t c41).trans rfl)).symm k40
        · refine mw_aload_n (v := vR 53) (pc' := 45) dX10_dayOfCount_44 rfl rfl (Or.inl rfl) rfl ?_
          refine mw_iload (pc' := 47) dX10_dayOfCount_45 rfl rfl ?_
          refine mw_iload (pc' := 49) dX10_dayOfCount_47 rfl rfl ?_
          refine mw_callV (M' := mX10_courtDayOfCount) (A := [vI x4, vI x5]) (A' := [vR 53, vI x4, vI x5]) (S := []) (a := 53) (pc' := 52) dX10_dayOfCount_49 rfl cl_RX10_100 cm_X10_courtDayOfCount cv_X10_courtDayOfCount ⟨by decide, by decide, by decide, by decide, by decide⟩ rfl rfl rfl ⟨by decide, by omega⟩ (by decide +kernel) (by decide +kernel) (Nat.le_of_ble_eq_true rfl) (f_courtDayOfCount (⟨(o20 c41), (o38 c41), (o39 c41), ?_⟩))
          show MW mX10_dayOfCount 0 0 52 [(0, vR 53), (1, vI x1), (2, vI x2), (3, vI x3), (4, vI x4), (5, vI x5), (6, vI x6), (7, vI (iT (x3 = 0) (max 0 (((iT (d 53 4 ≤ x6) 4999 ((d 54 x6) - 1)) - x4) + 1)) (cn (court R) x4 (iT (d 53 4 ≤ x6) 4999 ((d 54 x6) - 1)))))] [vI (fd (fun x => x5 ≤ cn (court R) x4 x) x4)] g d Q
          refine mw_goto (pc' := 0) (tgt := 62) dX10_dayOfCount_52 (by decide) ?_
          exact mw_st (((iT_f c41).trans rfl)).symm k40
      exact mw_iret (pc' := 0) (S := []) dX10_dayOfCount_62 rfl (Or.inl rfl) h
def pX10_countFree_1 (x1 x2 x3 x4 x5 x6 : Int) (g : mG) (d : mD) (Q : mQ) : Prop := MW mX10_countFree 0 0 9 [(0, vR 53), (1, vI x1), (2, vI x2), (3, vI x3), (4, vI x4), (5, vI x5), (6, vI x6)] [] g d Q
theorem eX10_countFree {x1 x2 x3 : Int} {g : mG} {d : mD} {Q : mQ} (h : pX10_countFree_1 x1 x2 x3 0 x1 0 g d Q) : MM mX10_countFree [vR 53, vI x1, vI x2, vI x3] g d Q := by
  refine MM_of (by decide) rfl (by simp [catV]) (Nat.le_of_ble_eq_true rfl) ?_
  show MW mX10_countFree 0 0 0 [(0, vR 53), (1, vI x1), (2, vI x2), (3, vI x3)] [] g d Q
  refine mw_top (fun hT => ?_)
  have hG : 76 ≤ g.2.1 := hT.2
  refine mw_iconst (pc' := 1) dX10_countFree_0 rfl ⟨by decide, by decide⟩ ?_
  refine mw_istore (pc' := 3) (L' := [(0, vR 53), (1, vI x1), (2, vI x2), (3, vI x3), (4, vI 0)]) dX10_countFree_1 rfl (by decide) rfl ?_
  refine mw_iload_n (pc' := 4) dX10_countFree_3 rfl rfl rfl ?_
  refine mw_istore (pc' := 6) (L' := [(0, vR 53), (1, vI x1), (2, vI x2), (3, vI x3), (4, vI 0), (5, vI x1)]) dX10_countFree_4 rfl (by decide) rfl ?_
  refine mw_iconst (pc' := 7) dX10_countFree_6 rfl ⟨by decide, by decide⟩ ?_
  refine mw_istore (pc' := 9) (L' := [(0, vR 53), (1, vI x1), (2, vI x2), (3, vI x3), (4, vI 0), (5, vI x1), (6, vI 0)]) dX10_countFree_7 rfl (by decide) rfl ?_
  exact h
theorem aX10_countFree_1 {R : rW} {x1 x2 x3 x4 x5 x6 : Int} {g : mG} {d : mD} {Q : mQ} (h : ((d 53 4 < x6) → Q (.inl x4) g d) ∧ ((¬ (d 53 4 < x6)) → ((¬ (d 53 4 ≤ x6)) → 0 ≤ x6 ∧ x6 < 12) ∧ (((¬ (d 53 4 ≤ x6)) → iI ((d 54 x6) - 1)) ∧ (((x3 = 0) → iI ((min x2 (iT (d 53 4 ≤ x6) 4999 ((d 54 x6) - 1))) - x5)) ∧ (((x3 = 0) → iI (((min x2 (iT (d 53 4 ≤ x6) 4999 ((d 54 x6) - 1))) - x5) + 1)) ∧ (((¬ (x3 = 0)) → CI d R) ∧ (((¬ (x3 = 0)) → 0 ≤ x5 ∧ x5 ≤ 5001) ∧ (((¬ (x3 = 0)) → -1 ≤ (min x2 (iT (d 53 4 ≤ x6) 4999 ((d 54 x6) - 1))) ∧ (min x2 (iT (d 53 4 ≤ x6) 4999 ((d 54 x6) - 1))) ≤ 4999) ∧ ((iI (x4 + (iT (x3 = 0) (max 0 (((min x2 (iT (d 53 4 ≤ x6) 4999 ((d 54 x6) - 1))) - x5) + 1)) (cn (court R) x5 (min x2 (iT (d 53 4 ≤ x6) 4999 ((d 54 x6) - 1))))))) ∧ (((¬ (d 53 4 ≤ x6)) → iI ((d 55 x6) + 1)) ∧ ((iI (x6 + 1)) ∧ (pX10_countFree_1 x1 x2 x3 (x4 + (iT (x3 = 0) (max 0 (((min x2 (iT (d 53 4 ≤ x6) 4999 ((d 54 x6) - 1))) - x5) + 1)) (cn (court R) x5 (min x2 (iT (d 53 4 ≤ x6) 4999 ((d 54 x6) - 1)))))) (iT (d 53 4 ≤ x6) 5000 (max x5 ((d 55 x6) + 1))) (x6 + 1) g d Q)))))))))))) : pX10_countFree_1 x1 x2 x3 x4 x5 x6 g d Q := by
  unfold pX10_countFree_1
  refine mw_top (fun hT => ?_)
  have hG : 76 ≤ g.2.1 := hT.2
  refine mw_iload (pc' := 11) dX10_countFree_9 rfl rfl ?_
  refine mw_aload_n (v := vR 53) (pc' := 12) dX10_countFree_11 rfl rfl (Or.inl rfl) rfl ?_
  refine mw_getI (ji := 4) (pc' := 15) dX10_countFree_12 rfl fi_RX10_26_53 rfl ⟨by decide, by decide⟩ ?_
  refine mw_icmp_gt (tgt := 56) (pc' := 18) dX10_countFree_15 rfl (by decide) (fun c17 => ?_) (fun c17 => ?_)
  · replace h := h.1 c17
    refine mw_iload (pc' := 58) dX10_countFree_56 rfl rfl ?_
    exact mw_iret (pc' := 0) (S := []) dX10_countFree_58 rfl (Or.inl rfl) h
  · replace h := h.2 c17
    refine mw_iload (pc' := 20) dX10_countFree_18 rfl rfl ?_
    refine mw_aload_n (v := vR 53) (pc' := 21) dX10_countFree_20 rfl rfl (Or.inl rfl) rfl ?_
    refine mw_iload (pc' := 23) dX10_countFree_21 rfl rfl ?_
    refine mw_iload_n (pc' := 24) dX10_countFree_23 rfl rfl rfl ?_
    refine mw_aload_n (v := vR 53) (pc' := 25) dX10_countFree_24 rfl rfl (Or.inl rfl) rfl ?_
    refine mw_iload (pc' := 27) dX10_countFree_25 rfl rfl ?_
    obtain ⟨o18, h⟩ := h
    obtain ⟨o19, h⟩ := h
    refine mw_callV (M' := mX10_lastDayOfGap) (A := [vI x6]) (A' := [vR 53, vI x6]) (S := [vI x2, vI x5, vR 53, vI x4]) (a := 53) (pc' := 30) dX10_countFree_27 rfl cl_RX10_94 cm_X10_lastDayOfGap cv_X10_lastDayOfGap ⟨by decide, by decide, by decide, by decide, by decide⟩ rfl rfl rfl ⟨by decide, by omega⟩ (by decide +kernel) (by decide +kernel) (Nat.le_of_ble_eq_true rfl) (eX10_lastDayOfGap (⟨o18, o19, ?_⟩))
    show MW mX10_countFree 0 0 30 [(0, vR 53), (1, vI x1), (2, vI x2), (3, vI x3), (4, vI x4), (5, vI x5), (6, vI x6)] [vI (iT (d 53 4 ≤ x6) 4999 ((d 54 x6) - 1)), vI x2, vI x5, vR 53, vI x4] g d Q
    refine mw_min (pc' := 33) dX10_countFree_30 rfl bw_464 bw_465 bw_23 bw_466 (by decide) (by decide) (Nat.le_of_ble_eq_true rfl) ?_
    refine mw_iload_n (pc' := 34) dX10_countFree_33 rfl rfl rfl ?_
    obtain ⟨o20, h⟩ := h
    obtain ⟨o21, h⟩ := h
    obtain ⟨o22, h⟩ := h
    obtain ⟨o23, h⟩ := h
    obtain ⟨o24, h⟩ := h
    refine mw_callV (M' := mX10_countDays) (A := [vI x5, vI (min x2 (iT (d 53 4 ≤ x6) 4999 ((d 54 x6) - 1))), vI x3]) (A' := [vR 53, vI x5, vI (min x2 (iT (d 53 4 ≤ x6) 4999 ((d 54 x6) - 1))), vI x3]) (S := [vI x4]) (a := 53) (pc' := 37) dX10_countFree_34 rfl cl_RX10_97 cm_X10_countDays cv_X10_countDays ⟨by decide, by decide, by decide, by decide, by decide⟩ rfl rfl rfl ⟨by decide, by omega⟩ (by decide +kernel) (by decide +kernel) (Nat.le_of_ble_eq_true rfl) (eX10_countDays (⟨o20, o21, o22, o23, o24, ?_⟩))
    show MW mX10_countFree 0 0 37 [(0, vR 53), (1, vI x1), (2, vI x2), (3, vI x3), (4, vI x4), (5, vI x5), (6, vI x6)] [vI (iT (x3 = 0) (max 0 (((min x2 (iT (d 53 4 ≤ x6) 4999 ((d 54 x6) - 1))) - x5) + 1)) (cn (court R) x5 (min x2 (iT (d 53 4 ≤ x6) 4999 ((d 54 x6) - 1))))), vI x4] g d Q
    obtain ⟨o25, h⟩ := h
    refine mw_iadd (pc' := 38) dX10_countFree_37 rfl o25 ?_
    refine mw_istore (pc' := 40) (L' := [(0, vR 53), (1, vI x1), (2, vI x2), (3, vI x3), (4, vI (x4 + (iT (x3 = 0) (max 0 (((min x2 (iT (d 53 4 ≤ x6) 4999 ((d 54 x6) - 1))) - x5) + 1)) (cn (court R) x5 (min x2 (iT (d 53 4 ≤ x6) 4999 ((d 54 x6) - 1))))))), (5, vI x5), (6, vI x6)]) dX10_countFree_38 rfl (by decide) rfl ?_
    refine mw_aload_n (v := vR 53) (pc' := 41) dX10_countFree_40 rfl rfl (Or.inl rfl) rfl ?_
    refine mw_iload (pc' := 43) dX10_countFree_41 rfl rfl ?_
    refine mw_iload (pc' := 45) dX10_countFree_43 rfl rfl ?_
    obtain ⟨o27, h⟩ := h
    refine mw_callV (M' := mX10_dayBehindRange) (A := [vI x6, vI x5]) (A' := [vR 53, vI x6, vI x5]) (S := []) (a := 53) (pc' := 48) dX10_countFree_45 rfl cl_RX10_103 cm_X10_dayBehindRange cv_X10_dayBehindRange ⟨by decide, by decide, by decide, by decide, by decide⟩ rfl rfl rfl ⟨by decide, by omega⟩ (by decide +kernel) (by decide +kernel) (Nat.le_of_ble_eq_true rfl) (eX10_dayBehindRange (⟨o18, o27, ?_⟩))
    show MW mX10_countFree 0 0 48 [(0, vR 53), (1, vI x1), (2, vI x2), (3, vI x3), (4, vI (x4 + (iT (x3 = 0) (max 0 (((min x2 (iT (d 53 4 ≤ x6) 4999 ((d 54 x6) - 1))) - x5) + 1)) (cn (court R) x5 (min x2 (iT (d 53 4 ≤ x6) 4999 ((d 54 x6) - 1))))))), (5, vI x5), (6, vI x6)] [vI (iT (d 53 4 ≤ x6) 5000 (max x5 ((d 55 x6) + 1)))] g d Q
    refine mw_istore (pc' := 50) (L' := [(0, vR 53), (1, vI x1), (2, vI x2), (3, vI x3), (4, vI (x4 + (iT (x3 = 0) (max 0 (((min x2 (iT (d 53 4 ≤ x6) 4999 ((d 54 x6) - 1))) - x5) + 1)) (cn (court R) x5 (min x2 (iT (d 53 4 ≤ x6) 4999 ((d 54 x6) - 1))))))), (5, vI (iT (d 53 4 ≤ x6) 5000 (max x5 ((d 55 x6) + 1)))), (6, vI x6)]) dX10_countFree_48 rfl (by decide) rfl ?_
    obtain ⟨o28, h⟩ := h
    refine mw_iinc (pc' := 53) (L' := [(0, vR 53), (1, vI x1), (2, vI x2), (3, vI x3), (4, vI (x4 + (iT (x3 = 0) (max 0 (((min x2 (iT (d 53 4 ≤ x6) 4999 ((d 54 x6) - 1))) - x5) + 1)) (cn (court R) x5 (min x2 (iT (d 53 4 ≤ x6) 4999 ((d 54 x6) - 1))))))), (5, vI (iT (d 53 4 ≤ x6) 5000 (max x5 ((d 55 x6) + 1)))), (6, vI (x6 + 1))]) dX10_countFree_50 rfl rfl (by decide) o28 rfl ?_
    refine mw_goto (pc' := 0) (tgt := 9) dX10_countFree_53 (by decide) ?_
    exact h
def pX10_countBack_1 (x1 x2 x3 x4 : Int) (g : mG) (d : mD) (Q : mQ) : Prop := MW mX10_countBack 0 0 20 [(0, vR 53), (1, vI x1), (2, vI x2), (3, vI x3), (4, vI x4)] [] g d Q
theorem eX10_countBack {R : rW} {x1 x2 x3 : Int} {g : mG} {d : mD} {Q : mQ} (h : ((x3 = 0) → iI (x1 - x2)) ∧ (((¬ (x3 = 0)) → iI (x1 - 1)) ∧ (((¬ (x3 = 0)) → CI d R) ∧ (((¬ (x3 = 0)) → -1 ≤ (x1 - 1) ∧ (x1 - 1) ≤ 4999) ∧ (((¬ (x3 = 0)) → 1 ≤ x2 ∧ x2 ≤ 200) ∧ (pX10_countBack_1 x1 x2 x3 (iT (x3 = 0) (x1 - x2) (bd (fun x => x2 ≤ cn (court R) x (x1 - 1)) (x1 - 1))) g d Q)))))) : MM mX10_countBack [vR 53, vI x1, vI x2, vI x3] g d Q := by
  refine MM_of (by decide) rfl (by simp [catV]) (Nat.le_of_ble_eq_true rfl) ?_
  show MW mX10_countBack 0 0 0 [(0, vR 53), (1, vI x1), (2, vI x2), (3, vI x3)] [] g d Q
  refine mw_top (fun hT => ?_)
  have hG : 76 ≤ g.2.1 := hT.2
  refine mw_iload_n (pc' := 1) dX10_countBack_0 rfl rfl rfl ?_
  obtain ⟨o1, h⟩ := h
  obtain ⟨o2, h⟩ := h
  obtain ⟨o3, h⟩ := h
  obtain ⟨o4, h⟩ := h
  obtain ⟨o5, h⟩ := h
  suffices k6 : MW mX10_countBack 0 0 18 [(0, vR 53), (1, vI x1), (2, vI x2), (3, vI x3)] [vI (iT (x3 = 0) (x1 - x2) (bd (fun x => x2 ≤ cn (court R) x (x1 - 1)) (x1 - 1)))] g d Q by
    refine mw_if_eq (tgt := 15) (pc' := 4) dX10_countBack_1 rfl (by decide) (fun c7 => ?_) (fun c7 => ?_)
    · refine mw_iload_n (pc' := 16) dX10_countBack_15 rfl rfl rfl ?_
      refine mw_iload_n (pc' := 17) dX10_countBack_16 rfl rfl rfl ?_
      refine mw_isub (pc' := 18) dX10_countBack_17 rfl (o1 c7) ?_
      exact mw_st (((iT_t c7).trans rfl)).symm k6
    · refine mw_aload_n (v := vR 53) (pc' := 5) dX10_countBack_4 rfl rfl (Or.inl rfl) rfl ?_
      refine mw_iload_n (pc' := 6) dX10_countBack_5 rfl rfl rfl ?_
      refine mw_iconst (pc' := 7) dX10_countBack_6 rfl ⟨by decide, by decide⟩ ?_
      refine mw_isub (pc' := 8) dX10_countBack_7 rfl (o2 c7) ?_
      refine mw_iload_n (pc' := 9) dX10_countBack_8 rfl rfl rfl ?_
      refine mw_callV (M' := mX10_dayOfCountBack) (A := [vI (x1 - 1), vI x2]) (A' := [vR 53, vI (x1 - 1), vI x2]) (S := []) (a := 53) (pc' := 12) dX10_countBack_9 rfl cl_RX10_118 cm_X10_dayOfCountBack cv_X10_dayOfCountBack ⟨by decide, by decide, by decide, by decide, by decide⟩ rfl rfl rfl ⟨by decide, by omega⟩ (by decide +kernel) (by decide +kernel) (Nat.le_of_ble_eq_true rfl) (f_dayOfCountBack (⟨(o3 c7), (o4 c7), (o5 c7), ?_⟩))
      show MW mX10_countBack 0 0 12 [(0, vR 53), (1, vI x1), (2, vI x2), (3, vI x3)] [vI (bd (fun x => x2 ≤ cn (court R) x (x1 - 1)) (x1 - 1))] g d Q
      refine mw_goto (pc' := 0) (tgt := 18) dX10_countBack_12 (by decide) ?_
      exact mw_st (((iT_f c7).trans rfl)).symm k6
  refine mw_istore (pc' := 20) (L' := [(0, vR 53), (1, vI x1), (2, vI x2), (3, vI x3), (4, vI (iT (x3 = 0) (x1 - x2) (bd (fun x => x2 ≤ cn (court R) x (x1 - 1)) (x1 - 1))))]) dX10_countBack_18 rfl (by decide) rfl ?_
  exact h
theorem aX10_countBack_1 {R : rW} {x1 x2 x3 x4 : Int} {g : mG} {d : mD} {Q : mQ} (h : ((¬ (x4 < 0)) → CI d R) ∧ (((¬ (x4 < 0)) → 0 ≤ x4) ∧ ((((¬ (x4 < 0)) ∧ (¬ (court R x4))) → (iI (x4 + (-1))) ∧ (pX10_countBack_1 x1 x2 x3 (x4 + (-1)) g d Q)) ∧ ((¬ ((¬ (x4 < 0)) ∧ (¬ (court R x4)))) → Q (.inl x4) g d)))) : pX10_countBack_1 x1 x2 x3 x4 g d Q := by
  unfold pX10_countBack_1
  refine mw_top (fun hT => ?_)
  have hG : 76 ≤ g.2.1 := hT.2
  refine mw_iload (pc' := 22) dX10_countBack_20 rfl rfl ?_
  obtain ⟨o8, h⟩ := h
  obtain ⟨o9, h⟩ := h
  suffices k10 : (((¬ (x4 < 0)) ∧ (¬ (court R x4))) → MW mX10_countBack 0 0 37 [(0, vR 53), (1, vI x1), (2, vI x2), (3, vI x3), (4, vI x4)] [] g d Q) ∧ ((¬ ((¬ (x4 < 0)) ∧ (¬ (court R x4)))) → MW mX10_countBack 0 0 43 [(0, vR 53), (1, vI x1), (2, vI x2), (3, vI x3), (4, vI x4)] [] g d Q) by
    refine mw_if_lt (tgt := 43) (pc' := 25) dX10_countBack_22 rfl (by decide) (fun c11 => ?_) (fun c11 => ?_)
    · exact k10.2 (fun h => (h.1 c11))
    · refine mw_aload_n (v := vR 53) (pc' := 26) dX10_countBack_25 rfl rfl (Or.inl rfl) rfl ?_
      refine mw_getP (v := 10) (pc' := 29) dX10_countBack_26 rfl fr_RX10_18_53 rfl sp_53_0 ⟨by decide, by decide⟩ ?_
      refine mw_iload (pc' := 31) dX10_countBack_29 rfl rfl ?_
      refine mw_callV (M' := mX0_isCourt) (A := [vI x4]) (A' := [vR 10, vI x4]) (S := []) (a := 10) (pc' := 34) dX10_countBack_31 rfl cl_RX10_111 cm_X0_isCourt cv_X0_isCourt ⟨by decide, by decide, by decide, by decide, by decide⟩ rfl rfl rfl ⟨by decide, by omega⟩ (by decide +kernel) (by decide +kernel) (Nat.le_of_ble_eq_true rfl) (f_isCourtC (⟨(o8 c11), (o9 c11), ?_⟩))
      show MW mX10_countBack 0 0 34 [(0, vR 53), (1, vI x1), (2, vI x2), (3, vI x3), (4, vI x4)] [vI (bI (court R x4))] g d Q
      refine mw_if_ne (tgt := 43) (pc' := 37) dX10_countBack_34 rfl (by decide) (fun c12 => ?_) (fun c12 => ?_)
      · replace c12 := bI_n0.mp c12
        exact k10.2 (fun h => (fun h => (h c12)) h.2)
      · replace c12 := bI_0.mp c12
        exact k10.1 ⟨c11, c12⟩
  refine ⟨fun c13 => ?_, fun c13 => ?_⟩
  · replace h := h.1 c13
    obtain ⟨o14, h⟩ := h
    refine mw_iinc (pc' := 40) (L' := [(0, vR 53), (1, vI x1), (2, vI x2), (3, vI x3), (4, vI (x4 + (-1)))]) dX10_countBack_37 rfl rfl (by decide) o14 rfl ?_
    refine mw_goto (pc' := 0) (tgt := 20) dX10_countBack_40 (by decide) ?_
    exact h
  · replace h := h.2 c13
    refine mw_iload (pc' := 45) dX10_countBack_43 rfl rfl ?_
    exact mw_iret (pc' := 0) (S := []) dX10_countBack_45 rfl (Or.inl rfl) h
