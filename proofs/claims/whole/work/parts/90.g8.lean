theorem rc_65_18 : RC 65 18 = 2 := by decide +kernel
theorem fq_RX12_221_65 : FP RX12 221 (LK 65) 18 .boolean false := (show LK 65 = 12 by decide +kernel) ▸ fp_RX12_221
theorem rc_65_17 : RC 65 17 = 0 := by decide +kernel
theorem fq_RX12_224_65 : FP RX12 224 (LK 65) 17 .int false := (show LK 65 = 12 by decide +kernel) ▸ fp_RX12_224
theorem fi_RX6_29_60 : FI RX6 29 60 5 := ⟨(show LK 60 = 6 by decide +kernel) ▸ fg_RX6_29, by decide +kernel, by decide +kernel, by decide⟩
theorem rc_60_5 : RC 60 5 = 0 := by decide +kernel
theorem fq_RX6_29_60 : FP RX6 29 (LK 60) 5 .int false := (show LK 60 = 6 by decide +kernel) ▸ fp_RX6_29
theorem fr_RX6_21_60 : FR RX6 21 60 3 := ⟨(show LK 60 = 6 by decide +kernel) ▸ fg_RX6_21, by decide +kernel, by decide +kernel, by decide⟩
theorem fi_RX6_25_60 : FI RX6 25 60 4 := ⟨(show LK 60 = 6 by decide +kernel) ▸ fg_RX6_25, by decide +kernel, by decide +kernel, by decide⟩
theorem fr_RX6_15_60 : FR RX6 15 60 1 := ⟨(show LK 60 = 6 by decide +kernel) ▸ fg_RX6_15, by decide +kernel, by decide +kernel, by decide⟩
theorem fr_RX6_18_60 : FR RX6 18 60 2 := ⟨(show LK 60 = 6 by decide +kernel) ▸ fg_RX6_18, by decide +kernel, by decide +kernel, by decide⟩
theorem eX12_take {x1 : Int} {g : mG} {d : mD} {Q : mQ} (h : ((d 65 18 = 0) → (d 65 (18 : Int) = 0) → (¬ (d 65 7 ≤ d 65 17)) → 0 ≤ d 65 17 ∧ d 65 (17 : Int) < 60) ∧ ((iI ((d 65 17) + (bI (¬ ((¬ (d 65 18 = 0)) ∨ (¬ ((d 65 (18 : Int) = 0) ∧ ((¬ (d 65 7 ≤ d 65 17)) ∧ (d 69 (d 65 17) = x1))))))))) ∧ (Q (.inl 0) g (ud (ud d 65 18 (bI ((¬ (d 65 18 = 0)) ∨ (¬ ((d 65 (18 : Int) = 0) ∧ ((¬ (d 65 7 ≤ d 65 17)) ∧ (d 69 (d 65 17) = x1))))))) 65 17 ((d 65 17) + (bI (¬ ((¬ (d 65 18 = 0)) ∨ (¬ ((d 65 (18 : Int) = 0) ∧ ((¬ (d 65 7 ≤ d 65 17)) ∧ (d 69 (d 65 17) = x1)))))))))))) : MM mX12_take [vR 65, vI x1] g d Q := by
  refine MM_of (by decide) rfl (by simp [catV]) (Nat.le_of_ble_eq_true rfl) ?_
  show MW mX12_take 0 0 0 [(0, vR 65), (1, vI x1)] [] g d Q
  refine mw_top (fun hT => ?_)
  have hG : 76 ≤ g.2.1 := hT.2
  refine mw_aload_n (v := vR 65) (pc' := 1) dX12_take_0 rfl rfl (Or.inl rfl) rfl ?_
  refine mw_aload_n (v := vR 65) (pc' := 2) dX12_take_1 rfl rfl (Or.inl rfl) rfl ?_
  refine mw_getI (ji := 18) (pc' := 5) dX12_take_2 rfl fi_RX12_221_65 rfl ⟨by decide, by decide⟩ ?_
  obtain ⟨o1, h⟩ := h
  suffices k2 : MW mX12_take 0 0 21 [(0, vR 65), (1, vI x1)] [vI (bI ((¬ (d 65 18 = 0)) ∨ (¬ ((d 65 (18 : Int) = 0) ∧ ((¬ (d 65 7 ≤ d 65 17)) ∧ (d 69 (d 65 17) = x1)))))), vR 65] g d Q by
    refine mw_if_ne (tgt := 16) (pc' := 8) dX12_take_5 rfl (by decide) (fun c3 => ?_) (fun c3 => ?_)
    · refine mw_iconst (pc' := 17) dX12_take_16 rfl ⟨by decide, by decide⟩ ?_
      refine mw_goto (pc' := 0) (tgt := 21) dX12_take_17 (by decide) ?_
      exact mw_st (bI_t (Or.inl c3)).symm k2
    · refine mw_aload_n (v := vR 65) (pc' := 9) dX12_take_8 rfl rfl (Or.inl rfl) rfl ?_
      refine mw_iload_n (pc' := 10) dX12_take_9 rfl rfl rfl ?_
      refine mw_callV (M' := mX12_isAt) (A := [vI x1]) (A' := [vR 65, vI x1]) (S := [vR 65]) (a := 65) (pc' := 13) dX12_take_10 rfl cl_RX12_227 cm_X12_isAt cv_X12_isAt ⟨by decide, by decide, by decide, by decide, by decide⟩ rfl rfl rfl ⟨by decide, by omega⟩ (by decide +kernel) (by decide +kernel) (Nat.le_of_ble_eq_true rfl) (eX12_isAt (⟨(o1 c3), ?_⟩))
      show MW mX12_take 0 0 13 [(0, vR 65), (1, vI x1)] [vI (bI ((d 65 (18 : Int) = 0) ∧ ((¬ (d 65 7 ≤ d 65 17)) ∧ (d 69 (d 65 17) = x1)))), vR 65] g d Q
      refine mw_if_ne (tgt := 20) (pc' := 16) dX12_take_13 rfl (by decide) (fun c4 => ?_) (fun c4 => ?_)
      · replace c4 := bI_n0.mp c4
        refine mw_iconst (pc' := 21) dX12_take_20 rfl ⟨by decide, by decide⟩ ?_
        exact mw_st (bI_f (fun h => h.elim (fun q => (q c3)) (fun h => (h c4)))).symm k2
      · replace c4 := bI_0.mp c4
        refine mw_iconst (pc' := 17) dX12_take_16 rfl ⟨by decide, by decide⟩ ?_
        refine mw_goto (pc' := 0) (tgt := 21) dX12_take_17 (by decide) ?_
        exact mw_st (bI_t (Or.inr c4)).symm k2
  refine mw_putI (ji := 18) (pc' := 24) dX12_take_21 rfl (fq_RX12_221_65) (by decide +kernel) rfl (Or.inr ⟨rfl, rc_65_18⟩) (Or.inl (by rw [rc_65_18]; exact bI_rng)) ⟨by decide, by omega⟩ ?_
  refine mw_aload_n (v := vR 65) (pc' := 25) dX12_take_24 rfl rfl (Or.inl rfl) rfl ?_
  refine mw_dup (pc' := 26) dX12_take_25 rfl rfl ?_
  refine mw_getI (ji := 17) (pc' := 29) dX12_take_26 rfl fi_RX12_224_65 rfl ⟨by decide, by decide⟩ ?_
  refine mw_st (b := d 65 17) (udI (by decide) (rfl)) ?_
  refine mw_aload_n (v := vR 65) (pc' := 30) dX12_take_29 rfl rfl (Or.inl rfl) rfl ?_
  refine mw_getI (ji := 18) (pc' := 33) dX12_take_30 rfl fi_RX12_221_65 rfl ⟨by decide, by decide⟩ ?_
  refine mw_st (b := bI ((¬ (d 65 18 = 0)) ∨ (¬ ((d 65 (18 : Int) = 0) ∧ ((¬ (d 65 7 ≤ d 65 17)) ∧ (d 69 (d 65 17) = x1)))))) (udS) ?_
  suffices k5 : MW mX12_take 0 0 41 [(0, vR 65), (1, vI x1)] [vI (bI (¬ ((¬ (d 65 18 = 0)) ∨ (¬ ((d 65 (18 : Int) = 0) ∧ ((¬ (d 65 7 ≤ d 65 17)) ∧ (d 69 (d 65 17) = x1))))))), vI (d 65 17), vR 65] g (ud d 65 18 (bI ((¬ (d 65 18 = 0)) ∨ (¬ ((d 65 (18 : Int) = 0) ∧ ((¬ (d 65 7 ≤ d 65 17)) ∧ (d 69 (d 65 17) = x1))))))) Q by
    refine mw_if_eq (tgt := 40) (pc' := 36) dX12_take_33 rfl (by decide) (fun c6 => ?_) (fun c6 => ?_)
    · replace c6 := bI_0.mp c6
      refine mw_iconst (pc' := 41) dX12_take_40 rfl ⟨by decide, by decide⟩ ?_
      exact mw_st (bI_t c6).symm k5
    · replace c6 := bI_n0.mp c6
      refine mw_iconst (pc' := 37) dX12_take_36 rfl ⟨by decide, by decide⟩ ?_
      refine mw_goto (pc' := 0) (tgt := 41) dX12_take_37 (by decide) ?_
      exact mw_st (bI_f (fun h => (h c6))).symm k5
  obtain ⟨o7, h⟩ := h
  refine mw_iadd (pc' := 42) dX12_take_41 rfl o7 ?_
  refine mw_putI (ji := 17) (pc' := 45) dX12_take_42 rfl (fq_RX12_224_65) (by decide +kernel) rfl (Or.inl ⟨rfl, rc_65_17⟩) (Or.inr rfl) ⟨by decide, by omega⟩ ?_
  exact mw_vret (pc' := 0) (S := []) dX12_take_45 rfl h
theorem eX12_takeIf {x1 : Int} {g : mG} {d : mD} {Q : mQ} (h : ((x1 = 0) → Q (.inl 0) g d) ∧ ((¬ (x1 = 0)) → MM mX12_take [vR 65, vI x1] g d (fun o g4 d5 => match o with | .inl v3 => Q (.inl 0) g4 d5 | .inr k => Q (.inr k) g4 d5))) : MM mX12_takeIf [vR 65, vI x1] g d Q := by
  refine MM_of (by decide) rfl (by simp [catV]) (Nat.le_of_ble_eq_true rfl) ?_
  show MW mX12_takeIf 0 0 0 [(0, vR 65), (1, vI x1)] [] g d Q
  refine mw_top (fun hT => ?_)
  have hG : 76 ≤ g.2.1 := hT.2
  refine mw_iload_n (pc' := 1) dX12_takeIf_0 rfl rfl rfl ?_
  refine mw_if_eq (tgt := 9) (pc' := 4) dX12_takeIf_1 rfl (by decide) (fun c1 => ?_) (fun c1 => ?_)
  · replace h := h.1 c1
    exact mw_vret (pc' := 0) (S := []) dX12_takeIf_9 rfl h
  · replace h := h.2 c1
    refine mw_aload_n (v := vR 65) (pc' := 5) dX12_takeIf_4 rfl rfl (Or.inl rfl) rfl ?_
    refine mw_iload_n (pc' := 6) dX12_takeIf_5 rfl rfl rfl ?_
    refine mw_callV (M' := mX12_take) (A := [vI x1]) (A' := [vR 65, vI x1]) (S := []) (a := 65) (pc' := 9) dX12_takeIf_6 rfl cl_RX12_230 cm_X12_take cv_X12_take ⟨by decide, by decide, by decide, by decide, by decide⟩ rfl rfl rfl ⟨by decide, by omega⟩ (by decide +kernel) (by decide +kernel) (Nat.le_of_ble_eq_true rfl) (MM.mono ?_ h)
    intro o g4 d5 h2
    rcases o with v3 | k
    · refine mw_top (fun hT => ?_)
      have hG : 76 ≤ g4.2.1 := hT.2
      show MW mX12_takeIf 0 0 9 [(0, vR 65), (1, vI x1)] [] g4 d5 Q
      exact mw_vret (pc' := 0) (S := []) dX12_takeIf_9 rfl h2
    · exact mx_out rfl h2
theorem eX12_takeWord {x1 x2 x3 x4 x5 x6 : Int} {g : mG} {d : mD} {Q : mQ} (h : MM mX12_take [vR 65, vI x1] g d (fun o g3 d4 => match o with | .inl v2 => MM mX12_take [vR 65, vI x2] g3 d4 (fun o g7 d8 => match o with | .inl v6 => MM mX12_take [vR 65, vI x3] g7 d8 (fun o g11 d12 => match o with | .inl v10 => MM mX12_takeIf [vR 65, vI x4] g11 d12 (fun o g15 d16 => match o with | .inl v14 => MM mX12_takeIf [vR 65, vI x5] g15 d16 (fun o g19 d20 => match o with | .inl v18 => MM mX12_takeIf [vR 65, vI x6] g19 d20 (fun o g23 d24 => match o with | .inl v22 => Q (.inl 0) g23 d24 | .inr k => Q (.inr k) g23 d24) | .inr k => Q (.inr k) g19 d20) | .inr k => Q (.inr k) g15 d16) | .inr k => Q (.inr k) g11 d12) | .inr k => Q (.inr k) g7 d8) | .inr k => Q (.inr k) g3 d4)) : MM mX12_takeWord [vR 65, vI x1, vI x2, vI x3, vI x4, vI x5, vI x6] g d Q := by
  refine MM_of (by decide) rfl (by simp [catV]) (Nat.le_of_ble_eq_true rfl) ?_
  show MW mX12_takeWord 0 0 0 [(0, vR 65), (1, vI x1), (2, vI x2), (3, vI x3), (4, vI x4), (5, vI x5), (6, vI x6)] [] g d Q
  refine mw_top (fun hT => ?_)
  have hG : 76 ≤ g.2.1 := hT.2
  refine mw_aload_n (v := vR 65) (pc' := 1) dX12_takeWord_0 rfl rfl (Or.inl rfl) rfl ?_
  refine mw_iload_n (pc' := 2) dX12_takeWord_1 rfl rfl rfl ?_
  refine mw_callV (M' := mX12_take) (A := [vI x1]) (A' := [vR 65, vI x1]) (S := []) (a := 65) (pc' := 5) dX12_takeWord_2 rfl cl_RX12_230 cm_X12_take cv_X12_take ⟨by decide, by decide, by decide, by decide, by decide⟩ rfl rfl rfl ⟨by decide, by omega⟩ (by decide +kernel) (by decide +kernel) (Nat.le_of_ble_eq_true rfl) (MM.mono ?_ h)
  intro o g3 d4 h1
  rcases o with v2 | k
  · refine mw_top (fun hT => ?_)
    have hG : 76 ≤ g3.2.1 := hT.2
    show MW mX12_takeWord 0 0 5 [(0, vR 65), (1, vI x1), (2, vI x2), (3, vI x3), (4, vI x4), (5, vI x5), (6, vI x6)] [] g3 d4 Q
    refine mw_aload_n (v := vR 65) (pc' := 6) dX12_takeWord_5 rfl rfl (Or.inl rfl) rfl ?_
    refine mw_iload_n (pc' := 7) dX12_takeWord_6 rfl rfl rfl ?_
    refine mw_callV (M' := mX12_take) (A := [vI x2]) (A' := [vR 65, vI x2]) (S := []) (a := 65) (pc' := 10) dX12_takeWord_7 rfl cl_RX12_230 cm_X12_take cv_X12_take ⟨by decide, by decide, by decide, by decide, by decide⟩ rfl rfl rfl ⟨by decide, by omega⟩ (by decide +kernel) (by decide +kernel) (Nat.le_of_ble_eq_true rfl) (MM.mono ?_ h1)
    intro o g7 d8 h5
    rcases o with v6 | k
    · refine mw_top (fun hT => ?_)
      have hG : 76 ≤ g7.2.1 := hT.2
      show MW mX12_takeWord 0 0 10 [(0, vR 65), (1, vI x1), (2, vI x2), (3, vI x3), (4, vI x4), (5, vI x5), (6, vI x6)] [] g7 d8 Q
      refine mw_aload_n (v := vR 65) (pc' := 11) dX12_takeWord_10 rfl rfl (Or.inl rfl) rfl ?_
      refine mw_iload_n (pc' := 12) dX12_takeWord_11 rfl rfl rfl ?_
      refine mw_callV (M' := mX12_take) (A := [vI x3]) (A' := [vR 65, vI x3]) (S := []) (a := 65) (pc' := 15) dX12_takeWord_12 rfl cl_RX12_230 cm_X12_take cv_X12_take ⟨by decide, by decide, by decide, by decide, by decide⟩ rfl rfl rfl ⟨by decide, by omega⟩ (by decide +kernel) (by decide +kernel) (Nat.le_of_ble_eq_true rfl) (MM.mono ?_ h5)
      intro o g11 d12 h9
      rcases o with v10 | k
      · refine mw_top (fun hT => ?_)
        have hG : 76 ≤ g11.2.1 := hT.2
        show MW mX12_takeWord 0 0 15 [(0, vR 65), (1, vI x1), (2, vI x2), (3, vI x3), (4, vI x4), (5, vI x5), (6, vI x6)] [] g11 d12 Q
        refine mw_aload_n (v := vR 65) (pc' := 16) dX12_takeWord_15 rfl rfl (Or.inl rfl) rfl ?_
        refine mw_iload (pc' := 18) dX12_takeWord_16 rfl rfl ?_
        refine mw_callV (M' := mX12_takeIf) (A := [vI x4]) (A' := [vR 65, vI x4]) (S := []) (a := 65) (pc' := 21) dX12_takeWord_18 rfl cl_RX12_233 cm_X12_takeIf cv_X12_takeIf ⟨by decide, by decide, by decide, by decide, by decide⟩ rfl rfl rfl ⟨by decide, by omega⟩ (by decide +kernel) (by decide +kernel) (Nat.le_of_ble_eq_true rfl) (MM.mono ?_ h9)
        intro o g15 d16 h13
        rcases o with v14 | k
        · refine mw_top (fun hT => ?_)
          have hG : 76 ≤ g15.2.1 := hT.2
          show MW mX12_takeWord 0 0 21 [(0, vR 65), (1, vI x1), (2, vI x2), (3, vI x3), (4, vI x4), (5, vI x5), (6, vI x6)] [] g15 d16 Q
          refine mw_aload_n (v := vR 65) (pc' := 22) dX12_takeWord_21 rfl rfl (Or.inl rfl) rfl ?_
          refine mw_iload (pc' := 24) dX12_takeWord_22 rfl rfl ?_
          refine mw_callV (M' := mX12_takeIf) (A := [vI x5]) (A' := [vR 65, vI x5]) (S := []) (a := 65) (pc' := 27) dX12_takeWord_24 rfl cl_RX12_233 cm_X12_takeIf cv_X12_takeIf ⟨by decide, by decide, by decide, by decide, by decide⟩ rfl rfl rfl ⟨by decide, by omega⟩ (by decide +kernel) (by decide +kernel) (Nat.le_of_ble_eq_true rfl) (MM.mono ?_ h13)
          intro o g19 d20 h17
          rcases o with v18 | k
          · refine mw_top (fun hT => ?_)
            have hG : 76 ≤ g19.2.1 := hT.2
            show MW mX12_takeWord 0 0 27 [(0, vR 65), (1, vI x1), (2, vI x2), (3, vI x3), (4, vI x4), (5, vI x5), (6, vI x6)] [] g19 d20 Q
            refine mw_aload_n (v := vR 65) (pc' := 28) dX12_takeWord_27 rfl rfl (Or.inl rfl) rfl ?_
            refine mw_iload (pc' := 30) dX12_takeWord_28 rfl rfl ?_
            refine mw_callV (M' := mX12_takeIf) (A := [vI x6]) (A' := [vR 65, vI x6]) (S := []) (a := 65) (pc' := 33) dX12_takeWord_30 rfl cl_RX12_233 cm_X12_takeIf cv_X12_takeIf ⟨by decide, by decide, by decide, by decide, by decide⟩ rfl rfl rfl ⟨by decide, by omega⟩ (by decide +kernel) (by decide +kernel) (Nat.le_of_ble_eq_true rfl) (MM.mono ?_ h17)
            intro o g23 d24 h21
            rcases o with v22 | k
            · refine mw_top (fun hT => ?_)
              have hG : 76 ≤ g23.2.1 := hT.2
              show MW mX12_takeWord 0 0 33 [(0, vR 65), (1, vI x1), (2, vI x2), (3, vI x3), (4, vI x4), (5, vI x5), (6, vI x6)] [] g23 d24 Q
              exact mw_vret (pc' := 0) (S := []) dX12_takeWord_33 rfl h21
            · exact mx_out rfl h21
          · exact mx_out rfl h17
        · exact mx_out rfl h13
      · exact mx_out rfl h9
    · exact mx_out rfl h5
  · exact mx_out rfl h1
def pX12_digits_1 (x1 x2 x3 : Int) (g : mG) (d : mD) (Q : mQ) : Prop := MW mX12_digits 0 0 27 [(0, vR 65), (1, vI x1), (2, vI x2), (3, vI x3)] [] g d Q
theorem eX12_digits {x1 : Int} {g : mG} {d : mD} {Q : mQ} (h : ((d 65 18 = 0) → (d 65 (18 : Int) = 0) → (¬ (d 65 7 ≤ d 65 17)) → 0 ≤ d 65 17 ∧ d 65 (17 : Int) < 60) ∧ (pX12_digits_1 x1 0 0 g (ud d 65 18 (bI ((¬ (d 65 18 = 0)) ∨ (¬ ((d 65 (18 : Int) = 0) ∧ ((¬ (d 65 7 ≤ d 65 17)) ∧ ((¬ ((d 69 (d 65 17)) < 48)) ∧ (¬ (57 < (d 69 (d 65 17))))))))))) Q)) : MM mX12_digits [vR 65, vI x1] g d Q := by
  refine MM_of (by decide) rfl (by simp [catV]) (Nat.le_of_ble_eq_true rfl) ?_
  show MW mX12_digits 0 0 0 [(0, vR 65), (1, vI x1)] [] g d Q
  refine mw_top (fun hT => ?_)
  have hG : 76 ≤ g.2.1 := hT.2
  refine mw_iconst (pc' := 1) dX12_digits_0 rfl ⟨by decide, by decide⟩ ?_
  refine mw_istore_n (pc' := 2) (L' := [(0, vR 65), (1, vI x1), (2, vI 0)]) dX12_digits_1 rfl rfl (by decide) rfl ?_
  refine mw_aload_n (v := vR 65) (pc' := 3) dX12_digits_2 rfl rfl (Or.inl rfl) rfl ?_
  refine mw_aload_n (v := vR 65) (pc' := 4) dX12_digits_3 rfl rfl (Or.inl rfl) rfl ?_
  refine mw_getI (ji := 18) (pc' := 7) dX12_digits_4 rfl fi_RX12_221_65 rfl ⟨by decide, by decide⟩ ?_
  obtain ⟨o1, h⟩ := h
  suffices k2 : MW mX12_digits 0 0 22 [(0, vR 65), (1, vI x1), (2, vI 0)] [vI (bI ((¬ (d 65 18 = 0)) ∨ (¬ ((d 65 (18 : Int) = 0) ∧ ((¬ (d 65 7 ≤ d 65 17)) ∧ ((¬ ((d 69 (d 65 17)) < 48)) ∧ (¬ (57 < (d 69 (d 65 17)))))))))), vR 65] g d Q by
    refine mw_if_ne (tgt := 17) (pc' := 10) dX12_digits_7 rfl (by decide) (fun c3 => ?_) (fun c3 => ?_)
    · refine mw_iconst (pc' := 18) dX12_digits_17 rfl ⟨by decide, by decide⟩ ?_
      refine mw_goto (pc' := 0) (tgt := 22) dX12_digits_18 (by decide) ?_
      exact mw_st (bI_t (Or.inl c3)).symm k2
    · refine mw_aload_n (v := vR 65) (pc' := 11) dX12_digits_10 rfl rfl (Or.inl rfl) rfl ?_
      refine mw_callV (M' := mX12_isDigit) (A := []) (A' := [vR 65]) (S := [vR 65]) (a := 65) (pc' := 14) dX12_digits_11 rfl cl_RX12_236 cm_X12_isDigit cv_X12_isDigit ⟨by decide, by decide, by decide, by decide, by decide⟩ rfl rfl rfl ⟨by decide, by omega⟩ (by decide +kernel) (by decide +kernel) (Nat.le_of_ble_eq_true rfl) (eX12_isDigit (⟨(o1 c3), ?_⟩))
      show MW mX12_digits 0 0 14 [(0, vR 65), (1, vI x1), (2, vI 0)] [vI (bI ((d 65 (18 : Int) = 0) ∧ ((¬ (d 65 7 ≤ d 65 17)) ∧ ((¬ ((d 69 (d 65 17)) < 48)) ∧ (¬ (57 < (d 69 (d 65 17)))))))), vR 65] g d Q
      refine mw_if_ne (tgt := 21) (pc' := 17) dX12_digits_14 rfl (by decide) (fun c4 => ?_) (fun c4 => ?_)
      · replace c4 := bI_n0.mp c4
        refine mw_iconst (pc' := 22) dX12_digits_21 rfl ⟨by decide, by decide⟩ ?_
        exact mw_st (bI_f (fun h => h.elim (fun q => (q c3)) (fun h => (h c4)))).symm k2
      · replace c4 := bI_0.mp c4
        refine mw_iconst (pc' := 18) dX12_digits_17 rfl ⟨by decide, by decide⟩ ?_
        refine mw_goto (pc' := 0) (tgt := 22) dX12_digits_18 (by decide) ?_
        exact mw_st (bI_t (Or.inr c4)).symm k2
  refine mw_putI (ji := 18) (pc' := 25) dX12_digits_22 rfl (fq_RX12_221_65) (by decide +kernel) rfl (Or.inr ⟨rfl, rc_65_18⟩) (Or.inl (by rw [rc_65_18]; exact bI_rng)) ⟨by decide, by omega⟩ ?_
  refine mw_iconst (pc' := 26) dX12_digits_25 rfl ⟨by decide, by decide⟩ ?_
  refine mw_istore_n (pc' := 27) (L' := [(0, vR 65), (1, vI x1), (2, vI 0), (3, vI 0)]) dX12_digits_26 rfl rfl (by decide) rfl ?_
  exact h
theorem aX12_digits_1 {x1 x2 x3 : Int} {g : mG} {d : mD} {Q : mQ} (h : ((¬ (x1 ≤ x3)) → (d 65 (18 : Int) = 0) → (¬ (d 65 7 ≤ d 65 17)) → 0 ≤ d 65 17 ∧ d 65 (17 : Int) < 60) ∧ ((((¬ (x1 ≤ x3)) ∧ ((d 65 (18 : Int) = 0) ∧ ((¬ (d 65 7 ≤ d 65 17)) ∧ ((¬ ((d 69 (d 65 17)) < 48)) ∧ (¬ (57 < (d 69 (d 65 17)))))))) → (iI (10 * x2)) ∧ ((0 ≤ d 65 17 ∧ d 65 17 < 60) ∧ ((iI ((10 * x2) + (d 69 (d 65 17)))) ∧ ((iI (((10 * x2) + (d 69 (d 65 17))) - 48)) ∧ ((iI ((d 65 17) + 1)) ∧ ((iI (x3 + 1)) ∧ (pX12_digits_1 x1 (((10 * x2) + (d 69 (d 65 17))) - 48) (x3 + 1) g (ud d 65 17 ((d 65 17) + 1)) Q))))))) ∧ ((¬ ((¬ (x1 ≤ x3)) ∧ ((d 65 (18 : Int) = 0) ∧ ((¬ (d 65 7 ≤ d 65 17)) ∧ ((¬ ((d 69 (d 65 17)) < 48)) ∧ (¬ (57 < (d 69 (d 65 17))))))))) → Q (.inl x2) g d))) : pX12_digits_1 x1 x2 x3 g d Q := by
  unfold pX12_digits_1
  refine mw_top (fun hT => ?_)
  have hG : 76 ≤ g.2.1 := hT.2
  refine mw_iload_n (pc' := 28) dX12_digits_27 rfl rfl rfl ?_
  refine mw_iload_n (pc' := 29) dX12_digits_28 rfl rfl rfl ?_
  obtain ⟨o5, h⟩ := h
  suffices k14 : (((¬ (x1 ≤ x3)) ∧ ((d 65 (18 : Int) = 0) ∧ ((¬ (d 65 7 ≤ d 65 17)) ∧ ((¬ ((d 69 (d 65 17)) < 48)) ∧ (¬ (57 < (d 69 (d 65 17)))))))) → MW mX12_digits 0 0 39 [(0, vR 65), (1, vI x1), (2, vI x2), (3, vI x3)] [] g d Q) ∧ ((¬ ((¬ (x1 ≤ x3)) ∧ ((d 65 (18 : Int) = 0) ∧ ((¬ (d 65 7 ≤ d 65 17)) ∧ ((¬ ((d 69 (d 65 17)) < 48)) ∧ (¬ (57 < (d 69 (d 65 17))))))))) → MW mX12_digits 0 0 73 [(0, vR 65), (1, vI x1), (2, vI x2), (3, vI x3)] [] g d Q) by
    refine mw_icmp_ge (tgt := 73) (pc' := 32) dX12_digits_29 rfl (by decide) (fun c15 => ?_) (fun c15 => ?_)
    · exact k14.2 (fun h => (h.1 c15))
    · refine mw_aload_n (v := vR 65) (pc' := 33) dX12_digits_32 rfl rfl (Or.inl rfl) rfl ?_
      refine mw_callV (M' := mX12_isDigit) (A := []) (A' := [vR 65]) (S := []) (a := 65) (pc' := 36) dX12_digits_33 rfl cl_RX12_236 cm_X12_isDigit cv_X12_isDigit ⟨by decide, by decide, by decide, by decide, by decide⟩ rfl rfl rfl ⟨by decide, by omega⟩ (by decide +kernel) (by decide +kernel) (Nat.le_of_ble_eq_true rfl) (eX12_isDigit (⟨(o5 c15), ?_⟩))
      show MW mX12_digits 0 0 36 [(0, vR 65), (1, vI x1), (2, vI x2), (3, vI x3)] [vI (bI ((d 65 (18 : Int) = 0) ∧ ((¬ (d 65 7 ≤ d 65 17)) ∧ ((¬ ((d 69 (d 65 17)) < 48)) ∧ (¬ (57 < (d 69 (d 65 17))))))))] g d Q
      refine mw_if_eq (tgt := 73) (pc' := 39) dX12_digits_36 rfl (by decide) (fun c16 => ?_) (fun c16 => ?_)
      · replace c16 := bI_0.mp c16
        exact k14.2 (fun h => (fun h => (c16 h)) h.2)
      · replace c16 := bI_n0.mp c16
        exact k14.1 ⟨c15, c16⟩
  refine ⟨fun c17 => ?_, fun c17 => ?_⟩
  · replace h := h.1 c17
    refine mw_bipush (pc' := 41) dX12_digits_39 rfl ⟨by decide, by decide⟩ ?_
    refine mw_iload_n (pc' := 42) dX12_digits_41 rfl rfl rfl ?_
    obtain ⟨o18, h⟩ := h
    refine mw_imul (pc' := 43) dX12_digits_42 rfl o18 ?_
    refine mw_aload_n (v := vR 65) (pc' := 44) dX12_digits_43 rfl rfl (Or.inl rfl) rfl ?_
    refine mw_getP (v := 69) (pc' := 47) dX12_digits_44 rfl fr_RX12_19_65 rfl sp_65_6 ⟨by decide, by decide⟩ ?_
    refine mw_aload_n (v := vR 65) (pc' := 48) dX12_digits_47 rfl rfl (Or.inl rfl) rfl ?_
    refine mw_getI (ji := 17) (pc' := 51) dX12_digits_48 rfl fi_RX12_224_65 rfl ⟨by decide, by decide⟩ ?_
    obtain ⟨o19, h⟩ := h
    refine mw_iald (pc' := 52) dX12_digits_51 rfl lk_69 ⟨by decide, by decide⟩ (by rw [ln_69]; exact o19) ?_
    obtain ⟨o20, h⟩ := h
    refine mw_iadd (pc' := 53) dX12_digits_52 rfl o20 ?_
    refine mw_bipush (pc' := 55) dX12_digits_53 rfl ⟨by decide, by decide⟩ ?_
    obtain ⟨o21, h⟩ := h
    refine mw_isub (pc' := 56) dX12_digits_55 rfl o21 ?_
    refine mw_istore_n (pc' := 57) (L' := [(0, vR 65), (1, vI x1), (2, vI (((10 * x2) + (d 69 (d 65 17))) - 48)), (3, vI x3)]) dX12_digits_56 rfl rfl (by decide) rfl ?_
    refine mw_aload_n (v := vR 65) (pc' := 58) dX12_digits_57 rfl rfl (Or.inl rfl) rfl ?_
    refine mw_dup (pc' := 59) dX12_digits_58 rfl rfl ?_
    refine mw_getI (ji := 17) (pc' := 62) dX12_digits_59 rfl fi_RX12_224_65 rfl ⟨by decide, by decide⟩ ?_
    refine mw_iconst (pc' := 63) dX12_digits_62 rfl ⟨by decide, by decide⟩ ?_
    obtain ⟨o22, h⟩ := h
    refine mw_iadd (pc' := 64) dX12_digits_63 rfl o22 ?_
    refine mw_putI (ji := 17) (pc' := 67) dX12_digits_64 rfl (fq_RX12_224_65) (by decide +kernel) rfl (Or.inl ⟨rfl, rc_65_17⟩) (Or.inr rfl) ⟨by decide, by omega⟩ ?_
    obtain ⟨o23, h⟩ := h
    refine mw_iinc (pc' := 70) (L' := [(0, vR 65), (1, vI x1), (2, vI (((10 * x2) + (d 69 (d 65 17))) - 48)), (3, vI (x3 + 1))]) dX12_digits_67 rfl rfl (by decide) o23 rfl ?_
    refine mw_goto (pc' := 0) (tgt := 27) dX12_digits_70 (by decide) ?_
    exact h
  · replace h := h.2 c17
    refine mw_iload_n (pc' := 74) dX12_digits_73 rfl rfl rfl ?_
    exact mw_iret (pc' := 0) (S := []) dX12_digits_74 rfl (Or.inl rfl) h
theorem eX12_argument {x1 : Int} {g : mG} {d : mD} {Q : mQ} (h : MM mX12_take [vR 65, vI 32] g d (fun o g3 d4 => match o with | .inl v2 => MM mX12_digits [vR 65, vI x1] g3 d4 (fun o g7 d8 => match o with | .inl v6 => Q (.inl v6) g7 d8 | .inr k => Q (.inr k) g7 d8) | .inr k => Q (.inr k) g3 d4)) : MM mX12_argument [vR 65, vI x1] g d Q := by
  refine MM_of (by decide) rfl (by simp [catV]) (Nat.le_of_ble_eq_true rfl) ?_
  show MW mX12_argument 0 0 0 [(0, vR 65), (1, vI x1)] [] g d Q
  refine mw_top (fun hT => ?_)
  have hG : 76 ≤ g.2.1 := hT.2
  refine mw_aload_n (v := vR 65) (pc' := 1) dX12_argument_0 rfl rfl (Or.inl rfl) rfl ?_
  refine mw_bipush (pc' := 3) dX12_argument_1 rfl ⟨by decide, by decide⟩ ?_
  refine mw_callV (M' := mX12_take) (A := [vI 32]) (A' := [vR 65, vI 32]) (S := []) (a := 65) (pc' := 6) dX12_argument_3 rfl cl_RX12_230 cm_X12_take cv_X12_take ⟨by decide, by decide, by decide, by decide, by decide⟩ rfl rfl rfl ⟨by decide, by omega⟩ (by decide +kernel) (by decide +kernel) (Nat.le_of_ble_eq_true rfl) (MM.mono ?_ h)
  intro o g3 d4 h1
  rcases o with v2 | k
  · refine mw_top (fun hT => ?_)
    have hG : 76 ≤ g3.2.1 := hT.2
    show MW mX12_argument 0 0 6 [(0, vR 65), (1, vI x1)] [] g3 d4 Q
    refine mw_aload_n (v := vR 65) (pc' := 7) dX12_argument_6 rfl rfl (Or.inl rfl) rfl ?_
    refine mw_iload_n (pc' := 8) dX12_argument_7 rfl rfl rfl ?_
    refine mw_callV (M' := mX12_digits) (A := [vI x1]) (A' := [vR 65, vI x1]) (S := []) (a := 65) (pc' := 11) dX12_argument_8 rfl cl_RX12_239 cm_X12_digits cv_X12_digits ⟨by decide, by decide, by decide, by decide, by decide⟩ rfl rfl rfl ⟨by decide, by omega⟩ (by decide +kernel) (by decide +kernel) (Nat.le_of_ble_eq_true rfl) (MM.mono ?_ h1)
    intro o g7 d8 h5
    rcases o with v6 | k
    · refine mw_top (fun hT => ?_)
      have hG : 76 ≤ g7.2.1 := hT.2
      show MW mX12_argument 0 0 11 [(0, vR 65), (1, vI x1)] [vI v6] g7 d8 Q
      exact mw_iret (pc' := 0) (S := []) dX12_argument_11 rfl (Or.inl rfl) h5
    · exact mx_out rfl h5
  · exact mx_out rfl h1
theorem eX6_wordOf {x0 : Int} {g : mG} {d : mD} {Q : mQ} (h : ((x0 = 0) → Q (.inl 0) g d) ∧ ((¬ (x0 = 0)) → ((x0 = 1) → Q (.inl 1) g d) ∧ ((¬ (x0 = 1)) → ((x0 = 2) → Q (.inl 2) g d) ∧ ((¬ (x0 = 2)) → ((x0 = 3) → Q (.inl 3) g d) ∧ ((¬ (x0 = 3)) → ((x0 = 4) → Q (.inl 4) g d) ∧ ((¬ (x0 = 4)) → ((x0 = 5) → Q (.inl 5) g d) ∧ ((¬ (x0 = 5)) → Q (.inl 6) g d))))))) : MM mX6_wordOf [vI x0] g d Q := by
  refine MM_of (by decide) rfl (by simp [catV]) (Nat.le_of_ble_eq_true rfl) ?_
  show MW mX6_wordOf 0 0 0 [(0, vI x0)] [] g d Q
  refine mw_top (fun hT => ?_)
  have hG : 76 ≤ g.2.1 := hT.2
  refine mw_iload_n (pc' := 1) dX6_wordOf_0 rfl rfl rfl ?_
  by_cases c1 : x0 = 0
  · replace h := h.1 c1
    refine mw_tabIn (pc' := 0) (off := 39) (tgt := 40) dX6_wordOf_1 (by omega) (by rw [c1]; rfl) (by decide) ?_
    refine mw_ldcS (i := 0) (pc' := 42) dX6_wordOf_40 rfl rfl ⟨rfl, by decide⟩ ?_
    exact mw_aret (pc' := 0) (S := []) (tg := 6) dX6_wordOf_42 rfl rfl (Or.inr rfl) h
  · replace h := h.2 c1
    by_cases c2 : x0 = 1
    · replace h := h.1 c2
      refine mw_tabIn (pc' := 0) (off := 42) (tgt := 43) dX6_wordOf_1 (by omega) (by rw [c2]; rfl) (by decide) ?_
      refine mw_ldcS (i := 1) (pc' := 45) dX6_wordOf_43 rfl rfl ⟨rfl, by decide⟩ ?_
      exact mw_aret (pc' := 0) (S := []) (tg := 6) dX6_wordOf_45 rfl rfl (Or.inr rfl) h
    · replace h := h.2 c2
      by_cases c3 : x0 = 2
      · replace h := h.1 c3
        refine mw_tabIn (pc' := 0) (off := 45) (tgt := 46) dX6_wordOf_1 (by omega) (by rw [c3]; rfl) (by decide) ?_
        refine mw_ldcS (i := 2) (pc' := 48) dX6_wordOf_46 rfl rfl ⟨rfl, by decide⟩ ?_
        exact mw_aret (pc' := 0) (S := []) (tg := 6) dX6_wordOf_48 rfl rfl (Or.inr rfl) h
      · replace h := h.2 c3
        by_cases c4 : x0 = 3
        · replace h := h.1 c4
          refine mw_tabIn (pc' := 0) (off := 48) (tgt := 49) dX6_wordOf_1 (by omega) (by rw [c4]; rfl) (by decide) ?_
          refine mw_ldcS (i := 3) (pc' := 51) dX6_wordOf_49 rfl rfl ⟨rfl, by decide⟩ ?_
          exact mw_aret (pc' := 0) (S := []) (tg := 6) dX6_wordOf_51 rfl rfl (Or.inr rfl) h
        · replace h := h.2 c4
          by_cases c5 : x0 = 4
          · replace h := h.1 c5
            refine mw_tabIn (pc' := 0) (off := 51) (tgt := 52) dX6_wordOf_1 (by omega) (by rw [c5]; rfl) (by decide) ?_
            refine mw_ldcS (i := 4) (pc' := 54) dX6_wordOf_52 rfl rfl ⟨rfl, by decide⟩ ?_
            exact mw_aret (pc' := 0) (S := []) (tg := 6) dX6_wordOf_54 rfl rfl (Or.inr rfl) h
          · replace h := h.2 c5
            by_cases c6 : x0 = 5
            · replace h := h.1 c6
              refine mw_tabIn (pc' := 0) (off := 54) (tgt := 55) dX6_wordOf_1 (by omega) (by rw [c6]; rfl) (by decide) ?_
              refine mw_ldcS (i := 5) (pc' := 57) dX6_wordOf_55 rfl rfl ⟨rfl, by decide⟩ ?_
              exact mw_aret (pc' := 0) (S := []) (tg := 6) dX6_wordOf_57 rfl rfl (Or.inr rfl) h
            · replace h := h.2 c6
              refine mw_tabOut (pc' := 0) (tgt := 58) dX6_wordOf_1 (by omega) (by decide) ?_
              refine mw_ldcS (i := 6) (pc' := 60) dX6_wordOf_58 rfl rfl ⟨rfl, by decide⟩ ?_
              exact mw_aret (pc' := 0) (S := []) (tg := 6) dX6_wordOf_60 rfl rfl (Or.inr rfl) h
theorem eX6_readSign {x2 : Int} {g : mG} {d : mD} {Q : mQ} (h : ((¬ ((d 60 5) < 0)) → (¬ (d 1 1 ≤ (d 60 5))) → 0 ≤ (d 60 5) ∧ (d 60 5) < 60) ∧ ((0 ≤ iT ((d 60 5) < 0) 0 (iT (d 1 1 ≤ (d 60 5)) 0 (d 2 (d 60 5))) ∧ iT ((d 60 5) < 0) 0 (iT (d 1 1 ≤ (d 60 5)) 0 (d 2 (d 60 5))) ≤ 65535) ∧ (((iT ((d 60 5) < 0) 0 (iT (d 1 1 ≤ (d 60 5)) 0 (d 2 (d 60 5))) = x2) → (iI ((d 60 5) + 1)) ∧ (Q (.inl 1) g (ud d 60 5 ((d 60 5) + 1)))) ∧ ((¬ (iT ((d 60 5) < 0) 0 (iT (d 1 1 ≤ (d 60 5)) 0 (d 2 (d 60 5))) = x2)) → Q (.inl 0) g d)))) : MM mX6_readSign [vR 60, vR 1, vI x2] g d Q := by
  refine MM_of (by decide) rfl (by simp [catV]) (Nat.le_of_ble_eq_true rfl) ?_
  show MW mX6_readSign 0 0 0 [(0, vR 60), (1, vR 1), (2, vI x2)] [] g d Q
  refine mw_top (fun hT => ?_)
  have hG : 76 ≤ g.2.1 := hT.2
  refine mw_aload_n (v := vR 1) (pc' := 1) dX6_readSign_0 rfl rfl (Or.inl rfl) rfl ?_
  refine mw_aload_n (v := vR 60) (pc' := 2) dX6_readSign_1 rfl rfl (Or.inl rfl) rfl ?_
  refine mw_getI (ji := 5) (pc' := 5) dX6_readSign_2 rfl fi_RX6_29_60 rfl ⟨by decide, by decide⟩ ?_
  obtain ⟨o1, h⟩ := h
  obtain ⟨o2, h⟩ := h
  refine mw_callV (M' := mX9_signAt) (A := [vI (d 60 5)]) (A' := [vR 1, vI (d 60 5)]) (S := []) (a := 1) (pc' := 8) dX6_readSign_5 rfl cl_RX6_86 cm_X9_signAt cv_X9_signAt ⟨by decide, by decide, by decide, by decide, by decide⟩ rfl rfl rfl ⟨by decide, by omega⟩ (by decide +kernel) (by decide +kernel) (Nat.le_of_ble_eq_true rfl) (eX9_signAt_b (⟨o1, o2, ?_⟩))
  show MW mX6_readSign 0 0 8 [(0, vR 60), (1, vR 1), (2, vI x2)] [vI (iT ((d 60 5) < 0) 0 (iT (d 1 1 ≤ (d 60 5)) 0 (d 2 (d 60 5))))] g d Q
  refine mw_iload_n (pc' := 9) dX6_readSign_8 rfl rfl rfl ?_
  refine mw_icmp_eq (tgt := 14) (pc' := 12) dX6_readSign_9 rfl (by decide) (fun c5 => ?_) (fun c5 => ?_)
  · replace h := h.1 c5
    refine mw_aload_n (v := vR 60) (pc' := 15) dX6_readSign_14 rfl rfl (Or.inl rfl) rfl ?_
    refine mw_dup (pc' := 16) dX6_readSign_15 rfl rfl ?_
    refine mw_getI (ji := 5) (pc' := 19) dX6_readSign_16 rfl fi_RX6_29_60 rfl ⟨by decide, by decide⟩ ?_
    refine mw_iconst (pc' := 20) dX6_readSign_19 rfl ⟨by decide, by decide⟩ ?_
    obtain ⟨o6, h⟩ := h
    refine mw_iadd (pc' := 21) dX6_readSign_20 rfl o6 ?_
    refine mw_putI (ji := 5) (pc' := 24) dX6_readSign_21 rfl (fq_RX6_29_60) (by decide +kernel) rfl (Or.inl ⟨rfl, rc_60_5⟩) (Or.inr rfl) ⟨by decide, by omega⟩ ?_
    refine mw_iconst (pc' := 25) dX6_readSign_24 rfl ⟨by decide, by decide⟩ ?_
    exact mw_iret (pc' := 0) (S := []) dX6_readSign_25 rfl (Or.inr (Or.inl ⟨rfl, by decide, by decide⟩)) h
  · replace h := h.2 c5
    refine mw_iconst (pc' := 13) dX6_readSign_12 rfl ⟨by decide, by decide⟩ ?_
    exact mw_iret (pc' := 0) (S := []) dX6_readSign_13 rfl (Or.inr (Or.inl ⟨rfl, by decide, by decide⟩)) h
def pX6_readNumber_1 (x2 x3 x4 : Int) (g : mG) (d : mD) (Q : mQ) : Prop := MW mX6_readNumber 0 0 5 [(0, vR 60), (1, vR 1), (2, vI x2), (3, vI x3), (4, vI x4)] [] g d Q
theorem eX6_readNumber {x2 : Int} {g : mG} {d : mD} {Q : mQ} (h : pX6_readNumber_1 x2 (-1) 0 g d Q) : MM mX6_readNumber [vR 60, vR 1, vI x2] g d Q := by
  refine MM_of (by decide) rfl (by simp [catV]) (Nat.le_of_ble_eq_true rfl) ?_
  show MW mX6_readNumber 0 0 0 [(0, vR 60), (1, vR 1), (2, vI x2)] [] g d Q
  refine mw_top (fun hT => ?_)
  have hG : 76 ≤ g.2.1 := hT.2
  refine mw_iconst (pc' := 1) dX6_readNumber_0 rfl ⟨by decide, by decide⟩ ?_
  refine mw_istore_n (pc' := 2) (L' := [(0, vR 60), (1, vR 1), (2, vI x2), (3, vI (-1))]) dX6_readNumber_1 rfl rfl (by decide) rfl ?_
  refine mw_iconst (pc' := 3) dX6_readNumber_2 rfl ⟨by decide, by decide⟩ ?_
  refine mw_istore (pc' := 5) (L' := [(0, vR 60), (1, vR 1), (2, vI x2), (3, vI (-1)), (4, vI 0)]) dX6_readNumber_3 rfl (by decide) rfl ?_
  exact h
theorem aX6_readNumber_1 {x2 x3 x4 : Int} {g : mG} {d : mD} {Q : mQ} (h : ((x2 ≤ x4) → Q (.inl x3) g d) ∧ ((¬ (x2 ≤ x4)) → ((¬ ((d 60 5) < 0)) → (¬ (d 1 1 ≤ (d 60 5))) → 0 ≤ (d 60 5) ∧ (d 60 5) < 60) ∧ ((0 ≤ iT ((d 60 5) < 0) 0 (iT (d 1 1 ≤ (d 60 5)) 0 (d 2 (d 60 5))) ∧ iT ((d 60 5) < 0) 0 (iT (d 1 1 ≤ (d 60 5)) 0 (d 2 (d 60 5))) ≤ 65535) ∧ (((iT ((d 60 5) < 0) 0 (iT (d 1 1 ≤ (d 60 5)) 0 (d 2 (d 60 5))) < 48) → Q (.inl x3) g d) ∧ ((¬ (iT ((d 60 5) < 0) 0 (iT (d 1 1 ≤ (d 60 5)) 0 (d 2 (d 60 5))) < 48)) → ((iT ((d 60 5) < 0) 0 (iT (d 1 1 ≤ (d 60 5)) 0 (d 2 (d 60 5))) ≤ 57) → ((¬ (x4 = 0)) → iI (x3 * 10)) ∧ ((iI ((iT ((d 60 5) < 0) 0 (iT (d 1 1 ≤ (d 60 5)) 0 (d 2 (d 60 5)))) - 48)) ∧ ((iI ((iT (x4 = 0) 0 (x3 * 10)) + ((iT ((d 60 5) < 0) 0 (iT (d 1 1 ≤ (d 60 5)) 0 (d 2 (d 60 5)))) - 48))) ∧ ((iI ((d 60 5) + 1)) ∧ ((iI (x4 + 1)) ∧ (pX6_readNumber_1 x2 ((iT (x4 = 0) 0 (x3 * 10)) + ((iT ((d 60 5) < 0) 0 (iT (d 1 1 ≤ (d 60 5)) 0 (d 2 (d 60 5)))) - 48)) (x4 + 1) g (ud d 60 5 ((d 60 5) + 1)) Q)))))) ∧ ((¬ (iT ((d 60 5) < 0) 0 (iT (d 1 1 ≤ (d 60 5)) 0 (d 2 (d 60 5))) ≤ 57)) → Q (.inl x3) g d)))))) : pX6_readNumber_1 x2 x3 x4 g d Q := by
  unfold pX6_readNumber_1
  refine mw_top (fun hT => ?_)
  have hG : 76 ≤ g.2.1 := hT.2
  refine mw_iload (pc' := 7) dX6_readNumber_5 rfl rfl ?_
  refine mw_iload_n (pc' := 8) dX6_readNumber_7 rfl rfl rfl ?_
  refine mw_icmp_ge (tgt := 73) (pc' := 11) dX6_readNumber_8 rfl (by decide) (fun c5 => ?_) (fun c5 => ?_)
  · replace h := h.1 c5
    refine mw_iload_n (pc' := 74) dX6_readNumber_73 rfl rfl rfl ?_
    exact mw_iret (pc' := 0) (S := []) dX6_readNumber_74 rfl (Or.inl rfl) h
  · replace h := h.2 c5
    refine mw_aload_n (v := vR 1) (pc' := 12) dX6_readNumber_11 rfl rfl (Or.inl rfl) rfl ?_
    refine mw_aload_n (v := vR 60) (pc' := 13) dX6_readNumber_12 rfl rfl (Or.inl rfl) rfl ?_
    refine mw_getI (ji := 5) (pc' := 16) dX6_readNumber_13 rfl fi_RX6_29_60 rfl ⟨by decide, by decide⟩ ?_
    obtain ⟨o6, h⟩ := h
    obtain ⟨o7, h⟩ := h
    refine mw_callV (M' := mX9_signAt) (A := [vI (d 60 5)]) (A' := [vR 1, vI (d 60 5)]) (S := []) (a := 1) (pc' := 19) dX6_readNumber_16 rfl cl_RX6_86 cm_X9_signAt cv_X9_signAt ⟨by decide, by decide, by decide, by decide, by decide⟩ rfl rfl rfl ⟨by decide, by omega⟩ (by decide +kernel) (by decide +kernel) (Nat.le_of_ble_eq_true rfl) (eX9_signAt_b (⟨o6, o7, ?_⟩))
    show MW mX6_readNumber 0 0 19 [(0, vR 60), (1, vR 1), (2, vI x2), (3, vI x3), (4, vI x4)] [vI (iT ((d 60 5) < 0) 0 (iT (d 1 1 ≤ (d 60 5)) 0 (d 2 (d 60 5))))] g d Q
    refine mw_istore (pc' := 21) (L' := [(0, vR 60), (1, vR 1), (2, vI x2), (3, vI x3), (4, vI x4), (5, vI (iT ((d 60 5) < 0) 0 (iT (d 1 1 ≤ (d 60 5)) 0 (d 2 (d 60 5)))))]) dX6_readNumber_19 rfl (by decide) rfl ?_
    refine mw_iload (pc' := 23) dX6_readNumber_21 rfl rfl ?_
    refine mw_bipush (pc' := 25) dX6_readNumber_23 rfl ⟨by decide, by decide⟩ ?_
    refine mw_icmp_lt (tgt := 35) (pc' := 28) dX6_readNumber_25 rfl (by decide) (fun c11 => ?_) (fun c11 => ?_)
    · replace h := h.1 c11
      refine mw_iload_n (pc' := 36) dX6_readNumber_35 rfl rfl rfl ?_
      exact mw_iret (pc' := 0) (S := []) dX6_readNumber_36 rfl (Or.inl rfl) h
    · replace h := h.2 c11
      refine mw_iload (pc' := 30) dX6_readNumber_28 rfl rfl ?_
      refine mw_bipush (pc' := 32) dX6_readNumber_30 rfl ⟨by decide, by decide⟩ ?_
      refine mw_icmp_le (tgt := 37) (pc' := 35) dX6_readNumber_32 rfl (by decide) (fun c15 => ?_) (fun c15 => ?_)
      · replace h := h.1 c15
        refine mw_iload (pc' := 39) dX6_readNumber_37 rfl rfl ?_
        obtain ⟨o16, h⟩ := h
        suffices k17 : MW mX6_readNumber 0 0 50 [(0, vR 60), (1, vR 1), (2, vI x2), (3, vI x3), (4, vI x4), (5, vI (iT ((d 60 5) < 0) 0 (iT (d 1 1 ≤ (d 60 5)) 0 (d 2 (d 60 5)))))] [vI (iT (x4 = 0) 0 (x3 * 10))] g d Q by
          refine mw_if_ne (tgt := 46) (pc' := 42) dX6_readNumber_39 rfl (by decide) (fun c18 => ?_) (fun c18 => ?_)
          · refine mw_iload_n (pc' := 47) dX6_readNumber_46 rfl rfl rfl ?_
            refine mw_bipush (pc' := 49) dX6_readNumber_47 rfl ⟨by decide, by decide⟩ ?_
            refine mw_imul (pc' := 50) dX6_readNumber_49 rfl (o16 c18) ?_
            exact mw_st (((iT_f c18).trans rfl)).symm k17
          · refine mw_iconst (pc' := 43) dX6_readNumber_42 rfl ⟨by decide, by decide⟩ ?_
            refine mw_goto (pc' := 0) (tgt := 50) dX6_readNumber_43 (by decide) ?_
            exact mw_st (((iT_t c18).trans rfl)).symm k17
        refine mw_iload (pc' := 52) dX6_readNumber_50 rfl rfl ?_
        refine mw_bipush (pc' := 54) dX6_readNumber_52 rfl ⟨by decide, by decide⟩ ?_
        obtain ⟨o19, h⟩ := h
        refine mw_isub (pc' := 55) dX6_readNumber_54 rfl o19 ?_
        obtain ⟨o20, h⟩ := h
        refine mw_iadd (pc' := 56) dX6_readNumber_55 rfl o20 ?_
        refine mw_istore_n (pc' := 57) (L' := [(0, vR 60), (1, vR 1), (2, vI x2), (3, vI ((iT (x4 = 0) 0 (x3 * 10)) + ((iT ((d 60 5) < 0) 0 (iT (d 1 1 ≤ (d 60 5)) 0 (d 2 (d 60 5)))) - 48))), (4, vI x4), (5, vI (iT ((d 60 5) < 0) 0 (iT (d 1 1 ≤ (d 60 5)) 0 (d 2 (d 60 5)))))]) dX6_readNumber_56 rfl rfl (by decide) rfl ?_
        refine mw_aload_n (v := vR 60) (pc' := 58) dX6_readNumber_57 rfl rfl (Or.inl rfl) rfl ?_
        refine mw_dup (pc' := 59) dX6_readNumber_58 rfl rfl ?_
        refine mw_getI (ji := 5) (pc' := 62) dX6_readNumber_59 rfl fi_RX6_29_60 rfl ⟨by decide, by decide⟩ ?_
        refine mw_iconst (pc' := 63) dX6_readNumber_62 rfl ⟨by decide, by decide⟩ ?_
        obtain ⟨o21, h⟩ := h
        refine mw_iadd (pc' := 64) dX6_readNumber_63 rfl o21 ?_
        refine mw_putI (ji := 5) (pc' := 67) dX6_readNumber_64 rfl (fq_RX6_29_60) (by decide +kernel) rfl (Or.inl ⟨rfl, rc_60_5⟩) (Or.inr rfl) ⟨by decide, by omega⟩ ?_
        obtain ⟨o22, h⟩ := h
        refine mw_iinc (pc' := 70) (L' := [(0, vR 60), (1, vR 1), (2, vI x2), (3, vI ((iT (x4 = 0) 0 (x3 * 10)) + ((iT ((d 60 5) < 0) 0 (iT (d 1 1 ≤ (d 60 5)) 0 (d 2 (d 60 5)))) - 48))), (4, vI (x4 + 1)), (5, vI (iT ((d 60 5) < 0) 0 (iT (d 1 1 ≤ (d 60 5)) 0 (d 2 (d 60 5)))))]) dX6_readNumber_67 rfl rfl (by decide) o22 rfl ?_
        refine mw_goto (pc' := 0) (tgt := 5) dX6_readNumber_70 (by decide) ?_
        exact mw_loc (pc' := 0) [0, 1, 2, 3, 4] rfl h
      · replace h := h.2 c15
        refine mw_iload_n (pc' := 36) dX6_readNumber_35 rfl rfl rfl ?_
        exact mw_iret (pc' := 0) (S := []) dX6_readNumber_36 rfl (Or.inl rfl) h
theorem eX6_readWay {g : mG} {d : mD} {Q : mQ} (h : ((¬ ((d 60 5) < 0)) → (¬ (d 1 1 ≤ (d 60 5))) → 0 ≤ (d 60 5) ∧ (d 60 5) < 60) ∧ ((0 ≤ iT ((d 60 5) < 0) 0 (iT (d 1 1 ≤ (d 60 5)) 0 (d 2 (d 60 5))) ∧ iT ((d 60 5) < 0) 0 (iT (d 1 1 ≤ (d 60 5)) 0 (d 2 (d 60 5))) ≤ 65535) ∧ (MM mX7_placeOfWay [vI (iT ((d 60 5) < 0) 0 (iT (d 1 1 ≤ (d 60 5)) 0 (d 2 (d 60 5))))] g d (fun o g5 d6 => match o with | .inl v4 => ((v4 = (-1)) → Q (.inl 0) g5 d6) ∧ ((¬ (v4 = (-1))) → (0 ≤ d6 60 4 ∧ d6 60 4 < 16) ∧ ((iI ((d6 60 5) + 1)) ∧ (Q (.inl 1) g5 (ud (ud d6 64 (d6 60 4) (iT ((d 60 5) < 0) 0 (iT (d 1 1 ≤ (d 60 5)) 0 (d 2 (d 60 5))))) 60 5 ((d6 60 5) + 1))))) | .inr k => Q (.inr k) g5 d6)))) : MM mX6_readWay [vR 60, vR 1] g d Q := by
  refine MM_of (by decide) rfl (by simp [catV]) (Nat.le_of_ble_eq_true rfl) ?_
  show MW mX6_readWay 0 0 0 [(0, vR 60), (1, vR 1)] [] g d Q
  refine mw_top (fun hT => ?_)
  have hG : 76 ≤ g.2.1 := hT.2
  refine mw_aload_n (v := vR 1) (pc' := 1) dX6_readWay_0 rfl rfl (Or.inl rfl) rfl ?_
  refine mw_aload_n (v := vR 60) (pc' := 2) dX6_readWay_1 rfl rfl (Or.inl rfl) rfl ?_
  refine mw_getI (ji := 5) (pc' := 5) dX6_readWay_2 rfl fi_RX6_29_60 rfl ⟨by decide, by decide⟩ ?_
  obtain ⟨o1, h⟩ := h
  obtain ⟨o2, h⟩ := h
  refine mw_callV (M' := mX9_signAt) (A := [vI (d 60 5)]) (A' := [vR 1, vI (d 60 5)]) (S := []) (a := 1) (pc' := 8) dX6_readWay_5 rfl cl_RX6_86 cm_X9_signAt cv_X9_signAt ⟨by decide, by decide, by decide, by decide, by decide⟩ rfl rfl rfl ⟨by decide, by omega⟩ (by decide +kernel) (by decide +kernel) (Nat.le_of_ble_eq_true rfl) (eX9_signAt_b (⟨o1, o2, ?_⟩))
  show MW mX6_readWay 0 0 8 [(0, vR 60), (1, vR 1)] [vI (iT ((d 60 5) < 0) 0 (iT (d 1 1 ≤ (d 60 5)) 0 (d 2 (d 60 5))))] g d Q
  refine mw_istore_n (pc' := 9) (L' := [(0, vR 60), (1, vR 1), (2, vI (iT ((d 60 5) < 0) 0 (iT (d 1 1 ≤ (d 60 5)) 0 (d 2 (d 60 5)))))]) dX6_readWay_8 rfl rfl (by decide) rfl ?_
  refine mw_iload_n (pc' := 10) dX6_readWay_9 rfl rfl rfl ?_
  refine mw_callS (M' := mX7_placeOfWay) (A := [vI (iT ((d 60 5) < 0) 0 (iT (d 1 1 ≤ (d 60 5)) 0 (d 2 (d 60 5))))]) (S := []) (pc' := 13) dX6_readWay_10 rfl cl_RX6_112 cm_X7_placeOfWay cs_X7_placeOfWay ⟨by decide, by decide, by decide, by decide, by decide⟩ rfl rfl (Nat.le_of_ble_eq_true rfl) (MM.mono ?_ h)
  intro o g5 d6 h3
  rcases o with v4 | k
  · refine mw_top (fun hT => ?_)
    have hG : 76 ≤ g5.2.1 := hT.2
    show MW mX6_readWay 0 0 13 [(0, vR 60), (1, vR 1), (2, vI (iT ((d 60 5) < 0) 0 (iT (d 1 1 ≤ (d 60 5)) 0 (d 2 (d 60 5)))))] [vI v4] g5 d6 Q
    refine mw_iconst (pc' := 14) dX6_readWay_13 rfl ⟨by decide, by decide⟩ ?_
    refine mw_icmp_ne (tgt := 19) (pc' := 17) dX6_readWay_14 rfl (by decide) (fun c7 => ?_) (fun c7 => ?_)
    · replace h3 := h3.2 c7
      refine mw_aload_n (v := vR 60) (pc' := 20) dX6_readWay_19 rfl rfl (Or.inl rfl) rfl ?_
      refine mw_getP (v := 64) (pc' := 23) dX6_readWay_20 rfl fr_RX6_21_60 rfl sp_60_3 ⟨by decide, by decide⟩ ?_
      refine mw_aload_n (v := vR 60) (pc' := 24) dX6_readWay_23 rfl rfl (Or.inl rfl) rfl ?_
      refine mw_getI (ji := 4) (pc' := 27) dX6_readWay_24 rfl fi_RX6_25_60 rfl ⟨by decide, by decide⟩ ?_
      refine mw_iload_n (pc' := 28) dX6_readWay_27 rfl rfl rfl ?_
      obtain ⟨o8, h3⟩ := h3
      refine mw_cast (pc' := 29) dX6_readWay_28 rfl lk_64 ⟨by decide, by decide⟩ (by rw [ln_64]; exact o8) o2 ?_
      refine mw_aload_n (v := vR 60) (pc' := 30) dX6_readWay_29 rfl rfl (Or.inl rfl) rfl ?_
      refine mw_dup (pc' := 31) dX6_readWay_30 rfl rfl ?_
      refine mw_getI (ji := 5) (pc' := 34) dX6_readWay_31 rfl fi_RX6_29_60 rfl ⟨by decide, by decide⟩ ?_
      refine mw_st (b := d6 60 5) (udA (by decide) (rfl)) ?_
      refine mw_iconst (pc' := 35) dX6_readWay_34 rfl ⟨by decide, by decide⟩ ?_
      obtain ⟨o10, h3⟩ := h3
      refine mw_iadd (pc' := 36) dX6_readWay_35 rfl o10 ?_
      refine mw_putI (ji := 5) (pc' := 39) dX6_readWay_36 rfl (fq_RX6_29_60) (by decide +kernel) rfl (Or.inl ⟨rfl, rc_60_5⟩) (Or.inr rfl) ⟨by decide, by omega⟩ ?_
      refine mw_iconst (pc' := 40) dX6_readWay_39 rfl ⟨by decide, by decide⟩ ?_
      exact mw_iret (pc' := 0) (S := []) dX6_readWay_40 rfl (Or.inr (Or.inl ⟨rfl, by decide, by decide⟩)) h3
    · replace h3 := h3.1 c7
      refine mw_iconst (pc' := 18) dX6_readWay_17 rfl ⟨by decide, by decide⟩ ?_
      exact mw_iret (pc' := 0) (S := []) dX6_readWay_18 rfl (Or.inr (Or.inl ⟨rfl, by decide, by decide⟩)) h3
  · exact mx_out rfl h3
theorem eX6_readFirst {x2 : Int} {g : mG} {d : mD} {Q : mQ} (h : MM mX6_readNumber [vR 60, vR 1, vI x2] g d (fun o g3 d4 => match o with | .inl v2 => (0 ≤ d 60 4 ∧ d 60 4 < 16) ∧ ((0 ≤ d4 60 4 ∧ d4 60 4 < 16) ∧ (Q (.inl (bI (¬ ((ud d4 62 (d 60 4) v2) 62 (d4 60 4) = (-1))))) g3 (ud d4 62 (d 60 4) v2))) | .inr k => Q (.inr k) g3 d4)) : MM mX6_readFirst [vR 60, vR 1, vI x2] g d Q := by
  refine MM_of (by decide) rfl (by simp [catV]) (Nat.le_of_ble_eq_true rfl) ?_
  show MW mX6_readFirst 0 0 0 [(0, vR 60), (1, vR 1), (2, vI x2)] [] g d Q
  refine mw_top (fun hT => ?_)
  have hG : 76 ≤ g.2.1 := hT.2
  refine mw_aload_n (v := vR 60) (pc' := 1) dX6_readFirst_0 rfl rfl (Or.inl rfl) rfl ?_
  refine mw_getP (v := 62) (pc' := 4) dX6_readFirst_1 rfl fr_RX6_15_60 rfl sp_60_1 ⟨by decide, by decide⟩ ?_
  refine mw_aload_n (v := vR 60) (pc' := 5) dX6_readFirst_4 rfl rfl (Or.inl rfl) rfl ?_
  refine mw_getI (ji := 4) (pc' := 8) dX6_readFirst_5 rfl fi_RX6_25_60 rfl ⟨by decide, by decide⟩ ?_
  refine mw_aload_n (v := vR 60) (pc' := 9) dX6_readFirst_8 rfl rfl (Or.inl rfl) rfl ?_
  refine mw_aload_n (v := vR 1) (pc' := 10) dX6_readFirst_9 rfl rfl (Or.inl rfl) rfl ?_
  refine mw_iload_n (pc' := 11) dX6_readFirst_10 rfl rfl rfl ?_
  refine mw_callV (M' := mX6_readNumber) (A := [vR 1, vI x2]) (A' := [vR 60, vR 1, vI x2]) (S := [vI (d 60 4), vR 62]) (a := 60) (pc' := 14) dX6_readFirst_11 rfl cl_RX6_108 cm_X6_readNumber cv_X6_readNumber ⟨by decide, by decide, by decide, by decide, by decide⟩ rfl rfl rfl ⟨by decide, by omega⟩ (by decide +kernel) (by decide +kernel) (Nat.le_of_ble_eq_true rfl) (MM.mono ?_ h)
  intro o g3 d4 h1
  rcases o with v2 | k
  · refine mw_top (fun hT => ?_)
    have hG : 76 ≤ g3.2.1 := hT.2
    show MW mX6_readFirst 0 0 14 [(0, vR 60), (1, vR 1), (2, vI x2)] [vI v2, vI (d 60 4), vR 62] g3 d4 Q
    obtain ⟨o5, h1⟩ := h1
    refine mw_iast (pc' := 15) dX6_readFirst_14 rfl lk_62 ⟨by decide, by decide⟩ (by rw [ln_62]; exact o5) ?_
    refine mw_aload_n (v := vR 60) (pc' := 16) dX6_readFirst_15 rfl rfl (Or.inl rfl) rfl ?_
    refine mw_getP (v := 62) (pc' := 19) dX6_readFirst_16 rfl fr_RX6_15_60 rfl sp_60_1 ⟨by decide, by decide⟩ ?_
    refine mw_aload_n (v := vR 60) (pc' := 20) dX6_readFirst_19 rfl rfl (Or.inl rfl) rfl ?_
    refine mw_getI (ji := 4) (pc' := 23) dX6_readFirst_20 rfl fi_RX6_25_60 rfl ⟨by decide, by decide⟩ ?_
    refine mw_st (b := d4 60 4) (udA (by decide) (rfl)) ?_
    obtain ⟨o6, h1⟩ := h1
    refine mw_iald (pc' := 24) dX6_readFirst_23 rfl lk_62 ⟨by decide, by decide⟩ (by rw [ln_62]; exact o6) ?_
    refine mw_iconst (pc' := 25) dX6_readFirst_24 rfl ⟨by decide, by decide⟩ ?_
    suffices k7 : MW mX6_readFirst 0 0 33 [(0, vR 60), (1, vR 1), (2, vI x2)] [vI (bI (¬ ((ud d4 62 (d 60 4) v2) 62 (d4 60 4) = (-1))))] g3 (ud d4 62 (d 60 4) v2) Q by
      refine mw_icmp_eq (tgt := 32) (pc' := 28) dX6_readFirst_25 rfl (by decide) (fun c8 => ?_) (fun c8 => ?_)
      · refine mw_iconst (pc' := 33) dX6_readFirst_32 rfl ⟨by decide, by decide⟩ ?_
        exact mw_st (bI_f (fun h => (h c8))).symm k7
      · refine mw_iconst (pc' := 29) dX6_readFirst_28 rfl ⟨by decide, by decide⟩ ?_
        refine mw_goto (pc' := 0) (tgt := 33) dX6_readFirst_29 (by decide) ?_
        exact mw_st (bI_t c8).symm k7
    exact mw_iret (pc' := 0) (S := []) dX6_readFirst_33 rfl (Or.inr (Or.inl ⟨rfl, bI_rng⟩)) h1
  · exact mx_out rfl h1
theorem eX6_readSecond {x2 : Int} {g : mG} {d : mD} {Q : mQ} (h : MM mX6_readNumber [vR 60, vR 1, vI x2] g d (fun o g3 d4 => match o with | .inl v2 => (0 ≤ d 60 4 ∧ d 60 4 < 16) ∧ ((0 ≤ d4 60 4 ∧ d4 60 4 < 16) ∧ (Q (.inl (bI (¬ ((ud d4 63 (d 60 4) v2) 63 (d4 60 4) = (-1))))) g3 (ud d4 63 (d 60 4) v2))) | .inr k => Q (.inr k) g3 d4)) : MM mX6_readSecond [vR 60, vR 1, vI x2] g d Q := by
  refine MM_of (by decide) rfl (by simp [catV]) (Nat.le_of_ble_eq_true rfl) ?_
  show MW mX6_readSecond 0 0 0 [(0, vR 60), (1, vR 1), (2, vI x2)] [] g d Q
  refine mw_top (fun hT => ?_)
  have hG : 76 ≤ g.2.1 := hT.2
  refine mw_aload_n (v := vR 60) (pc' := 1) dX6_readSecond_0 rfl rfl (Or.inl rfl) rfl ?_
  refine mw_getP (v := 63) (pc' := 4) dX6_readSecond_1 rfl fr_RX6_18_60 rfl sp_60_2 ⟨by decide, by decide⟩ ?_
  refine mw_aload_n (v := vR 60) (pc' := 5) dX6_readSecond_4 rfl rfl (Or.inl rfl) rfl ?_
  refine mw_getI (ji := 4) (pc' := 8) dX6_readSecond_5 rfl fi_RX6_25_60 rfl ⟨by decide, by decide⟩ ?_
  refine mw_aload_n (v := vR 60) (pc' := 9) dX6_readSecond_8 rfl rfl (Or.inl rfl) rfl ?_
  refine mw_aload_n (v := vR 1) (pc' := 10) dX6_readSecond_9 rfl rfl (Or.inl rfl) rfl ?_
  refine mw_iload_n (pc' := 11) dX6_readSecond_10 rfl rfl rfl ?_
  refine mw_callV (M' := mX6_readNumber) (A := [vR 1, vI x2]) (A' := [vR 60, vR 1, vI x2]) (S := [vI (d 60 4), vR 63]) (a := 60) (pc' := 14) dX6_readSecond_11 rfl cl_RX6_108 cm_X6_readNumber cv_X6_readNumber ⟨by decide, by decide, by decide, by decide, by decide⟩ rfl rfl rfl ⟨by decide, by omega⟩ (by decide +kernel) (by decide +kernel) (Nat.le_of_ble_eq_true rfl) (MM.mono ?_ h)
  intro o g3 d4 h1
  rcases o with v2 | k
  · refine mw_top (fun hT => ?_)
    have hG : 76 ≤ g3.2.1 := hT.2
    show MW mX6_readSecond 0 0 14 [(0, vR 60), (1, vR 1), (2, vI x2)] [vI v2, vI (d 60 4), vR 63] g3 d4 Q
    obtain ⟨o5, h1⟩ := h1
    refine mw_iast (pc' := 15) dX6_readSecond_14 rfl lk_63 ⟨by decide, by decide⟩ (by rw [ln_63]; exact o5) ?_
    refine mw_aload_n (v := vR 60) (pc' := 16) dX6_readSecond_15 rfl rfl (Or.inl rfl) rfl ?_
    refine mw_getP (v := 63) (pc' := 19) dX6_readSecond_16 rfl fr_RX6_18_60 rfl sp_60_2 ⟨by decide, by decide⟩ ?_
    refine mw_aload_n (v := vR 60) (pc' := 20) dX6_readSecond_19 rfl rfl (Or.inl rfl) rfl ?_
    refine mw_getI (ji := 4) (pc' := 23) dX6_readSecond_20 rfl fi_RX6_25_60 rfl ⟨by decide, by decide⟩ ?_
    refine mw_st (b := d4 60 4) (udA (by decide) (rfl)) ?_
    obtain ⟨o6, h1⟩ := h1
    refine mw_iald (pc' := 24) dX6_readSecond_23 rfl lk_63 ⟨by decide, by decide⟩ (by rw [ln_63]; exact o6) ?_
    refine mw_iconst (pc' := 25) dX6_readSecond_24 rfl ⟨by decide, by decide⟩ ?_
    suffices k7 : MW mX6_readSecond 0 0 33 [(0, vR 60), (1, vR 1), (2, vI x2)] [vI (bI (¬ ((ud d4 63 (d 60 4) v2) 63 (d4 60 4) = (-1))))] g3 (ud d4 63 (d 60 4) v2) Q by
      refine mw_icmp_eq (tgt := 32) (pc' := 28) dX6_readSecond_25 rfl (by decide) (fun c8 => ?_) (fun c8 => ?_)
      · refine mw_iconst (pc' := 33) dX6_readSecond_32 rfl ⟨by decide, by decide⟩ ?_
        exact mw_st (bI_f (fun h => (h c8))).symm k7
      · refine mw_iconst (pc' := 29) dX6_readSecond_28 rfl ⟨by decide, by decide⟩ ?_
        refine mw_goto (pc' := 0) (tgt := 33) dX6_readSecond_29 (by decide) ?_
        exact mw_st (bI_t c8).symm k7
    exact mw_iret (pc' := 0) (S := []) dX6_readSecond_33 rfl (Or.inr (Or.inl ⟨rfl, bI_rng⟩)) h1
  · exact mx_out rfl h1
theorem eX6_readServe {g : mG} {d : mD} {Q : mQ} (h : MM mX6_readFirst [vR 60, vR 1, vI 1] g d (fun o g3 d4 => match o with | .inl v2 => ((v2 = 0) → Q (.inl 0) g3 d4) ∧ ((¬ (v2 = 0)) → ((¬ ((d4 60 5) < 0)) → (¬ (d4 1 1 ≤ (d4 60 5))) → 0 ≤ (d4 60 5) ∧ (d4 60 5) < 60) ∧ ((0 ≤ iT ((d4 60 5) < 0) 0 (iT (d4 1 1 ≤ (d4 60 5)) 0 (d4 2 (d4 60 5))) ∧ iT ((d4 60 5) < 0) 0 (iT (d4 1 1 ≤ (d4 60 5)) 0 (d4 2 (d4 60 5))) ≤ 65535) ∧ (((iT ((d4 60 5) < 0) 0 (iT (d4 1 1 ≤ (d4 60 5)) 0 (d4 2 (d4 60 5))) = 32) → (iI ((d4 60 5) + 1)) ∧ (MM mX6_readSecond [vR 60, vR 1, vI 1] g3 (ud d4 60 5 ((d4 60 5) + 1)) (fun o g12 d13 => match o with | .inl v11 => ((v11 = 0) → Q (.inl 0) g12 d13) ∧ ((¬ (v11 = 0)) → ((¬ ((d13 60 5) < 0)) → (¬ (d13 1 1 ≤ (d13 60 5))) → 0 ≤ (d13 60 5) ∧ (d13 60 5) < 60) ∧ ((0 ≤ iT ((d13 60 5) < 0) 0 (iT (d13 1 1 ≤ (d13 60 5)) 0 (d13 2 (d13 60 5))) ∧ iT ((d13 60 5) < 0) 0 (iT (d13 1 1 ≤ (d13 60 5)) 0 (d13 2 (d13 60 5))) ≤ 65535) ∧ (((iT ((d13 60 5) < 0) 0 (iT (d13 1 1 ≤ (d13 60 5)) 0 (d13 2 (d13 60 5))) = 32) → (iI ((d13 60 5) + 1)) ∧ (MM mX6_readWay [vR 60, vR 1] g12 (ud d13 60 5 ((d13 60 5) + 1)) (fun o g21 d22 => match o with | .inl v20 => Q (.inl (bI (¬ (v20 = 0)))) g21 d22 | .inr k => Q (.inr k) g21 d22))) ∧ ((¬ (iT ((d13 60 5) < 0) 0 (iT (d13 1 1 ≤ (d13 60 5)) 0 (d13 2 (d13 60 5))) = 32)) → Q (.inl 0) g12 d13)))) | .inr k => Q (.inr k) g12 d13))) ∧ ((¬ (iT ((d4 60 5) < 0) 0 (iT (d4 1 1 ≤ (d4 60 5)) 0 (d4 2 (d4 60 5))) = 32)) → Q (.inl 0) g3 d4)))) | .inr k => Q (.inr k) g3 d4)) : MM mX6_readServe [vR 60, vR 1] g d Q := by
  refine MM_of (by decide) rfl (by simp [catV]) (Nat.le_of_ble_eq_true rfl) ?_
  show MW mX6_readServe 0 0 0 [(0, vR 60), (1, vR 1)] [] g d Q
  refine mw_top (fun hT => ?_)
  have hG : 76 ≤ g.2.1 := hT.2
  refine mw_aload_n (v := vR 60) (pc' := 1) dX6_readServe_0 rfl rfl (Or.inl rfl) rfl ?_
  refine mw_aload_n (v := vR 1) (pc' := 2) dX6_readServe_1 rfl rfl (Or.inl rfl) rfl ?_
  refine mw_iconst (pc' := 3) dX6_readServe_2 rfl ⟨by decide, by decide⟩ ?_
  refine mw_callV (M' := mX6_readFirst) (A := [vR 1, vI 1]) (A' := [vR 60, vR 1, vI 1]) (S := []) (a := 60) (pc' := 6) dX6_readServe_3 rfl cl_RX6_99 cm_X6_readFirst cv_X6_readFirst ⟨by decide, by decide, by decide, by decide, by decide⟩ rfl rfl rfl ⟨by decide, by omega⟩ (by decide +kernel) (by decide +kernel) (Nat.le_of_ble_eq_true rfl) (MM.mono ?_ h)
  intro o g3 d4 h1
  rcases o with v2 | k
  · refine mw_top (fun hT => ?_)
    have hG : 76 ≤ g3.2.1 := hT.2
    show MW mX6_readServe 0 0 6 [(0, vR 60), (1, vR 1)] [vI v2] g3 d4 Q
    refine mw_if_eq (tgt := 50) (pc' := 9) dX6_readServe_6 rfl (by decide) (fun c5 => ?_) (fun c5 => ?_)
    · replace h1 := h1.1 c5
      refine mw_iconst (pc' := 51) dX6_readServe_50 rfl ⟨by decide, by decide⟩ ?_
      exact mw_iret (pc' := 0) (S := []) dX6_readServe_51 rfl (Or.inr (Or.inl ⟨rfl, by decide, by decide⟩)) h1
    · replace h1 := h1.2 c5
      refine mw_aload_n (v := vR 60) (pc' := 10) dX6_readServe_9 rfl rfl (Or.inl rfl) rfl ?_
      refine mw_aload_n (v := vR 1) (pc' := 11) dX6_readServe_10 rfl rfl (Or.inl rfl) rfl ?_
      refine mw_bipush (pc' := 13) dX6_readServe_11 rfl ⟨by decide, by decide⟩ ?_
      refine mw_callV (M' := mX6_readSign) (A := [vR 1, vI 32]) (A' := [vR 60, vR 1, vI 32]) (S := []) (a := 60) (pc' := 16) dX6_readServe_13 rfl cl_RX6_41 cm_X6_readSign cv_X6_readSign ⟨by decide, by decide, by decide, by decide, by decide⟩ rfl rfl rfl ⟨by decide, by omega⟩ (by decide +kernel) (by decide +kernel) (Nat.le_of_ble_eq_true rfl) (eX6_readSign ?_)
      obtain ⟨o6, h1⟩ := h1
      refine ⟨o6, ?_⟩
      obtain ⟨o7, h1⟩ := h1
      refine ⟨o7, ?_⟩
      refine ⟨fun c8 => ?_, fun c8 => ?_⟩
      · replace h1 := h1.1 (show iT ((d4 60 5) < 0) 0 (iT (d4 1 1 ≤ (d4 60 5)) 0 (d4 2 (d4 60 5))) = 32 from c8)
        obtain ⟨o9, h1⟩ := h1
        refine ⟨o9, ?_⟩
        show MW mX6_readServe 0 0 16 [(0, vR 60), (1, vR 1)] [vI 1] g3 (ud d4 60 5 ((d4 60 5) + 1)) Q
        refine mw_if_eq (tgt := 50) (pc' := 19) dX6_readServe_16 rfl (by decide) (fun q => absurd q (by decide)) (fun _ => ?_)
        refine mw_aload_n (v := vR 60) (pc' := 20) dX6_readServe_19 rfl rfl (Or.inl rfl) rfl ?_
        refine mw_aload_n (v := vR 1) (pc' := 21) dX6_readServe_20 rfl rfl (Or.inl rfl) rfl ?_
        refine mw_iconst (pc' := 22) dX6_readServe_21 rfl ⟨by decide, by decide⟩ ?_
        refine mw_callV (M' := mX6_readSecond) (A := [vR 1, vI 1]) (A' := [vR 60, vR 1, vI 1]) (S := []) (a := 60) (pc' := 25) dX6_readServe_22 rfl cl_RX6_102 cm_X6_readSecond cv_X6_readSecond ⟨by decide, by decide, by decide, by decide, by decide⟩ rfl rfl rfl ⟨by decide, by omega⟩ (by decide +kernel) (by decide +kernel) (Nat.le_of_ble_eq_true rfl) (MM.mono ?_ h1)
        intro o g12 d13 h10
        rcases o with v11 | k
        · refine mw_top (fun hT => ?_)
          have hG : 76 ≤ g12.2.1 := hT.2
          show MW mX6_readServe 0 0 25 [(0, vR 60), (1, vR 1)] [vI v11] g12 d13 Q
          refine mw_if_eq (tgt := 50) (pc' := 28) dX6_readServe_25 rfl (by decide) (fun c14 => ?_) (fun c14 => ?_)
          · replace h10 := h10.1 c14
            refine mw_iconst (pc' := 51) dX6_readServe_50 rfl ⟨by decide, by decide⟩ ?_
            exact mw_iret (pc' := 0) (S := []) dX6_readServe_51 rfl (Or.inr (Or.inl ⟨rfl, by decide, by decide⟩)) h10
          · replace h10 := h10.2 c14
            refine mw_aload_n (v := vR 60) (pc' := 29) dX6_readServe_28 rfl rfl (Or.inl rfl) rfl ?_
            refine mw_aload_n (v := vR 1) (pc' := 30) dX6_readServe_29 rfl rfl (Or.inl rfl) rfl ?_
            refine mw_bipush (pc' := 32) dX6_readServe_30 rfl ⟨by decide, by decide⟩ ?_
            refine mw_callV (M' := mX6_readSign) (A := [vR 1, vI 32]) (A' := [vR 60, vR 1, vI 32]) (S := []) (a := 60) (pc' := 35) dX6_readServe_32 rfl cl_RX6_41 cm_X6_readSign cv_X6_readSign ⟨by decide, by decide, by decide, by decide, by decide⟩ rfl rfl rfl ⟨by decide, by omega⟩ (by decide +kernel) (by decide +kernel) (Nat.le_of_ble_eq_true rfl) (eX6_readSign ?_)
            obtain ⟨o15, h10⟩ := h10
            refine ⟨o15, ?_⟩
            obtain ⟨o16, h10⟩ := h10
            refine ⟨o16, ?_⟩
            refine ⟨fun c17 => ?_, fun c17 => ?_⟩
            · replace h10 := h10.1 (show iT ((d13 60 5) < 0) 0 (iT (d13 1 1 ≤ (d13 60 5)) 0 (d13 2 (d13 60 5))) = 32 from c17)
              obtain ⟨o18, h10⟩ := h10
              refine ⟨o18, ?_⟩
              show MW mX6_readServe 0 0 35 [(0, vR 60), (1, vR 1)] [vI 1] g12 (ud d13 60 5 ((d13 60 5) + 1)) Q
              refine mw_if_eq (tgt := 50) (pc' := 38) dX6_readServe_35 rfl (by decide) (fun q => absurd q (by decide)) (fun _ => ?_)
              refine mw_aload_n (v := vR 60) (pc' := 39) dX6_readServe_38 rfl rfl (Or.inl rfl) rfl ?_
              refine mw_aload_n (v := vR 1) (pc' := 40) dX6_readServe_39 rfl rfl (Or.inl rfl) rfl ?_
              refine mw_callV (M' := mX6_readWay) (A := [vR 1]) (A' := [vR 60, vR 1]) (S := []) (a := 60) (pc' := 43) dX6_readServe_40 rfl cl_RX6_105 cm_X6_readWay cv_X6_readWay ⟨by decide, by decide, by decide, by decide, by decide⟩ rfl rfl rfl ⟨by decide, by omega⟩ (by decide +kernel) (by decide +kernel) (Nat.le_of_ble_eq_true rfl) (MM.mono ?_ h10)
              intro o g21 d22 h19
              rcases o with v20 | k
              · refine mw_top (fun hT => ?_)
                have hG : 76 ≤ g21.2.1 := hT.2
                show MW mX6_readServe 0 0 43 [(0, vR 60), (1, vR 1)] [vI v20] g21 d22 Q
                suffices k23 : MW mX6_readServe 0 0 51 [(0, vR 60), (1, vR 1)] [vI (bI (¬ (v20 = 0)))] g21 d22 Q by
                  refine mw_if_eq (tgt := 50) (pc' := 46) dX6_readServe_43 rfl (by decide) (fun c24 => ?_) (fun c24 => ?_)
                  · refine mw_iconst (pc' := 51) dX6_readServe_50 rfl ⟨by decide, by decide⟩ ?_
                    exact mw_st (bI_f (fun h => (h c24))).symm k23
                  · refine mw_iconst (pc' := 47) dX6_readServe_46 rfl ⟨by decide, by decide⟩ ?_
                    refine mw_goto (pc' := 0) (tgt := 51) dX6_readServe_47 (by decide) ?_
                    exact mw_st (bI_t c24).symm k23
                exact mw_iret (pc' := 0) (S := []) dX6_readServe_51 rfl (Or.inr (Or.inl ⟨rfl, bI_rng⟩)) h19
              · exact mx_out rfl h19
            · replace h10 := h10.2 (show ¬ (iT ((d13 60 5) < 0) 0 (iT (d13 1 1 ≤ (d13 60 5)) 0 (d13 2 (d13 60 5))) = 32) from c17)
              show MW mX6_readServe 0 0 35 [(0, vR 60), (1, vR 1)] [vI 0] g12 d13 Q
              refine mw_if_eq (tgt := 50) (pc' := 38) dX6_readServe_35 rfl (by decide) (fun _ => ?_) (fun q => absurd q (by decide))
              refine mw_iconst (pc' := 51) dX6_readServe_50 rfl ⟨by decide, by decide⟩ ?_
              exact mw_iret (pc' := 0) (S := []) dX6_readServe_51 rfl (Or.inr (Or.inl ⟨rfl, by decide, by decide⟩)) h10
        · exact mx_out rfl h10
      · replace h1 := h1.2 (show ¬ (iT ((d4 60 5) < 0) 0 (iT (d4 1 1 ≤ (d4 60 5)) 0 (d4 2 (d4 60 5))) = 32) from c8)
        show MW mX6_readServe 0 0 16 [(0, vR 60), (1, vR 1)] [vI 0] g3 d4 Q
        refine mw_if_eq (tgt := 50) (pc' := 19) dX6_readServe_16 rfl (by decide) (fun _ => ?_) (fun q => absurd q (by decide))
        refine mw_iconst (pc' := 51) dX6_readServe_50 rfl ⟨by decide, by decide⟩ ?_
        exact mw_iret (pc' := 0) (S := []) dX6_readServe_51 rfl (Or.inr (Or.inl ⟨rfl, by decide, by decide⟩)) h1
  · exact mx_out rfl h1
theorem eX6_readDays {g : mG} {d : mD} {Q : mQ} (h : (0 ≤ d 60 4 ∧ d 60 4 < 16) ∧ (((¬ ((d 60 5) < 0)) → (¬ (d 1 1 ≤ (d 60 5))) → 0 ≤ (d 60 5) ∧ (d 60 5) < 60) ∧ ((0 ≤ iT ((d 60 5) < 0) 0 (iT (d 1 1 ≤ (d 60 5)) 0 (d 2 (d 60 5))) ∧ iT ((d 60 5) < 0) 0 (iT (d 1 1 ≤ (d 60 5)) 0 (d 2 (d 60 5))) ≤ 65535) ∧ (((iT ((d 60 5) < 0) 0 (iT (d 1 1 ≤ (d 60 5)) 0 (d 2 (d 60 5))) = 32) → ((iT ((d 60 5) < 0) 0 (iT (d 1 1 ≤ (d 60 5)) 0 (d 2 (d 60 5))) = 32) → (iI ((d 60 5) + 1)) ∧ (MM mX6_readFirst [vR 60, vR 1, vI 4] g (ud (ud d 62 (d 60 4) 1) 60 5 ((d 60 5) + 1)) (fun o g11 d12 => match o with | .inl v10 => ((v10 = 0) → Q (.inl 0) g11 d12) ∧ ((¬ (v10 = 0)) → Q (.inl 1) g11 d12) | .inr k => Q (.inr k) g11 d12))) ∧ ((¬ (iT ((d 60 5) < 0) 0 (iT (d 1 1 ≤ (d 60 5)) 0 (d 2 (d 60 5))) = 32)) → Q (.inl 0) g (ud d 62 (d 60 4) 1))) ∧ ((¬ (iT ((d 60 5) < 0) 0 (iT (d 1 1 ≤ (d 60 5)) 0 (d 2 (d 60 5))) = 32)) → Q (.inl 1) g (ud d 62 (d 60 4) 1)))))) : MM mX6_readDays [vR 60, vR 1] g d Q := by
  refine MM_of (by decide) rfl (by simp [catV]) (Nat.le_of_ble_eq_true rfl) ?_
  show MW mX6_readDays 0 0 0 [(0, vR 60), (1, vR 1)] [] g d Q
  refine mw_top (fun hT => ?_)
  have hG : 76 ≤ g.2.1 := hT.2
  refine mw_aload_n (v := vR 60) (pc' := 1) dX6_readDays_0 rfl rfl (Or.inl rfl) rfl ?_
  refine mw_getP (v := 62) (pc' := 4) dX6_readDays_1 rfl fr_RX6_15_60 rfl sp_60_1 ⟨by decide, by decide⟩ ?_
  refine mw_aload_n (v := vR 60) (pc' := 5) dX6_readDays_4 rfl rfl (Or.inl rfl) rfl ?_
  refine mw_getI (ji := 4) (pc' := 8) dX6_readDays_5 rfl fi_RX6_25_60 rfl ⟨by decide, by decide⟩ ?_
  refine mw_iconst (pc' := 9) dX6_readDays_8 rfl ⟨by decide, by decide⟩ ?_
  obtain ⟨o1, h⟩ := h
  refine mw_iast (pc' := 10) dX6_readDays_9 rfl lk_62 ⟨by decide, by decide⟩ (by rw [ln_62]; exact o1) ?_
  refine mw_aload_n (v := vR 1) (pc' := 11) dX6_readDays_10 rfl rfl (Or.inl rfl) rfl ?_
  refine mw_aload_n (v := vR 60) (pc' := 12) dX6_readDays_11 rfl rfl (Or.inl rfl) rfl ?_
  refine mw_getI (ji := 5) (pc' := 15) dX6_readDays_12 rfl fi_RX6_29_60 rfl ⟨by decide, by decide⟩ ?_
  refine mw_st (b := d 60 5) (udA (by decide) (rfl)) ?_
  obtain ⟨o2, h⟩ := h
  obtain ⟨o3, h⟩ := h
  refine mw_callV (M' := mX9_signAt) (A := [vI (d 60 5)]) (A' := [vR 1, vI (d 60 5)]) (S := []) (a := 1) (pc' := 18) dX6_readDays_15 rfl cl_RX6_86 cm_X9_signAt cv_X9_signAt ⟨by decide, by decide, by decide, by decide, by decide⟩ rfl rfl rfl ⟨by decide, by omega⟩ (by decide +kernel) (by decide +kernel) (Nat.le_of_ble_eq_true rfl) (eX9_signAt_b (⟨o2, o3, ?_⟩))
  show MW mX6_readDays 0 0 18 [(0, vR 60), (1, vR 1)] [vI (iT ((d 60 5) < 0) 0 (iT (d 1 1 ≤ (d 60 5)) 0 (d 2 (d 60 5))))] g (ud d 62 (d 60 4) 1) Q
  refine mw_bipush (pc' := 20) dX6_readDays_18 rfl ⟨by decide, by decide⟩ ?_
  refine mw_icmp_ne (tgt := 42) (pc' := 23) dX6_readDays_20 rfl (by decide) (fun c4 => ?_) (fun c4 => ?_)
  · replace h := h.2 c4
    refine mw_iconst (pc' := 43) dX6_readDays_42 rfl ⟨by decide, by decide⟩ ?_
    refine mw_goto (pc' := 0) (tgt := 47) dX6_readDays_43 (by decide) ?_
    exact mw_iret (pc' := 0) (S := []) dX6_readDays_47 rfl (Or.inr (Or.inl ⟨rfl, by decide, by decide⟩)) h
  · replace h := h.1 c4
    refine mw_aload_n (v := vR 60) (pc' := 24) dX6_readDays_23 rfl rfl (Or.inl rfl) rfl ?_
    refine mw_aload_n (v := vR 1) (pc' := 25) dX6_readDays_24 rfl rfl (Or.inl rfl) rfl ?_
    refine mw_bipush (pc' := 27) dX6_readDays_25 rfl ⟨by decide, by decide⟩ ?_
    refine mw_callV (M' := mX6_readSign) (A := [vR 1, vI 32]) (A' := [vR 60, vR 1, vI 32]) (S := []) (a := 60) (pc' := 30) dX6_readDays_27 rfl cl_RX6_41 cm_X6_readSign cv_X6_readSign ⟨by decide, by decide, by decide, by decide, by decide⟩ rfl rfl rfl ⟨by decide, by omega⟩ (by decide +kernel) (by decide +kernel) (Nat.le_of_ble_eq_true rfl) (eX6_readSign ?_)
    refine ⟨o2, ?_⟩
    refine ⟨o3, ?_⟩
    refine ⟨fun c7 => ?_, fun c7 => ?_⟩
    · replace h := h.1 (show iT ((d 60 5) < 0) 0 (iT (d 1 1 ≤ (d 60 5)) 0 (d 2 (d 60 5))) = 32 from c7)
      obtain ⟨o8, h⟩ := h
      refine ⟨o8, ?_⟩
      show MW mX6_readDays 0 0 30 [(0, vR 60), (1, vR 1)] [vI 1] g (ud (ud d 62 (d 60 4) 1) 60 5 ((d 60 5) + 1)) Q
      refine mw_if_eq (tgt := 46) (pc' := 33) dX6_readDays_30 rfl (by decide) (fun q => absurd q (by decide)) (fun _ => ?_)
      refine mw_aload_n (v := vR 60) (pc' := 34) dX6_readDays_33 rfl rfl (Or.inl rfl) rfl ?_
      refine mw_aload_n (v := vR 1) (pc' := 35) dX6_readDays_34 rfl rfl (Or.inl rfl) rfl ?_
      refine mw_iconst (pc' := 36) dX6_readDays_35 rfl ⟨by decide, by decide⟩ ?_
      refine mw_callV (M' := mX6_readFirst) (A := [vR 1, vI 4]) (A' := [vR 60, vR 1, vI 4]) (S := []) (a := 60) (pc' := 39) dX6_readDays_36 rfl cl_RX6_99 cm_X6_readFirst cv_X6_readFirst ⟨by decide, by decide, by decide, by decide, by decide⟩ rfl rfl rfl ⟨by decide, by omega⟩ (by decide +kernel) (by decide +kernel) (Nat.le_of_ble_eq_true rfl) (MM.mono ?_ h)
      intro o g11 d12 h9
      rcases o with v10 | k
      · refine mw_top (fun hT => ?_)
        have hG : 76 ≤ g11.2.1 := hT.2
        show MW mX6_readDays 0 0 39 [(0, vR 60), (1, vR 1)] [vI v10] g11 d12 Q
        refine mw_if_eq (tgt := 46) (pc' := 42) dX6_readDays_39 rfl (by decide) (fun c13 => ?_) (fun c13 => ?_)
        · replace h9 := h9.1 c13
          refine mw_iconst (pc' := 47) dX6_readDays_46 rfl ⟨by decide, by decide⟩ ?_
          exact mw_iret (pc' := 0) (S := []) dX6_readDays_47 rfl (Or.inr (Or.inl ⟨rfl, by decide, by decide⟩)) h9
        · replace h9 := h9.2 c13
          refine mw_iconst (pc' := 43) dX6_readDays_42 rfl ⟨by decide, by decide⟩ ?_
          refine mw_goto (pc' := 0) (tgt := 47) dX6_readDays_43 (by decide) ?_
          exact mw_iret (pc' := 0) (S := []) dX6_readDays_47 rfl (Or.inr (Or.inl ⟨rfl, by decide, by decide⟩)) h9
      · exact mx_out rfl h9
    · replace h := h.2 (show ¬ (iT ((d 60 5) < 0) 0 (iT (d 1 1 ≤ (d 60 5)) 0 (d 2 (d 60 5))) = 32) from c7)
      show MW mX6_readDays 0 0 30 [(0, vR 60), (1, vR 1)] [vI 0] g (ud d 62 (d 60 4) 1) Q
      refine mw_if_eq (tgt := 46) (pc' := 33) dX6_readDays_30 rfl (by decide) (fun _ => ?_) (fun q => absurd q (by decide))
      refine mw_iconst (pc' := 47) dX6_readDays_46 rfl ⟨by decide, by decide⟩ ?_
      exact mw_iret (pc' := 0) (S := []) dX6_readDays_47 rfl (Or.inr (Or.inl ⟨rfl, by decide, by decide⟩)) h
theorem eX6_readValues {x2 : Int} {g : mG} {d : mD} {Q : mQ} (h : ((x2 = 0) → MM mX6_readServe [vR 60, vR 1] g d (fun o g4 d5 => match o with | .inl v3 => (0 ≤ v3 ∧ v3 ≤ 1) ∧ (Q (.inl v3) g4 d5) | .inr k => Q (.inr k) g4 d5)) ∧ ((¬ (x2 = 0)) → ((x2 = 1) → MM mX6_readDays [vR 60, vR 1] g d (fun o g10 d11 => match o with | .inl v9 => (0 ≤ v9 ∧ v9 ≤ 1) ∧ (Q (.inl v9) g10 d11) | .inr k => Q (.inr k) g10 d11)) ∧ ((¬ (x2 = 1)) → ((x2 = 2) → MM mX6_readFirst [vR 60, vR 1, vI 4] g d (fun o g16 d17 => match o with | .inl v15 => (0 ≤ v15 ∧ v15 ≤ 1) ∧ (Q (.inl v15) g16 d17) | .inr k => Q (.inr k) g16 d17)) ∧ ((¬ (x2 = 2)) → ((x2 = 3) → MM mX6_readFirst [vR 60, vR 1, vI 4] g d (fun o g22 d23 => match o with | .inl v21 => (0 ≤ v21 ∧ v21 ≤ 1) ∧ (Q (.inl v21) g22 d23) | .inr k => Q (.inr k) g22 d23)) ∧ ((¬ (x2 = 3)) → ((x2 = 4) → MM mX6_readFirst [vR 60, vR 1, vI 4] g d (fun o g28 d29 => match o with | .inl v27 => ((v27 = 0) → Q (.inl 0) g28 d29) ∧ ((¬ (v27 = 0)) → ((¬ ((d29 60 5) < 0)) → (¬ (d29 1 1 ≤ (d29 60 5))) → 0 ≤ (d29 60 5) ∧ (d29 60 5) < 60) ∧ ((0 ≤ iT ((d29 60 5) < 0) 0 (iT (d29 1 1 ≤ (d29 60 5)) 0 (d29 2 (d29 60 5))) ∧ iT ((d29 60 5) < 0) 0 (iT (d29 1 1 ≤ (d29 60 5)) 0 (d29 2 (d29 60 5))) ≤ 65535) ∧ (((iT ((d29 60 5) < 0) 0 (iT (d29 1 1 ≤ (d29 60 5)) 0 (d29 2 (d29 60 5))) = 32) → (iI ((d29 60 5) + 1)) ∧ (MM mX6_readSecond [vR 60, vR 1, vI 4] g28 (ud d29 60 5 ((d29 60 5) + 1)) (fun o g37 d38 => match o with | .inl v36 => Q (.inl (bI (¬ (v36 = 0)))) g37 d38 | .inr k => Q (.inr k) g37 d38))) ∧ ((¬ (iT ((d29 60 5) < 0) 0 (iT (d29 1 1 ≤ (d29 60 5)) 0 (d29 2 (d29 60 5))) = 32)) → Q (.inl 0) g28 d29)))) | .inr k => Q (.inr k) g28 d29)) ∧ ((¬ (x2 = 4)) → MM mX6_readFirst [vR 60, vR 1, vI 4] g d (fun o g43 d44 => match o with | .inl v42 => (0 ≤ v42 ∧ v42 ≤ 1) ∧ (Q (.inl v42) g43 d44) | .inr k => Q (.inr k) g43 d44))))))) : MM mX6_readValues [vR 60, vR 1, vI x2] g d Q := by
  refine MM_of (by decide) rfl (by simp [catV]) (Nat.le_of_ble_eq_true rfl) ?_
  show MW mX6_readValues 0 0 0 [(0, vR 60), (1, vR 1), (2, vI x2)] [] g d Q
  refine mw_top (fun hT => ?_)
  have hG : 76 ≤ g.2.1 := hT.2
  refine mw_iload_n (pc' := 1) dX6_readValues_0 rfl rfl rfl ?_
  by_cases c1 : x2 = 0
  · replace h := h.1 c1
    refine mw_tabIn (pc' := 0) (off := 35) (tgt := 36) dX6_readValues_1 (by omega) (by rw [c1]; rfl) (by decide) ?_
    refine mw_aload_n (v := vR 60) (pc' := 37) dX6_readValues_36 rfl rfl (Or.inl rfl) rfl ?_
    refine mw_aload_n (v := vR 1) (pc' := 38) dX6_readValues_37 rfl rfl (Or.inl rfl) rfl ?_
    refine mw_callV (M' := mX6_readServe) (A := [vR 1]) (A' := [vR 60, vR 1]) (S := []) (a := 60) (pc' := 41) dX6_readValues_38 rfl cl_RX6_93 cm_X6_readServe cv_X6_readServe ⟨by decide, by decide, by decide, by decide, by decide⟩ rfl rfl rfl ⟨by decide, by omega⟩ (by decide +kernel) (by decide +kernel) (Nat.le_of_ble_eq_true rfl) (MM.mono ?_ h)
    intro o g4 d5 h2
    rcases o with v3 | k
    · refine mw_top (fun hT => ?_)
      have hG : 76 ≤ g4.2.1 := hT.2
      show MW mX6_readValues 0 0 41 [(0, vR 60), (1, vR 1), (2, vI x2)] [vI v3] g4 d5 Q
      obtain ⟨o6, h2⟩ := h2
      exact mw_iret (pc' := 0) (S := []) dX6_readValues_41 rfl (Or.inr (Or.inl ⟨rfl, o6⟩)) h2
    · exact mx_out rfl h2
  · replace h := h.2 c1
    by_cases c7 : x2 = 1
    · replace h := h.1 c7
      refine mw_tabIn (pc' := 0) (off := 41) (tgt := 42) dX6_readValues_1 (by omega) (by rw [c7]; rfl) (by decide) ?_
      refine mw_aload_n (v := vR 60) (pc' := 43) dX6_readValues_42 rfl rfl (Or.inl rfl) rfl ?_
      refine mw_aload_n (v := vR 1) (pc' := 44) dX6_readValues_43 rfl rfl (Or.inl rfl) rfl ?_
      refine mw_callV (M' := mX6_readDays) (A := [vR 1]) (A' := [vR 60, vR 1]) (S := []) (a := 60) (pc' := 47) dX6_readValues_44 rfl cl_RX6_96 cm_X6_readDays cv_X6_readDays ⟨by decide, by decide, by decide, by decide, by decide⟩ rfl rfl rfl ⟨by decide, by omega⟩ (by decide +kernel) (by decide +kernel) (Nat.le_of_ble_eq_true rfl) (MM.mono ?_ h)
      intro o g10 d11 h8
      rcases o with v9 | k
      · refine mw_top (fun hT => ?_)
        have hG : 76 ≤ g10.2.1 := hT.2
        show MW mX6_readValues 0 0 47 [(0, vR 60), (1, vR 1), (2, vI x2)] [vI v9] g10 d11 Q
        obtain ⟨o12, h8⟩ := h8
        exact mw_iret (pc' := 0) (S := []) dX6_readValues_47 rfl (Or.inr (Or.inl ⟨rfl, o12⟩)) h8
      · exact mx_out rfl h8
    · replace h := h.2 c7
      by_cases c13 : x2 = 2
      · replace h := h.1 c13
        refine mw_tabIn (pc' := 0) (off := 81) (tgt := 82) dX6_readValues_1 (by omega) (by rw [c13]; rfl) (by decide) ?_
        refine mw_aload_n (v := vR 60) (pc' := 83) dX6_readValues_82 rfl rfl (Or.inl rfl) rfl ?_
        refine mw_aload_n (v := vR 1) (pc' := 84) dX6_readValues_83 rfl rfl (Or.inl rfl) rfl ?_
        refine mw_iconst (pc' := 85) dX6_readValues_84 rfl ⟨by decide, by decide⟩ ?_
        refine mw_callV (M' := mX6_readFirst) (A := [vR 1, vI 4]) (A' := [vR 60, vR 1, vI 4]) (S := []) (a := 60) (pc' := 88) dX6_readValues_85 rfl cl_RX6_99 cm_X6_readFirst cv_X6_readFirst ⟨by decide, by decide, by decide, by decide, by decide⟩ rfl rfl rfl ⟨by decide, by omega⟩ (by decide +kernel) (by decide +kernel) (Nat.le_of_ble_eq_true rfl) (MM.mono ?_ h)
        intro o g16 d17 h14
        rcases o with v15 | k
        · refine mw_top (fun hT => ?_)
          have hG : 76 ≤ g16.2.1 := hT.2
          show MW mX6_readValues 0 0 88 [(0, vR 60), (1, vR 1), (2, vI x2)] [vI v15] g16 d17 Q
          obtain ⟨o18, h14⟩ := h14
          exact mw_iret (pc' := 0) (S := []) dX6_readValues_88 rfl (Or.inr (Or.inl ⟨rfl, o18⟩)) h14
        · exact mx_out rfl h14
      · replace h := h.2 c13
        by_cases c19 : x2 = 3
        · replace h := h.1 c19
          refine mw_tabIn (pc' := 0) (off := 81) (tgt := 82) dX6_readValues_1 (by omega) (by rw [c19]; rfl) (by decide) ?_
          refine mw_aload_n (v := vR 60) (pc' := 83) dX6_readValues_82 rfl rfl (Or.inl rfl) rfl ?_
          refine mw_aload_n (v := vR 1) (pc' := 84) dX6_readValues_83 rfl rfl (Or.inl rfl) rfl ?_
          refine mw_iconst (pc' := 85) dX6_readValues_84 rfl ⟨by decide, by decide⟩ ?_
          refine mw_callV (M' := mX6_readFirst) (A := [vR 1, vI 4]) (A' := [vR 60, vR 1, vI 4]) (S := []) (a := 60) (pc' := 88) dX6_readValues_85 rfl cl_RX6_99 cm_X6_readFirst cv_X6_readFirst ⟨by decide, by decide, by decide, by decide, by decide⟩ rfl rfl rfl ⟨by decide, by omega⟩ (by decide +kernel) (by decide +kernel) (Nat.le_of_ble_eq_true rfl) (MM.mono ?_ h)
          intro o g22 d23 h20
          rcases o with v21 | k
          · refine mw_top (fun hT => ?_)
            have hG : 76 ≤ g22.2.1 := hT.2
            show MW mX6_readValues 0 0 88 [(0, vR 60), (1, vR 1), (2, vI x2)] [vI v21] g22 d23 Q
            obtain ⟨o24, h20⟩ := h20
            exact mw_iret (pc' := 0) (S := []) dX6_readValues_88 rfl (Or.inr (Or.inl ⟨rfl, o24⟩)) h20
          · exact mx_out rfl h20
        · replace h := h.2 c19
          by_cases c25 : x2 = 4
          · replace h := h.1 c25
            refine mw_tabIn (pc' := 0) (off := 47) (tgt := 48) dX6_readValues_1 (by omega) (by rw [c25]; rfl) (by decide) ?_
            refine mw_aload_n (v := vR 60) (pc' := 49) dX6_readValues_48 rfl rfl (Or.inl rfl) rfl ?_
            refine mw_aload_n (v := vR 1) (pc' := 50) dX6_readValues_49 rfl rfl (Or.inl rfl) rfl ?_
            refine mw_iconst (pc' := 51) dX6_readValues_50 rfl ⟨by decide, by decide⟩ ?_
            refine mw_callV (M' := mX6_readFirst) (A := [vR 1, vI 4]) (A' := [vR 60, vR 1, vI 4]) (S := []) (a := 60) (pc' := 54) dX6_readValues_51 rfl cl_RX6_99 cm_X6_readFirst cv_X6_readFirst ⟨by decide, by decide, by decide, by decide, by decide⟩ rfl rfl rfl ⟨by decide, by omega⟩ (by decide +kernel) (by decide +kernel) (Nat.le_of_ble_eq_true rfl) (MM.mono ?_ h)
            intro o g28 d29 h26
            rcases o with v27 | k
            · refine mw_top (fun hT => ?_)
              have hG : 76 ≤ g28.2.1 := hT.2
              show MW mX6_readValues 0 0 54 [(0, vR 60), (1, vR 1), (2, vI x2)] [vI v27] g28 d29 Q
              refine mw_if_eq (tgt := 80) (pc' := 57) dX6_readValues_54 rfl (by decide) (fun c30 => ?_) (fun c30 => ?_)
              · replace h26 := h26.1 c30
                refine mw_iconst (pc' := 81) dX6_readValues_80 rfl ⟨by decide, by decide⟩ ?_
                exact mw_iret (pc' := 0) (S := []) dX6_readValues_81 rfl (Or.inr (Or.inl ⟨rfl, by decide, by decide⟩)) h26
              · replace h26 := h26.2 c30
                refine mw_aload_n (v := vR 60) (pc' := 58) dX6_readValues_57 rfl rfl (Or.inl rfl) rfl ?_
                refine mw_aload_n (v := vR 1) (pc' := 59) dX6_readValues_58 rfl rfl (Or.inl rfl) rfl ?_
                refine mw_bipush (pc' := 61) dX6_readValues_59 rfl ⟨by decide, by decide⟩ ?_
                refine mw_callV (M' := mX6_readSign) (A := [vR 1, vI 32]) (A' := [vR 60, vR 1, vI 32]) (S := []) (a := 60) (pc' := 64) dX6_readValues_61 rfl cl_RX6_41 cm_X6_readSign cv_X6_readSign ⟨by decide, by decide, by decide, by decide, by decide⟩ rfl rfl rfl ⟨by decide, by omega⟩ (by decide +kernel) (by decide +kernel) (Nat.le_of_ble_eq_true rfl) (eX6_readSign ?_)
                obtain ⟨o31, h26⟩ := h26
                refine ⟨o31, ?_⟩
                obtain ⟨o32, h26⟩ := h26
                refine ⟨o32, ?_⟩
                refine ⟨fun c33 => ?_, fun c33 => ?_⟩
                · replace h26 := h26.1 (show iT ((d29 60 5) < 0) 0 (iT (d29 1 1 ≤ (d29 60 5)) 0 (d29 2 (d29 60 5))) = 32 from c33)
                  obtain ⟨o34, h26⟩ := h26
                  refine ⟨o34, ?_⟩
                  show MW mX6_readValues 0 0 64 [(0, vR 60), (1, vR 1), (2, vI x2)] [vI 1] g28 (ud d29 60 5 ((d29 60 5) + 1)) Q
                  refine mw_if_eq (tgt := 80) (pc' := 67) dX6_readValues_64 rfl (by decide) (fun q => absurd q (by decide)) (fun _ => ?_)
                  refine mw_aload_n (v := vR 60) (pc' := 68) dX6_readValues_67 rfl rfl (Or.inl rfl) rfl ?_
                  refine mw_aload_n (v := vR 1) (pc' := 69) dX6_readValues_68 rfl rfl (Or.inl rfl) rfl ?_
                  refine mw_iconst (pc' := 70) dX6_readValues_69 rfl ⟨by decide, by decide⟩ ?_
                  refine mw_callV (M' := mX6_readSecond) (A := [vR 1, vI 4]) (A' := [vR 60, vR 1, vI 4]) (S := []) (a := 60) (pc' := 73) dX6_readValues_70 rfl cl_RX6_102 cm_X6_readSecond cv_X6_readSecond ⟨by decide, by decide, by decide, by decide, by decide⟩ rfl rfl rfl ⟨by decide, by omega⟩ (by decide +kernel) (by decide +kernel) (Nat.le_of_ble_eq_true rfl) (MM.mono ?_ h26)
                  intro o g37 d38 h35
                  rcases o with v36 | k
                  · refine mw_top (fun hT => ?_)
                    have hG : 76 ≤ g37.2.1 := hT.2
                    show MW mX6_readValues 0 0 73 [(0, vR 60), (1, vR 1), (2, vI x2)] [vI v36] g37 d38 Q
                    suffices k39 : MW mX6_readValues 0 0 81 [(0, vR 60), (1, vR 1), (2, vI x2)] [vI (bI (¬ (v36 = 0)))] g37 d38 Q by
                      refine mw_if_eq (tgt := 80) (pc' := 76) dX6_readValues_73 rfl (by decide) (fun c40 => ?_) (fun c40 => ?_)
                      · refine mw_iconst (pc' := 81) dX6_readValues_80 rfl ⟨by decide, by decide⟩ ?_
                        exact mw_st (bI_f (fun h => (h c40))).symm k39
                      · refine mw_iconst (pc' := 77) dX6_readValues_76 rfl ⟨by decide, by decide⟩ ?_
                        refine mw_goto (pc' := 0) (tgt := 81) dX6_readValues_77 (by decide) ?_
                        exact mw_st (bI_t c40).symm k39
                    exact mw_iret (pc' := 0) (S := []) dX6_readValues_81 rfl (Or.inr (Or.inl ⟨rfl, bI_rng⟩)) h35
                  · exact mx_out rfl h35
                · replace h26 := h26.2 (show ¬ (iT ((d29 60 5) < 0) 0 (iT (d29 1 1 ≤ (d29 60 5)) 0 (d29 2 (d29 60 5))) = 32) from c33)
                  show MW mX6_readValues 0 0 64 [(0, vR 60), (1, vR 1), (2, vI x2)] [vI 0] g28 d29 Q
                  refine mw_if_eq (tgt := 80) (pc' := 67) dX6_readValues_64 rfl (by decide) (fun _ => ?_) (fun q => absurd q (by decide))
                  refine mw_iconst (pc' := 81) dX6_readValues_80 rfl ⟨by decide, by decide⟩ ?_
                  exact mw_iret (pc' := 0) (S := []) dX6_readValues_81 rfl (Or.inr (Or.inl ⟨rfl, by decide, by decide⟩)) h26
            · exact mx_out rfl h26
          · replace h := h.2 c25
            refine mw_tabOut (pc' := 0) (tgt := 82) dX6_readValues_1 (by omega) (by decide) ?_
            refine mw_aload_n (v := vR 60) (pc' := 83) dX6_readValues_82 rfl rfl (Or.inl rfl) rfl ?_
            refine mw_aload_n (v := vR 1) (pc' := 84) dX6_readValues_83 rfl rfl (Or.inl rfl) rfl ?_
            refine mw_iconst (pc' := 85) dX6_readValues_84 rfl ⟨by decide, by decide⟩ ?_
            refine mw_callV (M' := mX6_readFirst) (A := [vR 1, vI 4]) (A' := [vR 60, vR 1, vI 4]) (S := []) (a := 60) (pc' := 88) dX6_readValues_85 rfl cl_RX6_99 cm_X6_readFirst cv_X6_readFirst ⟨by decide, by decide, by decide, by decide, by decide⟩ rfl rfl rfl ⟨by decide, by omega⟩ (by decide +kernel) (by decide +kernel) (Nat.le_of_ble_eq_true rfl) (MM.mono ?_ h)
            intro o g43 d44 h41
            rcases o with v42 | k
            · refine mw_top (fun hT => ?_)
              have hG : 76 ≤ g43.2.1 := hT.2
              show MW mX6_readValues 0 0 88 [(0, vR 60), (1, vR 1), (2, vI x2)] [vI v42] g43 d44 Q
              obtain ⟨o45, h41⟩ := h41
              exact mw_iret (pc' := 0) (S := []) dX6_readValues_88 rfl (Or.inr (Or.inl ⟨rfl, o45⟩)) h41
            · exact mx_out rfl h41
