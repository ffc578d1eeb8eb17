theorem fi_RX12_242_65 : FI RX12 242 65 15 := ⟨(show LK 65 = 12 by decide +kernel) ▸ fg_RX12_242, by decide +kernel, by decide +kernel, by decide⟩
theorem fr_RX12_35_65 : FR RX12 35 65 14 := ⟨(show LK 65 = 12 by decide +kernel) ▸ fg_RX12_35, by decide +kernel, by decide +kernel, by decide⟩
theorem sp_65_14 : ((65, 14, 72) : Int × Int × Int) ∈ SPl := by decide +kernel
theorem ln_72 : LN 72 = 120 := by decide +kernel
theorem lk_72 : LK 72 = 100 := by decide +kernel
theorem rc_65_15 : RC 65 15 = 0 := by decide +kernel
theorem fq_RX12_242_65 : FP RX12 242 (LK 65) 15 .int false := (show LK 65 = 12 by decide +kernel) ▸ fp_RX12_242
theorem eX12_command {g : mG} {d : mD} {Q : mQ} (h : (iI (4 * (d 65 15))) ∧ (((d 65 (18 : Int) = 0) → (¬ (d 65 7 ≤ d 65 17)) → 0 ≤ d 65 17 ∧ d 65 (17 : Int) < 60) ∧ ((((d 65 (18 : Int) = 0) ∧ ((¬ (d 65 7 ≤ d 65 17)) ∧ (d 69 (d 65 17) = 115))) → iI ((d 65 17) + 1)) ∧ ((((d 65 (18 : Int) = 0) ∧ ((¬ (d 65 7 ≤ d 65 17)) ∧ (d 69 (d 65 17) = 115))) → (¬ (d 65 7 ≤ (d 65 17) + 1)) → iI ((d 65 17) + 1)) ∧ ((((d 65 (18 : Int) = 0) ∧ ((¬ (d 65 7 ≤ d 65 17)) ∧ (d 69 (d 65 17) = 115))) → (¬ (d 65 7 ≤ (d 65 17) + 1)) → 0 ≤ (d 65 17) + 1 ∧ (d 65 17) + 1 < 60) ∧ (((((d 65 (18 : Int) = 0) ∧ ((¬ (d 65 7 ≤ d 65 17)) ∧ (d 69 (d 65 17) = 115))) ∧ ((¬ (d 65 7 ≤ (d 65 17) + 1)) ∧ (d 69 ((d 65 17) + 1) = 116))) → MM mX12_takeWord [vR 65, vI 115, vI 116, vI 97, vI 121, vI 0, vI 0] g d (fun o g19 d20 => match o with | .inl v18 => (0 ≤ 4 * (d 65 15) ∧ 4 * (d 65 15) < 120) ∧ ((iI ((4 * (d 65 15)) + 1)) ∧ (MM mX12_argument [vR 65, vI 4] g19 (ud d20 72 (4 * (d 65 15)) 115) (fun o g25 d26 => match o with | .inl v24 => (0 ≤ (4 * (d 65 15)) + 1 ∧ (4 * (d 65 15)) + 1 < 120) ∧ ((iI ((d26 65 15) + 1)) ∧ (Q (.inl 0) g25 (ud (ud d26 72 ((4 * (d 65 15)) + 1) v24) 65 15 ((d26 65 15) + 1)))) | .inr k => Q (.inr k) g25 d26))) | .inr k => Q (.inr k) g19 d20)) ∧ ((¬ (((d 65 (18 : Int) = 0) ∧ ((¬ (d 65 7 ≤ d 65 17)) ∧ (d 69 (d 65 17) = 115))) ∧ ((¬ (d 65 7 ≤ (d 65 17) + 1)) ∧ (d 69 ((d 65 17) + 1) = 116)))) → (((d 65 (18 : Int) = 0) ∧ ((¬ (d 65 7 ≤ d 65 17)) ∧ (d 69 (d 65 17) = 115))) → MM mX12_takeWord [vR 65, vI 115, vI 101, vI 114, vI 118, vI 101, vI 0] g d (fun o g38 d39 => match o with | .inl v37 => (0 ≤ 4 * (d 65 15) ∧ 4 * (d 65 15) < 120) ∧ ((iI ((4 * (d 65 15)) + 1)) ∧ (MM mX12_argument [vR 65, vI 1] g38 (ud d39 72 (4 * (d 65 15)) 118) (fun o g44 d45 => match o with | .inl v43 => (0 ≤ (4 * (d 65 15)) + 1 ∧ (4 * (d 65 15)) + 1 < 120) ∧ ((iI ((4 * (d 65 15)) + 2)) ∧ (MM mX12_argument [vR 65, vI 1] g44 (ud d45 72 ((4 * (d 65 15)) + 1) v43) (fun o g50 d51 => match o with | .inl v49 => (0 ≤ (4 * (d 65 15)) + 2 ∧ (4 * (d 65 15)) + 2 < 120) ∧ (MM mX12_take [vR 65, vI 32] g50 (ud d51 72 ((4 * (d 65 15)) + 2) v49) (fun o g55 d56 => match o with | .inl v54 => ((d56 65 18 = 0) → (¬ (d56 65 7 ≤ d56 65 17)) → 0 ≤ d56 65 17 ∧ d56 65 17 < 60) ∧ ((iI ((4 * (d 65 15)) + 3)) ∧ (((¬ ((¬ (d56 65 18 = 0)) ∨ ((d56 65 7 ≤ d56 65 17) ∨ (iT ((d56 69 (d56 65 17)) = 112) 0 (iT ((d56 69 (d56 65 17)) = 101) 1 (iT ((d56 69 (d56 65 17)) = 109) 2 (iT ((d56 69 (d56 65 17)) = 97) 3 (-1)))) = (-1))))) → 0 ≤ d56 65 17 ∧ d56 65 17 < 60) ∧ ((0 ≤ (4 * (d 65 15)) + 3 ∧ (4 * (d 65 15)) + 3 < 120) ∧ ((iI ((d56 65 17) + (bI (¬ ((¬ (d56 65 18 = 0)) ∨ ((d56 65 7 ≤ d56 65 17) ∨ (iT ((d56 69 (d56 65 17)) = 112) 0 (iT ((d56 69 (d56 65 17)) = 101) 1 (iT ((d56 69 (d56 65 17)) = 109) 2 (iT ((d56 69 (d56 65 17)) = 97) 3 (-1)))) = (-1)))))))) ∧ ((iI ((d56 65 15) + 1)) ∧ (Q (.inl 0) g55 (ud (ud (ud (ud d56 65 18 (bI ((¬ (d56 65 18 = 0)) ∨ ((d56 65 7 ≤ d56 65 17) ∨ (iT ((d56 69 (d56 65 17)) = 112) 0 (iT ((d56 69 (d56 65 17)) = 101) 1 (iT ((d56 69 (d56 65 17)) = 109) 2 (iT ((d56 69 (d56 65 17)) = 97) 3 (-1)))) = (-1)))))) 72 ((4 * (d 65 15)) + 3) (iT ((¬ (d56 65 18 = 0)) ∨ ((d56 65 7 ≤ d56 65 17) ∨ (iT ((d56 69 (d56 65 17)) = 112) 0 (iT ((d56 69 (d56 65 17)) = 101) 1 (iT ((d56 69 (d56 65 17)) = 109) 2 (iT ((d56 69 (d56 65 17)) = 97) 3 (-1)))) = (-1)))) 0 (d56 69 (d56 65 17)))) 65 17 ((d56 65 17) + (bI (¬ ((¬ (d56 65 18 = 0)) ∨ ((d56 65 7 ≤ d56 65 17) ∨ (iT ((d56 69 (d56 65 17)) = 112) 0 (iT ((d56 69 (d56 65 17)) = 101) 1 (iT ((d56 69 (d56 65 17)) = 109) 2 (iT ((d56 69 (d56 65 17)) = 97) 3 (-1)))) = (-1)))))))) 65 15 ((d56 65 15) + 1)))))))) | .inr k => Q (.inr k) g55 d56)) | .inr k => Q (.inr k) g50 d51))) | .inr k => Q (.inr k) g44 d45))) | .inr k => Q (.inr k) g38 d39)) ∧ ((¬ ((d 65 (18 : Int) = 0) ∧ ((¬ (d 65 7 ≤ d 65 17)) ∧ (d 69 (d 65 17) = 115)))) → (((d 65 (18 : Int) = 0) ∧ ((¬ (d 65 7 ≤ d 65 17)) ∧ (d 69 (d 65 17) = 100))) → MM mX12_takeWord [vR 65, vI 100, vI 97, vI 121, vI 0, vI 0, vI 0] g d (fun o g79 d80 => match o with | .inl v78 => (0 ≤ 4 * (d 65 15) ∧ 4 * (d 65 15) < 120) ∧ ((iI ((4 * (d 65 15)) + 1)) ∧ (((d80 65 (18 : Int) = 0) → (¬ (d80 65 7 ≤ d80 65 17)) → 0 ≤ d80 65 17 ∧ d80 65 (17 : Int) < 60) ∧ ((((d80 65 (18 : Int) = 0) ∧ ((¬ (d80 65 7 ≤ d80 65 17)) ∧ (d80 69 (d80 65 17) = 32))) → MM mX12_argument [vR 65, vI 4] g79 (ud d80 72 (4 * (d 65 15)) 100) (fun o g87 d88 => match o with | .inl v86 => (0 ≤ (4 * (d 65 15)) + 1 ∧ (4 * (d 65 15)) + 1 < 120) ∧ ((iI ((d88 65 15) + 1)) ∧ (Q (.inl 0) g87 (ud (ud d88 72 ((4 * (d 65 15)) + 1) v86) 65 15 ((d88 65 15) + 1)))) | .inr k => Q (.inr k) g87 d88)) ∧ ((¬ ((d80 65 (18 : Int) = 0) ∧ ((¬ (d80 65 7 ≤ d80 65 17)) ∧ (d80 69 (d80 65 17) = 32)))) → (0 ≤ (4 * (d 65 15)) + 1 ∧ (4 * (d 65 15)) + 1 < 120) ∧ ((iI ((d80 65 15) + 1)) ∧ (Q (.inl 0) g79 (ud (ud (ud d80 72 (4 * (d 65 15)) 100) 72 ((4 * (d 65 15)) + 1) 1) 65 15 ((d80 65 15) + 1)))))))) | .inr k => Q (.inr k) g79 d80)) ∧ ((¬ ((d 65 (18 : Int) = 0) ∧ ((¬ (d 65 7 ≤ d 65 17)) ∧ (d 69 (d 65 17) = 100)))) → (((d 65 (18 : Int) = 0) ∧ ((¬ (d 65 7 ≤ d 65 17)) ∧ (d 69 (d 65 17) = 108))) → MM mX12_takeWord [vR 65, vI 108, vI 105, vI 102, vI 116, vI 0, vI 0] g d (fun o g100 d101 => match o with | .inl v99 => (0 ≤ 4 * (d 65 15) ∧ 4 * (d 65 15) < 120) ∧ ((iI ((4 * (d 65 15)) + 1)) ∧ (MM mX12_argument [vR 65, vI 4] g100 (ud d101 72 (4 * (d 65 15)) 108) (fun o g106 d107 => match o with | .inl v105 => (0 ≤ (4 * (d 65 15)) + 1 ∧ (4 * (d 65 15)) + 1 < 120) ∧ ((iI ((d107 65 15) + 1)) ∧ (Q (.inl 0) g106 (ud (ud d107 72 ((4 * (d 65 15)) + 1) v105) 65 15 ((d107 65 15) + 1)))) | .inr k => Q (.inr k) g106 d107))) | .inr k => Q (.inr k) g100 d101)) ∧ ((¬ ((d 65 (18 : Int) = 0) ∧ ((¬ (d 65 7 ≤ d 65 17)) ∧ (d 69 (d 65 17) = 108)))) → (((d 65 (18 : Int) = 0) ∧ ((¬ (d 65 7 ≤ d 65 17)) ∧ (d 69 (d 65 17) = 109))) → MM mX12_takeWord [vR 65, vI 109, vI 111, vI 114, vI 101, vI 0, vI 0] g d (fun o g116 d117 => match o with | .inl v115 => (0 ≤ 4 * (d 65 15) ∧ 4 * (d 65 15) < 120) ∧ ((iI ((4 * (d 65 15)) + 1)) ∧ (MM mX12_argument [vR 65, vI 4] g116 (ud d117 72 (4 * (d 65 15)) 109) (fun o g122 d123 => match o with | .inl v121 => (0 ≤ (4 * (d 65 15)) + 1 ∧ (4 * (d 65 15)) + 1 < 120) ∧ ((iI ((4 * (d 65 15)) + 2)) ∧ (MM mX12_argument [vR 65, vI 4] g122 (ud d123 72 ((4 * (d 65 15)) + 1) v121) (fun o g128 d129 => match o with | .inl v127 => (0 ≤ (4 * (d 65 15)) + 2 ∧ (4 * (d 65 15)) + 2 < 120) ∧ ((iI ((d129 65 15) + 1)) ∧ (Q (.inl 0) g128 (ud (ud d129 72 ((4 * (d 65 15)) + 2) v127) 65 15 ((d129 65 15) + 1)))) | .inr k => Q (.inr k) g128 d129))) | .inr k => Q (.inr k) g122 d123))) | .inr k => Q (.inr k) g116 d117)) ∧ ((¬ ((d 65 (18 : Int) = 0) ∧ ((¬ (d 65 7 ≤ d 65 17)) ∧ (d 69 (d 65 17) = 109)))) → (((d 65 (18 : Int) = 0) ∧ ((¬ (d 65 7 ≤ d 65 17)) ∧ (d 69 (d 65 17) = 102))) → MM mX12_takeWord [vR 65, vI 102, vI 105, vI 108, vI 101, vI 0, vI 0] g d (fun o g136 d137 => match o with | .inl v135 => (0 ≤ 4 * (d 65 15) ∧ 4 * (d 65 15) < 120) ∧ ((iI ((4 * (d 65 15)) + 1)) ∧ (MM mX12_argument [vR 65, vI 4] g136 (ud d137 72 (4 * (d 65 15)) 102) (fun o g142 d143 => match o with | .inl v141 => (0 ≤ (4 * (d 65 15)) + 1 ∧ (4 * (d 65 15)) + 1 < 120) ∧ ((iI ((d143 65 15) + 1)) ∧ (Q (.inl 0) g142 (ud (ud d143 72 ((4 * (d 65 15)) + 1) v141) 65 15 ((d143 65 15) + 1)))) | .inr k => Q (.inr k) g142 d143))) | .inr k => Q (.inr k) g136 d137)) ∧ ((¬ ((d 65 (18 : Int) = 0) ∧ ((¬ (d 65 7 ≤ d 65 17)) ∧ (d 69 (d 65 17) = 102)))) → MM mX12_takeWord [vR 65, vI 104, vI 111, vI 108, vI 105, vI 100, vI 97] g d (fun o g148 d149 => match o with | .inl v147 => MM mX12_take [vR 65, vI 121] g148 d149 (fun o g152 d153 => match o with | .inl v151 => (0 ≤ 4 * (d 65 15) ∧ 4 * (d 65 15) < 120) ∧ ((iI ((4 * (d 65 15)) + 1)) ∧ (MM mX12_argument [vR 65, vI 4] g152 (ud d153 72 (4 * (d 65 15)) 104) (fun o g158 d159 => match o with | .inl v157 => (0 ≤ (4 * (d 65 15)) + 1 ∧ (4 * (d 65 15)) + 1 < 120) ∧ ((iI ((d159 65 15) + 1)) ∧ (Q (.inl 0) g158 (ud (ud d159 72 ((4 * (d 65 15)) + 1) v157) 65 15 ((d159 65 15) + 1)))) | .inr k => Q (.inr k) g158 d159))) | .inr k => Q (.inr k) g152 d153) | .inr k => Q (.inr k) g148 d149))))))))))))) : MM mX12_command [vR 65] g d Q := by
  refine MM_of (by decide) rfl (by simp [catV]) (Nat.le_of_ble_eq_true rfl) ?_
  show MW mX12_command 0 0 0 [(0, vR 65)] [] g d Q
  refine mw_top (fun hT => ?_)
  have hG : 76 ≤ g.2.1 := hT.2
  refine mw_iconst (pc' := 1) dX12_command_0 rfl ⟨by decide, by decide⟩ ?_
  refine mw_aload_n (v := vR 65) (pc' := 2) dX12_command_1 rfl rfl (Or.inl rfl) rfl ?_
  refine mw_getI (ji := 15) (pc' := 5) dX12_command_2 rfl fi_RX12_242_65 rfl ⟨by decide, by decide⟩ ?_
  obtain ⟨o1, h⟩ := h
  refine mw_imul (pc' := 6) dX12_command_5 rfl o1 ?_
  refine mw_istore_n (pc' := 7) (L' := [(0, vR 65), (1, vI (4 * (d 65 15)))]) dX12_command_6 rfl rfl (by decide) rfl ?_
  refine mw_aload_n (v := vR 65) (pc' := 8) dX12_command_7 rfl rfl (Or.inl rfl) rfl ?_
  refine mw_bipush (pc' := 10) dX12_command_8 rfl ⟨by decide, by decide⟩ ?_
  obtain ⟨o2, h⟩ := h
  refine mw_callV (M' := mX12_isAt) (A := [vI 115]) (A' := [vR 65, vI 115]) (S := []) (a := 65) (pc' := 13) dX12_command_10 rfl cl_RX12_227 cm_X12_isAt cv_X12_isAt ⟨by decide, by decide, by decide, by decide, by decide⟩ rfl rfl rfl ⟨by decide, by omega⟩ (by decide +kernel) (by decide +kernel) (Nat.le_of_ble_eq_true rfl) (eX12_isAt (⟨o2, ?_⟩))
  show MW mX12_command 0 0 13 [(0, vR 65), (1, vI (4 * (d 65 15)))] [vI (bI ((d 65 (18 : Int) = 0) ∧ ((¬ (d 65 7 ≤ d 65 17)) ∧ (d 69 (d 65 17) = 115))))] g d Q
  obtain ⟨o3, h⟩ := h
  obtain ⟨o4, h⟩ := h
  obtain ⟨o5, h⟩ := h
  suffices k6 : MW mX12_command 0 0 50 [(0, vR 65), (1, vI (4 * (d 65 15)))] [vI (bI (((d 65 (18 : Int) = 0) ∧ ((¬ (d 65 7 ≤ d 65 17)) ∧ (d 69 (d 65 17) = 115))) ∧ ((¬ (d 65 7 ≤ (d 65 17) + 1)) ∧ (d 69 ((d 65 17) + 1) = 116))))] g d Q by
    refine mw_if_eq (tgt := 49) (pc' := 16) dX12_command_13 rfl (by decide) (fun c7 => ?_) (fun c7 => ?_)
    · replace c7 := bI_0.mp c7
      refine mw_iconst (pc' := 50) dX12_command_49 rfl ⟨by decide, by decide⟩ ?_
      exact mw_st (bI_f (fun h => (c7 h.1))).symm k6
    · replace c7 := bI_n0.mp c7
      refine mw_aload_n (v := vR 65) (pc' := 17) dX12_command_16 rfl rfl (Or.inl rfl) rfl ?_
      refine mw_getI (ji := 17) (pc' := 20) dX12_command_17 rfl fi_RX12_224_65 rfl ⟨by decide, by decide⟩ ?_
      refine mw_iconst (pc' := 21) dX12_command_20 rfl ⟨by decide, by decide⟩ ?_
      refine mw_iadd (pc' := 22) dX12_command_21 rfl (o3 c7) ?_
      refine mw_aload_n (v := vR 65) (pc' := 23) dX12_command_22 rfl rfl (Or.inl rfl) rfl ?_
      refine mw_getI (ji := 7) (pc' := 26) dX12_command_23 rfl fi_RX12_59_65 rfl ⟨by decide, by decide⟩ ?_
      refine mw_icmp_ge (tgt := 49) (pc' := 29) dX12_command_26 rfl (by decide) (fun c8 => ?_) (fun c8 => ?_)
      · refine mw_iconst (pc' := 50) dX12_command_49 rfl ⟨by decide, by decide⟩ ?_
        exact mw_st (bI_f (fun h => (fun h => (h.1 c8)) h.2)).symm k6
      · refine mw_aload_n (v := vR 65) (pc' := 30) dX12_command_29 rfl rfl (Or.inl rfl) rfl ?_
        refine mw_getP (v := 69) (pc' := 33) dX12_command_30 rfl fr_RX12_19_65 rfl sp_65_6 ⟨by decide, by decide⟩ ?_
        refine mw_aload_n (v := vR 65) (pc' := 34) dX12_command_33 rfl rfl (Or.inl rfl) rfl ?_
        refine mw_getI (ji := 17) (pc' := 37) dX12_command_34 rfl fi_RX12_224_65 rfl ⟨by decide, by decide⟩ ?_
        refine mw_iconst (pc' := 38) dX12_command_37 rfl ⟨by decide, by decide⟩ ?_
        refine mw_iadd (pc' := 39) dX12_command_38 rfl (o4 c7 c8) ?_
        refine mw_iald (pc' := 40) dX12_command_39 rfl lk_69 ⟨by decide, by decide⟩ (by rw [ln_69]; exact (o5 c7 c8)) ?_
        refine mw_bipush (pc' := 42) dX12_command_40 rfl ⟨by decide, by decide⟩ ?_
        refine mw_icmp_ne (tgt := 49) (pc' := 45) dX12_command_42 rfl (by decide) (fun c9 => ?_) (fun c9 => ?_)
        · refine mw_iconst (pc' := 50) dX12_command_49 rfl ⟨by decide, by decide⟩ ?_
          exact mw_st (bI_f (fun h => (fun h => (fun h => (c9 h)) h.2) h.2)).symm k6
        · refine mw_iconst (pc' := 46) dX12_command_45 rfl ⟨by decide, by decide⟩ ?_
          refine mw_goto (pc' := 0) (tgt := 50) dX12_command_46 (by decide) ?_
          exact mw_st (bI_t ⟨c7, ⟨c8, c9⟩⟩).symm k6
  refine mw_istore_n (pc' := 51) (L' := [(0, vR 65), (1, vI (4 * (d 65 15))), (2, vI (bI (((d 65 (18 : Int) = 0) ∧ ((¬ (d 65 7 ≤ d 65 17)) ∧ (d 69 (d 65 17) = 115))) ∧ ((¬ (d 65 7 ≤ (d 65 17) + 1)) ∧ (d 69 ((d 65 17) + 1) = 116)))))]) dX12_command_50 rfl rfl (by decide) rfl ?_
  refine mw_iload_n (pc' := 52) dX12_command_51 rfl rfl rfl ?_
  refine mw_if_eq (tgt := 93) (pc' := 55) dX12_command_52 rfl (by decide) (fun c16 => ?_) (fun c16 => ?_)
  · replace c16 := bI_0.mp c16
    replace h := h.2 c16
    refine mw_aload_n (v := vR 65) (pc' := 94) dX12_command_93 rfl rfl (Or.inl rfl) rfl ?_
    refine mw_bipush (pc' := 96) dX12_command_94 rfl ⟨by decide, by decide⟩ ?_
    refine mw_callV (M' := mX12_isAt) (A := [vI 115]) (A' := [vR 65, vI 115]) (S := []) (a := 65) (pc' := 99) dX12_command_96 rfl cl_RX12_227 cm_X12_isAt cv_X12_isAt ⟨by decide, by decide, by decide, by decide, by decide⟩ rfl rfl rfl ⟨by decide, by omega⟩ (by decide +kernel) (by decide +kernel) (Nat.le_of_ble_eq_true rfl) (eX12_isAt (⟨o2, ?_⟩))
    show MW mX12_command 0 0 99 [(0, vR 65), (1, vI (4 * (d 65 15))), (2, vI (bI (((d 65 (18 : Int) = 0) ∧ ((¬ (d 65 7 ≤ d 65 17)) ∧ (d 69 (d 65 17) = 115))) ∧ ((¬ (d 65 7 ≤ (d 65 17) + 1)) ∧ (d 69 ((d 65 17) + 1) = 116)))))] [vI (bI ((d 65 (18 : Int) = 0) ∧ ((¬ (d 65 7 ≤ d 65 17)) ∧ (d 69 (d 65 17) = 115))))] g d Q
    refine mw_if_eq (tgt := 252) (pc' := 102) dX12_command_99 rfl (by decide) (fun c35 => ?_) (fun c35 => ?_)
    · replace c35 := bI_0.mp c35
      replace h := h.2 c35
      refine mw_aload_n (v := vR 65) (pc' := 253) dX12_command_252 rfl rfl (Or.inl rfl) rfl ?_
      refine mw_bipush (pc' := 255) dX12_command_253 rfl ⟨by decide, by decide⟩ ?_
      refine mw_callV (M' := mX12_isAt) (A := [vI 100]) (A' := [vR 65, vI 100]) (S := []) (a := 65) (pc' := 258) dX12_command_255 rfl cl_RX12_227 cm_X12_isAt cv_X12_isAt ⟨by decide, by decide, by decide, by decide, by decide⟩ rfl rfl rfl ⟨by decide, by omega⟩ (by decide +kernel) (by decide +kernel) (Nat.le_of_ble_eq_true rfl) (eX12_isAt (⟨o2, ?_⟩))
      show MW mX12_command 0 0 258 [(0, vR 65), (1, vI (4 * (d 65 15))), (2, vI (bI (((d 65 (18 : Int) = 0) ∧ ((¬ (d 65 7 ≤ d 65 17)) ∧ (d 69 (d 65 17) = 115))) ∧ ((¬ (d 65 7 ≤ (d 65 17) + 1)) ∧ (d 69 ((d 65 17) + 1) = 116)))))] [vI (bI ((d 65 (18 : Int) = 0) ∧ ((¬ (d 65 7 ≤ d 65 17)) ∧ (d 69 (d 65 17) = 100))))] g d Q
      refine mw_if_eq (tgt := 311) (pc' := 261) dX12_command_258 rfl (by decide) (fun c76 => ?_) (fun c76 => ?_)
      · replace c76 := bI_0.mp c76
        replace h := h.2 c76
        refine mw_aload_n (v := vR 65) (pc' := 312) dX12_command_311 rfl rfl (Or.inl rfl) rfl ?_
        refine mw_bipush (pc' := 314) dX12_command_312 rfl ⟨by decide, by decide⟩ ?_
        refine mw_callV (M' := mX12_isAt) (A := [vI 108]) (A' := [vR 65, vI 108]) (S := []) (a := 65) (pc' := 317) dX12_command_314 rfl cl_RX12_227 cm_X12_isAt cv_X12_isAt ⟨by decide, by decide, by decide, by decide, by decide⟩ rfl rfl rfl ⟨by decide, by omega⟩ (by decide +kernel) (by decide +kernel) (Nat.le_of_ble_eq_true rfl) (eX12_isAt (⟨o2, ?_⟩))
        show MW mX12_command 0 0 317 [(0, vR 65), (1, vI (4 * (d 65 15))), (2, vI (bI (((d 65 (18 : Int) = 0) ∧ ((¬ (d 65 7 ≤ d 65 17)) ∧ (d 69 (d 65 17) = 115))) ∧ ((¬ (d 65 7 ≤ (d 65 17) + 1)) ∧ (d 69 ((d 65 17) + 1) = 116)))))] [vI (bI ((d 65 (18 : Int) = 0) ∧ ((¬ (d 65 7 ≤ d 65 17)) ∧ (d 69 (d 65 17) = 108))))] g d Q
        refine mw_if_eq (tgt := 358) (pc' := 320) dX12_command_317 rfl (by decide) (fun c97 => ?_) (fun c97 => ?_)
        · replace c97 := bI_0.mp c97
          replace h := h.2 c97
          refine mw_aload_n (v := vR 65) (pc' := 359) dX12_command_358 rfl rfl (Or.inl rfl) rfl ?_
          refine mw_bipush (pc' := 361) dX12_command_359 rfl ⟨by decide, by decide⟩ ?_
          refine mw_callV (M' := mX12_isAt) (A := [vI 109]) (A' := [vR 65, vI 109]) (S := []) (a := 65) (pc' := 364) dX12_command_361 rfl cl_RX12_227 cm_X12_isAt cv_X12_isAt ⟨by decide, by decide, by decide, by decide, by decide⟩ rfl rfl rfl ⟨by decide, by omega⟩ (by decide +kernel) (by decide +kernel) (Nat.le_of_ble_eq_true rfl) (eX12_isAt (⟨o2, ?_⟩))
          show MW mX12_command 0 0 364 [(0, vR 65), (1, vI (4 * (d 65 15))), (2, vI (bI (((d 65 (18 : Int) = 0) ∧ ((¬ (d 65 7 ≤ d 65 17)) ∧ (d 69 (d 65 17) = 115))) ∧ ((¬ (d 65 7 ≤ (d 65 17) + 1)) ∧ (d 69 ((d 65 17) + 1) = 116)))))] [vI (bI ((d 65 (18 : Int) = 0) ∧ ((¬ (d 65 7 ≤ d 65 17)) ∧ (d 69 (d 65 17) = 109))))] g d Q
          refine mw_if_eq (tgt := 418) (pc' := 367) dX12_command_364 rfl (by decide) (fun c113 => ?_) (fun c113 => ?_)
          · replace c113 := bI_0.mp c113
            replace h := h.2 c113
            refine mw_aload_n (v := vR 65) (pc' := 419) dX12_command_418 rfl rfl (Or.inl rfl) rfl ?_
            refine mw_bipush (pc' := 421) dX12_command_419 rfl ⟨by decide, by decide⟩ ?_
            refine mw_callV (M' := mX12_isAt) (A := [vI 102]) (A' := [vR 65, vI 102]) (S := []) (a := 65) (pc' := 424) dX12_command_421 rfl cl_RX12_227 cm_X12_isAt cv_X12_isAt ⟨by decide, by decide, by decide, by decide, by decide⟩ rfl rfl rfl ⟨by decide, by omega⟩ (by decide +kernel) (by decide +kernel) (Nat.le_of_ble_eq_true rfl) (eX12_isAt (⟨o2, ?_⟩))
            show MW mX12_command 0 0 424 [(0, vR 65), (1, vI (4 * (d 65 15))), (2, vI (bI (((d 65 (18 : Int) = 0) ∧ ((¬ (d 65 7 ≤ d 65 17)) ∧ (d 69 (d 65 17) = 115))) ∧ ((¬ (d 65 7 ≤ (d 65 17) + 1)) ∧ (d 69 ((d 65 17) + 1) = 116)))))] [vI (bI ((d 65 (18 : Int) = 0) ∧ ((¬ (d 65 7 ≤ d 65 17)) ∧ (d 69 (d 65 17) = 102))))] g d Q
            refine mw_if_eq (tgt := 465) (pc' := 427) dX12_command_424 rfl (by decide) (fun c133 => ?_) (fun c133 => ?_)
            · replace c133 := bI_0.mp c133
              replace h := h.2 c133
              refine mw_aload_n (v := vR 65) (pc' := 466) dX12_command_465 rfl rfl (Or.inl rfl) rfl ?_
              refine mw_bipush (pc' := 468) dX12_command_466 rfl ⟨by decide, by decide⟩ ?_
              refine mw_bipush (pc' := 470) dX12_command_468 rfl ⟨by decide, by decide⟩ ?_
              refine mw_bipush (pc' := 472) dX12_command_470 rfl ⟨by decide, by decide⟩ ?_
              refine mw_bipush (pc' := 474) dX12_command_472 rfl ⟨by decide, by decide⟩ ?_
              refine mw_bipush (pc' := 476) dX12_command_474 rfl ⟨by decide, by decide⟩ ?_
              refine mw_bipush (pc' := 478) dX12_command_476 rfl ⟨by decide, by decide⟩ ?_
              refine mw_callV (M' := mX12_takeWord) (A := [vI 104, vI 111, vI 108, vI 105, vI 100, vI 97]) (A' := [vR 65, vI 104, vI 111, vI 108, vI 105, vI 100, vI 97]) (S := []) (a := 65) (pc' := 481) dX12_command_478 rfl cl_RX12_245 cm_X12_takeWord cv_X12_takeWord ⟨by decide, by decide, by decide, by decide, by decide⟩ rfl rfl rfl ⟨by decide, by omega⟩ (by decide +kernel) (by decide +kernel) (Nat.le_of_ble_eq_true rfl) (MM.mono ?_ h)
              intro o g148 d149 h146
              rcases o with v147 | k
              · refine mw_top (fun hT => ?_)
                have hG : 76 ≤ g148.2.1 := hT.2
                show MW mX12_command 0 0 481 [(0, vR 65), (1, vI (4 * (d 65 15))), (2, vI (bI (((d 65 (18 : Int) = 0) ∧ ((¬ (d 65 7 ≤ d 65 17)) ∧ (d 69 (d 65 17) = 115))) ∧ ((¬ (d 65 7 ≤ (d 65 17) + 1)) ∧ (d 69 ((d 65 17) + 1) = 116)))))] [] g148 d149 Q
                refine mw_aload_n (v := vR 65) (pc' := 482) dX12_command_481 rfl rfl (Or.inl rfl) rfl ?_
                refine mw_bipush (pc' := 484) dX12_command_482 rfl ⟨by decide, by decide⟩ ?_
                refine mw_callV (M' := mX12_take) (A := [vI 121]) (A' := [vR 65, vI 121]) (S := []) (a := 65) (pc' := 487) dX12_command_484 rfl cl_RX12_230 cm_X12_take cv_X12_take ⟨by decide, by decide, by decide, by decide, by decide⟩ rfl rfl rfl ⟨by decide, by omega⟩ (by decide +kernel) (by decide +kernel) (Nat.le_of_ble_eq_true rfl) (MM.mono ?_ h146)
                intro o g152 d153 h150
                rcases o with v151 | k
                · refine mw_top (fun hT => ?_)
                  have hG : 76 ≤ g152.2.1 := hT.2
                  show MW mX12_command 0 0 487 [(0, vR 65), (1, vI (4 * (d 65 15))), (2, vI (bI (((d 65 (18 : Int) = 0) ∧ ((¬ (d 65 7 ≤ d 65 17)) ∧ (d 69 (d 65 17) = 115))) ∧ ((¬ (d 65 7 ≤ (d 65 17) + 1)) ∧ (d 69 ((d 65 17) + 1) = 116)))))] [] g152 d153 Q
                  refine mw_aload_n (v := vR 65) (pc' := 488) dX12_command_487 rfl rfl (Or.inl rfl) rfl ?_
                  refine mw_getP (v := 72) (pc' := 491) dX12_command_488 rfl fr_RX12_35_65 rfl sp_65_14 ⟨by decide, by decide⟩ ?_
                  refine mw_iload_n (pc' := 492) dX12_command_491 rfl rfl rfl ?_
                  refine mw_bipush (pc' := 494) dX12_command_492 rfl ⟨by decide, by decide⟩ ?_
                  obtain ⟨o154, h150⟩ := h150
                  refine mw_iast (pc' := 495) dX12_command_494 rfl lk_72 ⟨by decide, by decide⟩ (by rw [ln_72]; exact o154) ?_
                  refine mw_aload_n (v := vR 65) (pc' := 496) dX12_command_495 rfl rfl (Or.inl rfl) rfl ?_
                  refine mw_getP (v := 72) (pc' := 499) dX12_command_496 rfl fr_RX12_35_65 rfl sp_65_14 ⟨by decide, by decide⟩ ?_
                  refine mw_iload_n (pc' := 500) dX12_command_499 rfl rfl rfl ?_
                  refine mw_iconst (pc' := 501) dX12_command_500 rfl ⟨by decide, by decide⟩ ?_
                  obtain ⟨o155, h150⟩ := h150
                  refine mw_iadd (pc' := 502) dX12_command_501 rfl o155 ?_
                  refine mw_aload_n (v := vR 65) (pc' := 503) dX12_command_502 rfl rfl (Or.inl rfl) rfl ?_
                  refine mw_iconst (pc' := 504) dX12_command_503 rfl ⟨by decide, by decide⟩ ?_
                  refine mw_callV (M' := mX12_argument) (A := [vI 4]) (A' := [vR 65, vI 4]) (S := [vI ((4 * (d 65 15)) + 1), vR 72]) (a := 65) (pc' := 507) dX12_command_504 rfl cl_RX12_249 cm_X12_argument cv_X12_argument ⟨by decide, by decide, by decide, by decide, by decide⟩ rfl rfl rfl ⟨by decide, by omega⟩ (by decide +kernel) (by decide +kernel) (Nat.le_of_ble_eq_true rfl) (MM.mono ?_ h150)
                  intro o g158 d159 h156
                  rcases o with v157 | k
                  · refine mw_top (fun hT => ?_)
                    have hG : 76 ≤ g158.2.1 := hT.2
                    show MW mX12_command 0 0 507 [(0, vR 65), (1, vI (4 * (d 65 15))), (2, vI (bI (((d 65 (18 : Int) = 0) ∧ ((¬ (d 65 7 ≤ d 65 17)) ∧ (d 69 (d 65 17) = 115))) ∧ ((¬ (d 65 7 ≤ (d 65 17) + 1)) ∧ (d 69 ((d 65 17) + 1) = 116)))))] [vI v157, vI ((4 * (d 65 15)) + 1), vR 72] g158 d159 Q
                    obtain ⟨o160, h156⟩ := h156
                    refine mw_iast (pc' := 508) dX12_command_507 rfl lk_72 ⟨by decide, by decide⟩ (by rw [ln_72]; exact o160) ?_
                    refine mw_aload_n (v := vR 65) (pc' := 509) dX12_command_508 rfl rfl (Or.inl rfl) rfl ?_
                    refine mw_dup (pc' := 510) dX12_command_509 rfl rfl ?_
                    refine mw_getI (ji := 15) (pc' := 513) dX12_command_510 rfl fi_RX12_242_65 rfl ⟨by decide, by decide⟩ ?_
                    refine mw_st (b := d159 65 15) (udA (by decide) (rfl)) ?_
                    refine mw_iconst (pc' := 514) dX12_command_513 rfl ⟨by decide, by decide⟩ ?_
                    obtain ⟨o161, h156⟩ := h156
                    refine mw_iadd (pc' := 515) dX12_command_514 rfl o161 ?_
                    refine mw_putI (ji := 15) (pc' := 518) dX12_command_515 rfl (fq_RX12_242_65) (by decide +kernel) rfl (Or.inl ⟨rfl, rc_65_15⟩) (Or.inr rfl) ⟨by decide, by omega⟩ ?_
                    exact mw_vret (pc' := 0) (S := []) dX12_command_518 rfl h156
                  · exact mx_out rfl h156
                · exact mx_out rfl h150
              · exact mx_out rfl h146
            · replace c133 := bI_n0.mp c133
              replace h := h.1 c133
              refine mw_aload_n (v := vR 65) (pc' := 428) dX12_command_427 rfl rfl (Or.inl rfl) rfl ?_
              refine mw_bipush (pc' := 430) dX12_command_428 rfl ⟨by decide, by decide⟩ ?_
              refine mw_bipush (pc' := 432) dX12_command_430 rfl ⟨by decide, by decide⟩ ?_
              refine mw_bipush (pc' := 434) dX12_command_432 rfl ⟨by decide, by decide⟩ ?_
              refine mw_bipush (pc' := 436) dX12_command_434 rfl ⟨by decide, by decide⟩ ?_
              refine mw_iconst (pc' := 437) dX12_command_436 rfl ⟨by decide, by decide⟩ ?_
              refine mw_iconst (pc' := 438) dX12_command_437 rfl ⟨by decide, by decide⟩ ?_
              refine mw_callV (M' := mX12_takeWord) (A := [vI 102, vI 105, vI 108, vI 101, vI 0, vI 0]) (A' := [vR 65, vI 102, vI 105, vI 108, vI 101, vI 0, vI 0]) (S := []) (a := 65) (pc' := 441) dX12_command_438 rfl cl_RX12_245 cm_X12_takeWord cv_X12_takeWord ⟨by decide, by decide, by decide, by decide, by decide⟩ rfl rfl rfl ⟨by decide, by omega⟩ (by decide +kernel) (by decide +kernel) (Nat.le_of_ble_eq_true rfl) (MM.mono ?_ h)
              intro o g136 d137 h134
              rcases o with v135 | k
              · refine mw_top (fun hT => ?_)
                have hG : 76 ≤ g136.2.1 := hT.2
                show MW mX12_command 0 0 441 [(0, vR 65), (1, vI (4 * (d 65 15))), (2, vI (bI (((d 65 (18 : Int) = 0) ∧ ((¬ (d 65 7 ≤ d 65 17)) ∧ (d 69 (d 65 17) = 115))) ∧ ((¬ (d 65 7 ≤ (d 65 17) + 1)) ∧ (d 69 ((d 65 17) + 1) = 116)))))] [] g136 d137 Q
                refine mw_aload_n (v := vR 65) (pc' := 442) dX12_command_441 rfl rfl (Or.inl rfl) rfl ?_
                refine mw_getP (v := 72) (pc' := 445) dX12_command_442 rfl fr_RX12_35_65 rfl sp_65_14 ⟨by decide, by decide⟩ ?_
                refine mw_iload_n (pc' := 446) dX12_command_445 rfl rfl rfl ?_
                refine mw_bipush (pc' := 448) dX12_command_446 rfl ⟨by decide, by decide⟩ ?_
                obtain ⟨o138, h134⟩ := h134
                refine mw_iast (pc' := 449) dX12_command_448 rfl lk_72 ⟨by decide, by decide⟩ (by rw [ln_72]; exact o138) ?_
                refine mw_aload_n (v := vR 65) (pc' := 450) dX12_command_449 rfl rfl (Or.inl rfl) rfl ?_
                refine mw_getP (v := 72) (pc' := 453) dX12_command_450 rfl fr_RX12_35_65 rfl sp_65_14 ⟨by decide, by decide⟩ ?_
                refine mw_iload_n (pc' := 454) dX12_command_453 rfl rfl rfl ?_
                refine mw_iconst (pc' := 455) dX12_command_454 rfl ⟨by decide, by decide⟩ ?_
                obtain ⟨o139, h134⟩ := h134
                refine mw_iadd (pc' := 456) dX12_command_455 rfl o139 ?_
                refine mw_aload_n (v := vR 65) (pc' := 457) dX12_command_456 rfl rfl (Or.inl rfl) rfl ?_
                refine mw_iconst (pc' := 458) dX12_command_457 rfl ⟨by decide, by decide⟩ ?_
                refine mw_callV (M' := mX12_argument) (A := [vI 4]) (A' := [vR 65, vI 4]) (S := [vI ((4 * (d 65 15)) + 1), vR 72]) (a := 65) (pc' := 461) dX12_command_458 rfl cl_RX12_249 cm_X12_argument cv_X12_argument ⟨by decide, by decide, by decide, by decide, by decide⟩ rfl rfl rfl ⟨by decide, by omega⟩ (by decide +kernel) (by decide +kernel) (Nat.le_of_ble_eq_true rfl) (MM.mono ?_ h134)
                intro o g142 d143 h140
                rcases o with v141 | k
                · refine mw_top (fun hT => ?_)
                  have hG : 76 ≤ g142.2.1 := hT.2
                  show MW mX12_command 0 0 461 [(0, vR 65), (1, vI (4 * (d 65 15))), (2, vI (bI (((d 65 (18 : Int) = 0) ∧ ((¬ (d 65 7 ≤ d 65 17)) ∧ (d 69 (d 65 17) = 115))) ∧ ((¬ (d 65 7 ≤ (d 65 17) + 1)) ∧ (d 69 ((d 65 17) + 1) = 116)))))] [vI v141, vI ((4 * (d 65 15)) + 1), vR 72] g142 d143 Q
                  obtain ⟨o144, h140⟩ := h140
                  refine mw_iast (pc' := 462) dX12_command_461 rfl lk_72 ⟨by decide, by decide⟩ (by rw [ln_72]; exact o144) ?_
                  refine mw_goto (pc' := 0) (tgt := 508) dX12_command_462 (by decide) ?_
                  refine mw_aload_n (v := vR 65) (pc' := 509) dX12_command_508 rfl rfl (Or.inl rfl) rfl ?_
                  refine mw_dup (pc' := 510) dX12_command_509 rfl rfl ?_
                  refine mw_getI (ji := 15) (pc' := 513) dX12_command_510 rfl fi_RX12_242_65 rfl ⟨by decide, by decide⟩ ?_
                  refine mw_st (b := d143 65 15) (udA (by decide) (rfl)) ?_
                  refine mw_iconst (pc' := 514) dX12_command_513 rfl ⟨by decide, by decide⟩ ?_
                  obtain ⟨o145, h140⟩ := h140
                  refine mw_iadd (pc' := 515) dX12_command_514 rfl o145 ?_
                  refine mw_putI (ji := 15) (pc' := 518) dX12_command_515 rfl (fq_RX12_242_65) (by decide +kernel) rfl (Or.inl ⟨rfl, rc_65_15⟩) (Or.inr rfl) ⟨by decide, by omega⟩ ?_
                  exact mw_vret (pc' := 0) (S := []) dX12_command_518 rfl h140
                · exact mx_out rfl h140
              · exact mx_out rfl h134
          · replace c113 := bI_n0.mp c113
            replace h := h.1 c113
            refine mw_aload_n (v := vR 65) (pc' := 368) dX12_command_367 rfl rfl (Or.inl rfl) rfl ?_
            refine mw_bipush (pc' := 370) dX12_command_368 rfl ⟨by decide, by decide⟩ ?_
            refine mw_bipush (pc' := 372) dX12_command_370 rfl ⟨by decide, by decide⟩ ?_
            refine mw_bipush (pc' := 374) dX12_command_372 rfl ⟨by decide, by decide⟩ ?_
            refine mw_bipush (pc' := 376) dX12_command_374 rfl ⟨by decide, by decide⟩ ?_
            refine mw_iconst (pc' := 377) dX12_command_376 rfl ⟨by decide, by decide⟩ ?_
            refine mw_iconst (pc' := 378) dX12_command_377 rfl ⟨by decide, by decide⟩ ?_
            refine mw_callV (M' := mX12_takeWord) (A := [vI 109, vI 111, vI 114, vI 101, vI 0, vI 0]) (A' := [vR 65, vI 109, vI 111, vI 114, vI 101, vI 0, vI 0]) (S := []) (a := 65) (pc' := 381) dX12_command_378 rfl cl_RX12_245 cm_X12_takeWord cv_X12_takeWord ⟨by decide, by decide, by decide, by decide, by decide⟩ rfl rfl rfl ⟨by decide, by omega⟩ (by decide +kernel) (by decide +kernel) (Nat.le_of_ble_eq_true rfl) (MM.mono ?_ h)
            intro o g116 d117 h114
            rcases o with v115 | k
            · refine mw_top (fun hT => ?_)
              have hG : 76 ≤ g116.2.1 := hT.2
              show MW mX12_command 0 0 381 [(0, vR 65), (1, vI (4 * (d 65 15))), (2, vI (bI (((d 65 (18 : Int) = 0) ∧ ((¬ (d 65 7 ≤ d 65 17)) ∧ (d 69 (d 65 17) = 115))) ∧ ((¬ (d 65 7 ≤ (d 65 17) + 1)) ∧ (d 69 ((d 65 17) + 1) = 116)))))] [] g116 d117 Q
              refine mw_aload_n (v := vR 65) (pc' := 382) dX12_command_381 rfl rfl (Or.inl rfl) rfl ?_
              refine mw_getP (v := 72) (pc' := 385) dX12_command_382 rfl fr_RX12_35_65 rfl sp_65_14 ⟨by decide, by decide⟩ ?_
              refine mw_iload_n (pc' := 386) dX12_command_385 rfl rfl rfl ?_
              refine mw_bipush (pc' := 388) dX12_command_386 rfl ⟨by decide, by decide⟩ ?_
              obtain ⟨o118, h114⟩ := h114
              refine mw_iast (pc' := 389) dX12_command_388 rfl lk_72 ⟨by decide, by decide⟩ (by rw [ln_72]; exact o118) ?_
              refine mw_aload_n (v := vR 65) (pc' := 390) dX12_command_389 rfl rfl (Or.inl rfl) rfl ?_
              refine mw_getP (v := 72) (pc' := 393) dX12_command_390 rfl fr_RX12_35_65 rfl sp_65_14 ⟨by decide, by decide⟩ ?_
              refine mw_iload_n (pc' := 394) dX12_command_393 rfl rfl rfl ?_
              refine mw_iconst (pc' := 395) dX12_command_394 rfl ⟨by decide, by decide⟩ ?_
              obtain ⟨o119, h114⟩ := h114
              refine mw_iadd (pc' := 396) dX12_command_395 rfl o119 ?_
              refine mw_aload_n (v := vR 65) (pc' := 397) dX12_command_396 rfl rfl (Or.inl rfl) rfl ?_
              refine mw_iconst (pc' := 398) dX12_command_397 rfl ⟨by decide, by decide⟩ ?_
              refine mw_callV (M' := mX12_argument) (A := [vI 4]) (A' := [vR 65, vI 4]) (S := [vI ((4 * (d 65 15)) + 1), vR 72]) (a := 65) (pc' := 401) dX12_command_398 rfl cl_RX12_249 cm_X12_argument cv_X12_argument ⟨by decide, by decide, by decide, by decide, by decide⟩ rfl rfl rfl ⟨by decide, by omega⟩ (by decide +kernel) (by decide +kernel) (Nat.le_of_ble_eq_true rfl) (MM.mono ?_ h114)
              intro o g122 d123 h120
              rcases o with v121 | k
              · refine mw_top (fun hT => ?_)
                have hG : 76 ≤ g122.2.1 := hT.2
                show MW mX12_command 0 0 401 [(0, vR 65), (1, vI (4 * (d 65 15))), (2, vI (bI (((d 65 (18 : Int) = 0) ∧ ((¬ (d 65 7 ≤ d 65 17)) ∧ (d 69 (d 65 17) = 115))) ∧ ((¬ (d 65 7 ≤ (d 65 17) + 1)) ∧ (d 69 ((d 65 17) + 1) = 116)))))] [vI v121, vI ((4 * (d 65 15)) + 1), vR 72] g122 d123 Q
                obtain ⟨o124, h120⟩ := h120
                refine mw_iast (pc' := 402) dX12_command_401 rfl lk_72 ⟨by decide, by decide⟩ (by rw [ln_72]; exact o124) ?_
                refine mw_aload_n (v := vR 65) (pc' := 403) dX12_command_402 rfl rfl (Or.inl rfl) rfl ?_
                refine mw_getP (v := 72) (pc' := 406) dX12_command_403 rfl fr_RX12_35_65 rfl sp_65_14 ⟨by decide, by decide⟩ ?_
                refine mw_iload_n (pc' := 407) dX12_command_406 rfl rfl rfl ?_
                refine mw_iconst (pc' := 408) dX12_command_407 rfl ⟨by decide, by decide⟩ ?_
                obtain ⟨o125, h120⟩ := h120
                refine mw_iadd (pc' := 409) dX12_command_408 rfl o125 ?_
                refine mw_aload_n (v := vR 65) (pc' := 410) dX12_command_409 rfl rfl (Or.inl rfl) rfl ?_
                refine mw_iconst (pc' := 411) dX12_command_410 rfl ⟨by decide, by decide⟩ ?_
                refine mw_callV (M' := mX12_argument) (A := [vI 4]) (A' := [vR 65, vI 4]) (S := [vI ((4 * (d 65 15)) + 2), vR 72]) (a := 65) (pc' := 414) dX12_command_411 rfl cl_RX12_249 cm_X12_argument cv_X12_argument ⟨by decide, by decide, by decide, by decide, by decide⟩ rfl rfl rfl ⟨by decide, by omega⟩ (by decide +kernel) (by decide +kernel) (Nat.le_of_ble_eq_true rfl) (MM.mono ?_ h120)
                intro o g128 d129 h126
                rcases o with v127 | k
                · refine mw_top (fun hT => ?_)
                  have hG : 76 ≤ g128.2.1 := hT.2
                  show MW mX12_command 0 0 414 [(0, vR 65), (1, vI (4 * (d 65 15))), (2, vI (bI (((d 65 (18 : Int) = 0) ∧ ((¬ (d 65 7 ≤ d 65 17)) ∧ (d 69 (d 65 17) = 115))) ∧ ((¬ (d 65 7 ≤ (d 65 17) + 1)) ∧ (d 69 ((d 65 17) + 1) = 116)))))] [vI v127, vI ((4 * (d 65 15)) + 2), vR 72] g128 d129 Q
                  obtain ⟨o130, h126⟩ := h126
                  refine mw_iast (pc' := 415) dX12_command_414 rfl lk_72 ⟨by decide, by decide⟩ (by rw [ln_72]; exact o130) ?_
                  refine mw_goto (pc' := 0) (tgt := 508) dX12_command_415 (by decide) ?_
                  refine mw_aload_n (v := vR 65) (pc' := 509) dX12_command_508 rfl rfl (Or.inl rfl) rfl ?_
                  refine mw_dup (pc' := 510) dX12_command_509 rfl rfl ?_
                  refine mw_getI (ji := 15) (pc' := 513) dX12_command_510 rfl fi_RX12_242_65 rfl ⟨by decide, by decide⟩ ?_
                  refine mw_st (b := d129 65 15) (udA (by decide) (rfl)) ?_
                  refine mw_iconst (pc' := 514) dX12_command_513 rfl ⟨by decide, by decide⟩ ?_
                  obtain ⟨o131, h126⟩ := h126
                  refine mw_iadd (pc' := 515) dX12_command_514 rfl o131 ?_
                  refine mw_putI (ji := 15) (pc' := 518) dX12_command_515 rfl (fq_RX12_242_65) (by decide +kernel) rfl (Or.inl ⟨rfl, rc_65_15⟩) (Or.inr rfl) ⟨by decide, by omega⟩ ?_
                  exact mw_vret (pc' := 0) (S := []) dX12_command_518 rfl h126
                · exact mx_out rfl h126
              · exact mx_out rfl h120
            · exact mx_out rfl h114
        · replace c97 := bI_n0.mp c97
          replace h := h.1 c97
          refine mw_aload_n (v := vR 65) (pc' := 321) dX12_command_320 rfl rfl (Or.inl rfl) rfl ?_
          refine mw_bipush (pc' := 323) dX12_command_321 rfl ⟨by decide, by decide⟩ ?_
          refine mw_bipush (pc' := 325) dX12_command_323 rfl ⟨by decide, by decide⟩ ?_
          refine mw_bipush (pc' := 327) dX12_command_325 rfl ⟨by decide, by decide⟩ ?_
          refine mw_bipush (pc' := 329) dX12_command_327 rfl ⟨by decide, by decide⟩ ?_
          refine mw_iconst (pc' := 330) dX12_command_329 rfl ⟨by decide, by decide⟩ ?_
          refine mw_iconst (pc' := 331) dX12_command_330 rfl ⟨by decide, by decide⟩ ?_
          refine mw_callV (M' := mX12_takeWord) (A := [vI 108, vI 105, vI 102, vI 116, vI 0, vI 0]) (A' := [vR 65, vI 108, vI 105, vI 102, vI 116, vI 0, vI 0]) (S := []) (a := 65) (pc' := 334) dX12_command_331 rfl cl_RX12_245 cm_X12_takeWord cv_X12_takeWord ⟨by decide, by decide, by decide, by decide, by decide⟩ rfl rfl rfl ⟨by decide, by omega⟩ (by decide +kernel) (by decide +kernel) (Nat.le_of_ble_eq_true rfl) (MM.mono ?_ h)
          intro o g100 d101 h98
          rcases o with v99 | k
          · refine mw_top (fun hT => ?_)
            have hG : 76 ≤ g100.2.1 := hT.2
            show MW mX12_command 0 0 334 [(0, vR 65), (1, vI (4 * (d 65 15))), (2, vI (bI (((d 65 (18 : Int) = 0) ∧ ((¬ (d 65 7 ≤ d 65 17)) ∧ (d 69 (d 65 17) = 115))) ∧ ((¬ (d 65 7 ≤ (d 65 17) + 1)) ∧ (d 69 ((d 65 17) + 1) = 116)))))] [] g100 d101 Q
            refine mw_aload_n (v := vR 65) (pc' := 335) dX12_command_334 rfl rfl (Or.inl rfl) rfl ?_
            refine mw_getP (v := 72) (pc' := 338) dX12_command_335 rfl fr_RX12_35_65 rfl sp_65_14 ⟨by decide, by decide⟩ ?_
            refine mw_iload_n (pc' := 339) dX12_command_338 rfl rfl rfl ?_
            refine mw_bipush (pc' := 341) dX12_command_339 rfl ⟨by decide, by decide⟩ ?_
            obtain ⟨o102, h98⟩ := h98
            refine mw_iast (pc' := 342) dX12_command_341 rfl lk_72 ⟨by decide, by decide⟩ (by rw [ln_72]; exact o102) ?_
            refine mw_aload_n (v := vR 65) (pc' := 343) dX12_command_342 rfl rfl (Or.inl rfl) rfl ?_
            refine mw_getP (v := 72) (pc' := 346) dX12_command_343 rfl fr_RX12_35_65 rfl sp_65_14 ⟨by decide, by decide⟩ ?_
            refine mw_iload_n (pc' := 347) dX12_command_346 rfl rfl rfl ?_
            refine mw_iconst (pc' := 348) dX12_command_347 rfl ⟨by decide, by decide⟩ ?_
            obtain ⟨o103, h98⟩ := h98
            refine mw_iadd (pc' := 349) dX12_command_348 rfl o103 ?_
            refine mw_aload_n (v := vR 65) (pc' := 350) dX12_command_349 rfl rfl (Or.inl rfl) rfl ?_
            refine mw_iconst (pc' := 351) dX12_command_350 rfl ⟨by decide, by decide⟩ ?_
            refine mw_callV (M' := mX12_argument) (A := [vI 4]) (A' := [vR 65, vI 4]) (S := [vI ((4 * (d 65 15)) + 1), vR 72]) (a := 65) (pc' := 354) dX12_command_351 rfl cl_RX12_249 cm_X12_argument cv_X12_argument ⟨by decide, by decide, by decide, by decide, by decide⟩ rfl rfl rfl ⟨by decide, by omega⟩ (by decide +kernel) (by decide +kernel) (Nat.le_of_ble_eq_true rfl) (MM.mono ?_ h98)
            intro o g106 d107 h104
            rcases o with v105 | k
            · refine mw_top (fun hT => ?_)
              have hG : 76 ≤ g106.2.1 := hT.2
              show MW mX12_command 0 0 354 [(0, vR 65), (1, vI (4 * (d 65 15))), (2, vI (bI (((d 65 (18 : Int) = 0) ∧ ((¬ (d 65 7 ≤ d 65 17)) ∧ (d 69 (d 65 17) = 115))) ∧ ((¬ (d 65 7 ≤ (d 65 17) + 1)) ∧ (d 69 ((d 65 17) + 1) = 116)))))] [vI v105, vI ((4 * (d 65 15)) + 1), vR 72] g106 d107 Q
              obtain ⟨o108, h104⟩ := h104
              refine mw_iast (pc' := 355) dX12_command_354 rfl lk_72 ⟨by decide, by decide⟩ (by rw [ln_72]; exact o108) ?_
              refine mw_goto (pc' := 0) (tgt := 508) dX12_command_355 (by decide) ?_
              refine mw_aload_n (v := vR 65) (pc' := 509) dX12_command_508 rfl rfl (Or.inl rfl) rfl ?_
              refine mw_dup (pc' := 510) dX12_command_509 rfl rfl ?_
              refine mw_getI (ji := 15) (pc' := 513) dX12_command_510 rfl fi_RX12_242_65 rfl ⟨by decide, by decide⟩ ?_
              refine mw_st (b := d107 65 15) (udA (by decide) (rfl)) ?_
              refine mw_iconst (pc' := 514) dX12_command_513 rfl ⟨by decide, by decide⟩ ?_
              obtain ⟨o109, h104⟩ := h104
              refine mw_iadd (pc' := 515) dX12_command_514 rfl o109 ?_
              refine mw_putI (ji := 15) (pc' := 518) dX12_command_515 rfl (fq_RX12_242_65) (by decide +kernel) rfl (Or.inl ⟨rfl, rc_65_15⟩) (Or.inr rfl) ⟨by decide, by omega⟩ ?_
              exact mw_vret (pc' := 0) (S := []) dX12_command_518 rfl h104
            · exact mx_out rfl h104
          · exact mx_out rfl h98
      · replace c76 := bI_n0.mp c76
        replace h := h.1 c76
        refine mw_aload_n (v := vR 65) (pc' := 262) dX12_command_261 rfl rfl (Or.inl rfl) rfl ?_
        refine mw_bipush (pc' := 264) dX12_command_262 rfl ⟨by decide, by decide⟩ ?_
        refine mw_bipush (pc' := 266) dX12_command_264 rfl ⟨by decide, by decide⟩ ?_
        refine mw_bipush (pc' := 268) dX12_command_266 rfl ⟨by decide, by decide⟩ ?_
        refine mw_iconst (pc' := 269) dX12_command_268 rfl ⟨by decide, by decide⟩ ?_
        refine mw_iconst (pc' := 270) dX12_command_269 rfl ⟨by decide, by decide⟩ ?_
        refine mw_iconst (pc' := 271) dX12_command_270 rfl ⟨by decide, by decide⟩ ?_
        refine mw_callV (M' := mX12_takeWord) (A := [vI 100, vI 97, vI 121, vI 0, vI 0, vI 0]) (A' := [vR 65, vI 100, vI 97, vI 121, vI 0, vI 0, vI 0]) (S := []) (a := 65) (pc' := 274) dX12_command_271 rfl cl_RX12_245 cm_X12_takeWord cv_X12_takeWord ⟨by decide, by decide, by decide, by decide, by decide⟩ rfl rfl rfl ⟨by decide, by omega⟩ (by decide +kernel) (by decide +kernel) (Nat.le_of_ble_eq_true rfl) (MM.mono ?_ h)
        intro o g79 d80 h77
        rcases o with v78 | k
        · refine mw_top (fun hT => ?_)
          have hG : 76 ≤ g79.2.1 := hT.2
          show MW mX12_command 0 0 274 [(0, vR 65), (1, vI (4 * (d 65 15))), (2, vI (bI (((d 65 (18 : Int) = 0) ∧ ((¬ (d 65 7 ≤ d 65 17)) ∧ (d 69 (d 65 17) = 115))) ∧ ((¬ (d 65 7 ≤ (d 65 17) + 1)) ∧ (d 69 ((d 65 17) + 1) = 116)))))] [] g79 d80 Q
          refine mw_aload_n (v := vR 65) (pc' := 275) dX12_command_274 rfl rfl (Or.inl rfl) rfl ?_
          refine mw_getP (v := 72) (pc' := 278) dX12_command_275 rfl fr_RX12_35_65 rfl sp_65_14 ⟨by decide, by decide⟩ ?_
          refine mw_iload_n (pc' := 279) dX12_command_278 rfl rfl rfl ?_
          refine mw_bipush (pc' := 281) dX12_command_279 rfl ⟨by decide, by decide⟩ ?_
          obtain ⟨o81, h77⟩ := h77
          refine mw_iast (pc' := 282) dX12_command_281 rfl lk_72 ⟨by decide, by decide⟩ (by rw [ln_72]; exact o81) ?_
          refine mw_aload_n (v := vR 65) (pc' := 283) dX12_command_282 rfl rfl (Or.inl rfl) rfl ?_
          refine mw_getP (v := 72) (pc' := 286) dX12_command_283 rfl fr_RX12_35_65 rfl sp_65_14 ⟨by decide, by decide⟩ ?_
          refine mw_iload_n (pc' := 287) dX12_command_286 rfl rfl rfl ?_
          refine mw_iconst (pc' := 288) dX12_command_287 rfl ⟨by decide, by decide⟩ ?_
          obtain ⟨o82, h77⟩ := h77
          refine mw_iadd (pc' := 289) dX12_command_288 rfl o82 ?_
          refine mw_aload_n (v := vR 65) (pc' := 290) dX12_command_289 rfl rfl (Or.inl rfl) rfl ?_
          refine mw_bipush (pc' := 292) dX12_command_290 rfl ⟨by decide, by decide⟩ ?_
          obtain ⟨o83, h77⟩ := h77
          refine mw_callV (M' := mX12_isAt) (A := [vI 32]) (A' := [vR 65, vI 32]) (S := [vI ((4 * (d 65 15)) + 1), vR 72]) (a := 65) (pc' := 295) dX12_command_292 rfl cl_RX12_227 cm_X12_isAt cv_X12_isAt ⟨by decide, by decide, by decide, by decide, by decide⟩ rfl rfl rfl ⟨by decide, by omega⟩ (by decide +kernel) (by decide +kernel) (Nat.le_of_ble_eq_true rfl) (eX12_isAt (⟨o83, ?_⟩))
          show MW mX12_command 0 0 295 [(0, vR 65), (1, vI (4 * (d 65 15))), (2, vI (bI (((d 65 (18 : Int) = 0) ∧ ((¬ (d 65 7 ≤ d 65 17)) ∧ (d 69 (d 65 17) = 115))) ∧ ((¬ (d 65 7 ≤ (d 65 17) + 1)) ∧ (d 69 ((d 65 17) + 1) = 116)))))] [vI (bI ((d80 65 (18 : Int) = 0) ∧ ((¬ (d80 65 7 ≤ d80 65 17)) ∧ (d80 69 (d80 65 17) = 32)))), vI ((4 * (d 65 15)) + 1), vR 72] g79 (ud d80 72 (4 * (d 65 15)) 100) Q
          refine mw_if_eq (tgt := 306) (pc' := 298) dX12_command_295 rfl (by decide) (fun c84 => ?_) (fun c84 => ?_)
          · replace c84 := bI_0.mp c84
            replace h77 := h77.2 c84
            refine mw_iconst (pc' := 307) dX12_command_306 rfl ⟨by decide, by decide⟩ ?_
            obtain ⟨o91, h77⟩ := h77
            refine mw_iast (pc' := 308) dX12_command_307 rfl lk_72 ⟨by decide, by decide⟩ (by rw [ln_72]; exact o91) ?_
            refine mw_goto (pc' := 0) (tgt := 508) dX12_command_308 (by decide) ?_
            refine mw_aload_n (v := vR 65) (pc' := 509) dX12_command_508 rfl rfl (Or.inl rfl) rfl ?_
            refine mw_dup (pc' := 510) dX12_command_509 rfl rfl ?_
            refine mw_getI (ji := 15) (pc' := 513) dX12_command_510 rfl fi_RX12_242_65 rfl ⟨by decide, by decide⟩ ?_
            refine mw_st (b := d80 65 15) (udA (by decide) (udA (by decide) (rfl))) ?_
            refine mw_iconst (pc' := 514) dX12_command_513 rfl ⟨by decide, by decide⟩ ?_
            obtain ⟨o92, h77⟩ := h77
            refine mw_iadd (pc' := 515) dX12_command_514 rfl o92 ?_
            refine mw_putI (ji := 15) (pc' := 518) dX12_command_515 rfl (fq_RX12_242_65) (by decide +kernel) rfl (Or.inl ⟨rfl, rc_65_15⟩) (Or.inr rfl) ⟨by decide, by omega⟩ ?_
            exact mw_vret (pc' := 0) (S := []) dX12_command_518 rfl h77
          · replace c84 := bI_n0.mp c84
            replace h77 := h77.1 c84
            refine mw_aload_n (v := vR 65) (pc' := 299) dX12_command_298 rfl rfl (Or.inl rfl) rfl ?_
            refine mw_iconst (pc' := 300) dX12_command_299 rfl ⟨by decide, by decide⟩ ?_
            refine mw_callV (M' := mX12_argument) (A := [vI 4]) (A' := [vR 65, vI 4]) (S := [vI ((4 * (d 65 15)) + 1), vR 72]) (a := 65) (pc' := 303) dX12_command_300 rfl cl_RX12_249 cm_X12_argument cv_X12_argument ⟨by decide, by decide, by decide, by decide, by decide⟩ rfl rfl rfl ⟨by decide, by omega⟩ (by decide +kernel) (by decide +kernel) (Nat.le_of_ble_eq_true rfl) (MM.mono ?_ h77)
            intro o g87 d88 h85
            rcases o with v86 | k
            · refine mw_top (fun hT => ?_)
              have hG : 76 ≤ g87.2.1 := hT.2
              show MW mX12_command 0 0 303 [(0, vR 65), (1, vI (4 * (d 65 15))), (2, vI (bI (((d 65 (18 : Int) = 0) ∧ ((¬ (d 65 7 ≤ d 65 17)) ∧ (d 69 (d 65 17) = 115))) ∧ ((¬ (d 65 7 ≤ (d 65 17) + 1)) ∧ (d 69 ((d 65 17) + 1) = 116)))))] [vI v86, vI ((4 * (d 65 15)) + 1), vR 72] g87 d88 Q
              refine mw_goto (pc' := 0) (tgt := 307) dX12_command_303 (by decide) ?_
              obtain ⟨o89, h85⟩ := h85
              refine mw_iast (pc' := 308) dX12_command_307 rfl lk_72 ⟨by decide, by decide⟩ (by rw [ln_72]; exact o89) ?_
              refine mw_goto (pc' := 0) (tgt := 508) dX12_command_308 (by decide) ?_
              refine mw_aload_n (v := vR 65) (pc' := 509) dX12_command_508 rfl rfl (Or.inl rfl) rfl ?_
              refine mw_dup (pc' := 510) dX12_command_509 rfl rfl ?_
              refine mw_getI (ji := 15) (pc' := 513) dX12_command_510 rfl fi_RX12_242_65 rfl ⟨by decide, by decide⟩ ?_
              refine mw_st (b := d88 65 15) (udA (by decide) (rfl)) ?_
              refine mw_iconst (pc' := 514) dX12_command_513 rfl ⟨by decide, by decide⟩ ?_
              obtain ⟨o90, h85⟩ := h85
              refine mw_iadd (pc' := 515) dX12_command_514 rfl o90 ?_
              refine mw_putI (ji := 15) (pc' := 518) dX12_command_515 rfl (fq_RX12_242_65) (by decide +kernel) rfl (Or.inl ⟨rfl, rc_65_15⟩) (Or.inr rfl) ⟨by decide, by omega⟩ ?_
              exact mw_vret (pc' := 0) (S := []) dX12_command_518 rfl h85
            · exact mx_out rfl h85
        · exact mx_out rfl h77
    · replace c35 := bI_n0.mp c35
      replace h := h.1 c35
      refine mw_aload_n (v := vR 65) (pc' := 103) dX12_command_102 rfl rfl (Or.inl rfl) rfl ?_
      refine mw_bipush (pc' := 105) dX12_command_103 rfl ⟨by decide, by decide⟩ ?_
      refine mw_bipush (pc' := 107) dX12_command_105 rfl ⟨by decide, by decide⟩ ?_
      refine mw_bipush (pc' := 109) dX12_command_107 rfl ⟨by decide, by decide⟩ ?_
      refine mw_bipush (pc' := 111) dX12_command_109 rfl ⟨by decide, by decide⟩ ?_
      refine mw_bipush (pc' := 113) dX12_command_111 rfl ⟨by decide, by decide⟩ ?_
      refine mw_iconst (pc' := 114) dX12_command_113 rfl ⟨by decide, by decide⟩ ?_
      refine mw_callV (M' := mX12_takeWord) (A := [vI 115, vI 101, vI 114, vI 118, vI 101, vI 0]) (A' := [vR 65, vI 115, vI 101, vI 114, vI 118, vI 101, vI 0]) (S := []) (a := 65) (pc' := 117) dX12_command_114 rfl cl_RX12_245 cm_X12_takeWord cv_X12_takeWord ⟨by decide, by decide, by decide, by decide, by decide⟩ rfl rfl rfl ⟨by decide, by omega⟩ (by decide +kernel) (by decide +kernel) (Nat.le_of_ble_eq_true rfl) (MM.mono ?_ h)
      intro o g38 d39 h36
      rcases o with v37 | k
      · refine mw_top (fun hT => ?_)
        have hG : 76 ≤ g38.2.1 := hT.2
        show MW mX12_command 0 0 117 [(0, vR 65), (1, vI (4 * (d 65 15))), (2, vI (bI (((d 65 (18 : Int) = 0) ∧ ((¬ (d 65 7 ≤ d 65 17)) ∧ (d 69 (d 65 17) = 115))) ∧ ((¬ (d 65 7 ≤ (d 65 17) + 1)) ∧ (d 69 ((d 65 17) + 1) = 116)))))] [] g38 d39 Q
        refine mw_aload_n (v := vR 65) (pc' := 118) dX12_command_117 rfl rfl (Or.inl rfl) rfl ?_
        refine mw_getP (v := 72) (pc' := 121) dX12_command_118 rfl fr_RX12_35_65 rfl sp_65_14 ⟨by decide, by decide⟩ ?_
        refine mw_iload_n (pc' := 122) dX12_command_121 rfl rfl rfl ?_
        refine mw_bipush (pc' := 124) dX12_command_122 rfl ⟨by decide, by decide⟩ ?_
        obtain ⟨o40, h36⟩ := h36
        refine mw_iast (pc' := 125) dX12_command_124 rfl lk_72 ⟨by decide, by decide⟩ (by rw [ln_72]; exact o40) ?_
        refine mw_aload_n (v := vR 65) (pc' := 126) dX12_command_125 rfl rfl (Or.inl rfl) rfl ?_
        refine mw_getP (v := 72) (pc' := 129) dX12_command_126 rfl fr_RX12_35_65 rfl sp_65_14 ⟨by decide, by decide⟩ ?_
        refine mw_iload_n (pc' := 130) dX12_command_129 rfl rfl rfl ?_
        refine mw_iconst (pc' := 131) dX12_command_130 rfl ⟨by decide, by decide⟩ ?_
        obtain ⟨o41, h36⟩ := h36
        refine mw_iadd (pc' := 132) dX12_command_131 rfl o41 ?_
        refine mw_aload_n (v := vR 65) (pc' := 133) dX12_command_132 rfl rfl (Or.inl rfl) rfl ?_
        refine mw_iconst (pc' := 134) dX12_command_133 rfl ⟨by decide, by decide⟩ ?_
        refine mw_callV (M' := mX12_argument) (A := [vI 1]) (A' := [vR 65, vI 1]) (S := [vI ((4 * (d 65 15)) + 1), vR 72]) (a := 65) (pc' := 137) dX12_command_134 rfl cl_RX12_249 cm_X12_argument cv_X12_argument ⟨by decide, by decide, by decide, by decide, by decide⟩ rfl rfl rfl ⟨by decide, by omega⟩ (by decide +kernel) (by decide +kernel) (Nat.le_of_ble_eq_true rfl) (MM.mono ?_ h36)
        intro o g44 d45 h42
        rcases o with v43 | k
        · refine mw_top (fun hT => ?_)
          have hG : 76 ≤ g44.2.1 := hT.2
          show MW mX12_command 0 0 137 [(0, vR 65), (1, vI (4 * (d 65 15))), (2, vI (bI (((d 65 (18 : Int) = 0) ∧ ((¬ (d 65 7 ≤ d 65 17)) ∧ (d 69 (d 65 17) = 115))) ∧ ((¬ (d 65 7 ≤ (d 65 17) + 1)) ∧ (d 69 ((d 65 17) + 1) = 116)))))] [vI v43, vI ((4 * (d 65 15)) + 1), vR 72] g44 d45 Q
          obtain ⟨o46, h42⟩ := h42
          refine mw_iast (pc' := 138) dX12_command_137 rfl lk_72 ⟨by decide, by decide⟩ (by rw [ln_72]; exact o46) ?_
          refine mw_aload_n (v := vR 65) (pc' := 139) dX12_command_138 rfl rfl (Or.inl rfl) rfl ?_
          refine mw_getP (v := 72) (pc' := 142) dX12_command_139 rfl fr_RX12_35_65 rfl sp_65_14 ⟨by decide, by decide⟩ ?_
          refine mw_iload_n (pc' := 143) dX12_command_142 rfl rfl rfl ?_
          refine mw_iconst (pc' := 144) dX12_command_143 rfl ⟨by decide, by decide⟩ ?_
          obtain ⟨o47, h42⟩ := h42
          refine mw_iadd (pc' := 145) dX12_command_144 rfl o47 ?_
          refine mw_aload_n (v := vR 65) (pc' := 146) dX12_command_145 rfl rfl (Or.inl rfl) rfl ?_
          refine mw_iconst (pc' := 147) dX12_command_146 rfl ⟨by decide, by decide⟩ ?_
          refine mw_callV (M' := mX12_argument) (A := [vI 1]) (A' := [vR 65, vI 1]) (S := [vI ((4 * (d 65 15)) + 2), vR 72]) (a := 65) (pc' := 150) dX12_command_147 rfl cl_RX12_249 cm_X12_argument cv_X12_argument ⟨by decide, by decide, by decide, by decide, by decide⟩ rfl rfl rfl ⟨by decide, by omega⟩ (by decide +kernel) (by decide +kernel) (Nat.le_of_ble_eq_true rfl) (MM.mono ?_ h42)
          intro o g50 d51 h48
          rcases o with v49 | k
          · refine mw_top (fun hT => ?_)
            have hG : 76 ≤ g50.2.1 := hT.2
            show MW mX12_command 0 0 150 [(0, vR 65), (1, vI (4 * (d 65 15))), (2, vI (bI (((d 65 (18 : Int) = 0) ∧ ((¬ (d 65 7 ≤ d 65 17)) ∧ (d 69 (d 65 17) = 115))) ∧ ((¬ (d 65 7 ≤ (d 65 17) + 1)) ∧ (d 69 ((d 65 17) + 1) = 116)))))] [vI v49, vI ((4 * (d 65 15)) + 2), vR 72] g50 d51 Q
            obtain ⟨o52, h48⟩ := h48
            refine mw_iast (pc' := 151) dX12_command_150 rfl lk_72 ⟨by decide, by decide⟩ (by rw [ln_72]; exact o52) ?_
            refine mw_aload_n (v := vR 65) (pc' := 152) dX12_command_151 rfl rfl (Or.inl rfl) rfl ?_
            refine mw_bipush (pc' := 154) dX12_command_152 rfl ⟨by decide, by decide⟩ ?_
            refine mw_callV (M' := mX12_take) (A := [vI 32]) (A' := [vR 65, vI 32]) (S := []) (a := 65) (pc' := 157) dX12_command_154 rfl cl_RX12_230 cm_X12_take cv_X12_take ⟨by decide, by decide, by decide, by decide, by decide⟩ rfl rfl rfl ⟨by decide, by omega⟩ (by decide +kernel) (by decide +kernel) (Nat.le_of_ble_eq_true rfl) (MM.mono ?_ h48)
            intro o g55 d56 h53
            rcases o with v54 | k
            · refine mw_top (fun hT => ?_)
              have hG : 76 ≤ g55.2.1 := hT.2
              show MW mX12_command 0 0 157 [(0, vR 65), (1, vI (4 * (d 65 15))), (2, vI (bI (((d 65 (18 : Int) = 0) ∧ ((¬ (d 65 7 ≤ d 65 17)) ∧ (d 69 (d 65 17) = 115))) ∧ ((¬ (d 65 7 ≤ (d 65 17) + 1)) ∧ (d 69 ((d 65 17) + 1) = 116)))))] [] g55 d56 Q
              refine mw_aload_n (v := vR 65) (pc' := 158) dX12_command_157 rfl rfl (Or.inl rfl) rfl ?_
              refine mw_aload_n (v := vR 65) (pc' := 159) dX12_command_158 rfl rfl (Or.inl rfl) rfl ?_
              refine mw_getI (ji := 18) (pc' := 162) dX12_command_159 rfl fi_RX12_221_65 rfl ⟨by decide, by decide⟩ ?_
              obtain ⟨o57, h53⟩ := h53
              suffices k58 : MW mX12_command 0 0 197 [(0, vR 65), (1, vI (4 * (d 65 15))), (2, vI (bI (((d 65 (18 : Int) = 0) ∧ ((¬ (d 65 7 ≤ d 65 17)) ∧ (d 69 (d 65 17) = 115))) ∧ ((¬ (d 65 7 ≤ (d 65 17) + 1)) ∧ (d 69 ((d 65 17) + 1) = 116)))))] [vI (bI ((¬ (d56 65 18 = 0)) ∨ ((d56 65 7 ≤ d56 65 17) ∨ (iT ((d56 69 (d56 65 17)) = 112) 0 (iT ((d56 69 (d56 65 17)) = 101) 1 (iT ((d56 69 (d56 65 17)) = 109) 2 (iT ((d56 69 (d56 65 17)) = 97) 3 (-1)))) = (-1))))), vR 65] g55 d56 Q by
                refine mw_if_ne (tgt := 192) (pc' := 165) dX12_command_162 rfl (by decide) (fun c59 => ?_) (fun c59 => ?_)
                · refine mw_iconst (pc' := 193) dX12_command_192 rfl ⟨by decide, by decide⟩ ?_
                  refine mw_goto (pc' := 0) (tgt := 197) dX12_command_193 (by decide) ?_
                  exact mw_st (bI_t (Or.inl c59)).symm k58
                · refine mw_aload_n (v := vR 65) (pc' := 166) dX12_command_165 rfl rfl (Or.inl rfl) rfl ?_
                  refine mw_getI (ji := 17) (pc' := 169) dX12_command_166 rfl fi_RX12_224_65 rfl ⟨by decide, by decide⟩ ?_
                  refine mw_aload_n (v := vR 65) (pc' := 170) dX12_command_169 rfl rfl (Or.inl rfl) rfl ?_
                  refine mw_getI (ji := 7) (pc' := 173) dX12_command_170 rfl fi_RX12_59_65 rfl ⟨by decide, by decide⟩ ?_
                  refine mw_icmp_ge (tgt := 192) (pc' := 176) dX12_command_173 rfl (by decide) (fun c60 => ?_) (fun c60 => ?_)
                  · refine mw_iconst (pc' := 193) dX12_command_192 rfl ⟨by decide, by decide⟩ ?_
                    refine mw_goto (pc' := 0) (tgt := 197) dX12_command_193 (by decide) ?_
                    exact mw_st (bI_t (Or.inr (Or.inl c60))).symm k58
                  · refine mw_aload_n (v := vR 65) (pc' := 177) dX12_command_176 rfl rfl (Or.inl rfl) rfl ?_
                    refine mw_getP (v := 69) (pc' := 180) dX12_command_177 rfl fr_RX12_19_65 rfl sp_65_6 ⟨by decide, by decide⟩ ?_
                    refine mw_aload_n (v := vR 65) (pc' := 181) dX12_command_180 rfl rfl (Or.inl rfl) rfl ?_
                    refine mw_getI (ji := 17) (pc' := 184) dX12_command_181 rfl fi_RX12_224_65 rfl ⟨by decide, by decide⟩ ?_
                    refine mw_iald (pc' := 185) dX12_command_184 rfl lk_69 ⟨by decide, by decide⟩ (by rw [ln_69]; exact (o57 c59 c60)) ?_
                    refine mw_callS (M' := mX12_wayOf) (A := [vI (d56 69 (d56 65 17))]) (S := [vR 65]) (pc' := 188) dX12_command_185 rfl cl_RX12_122 cm_X12_wayOf cs_X12_wayOf ⟨by decide, by decide, by decide, by decide, by decide⟩ rfl rfl (Nat.le_of_ble_eq_true rfl) (eX12_wayOf ?_)
                    show MW mX12_command 0 0 188 [(0, vR 65), (1, vI (4 * (d 65 15))), (2, vI (bI (((d 65 (18 : Int) = 0) ∧ ((¬ (d 65 7 ≤ d 65 17)) ∧ (d 69 (d 65 17) = 115))) ∧ ((¬ (d 65 7 ≤ (d 65 17) + 1)) ∧ (d 69 ((d 65 17) + 1) = 116)))))] [vI (iT ((d56 69 (d56 65 17)) = 112) 0 (iT ((d56 69 (d56 65 17)) = 101) 1 (iT ((d56 69 (d56 65 17)) = 109) 2 (iT ((d56 69 (d56 65 17)) = 97) 3 (-1))))), vR 65] g55 d56 Q
                    refine mw_iconst (pc' := 189) dX12_command_188 rfl ⟨by decide, by decide⟩ ?_
                    refine mw_icmp_ne (tgt := 196) (pc' := 192) dX12_command_189 rfl (by decide) (fun c61 => ?_) (fun c61 => ?_)
                    · refine mw_iconst (pc' := 197) dX12_command_196 rfl ⟨by decide, by decide⟩ ?_
                      exact mw_st (bI_f (fun h => h.elim (fun q => (q c59)) (fun h => h.elim (fun q => (c60 q)) (fun h => (c61 h))))).symm k58
                    · refine mw_iconst (pc' := 193) dX12_command_192 rfl ⟨by decide, by decide⟩ ?_
                      refine mw_goto (pc' := 0) (tgt := 197) dX12_command_193 (by decide) ?_
                      exact mw_st (bI_t (Or.inr (Or.inr c61))).symm k58
              refine mw_putI (ji := 18) (pc' := 200) dX12_command_197 rfl (fq_RX12_221_65) (by decide +kernel) rfl (Or.inr ⟨rfl, rc_65_18⟩) (Or.inl (by rw [rc_65_18]; exact bI_rng)) ⟨by decide, by omega⟩ ?_
              refine mw_aload_n (v := vR 65) (pc' := 201) dX12_command_200 rfl rfl (Or.inl rfl) rfl ?_
              refine mw_getP (v := 72) (pc' := 204) dX12_command_201 rfl fr_RX12_35_65 rfl sp_65_14 ⟨by decide, by decide⟩ ?_
              refine mw_iload_n (pc' := 205) dX12_command_204 rfl rfl rfl ?_
              refine mw_iconst (pc' := 206) dX12_command_205 rfl ⟨by decide, by decide⟩ ?_
              obtain ⟨o62, h53⟩ := h53
              refine mw_iadd (pc' := 207) dX12_command_206 rfl o62 ?_
              refine mw_aload_n (v := vR 65) (pc' := 208) dX12_command_207 rfl rfl (Or.inl rfl) rfl ?_
              refine mw_getI (ji := 18) (pc' := 211) dX12_command_208 rfl fi_RX12_221_65 rfl ⟨by decide, by decide⟩ ?_
              refine mw_st (b := bI ((¬ (d56 65 18 = 0)) ∨ ((d56 65 7 ≤ d56 65 17) ∨ (iT ((d56 69 (d56 65 17)) = 112) 0 (iT ((d56 69 (d56 65 17)) = 101) 1 (iT ((d56 69 (d56 65 17)) = 109) 2 (iT ((d56 69 (d56 65 17)) = 97) 3 (-1)))) = (-1))))) (udS) ?_
              obtain ⟨o63, h53⟩ := h53
              suffices k64 : MW mX12_command 0 0 227 [(0, vR 65), (1, vI (4 * (d 65 15))), (2, vI (bI (((d 65 (18 : Int) = 0) ∧ ((¬ (d 65 7 ≤ d 65 17)) ∧ (d 69 (d 65 17) = 115))) ∧ ((¬ (d 65 7 ≤ (d 65 17) + 1)) ∧ (d 69 ((d 65 17) + 1) = 116)))))] [vI (iT ((¬ (d56 65 18 = 0)) ∨ ((d56 65 7 ≤ d56 65 17) ∨ (iT ((d56 69 (d56 65 17)) = 112) 0 (iT ((d56 69 (d56 65 17)) = 101) 1 (iT ((d56 69 (d56 65 17)) = 109) 2 (iT ((d56 69 (d56 65 17)) = 97) 3 (-1)))) = (-1)))) 0 (d56 69 (d56 65 17))), vI ((4 * (d 65 15)) + 3), vR 72] g55 (ud d56 65 18 (bI ((¬ (d56 65 18 = 0)) ∨ ((d56 65 7 ≤ d56 65 17) ∨ (iT ((d56 69 (d56 65 17)) = 112) 0 (iT ((d56 69 (d56 65 17)) = 101) 1 (iT ((d56 69 (d56 65 17)) = 109) 2 (iT ((d56 69 (d56 65 17)) = 97) 3 (-1)))) = (-1)))))) Q by
                refine mw_if_eq (tgt := 218) (pc' := 214) dX12_command_211 rfl (by decide) (fun c65 => ?_) (fun c65 => ?_)
                · replace c65 := bI_0.mp c65
                  refine mw_aload_n (v := vR 65) (pc' := 219) dX12_command_218 rfl rfl (Or.inl rfl) rfl ?_
                  refine mw_getP (v := 69) (pc' := 222) dX12_command_219 rfl fr_RX12_19_65 rfl sp_65_6 ⟨by decide, by decide⟩ ?_
                  refine mw_aload_n (v := vR 65) (pc' := 223) dX12_command_222 rfl rfl (Or.inl rfl) rfl ?_
                  refine mw_getI (ji := 17) (pc' := 226) dX12_command_223 rfl fi_RX12_224_65 rfl ⟨by decide, by decide⟩ ?_
                  refine mw_st (b := d56 65 17) (udI (by decide) (rfl)) ?_
                  refine mw_iald (pc' := 227) dX12_command_226 rfl lk_69 ⟨by decide, by decide⟩ (by rw [ln_69]; exact (o63 c65)) ?_
                  refine mw_st (b := d56 69 (d56 65 17)) (udA (by decide) (rfl)) ?_
                  exact mw_st (((iT_f c65).trans rfl)).symm k64
                · replace c65 := bI_n0.mp c65
                  refine mw_iconst (pc' := 215) dX12_command_214 rfl ⟨by decide, by decide⟩ ?_
                  refine mw_goto (pc' := 0) (tgt := 227) dX12_command_215 (by decide) ?_
                  exact mw_st (((iT_t c65).trans rfl)).symm k64
              obtain ⟨o66, h53⟩ := h53
              refine mw_iast (pc' := 228) dX12_command_227 rfl lk_72 ⟨by decide, by decide⟩ (by rw [ln_72]; exact o66) ?_
              refine mw_aload_n (v := vR 65) (pc' := 229) dX12_command_228 rfl rfl (Or.inl rfl) rfl ?_
              refine mw_dup (pc' := 230) dX12_command_229 rfl rfl ?_
              refine mw_getI (ji := 17) (pc' := 233) dX12_command_230 rfl fi_RX12_224_65 rfl ⟨by decide, by decide⟩ ?_
              refine mw_st (b := d56 65 17) (udA (by decide) (udI (by decide) (rfl))) ?_
              refine mw_aload_n (v := vR 65) (pc' := 234) dX12_command_233 rfl rfl (Or.inl rfl) rfl ?_
              refine mw_getI (ji := 18) (pc' := 237) dX12_command_234 rfl fi_RX12_221_65 rfl ⟨by decide, by decide⟩ ?_
              refine mw_st (b := bI ((¬ (d56 65 18 = 0)) ∨ ((d56 65 7 ≤ d56 65 17) ∨ (iT ((d56 69 (d56 65 17)) = 112) 0 (iT ((d56 69 (d56 65 17)) = 101) 1 (iT ((d56 69 (d56 65 17)) = 109) 2 (iT ((d56 69 (d56 65 17)) = 97) 3 (-1)))) = (-1))))) (udA (by decide) (udS)) ?_
              suffices k67 : MW mX12_command 0 0 245 [(0, vR 65), (1, vI (4 * (d 65 15))), (2, vI (bI (((d 65 (18 : Int) = 0) ∧ ((¬ (d 65 7 ≤ d 65 17)) ∧ (d 69 (d 65 17) = 115))) ∧ ((¬ (d 65 7 ≤ (d 65 17) + 1)) ∧ (d 69 ((d 65 17) + 1) = 116)))))] [vI (bI (¬ ((¬ (d56 65 18 = 0)) ∨ ((d56 65 7 ≤ d56 65 17) ∨ (iT ((d56 69 (d56 65 17)) = 112) 0 (iT ((d56 69 (d56 65 17)) = 101) 1 (iT ((d56 69 (d56 65 17)) = 109) 2 (iT ((d56 69 (d56 65 17)) = 97) 3 (-1)))) = (-1)))))), vI (d56 65 17), vR 65] g55 (ud (ud d56 65 18 (bI ((¬ (d56 65 18 = 0)) ∨ ((d56 65 7 ≤ d56 65 17) ∨ (iT ((d56 69 (d56 65 17)) = 112) 0 (iT ((d56 69 (d56 65 17)) = 101) 1 (iT ((d56 69 (d56 65 17)) = 109) 2 (iT ((d56 69 (d56 65 17)) = 97) 3 (-1)))) = (-1)))))) 72 ((4 * (d 65 15)) + 3) (iT ((¬ (d56 65 18 = 0)) ∨ ((d56 65 7 ≤ d56 65 17) ∨ (iT ((d56 69 (d56 65 17)) = 112) 0 (iT ((d56 69 (d56 65 17)) = 101) 1 (iT ((d56 69 (d56 65 17)) = 109) 2 (iT ((d56 69 (d56 65 17)) = 97) 3 (-1)))) = (-1)))) 0 (d56 69 (d56 65 17)))) Q by
                refine mw_if_eq (tgt := 244) (pc' := 240) dX12_command_237 rfl (by decide) (fun c68 => ?_) (fun c68 => ?_)
                · replace c68 := bI_0.mp c68
                  refine mw_iconst (pc' := 245) dX12_command_244 rfl ⟨by decide, by decide⟩ ?_
                  exact mw_st (bI_t c68).symm k67
                · replace c68 := bI_n0.mp c68
                  refine mw_iconst (pc' := 241) dX12_command_240 rfl ⟨by decide, by decide⟩ ?_
                  refine mw_goto (pc' := 0) (tgt := 245) dX12_command_241 (by decide) ?_
                  exact mw_st (bI_f (fun h => (h c68))).symm k67
              obtain ⟨o69, h53⟩ := h53
              refine mw_iadd (pc' := 246) dX12_command_245 rfl o69 ?_
              refine mw_putI (ji := 17) (pc' := 249) dX12_command_246 rfl (fq_RX12_224_65) (by decide +kernel) rfl (Or.inl ⟨rfl, rc_65_17⟩) (Or.inr rfl) ⟨by decide, by omega⟩ ?_
              refine mw_goto (pc' := 0) (tgt := 508) dX12_command_249 (by decide) ?_
              refine mw_aload_n (v := vR 65) (pc' := 509) dX12_command_508 rfl rfl (Or.inl rfl) rfl ?_
              refine mw_dup (pc' := 510) dX12_command_509 rfl rfl ?_
              refine mw_getI (ji := 15) (pc' := 513) dX12_command_510 rfl fi_RX12_242_65 rfl ⟨by decide, by decide⟩ ?_
              refine mw_st (b := d56 65 15) (udI (by decide) (udA (by decide) (udI (by decide) (rfl)))) ?_
              refine mw_iconst (pc' := 514) dX12_command_513 rfl ⟨by decide, by decide⟩ ?_
              obtain ⟨o70, h53⟩ := h53
              refine mw_iadd (pc' := 515) dX12_command_514 rfl o70 ?_
              refine mw_putI (ji := 15) (pc' := 518) dX12_command_515 rfl (fq_RX12_242_65) (by decide +kernel) rfl (Or.inl ⟨rfl, rc_65_15⟩) (Or.inr rfl) ⟨by decide, by omega⟩ ?_
              exact mw_vret (pc' := 0) (S := []) dX12_command_518 rfl h53
            · exact mx_out rfl h53
          · exact mx_out rfl h48
        · exact mx_out rfl h42
      · exact mx_out rfl h36
  · replace c16 := bI_n0.mp c16
    replace h := h.1 c16
    refine mw_aload_n (v := vR 65) (pc' := 56) dX12_command_55 rfl rfl (Or.inl rfl) rfl ?_
    refine mw_bipush (pc' := 58) dX12_command_56 rfl ⟨by decide, by decide⟩ ?_
    refine mw_bipush (pc' := 60) dX12_command_58 rfl ⟨by decide, by decide⟩ ?_
    refine mw_bipush (pc' := 62) dX12_command_60 rfl ⟨by decide, by decide⟩ ?_
    refine mw_bipush (pc' := 64) dX12_command_62 rfl ⟨by decide, by decide⟩ ?_
    refine mw_iconst (pc' := 65) dX12_command_64 rfl ⟨by decide, by decide⟩ ?_
    refine mw_iconst (pc' := 66) dX12_command_65 rfl ⟨by decide, by decide⟩ ?_
    refine mw_callV (M' := mX12_takeWord) (A := [vI 115, vI 116, vI 97, vI 121, vI 0, vI 0]) (A' := [vR 65, vI 115, vI 116, vI 97, vI 121, vI 0, vI 0]) (S := []) (a := 65) (pc' := 69) dX12_command_66 rfl cl_RX12_245 cm_X12_takeWord cv_X12_takeWord ⟨by decide, by decide, by decide, by decide, by decide⟩ rfl rfl rfl ⟨by decide, by omega⟩ (by decide +kernel) (by decide +kernel) (Nat.le_of_ble_eq_true rfl) (MM.mono ?_ h)
    intro o g19 d20 h17
    rcases o with v18 | k
    · refine mw_top (fun hT => ?_)
      have hG : 76 ≤ g19.2.1 := hT.2
      show MW mX12_command 0 0 69 [(0, vR 65), (1, vI (4 * (d 65 15))), (2, vI (bI (((d 65 (18 : Int) = 0) ∧ ((¬ (d 65 7 ≤ d 65 17)) ∧ (d 69 (d 65 17) = 115))) ∧ ((¬ (d 65 7 ≤ (d 65 17) + 1)) ∧ (d 69 ((d 65 17) + 1) = 116)))))] [] g19 d20 Q
      refine mw_aload_n (v := vR 65) (pc' := 70) dX12_command_69 rfl rfl (Or.inl rfl) rfl ?_
      refine mw_getP (v := 72) (pc' := 73) dX12_command_70 rfl fr_RX12_35_65 rfl sp_65_14 ⟨by decide, by decide⟩ ?_
      refine mw_iload_n (pc' := 74) dX12_command_73 rfl rfl rfl ?_
      refine mw_bipush (pc' := 76) dX12_command_74 rfl ⟨by decide, by decide⟩ ?_
      obtain ⟨o21, h17⟩ := h17
      refine mw_iast (pc' := 77) dX12_command_76 rfl lk_72 ⟨by decide, by decide⟩ (by rw [ln_72]; exact o21) ?_
      refine mw_aload_n (v := vR 65) (pc' := 78) dX12_command_77 rfl rfl (Or.inl rfl) rfl ?_
      refine mw_getP (v := 72) (pc' := 81) dX12_command_78 rfl fr_RX12_35_65 rfl sp_65_14 ⟨by decide, by decide⟩ ?_
      refine mw_iload_n (pc' := 82) dX12_command_81 rfl rfl rfl ?_
      refine mw_iconst (pc' := 83) dX12_command_82 rfl ⟨by decide, by decide⟩ ?_
      obtain ⟨o22, h17⟩ := h17
      refine mw_iadd (pc' := 84) dX12_command_83 rfl o22 ?_
      refine mw_aload_n (v := vR 65) (pc' := 85) dX12_command_84 rfl rfl (Or.inl rfl) rfl ?_
      refine mw_iconst (pc' := 86) dX12_command_85 rfl ⟨by decide, by decide⟩ ?_
      refine mw_callV (M' := mX12_argument) (A := [vI 4]) (A' := [vR 65, vI 4]) (S := [vI ((4 * (d 65 15)) + 1), vR 72]) (a := 65) (pc' := 89) dX12_command_86 rfl cl_RX12_249 cm_X12_argument cv_X12_argument ⟨by decide, by decide, by decide, by decide, by decide⟩ rfl rfl rfl ⟨by decide, by omega⟩ (by decide +kernel) (by decide +kernel) (Nat.le_of_ble_eq_true rfl) (MM.mono ?_ h17)
      intro o g25 d26 h23
      rcases o with v24 | k
      · refine mw_top (fun hT => ?_)
        have hG : 76 ≤ g25.2.1 := hT.2
        show MW mX12_command 0 0 89 [(0, vR 65), (1, vI (4 * (d 65 15))), (2, vI (bI (((d 65 (18 : Int) = 0) ∧ ((¬ (d 65 7 ≤ d 65 17)) ∧ (d 69 (d 65 17) = 115))) ∧ ((¬ (d 65 7 ≤ (d 65 17) + 1)) ∧ (d 69 ((d 65 17) + 1) = 116)))))] [vI v24, vI ((4 * (d 65 15)) + 1), vR 72] g25 d26 Q
        obtain ⟨o27, h23⟩ := h23
        refine mw_iast (pc' := 90) dX12_command_89 rfl lk_72 ⟨by decide, by decide⟩ (by rw [ln_72]; exact o27) ?_
        refine mw_goto (pc' := 0) (tgt := 508) dX12_command_90 (by decide) ?_
        refine mw_aload_n (v := vR 65) (pc' := 509) dX12_command_508 rfl rfl (Or.inl rfl) rfl ?_
        refine mw_dup (pc' := 510) dX12_command_509 rfl rfl ?_
        refine mw_getI (ji := 15) (pc' := 513) dX12_command_510 rfl fi_RX12_242_65 rfl ⟨by decide, by decide⟩ ?_
        refine mw_st (b := d26 65 15) (udA (by decide) (rfl)) ?_
        refine mw_iconst (pc' := 514) dX12_command_513 rfl ⟨by decide, by decide⟩ ?_
        obtain ⟨o28, h23⟩ := h23
        refine mw_iadd (pc' := 515) dX12_command_514 rfl o28 ?_
        refine mw_putI (ji := 15) (pc' := 518) dX12_command_515 rfl (fq_RX12_242_65) (by decide +kernel) rfl (Or.inl ⟨rfl, rc_65_15⟩) (Or.inr rfl) ⟨by decide, by omega⟩ ?_
        exact mw_vret (pc' := 0) (S := []) dX12_command_518 rfl h23
      · exact mx_out rfl h23
    · exact mx_out rfl h17
def pX12_readProgram_1 (g : mG) (d : mD) (Q : mQ) : Prop := MW mX12_readProgram 0 0 19 [(0, vR 65)] [] g d Q
theorem eX12_readProgram {g : mG} {d : mD} {Q : mQ} (h : MM mX12_command [vR 65] g (ud (ud (ud d 65 17 0) 65 18 0) 65 15 0) (fun o g3 d4 => match o with | .inl v2 => pX12_readProgram_1 g3 d4 Q | .inr k => Q (.inr k) g3 d4)) : MM mX12_readProgram [vR 65] g d Q := by
  refine MM_of (by decide) rfl (by simp [catV]) (Nat.le_of_ble_eq_true rfl) ?_
  show MW mX12_readProgram 0 0 0 [(0, vR 65)] [] g d Q
  refine mw_top (fun hT => ?_)
  have hG : 76 ≤ g.2.1 := hT.2
  refine mw_aload_n (v := vR 65) (pc' := 1) dX12_readProgram_0 rfl rfl (Or.inl rfl) rfl ?_
  refine mw_iconst (pc' := 2) dX12_readProgram_1 rfl ⟨by decide, by decide⟩ ?_
  refine mw_putI (ji := 17) (pc' := 5) dX12_readProgram_2 rfl (fq_RX12_224_65) (by decide +kernel) rfl (Or.inl ⟨rfl, rc_65_17⟩) (Or.inr rfl) ⟨by decide, by omega⟩ ?_
  refine mw_aload_n (v := vR 65) (pc' := 6) dX12_readProgram_5 rfl rfl (Or.inl rfl) rfl ?_
  refine mw_iconst (pc' := 7) dX12_readProgram_6 rfl ⟨by decide, by decide⟩ ?_
  refine mw_putI (ji := 18) (pc' := 10) dX12_readProgram_7 rfl (fq_RX12_221_65) (by decide +kernel) rfl (Or.inr ⟨rfl, rc_65_18⟩) (Or.inl (by rw [rc_65_18]; exact ⟨by decide, by decide⟩)) ⟨by decide, by omega⟩ ?_
  refine mw_aload_n (v := vR 65) (pc' := 11) dX12_readProgram_10 rfl rfl (Or.inl rfl) rfl ?_
  refine mw_iconst (pc' := 12) dX12_readProgram_11 rfl ⟨by decide, by decide⟩ ?_
  refine mw_putI (ji := 15) (pc' := 15) dX12_readProgram_12 rfl (fq_RX12_242_65) (by decide +kernel) rfl (Or.inl ⟨rfl, rc_65_15⟩) (Or.inr rfl) ⟨by decide, by omega⟩ ?_
  refine mw_aload_n (v := vR 65) (pc' := 16) dX12_readProgram_15 rfl rfl (Or.inl rfl) rfl ?_
  refine mw_callV (M' := mX12_command) (A := []) (A' := [vR 65]) (S := []) (a := 65) (pc' := 19) dX12_readProgram_16 rfl cl_RX12_252 cm_X12_command cv_X12_command ⟨by decide, by decide, by decide, by decide, by decide⟩ rfl rfl rfl ⟨by decide, by omega⟩ (by decide +kernel) (by decide +kernel) (Nat.le_of_ble_eq_true rfl) (MM.mono ?_ h)
  intro o g3 d4 h1
  rcases o with v2 | k
  · refine mw_top (fun hT => ?_)
    have hG : 76 ≤ g3.2.1 := hT.2
    show MW mX12_readProgram 0 0 19 [(0, vR 65)] [] g3 d4 Q
    exact h1
  · exact mx_out rfl h1
theorem aX12_readProgram_1 {g : mG} {d : mD} {Q : mQ} (h : ((d 65 (18 : Int) = 0) → (¬ (d 65 7 ≤ d 65 17)) → 0 ≤ d 65 17 ∧ d 65 (17 : Int) < 60) ∧ ((((d 65 (18 : Int) = 0) ∧ ((¬ (d 65 7 ≤ d 65 17)) ∧ (d 69 (d 65 17) = 59))) → (iI ((d 65 17) + 1)) ∧ (MM mX12_command [vR 65] g (ud d 65 17 ((d 65 17) + 1)) (fun o g13 d14 => match o with | .inl v12 => pX12_readProgram_1 g13 d14 Q | .inr k => Q (.inr k) g13 d14))) ∧ ((¬ ((d 65 (18 : Int) = 0) ∧ ((¬ (d 65 7 ≤ d 65 17)) ∧ (d 69 (d 65 17) = 59)))) → Q (.inl (bI (¬ ((¬ (d 65 18 = 0)) ∨ (¬ (d 65 7 ≤ d 65 17)))))) g (ud d 65 18 (bI ((¬ (d 65 18 = 0)) ∨ (¬ (d 65 7 ≤ d 65 17)))))))) : pX12_readProgram_1  g d Q := by
  unfold pX12_readProgram_1
  refine mw_top (fun hT => ?_)
  have hG : 76 ≤ g.2.1 := hT.2
  refine mw_aload_n (v := vR 65) (pc' := 20) dX12_readProgram_19 rfl rfl (Or.inl rfl) rfl ?_
  refine mw_bipush (pc' := 22) dX12_readProgram_20 rfl ⟨by decide, by decide⟩ ?_
  obtain ⟨o5, h⟩ := h
  refine mw_callV (M' := mX12_isAt) (A := [vI 59]) (A' := [vR 65, vI 59]) (S := []) (a := 65) (pc' := 25) dX12_readProgram_22 rfl cl_RX12_227 cm_X12_isAt cv_X12_isAt ⟨by decide, by decide, by decide, by decide, by decide⟩ rfl rfl rfl ⟨by decide, by omega⟩ (by decide +kernel) (by decide +kernel) (Nat.le_of_ble_eq_true rfl) (eX12_isAt (⟨o5, ?_⟩))
  show MW mX12_readProgram 0 0 25 [(0, vR 65)] [vI (bI ((d 65 (18 : Int) = 0) ∧ ((¬ (d 65 7 ≤ d 65 17)) ∧ (d 69 (d 65 17) = 59))))] g d Q
  refine mw_if_eq (tgt := 45) (pc' := 28) dX12_readProgram_25 rfl (by decide) (fun c9 => ?_) (fun c9 => ?_)
  · replace c9 := bI_0.mp c9
    replace h := h.2 c9
    refine mw_aload_n (v := vR 65) (pc' := 46) dX12_readProgram_45 rfl rfl (Or.inl rfl) rfl ?_
    refine mw_aload_n (v := vR 65) (pc' := 47) dX12_readProgram_46 rfl rfl (Or.inl rfl) rfl ?_
    refine mw_getI (ji := 18) (pc' := 50) dX12_readProgram_47 rfl fi_RX12_221_65 rfl ⟨by decide, by decide⟩ ?_
    suffices k15 : MW mX12_readProgram 0 0 69 [(0, vR 65)] [vI (bI ((¬ (d 65 18 = 0)) ∨ (¬ (d 65 7 ≤ d 65 17)))), vR 65] g d Q by
      refine mw_if_ne (tgt := 64) (pc' := 53) dX12_readProgram_50 rfl (by decide) (fun c16 => ?_) (fun c16 => ?_)
      · refine mw_iconst (pc' := 65) dX12_readProgram_64 rfl ⟨by decide, by decide⟩ ?_
        refine mw_goto (pc' := 0) (tgt := 69) dX12_readProgram_65 (by decide) ?_
        exact mw_st (bI_t (Or.inl c16)).symm k15
      · refine mw_aload_n (v := vR 65) (pc' := 54) dX12_readProgram_53 rfl rfl (Or.inl rfl) rfl ?_
        refine mw_getI (ji := 17) (pc' := 57) dX12_readProgram_54 rfl fi_RX12_224_65 rfl ⟨by decide, by decide⟩ ?_
        refine mw_aload_n (v := vR 65) (pc' := 58) dX12_readProgram_57 rfl rfl (Or.inl rfl) rfl ?_
        refine mw_getI (ji := 7) (pc' := 61) dX12_readProgram_58 rfl fi_RX12_59_65 rfl ⟨by decide, by decide⟩ ?_
        refine mw_icmp_ge (tgt := 68) (pc' := 64) dX12_readProgram_61 rfl (by decide) (fun c17 => ?_) (fun c17 => ?_)
        · refine mw_iconst (pc' := 69) dX12_readProgram_68 rfl ⟨by decide, by decide⟩ ?_
          exact mw_st (bI_f (fun h => h.elim (fun q => (q c16)) (fun h => (h c17)))).symm k15
        · refine mw_iconst (pc' := 65) dX12_readProgram_64 rfl ⟨by decide, by decide⟩ ?_
          refine mw_goto (pc' := 0) (tgt := 69) dX12_readProgram_65 (by decide) ?_
          exact mw_st (bI_t (Or.inr c17)).symm k15
    refine mw_putI (ji := 18) (pc' := 72) dX12_readProgram_69 rfl (fq_RX12_221_65) (by decide +kernel) rfl (Or.inr ⟨rfl, rc_65_18⟩) (Or.inl (by rw [rc_65_18]; exact bI_rng)) ⟨by decide, by omega⟩ ?_
    refine mw_aload_n (v := vR 65) (pc' := 73) dX12_readProgram_72 rfl rfl (Or.inl rfl) rfl ?_
    refine mw_getI (ji := 18) (pc' := 76) dX12_readProgram_73 rfl fi_RX12_221_65 rfl ⟨by decide, by decide⟩ ?_
    refine mw_st (b := bI ((¬ (d 65 18 = 0)) ∨ (¬ (d 65 7 ≤ d 65 17)))) (udS) ?_
    suffices k18 : MW mX12_readProgram 0 0 84 [(0, vR 65)] [vI (bI (¬ ((¬ (d 65 18 = 0)) ∨ (¬ (d 65 7 ≤ d 65 17)))))] g (ud d 65 18 (bI ((¬ (d 65 18 = 0)) ∨ (¬ (d 65 7 ≤ d 65 17))))) Q by
      refine mw_if_ne (tgt := 83) (pc' := 79) dX12_readProgram_76 rfl (by decide) (fun c19 => ?_) (fun c19 => ?_)
      · replace c19 := bI_n0.mp c19
        refine mw_iconst (pc' := 84) dX12_readProgram_83 rfl ⟨by decide, by decide⟩ ?_
        exact mw_st (bI_f (fun h => (h c19))).symm k18
      · replace c19 := bI_0.mp c19
        refine mw_iconst (pc' := 80) dX12_readProgram_79 rfl ⟨by decide, by decide⟩ ?_
        refine mw_goto (pc' := 0) (tgt := 84) dX12_readProgram_80 (by decide) ?_
        exact mw_st (bI_t c19).symm k18
    exact mw_iret (pc' := 0) (S := []) dX12_readProgram_84 rfl (Or.inr (Or.inl ⟨rfl, bI_rng⟩)) h
  · replace c9 := bI_n0.mp c9
    replace h := h.1 c9
    refine mw_aload_n (v := vR 65) (pc' := 29) dX12_readProgram_28 rfl rfl (Or.inl rfl) rfl ?_
    refine mw_dup (pc' := 30) dX12_readProgram_29 rfl rfl ?_
    refine mw_getI (ji := 17) (pc' := 33) dX12_readProgram_30 rfl fi_RX12_224_65 rfl ⟨by decide, by decide⟩ ?_
    refine mw_iconst (pc' := 34) dX12_readProgram_33 rfl ⟨by decide, by decide⟩ ?_
    obtain ⟨o10, h⟩ := h
    refine mw_iadd (pc' := 35) dX12_readProgram_34 rfl o10 ?_
    refine mw_putI (ji := 17) (pc' := 38) dX12_readProgram_35 rfl (fq_RX12_224_65) (by decide +kernel) rfl (Or.inl ⟨rfl, rc_65_17⟩) (Or.inr rfl) ⟨by decide, by omega⟩ ?_
    refine mw_aload_n (v := vR 65) (pc' := 39) dX12_readProgram_38 rfl rfl (Or.inl rfl) rfl ?_
    refine mw_callV (M' := mX12_command) (A := []) (A' := [vR 65]) (S := []) (a := 65) (pc' := 42) dX12_readProgram_39 rfl cl_RX12_252 cm_X12_command cv_X12_command ⟨by decide, by decide, by decide, by decide, by decide⟩ rfl rfl rfl ⟨by decide, by omega⟩ (by decide +kernel) (by decide +kernel) (Nat.le_of_ble_eq_true rfl) (MM.mono ?_ h)
    intro o g13 d14 h11
    rcases o with v12 | k
    · refine mw_top (fun hT => ?_)
      have hG : 76 ≤ g13.2.1 := hT.2
      show MW mX12_readProgram 0 0 42 [(0, vR 65)] [] g13 d14 Q
      refine mw_goto (pc' := 0) (tgt := 19) dX12_readProgram_42 (by decide) ?_
      exact h11
    · exact mx_out rfl h11
