theorem rc_65_10 : RC 65 10 = 0 := by decide +kernel
theorem fq_RX12_25_65 : FP RX12 25 (LK 65) 10 .int false := (show LK 65 = 12 by decide +kernel) ▸ fp_RX12_25
theorem fr_RX12_13_65 : FR RX12 13 65 1 := ⟨(show LK 65 = 12 by decide +kernel) ▸ fg_RX12_13, by decide +kernel, by decide +kernel, by decide⟩
theorem sp_65_1 : ((65, 1, 67) : Int × Int × Int) ∈ SPl := by decide +kernel
theorem rc_65_4 : RC 65 4 = 2 := by decide +kernel
theorem fq_RX12_47_65 : FP RX12 47 (LK 65) 4 .boolean false := (show LK 65 = 12 by decide +kernel) ▸ fp_RX12_47
theorem rc_65_11 : RC 65 11 = 0 := by decide +kernel
theorem fq_RX12_29_65 : FP RX12 29 (LK 65) 11 .int false := (show LK 65 = 12 by decide +kernel) ▸ fp_RX12_29
theorem eX12_execute {x1 : Int} {g : mG} {d : mD} {Q : mQ} (h : (iI (x1 + 1)) ∧ ((0 ≤ x1 + 1 ∧ x1 + 1 < 120) ∧ ((0 ≤ x1 ∧ x1 < 120) ∧ (((d 72 x1 = 100) → MM mX12_advance [vR 65, vI (d 72 (x1 + 1))] g d (fun o g7 d8 => match o with | .inl v6 => Q (.inl 0) g7 d8 | .inr k => Q (.inr k) g7 d8)) ∧ ((¬ (d 72 x1 = 100)) → ((d 72 x1 = 101) → MM mX12_addHoliday [vR 65, vI (d 72 (x1 + 1))] g d (fun o g12 d13 => match o with | .inl v11 => Q (.inl 0) g12 d13 | .inr k => Q (.inr k) g12 d13)) ∧ ((¬ (d 72 x1 = 101)) → ((d 72 x1 = 102) → MM mX12_file [vR 65, vI (d 72 (x1 + 1))] g d (fun o g17 d18 => match o with | .inl v16 => Q (.inl 0) g17 d18 | .inr k => Q (.inr k) g17 d18)) ∧ ((¬ (d 72 x1 = 102)) → ((d 72 x1 = 103) → MM mX12_addHoliday [vR 65, vI (d 72 (x1 + 1))] g d (fun o g22 d23 => match o with | .inl v21 => Q (.inl 0) g22 d23 | .inr k => Q (.inr k) g22 d23)) ∧ ((¬ (d 72 x1 = 103)) → ((d 72 x1 = 104) → MM mX12_addHoliday [vR 65, vI (d 72 (x1 + 1))] g d (fun o g27 d28 => match o with | .inl v26 => Q (.inl 0) g27 d28 | .inr k => Q (.inr k) g27 d28)) ∧ ((¬ (d 72 x1 = 104)) → ((d 72 x1 = 105) → MM mX12_addHoliday [vR 65, vI (d 72 (x1 + 1))] g d (fun o g32 d33 => match o with | .inl v31 => Q (.inl 0) g32 d33 | .inr k => Q (.inr k) g32 d33)) ∧ ((¬ (d 72 x1 = 105)) → ((d 72 x1 = 106) → MM mX12_addHoliday [vR 65, vI (d 72 (x1 + 1))] g d (fun o g37 d38 => match o with | .inl v36 => Q (.inl 0) g37 d38 | .inr k => Q (.inr k) g37 d38)) ∧ ((¬ (d 72 x1 = 106)) → ((d 72 x1 = 107) → MM mX12_addHoliday [vR 65, vI (d 72 (x1 + 1))] g d (fun o g42 d43 => match o with | .inl v41 => Q (.inl 0) g42 d43 | .inr k => Q (.inr k) g42 d43)) ∧ ((¬ (d 72 x1 = 107)) → ((d 72 x1 = 108) → MM mX12_lift [vR 65, vI (d 72 (x1 + 1))] g d (fun o g47 d48 => match o with | .inl v46 => Q (.inl 0) g47 d48 | .inr k => Q (.inr k) g47 d48)) ∧ ((¬ (d 72 x1 = 108)) → ((d 72 x1 = 109) → (iI (x1 + 2)) ∧ ((0 ≤ x1 + 2 ∧ x1 + 2 < 120) ∧ (MM mX12_extendByConsent [vR 65, vI (d 72 (x1 + 1)), vI (d 72 (x1 + 2))] g d (fun o g54 d55 => match o with | .inl v53 => Q (.inl 0) g54 d55 | .inr k => Q (.inr k) g54 d55)))) ∧ ((¬ (d 72 x1 = 109)) → ((d 72 x1 = 110) → MM mX12_addHoliday [vR 65, vI (d 72 (x1 + 1))] g d (fun o g59 d60 => match o with | .inl v58 => Q (.inl 0) g59 d60 | .inr k => Q (.inr k) g59 d60)) ∧ ((¬ (d 72 x1 = 110)) → ((d 72 x1 = 111) → MM mX12_addHoliday [vR 65, vI (d 72 (x1 + 1))] g d (fun o g64 d65 => match o with | .inl v63 => Q (.inl 0) g64 d65 | .inr k => Q (.inr k) g64 d65)) ∧ ((¬ (d 72 x1 = 111)) → ((d 72 x1 = 112) → MM mX12_addHoliday [vR 65, vI (d 72 (x1 + 1))] g d (fun o g69 d70 => match o with | .inl v68 => Q (.inl 0) g69 d70 | .inr k => Q (.inr k) g69 d70)) ∧ ((¬ (d 72 x1 = 112)) → ((d 72 x1 = 113) → MM mX12_addHoliday [vR 65, vI (d 72 (x1 + 1))] g d (fun o g74 d75 => match o with | .inl v73 => Q (.inl 0) g74 d75 | .inr k => Q (.inr k) g74 d75)) ∧ ((¬ (d 72 x1 = 113)) → ((d 72 x1 = 114) → MM mX12_addHoliday [vR 65, vI (d 72 (x1 + 1))] g d (fun o g79 d80 => match o with | .inl v78 => Q (.inl 0) g79 d80 | .inr k => Q (.inr k) g79 d80)) ∧ ((¬ (d 72 x1 = 114)) → ((d 72 x1 = 115) → MM mX12_stayAll [vR 65, vI (d 72 (x1 + 1))] g d (fun o g84 d85 => match o with | .inl v83 => Q (.inl 0) g84 d85 | .inr k => Q (.inr k) g84 d85)) ∧ ((¬ (d 72 x1 = 115)) → ((d 72 x1 = 116) → MM mX12_addHoliday [vR 65, vI (d 72 (x1 + 1))] g d (fun o g89 d90 => match o with | .inl v88 => Q (.inl 0) g89 d90 | .inr k => Q (.inr k) g89 d90)) ∧ ((¬ (d 72 x1 = 116)) → ((d 72 x1 = 117) → MM mX12_addHoliday [vR 65, vI (d 72 (x1 + 1))] g d (fun o g94 d95 => match o with | .inl v93 => Q (.inl 0) g94 d95 | .inr k => Q (.inr k) g94 d95)) ∧ ((¬ (d 72 x1 = 117)) → ((d 72 x1 = 118) → (iI (x1 + 2)) ∧ ((0 ≤ x1 + 2 ∧ x1 + 2 < 120) ∧ ((iI (x1 + 3)) ∧ ((0 ≤ x1 + 3 ∧ x1 + 3 < 120) ∧ (MM mX12_serve [vR 65, vI (d 72 (x1 + 1)), vI (d 72 (x1 + 2)), vI ((d 72 (x1 + 3)) % 65536)] g d (fun o g103 d104 => match o with | .inl v102 => Q (.inl 0) g103 d104 | .inr k => Q (.inr k) g103 d104)))))) ∧ ((¬ (d 72 x1 = 118)) → MM mX12_addHoliday [vR 65, vI (d 72 (x1 + 1))] g d (fun o g107 d108 => match o with | .inl v106 => Q (.inl 0) g107 d108 | .inr k => Q (.inr k) g107 d108)))))))))))))))))))))))) : MM mX12_execute [vR 65, vI x1] g d Q := by
  refine MM_of (by decide) rfl (by simp [catV]) (Nat.le_of_ble_eq_true rfl) ?_
  show MW mX12_execute 0 0 0 [(0, vR 65), (1, vI x1)] [] g d Q
  refine mw_top (fun hT => ?_)
  have hG : 76 ≤ g.2.1 := hT.2
  refine mw_aload_n (v := vR 65) (pc' := 1) dX12_execute_0 rfl rfl (Or.inl rfl) rfl ?_
  refine mw_getP (v := 72) (pc' := 4) dX12_execute_1 rfl fr_RX12_35_65 rfl sp_65_14 ⟨by decide, by decide⟩ ?_
  refine mw_iload_n (pc' := 5) dX12_execute_4 rfl rfl rfl ?_
  refine mw_iconst (pc' := 6) dX12_execute_5 rfl ⟨by decide, by decide⟩ ?_
  obtain ⟨o1, h⟩ := h
  refine mw_iadd (pc' := 7) dX12_execute_6 rfl o1 ?_
  obtain ⟨o2, h⟩ := h
  refine mw_iald (pc' := 8) dX12_execute_7 rfl lk_72 ⟨by decide, by decide⟩ (by rw [ln_72]; exact o2) ?_
  refine mw_istore_n (pc' := 9) (L' := [(0, vR 65), (1, vI x1), (2, vI (d 72 (x1 + 1)))]) dX12_execute_8 rfl rfl (by decide) rfl ?_
  refine mw_aload_n (v := vR 65) (pc' := 10) dX12_execute_9 rfl rfl (Or.inl rfl) rfl ?_
  refine mw_getP (v := 72) (pc' := 13) dX12_execute_10 rfl fr_RX12_35_65 rfl sp_65_14 ⟨by decide, by decide⟩ ?_
  refine mw_iload_n (pc' := 14) dX12_execute_13 rfl rfl rfl ?_
  obtain ⟨o3, h⟩ := h
  refine mw_iald (pc' := 15) dX12_execute_14 rfl lk_72 ⟨by decide, by decide⟩ (by rw [ln_72]; exact o3) ?_
  by_cases c4 : d 72 x1 = 100
  · replace h := h.1 c4
    refine mw_tabIn (pc' := 0) (off := 115) (tgt := 130) dX12_execute_15 (by omega) (by rw [c4]; rfl) (by decide) ?_
    refine mw_aload_n (v := vR 65) (pc' := 131) dX12_execute_130 rfl rfl (Or.inl rfl) rfl ?_
    refine mw_iload_n (pc' := 132) dX12_execute_131 rfl rfl rfl ?_
    refine mw_callV (M' := mX12_advance) (A := [vI (d 72 (x1 + 1))]) (A' := [vR 65, vI (d 72 (x1 + 1))]) (S := []) (a := 65) (pc' := 135) dX12_execute_132 rfl cl_RX12_259 cm_X12_advance cv_X12_advance ⟨by decide, by decide, by decide, by decide, by decide⟩ rfl rfl rfl ⟨by decide, by omega⟩ (by decide +kernel) (by decide +kernel) (Nat.le_of_ble_eq_true rfl) (MM.mono ?_ h)
    intro o g7 d8 h5
    rcases o with v6 | k
    · refine mw_top (fun hT => ?_)
      have hG : 76 ≤ g7.2.1 := hT.2
      show MW mX12_execute 0 0 135 [(0, vR 65), (1, vI x1), (2, vI (d 72 (x1 + 1)))] [vI v6] g7 d8 Q
      refine mw_pop (pc' := 136) dX12_execute_135 rfl rfl ?_
      refine mw_goto (pc' := 0) (tgt := 189) dX12_execute_136 (by decide) ?_
      exact mw_vret (pc' := 0) (S := []) dX12_execute_189 rfl h5
    · exact mx_out rfl h5
  · replace h := h.2 c4
    by_cases c9 : d 72 x1 = 101
    · replace h := h.1 c9
      refine mw_tabIn (pc' := 0) (off := 168) (tgt := 183) dX12_execute_15 (by omega) (by rw [c9]; rfl) (by decide) ?_
      refine mw_aload_n (v := vR 65) (pc' := 184) dX12_execute_183 rfl rfl (Or.inl rfl) rfl ?_
      refine mw_iload_n (pc' := 185) dX12_execute_184 rfl rfl rfl ?_
      refine mw_callV (M' := mX12_addHoliday) (A := [vI (d 72 (x1 + 1))]) (A' := [vR 65, vI (d 72 (x1 + 1))]) (S := []) (a := 65) (pc' := 188) dX12_execute_185 rfl cl_RX12_274 cm_X12_addHoliday cv_X12_addHoliday ⟨by decide, by decide, by decide, by decide, by decide⟩ rfl rfl rfl ⟨by decide, by omega⟩ (by decide +kernel) (by decide +kernel) (Nat.le_of_ble_eq_true rfl) (MM.mono ?_ h)
      intro o g12 d13 h10
      rcases o with v11 | k
      · refine mw_top (fun hT => ?_)
        have hG : 76 ≤ g12.2.1 := hT.2
        show MW mX12_execute 0 0 188 [(0, vR 65), (1, vI x1), (2, vI (d 72 (x1 + 1)))] [vI v11] g12 d13 Q
        refine mw_pop (pc' := 189) dX12_execute_188 rfl rfl ?_
        exact mw_vret (pc' := 0) (S := []) dX12_execute_189 rfl h10
      · exact mx_out rfl h10
    · replace h := h.2 c9
      by_cases c14 : d 72 x1 = 102
      · replace h := h.1 c14
        refine mw_tabIn (pc' := 0) (off := 159) (tgt := 174) dX12_execute_15 (by omega) (by rw [c14]; rfl) (by decide) ?_
        refine mw_aload_n (v := vR 65) (pc' := 175) dX12_execute_174 rfl rfl (Or.inl rfl) rfl ?_
        refine mw_iload_n (pc' := 176) dX12_execute_175 rfl rfl rfl ?_
        refine mw_callV (M' := mX12_file) (A := [vI (d 72 (x1 + 1))]) (A' := [vR 65, vI (d 72 (x1 + 1))]) (S := []) (a := 65) (pc' := 179) dX12_execute_176 rfl cl_RX12_271 cm_X12_file cv_X12_file ⟨by decide, by decide, by decide, by decide, by decide⟩ rfl rfl rfl ⟨by decide, by omega⟩ (by decide +kernel) (by decide +kernel) (Nat.le_of_ble_eq_true rfl) (MM.mono ?_ h)
        intro o g17 d18 h15
        rcases o with v16 | k
        · refine mw_top (fun hT => ?_)
          have hG : 76 ≤ g17.2.1 := hT.2
          show MW mX12_execute 0 0 179 [(0, vR 65), (1, vI x1), (2, vI (d 72 (x1 + 1)))] [vI v16] g17 d18 Q
          refine mw_pop (pc' := 180) dX12_execute_179 rfl rfl ?_
          refine mw_goto (pc' := 0) (tgt := 189) dX12_execute_180 (by decide) ?_
          exact mw_vret (pc' := 0) (S := []) dX12_execute_189 rfl h15
        · exact mx_out rfl h15
      · replace h := h.2 c14
        by_cases c19 : d 72 x1 = 103
        · replace h := h.1 c19
          refine mw_tabIn (pc' := 0) (off := 168) (tgt := 183) dX12_execute_15 (by omega) (by rw [c19]; rfl) (by decide) ?_
          refine mw_aload_n (v := vR 65) (pc' := 184) dX12_execute_183 rfl rfl (Or.inl rfl) rfl ?_
          refine mw_iload_n (pc' := 185) dX12_execute_184 rfl rfl rfl ?_
          refine mw_callV (M' := mX12_addHoliday) (A := [vI (d 72 (x1 + 1))]) (A' := [vR 65, vI (d 72 (x1 + 1))]) (S := []) (a := 65) (pc' := 188) dX12_execute_185 rfl cl_RX12_274 cm_X12_addHoliday cv_X12_addHoliday ⟨by decide, by decide, by decide, by decide, by decide⟩ rfl rfl rfl ⟨by decide, by omega⟩ (by decide +kernel) (by decide +kernel) (Nat.le_of_ble_eq_true rfl) (MM.mono ?_ h)
          intro o g22 d23 h20
          rcases o with v21 | k
          · refine mw_top (fun hT => ?_)
            have hG : 76 ≤ g22.2.1 := hT.2
            show MW mX12_execute 0 0 188 [(0, vR 65), (1, vI x1), (2, vI (d 72 (x1 + 1)))] [vI v21] g22 d23 Q
            refine mw_pop (pc' := 189) dX12_execute_188 rfl rfl ?_
            exact mw_vret (pc' := 0) (S := []) dX12_execute_189 rfl h20
          · exact mx_out rfl h20
        · replace h := h.2 c19
          by_cases c24 : d 72 x1 = 104
          · replace h := h.1 c24
            refine mw_tabIn (pc' := 0) (off := 168) (tgt := 183) dX12_execute_15 (by omega) (by rw [c24]; rfl) (by decide) ?_
            refine mw_aload_n (v := vR 65) (pc' := 184) dX12_execute_183 rfl rfl (Or.inl rfl) rfl ?_
            refine mw_iload_n (pc' := 185) dX12_execute_184 rfl rfl rfl ?_
            refine mw_callV (M' := mX12_addHoliday) (A := [vI (d 72 (x1 + 1))]) (A' := [vR 65, vI (d 72 (x1 + 1))]) (S := []) (a := 65) (pc' := 188) dX12_execute_185 rfl cl_RX12_274 cm_X12_addHoliday cv_X12_addHoliday ⟨by decide, by decide, by decide, by decide, by decide⟩ rfl rfl rfl ⟨by decide, by omega⟩ (by decide +kernel) (by decide +kernel) (Nat.le_of_ble_eq_true rfl) (MM.mono ?_ h)
            intro o g27 d28 h25
            rcases o with v26 | k
            · refine mw_top (fun hT => ?_)
              have hG : 76 ≤ g27.2.1 := hT.2
              show MW mX12_execute 0 0 188 [(0, vR 65), (1, vI x1), (2, vI (d 72 (x1 + 1)))] [vI v26] g27 d28 Q
              refine mw_pop (pc' := 189) dX12_execute_188 rfl rfl ?_
              exact mw_vret (pc' := 0) (S := []) dX12_execute_189 rfl h25
            · exact mx_out rfl h25
          · replace h := h.2 c24
            by_cases c29 : d 72 x1 = 105
            · replace h := h.1 c29
              refine mw_tabIn (pc' := 0) (off := 168) (tgt := 183) dX12_execute_15 (by omega) (by rw [c29]; rfl) (by decide) ?_
              refine mw_aload_n (v := vR 65) (pc' := 184) dX12_execute_183 rfl rfl (Or.inl rfl) rfl ?_
              refine mw_iload_n (pc' := 185) dX12_execute_184 rfl rfl rfl ?_
              refine mw_callV (M' := mX12_addHoliday) (A := [vI (d 72 (x1 + 1))]) (A' := [vR 65, vI (d 72 (x1 + 1))]) (S := []) (a := 65) (pc' := 188) dX12_execute_185 rfl cl_RX12_274 cm_X12_addHoliday cv_X12_addHoliday ⟨by decide, by decide, by decide, by decide, by decide⟩ rfl rfl rfl ⟨by decide, by omega⟩ (by decide +kernel) (by decide +kernel) (Nat.le_of_ble_eq_true rfl) (MM.mono ?_ h)
              intro o g32 d33 h30
              rcases o with v31 | k
              · refine mw_top (fun hT => ?_)
                have hG : 76 ≤ g32.2.1 := hT.2
                show MW mX12_execute 0 0 188 [(0, vR 65), (1, vI x1), (2, vI (d 72 (x1 + 1)))] [vI v31] g32 d33 Q
                refine mw_pop (pc' := 189) dX12_execute_188 rfl rfl ?_
                exact mw_vret (pc' := 0) (S := []) dX12_execute_189 rfl h30
              · exact mx_out rfl h30
            · replace h := h.2 c29
              by_cases c34 : d 72 x1 = 106
              · replace h := h.1 c34
                refine mw_tabIn (pc' := 0) (off := 168) (tgt := 183) dX12_execute_15 (by omega) (by rw [c34]; rfl) (by decide) ?_
                refine mw_aload_n (v := vR 65) (pc' := 184) dX12_execute_183 rfl rfl (Or.inl rfl) rfl ?_
                refine mw_iload_n (pc' := 185) dX12_execute_184 rfl rfl rfl ?_
                refine mw_callV (M' := mX12_addHoliday) (A := [vI (d 72 (x1 + 1))]) (A' := [vR 65, vI (d 72 (x1 + 1))]) (S := []) (a := 65) (pc' := 188) dX12_execute_185 rfl cl_RX12_274 cm_X12_addHoliday cv_X12_addHoliday ⟨by decide, by decide, by decide, by decide, by decide⟩ rfl rfl rfl ⟨by decide, by omega⟩ (by decide +kernel) (by decide +kernel) (Nat.le_of_ble_eq_true rfl) (MM.mono ?_ h)
                intro o g37 d38 h35
                rcases o with v36 | k
                · refine mw_top (fun hT => ?_)
                  have hG : 76 ≤ g37.2.1 := hT.2
                  show MW mX12_execute 0 0 188 [(0, vR 65), (1, vI x1), (2, vI (d 72 (x1 + 1)))] [vI v36] g37 d38 Q
                  refine mw_pop (pc' := 189) dX12_execute_188 rfl rfl ?_
                  exact mw_vret (pc' := 0) (S := []) dX12_execute_189 rfl h35
                · exact mx_out rfl h35
              · replace h := h.2 c34
                by_cases c39 : d 72 x1 = 107
                · replace h := h.1 c39
                  refine mw_tabIn (pc' := 0) (off := 168) (tgt := 183) dX12_execute_15 (by omega) (by rw [c39]; rfl) (by decide) ?_
                  refine mw_aload_n (v := vR 65) (pc' := 184) dX12_execute_183 rfl rfl (Or.inl rfl) rfl ?_
                  refine mw_iload_n (pc' := 185) dX12_execute_184 rfl rfl rfl ?_
                  refine mw_callV (M' := mX12_addHoliday) (A := [vI (d 72 (x1 + 1))]) (A' := [vR 65, vI (d 72 (x1 + 1))]) (S := []) (a := 65) (pc' := 188) dX12_execute_185 rfl cl_RX12_274 cm_X12_addHoliday cv_X12_addHoliday ⟨by decide, by decide, by decide, by decide, by decide⟩ rfl rfl rfl ⟨by decide, by omega⟩ (by decide +kernel) (by decide +kernel) (Nat.le_of_ble_eq_true rfl) (MM.mono ?_ h)
                  intro o g42 d43 h40
                  rcases o with v41 | k
                  · refine mw_top (fun hT => ?_)
                    have hG : 76 ≤ g42.2.1 := hT.2
                    show MW mX12_execute 0 0 188 [(0, vR 65), (1, vI x1), (2, vI (d 72 (x1 + 1)))] [vI v41] g42 d43 Q
                    refine mw_pop (pc' := 189) dX12_execute_188 rfl rfl ?_
                    exact mw_vret (pc' := 0) (S := []) dX12_execute_189 rfl h40
                  · exact mx_out rfl h40
                · replace h := h.2 c39
                  by_cases c44 : d 72 x1 = 108
                  · replace h := h.1 c44
                    refine mw_tabIn (pc' := 0) (off := 133) (tgt := 148) dX12_execute_15 (by omega) (by rw [c44]; rfl) (by decide) ?_
                    refine mw_aload_n (v := vR 65) (pc' := 149) dX12_execute_148 rfl rfl (Or.inl rfl) rfl ?_
                    refine mw_iload_n (pc' := 150) dX12_execute_149 rfl rfl rfl ?_
                    refine mw_callV (M' := mX12_lift) (A := [vI (d 72 (x1 + 1))]) (A' := [vR 65, vI (d 72 (x1 + 1))]) (S := []) (a := 65) (pc' := 153) dX12_execute_150 rfl cl_RX12_265 cm_X12_lift cv_X12_lift ⟨by decide, by decide, by decide, by decide, by decide⟩ rfl rfl rfl ⟨by decide, by omega⟩ (by decide +kernel) (by decide +kernel) (Nat.le_of_ble_eq_true rfl) (MM.mono ?_ h)
                    intro o g47 d48 h45
                    rcases o with v46 | k
                    · refine mw_top (fun hT => ?_)
                      have hG : 76 ≤ g47.2.1 := hT.2
                      show MW mX12_execute 0 0 153 [(0, vR 65), (1, vI x1), (2, vI (d 72 (x1 + 1)))] [vI v46] g47 d48 Q
                      refine mw_pop (pc' := 154) dX12_execute_153 rfl rfl ?_
                      refine mw_goto (pc' := 0) (tgt := 189) dX12_execute_154 (by decide) ?_
                      exact mw_vret (pc' := 0) (S := []) dX12_execute_189 rfl h45
                    · exact mx_out rfl h45
                  · replace h := h.2 c44
                    by_cases c49 : d 72 x1 = 109
                    · replace h := h.1 c49
                      refine mw_tabIn (pc' := 0) (off := 142) (tgt := 157) dX12_execute_15 (by omega) (by rw [c49]; rfl) (by decide) ?_
                      refine mw_aload_n (v := vR 65) (pc' := 158) dX12_execute_157 rfl rfl (Or.inl rfl) rfl ?_
                      refine mw_iload_n (pc' := 159) dX12_execute_158 rfl rfl rfl ?_
                      refine mw_aload_n (v := vR 65) (pc' := 160) dX12_execute_159 rfl rfl (Or.inl rfl) rfl ?_
                      refine mw_getP (v := 72) (pc' := 163) dX12_execute_160 rfl fr_RX12_35_65 rfl sp_65_14 ⟨by decide, by decide⟩ ?_
                      refine mw_iload_n (pc' := 164) dX12_execute_163 rfl rfl rfl ?_
                      refine mw_iconst (pc' := 165) dX12_execute_164 rfl ⟨by decide, by decide⟩ ?_
                      obtain ⟨o50, h⟩ := h
                      refine mw_iadd (pc' := 166) dX12_execute_165 rfl o50 ?_
                      obtain ⟨o51, h⟩ := h
                      refine mw_iald (pc' := 167) dX12_execute_166 rfl lk_72 ⟨by decide, by decide⟩ (by rw [ln_72]; exact o51) ?_
                      refine mw_callV (M' := mX12_extendByConsent) (A := [vI (d 72 (x1 + 1)), vI (d 72 (x1 + 2))]) (A' := [vR 65, vI (d 72 (x1 + 1)), vI (d 72 (x1 + 2))]) (S := []) (a := 65) (pc' := 170) dX12_execute_167 rfl cl_RX12_268 cm_X12_extendByConsent cv_X12_extendByConsent ⟨by decide, by decide, by decide, by decide, by decide⟩ rfl rfl rfl ⟨by decide, by omega⟩ (by decide +kernel) (by decide +kernel) (Nat.le_of_ble_eq_true rfl) (MM.mono ?_ h)
                      intro o g54 d55 h52
                      rcases o with v53 | k
                      · refine mw_top (fun hT => ?_)
                        have hG : 76 ≤ g54.2.1 := hT.2
                        show MW mX12_execute 0 0 170 [(0, vR 65), (1, vI x1), (2, vI (d 72 (x1 + 1)))] [vI v53] g54 d55 Q
                        refine mw_pop (pc' := 171) dX12_execute_170 rfl rfl ?_
                        refine mw_goto (pc' := 0) (tgt := 189) dX12_execute_171 (by decide) ?_
                        exact mw_vret (pc' := 0) (S := []) dX12_execute_189 rfl h52
                      · exact mx_out rfl h52
                    · replace h := h.2 c49
                      by_cases c56 : d 72 x1 = 110
                      · replace h := h.1 c56
                        refine mw_tabIn (pc' := 0) (off := 168) (tgt := 183) dX12_execute_15 (by omega) (by rw [c56]; rfl) (by decide) ?_
                        refine mw_aload_n (v := vR 65) (pc' := 184) dX12_execute_183 rfl rfl (Or.inl rfl) rfl ?_
                        refine mw_iload_n (pc' := 185) dX12_execute_184 rfl rfl rfl ?_
                        refine mw_callV (M' := mX12_addHoliday) (A := [vI (d 72 (x1 + 1))]) (A' := [vR 65, vI (d 72 (x1 + 1))]) (S := []) (a := 65) (pc' := 188) dX12_execute_185 rfl cl_RX12_274 cm_X12_addHoliday cv_X12_addHoliday ⟨by decide, by decide, by decide, by decide, by decide⟩ rfl rfl rfl ⟨by decide, by omega⟩ (by decide +kernel) (by decide +kernel) (Nat.le_of_ble_eq_true rfl) (MM.mono ?_ h)
                        intro o g59 d60 h57
                        rcases o with v58 | k
                        · refine mw_top (fun hT => ?_)
                          have hG : 76 ≤ g59.2.1 := hT.2
                          show MW mX12_execute 0 0 188 [(0, vR 65), (1, vI x1), (2, vI (d 72 (x1 + 1)))] [vI v58] g59 d60 Q
                          refine mw_pop (pc' := 189) dX12_execute_188 rfl rfl ?_
                          exact mw_vret (pc' := 0) (S := []) dX12_execute_189 rfl h57
                        · exact mx_out rfl h57
                      · replace h := h.2 c56
                        by_cases c61 : d 72 x1 = 111
                        · replace h := h.1 c61
                          refine mw_tabIn (pc' := 0) (off := 168) (tgt := 183) dX12_execute_15 (by omega) (by rw [c61]; rfl) (by decide) ?_
                          refine mw_aload_n (v := vR 65) (pc' := 184) dX12_execute_183 rfl rfl (Or.inl rfl) rfl ?_
                          refine mw_iload_n (pc' := 185) dX12_execute_184 rfl rfl rfl ?_
                          refine mw_callV (M' := mX12_addHoliday) (A := [vI (d 72 (x1 + 1))]) (A' := [vR 65, vI (d 72 (x1 + 1))]) (S := []) (a := 65) (pc' := 188) dX12_execute_185 rfl cl_RX12_274 cm_X12_addHoliday cv_X12_addHoliday ⟨by decide, by decide, by decide, by decide, by decide⟩ rfl rfl rfl ⟨by decide, by omega⟩ (by decide +kernel) (by decide +kernel) (Nat.le_of_ble_eq_true rfl) (MM.mono ?_ h)
                          intro o g64 d65 h62
                          rcases o with v63 | k
                          · refine mw_top (fun hT => ?_)
                            have hG : 76 ≤ g64.2.1 := hT.2
                            show MW mX12_execute 0 0 188 [(0, vR 65), (1, vI x1), (2, vI (d 72 (x1 + 1)))] [vI v63] g64 d65 Q
                            refine mw_pop (pc' := 189) dX12_execute_188 rfl rfl ?_
                            exact mw_vret (pc' := 0) (S := []) dX12_execute_189 rfl h62
                          · exact mx_out rfl h62
                        · replace h := h.2 c61
                          by_cases c66 : d 72 x1 = 112
                          · replace h := h.1 c66
                            refine mw_tabIn (pc' := 0) (off := 168) (tgt := 183) dX12_execute_15 (by omega) (by rw [c66]; rfl) (by decide) ?_
                            refine mw_aload_n (v := vR 65) (pc' := 184) dX12_execute_183 rfl rfl (Or.inl rfl) rfl ?_
                            refine mw_iload_n (pc' := 185) dX12_execute_184 rfl rfl rfl ?_
                            refine mw_callV (M' := mX12_addHoliday) (A := [vI (d 72 (x1 + 1))]) (A' := [vR 65, vI (d 72 (x1 + 1))]) (S := []) (a := 65) (pc' := 188) dX12_execute_185 rfl cl_RX12_274 cm_X12_addHoliday cv_X12_addHoliday ⟨by decide, by decide, by decide, by decide, by decide⟩ rfl rfl rfl ⟨by decide, by omega⟩ (by decide +kernel) (by decide +kernel) (Nat.le_of_ble_eq_true rfl) (MM.mono ?_ h)
                            intro o g69 d70 h67
                            rcases o with v68 | k
                            · refine mw_top (fun hT => ?_)
                              have hG : 76 ≤ g69.2.1 := hT.2
                              show MW mX12_execute 0 0 188 [(0, vR 65), (1, vI x1), (2, vI (d 72 (x1 + 1)))] [vI v68] g69 d70 Q
                              refine mw_pop (pc' := 189) dX12_execute_188 rfl rfl ?_
                              exact mw_vret (pc' := 0) (S := []) dX12_execute_189 rfl h67
                            · exact mx_out rfl h67
                          · replace h := h.2 c66
                            by_cases c71 : d 72 x1 = 113
                            · replace h := h.1 c71
                              refine mw_tabIn (pc' := 0) (off := 168) (tgt := 183) dX12_execute_15 (by omega) (by rw [c71]; rfl) (by decide) ?_
                              refine mw_aload_n (v := vR 65) (pc' := 184) dX12_execute_183 rfl rfl (Or.inl rfl) rfl ?_
                              refine mw_iload_n (pc' := 185) dX12_execute_184 rfl rfl rfl ?_
                              refine mw_callV (M' := mX12_addHoliday) (A := [vI (d 72 (x1 + 1))]) (A' := [vR 65, vI (d 72 (x1 + 1))]) (S := []) (a := 65) (pc' := 188) dX12_execute_185 rfl cl_RX12_274 cm_X12_addHoliday cv_X12_addHoliday ⟨by decide, by decide, by decide, by decide, by decide⟩ rfl rfl rfl ⟨by decide, by omega⟩ (by decide +kernel) (by decide +kernel) (Nat.le_of_ble_eq_true rfl) (MM.mono ?_ h)
                              intro o g74 d75 h72
                              rcases o with v73 | k
                              · refine mw_top (fun hT => ?_)
                                have hG : 76 ≤ g74.2.1 := hT.2
                                show MW mX12_execute 0 0 188 [(0, vR 65), (1, vI x1), (2, vI (d 72 (x1 + 1)))] [vI v73] g74 d75 Q
                                refine mw_pop (pc' := 189) dX12_execute_188 rfl rfl ?_
                                exact mw_vret (pc' := 0) (S := []) dX12_execute_189 rfl h72
                              · exact mx_out rfl h72
                            · replace h := h.2 c71
                              by_cases c76 : d 72 x1 = 114
                              · replace h := h.1 c76
                                refine mw_tabIn (pc' := 0) (off := 168) (tgt := 183) dX12_execute_15 (by omega) (by rw [c76]; rfl) (by decide) ?_
                                refine mw_aload_n (v := vR 65) (pc' := 184) dX12_execute_183 rfl rfl (Or.inl rfl) rfl ?_
                                refine mw_iload_n (pc' := 185) dX12_execute_184 rfl rfl rfl ?_
                                refine mw_callV (M' := mX12_addHoliday) (A := [vI (d 72 (x1 + 1))]) (A' := [vR 65, vI (d 72 (x1 + 1))]) (S := []) (a := 65) (pc' := 188) dX12_execute_185 rfl cl_RX12_274 cm_X12_addHoliday cv_X12_addHoliday ⟨by decide, by decide, by decide, by decide, by decide⟩ rfl rfl rfl ⟨by decide, by omega⟩ (by decide +kernel) (by decide +kernel) (Nat.le_of_ble_eq_true rfl) (MM.mono ?_ h)
                                intro o g79 d80 h77
                                rcases o with v78 | k
                                · refine mw_top (fun hT => ?_)
                                  have hG : 76 ≤ g79.2.1 := hT.2
                                  show MW mX12_execute 0 0 188 [(0, vR 65), (1, vI x1), (2, vI (d 72 (x1 + 1)))] [vI v78] g79 d80 Q
                                  refine mw_pop (pc' := 189) dX12_execute_188 rfl rfl ?_
                                  exact mw_vret (pc' := 0) (S := []) dX12_execute_189 rfl h77
                                · exact mx_out rfl h77
                              · replace h := h.2 c76
                                by_cases c81 : d 72 x1 = 115
                                · replace h := h.1 c81
                                  refine mw_tabIn (pc' := 0) (off := 124) (tgt := 139) dX12_execute_15 (by omega) (by rw [c81]; rfl) (by decide) ?_
                                  refine mw_aload_n (v := vR 65) (pc' := 140) dX12_execute_139 rfl rfl (Or.inl rfl) rfl ?_
                                  refine mw_iload_n (pc' := 141) dX12_execute_140 rfl rfl rfl ?_
                                  refine mw_callV (M' := mX12_stayAll) (A := [vI (d 72 (x1 + 1))]) (A' := [vR 65, vI (d 72 (x1 + 1))]) (S := []) (a := 65) (pc' := 144) dX12_execute_141 rfl cl_RX12_262 cm_X12_stayAll cv_X12_stayAll ⟨by decide, by decide, by decide, by decide, by decide⟩ rfl rfl rfl ⟨by decide, by omega⟩ (by decide +kernel) (by decide +kernel) (Nat.le_of_ble_eq_true rfl) (MM.mono ?_ h)
                                  intro o g84 d85 h82
                                  rcases o with v83 | k
                                  · refine mw_top (fun hT => ?_)
                                    have hG : 76 ≤ g84.2.1 := hT.2
                                    show MW mX12_execute 0 0 144 [(0, vR 65), (1, vI x1), (2, vI (d 72 (x1 + 1)))] [vI v83] g84 d85 Q
                                    refine mw_pop (pc' := 145) dX12_execute_144 rfl rfl ?_
                                    refine mw_goto (pc' := 0) (tgt := 189) dX12_execute_145 (by decide) ?_
                                    exact mw_vret (pc' := 0) (S := []) dX12_execute_189 rfl h82
                                  · exact mx_out rfl h82
                                · replace h := h.2 c81
                                  by_cases c86 : d 72 x1 = 116
                                  · replace h := h.1 c86
                                    refine mw_tabIn (pc' := 0) (off := 168) (tgt := 183) dX12_execute_15 (by omega) (by rw [c86]; rfl) (by decide) ?_
                                    refine mw_aload_n (v := vR 65) (pc' := 184) dX12_execute_183 rfl rfl (Or.inl rfl) rfl ?_
                                    refine mw_iload_n (pc' := 185) dX12_execute_184 rfl rfl rfl ?_
                                    refine mw_callV (M' := mX12_addHoliday) (A := [vI (d 72 (x1 + 1))]) (A' := [vR 65, vI (d 72 (x1 + 1))]) (S := []) (a := 65) (pc' := 188) dX12_execute_185 rfl cl_RX12_274 cm_X12_addHoliday cv_X12_addHoliday ⟨by decide, by decide, by decide, by decide, by decide⟩ rfl rfl rfl ⟨by decide, by omega⟩ (by decide +kernel) (by decide +kernel) (Nat.le_of_ble_eq_true rfl) (MM.mono ?_ h)
                                    intro o g89 d90 h87
                                    rcases o with v88 | k
                                    · refine mw_top (fun hT => ?_)
                                      have hG : 76 ≤ g89.2.1 := hT.2
                                      show MW mX12_execute 0 0 188 [(0, vR 65), (1, vI x1), (2, vI (d 72 (x1 + 1)))] [vI v88] g89 d90 Q
                                      refine mw_pop (pc' := 189) dX12_execute_188 rfl rfl ?_
                                      exact mw_vret (pc' := 0) (S := []) dX12_execute_189 rfl h87
                                    · exact mx_out rfl h87
                                  · replace h := h.2 c86
                                    by_cases c91 : d 72 x1 = 117
                                    · replace h := h.1 c91
                                      refine mw_tabIn (pc' := 0) (off := 168) (tgt := 183) dX12_execute_15 (by omega) (by rw [c91]; rfl) (by decide) ?_
                                      refine mw_aload_n (v := vR 65) (pc' := 184) dX12_execute_183 rfl rfl (Or.inl rfl) rfl ?_
                                      refine mw_iload_n (pc' := 185) dX12_execute_184 rfl rfl rfl ?_
                                      refine mw_callV (M' := mX12_addHoliday) (A := [vI (d 72 (x1 + 1))]) (A' := [vR 65, vI (d 72 (x1 + 1))]) (S := []) (a := 65) (pc' := 188) dX12_execute_185 rfl cl_RX12_274 cm_X12_addHoliday cv_X12_addHoliday ⟨by decide, by decide, by decide, by decide, by decide⟩ rfl rfl rfl ⟨by decide, by omega⟩ (by decide +kernel) (by decide +kernel) (Nat.le_of_ble_eq_true rfl) (MM.mono ?_ h)
                                      intro o g94 d95 h92
                                      rcases o with v93 | k
                                      · refine mw_top (fun hT => ?_)
                                        have hG : 76 ≤ g94.2.1 := hT.2
                                        show MW mX12_execute 0 0 188 [(0, vR 65), (1, vI x1), (2, vI (d 72 (x1 + 1)))] [vI v93] g94 d95 Q
                                        refine mw_pop (pc' := 189) dX12_execute_188 rfl rfl ?_
                                        exact mw_vret (pc' := 0) (S := []) dX12_execute_189 rfl h92
                                      · exact mx_out rfl h92
                                    · replace h := h.2 c91
                                      by_cases c96 : d 72 x1 = 118
                                      · replace h := h.1 c96
                                        refine mw_tabIn (pc' := 0) (off := 89) (tgt := 104) dX12_execute_15 (by omega) (by rw [c96]; rfl) (by decide) ?_
                                        refine mw_aload_n (v := vR 65) (pc' := 105) dX12_execute_104 rfl rfl (Or.inl rfl) rfl ?_
                                        refine mw_iload_n (pc' := 106) dX12_execute_105 rfl rfl rfl ?_
                                        refine mw_aload_n (v := vR 65) (pc' := 107) dX12_execute_106 rfl rfl (Or.inl rfl) rfl ?_
                                        refine mw_getP (v := 72) (pc' := 110) dX12_execute_107 rfl fr_RX12_35_65 rfl sp_65_14 ⟨by decide, by decide⟩ ?_
                                        refine mw_iload_n (pc' := 111) dX12_execute_110 rfl rfl rfl ?_
                                        refine mw_iconst (pc' := 112) dX12_execute_111 rfl ⟨by decide, by decide⟩ ?_
                                        obtain ⟨o97, h⟩ := h
                                        refine mw_iadd (pc' := 113) dX12_execute_112 rfl o97 ?_
                                        obtain ⟨o98, h⟩ := h
                                        refine mw_iald (pc' := 114) dX12_execute_113 rfl lk_72 ⟨by decide, by decide⟩ (by rw [ln_72]; exact o98) ?_
                                        refine mw_aload_n (v := vR 65) (pc' := 115) dX12_execute_114 rfl rfl (Or.inl rfl) rfl ?_
                                        refine mw_getP (v := 72) (pc' := 118) dX12_execute_115 rfl fr_RX12_35_65 rfl sp_65_14 ⟨by decide, by decide⟩ ?_
                                        refine mw_iload_n (pc' := 119) dX12_execute_118 rfl rfl rfl ?_
                                        refine mw_iconst (pc' := 120) dX12_execute_119 rfl ⟨by decide, by decide⟩ ?_
                                        obtain ⟨o99, h⟩ := h
                                        refine mw_iadd (pc' := 121) dX12_execute_120 rfl o99 ?_
                                        obtain ⟨o100, h⟩ := h
                                        refine mw_iald (pc' := 122) dX12_execute_121 rfl lk_72 ⟨by decide, by decide⟩ (by rw [ln_72]; exact o100) ?_
                                        refine mw_i2c (pc' := 123) dX12_execute_122 rfl ?_
                                        refine mw_callV (M' := mX12_serve) (A := [vI (d 72 (x1 + 1)), vI (d 72 (x1 + 2)), vI ((d 72 (x1 + 3)) % 65536)]) (A' := [vR 65, vI (d 72 (x1 + 1)), vI (d 72 (x1 + 2)), vI ((d 72 (x1 + 3)) % 65536)]) (S := []) (a := 65) (pc' := 126) dX12_execute_123 rfl cl_RX12_255 cm_X12_serve cv_X12_serve ⟨by decide, by decide, by decide, by decide, by decide⟩ rfl rfl rfl ⟨by decide, by omega⟩ (by decide +kernel) (by decide +kernel) (Nat.le_of_ble_eq_true rfl) (MM.mono ?_ h)
                                        intro o g103 d104 h101
                                        rcases o with v102 | k
                                        · refine mw_top (fun hT => ?_)
                                          have hG : 76 ≤ g103.2.1 := hT.2
                                          show MW mX12_execute 0 0 126 [(0, vR 65), (1, vI x1), (2, vI (d 72 (x1 + 1)))] [vI v102] g103 d104 Q
                                          refine mw_pop (pc' := 127) dX12_execute_126 rfl rfl ?_
                                          refine mw_goto (pc' := 0) (tgt := 189) dX12_execute_127 (by decide) ?_
                                          exact mw_vret (pc' := 0) (S := []) dX12_execute_189 rfl h101
                                        · exact mx_out rfl h101
                                      · replace h := h.2 c96
                                        refine mw_tabOut (pc' := 0) (tgt := 183) dX12_execute_15 (by omega) (by decide) ?_
                                        refine mw_aload_n (v := vR 65) (pc' := 184) dX12_execute_183 rfl rfl (Or.inl rfl) rfl ?_
                                        refine mw_iload_n (pc' := 185) dX12_execute_184 rfl rfl rfl ?_
                                        refine mw_callV (M' := mX12_addHoliday) (A := [vI (d 72 (x1 + 1))]) (A' := [vR 65, vI (d 72 (x1 + 1))]) (S := []) (a := 65) (pc' := 188) dX12_execute_185 rfl cl_RX12_274 cm_X12_addHoliday cv_X12_addHoliday ⟨by decide, by decide, by decide, by decide, by decide⟩ rfl rfl rfl ⟨by decide, by omega⟩ (by decide +kernel) (by decide +kernel) (Nat.le_of_ble_eq_true rfl) (MM.mono ?_ h)
                                        intro o g107 d108 h105
                                        rcases o with v106 | k
                                        · refine mw_top (fun hT => ?_)
                                          have hG : 76 ≤ g107.2.1 := hT.2
                                          show MW mX12_execute 0 0 188 [(0, vR 65), (1, vI x1), (2, vI (d 72 (x1 + 1)))] [vI v106] g107 d108 Q
                                          refine mw_pop (pc' := 189) dX12_execute_188 rfl rfl ?_
                                          exact mw_vret (pc' := 0) (S := []) dX12_execute_189 rfl h105
                                        · exact mx_out rfl h105
def pX12_run_1 (x1 x2 : Int) (g : mG) (d : mD) (Q : mQ) : Prop := MW mX12_run 0 0 44 [(0, vR 65), (1, vI x1), (2, vI x2)] [] g d Q
def pX12_run_2 (x1 x2 : Int) (g : mG) (d : mD) (Q : mQ) : Prop := MW mX12_run 0 0 76 [(0, vR 65), (1, vI x1), (2, vI x2)] [] g d Q
def pX12_run_3 (x1 x2 x3 : Int) (g : mG) (d : mD) (Q : mQ) : Prop := MW mX12_run 0 0 130 [(0, vR 65), (1, vI x1), (2, vI x2), (3, vI x3)] [] g d Q
theorem eX12_run {g : mG} {d : mD} {Q : mQ} (h : MM mX12_readProgram [vR 65] g (ud d 65 5 0) (fun o g3 d4 => match o with | .inl v2 => MM mX12_fails [vR 65, vI (bI (v2 = 0)), vI 1] g3 (ud d4 65 7 0) (fun o g9 d10 => match o with | .inl v8 => ((v8 = 0) → pX12_run_1 v2 0 g9 d10 Q) ∧ ((¬ (v8 = 0)) → Q (.inl 0) g9 (ud d10 65 10 (d10 65 17))) | .inr k => Q (.inr k) g9 d10) | .inr k => Q (.inr k) g3 d4)) : MM mX12_run [vR 65] g d Q := by
  refine MM_of (by decide) rfl (by simp [catV]) (Nat.le_of_ble_eq_true rfl) ?_
  show MW mX12_run 0 0 0 [(0, vR 65)] [] g d Q
  refine mw_top (fun hT => ?_)
  have hG : 76 ≤ g.2.1 := hT.2
  refine mw_aload_n (v := vR 65) (pc' := 1) dX12_run_0 rfl rfl (Or.inl rfl) rfl ?_
  refine mw_iconst (pc' := 2) dX12_run_1 rfl ⟨by decide, by decide⟩ ?_
  refine mw_putI (ji := 5) (pc' := 5) dX12_run_2 rfl (fq_RX12_41_65) (by decide +kernel) rfl (Or.inl ⟨rfl, rc_65_5⟩) (Or.inr rfl) ⟨by decide, by omega⟩ ?_
  refine mw_aload_n (v := vR 65) (pc' := 6) dX12_run_5 rfl rfl (Or.inl rfl) rfl ?_
  refine mw_callV (M' := mX12_readProgram) (A := []) (A' := [vR 65]) (S := []) (a := 65) (pc' := 9) dX12_run_6 rfl cl_RX12_277 cm_X12_readProgram cv_X12_readProgram ⟨by decide, by decide, by decide, by decide, by decide⟩ rfl rfl rfl ⟨by decide, by omega⟩ (by decide +kernel) (by decide +kernel) (Nat.le_of_ble_eq_true rfl) (MM.mono ?_ h)
  intro o g3 d4 h1
  rcases o with v2 | k
  · refine mw_top (fun hT => ?_)
    have hG : 76 ≤ g3.2.1 := hT.2
    show MW mX12_run 0 0 9 [(0, vR 65)] [vI v2] g3 d4 Q
    refine mw_istore_n (pc' := 10) (L' := [(0, vR 65), (1, vI v2)]) dX12_run_9 rfl rfl (by decide) rfl ?_
    refine mw_aload_n (v := vR 65) (pc' := 11) dX12_run_10 rfl rfl (Or.inl rfl) rfl ?_
    refine mw_iconst (pc' := 12) dX12_run_11 rfl ⟨by decide, by decide⟩ ?_
    refine mw_putI (ji := 7) (pc' := 15) dX12_run_12 rfl (fq_RX12_59_65) (by decide +kernel) rfl (Or.inl ⟨rfl, rc_65_7⟩) (Or.inr rfl) ⟨by decide, by omega⟩ ?_
    refine mw_aload_n (v := vR 65) (pc' := 16) dX12_run_15 rfl rfl (Or.inl rfl) rfl ?_
    refine mw_iload_n (pc' := 17) dX12_run_16 rfl rfl rfl ?_
    suffices k5 : MW mX12_run 0 0 25 [(0, vR 65), (1, vI v2)] [vI (bI (v2 = 0)), vR 65] g3 (ud d4 65 7 0) Q by
      refine mw_if_ne (tgt := 24) (pc' := 20) dX12_run_17 rfl (by decide) (fun c6 => ?_) (fun c6 => ?_)
      · refine mw_iconst (pc' := 25) dX12_run_24 rfl ⟨by decide, by decide⟩ ?_
        exact mw_st (bI_f (fun h => (c6 h))).symm k5
      · refine mw_iconst (pc' := 21) dX12_run_20 rfl ⟨by decide, by decide⟩ ?_
        refine mw_goto (pc' := 0) (tgt := 25) dX12_run_21 (by decide) ?_
        exact mw_st (bI_t c6).symm k5
    refine mw_iconst (pc' := 26) dX12_run_25 rfl ⟨by decide, by decide⟩ ?_
    refine mw_callV (M' := mX12_fails) (A := [vI (bI (v2 = 0)), vI 1]) (A' := [vR 65, vI (bI (v2 = 0)), vI 1]) (S := []) (a := 65) (pc' := 29) dX12_run_26 rfl cl_RX12_55 cm_X12_fails cv_X12_fails ⟨by decide, by decide, by decide, by decide, by decide⟩ rfl rfl rfl ⟨by decide, by omega⟩ (by decide +kernel) (by decide +kernel) (Nat.le_of_ble_eq_true rfl) (MM.mono ?_ h1)
    intro o g9 d10 h7
    rcases o with v8 | k
    · refine mw_top (fun hT => ?_)
      have hG : 76 ≤ g9.2.1 := hT.2
      show MW mX12_run 0 0 29 [(0, vR 65), (1, vI v2)] [vI v8] g9 d10 Q
      refine mw_if_eq (tgt := 42) (pc' := 32) dX12_run_29 rfl (by decide) (fun c11 => ?_) (fun c11 => ?_)
      · replace h7 := h7.1 c11
        refine mw_iconst (pc' := 43) dX12_run_42 rfl ⟨by decide, by decide⟩ ?_
        refine mw_istore_n (pc' := 44) (L' := [(0, vR 65), (1, vI v2), (2, vI 0)]) dX12_run_43 rfl rfl (by decide) rfl ?_
        exact h7
      · replace h7 := h7.2 c11
        refine mw_aload_n (v := vR 65) (pc' := 33) dX12_run_32 rfl rfl (Or.inl rfl) rfl ?_
        refine mw_aload_n (v := vR 65) (pc' := 34) dX12_run_33 rfl rfl (Or.inl rfl) rfl ?_
        refine mw_getI (ji := 17) (pc' := 37) dX12_run_34 rfl fi_RX12_224_65 rfl ⟨by decide, by decide⟩ ?_
        refine mw_putI (ji := 10) (pc' := 40) dX12_run_37 rfl (fq_RX12_25_65) (by decide +kernel) rfl (Or.inl ⟨rfl, rc_65_10⟩) (Or.inr rfl) ⟨by decide, by omega⟩ ?_
        refine mw_iconst (pc' := 41) dX12_run_40 rfl ⟨by decide, by decide⟩ ?_
        exact mw_iret (pc' := 0) (S := []) dX12_run_41 rfl (Or.inl rfl) h7
    · exact mx_out rfl h7
  · exact mx_out rfl h1
theorem aX12_run_1 {x1 x2 : Int} {g : mG} {d : mD} {Q : mQ} (h : ((787 ≤ x2) → pX12_run_2 x1 0 g (ud d 65 4 1) Q) ∧ ((¬ (787 ≤ x2)) → (0 ≤ x2 ∧ x2 < 787) ∧ ((iI (x2 + 1)) ∧ (pX12_run_1 x1 (x2 + 1) g (ud d 67 x2 (d 66 x2)) Q)))) : pX12_run_1 x1 x2 g d Q := by
  unfold pX12_run_1
  refine mw_top (fun hT => ?_)
  have hG : 76 ≤ g.2.1 := hT.2
  refine mw_iload_n (pc' := 45) dX12_run_44 rfl rfl rfl ?_
  refine mw_sipush (pc' := 48) dX12_run_45 rfl ⟨by decide, by decide⟩ ?_
  refine mw_icmp_ge (tgt := 69) (pc' := 51) dX12_run_48 rfl (by decide) (fun c14 => ?_) (fun c14 => ?_)
  · replace h := h.1 c14
    refine mw_aload_n (v := vR 65) (pc' := 70) dX12_run_69 rfl rfl (Or.inl rfl) rfl ?_
    refine mw_iconst (pc' := 71) dX12_run_70 rfl ⟨by decide, by decide⟩ ?_
    refine mw_putI (ji := 4) (pc' := 74) dX12_run_71 rfl (fq_RX12_47_65) (by decide +kernel) rfl (Or.inr ⟨rfl, rc_65_4⟩) (Or.inl (by rw [rc_65_4]; exact ⟨by decide, by decide⟩)) ⟨by decide, by omega⟩ ?_
    refine mw_iconst (pc' := 75) dX12_run_74 rfl ⟨by decide, by decide⟩ ?_
    refine mw_istore_n (pc' := 76) (L' := [(0, vR 65), (1, vI x1), (2, vI 0)]) dX12_run_75 rfl rfl (by decide) rfl ?_
    exact h
  · replace h := h.2 c14
    refine mw_aload_n (v := vR 65) (pc' := 52) dX12_run_51 rfl rfl (Or.inl rfl) rfl ?_
    refine mw_getP (v := 67) (pc' := 55) dX12_run_52 rfl fr_RX12_13_65 rfl sp_65_1 ⟨by decide, by decide⟩ ?_
    refine mw_iload_n (pc' := 56) dX12_run_55 rfl rfl rfl ?_
    refine mw_aload_n (v := vR 65) (pc' := 57) dX12_run_56 rfl rfl (Or.inl rfl) rfl ?_
    refine mw_getP (v := 66) (pc' := 60) dX12_run_57 rfl fr_RX12_9_65 rfl sp_65_0 ⟨by decide, by decide⟩ ?_
    refine mw_iload_n (pc' := 61) dX12_run_60 rfl rfl rfl ?_
    obtain ⟨o15, h⟩ := h
    refine mw_iald (pc' := 62) dX12_run_61 rfl lk_66 ⟨by decide, by decide⟩ (by rw [ln_66]; exact o15) ?_
    refine mw_iast (pc' := 63) dX12_run_62 rfl lk_67 ⟨by decide, by decide⟩ (by rw [ln_67]; exact o15) ?_
    obtain ⟨o17, h⟩ := h
    refine mw_iinc (pc' := 66) (L' := [(0, vR 65), (1, vI x1), (2, vI (x2 + 1))]) dX12_run_63 rfl rfl (by decide) o17 rfl ?_
    refine mw_goto (pc' := 0) (tgt := 44) dX12_run_66 (by decide) ?_
    exact h
theorem aX12_run_2 {x1 x2 : Int} {g : mG} {d : mD} {Q : mQ} (h : (((¬ (d 65 15 ≤ x2)) ∧ (d 65 5 = 0)) → (iI (4 * x2)) ∧ (MM mX12_execute [vR 65, vI (4 * x2)] g d (fun o g27 d28 => match o with | .inl v26 => (iI (x2 + (bI (d28 65 5 = 0)))) ∧ (pX12_run_2 x1 (x2 + (bI (d28 65 5 = 0))) g27 d28 Q) | .inr k => Q (.inr k) g27 d28))) ∧ ((¬ ((¬ (d 65 15 ≤ x2)) ∧ (d 65 5 = 0))) → ((d 65 5 = 0) → MM mX12_remember [vR 65, vR 67] g (ud d 65 4 0) (fun o g35 d36 => match o with | .inl v34 => Q (.inl x2) g35 d36 | .inr k => Q (.inr k) g35 d36)) ∧ ((¬ (d 65 5 = 0)) → pX12_run_3 x1 x2 0 g (ud d 65 4 0) Q))) : pX12_run_2 x1 x2 g d Q := by
  unfold pX12_run_2
  refine mw_top (fun hT => ?_)
  have hG : 76 ≤ g.2.1 := hT.2
  refine mw_iload_n (pc' := 77) dX12_run_76 rfl rfl rfl ?_
  refine mw_aload_n (v := vR 65) (pc' := 78) dX12_run_77 rfl rfl (Or.inl rfl) rfl ?_
  refine mw_getI (ji := 15) (pc' := 81) dX12_run_78 rfl fi_RX12_242_65 rfl ⟨by decide, by decide⟩ ?_
  suffices k20 : (((¬ (d 65 15 ≤ x2)) ∧ (d 65 5 = 0)) → MW mX12_run 0 0 91 [(0, vR 65), (1, vI x1), (2, vI x2)] [] g d Q) ∧ ((¬ ((¬ (d 65 15 ≤ x2)) ∧ (d 65 5 = 0))) → MW mX12_run 0 0 116 [(0, vR 65), (1, vI x1), (2, vI x2)] [] g d Q) by
    refine mw_icmp_ge (tgt := 116) (pc' := 84) dX12_run_81 rfl (by decide) (fun c21 => ?_) (fun c21 => ?_)
    · exact k20.2 (fun h => (h.1 c21))
    · refine mw_aload_n (v := vR 65) (pc' := 85) dX12_run_84 rfl rfl (Or.inl rfl) rfl ?_
      refine mw_getI (ji := 5) (pc' := 88) dX12_run_85 rfl fi_RX12_41_65 rfl ⟨by decide, by decide⟩ ?_
      refine mw_if_ne (tgt := 116) (pc' := 91) dX12_run_88 rfl (by decide) (fun c22 => ?_) (fun c22 => ?_)
      · exact k20.2 (fun h => (fun h => (c22 h)) h.2)
      · exact k20.1 ⟨c21, c22⟩
  refine ⟨fun c23 => ?_, fun c23 => ?_⟩
  · replace h := h.1 c23
    refine mw_aload_n (v := vR 65) (pc' := 92) dX12_run_91 rfl rfl (Or.inl rfl) rfl ?_
    refine mw_iconst (pc' := 93) dX12_run_92 rfl ⟨by decide, by decide⟩ ?_
    refine mw_iload_n (pc' := 94) dX12_run_93 rfl rfl rfl ?_
    obtain ⟨o24, h⟩ := h
    refine mw_imul (pc' := 95) dX12_run_94 rfl o24 ?_
    refine mw_callV (M' := mX12_execute) (A := [vI (4 * x2)]) (A' := [vR 65, vI (4 * x2)]) (S := []) (a := 65) (pc' := 98) dX12_run_95 rfl cl_RX12_280 cm_X12_execute cv_X12_execute ⟨by decide, by decide, by decide, by decide, by decide⟩ rfl rfl rfl ⟨by decide, by omega⟩ (by decide +kernel) (by decide +kernel) (Nat.le_of_ble_eq_true rfl) (MM.mono ?_ h)
    intro o g27 d28 h25
    rcases o with v26 | k
    · refine mw_top (fun hT => ?_)
      have hG : 76 ≤ g27.2.1 := hT.2
      show MW mX12_run 0 0 98 [(0, vR 65), (1, vI x1), (2, vI x2)] [] g27 d28 Q
      refine mw_iload_n (pc' := 99) dX12_run_98 rfl rfl rfl ?_
      refine mw_aload_n (v := vR 65) (pc' := 100) dX12_run_99 rfl rfl (Or.inl rfl) rfl ?_
      refine mw_getI (ji := 5) (pc' := 103) dX12_run_100 rfl fi_RX12_41_65 rfl ⟨by decide, by decide⟩ ?_
      suffices k29 : MW mX12_run 0 0 111 [(0, vR 65), (1, vI x1), (2, vI x2)] [vI (bI (d28 65 5 = 0)), vI x2] g27 d28 Q by
        refine mw_if_ne (tgt := 110) (pc' := 106) dX12_run_103 rfl (by decide) (fun c30 => ?_) (fun c30 => ?_)
        · refine mw_iconst (pc' := 111) dX12_run_110 rfl ⟨by decide, by decide⟩ ?_
          exact mw_st (bI_f (fun h => (c30 h))).symm k29
        · refine mw_iconst (pc' := 107) dX12_run_106 rfl ⟨by decide, by decide⟩ ?_
          refine mw_goto (pc' := 0) (tgt := 111) dX12_run_107 (by decide) ?_
          exact mw_st (bI_t c30).symm k29
      obtain ⟨o31, h25⟩ := h25
      refine mw_iadd (pc' := 112) dX12_run_111 rfl o31 ?_
      refine mw_istore_n (pc' := 113) (L' := [(0, vR 65), (1, vI x1), (2, vI (x2 + (bI (d28 65 5 = 0))))]) dX12_run_112 rfl rfl (by decide) rfl ?_
      refine mw_goto (pc' := 0) (tgt := 76) dX12_run_113 (by decide) ?_
      exact h25
    · exact mx_out rfl h25
  · replace h := h.2 c23
    refine mw_aload_n (v := vR 65) (pc' := 117) dX12_run_116 rfl rfl (Or.inl rfl) rfl ?_
    refine mw_iconst (pc' := 118) dX12_run_117 rfl ⟨by decide, by decide⟩ ?_
    refine mw_putI (ji := 4) (pc' := 121) dX12_run_118 rfl (fq_RX12_47_65) (by decide +kernel) rfl (Or.inr ⟨rfl, rc_65_4⟩) (Or.inl (by rw [rc_65_4]; exact ⟨by decide, by decide⟩)) ⟨by decide, by omega⟩ ?_
    refine mw_aload_n (v := vR 65) (pc' := 122) dX12_run_121 rfl rfl (Or.inl rfl) rfl ?_
    refine mw_getI (ji := 5) (pc' := 125) dX12_run_122 rfl fi_RX12_41_65 rfl ⟨by decide, by decide⟩ ?_
    refine mw_st (b := d 65 5) (udI (by decide) (rfl)) ?_
    refine mw_if_eq (tgt := 167) (pc' := 128) dX12_run_125 rfl (by decide) (fun c32 => ?_) (fun c32 => ?_)
    · replace h := h.1 c32
      refine mw_aload_n (v := vR 65) (pc' := 168) dX12_run_167 rfl rfl (Or.inl rfl) rfl ?_
      refine mw_aload_n (v := vR 65) (pc' := 169) dX12_run_168 rfl rfl (Or.inl rfl) rfl ?_
      refine mw_getP (v := 67) (pc' := 172) dX12_run_169 rfl fr_RX12_13_65 rfl sp_65_1 ⟨by decide, by decide⟩ ?_
      refine mw_callV (M' := mX12_remember) (A := [vR 67]) (A' := [vR 65, vR 67]) (S := []) (a := 65) (pc' := 175) dX12_run_172 rfl cl_RX12_51 cm_X12_remember cv_X12_remember ⟨by decide, by decide, by decide, by decide, by decide⟩ rfl rfl rfl ⟨by decide, by omega⟩ (by decide +kernel) (by decide +kernel) (Nat.le_of_ble_eq_true rfl) (MM.mono ?_ h)
      intro o g35 d36 h33
      rcases o with v34 | k
      · refine mw_top (fun hT => ?_)
        have hG : 76 ≤ g35.2.1 := hT.2
        show MW mX12_run 0 0 175 [(0, vR 65), (1, vI x1), (2, vI x2)] [] g35 d36 Q
        refine mw_iload_n (pc' := 176) dX12_run_175 rfl rfl rfl ?_
        exact mw_iret (pc' := 0) (S := []) dX12_run_176 rfl (Or.inl rfl) h33
      · exact mx_out rfl h33
    · replace h := h.2 c32
      refine mw_iconst (pc' := 129) dX12_run_128 rfl ⟨by decide, by decide⟩ ?_
      refine mw_istore_n (pc' := 130) (L' := [(0, vR 65), (1, vI x1), (2, vI x2), (3, vI 0)]) dX12_run_129 rfl rfl (by decide) rfl ?_
      exact h
theorem aX12_run_3 {x1 x2 x3 : Int} {g : mG} {d : mD} {Q : mQ} (h : ((787 ≤ x3) → Q (.inl 0) g (ud (ud d 65 11 x2) 65 5 2)) ∧ ((¬ (787 ≤ x3)) → (0 ≤ x3 ∧ x3 < 787) ∧ ((iI (x3 + 1)) ∧ (pX12_run_3 x1 x2 (x3 + 1) g (ud d 66 x3 (d 67 x3)) Q)))) : pX12_run_3 x1 x2 x3 g d Q := by
  unfold pX12_run_3
  refine mw_top (fun hT => ?_)
  have hG : 76 ≤ g.2.1 := hT.2
  refine mw_iload_n (pc' := 131) dX12_run_130 rfl rfl rfl ?_
  refine mw_sipush (pc' := 134) dX12_run_131 rfl ⟨by decide, by decide⟩ ?_
  refine mw_icmp_ge (tgt := 155) (pc' := 137) dX12_run_134 rfl (by decide) (fun c39 => ?_) (fun c39 => ?_)
  · replace h := h.1 c39
    refine mw_aload_n (v := vR 65) (pc' := 156) dX12_run_155 rfl rfl (Or.inl rfl) rfl ?_
    refine mw_iload_n (pc' := 157) dX12_run_156 rfl rfl rfl ?_
    refine mw_putI (ji := 11) (pc' := 160) dX12_run_157 rfl (fq_RX12_29_65) (by decide +kernel) rfl (Or.inl ⟨rfl, rc_65_11⟩) (Or.inr rfl) ⟨by decide, by omega⟩ ?_
    refine mw_aload_n (v := vR 65) (pc' := 161) dX12_run_160 rfl rfl (Or.inl rfl) rfl ?_
    refine mw_iconst (pc' := 162) dX12_run_161 rfl ⟨by decide, by decide⟩ ?_
    refine mw_putI (ji := 5) (pc' := 165) dX12_run_162 rfl (fq_RX12_41_65) (by decide +kernel) rfl (Or.inl ⟨rfl, rc_65_5⟩) (Or.inr rfl) ⟨by decide, by omega⟩ ?_
    refine mw_iconst (pc' := 166) dX12_run_165 rfl ⟨by decide, by decide⟩ ?_
    exact mw_iret (pc' := 0) (S := []) dX12_run_166 rfl (Or.inl rfl) h
  · replace h := h.2 c39
    refine mw_aload_n (v := vR 65) (pc' := 138) dX12_run_137 rfl rfl (Or.inl rfl) rfl ?_
    refine mw_getP (v := 66) (pc' := 141) dX12_run_138 rfl fr_RX12_9_65 rfl sp_65_0 ⟨by decide, by decide⟩ ?_
    refine mw_iload_n (pc' := 142) dX12_run_141 rfl rfl rfl ?_
    refine mw_aload_n (v := vR 65) (pc' := 143) dX12_run_142 rfl rfl (Or.inl rfl) rfl ?_
    refine mw_getP (v := 67) (pc' := 146) dX12_run_143 rfl fr_RX12_13_65 rfl sp_65_1 ⟨by decide, by decide⟩ ?_
    refine mw_iload_n (pc' := 147) dX12_run_146 rfl rfl rfl ?_
    obtain ⟨o40, h⟩ := h
    refine mw_iald (pc' := 148) dX12_run_147 rfl lk_67 ⟨by decide, by decide⟩ (by rw [ln_67]; exact o40) ?_
    refine mw_iast (pc' := 149) dX12_run_148 rfl lk_66 ⟨by decide, by decide⟩ (by rw [ln_66]; exact o40) ?_
    obtain ⟨o42, h⟩ := h
    refine mw_iinc (pc' := 152) (L' := [(0, vR 65), (1, vI x1), (2, vI x2), (3, vI (x3 + 1))]) dX12_run_149 rfl rfl (by decide) o42 rfl ?_
    refine mw_goto (pc' := 0) (tgt := 130) dX12_run_152 (by decide) ?_
    exact h
