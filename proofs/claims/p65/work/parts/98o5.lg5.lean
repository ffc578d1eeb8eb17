def pL_law_1 (bc bs : Nat) (g : mG) (d : mD) (Q : mQ) : Prop := MW mL_law bc bs 8 [(0, (5, 0)), (1, vR 0)] [] g d Q
def pL_law_2 (bc bs : Nat) (s0 : Int) (g : mG) (d : mD) (Q : mQ) : Prop := MW mL_law bc bs 39 [(0, (5, 0)), (1, vR 0)] [vI s0] g d Q
def pL_law_3 (bc bs : Nat) (x2 x3 : Int) (g : mG) (d : mD) (Q : mQ) : Prop := MW mL_law bc bs 42 [(0, (5, 0)), (1, vR 0), (2, vI x2), (3, vI x3)] [] g d Q
def pL_law_4 (bc bs : Nat) (x2 x3 x4 x5 s0 : Int) (g : mG) (d : mD) (Q : mQ) : Prop := MW mL_law bc bs 110 [(0, (5, 0)), (1, vR 0), (2, vI x2), (3, vI x3), (4, vI x4), (5, vI x5)] [vI s0] g d Q
def pL_law_5 (bc bs : Nat) (x2 x3 x4 x5 : Int) (g : mG) (d : mD) (Q : mQ) : Prop := MW mL_law bc bs 91 [(0, (5, 0)), (1, vR 0), (2, vI x2), (3, vI x3), (4, vI x4), (5, vI x5)] [] g d Q
def pL_law_6 (bc bs : Nat) (x2 x3 : Int) (g : mG) (d : mD) (Q : mQ) : Prop := MW mL_law bc bs 214 [(0, (5, 0)), (1, vR 0), (2, vI x2), (3, vI x3)] [] g d Q
def pL_law_7 (bc bs : Nat) (x2 x3 x4 x5 s0 : Int) (g : mG) (d : mD) (Q : mQ) : Prop := MW mL_law bc bs 162 [(0, (5, 0)), (1, vR 0), (2, vI x2), (3, vI x3), (4, vI x4), (5, vI x5)] [vI s0] g d Q
def pL_law_8 (bc bs : Nat) (x2 x3 x4 x5 : Int) (g : mG) (d : mD) (Q : mQ) : Prop := MW mL_law bc bs 157 [(0, (5, 0)), (1, vR 0), (2, vI x2), (3, vI x3), (4, vI x4), (5, vI x5)] [] g d Q
def pL_law_9 (bc bs : Nat) (x2 x3 x4 x5 : Int) (g : mG) (d : mD) (Q : mQ) : Prop := MW mL_law bc bs 105 [(0, (5, 0)), (1, vR 0), (2, vI x2), (3, vI x3), (4, vI x4), (5, vI x5)] [] g d Q
def pL_law_10 (bc bs : Nat) (x2 x3 s0 : Int) (g : mG) (d : mD) (Q : mQ) : Prop := MW mL_law bc bs 237 [(0, (5, 0)), (1, vR 0), (2, vI x2), (3, vI x3)] [vI s0] g d Q
def pL_law_11 (bc bs : Nat) (x2 x3 x4 x5 x6 s0 : Int) (g : mG) (d : mD) (Q : mQ) : Prop := MW mL_law bc bs 207 [(0, (5, 0)), (1, vR 0), (2, vI x2), (3, vI x3), (4, vI x4), (5, vI x5), (6, vI x6)] [vI s0] g d Q
def pL_law_12 (bc bs : Nat) (x2 x3 x4 x5 x6 : Int) (g : mG) (d : mD) (Q : mQ) : Prop := MW mL_law bc bs 202 [(0, (5, 0)), (1, vR 0), (2, vI x2), (3, vI x3), (4, vI x4), (5, vI x5), (6, vI x6)] [] g d Q
theorem aL_law_1 {bc bs : Nat} {g : mG} {d : mD} {Q : mQ} (hb : 2202 ≤ bc ∧ 235700 ≤ bs) (h : MM mL_lay [vR 0, (5, 0)] g d (fun o g3 d4 => match o with | .inl v2 => MM mL_areDeadlines [vR 0] g3 d4 (fun o g7 d8 => match o with | .inl v6 => ((v6 = 0) → pL_law_2 (bc - 1344 - 558) (bs - 230552 - 3348) 0 g7 d8 Q) ∧ ((¬ (v6 = 0)) → MM mL_isOrdered [vR 0] g7 d8 (fun o g12 d13 => match o with | .inl v11 => ((v11 = 0) → pL_law_2 (bc - 1344 - 558 - 300) (bs - 230552 - 3348 - 1800) 0 g12 d13 Q) ∧ ((¬ (v11 = 0)) → MM mX11_isConsistent [vR 0] g12 d13 (fun o g17 d18 => match o with | .inl v16 => pL_law_2 (bc - 1344 - 558 - 300) (bs - 230552 - 3348 - 1800) (bI (¬ (v16 = 0))) g17 d18 Q | .inr k => Q (.inr k) g17 d18)) | .inr k => Q (.inr k) g12 d13)) | .inr k => Q (.inr k) g7 d8) | .inr k => Q (.inr k) g3 d4)) : pL_law_1 bc bs  g d Q := by
  unfold pL_law_1
  refine mw_top (fun hT => ?_)
  have hG : 65 ≤ g.2.1 := hT.2
  refine mw_aload_n (v := vR 0) (pc' := 9) dL_law_8 rfl rfl (Or.inl rfl) rfl ?_
  refine mw_aload_n (v := (5, 0)) (pc' := 10) dL_law_9 rfl rfl (Or.inr (Or.inl rfl)) rfl ?_
  refine mw_callS (M' := mL_lay) (A := [vR 0, (5, 0)]) (S := []) (pc' := 13) dL_law_10 rfl cl_RL_250 cm_L_lay cs_L_lay ⟨by decide, by decide, (by show 1344 ≤ bc; omega), (by show 230552 ≤ bs; omega), by decide⟩ rfl rfl (Nat.le_of_ble_eq_true rfl) (MM.mono ?_ h)
  intro o g3 d4 h1
  rcases o with v2 | k
  · refine mw_top (fun hT => ?_)
    have hG : 65 ≤ g3.2.1 := hT.2
    show MW mL_law (bc - 1344) (bs - 230552) 13 [(0, (5, 0)), (1, vR 0)] [] g3 d4 Q
    refine mw_aload_n (v := vR 0) (pc' := 14) dL_law_13 rfl rfl (Or.inl rfl) rfl ?_
    refine mw_callS (M' := mL_areDeadlines) (A := [vR 0]) (S := []) (pc' := 17) dL_law_14 rfl cl_RL_254 cm_L_areDeadlines cs_L_areDeadlines ⟨by decide, by decide, (by show 558 ≤ bc - 1344; omega), (by show 3348 ≤ bs - 230552; omega), by decide⟩ rfl rfl (Nat.le_of_ble_eq_true rfl) (MM.mono ?_ h1)
    intro o g7 d8 h5
    rcases o with v6 | k
    · refine mw_top (fun hT => ?_)
      have hG : 65 ≤ g7.2.1 := hT.2
      show MW mL_law (bc - 1344 - 558) (bs - 230552 - 3348) 17 [(0, (5, 0)), (1, vR 0)] [vI v6] g7 d8 Q
      refine mw_if_eq (tgt := 38) (pc' := 20) dL_law_17 rfl (by decide) (fun c9 => ?_) (fun c9 => ?_)
      · replace h5 := h5.1 c9
        refine mw_iconst (pc' := 39) dL_law_38 rfl ⟨by decide, by decide⟩ ?_
        exact h5
      · replace h5 := h5.2 c9
        refine mw_aload_n (v := vR 0) (pc' := 21) dL_law_20 rfl rfl (Or.inl rfl) rfl ?_
        refine mw_callS (M' := mL_isOrdered) (A := [vR 0]) (S := []) (pc' := 24) dL_law_21 rfl cl_RL_258 cm_L_isOrdered cs_L_isOrdered ⟨by decide, by decide, (by show 300 ≤ bc - 1344 - 558; omega), (by show 1800 ≤ bs - 230552 - 3348; omega), by decide⟩ rfl rfl (Nat.le_of_ble_eq_true rfl) (MM.mono ?_ h5)
        intro o g12 d13 h10
        rcases o with v11 | k
        · refine mw_top (fun hT => ?_)
          have hG : 65 ≤ g12.2.1 := hT.2
          show MW mL_law (bc - 1344 - 558 - 300) (bs - 230552 - 3348 - 1800) 24 [(0, (5, 0)), (1, vR 0)] [vI v11] g12 d13 Q
          refine mw_if_eq (tgt := 38) (pc' := 27) dL_law_24 rfl (by decide) (fun c14 => ?_) (fun c14 => ?_)
          · replace h10 := h10.1 c14
            refine mw_iconst (pc' := 39) dL_law_38 rfl ⟨by decide, by decide⟩ ?_
            exact h10
          · replace h10 := h10.2 c14
            refine mw_aload_n (v := vR 0) (pc' := 28) dL_law_27 rfl rfl (Or.inl rfl) rfl ?_
            refine mw_callV (M' := mX11_isConsistent) (A := []) (A' := [vR 0]) (S := []) (a := 0) (pc' := 31) dL_law_28 rfl cl_RL_261 cm_X11_isConsistent cv_X11_isConsistent ⟨by decide, by decide, (by show 0 ≤ bc - 1344 - 558 - 300; omega), (by show 0 ≤ bs - 230552 - 3348 - 1800; omega), by decide⟩ rfl rfl rfl ⟨by decide, by omega⟩ (by decide +kernel) (by decide +kernel) (Nat.le_of_ble_eq_true rfl) (MM.mono ?_ h10)
            intro o g17 d18 h15
            rcases o with v16 | k
            · refine mw_top (fun hT => ?_)
              have hG : 65 ≤ g17.2.1 := hT.2
              show MW mL_law (bc - 1344 - 558 - 300 - 0) (bs - 230552 - 3348 - 1800 - 0) 31 [(0, (5, 0)), (1, vR 0)] [vI v16] g17 d18 Q
              rw [Nat.sub_zero, Nat.sub_zero]
              suffices k19 : MW mL_law (bc - 1344 - 558 - 300) (bs - 230552 - 3348 - 1800) 39 [(0, (5, 0)), (1, vR 0)] [vI (bI (¬ (v16 = 0)))] g17 d18 Q by
                refine mw_if_eq (tgt := 38) (pc' := 34) dL_law_31 rfl (by decide) (fun c20 => ?_) (fun c20 => ?_)
                · refine mw_iconst (pc' := 39) dL_law_38 rfl ⟨by decide, by decide⟩ ?_
                  exact mw_st (bI_f (fun h => (h c20))).symm k19
                · refine mw_iconst (pc' := 35) dL_law_34 rfl ⟨by decide, by decide⟩ ?_
                  refine mw_goto (pc' := 0) (tgt := 39) dL_law_35 (by decide) ?_
                  exact mw_st (bI_t c20).symm k19
              exact h15
            · exact mx_out rfl h15
        · exact mx_out rfl h10
    · exact mx_out rfl h5
  · exact mx_out rfl h1
theorem aL_law_2 {bc bs : Nat} {s0 : Int} {g : mG} {d : mD} {Q : mQ} (h : pL_law_3 bc bs s0 0 g d Q) : pL_law_2 bc bs s0 g d Q := by
  unfold pL_law_2
  refine mw_top (fun hT => ?_)
  have hG : 65 ≤ g.2.1 := hT.2
  refine mw_istore_n (pc' := 40) (L' := [(0, (5, 0)), (1, vR 0), (2, vI s0)]) dL_law_39 rfl rfl (by decide) rfl ?_
  refine mw_iconst (pc' := 41) dL_law_40 rfl ⟨by decide, by decide⟩ ?_
  refine mw_istore_n (pc' := 42) (L' := [(0, (5, 0)), (1, vR 0), (2, vI s0), (3, vI 0)]) dL_law_41 rfl rfl (by decide) rfl ?_
  exact h
theorem aL_law_3 {bc bs : Nat} {x2 x3 : Int} {g : mG} {d : mD} {Q : mQ} (hb : 1206 ≤ bc ∧ 15182 ≤ bs) (h : (((¬ (8 ≤ x3)) ∧ (¬ (x2 = 0))) → MM mL_print [vR 0] g d (fun o g27 d28 => match o with | .inl v26 => (iI (5 * x3)) ∧ ((iI (100 + (5 * x3))) ∧ (MM mL_any [vR 0, (5, 0), vI (100 + (5 * x3))] g27 d28 (fun o g33 d34 => match o with | .inl v32 => MM mL_areDeadlines [vR 0] g33 d34 (fun o g37 d38 => match o with | .inl v36 => ((v36 = 0) → pL_law_4 (bc - 300 - 48 - 558) (bs - 1800 - 8234 - 3348) x2 x3 v26 v32 0 g37 d38 Q) ∧ ((¬ (v36 = 0)) → (0 ≤ x3) ∧ (((0 < x3 % 3) → pL_law_5 (bc - 300 - 48 - 558) (bs - 1800 - 8234 - 3348) x2 x3 v26 v32 g37 d38 Q) ∧ ((¬ (0 < x3 % 3)) → MM mL_isOrdered [vR 0] g37 d38 (fun o g46 d47 => match o with | .inl v45 => ((v45 = 0) → pL_law_4 (bc - 300 - 48 - 558 - 300) (bs - 1800 - 8234 - 3348 - 1800) x2 x3 v26 v32 0 g46 d47 Q) ∧ ((¬ (v45 = 0)) → pL_law_5 (bc - 300 - 48 - 558 - 300) (bs - 1800 - 8234 - 3348 - 1800) x2 x3 v26 v32 g46 d47 Q) | .inr k => Q (.inr k) g46 d47)))) | .inr k => Q (.inr k) g37 d38) | .inr k => Q (.inr k) g33 d34))) | .inr k => Q (.inr k) g27 d28)) ∧ ((¬ ((¬ (8 ≤ x3)) ∧ (¬ (x2 = 0)))) → pL_law_6 bc bs x2 x3 g d Q)) : pL_law_3 bc bs x2 x3 g d Q := by
  unfold pL_law_3
  refine mw_top (fun hT => ?_)
  have hG : 65 ≤ g.2.1 := hT.2
  refine mw_iload_n (pc' := 43) dL_law_42 rfl rfl rfl ?_
  refine mw_bipush (pc' := 45) dL_law_43 rfl ⟨by decide, by decide⟩ ?_
  suffices k21 : (((¬ (8 ≤ x3)) ∧ (¬ (x2 = 0))) → MW mL_law bc bs 52 [(0, (5, 0)), (1, vR 0), (2, vI x2), (3, vI x3)] [] g d Q) ∧ ((¬ ((¬ (8 ≤ x3)) ∧ (¬ (x2 = 0)))) → MW mL_law bc bs 214 [(0, (5, 0)), (1, vR 0), (2, vI x2), (3, vI x3)] [] g d Q) by
    refine mw_icmp_ge (tgt := 214) (pc' := 48) dL_law_45 rfl (by decide) (fun c22 => ?_) (fun c22 => ?_)
    · exact k21.2 (fun h => (h.1 c22))
    · refine mw_iload_n (pc' := 49) dL_law_48 rfl rfl rfl ?_
      refine mw_if_eq (tgt := 214) (pc' := 52) dL_law_49 rfl (by decide) (fun c23 => ?_) (fun c23 => ?_)
      · exact k21.2 (fun h => (fun h => (h c23)) h.2)
      · exact k21.1 ⟨c22, c23⟩
  refine ⟨fun c24 => ?_, fun c24 => ?_⟩
  · replace h := h.1 c24
    refine mw_aload_n (v := vR 0) (pc' := 53) dL_law_52 rfl rfl (Or.inl rfl) rfl ?_
    refine mw_callS (M' := mL_print) (A := [vR 0]) (S := []) (pc' := 56) dL_law_53 rfl cl_RL_245 cm_L_print cs_L_print ⟨by decide, by decide, (by show 300 ≤ bc; omega), (by show 1800 ≤ bs; omega), by decide⟩ rfl rfl (Nat.le_of_ble_eq_true rfl) (MM.mono ?_ h)
    intro o g27 d28 h25
    rcases o with v26 | k
    · refine mw_top (fun hT => ?_)
      have hG : 65 ≤ g27.2.1 := hT.2
      show MW mL_law (bc - 300) (bs - 1800) 56 [(0, (5, 0)), (1, vR 0), (2, vI x2), (3, vI x3)] [vI v26] g27 d28 Q
      refine mw_istore (pc' := 58) (L' := [(0, (5, 0)), (1, vR 0), (2, vI x2), (3, vI x3), (4, vI v26)]) dL_law_56 rfl (by decide) rfl ?_
      refine mw_aload_n (v := vR 0) (pc' := 59) dL_law_58 rfl rfl (Or.inl rfl) rfl ?_
      refine mw_aload_n (v := (5, 0)) (pc' := 60) dL_law_59 rfl rfl (Or.inr (Or.inl rfl)) rfl ?_
      refine mw_bipush (pc' := 62) dL_law_60 rfl ⟨by decide, by decide⟩ ?_
      refine mw_iconst (pc' := 63) dL_law_62 rfl ⟨by decide, by decide⟩ ?_
      refine mw_iload_n (pc' := 64) dL_law_63 rfl rfl rfl ?_
      obtain ⟨o29, h25⟩ := h25
      refine mw_imul (pc' := 65) dL_law_64 rfl o29 ?_
      obtain ⟨o30, h25⟩ := h25
      refine mw_iadd (pc' := 66) dL_law_65 rfl o30 ?_
      refine mw_callS (M' := mL_any) (A := [vR 0, (5, 0), vI (100 + (5 * x3))]) (S := []) (pc' := 69) dL_law_66 rfl cl_RL_265 cm_L_any cs_L_any ⟨by decide, by decide, (by show 48 ≤ bc - 300; omega), (by show 8234 ≤ bs - 1800; omega), by decide⟩ rfl rfl (Nat.le_of_ble_eq_true rfl) (MM.mono ?_ h25)
      intro o g33 d34 h31
      rcases o with v32 | k
      · refine mw_top (fun hT => ?_)
        have hG : 65 ≤ g33.2.1 := hT.2
        show MW mL_law (bc - 300 - 48) (bs - 1800 - 8234) 69 [(0, (5, 0)), (1, vR 0), (2, vI x2), (3, vI x3), (4, vI v26)] [vI v32] g33 d34 Q
        refine mw_istore (pc' := 71) (L' := [(0, (5, 0)), (1, vR 0), (2, vI x2), (3, vI x3), (4, vI v26), (5, vI v32)]) dL_law_69 rfl (by decide) rfl ?_
        refine mw_aload_n (v := vR 0) (pc' := 72) dL_law_71 rfl rfl (Or.inl rfl) rfl ?_
        refine mw_callS (M' := mL_areDeadlines) (A := [vR 0]) (S := []) (pc' := 75) dL_law_72 rfl cl_RL_254 cm_L_areDeadlines cs_L_areDeadlines ⟨by decide, by decide, (by show 558 ≤ bc - 300 - 48; omega), (by show 3348 ≤ bs - 1800 - 8234; omega), by decide⟩ rfl rfl (Nat.le_of_ble_eq_true rfl) (MM.mono ?_ h31)
        intro o g37 d38 h35
        rcases o with v36 | k
        · refine mw_top (fun hT => ?_)
          have hG : 65 ≤ g37.2.1 := hT.2
          show MW mL_law (bc - 300 - 48 - 558) (bs - 1800 - 8234 - 3348) 75 [(0, (5, 0)), (1, vR 0), (2, vI x2), (3, vI x3), (4, vI v26), (5, vI v32)] [vI v36] g37 d38 Q
          refine mw_if_eq (tgt := 109) (pc' := 78) dL_law_75 rfl (by decide) (fun c41 => ?_) (fun c41 => ?_)
          · replace h35 := h35.1 c41
            refine mw_iconst (pc' := 110) dL_law_109 rfl ⟨by decide, by decide⟩ ?_
            exact h35
          · replace h35 := h35.2 c41
            refine mw_iload_n (pc' := 79) dL_law_78 rfl rfl rfl ?_
            refine mw_iconst (pc' := 80) dL_law_79 rfl ⟨by decide, by decide⟩ ?_
            obtain ⟨o42, h35⟩ := h35
            refine mw_irem (pc' := 81) dL_law_80 rfl o42 (by decide) ?_
            refine mw_if_gt (tgt := 91) (pc' := 84) dL_law_81 rfl (by decide) (fun c43 => ?_) (fun c43 => ?_)
            · replace h35 := h35.1 c43
              exact h35
            · replace h35 := h35.2 c43
              refine mw_aload_n (v := vR 0) (pc' := 85) dL_law_84 rfl rfl (Or.inl rfl) rfl ?_
              refine mw_callS (M' := mL_isOrdered) (A := [vR 0]) (S := []) (pc' := 88) dL_law_85 rfl cl_RL_258 cm_L_isOrdered cs_L_isOrdered ⟨by decide, by decide, (by show 300 ≤ bc - 300 - 48 - 558; omega), (by show 1800 ≤ bs - 1800 - 8234 - 3348; omega), by decide⟩ rfl rfl (Nat.le_of_ble_eq_true rfl) (MM.mono ?_ h35)
              intro o g46 d47 h44
              rcases o with v45 | k
              · refine mw_top (fun hT => ?_)
                have hG : 65 ≤ g46.2.1 := hT.2
                show MW mL_law (bc - 300 - 48 - 558 - 300) (bs - 1800 - 8234 - 3348 - 1800) 88 [(0, (5, 0)), (1, vR 0), (2, vI x2), (3, vI x3), (4, vI v26), (5, vI v32)] [vI v45] g46 d47 Q
                refine mw_if_eq (tgt := 109) (pc' := 91) dL_law_88 rfl (by decide) (fun c48 => ?_) (fun c48 => ?_)
                · replace h44 := h44.1 c48
                  refine mw_iconst (pc' := 110) dL_law_109 rfl ⟨by decide, by decide⟩ ?_
                  exact h44
                · replace h44 := h44.2 c48
                  exact h44
              · exact mx_out rfl h44
        · exact mx_out rfl h35
      · exact mx_out rfl h31
    · exact mx_out rfl h25
  · replace h := h.2 c24
    exact h
theorem aL_law_4 {bc bs : Nat} {x2 x3 x4 x5 s0 : Int} {g : mG} {d : mD} {Q : mQ} (hb : 1430 ≤ bc ∧ 80180 ≤ bs) (h : ((s0 = 0) → pL_law_7 bc bs s0 x3 x4 x5 0 g d Q) ∧ ((¬ (s0 = 0)) → (iI (7 * x3)) ∧ ((iI (200 + (7 * x3))) ∧ (MM mL_areRanges [vR 0, (5, 0), vI (200 + (7 * x3))] g d (fun o g58 d59 => match o with | .inl v57 => ((v57 = 0) → pL_law_7 (bc - 30) (bs - 180) s0 x3 x4 x5 0 g58 d59 Q) ∧ ((¬ (v57 = 0)) → (0 ≤ x3) ∧ (((0 < x3 % 3) → pL_law_8 (bc - 30) (bs - 180) s0 x3 x4 x5 g58 d59 Q) ∧ ((¬ (0 < x3 % 3)) → (iI (400 + x3)) ∧ (MM mL_pick [(5, 0), vI (400 + x3), vI 40] g58 d59 (fun o g71 d72 => match o with | .inl v70 => (iI (1 + v70)) ∧ (MM mL_isStayed [vR 0, vI (1 + v70)] g71 d72 (fun o g76 d77 => match o with | .inl v75 => ((v75 = 0) → pL_law_7 (bc - 30 - 1400) (bs - 180 - 80000) s0 x3 x4 x5 0 g76 d77 Q) ∧ ((¬ (v75 = 0)) → pL_law_8 (bc - 30 - 1400) (bs - 180 - 80000) s0 x3 x4 x5 g76 d77 Q) | .inr k => Q (.inr k) g76 d77)) | .inr k => Q (.inr k) g71 d72))))) | .inr k => Q (.inr k) g58 d59))))) : pL_law_4 bc bs x2 x3 x4 x5 s0 g d Q := by
  unfold pL_law_4
  refine mw_top (fun hT => ?_)
  have hG : 65 ≤ g.2.1 := hT.2
  refine mw_istore_n (pc' := 111) (L' := [(0, (5, 0)), (1, vR 0), (2, vI s0), (3, vI x3), (4, vI x4), (5, vI x5)]) dL_law_110 rfl rfl (by decide) rfl ?_
  refine mw_iload_n (pc' := 112) dL_law_111 rfl rfl rfl ?_
  refine mw_if_eq (tgt := 161) (pc' := 115) dL_law_112 rfl (by decide) (fun c53 => ?_) (fun c53 => ?_)
  · replace h := h.1 c53
    refine mw_iconst (pc' := 162) dL_law_161 rfl ⟨by decide, by decide⟩ ?_
    exact h
  · replace h := h.2 c53
    refine mw_aload_n (v := vR 0) (pc' := 116) dL_law_115 rfl rfl (Or.inl rfl) rfl ?_
    refine mw_aload_n (v := (5, 0)) (pc' := 117) dL_law_116 rfl rfl (Or.inr (Or.inl rfl)) rfl ?_
    refine mw_sipush (pc' := 120) dL_law_117 rfl ⟨by decide, by decide⟩ ?_
    refine mw_bipush (pc' := 122) dL_law_120 rfl ⟨by decide, by decide⟩ ?_
    refine mw_iload_n (pc' := 123) dL_law_122 rfl rfl rfl ?_
    obtain ⟨o54, h⟩ := h
    refine mw_imul (pc' := 124) dL_law_123 rfl o54 ?_
    obtain ⟨o55, h⟩ := h
    refine mw_iadd (pc' := 125) dL_law_124 rfl o55 ?_
    refine mw_callS (M' := mL_areRanges) (A := [vR 0, (5, 0), vI (200 + (7 * x3))]) (S := []) (pc' := 128) dL_law_125 rfl cl_RL_269 cm_L_areRanges cs_L_areRanges ⟨by decide, by decide, (by show 30 ≤ bc; omega), (by show 180 ≤ bs; omega), by decide⟩ rfl rfl (Nat.le_of_ble_eq_true rfl) (MM.mono ?_ h)
    intro o g58 d59 h56
    rcases o with v57 | k
    · refine mw_top (fun hT => ?_)
      have hG : 65 ≤ g58.2.1 := hT.2
      show MW mL_law (bc - 30) (bs - 180) 128 [(0, (5, 0)), (1, vR 0), (2, vI s0), (3, vI x3), (4, vI x4), (5, vI x5)] [vI v57] g58 d59 Q
      refine mw_if_eq (tgt := 161) (pc' := 131) dL_law_128 rfl (by decide) (fun c63 => ?_) (fun c63 => ?_)
      · replace h56 := h56.1 c63
        refine mw_iconst (pc' := 162) dL_law_161 rfl ⟨by decide, by decide⟩ ?_
        exact h56
      · replace h56 := h56.2 c63
        refine mw_iload_n (pc' := 132) dL_law_131 rfl rfl rfl ?_
        refine mw_iconst (pc' := 133) dL_law_132 rfl ⟨by decide, by decide⟩ ?_
        obtain ⟨o64, h56⟩ := h56
        refine mw_irem (pc' := 134) dL_law_133 rfl o64 (by decide) ?_
        refine mw_if_gt (tgt := 157) (pc' := 137) dL_law_134 rfl (by decide) (fun c67 => ?_) (fun c67 => ?_)
        · replace h56 := h56.1 c67
          exact h56
        · replace h56 := h56.2 c67
          refine mw_aload_n (v := vR 0) (pc' := 138) dL_law_137 rfl rfl (Or.inl rfl) rfl ?_
          refine mw_iconst (pc' := 139) dL_law_138 rfl ⟨by decide, by decide⟩ ?_
          refine mw_aload_n (v := (5, 0)) (pc' := 140) dL_law_139 rfl rfl (Or.inr (Or.inl rfl)) rfl ?_
          refine mw_sipush (pc' := 143) dL_law_140 rfl ⟨by decide, by decide⟩ ?_
          refine mw_iload_n (pc' := 144) dL_law_143 rfl rfl rfl ?_
          obtain ⟨o68, h56⟩ := h56
          refine mw_iadd (pc' := 145) dL_law_144 rfl o68 ?_
          refine mw_bipush (pc' := 147) dL_law_145 rfl ⟨by decide, by decide⟩ ?_
          refine mw_callS (M' := mL_pick) (A := [(5, 0), vI (400 + x3), vI 40]) (S := [vI 1, vR 0]) (pc' := 150) dL_law_147 rfl cl_RL_223 cm_L_pick cs_L_pick ⟨by decide, by decide, (by show 0 ≤ bc - 30; omega), (by show 0 ≤ bs - 180; omega), by decide⟩ rfl rfl (Nat.le_of_ble_eq_true rfl) (MM.mono ?_ h56)
          intro o g71 d72 h69
          rcases o with v70 | k
          · refine mw_top (fun hT => ?_)
            have hG : 65 ≤ g71.2.1 := hT.2
            show MW mL_law (bc - 30 - 0) (bs - 180 - 0) 150 [(0, (5, 0)), (1, vR 0), (2, vI s0), (3, vI x3), (4, vI x4), (5, vI x5)] [vI v70, vI 1, vR 0] g71 d72 Q
            rw [Nat.sub_zero, Nat.sub_zero]
            obtain ⟨o73, h69⟩ := h69
            refine mw_iadd (pc' := 151) dL_law_150 rfl o73 ?_
            refine mw_callS (M' := mL_isStayed) (A := [vR 0, vI (1 + v70)]) (S := []) (pc' := 154) dL_law_151 rfl cl_RL_273 cm_L_isStayed cs_L_isStayed ⟨by decide, by decide, (by show 1400 ≤ bc - 30; omega), (by show 80000 ≤ bs - 180; omega), by decide⟩ rfl rfl (Nat.le_of_ble_eq_true rfl) (MM.mono ?_ h69)
            intro o g76 d77 h74
            rcases o with v75 | k
            · refine mw_top (fun hT => ?_)
              have hG : 65 ≤ g76.2.1 := hT.2
              show MW mL_law (bc - 30 - 1400) (bs - 180 - 80000) 154 [(0, (5, 0)), (1, vR 0), (2, vI s0), (3, vI x3), (4, vI x4), (5, vI x5)] [vI v75] g76 d77 Q
              refine mw_if_eq (tgt := 161) (pc' := 157) dL_law_154 rfl (by decide) (fun c78 => ?_) (fun c78 => ?_)
              · replace h74 := h74.1 c78
                refine mw_iconst (pc' := 162) dL_law_161 rfl ⟨by decide, by decide⟩ ?_
                exact h74
              · replace h74 := h74.2 c78
                exact h74
            · exact mx_out rfl h74
          · exact mx_out rfl h69
    · exact mx_out rfl h56
theorem aL_law_5 {bc bs : Nat} {x2 x3 x4 x5 : Int} {g : mG} {d : mD} {Q : mQ} (hb : 300 ≤ bc ∧ 1800 ≤ bs) (h : ((0 ≤ x5) → pL_law_9 bc bs x2 x3 x4 x5 g d Q) ∧ ((¬ (0 ≤ x5)) → MM mL_print [vR 0] g d (fun o g82 d83 => match o with | .inl v81 => ((v81 = x4) → pL_law_9 (bc - 300) (bs - 1800) x2 x3 x4 x5 g82 d83 Q) ∧ ((¬ (v81 = x4)) → pL_law_4 (bc - 300) (bs - 1800) x2 x3 x4 x5 0 g82 d83 Q) | .inr k => Q (.inr k) g82 d83))) : pL_law_5 bc bs x2 x3 x4 x5 g d Q := by
  unfold pL_law_5
  refine mw_top (fun hT => ?_)
  have hG : 65 ≤ g.2.1 := hT.2
  refine mw_iload (pc' := 93) dL_law_91 rfl rfl ?_
  refine mw_if_ge (tgt := 105) (pc' := 96) dL_law_93 rfl (by decide) (fun c79 => ?_) (fun c79 => ?_)
  · replace h := h.1 c79
    exact h
  · replace h := h.2 c79
    refine mw_aload_n (v := vR 0) (pc' := 97) dL_law_96 rfl rfl (Or.inl rfl) rfl ?_
    refine mw_callS (M' := mL_print) (A := [vR 0]) (S := []) (pc' := 100) dL_law_97 rfl cl_RL_245 cm_L_print cs_L_print ⟨by decide, by decide, (by show 300 ≤ bc; omega), (by show 1800 ≤ bs; omega), by decide⟩ rfl rfl (Nat.le_of_ble_eq_true rfl) (MM.mono ?_ h)
    intro o g82 d83 h80
    rcases o with v81 | k
    · refine mw_top (fun hT => ?_)
      have hG : 65 ≤ g82.2.1 := hT.2
      show MW mL_law (bc - 300) (bs - 1800) 100 [(0, (5, 0)), (1, vR 0), (2, vI x2), (3, vI x3), (4, vI x4), (5, vI x5)] [vI v81] g82 d83 Q
      refine mw_iload (pc' := 102) dL_law_100 rfl rfl ?_
      refine mw_icmp_ne (tgt := 109) (pc' := 105) dL_law_102 rfl (by decide) (fun c84 => ?_) (fun c84 => ?_)
      · replace h80 := h80.2 c84
        refine mw_iconst (pc' := 110) dL_law_109 rfl ⟨by decide, by decide⟩ ?_
        exact h80
      · replace h80 := h80.1 c84
        exact h80
    · exact mx_out rfl h80
theorem aL_law_6 {bc bs : Nat} {x2 x3 : Int} {g : mG} {d : mD} {Q : mQ} (hb : 333 ≤ bc ∧ 1998 ≤ bs) (h : ((x2 = 0) → pL_law_10 bc bs x2 x3 0 g d Q) ∧ ((¬ (x2 = 0)) → MM mL_isConduct [vR 0] g d (fun o g88 d89 => match o with | .inl v87 => ((v87 = 0) → pL_law_10 (bc - 333) (bs - 1998) x2 x3 0 g88 d89 Q) ∧ ((¬ (v87 = 0)) → MM mX11_isConsistent [vR 0] g88 d89 (fun o g93 d94 => match o with | .inl v92 => pL_law_10 (bc - 333) (bs - 1998) x2 x3 (bI (¬ (v92 = 0))) g93 d94 Q | .inr k => Q (.inr k) g93 d94)) | .inr k => Q (.inr k) g88 d89))) : pL_law_6 bc bs x2 x3 g d Q := by
  unfold pL_law_6
  refine mw_top (fun hT => ?_)
  have hG : 65 ≤ g.2.1 := hT.2
  refine mw_iload_n (pc' := 215) dL_law_214 rfl rfl rfl ?_
  refine mw_if_eq (tgt := 236) (pc' := 218) dL_law_215 rfl (by decide) (fun c85 => ?_) (fun c85 => ?_)
  · replace h := h.1 c85
    refine mw_iconst (pc' := 237) dL_law_236 rfl ⟨by decide, by decide⟩ ?_
    exact h
  · replace h := h.2 c85
    refine mw_aload_n (v := vR 0) (pc' := 219) dL_law_218 rfl rfl (Or.inl rfl) rfl ?_
    refine mw_callS (M' := mL_isConduct) (A := [vR 0]) (S := []) (pc' := 222) dL_law_219 rfl cl_RL_281 cm_L_isConduct cs_L_isConduct ⟨by decide, by decide, (by show 333 ≤ bc; omega), (by show 1998 ≤ bs; omega), by decide⟩ rfl rfl (Nat.le_of_ble_eq_true rfl) (MM.mono ?_ h)
    intro o g88 d89 h86
    rcases o with v87 | k
    · refine mw_top (fun hT => ?_)
      have hG : 65 ≤ g88.2.1 := hT.2
      show MW mL_law (bc - 333) (bs - 1998) 222 [(0, (5, 0)), (1, vR 0), (2, vI x2), (3, vI x3)] [vI v87] g88 d89 Q
      refine mw_if_eq (tgt := 236) (pc' := 225) dL_law_222 rfl (by decide) (fun c90 => ?_) (fun c90 => ?_)
      · replace h86 := h86.1 c90
        refine mw_iconst (pc' := 237) dL_law_236 rfl ⟨by decide, by decide⟩ ?_
        exact h86
      · replace h86 := h86.2 c90
        refine mw_aload_n (v := vR 0) (pc' := 226) dL_law_225 rfl rfl (Or.inl rfl) rfl ?_
        refine mw_callV (M' := mX11_isConsistent) (A := []) (A' := [vR 0]) (S := []) (a := 0) (pc' := 229) dL_law_226 rfl cl_RL_261 cm_X11_isConsistent cv_X11_isConsistent ⟨by decide, by decide, (by show 0 ≤ bc - 333; omega), (by show 0 ≤ bs - 1998; omega), by decide⟩ rfl rfl rfl ⟨by decide, by omega⟩ (by decide +kernel) (by decide +kernel) (Nat.le_of_ble_eq_true rfl) (MM.mono ?_ h86)
        intro o g93 d94 h91
        rcases o with v92 | k
        · refine mw_top (fun hT => ?_)
          have hG : 65 ≤ g93.2.1 := hT.2
          show MW mL_law (bc - 333 - 0) (bs - 1998 - 0) 229 [(0, (5, 0)), (1, vR 0), (2, vI x2), (3, vI x3)] [vI v92] g93 d94 Q
          rw [Nat.sub_zero, Nat.sub_zero]
          suffices k95 : MW mL_law (bc - 333) (bs - 1998) 237 [(0, (5, 0)), (1, vR 0), (2, vI x2), (3, vI x3)] [vI (bI (¬ (v92 = 0)))] g93 d94 Q by
            refine mw_if_eq (tgt := 236) (pc' := 232) dL_law_229 rfl (by decide) (fun c96 => ?_) (fun c96 => ?_)
            · refine mw_iconst (pc' := 237) dL_law_236 rfl ⟨by decide, by decide⟩ ?_
              exact mw_st (bI_f (fun h => (h c96))).symm k95
            · refine mw_iconst (pc' := 233) dL_law_232 rfl ⟨by decide, by decide⟩ ?_
              refine mw_goto (pc' := 0) (tgt := 237) dL_law_233 (by decide) ?_
              exact mw_st (bI_t c96).symm k95
          exact h91
        · exact mx_out rfl h91
    · exact mx_out rfl h86
theorem aL_law_7 {bc bs : Nat} {x2 x3 x4 x5 s0 : Int} {g : mG} {d : mD} {Q : mQ} (hb : 700 ≤ bc ∧ 21800 ≤ bs) (h : MM mL_print [vR 0] g d (fun o g99 d100 => match o with | .inl v98 => ((s0 = 0) → pL_law_11 (bc - 300) (bs - 1800) s0 x3 x4 x5 v98 0 g99 d100 Q) ∧ ((¬ (s0 = 0)) → (0 ≤ x3) ∧ ((((¬ (0 < x3 % 4)) ∧ (¬ (x5 < 0))) → (iI (6 * x3)) ∧ ((iI (500 + (6 * x3))) ∧ (MM mL_isUndone [vR 0, (5, 0), vI (500 + (6 * x3)), vI v98] g99 d100 (fun o g120 d121 => match o with | .inl v119 => ((v119 = 0) → pL_law_11 (bc - 300 - 400) (bs - 1800 - 20000) s0 x3 x4 x5 v98 0 g120 d121 Q) ∧ ((¬ (v119 = 0)) → pL_law_12 (bc - 300 - 400) (bs - 1800 - 20000) s0 x3 x4 x5 v98 g120 d121 Q) | .inr k => Q (.inr k) g120 d121)))) ∧ ((¬ ((¬ (0 < x3 % 4)) ∧ (¬ (x5 < 0)))) → pL_law_12 (bc - 300) (bs - 1800) s0 x3 x4 x5 v98 g99 d100 Q))) | .inr k => Q (.inr k) g99 d100)) : pL_law_7 bc bs x2 x3 x4 x5 s0 g d Q := by
  unfold pL_law_7
  refine mw_top (fun hT => ?_)
  have hG : 65 ≤ g.2.1 := hT.2
  refine mw_istore_n (pc' := 163) (L' := [(0, (5, 0)), (1, vR 0), (2, vI s0), (3, vI x3), (4, vI x4), (5, vI x5)]) dL_law_162 rfl rfl (by decide) rfl ?_
  refine mw_aload_n (v := vR 0) (pc' := 164) dL_law_163 rfl rfl (Or.inl rfl) rfl ?_
  refine mw_callS (M' := mL_print) (A := [vR 0]) (S := []) (pc' := 167) dL_law_164 rfl cl_RL_245 cm_L_print cs_L_print ⟨by decide, by decide, (by show 300 ≤ bc; omega), (by show 1800 ≤ bs; omega), by decide⟩ rfl rfl (Nat.le_of_ble_eq_true rfl) (MM.mono ?_ h)
  intro o g99 d100 h97
  rcases o with v98 | k
  · refine mw_top (fun hT => ?_)
    have hG : 65 ≤ g99.2.1 := hT.2
    show MW mL_law (bc - 300) (bs - 1800) 167 [(0, (5, 0)), (1, vR 0), (2, vI s0), (3, vI x3), (4, vI x4), (5, vI x5)] [vI v98] g99 d100 Q
    refine mw_istore (pc' := 169) (L' := [(0, (5, 0)), (1, vR 0), (2, vI s0), (3, vI x3), (4, vI x4), (5, vI x5), (6, vI v98)]) dL_law_167 rfl (by decide) rfl ?_
    refine mw_iload_n (pc' := 170) dL_law_169 rfl rfl rfl ?_
    refine mw_if_eq (tgt := 206) (pc' := 173) dL_law_170 rfl (by decide) (fun c106 => ?_) (fun c106 => ?_)
    · replace h97 := h97.1 c106
      refine mw_iconst (pc' := 207) dL_law_206 rfl ⟨by decide, by decide⟩ ?_
      exact h97
    · replace h97 := h97.2 c106
      refine mw_iload_n (pc' := 174) dL_law_173 rfl rfl rfl ?_
      refine mw_iconst (pc' := 175) dL_law_174 rfl ⟨by decide, by decide⟩ ?_
      obtain ⟨o107, h97⟩ := h97
      refine mw_irem (pc' := 176) dL_law_175 rfl o107 (by decide) ?_
      suffices k112 : (((¬ (0 < x3 % 4)) ∧ (¬ (x5 < 0))) → MW mL_law (bc - 300) (bs - 1800) 184 [(0, (5, 0)), (1, vR 0), (2, vI s0), (3, vI x3), (4, vI x4), (5, vI x5), (6, vI v98)] [] g99 d100 Q) ∧ ((¬ ((¬ (0 < x3 % 4)) ∧ (¬ (x5 < 0)))) → MW mL_law (bc - 300) (bs - 1800) 202 [(0, (5, 0)), (1, vR 0), (2, vI s0), (3, vI x3), (4, vI x4), (5, vI x5), (6, vI v98)] [] g99 d100 Q) by
        refine mw_if_gt (tgt := 202) (pc' := 179) dL_law_176 rfl (by decide) (fun c113 => ?_) (fun c113 => ?_)
        · exact k112.2 (fun h => (h.1 c113))
        · refine mw_iload (pc' := 181) dL_law_179 rfl rfl ?_
          refine mw_if_lt (tgt := 202) (pc' := 184) dL_law_181 rfl (by decide) (fun c114 => ?_) (fun c114 => ?_)
          · exact k112.2 (fun h => (fun h => (h c114)) h.2)
          · exact k112.1 ⟨c113, c114⟩
      refine ⟨fun c115 => ?_, fun c115 => ?_⟩
      · replace h97 := h97.1 c115
        refine mw_aload_n (v := vR 0) (pc' := 185) dL_law_184 rfl rfl (Or.inl rfl) rfl ?_
        refine mw_aload_n (v := (5, 0)) (pc' := 186) dL_law_185 rfl rfl (Or.inr (Or.inl rfl)) rfl ?_
        refine mw_sipush (pc' := 189) dL_law_186 rfl ⟨by decide, by decide⟩ ?_
        refine mw_bipush (pc' := 191) dL_law_189 rfl ⟨by decide, by decide⟩ ?_
        refine mw_iload_n (pc' := 192) dL_law_191 rfl rfl rfl ?_
        obtain ⟨o116, h97⟩ := h97
        refine mw_imul (pc' := 193) dL_law_192 rfl o116 ?_
        obtain ⟨o117, h97⟩ := h97
        refine mw_iadd (pc' := 194) dL_law_193 rfl o117 ?_
        refine mw_iload (pc' := 196) dL_law_194 rfl rfl ?_
        refine mw_callS (M' := mL_isUndone) (A := [vR 0, (5, 0), vI (500 + (6 * x3)), vI v98]) (S := []) (pc' := 199) dL_law_196 rfl cl_RL_277 cm_L_isUndone cs_L_isUndone ⟨by decide, by decide, (by show 400 ≤ bc - 300; omega), (by show 20000 ≤ bs - 1800; omega), by decide⟩ rfl rfl (Nat.le_of_ble_eq_true rfl) (MM.mono ?_ h97)
        intro o g120 d121 h118
        rcases o with v119 | k
        · refine mw_top (fun hT => ?_)
          have hG : 65 ≤ g120.2.1 := hT.2
          show MW mL_law (bc - 300 - 400) (bs - 1800 - 20000) 199 [(0, (5, 0)), (1, vR 0), (2, vI s0), (3, vI x3), (4, vI x4), (5, vI x5), (6, vI v98)] [vI v119] g120 d121 Q
          refine mw_if_eq (tgt := 206) (pc' := 202) dL_law_199 rfl (by decide) (fun c122 => ?_) (fun c122 => ?_)
          · replace h118 := h118.1 c122
            refine mw_iconst (pc' := 207) dL_law_206 rfl ⟨by decide, by decide⟩ ?_
            exact h118
          · replace h118 := h118.2 c122
            exact h118
        · exact mx_out rfl h118
      · replace h97 := h97.2 c115
        exact h97
  · exact mx_out rfl h97
theorem aL_law_8 {bc bs : Nat} {x2 x3 x4 x5 : Int} {g : mG} {d : mD} {Q : mQ} (h : pL_law_7 bc bs x2 x3 x4 x5 1 g d Q) : pL_law_8 bc bs x2 x3 x4 x5 g d Q := by
  unfold pL_law_8
  refine mw_top (fun hT => ?_)
  have hG : 65 ≤ g.2.1 := hT.2
  refine mw_iconst (pc' := 158) dL_law_157 rfl ⟨by decide, by decide⟩ ?_
  refine mw_goto (pc' := 0) (tgt := 162) dL_law_158 (by decide) ?_
  exact h
theorem aL_law_9 {bc bs : Nat} {x2 x3 x4 x5 : Int} {g : mG} {d : mD} {Q : mQ} (h : pL_law_4 bc bs x2 x3 x4 x5 1 g d Q) : pL_law_9 bc bs x2 x3 x4 x5 g d Q := by
  unfold pL_law_9
  refine mw_top (fun hT => ?_)
  have hG : 65 ≤ g.2.1 := hT.2
  refine mw_iconst (pc' := 106) dL_law_105 rfl ⟨by decide, by decide⟩ ?_
  refine mw_goto (pc' := 0) (tgt := 110) dL_law_106 (by decide) ?_
  exact h
theorem aL_law_10 {bc bs : Nat} {x2 x3 s0 : Int} {g : mG} {d : mD} {Q : mQ} (h : (0 ≤ s0 ∧ s0 ≤ 1) ∧ (Q (.inl s0) g d)) : pL_law_10 bc bs x2 x3 s0 g d Q := by
  unfold pL_law_10
  refine mw_top (fun hT => ?_)
  have hG : 65 ≤ g.2.1 := hT.2
  obtain ⟨o123, h⟩ := h
  exact mw_iret (pc' := 0) (S := []) dL_law_237 rfl (Or.inr (Or.inl ⟨rfl, o123⟩)) h
theorem aL_law_11 {bc bs : Nat} {x2 x3 x4 x5 x6 s0 : Int} {g : mG} {d : mD} {Q : mQ} (h : (iI (x3 + 1)) ∧ (pL_law_3 bc bs s0 (x3 + 1) g d Q)) : pL_law_11 bc bs x2 x3 x4 x5 x6 s0 g d Q := by
  unfold pL_law_11
  refine mw_top (fun hT => ?_)
  have hG : 65 ≤ g.2.1 := hT.2
  refine mw_istore_n (pc' := 208) (L' := [(0, (5, 0)), (1, vR 0), (2, vI s0), (3, vI x3), (4, vI x4), (5, vI x5), (6, vI x6)]) dL_law_207 rfl rfl (by decide) rfl ?_
  obtain ⟨o124, h⟩ := h
  refine mw_iinc (pc' := 211) (L' := [(0, (5, 0)), (1, vR 0), (2, vI s0), (3, vI (x3 + 1)), (4, vI x4), (5, vI x5), (6, vI x6)]) dL_law_208 rfl rfl (by decide) o124 rfl ?_
  refine mw_goto (pc' := 0) (tgt := 42) dL_law_211 (by decide) ?_
  exact mw_loc (pc' := 0) [0, 1, 2, 3] rfl (h)
theorem aL_law_12 {bc bs : Nat} {x2 x3 x4 x5 x6 : Int} {g : mG} {d : mD} {Q : mQ} (h : pL_law_11 bc bs x2 x3 x4 x5 x6 1 g d Q) : pL_law_12 bc bs x2 x3 x4 x5 x6 g d Q := by
  unfold pL_law_12
  refine mw_top (fun hT => ?_)
  have hG : 65 ≤ g.2.1 := hT.2
  refine mw_iconst (pc' := 203) dL_law_202 rfl ⟨by decide, by decide⟩ ?_
  refine mw_goto (pc' := 0) (tgt := 207) dL_law_203 (by decide) ?_
  exact h
