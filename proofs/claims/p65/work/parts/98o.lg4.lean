def pL_isStayed_1 (bc bs : Nat) (x1 x2 x3 x4 : Int) (g : mG) (d : mD) (Q : mQ) : Prop := MW mL_isStayed bc bs 48 [(0, vR 0), (1, vI x1), (2, vI x2), (3, vI x3), (4, (7, x4))] [] g d Q
def pL_isStayed_2 (bc bs : Nat) (x1 x2 x3 x4 x5 : Int) (g : mG) (d : mD) (Q : mQ) : Prop := MW mL_isStayed bc bs 51 [(0, vR 0), (1, vI x1), (2, vI x2), (3, vI x3), (4, (7, x4)), (5, vI x5)] [] g d Q
def pL_isStayed_3 (bc bs : Nat) (x1 x2 x3 x4 x5 : Int) (g : mG) (d : mD) (Q : mQ) : Prop := MW mL_isStayed bc bs 80 [(0, vR 0), (1, vI x1), (2, vI x2), (3, vI x3), (4, (7, x4)), (5, vI x5)] [] g d Q
def pL_isStayed_4 (bc bs : Nat) (x1 x2 x3 x4 x5 x6 s0 : Int) (g : mG) (d : mD) (Q : mQ) : Prop := MW mL_isStayed bc bs 128 [(0, vR 0), (1, vI x1), (2, vI x2), (3, vI x3), (4, (7, x4)), (5, vI x5), (6, vI x6)] [vI s0] g d Q
def pL_isStayed_5 (bc bs : Nat) (x1 x2 x3 x4 x5 x6 x7 x8 : Int) (g : mG) (d : mD) (Q : mQ) : Prop := MW mL_isStayed bc bs 133 [(0, vR 0), (1, vI x1), (2, vI x2), (3, vI x3), (4, (7, x4)), (5, vI x5), (6, vI x6), (7, vI x7), (8, vI x8)] [] g d Q
def pL_isStayed_6 (bc bs : Nat) (x1 x2 x3 x4 x5 x6 x7 x8 : Int) (g : mG) (d : mD) (Q : mQ) : Prop := MW mL_isStayed bc bs 194 [(0, vR 0), (1, vI x1), (2, vI x2), (3, vI x3), (4, (7, x4)), (5, vI x5), (6, vI x6), (7, vI x7), (8, vI x8)] [] g d Q
def pL_isStayed_7 (bc bs : Nat) (x1 x2 x3 x4 x5 x6 x7 x8 s0 : Int) (g : mG) (d : mD) (Q : mQ) : Prop := MW mL_isStayed bc bs 186 [(0, vR 0), (1, vI x1), (2, vI x2), (3, vI x3), (4, (7, x4)), (5, vI x5), (6, vI x6), (7, vI x7), (8, vI x8)] [vI s0] g d Q
def pL_isStayed_8 (bc bs : Nat) (x1 x2 x3 x4 x5 x6 x7 x8 s0 : Int) (g : mG) (d : mD) (Q : mQ) : Prop := MW mL_isStayed bc bs 237 [(0, vR 0), (1, vI x1), (2, vI x2), (3, vI x3), (4, (7, x4)), (5, vI x5), (6, vI x6), (7, vI x7), (8, vI x8)] [vI s0] g d Q
def pL_isStayed_9 (bc bs : Nat) (x1 x2 x3 x4 x5 x6 x7 x8 s0 : Int) (g : mG) (d : mD) (Q : mQ) : Prop := MW mL_isStayed bc bs 290 [(0, vR 0), (1, vI x1), (2, vI x2), (3, vI x3), (4, (7, x4)), (5, vI x5), (6, vI x6), (7, vI x7), (8, vI x8)] [vI s0] g d Q
theorem eL_isStayed {x1 : Int} {g : mG} {d : mD} {Q : mQ} (h : MM mL_print [vR 0] g d (fun o g3 d4 => match o with | .inl v2 => MM mL_deed [vR 0, vI 11, vI 255, vI 0, vI 0] g3 d4 (fun o g7 d8 => match o with | .inl v6 => ((0 ≤ v6) → (d8 SCR (-3) = 0) ∧ (∀ q : Int, 0 ≤ q → pL_isStayed_1 1051 69935 x1 v2 v6 q g7 (upF (upS d8 (nF (d8 SCR) q))) (QF (d8 SCR) Q))) ∧ ((¬ (0 ≤ v6)) → ((v6 = (-2003)) → MM mL_print [vR 0] g7 d8 (fun o g14 d15 => match o with | .inl v13 => Q (.inl (bI (v13 = v2))) g14 d15 | .inr k => Q (.inr k) g14 d15)) ∧ ((¬ (v6 = (-2003))) → Q (.inl 0) g7 d8)) | .inr k => Q (.inr k) g7 d8) | .inr k => Q (.inr k) g3 d4)) : MM mL_isStayed [vR 0, vI x1] g d Q := by
  refine MM_of (by decide) rfl (by simp [catV]) (Nat.le_of_ble_eq_true rfl) ?_
  show MW mL_isStayed 1400 80000 0 [(0, vR 0), (1, vI x1)] [] g d Q
  refine mw_top (fun hT => ?_)
  have hG : 65 ≤ g.2.1 := hT.2
  refine mw_aload_n (v := vR 0) (pc' := 1) dL_isStayed_0 rfl rfl (Or.inl rfl) rfl ?_
  refine mw_callS (M' := mL_print) (A := [vR 0]) (S := []) (pc' := 4) dL_isStayed_1 rfl cl_RL_245 cm_L_print cs_L_print ⟨by decide, by decide, (by show 300 ≤ 1400; omega), (by show 1800 ≤ 80000; omega), by decide⟩ rfl rfl (Nat.le_of_ble_eq_true rfl) (MM.mono ?_ h)
  intro o g3 d4 h1
  rcases o with v2 | k
  · refine mw_top (fun hT => ?_)
    have hG : 65 ≤ g3.2.1 := hT.2
    show MW mL_isStayed 1100 78200 4 [(0, vR 0), (1, vI x1)] [vI v2] g3 d4 Q
    refine mw_istore_n (pc' := 5) (L' := [(0, vR 0), (1, vI x1), (2, vI v2)]) dL_isStayed_4 rfl rfl (by decide) rfl ?_
    refine mw_aload_n (v := vR 0) (pc' := 6) dL_isStayed_5 rfl rfl (Or.inl rfl) rfl ?_
    refine mw_bipush (pc' := 8) dL_isStayed_6 rfl ⟨by decide, by decide⟩ ?_
    refine mw_sipush (pc' := 11) dL_isStayed_8 rfl ⟨by decide, by decide⟩ ?_
    refine mw_iconst (pc' := 12) dL_isStayed_11 rfl ⟨by decide, by decide⟩ ?_
    refine mw_iconst (pc' := 13) dL_isStayed_12 rfl ⟨by decide, by decide⟩ ?_
    refine mw_callSX (M' := mL_deed) (A := [vR 0, vI 11, vI 255, vI 0, vI 0]) (S := []) (pc' := 16) dL_isStayed_13 rfl (goodW 560 (by decide +kernel) rfl) kX_L_deed kS_L_deed ⟨by decide, by decide, (by show 48 ≤ 1100; omega), (by show 8234 ≤ 78200; omega), by decide⟩ rfl rfl (Nat.le_of_ble_eq_true rfl) (MM.mono ?_ h1)
    intro o g7 d8 h5
    rcases o with v6 | k
    · refine mw_top (fun hT => ?_)
      have hG : 65 ≤ g7.2.1 := hT.2
      show MW mL_isStayed 1052 69966 16 [(0, vR 0), (1, vI x1), (2, vI v2)] [vI v6] g7 d8 Q
      refine mw_istore_n (pc' := 17) (L' := [(0, vR 0), (1, vI x1), (2, vI v2), (3, vI v6)]) dL_isStayed_16 rfl rfl (by decide) rfl ?_
      refine mw_iload_n (pc' := 18) dL_isStayed_17 rfl rfl rfl ?_
      refine mw_if_ge (tgt := 42) (pc' := 21) dL_isStayed_18 rfl (by decide) (fun c9 => ?_) (fun c9 => ?_)
      · replace h5 := h5.1 c9
        refine mw_bipush (pc' := 44) dL_isStayed_42 rfl ⟨by decide, by decide⟩ ?_
        obtain ⟨o10, h5⟩ := h5
        refine mw_newF (pc' := 46) dL_isStayed_44 rfl (goodW 77 (by decide +kernel) rfl) o10 (by show 1 ≤ 1052; omega) (by show 31 ≤ 69966; omega) (fun q hq => ?_)
        refine mw_astore (v := (7, q)) (pc' := 48) (L' := [(0, vR 0), (1, vI x1), (2, vI v2), (3, vI v6), (4, (7, q))]) dL_isStayed_46 rfl (by simp) (by decide) rfl ?_
        exact h5 q hq
      · replace h5 := h5.2 c9
        refine mw_iload_n (pc' := 22) dL_isStayed_21 rfl rfl rfl ?_
        refine mw_sipush (pc' := 25) dL_isStayed_22 rfl ⟨by decide, by decide⟩ ?_
        refine mw_icmp_ne (tgt := 40) (pc' := 28) dL_isStayed_25 rfl (by decide) (fun c11 => ?_) (fun c11 => ?_)
        · replace h5 := h5.2 c11
          refine mw_iconst (pc' := 41) dL_isStayed_40 rfl ⟨by decide, by decide⟩ ?_
          exact mw_iret (pc' := 0) (S := []) dL_isStayed_41 rfl (Or.inr (Or.inl ⟨rfl, by decide, by decide⟩)) h5
        · replace h5 := h5.1 c11
          refine mw_aload_n (v := vR 0) (pc' := 29) dL_isStayed_28 rfl rfl (Or.inl rfl) rfl ?_
          refine mw_callS (M' := mL_print) (A := [vR 0]) (S := []) (pc' := 32) dL_isStayed_29 rfl cl_RL_245 cm_L_print cs_L_print ⟨by decide, by decide, (by show 300 ≤ 1052; omega), (by show 1800 ≤ 69966; omega), by decide⟩ rfl rfl (Nat.le_of_ble_eq_true rfl) (MM.mono ?_ h5)
          intro o g14 d15 h12
          rcases o with v13 | k
          · refine mw_top (fun hT => ?_)
            have hG : 65 ≤ g14.2.1 := hT.2
            show MW mL_isStayed 752 68166 32 [(0, vR 0), (1, vI x1), (2, vI v2), (3, vI v6)] [vI v13] g14 d15 Q
            refine mw_iload_n (pc' := 33) dL_isStayed_32 rfl rfl rfl ?_
            suffices k16 : MW mL_isStayed 752 68166 41 [(0, vR 0), (1, vI x1), (2, vI v2), (3, vI v6)] [vI (bI (v13 = v2))] g14 d15 Q by
              refine mw_icmp_ne (tgt := 40) (pc' := 36) dL_isStayed_33 rfl (by decide) (fun c17 => ?_) (fun c17 => ?_)
              · refine mw_iconst (pc' := 41) dL_isStayed_40 rfl ⟨by decide, by decide⟩ ?_
                exact mw_st (bI_f (fun h => (c17 h))).symm k16
              · refine mw_iconst (pc' := 37) dL_isStayed_36 rfl ⟨by decide, by decide⟩ ?_
                refine mw_goto (pc' := 0) (tgt := 41) dL_isStayed_37 (by decide) ?_
                exact mw_st (bI_t c17).symm k16
            exact mw_iret (pc' := 0) (S := []) dL_isStayed_41 rfl (Or.inr (Or.inl ⟨rfl, bI_rng⟩)) h12
          · exact mx_out rfl h12
    · exact mx_out rfl h5
  · exact mx_out rfl h1
theorem aL_isStayed_1 {bc bs : Nat} {x1 x2 x3 x4 : Int} {g : mG} {d : mD} {Q : mQ} (h : pL_isStayed_2 bc bs x1 x2 x3 x4 0 g d Q) : pL_isStayed_1 bc bs x1 x2 x3 x4 g d Q := by
  unfold pL_isStayed_1
  refine mw_top (fun hT => ?_)
  have hG : 65 ≤ g.2.1 := hT.2
  refine mw_iconst (pc' := 49) dL_isStayed_48 rfl ⟨by decide, by decide⟩ ?_
  refine mw_istore (pc' := 51) (L' := [(0, vR 0), (1, vI x1), (2, vI x2), (3, vI x3), (4, (7, x4)), (5, vI 0)]) dL_isStayed_49 rfl (by decide) rfl ?_
  exact h
theorem aL_isStayed_2 {bc bs : Nat} {x1 x2 x3 x4 x5 : Int} {g : mG} {d : mD} {Q : mQ} (hb : 3 ≤ bc ∧ 18 ≤ bs) (h : MM mX11_deadlines [vR 0] g d (fun o g20 d21 => match o with | .inl v19 => ((v19 ≤ x5) → pL_isStayed_3 bc bs x1 x2 x3 x4 x5 g20 d21 Q) ∧ ((¬ (v19 ≤ x5)) → MM mL_ask [vR 0, vI 2, vI x5, vI 0, vI 0] g20 d21 (fun o g25 d26 => match o with | .inl v24 => (d26 SCR (-3) = 31 ∧ d26 SCR (-2) = x4 ∧ 0 ≤ x4) ∧ ((0 ≤ x5 ∧ x5 < 31) ∧ ((iI (x5 + 1)) ∧ (pL_isStayed_2 (bc - 3) (bs - 18) x1 x2 x3 x4 (x5 + 1) g25 (ud d26 FGN x5 v24) Q))) | .inr k => Q (.inr k) g25 d26)) | .inr k => Q (.inr k) g20 d21)) : pL_isStayed_2 bc bs x1 x2 x3 x4 x5 g d Q := by
  unfold pL_isStayed_2
  refine mw_top (fun hT => ?_)
  have hG : 65 ≤ g.2.1 := hT.2
  refine mw_iload (pc' := 53) dL_isStayed_51 rfl rfl ?_
  refine mw_aload_n (v := vR 0) (pc' := 54) dL_isStayed_53 rfl rfl (Or.inl rfl) rfl ?_
  refine mw_callV (M' := mX11_deadlines) (A := []) (A' := [vR 0]) (S := [vI x5]) (a := 0) (pc' := 57) dL_isStayed_54 rfl cl_RL_230 cm_X11_deadlines cv_X11_deadlines ⟨by decide, by decide, (by show 0 ≤ bc; omega), (by show 0 ≤ bs; omega), by decide⟩ rfl rfl rfl ⟨by decide, by omega⟩ (by decide +kernel) (by decide +kernel) (Nat.le_of_ble_eq_true rfl) (MM.mono ?_ h)
  intro o g20 d21 h18
  rcases o with v19 | k
  · refine mw_top (fun hT => ?_)
    have hG : 65 ≤ g20.2.1 := hT.2
    show MW mL_isStayed bc bs 57 [(0, vR 0), (1, vI x1), (2, vI x2), (3, vI x3), (4, (7, x4)), (5, vI x5)] [vI v19, vI x5] g20 d21 Q
    refine mw_icmp_ge (tgt := 80) (pc' := 60) dL_isStayed_57 rfl (by decide) (fun c22 => ?_) (fun c22 => ?_)
    · replace h18 := h18.1 c22
      exact h18
    · replace h18 := h18.2 c22
      refine mw_aload (v := (7, x4)) (pc' := 62) dL_isStayed_60 rfl (Or.inr (Or.inr (Or.inr (Or.inl rfl)))) rfl ?_
      refine mw_iload (pc' := 64) dL_isStayed_62 rfl rfl ?_
      refine mw_aload_n (v := vR 0) (pc' := 65) dL_isStayed_64 rfl rfl (Or.inl rfl) rfl ?_
      refine mw_iconst (pc' := 66) dL_isStayed_65 rfl ⟨by decide, by decide⟩ ?_
      refine mw_iload (pc' := 68) dL_isStayed_66 rfl rfl ?_
      refine mw_iconst (pc' := 69) dL_isStayed_68 rfl ⟨by decide, by decide⟩ ?_
      refine mw_iconst (pc' := 70) dL_isStayed_69 rfl ⟨by decide, by decide⟩ ?_
      refine mw_callSX (M' := mL_ask) (A := [vR 0, vI 2, vI x5, vI 0, vI 0]) (S := [vI x5, (7, x4)]) (pc' := 73) dL_isStayed_70 rfl (goodW 1204 (by decide +kernel) rfl) kX_L_ask kS_L_ask ⟨by decide, by decide, (by show 3 ≤ bc; omega), (by show 18 ≤ bs; omega), by decide⟩ rfl rfl (Nat.le_of_ble_eq_true rfl) (MM.mono ?_ h18)
      intro o g25 d26 h23
      rcases o with v24 | k
      · refine mw_top (fun hT => ?_)
        have hG : 65 ≤ g25.2.1 := hT.2
        show MW mL_isStayed (bc - 3) (bs - 18) 73 [(0, vR 0), (1, vI x1), (2, vI x2), (3, vI x3), (4, (7, x4)), (5, vI x5)] [vI v24, vI x5, (7, x4)] g25 d26 Q
        obtain ⟨o27, h23⟩ := h23
        obtain ⟨o28, h23⟩ := h23
        refine mw_iastF (pc' := 74) dL_isStayed_73 rfl o27 o28 ?_
        obtain ⟨o29, h23⟩ := h23
        refine mw_iinc (pc' := 77) (L' := [(0, vR 0), (1, vI x1), (2, vI x2), (3, vI x3), (4, (7, x4)), (5, vI (x5 + 1))]) dL_isStayed_74 rfl rfl (by decide) o29 rfl ?_
        refine mw_goto (pc' := 0) (tgt := 51) dL_isStayed_77 (by decide) ?_
        exact h23
      · exact mx_out rfl h23
  · exact mx_out rfl h18
theorem aL_isStayed_3 {bc bs : Nat} {x1 x2 x3 x4 x5 : Int} {g : mG} {d : mD} {Q : mQ} (hb : 48 ≤ bc ∧ 8234 ≤ bs) (h : MM mX11_today [vR 0] g d (fun o g32 d33 => match o with | .inl v31 => MM mL_deed [vR 0, vI 0, vI x1, vI 0, vI 0] g32 d33 (fun o g36 d37 => match o with | .inl v35 => (iI (v31 + x1)) ∧ ((((v35 = v31 + x1) ∨ ((v35 = (-2003)) ∧ (¬ (v31 + x1 ≤ 1500)))) → pL_isStayed_4 (bc - 48) (bs - 8234) x1 x2 x3 x4 v31 v35 1 g36 d37 Q) ∧ ((¬ ((v35 = v31 + x1) ∨ ((v35 = (-2003)) ∧ (¬ (v31 + x1 ≤ 1500))))) → pL_isStayed_4 (bc - 48) (bs - 8234) x1 x2 x3 x4 v31 v35 0 g36 d37 Q)) | .inr k => Q (.inr k) g36 d37) | .inr k => Q (.inr k) g32 d33)) : pL_isStayed_3 bc bs x1 x2 x3 x4 x5 g d Q := by
  unfold pL_isStayed_3
  refine mw_top (fun hT => ?_)
  have hG : 65 ≤ g.2.1 := hT.2
  refine mw_aload_n (v := vR 0) (pc' := 81) dL_isStayed_80 rfl rfl (Or.inl rfl) rfl ?_
  refine mw_callV (M' := mX11_today) (A := []) (A' := [vR 0]) (S := []) (a := 0) (pc' := 84) dL_isStayed_81 rfl cl_RL_233 cm_X11_today cv_X11_today ⟨by decide, by decide, (by show 0 ≤ bc; omega), (by show 0 ≤ bs; omega), by decide⟩ rfl rfl rfl ⟨by decide, by omega⟩ (by decide +kernel) (by decide +kernel) (Nat.le_of_ble_eq_true rfl) (MM.mono ?_ h)
  intro o g32 d33 h30
  rcases o with v31 | k
  · refine mw_top (fun hT => ?_)
    have hG : 65 ≤ g32.2.1 := hT.2
    show MW mL_isStayed bc bs 84 [(0, vR 0), (1, vI x1), (2, vI x2), (3, vI x3), (4, (7, x4)), (5, vI x5)] [vI v31] g32 d33 Q
    refine mw_istore (pc' := 86) (L' := [(0, vR 0), (1, vI x1), (2, vI x2), (3, vI x3), (4, (7, x4)), (5, vI v31)]) dL_isStayed_84 rfl (by decide) rfl ?_
    refine mw_aload_n (v := vR 0) (pc' := 87) dL_isStayed_86 rfl rfl (Or.inl rfl) rfl ?_
    refine mw_iconst (pc' := 88) dL_isStayed_87 rfl ⟨by decide, by decide⟩ ?_
    refine mw_iload_n (pc' := 89) dL_isStayed_88 rfl rfl rfl ?_
    refine mw_iconst (pc' := 90) dL_isStayed_89 rfl ⟨by decide, by decide⟩ ?_
    refine mw_iconst (pc' := 91) dL_isStayed_90 rfl ⟨by decide, by decide⟩ ?_
    refine mw_callSX (M' := mL_deed) (A := [vR 0, vI 0, vI x1, vI 0, vI 0]) (S := []) (pc' := 94) dL_isStayed_91 rfl (goodW 560 (by decide +kernel) rfl) kX_L_deed kS_L_deed ⟨by decide, by decide, (by show 48 ≤ bc; omega), (by show 8234 ≤ bs; omega), by decide⟩ rfl rfl (Nat.le_of_ble_eq_true rfl) (MM.mono ?_ h30)
    intro o g36 d37 h34
    rcases o with v35 | k
    · refine mw_top (fun hT => ?_)
      have hG : 65 ≤ g36.2.1 := hT.2
      show MW mL_isStayed (bc - 48) (bs - 8234) 94 [(0, vR 0), (1, vI x1), (2, vI x2), (3, vI x3), (4, (7, x4)), (5, vI v31)] [vI v35] g36 d37 Q
      refine mw_istore (pc' := 96) (L' := [(0, vR 0), (1, vI x1), (2, vI x2), (3, vI x3), (4, (7, x4)), (5, vI v31), (6, vI v35)]) dL_isStayed_94 rfl (by decide) rfl ?_
      refine mw_iload (pc' := 98) dL_isStayed_96 rfl rfl ?_
      refine mw_iload (pc' := 100) dL_isStayed_98 rfl rfl ?_
      refine mw_iload_n (pc' := 101) dL_isStayed_100 rfl rfl rfl ?_
      obtain ⟨o38, h34⟩ := h34
      refine mw_iadd (pc' := 102) dL_isStayed_101 rfl o38 ?_
      suffices k40 : (((v35 = v31 + x1) ∨ ((v35 = (-2003)) ∧ (¬ (v31 + x1 ≤ 1500)))) → MW mL_isStayed (bc - 48) (bs - 8234) 123 [(0, vR 0), (1, vI x1), (2, vI x2), (3, vI x3), (4, (7, x4)), (5, vI v31), (6, vI v35)] [] g36 d37 Q) ∧ ((¬ ((v35 = v31 + x1) ∨ ((v35 = (-2003)) ∧ (¬ (v31 + x1 ≤ 1500))))) → MW mL_isStayed (bc - 48) (bs - 8234) 127 [(0, vR 0), (1, vI x1), (2, vI x2), (3, vI x3), (4, (7, x4)), (5, vI v31), (6, vI v35)] [] g36 d37 Q) by
        refine mw_icmp_eq (tgt := 123) (pc' := 105) dL_isStayed_102 rfl (by decide) (fun c41 => ?_) (fun c41 => ?_)
        · exact k40.1 (Or.inl c41)
        · refine mw_iload (pc' := 107) dL_isStayed_105 rfl rfl ?_
          refine mw_sipush (pc' := 110) dL_isStayed_107 rfl ⟨by decide, by decide⟩ ?_
          refine mw_icmp_ne (tgt := 127) (pc' := 113) dL_isStayed_110 rfl (by decide) (fun c42 => ?_) (fun c42 => ?_)
          · exact k40.2 (fun h => h.elim (fun q => (c41 q)) (fun h => (c42 h.1)))
          · refine mw_iload (pc' := 115) dL_isStayed_113 rfl rfl ?_
            refine mw_iload_n (pc' := 116) dL_isStayed_115 rfl rfl rfl ?_
            refine mw_iadd (pc' := 117) dL_isStayed_116 rfl o38 ?_
            refine mw_sipush (pc' := 120) dL_isStayed_117 rfl ⟨by decide, by decide⟩ ?_
            refine mw_icmp_le (tgt := 127) (pc' := 123) dL_isStayed_120 rfl (by decide) (fun c43 => ?_) (fun c43 => ?_)
            · exact k40.2 (fun h => h.elim (fun q => (c41 q)) (fun h => (fun h => (h c43)) h.2))
            · exact k40.1 (Or.inr ⟨c42, c43⟩)
      refine ⟨fun c44 => ?_, fun c44 => ?_⟩
      · replace h34 := h34.1 c44
        refine mw_iconst (pc' := 124) dL_isStayed_123 rfl ⟨by decide, by decide⟩ ?_
        refine mw_goto (pc' := 0) (tgt := 128) dL_isStayed_124 (by decide) ?_
        exact h34
      · replace h34 := h34.2 c44
        refine mw_iconst (pc' := 128) dL_isStayed_127 rfl ⟨by decide, by decide⟩ ?_
        exact h34
    · exact mx_out rfl h34
  · exact mx_out rfl h30
theorem aL_isStayed_4 {bc bs : Nat} {x1 x2 x3 x4 x5 x6 s0 : Int} {g : mG} {d : mD} {Q : mQ} (h : pL_isStayed_5 bc bs x1 x2 x3 x4 x5 x6 s0 0 g d Q) : pL_isStayed_4 bc bs x1 x2 x3 x4 x5 x6 s0 g d Q := by
  unfold pL_isStayed_4
  refine mw_top (fun hT => ?_)
  have hG : 65 ≤ g.2.1 := hT.2
  refine mw_istore (pc' := 130) (L' := [(0, vR 0), (1, vI x1), (2, vI x2), (3, vI x3), (4, (7, x4)), (5, vI x5), (6, vI x6), (7, vI s0)]) dL_isStayed_128 rfl (by decide) rfl ?_
  refine mw_iconst (pc' := 131) dL_isStayed_130 rfl ⟨by decide, by decide⟩ ?_
  refine mw_istore (pc' := 133) (L' := [(0, vR 0), (1, vI x1), (2, vI x2), (3, vI x3), (4, (7, x4)), (5, vI x5), (6, vI x6), (7, vI s0), (8, vI 0)]) dL_isStayed_131 rfl (by decide) rfl ?_
  exact h
theorem aL_isStayed_5 {bc bs : Nat} {x1 x2 x3 x4 x5 x6 x7 x8 : Int} {g : mG} {d : mD} {Q : mQ} (hb : 6 ≤ bc ∧ 36 ≤ bs) (h : MM mX11_deadlines [vR 0] g d (fun o g47 d48 => match o with | .inl v46 => ((v46 ≤ x8) → pL_isStayed_6 bc bs x1 x2 x3 x4 x5 x6 x7 x8 g47 d48 Q) ∧ ((¬ (v46 ≤ x8)) → ((x7 = 0) → pL_isStayed_7 bc bs x1 x2 x3 x4 x5 x6 x7 x8 0 g47 d48 Q) ∧ ((¬ (x7 = 0)) → MM mL_ask [vR 0, vI 2, vI x8, vI 0, vI 0] g47 d48 (fun o g53 d54 => match o with | .inl v52 => (d54 SCR (-3) = 31 ∧ d54 SCR (-2) = x4 ∧ 0 ≤ x4) ∧ ((0 ≤ x8 ∧ x8 < 31) ∧ (((v52 = d54 FGN x8) → (iI (x5 + 1)) ∧ (MM mL_ask [vR 0, vI 10, vI x8, vI (x5 + 1), vI 0] g53 d54 (fun o g63 d64 => match o with | .inl v62 => pL_isStayed_7 (bc - 3 - 3) (bs - 18 - 18) x1 x2 x3 x4 x5 x6 x7 x8 (bI (v62 = 1)) g63 d64 Q | .inr k => Q (.inr k) g63 d64))) ∧ ((¬ (v52 = d54 FGN x8)) → pL_isStayed_7 (bc - 3) (bs - 18) x1 x2 x3 x4 x5 x6 x7 x8 0 g53 d54 Q))) | .inr k => Q (.inr k) g53 d54))) | .inr k => Q (.inr k) g47 d48)) : pL_isStayed_5 bc bs x1 x2 x3 x4 x5 x6 x7 x8 g d Q := by
  unfold pL_isStayed_5
  refine mw_top (fun hT => ?_)
  have hG : 65 ≤ g.2.1 := hT.2
  refine mw_iload (pc' := 135) dL_isStayed_133 rfl rfl ?_
  refine mw_aload_n (v := vR 0) (pc' := 136) dL_isStayed_135 rfl rfl (Or.inl rfl) rfl ?_
  refine mw_callV (M' := mX11_deadlines) (A := []) (A' := [vR 0]) (S := [vI x8]) (a := 0) (pc' := 139) dL_isStayed_136 rfl cl_RL_230 cm_X11_deadlines cv_X11_deadlines ⟨by decide, by decide, (by show 0 ≤ bc; omega), (by show 0 ≤ bs; omega), by decide⟩ rfl rfl rfl ⟨by decide, by omega⟩ (by decide +kernel) (by decide +kernel) (Nat.le_of_ble_eq_true rfl) (MM.mono ?_ h)
  intro o g47 d48 h45
  rcases o with v46 | k
  · refine mw_top (fun hT => ?_)
    have hG : 65 ≤ g47.2.1 := hT.2
    show MW mL_isStayed bc bs 139 [(0, vR 0), (1, vI x1), (2, vI x2), (3, vI x3), (4, (7, x4)), (5, vI x5), (6, vI x6), (7, vI x7), (8, vI x8)] [vI v46, vI x8] g47 d48 Q
    refine mw_icmp_ge (tgt := 194) (pc' := 142) dL_isStayed_139 rfl (by decide) (fun c49 => ?_) (fun c49 => ?_)
    · replace h45 := h45.1 c49
      exact h45
    · replace h45 := h45.2 c49
      refine mw_iload (pc' := 144) dL_isStayed_142 rfl rfl ?_
      refine mw_if_eq (tgt := 185) (pc' := 147) dL_isStayed_144 rfl (by decide) (fun c50 => ?_) (fun c50 => ?_)
      · replace h45 := h45.1 c50
        refine mw_iconst (pc' := 186) dL_isStayed_185 rfl ⟨by decide, by decide⟩ ?_
        exact h45
      · replace h45 := h45.2 c50
        refine mw_aload_n (v := vR 0) (pc' := 148) dL_isStayed_147 rfl rfl (Or.inl rfl) rfl ?_
        refine mw_iconst (pc' := 149) dL_isStayed_148 rfl ⟨by decide, by decide⟩ ?_
        refine mw_iload (pc' := 151) dL_isStayed_149 rfl rfl ?_
        refine mw_iconst (pc' := 152) dL_isStayed_151 rfl ⟨by decide, by decide⟩ ?_
        refine mw_iconst (pc' := 153) dL_isStayed_152 rfl ⟨by decide, by decide⟩ ?_
        refine mw_callSX (M' := mL_ask) (A := [vR 0, vI 2, vI x8, vI 0, vI 0]) (S := []) (pc' := 156) dL_isStayed_153 rfl (goodW 1204 (by decide +kernel) rfl) kX_L_ask kS_L_ask ⟨by decide, by decide, (by show 3 ≤ bc; omega), (by show 18 ≤ bs; omega), by decide⟩ rfl rfl (Nat.le_of_ble_eq_true rfl) (MM.mono ?_ h45)
        intro o g53 d54 h51
        rcases o with v52 | k
        · refine mw_top (fun hT => ?_)
          have hG : 65 ≤ g53.2.1 := hT.2
          show MW mL_isStayed (bc - 3) (bs - 18) 156 [(0, vR 0), (1, vI x1), (2, vI x2), (3, vI x3), (4, (7, x4)), (5, vI x5), (6, vI x6), (7, vI x7), (8, vI x8)] [vI v52] g53 d54 Q
          refine mw_aload (v := (7, x4)) (pc' := 158) dL_isStayed_156 rfl (Or.inr (Or.inr (Or.inr (Or.inl rfl)))) rfl ?_
          refine mw_iload (pc' := 160) dL_isStayed_158 rfl rfl ?_
          obtain ⟨o55, h51⟩ := h51
          obtain ⟨o56, h51⟩ := h51
          refine mw_ialdF (pc' := 161) dL_isStayed_160 rfl o55 o56 ?_
          refine mw_icmp_ne (tgt := 185) (pc' := 164) dL_isStayed_161 rfl (by decide) (fun c59 => ?_) (fun c59 => ?_)
          · replace h51 := h51.2 c59
            refine mw_iconst (pc' := 186) dL_isStayed_185 rfl ⟨by decide, by decide⟩ ?_
            exact h51
          · replace h51 := h51.1 c59
            refine mw_aload_n (v := vR 0) (pc' := 165) dL_isStayed_164 rfl rfl (Or.inl rfl) rfl ?_
            refine mw_bipush (pc' := 167) dL_isStayed_165 rfl ⟨by decide, by decide⟩ ?_
            refine mw_iload (pc' := 169) dL_isStayed_167 rfl rfl ?_
            refine mw_iload (pc' := 171) dL_isStayed_169 rfl rfl ?_
            refine mw_iconst (pc' := 172) dL_isStayed_171 rfl ⟨by decide, by decide⟩ ?_
            obtain ⟨o60, h51⟩ := h51
            refine mw_iadd (pc' := 173) dL_isStayed_172 rfl o60 ?_
            refine mw_iconst (pc' := 174) dL_isStayed_173 rfl ⟨by decide, by decide⟩ ?_
            refine mw_callSX (M' := mL_ask) (A := [vR 0, vI 10, vI x8, vI (x5 + 1), vI 0]) (S := []) (pc' := 177) dL_isStayed_174 rfl (goodW 1204 (by decide +kernel) rfl) kX_L_ask kS_L_ask ⟨by decide, by decide, (by show 3 ≤ bc - 3; omega), (by show 18 ≤ bs - 18; omega), by decide⟩ rfl rfl (Nat.le_of_ble_eq_true rfl) (MM.mono ?_ h51)
            intro o g63 d64 h61
            rcases o with v62 | k
            · refine mw_top (fun hT => ?_)
              have hG : 65 ≤ g63.2.1 := hT.2
              show MW mL_isStayed (bc - 3 - 3) (bs - 18 - 18) 177 [(0, vR 0), (1, vI x1), (2, vI x2), (3, vI x3), (4, (7, x4)), (5, vI x5), (6, vI x6), (7, vI x7), (8, vI x8)] [vI v62] g63 d64 Q
              refine mw_iconst (pc' := 178) dL_isStayed_177 rfl ⟨by decide, by decide⟩ ?_
              suffices k65 : MW mL_isStayed (bc - 3 - 3) (bs - 18 - 18) 186 [(0, vR 0), (1, vI x1), (2, vI x2), (3, vI x3), (4, (7, x4)), (5, vI x5), (6, vI x6), (7, vI x7), (8, vI x8)] [vI (bI (v62 = 1))] g63 d64 Q by
                refine mw_icmp_ne (tgt := 185) (pc' := 181) dL_isStayed_178 rfl (by decide) (fun c66 => ?_) (fun c66 => ?_)
                · refine mw_iconst (pc' := 186) dL_isStayed_185 rfl ⟨by decide, by decide⟩ ?_
                  exact mw_st (bI_f (fun h => (c66 h))).symm k65
                · refine mw_iconst (pc' := 182) dL_isStayed_181 rfl ⟨by decide, by decide⟩ ?_
                  refine mw_goto (pc' := 0) (tgt := 186) dL_isStayed_182 (by decide) ?_
                  exact mw_st (bI_t c66).symm k65
              exact h61
            · exact mx_out rfl h61
        · exact mx_out rfl h51
  · exact mx_out rfl h45
theorem aL_isStayed_6 {bc bs : Nat} {x1 x2 x3 x4 x5 x6 x7 x8 : Int} {g : mG} {d : mD} {Q : mQ} (hb : 96 ≤ bc ∧ 16468 ≤ bs) (h : ((x7 = 0) → pL_isStayed_8 bc bs x1 x2 x3 x4 x5 x6 x7 x8 0 g d Q) ∧ ((¬ (x7 = 0)) → ((x6 < 0) → pL_isStayed_8 bc bs x1 x2 x3 x4 x5 x6 x7 x8 1 g d Q) ∧ ((¬ (x6 < 0)) → MM mL_deed [vR 0, vI 12, vI x3, vI 0, vI 0] g d (fun o g71 d72 => match o with | .inl v70 => ((v70 = x1) → MM mL_deed [vR 0, vI 12, vI x3, vI 0, vI 0] g71 d72 (fun o g76 d77 => match o with | .inl v75 => ((v75 = (-2003)) → pL_isStayed_8 (bc - 48 - 48) (bs - 8234 - 8234) x1 x2 x3 x4 x5 x6 x7 x8 1 g76 d77 Q) ∧ ((¬ (v75 = (-2003))) → pL_isStayed_8 (bc - 48 - 48) (bs - 8234 - 8234) x1 x2 x3 x4 x5 x6 x7 x8 0 g76 d77 Q) | .inr k => Q (.inr k) g76 d77)) ∧ ((¬ (v70 = x1)) → pL_isStayed_8 (bc - 48) (bs - 8234) x1 x2 x3 x4 x5 x6 x7 x8 0 g71 d72 Q) | .inr k => Q (.inr k) g71 d72)))) : pL_isStayed_6 bc bs x1 x2 x3 x4 x5 x6 x7 x8 g d Q := by
  unfold pL_isStayed_6
  refine mw_top (fun hT => ?_)
  have hG : 65 ≤ g.2.1 := hT.2
  refine mw_iload (pc' := 196) dL_isStayed_194 rfl rfl ?_
  refine mw_if_eq (tgt := 236) (pc' := 199) dL_isStayed_196 rfl (by decide) (fun c67 => ?_) (fun c67 => ?_)
  · replace h := h.1 c67
    refine mw_iconst (pc' := 237) dL_isStayed_236 rfl ⟨by decide, by decide⟩ ?_
    exact h
  · replace h := h.2 c67
    refine mw_iload (pc' := 201) dL_isStayed_199 rfl rfl ?_
    refine mw_if_lt (tgt := 232) (pc' := 204) dL_isStayed_201 rfl (by decide) (fun c68 => ?_) (fun c68 => ?_)
    · replace h := h.1 c68
      refine mw_iconst (pc' := 233) dL_isStayed_232 rfl ⟨by decide, by decide⟩ ?_
      refine mw_goto (pc' := 0) (tgt := 237) dL_isStayed_233 (by decide) ?_
      exact h
    · replace h := h.2 c68
      refine mw_aload_n (v := vR 0) (pc' := 205) dL_isStayed_204 rfl rfl (Or.inl rfl) rfl ?_
      refine mw_bipush (pc' := 207) dL_isStayed_205 rfl ⟨by decide, by decide⟩ ?_
      refine mw_iload_n (pc' := 208) dL_isStayed_207 rfl rfl rfl ?_
      refine mw_iconst (pc' := 209) dL_isStayed_208 rfl ⟨by decide, by decide⟩ ?_
      refine mw_iconst (pc' := 210) dL_isStayed_209 rfl ⟨by decide, by decide⟩ ?_
      refine mw_callSX (M' := mL_deed) (A := [vR 0, vI 12, vI x3, vI 0, vI 0]) (S := []) (pc' := 213) dL_isStayed_210 rfl (goodW 560 (by decide +kernel) rfl) kX_L_deed kS_L_deed ⟨by decide, by decide, (by show 48 ≤ bc; omega), (by show 8234 ≤ bs; omega), by decide⟩ rfl rfl (Nat.le_of_ble_eq_true rfl) (MM.mono ?_ h)
      intro o g71 d72 h69
      rcases o with v70 | k
      · refine mw_top (fun hT => ?_)
        have hG : 65 ≤ g71.2.1 := hT.2
        show MW mL_isStayed (bc - 48) (bs - 8234) 213 [(0, vR 0), (1, vI x1), (2, vI x2), (3, vI x3), (4, (7, x4)), (5, vI x5), (6, vI x6), (7, vI x7), (8, vI x8)] [vI v70] g71 d72 Q
        refine mw_iload_n (pc' := 214) dL_isStayed_213 rfl rfl rfl ?_
        refine mw_icmp_ne (tgt := 236) (pc' := 217) dL_isStayed_214 rfl (by decide) (fun c73 => ?_) (fun c73 => ?_)
        · replace h69 := h69.2 c73
          refine mw_iconst (pc' := 237) dL_isStayed_236 rfl ⟨by decide, by decide⟩ ?_
          exact h69
        · replace h69 := h69.1 c73
          refine mw_aload_n (v := vR 0) (pc' := 218) dL_isStayed_217 rfl rfl (Or.inl rfl) rfl ?_
          refine mw_bipush (pc' := 220) dL_isStayed_218 rfl ⟨by decide, by decide⟩ ?_
          refine mw_iload_n (pc' := 221) dL_isStayed_220 rfl rfl rfl ?_
          refine mw_iconst (pc' := 222) dL_isStayed_221 rfl ⟨by decide, by decide⟩ ?_
          refine mw_iconst (pc' := 223) dL_isStayed_222 rfl ⟨by decide, by decide⟩ ?_
          refine mw_callSX (M' := mL_deed) (A := [vR 0, vI 12, vI x3, vI 0, vI 0]) (S := []) (pc' := 226) dL_isStayed_223 rfl (goodW 560 (by decide +kernel) rfl) kX_L_deed kS_L_deed ⟨by decide, by decide, (by show 48 ≤ bc - 48; omega), (by show 8234 ≤ bs - 8234; omega), by decide⟩ rfl rfl (Nat.le_of_ble_eq_true rfl) (MM.mono ?_ h69)
          intro o g76 d77 h74
          rcases o with v75 | k
          · refine mw_top (fun hT => ?_)
            have hG : 65 ≤ g76.2.1 := hT.2
            show MW mL_isStayed (bc - 48 - 48) (bs - 8234 - 8234) 226 [(0, vR 0), (1, vI x1), (2, vI x2), (3, vI x3), (4, (7, x4)), (5, vI x5), (6, vI x6), (7, vI x7), (8, vI x8)] [vI v75] g76 d77 Q
            refine mw_sipush (pc' := 229) dL_isStayed_226 rfl ⟨by decide, by decide⟩ ?_
            refine mw_icmp_ne (tgt := 236) (pc' := 232) dL_isStayed_229 rfl (by decide) (fun c78 => ?_) (fun c78 => ?_)
            · replace h74 := h74.2 c78
              refine mw_iconst (pc' := 237) dL_isStayed_236 rfl ⟨by decide, by decide⟩ ?_
              exact h74
            · replace h74 := h74.1 c78
              refine mw_iconst (pc' := 233) dL_isStayed_232 rfl ⟨by decide, by decide⟩ ?_
              refine mw_goto (pc' := 0) (tgt := 237) dL_isStayed_233 (by decide) ?_
              exact h74
          · exact mx_out rfl h74
      · exact mx_out rfl h69
theorem aL_isStayed_7 {bc bs : Nat} {x1 x2 x3 x4 x5 x6 x7 x8 s0 : Int} {g : mG} {d : mD} {Q : mQ} (h : (iI (x8 + 1)) ∧ (pL_isStayed_5 bc bs x1 x2 x3 x4 x5 x6 s0 (x8 + 1) g d Q)) : pL_isStayed_7 bc bs x1 x2 x3 x4 x5 x6 x7 x8 s0 g d Q := by
  unfold pL_isStayed_7
  refine mw_top (fun hT => ?_)
  have hG : 65 ≤ g.2.1 := hT.2
  refine mw_istore (pc' := 188) (L' := [(0, vR 0), (1, vI x1), (2, vI x2), (3, vI x3), (4, (7, x4)), (5, vI x5), (6, vI x6), (7, vI s0), (8, vI x8)]) dL_isStayed_186 rfl (by decide) rfl ?_
  obtain ⟨o79, h⟩ := h
  refine mw_iinc (pc' := 191) (L' := [(0, vR 0), (1, vI x1), (2, vI x2), (3, vI x3), (4, (7, x4)), (5, vI x5), (6, vI x6), (7, vI s0), (8, vI (x8 + 1))]) dL_isStayed_188 rfl rfl (by decide) o79 rfl ?_
  refine mw_goto (pc' := 0) (tgt := 133) dL_isStayed_191 (by decide) ?_
  exact h
theorem aL_isStayed_8 {bc bs : Nat} {x1 x2 x3 x4 x5 x6 x7 x8 s0 : Int} {g : mG} {d : mD} {Q : mQ} (hb : 144 ≤ bc ∧ 24702 ≤ bs) (h : ((s0 = 0) → pL_isStayed_9 bc bs x1 x2 x3 x4 x5 x6 s0 x8 0 g d Q) ∧ ((¬ (s0 = 0)) → MM mL_deed [vR 0, vI 21, vI 0, vI 0, vI 0] g d (fun o g83 d84 => match o with | .inl v82 => ((v82 < 0) → pL_isStayed_9 (bc - 48) (bs - 8234) x1 x2 x3 x4 x5 x6 s0 x8 0 g83 d84 Q) ∧ ((¬ (v82 < 0)) → ((x6 < 0) → pL_isStayed_9 (bc - 48) (bs - 8234) x1 x2 x3 x4 x5 x6 s0 x8 1 g83 d84 Q) ∧ ((¬ (x6 < 0)) → MM mL_deed [vR 0, vI 21, vI 0, vI 0, vI 0] g83 d84 (fun o g89 d90 => match o with | .inl v88 => ((v88 < 0) → pL_isStayed_9 (bc - 48 - 48) (bs - 8234 - 8234) x1 x2 x3 x4 x5 x6 s0 x8 0 g89 d90 Q) ∧ ((¬ (v88 < 0)) → MM mL_deed [vR 0, vI 21, vI 0, vI 0, vI 0] g89 d90 (fun o g94 d95 => match o with | .inl v93 => ((v93 < 0) → pL_isStayed_9 (bc - 48 - 48 - 48) (bs - 8234 - 8234 - 8234) x1 x2 x3 x4 x5 x6 s0 x8 0 g94 d95 Q) ∧ ((¬ (v93 < 0)) → pL_isStayed_9 (bc - 48 - 48 - 48) (bs - 8234 - 8234 - 8234) x1 x2 x3 x4 x5 x6 s0 x8 1 g94 d95 Q) | .inr k => Q (.inr k) g94 d95)) | .inr k => Q (.inr k) g89 d90))) | .inr k => Q (.inr k) g83 d84))) : pL_isStayed_8 bc bs x1 x2 x3 x4 x5 x6 x7 x8 s0 g d Q := by
  unfold pL_isStayed_8
  refine mw_top (fun hT => ?_)
  have hG : 65 ≤ g.2.1 := hT.2
  refine mw_istore (pc' := 239) (L' := [(0, vR 0), (1, vI x1), (2, vI x2), (3, vI x3), (4, (7, x4)), (5, vI x5), (6, vI x6), (7, vI s0), (8, vI x8)]) dL_isStayed_237 rfl (by decide) rfl ?_
  refine mw_iload (pc' := 241) dL_isStayed_239 rfl rfl ?_
  refine mw_if_eq (tgt := 289) (pc' := 244) dL_isStayed_241 rfl (by decide) (fun c80 => ?_) (fun c80 => ?_)
  · replace h := h.1 c80
    refine mw_iconst (pc' := 290) dL_isStayed_289 rfl ⟨by decide, by decide⟩ ?_
    exact h
  · replace h := h.2 c80
    refine mw_aload_n (v := vR 0) (pc' := 245) dL_isStayed_244 rfl rfl (Or.inl rfl) rfl ?_
    refine mw_bipush (pc' := 247) dL_isStayed_245 rfl ⟨by decide, by decide⟩ ?_
    refine mw_iconst (pc' := 248) dL_isStayed_247 rfl ⟨by decide, by decide⟩ ?_
    refine mw_iconst (pc' := 249) dL_isStayed_248 rfl ⟨by decide, by decide⟩ ?_
    refine mw_iconst (pc' := 250) dL_isStayed_249 rfl ⟨by decide, by decide⟩ ?_
    refine mw_callSX (M' := mL_deed) (A := [vR 0, vI 21, vI 0, vI 0, vI 0]) (S := []) (pc' := 253) dL_isStayed_250 rfl (goodW 560 (by decide +kernel) rfl) kX_L_deed kS_L_deed ⟨by decide, by decide, (by show 48 ≤ bc; omega), (by show 8234 ≤ bs; omega), by decide⟩ rfl rfl (Nat.le_of_ble_eq_true rfl) (MM.mono ?_ h)
    intro o g83 d84 h81
    rcases o with v82 | k
    · refine mw_top (fun hT => ?_)
      have hG : 65 ≤ g83.2.1 := hT.2
      show MW mL_isStayed (bc - 48) (bs - 8234) 253 [(0, vR 0), (1, vI x1), (2, vI x2), (3, vI x3), (4, (7, x4)), (5, vI x5), (6, vI x6), (7, vI s0), (8, vI x8)] [vI v82] g83 d84 Q
      refine mw_if_lt (tgt := 289) (pc' := 256) dL_isStayed_253 rfl (by decide) (fun c85 => ?_) (fun c85 => ?_)
      · replace h81 := h81.1 c85
        refine mw_iconst (pc' := 290) dL_isStayed_289 rfl ⟨by decide, by decide⟩ ?_
        exact h81
      · replace h81 := h81.2 c85
        refine mw_iload (pc' := 258) dL_isStayed_256 rfl rfl ?_
        refine mw_if_lt (tgt := 285) (pc' := 261) dL_isStayed_258 rfl (by decide) (fun c86 => ?_) (fun c86 => ?_)
        · replace h81 := h81.1 c86
          refine mw_iconst (pc' := 286) dL_isStayed_285 rfl ⟨by decide, by decide⟩ ?_
          refine mw_goto (pc' := 0) (tgt := 290) dL_isStayed_286 (by decide) ?_
          exact h81
        · replace h81 := h81.2 c86
          refine mw_aload_n (v := vR 0) (pc' := 262) dL_isStayed_261 rfl rfl (Or.inl rfl) rfl ?_
          refine mw_bipush (pc' := 264) dL_isStayed_262 rfl ⟨by decide, by decide⟩ ?_
          refine mw_iconst (pc' := 265) dL_isStayed_264 rfl ⟨by decide, by decide⟩ ?_
          refine mw_iconst (pc' := 266) dL_isStayed_265 rfl ⟨by decide, by decide⟩ ?_
          refine mw_iconst (pc' := 267) dL_isStayed_266 rfl ⟨by decide, by decide⟩ ?_
          refine mw_callSX (M' := mL_deed) (A := [vR 0, vI 21, vI 0, vI 0, vI 0]) (S := []) (pc' := 270) dL_isStayed_267 rfl (goodW 560 (by decide +kernel) rfl) kX_L_deed kS_L_deed ⟨by decide, by decide, (by show 48 ≤ bc - 48; omega), (by show 8234 ≤ bs - 8234; omega), by decide⟩ rfl rfl (Nat.le_of_ble_eq_true rfl) (MM.mono ?_ h81)
          intro o g89 d90 h87
          rcases o with v88 | k
          · refine mw_top (fun hT => ?_)
            have hG : 65 ≤ g89.2.1 := hT.2
            show MW mL_isStayed (bc - 48 - 48) (bs - 8234 - 8234) 270 [(0, vR 0), (1, vI x1), (2, vI x2), (3, vI x3), (4, (7, x4)), (5, vI x5), (6, vI x6), (7, vI s0), (8, vI x8)] [vI v88] g89 d90 Q
            refine mw_if_lt (tgt := 289) (pc' := 273) dL_isStayed_270 rfl (by decide) (fun c91 => ?_) (fun c91 => ?_)
            · replace h87 := h87.1 c91
              refine mw_iconst (pc' := 290) dL_isStayed_289 rfl ⟨by decide, by decide⟩ ?_
              exact h87
            · replace h87 := h87.2 c91
              refine mw_aload_n (v := vR 0) (pc' := 274) dL_isStayed_273 rfl rfl (Or.inl rfl) rfl ?_
              refine mw_bipush (pc' := 276) dL_isStayed_274 rfl ⟨by decide, by decide⟩ ?_
              refine mw_iconst (pc' := 277) dL_isStayed_276 rfl ⟨by decide, by decide⟩ ?_
              refine mw_iconst (pc' := 278) dL_isStayed_277 rfl ⟨by decide, by decide⟩ ?_
              refine mw_iconst (pc' := 279) dL_isStayed_278 rfl ⟨by decide, by decide⟩ ?_
              refine mw_callSX (M' := mL_deed) (A := [vR 0, vI 21, vI 0, vI 0, vI 0]) (S := []) (pc' := 282) dL_isStayed_279 rfl (goodW 560 (by decide +kernel) rfl) kX_L_deed kS_L_deed ⟨by decide, by decide, (by show 48 ≤ bc - 48 - 48; omega), (by show 8234 ≤ bs - 8234 - 8234; omega), by decide⟩ rfl rfl (Nat.le_of_ble_eq_true rfl) (MM.mono ?_ h87)
              intro o g94 d95 h92
              rcases o with v93 | k
              · refine mw_top (fun hT => ?_)
                have hG : 65 ≤ g94.2.1 := hT.2
                show MW mL_isStayed (bc - 48 - 48 - 48) (bs - 8234 - 8234 - 8234) 282 [(0, vR 0), (1, vI x1), (2, vI x2), (3, vI x3), (4, (7, x4)), (5, vI x5), (6, vI x6), (7, vI s0), (8, vI x8)] [vI v93] g94 d95 Q
                refine mw_if_lt (tgt := 289) (pc' := 285) dL_isStayed_282 rfl (by decide) (fun c96 => ?_) (fun c96 => ?_)
                · replace h92 := h92.1 c96
                  refine mw_iconst (pc' := 290) dL_isStayed_289 rfl ⟨by decide, by decide⟩ ?_
                  exact h92
                · replace h92 := h92.2 c96
                  refine mw_iconst (pc' := 286) dL_isStayed_285 rfl ⟨by decide, by decide⟩ ?_
                  refine mw_goto (pc' := 0) (tgt := 290) dL_isStayed_286 (by decide) ?_
                  exact h92
              · exact mx_out rfl h92
          · exact mx_out rfl h87
    · exact mx_out rfl h81
theorem aL_isStayed_9 {bc bs : Nat} {x1 x2 x3 x4 x5 x6 x7 x8 s0 : Int} {g : mG} {d : mD} {Q : mQ} (hb : 300 ≤ bc ∧ 1800 ≤ bs) (h : ((s0 = 0) → Q (.inl 0) g d) ∧ ((¬ (s0 = 0)) → MM mL_print [vR 0] g d (fun o g100 d101 => match o with | .inl v99 => Q (.inl (bI (v99 = x2))) g100 d101 | .inr k => Q (.inr k) g100 d101))) : pL_isStayed_9 bc bs x1 x2 x3 x4 x5 x6 x7 x8 s0 g d Q := by
  unfold pL_isStayed_9
  refine mw_top (fun hT => ?_)
  have hG : 65 ≤ g.2.1 := hT.2
  refine mw_istore (pc' := 292) (L' := [(0, vR 0), (1, vI x1), (2, vI x2), (3, vI x3), (4, (7, x4)), (5, vI x5), (6, vI x6), (7, vI s0), (8, vI x8)]) dL_isStayed_290 rfl (by decide) rfl ?_
  refine mw_iload (pc' := 294) dL_isStayed_292 rfl rfl ?_
  refine mw_if_eq (tgt := 309) (pc' := 297) dL_isStayed_294 rfl (by decide) (fun c97 => ?_) (fun c97 => ?_)
  · replace h := h.1 c97
    refine mw_iconst (pc' := 310) dL_isStayed_309 rfl ⟨by decide, by decide⟩ ?_
    exact mw_iret (pc' := 0) (S := []) dL_isStayed_310 rfl (Or.inr (Or.inl ⟨rfl, by decide, by decide⟩)) h
  · replace h := h.2 c97
    refine mw_aload_n (v := vR 0) (pc' := 298) dL_isStayed_297 rfl rfl (Or.inl rfl) rfl ?_
    refine mw_callS (M' := mL_print) (A := [vR 0]) (S := []) (pc' := 301) dL_isStayed_298 rfl cl_RL_245 cm_L_print cs_L_print ⟨by decide, by decide, (by show 300 ≤ bc; omega), (by show 1800 ≤ bs; omega), by decide⟩ rfl rfl (Nat.le_of_ble_eq_true rfl) (MM.mono ?_ h)
    intro o g100 d101 h98
    rcases o with v99 | k
    · refine mw_top (fun hT => ?_)
      have hG : 65 ≤ g100.2.1 := hT.2
      show MW mL_isStayed (bc - 300) (bs - 1800) 301 [(0, vR 0), (1, vI x1), (2, vI x2), (3, vI x3), (4, (7, x4)), (5, vI x5), (6, vI x6), (7, vI s0), (8, vI x8)] [vI v99] g100 d101 Q
      refine mw_iload_n (pc' := 302) dL_isStayed_301 rfl rfl rfl ?_
      suffices k102 : MW mL_isStayed (bc - 300) (bs - 1800) 310 [(0, vR 0), (1, vI x1), (2, vI x2), (3, vI x3), (4, (7, x4)), (5, vI x5), (6, vI x6), (7, vI s0), (8, vI x8)] [vI (bI (v99 = x2))] g100 d101 Q by
        refine mw_icmp_ne (tgt := 309) (pc' := 305) dL_isStayed_302 rfl (by decide) (fun c103 => ?_) (fun c103 => ?_)
        · refine mw_iconst (pc' := 310) dL_isStayed_309 rfl ⟨by decide, by decide⟩ ?_
          exact mw_st (bI_f (fun h => (c103 h))).symm k102
        · refine mw_iconst (pc' := 306) dL_isStayed_305 rfl ⟨by decide, by decide⟩ ?_
          refine mw_goto (pc' := 0) (tgt := 310) dL_isStayed_306 (by decide) ?_
          exact mw_st (bI_t c103).symm k102
      exact mw_iret (pc' := 0) (S := []) dL_isStayed_310 rfl (Or.inr (Or.inl ⟨rfl, bI_rng⟩)) h98
    · exact mx_out rfl h98
theorem eL_isUndone {x2 x3 : Int} {g : mG} {d : mD} {Q : mQ} (h : MM mL_any [vR 0, (5, 0), vI x2] g d (fun o g3 d4 => match o with | .inl v2 => ((0 ≤ v2) → MM mL_deed [vR 0, vI 21, vI 0, vI 0, vI 0] g3 d4 (fun o g8 d9 => match o with | .inl v7 => ((v7 < 0) → Q (.inl 0) g8 d9) ∧ ((¬ (v7 < 0)) → MM mL_print [vR 0] g8 d9 (fun o g13 d14 => match o with | .inl v12 => Q (.inl (bI (v12 = x3))) g13 d14 | .inr k => Q (.inr k) g13 d14)) | .inr k => Q (.inr k) g8 d9)) ∧ ((¬ (0 ≤ v2)) → MM mL_print [vR 0] g3 d4 (fun o g19 d20 => match o with | .inl v18 => Q (.inl (bI (v18 = x3))) g19 d20 | .inr k => Q (.inr k) g19 d20)) | .inr k => Q (.inr k) g3 d4)) : MM mL_isUndone [vR 0, (5, 0), vI x2, vI x3] g d Q := by
  refine MM_of (by decide) rfl (by simp [catV]) (Nat.le_of_ble_eq_true rfl) ?_
  show MW mL_isUndone 400 20000 0 [(0, vR 0), (1, (5, 0)), (2, vI x2), (3, vI x3)] [] g d Q
  refine mw_top (fun hT => ?_)
  have hG : 65 ≤ g.2.1 := hT.2
  refine mw_aload_n (v := vR 0) (pc' := 1) dL_isUndone_0 rfl rfl (Or.inl rfl) rfl ?_
  refine mw_aload_n (v := (5, 0)) (pc' := 2) dL_isUndone_1 rfl rfl (Or.inr (Or.inl rfl)) rfl ?_
  refine mw_iload_n (pc' := 3) dL_isUndone_2 rfl rfl rfl ?_
  refine mw_callS (M' := mL_any) (A := [vR 0, (5, 0), vI x2]) (S := []) (pc' := 6) dL_isUndone_3 rfl cl_RL_265 cm_L_any cs_L_any ⟨by decide, by decide, (by show 48 ≤ 400; omega), (by show 8234 ≤ 20000; omega), by decide⟩ rfl rfl (Nat.le_of_ble_eq_true rfl) (MM.mono ?_ h)
  intro o g3 d4 h1
  rcases o with v2 | k
  · refine mw_top (fun hT => ?_)
    have hG : 65 ≤ g3.2.1 := hT.2
    show MW mL_isUndone 352 11766 6 [(0, vR 0), (1, (5, 0)), (2, vI x2), (3, vI x3)] [vI v2] g3 d4 Q
    refine mw_istore (pc' := 8) (L' := [(0, vR 0), (1, (5, 0)), (2, vI x2), (3, vI x3), (4, vI v2)]) dL_isUndone_6 rfl (by decide) rfl ?_
    refine mw_iload (pc' := 10) dL_isUndone_8 rfl rfl ?_
    refine mw_if_ge (tgt := 29) (pc' := 13) dL_isUndone_10 rfl (by decide) (fun c5 => ?_) (fun c5 => ?_)
    · replace h1 := h1.1 c5
      refine mw_aload_n (v := vR 0) (pc' := 30) dL_isUndone_29 rfl rfl (Or.inl rfl) rfl ?_
      refine mw_bipush (pc' := 32) dL_isUndone_30 rfl ⟨by decide, by decide⟩ ?_
      refine mw_iconst (pc' := 33) dL_isUndone_32 rfl ⟨by decide, by decide⟩ ?_
      refine mw_iconst (pc' := 34) dL_isUndone_33 rfl ⟨by decide, by decide⟩ ?_
      refine mw_iconst (pc' := 35) dL_isUndone_34 rfl ⟨by decide, by decide⟩ ?_
      refine mw_callSX (M' := mL_deed) (A := [vR 0, vI 21, vI 0, vI 0, vI 0]) (S := []) (pc' := 38) dL_isUndone_35 rfl (goodW 560 (by decide +kernel) rfl) kX_L_deed kS_L_deed ⟨by decide, by decide, (by show 48 ≤ 352; omega), (by show 8234 ≤ 11766; omega), by decide⟩ rfl rfl (Nat.le_of_ble_eq_true rfl) (MM.mono ?_ h1)
      intro o g8 d9 h6
      rcases o with v7 | k
      · refine mw_top (fun hT => ?_)
        have hG : 65 ≤ g8.2.1 := hT.2
        show MW mL_isUndone 304 3532 38 [(0, vR 0), (1, (5, 0)), (2, vI x2), (3, vI x3), (4, vI v2)] [vI v7] g8 d9 Q
        refine mw_if_lt (tgt := 53) (pc' := 41) dL_isUndone_38 rfl (by decide) (fun c10 => ?_) (fun c10 => ?_)
        · replace h6 := h6.1 c10
          refine mw_iconst (pc' := 54) dL_isUndone_53 rfl ⟨by decide, by decide⟩ ?_
          exact mw_iret (pc' := 0) (S := []) dL_isUndone_54 rfl (Or.inr (Or.inl ⟨rfl, by decide, by decide⟩)) h6
        · replace h6 := h6.2 c10
          refine mw_aload_n (v := vR 0) (pc' := 42) dL_isUndone_41 rfl rfl (Or.inl rfl) rfl ?_
          refine mw_callS (M' := mL_print) (A := [vR 0]) (S := []) (pc' := 45) dL_isUndone_42 rfl cl_RL_245 cm_L_print cs_L_print ⟨by decide, by decide, (by show 300 ≤ 304; omega), (by show 1800 ≤ 3532; omega), by decide⟩ rfl rfl (Nat.le_of_ble_eq_true rfl) (MM.mono ?_ h6)
          intro o g13 d14 h11
          rcases o with v12 | k
          · refine mw_top (fun hT => ?_)
            have hG : 65 ≤ g13.2.1 := hT.2
            show MW mL_isUndone 4 1732 45 [(0, vR 0), (1, (5, 0)), (2, vI x2), (3, vI x3), (4, vI v2)] [vI v12] g13 d14 Q
            refine mw_iload_n (pc' := 46) dL_isUndone_45 rfl rfl rfl ?_
            suffices k15 : MW mL_isUndone 4 1732 54 [(0, vR 0), (1, (5, 0)), (2, vI x2), (3, vI x3), (4, vI v2)] [vI (bI (v12 = x3))] g13 d14 Q by
              refine mw_icmp_ne (tgt := 53) (pc' := 49) dL_isUndone_46 rfl (by decide) (fun c16 => ?_) (fun c16 => ?_)
              · refine mw_iconst (pc' := 54) dL_isUndone_53 rfl ⟨by decide, by decide⟩ ?_
                exact mw_st (bI_f (fun h => (c16 h))).symm k15
              · refine mw_iconst (pc' := 50) dL_isUndone_49 rfl ⟨by decide, by decide⟩ ?_
                refine mw_goto (pc' := 0) (tgt := 54) dL_isUndone_50 (by decide) ?_
                exact mw_st (bI_t c16).symm k15
            exact mw_iret (pc' := 0) (S := []) dL_isUndone_54 rfl (Or.inr (Or.inl ⟨rfl, bI_rng⟩)) h11
          · exact mx_out rfl h11
      · exact mx_out rfl h6
    · replace h1 := h1.2 c5
      refine mw_aload_n (v := vR 0) (pc' := 14) dL_isUndone_13 rfl rfl (Or.inl rfl) rfl ?_
      refine mw_callS (M' := mL_print) (A := [vR 0]) (S := []) (pc' := 17) dL_isUndone_14 rfl cl_RL_245 cm_L_print cs_L_print ⟨by decide, by decide, (by show 300 ≤ 352; omega), (by show 1800 ≤ 11766; omega), by decide⟩ rfl rfl (Nat.le_of_ble_eq_true rfl) (MM.mono ?_ h1)
      intro o g19 d20 h17
      rcases o with v18 | k
      · refine mw_top (fun hT => ?_)
        have hG : 65 ≤ g19.2.1 := hT.2
        show MW mL_isUndone 52 9966 17 [(0, vR 0), (1, (5, 0)), (2, vI x2), (3, vI x3), (4, vI v2)] [vI v18] g19 d20 Q
        refine mw_iload_n (pc' := 18) dL_isUndone_17 rfl rfl rfl ?_
        suffices k21 : MW mL_isUndone 52 9966 54 [(0, vR 0), (1, (5, 0)), (2, vI x2), (3, vI x3), (4, vI v2)] [vI (bI (v18 = x3))] g19 d20 Q by
          refine mw_icmp_ne (tgt := 25) (pc' := 21) dL_isUndone_18 rfl (by decide) (fun c22 => ?_) (fun c22 => ?_)
          · refine mw_iconst (pc' := 26) dL_isUndone_25 rfl ⟨by decide, by decide⟩ ?_
            refine mw_goto (pc' := 0) (tgt := 54) dL_isUndone_26 (by decide) ?_
            exact mw_st (bI_f (fun h => (c22 h))).symm k21
          · refine mw_iconst (pc' := 22) dL_isUndone_21 rfl ⟨by decide, by decide⟩ ?_
            refine mw_goto (pc' := 0) (tgt := 54) dL_isUndone_22 (by decide) ?_
            exact mw_st (bI_t c22).symm k21
        exact mw_iret (pc' := 0) (S := []) dL_isUndone_54 rfl (Or.inr (Or.inl ⟨rfl, bI_rng⟩)) h17
      · exact mx_out rfl h17
  · exact mx_out rfl h1
