def pL_lay_1 (bc bs : Nat) (x2 x3 : Int) (g : mG) (d : mD) (Q : mQ) : Prop := MW mL_lay bc bs 4 [(0, vR 0), (1, (5, 0)), (2, vI x2), (3, vI x3)] [] g d Q
def pL_lay_2 (bc bs : Nat) (x2 x3 : Int) (g : mG) (d : mD) (Q : mQ) : Prop := MW mL_lay bc bs 49 [(0, vR 0), (1, (5, 0)), (2, vI x2), (3, vI x3)] [] g d Q
def pL_lay_3 (bc bs : Nat) (x2 x3 : Int) (g : mG) (d : mD) (Q : mQ) : Prop := MW mL_lay bc bs 149 [(0, vR 0), (1, (5, 0)), (2, vI x2), (3, vI x3)] [] g d Q
def pL_lay_4 (bc bs : Nat) (x2 x3 : Int) (g : mG) (d : mD) (Q : mQ) : Prop := MW mL_lay bc bs 188 [(0, vR 0), (1, (5, 0)), (2, vI x2), (3, vI x3)] [] g d Q
theorem eL_lay {g : mG} {d : mD} {Q : mQ} (h : pL_lay_1 1344 230552 0 0 g d Q) : MM mL_lay [vR 0, (5, 0)] g d Q := by
  refine MM_of (by decide) rfl (by simp [catV]) (Nat.le_of_ble_eq_true rfl) ?_
  show MW mL_lay 1344 230552 0 [(0, vR 0), (1, (5, 0))] [] g d Q
  refine mw_top (fun hT => ?_)
  have hG : 65 ≤ g.2.1 := hT.2
  refine mw_iconst (pc' := 1) dL_lay_0 rfl ⟨by decide, by decide⟩ ?_
  refine mw_istore_n (pc' := 2) (L' := [(0, vR 0), (1, (5, 0)), (2, vI 0)]) dL_lay_1 rfl rfl (by decide) rfl ?_
  refine mw_iconst (pc' := 3) dL_lay_2 rfl ⟨by decide, by decide⟩ ?_
  refine mw_istore_n (pc' := 4) (L' := [(0, vR 0), (1, (5, 0)), (2, vI 0), (3, vI 0)]) dL_lay_3 rfl rfl (by decide) rfl ?_
  exact h
theorem aL_lay_1 {bc bs : Nat} {x2 x3 : Int} {g : mG} {d : mD} {Q : mQ} (hb : 96 ≤ bc ∧ 16468 ≤ bs) (h : MM mL_pick [(5, 0), vI 0, vI 3] g d (fun o g3 d4 => match o with | .inl v2 => (iI (1 + v2)) ∧ (((1 + v2 ≤ x3) → pL_lay_2 bc bs x2 0 g3 d4 Q) ∧ ((¬ (1 + v2 ≤ x3)) → (iI (97 + x3)) ∧ (MM mL_deed [vR 0, vI 19, vI (97 + x3), vI 0, vI 0] g3 d4 (fun o g12 d13 => match o with | .inl v11 => MM mL_deed [vR 0, vI 17, vI 0, vI 0, vI 0] g12 d13 (fun o g16 d17 => match o with | .inl v15 => (iI (x3 + 1)) ∧ (pL_lay_1 (bc - 48 - 48) (bs - 8234 - 8234) (wI (x2 + (wI (v11 + v15)))) (x3 + 1) g16 d17 Q) | .inr k => Q (.inr k) g16 d17) | .inr k => Q (.inr k) g12 d13)))) | .inr k => Q (.inr k) g3 d4)) : pL_lay_1 bc bs x2 x3 g d Q := by
  unfold pL_lay_1
  refine mw_top (fun hT => ?_)
  have hG : 65 ≤ g.2.1 := hT.2
  refine mw_iload_n (pc' := 5) dL_lay_4 rfl rfl rfl ?_
  refine mw_iconst (pc' := 6) dL_lay_5 rfl ⟨by decide, by decide⟩ ?_
  refine mw_aload_n (v := (5, 0)) (pc' := 7) dL_lay_6 rfl rfl (Or.inr (Or.inl rfl)) rfl ?_
  refine mw_iconst (pc' := 8) dL_lay_7 rfl ⟨by decide, by decide⟩ ?_
  refine mw_iconst (pc' := 9) dL_lay_8 rfl ⟨by decide, by decide⟩ ?_
  refine mw_callS (M' := mL_pick) (A := [(5, 0), vI 0, vI 3]) (S := [vI 1, vI x3]) (pc' := 12) dL_lay_9 rfl cl_RL_223 cm_L_pick cs_L_pick ⟨by decide, by decide, (by show 0 ≤ bc; omega), (by show 0 ≤ bs; omega), by decide⟩ rfl rfl (Nat.le_of_ble_eq_true rfl) (MM.mono ?_ h)
  intro o g3 d4 h1
  rcases o with v2 | k
  · refine mw_top (fun hT => ?_)
    have hG : 65 ≤ g3.2.1 := hT.2
    show MW mL_lay bc bs 12 [(0, vR 0), (1, (5, 0)), (2, vI x2), (3, vI x3)] [vI v2, vI 1, vI x3] g3 d4 Q
    obtain ⟨o5, h1⟩ := h1
    refine mw_iadd (pc' := 13) dL_lay_12 rfl o5 ?_
    refine mw_icmp_ge (tgt := 47) (pc' := 16) dL_lay_13 rfl (by decide) (fun c8 => ?_) (fun c8 => ?_)
    · replace h1 := h1.1 c8
      refine mw_iconst (pc' := 48) dL_lay_47 rfl ⟨by decide, by decide⟩ ?_
      refine mw_istore_n (pc' := 49) (L' := [(0, vR 0), (1, (5, 0)), (2, vI x2), (3, vI 0)]) dL_lay_48 rfl rfl (by decide) rfl ?_
      exact h1
    · replace h1 := h1.2 c8
      refine mw_iload_n (pc' := 17) dL_lay_16 rfl rfl rfl ?_
      refine mw_aload_n (v := vR 0) (pc' := 18) dL_lay_17 rfl rfl (Or.inl rfl) rfl ?_
      refine mw_bipush (pc' := 20) dL_lay_18 rfl ⟨by decide, by decide⟩ ?_
      refine mw_bipush (pc' := 22) dL_lay_20 rfl ⟨by decide, by decide⟩ ?_
      refine mw_iload_n (pc' := 23) dL_lay_22 rfl rfl rfl ?_
      obtain ⟨o9, h1⟩ := h1
      refine mw_iadd (pc' := 24) dL_lay_23 rfl o9 ?_
      refine mw_iconst (pc' := 25) dL_lay_24 rfl ⟨by decide, by decide⟩ ?_
      refine mw_iconst (pc' := 26) dL_lay_25 rfl ⟨by decide, by decide⟩ ?_
      refine mw_callSX (M' := mL_deed) (A := [vR 0, vI 19, vI (97 + x3), vI 0, vI 0]) (S := [vI x2]) (pc' := 29) dL_lay_26 rfl (goodW 560 (by decide +kernel) rfl) kX_L_deed kS_L_deed ⟨by decide, by decide, (by show 48 ≤ bc; omega), (by show 8234 ≤ bs; omega), by decide⟩ rfl rfl (Nat.le_of_ble_eq_true rfl) (MM.mono ?_ h1)
      intro o g12 d13 h10
      rcases o with v11 | k
      · refine mw_top (fun hT => ?_)
        have hG : 65 ≤ g12.2.1 := hT.2
        show MW mL_lay (bc - 48) (bs - 8234) 29 [(0, vR 0), (1, (5, 0)), (2, vI x2), (3, vI x3)] [vI v11, vI x2] g12 d13 Q
        refine mw_aload_n (v := vR 0) (pc' := 30) dL_lay_29 rfl rfl (Or.inl rfl) rfl ?_
        refine mw_bipush (pc' := 32) dL_lay_30 rfl ⟨by decide, by decide⟩ ?_
        refine mw_iconst (pc' := 33) dL_lay_32 rfl ⟨by decide, by decide⟩ ?_
        refine mw_iconst (pc' := 34) dL_lay_33 rfl ⟨by decide, by decide⟩ ?_
        refine mw_iconst (pc' := 35) dL_lay_34 rfl ⟨by decide, by decide⟩ ?_
        refine mw_callSX (M' := mL_deed) (A := [vR 0, vI 17, vI 0, vI 0, vI 0]) (S := [vI v11, vI x2]) (pc' := 38) dL_lay_35 rfl (goodW 560 (by decide +kernel) rfl) kX_L_deed kS_L_deed ⟨by decide, by decide, (by show 48 ≤ bc - 48; omega), (by show 8234 ≤ bs - 8234; omega), by decide⟩ rfl rfl (Nat.le_of_ble_eq_true rfl) (MM.mono ?_ h10)
        intro o g16 d17 h14
        rcases o with v15 | k
        · refine mw_top (fun hT => ?_)
          have hG : 65 ≤ g16.2.1 := hT.2
          show MW mL_lay (bc - 48 - 48) (bs - 8234 - 8234) 38 [(0, vR 0), (1, (5, 0)), (2, vI x2), (3, vI x3)] [vI v15, vI v11, vI x2] g16 d17 Q
          refine mw_iaddW (pc' := 39) dL_lay_38 rfl ?_
          refine mw_iaddW (pc' := 40) dL_lay_39 rfl ?_
          refine mw_istore_n (pc' := 41) (L' := [(0, vR 0), (1, (5, 0)), (2, vI (wI (x2 + (wI (v11 + v15))))), (3, vI x3)]) dL_lay_40 rfl rfl (by decide) rfl ?_
          obtain ⟨o18, h14⟩ := h14
          refine mw_iinc (pc' := 44) (L' := [(0, vR 0), (1, (5, 0)), (2, vI (wI (x2 + (wI (v11 + v15))))), (3, vI (x3 + 1))]) dL_lay_41 rfl rfl (by decide) o18 rfl ?_
          refine mw_goto (pc' := 0) (tgt := 4) dL_lay_44 (by decide) ?_
          exact h14
        · exact mx_out rfl h14
      · exact mx_out rfl h10
  · exact mx_out rfl h1
theorem aL_lay_2 {bc bs : Nat} {x2 x3 : Int} {g : mG} {d : mD} {Q : mQ} (hb : 48 ≤ bc ∧ 8234 ≤ bs) (h : MM mL_pick [(5, 0), vI 1, vI 4] g d (fun o g21 d22 => match o with | .inl v20 => ((v20 ≤ x3) → MM mL_pick [(5, 0), vI 2, vI 4] g21 d22 (fun o g28 d29 => match o with | .inl v27 => MM mL_way [vI v27] g28 d29 (fun o g32 d33 => match o with | .inl v31 => MM mL_pick [(5, 0), vI 3, vI 31] g32 d33 (fun o g36 d37 => match o with | .inl v35 => MM mL_deed [vR 0, vI 4, vI v31, vI v35, vI 0] g36 d37 (fun o g40 d41 => match o with | .inl v39 => pL_lay_3 (bc - 48) (bs - 8234) (wI (x2 + v39)) 0 g40 d41 Q | .inr k => Q (.inr k) g40 d41) | .inr k => Q (.inr k) g36 d37) | .inr k => Q (.inr k) g32 d33) | .inr k => Q (.inr k) g28 d29)) ∧ ((¬ (v20 ≤ x3)) → (iI (10 + x3)) ∧ (MM mL_pick [(5, 0), vI (10 + x3), vI 8] g21 d22 (fun o g45 d46 => match o with | .inl v44 => (iI (20 + x3)) ∧ ((iI (30 + x3)) ∧ (MM mL_pick [(5, 0), vI (30 + x3), vI 3] g45 d46 (fun o g51 d52 => match o with | .inl v50 => MM mL_pick [(5, 0), vI (20 + x3), vI (iT (v50 = 0) 200 20)] g51 d52 (fun o g57 d58 => match o with | .inl v56 => (iI (1 + v56)) ∧ ((iI (40 + x3)) ∧ (MM mL_pick [(5, 0), vI (40 + x3), vI 2] g57 d58 (fun o g63 d64 => match o with | .inl v62 => MM mL_deed [vR 0, vI 3, vI v44, vI (1 + v56), vI v62] g63 d64 (fun o g67 d68 => match o with | .inl v66 => (iI (x3 + 1)) ∧ (pL_lay_2 (bc - 48) (bs - 8234) (wI (x2 + v66)) (x3 + 1) g67 d68 Q) | .inr k => Q (.inr k) g67 d68) | .inr k => Q (.inr k) g63 d64))) | .inr k => Q (.inr k) g57 d58) | .inr k => Q (.inr k) g51 d52))) | .inr k => Q (.inr k) g45 d46))) | .inr k => Q (.inr k) g21 d22)) : pL_lay_2 bc bs x2 x3 g d Q := by
  unfold pL_lay_2
  refine mw_top (fun hT => ?_)
  have hG : 65 ≤ g.2.1 := hT.2
  refine mw_iload_n (pc' := 50) dL_lay_49 rfl rfl rfl ?_
  refine mw_aload_n (v := (5, 0)) (pc' := 51) dL_lay_50 rfl rfl (Or.inr (Or.inl rfl)) rfl ?_
  refine mw_iconst (pc' := 52) dL_lay_51 rfl ⟨by decide, by decide⟩ ?_
  refine mw_iconst (pc' := 53) dL_lay_52 rfl ⟨by decide, by decide⟩ ?_
  refine mw_callS (M' := mL_pick) (A := [(5, 0), vI 1, vI 4]) (S := [vI x3]) (pc' := 56) dL_lay_53 rfl cl_RL_223 cm_L_pick cs_L_pick ⟨by decide, by decide, (by show 0 ≤ bc; omega), (by show 0 ≤ bs; omega), by decide⟩ rfl rfl (Nat.le_of_ble_eq_true rfl) (MM.mono ?_ h)
  intro o g21 d22 h19
  rcases o with v20 | k
  · refine mw_top (fun hT => ?_)
    have hG : 65 ≤ g21.2.1 := hT.2
    show MW mL_lay bc bs 56 [(0, vR 0), (1, (5, 0)), (2, vI x2), (3, vI x3)] [vI v20, vI x3] g21 d22 Q
    refine mw_icmp_ge (tgt := 122) (pc' := 59) dL_lay_56 rfl (by decide) (fun c25 => ?_) (fun c25 => ?_)
    · replace h19 := h19.1 c25
      refine mw_iload_n (pc' := 123) dL_lay_122 rfl rfl rfl ?_
      refine mw_aload_n (v := vR 0) (pc' := 124) dL_lay_123 rfl rfl (Or.inl rfl) rfl ?_
      refine mw_iconst (pc' := 125) dL_lay_124 rfl ⟨by decide, by decide⟩ ?_
      refine mw_aload_n (v := (5, 0)) (pc' := 126) dL_lay_125 rfl rfl (Or.inr (Or.inl rfl)) rfl ?_
      refine mw_iconst (pc' := 127) dL_lay_126 rfl ⟨by decide, by decide⟩ ?_
      refine mw_iconst (pc' := 128) dL_lay_127 rfl ⟨by decide, by decide⟩ ?_
      refine mw_callS (M' := mL_pick) (A := [(5, 0), vI 2, vI 4]) (S := [vI 4, vR 0, vI x2]) (pc' := 131) dL_lay_128 rfl cl_RL_223 cm_L_pick cs_L_pick ⟨by decide, by decide, (by show 0 ≤ bc; omega), (by show 0 ≤ bs; omega), by decide⟩ rfl rfl (Nat.le_of_ble_eq_true rfl) (MM.mono ?_ h19)
      intro o g28 d29 h26
      rcases o with v27 | k
      · refine mw_top (fun hT => ?_)
        have hG : 65 ≤ g28.2.1 := hT.2
        show MW mL_lay bc bs 131 [(0, vR 0), (1, (5, 0)), (2, vI x2), (3, vI x3)] [vI v27, vI 4, vR 0, vI x2] g28 d29 Q
        refine mw_callS (M' := mL_way) (A := [vI v27]) (S := [vI 4, vR 0, vI x2]) (pc' := 134) dL_lay_131 rfl cl_RL_227 cm_L_way cs_L_way ⟨by decide, by decide, (by show 0 ≤ bc; omega), (by show 0 ≤ bs; omega), by decide⟩ rfl rfl (Nat.le_of_ble_eq_true rfl) (MM.mono ?_ h26)
        intro o g32 d33 h30
        rcases o with v31 | k
        · refine mw_top (fun hT => ?_)
          have hG : 65 ≤ g32.2.1 := hT.2
          show MW mL_lay bc bs 134 [(0, vR 0), (1, (5, 0)), (2, vI x2), (3, vI x3)] [vI v31, vI 4, vR 0, vI x2] g32 d33 Q
          refine mw_aload_n (v := (5, 0)) (pc' := 135) dL_lay_134 rfl rfl (Or.inr (Or.inl rfl)) rfl ?_
          refine mw_iconst (pc' := 136) dL_lay_135 rfl ⟨by decide, by decide⟩ ?_
          refine mw_bipush (pc' := 138) dL_lay_136 rfl ⟨by decide, by decide⟩ ?_
          refine mw_callS (M' := mL_pick) (A := [(5, 0), vI 3, vI 31]) (S := [vI v31, vI 4, vR 0, vI x2]) (pc' := 141) dL_lay_138 rfl cl_RL_223 cm_L_pick cs_L_pick ⟨by decide, by decide, (by show 0 ≤ bc; omega), (by show 0 ≤ bs; omega), by decide⟩ rfl rfl (Nat.le_of_ble_eq_true rfl) (MM.mono ?_ h30)
          intro o g36 d37 h34
          rcases o with v35 | k
          · refine mw_top (fun hT => ?_)
            have hG : 65 ≤ g36.2.1 := hT.2
            show MW mL_lay bc bs 141 [(0, vR 0), (1, (5, 0)), (2, vI x2), (3, vI x3)] [vI v35, vI v31, vI 4, vR 0, vI x2] g36 d37 Q
            refine mw_iconst (pc' := 142) dL_lay_141 rfl ⟨by decide, by decide⟩ ?_
            refine mw_callSX (M' := mL_deed) (A := [vR 0, vI 4, vI v31, vI v35, vI 0]) (S := [vI x2]) (pc' := 145) dL_lay_142 rfl (goodW 560 (by decide +kernel) rfl) kX_L_deed kS_L_deed ⟨by decide, by decide, (by show 48 ≤ bc; omega), (by show 8234 ≤ bs; omega), by decide⟩ rfl rfl (Nat.le_of_ble_eq_true rfl) (MM.mono ?_ h34)
            intro o g40 d41 h38
            rcases o with v39 | k
            · refine mw_top (fun hT => ?_)
              have hG : 65 ≤ g40.2.1 := hT.2
              show MW mL_lay (bc - 48) (bs - 8234) 145 [(0, vR 0), (1, (5, 0)), (2, vI x2), (3, vI x3)] [vI v39, vI x2] g40 d41 Q
              refine mw_iaddW (pc' := 146) dL_lay_145 rfl ?_
              refine mw_istore_n (pc' := 147) (L' := [(0, vR 0), (1, (5, 0)), (2, vI (wI (x2 + v39))), (3, vI x3)]) dL_lay_146 rfl rfl (by decide) rfl ?_
              refine mw_iconst (pc' := 148) dL_lay_147 rfl ⟨by decide, by decide⟩ ?_
              refine mw_istore_n (pc' := 149) (L' := [(0, vR 0), (1, (5, 0)), (2, vI (wI (x2 + v39))), (3, vI 0)]) dL_lay_148 rfl rfl (by decide) rfl ?_
              exact h38
            · exact mx_out rfl h38
          · exact mx_out rfl h34
        · exact mx_out rfl h30
      · exact mx_out rfl h26
    · replace h19 := h19.2 c25
      refine mw_iload_n (pc' := 60) dL_lay_59 rfl rfl rfl ?_
      refine mw_aload_n (v := vR 0) (pc' := 61) dL_lay_60 rfl rfl (Or.inl rfl) rfl ?_
      refine mw_iconst (pc' := 62) dL_lay_61 rfl ⟨by decide, by decide⟩ ?_
      refine mw_aload_n (v := (5, 0)) (pc' := 63) dL_lay_62 rfl rfl (Or.inr (Or.inl rfl)) rfl ?_
      refine mw_bipush (pc' := 65) dL_lay_63 rfl ⟨by decide, by decide⟩ ?_
      refine mw_iload_n (pc' := 66) dL_lay_65 rfl rfl rfl ?_
      obtain ⟨o42, h19⟩ := h19
      refine mw_iadd (pc' := 67) dL_lay_66 rfl o42 ?_
      refine mw_bipush (pc' := 69) dL_lay_67 rfl ⟨by decide, by decide⟩ ?_
      refine mw_callS (M' := mL_pick) (A := [(5, 0), vI (10 + x3), vI 8]) (S := [vI 3, vR 0, vI x2]) (pc' := 72) dL_lay_69 rfl cl_RL_223 cm_L_pick cs_L_pick ⟨by decide, by decide, (by show 0 ≤ bc; omega), (by show 0 ≤ bs; omega), by decide⟩ rfl rfl (Nat.le_of_ble_eq_true rfl) (MM.mono ?_ h19)
      intro o g45 d46 h43
      rcases o with v44 | k
      · refine mw_top (fun hT => ?_)
        have hG : 65 ≤ g45.2.1 := hT.2
        show MW mL_lay bc bs 72 [(0, vR 0), (1, (5, 0)), (2, vI x2), (3, vI x3)] [vI v44, vI 3, vR 0, vI x2] g45 d46 Q
        refine mw_iconst (pc' := 73) dL_lay_72 rfl ⟨by decide, by decide⟩ ?_
        refine mw_aload_n (v := (5, 0)) (pc' := 74) dL_lay_73 rfl rfl (Or.inr (Or.inl rfl)) rfl ?_
        refine mw_bipush (pc' := 76) dL_lay_74 rfl ⟨by decide, by decide⟩ ?_
        refine mw_iload_n (pc' := 77) dL_lay_76 rfl rfl rfl ?_
        obtain ⟨o47, h43⟩ := h43
        refine mw_iadd (pc' := 78) dL_lay_77 rfl o47 ?_
        refine mw_aload_n (v := (5, 0)) (pc' := 79) dL_lay_78 rfl rfl (Or.inr (Or.inl rfl)) rfl ?_
        refine mw_bipush (pc' := 81) dL_lay_79 rfl ⟨by decide, by decide⟩ ?_
        refine mw_iload_n (pc' := 82) dL_lay_81 rfl rfl rfl ?_
        obtain ⟨o48, h43⟩ := h43
        refine mw_iadd (pc' := 83) dL_lay_82 rfl o48 ?_
        refine mw_iconst (pc' := 84) dL_lay_83 rfl ⟨by decide, by decide⟩ ?_
        refine mw_callS (M' := mL_pick) (A := [(5, 0), vI (30 + x3), vI 3]) (S := [vI (20 + x3), (5, 0), vI 1, vI v44, vI 3, vR 0, vI x2]) (pc' := 87) dL_lay_84 rfl cl_RL_223 cm_L_pick cs_L_pick ⟨by decide, by decide, (by show 0 ≤ bc; omega), (by show 0 ≤ bs; omega), by decide⟩ rfl rfl (Nat.le_of_ble_eq_true rfl) (MM.mono ?_ h43)
        intro o g51 d52 h49
        rcases o with v50 | k
        · refine mw_top (fun hT => ?_)
          have hG : 65 ≤ g51.2.1 := hT.2
          show MW mL_lay bc bs 87 [(0, vR 0), (1, (5, 0)), (2, vI x2), (3, vI x3)] [vI v50, vI (20 + x3), (5, 0), vI 1, vI v44, vI 3, vR 0, vI x2] g51 d52 Q
          suffices k53 : MW mL_lay bc bs 98 [(0, vR 0), (1, (5, 0)), (2, vI x2), (3, vI x3)] [vI (iT (v50 = 0) 200 20), vI (20 + x3), (5, 0), vI 1, vI v44, vI 3, vR 0, vI x2] g51 d52 Q by
            refine mw_if_ne (tgt := 96) (pc' := 90) dL_lay_87 rfl (by decide) (fun c54 => ?_) (fun c54 => ?_)
            · refine mw_bipush (pc' := 98) dL_lay_96 rfl ⟨by decide, by decide⟩ ?_
              exact mw_st (((iT_f c54).trans rfl)).symm k53
            · refine mw_sipush (pc' := 93) dL_lay_90 rfl ⟨by decide, by decide⟩ ?_
              refine mw_goto (pc' := 0) (tgt := 98) dL_lay_93 (by decide) ?_
              exact mw_st (((iT_t c54).trans rfl)).symm k53
          refine mw_callS (M' := mL_pick) (A := [(5, 0), vI (20 + x3), vI (iT (v50 = 0) 200 20)]) (S := [vI 1, vI v44, vI 3, vR 0, vI x2]) (pc' := 101) dL_lay_98 rfl cl_RL_223 cm_L_pick cs_L_pick ⟨by decide, by decide, (by show 0 ≤ bc; omega), (by show 0 ≤ bs; omega), by decide⟩ rfl rfl (Nat.le_of_ble_eq_true rfl) (MM.mono ?_ h49)
          intro o g57 d58 h55
          rcases o with v56 | k
          · refine mw_top (fun hT => ?_)
            have hG : 65 ≤ g57.2.1 := hT.2
            show MW mL_lay bc bs 101 [(0, vR 0), (1, (5, 0)), (2, vI x2), (3, vI x3)] [vI v56, vI 1, vI v44, vI 3, vR 0, vI x2] g57 d58 Q
            obtain ⟨o59, h55⟩ := h55
            refine mw_iadd (pc' := 102) dL_lay_101 rfl o59 ?_
            refine mw_aload_n (v := (5, 0)) (pc' := 103) dL_lay_102 rfl rfl (Or.inr (Or.inl rfl)) rfl ?_
            refine mw_bipush (pc' := 105) dL_lay_103 rfl ⟨by decide, by decide⟩ ?_
            refine mw_iload_n (pc' := 106) dL_lay_105 rfl rfl rfl ?_
            obtain ⟨o60, h55⟩ := h55
            refine mw_iadd (pc' := 107) dL_lay_106 rfl o60 ?_
            refine mw_iconst (pc' := 108) dL_lay_107 rfl ⟨by decide, by decide⟩ ?_
            refine mw_callS (M' := mL_pick) (A := [(5, 0), vI (40 + x3), vI 2]) (S := [vI (1 + v56), vI v44, vI 3, vR 0, vI x2]) (pc' := 111) dL_lay_108 rfl cl_RL_223 cm_L_pick cs_L_pick ⟨by decide, by decide, (by show 0 ≤ bc; omega), (by show 0 ≤ bs; omega), by decide⟩ rfl rfl (Nat.le_of_ble_eq_true rfl) (MM.mono ?_ h55)
            intro o g63 d64 h61
            rcases o with v62 | k
            · refine mw_top (fun hT => ?_)
              have hG : 65 ≤ g63.2.1 := hT.2
              show MW mL_lay bc bs 111 [(0, vR 0), (1, (5, 0)), (2, vI x2), (3, vI x3)] [vI v62, vI (1 + v56), vI v44, vI 3, vR 0, vI x2] g63 d64 Q
              refine mw_callSX (M' := mL_deed) (A := [vR 0, vI 3, vI v44, vI (1 + v56), vI v62]) (S := [vI x2]) (pc' := 114) dL_lay_111 rfl (goodW 560 (by decide +kernel) rfl) kX_L_deed kS_L_deed ⟨by decide, by decide, (by show 48 ≤ bc; omega), (by show 8234 ≤ bs; omega), by decide⟩ rfl rfl (Nat.le_of_ble_eq_true rfl) (MM.mono ?_ h61)
              intro o g67 d68 h65
              rcases o with v66 | k
              · refine mw_top (fun hT => ?_)
                have hG : 65 ≤ g67.2.1 := hT.2
                show MW mL_lay (bc - 48) (bs - 8234) 114 [(0, vR 0), (1, (5, 0)), (2, vI x2), (3, vI x3)] [vI v66, vI x2] g67 d68 Q
                refine mw_iaddW (pc' := 115) dL_lay_114 rfl ?_
                refine mw_istore_n (pc' := 116) (L' := [(0, vR 0), (1, (5, 0)), (2, vI (wI (x2 + v66))), (3, vI x3)]) dL_lay_115 rfl rfl (by decide) rfl ?_
                obtain ⟨o69, h65⟩ := h65
                refine mw_iinc (pc' := 119) (L' := [(0, vR 0), (1, (5, 0)), (2, vI (wI (x2 + v66))), (3, vI (x3 + 1))]) dL_lay_116 rfl rfl (by decide) o69 rfl ?_
                refine mw_goto (pc' := 0) (tgt := 49) dL_lay_119 (by decide) ?_
                exact h65
              · exact mx_out rfl h65
            · exact mx_out rfl h61
          · exact mx_out rfl h55
        · exact mx_out rfl h49
      · exact mx_out rfl h43
  · exact mx_out rfl h19
theorem aL_lay_3 {bc bs : Nat} {x2 x3 : Int} {g : mG} {d : mD} {Q : mQ} (hb : 48 ≤ bc ∧ 8234 ≤ bs) (h : MM mL_pick [(5, 0), vI 4, vI 9] g d (fun o g72 d73 => match o with | .inl v71 => ((v71 ≤ x3) → pL_lay_4 bc bs x2 0 g72 d73 Q) ∧ ((¬ (v71 ≤ x3)) → (iI (50 + x3)) ∧ (MM mL_pick [(5, 0), vI (50 + x3), vI 60] g72 d73 (fun o g80 d81 => match o with | .inl v79 => MM mL_deed [vR 0, vI 1, vI v79, vI 0, vI 0] g80 d81 (fun o g84 d85 => match o with | .inl v83 => (iI (x3 + 1)) ∧ (pL_lay_3 (bc - 48) (bs - 8234) (wI (x2 + v83)) (x3 + 1) g84 d85 Q) | .inr k => Q (.inr k) g84 d85) | .inr k => Q (.inr k) g80 d81))) | .inr k => Q (.inr k) g72 d73)) : pL_lay_3 bc bs x2 x3 g d Q := by
  unfold pL_lay_3
  refine mw_top (fun hT => ?_)
  have hG : 65 ≤ g.2.1 := hT.2
  refine mw_iload_n (pc' := 150) dL_lay_149 rfl rfl rfl ?_
  refine mw_aload_n (v := (5, 0)) (pc' := 151) dL_lay_150 rfl rfl (Or.inr (Or.inl rfl)) rfl ?_
  refine mw_iconst (pc' := 152) dL_lay_151 rfl ⟨by decide, by decide⟩ ?_
  refine mw_bipush (pc' := 154) dL_lay_152 rfl ⟨by decide, by decide⟩ ?_
  refine mw_callS (M' := mL_pick) (A := [(5, 0), vI 4, vI 9]) (S := [vI x3]) (pc' := 157) dL_lay_154 rfl cl_RL_223 cm_L_pick cs_L_pick ⟨by decide, by decide, (by show 0 ≤ bc; omega), (by show 0 ≤ bs; omega), by decide⟩ rfl rfl (Nat.le_of_ble_eq_true rfl) (MM.mono ?_ h)
  intro o g72 d73 h70
  rcases o with v71 | k
  · refine mw_top (fun hT => ?_)
    have hG : 65 ≤ g72.2.1 := hT.2
    show MW mL_lay bc bs 157 [(0, vR 0), (1, (5, 0)), (2, vI x2), (3, vI x3)] [vI v71, vI x3] g72 d73 Q
    refine mw_icmp_ge (tgt := 186) (pc' := 160) dL_lay_157 rfl (by decide) (fun c76 => ?_) (fun c76 => ?_)
    · replace h70 := h70.1 c76
      refine mw_iconst (pc' := 187) dL_lay_186 rfl ⟨by decide, by decide⟩ ?_
      refine mw_istore_n (pc' := 188) (L' := [(0, vR 0), (1, (5, 0)), (2, vI x2), (3, vI 0)]) dL_lay_187 rfl rfl (by decide) rfl ?_
      exact h70
    · replace h70 := h70.2 c76
      refine mw_iload_n (pc' := 161) dL_lay_160 rfl rfl rfl ?_
      refine mw_aload_n (v := vR 0) (pc' := 162) dL_lay_161 rfl rfl (Or.inl rfl) rfl ?_
      refine mw_iconst (pc' := 163) dL_lay_162 rfl ⟨by decide, by decide⟩ ?_
      refine mw_aload_n (v := (5, 0)) (pc' := 164) dL_lay_163 rfl rfl (Or.inr (Or.inl rfl)) rfl ?_
      refine mw_bipush (pc' := 166) dL_lay_164 rfl ⟨by decide, by decide⟩ ?_
      refine mw_iload_n (pc' := 167) dL_lay_166 rfl rfl rfl ?_
      obtain ⟨o77, h70⟩ := h70
      refine mw_iadd (pc' := 168) dL_lay_167 rfl o77 ?_
      refine mw_bipush (pc' := 170) dL_lay_168 rfl ⟨by decide, by decide⟩ ?_
      refine mw_callS (M' := mL_pick) (A := [(5, 0), vI (50 + x3), vI 60]) (S := [vI 1, vR 0, vI x2]) (pc' := 173) dL_lay_170 rfl cl_RL_223 cm_L_pick cs_L_pick ⟨by decide, by decide, (by show 0 ≤ bc; omega), (by show 0 ≤ bs; omega), by decide⟩ rfl rfl (Nat.le_of_ble_eq_true rfl) (MM.mono ?_ h70)
      intro o g80 d81 h78
      rcases o with v79 | k
      · refine mw_top (fun hT => ?_)
        have hG : 65 ≤ g80.2.1 := hT.2
        show MW mL_lay bc bs 173 [(0, vR 0), (1, (5, 0)), (2, vI x2), (3, vI x3)] [vI v79, vI 1, vR 0, vI x2] g80 d81 Q
        refine mw_iconst (pc' := 174) dL_lay_173 rfl ⟨by decide, by decide⟩ ?_
        refine mw_iconst (pc' := 175) dL_lay_174 rfl ⟨by decide, by decide⟩ ?_
        refine mw_callSX (M' := mL_deed) (A := [vR 0, vI 1, vI v79, vI 0, vI 0]) (S := [vI x2]) (pc' := 178) dL_lay_175 rfl (goodW 560 (by decide +kernel) rfl) kX_L_deed kS_L_deed ⟨by decide, by decide, (by show 48 ≤ bc; omega), (by show 8234 ≤ bs; omega), by decide⟩ rfl rfl (Nat.le_of_ble_eq_true rfl) (MM.mono ?_ h78)
        intro o g84 d85 h82
        rcases o with v83 | k
        · refine mw_top (fun hT => ?_)
          have hG : 65 ≤ g84.2.1 := hT.2
          show MW mL_lay (bc - 48) (bs - 8234) 178 [(0, vR 0), (1, (5, 0)), (2, vI x2), (3, vI x3)] [vI v83, vI x2] g84 d85 Q
          refine mw_iaddW (pc' := 179) dL_lay_178 rfl ?_
          refine mw_istore_n (pc' := 180) (L' := [(0, vR 0), (1, (5, 0)), (2, vI (wI (x2 + v83))), (3, vI x3)]) dL_lay_179 rfl rfl (by decide) rfl ?_
          obtain ⟨o86, h82⟩ := h82
          refine mw_iinc (pc' := 183) (L' := [(0, vR 0), (1, (5, 0)), (2, vI (wI (x2 + v83))), (3, vI (x3 + 1))]) dL_lay_180 rfl rfl (by decide) o86 rfl ?_
          refine mw_goto (pc' := 0) (tgt := 149) dL_lay_183 (by decide) ?_
          exact h82
        · exact mx_out rfl h82
      · exact mx_out rfl h78
  · exact mx_out rfl h70
theorem aL_lay_4 {bc bs : Nat} {x2 x3 : Int} {g : mG} {d : mD} {Q : mQ} (hb : 48 ≤ bc ∧ 8234 ≤ bs) (h : MM mL_pick [(5, 0), vI 5, vI 6] g d (fun o g89 d90 => match o with | .inl v88 => ((v88 ≤ x3) → Q (.inl 0) g89 d90) ∧ ((¬ (v88 ≤ x3)) → (iI (60 + x3)) ∧ (MM mL_pick [(5, 0), vI (60 + x3), vI 2] g89 d90 (fun o g97 d98 => match o with | .inl v96 => (iI (70 + x3)) ∧ (MM mL_pick [(5, 0), vI (70 + x3), vI 8] g97 d98 (fun o g102 d103 => match o with | .inl v101 => (iI (80 + x3)) ∧ (MM mL_pick [(5, 0), vI (80 + x3), vI 4] g102 d103 (fun o g107 d108 => match o with | .inl v106 => MM mL_way [vI v106] g107 d108 (fun o g111 d112 => match o with | .inl v110 => MM mL_deed [vR 0, vI 5, vI v96, vI v101, vI v110] g111 d112 (fun o g115 d116 => match o with | .inl v114 => (iI (x3 + 1)) ∧ (pL_lay_4 (bc - 48) (bs - 8234) (wI (x2 + v114)) (x3 + 1) g115 d116 Q) | .inr k => Q (.inr k) g115 d116) | .inr k => Q (.inr k) g111 d112) | .inr k => Q (.inr k) g107 d108)) | .inr k => Q (.inr k) g102 d103)) | .inr k => Q (.inr k) g97 d98))) | .inr k => Q (.inr k) g89 d90)) : pL_lay_4 bc bs x2 x3 g d Q := by
  unfold pL_lay_4
  refine mw_top (fun hT => ?_)
  have hG : 65 ≤ g.2.1 := hT.2
  refine mw_iload_n (pc' := 189) dL_lay_188 rfl rfl rfl ?_
  refine mw_aload_n (v := (5, 0)) (pc' := 190) dL_lay_189 rfl rfl (Or.inr (Or.inl rfl)) rfl ?_
  refine mw_iconst (pc' := 191) dL_lay_190 rfl ⟨by decide, by decide⟩ ?_
  refine mw_bipush (pc' := 193) dL_lay_191 rfl ⟨by decide, by decide⟩ ?_
  refine mw_callS (M' := mL_pick) (A := [(5, 0), vI 5, vI 6]) (S := [vI x3]) (pc' := 196) dL_lay_193 rfl cl_RL_223 cm_L_pick cs_L_pick ⟨by decide, by decide, (by show 0 ≤ bc; omega), (by show 0 ≤ bs; omega), by decide⟩ rfl rfl (Nat.le_of_ble_eq_true rfl) (MM.mono ?_ h)
  intro o g89 d90 h87
  rcases o with v88 | k
  · refine mw_top (fun hT => ?_)
    have hG : 65 ≤ g89.2.1 := hT.2
    show MW mL_lay bc bs 196 [(0, vR 0), (1, (5, 0)), (2, vI x2), (3, vI x3)] [vI v88, vI x3] g89 d90 Q
    refine mw_icmp_ge (tgt := 244) (pc' := 199) dL_lay_196 rfl (by decide) (fun c93 => ?_) (fun c93 => ?_)
    · replace h87 := h87.1 c93
      exact mw_vret (pc' := 0) (S := []) dL_lay_244 rfl h87
    · replace h87 := h87.2 c93
      refine mw_iload_n (pc' := 200) dL_lay_199 rfl rfl rfl ?_
      refine mw_aload_n (v := vR 0) (pc' := 201) dL_lay_200 rfl rfl (Or.inl rfl) rfl ?_
      refine mw_iconst (pc' := 202) dL_lay_201 rfl ⟨by decide, by decide⟩ ?_
      refine mw_aload_n (v := (5, 0)) (pc' := 203) dL_lay_202 rfl rfl (Or.inr (Or.inl rfl)) rfl ?_
      refine mw_bipush (pc' := 205) dL_lay_203 rfl ⟨by decide, by decide⟩ ?_
      refine mw_iload_n (pc' := 206) dL_lay_205 rfl rfl rfl ?_
      obtain ⟨o94, h87⟩ := h87
      refine mw_iadd (pc' := 207) dL_lay_206 rfl o94 ?_
      refine mw_iconst (pc' := 208) dL_lay_207 rfl ⟨by decide, by decide⟩ ?_
      refine mw_callS (M' := mL_pick) (A := [(5, 0), vI (60 + x3), vI 2]) (S := [vI 5, vR 0, vI x2]) (pc' := 211) dL_lay_208 rfl cl_RL_223 cm_L_pick cs_L_pick ⟨by decide, by decide, (by show 0 ≤ bc; omega), (by show 0 ≤ bs; omega), by decide⟩ rfl rfl (Nat.le_of_ble_eq_true rfl) (MM.mono ?_ h87)
      intro o g97 d98 h95
      rcases o with v96 | k
      · refine mw_top (fun hT => ?_)
        have hG : 65 ≤ g97.2.1 := hT.2
        show MW mL_lay bc bs 211 [(0, vR 0), (1, (5, 0)), (2, vI x2), (3, vI x3)] [vI v96, vI 5, vR 0, vI x2] g97 d98 Q
        refine mw_aload_n (v := (5, 0)) (pc' := 212) dL_lay_211 rfl rfl (Or.inr (Or.inl rfl)) rfl ?_
        refine mw_bipush (pc' := 214) dL_lay_212 rfl ⟨by decide, by decide⟩ ?_
        refine mw_iload_n (pc' := 215) dL_lay_214 rfl rfl rfl ?_
        obtain ⟨o99, h95⟩ := h95
        refine mw_iadd (pc' := 216) dL_lay_215 rfl o99 ?_
        refine mw_bipush (pc' := 218) dL_lay_216 rfl ⟨by decide, by decide⟩ ?_
        refine mw_callS (M' := mL_pick) (A := [(5, 0), vI (70 + x3), vI 8]) (S := [vI v96, vI 5, vR 0, vI x2]) (pc' := 221) dL_lay_218 rfl cl_RL_223 cm_L_pick cs_L_pick ⟨by decide, by decide, (by show 0 ≤ bc; omega), (by show 0 ≤ bs; omega), by decide⟩ rfl rfl (Nat.le_of_ble_eq_true rfl) (MM.mono ?_ h95)
        intro o g102 d103 h100
        rcases o with v101 | k
        · refine mw_top (fun hT => ?_)
          have hG : 65 ≤ g102.2.1 := hT.2
          show MW mL_lay bc bs 221 [(0, vR 0), (1, (5, 0)), (2, vI x2), (3, vI x3)] [vI v101, vI v96, vI 5, vR 0, vI x2] g102 d103 Q
          refine mw_aload_n (v := (5, 0)) (pc' := 222) dL_lay_221 rfl rfl (Or.inr (Or.inl rfl)) rfl ?_
          refine mw_bipush (pc' := 224) dL_lay_222 rfl ⟨by decide, by decide⟩ ?_
          refine mw_iload_n (pc' := 225) dL_lay_224 rfl rfl rfl ?_
          obtain ⟨o104, h100⟩ := h100
          refine mw_iadd (pc' := 226) dL_lay_225 rfl o104 ?_
          refine mw_iconst (pc' := 227) dL_lay_226 rfl ⟨by decide, by decide⟩ ?_
          refine mw_callS (M' := mL_pick) (A := [(5, 0), vI (80 + x3), vI 4]) (S := [vI v101, vI v96, vI 5, vR 0, vI x2]) (pc' := 230) dL_lay_227 rfl cl_RL_223 cm_L_pick cs_L_pick ⟨by decide, by decide, (by show 0 ≤ bc; omega), (by show 0 ≤ bs; omega), by decide⟩ rfl rfl (Nat.le_of_ble_eq_true rfl) (MM.mono ?_ h100)
          intro o g107 d108 h105
          rcases o with v106 | k
          · refine mw_top (fun hT => ?_)
            have hG : 65 ≤ g107.2.1 := hT.2
            show MW mL_lay bc bs 230 [(0, vR 0), (1, (5, 0)), (2, vI x2), (3, vI x3)] [vI v106, vI v101, vI v96, vI 5, vR 0, vI x2] g107 d108 Q
            refine mw_callS (M' := mL_way) (A := [vI v106]) (S := [vI v101, vI v96, vI 5, vR 0, vI x2]) (pc' := 233) dL_lay_230 rfl cl_RL_227 cm_L_way cs_L_way ⟨by decide, by decide, (by show 0 ≤ bc; omega), (by show 0 ≤ bs; omega), by decide⟩ rfl rfl (Nat.le_of_ble_eq_true rfl) (MM.mono ?_ h105)
            intro o g111 d112 h109
            rcases o with v110 | k
            · refine mw_top (fun hT => ?_)
              have hG : 65 ≤ g111.2.1 := hT.2
              show MW mL_lay bc bs 233 [(0, vR 0), (1, (5, 0)), (2, vI x2), (3, vI x3)] [vI v110, vI v101, vI v96, vI 5, vR 0, vI x2] g111 d112 Q
              refine mw_callSX (M' := mL_deed) (A := [vR 0, vI 5, vI v96, vI v101, vI v110]) (S := [vI x2]) (pc' := 236) dL_lay_233 rfl (goodW 560 (by decide +kernel) rfl) kX_L_deed kS_L_deed ⟨by decide, by decide, (by show 48 ≤ bc; omega), (by show 8234 ≤ bs; omega), by decide⟩ rfl rfl (Nat.le_of_ble_eq_true rfl) (MM.mono ?_ h109)
              intro o g115 d116 h113
              rcases o with v114 | k
              · refine mw_top (fun hT => ?_)
                have hG : 65 ≤ g115.2.1 := hT.2
                show MW mL_lay (bc - 48) (bs - 8234) 236 [(0, vR 0), (1, (5, 0)), (2, vI x2), (3, vI x3)] [vI v114, vI x2] g115 d116 Q
                refine mw_iaddW (pc' := 237) dL_lay_236 rfl ?_
                refine mw_istore_n (pc' := 238) (L' := [(0, vR 0), (1, (5, 0)), (2, vI (wI (x2 + v114))), (3, vI x3)]) dL_lay_237 rfl rfl (by decide) rfl ?_
                obtain ⟨o117, h113⟩ := h113
                refine mw_iinc (pc' := 241) (L' := [(0, vR 0), (1, (5, 0)), (2, vI (wI (x2 + v114))), (3, vI (x3 + 1))]) dL_lay_238 rfl rfl (by decide) o117 rfl ?_
                refine mw_goto (pc' := 0) (tgt := 188) dL_lay_241 (by decide) ?_
                exact h113
              · exact mx_out rfl h113
            · exact mx_out rfl h109
          · exact mx_out rfl h105
        · exact mx_out rfl h100
      · exact mx_out rfl h95
  · exact mx_out rfl h87
theorem eL_any {x2 : Int} {g : mG} {d : mD} {Q : mQ} (h : MM mX11_deadlines [vR 0] g d (fun o g3 d4 => match o with | .inl v2 => (iI (v2 + 1)) ∧ (MM mL_pick [(5, 0), vI x2, vI 22] g3 d4 (fun o g8 d9 => match o with | .inl v7 => ((v7 = 0) → (iI (x2 + 1)) ∧ (MM mL_pick [(5, 0), vI (x2 + 1), vI 3] g8 d9 (fun o g14 d15 => match o with | .inl v13 => (iI (x2 + 2)) ∧ (MM mL_pick [(5, 0), vI (x2 + 2), vI 8] g14 d15 (fun o g19 d20 => match o with | .inl v18 => (iI (x2 + 3)) ∧ (MM mL_pick [(5, 0), vI (x2 + 3), vI 4] g19 d20 (fun o g24 d25 => match o with | .inl v23 => MM mL_way [vI v23] g24 d25 (fun o g28 d29 => match o with | .inl v27 => MM mL_deed [vR 0, vI 5, vI v13, vI v18, vI v27] g28 d29 (fun o g32 d33 => match o with | .inl v31 => Q (.inl v31) g32 d33 | .inr k => Q (.inr k) g32 d33) | .inr k => Q (.inr k) g28 d29) | .inr k => Q (.inr k) g24 d25)) | .inr k => Q (.inr k) g19 d20)) | .inr k => Q (.inr k) g14 d15))) ∧ ((¬ (v7 = 0)) → ((v7 = 1) → (iI (x2 + 1)) ∧ (MM mL_pick [(5, 0), vI (x2 + 1), vI 3] g8 d9 (fun o g38 d39 => match o with | .inl v37 => (iI (x2 + 2)) ∧ (MM mL_pick [(5, 0), vI (x2 + 2), vI 8] g38 d39 (fun o g43 d44 => match o with | .inl v42 => (iI (x2 + 3)) ∧ (MM mL_pick [(5, 0), vI (x2 + 3), vI 4] g43 d44 (fun o g48 d49 => match o with | .inl v47 => MM mL_way [vI v47] g48 d49 (fun o g52 d53 => match o with | .inl v51 => MM mL_deed [vR 0, vI 5, vI v37, vI v42, vI v51] g52 d53 (fun o g56 d57 => match o with | .inl v55 => Q (.inl v55) g56 d57 | .inr k => Q (.inr k) g56 d57) | .inr k => Q (.inr k) g52 d53) | .inr k => Q (.inr k) g48 d49)) | .inr k => Q (.inr k) g43 d44)) | .inr k => Q (.inr k) g38 d39))) ∧ ((¬ (v7 = 1)) → ((v7 = 2) → (iI (x2 + 1)) ∧ (MM mL_pick [(5, 0), vI (x2 + 1), vI 3] g8 d9 (fun o g62 d63 => match o with | .inl v61 => (iI (x2 + 2)) ∧ (MM mL_pick [(5, 0), vI (x2 + 2), vI 8] g62 d63 (fun o g67 d68 => match o with | .inl v66 => (iI (x2 + 3)) ∧ (MM mL_pick [(5, 0), vI (x2 + 3), vI 4] g67 d68 (fun o g72 d73 => match o with | .inl v71 => MM mL_way [vI v71] g72 d73 (fun o g76 d77 => match o with | .inl v75 => MM mL_deed [vR 0, vI 5, vI v61, vI v66, vI v75] g76 d77 (fun o g80 d81 => match o with | .inl v79 => Q (.inl v79) g80 d81 | .inr k => Q (.inr k) g80 d81) | .inr k => Q (.inr k) g76 d77) | .inr k => Q (.inr k) g72 d73)) | .inr k => Q (.inr k) g67 d68)) | .inr k => Q (.inr k) g62 d63))) ∧ ((¬ (v7 = 2)) → ((v7 = 3) → (iI (x2 + 1)) ∧ (MM mL_pick [(5, 0), vI (x2 + 1), vI 3] g8 d9 (fun o g86 d87 => match o with | .inl v85 => (iI (x2 + 2)) ∧ (MM mL_pick [(5, 0), vI (x2 + 2), vI 8] g86 d87 (fun o g91 d92 => match o with | .inl v90 => (iI (x2 + 3)) ∧ (MM mL_pick [(5, 0), vI (x2 + 3), vI 4] g91 d92 (fun o g96 d97 => match o with | .inl v95 => MM mL_way [vI v95] g96 d97 (fun o g100 d101 => match o with | .inl v99 => MM mL_deed [vR 0, vI 5, vI v85, vI v90, vI v99] g100 d101 (fun o g104 d105 => match o with | .inl v103 => Q (.inl v103) g104 d105 | .inr k => Q (.inr k) g104 d105) | .inr k => Q (.inr k) g100 d101) | .inr k => Q (.inr k) g96 d97)) | .inr k => Q (.inr k) g91 d92)) | .inr k => Q (.inr k) g86 d87))) ∧ ((¬ (v7 = 3)) → ((v7 = 4) → (iI (x2 + 1)) ∧ ((iI (x2 + 2)) ∧ (MM mL_pick [(5, 0), vI (x2 + 2), vI 4] g8 d9 (fun o g111 d112 => match o with | .inl v110 => MM mL_pick [(5, 0), vI (x2 + 1), vI (iT (v110 = 0) 200 12)] g111 d112 (fun o g117 d118 => match o with | .inl v116 => (iI (1 + v116)) ∧ (MM mL_deed [vR 0, vI 0, vI (1 + v116), vI 0, vI 0] g117 d118 (fun o g122 d123 => match o with | .inl v121 => Q (.inl v121) g122 d123 | .inr k => Q (.inr k) g122 d123)) | .inr k => Q (.inr k) g117 d118) | .inr k => Q (.inr k) g111 d112)))) ∧ ((¬ (v7 = 4)) → ((v7 = 5) → (iI (x2 + 1)) ∧ ((iI (x2 + 2)) ∧ (MM mL_pick [(5, 0), vI (x2 + 2), vI 4] g8 d9 (fun o g129 d130 => match o with | .inl v128 => MM mL_pick [(5, 0), vI (x2 + 1), vI (iT (v128 = 0) 200 12)] g129 d130 (fun o g135 d136 => match o with | .inl v134 => (iI (1 + v134)) ∧ (MM mL_deed [vR 0, vI 0, vI (1 + v134), vI 0, vI 0] g135 d136 (fun o g140 d141 => match o with | .inl v139 => Q (.inl v139) g140 d141 | .inr k => Q (.inr k) g140 d141)) | .inr k => Q (.inr k) g135 d136) | .inr k => Q (.inr k) g129 d130)))) ∧ ((¬ (v7 = 5)) → ((v7 = 6) → (iI (x2 + 1)) ∧ ((iI (x2 + 2)) ∧ (MM mL_pick [(5, 0), vI (x2 + 2), vI 4] g8 d9 (fun o g147 d148 => match o with | .inl v146 => MM mL_pick [(5, 0), vI (x2 + 1), vI (iT (v146 = 0) 200 12)] g147 d148 (fun o g153 d154 => match o with | .inl v152 => (iI (1 + v152)) ∧ (MM mL_deed [vR 0, vI 0, vI (1 + v152), vI 0, vI 0] g153 d154 (fun o g158 d159 => match o with | .inl v157 => Q (.inl v157) g158 d159 | .inr k => Q (.inr k) g158 d159)) | .inr k => Q (.inr k) g153 d154) | .inr k => Q (.inr k) g147 d148)))) ∧ ((¬ (v7 = 6)) → ((v7 = 7) → (iI (x2 + 1)) ∧ (MM mL_pick [(5, 0), vI (x2 + 1), vI (v2 + 1)] g8 d9 (fun o g164 d165 => match o with | .inl v163 => (iI (x2 + 2)) ∧ (MM mL_pick [(5, 0), vI (x2 + 2), vI 28] g164 d165 (fun o g169 d170 => match o with | .inl v168 => (iI (1 + v168)) ∧ (MM mL_deed [vR 0, vI 6, vI v163, vI (1 + v168), vI 0] g169 d170 (fun o g174 d175 => match o with | .inl v173 => Q (.inl v173) g174 d175 | .inr k => Q (.inr k) g174 d175)) | .inr k => Q (.inr k) g169 d170)) | .inr k => Q (.inr k) g164 d165))) ∧ ((¬ (v7 = 7)) → ((v7 = 8) → (iI (x2 + 1)) ∧ (MM mL_pick [(5, 0), vI (x2 + 1), vI (v2 + 1)] g8 d9 (fun o g180 d181 => match o with | .inl v179 => (iI (x2 + 2)) ∧ (MM mL_pick [(5, 0), vI (x2 + 2), vI 100] g180 d181 (fun o g185 d186 => match o with | .inl v184 => (iI (1 + v184)) ∧ (MM mL_deed [vR 0, vI 7, vI v179, vI (1 + v184), vI 0] g185 d186 (fun o g190 d191 => match o with | .inl v189 => Q (.inl v189) g190 d191 | .inr k => Q (.inr k) g190 d191)) | .inr k => Q (.inr k) g185 d186)) | .inr k => Q (.inr k) g180 d181))) ∧ ((¬ (v7 = 8)) → ((v7 = 9) → (iI (x2 + 1)) ∧ (MM mL_pick [(5, 0), vI (x2 + 1), vI (v2 + 1)] g8 d9 (fun o g196 d197 => match o with | .inl v195 => MM mL_deed [vR 0, vI 8, vI v195, vI 0, vI 0] g196 d197 (fun o g200 d201 => match o with | .inl v199 => Q (.inl v199) g200 d201 | .inr k => Q (.inr k) g200 d201) | .inr k => Q (.inr k) g196 d197))) ∧ ((¬ (v7 = 9)) → ((v7 = 10) → (iI (x2 + 1)) ∧ (MM mL_pick [(5, 0), vI (x2 + 1), vI (v2 + 1)] g8 d9 (fun o g206 d207 => match o with | .inl v205 => MM mL_deed [vR 0, vI 9, vI v205, vI 0, vI 0] g206 d207 (fun o g210 d211 => match o with | .inl v209 => Q (.inl v209) g210 d211 | .inr k => Q (.inr k) g210 d211) | .inr k => Q (.inr k) g206 d207))) ∧ ((¬ (v7 = 10)) → ((v7 = 11) → (iI (x2 + 1)) ∧ (MM mL_pick [(5, 0), vI (x2 + 1), vI 3] g8 d9 (fun o g216 d217 => match o with | .inl v215 => (iI (x2 + 2)) ∧ (MM mL_pick [(5, 0), vI (x2 + 2), vI 255] g216 d217 (fun o g221 d222 => match o with | .inl v220 => (iI (1 + v220)) ∧ (MM mL_deed [vR 0, vI 10, vI v215, vI (1 + v220), vI 0] g221 d222 (fun o g226 d227 => match o with | .inl v225 => Q (.inl v225) g226 d227 | .inr k => Q (.inr k) g226 d227)) | .inr k => Q (.inr k) g221 d222)) | .inr k => Q (.inr k) g216 d217))) ∧ ((¬ (v7 = 11)) → ((v7 = 12) → (iI (x2 + 1)) ∧ (MM mL_pick [(5, 0), vI (x2 + 1), vI 3] g8 d9 (fun o g232 d233 => match o with | .inl v231 => (iI (x2 + 2)) ∧ (MM mL_pick [(5, 0), vI (x2 + 2), vI 255] g232 d233 (fun o g237 d238 => match o with | .inl v236 => (iI (1 + v236)) ∧ (MM mL_deed [vR 0, vI 10, vI v231, vI (1 + v236), vI 0] g237 d238 (fun o g242 d243 => match o with | .inl v241 => Q (.inl v241) g242 d243 | .inr k => Q (.inr k) g242 d243)) | .inr k => Q (.inr k) g237 d238)) | .inr k => Q (.inr k) g232 d233))) ∧ ((¬ (v7 = 12)) → ((v7 = 13) → (iI (x2 + 1)) ∧ (MM mL_pick [(5, 0), vI (x2 + 1), vI 255] g8 d9 (fun o g248 d249 => match o with | .inl v247 => (iI (1 + v247)) ∧ (MM mL_deed [vR 0, vI 11, vI (1 + v247), vI 0, vI 0] g248 d249 (fun o g253 d254 => match o with | .inl v252 => Q (.inl v252) g253 d254 | .inr k => Q (.inr k) g253 d254)) | .inr k => Q (.inr k) g248 d249))) ∧ ((¬ (v7 = 13)) → ((v7 = 14) → (iI (x2 + 1)) ∧ (MM mL_pick [(5, 0), vI (x2 + 1), vI 6] g8 d9 (fun o g259 d260 => match o with | .inl v258 => MM mL_deed [vR 0, vI 12, vI v258, vI 0, vI 0] g259 d260 (fun o g263 d264 => match o with | .inl v262 => Q (.inl v262) g263 d264 | .inr k => Q (.inr k) g263 d264) | .inr k => Q (.inr k) g259 d260))) ∧ ((¬ (v7 = 14)) → ((v7 = 15) → (iI (x2 + 1)) ∧ (MM mL_pick [(5, 0), vI (x2 + 1), vI 6] g8 d9 (fun o g269 d270 => match o with | .inl v268 => MM mL_deed [vR 0, vI 12, vI v268, vI 0, vI 0] g269 d270 (fun o g273 d274 => match o with | .inl v272 => Q (.inl v272) g273 d274 | .inr k => Q (.inr k) g273 d274) | .inr k => Q (.inr k) g269 d270))) ∧ ((¬ (v7 = 15)) → ((v7 = 16) → (iI (x2 + 1)) ∧ (MM mL_pick [(5, 0), vI (x2 + 1), vI 6] g8 d9 (fun o g279 d280 => match o with | .inl v278 => MM mL_deed [vR 0, vI 12, vI v278, vI 0, vI 0] g279 d280 (fun o g283 d284 => match o with | .inl v282 => Q (.inl v282) g283 d284 | .inr k => Q (.inr k) g283 d284) | .inr k => Q (.inr k) g279 d280))) ∧ ((¬ (v7 = 16)) → ((v7 = 17) → MM mX11_today [vR 0] g8 d9 (fun o g288 d289 => match o with | .inl v287 => (iI (x2 + 1)) ∧ (MM mL_pick [(5, 0), vI (x2 + 1), vI 40] g288 d289 (fun o g293 d294 => match o with | .inl v292 => (iI (v287 + v292)) ∧ (MM mL_deed [vR 0, vI 1, vI (v287 + v292), vI 0, vI 0] g293 d294 (fun o g298 d299 => match o with | .inl v297 => Q (.inl v297) g298 d299 | .inr k => Q (.inr k) g298 d299)) | .inr k => Q (.inr k) g293 d294)) | .inr k => Q (.inr k) g288 d289)) ∧ ((¬ (v7 = 17)) → ((v7 = 18) → (iI (x2 + 1)) ∧ (MM mX11_today [vR 0] g8 d9 (fun o g304 d305 => match o with | .inl v303 => (iI (1 + v303)) ∧ (MM mL_pick [(5, 0), vI (x2 + 1), vI (1 + v303)] g304 d305 (fun o g309 d310 => match o with | .inl v308 => (iI (x2 + 2)) ∧ (MM mL_pick [(5, 0), vI (x2 + 2), vI 8] g309 d310 (fun o g314 d315 => match o with | .inl v313 => MM mL_deed [vR 0, vI 13, vI v308, vI v313, vI 0] g314 d315 (fun o g318 d319 => match o with | .inl v317 => Q (.inl v317) g318 d319 | .inr k => Q (.inr k) g318 d319) | .inr k => Q (.inr k) g314 d315)) | .inr k => Q (.inr k) g309 d310)) | .inr k => Q (.inr k) g304 d305))) ∧ ((¬ (v7 = 18)) → ((v7 = 19) → (iI (x2 + 1)) ∧ (MM mL_pick [(5, 0), vI (x2 + 1), vI 5] g8 d9 (fun o g324 d325 => match o with | .inl v323 => (iI (x2 + 2)) ∧ (MM mL_pick [(5, 0), vI (x2 + 2), vI 5] g324 d325 (fun o g329 d330 => match o with | .inl v328 => MM mL_deed [vR 0, vI 14, vI v323, vI v328, vI 0] g329 d330 (fun o g333 d334 => match o with | .inl v332 => Q (.inl v332) g333 d334 | .inr k => Q (.inr k) g333 d334) | .inr k => Q (.inr k) g329 d330)) | .inr k => Q (.inr k) g324 d325))) ∧ ((¬ (v7 = 19)) → ((v7 = 20) → (iI (x2 + 1)) ∧ (MM mL_pick [(5, 0), vI (x2 + 1), vI 3] g8 d9 (fun o g339 d340 => match o with | .inl v338 => (iI (x2 + 2)) ∧ (MM mL_pick [(5, 0), vI (x2 + 2), vI 5] g339 d340 (fun o g344 d345 => match o with | .inl v343 => MM mL_deed [vR 0, vI 15, vI v338, vI v343, vI 0] g344 d345 (fun o g348 d349 => match o with | .inl v347 => Q (.inl v347) g348 d349 | .inr k => Q (.inr k) g348 d349) | .inr k => Q (.inr k) g344 d345)) | .inr k => Q (.inr k) g339 d340))) ∧ ((¬ (v7 = 20)) → (iI (x2 + 1)) ∧ (MM mL_pick [(5, 0), vI (x2 + 1), vI 5] g8 d9 (fun o g353 d354 => match o with | .inl v352 => (iI (x2 + 2)) ∧ (MM mL_pick [(5, 0), vI (x2 + 2), vI 5] g353 d354 (fun o g358 d359 => match o with | .inl v357 => MM mL_deed [vR 0, vI 16, vI v352, vI v357, vI 0] g358 d359 (fun o g362 d363 => match o with | .inl v361 => Q (.inl v361) g362 d363 | .inr k => Q (.inr k) g362 d363) | .inr k => Q (.inr k) g358 d359)) | .inr k => Q (.inr k) g353 d354))))))))))))))))))))))) | .inr k => Q (.inr k) g8 d9)) | .inr k => Q (.inr k) g3 d4)) : MM mL_any [vR 0, (5, 0), vI x2] g d Q := by
  refine MM_of (by decide) rfl (by simp [catV]) (Nat.le_of_ble_eq_true rfl) ?_
  show MW mL_any 48 8234 0 [(0, vR 0), (1, (5, 0)), (2, vI x2)] [] g d Q
  refine mw_top (fun hT => ?_)
  have hG : 65 ≤ g.2.1 := hT.2
  refine mw_aload_n (v := vR 0) (pc' := 1) dL_any_0 rfl rfl (Or.inl rfl) rfl ?_
  refine mw_callV (M' := mX11_deadlines) (A := []) (A' := [vR 0]) (S := []) (a := 0) (pc' := 4) dL_any_1 rfl cl_RL_230 cm_X11_deadlines cv_X11_deadlines ⟨by decide, by decide, (by show 0 ≤ 48; omega), (by show 0 ≤ 8234; omega), by decide⟩ rfl rfl rfl ⟨by decide, by omega⟩ (by decide +kernel) (by decide +kernel) (Nat.le_of_ble_eq_true rfl) (MM.mono ?_ h)
  intro o g3 d4 h1
  rcases o with v2 | k
  · refine mw_top (fun hT => ?_)
    have hG : 65 ≤ g3.2.1 := hT.2
    show MW mL_any 48 8234 4 [(0, vR 0), (1, (5, 0)), (2, vI x2)] [vI v2] g3 d4 Q
    refine mw_iconst (pc' := 5) dL_any_4 rfl ⟨by decide, by decide⟩ ?_
    obtain ⟨o5, h1⟩ := h1
    refine mw_iadd (pc' := 6) dL_any_5 rfl o5 ?_
    refine mw_istore_n (pc' := 7) (L' := [(0, vR 0), (1, (5, 0)), (2, vI x2), (3, vI (v2 + 1))]) dL_any_6 rfl rfl (by decide) rfl ?_
    refine mw_aload_n (v := (5, 0)) (pc' := 8) dL_any_7 rfl rfl (Or.inr (Or.inl rfl)) rfl ?_
    refine mw_iload_n (pc' := 9) dL_any_8 rfl rfl rfl ?_
    refine mw_bipush (pc' := 11) dL_any_9 rfl ⟨by decide, by decide⟩ ?_
    refine mw_callS (M' := mL_pick) (A := [(5, 0), vI x2, vI 22]) (S := []) (pc' := 14) dL_any_11 rfl cl_RL_223 cm_L_pick cs_L_pick ⟨by decide, by decide, (by show 0 ≤ 48; omega), (by show 0 ≤ 8234; omega), by decide⟩ rfl rfl (Nat.le_of_ble_eq_true rfl) (MM.mono ?_ h1)
    intro o g8 d9 h6
    rcases o with v7 | k
    · refine mw_top (fun hT => ?_)
      have hG : 65 ≤ g8.2.1 := hT.2
      show MW mL_any 48 8234 14 [(0, vR 0), (1, (5, 0)), (2, vI x2), (3, vI (v2 + 1))] [vI v7] g8 d9 Q
      by_cases c10 : v7 = 0
      · replace h6 := h6.1 c10
        refine mw_tabIn (pc' := 0) (off := 98) (tgt := 112) dL_any_14 (by omega) (by rw [c10]; rfl) (by decide) ?_
        refine mw_aload_n (v := vR 0) (pc' := 113) dL_any_112 rfl rfl (Or.inl rfl) rfl ?_
        refine mw_iconst (pc' := 114) dL_any_113 rfl ⟨by decide, by decide⟩ ?_
        refine mw_aload_n (v := (5, 0)) (pc' := 115) dL_any_114 rfl rfl (Or.inr (Or.inl rfl)) rfl ?_
        refine mw_iload_n (pc' := 116) dL_any_115 rfl rfl rfl ?_
        refine mw_iconst (pc' := 117) dL_any_116 rfl ⟨by decide, by decide⟩ ?_
        obtain ⟨o11, h6⟩ := h6
        refine mw_iadd (pc' := 118) dL_any_117 rfl o11 ?_
        refine mw_iconst (pc' := 119) dL_any_118 rfl ⟨by decide, by decide⟩ ?_
        refine mw_callS (M' := mL_pick) (A := [(5, 0), vI (x2 + 1), vI 3]) (S := [vI 5, vR 0]) (pc' := 122) dL_any_119 rfl cl_RL_223 cm_L_pick cs_L_pick ⟨by decide, by decide, (by show 0 ≤ 48; omega), (by show 0 ≤ 8234; omega), by decide⟩ rfl rfl (Nat.le_of_ble_eq_true rfl) (MM.mono ?_ h6)
        intro o g14 d15 h12
        rcases o with v13 | k
        · refine mw_top (fun hT => ?_)
          have hG : 65 ≤ g14.2.1 := hT.2
          show MW mL_any 48 8234 122 [(0, vR 0), (1, (5, 0)), (2, vI x2), (3, vI (v2 + 1))] [vI v13, vI 5, vR 0] g14 d15 Q
          refine mw_aload_n (v := (5, 0)) (pc' := 123) dL_any_122 rfl rfl (Or.inr (Or.inl rfl)) rfl ?_
          refine mw_iload_n (pc' := 124) dL_any_123 rfl rfl rfl ?_
          refine mw_iconst (pc' := 125) dL_any_124 rfl ⟨by decide, by decide⟩ ?_
          obtain ⟨o16, h12⟩ := h12
          refine mw_iadd (pc' := 126) dL_any_125 rfl o16 ?_
          refine mw_bipush (pc' := 128) dL_any_126 rfl ⟨by decide, by decide⟩ ?_
          refine mw_callS (M' := mL_pick) (A := [(5, 0), vI (x2 + 2), vI 8]) (S := [vI v13, vI 5, vR 0]) (pc' := 131) dL_any_128 rfl cl_RL_223 cm_L_pick cs_L_pick ⟨by decide, by decide, (by show 0 ≤ 48; omega), (by show 0 ≤ 8234; omega), by decide⟩ rfl rfl (Nat.le_of_ble_eq_true rfl) (MM.mono ?_ h12)
          intro o g19 d20 h17
          rcases o with v18 | k
          · refine mw_top (fun hT => ?_)
            have hG : 65 ≤ g19.2.1 := hT.2
            show MW mL_any 48 8234 131 [(0, vR 0), (1, (5, 0)), (2, vI x2), (3, vI (v2 + 1))] [vI v18, vI v13, vI 5, vR 0] g19 d20 Q
            refine mw_aload_n (v := (5, 0)) (pc' := 132) dL_any_131 rfl rfl (Or.inr (Or.inl rfl)) rfl ?_
            refine mw_iload_n (pc' := 133) dL_any_132 rfl rfl rfl ?_
            refine mw_iconst (pc' := 134) dL_any_133 rfl ⟨by decide, by decide⟩ ?_
            obtain ⟨o21, h17⟩ := h17
            refine mw_iadd (pc' := 135) dL_any_134 rfl o21 ?_
            refine mw_iconst (pc' := 136) dL_any_135 rfl ⟨by decide, by decide⟩ ?_
            refine mw_callS (M' := mL_pick) (A := [(5, 0), vI (x2 + 3), vI 4]) (S := [vI v18, vI v13, vI 5, vR 0]) (pc' := 139) dL_any_136 rfl cl_RL_223 cm_L_pick cs_L_pick ⟨by decide, by decide, (by show 0 ≤ 48; omega), (by show 0 ≤ 8234; omega), by decide⟩ rfl rfl (Nat.le_of_ble_eq_true rfl) (MM.mono ?_ h17)
            intro o g24 d25 h22
            rcases o with v23 | k
            · refine mw_top (fun hT => ?_)
              have hG : 65 ≤ g24.2.1 := hT.2
              show MW mL_any 48 8234 139 [(0, vR 0), (1, (5, 0)), (2, vI x2), (3, vI (v2 + 1))] [vI v23, vI v18, vI v13, vI 5, vR 0] g24 d25 Q
              refine mw_callS (M' := mL_way) (A := [vI v23]) (S := [vI v18, vI v13, vI 5, vR 0]) (pc' := 142) dL_any_139 rfl cl_RL_227 cm_L_way cs_L_way ⟨by decide, by decide, (by show 0 ≤ 48; omega), (by show 0 ≤ 8234; omega), by decide⟩ rfl rfl (Nat.le_of_ble_eq_true rfl) (MM.mono ?_ h22)
              intro o g28 d29 h26
              rcases o with v27 | k
              · refine mw_top (fun hT => ?_)
                have hG : 65 ≤ g28.2.1 := hT.2
                show MW mL_any 48 8234 142 [(0, vR 0), (1, (5, 0)), (2, vI x2), (3, vI (v2 + 1))] [vI v27, vI v18, vI v13, vI 5, vR 0] g28 d29 Q
                refine mw_callSX (M' := mL_deed) (A := [vR 0, vI 5, vI v13, vI v18, vI v27]) (S := []) (pc' := 145) dL_any_142 rfl (goodW 560 (by decide +kernel) rfl) kX_L_deed kS_L_deed ⟨by decide, by decide, (by show 48 ≤ 48; omega), (by show 8234 ≤ 8234; omega), by decide⟩ rfl rfl (Nat.le_of_ble_eq_true rfl) (MM.mono ?_ h26)
                intro o g32 d33 h30
                rcases o with v31 | k
                · refine mw_top (fun hT => ?_)
                  have hG : 65 ≤ g32.2.1 := hT.2
                  show MW mL_any 0 0 145 [(0, vR 0), (1, (5, 0)), (2, vI x2), (3, vI (v2 + 1))] [vI v31] g32 d33 Q
                  exact mw_iret (pc' := 0) (S := []) dL_any_145 rfl (Or.inl rfl) h30
                · exact mx_out rfl h30
              · exact mx_out rfl h26
            · exact mx_out rfl h22
          · exact mx_out rfl h17
        · exact mx_out rfl h12
      · replace h6 := h6.2 c10
        by_cases c34 : v7 = 1
        · replace h6 := h6.1 c34
          refine mw_tabIn (pc' := 0) (off := 98) (tgt := 112) dL_any_14 (by omega) (by rw [c34]; rfl) (by decide) ?_
          refine mw_aload_n (v := vR 0) (pc' := 113) dL_any_112 rfl rfl (Or.inl rfl) rfl ?_
          refine mw_iconst (pc' := 114) dL_any_113 rfl ⟨by decide, by decide⟩ ?_
          refine mw_aload_n (v := (5, 0)) (pc' := 115) dL_any_114 rfl rfl (Or.inr (Or.inl rfl)) rfl ?_
          refine mw_iload_n (pc' := 116) dL_any_115 rfl rfl rfl ?_
          refine mw_iconst (pc' := 117) dL_any_116 rfl ⟨by decide, by decide⟩ ?_
          obtain ⟨o35, h6⟩ := h6
          refine mw_iadd (pc' := 118) dL_any_117 rfl o35 ?_
          refine mw_iconst (pc' := 119) dL_any_118 rfl ⟨by decide, by decide⟩ ?_
          refine mw_callS (M' := mL_pick) (A := [(5, 0), vI (x2 + 1), vI 3]) (S := [vI 5, vR 0]) (pc' := 122) dL_any_119 rfl cl_RL_223 cm_L_pick cs_L_pick ⟨by decide, by decide, (by show 0 ≤ 48; omega), (by show 0 ≤ 8234; omega), by decide⟩ rfl rfl (Nat.le_of_ble_eq_true rfl) (MM.mono ?_ h6)
          intro o g38 d39 h36
          rcases o with v37 | k
          · refine mw_top (fun hT => ?_)
            have hG : 65 ≤ g38.2.1 := hT.2
            show MW mL_any 48 8234 122 [(0, vR 0), (1, (5, 0)), (2, vI x2), (3, vI (v2 + 1))] [vI v37, vI 5, vR 0] g38 d39 Q
            refine mw_aload_n (v := (5, 0)) (pc' := 123) dL_any_122 rfl rfl (Or.inr (Or.inl rfl)) rfl ?_
            refine mw_iload_n (pc' := 124) dL_any_123 rfl rfl rfl ?_
            refine mw_iconst (pc' := 125) dL_any_124 rfl ⟨by decide, by decide⟩ ?_
            obtain ⟨o40, h36⟩ := h36
            refine mw_iadd (pc' := 126) dL_any_125 rfl o40 ?_
            refine mw_bipush (pc' := 128) dL_any_126 rfl ⟨by decide, by decide⟩ ?_
            refine mw_callS (M' := mL_pick) (A := [(5, 0), vI (x2 + 2), vI 8]) (S := [vI v37, vI 5, vR 0]) (pc' := 131) dL_any_128 rfl cl_RL_223 cm_L_pick cs_L_pick ⟨by decide, by decide, (by show 0 ≤ 48; omega), (by show 0 ≤ 8234; omega), by decide⟩ rfl rfl (Nat.le_of_ble_eq_true rfl) (MM.mono ?_ h36)
            intro o g43 d44 h41
            rcases o with v42 | k
            · refine mw_top (fun hT => ?_)
              have hG : 65 ≤ g43.2.1 := hT.2
              show MW mL_any 48 8234 131 [(0, vR 0), (1, (5, 0)), (2, vI x2), (3, vI (v2 + 1))] [vI v42, vI v37, vI 5, vR 0] g43 d44 Q
              refine mw_aload_n (v := (5, 0)) (pc' := 132) dL_any_131 rfl rfl (Or.inr (Or.inl rfl)) rfl ?_
              refine mw_iload_n (pc' := 133) dL_any_132 rfl rfl rfl ?_
              refine mw_iconst (pc' := 134) dL_any_133 rfl ⟨by decide, by decide⟩ ?_
              obtain ⟨o45, h41⟩ := h41
              refine mw_iadd (pc' := 135) dL_any_134 rfl o45 ?_
              refine mw_iconst (pc' := 136) dL_any_135 rfl ⟨by decide, by decide⟩ ?_
              refine mw_callS (M' := mL_pick) (A := [(5, 0), vI (x2 + 3), vI 4]) (S := [vI v42, vI v37, vI 5, vR 0]) (pc' := 139) dL_any_136 rfl cl_RL_223 cm_L_pick cs_L_pick ⟨by decide, by decide, (by show 0 ≤ 48; omega), (by show 0 ≤ 8234; omega), by decide⟩ rfl rfl (Nat.le_of_ble_eq_true rfl) (MM.mono ?_ h41)
              intro o g48 d49 h46
              rcases o with v47 | k
              · refine mw_top (fun hT => ?_)
                have hG : 65 ≤ g48.2.1 := hT.2
                show MW mL_any 48 8234 139 [(0, vR 0), (1, (5, 0)), (2, vI x2), (3, vI (v2 + 1))] [vI v47, vI v42, vI v37, vI 5, vR 0] g48 d49 Q
                refine mw_callS (M' := mL_way) (A := [vI v47]) (S := [vI v42, vI v37, vI 5, vR 0]) (pc' := 142) dL_any_139 rfl cl_RL_227 cm_L_way cs_L_way ⟨by decide, by decide, (by show 0 ≤ 48; omega), (by show 0 ≤ 8234; omega), by decide⟩ rfl rfl (Nat.le_of_ble_eq_true rfl) (MM.mono ?_ h46)
                intro o g52 d53 h50
                rcases o with v51 | k
                · refine mw_top (fun hT => ?_)
                  have hG : 65 ≤ g52.2.1 := hT.2
                  show MW mL_any 48 8234 142 [(0, vR 0), (1, (5, 0)), (2, vI x2), (3, vI (v2 + 1))] [vI v51, vI v42, vI v37, vI 5, vR 0] g52 d53 Q
                  refine mw_callSX (M' := mL_deed) (A := [vR 0, vI 5, vI v37, vI v42, vI v51]) (S := []) (pc' := 145) dL_any_142 rfl (goodW 560 (by decide +kernel) rfl) kX_L_deed kS_L_deed ⟨by decide, by decide, (by show 48 ≤ 48; omega), (by show 8234 ≤ 8234; omega), by decide⟩ rfl rfl (Nat.le_of_ble_eq_true rfl) (MM.mono ?_ h50)
                  intro o g56 d57 h54
                  rcases o with v55 | k
                  · refine mw_top (fun hT => ?_)
                    have hG : 65 ≤ g56.2.1 := hT.2
                    show MW mL_any 0 0 145 [(0, vR 0), (1, (5, 0)), (2, vI x2), (3, vI (v2 + 1))] [vI v55] g56 d57 Q
                    exact mw_iret (pc' := 0) (S := []) dL_any_145 rfl (Or.inl rfl) h54
                  · exact mx_out rfl h54
                · exact mx_out rfl h50
              · exact mx_out rfl h46
            · exact mx_out rfl h41
          · exact mx_out rfl h36
        · replace h6 := h6.2 c34
          by_cases c58 : v7 = 2
          · replace h6 := h6.1 c58
            refine mw_tabIn (pc' := 0) (off := 98) (tgt := 112) dL_any_14 (by omega) (by rw [c58]; rfl) (by decide) ?_
            refine mw_aload_n (v := vR 0) (pc' := 113) dL_any_112 rfl rfl (Or.inl rfl) rfl ?_
            refine mw_iconst (pc' := 114) dL_any_113 rfl ⟨by decide, by decide⟩ ?_
            refine mw_aload_n (v := (5, 0)) (pc' := 115) dL_any_114 rfl rfl (Or.inr (Or.inl rfl)) rfl ?_
            refine mw_iload_n (pc' := 116) dL_any_115 rfl rfl rfl ?_
            refine mw_iconst (pc' := 117) dL_any_116 rfl ⟨by decide, by decide⟩ ?_
            obtain ⟨o59, h6⟩ := h6
            refine mw_iadd (pc' := 118) dL_any_117 rfl o59 ?_
            refine mw_iconst (pc' := 119) dL_any_118 rfl ⟨by decide, by decide⟩ ?_
            refine mw_callS (M' := mL_pick) (A := [(5, 0), vI (x2 + 1), vI 3]) (S := [vI 5, vR 0]) (pc' := 122) dL_any_119 rfl cl_RL_223 cm_L_pick cs_L_pick ⟨by decide, by decide, (by show 0 ≤ 48; omega), (by show 0 ≤ 8234; omega), by decide⟩ rfl rfl (Nat.le_of_ble_eq_true rfl) (MM.mono ?_ h6)
            intro o g62 d63 h60
            rcases o with v61 | k
            · refine mw_top (fun hT => ?_)
              have hG : 65 ≤ g62.2.1 := hT.2
              show MW mL_any 48 8234 122 [(0, vR 0), (1, (5, 0)), (2, vI x2), (3, vI (v2 + 1))] [vI v61, vI 5, vR 0] g62 d63 Q
              refine mw_aload_n (v := (5, 0)) (pc' := 123) dL_any_122 rfl rfl (Or.inr (Or.inl rfl)) rfl ?_
              refine mw_iload_n (pc' := 124) dL_any_123 rfl rfl rfl ?_
              refine mw_iconst (pc' := 125) dL_any_124 rfl ⟨by decide, by decide⟩ ?_
              obtain ⟨o64, h60⟩ := h60
              refine mw_iadd (pc' := 126) dL_any_125 rfl o64 ?_
              refine mw_bipush (pc' := 128) dL_any_126 rfl ⟨by decide, by decide⟩ ?_
              refine mw_callS (M' := mL_pick) (A := [(5, 0), vI (x2 + 2), vI 8]) (S := [vI v61, vI 5, vR 0]) (pc' := 131) dL_any_128 rfl cl_RL_223 cm_L_pick cs_L_pick ⟨by decide, by decide, (by show 0 ≤ 48; omega), (by show 0 ≤ 8234; omega), by decide⟩ rfl rfl (Nat.le_of_ble_eq_true rfl) (MM.mono ?_ h60)
              intro o g67 d68 h65
              rcases o with v66 | k
              · refine mw_top (fun hT => ?_)
                have hG : 65 ≤ g67.2.1 := hT.2
                show MW mL_any 48 8234 131 [(0, vR 0), (1, (5, 0)), (2, vI x2), (3, vI (v2 + 1))] [vI v66, vI v61, vI 5, vR 0] g67 d68 Q
                refine mw_aload_n (v := (5, 0)) (pc' := 132) dL_any_131 rfl rfl (Or.inr (Or.inl rfl)) rfl ?_
                refine mw_iload_n (pc' := 133) dL_any_132 rfl rfl rfl ?_
                refine mw_iconst (pc' := 134) dL_any_133 rfl ⟨by decide, by decide⟩ ?_
                obtain ⟨o69, h65⟩ := h65
                refine mw_iadd (pc' := 135) dL_any_134 rfl o69 ?_
                refine mw_iconst (pc' := 136) dL_any_135 rfl ⟨by decide, by decide⟩ ?_
                refine mw_callS (M' := mL_pick) (A := [(5, 0), vI (x2 + 3), vI 4]) (S := [vI v66, vI v61, vI 5, vR 0]) (pc' := 139) dL_any_136 rfl cl_RL_223 cm_L_pick cs_L_pick ⟨by decide, by decide, (by show 0 ≤ 48; omega), (by show 0 ≤ 8234; omega), by decide⟩ rfl rfl (Nat.le_of_ble_eq_true rfl) (MM.mono ?_ h65)
                intro o g72 d73 h70
                rcases o with v71 | k
                · refine mw_top (fun hT => ?_)
                  have hG : 65 ≤ g72.2.1 := hT.2
                  show MW mL_any 48 8234 139 [(0, vR 0), (1, (5, 0)), (2, vI x2), (3, vI (v2 + 1))] [vI v71, vI v66, vI v61, vI 5, vR 0] g72 d73 Q
                  refine mw_callS (M' := mL_way) (A := [vI v71]) (S := [vI v66, vI v61, vI 5, vR 0]) (pc' := 142) dL_any_139 rfl cl_RL_227 cm_L_way cs_L_way ⟨by decide, by decide, (by show 0 ≤ 48; omega), (by show 0 ≤ 8234; omega), by decide⟩ rfl rfl (Nat.le_of_ble_eq_true rfl) (MM.mono ?_ h70)
                  intro o g76 d77 h74
                  rcases o with v75 | k
                  · refine mw_top (fun hT => ?_)
                    have hG : 65 ≤ g76.2.1 := hT.2
                    show MW mL_any 48 8234 142 [(0, vR 0), (1, (5, 0)), (2, vI x2), (3, vI (v2 + 1))] [vI v75, vI v66, vI v61, vI 5, vR 0] g76 d77 Q
                    refine mw_callSX (M' := mL_deed) (A := [vR 0, vI 5, vI v61, vI v66, vI v75]) (S := []) (pc' := 145) dL_any_142 rfl (goodW 560 (by decide +kernel) rfl) kX_L_deed kS_L_deed ⟨by decide, by decide, (by show 48 ≤ 48; omega), (by show 8234 ≤ 8234; omega), by decide⟩ rfl rfl (Nat.le_of_ble_eq_true rfl) (MM.mono ?_ h74)
                    intro o g80 d81 h78
                    rcases o with v79 | k
                    · refine mw_top (fun hT => ?_)
                      have hG : 65 ≤ g80.2.1 := hT.2
                      show MW mL_any 0 0 145 [(0, vR 0), (1, (5, 0)), (2, vI x2), (3, vI (v2 + 1))] [vI v79] g80 d81 Q
                      exact mw_iret (pc' := 0) (S := []) dL_any_145 rfl (Or.inl rfl) h78
                    · exact mx_out rfl h78
                  · exact mx_out rfl h74
                · exact mx_out rfl h70
              · exact mx_out rfl h65
            · exact mx_out rfl h60
          · replace h6 := h6.2 c58
            by_cases c82 : v7 = 3
            · replace h6 := h6.1 c82
              refine mw_tabIn (pc' := 0) (off := 98) (tgt := 112) dL_any_14 (by omega) (by rw [c82]; rfl) (by decide) ?_
              refine mw_aload_n (v := vR 0) (pc' := 113) dL_any_112 rfl rfl (Or.inl rfl) rfl ?_
              refine mw_iconst (pc' := 114) dL_any_113 rfl ⟨by decide, by decide⟩ ?_
              refine mw_aload_n (v := (5, 0)) (pc' := 115) dL_any_114 rfl rfl (Or.inr (Or.inl rfl)) rfl ?_
              refine mw_iload_n (pc' := 116) dL_any_115 rfl rfl rfl ?_
              refine mw_iconst (pc' := 117) dL_any_116 rfl ⟨by decide, by decide⟩ ?_
              obtain ⟨o83, h6⟩ := h6
              refine mw_iadd (pc' := 118) dL_any_117 rfl o83 ?_
              refine mw_iconst (pc' := 119) dL_any_118 rfl ⟨by decide, by decide⟩ ?_
              refine mw_callS (M' := mL_pick) (A := [(5, 0), vI (x2 + 1), vI 3]) (S := [vI 5, vR 0]) (pc' := 122) dL_any_119 rfl cl_RL_223 cm_L_pick cs_L_pick ⟨by decide, by decide, (by show 0 ≤ 48; omega), (by show 0 ≤ 8234; omega), by decide⟩ rfl rfl (Nat.le_of_ble_eq_true rfl) (MM.mono ?_ h6)
              intro o g86 d87 h84
              rcases o with v85 | k
              · refine mw_top (fun hT => ?_)
                have hG : 65 ≤ g86.2.1 := hT.2
                show MW mL_any 48 8234 122 [(0, vR 0), (1, (5, 0)), (2, vI x2), (3, vI (v2 + 1))] [vI v85, vI 5, vR 0] g86 d87 Q
                refine mw_aload_n (v := (5, 0)) (pc' := 123) dL_any_122 rfl rfl (Or.inr (Or.inl rfl)) rfl ?_
                refine mw_iload_n (pc' := 124) dL_any_123 rfl rfl rfl ?_
                refine mw_iconst (pc' := 125) dL_any_124 rfl ⟨by decide, by decide⟩ ?_
                obtain ⟨o88, h84⟩ := h84
                refine mw_iadd (pc' := 126) dL_any_125 rfl o88 ?_
                refine mw_bipush (pc' := 128) dL_any_126 rfl ⟨by decide, by decide⟩ ?_
                refine mw_callS (M' := mL_pick) (A := [(5, 0), vI (x2 + 2), vI 8]) (S := [vI v85, vI 5, vR 0]) (pc' := 131) dL_any_128 rfl cl_RL_223 cm_L_pick cs_L_pick ⟨by decide, by decide, (by show 0 ≤ 48; omega), (by show 0 ≤ 8234; omega), by decide⟩ rfl rfl (Nat.le_of_ble_eq_true rfl) (MM.mono ?_ h84)
                intro o g91 d92 h89
                rcases o with v90 | k
                · refine mw_top (fun hT => ?_)
                  have hG : 65 ≤ g91.2.1 := hT.2
                  show MW mL_any 48 8234 131 [(0, vR 0), (1, (5, 0)), (2, vI x2), (3, vI (v2 + 1))] [vI v90, vI v85, vI 5, vR 0] g91 d92 Q
                  refine mw_aload_n (v := (5, 0)) (pc' := 132) dL_any_131 rfl rfl (Or.inr (Or.inl rfl)) rfl ?_
                  refine mw_iload_n (pc' := 133) dL_any_132 rfl rfl rfl ?_
                  refine mw_iconst (pc' := 134) dL_any_133 rfl ⟨by decide, by decide⟩ ?_
                  obtain ⟨o93, h89⟩ := h89
                  refine mw_iadd (pc' := 135) dL_any_134 rfl o93 ?_
                  refine mw_iconst (pc' := 136) dL_any_135 rfl ⟨by decide, by decide⟩ ?_
                  refine mw_callS (M' := mL_pick) (A := [(5, 0), vI (x2 + 3), vI 4]) (S := [vI v90, vI v85, vI 5, vR 0]) (pc' := 139) dL_any_136 rfl cl_RL_223 cm_L_pick cs_L_pick ⟨by decide, by decide, (by show 0 ≤ 48; omega), (by show 0 ≤ 8234; omega), by decide⟩ rfl rfl (Nat.le_of_ble_eq_true rfl) (MM.mono ?_ h89)
                  intro o g96 d97 h94
                  rcases o with v95 | k
                  · refine mw_top (fun hT => ?_)
                    have hG : 65 ≤ g96.2.1 := hT.2
                    show MW mL_any 48 8234 139 [(0, vR 0), (1, (5, 0)), (2, vI x2), (3, vI (v2 + 1))] [vI v95, vI v90, vI v85, vI 5, vR 0] g96 d97 Q
                    refine mw_callS (M' := mL_way) (A := [vI v95]) (S := [vI v90, vI v85, vI 5, vR 0]) (pc' := 142) dL_any_139 rfl cl_RL_227 cm_L_way cs_L_way ⟨by decide, by decide, (by show 0 ≤ 48; omega), (by show 0 ≤ 8234; omega), by decide⟩ rfl rfl (Nat.le_of_ble_eq_true rfl) (MM.mono ?_ h94)
                    intro o g100 d101 h98
                    rcases o with v99 | k
                    · refine mw_top (fun hT => ?_)
                      have hG : 65 ≤ g100.2.1 := hT.2
                      show MW mL_any 48 8234 142 [(0, vR 0), (1, (5, 0)), (2, vI x2), (3, vI (v2 + 1))] [vI v99, vI v90, vI v85, vI 5, vR 0] g100 d101 Q
                      refine mw_callSX (M' := mL_deed) (A := [vR 0, vI 5, vI v85, vI v90, vI v99]) (S := []) (pc' := 145) dL_any_142 rfl (goodW 560 (by decide +kernel) rfl) kX_L_deed kS_L_deed ⟨by decide, by decide, (by show 48 ≤ 48; omega), (by show 8234 ≤ 8234; omega), by decide⟩ rfl rfl (Nat.le_of_ble_eq_true rfl) (MM.mono ?_ h98)
                      intro o g104 d105 h102
                      rcases o with v103 | k
                      · refine mw_top (fun hT => ?_)
                        have hG : 65 ≤ g104.2.1 := hT.2
                        show MW mL_any 0 0 145 [(0, vR 0), (1, (5, 0)), (2, vI x2), (3, vI (v2 + 1))] [vI v103] g104 d105 Q
                        exact mw_iret (pc' := 0) (S := []) dL_any_145 rfl (Or.inl rfl) h102
                      · exact mx_out rfl h102
                    · exact mx_out rfl h98
                  · exact mx_out rfl h94
                · exact mx_out rfl h89
              · exact mx_out rfl h84
            · replace h6 := h6.2 c82
              by_cases c106 : v7 = 4
              · replace h6 := h6.1 c106
                refine mw_tabIn (pc' := 0) (off := 132) (tgt := 146) dL_any_14 (by omega) (by rw [c106]; rfl) (by decide) ?_
                refine mw_aload_n (v := vR 0) (pc' := 147) dL_any_146 rfl rfl (Or.inl rfl) rfl ?_
                refine mw_iconst (pc' := 148) dL_any_147 rfl ⟨by decide, by decide⟩ ?_
                refine mw_iconst (pc' := 149) dL_any_148 rfl ⟨by decide, by decide⟩ ?_
                refine mw_aload_n (v := (5, 0)) (pc' := 150) dL_any_149 rfl rfl (Or.inr (Or.inl rfl)) rfl ?_
                refine mw_iload_n (pc' := 151) dL_any_150 rfl rfl rfl ?_
                refine mw_iconst (pc' := 152) dL_any_151 rfl ⟨by decide, by decide⟩ ?_
                obtain ⟨o107, h6⟩ := h6
                refine mw_iadd (pc' := 153) dL_any_152 rfl o107 ?_
                refine mw_aload_n (v := (5, 0)) (pc' := 154) dL_any_153 rfl rfl (Or.inr (Or.inl rfl)) rfl ?_
                refine mw_iload_n (pc' := 155) dL_any_154 rfl rfl rfl ?_
                refine mw_iconst (pc' := 156) dL_any_155 rfl ⟨by decide, by decide⟩ ?_
                obtain ⟨o108, h6⟩ := h6
                refine mw_iadd (pc' := 157) dL_any_156 rfl o108 ?_
                refine mw_iconst (pc' := 158) dL_any_157 rfl ⟨by decide, by decide⟩ ?_
                refine mw_callS (M' := mL_pick) (A := [(5, 0), vI (x2 + 2), vI 4]) (S := [vI (x2 + 1), (5, 0), vI 1, vI 0, vR 0]) (pc' := 161) dL_any_158 rfl cl_RL_223 cm_L_pick cs_L_pick ⟨by decide, by decide, (by show 0 ≤ 48; omega), (by show 0 ≤ 8234; omega), by decide⟩ rfl rfl (Nat.le_of_ble_eq_true rfl) (MM.mono ?_ h6)
                intro o g111 d112 h109
                rcases o with v110 | k
                · refine mw_top (fun hT => ?_)
                  have hG : 65 ≤ g111.2.1 := hT.2
                  show MW mL_any 48 8234 161 [(0, vR 0), (1, (5, 0)), (2, vI x2), (3, vI (v2 + 1))] [vI v110, vI (x2 + 1), (5, 0), vI 1, vI 0, vR 0] g111 d112 Q
                  suffices k113 : MW mL_any 48 8234 172 [(0, vR 0), (1, (5, 0)), (2, vI x2), (3, vI (v2 + 1))] [vI (iT (v110 = 0) 200 12), vI (x2 + 1), (5, 0), vI 1, vI 0, vR 0] g111 d112 Q by
                    refine mw_if_ne (tgt := 170) (pc' := 164) dL_any_161 rfl (by decide) (fun c114 => ?_) (fun c114 => ?_)
                    · refine mw_bipush (pc' := 172) dL_any_170 rfl ⟨by decide, by decide⟩ ?_
                      exact mw_st (((iT_f c114).trans rfl)).symm k113
                    · refine mw_sipush (pc' := 167) dL_any_164 rfl ⟨by decide, by decide⟩ ?_
                      refine mw_goto (pc' := 0) (tgt := 172) dL_any_167 (by decide) ?_
                      exact mw_st (((iT_t c114).trans rfl)).symm k113
                  refine mw_callS (M' := mL_pick) (A := [(5, 0), vI (x2 + 1), vI (iT (v110 = 0) 200 12)]) (S := [vI 1, vI 0, vR 0]) (pc' := 175) dL_any_172 rfl cl_RL_223 cm_L_pick cs_L_pick ⟨by decide, by decide, (by show 0 ≤ 48; omega), (by show 0 ≤ 8234; omega), by decide⟩ rfl rfl (Nat.le_of_ble_eq_true rfl) (MM.mono ?_ h109)
                  intro o g117 d118 h115
                  rcases o with v116 | k
                  · refine mw_top (fun hT => ?_)
                    have hG : 65 ≤ g117.2.1 := hT.2
                    show MW mL_any 48 8234 175 [(0, vR 0), (1, (5, 0)), (2, vI x2), (3, vI (v2 + 1))] [vI v116, vI 1, vI 0, vR 0] g117 d118 Q
                    obtain ⟨o119, h115⟩ := h115
                    refine mw_iadd (pc' := 176) dL_any_175 rfl o119 ?_
                    refine mw_iconst (pc' := 177) dL_any_176 rfl ⟨by decide, by decide⟩ ?_
                    refine mw_iconst (pc' := 178) dL_any_177 rfl ⟨by decide, by decide⟩ ?_
                    refine mw_callSX (M' := mL_deed) (A := [vR 0, vI 0, vI (1 + v116), vI 0, vI 0]) (S := []) (pc' := 181) dL_any_178 rfl (goodW 560 (by decide +kernel) rfl) kX_L_deed kS_L_deed ⟨by decide, by decide, (by show 48 ≤ 48; omega), (by show 8234 ≤ 8234; omega), by decide⟩ rfl rfl (Nat.le_of_ble_eq_true rfl) (MM.mono ?_ h115)
                    intro o g122 d123 h120
                    rcases o with v121 | k
                    · refine mw_top (fun hT => ?_)
                      have hG : 65 ≤ g122.2.1 := hT.2
                      show MW mL_any 0 0 181 [(0, vR 0), (1, (5, 0)), (2, vI x2), (3, vI (v2 + 1))] [vI v121] g122 d123 Q
                      exact mw_iret (pc' := 0) (S := []) dL_any_181 rfl (Or.inl rfl) h120
                    · exact mx_out rfl h120
                  · exact mx_out rfl h115
                · exact mx_out rfl h109
              · replace h6 := h6.2 c106
                by_cases c124 : v7 = 5
                · replace h6 := h6.1 c124
                  refine mw_tabIn (pc' := 0) (off := 132) (tgt := 146) dL_any_14 (by omega) (by rw [c124]; rfl) (by decide) ?_
                  refine mw_aload_n (v := vR 0) (pc' := 147) dL_any_146 rfl rfl (Or.inl rfl) rfl ?_
                  refine mw_iconst (pc' := 148) dL_any_147 rfl ⟨by decide, by decide⟩ ?_
                  refine mw_iconst (pc' := 149) dL_any_148 rfl ⟨by decide, by decide⟩ ?_
                  refine mw_aload_n (v := (5, 0)) (pc' := 150) dL_any_149 rfl rfl (Or.inr (Or.inl rfl)) rfl ?_
                  refine mw_iload_n (pc' := 151) dL_any_150 rfl rfl rfl ?_
                  refine mw_iconst (pc' := 152) dL_any_151 rfl ⟨by decide, by decide⟩ ?_
                  obtain ⟨o125, h6⟩ := h6
                  refine mw_iadd (pc' := 153) dL_any_152 rfl o125 ?_
                  refine mw_aload_n (v := (5, 0)) (pc' := 154) dL_any_153 rfl rfl (Or.inr (Or.inl rfl)) rfl ?_
                  refine mw_iload_n (pc' := 155) dL_any_154 rfl rfl rfl ?_
                  refine mw_iconst (pc' := 156) dL_any_155 rfl ⟨by decide, by decide⟩ ?_
                  obtain ⟨o126, h6⟩ := h6
                  refine mw_iadd (pc' := 157) dL_any_156 rfl o126 ?_
                  refine mw_iconst (pc' := 158) dL_any_157 rfl ⟨by decide, by decide⟩ ?_
                  refine mw_callS (M' := mL_pick) (A := [(5, 0), vI (x2 + 2), vI 4]) (S := [vI (x2 + 1), (5, 0), vI 1, vI 0, vR 0]) (pc' := 161) dL_any_158 rfl cl_RL_223 cm_L_pick cs_L_pick ⟨by decide, by decide, (by show 0 ≤ 48; omega), (by show 0 ≤ 8234; omega), by decide⟩ rfl rfl (Nat.le_of_ble_eq_true rfl) (MM.mono ?_ h6)
                  intro o g129 d130 h127
                  rcases o with v128 | k
                  · refine mw_top (fun hT => ?_)
                    have hG : 65 ≤ g129.2.1 := hT.2
                    show MW mL_any 48 8234 161 [(0, vR 0), (1, (5, 0)), (2, vI x2), (3, vI (v2 + 1))] [vI v128, vI (x2 + 1), (5, 0), vI 1, vI 0, vR 0] g129 d130 Q
                    suffices k131 : MW mL_any 48 8234 172 [(0, vR 0), (1, (5, 0)), (2, vI x2), (3, vI (v2 + 1))] [vI (iT (v128 = 0) 200 12), vI (x2 + 1), (5, 0), vI 1, vI 0, vR 0] g129 d130 Q by
                      refine mw_if_ne (tgt := 170) (pc' := 164) dL_any_161 rfl (by decide) (fun c132 => ?_) (fun c132 => ?_)
                      · refine mw_bipush (pc' := 172) dL_any_170 rfl ⟨by decide, by decide⟩ ?_
                        exact mw_st (((iT_f c132).trans rfl)).symm k131
                      · refine mw_sipush (pc' := 167) dL_any_164 rfl ⟨by decide, by decide⟩ ?_
                        refine mw_goto (pc' := 0) (tgt := 172) dL_any_167 (by decide) ?_
                        exact mw_st (((iT_t c132).trans rfl)).symm k131
                    refine mw_callS (M' := mL_pick) (A := [(5, 0), vI (x2 + 1), vI (iT (v128 = 0) 200 12)]) (S := [vI 1, vI 0, vR 0]) (pc' := 175) dL_any_172 rfl cl_RL_223 cm_L_pick cs_L_pick ⟨by decide, by decide, (by show 0 ≤ 48; omega), (by show 0 ≤ 8234; omega), by decide⟩ rfl rfl (Nat.le_of_ble_eq_true rfl) (MM.mono ?_ h127)
                    intro o g135 d136 h133
                    rcases o with v134 | k
                    · refine mw_top (fun hT => ?_)
                      have hG : 65 ≤ g135.2.1 := hT.2
                      show MW mL_any 48 8234 175 [(0, vR 0), (1, (5, 0)), (2, vI x2), (3, vI (v2 + 1))] [vI v134, vI 1, vI 0, vR 0] g135 d136 Q
                      obtain ⟨o137, h133⟩ := h133
                      refine mw_iadd (pc' := 176) dL_any_175 rfl o137 ?_
                      refine mw_iconst (pc' := 177) dL_any_176 rfl ⟨by decide, by decide⟩ ?_
                      refine mw_iconst (pc' := 178) dL_any_177 rfl ⟨by decide, by decide⟩ ?_
                      refine mw_callSX (M' := mL_deed) (A := [vR 0, vI 0, vI (1 + v134), vI 0, vI 0]) (S := []) (pc' := 181) dL_any_178 rfl (goodW 560 (by decide +kernel) rfl) kX_L_deed kS_L_deed ⟨by decide, by decide, (by show 48 ≤ 48; omega), (by show 8234 ≤ 8234; omega), by decide⟩ rfl rfl (Nat.le_of_ble_eq_true rfl) (MM.mono ?_ h133)
                      intro o g140 d141 h138
                      rcases o with v139 | k
                      · refine mw_top (fun hT => ?_)
                        have hG : 65 ≤ g140.2.1 := hT.2
                        show MW mL_any 0 0 181 [(0, vR 0), (1, (5, 0)), (2, vI x2), (3, vI (v2 + 1))] [vI v139] g140 d141 Q
                        exact mw_iret (pc' := 0) (S := []) dL_any_181 rfl (Or.inl rfl) h138
                      · exact mx_out rfl h138
                    · exact mx_out rfl h133
                  · exact mx_out rfl h127
                · replace h6 := h6.2 c124
                  by_cases c142 : v7 = 6
                  · replace h6 := h6.1 c142
                    refine mw_tabIn (pc' := 0) (off := 132) (tgt := 146) dL_any_14 (by omega) (by rw [c142]; rfl) (by decide) ?_
                    refine mw_aload_n (v := vR 0) (pc' := 147) dL_any_146 rfl rfl (Or.inl rfl) rfl ?_
                    refine mw_iconst (pc' := 148) dL_any_147 rfl ⟨by decide, by decide⟩ ?_
                    refine mw_iconst (pc' := 149) dL_any_148 rfl ⟨by decide, by decide⟩ ?_
                    refine mw_aload_n (v := (5, 0)) (pc' := 150) dL_any_149 rfl rfl (Or.inr (Or.inl rfl)) rfl ?_
                    refine mw_iload_n (pc' := 151) dL_any_150 rfl rfl rfl ?_
                    refine mw_iconst (pc' := 152) dL_any_151 rfl ⟨by decide, by decide⟩ ?_
                    obtain ⟨o143, h6⟩ := h6
                    refine mw_iadd (pc' := 153) dL_any_152 rfl o143 ?_
                    refine mw_aload_n (v := (5, 0)) (pc' := 154) dL_any_153 rfl rfl (Or.inr (Or.inl rfl)) rfl ?_
                    refine mw_iload_n (pc' := 155) dL_any_154 rfl rfl rfl ?_
                    refine mw_iconst (pc' := 156) dL_any_155 rfl ⟨by decide, by decide⟩ ?_
                    obtain ⟨o144, h6⟩ := h6
                    refine mw_iadd (pc' := 157) dL_any_156 rfl o144 ?_
                    refine mw_iconst (pc' := 158) dL_any_157 rfl ⟨by decide, by decide⟩ ?_
                    refine mw_callS (M' := mL_pick) (A := [(5, 0), vI (x2 + 2), vI 4]) (S := [vI (x2 + 1), (5, 0), vI 1, vI 0, vR 0]) (pc' := 161) dL_any_158 rfl cl_RL_223 cm_L_pick cs_L_pick ⟨by decide, by decide, (by show 0 ≤ 48; omega), (by show 0 ≤ 8234; omega), by decide⟩ rfl rfl (Nat.le_of_ble_eq_true rfl) (MM.mono ?_ h6)
                    intro o g147 d148 h145
                    rcases o with v146 | k
                    · refine mw_top (fun hT => ?_)
                      have hG : 65 ≤ g147.2.1 := hT.2
                      show MW mL_any 48 8234 161 [(0, vR 0), (1, (5, 0)), (2, vI x2), (3, vI (v2 + 1))] [vI v146, vI (x2 + 1), (5, 0), vI 1, vI 0, vR 0] g147 d148 Q
                      suffices k149 : MW mL_any 48 8234 172 [(0, vR 0), (1, (5, 0)), (2, vI x2), (3, vI (v2 + 1))] [vI (iT (v146 = 0) 200 12), vI (x2 + 1), (5, 0), vI 1, vI 0, vR 0] g147 d148 Q by
                        refine mw_if_ne (tgt := 170) (pc' := 164) dL_any_161 rfl (by decide) (fun c150 => ?_) (fun c150 => ?_)
                        · refine mw_bipush (pc' := 172) dL_any_170 rfl ⟨by decide, by decide⟩ ?_
                          exact mw_st (((iT_f c150).trans rfl)).symm k149
                        · refine mw_sipush (pc' := 167) dL_any_164 rfl ⟨by decide, by decide⟩ ?_
                          refine mw_goto (pc' := 0) (tgt := 172) dL_any_167 (by decide) ?_
                          exact mw_st (((iT_t c150).trans rfl)).symm k149
                      refine mw_callS (M' := mL_pick) (A := [(5, 0), vI (x2 + 1), vI (iT (v146 = 0) 200 12)]) (S := [vI 1, vI 0, vR 0]) (pc' := 175) dL_any_172 rfl cl_RL_223 cm_L_pick cs_L_pick ⟨by decide, by decide, (by show 0 ≤ 48; omega), (by show 0 ≤ 8234; omega), by decide⟩ rfl rfl (Nat.le_of_ble_eq_true rfl) (MM.mono ?_ h145)
                      intro o g153 d154 h151
                      rcases o with v152 | k
                      · refine mw_top (fun hT => ?_)
                        have hG : 65 ≤ g153.2.1 := hT.2
                        show MW mL_any 48 8234 175 [(0, vR 0), (1, (5, 0)), (2, vI x2), (3, vI (v2 + 1))] [vI v152, vI 1, vI 0, vR 0] g153 d154 Q
                        obtain ⟨o155, h151⟩ := h151
                        refine mw_iadd (pc' := 176) dL_any_175 rfl o155 ?_
                        refine mw_iconst (pc' := 177) dL_any_176 rfl ⟨by decide, by decide⟩ ?_
                        refine mw_iconst (pc' := 178) dL_any_177 rfl ⟨by decide, by decide⟩ ?_
                        refine mw_callSX (M' := mL_deed) (A := [vR 0, vI 0, vI (1 + v152), vI 0, vI 0]) (S := []) (pc' := 181) dL_any_178 rfl (goodW 560 (by decide +kernel) rfl) kX_L_deed kS_L_deed ⟨by decide, by decide, (by show 48 ≤ 48; omega), (by show 8234 ≤ 8234; omega), by decide⟩ rfl rfl (Nat.le_of_ble_eq_true rfl) (MM.mono ?_ h151)
                        intro o g158 d159 h156
                        rcases o with v157 | k
                        · refine mw_top (fun hT => ?_)
                          have hG : 65 ≤ g158.2.1 := hT.2
                          show MW mL_any 0 0 181 [(0, vR 0), (1, (5, 0)), (2, vI x2), (3, vI (v2 + 1))] [vI v157] g158 d159 Q
                          exact mw_iret (pc' := 0) (S := []) dL_any_181 rfl (Or.inl rfl) h156
                        · exact mx_out rfl h156
                      · exact mx_out rfl h151
                    · exact mx_out rfl h145
                  · replace h6 := h6.2 c142
                    by_cases c160 : v7 = 7
                    · replace h6 := h6.1 c160
                      refine mw_tabIn (pc' := 0) (off := 168) (tgt := 182) dL_any_14 (by omega) (by rw [c160]; rfl) (by decide) ?_
                      refine mw_aload_n (v := vR 0) (pc' := 183) dL_any_182 rfl rfl (Or.inl rfl) rfl ?_
                      refine mw_bipush (pc' := 185) dL_any_183 rfl ⟨by decide, by decide⟩ ?_
                      refine mw_aload_n (v := (5, 0)) (pc' := 186) dL_any_185 rfl rfl (Or.inr (Or.inl rfl)) rfl ?_
                      refine mw_iload_n (pc' := 187) dL_any_186 rfl rfl rfl ?_
                      refine mw_iconst (pc' := 188) dL_any_187 rfl ⟨by decide, by decide⟩ ?_
                      obtain ⟨o161, h6⟩ := h6
                      refine mw_iadd (pc' := 189) dL_any_188 rfl o161 ?_
                      refine mw_iload_n (pc' := 190) dL_any_189 rfl rfl rfl ?_
                      refine mw_callS (M' := mL_pick) (A := [(5, 0), vI (x2 + 1), vI (v2 + 1)]) (S := [vI 6, vR 0]) (pc' := 193) dL_any_190 rfl cl_RL_223 cm_L_pick cs_L_pick ⟨by decide, by decide, (by show 0 ≤ 48; omega), (by show 0 ≤ 8234; omega), by decide⟩ rfl rfl (Nat.le_of_ble_eq_true rfl) (MM.mono ?_ h6)
                      intro o g164 d165 h162
                      rcases o with v163 | k
                      · refine mw_top (fun hT => ?_)
                        have hG : 65 ≤ g164.2.1 := hT.2
                        show MW mL_any 48 8234 193 [(0, vR 0), (1, (5, 0)), (2, vI x2), (3, vI (v2 + 1))] [vI v163, vI 6, vR 0] g164 d165 Q
                        refine mw_iconst (pc' := 194) dL_any_193 rfl ⟨by decide, by decide⟩ ?_
                        refine mw_aload_n (v := (5, 0)) (pc' := 195) dL_any_194 rfl rfl (Or.inr (Or.inl rfl)) rfl ?_
                        refine mw_iload_n (pc' := 196) dL_any_195 rfl rfl rfl ?_
                        refine mw_iconst (pc' := 197) dL_any_196 rfl ⟨by decide, by decide⟩ ?_
                        obtain ⟨o166, h162⟩ := h162
                        refine mw_iadd (pc' := 198) dL_any_197 rfl o166 ?_
                        refine mw_bipush (pc' := 200) dL_any_198 rfl ⟨by decide, by decide⟩ ?_
                        refine mw_callS (M' := mL_pick) (A := [(5, 0), vI (x2 + 2), vI 28]) (S := [vI 1, vI v163, vI 6, vR 0]) (pc' := 203) dL_any_200 rfl cl_RL_223 cm_L_pick cs_L_pick ⟨by decide, by decide, (by show 0 ≤ 48; omega), (by show 0 ≤ 8234; omega), by decide⟩ rfl rfl (Nat.le_of_ble_eq_true rfl) (MM.mono ?_ h162)
                        intro o g169 d170 h167
                        rcases o with v168 | k
                        · refine mw_top (fun hT => ?_)
                          have hG : 65 ≤ g169.2.1 := hT.2
                          show MW mL_any 48 8234 203 [(0, vR 0), (1, (5, 0)), (2, vI x2), (3, vI (v2 + 1))] [vI v168, vI 1, vI v163, vI 6, vR 0] g169 d170 Q
                          obtain ⟨o171, h167⟩ := h167
                          refine mw_iadd (pc' := 204) dL_any_203 rfl o171 ?_
                          refine mw_iconst (pc' := 205) dL_any_204 rfl ⟨by decide, by decide⟩ ?_
                          refine mw_callSX (M' := mL_deed) (A := [vR 0, vI 6, vI v163, vI (1 + v168), vI 0]) (S := []) (pc' := 208) dL_any_205 rfl (goodW 560 (by decide +kernel) rfl) kX_L_deed kS_L_deed ⟨by decide, by decide, (by show 48 ≤ 48; omega), (by show 8234 ≤ 8234; omega), by decide⟩ rfl rfl (Nat.le_of_ble_eq_true rfl) (MM.mono ?_ h167)
                          intro o g174 d175 h172
                          rcases o with v173 | k
                          · refine mw_top (fun hT => ?_)
                            have hG : 65 ≤ g174.2.1 := hT.2
                            show MW mL_any 0 0 208 [(0, vR 0), (1, (5, 0)), (2, vI x2), (3, vI (v2 + 1))] [vI v173] g174 d175 Q
                            exact mw_iret (pc' := 0) (S := []) dL_any_208 rfl (Or.inl rfl) h172
                          · exact mx_out rfl h172
                        · exact mx_out rfl h167
                      · exact mx_out rfl h162
                    · replace h6 := h6.2 c160
                      by_cases c176 : v7 = 8
                      · replace h6 := h6.1 c176
                        refine mw_tabIn (pc' := 0) (off := 195) (tgt := 209) dL_any_14 (by omega) (by rw [c176]; rfl) (by decide) ?_
                        refine mw_aload_n (v := vR 0) (pc' := 210) dL_any_209 rfl rfl (Or.inl rfl) rfl ?_
                        refine mw_bipush (pc' := 212) dL_any_210 rfl ⟨by decide, by decide⟩ ?_
                        refine mw_aload_n (v := (5, 0)) (pc' := 213) dL_any_212 rfl rfl (Or.inr (Or.inl rfl)) rfl ?_
                        refine mw_iload_n (pc' := 214) dL_any_213 rfl rfl rfl ?_
                        refine mw_iconst (pc' := 215) dL_any_214 rfl ⟨by decide, by decide⟩ ?_
                        obtain ⟨o177, h6⟩ := h6
                        refine mw_iadd (pc' := 216) dL_any_215 rfl o177 ?_
                        refine mw_iload_n (pc' := 217) dL_any_216 rfl rfl rfl ?_
                        refine mw_callS (M' := mL_pick) (A := [(5, 0), vI (x2 + 1), vI (v2 + 1)]) (S := [vI 7, vR 0]) (pc' := 220) dL_any_217 rfl cl_RL_223 cm_L_pick cs_L_pick ⟨by decide, by decide, (by show 0 ≤ 48; omega), (by show 0 ≤ 8234; omega), by decide⟩ rfl rfl (Nat.le_of_ble_eq_true rfl) (MM.mono ?_ h6)
                        intro o g180 d181 h178
                        rcases o with v179 | k
                        · refine mw_top (fun hT => ?_)
                          have hG : 65 ≤ g180.2.1 := hT.2
                          show MW mL_any 48 8234 220 [(0, vR 0), (1, (5, 0)), (2, vI x2), (3, vI (v2 + 1))] [vI v179, vI 7, vR 0] g180 d181 Q
                          refine mw_iconst (pc' := 221) dL_any_220 rfl ⟨by decide, by decide⟩ ?_
                          refine mw_aload_n (v := (5, 0)) (pc' := 222) dL_any_221 rfl rfl (Or.inr (Or.inl rfl)) rfl ?_
                          refine mw_iload_n (pc' := 223) dL_any_222 rfl rfl rfl ?_
                          refine mw_iconst (pc' := 224) dL_any_223 rfl ⟨by decide, by decide⟩ ?_
                          obtain ⟨o182, h178⟩ := h178
                          refine mw_iadd (pc' := 225) dL_any_224 rfl o182 ?_
                          refine mw_bipush (pc' := 227) dL_any_225 rfl ⟨by decide, by decide⟩ ?_
                          refine mw_callS (M' := mL_pick) (A := [(5, 0), vI (x2 + 2), vI 100]) (S := [vI 1, vI v179, vI 7, vR 0]) (pc' := 230) dL_any_227 rfl cl_RL_223 cm_L_pick cs_L_pick ⟨by decide, by decide, (by show 0 ≤ 48; omega), (by show 0 ≤ 8234; omega), by decide⟩ rfl rfl (Nat.le_of_ble_eq_true rfl) (MM.mono ?_ h178)
                          intro o g185 d186 h183
                          rcases o with v184 | k
                          · refine mw_top (fun hT => ?_)
                            have hG : 65 ≤ g185.2.1 := hT.2
                            show MW mL_any 48 8234 230 [(0, vR 0), (1, (5, 0)), (2, vI x2), (3, vI (v2 + 1))] [vI v184, vI 1, vI v179, vI 7, vR 0] g185 d186 Q
                            obtain ⟨o187, h183⟩ := h183
                            refine mw_iadd (pc' := 231) dL_any_230 rfl o187 ?_
                            refine mw_iconst (pc' := 232) dL_any_231 rfl ⟨by decide, by decide⟩ ?_
                            refine mw_callSX (M' := mL_deed) (A := [vR 0, vI 7, vI v179, vI (1 + v184), vI 0]) (S := []) (pc' := 235) dL_any_232 rfl (goodW 560 (by decide +kernel) rfl) kX_L_deed kS_L_deed ⟨by decide, by decide, (by show 48 ≤ 48; omega), (by show 8234 ≤ 8234; omega), by decide⟩ rfl rfl (Nat.le_of_ble_eq_true rfl) (MM.mono ?_ h183)
                            intro o g190 d191 h188
                            rcases o with v189 | k
                            · refine mw_top (fun hT => ?_)
                              have hG : 65 ≤ g190.2.1 := hT.2
                              show MW mL_any 0 0 235 [(0, vR 0), (1, (5, 0)), (2, vI x2), (3, vI (v2 + 1))] [vI v189] g190 d191 Q
                              exact mw_iret (pc' := 0) (S := []) dL_any_235 rfl (Or.inl rfl) h188
                            · exact mx_out rfl h188
                          · exact mx_out rfl h183
                        · exact mx_out rfl h178
                      · replace h6 := h6.2 c176
                        by_cases c192 : v7 = 9
                        · replace h6 := h6.1 c192
                          refine mw_tabIn (pc' := 0) (off := 222) (tgt := 236) dL_any_14 (by omega) (by rw [c192]; rfl) (by decide) ?_
                          refine mw_aload_n (v := vR 0) (pc' := 237) dL_any_236 rfl rfl (Or.inl rfl) rfl ?_
                          refine mw_bipush (pc' := 239) dL_any_237 rfl ⟨by decide, by decide⟩ ?_
                          refine mw_aload_n (v := (5, 0)) (pc' := 240) dL_any_239 rfl rfl (Or.inr (Or.inl rfl)) rfl ?_
                          refine mw_iload_n (pc' := 241) dL_any_240 rfl rfl rfl ?_
                          refine mw_iconst (pc' := 242) dL_any_241 rfl ⟨by decide, by decide⟩ ?_
                          obtain ⟨o193, h6⟩ := h6
                          refine mw_iadd (pc' := 243) dL_any_242 rfl o193 ?_
                          refine mw_iload_n (pc' := 244) dL_any_243 rfl rfl rfl ?_
                          refine mw_callS (M' := mL_pick) (A := [(5, 0), vI (x2 + 1), vI (v2 + 1)]) (S := [vI 8, vR 0]) (pc' := 247) dL_any_244 rfl cl_RL_223 cm_L_pick cs_L_pick ⟨by decide, by decide, (by show 0 ≤ 48; omega), (by show 0 ≤ 8234; omega), by decide⟩ rfl rfl (Nat.le_of_ble_eq_true rfl) (MM.mono ?_ h6)
                          intro o g196 d197 h194
                          rcases o with v195 | k
                          · refine mw_top (fun hT => ?_)
                            have hG : 65 ≤ g196.2.1 := hT.2
                            show MW mL_any 48 8234 247 [(0, vR 0), (1, (5, 0)), (2, vI x2), (3, vI (v2 + 1))] [vI v195, vI 8, vR 0] g196 d197 Q
                            refine mw_iconst (pc' := 248) dL_any_247 rfl ⟨by decide, by decide⟩ ?_
                            refine mw_iconst (pc' := 249) dL_any_248 rfl ⟨by decide, by decide⟩ ?_
                            refine mw_callSX (M' := mL_deed) (A := [vR 0, vI 8, vI v195, vI 0, vI 0]) (S := []) (pc' := 252) dL_any_249 rfl (goodW 560 (by decide +kernel) rfl) kX_L_deed kS_L_deed ⟨by decide, by decide, (by show 48 ≤ 48; omega), (by show 8234 ≤ 8234; omega), by decide⟩ rfl rfl (Nat.le_of_ble_eq_true rfl) (MM.mono ?_ h194)
                            intro o g200 d201 h198
                            rcases o with v199 | k
                            · refine mw_top (fun hT => ?_)
                              have hG : 65 ≤ g200.2.1 := hT.2
                              show MW mL_any 0 0 252 [(0, vR 0), (1, (5, 0)), (2, vI x2), (3, vI (v2 + 1))] [vI v199] g200 d201 Q
                              exact mw_iret (pc' := 0) (S := []) dL_any_252 rfl (Or.inl rfl) h198
                            · exact mx_out rfl h198
                          · exact mx_out rfl h194
                        · replace h6 := h6.2 c192
                          by_cases c202 : v7 = 10
                          · replace h6 := h6.1 c202
                            refine mw_tabIn (pc' := 0) (off := 239) (tgt := 253) dL_any_14 (by omega) (by rw [c202]; rfl) (by decide) ?_
                            refine mw_aload_n (v := vR 0) (pc' := 254) dL_any_253 rfl rfl (Or.inl rfl) rfl ?_
                            refine mw_bipush (pc' := 256) dL_any_254 rfl ⟨by decide, by decide⟩ ?_
                            refine mw_aload_n (v := (5, 0)) (pc' := 257) dL_any_256 rfl rfl (Or.inr (Or.inl rfl)) rfl ?_
                            refine mw_iload_n (pc' := 258) dL_any_257 rfl rfl rfl ?_
                            refine mw_iconst (pc' := 259) dL_any_258 rfl ⟨by decide, by decide⟩ ?_
                            obtain ⟨o203, h6⟩ := h6
                            refine mw_iadd (pc' := 260) dL_any_259 rfl o203 ?_
                            refine mw_iload_n (pc' := 261) dL_any_260 rfl rfl rfl ?_
                            refine mw_callS (M' := mL_pick) (A := [(5, 0), vI (x2 + 1), vI (v2 + 1)]) (S := [vI 9, vR 0]) (pc' := 264) dL_any_261 rfl cl_RL_223 cm_L_pick cs_L_pick ⟨by decide, by decide, (by show 0 ≤ 48; omega), (by show 0 ≤ 8234; omega), by decide⟩ rfl rfl (Nat.le_of_ble_eq_true rfl) (MM.mono ?_ h6)
                            intro o g206 d207 h204
                            rcases o with v205 | k
                            · refine mw_top (fun hT => ?_)
                              have hG : 65 ≤ g206.2.1 := hT.2
                              show MW mL_any 48 8234 264 [(0, vR 0), (1, (5, 0)), (2, vI x2), (3, vI (v2 + 1))] [vI v205, vI 9, vR 0] g206 d207 Q
                              refine mw_iconst (pc' := 265) dL_any_264 rfl ⟨by decide, by decide⟩ ?_
                              refine mw_iconst (pc' := 266) dL_any_265 rfl ⟨by decide, by decide⟩ ?_
                              refine mw_callSX (M' := mL_deed) (A := [vR 0, vI 9, vI v205, vI 0, vI 0]) (S := []) (pc' := 269) dL_any_266 rfl (goodW 560 (by decide +kernel) rfl) kX_L_deed kS_L_deed ⟨by decide, by decide, (by show 48 ≤ 48; omega), (by show 8234 ≤ 8234; omega), by decide⟩ rfl rfl (Nat.le_of_ble_eq_true rfl) (MM.mono ?_ h204)
                              intro o g210 d211 h208
                              rcases o with v209 | k
                              · refine mw_top (fun hT => ?_)
                                have hG : 65 ≤ g210.2.1 := hT.2
                                show MW mL_any 0 0 269 [(0, vR 0), (1, (5, 0)), (2, vI x2), (3, vI (v2 + 1))] [vI v209] g210 d211 Q
                                exact mw_iret (pc' := 0) (S := []) dL_any_269 rfl (Or.inl rfl) h208
                              · exact mx_out rfl h208
                            · exact mx_out rfl h204
                          · replace h6 := h6.2 c202
                            by_cases c212 : v7 = 11
                            · replace h6 := h6.1 c212
                              refine mw_tabIn (pc' := 0) (off := 256) (tgt := 270) dL_any_14 (by omega) (by rw [c212]; rfl) (by decide) ?_
                              refine mw_aload_n (v := vR 0) (pc' := 271) dL_any_270 rfl rfl (Or.inl rfl) rfl ?_
                              refine mw_bipush (pc' := 273) dL_any_271 rfl ⟨by decide, by decide⟩ ?_
                              refine mw_aload_n (v := (5, 0)) (pc' := 274) dL_any_273 rfl rfl (Or.inr (Or.inl rfl)) rfl ?_
                              refine mw_iload_n (pc' := 275) dL_any_274 rfl rfl rfl ?_
                              refine mw_iconst (pc' := 276) dL_any_275 rfl ⟨by decide, by decide⟩ ?_
                              obtain ⟨o213, h6⟩ := h6
                              refine mw_iadd (pc' := 277) dL_any_276 rfl o213 ?_
                              refine mw_iconst (pc' := 278) dL_any_277 rfl ⟨by decide, by decide⟩ ?_
                              refine mw_callS (M' := mL_pick) (A := [(5, 0), vI (x2 + 1), vI 3]) (S := [vI 10, vR 0]) (pc' := 281) dL_any_278 rfl cl_RL_223 cm_L_pick cs_L_pick ⟨by decide, by decide, (by show 0 ≤ 48; omega), (by show 0 ≤ 8234; omega), by decide⟩ rfl rfl (Nat.le_of_ble_eq_true rfl) (MM.mono ?_ h6)
                              intro o g216 d217 h214
                              rcases o with v215 | k
                              · refine mw_top (fun hT => ?_)
                                have hG : 65 ≤ g216.2.1 := hT.2
                                show MW mL_any 48 8234 281 [(0, vR 0), (1, (5, 0)), (2, vI x2), (3, vI (v2 + 1))] [vI v215, vI 10, vR 0] g216 d217 Q
                                refine mw_iconst (pc' := 282) dL_any_281 rfl ⟨by decide, by decide⟩ ?_
                                refine mw_aload_n (v := (5, 0)) (pc' := 283) dL_any_282 rfl rfl (Or.inr (Or.inl rfl)) rfl ?_
                                refine mw_iload_n (pc' := 284) dL_any_283 rfl rfl rfl ?_
                                refine mw_iconst (pc' := 285) dL_any_284 rfl ⟨by decide, by decide⟩ ?_
                                obtain ⟨o218, h214⟩ := h214
                                refine mw_iadd (pc' := 286) dL_any_285 rfl o218 ?_
                                refine mw_sipush (pc' := 289) dL_any_286 rfl ⟨by decide, by decide⟩ ?_
                                refine mw_callS (M' := mL_pick) (A := [(5, 0), vI (x2 + 2), vI 255]) (S := [vI 1, vI v215, vI 10, vR 0]) (pc' := 292) dL_any_289 rfl cl_RL_223 cm_L_pick cs_L_pick ⟨by decide, by decide, (by show 0 ≤ 48; omega), (by show 0 ≤ 8234; omega), by decide⟩ rfl rfl (Nat.le_of_ble_eq_true rfl) (MM.mono ?_ h214)
                                intro o g221 d222 h219
                                rcases o with v220 | k
                                · refine mw_top (fun hT => ?_)
                                  have hG : 65 ≤ g221.2.1 := hT.2
                                  show MW mL_any 48 8234 292 [(0, vR 0), (1, (5, 0)), (2, vI x2), (3, vI (v2 + 1))] [vI v220, vI 1, vI v215, vI 10, vR 0] g221 d222 Q
                                  obtain ⟨o223, h219⟩ := h219
                                  refine mw_iadd (pc' := 293) dL_any_292 rfl o223 ?_
                                  refine mw_iconst (pc' := 294) dL_any_293 rfl ⟨by decide, by decide⟩ ?_
                                  refine mw_callSX (M' := mL_deed) (A := [vR 0, vI 10, vI v215, vI (1 + v220), vI 0]) (S := []) (pc' := 297) dL_any_294 rfl (goodW 560 (by decide +kernel) rfl) kX_L_deed kS_L_deed ⟨by decide, by decide, (by show 48 ≤ 48; omega), (by show 8234 ≤ 8234; omega), by decide⟩ rfl rfl (Nat.le_of_ble_eq_true rfl) (MM.mono ?_ h219)
                                  intro o g226 d227 h224
                                  rcases o with v225 | k
                                  · refine mw_top (fun hT => ?_)
                                    have hG : 65 ≤ g226.2.1 := hT.2
                                    show MW mL_any 0 0 297 [(0, vR 0), (1, (5, 0)), (2, vI x2), (3, vI (v2 + 1))] [vI v225] g226 d227 Q
                                    exact mw_iret (pc' := 0) (S := []) dL_any_297 rfl (Or.inl rfl) h224
                                  · exact mx_out rfl h224
                                · exact mx_out rfl h219
                              · exact mx_out rfl h214
                            · replace h6 := h6.2 c212
                              by_cases c228 : v7 = 12
                              · replace h6 := h6.1 c228
                                refine mw_tabIn (pc' := 0) (off := 256) (tgt := 270) dL_any_14 (by omega) (by rw [c228]; rfl) (by decide) ?_
                                refine mw_aload_n (v := vR 0) (pc' := 271) dL_any_270 rfl rfl (Or.inl rfl) rfl ?_
                                refine mw_bipush (pc' := 273) dL_any_271 rfl ⟨by decide, by decide⟩ ?_
                                refine mw_aload_n (v := (5, 0)) (pc' := 274) dL_any_273 rfl rfl (Or.inr (Or.inl rfl)) rfl ?_
                                refine mw_iload_n (pc' := 275) dL_any_274 rfl rfl rfl ?_
                                refine mw_iconst (pc' := 276) dL_any_275 rfl ⟨by decide, by decide⟩ ?_
                                obtain ⟨o229, h6⟩ := h6
                                refine mw_iadd (pc' := 277) dL_any_276 rfl o229 ?_
                                refine mw_iconst (pc' := 278) dL_any_277 rfl ⟨by decide, by decide⟩ ?_
                                refine mw_callS (M' := mL_pick) (A := [(5, 0), vI (x2 + 1), vI 3]) (S := [vI 10, vR 0]) (pc' := 281) dL_any_278 rfl cl_RL_223 cm_L_pick cs_L_pick ⟨by decide, by decide, (by show 0 ≤ 48; omega), (by show 0 ≤ 8234; omega), by decide⟩ rfl rfl (Nat.le_of_ble_eq_true rfl) (MM.mono ?_ h6)
                                intro o g232 d233 h230
                                rcases o with v231 | k
                                · refine mw_top (fun hT => ?_)
                                  have hG : 65 ≤ g232.2.1 := hT.2
                                  show MW mL_any 48 8234 281 [(0, vR 0), (1, (5, 0)), (2, vI x2), (3, vI (v2 + 1))] [vI v231, vI 10, vR 0] g232 d233 Q
                                  refine mw_iconst (pc' := 282) dL_any_281 rfl ⟨by decide, by decide⟩ ?_
                                  refine mw_aload_n (v := (5, 0)) (pc' := 283) dL_any_282 rfl rfl (Or.inr (Or.inl rfl)) rfl ?_
                                  refine mw_iload_n (pc' := 284) dL_any_283 rfl rfl rfl ?_
                                  refine mw_iconst (pc' := 285) dL_any_284 rfl ⟨by decide, by decide⟩ ?_
                                  obtain ⟨o234, h230⟩ := h230
                                  refine mw_iadd (pc' := 286) dL_any_285 rfl o234 ?_
                                  refine mw_sipush (pc' := 289) dL_any_286 rfl ⟨by decide, by decide⟩ ?_
                                  refine mw_callS (M' := mL_pick) (A := [(5, 0), vI (x2 + 2), vI 255]) (S := [vI 1, vI v231, vI 10, vR 0]) (pc' := 292) dL_any_289 rfl cl_RL_223 cm_L_pick cs_L_pick ⟨by decide, by decide, (by show 0 ≤ 48; omega), (by show 0 ≤ 8234; omega), by decide⟩ rfl rfl (Nat.le_of_ble_eq_true rfl) (MM.mono ?_ h230)
                                  intro o g237 d238 h235
                                  rcases o with v236 | k
                                  · refine mw_top (fun hT => ?_)
                                    have hG : 65 ≤ g237.2.1 := hT.2
                                    show MW mL_any 48 8234 292 [(0, vR 0), (1, (5, 0)), (2, vI x2), (3, vI (v2 + 1))] [vI v236, vI 1, vI v231, vI 10, vR 0] g237 d238 Q
                                    obtain ⟨o239, h235⟩ := h235
                                    refine mw_iadd (pc' := 293) dL_any_292 rfl o239 ?_
                                    refine mw_iconst (pc' := 294) dL_any_293 rfl ⟨by decide, by decide⟩ ?_
                                    refine mw_callSX (M' := mL_deed) (A := [vR 0, vI 10, vI v231, vI (1 + v236), vI 0]) (S := []) (pc' := 297) dL_any_294 rfl (goodW 560 (by decide +kernel) rfl) kX_L_deed kS_L_deed ⟨by decide, by decide, (by show 48 ≤ 48; omega), (by show 8234 ≤ 8234; omega), by decide⟩ rfl rfl (Nat.le_of_ble_eq_true rfl) (MM.mono ?_ h235)
                                    intro o g242 d243 h240
                                    rcases o with v241 | k
                                    · refine mw_top (fun hT => ?_)
                                      have hG : 65 ≤ g242.2.1 := hT.2
                                      show MW mL_any 0 0 297 [(0, vR 0), (1, (5, 0)), (2, vI x2), (3, vI (v2 + 1))] [vI v241] g242 d243 Q
                                      exact mw_iret (pc' := 0) (S := []) dL_any_297 rfl (Or.inl rfl) h240
                                    · exact mx_out rfl h240
                                  · exact mx_out rfl h235
                                · exact mx_out rfl h230
                              · replace h6 := h6.2 c228
                                by_cases c244 : v7 = 13
                                · replace h6 := h6.1 c244
                                  refine mw_tabIn (pc' := 0) (off := 284) (tgt := 298) dL_any_14 (by omega) (by rw [c244]; rfl) (by decide) ?_
                                  refine mw_aload_n (v := vR 0) (pc' := 299) dL_any_298 rfl rfl (Or.inl rfl) rfl ?_
                                  refine mw_bipush (pc' := 301) dL_any_299 rfl ⟨by decide, by decide⟩ ?_
                                  refine mw_iconst (pc' := 302) dL_any_301 rfl ⟨by decide, by decide⟩ ?_
                                  refine mw_aload_n (v := (5, 0)) (pc' := 303) dL_any_302 rfl rfl (Or.inr (Or.inl rfl)) rfl ?_
                                  refine mw_iload_n (pc' := 304) dL_any_303 rfl rfl rfl ?_
                                  refine mw_iconst (pc' := 305) dL_any_304 rfl ⟨by decide, by decide⟩ ?_
                                  obtain ⟨o245, h6⟩ := h6
                                  refine mw_iadd (pc' := 306) dL_any_305 rfl o245 ?_
                                  refine mw_sipush (pc' := 309) dL_any_306 rfl ⟨by decide, by decide⟩ ?_
                                  refine mw_callS (M' := mL_pick) (A := [(5, 0), vI (x2 + 1), vI 255]) (S := [vI 1, vI 11, vR 0]) (pc' := 312) dL_any_309 rfl cl_RL_223 cm_L_pick cs_L_pick ⟨by decide, by decide, (by show 0 ≤ 48; omega), (by show 0 ≤ 8234; omega), by decide⟩ rfl rfl (Nat.le_of_ble_eq_true rfl) (MM.mono ?_ h6)
                                  intro o g248 d249 h246
                                  rcases o with v247 | k
                                  · refine mw_top (fun hT => ?_)
                                    have hG : 65 ≤ g248.2.1 := hT.2
                                    show MW mL_any 48 8234 312 [(0, vR 0), (1, (5, 0)), (2, vI x2), (3, vI (v2 + 1))] [vI v247, vI 1, vI 11, vR 0] g248 d249 Q
                                    obtain ⟨o250, h246⟩ := h246
                                    refine mw_iadd (pc' := 313) dL_any_312 rfl o250 ?_
                                    refine mw_iconst (pc' := 314) dL_any_313 rfl ⟨by decide, by decide⟩ ?_
                                    refine mw_iconst (pc' := 315) dL_any_314 rfl ⟨by decide, by decide⟩ ?_
                                    refine mw_callSX (M' := mL_deed) (A := [vR 0, vI 11, vI (1 + v247), vI 0, vI 0]) (S := []) (pc' := 318) dL_any_315 rfl (goodW 560 (by decide +kernel) rfl) kX_L_deed kS_L_deed ⟨by decide, by decide, (by show 48 ≤ 48; omega), (by show 8234 ≤ 8234; omega), by decide⟩ rfl rfl (Nat.le_of_ble_eq_true rfl) (MM.mono ?_ h246)
                                    intro o g253 d254 h251
                                    rcases o with v252 | k
                                    · refine mw_top (fun hT => ?_)
                                      have hG : 65 ≤ g253.2.1 := hT.2
                                      show MW mL_any 0 0 318 [(0, vR 0), (1, (5, 0)), (2, vI x2), (3, vI (v2 + 1))] [vI v252] g253 d254 Q
                                      exact mw_iret (pc' := 0) (S := []) dL_any_318 rfl (Or.inl rfl) h251
                                    · exact mx_out rfl h251
                                  · exact mx_out rfl h246
                                · replace h6 := h6.2 c244
                                  by_cases c255 : v7 = 14
                                  · replace h6 := h6.1 c255
                                    refine mw_tabIn (pc' := 0) (off := 305) (tgt := 319) dL_any_14 (by omega) (by rw [c255]; rfl) (by decide) ?_
                                    refine mw_aload_n (v := vR 0) (pc' := 320) dL_any_319 rfl rfl (Or.inl rfl) rfl ?_
                                    refine mw_bipush (pc' := 322) dL_any_320 rfl ⟨by decide, by decide⟩ ?_
                                    refine mw_aload_n (v := (5, 0)) (pc' := 323) dL_any_322 rfl rfl (Or.inr (Or.inl rfl)) rfl ?_
                                    refine mw_iload_n (pc' := 324) dL_any_323 rfl rfl rfl ?_
                                    refine mw_iconst (pc' := 325) dL_any_324 rfl ⟨by decide, by decide⟩ ?_
                                    obtain ⟨o256, h6⟩ := h6
                                    refine mw_iadd (pc' := 326) dL_any_325 rfl o256 ?_
                                    refine mw_bipush (pc' := 328) dL_any_326 rfl ⟨by decide, by decide⟩ ?_
                                    refine mw_callS (M' := mL_pick) (A := [(5, 0), vI (x2 + 1), vI 6]) (S := [vI 12, vR 0]) (pc' := 331) dL_any_328 rfl cl_RL_223 cm_L_pick cs_L_pick ⟨by decide, by decide, (by show 0 ≤ 48; omega), (by show 0 ≤ 8234; omega), by decide⟩ rfl rfl (Nat.le_of_ble_eq_true rfl) (MM.mono ?_ h6)
                                    intro o g259 d260 h257
                                    rcases o with v258 | k
                                    · refine mw_top (fun hT => ?_)
                                      have hG : 65 ≤ g259.2.1 := hT.2
                                      show MW mL_any 48 8234 331 [(0, vR 0), (1, (5, 0)), (2, vI x2), (3, vI (v2 + 1))] [vI v258, vI 12, vR 0] g259 d260 Q
                                      refine mw_iconst (pc' := 332) dL_any_331 rfl ⟨by decide, by decide⟩ ?_
                                      refine mw_iconst (pc' := 333) dL_any_332 rfl ⟨by decide, by decide⟩ ?_
                                      refine mw_callSX (M' := mL_deed) (A := [vR 0, vI 12, vI v258, vI 0, vI 0]) (S := []) (pc' := 336) dL_any_333 rfl (goodW 560 (by decide +kernel) rfl) kX_L_deed kS_L_deed ⟨by decide, by decide, (by show 48 ≤ 48; omega), (by show 8234 ≤ 8234; omega), by decide⟩ rfl rfl (Nat.le_of_ble_eq_true rfl) (MM.mono ?_ h257)
                                      intro o g263 d264 h261
                                      rcases o with v262 | k
                                      · refine mw_top (fun hT => ?_)
                                        have hG : 65 ≤ g263.2.1 := hT.2
                                        show MW mL_any 0 0 336 [(0, vR 0), (1, (5, 0)), (2, vI x2), (3, vI (v2 + 1))] [vI v262] g263 d264 Q
                                        exact mw_iret (pc' := 0) (S := []) dL_any_336 rfl (Or.inl rfl) h261
                                      · exact mx_out rfl h261
                                    · exact mx_out rfl h257
                                  · replace h6 := h6.2 c255
                                    by_cases c265 : v7 = 15
                                    · replace h6 := h6.1 c265
                                      refine mw_tabIn (pc' := 0) (off := 305) (tgt := 319) dL_any_14 (by omega) (by rw [c265]; rfl) (by decide) ?_
                                      refine mw_aload_n (v := vR 0) (pc' := 320) dL_any_319 rfl rfl (Or.inl rfl) rfl ?_
                                      refine mw_bipush (pc' := 322) dL_any_320 rfl ⟨by decide, by decide⟩ ?_
                                      refine mw_aload_n (v := (5, 0)) (pc' := 323) dL_any_322 rfl rfl (Or.inr (Or.inl rfl)) rfl ?_
                                      refine mw_iload_n (pc' := 324) dL_any_323 rfl rfl rfl ?_
                                      refine mw_iconst (pc' := 325) dL_any_324 rfl ⟨by decide, by decide⟩ ?_
                                      obtain ⟨o266, h6⟩ := h6
                                      refine mw_iadd (pc' := 326) dL_any_325 rfl o266 ?_
                                      refine mw_bipush (pc' := 328) dL_any_326 rfl ⟨by decide, by decide⟩ ?_
                                      refine mw_callS (M' := mL_pick) (A := [(5, 0), vI (x2 + 1), vI 6]) (S := [vI 12, vR 0]) (pc' := 331) dL_any_328 rfl cl_RL_223 cm_L_pick cs_L_pick ⟨by decide, by decide, (by show 0 ≤ 48; omega), (by show 0 ≤ 8234; omega), by decide⟩ rfl rfl (Nat.le_of_ble_eq_true rfl) (MM.mono ?_ h6)
                                      intro o g269 d270 h267
                                      rcases o with v268 | k
                                      · refine mw_top (fun hT => ?_)
                                        have hG : 65 ≤ g269.2.1 := hT.2
                                        show MW mL_any 48 8234 331 [(0, vR 0), (1, (5, 0)), (2, vI x2), (3, vI (v2 + 1))] [vI v268, vI 12, vR 0] g269 d270 Q
                                        refine mw_iconst (pc' := 332) dL_any_331 rfl ⟨by decide, by decide⟩ ?_
                                        refine mw_iconst (pc' := 333) dL_any_332 rfl ⟨by decide, by decide⟩ ?_
                                        refine mw_callSX (M' := mL_deed) (A := [vR 0, vI 12, vI v268, vI 0, vI 0]) (S := []) (pc' := 336) dL_any_333 rfl (goodW 560 (by decide +kernel) rfl) kX_L_deed kS_L_deed ⟨by decide, by decide, (by show 48 ≤ 48; omega), (by show 8234 ≤ 8234; omega), by decide⟩ rfl rfl (Nat.le_of_ble_eq_true rfl) (MM.mono ?_ h267)
                                        intro o g273 d274 h271
                                        rcases o with v272 | k
                                        · refine mw_top (fun hT => ?_)
                                          have hG : 65 ≤ g273.2.1 := hT.2
                                          show MW mL_any 0 0 336 [(0, vR 0), (1, (5, 0)), (2, vI x2), (3, vI (v2 + 1))] [vI v272] g273 d274 Q
                                          exact mw_iret (pc' := 0) (S := []) dL_any_336 rfl (Or.inl rfl) h271
                                        · exact mx_out rfl h271
                                      · exact mx_out rfl h267
                                    · replace h6 := h6.2 c265
                                      by_cases c275 : v7 = 16
                                      · replace h6 := h6.1 c275
                                        refine mw_tabIn (pc' := 0) (off := 305) (tgt := 319) dL_any_14 (by omega) (by rw [c275]; rfl) (by decide) ?_
                                        refine mw_aload_n (v := vR 0) (pc' := 320) dL_any_319 rfl rfl (Or.inl rfl) rfl ?_
                                        refine mw_bipush (pc' := 322) dL_any_320 rfl ⟨by decide, by decide⟩ ?_
                                        refine mw_aload_n (v := (5, 0)) (pc' := 323) dL_any_322 rfl rfl (Or.inr (Or.inl rfl)) rfl ?_
                                        refine mw_iload_n (pc' := 324) dL_any_323 rfl rfl rfl ?_
                                        refine mw_iconst (pc' := 325) dL_any_324 rfl ⟨by decide, by decide⟩ ?_
                                        obtain ⟨o276, h6⟩ := h6
                                        refine mw_iadd (pc' := 326) dL_any_325 rfl o276 ?_
                                        refine mw_bipush (pc' := 328) dL_any_326 rfl ⟨by decide, by decide⟩ ?_
                                        refine mw_callS (M' := mL_pick) (A := [(5, 0), vI (x2 + 1), vI 6]) (S := [vI 12, vR 0]) (pc' := 331) dL_any_328 rfl cl_RL_223 cm_L_pick cs_L_pick ⟨by decide, by decide, (by show 0 ≤ 48; omega), (by show 0 ≤ 8234; omega), by decide⟩ rfl rfl (Nat.le_of_ble_eq_true rfl) (MM.mono ?_ h6)
                                        intro o g279 d280 h277
                                        rcases o with v278 | k
                                        · refine mw_top (fun hT => ?_)
                                          have hG : 65 ≤ g279.2.1 := hT.2
                                          show MW mL_any 48 8234 331 [(0, vR 0), (1, (5, 0)), (2, vI x2), (3, vI (v2 + 1))] [vI v278, vI 12, vR 0] g279 d280 Q
                                          refine mw_iconst (pc' := 332) dL_any_331 rfl ⟨by decide, by decide⟩ ?_
                                          refine mw_iconst (pc' := 333) dL_any_332 rfl ⟨by decide, by decide⟩ ?_
                                          refine mw_callSX (M' := mL_deed) (A := [vR 0, vI 12, vI v278, vI 0, vI 0]) (S := []) (pc' := 336) dL_any_333 rfl (goodW 560 (by decide +kernel) rfl) kX_L_deed kS_L_deed ⟨by decide, by decide, (by show 48 ≤ 48; omega), (by show 8234 ≤ 8234; omega), by decide⟩ rfl rfl (Nat.le_of_ble_eq_true rfl) (MM.mono ?_ h277)
                                          intro o g283 d284 h281
                                          rcases o with v282 | k
                                          · refine mw_top (fun hT => ?_)
                                            have hG : 65 ≤ g283.2.1 := hT.2
                                            show MW mL_any 0 0 336 [(0, vR 0), (1, (5, 0)), (2, vI x2), (3, vI (v2 + 1))] [vI v282] g283 d284 Q
                                            exact mw_iret (pc' := 0) (S := []) dL_any_336 rfl (Or.inl rfl) h281
                                          · exact mx_out rfl h281
                                        · exact mx_out rfl h277
                                      · replace h6 := h6.2 c275
                                        by_cases c285 : v7 = 17
                                        · replace h6 := h6.1 c285
                                          refine mw_tabIn (pc' := 0) (off := 323) (tgt := 337) dL_any_14 (by omega) (by rw [c285]; rfl) (by decide) ?_
                                          refine mw_aload_n (v := vR 0) (pc' := 338) dL_any_337 rfl rfl (Or.inl rfl) rfl ?_
                                          refine mw_iconst (pc' := 339) dL_any_338 rfl ⟨by decide, by decide⟩ ?_
                                          refine mw_aload_n (v := vR 0) (pc' := 340) dL_any_339 rfl rfl (Or.inl rfl) rfl ?_
                                          refine mw_callV (M' := mX11_today) (A := []) (A' := [vR 0]) (S := [vI 1, vR 0]) (a := 0) (pc' := 343) dL_any_340 rfl cl_RL_233 cm_X11_today cv_X11_today ⟨by decide, by decide, (by show 0 ≤ 48; omega), (by show 0 ≤ 8234; omega), by decide⟩ rfl rfl rfl ⟨by decide, by omega⟩ (by decide +kernel) (by decide +kernel) (Nat.le_of_ble_eq_true rfl) (MM.mono ?_ h6)
                                          intro o g288 d289 h286
                                          rcases o with v287 | k
                                          · refine mw_top (fun hT => ?_)
                                            have hG : 65 ≤ g288.2.1 := hT.2
                                            show MW mL_any 48 8234 343 [(0, vR 0), (1, (5, 0)), (2, vI x2), (3, vI (v2 + 1))] [vI v287, vI 1, vR 0] g288 d289 Q
                                            refine mw_aload_n (v := (5, 0)) (pc' := 344) dL_any_343 rfl rfl (Or.inr (Or.inl rfl)) rfl ?_
                                            refine mw_iload_n (pc' := 345) dL_any_344 rfl rfl rfl ?_
                                            refine mw_iconst (pc' := 346) dL_any_345 rfl ⟨by decide, by decide⟩ ?_
                                            obtain ⟨o290, h286⟩ := h286
                                            refine mw_iadd (pc' := 347) dL_any_346 rfl o290 ?_
                                            refine mw_bipush (pc' := 349) dL_any_347 rfl ⟨by decide, by decide⟩ ?_
                                            refine mw_callS (M' := mL_pick) (A := [(5, 0), vI (x2 + 1), vI 40]) (S := [vI v287, vI 1, vR 0]) (pc' := 352) dL_any_349 rfl cl_RL_223 cm_L_pick cs_L_pick ⟨by decide, by decide, (by show 0 ≤ 48; omega), (by show 0 ≤ 8234; omega), by decide⟩ rfl rfl (Nat.le_of_ble_eq_true rfl) (MM.mono ?_ h286)
                                            intro o g293 d294 h291
                                            rcases o with v292 | k
                                            · refine mw_top (fun hT => ?_)
                                              have hG : 65 ≤ g293.2.1 := hT.2
                                              show MW mL_any 48 8234 352 [(0, vR 0), (1, (5, 0)), (2, vI x2), (3, vI (v2 + 1))] [vI v292, vI v287, vI 1, vR 0] g293 d294 Q
                                              obtain ⟨o295, h291⟩ := h291
                                              refine mw_iadd (pc' := 353) dL_any_352 rfl o295 ?_
                                              refine mw_iconst (pc' := 354) dL_any_353 rfl ⟨by decide, by decide⟩ ?_
                                              refine mw_iconst (pc' := 355) dL_any_354 rfl ⟨by decide, by decide⟩ ?_
                                              refine mw_callSX (M' := mL_deed) (A := [vR 0, vI 1, vI (v287 + v292), vI 0, vI 0]) (S := []) (pc' := 358) dL_any_355 rfl (goodW 560 (by decide +kernel) rfl) kX_L_deed kS_L_deed ⟨by decide, by decide, (by show 48 ≤ 48; omega), (by show 8234 ≤ 8234; omega), by decide⟩ rfl rfl (Nat.le_of_ble_eq_true rfl) (MM.mono ?_ h291)
                                              intro o g298 d299 h296
                                              rcases o with v297 | k
                                              · refine mw_top (fun hT => ?_)
                                                have hG : 65 ≤ g298.2.1 := hT.2
                                                show MW mL_any 0 0 358 [(0, vR 0), (1, (5, 0)), (2, vI x2), (3, vI (v2 + 1))] [vI v297] g298 d299 Q
                                                exact mw_iret (pc' := 0) (S := []) dL_any_358 rfl (Or.inl rfl) h296
                                              · exact mx_out rfl h296
                                            · exact mx_out rfl h291
                                          · exact mx_out rfl h286
                                        · replace h6 := h6.2 c285
                                          by_cases c300 : v7 = 18
                                          · replace h6 := h6.1 c300
                                            refine mw_tabIn (pc' := 0) (off := 345) (tgt := 359) dL_any_14 (by omega) (by rw [c300]; rfl) (by decide) ?_
                                            refine mw_aload_n (v := vR 0) (pc' := 360) dL_any_359 rfl rfl (Or.inl rfl) rfl ?_
                                            refine mw_bipush (pc' := 362) dL_any_360 rfl ⟨by decide, by decide⟩ ?_
                                            refine mw_aload_n (v := (5, 0)) (pc' := 363) dL_any_362 rfl rfl (Or.inr (Or.inl rfl)) rfl ?_
                                            refine mw_iload_n (pc' := 364) dL_any_363 rfl rfl rfl ?_
                                            refine mw_iconst (pc' := 365) dL_any_364 rfl ⟨by decide, by decide⟩ ?_
                                            obtain ⟨o301, h6⟩ := h6
                                            refine mw_iadd (pc' := 366) dL_any_365 rfl o301 ?_
                                            refine mw_iconst (pc' := 367) dL_any_366 rfl ⟨by decide, by decide⟩ ?_
                                            refine mw_aload_n (v := vR 0) (pc' := 368) dL_any_367 rfl rfl (Or.inl rfl) rfl ?_
                                            refine mw_callV (M' := mX11_today) (A := []) (A' := [vR 0]) (S := [vI 1, vI (x2 + 1), (5, 0), vI 13, vR 0]) (a := 0) (pc' := 371) dL_any_368 rfl cl_RL_233 cm_X11_today cv_X11_today ⟨by decide, by decide, (by show 0 ≤ 48; omega), (by show 0 ≤ 8234; omega), by decide⟩ rfl rfl rfl ⟨by decide, by omega⟩ (by decide +kernel) (by decide +kernel) (Nat.le_of_ble_eq_true rfl) (MM.mono ?_ h6)
                                            intro o g304 d305 h302
                                            rcases o with v303 | k
                                            · refine mw_top (fun hT => ?_)
                                              have hG : 65 ≤ g304.2.1 := hT.2
                                              show MW mL_any 48 8234 371 [(0, vR 0), (1, (5, 0)), (2, vI x2), (3, vI (v2 + 1))] [vI v303, vI 1, vI (x2 + 1), (5, 0), vI 13, vR 0] g304 d305 Q
                                              obtain ⟨o306, h302⟩ := h302
                                              refine mw_iadd (pc' := 372) dL_any_371 rfl o306 ?_
                                              refine mw_callS (M' := mL_pick) (A := [(5, 0), vI (x2 + 1), vI (1 + v303)]) (S := [vI 13, vR 0]) (pc' := 375) dL_any_372 rfl cl_RL_223 cm_L_pick cs_L_pick ⟨by decide, by decide, (by show 0 ≤ 48; omega), (by show 0 ≤ 8234; omega), by decide⟩ rfl rfl (Nat.le_of_ble_eq_true rfl) (MM.mono ?_ h302)
                                              intro o g309 d310 h307
                                              rcases o with v308 | k
                                              · refine mw_top (fun hT => ?_)
                                                have hG : 65 ≤ g309.2.1 := hT.2
                                                show MW mL_any 48 8234 375 [(0, vR 0), (1, (5, 0)), (2, vI x2), (3, vI (v2 + 1))] [vI v308, vI 13, vR 0] g309 d310 Q
                                                refine mw_aload_n (v := (5, 0)) (pc' := 376) dL_any_375 rfl rfl (Or.inr (Or.inl rfl)) rfl ?_
                                                refine mw_iload_n (pc' := 377) dL_any_376 rfl rfl rfl ?_
                                                refine mw_iconst (pc' := 378) dL_any_377 rfl ⟨by decide, by decide⟩ ?_
                                                obtain ⟨o311, h307⟩ := h307
                                                refine mw_iadd (pc' := 379) dL_any_378 rfl o311 ?_
                                                refine mw_bipush (pc' := 381) dL_any_379 rfl ⟨by decide, by decide⟩ ?_
                                                refine mw_callS (M' := mL_pick) (A := [(5, 0), vI (x2 + 2), vI 8]) (S := [vI v308, vI 13, vR 0]) (pc' := 384) dL_any_381 rfl cl_RL_223 cm_L_pick cs_L_pick ⟨by decide, by decide, (by show 0 ≤ 48; omega), (by show 0 ≤ 8234; omega), by decide⟩ rfl rfl (Nat.le_of_ble_eq_true rfl) (MM.mono ?_ h307)
                                                intro o g314 d315 h312
                                                rcases o with v313 | k
                                                · refine mw_top (fun hT => ?_)
                                                  have hG : 65 ≤ g314.2.1 := hT.2
                                                  show MW mL_any 48 8234 384 [(0, vR 0), (1, (5, 0)), (2, vI x2), (3, vI (v2 + 1))] [vI v313, vI v308, vI 13, vR 0] g314 d315 Q
                                                  refine mw_iconst (pc' := 385) dL_any_384 rfl ⟨by decide, by decide⟩ ?_
                                                  refine mw_callSX (M' := mL_deed) (A := [vR 0, vI 13, vI v308, vI v313, vI 0]) (S := []) (pc' := 388) dL_any_385 rfl (goodW 560 (by decide +kernel) rfl) kX_L_deed kS_L_deed ⟨by decide, by decide, (by show 48 ≤ 48; omega), (by show 8234 ≤ 8234; omega), by decide⟩ rfl rfl (Nat.le_of_ble_eq_true rfl) (MM.mono ?_ h312)
                                                  intro o g318 d319 h316
                                                  rcases o with v317 | k
                                                  · refine mw_top (fun hT => ?_)
                                                    have hG : 65 ≤ g318.2.1 := hT.2
                                                    show MW mL_any 0 0 388 [(0, vR 0), (1, (5, 0)), (2, vI x2), (3, vI (v2 + 1))] [vI v317] g318 d319 Q
                                                    exact mw_iret (pc' := 0) (S := []) dL_any_388 rfl (Or.inl rfl) h316
                                                  · exact mx_out rfl h316
                                                · exact mx_out rfl h312
                                              · exact mx_out rfl h307
                                            · exact mx_out rfl h302
                                          · replace h6 := h6.2 c300
                                            by_cases c320 : v7 = 19
                                            · replace h6 := h6.1 c320
                                              refine mw_tabIn (pc' := 0) (off := 375) (tgt := 389) dL_any_14 (by omega) (by rw [c320]; rfl) (by decide) ?_
                                              refine mw_aload_n (v := vR 0) (pc' := 390) dL_any_389 rfl rfl (Or.inl rfl) rfl ?_
                                              refine mw_bipush (pc' := 392) dL_any_390 rfl ⟨by decide, by decide⟩ ?_
                                              refine mw_aload_n (v := (5, 0)) (pc' := 393) dL_any_392 rfl rfl (Or.inr (Or.inl rfl)) rfl ?_
                                              refine mw_iload_n (pc' := 394) dL_any_393 rfl rfl rfl ?_
                                              refine mw_iconst (pc' := 395) dL_any_394 rfl ⟨by decide, by decide⟩ ?_
                                              obtain ⟨o321, h6⟩ := h6
                                              refine mw_iadd (pc' := 396) dL_any_395 rfl o321 ?_
                                              refine mw_iconst (pc' := 397) dL_any_396 rfl ⟨by decide, by decide⟩ ?_
                                              refine mw_callS (M' := mL_pick) (A := [(5, 0), vI (x2 + 1), vI 5]) (S := [vI 14, vR 0]) (pc' := 400) dL_any_397 rfl cl_RL_223 cm_L_pick cs_L_pick ⟨by decide, by decide, (by show 0 ≤ 48; omega), (by show 0 ≤ 8234; omega), by decide⟩ rfl rfl (Nat.le_of_ble_eq_true rfl) (MM.mono ?_ h6)
                                              intro o g324 d325 h322
                                              rcases o with v323 | k
                                              · refine mw_top (fun hT => ?_)
                                                have hG : 65 ≤ g324.2.1 := hT.2
                                                show MW mL_any 48 8234 400 [(0, vR 0), (1, (5, 0)), (2, vI x2), (3, vI (v2 + 1))] [vI v323, vI 14, vR 0] g324 d325 Q
                                                refine mw_aload_n (v := (5, 0)) (pc' := 401) dL_any_400 rfl rfl (Or.inr (Or.inl rfl)) rfl ?_
                                                refine mw_iload_n (pc' := 402) dL_any_401 rfl rfl rfl ?_
                                                refine mw_iconst (pc' := 403) dL_any_402 rfl ⟨by decide, by decide⟩ ?_
                                                obtain ⟨o326, h322⟩ := h322
                                                refine mw_iadd (pc' := 404) dL_any_403 rfl o326 ?_
                                                refine mw_iconst (pc' := 405) dL_any_404 rfl ⟨by decide, by decide⟩ ?_
                                                refine mw_callS (M' := mL_pick) (A := [(5, 0), vI (x2 + 2), vI 5]) (S := [vI v323, vI 14, vR 0]) (pc' := 408) dL_any_405 rfl cl_RL_223 cm_L_pick cs_L_pick ⟨by decide, by decide, (by show 0 ≤ 48; omega), (by show 0 ≤ 8234; omega), by decide⟩ rfl rfl (Nat.le_of_ble_eq_true rfl) (MM.mono ?_ h322)
                                                intro o g329 d330 h327
                                                rcases o with v328 | k
                                                · refine mw_top (fun hT => ?_)
                                                  have hG : 65 ≤ g329.2.1 := hT.2
                                                  show MW mL_any 48 8234 408 [(0, vR 0), (1, (5, 0)), (2, vI x2), (3, vI (v2 + 1))] [vI v328, vI v323, vI 14, vR 0] g329 d330 Q
                                                  refine mw_iconst (pc' := 409) dL_any_408 rfl ⟨by decide, by decide⟩ ?_
                                                  refine mw_callSX (M' := mL_deed) (A := [vR 0, vI 14, vI v323, vI v328, vI 0]) (S := []) (pc' := 412) dL_any_409 rfl (goodW 560 (by decide +kernel) rfl) kX_L_deed kS_L_deed ⟨by decide, by decide, (by show 48 ≤ 48; omega), (by show 8234 ≤ 8234; omega), by decide⟩ rfl rfl (Nat.le_of_ble_eq_true rfl) (MM.mono ?_ h327)
                                                  intro o g333 d334 h331
                                                  rcases o with v332 | k
                                                  · refine mw_top (fun hT => ?_)
                                                    have hG : 65 ≤ g333.2.1 := hT.2
                                                    show MW mL_any 0 0 412 [(0, vR 0), (1, (5, 0)), (2, vI x2), (3, vI (v2 + 1))] [vI v332] g333 d334 Q
                                                    exact mw_iret (pc' := 0) (S := []) dL_any_412 rfl (Or.inl rfl) h331
                                                  · exact mx_out rfl h331
                                                · exact mx_out rfl h327
                                              · exact mx_out rfl h322
                                            · replace h6 := h6.2 c320
                                              by_cases c335 : v7 = 20
                                              · replace h6 := h6.1 c335
                                                refine mw_tabIn (pc' := 0) (off := 399) (tgt := 413) dL_any_14 (by omega) (by rw [c335]; rfl) (by decide) ?_
                                                refine mw_aload_n (v := vR 0) (pc' := 414) dL_any_413 rfl rfl (Or.inl rfl) rfl ?_
                                                refine mw_bipush (pc' := 416) dL_any_414 rfl ⟨by decide, by decide⟩ ?_
                                                refine mw_aload_n (v := (5, 0)) (pc' := 417) dL_any_416 rfl rfl (Or.inr (Or.inl rfl)) rfl ?_
                                                refine mw_iload_n (pc' := 418) dL_any_417 rfl rfl rfl ?_
                                                refine mw_iconst (pc' := 419) dL_any_418 rfl ⟨by decide, by decide⟩ ?_
                                                obtain ⟨o336, h6⟩ := h6
                                                refine mw_iadd (pc' := 420) dL_any_419 rfl o336 ?_
                                                refine mw_iconst (pc' := 421) dL_any_420 rfl ⟨by decide, by decide⟩ ?_
                                                refine mw_callS (M' := mL_pick) (A := [(5, 0), vI (x2 + 1), vI 3]) (S := [vI 15, vR 0]) (pc' := 424) dL_any_421 rfl cl_RL_223 cm_L_pick cs_L_pick ⟨by decide, by decide, (by show 0 ≤ 48; omega), (by show 0 ≤ 8234; omega), by decide⟩ rfl rfl (Nat.le_of_ble_eq_true rfl) (MM.mono ?_ h6)
                                                intro o g339 d340 h337
                                                rcases o with v338 | k
                                                · refine mw_top (fun hT => ?_)
                                                  have hG : 65 ≤ g339.2.1 := hT.2
                                                  show MW mL_any 48 8234 424 [(0, vR 0), (1, (5, 0)), (2, vI x2), (3, vI (v2 + 1))] [vI v338, vI 15, vR 0] g339 d340 Q
                                                  refine mw_aload_n (v := (5, 0)) (pc' := 425) dL_any_424 rfl rfl (Or.inr (Or.inl rfl)) rfl ?_
                                                  refine mw_iload_n (pc' := 426) dL_any_425 rfl rfl rfl ?_
                                                  refine mw_iconst (pc' := 427) dL_any_426 rfl ⟨by decide, by decide⟩ ?_
                                                  obtain ⟨o341, h337⟩ := h337
                                                  refine mw_iadd (pc' := 428) dL_any_427 rfl o341 ?_
                                                  refine mw_iconst (pc' := 429) dL_any_428 rfl ⟨by decide, by decide⟩ ?_
                                                  refine mw_callS (M' := mL_pick) (A := [(5, 0), vI (x2 + 2), vI 5]) (S := [vI v338, vI 15, vR 0]) (pc' := 432) dL_any_429 rfl cl_RL_223 cm_L_pick cs_L_pick ⟨by decide, by decide, (by show 0 ≤ 48; omega), (by show 0 ≤ 8234; omega), by decide⟩ rfl rfl (Nat.le_of_ble_eq_true rfl) (MM.mono ?_ h337)
                                                  intro o g344 d345 h342
                                                  rcases o with v343 | k
                                                  · refine mw_top (fun hT => ?_)
                                                    have hG : 65 ≤ g344.2.1 := hT.2
                                                    show MW mL_any 48 8234 432 [(0, vR 0), (1, (5, 0)), (2, vI x2), (3, vI (v2 + 1))] [vI v343, vI v338, vI 15, vR 0] g344 d345 Q
                                                    refine mw_iconst (pc' := 433) dL_any_432 rfl ⟨by decide, by decide⟩ ?_
                                                    refine mw_callSX (M' := mL_deed) (A := [vR 0, vI 15, vI v338, vI v343, vI 0]) (S := []) (pc' := 436) dL_any_433 rfl (goodW 560 (by decide +kernel) rfl) kX_L_deed kS_L_deed ⟨by decide, by decide, (by show 48 ≤ 48; omega), (by show 8234 ≤ 8234; omega), by decide⟩ rfl rfl (Nat.le_of_ble_eq_true rfl) (MM.mono ?_ h342)
                                                    intro o g348 d349 h346
                                                    rcases o with v347 | k
                                                    · refine mw_top (fun hT => ?_)
                                                      have hG : 65 ≤ g348.2.1 := hT.2
                                                      show MW mL_any 0 0 436 [(0, vR 0), (1, (5, 0)), (2, vI x2), (3, vI (v2 + 1))] [vI v347] g348 d349 Q
                                                      exact mw_iret (pc' := 0) (S := []) dL_any_436 rfl (Or.inl rfl) h346
                                                    · exact mx_out rfl h346
                                                  · exact mx_out rfl h342
                                                · exact mx_out rfl h337
                                              · replace h6 := h6.2 c335
                                                refine mw_tabOut (pc' := 0) (tgt := 437) dL_any_14 (by omega) (by decide) ?_
                                                refine mw_aload_n (v := vR 0) (pc' := 438) dL_any_437 rfl rfl (Or.inl rfl) rfl ?_
                                                refine mw_bipush (pc' := 440) dL_any_438 rfl ⟨by decide, by decide⟩ ?_
                                                refine mw_aload_n (v := (5, 0)) (pc' := 441) dL_any_440 rfl rfl (Or.inr (Or.inl rfl)) rfl ?_
                                                refine mw_iload_n (pc' := 442) dL_any_441 rfl rfl rfl ?_
                                                refine mw_iconst (pc' := 443) dL_any_442 rfl ⟨by decide, by decide⟩ ?_
                                                obtain ⟨o350, h6⟩ := h6
                                                refine mw_iadd (pc' := 444) dL_any_443 rfl o350 ?_
                                                refine mw_iconst (pc' := 445) dL_any_444 rfl ⟨by decide, by decide⟩ ?_
                                                refine mw_callS (M' := mL_pick) (A := [(5, 0), vI (x2 + 1), vI 5]) (S := [vI 16, vR 0]) (pc' := 448) dL_any_445 rfl cl_RL_223 cm_L_pick cs_L_pick ⟨by decide, by decide, (by show 0 ≤ 48; omega), (by show 0 ≤ 8234; omega), by decide⟩ rfl rfl (Nat.le_of_ble_eq_true rfl) (MM.mono ?_ h6)
                                                intro o g353 d354 h351
                                                rcases o with v352 | k
                                                · refine mw_top (fun hT => ?_)
                                                  have hG : 65 ≤ g353.2.1 := hT.2
                                                  show MW mL_any 48 8234 448 [(0, vR 0), (1, (5, 0)), (2, vI x2), (3, vI (v2 + 1))] [vI v352, vI 16, vR 0] g353 d354 Q
                                                  refine mw_aload_n (v := (5, 0)) (pc' := 449) dL_any_448 rfl rfl (Or.inr (Or.inl rfl)) rfl ?_
                                                  refine mw_iload_n (pc' := 450) dL_any_449 rfl rfl rfl ?_
                                                  refine mw_iconst (pc' := 451) dL_any_450 rfl ⟨by decide, by decide⟩ ?_
                                                  obtain ⟨o355, h351⟩ := h351
                                                  refine mw_iadd (pc' := 452) dL_any_451 rfl o355 ?_
                                                  refine mw_iconst (pc' := 453) dL_any_452 rfl ⟨by decide, by decide⟩ ?_
                                                  refine mw_callS (M' := mL_pick) (A := [(5, 0), vI (x2 + 2), vI 5]) (S := [vI v352, vI 16, vR 0]) (pc' := 456) dL_any_453 rfl cl_RL_223 cm_L_pick cs_L_pick ⟨by decide, by decide, (by show 0 ≤ 48; omega), (by show 0 ≤ 8234; omega), by decide⟩ rfl rfl (Nat.le_of_ble_eq_true rfl) (MM.mono ?_ h351)
                                                  intro o g358 d359 h356
                                                  rcases o with v357 | k
                                                  · refine mw_top (fun hT => ?_)
                                                    have hG : 65 ≤ g358.2.1 := hT.2
                                                    show MW mL_any 48 8234 456 [(0, vR 0), (1, (5, 0)), (2, vI x2), (3, vI (v2 + 1))] [vI v357, vI v352, vI 16, vR 0] g358 d359 Q
                                                    refine mw_iconst (pc' := 457) dL_any_456 rfl ⟨by decide, by decide⟩ ?_
                                                    refine mw_callSX (M' := mL_deed) (A := [vR 0, vI 16, vI v352, vI v357, vI 0]) (S := []) (pc' := 460) dL_any_457 rfl (goodW 560 (by decide +kernel) rfl) kX_L_deed kS_L_deed ⟨by decide, by decide, (by show 48 ≤ 48; omega), (by show 8234 ≤ 8234; omega), by decide⟩ rfl rfl (Nat.le_of_ble_eq_true rfl) (MM.mono ?_ h356)
                                                    intro o g362 d363 h360
                                                    rcases o with v361 | k
                                                    · refine mw_top (fun hT => ?_)
                                                      have hG : 65 ≤ g362.2.1 := hT.2
                                                      show MW mL_any 0 0 460 [(0, vR 0), (1, (5, 0)), (2, vI x2), (3, vI (v2 + 1))] [vI v361] g362 d363 Q
                                                      exact mw_iret (pc' := 0) (S := []) dL_any_460 rfl (Or.inl rfl) h360
                                                    · exact mx_out rfl h360
                                                  · exact mx_out rfl h356
                                                · exact mx_out rfl h351
    · exact mx_out rfl h6
  · exact mx_out rfl h1
