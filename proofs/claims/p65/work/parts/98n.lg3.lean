def pL_areDeadlines_1 (bc bs : Nat) (x1 x2 : Int) (g : mG) (d : mD) (Q : mQ) : Prop := MW mL_areDeadlines bc bs 4 [(0, vR 0), (1, vI x1), (2, vI x2)] [] g d Q
def pL_areDeadlines_2 (bc bs : Nat) (x1 x2 x3 x4 s0 : Int) (g : mG) (d : mD) (Q : mQ) : Prop := MW mL_areDeadlines bc bs 88 [(0, vR 0), (1, vI x1), (2, vI x2), (3, vI x3), (4, vI x4)] [vI s0] g d Q
def pL_areDeadlines_3 (bc bs : Nat) (x1 x2 : Int) (g : mG) (d : mD) (Q : mQ) : Prop := MW mL_areDeadlines bc bs 147 [(0, vR 0), (1, vI x1), (2, vI x2)] [] g d Q
def pL_areDeadlines_4 (bc bs : Nat) (x1 x2 x3 x4 s0 : Int) (g : mG) (d : mD) (Q : mQ) : Prop := MW mL_areDeadlines bc bs 140 [(0, vR 0), (1, vI x1), (2, vI x2), (3, vI x3), (4, vI x4)] [vI s0] g d Q
def pL_areDeadlines_5 (bc bs : Nat) (x1 x2 s0 : Int) (g : mG) (d : mD) (Q : mQ) : Prop := MW mL_areDeadlines bc bs 187 [(0, vR 0), (1, vI x1), (2, vI x2)] [vI s0] g d Q
theorem eL_areDeadlines {g : mG} {d : mD} {Q : mQ} (h : pL_areDeadlines_1 558 3348 1 0 g d Q) : MM mL_areDeadlines [vR 0] g d Q := by
  refine MM_of (by decide) rfl (by simp [catV]) (Nat.le_of_ble_eq_true rfl) ?_
  show MW mL_areDeadlines 558 3348 0 [(0, vR 0)] [] g d Q
  refine mw_top (fun hT => ?_)
  have hG : 65 ≤ g.2.1 := hT.2
  refine mw_iconst (pc' := 1) dL_areDeadlines_0 rfl ⟨by decide, by decide⟩ ?_
  refine mw_istore_n (pc' := 2) (L' := [(0, vR 0), (1, vI 1)]) dL_areDeadlines_1 rfl rfl (by decide) rfl ?_
  refine mw_iconst (pc' := 3) dL_areDeadlines_2 rfl ⟨by decide, by decide⟩ ?_
  refine mw_istore_n (pc' := 4) (L' := [(0, vR 0), (1, vI 1), (2, vI 0)]) dL_areDeadlines_3 rfl rfl (by decide) rfl ?_
  exact h
theorem aL_areDeadlines_1 {bc bs : Nat} {x1 x2 : Int} {g : mG} {d : mD} {Q : mQ} (hb : 12 ≤ bc ∧ 72 ≤ bs) (h : MM mX11_deadlines [vR 0] g d (fun o g3 d4 => match o with | .inl v2 => (((¬ (v2 ≤ x2)) ∧ (¬ (x1 = 0))) → MM mL_ask [vR 0, vI 0, vI x2, vI 0, vI 0] g3 d4 (fun o g11 d12 => match o with | .inl v10 => MM mL_ask [vR 0, vI 2, vI x2, vI 0, vI 0] g11 d12 (fun o g15 d16 => match o with | .inl v14 => MM mL_ask [vR 0, vI 1, vI x2, vI 0, vI 0] g15 d16 (fun o g19 d20 => match o with | .inl v18 => ((v10 = v18) → MM mL_ask [vR 0, vI 3, vI x2, vI 0, vI 0] g19 d20 (fun o g24 d25 => match o with | .inl v23 => (((v14 = v23) ∧ ((¬ (v14 < 0)) ∧ ((v10 = (-2005)) ∨ ((¬ (v10 ≤ 0)) ∧ (¬ (4999 < v10)))))) → pL_areDeadlines_2 (bc - 3 - 3 - 3 - 3) (bs - 18 - 18 - 18 - 18) x1 x2 v10 v14 1 g24 d25 Q) ∧ ((¬ ((v14 = v23) ∧ ((¬ (v14 < 0)) ∧ ((v10 = (-2005)) ∨ ((¬ (v10 ≤ 0)) ∧ (¬ (4999 < v10))))))) → pL_areDeadlines_2 (bc - 3 - 3 - 3 - 3) (bs - 18 - 18 - 18 - 18) x1 x2 v10 v14 0 g24 d25 Q) | .inr k => Q (.inr k) g24 d25)) ∧ ((¬ (v10 = v18)) → pL_areDeadlines_2 (bc - 3 - 3 - 3) (bs - 18 - 18 - 18) x1 x2 v10 v14 0 g19 d20 Q) | .inr k => Q (.inr k) g19 d20) | .inr k => Q (.inr k) g15 d16) | .inr k => Q (.inr k) g11 d12)) ∧ ((¬ ((¬ (v2 ≤ x2)) ∧ (¬ (x1 = 0)))) → pL_areDeadlines_3 bc bs x1 x2 g3 d4 Q) | .inr k => Q (.inr k) g3 d4)) : pL_areDeadlines_1 bc bs x1 x2 g d Q := by
  unfold pL_areDeadlines_1
  refine mw_top (fun hT => ?_)
  have hG : 65 ≤ g.2.1 := hT.2
  refine mw_iload_n (pc' := 5) dL_areDeadlines_4 rfl rfl rfl ?_
  refine mw_aload_n (v := vR 0) (pc' := 6) dL_areDeadlines_5 rfl rfl (Or.inl rfl) rfl ?_
  refine mw_callV (M' := mX11_deadlines) (A := []) (A' := [vR 0]) (S := [vI x2]) (a := 0) (pc' := 9) dL_areDeadlines_6 rfl cl_RL_230 cm_X11_deadlines cv_X11_deadlines ⟨by decide, by decide, (by show 0 ≤ bc; omega), (by show 0 ≤ bs; omega), by decide⟩ rfl rfl rfl ⟨by decide, by omega⟩ (by decide +kernel) (by decide +kernel) (Nat.le_of_ble_eq_true rfl) (MM.mono ?_ h)
  intro o g3 d4 h1
  rcases o with v2 | k
  · refine mw_top (fun hT => ?_)
    have hG : 65 ≤ g3.2.1 := hT.2
    show MW mL_areDeadlines bc bs 9 [(0, vR 0), (1, vI x1), (2, vI x2)] [vI v2, vI x2] g3 d4 Q
    suffices k5 : (((¬ (v2 ≤ x2)) ∧ (¬ (x1 = 0))) → MW mL_areDeadlines bc bs 16 [(0, vR 0), (1, vI x1), (2, vI x2)] [] g3 d4 Q) ∧ ((¬ ((¬ (v2 ≤ x2)) ∧ (¬ (x1 = 0)))) → MW mL_areDeadlines bc bs 147 [(0, vR 0), (1, vI x1), (2, vI x2)] [] g3 d4 Q) by
      refine mw_icmp_ge (tgt := 147) (pc' := 12) dL_areDeadlines_9 rfl (by decide) (fun c6 => ?_) (fun c6 => ?_)
      · exact k5.2 (fun h => (h.1 c6))
      · refine mw_iload_n (pc' := 13) dL_areDeadlines_12 rfl rfl rfl ?_
        refine mw_if_eq (tgt := 147) (pc' := 16) dL_areDeadlines_13 rfl (by decide) (fun c7 => ?_) (fun c7 => ?_)
        · exact k5.2 (fun h => (fun h => (h c7)) h.2)
        · exact k5.1 ⟨c6, c7⟩
    refine ⟨fun c8 => ?_, fun c8 => ?_⟩
    · replace h1 := h1.1 c8
      refine mw_aload_n (v := vR 0) (pc' := 17) dL_areDeadlines_16 rfl rfl (Or.inl rfl) rfl ?_
      refine mw_iconst (pc' := 18) dL_areDeadlines_17 rfl ⟨by decide, by decide⟩ ?_
      refine mw_iload_n (pc' := 19) dL_areDeadlines_18 rfl rfl rfl ?_
      refine mw_iconst (pc' := 20) dL_areDeadlines_19 rfl ⟨by decide, by decide⟩ ?_
      refine mw_iconst (pc' := 21) dL_areDeadlines_20 rfl ⟨by decide, by decide⟩ ?_
      refine mw_callSX (M' := mL_ask) (A := [vR 0, vI 0, vI x2, vI 0, vI 0]) (S := []) (pc' := 24) dL_areDeadlines_21 rfl (goodW 1204 (by decide +kernel) rfl) kX_L_ask kS_L_ask ⟨by decide, by decide, (by show 3 ≤ bc; omega), (by show 18 ≤ bs; omega), by decide⟩ rfl rfl (Nat.le_of_ble_eq_true rfl) (MM.mono ?_ h1)
      intro o g11 d12 h9
      rcases o with v10 | k
      · refine mw_top (fun hT => ?_)
        have hG : 65 ≤ g11.2.1 := hT.2
        show MW mL_areDeadlines (bc - 3) (bs - 18) 24 [(0, vR 0), (1, vI x1), (2, vI x2)] [vI v10] g11 d12 Q
        refine mw_istore_n (pc' := 25) (L' := [(0, vR 0), (1, vI x1), (2, vI x2), (3, vI v10)]) dL_areDeadlines_24 rfl rfl (by decide) rfl ?_
        refine mw_aload_n (v := vR 0) (pc' := 26) dL_areDeadlines_25 rfl rfl (Or.inl rfl) rfl ?_
        refine mw_iconst (pc' := 27) dL_areDeadlines_26 rfl ⟨by decide, by decide⟩ ?_
        refine mw_iload_n (pc' := 28) dL_areDeadlines_27 rfl rfl rfl ?_
        refine mw_iconst (pc' := 29) dL_areDeadlines_28 rfl ⟨by decide, by decide⟩ ?_
        refine mw_iconst (pc' := 30) dL_areDeadlines_29 rfl ⟨by decide, by decide⟩ ?_
        refine mw_callSX (M' := mL_ask) (A := [vR 0, vI 2, vI x2, vI 0, vI 0]) (S := []) (pc' := 33) dL_areDeadlines_30 rfl (goodW 1204 (by decide +kernel) rfl) kX_L_ask kS_L_ask ⟨by decide, by decide, (by show 3 ≤ bc - 3; omega), (by show 18 ≤ bs - 18; omega), by decide⟩ rfl rfl (Nat.le_of_ble_eq_true rfl) (MM.mono ?_ h9)
        intro o g15 d16 h13
        rcases o with v14 | k
        · refine mw_top (fun hT => ?_)
          have hG : 65 ≤ g15.2.1 := hT.2
          show MW mL_areDeadlines (bc - 3 - 3) (bs - 18 - 18) 33 [(0, vR 0), (1, vI x1), (2, vI x2), (3, vI v10)] [vI v14] g15 d16 Q
          refine mw_istore (pc' := 35) (L' := [(0, vR 0), (1, vI x1), (2, vI x2), (3, vI v10), (4, vI v14)]) dL_areDeadlines_33 rfl (by decide) rfl ?_
          refine mw_iload_n (pc' := 36) dL_areDeadlines_35 rfl rfl rfl ?_
          refine mw_aload_n (v := vR 0) (pc' := 37) dL_areDeadlines_36 rfl rfl (Or.inl rfl) rfl ?_
          refine mw_iconst (pc' := 38) dL_areDeadlines_37 rfl ⟨by decide, by decide⟩ ?_
          refine mw_iload_n (pc' := 39) dL_areDeadlines_38 rfl rfl rfl ?_
          refine mw_iconst (pc' := 40) dL_areDeadlines_39 rfl ⟨by decide, by decide⟩ ?_
          refine mw_iconst (pc' := 41) dL_areDeadlines_40 rfl ⟨by decide, by decide⟩ ?_
          refine mw_callSX (M' := mL_ask) (A := [vR 0, vI 1, vI x2, vI 0, vI 0]) (S := [vI v10]) (pc' := 44) dL_areDeadlines_41 rfl (goodW 1204 (by decide +kernel) rfl) kX_L_ask kS_L_ask ⟨by decide, by decide, (by show 3 ≤ bc - 3 - 3; omega), (by show 18 ≤ bs - 18 - 18; omega), by decide⟩ rfl rfl (Nat.le_of_ble_eq_true rfl) (MM.mono ?_ h13)
          intro o g19 d20 h17
          rcases o with v18 | k
          · refine mw_top (fun hT => ?_)
            have hG : 65 ≤ g19.2.1 := hT.2
            show MW mL_areDeadlines (bc - 3 - 3 - 3) (bs - 18 - 18 - 18) 44 [(0, vR 0), (1, vI x1), (2, vI x2), (3, vI v10), (4, vI v14)] [vI v18, vI v10] g19 d20 Q
            refine mw_icmp_ne (tgt := 87) (pc' := 47) dL_areDeadlines_44 rfl (by decide) (fun c21 => ?_) (fun c21 => ?_)
            · replace h17 := h17.2 c21
              refine mw_iconst (pc' := 88) dL_areDeadlines_87 rfl ⟨by decide, by decide⟩ ?_
              exact h17
            · replace h17 := h17.1 c21
              refine mw_iload (pc' := 49) dL_areDeadlines_47 rfl rfl ?_
              refine mw_aload_n (v := vR 0) (pc' := 50) dL_areDeadlines_49 rfl rfl (Or.inl rfl) rfl ?_
              refine mw_iconst (pc' := 51) dL_areDeadlines_50 rfl ⟨by decide, by decide⟩ ?_
              refine mw_iload_n (pc' := 52) dL_areDeadlines_51 rfl rfl rfl ?_
              refine mw_iconst (pc' := 53) dL_areDeadlines_52 rfl ⟨by decide, by decide⟩ ?_
              refine mw_iconst (pc' := 54) dL_areDeadlines_53 rfl ⟨by decide, by decide⟩ ?_
              refine mw_callSX (M' := mL_ask) (A := [vR 0, vI 3, vI x2, vI 0, vI 0]) (S := [vI v14]) (pc' := 57) dL_areDeadlines_54 rfl (goodW 1204 (by decide +kernel) rfl) kX_L_ask kS_L_ask ⟨by decide, by decide, (by show 3 ≤ bc - 3 - 3 - 3; omega), (by show 18 ≤ bs - 18 - 18 - 18; omega), by decide⟩ rfl rfl (Nat.le_of_ble_eq_true rfl) (MM.mono ?_ h17)
              intro o g24 d25 h22
              rcases o with v23 | k
              · refine mw_top (fun hT => ?_)
                have hG : 65 ≤ g24.2.1 := hT.2
                show MW mL_areDeadlines (bc - 3 - 3 - 3 - 3) (bs - 18 - 18 - 18 - 18) 57 [(0, vR 0), (1, vI x1), (2, vI x2), (3, vI v10), (4, vI v14)] [vI v23, vI v14] g24 d25 Q
                suffices k26 : (((v14 = v23) ∧ ((¬ (v14 < 0)) ∧ ((v10 = (-2005)) ∨ ((¬ (v10 ≤ 0)) ∧ (¬ (4999 < v10)))))) → MW mL_areDeadlines (bc - 3 - 3 - 3 - 3) (bs - 18 - 18 - 18 - 18) 83 [(0, vR 0), (1, vI x1), (2, vI x2), (3, vI v10), (4, vI v14)] [] g24 d25 Q) ∧ ((¬ ((v14 = v23) ∧ ((¬ (v14 < 0)) ∧ ((v10 = (-2005)) ∨ ((¬ (v10 ≤ 0)) ∧ (¬ (4999 < v10))))))) → MW mL_areDeadlines (bc - 3 - 3 - 3 - 3) (bs - 18 - 18 - 18 - 18) 87 [(0, vR 0), (1, vI x1), (2, vI x2), (3, vI v10), (4, vI v14)] [] g24 d25 Q) by
                  refine mw_icmp_ne (tgt := 87) (pc' := 60) dL_areDeadlines_57 rfl (by decide) (fun c27 => ?_) (fun c27 => ?_)
                  · exact k26.2 (fun h => (c27 h.1))
                  · refine mw_iload (pc' := 62) dL_areDeadlines_60 rfl rfl ?_
                    refine mw_if_lt (tgt := 87) (pc' := 65) dL_areDeadlines_62 rfl (by decide) (fun c28 => ?_) (fun c28 => ?_)
                    · exact k26.2 (fun h => (fun h => (h.1 c28)) h.2)
                    · refine mw_iload_n (pc' := 66) dL_areDeadlines_65 rfl rfl rfl ?_
                      refine mw_sipush (pc' := 69) dL_areDeadlines_66 rfl ⟨by decide, by decide⟩ ?_
                      refine mw_icmp_eq (tgt := 83) (pc' := 72) dL_areDeadlines_69 rfl (by decide) (fun c29 => ?_) (fun c29 => ?_)
                      · exact k26.1 ⟨c27, ⟨c28, (Or.inl c29)⟩⟩
                      · refine mw_iload_n (pc' := 73) dL_areDeadlines_72 rfl rfl rfl ?_
                        refine mw_if_le (tgt := 87) (pc' := 76) dL_areDeadlines_73 rfl (by decide) (fun c30 => ?_) (fun c30 => ?_)
                        · exact k26.2 (fun h => (fun h => (fun h => h.elim (fun q => (c29 q)) (fun h => (h.1 c30))) h.2) h.2)
                        · refine mw_iload_n (pc' := 77) dL_areDeadlines_76 rfl rfl rfl ?_
                          refine mw_sipush (pc' := 80) dL_areDeadlines_77 rfl ⟨by decide, by decide⟩ ?_
                          refine mw_icmp_gt (tgt := 87) (pc' := 83) dL_areDeadlines_80 rfl (by decide) (fun c31 => ?_) (fun c31 => ?_)
                          · exact k26.2 (fun h => (fun h => (fun h => h.elim (fun q => (c29 q)) (fun h => (fun h => (h c31)) h.2)) h.2) h.2)
                          · exact k26.1 ⟨c27, ⟨c28, (Or.inr ⟨c30, c31⟩)⟩⟩
                refine ⟨fun c32 => ?_, fun c32 => ?_⟩
                · replace h22 := h22.1 c32
                  refine mw_iconst (pc' := 84) dL_areDeadlines_83 rfl ⟨by decide, by decide⟩ ?_
                  refine mw_goto (pc' := 0) (tgt := 88) dL_areDeadlines_84 (by decide) ?_
                  exact h22
                · replace h22 := h22.2 c32
                  refine mw_iconst (pc' := 88) dL_areDeadlines_87 rfl ⟨by decide, by decide⟩ ?_
                  exact h22
              · exact mx_out rfl h22
          · exact mx_out rfl h17
        · exact mx_out rfl h13
      · exact mx_out rfl h9
    · replace h1 := h1.2 c8
      exact h1
  · exact mx_out rfl h1
theorem aL_areDeadlines_2 {bc bs : Nat} {x1 x2 x3 x4 s0 : Int} {g : mG} {d : mD} {Q : mQ} (hb : 6 ≤ bc ∧ 36 ≤ bs) (h : ((s0 = 0) → pL_areDeadlines_4 bc bs s0 x2 x3 x4 0 g d Q) ∧ ((¬ (s0 = 0)) → ((x3 < 0) → pL_areDeadlines_4 bc bs s0 x2 x3 x4 1 g d Q) ∧ ((¬ (x3 < 0)) → MM mL_ask [vR 0, vI 11, vI x3, vI 0, vI 0] g d (fun o g37 d38 => match o with | .inl v36 => ((v36 = 1) → MM mL_ask [vR 0, vI 10, vI x2, vI x3, vI 0] g37 d38 (fun o g42 d43 => match o with | .inl v41 => ((v41 = 0) → MM mX11_today [vR 0] g42 d43 (fun o g47 d48 => match o with | .inl v46 => (((v46 < x3) ∨ (x4 = 0)) → pL_areDeadlines_4 (bc - 3 - 3) (bs - 18 - 18) s0 x2 x3 x4 1 g47 d48 Q) ∧ ((¬ ((v46 < x3) ∨ (x4 = 0))) → pL_areDeadlines_4 (bc - 3 - 3) (bs - 18 - 18) s0 x2 x3 x4 0 g47 d48 Q) | .inr k => Q (.inr k) g47 d48)) ∧ ((¬ (v41 = 0)) → pL_areDeadlines_4 (bc - 3 - 3) (bs - 18 - 18) s0 x2 x3 x4 0 g42 d43 Q) | .inr k => Q (.inr k) g42 d43)) ∧ ((¬ (v36 = 1)) → pL_areDeadlines_4 (bc - 3) (bs - 18) s0 x2 x3 x4 0 g37 d38 Q) | .inr k => Q (.inr k) g37 d38)))) : pL_areDeadlines_2 bc bs x1 x2 x3 x4 s0 g d Q := by
  unfold pL_areDeadlines_2
  refine mw_top (fun hT => ?_)
  have hG : 65 ≤ g.2.1 := hT.2
  refine mw_istore_n (pc' := 89) (L' := [(0, vR 0), (1, vI s0), (2, vI x2), (3, vI x3), (4, vI x4)]) dL_areDeadlines_88 rfl rfl (by decide) rfl ?_
  refine mw_iload_n (pc' := 90) dL_areDeadlines_89 rfl rfl rfl ?_
  refine mw_if_eq (tgt := 139) (pc' := 93) dL_areDeadlines_90 rfl (by decide) (fun c33 => ?_) (fun c33 => ?_)
  · replace h := h.1 c33
    refine mw_iconst (pc' := 140) dL_areDeadlines_139 rfl ⟨by decide, by decide⟩ ?_
    exact h
  · replace h := h.2 c33
    refine mw_iload_n (pc' := 94) dL_areDeadlines_93 rfl rfl rfl ?_
    refine mw_if_lt (tgt := 135) (pc' := 97) dL_areDeadlines_94 rfl (by decide) (fun c34 => ?_) (fun c34 => ?_)
    · replace h := h.1 c34
      refine mw_iconst (pc' := 136) dL_areDeadlines_135 rfl ⟨by decide, by decide⟩ ?_
      refine mw_goto (pc' := 0) (tgt := 140) dL_areDeadlines_136 (by decide) ?_
      exact h
    · replace h := h.2 c34
      refine mw_aload_n (v := vR 0) (pc' := 98) dL_areDeadlines_97 rfl rfl (Or.inl rfl) rfl ?_
      refine mw_bipush (pc' := 100) dL_areDeadlines_98 rfl ⟨by decide, by decide⟩ ?_
      refine mw_iload_n (pc' := 101) dL_areDeadlines_100 rfl rfl rfl ?_
      refine mw_iconst (pc' := 102) dL_areDeadlines_101 rfl ⟨by decide, by decide⟩ ?_
      refine mw_iconst (pc' := 103) dL_areDeadlines_102 rfl ⟨by decide, by decide⟩ ?_
      refine mw_callSX (M' := mL_ask) (A := [vR 0, vI 11, vI x3, vI 0, vI 0]) (S := []) (pc' := 106) dL_areDeadlines_103 rfl (goodW 1204 (by decide +kernel) rfl) kX_L_ask kS_L_ask ⟨by decide, by decide, (by show 3 ≤ bc; omega), (by show 18 ≤ bs; omega), by decide⟩ rfl rfl (Nat.le_of_ble_eq_true rfl) (MM.mono ?_ h)
      intro o g37 d38 h35
      rcases o with v36 | k
      · refine mw_top (fun hT => ?_)
        have hG : 65 ≤ g37.2.1 := hT.2
        show MW mL_areDeadlines (bc - 3) (bs - 18) 106 [(0, vR 0), (1, vI s0), (2, vI x2), (3, vI x3), (4, vI x4)] [vI v36] g37 d38 Q
        refine mw_iconst (pc' := 107) dL_areDeadlines_106 rfl ⟨by decide, by decide⟩ ?_
        refine mw_icmp_ne (tgt := 139) (pc' := 110) dL_areDeadlines_107 rfl (by decide) (fun c39 => ?_) (fun c39 => ?_)
        · replace h35 := h35.2 c39
          refine mw_iconst (pc' := 140) dL_areDeadlines_139 rfl ⟨by decide, by decide⟩ ?_
          exact h35
        · replace h35 := h35.1 c39
          refine mw_aload_n (v := vR 0) (pc' := 111) dL_areDeadlines_110 rfl rfl (Or.inl rfl) rfl ?_
          refine mw_bipush (pc' := 113) dL_areDeadlines_111 rfl ⟨by decide, by decide⟩ ?_
          refine mw_iload_n (pc' := 114) dL_areDeadlines_113 rfl rfl rfl ?_
          refine mw_iload_n (pc' := 115) dL_areDeadlines_114 rfl rfl rfl ?_
          refine mw_iconst (pc' := 116) dL_areDeadlines_115 rfl ⟨by decide, by decide⟩ ?_
          refine mw_callSX (M' := mL_ask) (A := [vR 0, vI 10, vI x2, vI x3, vI 0]) (S := []) (pc' := 119) dL_areDeadlines_116 rfl (goodW 1204 (by decide +kernel) rfl) kX_L_ask kS_L_ask ⟨by decide, by decide, (by show 3 ≤ bc - 3; omega), (by show 18 ≤ bs - 18; omega), by decide⟩ rfl rfl (Nat.le_of_ble_eq_true rfl) (MM.mono ?_ h35)
          intro o g42 d43 h40
          rcases o with v41 | k
          · refine mw_top (fun hT => ?_)
            have hG : 65 ≤ g42.2.1 := hT.2
            show MW mL_areDeadlines (bc - 3 - 3) (bs - 18 - 18) 119 [(0, vR 0), (1, vI s0), (2, vI x2), (3, vI x3), (4, vI x4)] [vI v41] g42 d43 Q
            refine mw_if_ne (tgt := 139) (pc' := 122) dL_areDeadlines_119 rfl (by decide) (fun c44 => ?_) (fun c44 => ?_)
            · replace h40 := h40.2 c44
              refine mw_iconst (pc' := 140) dL_areDeadlines_139 rfl ⟨by decide, by decide⟩ ?_
              exact h40
            · replace h40 := h40.1 c44
              refine mw_iload_n (pc' := 123) dL_areDeadlines_122 rfl rfl rfl ?_
              refine mw_aload_n (v := vR 0) (pc' := 124) dL_areDeadlines_123 rfl rfl (Or.inl rfl) rfl ?_
              refine mw_callV (M' := mX11_today) (A := []) (A' := [vR 0]) (S := [vI x3]) (a := 0) (pc' := 127) dL_areDeadlines_124 rfl cl_RL_233 cm_X11_today cv_X11_today ⟨by decide, by decide, (by show 0 ≤ bc - 3 - 3; omega), (by show 0 ≤ bs - 18 - 18; omega), by decide⟩ rfl rfl rfl ⟨by decide, by omega⟩ (by decide +kernel) (by decide +kernel) (Nat.le_of_ble_eq_true rfl) (MM.mono ?_ h40)
              intro o g47 d48 h45
              rcases o with v46 | k
              · refine mw_top (fun hT => ?_)
                have hG : 65 ≤ g47.2.1 := hT.2
                show MW mL_areDeadlines (bc - 3 - 3 - 0) (bs - 18 - 18 - 0) 127 [(0, vR 0), (1, vI s0), (2, vI x2), (3, vI x3), (4, vI x4)] [vI v46, vI x3] g47 d48 Q
                rw [Nat.sub_zero, Nat.sub_zero]
                suffices k49 : (((v46 < x3) ∨ (x4 = 0)) → MW mL_areDeadlines (bc - 3 - 3) (bs - 18 - 18) 135 [(0, vR 0), (1, vI s0), (2, vI x2), (3, vI x3), (4, vI x4)] [] g47 d48 Q) ∧ ((¬ ((v46 < x3) ∨ (x4 = 0))) → MW mL_areDeadlines (bc - 3 - 3) (bs - 18 - 18) 139 [(0, vR 0), (1, vI s0), (2, vI x2), (3, vI x3), (4, vI x4)] [] g47 d48 Q) by
                  refine mw_icmp_gt (tgt := 135) (pc' := 130) dL_areDeadlines_127 rfl (by decide) (fun c50 => ?_) (fun c50 => ?_)
                  · exact k49.1 (Or.inl c50)
                  · refine mw_iload (pc' := 132) dL_areDeadlines_130 rfl rfl ?_
                    refine mw_if_ne (tgt := 139) (pc' := 135) dL_areDeadlines_132 rfl (by decide) (fun c51 => ?_) (fun c51 => ?_)
                    · exact k49.2 (fun h => h.elim (fun q => (c50 q)) (fun h => (c51 h)))
                    · exact k49.1 (Or.inr c51)
                refine ⟨fun c52 => ?_, fun c52 => ?_⟩
                · replace h45 := h45.1 c52
                  refine mw_iconst (pc' := 136) dL_areDeadlines_135 rfl ⟨by decide, by decide⟩ ?_
                  refine mw_goto (pc' := 0) (tgt := 140) dL_areDeadlines_136 (by decide) ?_
                  exact h45
                · replace h45 := h45.2 c52
                  refine mw_iconst (pc' := 140) dL_areDeadlines_139 rfl ⟨by decide, by decide⟩ ?_
                  exact h45
              · exact mx_out rfl h45
          · exact mx_out rfl h40
      · exact mx_out rfl h35
theorem aL_areDeadlines_3 {bc bs : Nat} {x1 x2 : Int} {g : mG} {d : mD} {Q : mQ} (hb : 6 ≤ bc ∧ 36 ≤ bs) (h : ((x1 = 0) → pL_areDeadlines_5 bc bs x1 x2 0 g d Q) ∧ ((¬ (x1 = 0)) → MM mX11_deadlines [vR 0] g d (fun o g56 d57 => match o with | .inl v55 => MM mL_ask [vR 0, vI 0, vI v55, vI 0, vI 0] g56 d57 (fun o g60 d61 => match o with | .inl v59 => ((v59 = (-2001)) → MM mL_ask [vR 0, vI 3, vI (-1), vI 0, vI 0] g60 d61 (fun o g65 d66 => match o with | .inl v64 => pL_areDeadlines_5 (bc - 3 - 3) (bs - 18 - 18) x1 x2 (bI (v64 = (-2001))) g65 d66 Q | .inr k => Q (.inr k) g65 d66)) ∧ ((¬ (v59 = (-2001))) → pL_areDeadlines_5 (bc - 3) (bs - 18) x1 x2 0 g60 d61 Q) | .inr k => Q (.inr k) g60 d61) | .inr k => Q (.inr k) g56 d57))) : pL_areDeadlines_3 bc bs x1 x2 g d Q := by
  unfold pL_areDeadlines_3
  refine mw_top (fun hT => ?_)
  have hG : 65 ≤ g.2.1 := hT.2
  refine mw_iload_n (pc' := 148) dL_areDeadlines_147 rfl rfl rfl ?_
  refine mw_if_eq (tgt := 186) (pc' := 151) dL_areDeadlines_148 rfl (by decide) (fun c53 => ?_) (fun c53 => ?_)
  · replace h := h.1 c53
    refine mw_iconst (pc' := 187) dL_areDeadlines_186 rfl ⟨by decide, by decide⟩ ?_
    exact h
  · replace h := h.2 c53
    refine mw_aload_n (v := vR 0) (pc' := 152) dL_areDeadlines_151 rfl rfl (Or.inl rfl) rfl ?_
    refine mw_iconst (pc' := 153) dL_areDeadlines_152 rfl ⟨by decide, by decide⟩ ?_
    refine mw_aload_n (v := vR 0) (pc' := 154) dL_areDeadlines_153 rfl rfl (Or.inl rfl) rfl ?_
    refine mw_callV (M' := mX11_deadlines) (A := []) (A' := [vR 0]) (S := [vI 0, vR 0]) (a := 0) (pc' := 157) dL_areDeadlines_154 rfl cl_RL_230 cm_X11_deadlines cv_X11_deadlines ⟨by decide, by decide, (by show 0 ≤ bc; omega), (by show 0 ≤ bs; omega), by decide⟩ rfl rfl rfl ⟨by decide, by omega⟩ (by decide +kernel) (by decide +kernel) (Nat.le_of_ble_eq_true rfl) (MM.mono ?_ h)
    intro o g56 d57 h54
    rcases o with v55 | k
    · refine mw_top (fun hT => ?_)
      have hG : 65 ≤ g56.2.1 := hT.2
      show MW mL_areDeadlines bc bs 157 [(0, vR 0), (1, vI x1), (2, vI x2)] [vI v55, vI 0, vR 0] g56 d57 Q
      refine mw_iconst (pc' := 158) dL_areDeadlines_157 rfl ⟨by decide, by decide⟩ ?_
      refine mw_iconst (pc' := 159) dL_areDeadlines_158 rfl ⟨by decide, by decide⟩ ?_
      refine mw_callSX (M' := mL_ask) (A := [vR 0, vI 0, vI v55, vI 0, vI 0]) (S := []) (pc' := 162) dL_areDeadlines_159 rfl (goodW 1204 (by decide +kernel) rfl) kX_L_ask kS_L_ask ⟨by decide, by decide, (by show 3 ≤ bc; omega), (by show 18 ≤ bs; omega), by decide⟩ rfl rfl (Nat.le_of_ble_eq_true rfl) (MM.mono ?_ h54)
      intro o g60 d61 h58
      rcases o with v59 | k
      · refine mw_top (fun hT => ?_)
        have hG : 65 ≤ g60.2.1 := hT.2
        show MW mL_areDeadlines (bc - 3) (bs - 18) 162 [(0, vR 0), (1, vI x1), (2, vI x2)] [vI v59] g60 d61 Q
        refine mw_sipush (pc' := 165) dL_areDeadlines_162 rfl ⟨by decide, by decide⟩ ?_
        refine mw_icmp_ne (tgt := 186) (pc' := 168) dL_areDeadlines_165 rfl (by decide) (fun c62 => ?_) (fun c62 => ?_)
        · replace h58 := h58.2 c62
          refine mw_iconst (pc' := 187) dL_areDeadlines_186 rfl ⟨by decide, by decide⟩ ?_
          exact h58
        · replace h58 := h58.1 c62
          refine mw_aload_n (v := vR 0) (pc' := 169) dL_areDeadlines_168 rfl rfl (Or.inl rfl) rfl ?_
          refine mw_iconst (pc' := 170) dL_areDeadlines_169 rfl ⟨by decide, by decide⟩ ?_
          refine mw_iconst (pc' := 171) dL_areDeadlines_170 rfl ⟨by decide, by decide⟩ ?_
          refine mw_iconst (pc' := 172) dL_areDeadlines_171 rfl ⟨by decide, by decide⟩ ?_
          refine mw_iconst (pc' := 173) dL_areDeadlines_172 rfl ⟨by decide, by decide⟩ ?_
          refine mw_callSX (M' := mL_ask) (A := [vR 0, vI 3, vI (-1), vI 0, vI 0]) (S := []) (pc' := 176) dL_areDeadlines_173 rfl (goodW 1204 (by decide +kernel) rfl) kX_L_ask kS_L_ask ⟨by decide, by decide, (by show 3 ≤ bc - 3; omega), (by show 18 ≤ bs - 18; omega), by decide⟩ rfl rfl (Nat.le_of_ble_eq_true rfl) (MM.mono ?_ h58)
          intro o g65 d66 h63
          rcases o with v64 | k
          · refine mw_top (fun hT => ?_)
            have hG : 65 ≤ g65.2.1 := hT.2
            show MW mL_areDeadlines (bc - 3 - 3) (bs - 18 - 18) 176 [(0, vR 0), (1, vI x1), (2, vI x2)] [vI v64] g65 d66 Q
            refine mw_sipush (pc' := 179) dL_areDeadlines_176 rfl ⟨by decide, by decide⟩ ?_
            suffices k67 : MW mL_areDeadlines (bc - 3 - 3) (bs - 18 - 18) 187 [(0, vR 0), (1, vI x1), (2, vI x2)] [vI (bI (v64 = (-2001)))] g65 d66 Q by
              refine mw_icmp_ne (tgt := 186) (pc' := 182) dL_areDeadlines_179 rfl (by decide) (fun c68 => ?_) (fun c68 => ?_)
              · refine mw_iconst (pc' := 187) dL_areDeadlines_186 rfl ⟨by decide, by decide⟩ ?_
                exact mw_st (bI_f (fun h => (c68 h))).symm k67
              · refine mw_iconst (pc' := 183) dL_areDeadlines_182 rfl ⟨by decide, by decide⟩ ?_
                refine mw_goto (pc' := 0) (tgt := 187) dL_areDeadlines_183 (by decide) ?_
                exact mw_st (bI_t c68).symm k67
            exact h63
          · exact mx_out rfl h63
      · exact mx_out rfl h58
    · exact mx_out rfl h54
theorem aL_areDeadlines_4 {bc bs : Nat} {x1 x2 x3 x4 s0 : Int} {g : mG} {d : mD} {Q : mQ} (h : (iI (x2 + 1)) ∧ (pL_areDeadlines_1 bc bs s0 (x2 + 1) g d Q)) : pL_areDeadlines_4 bc bs x1 x2 x3 x4 s0 g d Q := by
  unfold pL_areDeadlines_4
  refine mw_top (fun hT => ?_)
  have hG : 65 ≤ g.2.1 := hT.2
  refine mw_istore_n (pc' := 141) (L' := [(0, vR 0), (1, vI s0), (2, vI x2), (3, vI x3), (4, vI x4)]) dL_areDeadlines_140 rfl rfl (by decide) rfl ?_
  obtain ⟨o69, h⟩ := h
  refine mw_iinc (pc' := 144) (L' := [(0, vR 0), (1, vI s0), (2, vI (x2 + 1)), (3, vI x3), (4, vI x4)]) dL_areDeadlines_141 rfl rfl (by decide) o69 rfl ?_
  refine mw_goto (pc' := 0) (tgt := 4) dL_areDeadlines_144 (by decide) ?_
  exact mw_loc (pc' := 0) [0, 1, 2] rfl (h)
theorem aL_areDeadlines_5 {bc bs : Nat} {x1 x2 s0 : Int} {g : mG} {d : mD} {Q : mQ} (h : (0 ≤ s0 ∧ s0 ≤ 1) ∧ (Q (.inl s0) g d)) : pL_areDeadlines_5 bc bs x1 x2 s0 g d Q := by
  unfold pL_areDeadlines_5
  refine mw_top (fun hT => ?_)
  have hG : 65 ≤ g.2.1 := hT.2
  obtain ⟨o70, h⟩ := h
  exact mw_iret (pc' := 0) (S := []) dL_areDeadlines_187 rfl (Or.inr (Or.inl ⟨rfl, o70⟩)) h
def pL_isOrdered_1 (bc bs : Nat) (x1 x2 x3 x4 x5 : Int) (g : mG) (d : mD) (Q : mQ) : Prop := MW mL_isOrdered bc bs 20 [(0, vR 0), (1, vI x1), (2, vI x2), (3, vI x3), (4, vI x4), (5, vI x5)] [] g d Q
def pL_isOrdered_2 (bc bs : Nat) (x1 x2 x3 x4 x5 x6 x7 s0 : Int) (g : mG) (d : mD) (Q : mQ) : Prop := MW mL_isOrdered bc bs 85 [(0, vR 0), (1, vI x1), (2, vI x2), (3, vI x3), (4, vI x4), (5, vI x5), (6, vI x6), (7, vI x7)] [vI s0] g d Q
def pL_isOrdered_3 (bc bs : Nat) (x1 x2 x3 x4 x5 : Int) (g : mG) (d : mD) (Q : mQ) : Prop := MW mL_isOrdered bc bs 124 [(0, vR 0), (1, vI x1), (2, vI x2), (3, vI x3), (4, vI x4), (5, vI x5)] [] g d Q
def pL_isOrdered_4 (bc bs : Nat) (x1 x2 x3 x4 x5 s0 : Int) (g : mG) (d : mD) (Q : mQ) : Prop := MW mL_isOrdered bc bs 150 [(0, vR 0), (1, vI x1), (2, vI x2), (3, vI x3), (4, vI x4), (5, vI x5)] [vI s0] g d Q
theorem eL_isOrdered {g : mG} {d : mD} {Q : mQ} (h : MM mL_ask [vR 0, vI 12, vI 0, vI 0, vI 0] g d (fun o g3 d4 => match o with | .inl v2 => pL_isOrdered_1 297 1782 (-1) 0 0 v2 1 g3 d4 Q | .inr k => Q (.inr k) g3 d4)) : MM mL_isOrdered [vR 0] g d Q := by
  refine MM_of (by decide) rfl (by simp [catV]) (Nat.le_of_ble_eq_true rfl) ?_
  show MW mL_isOrdered 300 1800 0 [(0, vR 0)] [] g d Q
  refine mw_top (fun hT => ?_)
  have hG : 65 ≤ g.2.1 := hT.2
  refine mw_iconst (pc' := 1) dL_isOrdered_0 rfl ⟨by decide, by decide⟩ ?_
  refine mw_istore_n (pc' := 2) (L' := [(0, vR 0), (1, vI (-1))]) dL_isOrdered_1 rfl rfl (by decide) rfl ?_
  refine mw_iconst (pc' := 3) dL_isOrdered_2 rfl ⟨by decide, by decide⟩ ?_
  refine mw_istore_n (pc' := 4) (L' := [(0, vR 0), (1, vI (-1)), (2, vI 0)]) dL_isOrdered_3 rfl rfl (by decide) rfl ?_
  refine mw_iconst (pc' := 5) dL_isOrdered_4 rfl ⟨by decide, by decide⟩ ?_
  refine mw_istore_n (pc' := 6) (L' := [(0, vR 0), (1, vI (-1)), (2, vI 0), (3, vI 0)]) dL_isOrdered_5 rfl rfl (by decide) rfl ?_
  refine mw_aload_n (v := vR 0) (pc' := 7) dL_isOrdered_6 rfl rfl (Or.inl rfl) rfl ?_
  refine mw_bipush (pc' := 9) dL_isOrdered_7 rfl ⟨by decide, by decide⟩ ?_
  refine mw_iconst (pc' := 10) dL_isOrdered_9 rfl ⟨by decide, by decide⟩ ?_
  refine mw_iconst (pc' := 11) dL_isOrdered_10 rfl ⟨by decide, by decide⟩ ?_
  refine mw_iconst (pc' := 12) dL_isOrdered_11 rfl ⟨by decide, by decide⟩ ?_
  refine mw_callSX (M' := mL_ask) (A := [vR 0, vI 12, vI 0, vI 0, vI 0]) (S := []) (pc' := 15) dL_isOrdered_12 rfl (goodW 1204 (by decide +kernel) rfl) kX_L_ask kS_L_ask ⟨by decide, by decide, (by show 3 ≤ 300; omega), (by show 18 ≤ 1800; omega), by decide⟩ rfl rfl (Nat.le_of_ble_eq_true rfl) (MM.mono ?_ h)
  intro o g3 d4 h1
  rcases o with v2 | k
  · refine mw_top (fun hT => ?_)
    have hG : 65 ≤ g3.2.1 := hT.2
    show MW mL_isOrdered 297 1782 15 [(0, vR 0), (1, vI (-1)), (2, vI 0), (3, vI 0)] [vI v2] g3 d4 Q
    refine mw_istore (pc' := 17) (L' := [(0, vR 0), (1, vI (-1)), (2, vI 0), (3, vI 0), (4, vI v2)]) dL_isOrdered_15 rfl (by decide) rfl ?_
    refine mw_iconst (pc' := 18) dL_isOrdered_17 rfl ⟨by decide, by decide⟩ ?_
    refine mw_istore (pc' := 20) (L' := [(0, vR 0), (1, vI (-1)), (2, vI 0), (3, vI 0), (4, vI v2), (5, vI 1)]) dL_isOrdered_18 rfl (by decide) rfl ?_
    exact h1
  · exact mx_out rfl h1
theorem aL_isOrdered_1 {bc bs : Nat} {x1 x2 x3 x4 x5 : Int} {g : mG} {d : mD} {Q : mQ} (hb : 6 ≤ bc ∧ 36 ≤ bs) (h : (((¬ (x4 < 0)) ∧ (¬ (x5 = 0))) → MM mL_ask [vR 0, vI 0, vI x4, vI 0, vI 0] g d (fun o g11 d12 => match o with | .inl v10 => ((iT (v10 = (-2005)) 5000 v10 < x1) → pL_isOrdered_2 (bc - 3) (bs - 18) x1 x2 x3 x4 x5 v10 (iT (v10 = (-2005)) 5000 v10) 0 g11 d12 Q) ∧ ((¬ (iT (v10 = (-2005)) 5000 v10 < x1)) → MM mL_ask [vR 0, vI 21, vI x4, vI 0, vI 0] g11 d12 (fun o g18 d19 => match o with | .inl v17 => pL_isOrdered_2 (bc - 3 - 3) (bs - 18 - 18) x1 x2 x3 x4 x5 v10 (iT (v10 = (-2005)) 5000 v10) (bI (v17 = 111)) g18 d19 Q | .inr k => Q (.inr k) g18 d19)) | .inr k => Q (.inr k) g11 d12)) ∧ ((¬ ((¬ (x4 < 0)) ∧ (¬ (x5 = 0)))) → pL_isOrdered_3 bc bs x1 x2 x3 x4 x5 g d Q)) : pL_isOrdered_1 bc bs x1 x2 x3 x4 x5 g d Q := by
  unfold pL_isOrdered_1
  refine mw_top (fun hT => ?_)
  have hG : 65 ≤ g.2.1 := hT.2
  refine mw_iload (pc' := 22) dL_isOrdered_20 rfl rfl ?_
  suffices k5 : (((¬ (x4 < 0)) ∧ (¬ (x5 = 0))) → MW mL_isOrdered bc bs 30 [(0, vR 0), (1, vI x1), (2, vI x2), (3, vI x3), (4, vI x4), (5, vI x5)] [] g d Q) ∧ ((¬ ((¬ (x4 < 0)) ∧ (¬ (x5 = 0)))) → MW mL_isOrdered bc bs 124 [(0, vR 0), (1, vI x1), (2, vI x2), (3, vI x3), (4, vI x4), (5, vI x5)] [] g d Q) by
    refine mw_if_lt (tgt := 124) (pc' := 25) dL_isOrdered_22 rfl (by decide) (fun c6 => ?_) (fun c6 => ?_)
    · exact k5.2 (fun h => (h.1 c6))
    · refine mw_iload (pc' := 27) dL_isOrdered_25 rfl rfl ?_
      refine mw_if_eq (tgt := 124) (pc' := 30) dL_isOrdered_27 rfl (by decide) (fun c7 => ?_) (fun c7 => ?_)
      · exact k5.2 (fun h => (fun h => (h c7)) h.2)
      · exact k5.1 ⟨c6, c7⟩
  refine ⟨fun c8 => ?_, fun c8 => ?_⟩
  · replace h := h.1 c8
    refine mw_aload_n (v := vR 0) (pc' := 31) dL_isOrdered_30 rfl rfl (Or.inl rfl) rfl ?_
    refine mw_iconst (pc' := 32) dL_isOrdered_31 rfl ⟨by decide, by decide⟩ ?_
    refine mw_iload (pc' := 34) dL_isOrdered_32 rfl rfl ?_
    refine mw_iconst (pc' := 35) dL_isOrdered_34 rfl ⟨by decide, by decide⟩ ?_
    refine mw_iconst (pc' := 36) dL_isOrdered_35 rfl ⟨by decide, by decide⟩ ?_
    refine mw_callSX (M' := mL_ask) (A := [vR 0, vI 0, vI x4, vI 0, vI 0]) (S := []) (pc' := 39) dL_isOrdered_36 rfl (goodW 1204 (by decide +kernel) rfl) kX_L_ask kS_L_ask ⟨by decide, by decide, (by show 3 ≤ bc; omega), (by show 18 ≤ bs; omega), by decide⟩ rfl rfl (Nat.le_of_ble_eq_true rfl) (MM.mono ?_ h)
    intro o g11 d12 h9
    rcases o with v10 | k
    · refine mw_top (fun hT => ?_)
      have hG : 65 ≤ g11.2.1 := hT.2
      show MW mL_isOrdered (bc - 3) (bs - 18) 39 [(0, vR 0), (1, vI x1), (2, vI x2), (3, vI x3), (4, vI x4), (5, vI x5)] [vI v10] g11 d12 Q
      refine mw_istore (pc' := 41) (L' := [(0, vR 0), (1, vI x1), (2, vI x2), (3, vI x3), (4, vI x4), (5, vI x5), (6, vI v10)]) dL_isOrdered_39 rfl (by decide) rfl ?_
      refine mw_iload (pc' := 43) dL_isOrdered_41 rfl rfl ?_
      refine mw_sipush (pc' := 46) dL_isOrdered_43 rfl ⟨by decide, by decide⟩ ?_
      suffices k13 : MW mL_isOrdered (bc - 3) (bs - 18) 57 [(0, vR 0), (1, vI x1), (2, vI x2), (3, vI x3), (4, vI x4), (5, vI x5), (6, vI v10)] [vI (iT (v10 = (-2005)) 5000 v10)] g11 d12 Q by
        refine mw_icmp_ne (tgt := 55) (pc' := 49) dL_isOrdered_46 rfl (by decide) (fun c14 => ?_) (fun c14 => ?_)
        · refine mw_iload (pc' := 57) dL_isOrdered_55 rfl rfl ?_
          exact mw_st (((iT_f c14).trans rfl)).symm k13
        · refine mw_sipush (pc' := 52) dL_isOrdered_49 rfl ⟨by decide, by decide⟩ ?_
          refine mw_goto (pc' := 0) (tgt := 57) dL_isOrdered_52 (by decide) ?_
          exact mw_st (((iT_t c14).trans rfl)).symm k13
      refine mw_istore (pc' := 59) (L' := [(0, vR 0), (1, vI x1), (2, vI x2), (3, vI x3), (4, vI x4), (5, vI x5), (6, vI v10), (7, vI (iT (v10 = (-2005)) 5000 v10))]) dL_isOrdered_57 rfl (by decide) rfl ?_
      refine mw_iload (pc' := 61) dL_isOrdered_59 rfl rfl ?_
      refine mw_iload_n (pc' := 62) dL_isOrdered_61 rfl rfl rfl ?_
      refine mw_icmp_lt (tgt := 84) (pc' := 65) dL_isOrdered_62 rfl (by decide) (fun c15 => ?_) (fun c15 => ?_)
      · replace h9 := h9.1 c15
        refine mw_iconst (pc' := 85) dL_isOrdered_84 rfl ⟨by decide, by decide⟩ ?_
        exact h9
      · replace h9 := h9.2 c15
        refine mw_aload_n (v := vR 0) (pc' := 66) dL_isOrdered_65 rfl rfl (Or.inl rfl) rfl ?_
        refine mw_bipush (pc' := 68) dL_isOrdered_66 rfl ⟨by decide, by decide⟩ ?_
        refine mw_iload (pc' := 70) dL_isOrdered_68 rfl rfl ?_
        refine mw_iconst (pc' := 71) dL_isOrdered_70 rfl ⟨by decide, by decide⟩ ?_
        refine mw_iconst (pc' := 72) dL_isOrdered_71 rfl ⟨by decide, by decide⟩ ?_
        refine mw_callSX (M' := mL_ask) (A := [vR 0, vI 21, vI x4, vI 0, vI 0]) (S := []) (pc' := 75) dL_isOrdered_72 rfl (goodW 1204 (by decide +kernel) rfl) kX_L_ask kS_L_ask ⟨by decide, by decide, (by show 3 ≤ bc - 3; omega), (by show 18 ≤ bs - 18; omega), by decide⟩ rfl rfl (Nat.le_of_ble_eq_true rfl) (MM.mono ?_ h9)
        intro o g18 d19 h16
        rcases o with v17 | k
        · refine mw_top (fun hT => ?_)
          have hG : 65 ≤ g18.2.1 := hT.2
          show MW mL_isOrdered (bc - 3 - 3) (bs - 18 - 18) 75 [(0, vR 0), (1, vI x1), (2, vI x2), (3, vI x3), (4, vI x4), (5, vI x5), (6, vI v10), (7, vI (iT (v10 = (-2005)) 5000 v10))] [vI v17] g18 d19 Q
          refine mw_bipush (pc' := 77) dL_isOrdered_75 rfl ⟨by decide, by decide⟩ ?_
          suffices k20 : MW mL_isOrdered (bc - 3 - 3) (bs - 18 - 18) 85 [(0, vR 0), (1, vI x1), (2, vI x2), (3, vI x3), (4, vI x4), (5, vI x5), (6, vI v10), (7, vI (iT (v10 = (-2005)) 5000 v10))] [vI (bI (v17 = 111))] g18 d19 Q by
            refine mw_icmp_ne (tgt := 84) (pc' := 80) dL_isOrdered_77 rfl (by decide) (fun c21 => ?_) (fun c21 => ?_)
            · refine mw_iconst (pc' := 85) dL_isOrdered_84 rfl ⟨by decide, by decide⟩ ?_
              exact mw_st (bI_f (fun h => (c21 h))).symm k20
            · refine mw_iconst (pc' := 81) dL_isOrdered_80 rfl ⟨by decide, by decide⟩ ?_
              refine mw_goto (pc' := 0) (tgt := 85) dL_isOrdered_81 (by decide) ?_
              exact mw_st (bI_t c21).symm k20
          exact h16
        · exact mx_out rfl h16
    · exact mx_out rfl h9
  · replace h := h.2 c8
    exact h
theorem aL_isOrdered_2 {bc bs : Nat} {x1 x2 x3 x4 x5 x6 x7 s0 : Int} {g : mG} {d : mD} {Q : mQ} (hb : 3 ≤ bc ∧ 18 ≤ bs) (h : MM mX11_today [vR 0] g d (fun o g24 d25 => match o with | .inl v23 => (iI (x2 + (bI (¬ (v23 ≤ x7))))) ∧ ((iI (x3 + 1)) ∧ (MM mL_ask [vR 0, vI 12, vI (x3 + 1), vI 0, vI 0] g24 d25 (fun o g32 d33 => match o with | .inl v31 => pL_isOrdered_1 (bc - 3) (bs - 18) x7 (x2 + (bI (¬ (v23 ≤ x7)))) (x3 + 1) v31 s0 g32 d33 Q | .inr k => Q (.inr k) g32 d33))) | .inr k => Q (.inr k) g24 d25)) : pL_isOrdered_2 bc bs x1 x2 x3 x4 x5 x6 x7 s0 g d Q := by
  unfold pL_isOrdered_2
  refine mw_top (fun hT => ?_)
  have hG : 65 ≤ g.2.1 := hT.2
  refine mw_istore (pc' := 87) (L' := [(0, vR 0), (1, vI x1), (2, vI x2), (3, vI x3), (4, vI x4), (5, vI s0), (6, vI x6), (7, vI x7)]) dL_isOrdered_85 rfl (by decide) rfl ?_
  refine mw_iload_n (pc' := 88) dL_isOrdered_87 rfl rfl rfl ?_
  refine mw_iload (pc' := 90) dL_isOrdered_88 rfl rfl ?_
  refine mw_aload_n (v := vR 0) (pc' := 91) dL_isOrdered_90 rfl rfl (Or.inl rfl) rfl ?_
  refine mw_callV (M' := mX11_today) (A := []) (A' := [vR 0]) (S := [vI x7, vI x2]) (a := 0) (pc' := 94) dL_isOrdered_91 rfl cl_RL_233 cm_X11_today cv_X11_today ⟨by decide, by decide, (by show 0 ≤ bc; omega), (by show 0 ≤ bs; omega), by decide⟩ rfl rfl rfl ⟨by decide, by omega⟩ (by decide +kernel) (by decide +kernel) (Nat.le_of_ble_eq_true rfl) (MM.mono ?_ h)
  intro o g24 d25 h22
  rcases o with v23 | k
  · refine mw_top (fun hT => ?_)
    have hG : 65 ≤ g24.2.1 := hT.2
    show MW mL_isOrdered bc bs 94 [(0, vR 0), (1, vI x1), (2, vI x2), (3, vI x3), (4, vI x4), (5, vI s0), (6, vI x6), (7, vI x7)] [vI v23, vI x7, vI x2] g24 d25 Q
    suffices k26 : MW mL_isOrdered bc bs 102 [(0, vR 0), (1, vI x1), (2, vI x2), (3, vI x3), (4, vI x4), (5, vI s0), (6, vI x6), (7, vI x7)] [vI (bI (¬ (v23 ≤ x7))), vI x2] g24 d25 Q by
      refine mw_icmp_ge (tgt := 101) (pc' := 97) dL_isOrdered_94 rfl (by decide) (fun c27 => ?_) (fun c27 => ?_)
      · refine mw_iconst (pc' := 102) dL_isOrdered_101 rfl ⟨by decide, by decide⟩ ?_
        exact mw_st (bI_f (fun h => (h c27))).symm k26
      · refine mw_iconst (pc' := 98) dL_isOrdered_97 rfl ⟨by decide, by decide⟩ ?_
        refine mw_goto (pc' := 0) (tgt := 102) dL_isOrdered_98 (by decide) ?_
        exact mw_st (bI_t c27).symm k26
    obtain ⟨o28, h22⟩ := h22
    refine mw_iadd (pc' := 103) dL_isOrdered_102 rfl o28 ?_
    refine mw_istore_n (pc' := 104) (L' := [(0, vR 0), (1, vI x1), (2, vI (x2 + (bI (¬ (v23 ≤ x7))))), (3, vI x3), (4, vI x4), (5, vI s0), (6, vI x6), (7, vI x7)]) dL_isOrdered_103 rfl rfl (by decide) rfl ?_
    refine mw_iload (pc' := 106) dL_isOrdered_104 rfl rfl ?_
    refine mw_istore_n (pc' := 107) (L' := [(0, vR 0), (1, vI x7), (2, vI (x2 + (bI (¬ (v23 ≤ x7))))), (3, vI x3), (4, vI x4), (5, vI s0), (6, vI x6), (7, vI x7)]) dL_isOrdered_106 rfl rfl (by decide) rfl ?_
    obtain ⟨o29, h22⟩ := h22
    refine mw_iinc (pc' := 110) (L' := [(0, vR 0), (1, vI x7), (2, vI (x2 + (bI (¬ (v23 ≤ x7))))), (3, vI (x3 + 1)), (4, vI x4), (5, vI s0), (6, vI x6), (7, vI x7)]) dL_isOrdered_107 rfl rfl (by decide) o29 rfl ?_
    refine mw_aload_n (v := vR 0) (pc' := 111) dL_isOrdered_110 rfl rfl (Or.inl rfl) rfl ?_
    refine mw_bipush (pc' := 113) dL_isOrdered_111 rfl ⟨by decide, by decide⟩ ?_
    refine mw_iload_n (pc' := 114) dL_isOrdered_113 rfl rfl rfl ?_
    refine mw_iconst (pc' := 115) dL_isOrdered_114 rfl ⟨by decide, by decide⟩ ?_
    refine mw_iconst (pc' := 116) dL_isOrdered_115 rfl ⟨by decide, by decide⟩ ?_
    refine mw_callSX (M' := mL_ask) (A := [vR 0, vI 12, vI (x3 + 1), vI 0, vI 0]) (S := []) (pc' := 119) dL_isOrdered_116 rfl (goodW 1204 (by decide +kernel) rfl) kX_L_ask kS_L_ask ⟨by decide, by decide, (by show 3 ≤ bc; omega), (by show 18 ≤ bs; omega), by decide⟩ rfl rfl (Nat.le_of_ble_eq_true rfl) (MM.mono ?_ h22)
    intro o g32 d33 h30
    rcases o with v31 | k
    · refine mw_top (fun hT => ?_)
      have hG : 65 ≤ g32.2.1 := hT.2
      show MW mL_isOrdered (bc - 3) (bs - 18) 119 [(0, vR 0), (1, vI x7), (2, vI (x2 + (bI (¬ (v23 ≤ x7))))), (3, vI (x3 + 1)), (4, vI x4), (5, vI s0), (6, vI x6), (7, vI x7)] [vI v31] g32 d33 Q
      refine mw_istore (pc' := 121) (L' := [(0, vR 0), (1, vI x7), (2, vI (x2 + (bI (¬ (v23 ≤ x7))))), (3, vI (x3 + 1)), (4, vI v31), (5, vI s0), (6, vI x6), (7, vI x7)]) dL_isOrdered_119 rfl (by decide) rfl ?_
      refine mw_goto (pc' := 0) (tgt := 20) dL_isOrdered_121 (by decide) ?_
      exact mw_loc (pc' := 0) [0, 1, 2, 3, 4, 5] rfl (h30)
    · exact mx_out rfl h30
  · exact mx_out rfl h22
theorem aL_isOrdered_3 {bc bs : Nat} {x1 x2 x3 x4 x5 : Int} {g : mG} {d : mD} {Q : mQ} (h : (((¬ (x5 = 0)) ∧ (x4 = (-2005))) → MM mX11_overdue [vR 0] g d (fun o g40 d41 => match o with | .inl v39 => pL_isOrdered_4 bc bs x1 x2 x3 x4 x5 (bI (x2 = v39)) g40 d41 Q | .inr k => Q (.inr k) g40 d41)) ∧ ((¬ ((¬ (x5 = 0)) ∧ (x4 = (-2005)))) → pL_isOrdered_4 bc bs x1 x2 x3 x4 x5 0 g d Q)) : pL_isOrdered_3 bc bs x1 x2 x3 x4 x5 g d Q := by
  unfold pL_isOrdered_3
  refine mw_top (fun hT => ?_)
  have hG : 65 ≤ g.2.1 := hT.2
  refine mw_iload (pc' := 126) dL_isOrdered_124 rfl rfl ?_
  suffices k34 : (((¬ (x5 = 0)) ∧ (x4 = (-2005))) → MW mL_isOrdered bc bs 137 [(0, vR 0), (1, vI x1), (2, vI x2), (3, vI x3), (4, vI x4), (5, vI x5)] [] g d Q) ∧ ((¬ ((¬ (x5 = 0)) ∧ (x4 = (-2005)))) → MW mL_isOrdered bc bs 149 [(0, vR 0), (1, vI x1), (2, vI x2), (3, vI x3), (4, vI x4), (5, vI x5)] [] g d Q) by
    refine mw_if_eq (tgt := 149) (pc' := 129) dL_isOrdered_126 rfl (by decide) (fun c35 => ?_) (fun c35 => ?_)
    · exact k34.2 (fun h => (h.1 c35))
    · refine mw_iload (pc' := 131) dL_isOrdered_129 rfl rfl ?_
      refine mw_sipush (pc' := 134) dL_isOrdered_131 rfl ⟨by decide, by decide⟩ ?_
      refine mw_icmp_ne (tgt := 149) (pc' := 137) dL_isOrdered_134 rfl (by decide) (fun c36 => ?_) (fun c36 => ?_)
      · exact k34.2 (fun h => (fun h => (c36 h)) h.2)
      · exact k34.1 ⟨c35, c36⟩
  refine ⟨fun c37 => ?_, fun c37 => ?_⟩
  · replace h := h.1 c37
    refine mw_iload_n (pc' := 138) dL_isOrdered_137 rfl rfl rfl ?_
    refine mw_aload_n (v := vR 0) (pc' := 139) dL_isOrdered_138 rfl rfl (Or.inl rfl) rfl ?_
    refine mw_callV (M' := mX11_overdue) (A := []) (A' := [vR 0]) (S := [vI x2]) (a := 0) (pc' := 142) dL_isOrdered_139 rfl cl_RL_239 cm_X11_overdue cv_X11_overdue ⟨by decide, by decide, (by show 0 ≤ bc; omega), (by show 0 ≤ bs; omega), by decide⟩ rfl rfl rfl ⟨by decide, by omega⟩ (by decide +kernel) (by decide +kernel) (Nat.le_of_ble_eq_true rfl) (MM.mono ?_ h)
    intro o g40 d41 h38
    rcases o with v39 | k
    · refine mw_top (fun hT => ?_)
      have hG : 65 ≤ g40.2.1 := hT.2
      show MW mL_isOrdered bc bs 142 [(0, vR 0), (1, vI x1), (2, vI x2), (3, vI x3), (4, vI x4), (5, vI x5)] [vI v39, vI x2] g40 d41 Q
      suffices k42 : MW mL_isOrdered bc bs 150 [(0, vR 0), (1, vI x1), (2, vI x2), (3, vI x3), (4, vI x4), (5, vI x5)] [vI (bI (x2 = v39))] g40 d41 Q by
        refine mw_icmp_ne (tgt := 149) (pc' := 145) dL_isOrdered_142 rfl (by decide) (fun c43 => ?_) (fun c43 => ?_)
        · refine mw_iconst (pc' := 150) dL_isOrdered_149 rfl ⟨by decide, by decide⟩ ?_
          exact mw_st (bI_f (fun h => (c43 h))).symm k42
        · refine mw_iconst (pc' := 146) dL_isOrdered_145 rfl ⟨by decide, by decide⟩ ?_
          refine mw_goto (pc' := 0) (tgt := 150) dL_isOrdered_146 (by decide) ?_
          exact mw_st (bI_t c43).symm k42
      exact h38
    · exact mx_out rfl h38
  · replace h := h.2 c37
    refine mw_iconst (pc' := 150) dL_isOrdered_149 rfl ⟨by decide, by decide⟩ ?_
    exact h
theorem aL_isOrdered_4 {bc bs : Nat} {x1 x2 x3 x4 x5 s0 : Int} {g : mG} {d : mD} {Q : mQ} (h : (0 ≤ s0 ∧ s0 ≤ 1) ∧ (Q (.inl s0) g d)) : pL_isOrdered_4 bc bs x1 x2 x3 x4 x5 s0 g d Q := by
  unfold pL_isOrdered_4
  refine mw_top (fun hT => ?_)
  have hG : 65 ≤ g.2.1 := hT.2
  obtain ⟨o44, h⟩ := h
  exact mw_iret (pc' := 0) (S := []) dL_isOrdered_150 rfl (Or.inr (Or.inl ⟨rfl, o44⟩)) h
def pL_areRanges_1 (bc bs : Nat) (x2 x3 x4 x5 x6 x7 : Int) (g : mG) (d : mD) (Q : mQ) : Prop := MW mL_areRanges bc bs 143 [(0, vR 0), (1, (5, 0)), (2, vI x2), (3, vI x3), (4, vI x4), (5, vI x5), (6, vI x6), (7, vI x7)] [] g d Q
def pL_areRanges_2 (bc bs : Nat) (x2 x3 x4 x5 x6 x7 s0 : Int) (g : mG) (d : mD) (Q : mQ) : Prop := MW mL_areRanges bc bs 171 [(0, vR 0), (1, (5, 0)), (2, vI x2), (3, vI x3), (4, vI x4), (5, vI x5), (6, vI x6), (7, vI x7)] [vI s0] g d Q
def pL_areRanges_3 (bc bs : Nat) (x2 x3 x4 x5 x6 x7 x8 x9 s0 : Int) (g : mG) (d : mD) (Q : mQ) : Prop := MW mL_areRanges bc bs 243 [(0, vR 0), (1, (5, 0)), (2, vI x2), (3, vI x3), (4, vI x4), (5, vI x5), (6, vI x6), (7, vI x7), (8, vI x8), (9, vI x9)] [vI s0] g d Q
def pL_areRanges_4 (bc bs : Nat) (x2 x3 x4 x5 x6 x7 x8 x9 s0 : Int) (g : mG) (d : mD) (Q : mQ) : Prop := MW mL_areRanges bc bs 307 [(0, vR 0), (1, (5, 0)), (2, vI x2), (3, vI x3), (4, vI x4), (5, vI x5), (6, vI x6), (7, vI x7), (8, vI x8), (9, vI x9)] [vI s0] g d Q
theorem eL_areRanges {x2 : Int} {g : mG} {d : mD} {Q : mQ} (h : (iI (x2 + 1)) ∧ (MM mL_pick [(5, 0), vI (x2 + 1), vI 2] g d (fun o g4 d5 => match o with | .inl v3 => MM mL_pick [(5, 0), vI x2, vI (iT (v3 = 0) 60 5000)] g4 d5 (fun o g10 d11 => match o with | .inl v9 => (iI (x2 + 2)) ∧ ((iI (x2 + 3)) ∧ (MM mL_pick [(5, 0), vI (x2 + 3), vI 2] g10 d11 (fun o g16 d17 => match o with | .inl v15 => MM mL_pick [(5, 0), vI (x2 + 2), vI (iT (v15 = 0) 30 5000)] g16 d17 (fun o g22 d23 => match o with | .inl v21 => (iI (v9 + v21)) ∧ ((iI (x2 + 4)) ∧ (MM mL_pick [(5, 0), vI (x2 + 4), vI 8] g22 d23 (fun o g28 d29 => match o with | .inl v27 => (iI (x2 + 5)) ∧ (MM mX11_deadlines [vR 0] g28 d29 (fun o g33 d34 => match o with | .inl v32 => (iI (v32 + 1)) ∧ (MM mL_pick [(5, 0), vI (x2 + 5), vI (v32 + 1)] g33 d34 (fun o g38 d39 => match o with | .inl v37 => MM mL_ask [vR 0, vI 6, vI v9, vI (v9 + v21), vI 0] g38 d39 (fun o g42 d43 => match o with | .inl v41 => MM mL_ask [vR 0, vI 7, vI v9, vI (v9 + v21), vI 0] g42 d43 (fun o g46 d47 => match o with | .inl v45 => ((v41 = v45) → (v9 + v21 ≤ 4999) → (¬ (v41 < 0)) → iI ((v9 + v21) - v9)) ∧ (((v41 = v45) → (v9 + v21 ≤ 4999) → (¬ (v41 < 0)) → iI (((v9 + v21) - v9) + 1)) ∧ ((((v41 = v45) ∧ (((v9 + v21 ≤ 4999) ∧ ((¬ (v41 < 0)) ∧ (¬ (((v9 + v21) - v9) + 1 < v41)))) ∨ ((¬ (v9 + v21 ≤ 4999)) ∧ (v41 = (-2002))))) → pL_areRanges_1 24 144 x2 v9 (v9 + v21) v27 v37 v41 g46 d47 Q) ∧ ((¬ ((v41 = v45) ∧ (((v9 + v21 ≤ 4999) ∧ ((¬ (v41 < 0)) ∧ (¬ (((v9 + v21) - v9) + 1 < v41)))) ∨ ((¬ (v9 + v21 ≤ 4999)) ∧ (v41 = (-2002)))))) → pL_areRanges_2 24 144 x2 v9 (v9 + v21) v27 v37 v41 0 g46 d47 Q))) | .inr k => Q (.inr k) g46 d47) | .inr k => Q (.inr k) g42 d43) | .inr k => Q (.inr k) g38 d39)) | .inr k => Q (.inr k) g33 d34)) | .inr k => Q (.inr k) g28 d29))) | .inr k => Q (.inr k) g22 d23) | .inr k => Q (.inr k) g16 d17))) | .inr k => Q (.inr k) g10 d11) | .inr k => Q (.inr k) g4 d5))) : MM mL_areRanges [vR 0, (5, 0), vI x2] g d Q := by
  refine MM_of (by decide) rfl (by simp [catV]) (Nat.le_of_ble_eq_true rfl) ?_
  show MW mL_areRanges 30 180 0 [(0, vR 0), (1, (5, 0)), (2, vI x2)] [] g d Q
  refine mw_top (fun hT => ?_)
  have hG : 65 ≤ g.2.1 := hT.2
  refine mw_aload_n (v := (5, 0)) (pc' := 1) dL_areRanges_0 rfl rfl (Or.inr (Or.inl rfl)) rfl ?_
  refine mw_iload_n (pc' := 2) dL_areRanges_1 rfl rfl rfl ?_
  refine mw_aload_n (v := (5, 0)) (pc' := 3) dL_areRanges_2 rfl rfl (Or.inr (Or.inl rfl)) rfl ?_
  refine mw_iload_n (pc' := 4) dL_areRanges_3 rfl rfl rfl ?_
  refine mw_iconst (pc' := 5) dL_areRanges_4 rfl ⟨by decide, by decide⟩ ?_
  obtain ⟨o1, h⟩ := h
  refine mw_iadd (pc' := 6) dL_areRanges_5 rfl o1 ?_
  refine mw_iconst (pc' := 7) dL_areRanges_6 rfl ⟨by decide, by decide⟩ ?_
  refine mw_callS (M' := mL_pick) (A := [(5, 0), vI (x2 + 1), vI 2]) (S := [vI x2, (5, 0)]) (pc' := 10) dL_areRanges_7 rfl cl_RL_223 cm_L_pick cs_L_pick ⟨by decide, by decide, (by show 0 ≤ 30; omega), (by show 0 ≤ 180; omega), by decide⟩ rfl rfl (Nat.le_of_ble_eq_true rfl) (MM.mono ?_ h)
  intro o g4 d5 h2
  rcases o with v3 | k
  · refine mw_top (fun hT => ?_)
    have hG : 65 ≤ g4.2.1 := hT.2
    show MW mL_areRanges 30 180 10 [(0, vR 0), (1, (5, 0)), (2, vI x2)] [vI v3, vI x2, (5, 0)] g4 d5 Q
    suffices k6 : MW mL_areRanges 30 180 21 [(0, vR 0), (1, (5, 0)), (2, vI x2)] [vI (iT (v3 = 0) 60 5000), vI x2, (5, 0)] g4 d5 Q by
      refine mw_if_ne (tgt := 18) (pc' := 13) dL_areRanges_10 rfl (by decide) (fun c7 => ?_) (fun c7 => ?_)
      · refine mw_sipush (pc' := 21) dL_areRanges_18 rfl ⟨by decide, by decide⟩ ?_
        exact mw_st (((iT_f c7).trans rfl)).symm k6
      · refine mw_bipush (pc' := 15) dL_areRanges_13 rfl ⟨by decide, by decide⟩ ?_
        refine mw_goto (pc' := 0) (tgt := 21) dL_areRanges_15 (by decide) ?_
        exact mw_st (((iT_t c7).trans rfl)).symm k6
    refine mw_callS (M' := mL_pick) (A := [(5, 0), vI x2, vI (iT (v3 = 0) 60 5000)]) (S := []) (pc' := 24) dL_areRanges_21 rfl cl_RL_223 cm_L_pick cs_L_pick ⟨by decide, by decide, (by show 0 ≤ 30; omega), (by show 0 ≤ 180; omega), by decide⟩ rfl rfl (Nat.le_of_ble_eq_true rfl) (MM.mono ?_ h2)
    intro o g10 d11 h8
    rcases o with v9 | k
    · refine mw_top (fun hT => ?_)
      have hG : 65 ≤ g10.2.1 := hT.2
      show MW mL_areRanges 30 180 24 [(0, vR 0), (1, (5, 0)), (2, vI x2)] [vI v9] g10 d11 Q
      refine mw_istore_n (pc' := 25) (L' := [(0, vR 0), (1, (5, 0)), (2, vI x2), (3, vI v9)]) dL_areRanges_24 rfl rfl (by decide) rfl ?_
      refine mw_iload_n (pc' := 26) dL_areRanges_25 rfl rfl rfl ?_
      refine mw_aload_n (v := (5, 0)) (pc' := 27) dL_areRanges_26 rfl rfl (Or.inr (Or.inl rfl)) rfl ?_
      refine mw_iload_n (pc' := 28) dL_areRanges_27 rfl rfl rfl ?_
      refine mw_iconst (pc' := 29) dL_areRanges_28 rfl ⟨by decide, by decide⟩ ?_
      obtain ⟨o12, h8⟩ := h8
      refine mw_iadd (pc' := 30) dL_areRanges_29 rfl o12 ?_
      refine mw_aload_n (v := (5, 0)) (pc' := 31) dL_areRanges_30 rfl rfl (Or.inr (Or.inl rfl)) rfl ?_
      refine mw_iload_n (pc' := 32) dL_areRanges_31 rfl rfl rfl ?_
      refine mw_iconst (pc' := 33) dL_areRanges_32 rfl ⟨by decide, by decide⟩ ?_
      obtain ⟨o13, h8⟩ := h8
      refine mw_iadd (pc' := 34) dL_areRanges_33 rfl o13 ?_
      refine mw_iconst (pc' := 35) dL_areRanges_34 rfl ⟨by decide, by decide⟩ ?_
      refine mw_callS (M' := mL_pick) (A := [(5, 0), vI (x2 + 3), vI 2]) (S := [vI (x2 + 2), (5, 0), vI v9]) (pc' := 38) dL_areRanges_35 rfl cl_RL_223 cm_L_pick cs_L_pick ⟨by decide, by decide, (by show 0 ≤ 30; omega), (by show 0 ≤ 180; omega), by decide⟩ rfl rfl (Nat.le_of_ble_eq_true rfl) (MM.mono ?_ h8)
      intro o g16 d17 h14
      rcases o with v15 | k
      · refine mw_top (fun hT => ?_)
        have hG : 65 ≤ g16.2.1 := hT.2
        show MW mL_areRanges 30 180 38 [(0, vR 0), (1, (5, 0)), (2, vI x2), (3, vI v9)] [vI v15, vI (x2 + 2), (5, 0), vI v9] g16 d17 Q
        suffices k18 : MW mL_areRanges 30 180 49 [(0, vR 0), (1, (5, 0)), (2, vI x2), (3, vI v9)] [vI (iT (v15 = 0) 30 5000), vI (x2 + 2), (5, 0), vI v9] g16 d17 Q by
          refine mw_if_ne (tgt := 46) (pc' := 41) dL_areRanges_38 rfl (by decide) (fun c19 => ?_) (fun c19 => ?_)
          · refine mw_sipush (pc' := 49) dL_areRanges_46 rfl ⟨by decide, by decide⟩ ?_
            exact mw_st (((iT_f c19).trans rfl)).symm k18
          · refine mw_bipush (pc' := 43) dL_areRanges_41 rfl ⟨by decide, by decide⟩ ?_
            refine mw_goto (pc' := 0) (tgt := 49) dL_areRanges_43 (by decide) ?_
            exact mw_st (((iT_t c19).trans rfl)).symm k18
        refine mw_callS (M' := mL_pick) (A := [(5, 0), vI (x2 + 2), vI (iT (v15 = 0) 30 5000)]) (S := [vI v9]) (pc' := 52) dL_areRanges_49 rfl cl_RL_223 cm_L_pick cs_L_pick ⟨by decide, by decide, (by show 0 ≤ 30; omega), (by show 0 ≤ 180; omega), by decide⟩ rfl rfl (Nat.le_of_ble_eq_true rfl) (MM.mono ?_ h14)
        intro o g22 d23 h20
        rcases o with v21 | k
        · refine mw_top (fun hT => ?_)
          have hG : 65 ≤ g22.2.1 := hT.2
          show MW mL_areRanges 30 180 52 [(0, vR 0), (1, (5, 0)), (2, vI x2), (3, vI v9)] [vI v21, vI v9] g22 d23 Q
          obtain ⟨o24, h20⟩ := h20
          refine mw_iadd (pc' := 53) dL_areRanges_52 rfl o24 ?_
          refine mw_istore (pc' := 55) (L' := [(0, vR 0), (1, (5, 0)), (2, vI x2), (3, vI v9), (4, vI (v9 + v21))]) dL_areRanges_53 rfl (by decide) rfl ?_
          refine mw_aload_n (v := (5, 0)) (pc' := 56) dL_areRanges_55 rfl rfl (Or.inr (Or.inl rfl)) rfl ?_
          refine mw_iload_n (pc' := 57) dL_areRanges_56 rfl rfl rfl ?_
          refine mw_iconst (pc' := 58) dL_areRanges_57 rfl ⟨by decide, by decide⟩ ?_
          obtain ⟨o25, h20⟩ := h20
          refine mw_iadd (pc' := 59) dL_areRanges_58 rfl o25 ?_
          refine mw_bipush (pc' := 61) dL_areRanges_59 rfl ⟨by decide, by decide⟩ ?_
          refine mw_callS (M' := mL_pick) (A := [(5, 0), vI (x2 + 4), vI 8]) (S := []) (pc' := 64) dL_areRanges_61 rfl cl_RL_223 cm_L_pick cs_L_pick ⟨by decide, by decide, (by show 0 ≤ 30; omega), (by show 0 ≤ 180; omega), by decide⟩ rfl rfl (Nat.le_of_ble_eq_true rfl) (MM.mono ?_ h20)
          intro o g28 d29 h26
          rcases o with v27 | k
          · refine mw_top (fun hT => ?_)
            have hG : 65 ≤ g28.2.1 := hT.2
            show MW mL_areRanges 30 180 64 [(0, vR 0), (1, (5, 0)), (2, vI x2), (3, vI v9), (4, vI (v9 + v21))] [vI v27] g28 d29 Q
            refine mw_istore (pc' := 66) (L' := [(0, vR 0), (1, (5, 0)), (2, vI x2), (3, vI v9), (4, vI (v9 + v21)), (5, vI v27)]) dL_areRanges_64 rfl (by decide) rfl ?_
            refine mw_aload_n (v := (5, 0)) (pc' := 67) dL_areRanges_66 rfl rfl (Or.inr (Or.inl rfl)) rfl ?_
            refine mw_iload_n (pc' := 68) dL_areRanges_67 rfl rfl rfl ?_
            refine mw_iconst (pc' := 69) dL_areRanges_68 rfl ⟨by decide, by decide⟩ ?_
            obtain ⟨o30, h26⟩ := h26
            refine mw_iadd (pc' := 70) dL_areRanges_69 rfl o30 ?_
            refine mw_aload_n (v := vR 0) (pc' := 71) dL_areRanges_70 rfl rfl (Or.inl rfl) rfl ?_
            refine mw_callV (M' := mX11_deadlines) (A := []) (A' := [vR 0]) (S := [vI (x2 + 5), (5, 0)]) (a := 0) (pc' := 74) dL_areRanges_71 rfl cl_RL_230 cm_X11_deadlines cv_X11_deadlines ⟨by decide, by decide, (by show 0 ≤ 30; omega), (by show 0 ≤ 180; omega), by decide⟩ rfl rfl rfl ⟨by decide, by omega⟩ (by decide +kernel) (by decide +kernel) (Nat.le_of_ble_eq_true rfl) (MM.mono ?_ h26)
            intro o g33 d34 h31
            rcases o with v32 | k
            · refine mw_top (fun hT => ?_)
              have hG : 65 ≤ g33.2.1 := hT.2
              show MW mL_areRanges 30 180 74 [(0, vR 0), (1, (5, 0)), (2, vI x2), (3, vI v9), (4, vI (v9 + v21)), (5, vI v27)] [vI v32, vI (x2 + 5), (5, 0)] g33 d34 Q
              refine mw_iconst (pc' := 75) dL_areRanges_74 rfl ⟨by decide, by decide⟩ ?_
              obtain ⟨o35, h31⟩ := h31
              refine mw_iadd (pc' := 76) dL_areRanges_75 rfl o35 ?_
              refine mw_callS (M' := mL_pick) (A := [(5, 0), vI (x2 + 5), vI (v32 + 1)]) (S := []) (pc' := 79) dL_areRanges_76 rfl cl_RL_223 cm_L_pick cs_L_pick ⟨by decide, by decide, (by show 0 ≤ 30; omega), (by show 0 ≤ 180; omega), by decide⟩ rfl rfl (Nat.le_of_ble_eq_true rfl) (MM.mono ?_ h31)
              intro o g38 d39 h36
              rcases o with v37 | k
              · refine mw_top (fun hT => ?_)
                have hG : 65 ≤ g38.2.1 := hT.2
                show MW mL_areRanges 30 180 79 [(0, vR 0), (1, (5, 0)), (2, vI x2), (3, vI v9), (4, vI (v9 + v21)), (5, vI v27)] [vI v37] g38 d39 Q
                refine mw_istore (pc' := 81) (L' := [(0, vR 0), (1, (5, 0)), (2, vI x2), (3, vI v9), (4, vI (v9 + v21)), (5, vI v27), (6, vI v37)]) dL_areRanges_79 rfl (by decide) rfl ?_
                refine mw_aload_n (v := vR 0) (pc' := 82) dL_areRanges_81 rfl rfl (Or.inl rfl) rfl ?_
                refine mw_bipush (pc' := 84) dL_areRanges_82 rfl ⟨by decide, by decide⟩ ?_
                refine mw_iload_n (pc' := 85) dL_areRanges_84 rfl rfl rfl ?_
                refine mw_iload (pc' := 87) dL_areRanges_85 rfl rfl ?_
                refine mw_iconst (pc' := 88) dL_areRanges_87 rfl ⟨by decide, by decide⟩ ?_
                refine mw_callSX (M' := mL_ask) (A := [vR 0, vI 6, vI v9, vI (v9 + v21), vI 0]) (S := []) (pc' := 91) dL_areRanges_88 rfl (goodW 1204 (by decide +kernel) rfl) kX_L_ask kS_L_ask ⟨by decide, by decide, (by show 3 ≤ 30; omega), (by show 18 ≤ 180; omega), by decide⟩ rfl rfl (Nat.le_of_ble_eq_true rfl) (MM.mono ?_ h36)
                intro o g42 d43 h40
                rcases o with v41 | k
                · refine mw_top (fun hT => ?_)
                  have hG : 65 ≤ g42.2.1 := hT.2
                  show MW mL_areRanges 27 162 91 [(0, vR 0), (1, (5, 0)), (2, vI x2), (3, vI v9), (4, vI (v9 + v21)), (5, vI v27), (6, vI v37)] [vI v41] g42 d43 Q
                  refine mw_istore (pc' := 93) (L' := [(0, vR 0), (1, (5, 0)), (2, vI x2), (3, vI v9), (4, vI (v9 + v21)), (5, vI v27), (6, vI v37), (7, vI v41)]) dL_areRanges_91 rfl (by decide) rfl ?_
                  refine mw_iload (pc' := 95) dL_areRanges_93 rfl rfl ?_
                  refine mw_aload_n (v := vR 0) (pc' := 96) dL_areRanges_95 rfl rfl (Or.inl rfl) rfl ?_
                  refine mw_bipush (pc' := 98) dL_areRanges_96 rfl ⟨by decide, by decide⟩ ?_
                  refine mw_iload_n (pc' := 99) dL_areRanges_98 rfl rfl rfl ?_
                  refine mw_iload (pc' := 101) dL_areRanges_99 rfl rfl ?_
                  refine mw_iconst (pc' := 102) dL_areRanges_101 rfl ⟨by decide, by decide⟩ ?_
                  refine mw_callSX (M' := mL_ask) (A := [vR 0, vI 7, vI v9, vI (v9 + v21), vI 0]) (S := [vI v41]) (pc' := 105) dL_areRanges_102 rfl (goodW 1204 (by decide +kernel) rfl) kX_L_ask kS_L_ask ⟨by decide, by decide, (by show 3 ≤ 27; omega), (by show 18 ≤ 162; omega), by decide⟩ rfl rfl (Nat.le_of_ble_eq_true rfl) (MM.mono ?_ h40)
                  intro o g46 d47 h44
                  rcases o with v45 | k
                  · refine mw_top (fun hT => ?_)
                    have hG : 65 ≤ g46.2.1 := hT.2
                    show MW mL_areRanges 24 144 105 [(0, vR 0), (1, (5, 0)), (2, vI x2), (3, vI v9), (4, vI (v9 + v21)), (5, vI v27), (6, vI v37), (7, vI v41)] [vI v45, vI v41] g46 d47 Q
                    obtain ⟨o48, h44⟩ := h44
                    obtain ⟨o49, h44⟩ := h44
                    suffices k50 : (((v41 = v45) ∧ (((v9 + v21 ≤ 4999) ∧ ((¬ (v41 < 0)) ∧ (¬ (((v9 + v21) - v9) + 1 < v41)))) ∨ ((¬ (v9 + v21 ≤ 4999)) ∧ (v41 = (-2002))))) → MW mL_areRanges 24 144 143 [(0, vR 0), (1, (5, 0)), (2, vI x2), (3, vI v9), (4, vI (v9 + v21)), (5, vI v27), (6, vI v37), (7, vI v41)] [] g46 d47 Q) ∧ ((¬ ((v41 = v45) ∧ (((v9 + v21 ≤ 4999) ∧ ((¬ (v41 < 0)) ∧ (¬ (((v9 + v21) - v9) + 1 < v41)))) ∨ ((¬ (v9 + v21 ≤ 4999)) ∧ (v41 = (-2002)))))) → MW mL_areRanges 24 144 170 [(0, vR 0), (1, (5, 0)), (2, vI x2), (3, vI v9), (4, vI (v9 + v21)), (5, vI v27), (6, vI v37), (7, vI v41)] [] g46 d47 Q) by
                      refine mw_icmp_ne (tgt := 170) (pc' := 108) dL_areRanges_105 rfl (by decide) (fun c51 => ?_) (fun c51 => ?_)
                      · exact k50.2 (fun h => (c51 h.1))
                      · refine mw_iload (pc' := 110) dL_areRanges_108 rfl rfl ?_
                        refine mw_sipush (pc' := 113) dL_areRanges_110 rfl ⟨by decide, by decide⟩ ?_
                        refine mw_icmp_le (tgt := 127) (pc' := 116) dL_areRanges_113 rfl (by decide) (fun c52 => ?_) (fun c52 => ?_)
                        · refine mw_iload (pc' := 129) dL_areRanges_127 rfl rfl ?_
                          refine mw_if_lt (tgt := 170) (pc' := 132) dL_areRanges_129 rfl (by decide) (fun c53 => ?_) (fun c53 => ?_)
                          · exact k50.2 (fun h => (fun h => h.elim (fun q => (fun h => (h.1 c53)) q.2) (fun q => (q.1 c52))) h.2)
                          · refine mw_iload (pc' := 134) dL_areRanges_132 rfl rfl ?_
                            refine mw_iload (pc' := 136) dL_areRanges_134 rfl rfl ?_
                            refine mw_iload_n (pc' := 137) dL_areRanges_136 rfl rfl rfl ?_
                            refine mw_isub (pc' := 138) dL_areRanges_137 rfl (o48 c51 c52 c53) ?_
                            refine mw_iconst (pc' := 139) dL_areRanges_138 rfl ⟨by decide, by decide⟩ ?_
                            refine mw_iadd (pc' := 140) dL_areRanges_139 rfl (o49 c51 c52 c53) ?_
                            refine mw_icmp_gt (tgt := 170) (pc' := 143) dL_areRanges_140 rfl (by decide) (fun c54 => ?_) (fun c54 => ?_)
                            · exact k50.2 (fun h => (fun h => h.elim (fun q => (fun h => (fun h => (h c54)) h.2) q.2) (fun q => (q.1 c52))) h.2)
                            · exact k50.1 ⟨c51, (Or.inl ⟨c52, ⟨c53, c54⟩⟩)⟩
                        · refine mw_iload (pc' := 118) dL_areRanges_116 rfl rfl ?_
                          refine mw_sipush (pc' := 121) dL_areRanges_118 rfl ⟨by decide, by decide⟩ ?_
                          refine mw_icmp_ne (tgt := 170) (pc' := 124) dL_areRanges_121 rfl (by decide) (fun c55 => ?_) (fun c55 => ?_)
                          · exact k50.2 (fun h => (fun h => h.elim (fun q => (c52 q.1)) (fun q => (fun h => (c55 h)) q.2)) h.2)
                          · refine mw_goto (pc' := 0) (tgt := 143) dL_areRanges_124 (by decide) ?_
                            exact k50.1 ⟨c51, (Or.inr ⟨c52, c55⟩)⟩
                    refine ⟨fun c56 => ?_, fun c56 => ?_⟩
                    · replace h44 := h44.1 c56
                      exact h44
                    · replace h44 := h44.2 c56
                      refine mw_iconst (pc' := 171) dL_areRanges_170 rfl ⟨by decide, by decide⟩ ?_
                      exact h44
                  · exact mx_out rfl h44
                · exact mx_out rfl h40
              · exact mx_out rfl h36
            · exact mx_out rfl h31
          · exact mx_out rfl h26
        · exact mx_out rfl h20
      · exact mx_out rfl h14
    · exact mx_out rfl h8
  · exact mx_out rfl h2
theorem aL_areRanges_1 {bc bs : Nat} {x2 x3 x4 x5 x6 x7 : Int} {g : mG} {d : mD} {Q : mQ} (hb : 6 ≤ bc ∧ 36 ≤ bs) (h : MM mL_ask [vR 0, vI 4, vI x6, vI x3, vI x4] g d (fun o g59 d60 => match o with | .inl v58 => MM mL_ask [vR 0, vI 5, vI x6, vI x3, vI x4] g59 d60 (fun o g63 d64 => match o with | .inl v62 => pL_areRanges_2 (bc - 3 - 3) (bs - 18 - 18) x2 x3 x4 x5 x6 x7 (bI (v58 = v62)) g63 d64 Q | .inr k => Q (.inr k) g63 d64) | .inr k => Q (.inr k) g59 d60)) : pL_areRanges_1 bc bs x2 x3 x4 x5 x6 x7 g d Q := by
  unfold pL_areRanges_1
  refine mw_top (fun hT => ?_)
  have hG : 65 ≤ g.2.1 := hT.2
  refine mw_aload_n (v := vR 0) (pc' := 144) dL_areRanges_143 rfl rfl (Or.inl rfl) rfl ?_
  refine mw_iconst (pc' := 145) dL_areRanges_144 rfl ⟨by decide, by decide⟩ ?_
  refine mw_iload (pc' := 147) dL_areRanges_145 rfl rfl ?_
  refine mw_iload_n (pc' := 148) dL_areRanges_147 rfl rfl rfl ?_
  refine mw_iload (pc' := 150) dL_areRanges_148 rfl rfl ?_
  refine mw_callSX (M' := mL_ask) (A := [vR 0, vI 4, vI x6, vI x3, vI x4]) (S := []) (pc' := 153) dL_areRanges_150 rfl (goodW 1204 (by decide +kernel) rfl) kX_L_ask kS_L_ask ⟨by decide, by decide, (by show 3 ≤ bc; omega), (by show 18 ≤ bs; omega), by decide⟩ rfl rfl (Nat.le_of_ble_eq_true rfl) (MM.mono ?_ h)
  intro o g59 d60 h57
  rcases o with v58 | k
  · refine mw_top (fun hT => ?_)
    have hG : 65 ≤ g59.2.1 := hT.2
    show MW mL_areRanges (bc - 3) (bs - 18) 153 [(0, vR 0), (1, (5, 0)), (2, vI x2), (3, vI x3), (4, vI x4), (5, vI x5), (6, vI x6), (7, vI x7)] [vI v58] g59 d60 Q
    refine mw_aload_n (v := vR 0) (pc' := 154) dL_areRanges_153 rfl rfl (Or.inl rfl) rfl ?_
    refine mw_iconst (pc' := 155) dL_areRanges_154 rfl ⟨by decide, by decide⟩ ?_
    refine mw_iload (pc' := 157) dL_areRanges_155 rfl rfl ?_
    refine mw_iload_n (pc' := 158) dL_areRanges_157 rfl rfl rfl ?_
    refine mw_iload (pc' := 160) dL_areRanges_158 rfl rfl ?_
    refine mw_callSX (M' := mL_ask) (A := [vR 0, vI 5, vI x6, vI x3, vI x4]) (S := [vI v58]) (pc' := 163) dL_areRanges_160 rfl (goodW 1204 (by decide +kernel) rfl) kX_L_ask kS_L_ask ⟨by decide, by decide, (by show 3 ≤ bc - 3; omega), (by show 18 ≤ bs - 18; omega), by decide⟩ rfl rfl (Nat.le_of_ble_eq_true rfl) (MM.mono ?_ h57)
    intro o g63 d64 h61
    rcases o with v62 | k
    · refine mw_top (fun hT => ?_)
      have hG : 65 ≤ g63.2.1 := hT.2
      show MW mL_areRanges (bc - 3 - 3) (bs - 18 - 18) 163 [(0, vR 0), (1, (5, 0)), (2, vI x2), (3, vI x3), (4, vI x4), (5, vI x5), (6, vI x6), (7, vI x7)] [vI v62, vI v58] g63 d64 Q
      suffices k65 : MW mL_areRanges (bc - 3 - 3) (bs - 18 - 18) 171 [(0, vR 0), (1, (5, 0)), (2, vI x2), (3, vI x3), (4, vI x4), (5, vI x5), (6, vI x6), (7, vI x7)] [vI (bI (v58 = v62))] g63 d64 Q by
        refine mw_icmp_ne (tgt := 170) (pc' := 166) dL_areRanges_163 rfl (by decide) (fun c66 => ?_) (fun c66 => ?_)
        · refine mw_iconst (pc' := 171) dL_areRanges_170 rfl ⟨by decide, by decide⟩ ?_
          exact mw_st (bI_f (fun h => (c66 h))).symm k65
        · refine mw_iconst (pc' := 167) dL_areRanges_166 rfl ⟨by decide, by decide⟩ ?_
          refine mw_goto (pc' := 0) (tgt := 171) dL_areRanges_167 (by decide) ?_
          exact mw_st (bI_t c66).symm k65
      exact h61
    · exact mx_out rfl h61
  · exact mx_out rfl h57
theorem aL_areRanges_2 {bc bs : Nat} {x2 x3 x4 x5 x6 x7 s0 : Int} {g : mG} {d : mD} {Q : mQ} (hb : 9 ≤ bc ∧ 54 ≤ bs) (h : MM mL_ask [vR 0, vI 8, vI x5, vI x3, vI 0] g d (fun o g69 d70 => match o with | .inl v68 => ((s0 = 0) → pL_areRanges_3 (bc - 3) (bs - 18) x2 x3 x4 x5 x6 x7 s0 v68 0 g69 d70 Q) ∧ ((¬ (s0 = 0)) → MM mL_ask [vR 0, vI 9, vI x5, vI x3, vI 0] g69 d70 (fun o g74 d75 => match o with | .inl v73 => ((v68 = v73) → ((v68 = (-2005)) → pL_areRanges_3 (bc - 3 - 3) (bs - 18 - 18) x2 x3 x4 x5 x6 x7 s0 v68 1 g74 d75 Q) ∧ ((¬ (v68 = (-2005))) → (((¬ (v68 < 0)) ∧ (¬ (x3 ≤ v68))) → MM mL_ask [vR 0, vI 11, vI v68, vI 0, vI 0] g74 d75 (fun o g84 d85 => match o with | .inl v83 => ((v83 = 1) → pL_areRanges_3 (bc - 3 - 3 - 3) (bs - 18 - 18 - 18) x2 x3 x4 x5 x6 x7 s0 v68 1 g84 d85 Q) ∧ ((¬ (v83 = 1)) → pL_areRanges_3 (bc - 3 - 3 - 3) (bs - 18 - 18 - 18) x2 x3 x4 x5 x6 x7 s0 v68 0 g84 d85 Q) | .inr k => Q (.inr k) g84 d85)) ∧ ((¬ ((¬ (v68 < 0)) ∧ (¬ (x3 ≤ v68)))) → pL_areRanges_3 (bc - 3 - 3) (bs - 18 - 18) x2 x3 x4 x5 x6 x7 s0 v68 0 g74 d75 Q))) ∧ ((¬ (v68 = v73)) → pL_areRanges_3 (bc - 3 - 3) (bs - 18 - 18) x2 x3 x4 x5 x6 x7 s0 v68 0 g74 d75 Q) | .inr k => Q (.inr k) g74 d75)) | .inr k => Q (.inr k) g69 d70)) : pL_areRanges_2 bc bs x2 x3 x4 x5 x6 x7 s0 g d Q := by
  unfold pL_areRanges_2
  refine mw_top (fun hT => ?_)
  have hG : 65 ≤ g.2.1 := hT.2
  refine mw_istore (pc' := 173) (L' := [(0, vR 0), (1, (5, 0)), (2, vI x2), (3, vI x3), (4, vI x4), (5, vI x5), (6, vI x6), (7, vI x7), (8, vI s0)]) dL_areRanges_171 rfl (by decide) rfl ?_
  refine mw_aload_n (v := vR 0) (pc' := 174) dL_areRanges_173 rfl rfl (Or.inl rfl) rfl ?_
  refine mw_bipush (pc' := 176) dL_areRanges_174 rfl ⟨by decide, by decide⟩ ?_
  refine mw_iload (pc' := 178) dL_areRanges_176 rfl rfl ?_
  refine mw_iload_n (pc' := 179) dL_areRanges_178 rfl rfl rfl ?_
  refine mw_iconst (pc' := 180) dL_areRanges_179 rfl ⟨by decide, by decide⟩ ?_
  refine mw_callSX (M' := mL_ask) (A := [vR 0, vI 8, vI x5, vI x3, vI 0]) (S := []) (pc' := 183) dL_areRanges_180 rfl (goodW 1204 (by decide +kernel) rfl) kX_L_ask kS_L_ask ⟨by decide, by decide, (by show 3 ≤ bc; omega), (by show 18 ≤ bs; omega), by decide⟩ rfl rfl (Nat.le_of_ble_eq_true rfl) (MM.mono ?_ h)
  intro o g69 d70 h67
  rcases o with v68 | k
  · refine mw_top (fun hT => ?_)
    have hG : 65 ≤ g69.2.1 := hT.2
    show MW mL_areRanges (bc - 3) (bs - 18) 183 [(0, vR 0), (1, (5, 0)), (2, vI x2), (3, vI x3), (4, vI x4), (5, vI x5), (6, vI x6), (7, vI x7), (8, vI s0)] [vI v68] g69 d70 Q
    refine mw_istore (pc' := 185) (L' := [(0, vR 0), (1, (5, 0)), (2, vI x2), (3, vI x3), (4, vI x4), (5, vI x5), (6, vI x6), (7, vI x7), (8, vI s0), (9, vI v68)]) dL_areRanges_183 rfl (by decide) rfl ?_
    refine mw_iload (pc' := 187) dL_areRanges_185 rfl rfl ?_
    refine mw_if_eq (tgt := 242) (pc' := 190) dL_areRanges_187 rfl (by decide) (fun c71 => ?_) (fun c71 => ?_)
    · replace h67 := h67.1 c71
      refine mw_iconst (pc' := 243) dL_areRanges_242 rfl ⟨by decide, by decide⟩ ?_
      exact h67
    · replace h67 := h67.2 c71
      refine mw_iload (pc' := 192) dL_areRanges_190 rfl rfl ?_
      refine mw_aload_n (v := vR 0) (pc' := 193) dL_areRanges_192 rfl rfl (Or.inl rfl) rfl ?_
      refine mw_bipush (pc' := 195) dL_areRanges_193 rfl ⟨by decide, by decide⟩ ?_
      refine mw_iload (pc' := 197) dL_areRanges_195 rfl rfl ?_
      refine mw_iload_n (pc' := 198) dL_areRanges_197 rfl rfl rfl ?_
      refine mw_iconst (pc' := 199) dL_areRanges_198 rfl ⟨by decide, by decide⟩ ?_
      refine mw_callSX (M' := mL_ask) (A := [vR 0, vI 9, vI x5, vI x3, vI 0]) (S := [vI v68]) (pc' := 202) dL_areRanges_199 rfl (goodW 1204 (by decide +kernel) rfl) kX_L_ask kS_L_ask ⟨by decide, by decide, (by show 3 ≤ bc - 3; omega), (by show 18 ≤ bs - 18; omega), by decide⟩ rfl rfl (Nat.le_of_ble_eq_true rfl) (MM.mono ?_ h67)
      intro o g74 d75 h72
      rcases o with v73 | k
      · refine mw_top (fun hT => ?_)
        have hG : 65 ≤ g74.2.1 := hT.2
        show MW mL_areRanges (bc - 3 - 3) (bs - 18 - 18) 202 [(0, vR 0), (1, (5, 0)), (2, vI x2), (3, vI x3), (4, vI x4), (5, vI x5), (6, vI x6), (7, vI x7), (8, vI s0), (9, vI v68)] [vI v73, vI v68] g74 d75 Q
        refine mw_icmp_ne (tgt := 242) (pc' := 205) dL_areRanges_202 rfl (by decide) (fun c76 => ?_) (fun c76 => ?_)
        · replace h72 := h72.2 c76
          refine mw_iconst (pc' := 243) dL_areRanges_242 rfl ⟨by decide, by decide⟩ ?_
          exact h72
        · replace h72 := h72.1 c76
          refine mw_iload (pc' := 207) dL_areRanges_205 rfl rfl ?_
          refine mw_sipush (pc' := 210) dL_areRanges_207 rfl ⟨by decide, by decide⟩ ?_
          refine mw_icmp_eq (tgt := 238) (pc' := 213) dL_areRanges_210 rfl (by decide) (fun c77 => ?_) (fun c77 => ?_)
          · replace h72 := h72.1 c77
            refine mw_iconst (pc' := 239) dL_areRanges_238 rfl ⟨by decide, by decide⟩ ?_
            refine mw_goto (pc' := 0) (tgt := 243) dL_areRanges_239 (by decide) ?_
            exact h72
          · replace h72 := h72.2 c77
            refine mw_iload (pc' := 215) dL_areRanges_213 rfl rfl ?_
            suffices k78 : (((¬ (v68 < 0)) ∧ (¬ (x3 ≤ v68))) → MW mL_areRanges (bc - 3 - 3) (bs - 18 - 18) 224 [(0, vR 0), (1, (5, 0)), (2, vI x2), (3, vI x3), (4, vI x4), (5, vI x5), (6, vI x6), (7, vI x7), (8, vI s0), (9, vI v68)] [] g74 d75 Q) ∧ ((¬ ((¬ (v68 < 0)) ∧ (¬ (x3 ≤ v68)))) → MW mL_areRanges (bc - 3 - 3) (bs - 18 - 18) 242 [(0, vR 0), (1, (5, 0)), (2, vI x2), (3, vI x3), (4, vI x4), (5, vI x5), (6, vI x6), (7, vI x7), (8, vI s0), (9, vI v68)] [] g74 d75 Q) by
              refine mw_if_lt (tgt := 242) (pc' := 218) dL_areRanges_215 rfl (by decide) (fun c79 => ?_) (fun c79 => ?_)
              · exact k78.2 (fun h => (h.1 c79))
              · refine mw_iload (pc' := 220) dL_areRanges_218 rfl rfl ?_
                refine mw_iload_n (pc' := 221) dL_areRanges_220 rfl rfl rfl ?_
                refine mw_icmp_ge (tgt := 242) (pc' := 224) dL_areRanges_221 rfl (by decide) (fun c80 => ?_) (fun c80 => ?_)
                · exact k78.2 (fun h => (fun h => (h c80)) h.2)
                · exact k78.1 ⟨c79, c80⟩
            refine ⟨fun c81 => ?_, fun c81 => ?_⟩
            · replace h72 := h72.1 c81
              refine mw_aload_n (v := vR 0) (pc' := 225) dL_areRanges_224 rfl rfl (Or.inl rfl) rfl ?_
              refine mw_bipush (pc' := 227) dL_areRanges_225 rfl ⟨by decide, by decide⟩ ?_
              refine mw_iload (pc' := 229) dL_areRanges_227 rfl rfl ?_
              refine mw_iconst (pc' := 230) dL_areRanges_229 rfl ⟨by decide, by decide⟩ ?_
              refine mw_iconst (pc' := 231) dL_areRanges_230 rfl ⟨by decide, by decide⟩ ?_
              refine mw_callSX (M' := mL_ask) (A := [vR 0, vI 11, vI v68, vI 0, vI 0]) (S := []) (pc' := 234) dL_areRanges_231 rfl (goodW 1204 (by decide +kernel) rfl) kX_L_ask kS_L_ask ⟨by decide, by decide, (by show 3 ≤ bc - 3 - 3; omega), (by show 18 ≤ bs - 18 - 18; omega), by decide⟩ rfl rfl (Nat.le_of_ble_eq_true rfl) (MM.mono ?_ h72)
              intro o g84 d85 h82
              rcases o with v83 | k
              · refine mw_top (fun hT => ?_)
                have hG : 65 ≤ g84.2.1 := hT.2
                show MW mL_areRanges (bc - 3 - 3 - 3) (bs - 18 - 18 - 18) 234 [(0, vR 0), (1, (5, 0)), (2, vI x2), (3, vI x3), (4, vI x4), (5, vI x5), (6, vI x6), (7, vI x7), (8, vI s0), (9, vI v68)] [vI v83] g84 d85 Q
                refine mw_iconst (pc' := 235) dL_areRanges_234 rfl ⟨by decide, by decide⟩ ?_
                refine mw_icmp_ne (tgt := 242) (pc' := 238) dL_areRanges_235 rfl (by decide) (fun c86 => ?_) (fun c86 => ?_)
                · replace h82 := h82.2 c86
                  refine mw_iconst (pc' := 243) dL_areRanges_242 rfl ⟨by decide, by decide⟩ ?_
                  exact h82
                · replace h82 := h82.1 c86
                  refine mw_iconst (pc' := 239) dL_areRanges_238 rfl ⟨by decide, by decide⟩ ?_
                  refine mw_goto (pc' := 0) (tgt := 243) dL_areRanges_239 (by decide) ?_
                  exact h82
              · exact mx_out rfl h82
            · replace h72 := h72.2 c81
              refine mw_iconst (pc' := 243) dL_areRanges_242 rfl ⟨by decide, by decide⟩ ?_
              exact h72
      · exact mx_out rfl h72
  · exact mx_out rfl h67
theorem aL_areRanges_3 {bc bs : Nat} {x2 x3 x4 x5 x6 x7 x8 x9 s0 : Int} {g : mG} {d : mD} {Q : mQ} (hb : 9 ≤ bc ∧ 54 ≤ bs) (h : ((s0 = 0) → pL_areRanges_4 bc bs x2 x3 x4 x5 x6 x7 s0 x9 0 g d Q) ∧ ((¬ (s0 = 0)) → (iI (x3 - 1)) ∧ (MM mL_ask [vR 0, vI 6, vI x4, vI (x3 - 1), vI 0] g d (fun o g93 d94 => match o with | .inl v92 => ((v92 = (-2002)) → MM mL_ask [vR 0, vI 8, vI 8, vI x3, vI 0] g93 d94 (fun o g98 d99 => match o with | .inl v97 => ((v97 = (-2001)) → MM mL_ask [vR 0, vI 9, vI x5, vI 5000, vI 0] g98 d99 (fun o g103 d104 => match o with | .inl v102 => pL_areRanges_4 (bc - 3 - 3 - 3) (bs - 18 - 18 - 18) x2 x3 x4 x5 x6 x7 s0 x9 (bI (v102 = (-2002))) g103 d104 Q | .inr k => Q (.inr k) g103 d104)) ∧ ((¬ (v97 = (-2001))) → pL_areRanges_4 (bc - 3 - 3) (bs - 18 - 18) x2 x3 x4 x5 x6 x7 s0 x9 0 g98 d99 Q) | .inr k => Q (.inr k) g98 d99)) ∧ ((¬ (v92 = (-2002))) → pL_areRanges_4 (bc - 3) (bs - 18) x2 x3 x4 x5 x6 x7 s0 x9 0 g93 d94 Q) | .inr k => Q (.inr k) g93 d94)))) : pL_areRanges_3 bc bs x2 x3 x4 x5 x6 x7 x8 x9 s0 g d Q := by
  unfold pL_areRanges_3
  refine mw_top (fun hT => ?_)
  have hG : 65 ≤ g.2.1 := hT.2
  refine mw_istore (pc' := 245) (L' := [(0, vR 0), (1, (5, 0)), (2, vI x2), (3, vI x3), (4, vI x4), (5, vI x5), (6, vI x6), (7, vI x7), (8, vI s0), (9, vI x9)]) dL_areRanges_243 rfl (by decide) rfl ?_
  refine mw_iload (pc' := 247) dL_areRanges_245 rfl rfl ?_
  refine mw_if_eq (tgt := 306) (pc' := 250) dL_areRanges_247 rfl (by decide) (fun c89 => ?_) (fun c89 => ?_)
  · replace h := h.1 c89
    refine mw_iconst (pc' := 307) dL_areRanges_306 rfl ⟨by decide, by decide⟩ ?_
    exact h
  · replace h := h.2 c89
    refine mw_aload_n (v := vR 0) (pc' := 251) dL_areRanges_250 rfl rfl (Or.inl rfl) rfl ?_
    refine mw_bipush (pc' := 253) dL_areRanges_251 rfl ⟨by decide, by decide⟩ ?_
    refine mw_iload (pc' := 255) dL_areRanges_253 rfl rfl ?_
    refine mw_iload_n (pc' := 256) dL_areRanges_255 rfl rfl rfl ?_
    refine mw_iconst (pc' := 257) dL_areRanges_256 rfl ⟨by decide, by decide⟩ ?_
    obtain ⟨o90, h⟩ := h
    refine mw_isub (pc' := 258) dL_areRanges_257 rfl o90 ?_
    refine mw_iconst (pc' := 259) dL_areRanges_258 rfl ⟨by decide, by decide⟩ ?_
    refine mw_callSX (M' := mL_ask) (A := [vR 0, vI 6, vI x4, vI (x3 - 1), vI 0]) (S := []) (pc' := 262) dL_areRanges_259 rfl (goodW 1204 (by decide +kernel) rfl) kX_L_ask kS_L_ask ⟨by decide, by decide, (by show 3 ≤ bc; omega), (by show 18 ≤ bs; omega), by decide⟩ rfl rfl (Nat.le_of_ble_eq_true rfl) (MM.mono ?_ h)
    intro o g93 d94 h91
    rcases o with v92 | k
    · refine mw_top (fun hT => ?_)
      have hG : 65 ≤ g93.2.1 := hT.2
      show MW mL_areRanges (bc - 3) (bs - 18) 262 [(0, vR 0), (1, (5, 0)), (2, vI x2), (3, vI x3), (4, vI x4), (5, vI x5), (6, vI x6), (7, vI x7), (8, vI s0), (9, vI x9)] [vI v92] g93 d94 Q
      refine mw_sipush (pc' := 265) dL_areRanges_262 rfl ⟨by decide, by decide⟩ ?_
      refine mw_icmp_ne (tgt := 306) (pc' := 268) dL_areRanges_265 rfl (by decide) (fun c95 => ?_) (fun c95 => ?_)
      · replace h91 := h91.2 c95
        refine mw_iconst (pc' := 307) dL_areRanges_306 rfl ⟨by decide, by decide⟩ ?_
        exact h91
      · replace h91 := h91.1 c95
        refine mw_aload_n (v := vR 0) (pc' := 269) dL_areRanges_268 rfl rfl (Or.inl rfl) rfl ?_
        refine mw_bipush (pc' := 271) dL_areRanges_269 rfl ⟨by decide, by decide⟩ ?_
        refine mw_bipush (pc' := 273) dL_areRanges_271 rfl ⟨by decide, by decide⟩ ?_
        refine mw_iload_n (pc' := 274) dL_areRanges_273 rfl rfl rfl ?_
        refine mw_iconst (pc' := 275) dL_areRanges_274 rfl ⟨by decide, by decide⟩ ?_
        refine mw_callSX (M' := mL_ask) (A := [vR 0, vI 8, vI 8, vI x3, vI 0]) (S := []) (pc' := 278) dL_areRanges_275 rfl (goodW 1204 (by decide +kernel) rfl) kX_L_ask kS_L_ask ⟨by decide, by decide, (by show 3 ≤ bc - 3; omega), (by show 18 ≤ bs - 18; omega), by decide⟩ rfl rfl (Nat.le_of_ble_eq_true rfl) (MM.mono ?_ h91)
        intro o g98 d99 h96
        rcases o with v97 | k
        · refine mw_top (fun hT => ?_)
          have hG : 65 ≤ g98.2.1 := hT.2
          show MW mL_areRanges (bc - 3 - 3) (bs - 18 - 18) 278 [(0, vR 0), (1, (5, 0)), (2, vI x2), (3, vI x3), (4, vI x4), (5, vI x5), (6, vI x6), (7, vI x7), (8, vI s0), (9, vI x9)] [vI v97] g98 d99 Q
          refine mw_sipush (pc' := 281) dL_areRanges_278 rfl ⟨by decide, by decide⟩ ?_
          refine mw_icmp_ne (tgt := 306) (pc' := 284) dL_areRanges_281 rfl (by decide) (fun c100 => ?_) (fun c100 => ?_)
          · replace h96 := h96.2 c100
            refine mw_iconst (pc' := 307) dL_areRanges_306 rfl ⟨by decide, by decide⟩ ?_
            exact h96
          · replace h96 := h96.1 c100
            refine mw_aload_n (v := vR 0) (pc' := 285) dL_areRanges_284 rfl rfl (Or.inl rfl) rfl ?_
            refine mw_bipush (pc' := 287) dL_areRanges_285 rfl ⟨by decide, by decide⟩ ?_
            refine mw_iload (pc' := 289) dL_areRanges_287 rfl rfl ?_
            refine mw_sipush (pc' := 292) dL_areRanges_289 rfl ⟨by decide, by decide⟩ ?_
            refine mw_iconst (pc' := 293) dL_areRanges_292 rfl ⟨by decide, by decide⟩ ?_
            refine mw_callSX (M' := mL_ask) (A := [vR 0, vI 9, vI x5, vI 5000, vI 0]) (S := []) (pc' := 296) dL_areRanges_293 rfl (goodW 1204 (by decide +kernel) rfl) kX_L_ask kS_L_ask ⟨by decide, by decide, (by show 3 ≤ bc - 3 - 3; omega), (by show 18 ≤ bs - 18 - 18; omega), by decide⟩ rfl rfl (Nat.le_of_ble_eq_true rfl) (MM.mono ?_ h96)
            intro o g103 d104 h101
            rcases o with v102 | k
            · refine mw_top (fun hT => ?_)
              have hG : 65 ≤ g103.2.1 := hT.2
              show MW mL_areRanges (bc - 3 - 3 - 3) (bs - 18 - 18 - 18) 296 [(0, vR 0), (1, (5, 0)), (2, vI x2), (3, vI x3), (4, vI x4), (5, vI x5), (6, vI x6), (7, vI x7), (8, vI s0), (9, vI x9)] [vI v102] g103 d104 Q
              refine mw_sipush (pc' := 299) dL_areRanges_296 rfl ⟨by decide, by decide⟩ ?_
              suffices k105 : MW mL_areRanges (bc - 3 - 3 - 3) (bs - 18 - 18 - 18) 307 [(0, vR 0), (1, (5, 0)), (2, vI x2), (3, vI x3), (4, vI x4), (5, vI x5), (6, vI x6), (7, vI x7), (8, vI s0), (9, vI x9)] [vI (bI (v102 = (-2002)))] g103 d104 Q by
                refine mw_icmp_ne (tgt := 306) (pc' := 302) dL_areRanges_299 rfl (by decide) (fun c106 => ?_) (fun c106 => ?_)
                · refine mw_iconst (pc' := 307) dL_areRanges_306 rfl ⟨by decide, by decide⟩ ?_
                  exact mw_st (bI_f (fun h => (c106 h))).symm k105
                · refine mw_iconst (pc' := 303) dL_areRanges_302 rfl ⟨by decide, by decide⟩ ?_
                  refine mw_goto (pc' := 0) (tgt := 307) dL_areRanges_303 (by decide) ?_
                  exact mw_st (bI_t c106).symm k105
              exact h101
            · exact mx_out rfl h101
        · exact mx_out rfl h96
    · exact mx_out rfl h91
theorem aL_areRanges_4 {bc bs : Nat} {x2 x3 x4 x5 x6 x7 x8 x9 s0 : Int} {g : mG} {d : mD} {Q : mQ} (h : (0 ≤ s0 ∧ s0 ≤ 1) ∧ (Q (.inl s0) g d)) : pL_areRanges_4 bc bs x2 x3 x4 x5 x6 x7 x8 x9 s0 g d Q := by
  unfold pL_areRanges_4
  refine mw_top (fun hT => ?_)
  have hG : 65 ≤ g.2.1 := hT.2
  obtain ⟨o107, h⟩ := h
  exact mw_iret (pc' := 0) (S := []) dL_areRanges_307 rfl (Or.inr (Or.inl ⟨rfl, o107⟩)) h
def pL_isConduct_1 (bc bs : Nat) (x1 x2 : Int) (g : mG) (d : mD) (Q : mQ) : Prop := MW mL_isConduct bc bs 4 [(0, vR 0), (1, vI x1), (2, vI x2)] [] g d Q
def pL_isConduct_2 (bc bs : Nat) (x1 x2 x3 s0 : Int) (g : mG) (d : mD) (Q : mQ) : Prop := MW mL_isConduct bc bs 88 [(0, vR 0), (1, vI x1), (2, vI x2), (3, vI x3)] [vI s0] g d Q
def pL_isConduct_3 (bc bs : Nat) (x1 x2 : Int) (g : mG) (d : mD) (Q : mQ) : Prop := MW mL_isConduct bc bs 95 [(0, vR 0), (1, vI x1), (2, vI x2)] [] g d Q
theorem eL_isConduct {g : mG} {d : mD} {Q : mQ} (h : pL_isConduct_1 333 1998 1 0 g d Q) : MM mL_isConduct [vR 0] g d Q := by
  refine MM_of (by decide) rfl (by simp [catV]) (Nat.le_of_ble_eq_true rfl) ?_
  show MW mL_isConduct 333 1998 0 [(0, vR 0)] [] g d Q
  refine mw_top (fun hT => ?_)
  have hG : 65 ≤ g.2.1 := hT.2
  refine mw_iconst (pc' := 1) dL_isConduct_0 rfl ⟨by decide, by decide⟩ ?_
  refine mw_istore_n (pc' := 2) (L' := [(0, vR 0), (1, vI 1)]) dL_isConduct_1 rfl rfl (by decide) rfl ?_
  refine mw_iconst (pc' := 3) dL_isConduct_2 rfl ⟨by decide, by decide⟩ ?_
  refine mw_istore_n (pc' := 4) (L' := [(0, vR 0), (1, vI 1), (2, vI 0)]) dL_isConduct_3 rfl rfl (by decide) rfl ?_
  exact h
theorem aL_isConduct_1 {bc bs : Nat} {x1 x2 : Int} {g : mG} {d : mD} {Q : mQ} (hb : 9 ≤ bc ∧ 54 ≤ bs) (h : (((¬ (36 ≤ x2)) ∧ (¬ (x1 = 0))) → (0 ≤ x2) ∧ (MM mL_ask [vR 0, vI 17, vI (x2 / 6), vI (x2 % 6), vI 0] g d (fun o g13 d14 => match o with | .inl v12 => MM mL_ask [vR 0, vI 18, vI (x2 / 6), vI (x2 % 6), vI 0] g13 d14 (fun o g19 d20 => match o with | .inl v18 => ((v12 = v18) → MM mL_ask [vR 0, vI 17, vI (x2 % 6), vI (x2 / 6), vI 0] g19 d20 (fun o g30 d31 => match o with | .inl v29 => (((v12 = v29) ∧ ((¬ (x2 / 6 = x2 % 6)) ∨ (¬ (v12 = 0)))) → pL_isConduct_2 (bc - 3 - 3 - 3) (bs - 18 - 18 - 18) x1 x2 v12 1 g30 d31 Q) ∧ ((¬ ((v12 = v29) ∧ ((¬ (x2 / 6 = x2 % 6)) ∨ (¬ (v12 = 0))))) → pL_isConduct_2 (bc - 3 - 3 - 3) (bs - 18 - 18 - 18) x1 x2 v12 0 g30 d31 Q) | .inr k => Q (.inr k) g30 d31)) ∧ ((¬ (v12 = v18)) → pL_isConduct_2 (bc - 3 - 3) (bs - 18 - 18) x1 x2 v12 0 g19 d20 Q) | .inr k => Q (.inr k) g19 d20) | .inr k => Q (.inr k) g13 d14))) ∧ ((¬ ((¬ (36 ≤ x2)) ∧ (¬ (x1 = 0)))) → pL_isConduct_3 bc bs x1 x2 g d Q)) : pL_isConduct_1 bc bs x1 x2 g d Q := by
  unfold pL_isConduct_1
  refine mw_top (fun hT => ?_)
  have hG : 65 ≤ g.2.1 := hT.2
  refine mw_iload_n (pc' := 5) dL_isConduct_4 rfl rfl rfl ?_
  refine mw_bipush (pc' := 7) dL_isConduct_5 rfl ⟨by decide, by decide⟩ ?_
  suffices k5 : (((¬ (36 ≤ x2)) ∧ (¬ (x1 = 0))) → MW mL_isConduct bc bs 14 [(0, vR 0), (1, vI x1), (2, vI x2)] [] g d Q) ∧ ((¬ ((¬ (36 ≤ x2)) ∧ (¬ (x1 = 0)))) → MW mL_isConduct bc bs 95 [(0, vR 0), (1, vI x1), (2, vI x2)] [] g d Q) by
    refine mw_icmp_ge (tgt := 95) (pc' := 10) dL_isConduct_7 rfl (by decide) (fun c6 => ?_) (fun c6 => ?_)
    · exact k5.2 (fun h => (h.1 c6))
    · refine mw_iload_n (pc' := 11) dL_isConduct_10 rfl rfl rfl ?_
      refine mw_if_eq (tgt := 95) (pc' := 14) dL_isConduct_11 rfl (by decide) (fun c7 => ?_) (fun c7 => ?_)
      · exact k5.2 (fun h => (fun h => (h c7)) h.2)
      · exact k5.1 ⟨c6, c7⟩
  refine ⟨fun c8 => ?_, fun c8 => ?_⟩
  · replace h := h.1 c8
    refine mw_aload_n (v := vR 0) (pc' := 15) dL_isConduct_14 rfl rfl (Or.inl rfl) rfl ?_
    refine mw_bipush (pc' := 17) dL_isConduct_15 rfl ⟨by decide, by decide⟩ ?_
    refine mw_iload_n (pc' := 18) dL_isConduct_17 rfl rfl rfl ?_
    refine mw_bipush (pc' := 20) dL_isConduct_18 rfl ⟨by decide, by decide⟩ ?_
    obtain ⟨o9, h⟩ := h
    refine mw_idiv (pc' := 21) dL_isConduct_20 rfl o9 (by decide) ?_
    refine mw_iload_n (pc' := 22) dL_isConduct_21 rfl rfl rfl ?_
    refine mw_bipush (pc' := 24) dL_isConduct_22 rfl ⟨by decide, by decide⟩ ?_
    refine mw_irem (pc' := 25) dL_isConduct_24 rfl o9 (by decide) ?_
    refine mw_iconst (pc' := 26) dL_isConduct_25 rfl ⟨by decide, by decide⟩ ?_
    refine mw_callSX (M' := mL_ask) (A := [vR 0, vI 17, vI (x2 / 6), vI (x2 % 6), vI 0]) (S := []) (pc' := 29) dL_isConduct_26 rfl (goodW 1204 (by decide +kernel) rfl) kX_L_ask kS_L_ask ⟨by decide, by decide, (by show 3 ≤ bc; omega), (by show 18 ≤ bs; omega), by decide⟩ rfl rfl (Nat.le_of_ble_eq_true rfl) (MM.mono ?_ h)
    intro o g13 d14 h11
    rcases o with v12 | k
    · refine mw_top (fun hT => ?_)
      have hG : 65 ≤ g13.2.1 := hT.2
      show MW mL_isConduct (bc - 3) (bs - 18) 29 [(0, vR 0), (1, vI x1), (2, vI x2)] [vI v12] g13 d14 Q
      refine mw_istore_n (pc' := 30) (L' := [(0, vR 0), (1, vI x1), (2, vI x2), (3, vI v12)]) dL_isConduct_29 rfl rfl (by decide) rfl ?_
      refine mw_iload_n (pc' := 31) dL_isConduct_30 rfl rfl rfl ?_
      refine mw_aload_n (v := vR 0) (pc' := 32) dL_isConduct_31 rfl rfl (Or.inl rfl) rfl ?_
      refine mw_bipush (pc' := 34) dL_isConduct_32 rfl ⟨by decide, by decide⟩ ?_
      refine mw_iload_n (pc' := 35) dL_isConduct_34 rfl rfl rfl ?_
      refine mw_bipush (pc' := 37) dL_isConduct_35 rfl ⟨by decide, by decide⟩ ?_
      refine mw_idiv (pc' := 38) dL_isConduct_37 rfl o9 (by decide) ?_
      refine mw_iload_n (pc' := 39) dL_isConduct_38 rfl rfl rfl ?_
      refine mw_bipush (pc' := 41) dL_isConduct_39 rfl ⟨by decide, by decide⟩ ?_
      refine mw_irem (pc' := 42) dL_isConduct_41 rfl o9 (by decide) ?_
      refine mw_iconst (pc' := 43) dL_isConduct_42 rfl ⟨by decide, by decide⟩ ?_
      refine mw_callSX (M' := mL_ask) (A := [vR 0, vI 18, vI (x2 / 6), vI (x2 % 6), vI 0]) (S := [vI v12]) (pc' := 46) dL_isConduct_43 rfl (goodW 1204 (by decide +kernel) rfl) kX_L_ask kS_L_ask ⟨by decide, by decide, (by show 3 ≤ bc - 3; omega), (by show 18 ≤ bs - 18; omega), by decide⟩ rfl rfl (Nat.le_of_ble_eq_true rfl) (MM.mono ?_ h11)
      intro o g19 d20 h17
      rcases o with v18 | k
      · refine mw_top (fun hT => ?_)
        have hG : 65 ≤ g19.2.1 := hT.2
        show MW mL_isConduct (bc - 3 - 3) (bs - 18 - 18) 46 [(0, vR 0), (1, vI x1), (2, vI x2), (3, vI v12)] [vI v18, vI v12] g19 d20 Q
        refine mw_icmp_ne (tgt := 87) (pc' := 49) dL_isConduct_46 rfl (by decide) (fun c25 => ?_) (fun c25 => ?_)
        · replace h17 := h17.2 c25
          refine mw_iconst (pc' := 88) dL_isConduct_87 rfl ⟨by decide, by decide⟩ ?_
          exact h17
        · replace h17 := h17.1 c25
          refine mw_iload_n (pc' := 50) dL_isConduct_49 rfl rfl rfl ?_
          refine mw_aload_n (v := vR 0) (pc' := 51) dL_isConduct_50 rfl rfl (Or.inl rfl) rfl ?_
          refine mw_bipush (pc' := 53) dL_isConduct_51 rfl ⟨by decide, by decide⟩ ?_
          refine mw_iload_n (pc' := 54) dL_isConduct_53 rfl rfl rfl ?_
          refine mw_bipush (pc' := 56) dL_isConduct_54 rfl ⟨by decide, by decide⟩ ?_
          refine mw_irem (pc' := 57) dL_isConduct_56 rfl o9 (by decide) ?_
          refine mw_iload_n (pc' := 58) dL_isConduct_57 rfl rfl rfl ?_
          refine mw_bipush (pc' := 60) dL_isConduct_58 rfl ⟨by decide, by decide⟩ ?_
          refine mw_idiv (pc' := 61) dL_isConduct_60 rfl o9 (by decide) ?_
          refine mw_iconst (pc' := 62) dL_isConduct_61 rfl ⟨by decide, by decide⟩ ?_
          refine mw_callSX (M' := mL_ask) (A := [vR 0, vI 17, vI (x2 % 6), vI (x2 / 6), vI 0]) (S := [vI v12]) (pc' := 65) dL_isConduct_62 rfl (goodW 1204 (by decide +kernel) rfl) kX_L_ask kS_L_ask ⟨by decide, by decide, (by show 3 ≤ bc - 3 - 3; omega), (by show 18 ≤ bs - 18 - 18; omega), by decide⟩ rfl rfl (Nat.le_of_ble_eq_true rfl) (MM.mono ?_ h17)
          intro o g30 d31 h28
          rcases o with v29 | k
          · refine mw_top (fun hT => ?_)
            have hG : 65 ≤ g30.2.1 := hT.2
            show MW mL_isConduct (bc - 3 - 3 - 3) (bs - 18 - 18 - 18) 65 [(0, vR 0), (1, vI x1), (2, vI x2), (3, vI v12)] [vI v29, vI v12] g30 d31 Q
            suffices k34 : (((v12 = v29) ∧ ((¬ (x2 / 6 = x2 % 6)) ∨ (¬ (v12 = 0)))) → MW mL_isConduct (bc - 3 - 3 - 3) (bs - 18 - 18 - 18) 83 [(0, vR 0), (1, vI x1), (2, vI x2), (3, vI v12)] [] g30 d31 Q) ∧ ((¬ ((v12 = v29) ∧ ((¬ (x2 / 6 = x2 % 6)) ∨ (¬ (v12 = 0))))) → MW mL_isConduct (bc - 3 - 3 - 3) (bs - 18 - 18 - 18) 87 [(0, vR 0), (1, vI x1), (2, vI x2), (3, vI v12)] [] g30 d31 Q) by
              refine mw_icmp_ne (tgt := 87) (pc' := 68) dL_isConduct_65 rfl (by decide) (fun c35 => ?_) (fun c35 => ?_)
              · exact k34.2 (fun h => (c35 h.1))
              · refine mw_iload_n (pc' := 69) dL_isConduct_68 rfl rfl rfl ?_
                refine mw_bipush (pc' := 71) dL_isConduct_69 rfl ⟨by decide, by decide⟩ ?_
                refine mw_idiv (pc' := 72) dL_isConduct_71 rfl o9 (by decide) ?_
                refine mw_iload_n (pc' := 73) dL_isConduct_72 rfl rfl rfl ?_
                refine mw_bipush (pc' := 75) dL_isConduct_73 rfl ⟨by decide, by decide⟩ ?_
                refine mw_irem (pc' := 76) dL_isConduct_75 rfl o9 (by decide) ?_
                refine mw_icmp_ne (tgt := 83) (pc' := 79) dL_isConduct_76 rfl (by decide) (fun c36 => ?_) (fun c36 => ?_)
                · exact k34.1 ⟨c35, (Or.inl c36)⟩
                · refine mw_iload_n (pc' := 80) dL_isConduct_79 rfl rfl rfl ?_
                  refine mw_if_eq (tgt := 87) (pc' := 83) dL_isConduct_80 rfl (by decide) (fun c37 => ?_) (fun c37 => ?_)
                  · exact k34.2 (fun h => (fun h => h.elim (fun q => (q c36)) (fun h => (h c37))) h.2)
                  · exact k34.1 ⟨c35, (Or.inr c37)⟩
            refine ⟨fun c38 => ?_, fun c38 => ?_⟩
            · replace h28 := h28.1 c38
              refine mw_iconst (pc' := 84) dL_isConduct_83 rfl ⟨by decide, by decide⟩ ?_
              refine mw_goto (pc' := 0) (tgt := 88) dL_isConduct_84 (by decide) ?_
              exact h28
            · replace h28 := h28.2 c38
              refine mw_iconst (pc' := 88) dL_isConduct_87 rfl ⟨by decide, by decide⟩ ?_
              exact h28
          · exact mx_out rfl h28
      · exact mx_out rfl h17
    · exact mx_out rfl h11
  · replace h := h.2 c8
    exact h
theorem aL_isConduct_2 {bc bs : Nat} {x1 x2 x3 s0 : Int} {g : mG} {d : mD} {Q : mQ} (h : (iI (x2 + 1)) ∧ (pL_isConduct_1 bc bs s0 (x2 + 1) g d Q)) : pL_isConduct_2 bc bs x1 x2 x3 s0 g d Q := by
  unfold pL_isConduct_2
  refine mw_top (fun hT => ?_)
  have hG : 65 ≤ g.2.1 := hT.2
  refine mw_istore_n (pc' := 89) (L' := [(0, vR 0), (1, vI s0), (2, vI x2), (3, vI x3)]) dL_isConduct_88 rfl rfl (by decide) rfl ?_
  obtain ⟨o39, h⟩ := h
  refine mw_iinc (pc' := 92) (L' := [(0, vR 0), (1, vI s0), (2, vI (x2 + 1)), (3, vI x3)]) dL_isConduct_89 rfl rfl (by decide) o39 rfl ?_
  refine mw_goto (pc' := 0) (tgt := 4) dL_isConduct_92 (by decide) ?_
  exact mw_loc (pc' := 0) [0, 1, 2] rfl (h)
theorem aL_isConduct_3 {bc bs : Nat} {x1 x2 : Int} {g : mG} {d : mD} {Q : mQ} (h : (0 ≤ x1 ∧ x1 ≤ 1) ∧ (Q (.inl x1) g d)) : pL_isConduct_3 bc bs x1 x2 g d Q := by
  unfold pL_isConduct_3
  refine mw_top (fun hT => ?_)
  have hG : 65 ≤ g.2.1 := hT.2
  refine mw_iload_n (pc' := 96) dL_isConduct_95 rfl rfl rfl ?_
  obtain ⟨o40, h⟩ := h
  exact mw_iret (pc' := 0) (S := []) dL_isConduct_96 rfl (Or.inr (Or.inl ⟨rfl, o40⟩)) h
def pL_print_1 (bc bs : Nat) (x1 x2 : Int) (g : mG) (d : mD) (Q : mQ) : Prop := MW mL_print bc bs 7 [(0, vR 0), (1, vI x1), (2, vI x2)] [] g d Q
theorem eL_print {g : mG} {d : mD} {Q : mQ} (h : MM mX11_today [vR 0] g d (fun o g3 d4 => match o with | .inl v2 => pL_print_1 300 1800 v2 0 g3 d4 Q | .inr k => Q (.inr k) g3 d4)) : MM mL_print [vR 0] g d Q := by
  refine MM_of (by decide) rfl (by simp [catV]) (Nat.le_of_ble_eq_true rfl) ?_
  show MW mL_print 300 1800 0 [(0, vR 0)] [] g d Q
  refine mw_top (fun hT => ?_)
  have hG : 65 ≤ g.2.1 := hT.2
  refine mw_aload_n (v := vR 0) (pc' := 1) dL_print_0 rfl rfl (Or.inl rfl) rfl ?_
  refine mw_callV (M' := mX11_today) (A := []) (A' := [vR 0]) (S := []) (a := 0) (pc' := 4) dL_print_1 rfl cl_RL_233 cm_X11_today cv_X11_today ⟨by decide, by decide, (by show 0 ≤ 300; omega), (by show 0 ≤ 1800; omega), by decide⟩ rfl rfl rfl ⟨by decide, by omega⟩ (by decide +kernel) (by decide +kernel) (Nat.le_of_ble_eq_true rfl) (MM.mono ?_ h)
  intro o g3 d4 h1
  rcases o with v2 | k
  · refine mw_top (fun hT => ?_)
    have hG : 65 ≤ g3.2.1 := hT.2
    show MW mL_print 300 1800 4 [(0, vR 0)] [vI v2] g3 d4 Q
    refine mw_istore_n (pc' := 5) (L' := [(0, vR 0), (1, vI v2)]) dL_print_4 rfl rfl (by decide) rfl ?_
    refine mw_iconst (pc' := 6) dL_print_5 rfl ⟨by decide, by decide⟩ ?_
    refine mw_istore_n (pc' := 7) (L' := [(0, vR 0), (1, vI v2), (2, vI 0)]) dL_print_6 rfl rfl (by decide) rfl ?_
    exact h1
  · exact mx_out rfl h1
theorem aL_print_1 {bc bs : Nat} {x1 x2 : Int} {g : mG} {d : mD} {Q : mQ} (hb : 9 ≤ bc ∧ 54 ≤ bs) (h : MM mX11_deadlines [vR 0] g d (fun o g7 d8 => match o with | .inl v6 => ((v6 ≤ x2) → MM mX11_staysInForce [vR 0] g7 d8 (fun o g12 d13 => match o with | .inl v11 => Q (.inl (wI ((wI (31 * x1)) + v11))) g12 d13 | .inr k => Q (.inr k) g12 d13)) ∧ ((¬ (v6 ≤ x2)) → MM mL_ask [vR 0, vI 0, vI x2, vI 0, vI 0] g7 d8 (fun o g16 d17 => match o with | .inl v15 => MM mL_ask [vR 0, vI 2, vI x2, vI 0, vI 0] g16 d17 (fun o g20 d21 => match o with | .inl v19 => MM mL_ask [vR 0, vI 21, vI x2, vI 0, vI 0] g20 d21 (fun o g24 d25 => match o with | .inl v23 => (iI (x2 + 1)) ∧ (pL_print_1 (bc - 3 - 3 - 3) (bs - 18 - 18 - 18) (wI ((wI (31 * (wI ((wI (31 * (wI ((wI (31 * x1)) + v15)))) + v19)))) + v23)) (x2 + 1) g24 d25 Q) | .inr k => Q (.inr k) g24 d25) | .inr k => Q (.inr k) g20 d21) | .inr k => Q (.inr k) g16 d17)) | .inr k => Q (.inr k) g7 d8)) : pL_print_1 bc bs x1 x2 g d Q := by
  unfold pL_print_1
  refine mw_top (fun hT => ?_)
  have hG : 65 ≤ g.2.1 := hT.2
  refine mw_iload_n (pc' := 8) dL_print_7 rfl rfl rfl ?_
  refine mw_aload_n (v := vR 0) (pc' := 9) dL_print_8 rfl rfl (Or.inl rfl) rfl ?_
  refine mw_callV (M' := mX11_deadlines) (A := []) (A' := [vR 0]) (S := [vI x2]) (a := 0) (pc' := 12) dL_print_9 rfl cl_RL_230 cm_X11_deadlines cv_X11_deadlines ⟨by decide, by decide, (by show 0 ≤ bc; omega), (by show 0 ≤ bs; omega), by decide⟩ rfl rfl rfl ⟨by decide, by omega⟩ (by decide +kernel) (by decide +kernel) (Nat.le_of_ble_eq_true rfl) (MM.mono ?_ h)
  intro o g7 d8 h5
  rcases o with v6 | k
  · refine mw_top (fun hT => ?_)
    have hG : 65 ≤ g7.2.1 := hT.2
    show MW mL_print bc bs 12 [(0, vR 0), (1, vI x1), (2, vI x2)] [vI v6, vI x2] g7 d8 Q
    refine mw_icmp_ge (tgt := 60) (pc' := 15) dL_print_12 rfl (by decide) (fun c9 => ?_) (fun c9 => ?_)
    · replace h5 := h5.1 c9
      refine mw_bipush (pc' := 62) dL_print_60 rfl ⟨by decide, by decide⟩ ?_
      refine mw_iload_n (pc' := 63) dL_print_62 rfl rfl rfl ?_
      refine mw_imulW (pc' := 64) dL_print_63 rfl ?_
      refine mw_aload_n (v := vR 0) (pc' := 65) dL_print_64 rfl rfl (Or.inl rfl) rfl ?_
      refine mw_callV (M' := mX11_staysInForce) (A := []) (A' := [vR 0]) (S := [vI (wI (31 * x1))]) (a := 0) (pc' := 68) dL_print_65 rfl cl_RL_242 cm_X11_staysInForce cv_X11_staysInForce ⟨by decide, by decide, (by show 0 ≤ bc; omega), (by show 0 ≤ bs; omega), by decide⟩ rfl rfl rfl ⟨by decide, by omega⟩ (by decide +kernel) (by decide +kernel) (Nat.le_of_ble_eq_true rfl) (MM.mono ?_ h5)
      intro o g12 d13 h10
      rcases o with v11 | k
      · refine mw_top (fun hT => ?_)
        have hG : 65 ≤ g12.2.1 := hT.2
        show MW mL_print bc bs 68 [(0, vR 0), (1, vI x1), (2, vI x2)] [vI v11, vI (wI (31 * x1))] g12 d13 Q
        refine mw_iaddW (pc' := 69) dL_print_68 rfl ?_
        exact mw_iret (pc' := 0) (S := []) dL_print_69 rfl (Or.inl rfl) h10
      · exact mx_out rfl h10
    · replace h5 := h5.2 c9
      refine mw_bipush (pc' := 17) dL_print_15 rfl ⟨by decide, by decide⟩ ?_
      refine mw_bipush (pc' := 19) dL_print_17 rfl ⟨by decide, by decide⟩ ?_
      refine mw_bipush (pc' := 21) dL_print_19 rfl ⟨by decide, by decide⟩ ?_
      refine mw_iload_n (pc' := 22) dL_print_21 rfl rfl rfl ?_
      refine mw_imulW (pc' := 23) dL_print_22 rfl ?_
      refine mw_aload_n (v := vR 0) (pc' := 24) dL_print_23 rfl rfl (Or.inl rfl) rfl ?_
      refine mw_iconst (pc' := 25) dL_print_24 rfl ⟨by decide, by decide⟩ ?_
      refine mw_iload_n (pc' := 26) dL_print_25 rfl rfl rfl ?_
      refine mw_iconst (pc' := 27) dL_print_26 rfl ⟨by decide, by decide⟩ ?_
      refine mw_iconst (pc' := 28) dL_print_27 rfl ⟨by decide, by decide⟩ ?_
      refine mw_callSX (M' := mL_ask) (A := [vR 0, vI 0, vI x2, vI 0, vI 0]) (S := [vI (wI (31 * x1)), vI 31, vI 31]) (pc' := 31) dL_print_28 rfl (goodW 1204 (by decide +kernel) rfl) kX_L_ask kS_L_ask ⟨by decide, by decide, (by show 3 ≤ bc; omega), (by show 18 ≤ bs; omega), by decide⟩ rfl rfl (Nat.le_of_ble_eq_true rfl) (MM.mono ?_ h5)
      intro o g16 d17 h14
      rcases o with v15 | k
      · refine mw_top (fun hT => ?_)
        have hG : 65 ≤ g16.2.1 := hT.2
        show MW mL_print (bc - 3) (bs - 18) 31 [(0, vR 0), (1, vI x1), (2, vI x2)] [vI v15, vI (wI (31 * x1)), vI 31, vI 31] g16 d17 Q
        refine mw_iaddW (pc' := 32) dL_print_31 rfl ?_
        refine mw_imulW (pc' := 33) dL_print_32 rfl ?_
        refine mw_aload_n (v := vR 0) (pc' := 34) dL_print_33 rfl rfl (Or.inl rfl) rfl ?_
        refine mw_iconst (pc' := 35) dL_print_34 rfl ⟨by decide, by decide⟩ ?_
        refine mw_iload_n (pc' := 36) dL_print_35 rfl rfl rfl ?_
        refine mw_iconst (pc' := 37) dL_print_36 rfl ⟨by decide, by decide⟩ ?_
        refine mw_iconst (pc' := 38) dL_print_37 rfl ⟨by decide, by decide⟩ ?_
        refine mw_callSX (M' := mL_ask) (A := [vR 0, vI 2, vI x2, vI 0, vI 0]) (S := [vI (wI (31 * (wI ((wI (31 * x1)) + v15)))), vI 31]) (pc' := 41) dL_print_38 rfl (goodW 1204 (by decide +kernel) rfl) kX_L_ask kS_L_ask ⟨by decide, by decide, (by show 3 ≤ bc - 3; omega), (by show 18 ≤ bs - 18; omega), by decide⟩ rfl rfl (Nat.le_of_ble_eq_true rfl) (MM.mono ?_ h14)
        intro o g20 d21 h18
        rcases o with v19 | k
        · refine mw_top (fun hT => ?_)
          have hG : 65 ≤ g20.2.1 := hT.2
          show MW mL_print (bc - 3 - 3) (bs - 18 - 18) 41 [(0, vR 0), (1, vI x1), (2, vI x2)] [vI v19, vI (wI (31 * (wI ((wI (31 * x1)) + v15)))), vI 31] g20 d21 Q
          refine mw_iaddW (pc' := 42) dL_print_41 rfl ?_
          refine mw_imulW (pc' := 43) dL_print_42 rfl ?_
          refine mw_aload_n (v := vR 0) (pc' := 44) dL_print_43 rfl rfl (Or.inl rfl) rfl ?_
          refine mw_bipush (pc' := 46) dL_print_44 rfl ⟨by decide, by decide⟩ ?_
          refine mw_iload_n (pc' := 47) dL_print_46 rfl rfl rfl ?_
          refine mw_iconst (pc' := 48) dL_print_47 rfl ⟨by decide, by decide⟩ ?_
          refine mw_iconst (pc' := 49) dL_print_48 rfl ⟨by decide, by decide⟩ ?_
          refine mw_callSX (M' := mL_ask) (A := [vR 0, vI 21, vI x2, vI 0, vI 0]) (S := [vI (wI (31 * (wI ((wI (31 * (wI ((wI (31 * x1)) + v15)))) + v19))))]) (pc' := 52) dL_print_49 rfl (goodW 1204 (by decide +kernel) rfl) kX_L_ask kS_L_ask ⟨by decide, by decide, (by show 3 ≤ bc - 3 - 3; omega), (by show 18 ≤ bs - 18 - 18; omega), by decide⟩ rfl rfl (Nat.le_of_ble_eq_true rfl) (MM.mono ?_ h18)
          intro o g24 d25 h22
          rcases o with v23 | k
          · refine mw_top (fun hT => ?_)
            have hG : 65 ≤ g24.2.1 := hT.2
            show MW mL_print (bc - 3 - 3 - 3) (bs - 18 - 18 - 18) 52 [(0, vR 0), (1, vI x1), (2, vI x2)] [vI v23, vI (wI (31 * (wI ((wI (31 * (wI ((wI (31 * x1)) + v15)))) + v19))))] g24 d25 Q
            refine mw_iaddW (pc' := 53) dL_print_52 rfl ?_
            refine mw_istore_n (pc' := 54) (L' := [(0, vR 0), (1, vI (wI ((wI (31 * (wI ((wI (31 * (wI ((wI (31 * x1)) + v15)))) + v19)))) + v23))), (2, vI x2)]) dL_print_53 rfl rfl (by decide) rfl ?_
            obtain ⟨o26, h22⟩ := h22
            refine mw_iinc (pc' := 57) (L' := [(0, vR 0), (1, vI (wI ((wI (31 * (wI ((wI (31 * (wI ((wI (31 * x1)) + v15)))) + v19)))) + v23))), (2, vI (x2 + 1))]) dL_print_54 rfl rfl (by decide) o26 rfl ?_
            refine mw_goto (pc' := 0) (tgt := 7) dL_print_57 (by decide) ?_
            exact h22
          · exact mx_out rfl h22
        · exact mx_out rfl h18
      · exact mx_out rfl h14
  · exact mx_out rfl h5
