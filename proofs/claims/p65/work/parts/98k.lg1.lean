theorem eL_told {x0 : Int} {g : mG} {d : mD} {Q : mQ} (h : Q (.inl (bI (¬ (x0 = 0)))) g d) : MM mL_told [vI x0] g d Q := by
  refine MM_of (by decide) rfl (by simp [catV]) (Nat.le_of_ble_eq_true rfl) ?_
  show MW mL_told 0 0 0 [(0, vI x0)] [] g d Q
  refine mw_top (fun hT => ?_)
  have hG : 65 ≤ g.2.1 := hT.2
  refine mw_iload_n (pc' := 1) dL_told_0 rfl rfl rfl ?_
  suffices k1 : MW mL_told 0 0 9 [(0, vI x0)] [vI (bI (¬ (x0 = 0)))] g d Q by
    refine mw_if_eq (tgt := 8) (pc' := 4) dL_told_1 rfl (by decide) (fun c2 => ?_) (fun c2 => ?_)
    · refine mw_iconst (pc' := 9) dL_told_8 rfl ⟨by decide, by decide⟩ ?_
      exact mw_st (bI_f (fun h => (h c2))).symm k1
    · refine mw_iconst (pc' := 5) dL_told_4 rfl ⟨by decide, by decide⟩ ?_
      refine mw_goto (pc' := 0) (tgt := 9) dL_told_5 (by decide) ?_
      exact mw_st (bI_t c2).symm k1
  exact mw_iret (pc' := 0) (S := []) dL_told_9 rfl (Or.inl rfl) h
theorem kX_L_deed : CMX mL_deed 5 := ⟨(goodW 562 (by decide +kernel) rfl), (goodW 0 (by decide +kernel) rfl), ⟨by decide, by decide⟩, by decide +kernel, rfl⟩
theorem kS_L_deed : Cond.static (mY mL_deed) ∈ BIG := (goodW 561 (by decide +kernel) rfl)
theorem kX_L_ask : CMX mL_ask 5 := ⟨(goodW 1206 (by decide +kernel) rfl), (goodW 0 (by decide +kernel) rfl), ⟨by decide, by decide⟩, by decide +kernel, rfl⟩
theorem kS_L_ask : Cond.static (mY mL_ask) ∈ BIG := (goodW 1205 (by decide +kernel) rfl)
theorem eL_cell {x1 : Int} {g : mG} {d : mD} {Q : mQ} (h : (0 ≤ d SCR (-1)) ∧ (((¬ (d SCR (-1) ≤ x1)) → 0 ≤ x1 ∧ x1 < d SCR (-1)) ∧ (Q (.inl (xrI (wI ((xrI (wI ((wI (69069 * (wI ((iT (d SCR (-1) ≤ x1) 0 (d SCR x1)) + (wI (1009 * x1)))))) + 12345)) (usI (wI ((wI (69069 * (wI ((iT (d SCR (-1) ≤ x1) 0 (d SCR x1)) + (wI (1009 * x1)))))) + 12345)) 13)) * 1103515245)) (usI (wI ((xrI (wI ((wI (69069 * (wI ((iT (d SCR (-1) ≤ x1) 0 (d SCR x1)) + (wI (1009 * x1)))))) + 12345)) (usI (wI ((wI (69069 * (wI ((iT (d SCR (-1) ≤ x1) 0 (d SCR x1)) + (wI (1009 * x1)))))) + 12345)) 13)) * 1103515245)) 16))) g d))) : MM mL_cell [(5, 0), vI x1] g d Q := by
  refine MM_of (by decide) rfl (by simp [catV]) (Nat.le_of_ble_eq_true rfl) ?_
  show MW mL_cell 0 0 0 [(0, (5, 0)), (1, vI x1)] [] g d Q
  refine mw_top (fun hT => ?_)
  have hG : 65 ≤ g.2.1 := hT.2
  refine mw_ldc (n := 69069) (pc' := 2) dL_cell_0 rfl bw_555 ⟨by decide, by decide⟩ ?_
  refine mw_iload_n (pc' := 3) dL_cell_2 rfl rfl rfl ?_
  refine mw_aload_n (v := (5, 0)) (pc' := 4) dL_cell_3 rfl rfl (Or.inr (Or.inl rfl)) rfl ?_
  obtain ⟨o1, h⟩ := h
  refine mw_xlen (pc' := 5) dL_cell_4 rfl o1 ?_
  obtain ⟨o2, h⟩ := h
  suffices k3 : MW mL_cell 0 0 15 [(0, (5, 0)), (1, vI x1)] [vI (iT (d SCR (-1) ≤ x1) 0 (d SCR x1)), vI 69069] g d Q by
    refine mw_icmp_ge (tgt := 14) (pc' := 8) dL_cell_5 rfl (by decide) (fun c4 => ?_) (fun c4 => ?_)
    · refine mw_iconst (pc' := 15) dL_cell_14 rfl ⟨by decide, by decide⟩ ?_
      exact mw_st (((iT_t c4).trans rfl)).symm k3
    · refine mw_aload_n (v := (5, 0)) (pc' := 9) dL_cell_8 rfl rfl (Or.inr (Or.inl rfl)) rfl ?_
      refine mw_iload_n (pc' := 10) dL_cell_9 rfl rfl rfl ?_
      refine mw_xld (pc' := 11) dL_cell_10 rfl (o2 c4) ?_
      refine mw_goto (pc' := 0) (tgt := 15) dL_cell_11 (by decide) ?_
      exact mw_st (((iT_f c4).trans rfl)).symm k3
  refine mw_sipush (pc' := 18) dL_cell_15 rfl ⟨by decide, by decide⟩ ?_
  refine mw_iload_n (pc' := 19) dL_cell_18 rfl rfl rfl ?_
  refine mw_imulW (pc' := 20) dL_cell_19 rfl ?_
  refine mw_iaddW (pc' := 21) dL_cell_20 rfl ?_
  refine mw_imulW (pc' := 22) dL_cell_21 rfl ?_
  refine mw_sipush (pc' := 25) dL_cell_22 rfl ⟨by decide, by decide⟩ ?_
  refine mw_iaddW (pc' := 26) dL_cell_25 rfl ?_
  refine mw_istore_n (pc' := 27) (L' := [(0, (5, 0)), (1, vI x1), (2, vI (wI ((wI (69069 * (wI ((iT (d SCR (-1) ≤ x1) 0 (d SCR x1)) + (wI (1009 * x1)))))) + 12345)))]) dL_cell_26 rfl rfl (by decide) rfl ?_
  refine mw_iload_n (pc' := 28) dL_cell_27 rfl rfl rfl ?_
  refine mw_iload_n (pc' := 29) dL_cell_28 rfl rfl rfl ?_
  refine mw_bipush (pc' := 31) dL_cell_29 rfl ⟨by decide, by decide⟩ ?_
  refine mw_iushr (pc' := 32) dL_cell_31 rfl ?_
  refine mw_ixor (pc' := 33) dL_cell_32 rfl ?_
  refine mw_ldc (n := 1103515245) (pc' := 35) dL_cell_33 rfl bw_556 ⟨by decide, by decide⟩ ?_
  refine mw_imulW (pc' := 36) dL_cell_35 rfl ?_
  refine mw_istore_n (pc' := 37) (L' := [(0, (5, 0)), (1, vI x1), (2, vI (wI ((xrI (wI ((wI (69069 * (wI ((iT (d SCR (-1) ≤ x1) 0 (d SCR x1)) + (wI (1009 * x1)))))) + 12345)) (usI (wI ((wI (69069 * (wI ((iT (d SCR (-1) ≤ x1) 0 (d SCR x1)) + (wI (1009 * x1)))))) + 12345)) 13)) * 1103515245)))]) dL_cell_36 rfl rfl (by decide) rfl ?_
  refine mw_iload_n (pc' := 38) dL_cell_37 rfl rfl rfl ?_
  refine mw_iload_n (pc' := 39) dL_cell_38 rfl rfl rfl ?_
  refine mw_bipush (pc' := 41) dL_cell_39 rfl ⟨by decide, by decide⟩ ?_
  refine mw_iushr (pc' := 42) dL_cell_41 rfl ?_
  refine mw_ixor (pc' := 43) dL_cell_42 rfl ?_
  exact mw_iret (pc' := 0) (S := []) dL_cell_43 rfl (Or.inl rfl) h
theorem eL_pick {x1 x2 : Int} {g : mG} {d : mD} {Q : mQ} (h : MM mL_cell [(5, 0), vI x1] g d (fun o g3 d4 => match o with | .inl v2 => (0 ≤ usI v2 8) ∧ ((0 < x2) ∧ (Q (.inl ((usI v2 8) % x2)) g3 d4)) | .inr k => Q (.inr k) g3 d4)) : MM mL_pick [(5, 0), vI x1, vI x2] g d Q := by
  refine MM_of (by decide) rfl (by simp [catV]) (Nat.le_of_ble_eq_true rfl) ?_
  show MW mL_pick 0 0 0 [(0, (5, 0)), (1, vI x1), (2, vI x2)] [] g d Q
  refine mw_top (fun hT => ?_)
  have hG : 65 ≤ g.2.1 := hT.2
  refine mw_aload_n (v := (5, 0)) (pc' := 1) dL_pick_0 rfl rfl (Or.inr (Or.inl rfl)) rfl ?_
  refine mw_iload_n (pc' := 2) dL_pick_1 rfl rfl rfl ?_
  refine mw_callS (M' := mL_cell) (A := [(5, 0), vI x1]) (S := []) (pc' := 5) dL_pick_2 rfl cl_RL_9 cm_L_cell cs_L_cell ⟨by decide, by decide, (by show 0 ≤ 0; omega), (by show 0 ≤ 0; omega), by decide⟩ rfl rfl (Nat.le_of_ble_eq_true rfl) (MM.mono ?_ h)
  intro o g3 d4 h1
  rcases o with v2 | k
  · refine mw_top (fun hT => ?_)
    have hG : 65 ≤ g3.2.1 := hT.2
    show MW mL_pick 0 0 5 [(0, (5, 0)), (1, vI x1), (2, vI x2)] [vI v2] g3 d4 Q
    refine mw_bipush (pc' := 7) dL_pick_5 rfl ⟨by decide, by decide⟩ ?_
    refine mw_iushr (pc' := 8) dL_pick_7 rfl ?_
    refine mw_iload_n (pc' := 9) dL_pick_8 rfl rfl rfl ?_
    obtain ⟨o5, h1⟩ := h1
    obtain ⟨o6, h1⟩ := h1
    refine mw_irem (pc' := 10) dL_pick_9 rfl o5 o6 ?_
    exact mw_iret (pc' := 0) (S := []) dL_pick_10 rfl (Or.inl rfl) h1
  · exact mx_out rfl h1
theorem eL_way {x0 : Int} {g : mG} {d : mD} {Q : mQ} (h : (0 ≤ iT (x0 = 0) 112 (iT (x0 = 1) 101 (iT (x0 = 2) 109 97)) ∧ iT (x0 = 0) 112 (iT (x0 = 1) 101 (iT (x0 = 2) 109 97)) ≤ 65535) ∧ (Q (.inl (iT (x0 = 0) 112 (iT (x0 = 1) 101 (iT (x0 = 2) 109 97)))) g d)) : MM mL_way [vI x0] g d Q := by
  refine MM_of (by decide) rfl (by simp [catV]) (Nat.le_of_ble_eq_true rfl) ?_
  show MW mL_way 0 0 0 [(0, vI x0)] [] g d Q
  refine mw_top (fun hT => ?_)
  have hG : 65 ≤ g.2.1 := hT.2
  refine mw_iload_n (pc' := 1) dL_way_0 rfl rfl rfl ?_
  suffices k1 : MW mL_way 0 0 31 [(0, vI x0)] [vI (iT (x0 = 0) 112 (iT (x0 = 1) 101 (iT (x0 = 2) 109 97)))] g d Q by
    refine mw_if_ne (tgt := 9) (pc' := 4) dL_way_1 rfl (by decide) (fun c2 => ?_) (fun c2 => ?_)
    · refine mw_iload_n (pc' := 10) dL_way_9 rfl rfl rfl ?_
      refine mw_iconst (pc' := 11) dL_way_10 rfl ⟨by decide, by decide⟩ ?_
      refine mw_icmp_ne (tgt := 19) (pc' := 14) dL_way_11 rfl (by decide) (fun c3 => ?_) (fun c3 => ?_)
      · refine mw_iload_n (pc' := 20) dL_way_19 rfl rfl rfl ?_
        refine mw_iconst (pc' := 21) dL_way_20 rfl ⟨by decide, by decide⟩ ?_
        refine mw_icmp_ne (tgt := 29) (pc' := 24) dL_way_21 rfl (by decide) (fun c4 => ?_) (fun c4 => ?_)
        · refine mw_bipush (pc' := 31) dL_way_29 rfl ⟨by decide, by decide⟩ ?_
          exact mw_st (((iT_f c2).trans ((iT_f c3).trans ((iT_f c4).trans rfl)))).symm k1
        · refine mw_bipush (pc' := 26) dL_way_24 rfl ⟨by decide, by decide⟩ ?_
          refine mw_goto (pc' := 0) (tgt := 31) dL_way_26 (by decide) ?_
          exact mw_st (((iT_f c2).trans ((iT_f c3).trans ((iT_t c4).trans rfl)))).symm k1
      · refine mw_bipush (pc' := 16) dL_way_14 rfl ⟨by decide, by decide⟩ ?_
        refine mw_goto (pc' := 0) (tgt := 31) dL_way_16 (by decide) ?_
        exact mw_st (((iT_f c2).trans ((iT_t c3).trans rfl))).symm k1
    · refine mw_bipush (pc' := 6) dL_way_4 rfl ⟨by decide, by decide⟩ ?_
      refine mw_goto (pc' := 0) (tgt := 31) dL_way_6 (by decide) ?_
      exact mw_st (((iT_t c2).trans rfl)).symm k1
  obtain ⟨o5, h⟩ := h
  exact mw_iret (pc' := 0) (S := []) dL_way_31 rfl (Or.inr (Or.inr ⟨rfl, o5⟩)) h
theorem eL_plain_w0 {x2 x3 x4 : Int} {g : mG} {d : mD} {Q : mQ} (h : MM mX11_advance [vR 0, vI x2] g d (fun o g3 d4 => match o with | .inl v2 => Q (.inl v2) g3 d4 | .inr k => Q (.inr k) g3 d4)) : MM mL_plain [vR 0, vI 0, vI x2, vI x3, vI x4] g d Q := by
  refine MM_of (by decide) rfl (by simp [catV]) (Nat.le_of_ble_eq_true rfl) ?_
  show MW mL_plain 48 8234 0 [(0, vR 0), (1, vI 0), (2, vI x2), (3, vI x3), (4, vI x4)] [] g d Q
  refine mw_top (fun hT => ?_)
  have hG : 65 ≤ g.2.1 := hT.2
  refine mw_iload_n (pc' := 1) dL_plain_0 rfl rfl rfl ?_
  refine mw_tabIn (pc' := 0) (off := 99) (tgt := 100) dL_plain_1 (by decide) (by rfl) (by decide) ?_
  refine mw_aload_n (v := vR 0) (pc' := 101) dL_plain_100 rfl rfl (Or.inl rfl) rfl ?_
  refine mw_iload_n (pc' := 102) dL_plain_101 rfl rfl rfl ?_
  refine mw_callV (M' := mX11_advance) (A := [vI x2]) (A' := [vR 0, vI x2]) (S := []) (a := 0) (pc' := 105) dL_plain_102 rfl cl_RL_15 cm_X11_advance cv_X11_advance ⟨by decide, by decide, (by show 47 ≤ 48; omega), (by show 8228 ≤ 8234; omega), by decide⟩ rfl rfl rfl ⟨by decide, by omega⟩ (by decide +kernel) (by decide +kernel) (Nat.le_of_ble_eq_true rfl) (MM.mono ?_ h)
  intro o g3 d4 h1
  rcases o with v2 | k
  · refine mw_top (fun hT => ?_)
    have hG : 65 ≤ g3.2.1 := hT.2
    show MW mL_plain 1 6 105 [(0, vR 0), (1, vI 0), (2, vI x2), (3, vI x3), (4, vI x4)] [vI v2] g3 d4 Q
    exact mw_iret (pc' := 0) (S := []) dL_plain_105 rfl (Or.inl rfl) h1
  · exact mx_out rfl h1
theorem eL_plain_w1 {x2 x3 x4 : Int} {g : mG} {d : mD} {Q : mQ} (h : MM mX11_addHoliday [vR 0, vI x2] g d (fun o g3 d4 => match o with | .inl v2 => Q (.inl v2) g3 d4 | .inr k => Q (.inr k) g3 d4)) : MM mL_plain [vR 0, vI 1, vI x2, vI x3, vI x4] g d Q := by
  refine MM_of (by decide) rfl (by simp [catV]) (Nat.le_of_ble_eq_true rfl) ?_
  show MW mL_plain 48 8234 0 [(0, vR 0), (1, vI 1), (2, vI x2), (3, vI x3), (4, vI x4)] [] g d Q
  refine mw_top (fun hT => ?_)
  have hG : 65 ≤ g.2.1 := hT.2
  refine mw_iload_n (pc' := 1) dL_plain_0 rfl rfl rfl ?_
  refine mw_tabIn (pc' := 0) (off := 105) (tgt := 106) dL_plain_1 (by decide) (by rfl) (by decide) ?_
  refine mw_aload_n (v := vR 0) (pc' := 107) dL_plain_106 rfl rfl (Or.inl rfl) rfl ?_
  refine mw_iload_n (pc' := 108) dL_plain_107 rfl rfl rfl ?_
  refine mw_callV (M' := mX11_addHoliday) (A := [vI x2]) (A' := [vR 0, vI x2]) (S := []) (a := 0) (pc' := 111) dL_plain_108 rfl cl_RL_21 cm_X11_addHoliday cv_X11_addHoliday ⟨by decide, by decide, (by show 47 ≤ 48; omega), (by show 8228 ≤ 8234; omega), by decide⟩ rfl rfl rfl ⟨by decide, by omega⟩ (by decide +kernel) (by decide +kernel) (Nat.le_of_ble_eq_true rfl) (MM.mono ?_ h)
  intro o g3 d4 h1
  rcases o with v2 | k
  · refine mw_top (fun hT => ?_)
    have hG : 65 ≤ g3.2.1 := hT.2
    show MW mL_plain 1 6 111 [(0, vR 0), (1, vI 1), (2, vI x2), (3, vI x3), (4, vI x4)] [vI v2] g3 d4 Q
    exact mw_iret (pc' := 0) (S := []) dL_plain_111 rfl (Or.inl rfl) h1
  · exact mx_out rfl h1
theorem eL_plain_w3 {x2 x3 x4 : Int} {g : mG} {d : mD} {Q : mQ} (h : MM mX11_setRule [vR 0, vI x2, vI x3, vI (bI (x4 = 1))] g d (fun o g5 d6 => match o with | .inl v4 => Q (.inl v4) g5 d6 | .inr k => Q (.inr k) g5 d6)) : MM mL_plain [vR 0, vI 3, vI x2, vI x3, vI x4] g d Q := by
  refine MM_of (by decide) rfl (by simp [catV]) (Nat.le_of_ble_eq_true rfl) ?_
  show MW mL_plain 48 8234 0 [(0, vR 0), (1, vI 3), (2, vI x2), (3, vI x3), (4, vI x4)] [] g d Q
  refine mw_top (fun hT => ?_)
  have hG : 65 ≤ g.2.1 := hT.2
  refine mw_iload_n (pc' := 1) dL_plain_0 rfl rfl rfl ?_
  refine mw_tabIn (pc' := 0) (off := 117) (tgt := 118) dL_plain_1 (by decide) (by rfl) (by decide) ?_
  refine mw_aload_n (v := vR 0) (pc' := 119) dL_plain_118 rfl rfl (Or.inl rfl) rfl ?_
  refine mw_iload_n (pc' := 120) dL_plain_119 rfl rfl rfl ?_
  refine mw_iload_n (pc' := 121) dL_plain_120 rfl rfl rfl ?_
  refine mw_iload (pc' := 123) dL_plain_121 rfl rfl ?_
  refine mw_iconst (pc' := 124) dL_plain_123 rfl ⟨by decide, by decide⟩ ?_
  suffices k1 : MW mL_plain 48 8234 132 [(0, vR 0), (1, vI 3), (2, vI x2), (3, vI x3), (4, vI x4)] [vI (bI (x4 = 1)), vI x3, vI x2, vR 0] g d Q by
    refine mw_icmp_ne (tgt := 131) (pc' := 127) dL_plain_124 rfl (by decide) (fun c2 => ?_) (fun c2 => ?_)
    · refine mw_iconst (pc' := 132) dL_plain_131 rfl ⟨by decide, by decide⟩ ?_
      exact mw_st (bI_f (fun h => (c2 h))).symm k1
    · refine mw_iconst (pc' := 128) dL_plain_127 rfl ⟨by decide, by decide⟩ ?_
      refine mw_goto (pc' := 0) (tgt := 132) dL_plain_128 (by decide) ?_
      exact mw_st (bI_t c2).symm k1
  refine mw_callV (M' := mX11_setRule) (A := [vI x2, vI x3, vI (bI (x4 = 1))]) (A' := [vR 0, vI x2, vI x3, vI (bI (x4 = 1))]) (S := []) (a := 0) (pc' := 135) dL_plain_132 rfl cl_RL_27 cm_X11_setRule cv_X11_setRule ⟨by decide, by decide, (by show 47 ≤ 48; omega), (by show 8228 ≤ 8234; omega), by decide⟩ rfl rfl rfl ⟨by decide, by omega⟩ (by decide +kernel) (by decide +kernel) (Nat.le_of_ble_eq_true rfl) (MM.mono ?_ h)
  intro o g5 d6 h3
  rcases o with v4 | k
  · refine mw_top (fun hT => ?_)
    have hG : 65 ≤ g5.2.1 := hT.2
    show MW mL_plain 1 6 135 [(0, vR 0), (1, vI 3), (2, vI x2), (3, vI x3), (4, vI x4)] [vI v4] g5 d6 Q
    exact mw_iret (pc' := 0) (S := []) dL_plain_135 rfl (Or.inl rfl) h3
  · exact mx_out rfl h3
theorem eL_plain_w4 {x2 x3 x4 : Int} {g : mG} {d : mD} {Q : mQ} (h : MM mX11_setServiceDays [vR 0, vI (x2 % 65536), vI x3] g d (fun o g3 d4 => match o with | .inl v2 => Q (.inl v2) g3 d4 | .inr k => Q (.inr k) g3 d4)) : MM mL_plain [vR 0, vI 4, vI x2, vI x3, vI x4] g d Q := by
  refine MM_of (by decide) rfl (by simp [catV]) (Nat.le_of_ble_eq_true rfl) ?_
  show MW mL_plain 48 8234 0 [(0, vR 0), (1, vI 4), (2, vI x2), (3, vI x3), (4, vI x4)] [] g d Q
  refine mw_top (fun hT => ?_)
  have hG : 65 ≤ g.2.1 := hT.2
  refine mw_iload_n (pc' := 1) dL_plain_0 rfl rfl rfl ?_
  refine mw_tabIn (pc' := 0) (off := 135) (tgt := 136) dL_plain_1 (by decide) (by rfl) (by decide) ?_
  refine mw_aload_n (v := vR 0) (pc' := 137) dL_plain_136 rfl rfl (Or.inl rfl) rfl ?_
  refine mw_iload_n (pc' := 138) dL_plain_137 rfl rfl rfl ?_
  refine mw_i2c (pc' := 139) dL_plain_138 rfl ?_
  refine mw_iload_n (pc' := 140) dL_plain_139 rfl rfl rfl ?_
  refine mw_callV (M' := mX11_setServiceDays) (A := [vI (x2 % 65536), vI x3]) (A' := [vR 0, vI (x2 % 65536), vI x3]) (S := []) (a := 0) (pc' := 143) dL_plain_140 rfl cl_RL_31 cm_X11_setServiceDays cv_X11_setServiceDays ⟨by decide, by decide, (by show 47 ≤ 48; omega), (by show 8228 ≤ 8234; omega), by decide⟩ rfl rfl rfl ⟨by decide, by omega⟩ (by decide +kernel) (by decide +kernel) (Nat.le_of_ble_eq_true rfl) (MM.mono ?_ h)
  intro o g3 d4 h1
  rcases o with v2 | k
  · refine mw_top (fun hT => ?_)
    have hG : 65 ≤ g3.2.1 := hT.2
    show MW mL_plain 1 6 143 [(0, vR 0), (1, vI 4), (2, vI x2), (3, vI x3), (4, vI x4)] [vI v2] g3 d4 Q
    exact mw_iret (pc' := 0) (S := []) dL_plain_143 rfl (Or.inl rfl) h1
  · exact mx_out rfl h1
theorem eL_plain_w5 {x2 x3 x4 : Int} {g : mG} {d : mD} {Q : mQ} (h : MM mX11_serve [vR 0, vI x2, vI x3, vI (x4 % 65536)] g d (fun o g3 d4 => match o with | .inl v2 => Q (.inl v2) g3 d4 | .inr k => Q (.inr k) g3 d4)) : MM mL_plain [vR 0, vI 5, vI x2, vI x3, vI x4] g d Q := by
  refine MM_of (by decide) rfl (by simp [catV]) (Nat.le_of_ble_eq_true rfl) ?_
  show MW mL_plain 48 8234 0 [(0, vR 0), (1, vI 5), (2, vI x2), (3, vI x3), (4, vI x4)] [] g d Q
  refine mw_top (fun hT => ?_)
  have hG : 65 ≤ g.2.1 := hT.2
  refine mw_iload_n (pc' := 1) dL_plain_0 rfl rfl rfl ?_
  refine mw_tabIn (pc' := 0) (off := 143) (tgt := 144) dL_plain_1 (by decide) (by rfl) (by decide) ?_
  refine mw_aload_n (v := vR 0) (pc' := 145) dL_plain_144 rfl rfl (Or.inl rfl) rfl ?_
  refine mw_iload_n (pc' := 146) dL_plain_145 rfl rfl rfl ?_
  refine mw_iload_n (pc' := 147) dL_plain_146 rfl rfl rfl ?_
  refine mw_iload (pc' := 149) dL_plain_147 rfl rfl ?_
  refine mw_i2c (pc' := 150) dL_plain_149 rfl ?_
  refine mw_callV (M' := mX11_serve) (A := [vI x2, vI x3, vI (x4 % 65536)]) (A' := [vR 0, vI x2, vI x3, vI (x4 % 65536)]) (S := []) (a := 0) (pc' := 153) dL_plain_150 rfl cl_RL_35 cm_X11_serve cv_X11_serve ⟨by decide, by decide, (by show 47 ≤ 48; omega), (by show 8228 ≤ 8234; omega), by decide⟩ rfl rfl rfl ⟨by decide, by omega⟩ (by decide +kernel) (by decide +kernel) (Nat.le_of_ble_eq_true rfl) (MM.mono ?_ h)
  intro o g3 d4 h1
  rcases o with v2 | k
  · refine mw_top (fun hT => ?_)
    have hG : 65 ≤ g3.2.1 := hT.2
    show MW mL_plain 1 6 153 [(0, vR 0), (1, vI 5), (2, vI x2), (3, vI x3), (4, vI x4)] [vI v2] g3 d4 Q
    exact mw_iret (pc' := 0) (S := []) dL_plain_153 rfl (Or.inl rfl) h1
  · exact mx_out rfl h1
theorem eL_plain_w6 {x2 x3 x4 : Int} {g : mG} {d : mD} {Q : mQ} (h : MM mX11_extendByConsent [vR 0, vI x2, vI x3] g d (fun o g3 d4 => match o with | .inl v2 => Q (.inl v2) g3 d4 | .inr k => Q (.inr k) g3 d4)) : MM mL_plain [vR 0, vI 6, vI x2, vI x3, vI x4] g d Q := by
  refine MM_of (by decide) rfl (by simp [catV]) (Nat.le_of_ble_eq_true rfl) ?_
  show MW mL_plain 48 8234 0 [(0, vR 0), (1, vI 6), (2, vI x2), (3, vI x3), (4, vI x4)] [] g d Q
  refine mw_top (fun hT => ?_)
  have hG : 65 ≤ g.2.1 := hT.2
  refine mw_iload_n (pc' := 1) dL_plain_0 rfl rfl rfl ?_
  refine mw_tabIn (pc' := 0) (off := 153) (tgt := 154) dL_plain_1 (by decide) (by rfl) (by decide) ?_
  refine mw_aload_n (v := vR 0) (pc' := 155) dL_plain_154 rfl rfl (Or.inl rfl) rfl ?_
  refine mw_iload_n (pc' := 156) dL_plain_155 rfl rfl rfl ?_
  refine mw_iload_n (pc' := 157) dL_plain_156 rfl rfl rfl ?_
  refine mw_callV (M' := mX11_extendByConsent) (A := [vI x2, vI x3]) (A' := [vR 0, vI x2, vI x3]) (S := []) (a := 0) (pc' := 160) dL_plain_157 rfl cl_RL_39 cm_X11_extendByConsent cv_X11_extendByConsent ⟨by decide, by decide, (by show 47 ≤ 48; omega), (by show 8228 ≤ 8234; omega), by decide⟩ rfl rfl rfl ⟨by decide, by omega⟩ (by decide +kernel) (by decide +kernel) (Nat.le_of_ble_eq_true rfl) (MM.mono ?_ h)
  intro o g3 d4 h1
  rcases o with v2 | k
  · refine mw_top (fun hT => ?_)
    have hG : 65 ≤ g3.2.1 := hT.2
    show MW mL_plain 1 6 160 [(0, vR 0), (1, vI 6), (2, vI x2), (3, vI x3), (4, vI x4)] [vI v2] g3 d4 Q
    exact mw_iret (pc' := 0) (S := []) dL_plain_160 rfl (Or.inl rfl) h1
  · exact mx_out rfl h1
theorem eL_plain_w7 {x2 x3 x4 : Int} {g : mG} {d : mD} {Q : mQ} (h : MM mX11_extendByOrder [vR 0, vI x2, vI x3] g d (fun o g3 d4 => match o with | .inl v2 => Q (.inl v2) g3 d4 | .inr k => Q (.inr k) g3 d4)) : MM mL_plain [vR 0, vI 7, vI x2, vI x3, vI x4] g d Q := by
  refine MM_of (by decide) rfl (by simp [catV]) (Nat.le_of_ble_eq_true rfl) ?_
  show MW mL_plain 48 8234 0 [(0, vR 0), (1, vI 7), (2, vI x2), (3, vI x3), (4, vI x4)] [] g d Q
  refine mw_top (fun hT => ?_)
  have hG : 65 ≤ g.2.1 := hT.2
  refine mw_iload_n (pc' := 1) dL_plain_0 rfl rfl rfl ?_
  refine mw_tabIn (pc' := 0) (off := 160) (tgt := 161) dL_plain_1 (by decide) (by rfl) (by decide) ?_
  refine mw_aload_n (v := vR 0) (pc' := 162) dL_plain_161 rfl rfl (Or.inl rfl) rfl ?_
  refine mw_iload_n (pc' := 163) dL_plain_162 rfl rfl rfl ?_
  refine mw_iload_n (pc' := 164) dL_plain_163 rfl rfl rfl ?_
  refine mw_callV (M' := mX11_extendByOrder) (A := [vI x2, vI x3]) (A' := [vR 0, vI x2, vI x3]) (S := []) (a := 0) (pc' := 167) dL_plain_164 rfl cl_RL_43 cm_X11_extendByOrder cv_X11_extendByOrder ⟨by decide, by decide, (by show 47 ≤ 48; omega), (by show 8228 ≤ 8234; omega), by decide⟩ rfl rfl rfl ⟨by decide, by omega⟩ (by decide +kernel) (by decide +kernel) (Nat.le_of_ble_eq_true rfl) (MM.mono ?_ h)
  intro o g3 d4 h1
  rcases o with v2 | k
  · refine mw_top (fun hT => ?_)
    have hG : 65 ≤ g3.2.1 := hT.2
    show MW mL_plain 1 6 167 [(0, vR 0), (1, vI 7), (2, vI x2), (3, vI x3), (4, vI x4)] [vI v2] g3 d4 Q
    exact mw_iret (pc' := 0) (S := []) dL_plain_167 rfl (Or.inl rfl) h1
  · exact mx_out rfl h1
theorem eL_plain_w8 {x2 x3 x4 : Int} {g : mG} {d : mD} {Q : mQ} (h : MM mX11_file [vR 0, vI x2] g d (fun o g3 d4 => match o with | .inl v2 => Q (.inl (bI (¬ (v2 = 0)))) g3 d4 | .inr k => Q (.inr k) g3 d4)) : MM mL_plain [vR 0, vI 8, vI x2, vI x3, vI x4] g d Q := by
  refine MM_of (by decide) rfl (by simp [catV]) (Nat.le_of_ble_eq_true rfl) ?_
  show MW mL_plain 48 8234 0 [(0, vR 0), (1, vI 8), (2, vI x2), (3, vI x3), (4, vI x4)] [] g d Q
  refine mw_top (fun hT => ?_)
  have hG : 65 ≤ g.2.1 := hT.2
  refine mw_iload_n (pc' := 1) dL_plain_0 rfl rfl rfl ?_
  refine mw_tabIn (pc' := 0) (off := 167) (tgt := 168) dL_plain_1 (by decide) (by rfl) (by decide) ?_
  refine mw_aload_n (v := vR 0) (pc' := 169) dL_plain_168 rfl rfl (Or.inl rfl) rfl ?_
  refine mw_iload_n (pc' := 170) dL_plain_169 rfl rfl rfl ?_
  refine mw_callV (M' := mX11_file) (A := [vI x2]) (A' := [vR 0, vI x2]) (S := []) (a := 0) (pc' := 173) dL_plain_170 rfl cl_RL_46 cm_X11_file cv_X11_file ⟨by decide, by decide, (by show 47 ≤ 48; omega), (by show 8228 ≤ 8234; omega), by decide⟩ rfl rfl rfl ⟨by decide, by omega⟩ (by decide +kernel) (by decide +kernel) (Nat.le_of_ble_eq_true rfl) (MM.mono ?_ h)
  intro o g3 d4 h1
  rcases o with v2 | k
  · refine mw_top (fun hT => ?_)
    have hG : 65 ≤ g3.2.1 := hT.2
    show MW mL_plain 1 6 173 [(0, vR 0), (1, vI 8), (2, vI x2), (3, vI x3), (4, vI x4)] [vI v2] g3 d4 Q
    refine mw_callS (M' := mL_told) (A := [vI v2]) (S := []) (pc' := 176) dL_plain_173 rfl cl_RL_50 cm_L_told cs_L_told ⟨by decide, by decide, (by show 0 ≤ 1; omega), (by show 0 ≤ 6; omega), by decide⟩ rfl rfl (Nat.le_of_ble_eq_true rfl) (eL_told ?_)
    show MW mL_plain 1 6 176 [(0, vR 0), (1, vI 8), (2, vI x2), (3, vI x3), (4, vI x4)] [vI (bI (¬ (v2 = 0)))] g3 d4 Q
    exact mw_iret (pc' := 0) (S := []) dL_plain_176 rfl (Or.inl rfl) h1
  · exact mx_out rfl h1
theorem eL_plain_w9 {x2 x3 x4 : Int} {g : mG} {d : mD} {Q : mQ} (h : MM mX11_strike [vR 0, vI x2] g d (fun o g3 d4 => match o with | .inl v2 => Q (.inl v2) g3 d4 | .inr k => Q (.inr k) g3 d4)) : MM mL_plain [vR 0, vI 9, vI x2, vI x3, vI x4] g d Q := by
  refine MM_of (by decide) rfl (by simp [catV]) (Nat.le_of_ble_eq_true rfl) ?_
  show MW mL_plain 48 8234 0 [(0, vR 0), (1, vI 9), (2, vI x2), (3, vI x3), (4, vI x4)] [] g d Q
  refine mw_top (fun hT => ?_)
  have hG : 65 ≤ g.2.1 := hT.2
  refine mw_iload_n (pc' := 1) dL_plain_0 rfl rfl rfl ?_
  refine mw_tabIn (pc' := 0) (off := 176) (tgt := 177) dL_plain_1 (by decide) (by rfl) (by decide) ?_
  refine mw_aload_n (v := vR 0) (pc' := 178) dL_plain_177 rfl rfl (Or.inl rfl) rfl ?_
  refine mw_iload_n (pc' := 179) dL_plain_178 rfl rfl rfl ?_
  refine mw_callV (M' := mX11_strike) (A := [vI x2]) (A' := [vR 0, vI x2]) (S := []) (a := 0) (pc' := 182) dL_plain_179 rfl cl_RL_54 cm_X11_strike cv_X11_strike ⟨by decide, by decide, (by show 47 ≤ 48; omega), (by show 8228 ≤ 8234; omega), by decide⟩ rfl rfl rfl ⟨by decide, by omega⟩ (by decide +kernel) (by decide +kernel) (Nat.le_of_ble_eq_true rfl) (MM.mono ?_ h)
  intro o g3 d4 h1
  rcases o with v2 | k
  · refine mw_top (fun hT => ?_)
    have hG : 65 ≤ g3.2.1 := hT.2
    show MW mL_plain 1 6 182 [(0, vR 0), (1, vI 9), (2, vI x2), (3, vI x3), (4, vI x4)] [vI v2] g3 d4 Q
    exact mw_iret (pc' := 0) (S := []) dL_plain_182 rfl (Or.inl rfl) h1
  · exact mx_out rfl h1
theorem eL_plain_w10 {x2 x3 x4 : Int} {g : mG} {d : mD} {Q : mQ} (h : MM mX11_stayParty [vR 0, vI x2, vI x3] g d (fun o g3 d4 => match o with | .inl v2 => Q (.inl v2) g3 d4 | .inr k => Q (.inr k) g3 d4)) : MM mL_plain [vR 0, vI 10, vI x2, vI x3, vI x4] g d Q := by
  refine MM_of (by decide) rfl (by simp [catV]) (Nat.le_of_ble_eq_true rfl) ?_
  show MW mL_plain 48 8234 0 [(0, vR 0), (1, vI 10), (2, vI x2), (3, vI x3), (4, vI x4)] [] g d Q
  refine mw_top (fun hT => ?_)
  have hG : 65 ≤ g.2.1 := hT.2
  refine mw_iload_n (pc' := 1) dL_plain_0 rfl rfl rfl ?_
  refine mw_tabIn (pc' := 0) (off := 182) (tgt := 183) dL_plain_1 (by decide) (by rfl) (by decide) ?_
  refine mw_aload_n (v := vR 0) (pc' := 184) dL_plain_183 rfl rfl (Or.inl rfl) rfl ?_
  refine mw_iload_n (pc' := 185) dL_plain_184 rfl rfl rfl ?_
  refine mw_iload_n (pc' := 186) dL_plain_185 rfl rfl rfl ?_
  refine mw_callV (M' := mX11_stayParty) (A := [vI x2, vI x3]) (A' := [vR 0, vI x2, vI x3]) (S := []) (a := 0) (pc' := 189) dL_plain_186 rfl cl_RL_57 cm_X11_stayParty cv_X11_stayParty ⟨by decide, by decide, (by show 47 ≤ 48; omega), (by show 8228 ≤ 8234; omega), by decide⟩ rfl rfl rfl ⟨by decide, by omega⟩ (by decide +kernel) (by decide +kernel) (Nat.le_of_ble_eq_true rfl) (MM.mono ?_ h)
  intro o g3 d4 h1
  rcases o with v2 | k
  · refine mw_top (fun hT => ?_)
    have hG : 65 ≤ g3.2.1 := hT.2
    show MW mL_plain 1 6 189 [(0, vR 0), (1, vI 10), (2, vI x2), (3, vI x3), (4, vI x4)] [vI v2] g3 d4 Q
    exact mw_iret (pc' := 0) (S := []) dL_plain_189 rfl (Or.inl rfl) h1
  · exact mx_out rfl h1
theorem eL_plain_w11 {x2 x3 x4 : Int} {g : mG} {d : mD} {Q : mQ} (h : MM mX11_stayAll [vR 0, vI x2] g d (fun o g3 d4 => match o with | .inl v2 => Q (.inl v2) g3 d4 | .inr k => Q (.inr k) g3 d4)) : MM mL_plain [vR 0, vI 11, vI x2, vI x3, vI x4] g d Q := by
  refine MM_of (by decide) rfl (by simp [catV]) (Nat.le_of_ble_eq_true rfl) ?_
  show MW mL_plain 48 8234 0 [(0, vR 0), (1, vI 11), (2, vI x2), (3, vI x3), (4, vI x4)] [] g d Q
  refine mw_top (fun hT => ?_)
  have hG : 65 ≤ g.2.1 := hT.2
  refine mw_iload_n (pc' := 1) dL_plain_0 rfl rfl rfl ?_
  refine mw_tabIn (pc' := 0) (off := 189) (tgt := 190) dL_plain_1 (by decide) (by rfl) (by decide) ?_
  refine mw_aload_n (v := vR 0) (pc' := 191) dL_plain_190 rfl rfl (Or.inl rfl) rfl ?_
  refine mw_iload_n (pc' := 192) dL_plain_191 rfl rfl rfl ?_
  refine mw_callV (M' := mX11_stayAll) (A := [vI x2]) (A' := [vR 0, vI x2]) (S := []) (a := 0) (pc' := 195) dL_plain_192 rfl cl_RL_60 cm_X11_stayAll cv_X11_stayAll ⟨by decide, by decide, (by show 47 ≤ 48; omega), (by show 8228 ≤ 8234; omega), by decide⟩ rfl rfl rfl ⟨by decide, by omega⟩ (by decide +kernel) (by decide +kernel) (Nat.le_of_ble_eq_true rfl) (MM.mono ?_ h)
  intro o g3 d4 h1
  rcases o with v2 | k
  · refine mw_top (fun hT => ?_)
    have hG : 65 ≤ g3.2.1 := hT.2
    show MW mL_plain 1 6 195 [(0, vR 0), (1, vI 11), (2, vI x2), (3, vI x3), (4, vI x4)] [vI v2] g3 d4 Q
    exact mw_iret (pc' := 0) (S := []) dL_plain_195 rfl (Or.inl rfl) h1
  · exact mx_out rfl h1
theorem eL_plain_w12 {x2 x3 x4 : Int} {g : mG} {d : mD} {Q : mQ} (h : MM mX11_lift [vR 0, vI x2] g d (fun o g3 d4 => match o with | .inl v2 => Q (.inl v2) g3 d4 | .inr k => Q (.inr k) g3 d4)) : MM mL_plain [vR 0, vI 12, vI x2, vI x3, vI x4] g d Q := by
  refine MM_of (by decide) rfl (by simp [catV]) (Nat.le_of_ble_eq_true rfl) ?_
  show MW mL_plain 48 8234 0 [(0, vR 0), (1, vI 12), (2, vI x2), (3, vI x3), (4, vI x4)] [] g d Q
  refine mw_top (fun hT => ?_)
  have hG : 65 ≤ g.2.1 := hT.2
  refine mw_iload_n (pc' := 1) dL_plain_0 rfl rfl rfl ?_
  refine mw_tabIn (pc' := 0) (off := 195) (tgt := 196) dL_plain_1 (by decide) (by rfl) (by decide) ?_
  refine mw_aload_n (v := vR 0) (pc' := 197) dL_plain_196 rfl rfl (Or.inl rfl) rfl ?_
  refine mw_iload_n (pc' := 198) dL_plain_197 rfl rfl rfl ?_
  refine mw_callV (M' := mX11_lift) (A := [vI x2]) (A' := [vR 0, vI x2]) (S := []) (a := 0) (pc' := 201) dL_plain_198 rfl cl_RL_63 cm_X11_lift cv_X11_lift ⟨by decide, by decide, (by show 47 ≤ 48; omega), (by show 8228 ≤ 8234; omega), by decide⟩ rfl rfl rfl ⟨by decide, by omega⟩ (by decide +kernel) (by decide +kernel) (Nat.le_of_ble_eq_true rfl) (MM.mono ?_ h)
  intro o g3 d4 h1
  rcases o with v2 | k
  · refine mw_top (fun hT => ?_)
    have hG : 65 ≤ g3.2.1 := hT.2
    show MW mL_plain 1 6 201 [(0, vR 0), (1, vI 12), (2, vI x2), (3, vI x3), (4, vI x4)] [vI v2] g3 d4 Q
    exact mw_iret (pc' := 0) (S := []) dL_plain_201 rfl (Or.inl rfl) h1
  · exact mx_out rfl h1
theorem eL_plain_w13 {x2 x3 x4 : Int} {g : mG} {d : mD} {Q : mQ} (h : MM mX11_addOccurrence [vR 0, vI x2, vI x3] g d (fun o g3 d4 => match o with | .inl v2 => Q (.inl v2) g3 d4 | .inr k => Q (.inr k) g3 d4)) : MM mL_plain [vR 0, vI 13, vI x2, vI x3, vI x4] g d Q := by
  refine MM_of (by decide) rfl (by simp [catV]) (Nat.le_of_ble_eq_true rfl) ?_
  show MW mL_plain 48 8234 0 [(0, vR 0), (1, vI 13), (2, vI x2), (3, vI x3), (4, vI x4)] [] g d Q
  refine mw_top (fun hT => ?_)
  have hG : 65 ≤ g.2.1 := hT.2
  refine mw_iload_n (pc' := 1) dL_plain_0 rfl rfl rfl ?_
  refine mw_tabIn (pc' := 0) (off := 201) (tgt := 202) dL_plain_1 (by decide) (by rfl) (by decide) ?_
  refine mw_aload_n (v := vR 0) (pc' := 203) dL_plain_202 rfl rfl (Or.inl rfl) rfl ?_
  refine mw_iload_n (pc' := 204) dL_plain_203 rfl rfl rfl ?_
  refine mw_iload_n (pc' := 205) dL_plain_204 rfl rfl rfl ?_
  refine mw_callV (M' := mX11_addOccurrence) (A := [vI x2, vI x3]) (A' := [vR 0, vI x2, vI x3]) (S := []) (a := 0) (pc' := 208) dL_plain_205 rfl cl_RL_66 cm_X11_addOccurrence cv_X11_addOccurrence ⟨by decide, by decide, (by show 47 ≤ 48; omega), (by show 8228 ≤ 8234; omega), by decide⟩ rfl rfl rfl ⟨by decide, by omega⟩ (by decide +kernel) (by decide +kernel) (Nat.le_of_ble_eq_true rfl) (MM.mono ?_ h)
  intro o g3 d4 h1
  rcases o with v2 | k
  · refine mw_top (fun hT => ?_)
    have hG : 65 ≤ g3.2.1 := hT.2
    show MW mL_plain 1 6 208 [(0, vR 0), (1, vI 13), (2, vI x2), (3, vI x3), (4, vI x4)] [vI v2] g3 d4 Q
    exact mw_iret (pc' := 0) (S := []) dL_plain_208 rfl (Or.inl rfl) h1
  · exact mx_out rfl h1
theorem eL_plain_w14 {x2 x3 x4 : Int} {g : mG} {d : mD} {Q : mQ} (h : MM mX11_linkOccurrences [vR 0, vI x2, vI x3] g d (fun o g3 d4 => match o with | .inl v2 => Q (.inl v2) g3 d4 | .inr k => Q (.inr k) g3 d4)) : MM mL_plain [vR 0, vI 14, vI x2, vI x3, vI x4] g d Q := by
  refine MM_of (by decide) rfl (by simp [catV]) (Nat.le_of_ble_eq_true rfl) ?_
  show MW mL_plain 48 8234 0 [(0, vR 0), (1, vI 14), (2, vI x2), (3, vI x3), (4, vI x4)] [] g d Q
  refine mw_top (fun hT => ?_)
  have hG : 65 ≤ g.2.1 := hT.2
  refine mw_iload_n (pc' := 1) dL_plain_0 rfl rfl rfl ?_
  refine mw_tabIn (pc' := 0) (off := 208) (tgt := 209) dL_plain_1 (by decide) (by rfl) (by decide) ?_
  refine mw_aload_n (v := vR 0) (pc' := 210) dL_plain_209 rfl rfl (Or.inl rfl) rfl ?_
  refine mw_iload_n (pc' := 211) dL_plain_210 rfl rfl rfl ?_
  refine mw_iload_n (pc' := 212) dL_plain_211 rfl rfl rfl ?_
  refine mw_callV (M' := mX11_linkOccurrences) (A := [vI x2, vI x3]) (A' := [vR 0, vI x2, vI x3]) (S := []) (a := 0) (pc' := 215) dL_plain_212 rfl cl_RL_69 cm_X11_linkOccurrences cv_X11_linkOccurrences ⟨by decide, by decide, (by show 47 ≤ 48; omega), (by show 8228 ≤ 8234; omega), by decide⟩ rfl rfl rfl ⟨by decide, by omega⟩ (by decide +kernel) (by decide +kernel) (Nat.le_of_ble_eq_true rfl) (MM.mono ?_ h)
  intro o g3 d4 h1
  rcases o with v2 | k
  · refine mw_top (fun hT => ?_)
    have hG : 65 ≤ g3.2.1 := hT.2
    show MW mL_plain 1 6 215 [(0, vR 0), (1, vI 14), (2, vI x2), (3, vI x3), (4, vI x4)] [vI v2] g3 d4 Q
    exact mw_iret (pc' := 0) (S := []) dL_plain_215 rfl (Or.inl rfl) h1
  · exact mx_out rfl h1
theorem eL_plain_w15 {x2 x3 x4 : Int} {g : mG} {d : mD} {Q : mQ} (h : MM mX11_fileClaim [vR 0, vI x2, vI x3] g d (fun o g3 d4 => match o with | .inl v2 => Q (.inl v2) g3 d4 | .inr k => Q (.inr k) g3 d4)) : MM mL_plain [vR 0, vI 15, vI x2, vI x3, vI x4] g d Q := by
  refine MM_of (by decide) rfl (by simp [catV]) (Nat.le_of_ble_eq_true rfl) ?_
  show MW mL_plain 48 8234 0 [(0, vR 0), (1, vI 15), (2, vI x2), (3, vI x3), (4, vI x4)] [] g d Q
  refine mw_top (fun hT => ?_)
  have hG : 65 ≤ g.2.1 := hT.2
  refine mw_iload_n (pc' := 1) dL_plain_0 rfl rfl rfl ?_
  refine mw_tabIn (pc' := 0) (off := 215) (tgt := 216) dL_plain_1 (by decide) (by rfl) (by decide) ?_
  refine mw_aload_n (v := vR 0) (pc' := 217) dL_plain_216 rfl rfl (Or.inl rfl) rfl ?_
  refine mw_iload_n (pc' := 218) dL_plain_217 rfl rfl rfl ?_
  refine mw_iload_n (pc' := 219) dL_plain_218 rfl rfl rfl ?_
  refine mw_callV (M' := mX11_fileClaim) (A := [vI x2, vI x3]) (A' := [vR 0, vI x2, vI x3]) (S := []) (a := 0) (pc' := 222) dL_plain_219 rfl cl_RL_72 cm_X11_fileClaim cv_X11_fileClaim ⟨by decide, by decide, (by show 47 ≤ 48; omega), (by show 8228 ≤ 8234; omega), by decide⟩ rfl rfl rfl ⟨by decide, by omega⟩ (by decide +kernel) (by decide +kernel) (Nat.le_of_ble_eq_true rfl) (MM.mono ?_ h)
  intro o g3 d4 h1
  rcases o with v2 | k
  · refine mw_top (fun hT => ?_)
    have hG : 65 ≤ g3.2.1 := hT.2
    show MW mL_plain 1 6 222 [(0, vR 0), (1, vI 15), (2, vI x2), (3, vI x3), (4, vI x4)] [vI v2] g3 d4 Q
    exact mw_iret (pc' := 0) (S := []) dL_plain_222 rfl (Or.inl rfl) h1
  · exact mx_out rfl h1
theorem eL_plain_w16 {x2 x3 x4 : Int} {g : mG} {d : mD} {Q : mQ} (h : MM mX11_amendClaim [vR 0, vI x2, vI x3] g d (fun o g3 d4 => match o with | .inl v2 => Q (.inl v2) g3 d4 | .inr k => Q (.inr k) g3 d4)) : MM mL_plain [vR 0, vI 16, vI x2, vI x3, vI x4] g d Q := by
  refine MM_of (by decide) rfl (by simp [catV]) (Nat.le_of_ble_eq_true rfl) ?_
  show MW mL_plain 48 8234 0 [(0, vR 0), (1, vI 16), (2, vI x2), (3, vI x3), (4, vI x4)] [] g d Q
  refine mw_top (fun hT => ?_)
  have hG : 65 ≤ g.2.1 := hT.2
  refine mw_iload_n (pc' := 1) dL_plain_0 rfl rfl rfl ?_
  refine mw_tabIn (pc' := 0) (off := 222) (tgt := 223) dL_plain_1 (by decide) (by rfl) (by decide) ?_
  refine mw_aload_n (v := vR 0) (pc' := 224) dL_plain_223 rfl rfl (Or.inl rfl) rfl ?_
  refine mw_iload_n (pc' := 225) dL_plain_224 rfl rfl rfl ?_
  refine mw_iload_n (pc' := 226) dL_plain_225 rfl rfl rfl ?_
  refine mw_callV (M' := mX11_amendClaim) (A := [vI x2, vI x3]) (A' := [vR 0, vI x2, vI x3]) (S := []) (a := 0) (pc' := 229) dL_plain_226 rfl cl_RL_75 cm_X11_amendClaim cv_X11_amendClaim ⟨by decide, by decide, (by show 47 ≤ 48; omega), (by show 8228 ≤ 8234; omega), by decide⟩ rfl rfl rfl ⟨by decide, by omega⟩ (by decide +kernel) (by decide +kernel) (Nat.le_of_ble_eq_true rfl) (MM.mono ?_ h)
  intro o g3 d4 h1
  rcases o with v2 | k
  · refine mw_top (fun hT => ?_)
    have hG : 65 ≤ g3.2.1 := hT.2
    show MW mL_plain 1 6 229 [(0, vR 0), (1, vI 16), (2, vI x2), (3, vI x3), (4, vI x4)] [vI v2] g3 d4 Q
    exact mw_iret (pc' := 0) (S := []) dL_plain_229 rfl (Or.inl rfl) h1
  · exact mx_out rfl h1
theorem eL_plain_w17 {x2 x3 x4 : Int} {g : mG} {d : mD} {Q : mQ} (h : MM mX11_addParty [vR 0] g d (fun o g3 d4 => match o with | .inl v2 => Q (.inl v2) g3 d4 | .inr k => Q (.inr k) g3 d4)) : MM mL_plain [vR 0, vI 17, vI x2, vI x3, vI x4] g d Q := by
  refine MM_of (by decide) rfl (by simp [catV]) (Nat.le_of_ble_eq_true rfl) ?_
  show MW mL_plain 48 8234 0 [(0, vR 0), (1, vI 17), (2, vI x2), (3, vI x3), (4, vI x4)] [] g d Q
  refine mw_top (fun hT => ?_)
  have hG : 65 ≤ g.2.1 := hT.2
  refine mw_iload_n (pc' := 1) dL_plain_0 rfl rfl rfl ?_
  refine mw_tabIn (pc' := 0) (off := 229) (tgt := 230) dL_plain_1 (by decide) (by rfl) (by decide) ?_
  refine mw_aload_n (v := vR 0) (pc' := 231) dL_plain_230 rfl rfl (Or.inl rfl) rfl ?_
  refine mw_callV (M' := mX11_addParty) (A := []) (A' := [vR 0]) (S := []) (a := 0) (pc' := 234) dL_plain_231 rfl cl_RL_78 cm_X11_addParty cv_X11_addParty ⟨by decide, by decide, (by show 47 ≤ 48; omega), (by show 8228 ≤ 8234; omega), by decide⟩ rfl rfl rfl ⟨by decide, by omega⟩ (by decide +kernel) (by decide +kernel) (Nat.le_of_ble_eq_true rfl) (MM.mono ?_ h)
  intro o g3 d4 h1
  rcases o with v2 | k
  · refine mw_top (fun hT => ?_)
    have hG : 65 ≤ g3.2.1 := hT.2
    show MW mL_plain 1 6 234 [(0, vR 0), (1, vI 17), (2, vI x2), (3, vI x3), (4, vI x4)] [vI v2] g3 d4 Q
    exact mw_iret (pc' := 0) (S := []) dL_plain_234 rfl (Or.inl rfl) h1
  · exact mx_out rfl h1
theorem eL_plain_w19 {x2 x3 x4 : Int} {g : mG} {d : mD} {Q : mQ} (h : MM mX11_type [vR 0, vI (x2 % 65536)] g d (fun o g3 d4 => match o with | .inl v2 => Q (.inl v2) g3 d4 | .inr k => Q (.inr k) g3 d4)) : MM mL_plain [vR 0, vI 19, vI x2, vI x3, vI x4] g d Q := by
  refine MM_of (by decide) rfl (by simp [catV]) (Nat.le_of_ble_eq_true rfl) ?_
  show MW mL_plain 48 8234 0 [(0, vR 0), (1, vI 19), (2, vI x2), (3, vI x3), (4, vI x4)] [] g d Q
  refine mw_top (fun hT => ?_)
  have hG : 65 ≤ g.2.1 := hT.2
  refine mw_iload_n (pc' := 1) dL_plain_0 rfl rfl rfl ?_
  refine mw_tabIn (pc' := 0) (off := 239) (tgt := 240) dL_plain_1 (by decide) (by rfl) (by decide) ?_
  refine mw_aload_n (v := vR 0) (pc' := 241) dL_plain_240 rfl rfl (Or.inl rfl) rfl ?_
  refine mw_iload_n (pc' := 242) dL_plain_241 rfl rfl rfl ?_
  refine mw_i2c (pc' := 243) dL_plain_242 rfl ?_
  refine mw_callV (M' := mX11_type) (A := [vI (x2 % 65536)]) (A' := [vR 0, vI (x2 % 65536)]) (S := []) (a := 0) (pc' := 246) dL_plain_243 rfl cl_RL_85 cm_X11_type cv_X11_type ⟨by decide, by decide, (by show 1 ≤ 48; omega), (by show 6 ≤ 8234; omega), by decide⟩ rfl rfl rfl ⟨by decide, by omega⟩ (by decide +kernel) (by decide +kernel) (Nat.le_of_ble_eq_true rfl) (MM.mono ?_ h)
  intro o g3 d4 h1
  rcases o with v2 | k
  · refine mw_top (fun hT => ?_)
    have hG : 65 ≤ g3.2.1 := hT.2
    show MW mL_plain 47 8228 246 [(0, vR 0), (1, vI 19), (2, vI x2), (3, vI x3), (4, vI x4)] [vI v2] g3 d4 Q
    exact mw_iret (pc' := 0) (S := []) dL_plain_246 rfl (Or.inl rfl) h1
  · exact mx_out rfl h1
theorem eL_plain_w21 {x2 x3 x4 : Int} {g : mG} {d : mD} {Q : mQ} (h : MM mX11_undo [vR 0] g d (fun o g3 d4 => match o with | .inl v2 => Q (.inl v2) g3 d4 | .inr k => Q (.inr k) g3 d4)) : MM mL_plain [vR 0, vI 21, vI x2, vI x3, vI x4] g d Q := by
  refine MM_of (by decide) rfl (by simp [catV]) (Nat.le_of_ble_eq_true rfl) ?_
  show MW mL_plain 48 8234 0 [(0, vR 0), (1, vI 21), (2, vI x2), (3, vI x3), (4, vI x4)] [] g d Q
  refine mw_top (fun hT => ?_)
  have hG : 65 ≤ g.2.1 := hT.2
  refine mw_iload_n (pc' := 1) dL_plain_0 rfl rfl rfl ?_
  refine mw_tabOut (pc' := 0) (tgt := 252) dL_plain_1 (by decide) (by decide) ?_
  refine mw_aload_n (v := vR 0) (pc' := 253) dL_plain_252 rfl rfl (Or.inl rfl) rfl ?_
  refine mw_callV (M' := mX11_undo) (A := []) (A' := [vR 0]) (S := []) (a := 0) (pc' := 256) dL_plain_253 rfl cl_RL_92 cm_X11_undo cv_X11_undo ⟨by decide, by decide, (by show 1 ≤ 48; omega), (by show 6 ≤ 8234; omega), by decide⟩ rfl rfl rfl ⟨by decide, by omega⟩ (by decide +kernel) (by decide +kernel) (Nat.le_of_ble_eq_true rfl) (MM.mono ?_ h)
  intro o g3 d4 h1
  rcases o with v2 | k
  · refine mw_top (fun hT => ?_)
    have hG : 65 ≤ g3.2.1 := hT.2
    show MW mL_plain 47 8228 256 [(0, vR 0), (1, vI 21), (2, vI x2), (3, vI x3), (4, vI x4)] [vI v2] g3 d4 Q
    exact mw_iret (pc' := 0) (S := []) dL_plain_256 rfl (Or.inl rfl) h1
  · exact mx_out rfl h1
theorem eL_asked_w0 {x2 x3 x4 : Int} {g : mG} {d : mD} {Q : mQ} (h : MM mX11_due [vR 0, vI x2] g d (fun o g3 d4 => match o with | .inl v2 => Q (.inl v2) g3 d4 | .inr k => Q (.inr k) g3 d4)) : MM mL_asked [vR 0, vI 0, vI x2, vI x3, vI x4] g d Q := by
  refine MM_of (by decide) rfl (by simp [catV]) (Nat.le_of_ble_eq_true rfl) ?_
  show MW mL_asked 3 18 0 [(0, vR 0), (1, vI 0), (2, vI x2), (3, vI x3), (4, vI x4)] [] g d Q
  refine mw_top (fun hT => ?_)
  have hG : 65 ≤ g.2.1 := hT.2
  refine mw_iload_n (pc' := 1) dL_asked_0 rfl rfl rfl ?_
  refine mw_tabIn (pc' := 0) (off := 143) (tgt := 144) dL_asked_1 (by decide) (by rfl) (by decide) ?_
  refine mw_aload_n (v := vR 0) (pc' := 145) dL_asked_144 rfl rfl (Or.inl rfl) rfl ?_
  refine mw_iload_n (pc' := 146) dL_asked_145 rfl rfl rfl ?_
  refine mw_callV (M' := mX11_due) (A := [vI x2]) (A' := [vR 0, vI x2]) (S := []) (a := 0) (pc' := 149) dL_asked_146 rfl cl_RL_109 cm_X11_due cv_X11_due ⟨by decide, by decide, (by show 2 ≤ 3; omega), (by show 12 ≤ 18; omega), by decide⟩ rfl rfl rfl ⟨by decide, by omega⟩ (by decide +kernel) (by decide +kernel) (Nat.le_of_ble_eq_true rfl) (MM.mono ?_ h)
  intro o g3 d4 h1
  rcases o with v2 | k
  · refine mw_top (fun hT => ?_)
    have hG : 65 ≤ g3.2.1 := hT.2
    show MW mL_asked 1 6 149 [(0, vR 0), (1, vI 0), (2, vI x2), (3, vI x3), (4, vI x4)] [vI v2] g3 d4 Q
    exact mw_iret (pc' := 0) (S := []) dL_asked_149 rfl (Or.inl rfl) h1
  · exact mx_out rfl h1
theorem eL_asked_w1 {x2 x3 x4 : Int} {g : mG} {d : mD} {Q : mQ} (h : MM mX11_dueByMarking [vR 0, vI x2] g d (fun o g3 d4 => match o with | .inl v2 => Q (.inl v2) g3 d4 | .inr k => Q (.inr k) g3 d4)) : MM mL_asked [vR 0, vI 1, vI x2, vI x3, vI x4] g d Q := by
  refine MM_of (by decide) rfl (by simp [catV]) (Nat.le_of_ble_eq_true rfl) ?_
  show MW mL_asked 3 18 0 [(0, vR 0), (1, vI 1), (2, vI x2), (3, vI x3), (4, vI x4)] [] g d Q
  refine mw_top (fun hT => ?_)
  have hG : 65 ≤ g.2.1 := hT.2
  refine mw_iload_n (pc' := 1) dL_asked_0 rfl rfl rfl ?_
  refine mw_tabIn (pc' := 0) (off := 149) (tgt := 150) dL_asked_1 (by decide) (by rfl) (by decide) ?_
  refine mw_aload_n (v := vR 0) (pc' := 151) dL_asked_150 rfl rfl (Or.inl rfl) rfl ?_
  refine mw_iload_n (pc' := 152) dL_asked_151 rfl rfl rfl ?_
  refine mw_callV (M' := mX11_dueByMarking) (A := [vI x2]) (A' := [vR 0, vI x2]) (S := []) (a := 0) (pc' := 155) dL_asked_152 rfl cl_RL_112 cm_X11_dueByMarking cv_X11_dueByMarking ⟨by decide, by decide, (by show 2 ≤ 3; omega), (by show 12 ≤ 18; omega), by decide⟩ rfl rfl rfl ⟨by decide, by omega⟩ (by decide +kernel) (by decide +kernel) (Nat.le_of_ble_eq_true rfl) (MM.mono ?_ h)
  intro o g3 d4 h1
  rcases o with v2 | k
  · refine mw_top (fun hT => ?_)
    have hG : 65 ≤ g3.2.1 := hT.2
    show MW mL_asked 1 6 155 [(0, vR 0), (1, vI 1), (2, vI x2), (3, vI x3), (4, vI x4)] [vI v2] g3 d4 Q
    exact mw_iret (pc' := 0) (S := []) dL_asked_155 rfl (Or.inl rfl) h1
  · exact mx_out rfl h1
theorem eL_asked_w2 {x2 x3 x4 : Int} {g : mG} {d : mD} {Q : mQ} (h : MM mX11_daysLeft [vR 0, vI x2] g d (fun o g3 d4 => match o with | .inl v2 => Q (.inl v2) g3 d4 | .inr k => Q (.inr k) g3 d4)) : MM mL_asked [vR 0, vI 2, vI x2, vI x3, vI x4] g d Q := by
  refine MM_of (by decide) rfl (by simp [catV]) (Nat.le_of_ble_eq_true rfl) ?_
  show MW mL_asked 3 18 0 [(0, vR 0), (1, vI 2), (2, vI x2), (3, vI x3), (4, vI x4)] [] g d Q
  refine mw_top (fun hT => ?_)
  have hG : 65 ≤ g.2.1 := hT.2
  refine mw_iload_n (pc' := 1) dL_asked_0 rfl rfl rfl ?_
  refine mw_tabIn (pc' := 0) (off := 155) (tgt := 156) dL_asked_1 (by decide) (by rfl) (by decide) ?_
  refine mw_aload_n (v := vR 0) (pc' := 157) dL_asked_156 rfl rfl (Or.inl rfl) rfl ?_
  refine mw_iload_n (pc' := 158) dL_asked_157 rfl rfl rfl ?_
  refine mw_callV (M' := mX11_daysLeft) (A := [vI x2]) (A' := [vR 0, vI x2]) (S := []) (a := 0) (pc' := 161) dL_asked_158 rfl cl_RL_115 cm_X11_daysLeft cv_X11_daysLeft ⟨by decide, by decide, (by show 1 ≤ 3; omega), (by show 6 ≤ 18; omega), by decide⟩ rfl rfl rfl ⟨by decide, by omega⟩ (by decide +kernel) (by decide +kernel) (Nat.le_of_ble_eq_true rfl) (MM.mono ?_ h)
  intro o g3 d4 h1
  rcases o with v2 | k
  · refine mw_top (fun hT => ?_)
    have hG : 65 ≤ g3.2.1 := hT.2
    show MW mL_asked 2 12 161 [(0, vR 0), (1, vI 2), (2, vI x2), (3, vI x3), (4, vI x4)] [vI v2] g3 d4 Q
    exact mw_iret (pc' := 0) (S := []) dL_asked_161 rfl (Or.inl rfl) h1
  · exact mx_out rfl h1
theorem eL_asked_w3 {x2 x3 x4 : Int} {g : mG} {d : mD} {Q : mQ} (h : MM mX11_daysLeftByMarking [vR 0, vI x2] g d (fun o g3 d4 => match o with | .inl v2 => Q (.inl v2) g3 d4 | .inr k => Q (.inr k) g3 d4)) : MM mL_asked [vR 0, vI 3, vI x2, vI x3, vI x4] g d Q := by
  refine MM_of (by decide) rfl (by simp [catV]) (Nat.le_of_ble_eq_true rfl) ?_
  show MW mL_asked 3 18 0 [(0, vR 0), (1, vI 3), (2, vI x2), (3, vI x3), (4, vI x4)] [] g d Q
  refine mw_top (fun hT => ?_)
  have hG : 65 ≤ g.2.1 := hT.2
  refine mw_iload_n (pc' := 1) dL_asked_0 rfl rfl rfl ?_
  refine mw_tabIn (pc' := 0) (off := 161) (tgt := 162) dL_asked_1 (by decide) (by rfl) (by decide) ?_
  refine mw_aload_n (v := vR 0) (pc' := 163) dL_asked_162 rfl rfl (Or.inl rfl) rfl ?_
  refine mw_iload_n (pc' := 164) dL_asked_163 rfl rfl rfl ?_
  refine mw_callV (M' := mX11_daysLeftByMarking) (A := [vI x2]) (A' := [vR 0, vI x2]) (S := []) (a := 0) (pc' := 167) dL_asked_164 rfl cl_RL_118 cm_X11_daysLeftByMarking cv_X11_daysLeftByMarking ⟨by decide, by decide, (by show 1 ≤ 3; omega), (by show 6 ≤ 18; omega), by decide⟩ rfl rfl rfl ⟨by decide, by omega⟩ (by decide +kernel) (by decide +kernel) (Nat.le_of_ble_eq_true rfl) (MM.mono ?_ h)
  intro o g3 d4 h1
  rcases o with v2 | k
  · refine mw_top (fun hT => ?_)
    have hG : 65 ≤ g3.2.1 := hT.2
    show MW mL_asked 2 12 167 [(0, vR 0), (1, vI 3), (2, vI x2), (3, vI x3), (4, vI x4)] [vI v2] g3 d4 Q
    exact mw_iret (pc' := 0) (S := []) dL_asked_167 rfl (Or.inl rfl) h1
  · exact mx_out rfl h1
theorem eL_asked_w4 {x2 x3 x4 : Int} {g : mG} {d : mD} {Q : mQ} (h : MM mX11_stoppedDays [vR 0, vI x2, vI x3, vI x4] g d (fun o g3 d4 => match o with | .inl v2 => Q (.inl v2) g3 d4 | .inr k => Q (.inr k) g3 d4)) : MM mL_asked [vR 0, vI 4, vI x2, vI x3, vI x4] g d Q := by
  refine MM_of (by decide) rfl (by simp [catV]) (Nat.le_of_ble_eq_true rfl) ?_
  show MW mL_asked 3 18 0 [(0, vR 0), (1, vI 4), (2, vI x2), (3, vI x3), (4, vI x4)] [] g d Q
  refine mw_top (fun hT => ?_)
  have hG : 65 ≤ g.2.1 := hT.2
  refine mw_iload_n (pc' := 1) dL_asked_0 rfl rfl rfl ?_
  refine mw_tabIn (pc' := 0) (off := 167) (tgt := 168) dL_asked_1 (by decide) (by rfl) (by decide) ?_
  refine mw_aload_n (v := vR 0) (pc' := 169) dL_asked_168 rfl rfl (Or.inl rfl) rfl ?_
  refine mw_iload_n (pc' := 170) dL_asked_169 rfl rfl rfl ?_
  refine mw_iload_n (pc' := 171) dL_asked_170 rfl rfl rfl ?_
  refine mw_iload (pc' := 173) dL_asked_171 rfl rfl ?_
  refine mw_callV (M' := mX11_stoppedDays) (A := [vI x2, vI x3, vI x4]) (A' := [vR 0, vI x2, vI x3, vI x4]) (S := []) (a := 0) (pc' := 176) dL_asked_173 rfl cl_RL_121 cm_X11_stoppedDays cv_X11_stoppedDays ⟨by decide, by decide, (by show 2 ≤ 3; omega), (by show 12 ≤ 18; omega), by decide⟩ rfl rfl rfl ⟨by decide, by omega⟩ (by decide +kernel) (by decide +kernel) (Nat.le_of_ble_eq_true rfl) (MM.mono ?_ h)
  intro o g3 d4 h1
  rcases o with v2 | k
  · refine mw_top (fun hT => ?_)
    have hG : 65 ≤ g3.2.1 := hT.2
    show MW mL_asked 1 6 176 [(0, vR 0), (1, vI 4), (2, vI x2), (3, vI x3), (4, vI x4)] [vI v2] g3 d4 Q
    exact mw_iret (pc' := 0) (S := []) dL_asked_176 rfl (Or.inl rfl) h1
  · exact mx_out rfl h1
theorem eL_asked_w5 {x2 x3 x4 : Int} {g : mG} {d : mD} {Q : mQ} (h : MM mX11_stoppedDaysByMarking [vR 0, vI x2, vI x3, vI x4] g d (fun o g3 d4 => match o with | .inl v2 => Q (.inl v2) g3 d4 | .inr k => Q (.inr k) g3 d4)) : MM mL_asked [vR 0, vI 5, vI x2, vI x3, vI x4] g d Q := by
  refine MM_of (by decide) rfl (by simp [catV]) (Nat.le_of_ble_eq_true rfl) ?_
  show MW mL_asked 3 18 0 [(0, vR 0), (1, vI 5), (2, vI x2), (3, vI x3), (4, vI x4)] [] g d Q
  refine mw_top (fun hT => ?_)
  have hG : 65 ≤ g.2.1 := hT.2
  refine mw_iload_n (pc' := 1) dL_asked_0 rfl rfl rfl ?_
  refine mw_tabIn (pc' := 0) (off := 176) (tgt := 177) dL_asked_1 (by decide) (by rfl) (by decide) ?_
  refine mw_aload_n (v := vR 0) (pc' := 178) dL_asked_177 rfl rfl (Or.inl rfl) rfl ?_
  refine mw_iload_n (pc' := 179) dL_asked_178 rfl rfl rfl ?_
  refine mw_iload_n (pc' := 180) dL_asked_179 rfl rfl rfl ?_
  refine mw_iload (pc' := 182) dL_asked_180 rfl rfl ?_
  refine mw_callV (M' := mX11_stoppedDaysByMarking) (A := [vI x2, vI x3, vI x4]) (A' := [vR 0, vI x2, vI x3, vI x4]) (S := []) (a := 0) (pc' := 185) dL_asked_182 rfl cl_RL_125 cm_X11_stoppedDaysByMarking cv_X11_stoppedDaysByMarking ⟨by decide, by decide, (by show 2 ≤ 3; omega), (by show 12 ≤ 18; omega), by decide⟩ rfl rfl rfl ⟨by decide, by omega⟩ (by decide +kernel) (by decide +kernel) (Nat.le_of_ble_eq_true rfl) (MM.mono ?_ h)
  intro o g3 d4 h1
  rcases o with v2 | k
  · refine mw_top (fun hT => ?_)
    have hG : 65 ≤ g3.2.1 := hT.2
    show MW mL_asked 1 6 185 [(0, vR 0), (1, vI 5), (2, vI x2), (3, vI x3), (4, vI x4)] [vI v2] g3 d4 Q
    exact mw_iret (pc' := 0) (S := []) dL_asked_185 rfl (Or.inl rfl) h1
  · exact mx_out rfl h1
theorem eL_asked_w6 {x2 x3 x4 : Int} {g : mG} {d : mD} {Q : mQ} (h : MM mX11_courtDays [vR 0, vI x2, vI x3] g d (fun o g3 d4 => match o with | .inl v2 => Q (.inl v2) g3 d4 | .inr k => Q (.inr k) g3 d4)) : MM mL_asked [vR 0, vI 6, vI x2, vI x3, vI x4] g d Q := by
  refine MM_of (by decide) rfl (by simp [catV]) (Nat.le_of_ble_eq_true rfl) ?_
  show MW mL_asked 3 18 0 [(0, vR 0), (1, vI 6), (2, vI x2), (3, vI x3), (4, vI x4)] [] g d Q
  refine mw_top (fun hT => ?_)
  have hG : 65 ≤ g.2.1 := hT.2
  refine mw_iload_n (pc' := 1) dL_asked_0 rfl rfl rfl ?_
  refine mw_tabIn (pc' := 0) (off := 185) (tgt := 186) dL_asked_1 (by decide) (by rfl) (by decide) ?_
  refine mw_aload_n (v := vR 0) (pc' := 187) dL_asked_186 rfl rfl (Or.inl rfl) rfl ?_
  refine mw_iload_n (pc' := 188) dL_asked_187 rfl rfl rfl ?_
  refine mw_iload_n (pc' := 189) dL_asked_188 rfl rfl rfl ?_
  refine mw_callV (M' := mX11_courtDays) (A := [vI x2, vI x3]) (A' := [vR 0, vI x2, vI x3]) (S := []) (a := 0) (pc' := 192) dL_asked_189 rfl cl_RL_128 cm_X11_courtDays cv_X11_courtDays ⟨by decide, by decide, (by show 1 ≤ 3; omega), (by show 6 ≤ 18; omega), by decide⟩ rfl rfl rfl ⟨by decide, by omega⟩ (by decide +kernel) (by decide +kernel) (Nat.le_of_ble_eq_true rfl) (MM.mono ?_ h)
  intro o g3 d4 h1
  rcases o with v2 | k
  · refine mw_top (fun hT => ?_)
    have hG : 65 ≤ g3.2.1 := hT.2
    show MW mL_asked 2 12 192 [(0, vR 0), (1, vI 6), (2, vI x2), (3, vI x3), (4, vI x4)] [vI v2] g3 d4 Q
    exact mw_iret (pc' := 0) (S := []) dL_asked_192 rfl (Or.inl rfl) h1
  · exact mx_out rfl h1
theorem eL_asked_w7 {x2 x3 x4 : Int} {g : mG} {d : mD} {Q : mQ} (h : MM mX11_courtDaysByMarking [vR 0, vI x2, vI x3] g d (fun o g3 d4 => match o with | .inl v2 => Q (.inl v2) g3 d4 | .inr k => Q (.inr k) g3 d4)) : MM mL_asked [vR 0, vI 7, vI x2, vI x3, vI x4] g d Q := by
  refine MM_of (by decide) rfl (by simp [catV]) (Nat.le_of_ble_eq_true rfl) ?_
  show MW mL_asked 3 18 0 [(0, vR 0), (1, vI 7), (2, vI x2), (3, vI x3), (4, vI x4)] [] g d Q
  refine mw_top (fun hT => ?_)
  have hG : 65 ≤ g.2.1 := hT.2
  refine mw_iload_n (pc' := 1) dL_asked_0 rfl rfl rfl ?_
  refine mw_tabIn (pc' := 0) (off := 192) (tgt := 193) dL_asked_1 (by decide) (by rfl) (by decide) ?_
  refine mw_aload_n (v := vR 0) (pc' := 194) dL_asked_193 rfl rfl (Or.inl rfl) rfl ?_
  refine mw_iload_n (pc' := 195) dL_asked_194 rfl rfl rfl ?_
  refine mw_iload_n (pc' := 196) dL_asked_195 rfl rfl rfl ?_
  refine mw_callV (M' := mX11_courtDaysByMarking) (A := [vI x2, vI x3]) (A' := [vR 0, vI x2, vI x3]) (S := []) (a := 0) (pc' := 199) dL_asked_196 rfl cl_RL_131 cm_X11_courtDaysByMarking cv_X11_courtDaysByMarking ⟨by decide, by decide, (by show 1 ≤ 3; omega), (by show 6 ≤ 18; omega), by decide⟩ rfl rfl rfl ⟨by decide, by omega⟩ (by decide +kernel) (by decide +kernel) (Nat.le_of_ble_eq_true rfl) (MM.mono ?_ h)
  intro o g3 d4 h1
  rcases o with v2 | k
  · refine mw_top (fun hT => ?_)
    have hG : 65 ≤ g3.2.1 := hT.2
    show MW mL_asked 2 12 199 [(0, vR 0), (1, vI 7), (2, vI x2), (3, vI x3), (4, vI x4)] [vI v2] g3 d4 Q
    exact mw_iret (pc' := 0) (S := []) dL_asked_199 rfl (Or.inl rfl) h1
  · exact mx_out rfl h1
theorem eL_asked_w8 {x2 x3 x4 : Int} {g : mG} {d : mD} {Q : mQ} (h : MM mX11_lastDayBefore [vR 0, vI x2, vI x3] g d (fun o g3 d4 => match o with | .inl v2 => Q (.inl v2) g3 d4 | .inr k => Q (.inr k) g3 d4)) : MM mL_asked [vR 0, vI 8, vI x2, vI x3, vI x4] g d Q := by
  refine MM_of (by decide) rfl (by simp [catV]) (Nat.le_of_ble_eq_true rfl) ?_
  show MW mL_asked 3 18 0 [(0, vR 0), (1, vI 8), (2, vI x2), (3, vI x3), (4, vI x4)] [] g d Q
  refine mw_top (fun hT => ?_)
  have hG : 65 ≤ g.2.1 := hT.2
  refine mw_iload_n (pc' := 1) dL_asked_0 rfl rfl rfl ?_
  refine mw_tabIn (pc' := 0) (off := 199) (tgt := 200) dL_asked_1 (by decide) (by rfl) (by decide) ?_
  refine mw_aload_n (v := vR 0) (pc' := 201) dL_asked_200 rfl rfl (Or.inl rfl) rfl ?_
  refine mw_iload_n (pc' := 202) dL_asked_201 rfl rfl rfl ?_
  refine mw_iload_n (pc' := 203) dL_asked_202 rfl rfl rfl ?_
  refine mw_callV (M' := mX11_lastDayBefore) (A := [vI x2, vI x3]) (A' := [vR 0, vI x2, vI x3]) (S := []) (a := 0) (pc' := 206) dL_asked_203 rfl cl_RL_134 cm_X11_lastDayBefore cv_X11_lastDayBefore ⟨by decide, by decide, (by show 3 ≤ 3; omega), (by show 18 ≤ 18; omega), by decide⟩ rfl rfl rfl ⟨by decide, by omega⟩ (by decide +kernel) (by decide +kernel) (Nat.le_of_ble_eq_true rfl) (MM.mono ?_ h)
  intro o g3 d4 h1
  rcases o with v2 | k
  · refine mw_top (fun hT => ?_)
    have hG : 65 ≤ g3.2.1 := hT.2
    show MW mL_asked 0 0 206 [(0, vR 0), (1, vI 8), (2, vI x2), (3, vI x3), (4, vI x4)] [vI v2] g3 d4 Q
    exact mw_iret (pc' := 0) (S := []) dL_asked_206 rfl (Or.inl rfl) h1
  · exact mx_out rfl h1
theorem eL_asked_w9 {x2 x3 x4 : Int} {g : mG} {d : mD} {Q : mQ} (h : MM mX11_lastDayBeforeByMarking [vR 0, vI x2, vI x3] g d (fun o g3 d4 => match o with | .inl v2 => Q (.inl v2) g3 d4 | .inr k => Q (.inr k) g3 d4)) : MM mL_asked [vR 0, vI 9, vI x2, vI x3, vI x4] g d Q := by
  refine MM_of (by decide) rfl (by simp [catV]) (Nat.le_of_ble_eq_true rfl) ?_
  show MW mL_asked 3 18 0 [(0, vR 0), (1, vI 9), (2, vI x2), (3, vI x3), (4, vI x4)] [] g d Q
  refine mw_top (fun hT => ?_)
  have hG : 65 ≤ g.2.1 := hT.2
  refine mw_iload_n (pc' := 1) dL_asked_0 rfl rfl rfl ?_
  refine mw_tabIn (pc' := 0) (off := 206) (tgt := 207) dL_asked_1 (by decide) (by rfl) (by decide) ?_
  refine mw_aload_n (v := vR 0) (pc' := 208) dL_asked_207 rfl rfl (Or.inl rfl) rfl ?_
  refine mw_iload_n (pc' := 209) dL_asked_208 rfl rfl rfl ?_
  refine mw_iload_n (pc' := 210) dL_asked_209 rfl rfl rfl ?_
  refine mw_callV (M' := mX11_lastDayBeforeByMarking) (A := [vI x2, vI x3]) (A' := [vR 0, vI x2, vI x3]) (S := []) (a := 0) (pc' := 213) dL_asked_210 rfl cl_RL_137 cm_X11_lastDayBeforeByMarking cv_X11_lastDayBeforeByMarking ⟨by decide, by decide, (by show 3 ≤ 3; omega), (by show 18 ≤ 18; omega), by decide⟩ rfl rfl rfl ⟨by decide, by omega⟩ (by decide +kernel) (by decide +kernel) (Nat.le_of_ble_eq_true rfl) (MM.mono ?_ h)
  intro o g3 d4 h1
  rcases o with v2 | k
  · refine mw_top (fun hT => ?_)
    have hG : 65 ≤ g3.2.1 := hT.2
    show MW mL_asked 0 0 213 [(0, vR 0), (1, vI 9), (2, vI x2), (3, vI x3), (4, vI x4)] [vI v2] g3 d4 Q
    exact mw_iret (pc' := 0) (S := []) dL_asked_213 rfl (Or.inl rfl) h1
  · exact mx_out rfl h1
theorem eL_asked_w10 {x2 x3 x4 : Int} {g : mG} {d : mD} {Q : mQ} (h : MM mX11_isStopped [vR 0, vI x2, vI x3] g d (fun o g3 d4 => match o with | .inl v2 => Q (.inl (bI (¬ (v2 = 0)))) g3 d4 | .inr k => Q (.inr k) g3 d4)) : MM mL_asked [vR 0, vI 10, vI x2, vI x3, vI x4] g d Q := by
  refine MM_of (by decide) rfl (by simp [catV]) (Nat.le_of_ble_eq_true rfl) ?_
  show MW mL_asked 3 18 0 [(0, vR 0), (1, vI 10), (2, vI x2), (3, vI x3), (4, vI x4)] [] g d Q
  refine mw_top (fun hT => ?_)
  have hG : 65 ≤ g.2.1 := hT.2
  refine mw_iload_n (pc' := 1) dL_asked_0 rfl rfl rfl ?_
  refine mw_tabIn (pc' := 0) (off := 213) (tgt := 214) dL_asked_1 (by decide) (by rfl) (by decide) ?_
  refine mw_aload_n (v := vR 0) (pc' := 215) dL_asked_214 rfl rfl (Or.inl rfl) rfl ?_
  refine mw_iload_n (pc' := 216) dL_asked_215 rfl rfl rfl ?_
  refine mw_iload_n (pc' := 217) dL_asked_216 rfl rfl rfl ?_
  refine mw_callV (M' := mX11_isStopped) (A := [vI x2, vI x3]) (A' := [vR 0, vI x2, vI x3]) (S := []) (a := 0) (pc' := 220) dL_asked_217 rfl cl_RL_140 cm_X11_isStopped cv_X11_isStopped ⟨by decide, by decide, (by show 2 ≤ 3; omega), (by show 12 ≤ 18; omega), by decide⟩ rfl rfl rfl ⟨by decide, by omega⟩ (by decide +kernel) (by decide +kernel) (Nat.le_of_ble_eq_true rfl) (MM.mono ?_ h)
  intro o g3 d4 h1
  rcases o with v2 | k
  · refine mw_top (fun hT => ?_)
    have hG : 65 ≤ g3.2.1 := hT.2
    show MW mL_asked 1 6 220 [(0, vR 0), (1, vI 10), (2, vI x2), (3, vI x3), (4, vI x4)] [vI v2] g3 d4 Q
    refine mw_callS (M' := mL_told) (A := [vI v2]) (S := []) (pc' := 223) dL_asked_220 rfl cl_RL_50 cm_L_told cs_L_told ⟨by decide, by decide, (by show 0 ≤ 1; omega), (by show 0 ≤ 6; omega), by decide⟩ rfl rfl (Nat.le_of_ble_eq_true rfl) (eL_told ?_)
    show MW mL_asked 1 6 223 [(0, vR 0), (1, vI 10), (2, vI x2), (3, vI x3), (4, vI x4)] [vI (bI (¬ (v2 = 0)))] g3 d4 Q
    exact mw_iret (pc' := 0) (S := []) dL_asked_223 rfl (Or.inl rfl) h1
  · exact mx_out rfl h1
theorem eL_asked_w11 {x2 x3 x4 : Int} {g : mG} {d : mD} {Q : mQ} (h : MM mX11_isCourtDay [vR 0, vI x2] g d (fun o g3 d4 => match o with | .inl v2 => Q (.inl (bI (¬ (v2 = 0)))) g3 d4 | .inr k => Q (.inr k) g3 d4)) : MM mL_asked [vR 0, vI 11, vI x2, vI x3, vI x4] g d Q := by
  refine MM_of (by decide) rfl (by simp [catV]) (Nat.le_of_ble_eq_true rfl) ?_
  show MW mL_asked 3 18 0 [(0, vR 0), (1, vI 11), (2, vI x2), (3, vI x3), (4, vI x4)] [] g d Q
  refine mw_top (fun hT => ?_)
  have hG : 65 ≤ g.2.1 := hT.2
  refine mw_iload_n (pc' := 1) dL_asked_0 rfl rfl rfl ?_
  refine mw_tabIn (pc' := 0) (off := 223) (tgt := 224) dL_asked_1 (by decide) (by rfl) (by decide) ?_
  refine mw_aload_n (v := vR 0) (pc' := 225) dL_asked_224 rfl rfl (Or.inl rfl) rfl ?_
  refine mw_iload_n (pc' := 226) dL_asked_225 rfl rfl rfl ?_
  refine mw_callV (M' := mX11_isCourtDay) (A := [vI x2]) (A' := [vR 0, vI x2]) (S := []) (a := 0) (pc' := 229) dL_asked_226 rfl cl_RL_144 cm_X11_isCourtDay cv_X11_isCourtDay ⟨by decide, by decide, (by show 1 ≤ 3; omega), (by show 6 ≤ 18; omega), by decide⟩ rfl rfl rfl ⟨by decide, by omega⟩ (by decide +kernel) (by decide +kernel) (Nat.le_of_ble_eq_true rfl) (MM.mono ?_ h)
  intro o g3 d4 h1
  rcases o with v2 | k
  · refine mw_top (fun hT => ?_)
    have hG : 65 ≤ g3.2.1 := hT.2
    show MW mL_asked 2 12 229 [(0, vR 0), (1, vI 11), (2, vI x2), (3, vI x3), (4, vI x4)] [vI v2] g3 d4 Q
    refine mw_callS (M' := mL_told) (A := [vI v2]) (S := []) (pc' := 232) dL_asked_229 rfl cl_RL_50 cm_L_told cs_L_told ⟨by decide, by decide, (by show 0 ≤ 2; omega), (by show 0 ≤ 12; omega), by decide⟩ rfl rfl (Nat.le_of_ble_eq_true rfl) (eL_told ?_)
    show MW mL_asked 2 12 232 [(0, vR 0), (1, vI 11), (2, vI x2), (3, vI x3), (4, vI x4)] [vI (bI (¬ (v2 = 0)))] g3 d4 Q
    exact mw_iret (pc' := 0) (S := []) dL_asked_232 rfl (Or.inl rfl) h1
  · exact mx_out rfl h1
theorem eL_asked_w12 {x2 x3 x4 : Int} {g : mG} {d : mD} {Q : mQ} (h : MM mX11_openAt [vR 0, vI x2] g d (fun o g3 d4 => match o with | .inl v2 => Q (.inl v2) g3 d4 | .inr k => Q (.inr k) g3 d4)) : MM mL_asked [vR 0, vI 12, vI x2, vI x3, vI x4] g d Q := by
  refine MM_of (by decide) rfl (by simp [catV]) (Nat.le_of_ble_eq_true rfl) ?_
  show MW mL_asked 3 18 0 [(0, vR 0), (1, vI 12), (2, vI x2), (3, vI x3), (4, vI x4)] [] g d Q
  refine mw_top (fun hT => ?_)
  have hG : 65 ≤ g.2.1 := hT.2
  refine mw_iload_n (pc' := 1) dL_asked_0 rfl rfl rfl ?_
  refine mw_tabIn (pc' := 0) (off := 232) (tgt := 233) dL_asked_1 (by decide) (by rfl) (by decide) ?_
  refine mw_aload_n (v := vR 0) (pc' := 234) dL_asked_233 rfl rfl (Or.inl rfl) rfl ?_
  refine mw_iload_n (pc' := 235) dL_asked_234 rfl rfl rfl ?_
  refine mw_callV (M' := mX11_openAt) (A := [vI x2]) (A' := [vR 0, vI x2]) (S := []) (a := 0) (pc' := 238) dL_asked_235 rfl cl_RL_147 cm_X11_openAt cv_X11_openAt ⟨by decide, by decide, (by show 1 ≤ 3; omega), (by show 6 ≤ 18; omega), by decide⟩ rfl rfl rfl ⟨by decide, by omega⟩ (by decide +kernel) (by decide +kernel) (Nat.le_of_ble_eq_true rfl) (MM.mono ?_ h)
  intro o g3 d4 h1
  rcases o with v2 | k
  · refine mw_top (fun hT => ?_)
    have hG : 65 ≤ g3.2.1 := hT.2
    show MW mL_asked 2 12 238 [(0, vR 0), (1, vI 12), (2, vI x2), (3, vI x3), (4, vI x4)] [vI v2] g3 d4 Q
    exact mw_iret (pc' := 0) (S := []) dL_asked_238 rfl (Or.inl rfl) h1
  · exact mx_out rfl h1
theorem eL_asked_w17 {x2 x3 x4 : Int} {g : mG} {d : mD} {Q : mQ} (h : MM mX11_sameConduct [vR 0, vI x2, vI x3] g d (fun o g3 d4 => match o with | .inl v2 => Q (.inl (bI (¬ (v2 = 0)))) g3 d4 | .inr k => Q (.inr k) g3 d4)) : MM mL_asked [vR 0, vI 17, vI x2, vI x3, vI x4] g d Q := by
  refine MM_of (by decide) rfl (by simp [catV]) (Nat.le_of_ble_eq_true rfl) ?_
  show MW mL_asked 3 18 0 [(0, vR 0), (1, vI 17), (2, vI x2), (3, vI x3), (4, vI x4)] [] g d Q
  refine mw_top (fun hT => ?_)
  have hG : 65 ≤ g.2.1 := hT.2
  refine mw_iload_n (pc' := 1) dL_asked_0 rfl rfl rfl ?_
  refine mw_tabIn (pc' := 0) (off := 264) (tgt := 265) dL_asked_1 (by decide) (by rfl) (by decide) ?_
  refine mw_aload_n (v := vR 0) (pc' := 266) dL_asked_265 rfl rfl (Or.inl rfl) rfl ?_
  refine mw_iload_n (pc' := 267) dL_asked_266 rfl rfl rfl ?_
  refine mw_iload_n (pc' := 268) dL_asked_267 rfl rfl rfl ?_
  refine mw_callV (M' := mX11_sameConduct) (A := [vI x2, vI x3]) (A' := [vR 0, vI x2, vI x3]) (S := []) (a := 0) (pc' := 271) dL_asked_268 rfl cl_RL_162 cm_X11_sameConduct cv_X11_sameConduct ⟨by decide, by decide, (by show 2 ≤ 3; omega), (by show 12 ≤ 18; omega), by decide⟩ rfl rfl rfl ⟨by decide, by omega⟩ (by decide +kernel) (by decide +kernel) (Nat.le_of_ble_eq_true rfl) (MM.mono ?_ h)
  intro o g3 d4 h1
  rcases o with v2 | k
  · refine mw_top (fun hT => ?_)
    have hG : 65 ≤ g3.2.1 := hT.2
    show MW mL_asked 1 6 271 [(0, vR 0), (1, vI 17), (2, vI x2), (3, vI x3), (4, vI x4)] [vI v2] g3 d4 Q
    refine mw_callS (M' := mL_told) (A := [vI v2]) (S := []) (pc' := 274) dL_asked_271 rfl cl_RL_50 cm_L_told cs_L_told ⟨by decide, by decide, (by show 0 ≤ 1; omega), (by show 0 ≤ 6; omega), by decide⟩ rfl rfl (Nat.le_of_ble_eq_true rfl) (eL_told ?_)
    show MW mL_asked 1 6 274 [(0, vR 0), (1, vI 17), (2, vI x2), (3, vI x3), (4, vI x4)] [vI (bI (¬ (v2 = 0)))] g3 d4 Q
    exact mw_iret (pc' := 0) (S := []) dL_asked_274 rfl (Or.inl rfl) h1
  · exact mx_out rfl h1
theorem eL_asked_w18 {x2 x3 x4 : Int} {g : mG} {d : mD} {Q : mQ} (h : MM mX11_sameConductBySearch [vR 0, vI x2, vI x3] g d (fun o g3 d4 => match o with | .inl v2 => Q (.inl (bI (¬ (v2 = 0)))) g3 d4 | .inr k => Q (.inr k) g3 d4)) : MM mL_asked [vR 0, vI 18, vI x2, vI x3, vI x4] g d Q := by
  refine MM_of (by decide) rfl (by simp [catV]) (Nat.le_of_ble_eq_true rfl) ?_
  show MW mL_asked 3 18 0 [(0, vR 0), (1, vI 18), (2, vI x2), (3, vI x3), (4, vI x4)] [] g d Q
  refine mw_top (fun hT => ?_)
  have hG : 65 ≤ g.2.1 := hT.2
  refine mw_iload_n (pc' := 1) dL_asked_0 rfl rfl rfl ?_
  refine mw_tabIn (pc' := 0) (off := 274) (tgt := 275) dL_asked_1 (by decide) (by rfl) (by decide) ?_
  refine mw_aload_n (v := vR 0) (pc' := 276) dL_asked_275 rfl rfl (Or.inl rfl) rfl ?_
  refine mw_iload_n (pc' := 277) dL_asked_276 rfl rfl rfl ?_
  refine mw_iload_n (pc' := 278) dL_asked_277 rfl rfl rfl ?_
  refine mw_callV (M' := mX11_sameConductBySearch) (A := [vI x2, vI x3]) (A' := [vR 0, vI x2, vI x3]) (S := []) (a := 0) (pc' := 281) dL_asked_278 rfl cl_RL_165 cm_X11_sameConductBySearch cv_X11_sameConductBySearch ⟨by decide, by decide, (by show 2 ≤ 3; omega), (by show 12 ≤ 18; omega), by decide⟩ rfl rfl rfl ⟨by decide, by omega⟩ (by decide +kernel) (by decide +kernel) (Nat.le_of_ble_eq_true rfl) (MM.mono ?_ h)
  intro o g3 d4 h1
  rcases o with v2 | k
  · refine mw_top (fun hT => ?_)
    have hG : 65 ≤ g3.2.1 := hT.2
    show MW mL_asked 1 6 281 [(0, vR 0), (1, vI 18), (2, vI x2), (3, vI x3), (4, vI x4)] [vI v2] g3 d4 Q
    refine mw_callS (M' := mL_told) (A := [vI v2]) (S := []) (pc' := 284) dL_asked_281 rfl cl_RL_50 cm_L_told cs_L_told ⟨by decide, by decide, (by show 0 ≤ 1; omega), (by show 0 ≤ 6; omega), by decide⟩ rfl rfl (Nat.le_of_ble_eq_true rfl) (eL_told ?_)
    show MW mL_asked 1 6 284 [(0, vR 0), (1, vI 18), (2, vI x2), (3, vI x3), (4, vI x4)] [vI (bI (¬ (v2 = 0)))] g3 d4 Q
    exact mw_iret (pc' := 0) (S := []) dL_asked_284 rfl (Or.inl rfl) h1
  · exact mx_out rfl h1
theorem eL_asked_w21 {x2 x3 x4 : Int} {g : mG} {d : mD} {Q : mQ} (h : MM mX11_status [vR 0, vI x2] g d (fun o g3 d4 => match o with | .inl v2 => Q (.inl v2) g3 d4 | .inr k => Q (.inr k) g3 d4)) : MM mL_asked [vR 0, vI 21, vI x2, vI x3, vI x4] g d Q := by
  refine MM_of (by decide) rfl (by simp [catV]) (Nat.le_of_ble_eq_true rfl) ?_
  show MW mL_asked 3 18 0 [(0, vR 0), (1, vI 21), (2, vI x2), (3, vI x3), (4, vI x4)] [] g d Q
  refine mw_top (fun hT => ?_)
  have hG : 65 ≤ g.2.1 := hT.2
  refine mw_iload_n (pc' := 1) dL_asked_0 rfl rfl rfl ?_
  refine mw_tabIn (pc' := 0) (off := 296) (tgt := 297) dL_asked_1 (by decide) (by rfl) (by decide) ?_
  refine mw_aload_n (v := vR 0) (pc' := 298) dL_asked_297 rfl rfl (Or.inl rfl) rfl ?_
  refine mw_iload_n (pc' := 299) dL_asked_298 rfl rfl rfl ?_
  refine mw_callV (M' := mX11_status) (A := [vI x2]) (A' := [vR 0, vI x2]) (S := []) (a := 0) (pc' := 302) dL_asked_299 rfl cl_RL_175 cm_X11_status cv_X11_status ⟨by decide, by decide, (by show 1 ≤ 3; omega), (by show 6 ≤ 18; omega), by decide⟩ rfl rfl rfl ⟨by decide, by omega⟩ (by decide +kernel) (by decide +kernel) (Nat.le_of_ble_eq_true rfl) (MM.mono ?_ h)
  intro o g3 d4 h1
  rcases o with v2 | k
  · refine mw_top (fun hT => ?_)
    have hG : 65 ≤ g3.2.1 := hT.2
    show MW mL_asked 2 12 302 [(0, vR 0), (1, vI 21), (2, vI x2), (3, vI x3), (4, vI x4)] [vI v2] g3 d4 Q
    exact mw_iret (pc' := 0) (S := []) dL_asked_302 rfl (Or.inl rfl) h1
  · exact mx_out rfl h1
