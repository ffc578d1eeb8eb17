theorem eX11_advance_o {x1 : Int} {g : mG} {d : mD} {Q : mQ} (h : MM mX11_setAside [vR 0] g d (fun o g3 d4 => match o with | .inl v2 => MM mX11_tryAdvance [vR 0, vI x1] g3 d4 (fun o g7 d8 => match o with | .inl v6 => MM mX11_settle [vR 0, vI v6] g7 d8 (fun o g11 d12 => match o with | .inl v10 => Q (.inl v10) g11 d12 | .inr k => Q (.inr k) g11 d12) | .inr k => Q (.inr k) g7 d8) | .inr k => Q (.inr k) g3 d4)) : MM mX11_advance [vR 0, vI x1] g d Q := by
  refine MM_of (by decide) rfl (by simp [catV]) (Nat.le_of_ble_eq_true rfl) ?_
  show MW mX11_advance 47 8228 0 [(0, vR 0), (1, vI x1)] [] g d Q
  refine mw_top (fun hT => ?_)
  have hG : 65 ≤ g.2.1 := hT.2
  refine mw_aload_n (v := vR 0) (pc' := 1) dX11_advance_0 rfl rfl (Or.inl rfl) rfl ?_
  refine mw_callV (M' := mX11_setAside) (A := []) (A' := [vR 0]) (S := []) (a := 0) (pc' := 4) dX11_advance_1 rfl cl_RX11_89 cm_X11_setAside cv_X11_setAside ⟨by decide, by decide, by decide, by decide, by decide⟩ rfl rfl rfl ⟨by decide, by omega⟩ (by decide +kernel) (by decide +kernel) (Nat.le_of_ble_eq_true rfl) (MM.mono ?_ h)
  intro o g3 d4 h1
  rcases o with v2 | k
  · refine mw_top (fun hT => ?_)
    have hG : 65 ≤ g3.2.1 := hT.2
    show MW mX11_advance 1 6 4 [(0, vR 0), (1, vI x1)] [] g3 d4 Q
    refine mw_aload_n (v := vR 0) (pc' := 5) dX11_advance_4 rfl rfl (Or.inl rfl) rfl ?_
    refine mw_aload_n (v := vR 0) (pc' := 6) dX11_advance_5 rfl rfl (Or.inl rfl) rfl ?_
    refine mw_iload_n (pc' := 7) dX11_advance_6 rfl rfl rfl ?_
    refine mw_callV (M' := mX11_tryAdvance) (A := [vI x1]) (A' := [vR 0, vI x1]) (S := [vR 0]) (a := 0) (pc' := 10) dX11_advance_7 rfl cl_RX11_157 cm_X11_tryAdvance cv_X11_tryAdvance ⟨by decide, by decide, by decide, by decide, by decide⟩ rfl rfl rfl ⟨by decide, by omega⟩ (by decide +kernel) (by decide +kernel) (Nat.le_of_ble_eq_true rfl) (MM.mono ?_ h1)
    intro o g7 d8 h5
    rcases o with v6 | k
    · refine mw_top (fun hT => ?_)
      have hG : 65 ≤ g7.2.1 := hT.2
      show MW mX11_advance 1 6 10 [(0, vR 0), (1, vI x1)] [vI v6, vR 0] g7 d8 Q
      refine mw_callV (M' := mX11_settle) (A := [vI v6]) (A' := [vR 0, vI v6]) (S := []) (a := 0) (pc' := 13) dX11_advance_10 rfl cl_RX11_96 cm_X11_settle cv_X11_settle ⟨by decide, by decide, by decide, by decide, by decide⟩ rfl rfl rfl ⟨by decide, by omega⟩ (by decide +kernel) (by decide +kernel) (Nat.le_of_ble_eq_true rfl) (MM.mono ?_ h5)
      intro o g11 d12 h9
      rcases o with v10 | k
      · refine mw_top (fun hT => ?_)
        have hG : 65 ≤ g11.2.1 := hT.2
        show MW mX11_advance 0 0 13 [(0, vR 0), (1, vI x1)] [vI v10] g11 d12 Q
        exact mw_iret (pc' := 0) (S := []) dX11_advance_13 rfl (Or.inl rfl) h9
      · exact mx_out rfl h9
    · exact mx_out rfl h5
  · exact mx_out rfl h1
theorem eX11_setRule_o {x1 x2 x3 : Int} {g : mG} {d : mD} {Q : mQ} (h : MM mX11_setAside [vR 0] g d (fun o g3 d4 => match o with | .inl v2 => MM mX11_trySetRule [vR 0, vI x1, vI x2, vI x3] g3 d4 (fun o g7 d8 => match o with | .inl v6 => MM mX11_settle [vR 0, vI v6] g7 d8 (fun o g11 d12 => match o with | .inl v10 => Q (.inl v10) g11 d12 | .inr k => Q (.inr k) g11 d12) | .inr k => Q (.inr k) g7 d8) | .inr k => Q (.inr k) g3 d4)) : MM mX11_setRule [vR 0, vI x1, vI x2, vI x3] g d Q := by
  refine MM_of (by decide) rfl (by simp [catV]) (Nat.le_of_ble_eq_true rfl) ?_
  show MW mX11_setRule 47 8228 0 [(0, vR 0), (1, vI x1), (2, vI x2), (3, vI x3)] [] g d Q
  refine mw_top (fun hT => ?_)
  have hG : 65 ≤ g.2.1 := hT.2
  refine mw_aload_n (v := vR 0) (pc' := 1) dX11_setRule_0 rfl rfl (Or.inl rfl) rfl ?_
  refine mw_callV (M' := mX11_setAside) (A := []) (A' := [vR 0]) (S := []) (a := 0) (pc' := 4) dX11_setRule_1 rfl cl_RX11_89 cm_X11_setAside cv_X11_setAside ⟨by decide, by decide, by decide, by decide, by decide⟩ rfl rfl rfl ⟨by decide, by omega⟩ (by decide +kernel) (by decide +kernel) (Nat.le_of_ble_eq_true rfl) (MM.mono ?_ h)
  intro o g3 d4 h1
  rcases o with v2 | k
  · refine mw_top (fun hT => ?_)
    have hG : 65 ≤ g3.2.1 := hT.2
    show MW mX11_setRule 1 6 4 [(0, vR 0), (1, vI x1), (2, vI x2), (3, vI x3)] [] g3 d4 Q
    refine mw_aload_n (v := vR 0) (pc' := 5) dX11_setRule_4 rfl rfl (Or.inl rfl) rfl ?_
    refine mw_aload_n (v := vR 0) (pc' := 6) dX11_setRule_5 rfl rfl (Or.inl rfl) rfl ?_
    refine mw_iload_n (pc' := 7) dX11_setRule_6 rfl rfl rfl ?_
    refine mw_iload_n (pc' := 8) dX11_setRule_7 rfl rfl rfl ?_
    refine mw_iload_n (pc' := 9) dX11_setRule_8 rfl rfl rfl ?_
    refine mw_callV (M' := mX11_trySetRule) (A := [vI x1, vI x2, vI x3]) (A' := [vR 0, vI x1, vI x2, vI x3]) (S := [vR 0]) (a := 0) (pc' := 12) dX11_setRule_9 rfl cl_RX11_203 cm_X11_trySetRule cv_X11_trySetRule ⟨by decide, by decide, by decide, by decide, by decide⟩ rfl rfl rfl ⟨by decide, by omega⟩ (by decide +kernel) (by decide +kernel) (Nat.le_of_ble_eq_true rfl) (MM.mono ?_ h1)
    intro o g7 d8 h5
    rcases o with v6 | k
    · refine mw_top (fun hT => ?_)
      have hG : 65 ≤ g7.2.1 := hT.2
      show MW mX11_setRule 1 6 12 [(0, vR 0), (1, vI x1), (2, vI x2), (3, vI x3)] [vI v6, vR 0] g7 d8 Q
      refine mw_callV (M' := mX11_settle) (A := [vI v6]) (A' := [vR 0, vI v6]) (S := []) (a := 0) (pc' := 15) dX11_setRule_12 rfl cl_RX11_96 cm_X11_settle cv_X11_settle ⟨by decide, by decide, by decide, by decide, by decide⟩ rfl rfl rfl ⟨by decide, by omega⟩ (by decide +kernel) (by decide +kernel) (Nat.le_of_ble_eq_true rfl) (MM.mono ?_ h5)
      intro o g11 d12 h9
      rcases o with v10 | k
      · refine mw_top (fun hT => ?_)
        have hG : 65 ≤ g11.2.1 := hT.2
        show MW mX11_setRule 0 0 15 [(0, vR 0), (1, vI x1), (2, vI x2), (3, vI x3)] [vI v10] g11 d12 Q
        exact mw_iret (pc' := 0) (S := []) dX11_setRule_15 rfl (Or.inl rfl) h9
      · exact mx_out rfl h9
    · exact mx_out rfl h5
  · exact mx_out rfl h1
theorem eX11_strike_o {x1 : Int} {g : mG} {d : mD} {Q : mQ} (h : MM mX11_setAside [vR 0] g d (fun o g3 d4 => match o with | .inl v2 => MM mX11_tryStrike [vR 0, vI x1] g3 d4 (fun o g7 d8 => match o with | .inl v6 => MM mX11_settle [vR 0, vI v6] g7 d8 (fun o g11 d12 => match o with | .inl v10 => Q (.inl v10) g11 d12 | .inr k => Q (.inr k) g11 d12) | .inr k => Q (.inr k) g7 d8) | .inr k => Q (.inr k) g3 d4)) : MM mX11_strike [vR 0, vI x1] g d Q := by
  refine MM_of (by decide) rfl (by simp [catV]) (Nat.le_of_ble_eq_true rfl) ?_
  show MW mX11_strike 47 8228 0 [(0, vR 0), (1, vI x1)] [] g d Q
  refine mw_top (fun hT => ?_)
  have hG : 65 ≤ g.2.1 := hT.2
  refine mw_aload_n (v := vR 0) (pc' := 1) dX11_strike_0 rfl rfl (Or.inl rfl) rfl ?_
  refine mw_callV (M' := mX11_setAside) (A := []) (A' := [vR 0]) (S := []) (a := 0) (pc' := 4) dX11_strike_1 rfl cl_RX11_89 cm_X11_setAside cv_X11_setAside ⟨by decide, by decide, by decide, by decide, by decide⟩ rfl rfl rfl ⟨by decide, by omega⟩ (by decide +kernel) (by decide +kernel) (Nat.le_of_ble_eq_true rfl) (MM.mono ?_ h)
  intro o g3 d4 h1
  rcases o with v2 | k
  · refine mw_top (fun hT => ?_)
    have hG : 65 ≤ g3.2.1 := hT.2
    show MW mX11_strike 1 6 4 [(0, vR 0), (1, vI x1)] [] g3 d4 Q
    refine mw_aload_n (v := vR 0) (pc' := 5) dX11_strike_4 rfl rfl (Or.inl rfl) rfl ?_
    refine mw_aload_n (v := vR 0) (pc' := 6) dX11_strike_5 rfl rfl (Or.inl rfl) rfl ?_
    refine mw_iload_n (pc' := 7) dX11_strike_6 rfl rfl rfl ?_
    refine mw_callV (M' := mX11_tryStrike) (A := [vI x1]) (A' := [vR 0, vI x1]) (S := [vR 0]) (a := 0) (pc' := 10) dX11_strike_7 rfl cl_RX11_290 cm_X11_tryStrike cv_X11_tryStrike ⟨by decide, by decide, by decide, by decide, by decide⟩ rfl rfl rfl ⟨by decide, by omega⟩ (by decide +kernel) (by decide +kernel) (Nat.le_of_ble_eq_true rfl) (MM.mono ?_ h1)
    intro o g7 d8 h5
    rcases o with v6 | k
    · refine mw_top (fun hT => ?_)
      have hG : 65 ≤ g7.2.1 := hT.2
      show MW mX11_strike 1 6 10 [(0, vR 0), (1, vI x1)] [vI v6, vR 0] g7 d8 Q
      refine mw_callV (M' := mX11_settle) (A := [vI v6]) (A' := [vR 0, vI v6]) (S := []) (a := 0) (pc' := 13) dX11_strike_10 rfl cl_RX11_96 cm_X11_settle cv_X11_settle ⟨by decide, by decide, by decide, by decide, by decide⟩ rfl rfl rfl ⟨by decide, by omega⟩ (by decide +kernel) (by decide +kernel) (Nat.le_of_ble_eq_true rfl) (MM.mono ?_ h5)
      intro o g11 d12 h9
      rcases o with v10 | k
      · refine mw_top (fun hT => ?_)
        have hG : 65 ≤ g11.2.1 := hT.2
        show MW mX11_strike 0 0 13 [(0, vR 0), (1, vI x1)] [vI v10] g11 d12 Q
        exact mw_iret (pc' := 0) (S := []) dX11_strike_13 rfl (Or.inl rfl) h9
      · exact mx_out rfl h9
    · exact mx_out rfl h5
  · exact mx_out rfl h1
theorem eX11_lift_o {x1 : Int} {g : mG} {d : mD} {Q : mQ} (h : MM mX11_setAside [vR 0] g d (fun o g3 d4 => match o with | .inl v2 => MM mX11_tryLift [vR 0, vI x1] g3 d4 (fun o g7 d8 => match o with | .inl v6 => MM mX11_settle [vR 0, vI v6] g7 d8 (fun o g11 d12 => match o with | .inl v10 => Q (.inl v10) g11 d12 | .inr k => Q (.inr k) g11 d12) | .inr k => Q (.inr k) g7 d8) | .inr k => Q (.inr k) g3 d4)) : MM mX11_lift [vR 0, vI x1] g d Q := by
  refine MM_of (by decide) rfl (by simp [catV]) (Nat.le_of_ble_eq_true rfl) ?_
  show MW mX11_lift 47 8228 0 [(0, vR 0), (1, vI x1)] [] g d Q
  refine mw_top (fun hT => ?_)
  have hG : 65 ≤ g.2.1 := hT.2
  refine mw_aload_n (v := vR 0) (pc' := 1) dX11_lift_0 rfl rfl (Or.inl rfl) rfl ?_
  refine mw_callV (M' := mX11_setAside) (A := []) (A' := [vR 0]) (S := []) (a := 0) (pc' := 4) dX11_lift_1 rfl cl_RX11_89 cm_X11_setAside cv_X11_setAside ⟨by decide, by decide, by decide, by decide, by decide⟩ rfl rfl rfl ⟨by decide, by omega⟩ (by decide +kernel) (by decide +kernel) (Nat.le_of_ble_eq_true rfl) (MM.mono ?_ h)
  intro o g3 d4 h1
  rcases o with v2 | k
  · refine mw_top (fun hT => ?_)
    have hG : 65 ≤ g3.2.1 := hT.2
    show MW mX11_lift 1 6 4 [(0, vR 0), (1, vI x1)] [] g3 d4 Q
    refine mw_aload_n (v := vR 0) (pc' := 5) dX11_lift_4 rfl rfl (Or.inl rfl) rfl ?_
    refine mw_aload_n (v := vR 0) (pc' := 6) dX11_lift_5 rfl rfl (Or.inl rfl) rfl ?_
    refine mw_iload_n (pc' := 7) dX11_lift_6 rfl rfl rfl ?_
    refine mw_callV (M' := mX11_tryLift) (A := [vI x1]) (A' := [vR 0, vI x1]) (S := [vR 0]) (a := 0) (pc' := 10) dX11_lift_7 rfl cl_RX11_348 cm_X11_tryLift cv_X11_tryLift ⟨by decide, by decide, by decide, by decide, by decide⟩ rfl rfl rfl ⟨by decide, by omega⟩ (by decide +kernel) (by decide +kernel) (Nat.le_of_ble_eq_true rfl) (MM.mono ?_ h1)
    intro o g7 d8 h5
    rcases o with v6 | k
    · refine mw_top (fun hT => ?_)
      have hG : 65 ≤ g7.2.1 := hT.2
      show MW mX11_lift 1 6 10 [(0, vR 0), (1, vI x1)] [vI v6, vR 0] g7 d8 Q
      refine mw_callV (M' := mX11_settle) (A := [vI v6]) (A' := [vR 0, vI v6]) (S := []) (a := 0) (pc' := 13) dX11_lift_10 rfl cl_RX11_96 cm_X11_settle cv_X11_settle ⟨by decide, by decide, by decide, by decide, by decide⟩ rfl rfl rfl ⟨by decide, by omega⟩ (by decide +kernel) (by decide +kernel) (Nat.le_of_ble_eq_true rfl) (MM.mono ?_ h5)
      intro o g11 d12 h9
      rcases o with v10 | k
      · refine mw_top (fun hT => ?_)
        have hG : 65 ≤ g11.2.1 := hT.2
        show MW mX11_lift 0 0 13 [(0, vR 0), (1, vI x1)] [vI v10] g11 d12 Q
        exact mw_iret (pc' := 0) (S := []) dX11_lift_13 rfl (Or.inl rfl) h9
      · exact mx_out rfl h9
    · exact mx_out rfl h5
  · exact mx_out rfl h1
