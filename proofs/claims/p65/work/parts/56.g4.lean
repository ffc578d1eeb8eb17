theorem fr_RX10_70_16 : FR RX10 70 16 2 := ⟨(show LK 16 = 2 by decide +kernel) ▸ fg_RX10_70, by decide +kernel, by decide +kernel, by decide⟩
theorem fr_RX10_73_16 : FR RX10 73 16 4 := ⟨(show LK 16 = 2 by decide +kernel) ▸ fg_RX10_73, by decide +kernel, by decide +kernel, by decide⟩
theorem fr_RX10_70_34 : FR RX10 70 34 2 := ⟨(show LK 34 = 2 by decide +kernel) ▸ fg_RX10_70, by decide +kernel, by decide +kernel, by decide⟩
theorem fr_RX10_73_34 : FR RX10 73 34 4 := ⟨(show LK 34 = 2 by decide +kernel) ▸ fg_RX10_73, by decide +kernel, by decide +kernel, by decide⟩
theorem ln_57 : LN 57 = 79 := by decide +kernel
theorem lk_57 : LK 57 = 103 := by decide +kernel
theorem ln_58 : LN 58 = 79 := by decide +kernel
theorem lk_58 : LK 58 = 103 := by decide +kernel
def pX10_endOf_d_1 (x2 x3 x4 : Int) (g : mG) (d : mD) (Q : mQ) : Prop := MW mX10_endOf 0 0 16 [(0, vR 53), (1, vR 16), (2, vI x2), (3, vI x3), (4, vI x4)] [] g d Q
theorem eX10_endOf_d {x2 : Int} {g : mG} {d : mD} {Q : mQ} (h : MM mX10_takeStays [vR 53, vR 16, vI x2] g d (fun o g3 d4 => match o with | .inl v2 => (0 ≤ x2 ∧ x2 < 30) ∧ (pX10_endOf_d_1 x2 (d4 19 x2) 0 g3 d4 Q) | .inr k => Q (.inr k) g3 d4)) : MM mX10_endOf [vR 53, vR 16, vI x2] g d Q := by
  refine MM_of (by decide) rfl (by simp [catV]) (Nat.le_of_ble_eq_true rfl) ?_
  show MW mX10_endOf 0 0 0 [(0, vR 53), (1, vR 16), (2, vI x2)] [] g d Q
  refine mw_top (fun hT => ?_)
  have hG : 65 ≤ g.2.1 := hT.2
  refine mw_aload_n (v := vR 53) (pc' := 1) dX10_endOf_0 rfl rfl (Or.inl rfl) rfl ?_
  refine mw_aload_n (v := vR 16) (pc' := 2) dX10_endOf_1 rfl rfl (Or.inl rfl) rfl ?_
  refine mw_iload_n (pc' := 3) dX10_endOf_2 rfl rfl rfl ?_
  refine mw_callV (M' := mX10_takeStays) (A := [vR 16, vI x2]) (A' := [vR 53, vR 16, vI x2]) (S := []) (a := 53) (pc' := 6) dX10_endOf_3 rfl cl_RX10_63 cm_X10_takeStays cv_X10_takeStays ⟨by decide, by decide, by decide, by decide, by decide⟩ rfl rfl rfl ⟨by decide, by omega⟩ (by decide +kernel) (by decide +kernel) (Nat.le_of_ble_eq_true rfl) (MM.mono ?_ h)
  intro o g3 d4 h1
  rcases o with v2 | k
  · refine mw_top (fun hT => ?_)
    have hG : 65 ≤ g3.2.1 := hT.2
    show MW mX10_endOf 0 0 6 [(0, vR 53), (1, vR 16), (2, vI x2)] [] g3 d4 Q
    refine mw_aload_n (v := vR 16) (pc' := 7) dX10_endOf_6 rfl rfl (Or.inl rfl) rfl ?_
    refine mw_getP (v := 19) (pc' := 10) dX10_endOf_7 rfl fr_RX10_70_16 rfl sp_16_2 ⟨by decide, by decide⟩ ?_
    refine mw_iload_n (pc' := 11) dX10_endOf_10 rfl rfl rfl ?_
    obtain ⟨o5, h1⟩ := h1
    refine mw_iald (pc' := 12) dX10_endOf_11 rfl lk_19 ⟨by decide, by decide⟩ (by rw [ln_19]; exact o5) ?_
    refine mw_istore_n (pc' := 13) (L' := [(0, vR 53), (1, vR 16), (2, vI x2), (3, vI (d4 19 x2))]) dX10_endOf_12 rfl rfl (by decide) rfl ?_
    refine mw_iconst (pc' := 14) dX10_endOf_13 rfl ⟨by decide, by decide⟩ ?_
    refine mw_istore (pc' := 16) (L' := [(0, vR 53), (1, vR 16), (2, vI x2), (3, vI (d4 19 x2)), (4, vI 0)]) dX10_endOf_14 rfl (by decide) rfl ?_
    exact h1
  · exact mx_out rfl h1
theorem aX10_endOf_d_1 {R : rW} {gp gr : Int} {x2 x3 x4 : Int} {g : mG} {d : mD} {Q : mQ} (h : (0 ≤ x2 ∧ x2 < 30) ∧ ((((¬ (d 21 x2 ≤ x4)) ∧ (¬ (4999 < x3))) → ((x4 = 0) → 0 ≤ x2 ∧ x2 < 30) ∧ ((iI (x3 + 1)) ∧ ((iI (x2 * 7)) ∧ ((iI ((x2 * 7) + x4)) ∧ ((0 ≤ (x2 * 7) + x4 ∧ (x2 * 7) + x4 < 210) ∧ ((CI d R) ∧ ((RG d R gp gr) ∧ ((0 ≤ (x3 + 1) ∧ (x3 + 1) ≤ 5000) ∧ ((1 ≤ (d 22 ((x2 * 7) + x4)) ∧ (d 22 ((x2 * 7) + x4)) ≤ 200) ∧ ((0 ≤ (fd (fun x => (d 22 ((x2 * 7) + x4)) ≤ cn (Cc R gp gr (bI ((x4 = 0) ∧ (¬ (d 20 x2 = 0))))) (x3 + 1) x) (x3 + 1)) ∧ (fd (fun x => (d 22 ((x2 * 7) + x4)) ≤ cn (Cc R gp gr (bI ((x4 = 0) ∧ (¬ (d 20 x2 = 0))))) (x3 + 1) x) (x3 + 1)) ≤ 5000) ∧ ((iI (x4 + 1)) ∧ (pX10_endOf_d_1 x2 (fd (fun x => court R x ∧ ¬ stopd R gp gr x) (fd (fun x => (d 22 ((x2 * 7) + x4)) ≤ cn (Cc R gp gr (bI ((x4 = 0) ∧ (¬ (d 20 x2 = 0))))) (x3 + 1) x) (x3 + 1))) (x4 + 1) g d Q)))))))))))) ∧ ((¬ ((¬ (d 21 x2 ≤ x4)) ∧ (¬ (4999 < x3)))) → Q (.inl x3) g d))) : pX10_endOf_d_1 x2 x3 x4 g d Q := by
  unfold pX10_endOf_d_1
  refine mw_top (fun hT => ?_)
  have hG : 65 ≤ g.2.1 := hT.2
  refine mw_iload (pc' := 18) dX10_endOf_16 rfl rfl ?_
  refine mw_aload_n (v := vR 16) (pc' := 19) dX10_endOf_18 rfl rfl (Or.inl rfl) rfl ?_
  refine mw_getP (v := 21) (pc' := 22) dX10_endOf_19 rfl fr_RX10_73_16 rfl sp_16_4 ⟨by decide, by decide⟩ ?_
  refine mw_iload_n (pc' := 23) dX10_endOf_22 rfl rfl rfl ?_
  obtain ⟨o6, h⟩ := h
  refine mw_iald (pc' := 24) dX10_endOf_23 rfl lk_21 ⟨by decide, by decide⟩ (by rw [ln_21]; exact o6) ?_
  suffices k9 : (((¬ (d 21 x2 ≤ x4)) ∧ (¬ (4999 < x3))) → MW mX10_endOf 0 0 34 [(0, vR 53), (1, vR 16), (2, vI x2), (3, vI x3), (4, vI x4)] [] g d Q) ∧ ((¬ ((¬ (d 21 x2 ≤ x4)) ∧ (¬ (4999 < x3)))) → MW mX10_endOf 0 0 70 [(0, vR 53), (1, vR 16), (2, vI x2), (3, vI x3), (4, vI x4)] [] g d Q) by
    refine mw_icmp_ge (tgt := 70) (pc' := 27) dX10_endOf_24 rfl (by decide) (fun c10 => ?_) (fun c10 => ?_)
    · exact k9.2 (fun h => (h.1 c10))
    · refine mw_iload_n (pc' := 28) dX10_endOf_27 rfl rfl rfl ?_
      refine mw_sipush (pc' := 31) dX10_endOf_28 rfl ⟨by decide, by decide⟩ ?_
      refine mw_icmp_gt (tgt := 70) (pc' := 34) dX10_endOf_31 rfl (by decide) (fun c11 => ?_) (fun c11 => ?_)
      · exact k9.2 (fun h => (fun h => (h c11)) h.2)
      · exact k9.1 ⟨c10, c11⟩
  refine ⟨fun c12 => ?_, fun c12 => ?_⟩
  · replace h := h.1 c12
    refine mw_aload_n (v := vR 16) (pc' := 35) dX10_endOf_34 rfl rfl (Or.inl rfl) rfl ?_
    refine mw_iload_n (pc' := 36) dX10_endOf_35 rfl rfl rfl ?_
    refine mw_iload (pc' := 38) dX10_endOf_36 rfl rfl ?_
    obtain ⟨o13, h⟩ := h
    refine mw_callV (M' := mX2_partCountsCourt) (A := [vI x2, vI x4]) (A' := [vR 16, vI x2, vI x4]) (S := []) (a := 16) (pc' := 41) dX10_endOf_38 rfl cl_RX10_76 cm_X2_partCountsCourt cv_X2_partCountsCourt ⟨by decide, by decide, by decide, by decide, by decide⟩ rfl rfl rfl ⟨by decide, by omega⟩ (by decide +kernel) (by decide +kernel) (Nat.le_of_ble_eq_true rfl) (eX2_partCountsCourt_d (⟨o13, ?_⟩))
    show MW mX10_endOf 0 0 41 [(0, vR 53), (1, vR 16), (2, vI x2), (3, vI x3), (4, vI x4)] [vI (bI ((x4 = 0) ∧ (¬ (d 20 x2 = 0))))] g d Q
    refine mw_istore (pc' := 43) (L' := [(0, vR 53), (1, vR 16), (2, vI x2), (3, vI x3), (4, vI x4), (5, vI (bI ((x4 = 0) ∧ (¬ (d 20 x2 = 0)))))]) dX10_endOf_41 rfl (by decide) rfl ?_
    refine mw_aload_n (v := vR 53) (pc' := 44) dX10_endOf_43 rfl rfl (Or.inl rfl) rfl ?_
    refine mw_aload_n (v := vR 53) (pc' := 45) dX10_endOf_44 rfl rfl (Or.inl rfl) rfl ?_
    refine mw_iload_n (pc' := 46) dX10_endOf_45 rfl rfl rfl ?_
    refine mw_iconst (pc' := 47) dX10_endOf_46 rfl ⟨by decide, by decide⟩ ?_
    obtain ⟨o14, h⟩ := h
    refine mw_iadd (pc' := 48) dX10_endOf_47 rfl o14 ?_
    refine mw_aload_n (v := vR 16) (pc' := 49) dX10_endOf_48 rfl rfl (Or.inl rfl) rfl ?_
    refine mw_iload_n (pc' := 50) dX10_endOf_49 rfl rfl rfl ?_
    refine mw_iload (pc' := 52) dX10_endOf_50 rfl rfl ?_
    obtain ⟨o15, h⟩ := h
    obtain ⟨o16, h⟩ := h
    obtain ⟨o17, h⟩ := h
    refine mw_callV (M' := mX2_lengthOfPart) (A := [vI x2, vI x4]) (A' := [vR 16, vI x2, vI x4]) (S := [vI (x3 + 1), vR 53, vR 53]) (a := 16) (pc' := 55) dX10_endOf_52 rfl cl_RX10_80 cm_X2_lengthOfPart cv_X2_lengthOfPart ⟨by decide, by decide, by decide, by decide, by decide⟩ rfl rfl rfl ⟨by decide, by omega⟩ (by decide +kernel) (by decide +kernel) (Nat.le_of_ble_eq_true rfl) (eX2_lengthOfPart_d (⟨o15, o16, o17, ?_⟩))
    show MW mX10_endOf 0 0 55 [(0, vR 53), (1, vR 16), (2, vI x2), (3, vI x3), (4, vI x4), (5, vI (bI ((x4 = 0) ∧ (¬ (d 20 x2 = 0)))))] [vI (d 22 ((x2 * 7) + x4)), vI (x3 + 1), vR 53, vR 53] g d Q
    refine mw_iload (pc' := 57) dX10_endOf_55 rfl rfl ?_
    obtain ⟨o18, h⟩ := h
    obtain ⟨o19, h⟩ := h
    obtain ⟨o20, h⟩ := h
    obtain ⟨o21, h⟩ := h
    refine mw_callV (M' := mX10_dayOfCount) (A := [vI (x3 + 1), vI (d 22 ((x2 * 7) + x4)), vI (bI ((x4 = 0) ∧ (¬ (d 20 x2 = 0))))]) (A' := [vR 53, vI (x3 + 1), vI (d 22 ((x2 * 7) + x4)), vI (bI ((x4 = 0) ∧ (¬ (d 20 x2 = 0))))]) (S := [vR 53]) (a := 53) (pc' := 60) dX10_endOf_57 rfl cl_RX10_83 cm_X10_dayOfCount cv_X10_dayOfCount ⟨by decide, by decide, by decide, by decide, by decide⟩ rfl rfl rfl ⟨by decide, by omega⟩ (by decide +kernel) (by decide +kernel) (Nat.le_of_ble_eq_true rfl) (f_dayOfCount (⟨o18, o19, o20, o21, ?_⟩))
    show MW mX10_endOf 0 0 60 [(0, vR 53), (1, vR 16), (2, vI x2), (3, vI x3), (4, vI x4), (5, vI (bI ((x4 = 0) ∧ (¬ (d 20 x2 = 0)))))] [vI (fd (fun x => (d 22 ((x2 * 7) + x4)) ≤ cn (Cc R gp gr (bI ((x4 = 0) ∧ (¬ (d 20 x2 = 0))))) (x3 + 1) x) (x3 + 1)), vR 53] g d Q
    obtain ⟨o24, h⟩ := h
    refine mw_callV (M' := mX10_moveEnd) (A := [vI (fd (fun x => (d 22 ((x2 * 7) + x4)) ≤ cn (Cc R gp gr (bI ((x4 = 0) ∧ (¬ (d 20 x2 = 0))))) (x3 + 1) x) (x3 + 1))]) (A' := [vR 53, vI (fd (fun x => (d 22 ((x2 * 7) + x4)) ≤ cn (Cc R gp gr (bI ((x4 = 0) ∧ (¬ (d 20 x2 = 0))))) (x3 + 1) x) (x3 + 1))]) (S := []) (a := 53) (pc' := 63) dX10_endOf_60 rfl cl_RX10_87 cm_X10_moveEnd cv_X10_moveEnd ⟨by decide, by decide, by decide, by decide, by decide⟩ rfl rfl rfl ⟨by decide, by omega⟩ (by decide +kernel) (by decide +kernel) (Nat.le_of_ble_eq_true rfl) (f_moveEnd (⟨o18, o19, o24, ?_⟩))
    show MW mX10_endOf 0 0 63 [(0, vR 53), (1, vR 16), (2, vI x2), (3, vI x3), (4, vI x4), (5, vI (bI ((x4 = 0) ∧ (¬ (d 20 x2 = 0)))))] [vI (fd (fun x => court R x ∧ ¬ stopd R gp gr x) (fd (fun x => (d 22 ((x2 * 7) + x4)) ≤ cn (Cc R gp gr (bI ((x4 = 0) ∧ (¬ (d 20 x2 = 0))))) (x3 + 1) x) (x3 + 1)))] g d Q
    refine mw_istore_n (pc' := 64) (L' := [(0, vR 53), (1, vR 16), (2, vI x2), (3, vI (fd (fun x => court R x ∧ ¬ stopd R gp gr x) (fd (fun x => (d 22 ((x2 * 7) + x4)) ≤ cn (Cc R gp gr (bI ((x4 = 0) ∧ (¬ (d 20 x2 = 0))))) (x3 + 1) x) (x3 + 1)))), (4, vI x4), (5, vI (bI ((x4 = 0) ∧ (¬ (d 20 x2 = 0)))))]) dX10_endOf_63 rfl rfl (by decide) rfl ?_
    obtain ⟨o25, h⟩ := h
    refine mw_iinc (pc' := 67) (L' := [(0, vR 53), (1, vR 16), (2, vI x2), (3, vI (fd (fun x => court R x ∧ ¬ stopd R gp gr x) (fd (fun x => (d 22 ((x2 * 7) + x4)) ≤ cn (Cc R gp gr (bI ((x4 = 0) ∧ (¬ (d 20 x2 = 0))))) (x3 + 1) x) (x3 + 1)))), (4, vI (x4 + 1)), (5, vI (bI ((x4 = 0) ∧ (¬ (d 20 x2 = 0)))))]) dX10_endOf_64 rfl rfl (by decide) o25 rfl ?_
    refine mw_goto (pc' := 0) (tgt := 16) dX10_endOf_67 (by decide) ?_
    exact mw_loc (pc' := 0) [0, 1, 2, 3, 4] rfl h
  · replace h := h.2 c12
    refine mw_iload_n (pc' := 71) dX10_endOf_70 rfl rfl rfl ?_
    exact mw_iret (pc' := 0) (S := []) dX10_endOf_71 rfl (Or.inl rfl) h
def pX10_endOf_p_1 (x2 x3 x4 : Int) (g : mG) (d : mD) (Q : mQ) : Prop := MW mX10_endOf 0 0 16 [(0, vR 53), (1, vR 34), (2, vI x2), (3, vI x3), (4, vI x4)] [] g d Q
theorem eX10_endOf_p {x2 : Int} {g : mG} {d : mD} {Q : mQ} (h : MM mX10_takeStays [vR 53, vR 34, vI x2] g d (fun o g3 d4 => match o with | .inl v2 => (0 ≤ x2 ∧ x2 < 30) ∧ (pX10_endOf_p_1 x2 (d4 37 x2) 0 g3 d4 Q) | .inr k => Q (.inr k) g3 d4)) : MM mX10_endOf [vR 53, vR 34, vI x2] g d Q := by
  refine MM_of (by decide) rfl (by simp [catV]) (Nat.le_of_ble_eq_true rfl) ?_
  show MW mX10_endOf 0 0 0 [(0, vR 53), (1, vR 34), (2, vI x2)] [] g d Q
  refine mw_top (fun hT => ?_)
  have hG : 65 ≤ g.2.1 := hT.2
  refine mw_aload_n (v := vR 53) (pc' := 1) dX10_endOf_0 rfl rfl (Or.inl rfl) rfl ?_
  refine mw_aload_n (v := vR 34) (pc' := 2) dX10_endOf_1 rfl rfl (Or.inl rfl) rfl ?_
  refine mw_iload_n (pc' := 3) dX10_endOf_2 rfl rfl rfl ?_
  refine mw_callV (M' := mX10_takeStays) (A := [vR 34, vI x2]) (A' := [vR 53, vR 34, vI x2]) (S := []) (a := 53) (pc' := 6) dX10_endOf_3 rfl cl_RX10_63 cm_X10_takeStays cv_X10_takeStays ⟨by decide, by decide, by decide, by decide, by decide⟩ rfl rfl rfl ⟨by decide, by omega⟩ (by decide +kernel) (by decide +kernel) (Nat.le_of_ble_eq_true rfl) (MM.mono ?_ h)
  intro o g3 d4 h1
  rcases o with v2 | k
  · refine mw_top (fun hT => ?_)
    have hG : 65 ≤ g3.2.1 := hT.2
    show MW mX10_endOf 0 0 6 [(0, vR 53), (1, vR 34), (2, vI x2)] [] g3 d4 Q
    refine mw_aload_n (v := vR 34) (pc' := 7) dX10_endOf_6 rfl rfl (Or.inl rfl) rfl ?_
    refine mw_getP (v := 37) (pc' := 10) dX10_endOf_7 rfl fr_RX10_70_34 rfl sp_34_2 ⟨by decide, by decide⟩ ?_
    refine mw_iload_n (pc' := 11) dX10_endOf_10 rfl rfl rfl ?_
    obtain ⟨o5, h1⟩ := h1
    refine mw_iald (pc' := 12) dX10_endOf_11 rfl lk_37 ⟨by decide, by decide⟩ (by rw [ln_37]; exact o5) ?_
    refine mw_istore_n (pc' := 13) (L' := [(0, vR 53), (1, vR 34), (2, vI x2), (3, vI (d4 37 x2))]) dX10_endOf_12 rfl rfl (by decide) rfl ?_
    refine mw_iconst (pc' := 14) dX10_endOf_13 rfl ⟨by decide, by decide⟩ ?_
    refine mw_istore (pc' := 16) (L' := [(0, vR 53), (1, vR 34), (2, vI x2), (3, vI (d4 37 x2)), (4, vI 0)]) dX10_endOf_14 rfl (by decide) rfl ?_
    exact h1
  · exact mx_out rfl h1
theorem aX10_endOf_p_1 {R : rW} {gp gr : Int} {x2 x3 x4 : Int} {g : mG} {d : mD} {Q : mQ} (h : (0 ≤ x2 ∧ x2 < 30) ∧ ((((¬ (d 39 x2 ≤ x4)) ∧ (¬ (4999 < x3))) → ((x4 = 0) → 0 ≤ x2 ∧ x2 < 30) ∧ ((iI (x3 + 1)) ∧ ((iI (x2 * 7)) ∧ ((iI ((x2 * 7) + x4)) ∧ ((0 ≤ (x2 * 7) + x4 ∧ (x2 * 7) + x4 < 210) ∧ ((CI d R) ∧ ((RG d R gp gr) ∧ ((0 ≤ (x3 + 1) ∧ (x3 + 1) ≤ 5000) ∧ ((1 ≤ (d 40 ((x2 * 7) + x4)) ∧ (d 40 ((x2 * 7) + x4)) ≤ 200) ∧ ((0 ≤ (fd (fun x => (d 40 ((x2 * 7) + x4)) ≤ cn (Cc R gp gr (bI ((x4 = 0) ∧ (¬ (d 38 x2 = 0))))) (x3 + 1) x) (x3 + 1)) ∧ (fd (fun x => (d 40 ((x2 * 7) + x4)) ≤ cn (Cc R gp gr (bI ((x4 = 0) ∧ (¬ (d 38 x2 = 0))))) (x3 + 1) x) (x3 + 1)) ≤ 5000) ∧ ((iI (x4 + 1)) ∧ (pX10_endOf_p_1 x2 (fd (fun x => court R x ∧ ¬ stopd R gp gr x) (fd (fun x => (d 40 ((x2 * 7) + x4)) ≤ cn (Cc R gp gr (bI ((x4 = 0) ∧ (¬ (d 38 x2 = 0))))) (x3 + 1) x) (x3 + 1))) (x4 + 1) g d Q)))))))))))) ∧ ((¬ ((¬ (d 39 x2 ≤ x4)) ∧ (¬ (4999 < x3)))) → Q (.inl x3) g d))) : pX10_endOf_p_1 x2 x3 x4 g d Q := by
  unfold pX10_endOf_p_1
  refine mw_top (fun hT => ?_)
  have hG : 65 ≤ g.2.1 := hT.2
  refine mw_iload (pc' := 18) dX10_endOf_16 rfl rfl ?_
  refine mw_aload_n (v := vR 34) (pc' := 19) dX10_endOf_18 rfl rfl (Or.inl rfl) rfl ?_
  refine mw_getP (v := 39) (pc' := 22) dX10_endOf_19 rfl fr_RX10_73_34 rfl sp_34_4 ⟨by decide, by decide⟩ ?_
  refine mw_iload_n (pc' := 23) dX10_endOf_22 rfl rfl rfl ?_
  obtain ⟨o6, h⟩ := h
  refine mw_iald (pc' := 24) dX10_endOf_23 rfl lk_39 ⟨by decide, by decide⟩ (by rw [ln_39]; exact o6) ?_
  suffices k9 : (((¬ (d 39 x2 ≤ x4)) ∧ (¬ (4999 < x3))) → MW mX10_endOf 0 0 34 [(0, vR 53), (1, vR 34), (2, vI x2), (3, vI x3), (4, vI x4)] [] g d Q) ∧ ((¬ ((¬ (d 39 x2 ≤ x4)) ∧ (¬ (4999 < x3)))) → MW mX10_endOf 0 0 70 [(0, vR 53), (1, vR 34), (2, vI x2), (3, vI x3), (4, vI x4)] [] g d Q) by
    refine mw_icmp_ge (tgt := 70) (pc' := 27) dX10_endOf_24 rfl (by decide) (fun c10 => ?_) (fun c10 => ?_)
    · exact k9.2 (fun h => (h.1 c10))
    · refine mw_iload_n (pc' := 28) dX10_endOf_27 rfl rfl rfl ?_
      refine mw_sipush (pc' := 31) dX10_endOf_28 rfl ⟨by decide, by decide⟩ ?_
      refine mw_icmp_gt (tgt := 70) (pc' := 34) dX10_endOf_31 rfl (by decide) (fun c11 => ?_) (fun c11 => ?_)
      · exact k9.2 (fun h => (fun h => (h c11)) h.2)
      · exact k9.1 ⟨c10, c11⟩
  refine ⟨fun c12 => ?_, fun c12 => ?_⟩
  · replace h := h.1 c12
    refine mw_aload_n (v := vR 34) (pc' := 35) dX10_endOf_34 rfl rfl (Or.inl rfl) rfl ?_
    refine mw_iload_n (pc' := 36) dX10_endOf_35 rfl rfl rfl ?_
    refine mw_iload (pc' := 38) dX10_endOf_36 rfl rfl ?_
    obtain ⟨o13, h⟩ := h
    refine mw_callV (M' := mX2_partCountsCourt) (A := [vI x2, vI x4]) (A' := [vR 34, vI x2, vI x4]) (S := []) (a := 34) (pc' := 41) dX10_endOf_38 rfl cl_RX10_76 cm_X2_partCountsCourt cv_X2_partCountsCourt ⟨by decide, by decide, by decide, by decide, by decide⟩ rfl rfl rfl ⟨by decide, by omega⟩ (by decide +kernel) (by decide +kernel) (Nat.le_of_ble_eq_true rfl) (eX2_partCountsCourt_p (⟨o13, ?_⟩))
    show MW mX10_endOf 0 0 41 [(0, vR 53), (1, vR 34), (2, vI x2), (3, vI x3), (4, vI x4)] [vI (bI ((x4 = 0) ∧ (¬ (d 38 x2 = 0))))] g d Q
    refine mw_istore (pc' := 43) (L' := [(0, vR 53), (1, vR 34), (2, vI x2), (3, vI x3), (4, vI x4), (5, vI (bI ((x4 = 0) ∧ (¬ (d 38 x2 = 0)))))]) dX10_endOf_41 rfl (by decide) rfl ?_
    refine mw_aload_n (v := vR 53) (pc' := 44) dX10_endOf_43 rfl rfl (Or.inl rfl) rfl ?_
    refine mw_aload_n (v := vR 53) (pc' := 45) dX10_endOf_44 rfl rfl (Or.inl rfl) rfl ?_
    refine mw_iload_n (pc' := 46) dX10_endOf_45 rfl rfl rfl ?_
    refine mw_iconst (pc' := 47) dX10_endOf_46 rfl ⟨by decide, by decide⟩ ?_
    obtain ⟨o14, h⟩ := h
    refine mw_iadd (pc' := 48) dX10_endOf_47 rfl o14 ?_
    refine mw_aload_n (v := vR 34) (pc' := 49) dX10_endOf_48 rfl rfl (Or.inl rfl) rfl ?_
    refine mw_iload_n (pc' := 50) dX10_endOf_49 rfl rfl rfl ?_
    refine mw_iload (pc' := 52) dX10_endOf_50 rfl rfl ?_
    obtain ⟨o15, h⟩ := h
    obtain ⟨o16, h⟩ := h
    obtain ⟨o17, h⟩ := h
    refine mw_callV (M' := mX2_lengthOfPart) (A := [vI x2, vI x4]) (A' := [vR 34, vI x2, vI x4]) (S := [vI (x3 + 1), vR 53, vR 53]) (a := 34) (pc' := 55) dX10_endOf_52 rfl cl_RX10_80 cm_X2_lengthOfPart cv_X2_lengthOfPart ⟨by decide, by decide, by decide, by decide, by decide⟩ rfl rfl rfl ⟨by decide, by omega⟩ (by decide +kernel) (by decide +kernel) (Nat.le_of_ble_eq_true rfl) (eX2_lengthOfPart_p (⟨o15, o16, o17, ?_⟩))
    show MW mX10_endOf 0 0 55 [(0, vR 53), (1, vR 34), (2, vI x2), (3, vI x3), (4, vI x4), (5, vI (bI ((x4 = 0) ∧ (¬ (d 38 x2 = 0)))))] [vI (d 40 ((x2 * 7) + x4)), vI (x3 + 1), vR 53, vR 53] g d Q
    refine mw_iload (pc' := 57) dX10_endOf_55 rfl rfl ?_
    obtain ⟨o18, h⟩ := h
    obtain ⟨o19, h⟩ := h
    obtain ⟨o20, h⟩ := h
    obtain ⟨o21, h⟩ := h
    refine mw_callV (M' := mX10_dayOfCount) (A := [vI (x3 + 1), vI (d 40 ((x2 * 7) + x4)), vI (bI ((x4 = 0) ∧ (¬ (d 38 x2 = 0))))]) (A' := [vR 53, vI (x3 + 1), vI (d 40 ((x2 * 7) + x4)), vI (bI ((x4 = 0) ∧ (¬ (d 38 x2 = 0))))]) (S := [vR 53]) (a := 53) (pc' := 60) dX10_endOf_57 rfl cl_RX10_83 cm_X10_dayOfCount cv_X10_dayOfCount ⟨by decide, by decide, by decide, by decide, by decide⟩ rfl rfl rfl ⟨by decide, by omega⟩ (by decide +kernel) (by decide +kernel) (Nat.le_of_ble_eq_true rfl) (f_dayOfCount (⟨o18, o19, o20, o21, ?_⟩))
    show MW mX10_endOf 0 0 60 [(0, vR 53), (1, vR 34), (2, vI x2), (3, vI x3), (4, vI x4), (5, vI (bI ((x4 = 0) ∧ (¬ (d 38 x2 = 0)))))] [vI (fd (fun x => (d 40 ((x2 * 7) + x4)) ≤ cn (Cc R gp gr (bI ((x4 = 0) ∧ (¬ (d 38 x2 = 0))))) (x3 + 1) x) (x3 + 1)), vR 53] g d Q
    obtain ⟨o24, h⟩ := h
    refine mw_callV (M' := mX10_moveEnd) (A := [vI (fd (fun x => (d 40 ((x2 * 7) + x4)) ≤ cn (Cc R gp gr (bI ((x4 = 0) ∧ (¬ (d 38 x2 = 0))))) (x3 + 1) x) (x3 + 1))]) (A' := [vR 53, vI (fd (fun x => (d 40 ((x2 * 7) + x4)) ≤ cn (Cc R gp gr (bI ((x4 = 0) ∧ (¬ (d 38 x2 = 0))))) (x3 + 1) x) (x3 + 1))]) (S := []) (a := 53) (pc' := 63) dX10_endOf_60 rfl cl_RX10_87 cm_X10_moveEnd cv_X10_moveEnd ⟨by decide, by decide, by decide, by decide, by decide⟩ rfl rfl rfl ⟨by decide, by omega⟩ (by decide +kernel) (by decide +kernel) (Nat.le_of_ble_eq_true rfl) (f_moveEnd (⟨o18, o19, o24, ?_⟩))
    show MW mX10_endOf 0 0 63 [(0, vR 53), (1, vR 34), (2, vI x2), (3, vI x3), (4, vI x4), (5, vI (bI ((x4 = 0) ∧ (¬ (d 38 x2 = 0)))))] [vI (fd (fun x => court R x ∧ ¬ stopd R gp gr x) (fd (fun x => (d 40 ((x2 * 7) + x4)) ≤ cn (Cc R gp gr (bI ((x4 = 0) ∧ (¬ (d 38 x2 = 0))))) (x3 + 1) x) (x3 + 1)))] g d Q
    refine mw_istore_n (pc' := 64) (L' := [(0, vR 53), (1, vR 34), (2, vI x2), (3, vI (fd (fun x => court R x ∧ ¬ stopd R gp gr x) (fd (fun x => (d 40 ((x2 * 7) + x4)) ≤ cn (Cc R gp gr (bI ((x4 = 0) ∧ (¬ (d 38 x2 = 0))))) (x3 + 1) x) (x3 + 1)))), (4, vI x4), (5, vI (bI ((x4 = 0) ∧ (¬ (d 38 x2 = 0)))))]) dX10_endOf_63 rfl rfl (by decide) rfl ?_
    obtain ⟨o25, h⟩ := h
    refine mw_iinc (pc' := 67) (L' := [(0, vR 53), (1, vR 34), (2, vI x2), (3, vI (fd (fun x => court R x ∧ ¬ stopd R gp gr x) (fd (fun x => (d 40 ((x2 * 7) + x4)) ≤ cn (Cc R gp gr (bI ((x4 = 0) ∧ (¬ (d 38 x2 = 0))))) (x3 + 1) x) (x3 + 1)))), (4, vI (x4 + 1)), (5, vI (bI ((x4 = 0) ∧ (¬ (d 38 x2 = 0)))))]) dX10_endOf_64 rfl rfl (by decide) o25 rfl ?_
    refine mw_goto (pc' := 0) (tgt := 16) dX10_endOf_67 (by decide) ?_
    exact mw_loc (pc' := 0) [0, 1, 2, 3, 4] rfl h
  · replace h := h.2 c12
    refine mw_iload_n (pc' := 71) dX10_endOf_70 rfl rfl rfl ?_
    exact mw_iret (pc' := 0) (S := []) dX10_endOf_71 rfl (Or.inl rfl) h
def pX10_countedUntil_d_1 (x2 x3 x4 x5 x6 : Int) (g : mG) (d : mD) (Q : mQ) : Prop := MW mX10_countedUntil 0 0 22 [(0, vR 53), (1, vR 16), (2, vI x2), (3, vI x3), (4, vI x4), (5, vI x5), (6, vI x6)] [] g d Q
theorem eX10_countedUntil_d {x2 x3 : Int} {g : mG} {d : mD} {Q : mQ} (h : MM mX10_takeStays [vR 53, vR 16, vI x2] g d (fun o g3 d4 => match o with | .inl v2 => (0 ≤ x2 ∧ x2 < 30) ∧ ((iI ((d4 19 x2) + 1)) ∧ (pX10_countedUntil_d_1 x2 x3 0 ((d4 19 x2) + 1) 0 g3 d4 Q)) | .inr k => Q (.inr k) g3 d4)) : MM mX10_countedUntil [vR 53, vR 16, vI x2, vI x3] g d Q := by
  refine MM_of (by decide) rfl (by simp [catV]) (Nat.le_of_ble_eq_true rfl) ?_
  show MW mX10_countedUntil 0 0 0 [(0, vR 53), (1, vR 16), (2, vI x2), (3, vI x3)] [] g d Q
  refine mw_top (fun hT => ?_)
  have hG : 65 ≤ g.2.1 := hT.2
  refine mw_aload_n (v := vR 53) (pc' := 1) dX10_countedUntil_0 rfl rfl (Or.inl rfl) rfl ?_
  refine mw_aload_n (v := vR 16) (pc' := 2) dX10_countedUntil_1 rfl rfl (Or.inl rfl) rfl ?_
  refine mw_iload_n (pc' := 3) dX10_countedUntil_2 rfl rfl rfl ?_
  refine mw_callV (M' := mX10_takeStays) (A := [vR 16, vI x2]) (A' := [vR 53, vR 16, vI x2]) (S := []) (a := 53) (pc' := 6) dX10_countedUntil_3 rfl cl_RX10_63 cm_X10_takeStays cv_X10_takeStays ⟨by decide, by decide, by decide, by decide, by decide⟩ rfl rfl rfl ⟨by decide, by omega⟩ (by decide +kernel) (by decide +kernel) (Nat.le_of_ble_eq_true rfl) (MM.mono ?_ h)
  intro o g3 d4 h1
  rcases o with v2 | k
  · refine mw_top (fun hT => ?_)
    have hG : 65 ≤ g3.2.1 := hT.2
    show MW mX10_countedUntil 0 0 6 [(0, vR 53), (1, vR 16), (2, vI x2), (3, vI x3)] [] g3 d4 Q
    refine mw_iconst (pc' := 7) dX10_countedUntil_6 rfl ⟨by decide, by decide⟩ ?_
    refine mw_istore (pc' := 9) (L' := [(0, vR 53), (1, vR 16), (2, vI x2), (3, vI x3), (4, vI 0)]) dX10_countedUntil_7 rfl (by decide) rfl ?_
    refine mw_aload_n (v := vR 16) (pc' := 10) dX10_countedUntil_9 rfl rfl (Or.inl rfl) rfl ?_
    refine mw_getP (v := 19) (pc' := 13) dX10_countedUntil_10 rfl fr_RX10_70_16 rfl sp_16_2 ⟨by decide, by decide⟩ ?_
    refine mw_iload_n (pc' := 14) dX10_countedUntil_13 rfl rfl rfl ?_
    obtain ⟨o5, h1⟩ := h1
    refine mw_iald (pc' := 15) dX10_countedUntil_14 rfl lk_19 ⟨by decide, by decide⟩ (by rw [ln_19]; exact o5) ?_
    refine mw_iconst (pc' := 16) dX10_countedUntil_15 rfl ⟨by decide, by decide⟩ ?_
    obtain ⟨o6, h1⟩ := h1
    refine mw_iadd (pc' := 17) dX10_countedUntil_16 rfl o6 ?_
    refine mw_istore (pc' := 19) (L' := [(0, vR 53), (1, vR 16), (2, vI x2), (3, vI x3), (4, vI 0), (5, vI ((d4 19 x2) + 1))]) dX10_countedUntil_17 rfl (by decide) rfl ?_
    refine mw_iconst (pc' := 20) dX10_countedUntil_19 rfl ⟨by decide, by decide⟩ ?_
    refine mw_istore (pc' := 22) (L' := [(0, vR 53), (1, vR 16), (2, vI x2), (3, vI x3), (4, vI 0), (5, vI ((d4 19 x2) + 1)), (6, vI 0)]) dX10_countedUntil_20 rfl (by decide) rfl ?_
    exact h1
  · exact mx_out rfl h1
theorem aX10_countedUntil_d_1 {R : rW} {gp gr : Int} {x2 x3 x4 x5 x6 : Int} {g : mG} {d : mD} {Q : mQ} (h : (0 ≤ x2 ∧ x2 < 30) ∧ ((((¬ (d 21 x2 ≤ x6)) ∧ (¬ (x3 < x5))) → (iI (x2 * 7)) ∧ ((iI ((x2 * 7) + x6)) ∧ ((0 ≤ (x2 * 7) + x6 ∧ (x2 * 7) + x6 < 210) ∧ (((x6 = 0) → 0 ≤ x2 ∧ x2 < 30) ∧ ((CI d R) ∧ ((RG d R gp gr) ∧ ((0 ≤ x5 ∧ x5 ≤ 5000) ∧ ((1 ≤ (d 22 ((x2 * 7) + x6)) ∧ (d 22 ((x2 * 7) + x6)) ≤ 200) ∧ (((x3 < fd (fun x => (d 22 ((x2 * 7) + x6)) ≤ cn (Cc R gp gr (bI ((x6 = 0) ∧ (¬ (d 20 x2 = 0))))) x5 x) x5) → 0 ≤ x3 ∧ x3 ≤ 4999) ∧ ((iI (x4 + (iT (x3 < fd (fun x => (d 22 ((x2 * 7) + x6)) ≤ cn (Cc R gp gr (bI ((x6 = 0) ∧ (¬ (d 20 x2 = 0))))) x5 x) x5) (cn (Cc R gp gr (bI ((x6 = 0) ∧ (¬ (d 20 x2 = 0))))) x5 x3) (d 22 ((x2 * 7) + x6))))) ∧ ((0 ≤ (fd (fun x => (d 22 ((x2 * 7) + x6)) ≤ cn (Cc R gp gr (bI ((x6 = 0) ∧ (¬ (d 20 x2 = 0))))) x5 x) x5) ∧ (fd (fun x => (d 22 ((x2 * 7) + x6)) ≤ cn (Cc R gp gr (bI ((x6 = 0) ∧ (¬ (d 20 x2 = 0))))) x5 x) x5) ≤ 5000) ∧ ((iI ((fd (fun x => court R x ∧ ¬ stopd R gp gr x) (fd (fun x => (d 22 ((x2 * 7) + x6)) ≤ cn (Cc R gp gr (bI ((x6 = 0) ∧ (¬ (d 20 x2 = 0))))) x5 x) x5)) + 1)) ∧ ((iI (x6 + 1)) ∧ (pX10_countedUntil_d_1 x2 x3 (x4 + (iT (x3 < fd (fun x => (d 22 ((x2 * 7) + x6)) ≤ cn (Cc R gp gr (bI ((x6 = 0) ∧ (¬ (d 20 x2 = 0))))) x5 x) x5) (cn (Cc R gp gr (bI ((x6 = 0) ∧ (¬ (d 20 x2 = 0))))) x5 x3) (d 22 ((x2 * 7) + x6)))) ((fd (fun x => court R x ∧ ¬ stopd R gp gr x) (fd (fun x => (d 22 ((x2 * 7) + x6)) ≤ cn (Cc R gp gr (bI ((x6 = 0) ∧ (¬ (d 20 x2 = 0))))) x5 x) x5)) + 1) (x6 + 1) g d Q)))))))))))))) ∧ ((¬ ((¬ (d 21 x2 ≤ x6)) ∧ (¬ (x3 < x5)))) → Q (.inl x4) g d))) : pX10_countedUntil_d_1 x2 x3 x4 x5 x6 g d Q := by
  unfold pX10_countedUntil_d_1
  refine mw_top (fun hT => ?_)
  have hG : 65 ≤ g.2.1 := hT.2
  refine mw_iload (pc' := 24) dX10_countedUntil_22 rfl rfl ?_
  refine mw_aload_n (v := vR 16) (pc' := 25) dX10_countedUntil_24 rfl rfl (Or.inl rfl) rfl ?_
  refine mw_getP (v := 21) (pc' := 28) dX10_countedUntil_25 rfl fr_RX10_73_16 rfl sp_16_4 ⟨by decide, by decide⟩ ?_
  refine mw_iload_n (pc' := 29) dX10_countedUntil_28 rfl rfl rfl ?_
  obtain ⟨o7, h⟩ := h
  refine mw_iald (pc' := 30) dX10_countedUntil_29 rfl lk_21 ⟨by decide, by decide⟩ (by rw [ln_21]; exact o7) ?_
  suffices k14 : (((¬ (d 21 x2 ≤ x6)) ∧ (¬ (x3 < x5))) → MW mX10_countedUntil 0 0 39 [(0, vR 53), (1, vR 16), (2, vI x2), (3, vI x3), (4, vI x4), (5, vI x5), (6, vI x6)] [] g d Q) ∧ ((¬ ((¬ (d 21 x2 ≤ x6)) ∧ (¬ (x3 < x5)))) → MW mX10_countedUntil 0 0 110 [(0, vR 53), (1, vR 16), (2, vI x2), (3, vI x3), (4, vI x4), (5, vI x5), (6, vI x6)] [] g d Q) by
    refine mw_icmp_ge (tgt := 110) (pc' := 33) dX10_countedUntil_30 rfl (by decide) (fun c15 => ?_) (fun c15 => ?_)
    · exact k14.2 (fun h => (h.1 c15))
    · refine mw_iload (pc' := 35) dX10_countedUntil_33 rfl rfl ?_
      refine mw_iload_n (pc' := 36) dX10_countedUntil_35 rfl rfl rfl ?_
      refine mw_icmp_gt (tgt := 110) (pc' := 39) dX10_countedUntil_36 rfl (by decide) (fun c16 => ?_) (fun c16 => ?_)
      · exact k14.2 (fun h => (fun h => (h c16)) h.2)
      · exact k14.1 ⟨c15, c16⟩
  refine ⟨fun c17 => ?_, fun c17 => ?_⟩
  · replace h := h.1 c17
    refine mw_aload_n (v := vR 16) (pc' := 40) dX10_countedUntil_39 rfl rfl (Or.inl rfl) rfl ?_
    refine mw_iload_n (pc' := 41) dX10_countedUntil_40 rfl rfl rfl ?_
    refine mw_iload (pc' := 43) dX10_countedUntil_41 rfl rfl ?_
    obtain ⟨o18, h⟩ := h
    obtain ⟨o19, h⟩ := h
    obtain ⟨o20, h⟩ := h
    refine mw_callV (M' := mX2_lengthOfPart) (A := [vI x2, vI x6]) (A' := [vR 16, vI x2, vI x6]) (S := []) (a := 16) (pc' := 46) dX10_countedUntil_43 rfl cl_RX10_80 cm_X2_lengthOfPart cv_X2_lengthOfPart ⟨by decide, by decide, by decide, by decide, by decide⟩ rfl rfl rfl ⟨by decide, by omega⟩ (by decide +kernel) (by decide +kernel) (Nat.le_of_ble_eq_true rfl) (eX2_lengthOfPart_d (⟨o18, o19, o20, ?_⟩))
    show MW mX10_countedUntil 0 0 46 [(0, vR 53), (1, vR 16), (2, vI x2), (3, vI x3), (4, vI x4), (5, vI x5), (6, vI x6)] [vI (d 22 ((x2 * 7) + x6))] g d Q
    refine mw_istore (pc' := 48) (L' := [(0, vR 53), (1, vR 16), (2, vI x2), (3, vI x3), (4, vI x4), (5, vI x5), (6, vI x6), (7, vI (d 22 ((x2 * 7) + x6)))]) dX10_countedUntil_46 rfl (by decide) rfl ?_
    refine mw_aload_n (v := vR 16) (pc' := 49) dX10_countedUntil_48 rfl rfl (Or.inl rfl) rfl ?_
    refine mw_iload_n (pc' := 50) dX10_countedUntil_49 rfl rfl rfl ?_
    refine mw_iload (pc' := 52) dX10_countedUntil_50 rfl rfl ?_
    obtain ⟨o21, h⟩ := h
    refine mw_callV (M' := mX2_partCountsCourt) (A := [vI x2, vI x6]) (A' := [vR 16, vI x2, vI x6]) (S := []) (a := 16) (pc' := 55) dX10_countedUntil_52 rfl cl_RX10_76 cm_X2_partCountsCourt cv_X2_partCountsCourt ⟨by decide, by decide, by decide, by decide, by decide⟩ rfl rfl rfl ⟨by decide, by omega⟩ (by decide +kernel) (by decide +kernel) (Nat.le_of_ble_eq_true rfl) (eX2_partCountsCourt_d (⟨o21, ?_⟩))
    show MW mX10_countedUntil 0 0 55 [(0, vR 53), (1, vR 16), (2, vI x2), (3, vI x3), (4, vI x4), (5, vI x5), (6, vI x6), (7, vI (d 22 ((x2 * 7) + x6)))] [vI (bI ((x6 = 0) ∧ (¬ (d 20 x2 = 0))))] g d Q
    refine mw_istore (pc' := 57) (L' := [(0, vR 53), (1, vR 16), (2, vI x2), (3, vI x3), (4, vI x4), (5, vI x5), (6, vI x6), (7, vI (d 22 ((x2 * 7) + x6))), (8, vI (bI ((x6 = 0) ∧ (¬ (d 20 x2 = 0)))))]) dX10_countedUntil_55 rfl (by decide) rfl ?_
    refine mw_aload_n (v := vR 53) (pc' := 58) dX10_countedUntil_57 rfl rfl (Or.inl rfl) rfl ?_
    refine mw_iload (pc' := 60) dX10_countedUntil_58 rfl rfl ?_
    refine mw_iload (pc' := 62) dX10_countedUntil_60 rfl rfl ?_
    refine mw_iload (pc' := 64) dX10_countedUntil_62 rfl rfl ?_
    obtain ⟨o22, h⟩ := h
    obtain ⟨o23, h⟩ := h
    obtain ⟨o24, h⟩ := h
    obtain ⟨o25, h⟩ := h
    refine mw_callV (M' := mX10_dayOfCount) (A := [vI x5, vI (d 22 ((x2 * 7) + x6)), vI (bI ((x6 = 0) ∧ (¬ (d 20 x2 = 0))))]) (A' := [vR 53, vI x5, vI (d 22 ((x2 * 7) + x6)), vI (bI ((x6 = 0) ∧ (¬ (d 20 x2 = 0))))]) (S := []) (a := 53) (pc' := 67) dX10_countedUntil_64 rfl cl_RX10_83 cm_X10_dayOfCount cv_X10_dayOfCount ⟨by decide, by decide, by decide, by decide, by decide⟩ rfl rfl rfl ⟨by decide, by omega⟩ (by decide +kernel) (by decide +kernel) (Nat.le_of_ble_eq_true rfl) (f_dayOfCount (⟨o22, o23, o24, o25, ?_⟩))
    show MW mX10_countedUntil 0 0 67 [(0, vR 53), (1, vR 16), (2, vI x2), (3, vI x3), (4, vI x4), (5, vI x5), (6, vI x6), (7, vI (d 22 ((x2 * 7) + x6))), (8, vI (bI ((x6 = 0) ∧ (¬ (d 20 x2 = 0)))))] [vI (fd (fun x => (d 22 ((x2 * 7) + x6)) ≤ cn (Cc R gp gr (bI ((x6 = 0) ∧ (¬ (d 20 x2 = 0))))) x5 x) x5)] g d Q
    refine mw_istore (pc' := 69) (L' := [(0, vR 53), (1, vR 16), (2, vI x2), (3, vI x3), (4, vI x4), (5, vI x5), (6, vI x6), (7, vI (d 22 ((x2 * 7) + x6))), (8, vI (bI ((x6 = 0) ∧ (¬ (d 20 x2 = 0))))), (9, vI (fd (fun x => (d 22 ((x2 * 7) + x6)) ≤ cn (Cc R gp gr (bI ((x6 = 0) ∧ (¬ (d 20 x2 = 0))))) x5 x) x5))]) dX10_countedUntil_67 rfl (by decide) rfl ?_
    refine mw_iload (pc' := 71) dX10_countedUntil_69 rfl rfl ?_
    refine mw_iload (pc' := 73) dX10_countedUntil_71 rfl rfl ?_
    refine mw_iload_n (pc' := 74) dX10_countedUntil_73 rfl rfl rfl ?_
    obtain ⟨o29, h⟩ := h
    suffices k30 : MW mX10_countedUntil 0 0 91 [(0, vR 53), (1, vR 16), (2, vI x2), (3, vI x3), (4, vI x4), (5, vI x5), (6, vI x6), (7, vI (d 22 ((x2 * 7) + x6))), (8, vI (bI ((x6 = 0) ∧ (¬ (d 20 x2 = 0))))), (9, vI (fd (fun x => (d 22 ((x2 * 7) + x6)) ≤ cn (Cc R gp gr (bI ((x6 = 0) ∧ (¬ (d 20 x2 = 0))))) x5 x) x5))] [vI (iT (x3 < fd (fun x => (d 22 ((x2 * 7) + x6)) ≤ cn (Cc R gp gr (bI ((x6 = 0) ∧ (¬ (d 20 x2 = 0))))) x5 x) x5) (cn (Cc R gp gr (bI ((x6 = 0) ∧ (¬ (d 20 x2 = 0))))) x5 x3) (d 22 ((x2 * 7) + x6))), vI x4] g d Q by
      refine mw_icmp_gt (tgt := 82) (pc' := 77) dX10_countedUntil_74 rfl (by decide) (fun c31 => ?_) (fun c31 => ?_)
      · refine mw_aload_n (v := vR 53) (pc' := 83) dX10_countedUntil_82 rfl rfl (Or.inl rfl) rfl ?_
        refine mw_iload (pc' := 85) dX10_countedUntil_83 rfl rfl ?_
        refine mw_iload_n (pc' := 86) dX10_countedUntil_85 rfl rfl rfl ?_
        refine mw_iload (pc' := 88) dX10_countedUntil_86 rfl rfl ?_
        refine mw_callV (M' := mX10_countFree) (A := [vI x5, vI x3, vI (bI ((x6 = 0) ∧ (¬ (d 20 x2 = 0))))]) (A' := [vR 53, vI x5, vI x3, vI (bI ((x6 = 0) ∧ (¬ (d 20 x2 = 0))))]) (S := [vI x4]) (a := 53) (pc' := 91) dX10_countedUntil_88 rfl cl_RX10_91 cm_X10_countFree cv_X10_countFree ⟨by decide, by decide, by decide, by decide, by decide⟩ rfl rfl rfl ⟨by decide, by omega⟩ (by decide +kernel) (by decide +kernel) (Nat.le_of_ble_eq_true rfl) (f_countFree (⟨o22, o23, o24, (o29 c31), ?_⟩))
        show MW mX10_countedUntil 0 0 91 [(0, vR 53), (1, vR 16), (2, vI x2), (3, vI x3), (4, vI x4), (5, vI x5), (6, vI x6), (7, vI (d 22 ((x2 * 7) + x6))), (8, vI (bI ((x6 = 0) ∧ (¬ (d 20 x2 = 0))))), (9, vI (fd (fun x => (d 22 ((x2 * 7) + x6)) ≤ cn (Cc R gp gr (bI ((x6 = 0) ∧ (¬ (d 20 x2 = 0))))) x5 x) x5))] [vI (cn (Cc R gp gr (bI ((x6 = 0) ∧ (¬ (d 20 x2 = 0))))) x5 x3), vI x4] g d Q
        exact mw_st (((iT_t c31).trans rfl)).symm k30
      · refine mw_iload (pc' := 79) dX10_countedUntil_77 rfl rfl ?_
        refine mw_goto (pc' := 0) (tgt := 91) dX10_countedUntil_79 (by decide) ?_
        exact mw_st (((iT_f c31).trans rfl)).symm k30
    obtain ⟨o32, h⟩ := h
    refine mw_iadd (pc' := 92) dX10_countedUntil_91 rfl o32 ?_
    refine mw_istore (pc' := 94) (L' := [(0, vR 53), (1, vR 16), (2, vI x2), (3, vI x3), (4, vI (x4 + (iT (x3 < fd (fun x => (d 22 ((x2 * 7) + x6)) ≤ cn (Cc R gp gr (bI ((x6 = 0) ∧ (¬ (d 20 x2 = 0))))) x5 x) x5) (cn (Cc R gp gr (bI ((x6 = 0) ∧ (¬ (d 20 x2 = 0))))) x5 x3) (d 22 ((x2 * 7) + x6))))), (5, vI x5), (6, vI x6), (7, vI (d 22 ((x2 * 7) + x6))), (8, vI (bI ((x6 = 0) ∧ (¬ (d 20 x2 = 0))))), (9, vI (fd (fun x => (d 22 ((x2 * 7) + x6)) ≤ cn (Cc R gp gr (bI ((x6 = 0) ∧ (¬ (d 20 x2 = 0))))) x5 x) x5))]) dX10_countedUntil_92 rfl (by decide) rfl ?_
    refine mw_aload_n (v := vR 53) (pc' := 95) dX10_countedUntil_94 rfl rfl (Or.inl rfl) rfl ?_
    refine mw_iload (pc' := 97) dX10_countedUntil_95 rfl rfl ?_
    obtain ⟨o35, h⟩ := h
    refine mw_callV (M' := mX10_moveEnd) (A := [vI (fd (fun x => (d 22 ((x2 * 7) + x6)) ≤ cn (Cc R gp gr (bI ((x6 = 0) ∧ (¬ (d 20 x2 = 0))))) x5 x) x5)]) (A' := [vR 53, vI (fd (fun x => (d 22 ((x2 * 7) + x6)) ≤ cn (Cc R gp gr (bI ((x6 = 0) ∧ (¬ (d 20 x2 = 0))))) x5 x) x5)]) (S := []) (a := 53) (pc' := 100) dX10_countedUntil_97 rfl cl_RX10_87 cm_X10_moveEnd cv_X10_moveEnd ⟨by decide, by decide, by decide, by decide, by decide⟩ rfl rfl rfl ⟨by decide, by omega⟩ (by decide +kernel) (by decide +kernel) (Nat.le_of_ble_eq_true rfl) (f_moveEnd (⟨o22, o23, o35, ?_⟩))
    show MW mX10_countedUntil 0 0 100 [(0, vR 53), (1, vR 16), (2, vI x2), (3, vI x3), (4, vI (x4 + (iT (x3 < fd (fun x => (d 22 ((x2 * 7) + x6)) ≤ cn (Cc R gp gr (bI ((x6 = 0) ∧ (¬ (d 20 x2 = 0))))) x5 x) x5) (cn (Cc R gp gr (bI ((x6 = 0) ∧ (¬ (d 20 x2 = 0))))) x5 x3) (d 22 ((x2 * 7) + x6))))), (5, vI x5), (6, vI x6), (7, vI (d 22 ((x2 * 7) + x6))), (8, vI (bI ((x6 = 0) ∧ (¬ (d 20 x2 = 0))))), (9, vI (fd (fun x => (d 22 ((x2 * 7) + x6)) ≤ cn (Cc R gp gr (bI ((x6 = 0) ∧ (¬ (d 20 x2 = 0))))) x5 x) x5))] [vI (fd (fun x => court R x ∧ ¬ stopd R gp gr x) (fd (fun x => (d 22 ((x2 * 7) + x6)) ≤ cn (Cc R gp gr (bI ((x6 = 0) ∧ (¬ (d 20 x2 = 0))))) x5 x) x5))] g d Q
    refine mw_iconst (pc' := 101) dX10_countedUntil_100 rfl ⟨by decide, by decide⟩ ?_
    obtain ⟨o36, h⟩ := h
    refine mw_iadd (pc' := 102) dX10_countedUntil_101 rfl o36 ?_
    refine mw_istore (pc' := 104) (L' := [(0, vR 53), (1, vR 16), (2, vI x2), (3, vI x3), (4, vI (x4 + (iT (x3 < fd (fun x => (d 22 ((x2 * 7) + x6)) ≤ cn (Cc R gp gr (bI ((x6 = 0) ∧ (¬ (d 20 x2 = 0))))) x5 x) x5) (cn (Cc R gp gr (bI ((x6 = 0) ∧ (¬ (d 20 x2 = 0))))) x5 x3) (d 22 ((x2 * 7) + x6))))), (5, vI ((fd (fun x => court R x ∧ ¬ stopd R gp gr x) (fd (fun x => (d 22 ((x2 * 7) + x6)) ≤ cn (Cc R gp gr (bI ((x6 = 0) ∧ (¬ (d 20 x2 = 0))))) x5 x) x5)) + 1)), (6, vI x6), (7, vI (d 22 ((x2 * 7) + x6))), (8, vI (bI ((x6 = 0) ∧ (¬ (d 20 x2 = 0))))), (9, vI (fd (fun x => (d 22 ((x2 * 7) + x6)) ≤ cn (Cc R gp gr (bI ((x6 = 0) ∧ (¬ (d 20 x2 = 0))))) x5 x) x5))]) dX10_countedUntil_102 rfl (by decide) rfl ?_
    obtain ⟨o37, h⟩ := h
    refine mw_iinc (pc' := 107) (L' := [(0, vR 53), (1, vR 16), (2, vI x2), (3, vI x3), (4, vI (x4 + (iT (x3 < fd (fun x => (d 22 ((x2 * 7) + x6)) ≤ cn (Cc R gp gr (bI ((x6 = 0) ∧ (¬ (d 20 x2 = 0))))) x5 x) x5) (cn (Cc R gp gr (bI ((x6 = 0) ∧ (¬ (d 20 x2 = 0))))) x5 x3) (d 22 ((x2 * 7) + x6))))), (5, vI ((fd (fun x => court R x ∧ ¬ stopd R gp gr x) (fd (fun x => (d 22 ((x2 * 7) + x6)) ≤ cn (Cc R gp gr (bI ((x6 = 0) ∧ (¬ (d 20 x2 = 0))))) x5 x) x5)) + 1)), (6, vI (x6 + 1)), (7, vI (d 22 ((x2 * 7) + x6))), (8, vI (bI ((x6 = 0) ∧ (¬ (d 20 x2 = 0))))), (9, vI (fd (fun x => (d 22 ((x2 * 7) + x6)) ≤ cn (Cc R gp gr (bI ((x6 = 0) ∧ (¬ (d 20 x2 = 0))))) x5 x) x5))]) dX10_countedUntil_104 rfl rfl (by decide) o37 rfl ?_
    refine mw_goto (pc' := 0) (tgt := 22) dX10_countedUntil_107 (by decide) ?_
    exact mw_loc (pc' := 0) [0, 1, 2, 3, 4, 5, 6] rfl h
  · replace h := h.2 c17
    refine mw_iload (pc' := 112) dX10_countedUntil_110 rfl rfl ?_
    exact mw_iret (pc' := 0) (S := []) dX10_countedUntil_112 rfl (Or.inl rfl) h
def pX10_countStopped_d_1 (x2 x3 x4 x5 x6 : Int) (g : mG) (d : mD) (Q : mQ) : Prop := MW mX10_countStopped 0 0 12 [(0, vR 53), (1, vR 16), (2, vI x2), (3, vI x3), (4, vI x4), (5, vI x5), (6, vI x6)] [] g d Q
theorem eX10_countStopped_d {x2 x3 x4 : Int} {g : mG} {d : mD} {Q : mQ} (h : MM mX10_takeStays [vR 53, vR 16, vI x2] g d (fun o g3 d4 => match o with | .inl v2 => pX10_countStopped_d_1 x2 x3 x4 0 0 g3 d4 Q | .inr k => Q (.inr k) g3 d4)) : MM mX10_countStopped [vR 53, vR 16, vI x2, vI x3, vI x4] g d Q := by
  refine MM_of (by decide) rfl (by simp [catV]) (Nat.le_of_ble_eq_true rfl) ?_
  show MW mX10_countStopped 0 0 0 [(0, vR 53), (1, vR 16), (2, vI x2), (3, vI x3), (4, vI x4)] [] g d Q
  refine mw_top (fun hT => ?_)
  have hG : 65 ≤ g.2.1 := hT.2
  refine mw_aload_n (v := vR 53) (pc' := 1) dX10_countStopped_0 rfl rfl (Or.inl rfl) rfl ?_
  refine mw_aload_n (v := vR 16) (pc' := 2) dX10_countStopped_1 rfl rfl (Or.inl rfl) rfl ?_
  refine mw_iload_n (pc' := 3) dX10_countStopped_2 rfl rfl rfl ?_
  refine mw_callV (M' := mX10_takeStays) (A := [vR 16, vI x2]) (A' := [vR 53, vR 16, vI x2]) (S := []) (a := 53) (pc' := 6) dX10_countStopped_3 rfl cl_RX10_63 cm_X10_takeStays cv_X10_takeStays ⟨by decide, by decide, by decide, by decide, by decide⟩ rfl rfl rfl ⟨by decide, by omega⟩ (by decide +kernel) (by decide +kernel) (Nat.le_of_ble_eq_true rfl) (MM.mono ?_ h)
  intro o g3 d4 h1
  rcases o with v2 | k
  · refine mw_top (fun hT => ?_)
    have hG : 65 ≤ g3.2.1 := hT.2
    show MW mX10_countStopped 0 0 6 [(0, vR 53), (1, vR 16), (2, vI x2), (3, vI x3), (4, vI x4)] [] g3 d4 Q
    refine mw_iconst (pc' := 7) dX10_countStopped_6 rfl ⟨by decide, by decide⟩ ?_
    refine mw_istore (pc' := 9) (L' := [(0, vR 53), (1, vR 16), (2, vI x2), (3, vI x3), (4, vI x4), (5, vI 0)]) dX10_countStopped_7 rfl (by decide) rfl ?_
    refine mw_iconst (pc' := 10) dX10_countStopped_9 rfl ⟨by decide, by decide⟩ ?_
    refine mw_istore (pc' := 12) (L' := [(0, vR 53), (1, vR 16), (2, vI x2), (3, vI x3), (4, vI x4), (5, vI 0), (6, vI 0)]) dX10_countStopped_10 rfl (by decide) rfl ?_
    exact h1
  · exact mx_out rfl h1
theorem aX10_countStopped_d_1 {x2 x3 x4 x5 x6 : Int} {g : mG} {d : mD} {Q : mQ} (h : ((d 53 4 ≤ x6) → Q (.inl x5) g d) ∧ ((¬ (d 53 4 ≤ x6)) → (0 ≤ x6 ∧ x6 < 12) ∧ ((iI ((min x4 (d 55 x6)) - (max x3 (d 54 x6)))) ∧ ((iI (((min x4 (d 55 x6)) - (max x3 (d 54 x6))) + 1)) ∧ ((iI (x5 + (max 0 (((min x4 (d 55 x6)) - (max x3 (d 54 x6))) + 1)))) ∧ ((iI (x6 + 1)) ∧ (pX10_countStopped_d_1 x2 x3 x4 (x5 + (max 0 (((min x4 (d 55 x6)) - (max x3 (d 54 x6))) + 1))) (x6 + 1) g d Q))))))) : pX10_countStopped_d_1 x2 x3 x4 x5 x6 g d Q := by
  unfold pX10_countStopped_d_1
  refine mw_top (fun hT => ?_)
  have hG : 65 ≤ g.2.1 := hT.2
  refine mw_iload (pc' := 14) dX10_countStopped_12 rfl rfl ?_
  refine mw_aload_n (v := vR 53) (pc' := 15) dX10_countStopped_14 rfl rfl (Or.inl rfl) rfl ?_
  refine mw_getI (ji := 4) (pc' := 18) dX10_countStopped_15 rfl fi_RX10_26_53 rfl ⟨by decide, by decide⟩ ?_
  refine mw_icmp_ge (tgt := 70) (pc' := 21) dX10_countStopped_18 rfl (by decide) (fun c7 => ?_) (fun c7 => ?_)
  · replace h := h.1 c7
    refine mw_iload (pc' := 72) dX10_countStopped_70 rfl rfl ?_
    exact mw_iret (pc' := 0) (S := []) dX10_countStopped_72 rfl (Or.inl rfl) h
  · replace h := h.2 c7
    refine mw_iload_n (pc' := 22) dX10_countStopped_21 rfl rfl rfl ?_
    refine mw_aload_n (v := vR 53) (pc' := 23) dX10_countStopped_22 rfl rfl (Or.inl rfl) rfl ?_
    refine mw_getP (v := 54) (pc' := 26) dX10_countStopped_23 rfl fr_RX10_9_53 rfl sp_53_2 ⟨by decide, by decide⟩ ?_
    refine mw_iload (pc' := 28) dX10_countStopped_26 rfl rfl ?_
    obtain ⟨o8, h⟩ := h
    refine mw_iald (pc' := 29) dX10_countStopped_28 rfl lk_54 ⟨by decide, by decide⟩ (by rw [ln_54]; exact o8) ?_
    refine mw_max (pc' := 32) dX10_countStopped_29 rfl bw_415 bw_416 bw_24 bw_417 (by decide) (by decide) (Nat.le_of_ble_eq_true rfl) ?_
    refine mw_istore (pc' := 34) (L' := [(0, vR 53), (1, vR 16), (2, vI x2), (3, vI x3), (4, vI x4), (5, vI x5), (6, vI x6), (7, vI (max x3 (d 54 x6)))]) dX10_countStopped_32 rfl (by decide) rfl ?_
    refine mw_iload (pc' := 36) dX10_countStopped_34 rfl rfl ?_
    refine mw_aload_n (v := vR 53) (pc' := 37) dX10_countStopped_36 rfl rfl (Or.inl rfl) rfl ?_
    refine mw_getP (v := 55) (pc' := 40) dX10_countStopped_37 rfl fr_RX10_15_53 rfl sp_53_3 ⟨by decide, by decide⟩ ?_
    refine mw_iload (pc' := 42) dX10_countStopped_40 rfl rfl ?_
    refine mw_iald (pc' := 43) dX10_countStopped_42 rfl lk_55 ⟨by decide, by decide⟩ (by rw [ln_55]; exact o8) ?_
    refine mw_min (pc' := 46) dX10_countStopped_43 rfl bw_446 bw_447 bw_24 bw_448 (by decide) (by decide) (Nat.le_of_ble_eq_true rfl) ?_
    refine mw_istore (pc' := 48) (L' := [(0, vR 53), (1, vR 16), (2, vI x2), (3, vI x3), (4, vI x4), (5, vI x5), (6, vI x6), (7, vI (max x3 (d 54 x6))), (8, vI (min x4 (d 55 x6)))]) dX10_countStopped_46 rfl (by decide) rfl ?_
    refine mw_iload (pc' := 50) dX10_countStopped_48 rfl rfl ?_
    refine mw_iconst (pc' := 51) dX10_countStopped_50 rfl ⟨by decide, by decide⟩ ?_
    refine mw_iload (pc' := 53) dX10_countStopped_51 rfl rfl ?_
    refine mw_iload (pc' := 55) dX10_countStopped_53 rfl rfl ?_
    obtain ⟨o10, h⟩ := h
    refine mw_isub (pc' := 56) dX10_countStopped_55 rfl o10 ?_
    refine mw_iconst (pc' := 57) dX10_countStopped_56 rfl ⟨by decide, by decide⟩ ?_
    obtain ⟨o11, h⟩ := h
    refine mw_iadd (pc' := 58) dX10_countStopped_57 rfl o11 ?_
    refine mw_max (pc' := 61) dX10_countStopped_58 rfl bw_415 bw_416 bw_24 bw_417 (by decide) (by decide) (Nat.le_of_ble_eq_true rfl) ?_
    obtain ⟨o12, h⟩ := h
    refine mw_iadd (pc' := 62) dX10_countStopped_61 rfl o12 ?_
    refine mw_istore (pc' := 64) (L' := [(0, vR 53), (1, vR 16), (2, vI x2), (3, vI x3), (4, vI x4), (5, vI (x5 + (max 0 (((min x4 (d 55 x6)) - (max x3 (d 54 x6))) + 1)))), (6, vI x6), (7, vI (max x3 (d 54 x6))), (8, vI (min x4 (d 55 x6)))]) dX10_countStopped_62 rfl (by decide) rfl ?_
    obtain ⟨o13, h⟩ := h
    refine mw_iinc (pc' := 67) (L' := [(0, vR 53), (1, vR 16), (2, vI x2), (3, vI x3), (4, vI x4), (5, vI (x5 + (max 0 (((min x4 (d 55 x6)) - (max x3 (d 54 x6))) + 1)))), (6, vI (x6 + 1)), (7, vI (max x3 (d 54 x6))), (8, vI (min x4 (d 55 x6)))]) dX10_countStopped_64 rfl rfl (by decide) o13 rfl ?_
    refine mw_goto (pc' := 0) (tgt := 12) dX10_countStopped_67 (by decide) ?_
    exact mw_loc (pc' := 0) [0, 1, 2, 3, 4, 5, 6] rfl h
def pX4_clear_h_1 (x1 : Int) (g : mG) (d : mD) (Q : mQ) : Prop := MW mX4_clear 0 0 2 [(0, vR 57), (1, vI x1)] [] g d Q
theorem eX4_clear_h {g : mG} {d : mD} {Q : mQ} (h : pX4_clear_h_1 0 g d Q) : MM mX4_clear [vR 57] g d Q := by
  refine MM_of (by decide) rfl (by simp [catV]) (Nat.le_of_ble_eq_true rfl) ?_
  show MW mX4_clear 0 0 0 [(0, vR 57)] [] g d Q
  refine mw_top (fun hT => ?_)
  have hG : 65 ≤ g.2.1 := hT.2
  refine mw_iconst (pc' := 1) dX4_clear_0 rfl ⟨by decide, by decide⟩ ?_
  refine mw_istore_n (pc' := 2) (L' := [(0, vR 57), (1, vI 0)]) dX4_clear_1 rfl rfl (by decide) rfl ?_
  exact h
theorem aX4_clear_h_1 {x1 : Int} {g : mG} {d : mD} {Q : mQ} (h : ((79 ≤ x1) → Q (.inl 0) g d) ∧ ((¬ (79 ≤ x1)) → (0 ≤ x1 ∧ x1 < 79) ∧ ((iI (x1 + 1)) ∧ (pX4_clear_h_1 (x1 + 1) g (ud d 57 x1 0) Q)))) : pX4_clear_h_1 x1 g d Q := by
  unfold pX4_clear_h_1
  refine mw_top (fun hT => ?_)
  have hG : 65 ≤ g.2.1 := hT.2
  refine mw_iload_n (pc' := 3) dX4_clear_2 rfl rfl rfl ?_
  refine mw_bipush (pc' := 5) dX4_clear_3 rfl ⟨by decide, by decide⟩ ?_
  refine mw_icmp_ge (tgt := 18) (pc' := 8) dX4_clear_5 rfl (by decide) (fun c1 => ?_) (fun c1 => ?_)
  · replace h := h.1 c1
    exact mw_vret (pc' := 0) (S := []) dX4_clear_18 rfl h
  · replace h := h.2 c1
    refine mw_aload_n (v := vR 57) (pc' := 9) dX4_clear_8 rfl rfl (Or.inl rfl) rfl ?_
    refine mw_iload_n (pc' := 10) dX4_clear_9 rfl rfl rfl ?_
    refine mw_lconst0 (pc' := 11) dX4_clear_10 rfl ?_
    obtain ⟨o2, h⟩ := h
    refine mw_last (pc' := 12) dX4_clear_11 rfl lk_57 ⟨by decide, by decide⟩ (by rw [ln_57]; exact o2) ?_
    obtain ⟨o3, h⟩ := h
    refine mw_iinc (pc' := 15) (L' := [(0, vR 57), (1, vI (x1 + 1))]) dX4_clear_12 rfl rfl (by decide) o3 rfl ?_
    refine mw_goto (pc' := 0) (tgt := 2) dX4_clear_15 (by decide) ?_
    exact h
def pX4_clear_s_1 (x1 : Int) (g : mG) (d : mD) (Q : mQ) : Prop := MW mX4_clear 0 0 2 [(0, vR 58), (1, vI x1)] [] g d Q
theorem eX4_clear_s {g : mG} {d : mD} {Q : mQ} (h : pX4_clear_s_1 0 g d Q) : MM mX4_clear [vR 58] g d Q := by
  refine MM_of (by decide) rfl (by simp [catV]) (Nat.le_of_ble_eq_true rfl) ?_
  show MW mX4_clear 0 0 0 [(0, vR 58)] [] g d Q
  refine mw_top (fun hT => ?_)
  have hG : 65 ≤ g.2.1 := hT.2
  refine mw_iconst (pc' := 1) dX4_clear_0 rfl ⟨by decide, by decide⟩ ?_
  refine mw_istore_n (pc' := 2) (L' := [(0, vR 58), (1, vI 0)]) dX4_clear_1 rfl rfl (by decide) rfl ?_
  exact h
theorem aX4_clear_s_1 {x1 : Int} {g : mG} {d : mD} {Q : mQ} (h : ((79 ≤ x1) → Q (.inl 0) g d) ∧ ((¬ (79 ≤ x1)) → (0 ≤ x1 ∧ x1 < 79) ∧ ((iI (x1 + 1)) ∧ (pX4_clear_s_1 (x1 + 1) g (ud d 58 x1 0) Q)))) : pX4_clear_s_1 x1 g d Q := by
  unfold pX4_clear_s_1
  refine mw_top (fun hT => ?_)
  have hG : 65 ≤ g.2.1 := hT.2
  refine mw_iload_n (pc' := 3) dX4_clear_2 rfl rfl rfl ?_
  refine mw_bipush (pc' := 5) dX4_clear_3 rfl ⟨by decide, by decide⟩ ?_
  refine mw_icmp_ge (tgt := 18) (pc' := 8) dX4_clear_5 rfl (by decide) (fun c1 => ?_) (fun c1 => ?_)
  · replace h := h.1 c1
    exact mw_vret (pc' := 0) (S := []) dX4_clear_18 rfl h
  · replace h := h.2 c1
    refine mw_aload_n (v := vR 58) (pc' := 9) dX4_clear_8 rfl rfl (Or.inl rfl) rfl ?_
    refine mw_iload_n (pc' := 10) dX4_clear_9 rfl rfl rfl ?_
    refine mw_lconst0 (pc' := 11) dX4_clear_10 rfl ?_
    obtain ⟨o2, h⟩ := h
    refine mw_last (pc' := 12) dX4_clear_11 rfl lk_58 ⟨by decide, by decide⟩ (by rw [ln_58]; exact o2) ?_
    obtain ⟨o3, h⟩ := h
    refine mw_iinc (pc' := 15) (L' := [(0, vR 58), (1, vI (x1 + 1))]) dX4_clear_12 rfl rfl (by decide) o3 rfl ?_
    refine mw_goto (pc' := 0) (tgt := 2) dX4_clear_15 (by decide) ?_
    exact h
def pX4_mark_h_1 (x1 x2 x3 : Int) (g : mG) (d : mD) (Q : mQ) : Prop := MW mX4_mark 0 0 14 [(0, vR 57), (1, vI x1), (2, vI x2), (3, vI x3)] [] g d Q
theorem eX4_mark_h {x1 x2 : Int} {g : mG} {d : mD} {Q : mQ} (h : (((x1 < 0) ∨ (¬ (x2 ≤ 4999))) → Q (.inl 0) g d) ∧ ((¬ ((x1 < 0) ∨ (¬ (x2 ≤ 4999)))) → pX4_mark_h_1 x1 x2 x1 g d Q)) : MM mX4_mark [vR 57, vI x1, vI x2] g d Q := by
  refine MM_of (by decide) rfl (by simp [catV]) (Nat.le_of_ble_eq_true rfl) ?_
  show MW mX4_mark 0 0 0 [(0, vR 57), (1, vI x1), (2, vI x2)] [] g d Q
  refine mw_top (fun hT => ?_)
  have hG : 65 ≤ g.2.1 := hT.2
  refine mw_iload_n (pc' := 1) dX4_mark_0 rfl rfl rfl ?_
  suffices k1 : (((x1 < 0) ∨ (¬ (x2 ≤ 4999))) → MW mX4_mark 0 0 11 [(0, vR 57), (1, vI x1), (2, vI x2)] [] g d Q) ∧ ((¬ ((x1 < 0) ∨ (¬ (x2 ≤ 4999)))) → MW mX4_mark 0 0 12 [(0, vR 57), (1, vI x1), (2, vI x2)] [] g d Q) by
    refine mw_if_lt (tgt := 11) (pc' := 4) dX4_mark_1 rfl (by decide) (fun c2 => ?_) (fun c2 => ?_)
    · exact k1.1 (Or.inl c2)
    · refine mw_iload_n (pc' := 5) dX4_mark_4 rfl rfl rfl ?_
      refine mw_sipush (pc' := 8) dX4_mark_5 rfl ⟨by decide, by decide⟩ ?_
      refine mw_icmp_le (tgt := 12) (pc' := 11) dX4_mark_8 rfl (by decide) (fun c3 => ?_) (fun c3 => ?_)
      · exact k1.2 (fun h => h.elim (fun q => (c2 q)) (fun h => (h c3)))
      · exact k1.1 (Or.inr c3)
  refine ⟨fun c4 => ?_, fun c4 => ?_⟩
  · replace h := h.1 c4
    exact mw_vret (pc' := 0) (S := []) dX4_mark_11 rfl h
  · replace h := h.2 c4
    refine mw_iload_n (pc' := 13) dX4_mark_12 rfl rfl rfl ?_
    refine mw_istore_n (pc' := 14) (L' := [(0, vR 57), (1, vI x1), (2, vI x2), (3, vI x1)]) dX4_mark_13 rfl rfl (by decide) rfl ?_
    exact h
theorem aX4_mark_h_1 {x1 x2 x3 : Int} {g : mG} {d : mD} {Q : mQ} (h : ((x2 < x3) → Q (.inl 0) g d) ∧ ((¬ (x2 < x3)) → (0 ≤ x3) ∧ (((x3 % 64 = 0) → iI (x3 + 64)) ∧ (((x3 % 64 = 0) → iI ((x3 + 64) - 1)) ∧ ((0 ≤ x3 / 64 ∧ x3 / 64 < 79) ∧ ((iI (x3 + (iT ((x3 % 64 = 0) ∧ (¬ (x2 < (x3 + 64) - 1))) 64 1))) ∧ (pX4_mark_h_1 x1 x2 (x3 + (iT ((x3 % 64 = 0) ∧ (¬ (x2 < (x3 + 64) - 1))) 64 1)) g (ud d 57 (x3 / 64) (lOr (d 57 (x3 / 64)) (iT ((x3 % 64 = 0) ∧ (¬ (x2 < (x3 + 64) - 1))) (-1) (lShl 1 (x3 % 64))))) Q))))))) : pX4_mark_h_1 x1 x2 x3 g d Q := by
  unfold pX4_mark_h_1
  refine mw_top (fun hT => ?_)
  have hG : 65 ≤ g.2.1 := hT.2
  refine mw_iload_n (pc' := 15) dX4_mark_14 rfl rfl rfl ?_
  refine mw_iload_n (pc' := 16) dX4_mark_15 rfl rfl rfl ?_
  refine mw_icmp_gt (tgt := 86) (pc' := 19) dX4_mark_16 rfl (by decide) (fun c8 => ?_) (fun c8 => ?_)
  · replace h := h.1 c8
    exact mw_vret (pc' := 0) (S := []) dX4_mark_86 rfl h
  · replace h := h.2 c8
    refine mw_iload_n (pc' := 20) dX4_mark_19 rfl rfl rfl ?_
    refine mw_bipush (pc' := 22) dX4_mark_20 rfl ⟨by decide, by decide⟩ ?_
    obtain ⟨o9, h⟩ := h
    refine mw_irem (pc' := 23) dX4_mark_22 rfl o9 (by decide) ?_
    obtain ⟨o10, h⟩ := h
    obtain ⟨o11, h⟩ := h
    suffices k12 : MW mX4_mark 0 0 41 [(0, vR 57), (1, vI x1), (2, vI x2), (3, vI x3)] [vI (bI ((x3 % 64 = 0) ∧ (¬ (x2 < (x3 + 64) - 1))))] g d Q by
      refine mw_if_ne (tgt := 40) (pc' := 26) dX4_mark_23 rfl (by decide) (fun c13 => ?_) (fun c13 => ?_)
      · refine mw_iconst (pc' := 41) dX4_mark_40 rfl ⟨by decide, by decide⟩ ?_
        exact mw_st (bI_f (fun h => (c13 h.1))).symm k12
      · refine mw_iload_n (pc' := 27) dX4_mark_26 rfl rfl rfl ?_
        refine mw_bipush (pc' := 29) dX4_mark_27 rfl ⟨by decide, by decide⟩ ?_
        refine mw_iadd (pc' := 30) dX4_mark_29 rfl (o10 c13) ?_
        refine mw_iconst (pc' := 31) dX4_mark_30 rfl ⟨by decide, by decide⟩ ?_
        refine mw_isub (pc' := 32) dX4_mark_31 rfl (o11 c13) ?_
        refine mw_iload_n (pc' := 33) dX4_mark_32 rfl rfl rfl ?_
        refine mw_icmp_gt (tgt := 40) (pc' := 36) dX4_mark_33 rfl (by decide) (fun c14 => ?_) (fun c14 => ?_)
        · refine mw_iconst (pc' := 41) dX4_mark_40 rfl ⟨by decide, by decide⟩ ?_
          exact mw_st (bI_f (fun h => (fun h => (h c14)) h.2)).symm k12
        · refine mw_iconst (pc' := 37) dX4_mark_36 rfl ⟨by decide, by decide⟩ ?_
          refine mw_goto (pc' := 0) (tgt := 41) dX4_mark_37 (by decide) ?_
          exact mw_st (bI_t ⟨c13, c14⟩).symm k12
    refine mw_istore (pc' := 43) (L' := [(0, vR 57), (1, vI x1), (2, vI x2), (3, vI x3), (4, vI (bI ((x3 % 64 = 0) ∧ (¬ (x2 < (x3 + 64) - 1)))))]) dX4_mark_41 rfl (by decide) rfl ?_
    refine mw_aload_n (v := vR 57) (pc' := 44) dX4_mark_43 rfl rfl (Or.inl rfl) rfl ?_
    refine mw_iload_n (pc' := 45) dX4_mark_44 rfl rfl rfl ?_
    refine mw_bipush (pc' := 47) dX4_mark_45 rfl ⟨by decide, by decide⟩ ?_
    refine mw_idiv (pc' := 48) dX4_mark_47 rfl o9 (by decide) ?_
    refine mw_dup2 (pc' := 49) dX4_mark_48 rfl rfl rfl ?_
    obtain ⟨o16, h⟩ := h
    refine mw_lald (pc' := 50) dX4_mark_49 rfl lk_57 ⟨by decide, by decide⟩ (by rw [ln_57]; exact o16) ?_
    refine mw_iload (pc' := 52) dX4_mark_50 rfl rfl ?_
    suffices k18 : MW mX4_mark 0 0 67 [(0, vR 57), (1, vI x1), (2, vI x2), (3, vI x3), (4, vI (bI ((x3 % 64 = 0) ∧ (¬ (x2 < (x3 + 64) - 1)))))] [vL (iT ((x3 % 64 = 0) ∧ (¬ (x2 < (x3 + 64) - 1))) (-1) (lShl 1 (x3 % 64))), vL (d 57 (x3 / 64)), vI (x3 / 64), vR 57] g d Q by
      refine mw_if_eq (tgt := 61) (pc' := 55) dX4_mark_52 rfl (by decide) (fun c19 => ?_) (fun c19 => ?_)
      · replace c19 := bI_0.mp c19
        refine mw_lconst1 (pc' := 62) dX4_mark_61 rfl ?_
        refine mw_iload_n (pc' := 63) dX4_mark_62 rfl rfl rfl ?_
        refine mw_bipush (pc' := 65) dX4_mark_63 rfl ⟨by decide, by decide⟩ ?_
        refine mw_irem (pc' := 66) dX4_mark_65 rfl o9 (by decide) ?_
        refine mw_lshl (pc' := 67) dX4_mark_66 rfl ?_
        exact mw_st (((iT_f c19).trans rfl)).symm k18
      · replace c19 := bI_n0.mp c19
        refine mw_ldc2 (n := (-1)) (pc' := 58) dX4_mark_55 rfl ((show (-1 : Int64) = Int64.ofInt (-1) by decide) ▸ bw_487) ⟨by decide, by decide⟩ ?_
        refine mw_goto (pc' := 0) (tgt := 67) dX4_mark_58 (by decide) ?_
        exact mw_st (((iT_t c19).trans rfl)).symm k18
    refine mw_lor (pc' := 68) dX4_mark_67 rfl ?_
    refine mw_last (pc' := 69) dX4_mark_68 rfl lk_57 ⟨by decide, by decide⟩ (by rw [ln_57]; exact o16) ?_
    refine mw_iload_n (pc' := 70) dX4_mark_69 rfl rfl rfl ?_
    refine mw_iload (pc' := 72) dX4_mark_70 rfl rfl ?_
    suffices k21 : MW mX4_mark 0 0 81 [(0, vR 57), (1, vI x1), (2, vI x2), (3, vI x3), (4, vI (bI ((x3 % 64 = 0) ∧ (¬ (x2 < (x3 + 64) - 1)))))] [vI (iT ((x3 % 64 = 0) ∧ (¬ (x2 < (x3 + 64) - 1))) 64 1), vI x3] g (ud d 57 (x3 / 64) (lOr (d 57 (x3 / 64)) (iT ((x3 % 64 = 0) ∧ (¬ (x2 < (x3 + 64) - 1))) (-1) (lShl 1 (x3 % 64))))) Q by
      refine mw_if_eq (tgt := 80) (pc' := 75) dX4_mark_72 rfl (by decide) (fun c22 => ?_) (fun c22 => ?_)
      · replace c22 := bI_0.mp c22
        refine mw_iconst (pc' := 81) dX4_mark_80 rfl ⟨by decide, by decide⟩ ?_
        exact mw_st (((iT_f c22).trans rfl)).symm k21
      · replace c22 := bI_n0.mp c22
        refine mw_bipush (pc' := 77) dX4_mark_75 rfl ⟨by decide, by decide⟩ ?_
        refine mw_goto (pc' := 0) (tgt := 81) dX4_mark_77 (by decide) ?_
        exact mw_st (((iT_t c22).trans rfl)).symm k21
    obtain ⟨o23, h⟩ := h
    refine mw_iadd (pc' := 82) dX4_mark_81 rfl o23 ?_
    refine mw_istore_n (pc' := 83) (L' := [(0, vR 57), (1, vI x1), (2, vI x2), (3, vI (x3 + (iT ((x3 % 64 = 0) ∧ (¬ (x2 < (x3 + 64) - 1))) 64 1))), (4, vI (bI ((x3 % 64 = 0) ∧ (¬ (x2 < (x3 + 64) - 1)))))]) dX4_mark_82 rfl rfl (by decide) rfl ?_
    refine mw_goto (pc' := 0) (tgt := 14) dX4_mark_83 (by decide) ?_
    exact mw_loc (pc' := 0) [0, 1, 2, 3] rfl h
def pX4_mark_s_1 (x1 x2 x3 : Int) (g : mG) (d : mD) (Q : mQ) : Prop := MW mX4_mark 0 0 14 [(0, vR 58), (1, vI x1), (2, vI x2), (3, vI x3)] [] g d Q
theorem eX4_mark_s {x1 x2 : Int} {g : mG} {d : mD} {Q : mQ} (h : (((x1 < 0) ∨ (¬ (x2 ≤ 4999))) → Q (.inl 0) g d) ∧ ((¬ ((x1 < 0) ∨ (¬ (x2 ≤ 4999)))) → pX4_mark_s_1 x1 x2 x1 g d Q)) : MM mX4_mark [vR 58, vI x1, vI x2] g d Q := by
  refine MM_of (by decide) rfl (by simp [catV]) (Nat.le_of_ble_eq_true rfl) ?_
  show MW mX4_mark 0 0 0 [(0, vR 58), (1, vI x1), (2, vI x2)] [] g d Q
  refine mw_top (fun hT => ?_)
  have hG : 65 ≤ g.2.1 := hT.2
  refine mw_iload_n (pc' := 1) dX4_mark_0 rfl rfl rfl ?_
  suffices k1 : (((x1 < 0) ∨ (¬ (x2 ≤ 4999))) → MW mX4_mark 0 0 11 [(0, vR 58), (1, vI x1), (2, vI x2)] [] g d Q) ∧ ((¬ ((x1 < 0) ∨ (¬ (x2 ≤ 4999)))) → MW mX4_mark 0 0 12 [(0, vR 58), (1, vI x1), (2, vI x2)] [] g d Q) by
    refine mw_if_lt (tgt := 11) (pc' := 4) dX4_mark_1 rfl (by decide) (fun c2 => ?_) (fun c2 => ?_)
    · exact k1.1 (Or.inl c2)
    · refine mw_iload_n (pc' := 5) dX4_mark_4 rfl rfl rfl ?_
      refine mw_sipush (pc' := 8) dX4_mark_5 rfl ⟨by decide, by decide⟩ ?_
      refine mw_icmp_le (tgt := 12) (pc' := 11) dX4_mark_8 rfl (by decide) (fun c3 => ?_) (fun c3 => ?_)
      · exact k1.2 (fun h => h.elim (fun q => (c2 q)) (fun h => (h c3)))
      · exact k1.1 (Or.inr c3)
  refine ⟨fun c4 => ?_, fun c4 => ?_⟩
  · replace h := h.1 c4
    exact mw_vret (pc' := 0) (S := []) dX4_mark_11 rfl h
  · replace h := h.2 c4
    refine mw_iload_n (pc' := 13) dX4_mark_12 rfl rfl rfl ?_
    refine mw_istore_n (pc' := 14) (L' := [(0, vR 58), (1, vI x1), (2, vI x2), (3, vI x1)]) dX4_mark_13 rfl rfl (by decide) rfl ?_
    exact h
theorem aX4_mark_s_1 {x1 x2 x3 : Int} {g : mG} {d : mD} {Q : mQ} (h : ((x2 < x3) → Q (.inl 0) g d) ∧ ((¬ (x2 < x3)) → (0 ≤ x3) ∧ (((x3 % 64 = 0) → iI (x3 + 64)) ∧ (((x3 % 64 = 0) → iI ((x3 + 64) - 1)) ∧ ((0 ≤ x3 / 64 ∧ x3 / 64 < 79) ∧ ((iI (x3 + (iT ((x3 % 64 = 0) ∧ (¬ (x2 < (x3 + 64) - 1))) 64 1))) ∧ (pX4_mark_s_1 x1 x2 (x3 + (iT ((x3 % 64 = 0) ∧ (¬ (x2 < (x3 + 64) - 1))) 64 1)) g (ud d 58 (x3 / 64) (lOr (d 58 (x3 / 64)) (iT ((x3 % 64 = 0) ∧ (¬ (x2 < (x3 + 64) - 1))) (-1) (lShl 1 (x3 % 64))))) Q))))))) : pX4_mark_s_1 x1 x2 x3 g d Q := by
  unfold pX4_mark_s_1
  refine mw_top (fun hT => ?_)
  have hG : 65 ≤ g.2.1 := hT.2
  refine mw_iload_n (pc' := 15) dX4_mark_14 rfl rfl rfl ?_
  refine mw_iload_n (pc' := 16) dX4_mark_15 rfl rfl rfl ?_
  refine mw_icmp_gt (tgt := 86) (pc' := 19) dX4_mark_16 rfl (by decide) (fun c8 => ?_) (fun c8 => ?_)
  · replace h := h.1 c8
    exact mw_vret (pc' := 0) (S := []) dX4_mark_86 rfl h
  · replace h := h.2 c8
    refine mw_iload_n (pc' := 20) dX4_mark_19 rfl rfl rfl ?_
    refine mw_bipush (pc' := 22) dX4_mark_20 rfl ⟨by decide, by decide⟩ ?_
    obtain ⟨o9, h⟩ := h
    refine mw_irem (pc' := 23) dX4_mark_22 rfl o9 (by decide) ?_
    obtain ⟨o10, h⟩ := h
    obtain ⟨o11, h⟩ := h
    suffices k12 : MW mX4_mark 0 0 41 [(0, vR 58), (1, vI x1), (2, vI x2), (3, vI x3)] [vI (bI ((x3 % 64 = 0) ∧ (¬ (x2 < (x3 + 64) - 1))))] g d Q by
      refine mw_if_ne (tgt := 40) (pc' := 26) dX4_mark_23 rfl (by decide) (fun c13 => ?_) (fun c13 => ?_)
      · refine mw_iconst (pc' := 41) dX4_mark_40 rfl ⟨by decide, by decide⟩ ?_
        exact mw_st (bI_f (fun h => (c13 h.1))).symm k12
      · refine mw_iload_n (pc' := 27) dX4_mark_26 rfl rfl rfl ?_
        refine mw_bipush (pc' := 29) dX4_mark_27 rfl ⟨by decide, by decide⟩ ?_
        refine mw_iadd (pc' := 30) dX4_mark_29 rfl (o10 c13) ?_
        refine mw_iconst (pc' := 31) dX4_mark_30 rfl ⟨by decide, by decide⟩ ?_
        refine mw_isub (pc' := 32) dX4_mark_31 rfl (o11 c13) ?_
        refine mw_iload_n (pc' := 33) dX4_mark_32 rfl rfl rfl ?_
        refine mw_icmp_gt (tgt := 40) (pc' := 36) dX4_mark_33 rfl (by decide) (fun c14 => ?_) (fun c14 => ?_)
        · refine mw_iconst (pc' := 41) dX4_mark_40 rfl ⟨by decide, by decide⟩ ?_
          exact mw_st (bI_f (fun h => (fun h => (h c14)) h.2)).symm k12
        · refine mw_iconst (pc' := 37) dX4_mark_36 rfl ⟨by decide, by decide⟩ ?_
          refine mw_goto (pc' := 0) (tgt := 41) dX4_mark_37 (by decide) ?_
          exact mw_st (bI_t ⟨c13, c14⟩).symm k12
    refine mw_istore (pc' := 43) (L' := [(0, vR 58), (1, vI x1), (2, vI x2), (3, vI x3), (4, vI (bI ((x3 % 64 = 0) ∧ (¬ (x2 < (x3 + 64) - 1)))))]) dX4_mark_41 rfl (by decide) rfl ?_
    refine mw_aload_n (v := vR 58) (pc' := 44) dX4_mark_43 rfl rfl (Or.inl rfl) rfl ?_
    refine mw_iload_n (pc' := 45) dX4_mark_44 rfl rfl rfl ?_
    refine mw_bipush (pc' := 47) dX4_mark_45 rfl ⟨by decide, by decide⟩ ?_
    refine mw_idiv (pc' := 48) dX4_mark_47 rfl o9 (by decide) ?_
    refine mw_dup2 (pc' := 49) dX4_mark_48 rfl rfl rfl ?_
    obtain ⟨o16, h⟩ := h
    refine mw_lald (pc' := 50) dX4_mark_49 rfl lk_58 ⟨by decide, by decide⟩ (by rw [ln_58]; exact o16) ?_
    refine mw_iload (pc' := 52) dX4_mark_50 rfl rfl ?_
    suffices k18 : MW mX4_mark 0 0 67 [(0, vR 58), (1, vI x1), (2, vI x2), (3, vI x3), (4, vI (bI ((x3 % 64 = 0) ∧ (¬ (x2 < (x3 + 64) - 1)))))] [vL (iT ((x3 % 64 = 0) ∧ (¬ (x2 < (x3 + 64) - 1))) (-1) (lShl 1 (x3 % 64))), vL (d 58 (x3 / 64)), vI (x3 / 64), vR 58] g d Q by
      refine mw_if_eq (tgt := 61) (pc' := 55) dX4_mark_52 rfl (by decide) (fun c19 => ?_) (fun c19 => ?_)
      · replace c19 := bI_0.mp c19
        refine mw_lconst1 (pc' := 62) dX4_mark_61 rfl ?_
        refine mw_iload_n (pc' := 63) dX4_mark_62 rfl rfl rfl ?_
        refine mw_bipush (pc' := 65) dX4_mark_63 rfl ⟨by decide, by decide⟩ ?_
        refine mw_irem (pc' := 66) dX4_mark_65 rfl o9 (by decide) ?_
        refine mw_lshl (pc' := 67) dX4_mark_66 rfl ?_
        exact mw_st (((iT_f c19).trans rfl)).symm k18
      · replace c19 := bI_n0.mp c19
        refine mw_ldc2 (n := (-1)) (pc' := 58) dX4_mark_55 rfl ((show (-1 : Int64) = Int64.ofInt (-1) by decide) ▸ bw_487) ⟨by decide, by decide⟩ ?_
        refine mw_goto (pc' := 0) (tgt := 67) dX4_mark_58 (by decide) ?_
        exact mw_st (((iT_t c19).trans rfl)).symm k18
    refine mw_lor (pc' := 68) dX4_mark_67 rfl ?_
    refine mw_last (pc' := 69) dX4_mark_68 rfl lk_58 ⟨by decide, by decide⟩ (by rw [ln_58]; exact o16) ?_
    refine mw_iload_n (pc' := 70) dX4_mark_69 rfl rfl rfl ?_
    refine mw_iload (pc' := 72) dX4_mark_70 rfl rfl ?_
    suffices k21 : MW mX4_mark 0 0 81 [(0, vR 58), (1, vI x1), (2, vI x2), (3, vI x3), (4, vI (bI ((x3 % 64 = 0) ∧ (¬ (x2 < (x3 + 64) - 1)))))] [vI (iT ((x3 % 64 = 0) ∧ (¬ (x2 < (x3 + 64) - 1))) 64 1), vI x3] g (ud d 58 (x3 / 64) (lOr (d 58 (x3 / 64)) (iT ((x3 % 64 = 0) ∧ (¬ (x2 < (x3 + 64) - 1))) (-1) (lShl 1 (x3 % 64))))) Q by
      refine mw_if_eq (tgt := 80) (pc' := 75) dX4_mark_72 rfl (by decide) (fun c22 => ?_) (fun c22 => ?_)
      · replace c22 := bI_0.mp c22
        refine mw_iconst (pc' := 81) dX4_mark_80 rfl ⟨by decide, by decide⟩ ?_
        exact mw_st (((iT_f c22).trans rfl)).symm k21
      · replace c22 := bI_n0.mp c22
        refine mw_bipush (pc' := 77) dX4_mark_75 rfl ⟨by decide, by decide⟩ ?_
        refine mw_goto (pc' := 0) (tgt := 81) dX4_mark_77 (by decide) ?_
        exact mw_st (((iT_t c22).trans rfl)).symm k21
    obtain ⟨o23, h⟩ := h
    refine mw_iadd (pc' := 82) dX4_mark_81 rfl o23 ?_
    refine mw_istore_n (pc' := 83) (L' := [(0, vR 58), (1, vI x1), (2, vI x2), (3, vI (x3 + (iT ((x3 % 64 = 0) ∧ (¬ (x2 < (x3 + 64) - 1))) 64 1))), (4, vI (bI ((x3 % 64 = 0) ∧ (¬ (x2 < (x3 + 64) - 1)))))]) dX4_mark_82 rfl rfl (by decide) rfl ?_
    refine mw_goto (pc' := 0) (tgt := 14) dX4_mark_83 (by decide) ?_
    exact mw_loc (pc' := 0) [0, 1, 2, 3] rfl h
theorem eX4_isMarked_h {x1 : Int} {g : mG} {d : mD} {Q : mQ} (h : (((¬ (x1 < 0)) ∧ (¬ (4999 < x1))) → 0 ≤ x1) ∧ ((((¬ (x1 < 0)) ∧ (¬ (4999 < x1))) → 0 ≤ x1 / 64 ∧ x1 / 64 < 79) ∧ (Q (.inl (bI (((¬ (x1 < 0)) ∧ (¬ (4999 < x1))) ∧ (lCmp (lAnd (lShu (d 57 (x1 / 64)) (x1 % 64)) 1) 1 = 0)))) g d))) : MM mX4_isMarked [vR 57, vI x1] g d Q := by
  refine MM_of (by decide) rfl (by simp [catV]) (Nat.le_of_ble_eq_true rfl) ?_
  show MW mX4_isMarked 0 0 0 [(0, vR 57), (1, vI x1)] [] g d Q
  refine mw_top (fun hT => ?_)
  have hG : 65 ≤ g.2.1 := hT.2
  refine mw_iload_n (pc' := 1) dX4_isMarked_0 rfl rfl rfl ?_
  refine mw_callS (M' := mX11_isDay) (A := [vI x1]) (S := []) (pc' := 4) dX4_isMarked_1 rfl cl_RX4_68 cm_X11_isDay cs_X11_isDay ⟨by decide, by decide, by decide, by decide, by decide⟩ rfl rfl (Nat.le_of_ble_eq_true rfl) (eX11_isDay ?_)
  show MW mX4_isMarked 0 0 4 [(0, vR 57), (1, vI x1)] [vI (bI ((¬ (x1 < 0)) ∧ (¬ (4999 < x1))))] g d Q
  obtain ⟨o1, h⟩ := h
  obtain ⟨o2, h⟩ := h
  suffices k4 : MW mX4_isMarked 0 0 30 [(0, vR 57), (1, vI x1)] [vI (bI (((¬ (x1 < 0)) ∧ (¬ (4999 < x1))) ∧ (lCmp (lAnd (lShu (d 57 (x1 / 64)) (x1 % 64)) 1) 1 = 0)))] g d Q by
    refine mw_if_eq (tgt := 29) (pc' := 7) dX4_isMarked_4 rfl (by decide) (fun c5 => ?_) (fun c5 => ?_)
    · replace c5 := bI_0.mp c5
      refine mw_iconst (pc' := 30) dX4_isMarked_29 rfl ⟨by decide, by decide⟩ ?_
      exact mw_st (bI_f (fun h => (c5 h.1))).symm k4
    · replace c5 := bI_n0.mp c5
      refine mw_aload_n (v := vR 57) (pc' := 8) dX4_isMarked_7 rfl rfl (Or.inl rfl) rfl ?_
      refine mw_iload_n (pc' := 9) dX4_isMarked_8 rfl rfl rfl ?_
      refine mw_bipush (pc' := 11) dX4_isMarked_9 rfl ⟨by decide, by decide⟩ ?_
      refine mw_idiv (pc' := 12) dX4_isMarked_11 rfl (o1 c5) (by decide) ?_
      refine mw_lald (pc' := 13) dX4_isMarked_12 rfl lk_57 ⟨by decide, by decide⟩ (by rw [ln_57]; exact (o2 c5)) ?_
      refine mw_iload_n (pc' := 14) dX4_isMarked_13 rfl rfl rfl ?_
      refine mw_bipush (pc' := 16) dX4_isMarked_14 rfl ⟨by decide, by decide⟩ ?_
      refine mw_irem (pc' := 17) dX4_isMarked_16 rfl (o1 c5) (by decide) ?_
      refine mw_lushr (pc' := 18) dX4_isMarked_17 rfl ?_
      refine mw_lconst1 (pc' := 19) dX4_isMarked_18 rfl ?_
      refine mw_land (pc' := 20) dX4_isMarked_19 rfl ?_
      refine mw_lconst1 (pc' := 21) dX4_isMarked_20 rfl ?_
      refine mw_lcmp (pc' := 22) dX4_isMarked_21 rfl ?_
      refine mw_if_ne (tgt := 29) (pc' := 25) dX4_isMarked_22 rfl (by decide) (fun c6 => ?_) (fun c6 => ?_)
      · refine mw_iconst (pc' := 30) dX4_isMarked_29 rfl ⟨by decide, by decide⟩ ?_
        exact mw_st (bI_f (fun h => (fun h => (c6 h)) h.2)).symm k4
      · refine mw_iconst (pc' := 26) dX4_isMarked_25 rfl ⟨by decide, by decide⟩ ?_
        refine mw_goto (pc' := 0) (tgt := 30) dX4_isMarked_26 (by decide) ?_
        exact mw_st (bI_t ⟨c5, c6⟩).symm k4
  exact mw_iret (pc' := 0) (S := []) dX4_isMarked_30 rfl (Or.inr (Or.inl ⟨rfl, bI_rng⟩)) h
theorem eX4_isMarked_s {x1 : Int} {g : mG} {d : mD} {Q : mQ} (h : (((¬ (x1 < 0)) ∧ (¬ (4999 < x1))) → 0 ≤ x1) ∧ ((((¬ (x1 < 0)) ∧ (¬ (4999 < x1))) → 0 ≤ x1 / 64 ∧ x1 / 64 < 79) ∧ (Q (.inl (bI (((¬ (x1 < 0)) ∧ (¬ (4999 < x1))) ∧ (lCmp (lAnd (lShu (d 58 (x1 / 64)) (x1 % 64)) 1) 1 = 0)))) g d))) : MM mX4_isMarked [vR 58, vI x1] g d Q := by
  refine MM_of (by decide) rfl (by simp [catV]) (Nat.le_of_ble_eq_true rfl) ?_
  show MW mX4_isMarked 0 0 0 [(0, vR 58), (1, vI x1)] [] g d Q
  refine mw_top (fun hT => ?_)
  have hG : 65 ≤ g.2.1 := hT.2
  refine mw_iload_n (pc' := 1) dX4_isMarked_0 rfl rfl rfl ?_
  refine mw_callS (M' := mX11_isDay) (A := [vI x1]) (S := []) (pc' := 4) dX4_isMarked_1 rfl cl_RX4_68 cm_X11_isDay cs_X11_isDay ⟨by decide, by decide, by decide, by decide, by decide⟩ rfl rfl (Nat.le_of_ble_eq_true rfl) (eX11_isDay ?_)
  show MW mX4_isMarked 0 0 4 [(0, vR 58), (1, vI x1)] [vI (bI ((¬ (x1 < 0)) ∧ (¬ (4999 < x1))))] g d Q
  obtain ⟨o1, h⟩ := h
  obtain ⟨o2, h⟩ := h
  suffices k4 : MW mX4_isMarked 0 0 30 [(0, vR 58), (1, vI x1)] [vI (bI (((¬ (x1 < 0)) ∧ (¬ (4999 < x1))) ∧ (lCmp (lAnd (lShu (d 58 (x1 / 64)) (x1 % 64)) 1) 1 = 0)))] g d Q by
    refine mw_if_eq (tgt := 29) (pc' := 7) dX4_isMarked_4 rfl (by decide) (fun c5 => ?_) (fun c5 => ?_)
    · replace c5 := bI_0.mp c5
      refine mw_iconst (pc' := 30) dX4_isMarked_29 rfl ⟨by decide, by decide⟩ ?_
      exact mw_st (bI_f (fun h => (c5 h.1))).symm k4
    · replace c5 := bI_n0.mp c5
      refine mw_aload_n (v := vR 58) (pc' := 8) dX4_isMarked_7 rfl rfl (Or.inl rfl) rfl ?_
      refine mw_iload_n (pc' := 9) dX4_isMarked_8 rfl rfl rfl ?_
      refine mw_bipush (pc' := 11) dX4_isMarked_9 rfl ⟨by decide, by decide⟩ ?_
      refine mw_idiv (pc' := 12) dX4_isMarked_11 rfl (o1 c5) (by decide) ?_
      refine mw_lald (pc' := 13) dX4_isMarked_12 rfl lk_58 ⟨by decide, by decide⟩ (by rw [ln_58]; exact (o2 c5)) ?_
      refine mw_iload_n (pc' := 14) dX4_isMarked_13 rfl rfl rfl ?_
      refine mw_bipush (pc' := 16) dX4_isMarked_14 rfl ⟨by decide, by decide⟩ ?_
      refine mw_irem (pc' := 17) dX4_isMarked_16 rfl (o1 c5) (by decide) ?_
      refine mw_lushr (pc' := 18) dX4_isMarked_17 rfl ?_
      refine mw_lconst1 (pc' := 19) dX4_isMarked_18 rfl ?_
      refine mw_land (pc' := 20) dX4_isMarked_19 rfl ?_
      refine mw_lconst1 (pc' := 21) dX4_isMarked_20 rfl ?_
      refine mw_lcmp (pc' := 22) dX4_isMarked_21 rfl ?_
      refine mw_if_ne (tgt := 29) (pc' := 25) dX4_isMarked_22 rfl (by decide) (fun c6 => ?_) (fun c6 => ?_)
      · refine mw_iconst (pc' := 30) dX4_isMarked_29 rfl ⟨by decide, by decide⟩ ?_
        exact mw_st (bI_f (fun h => (fun h => (c6 h)) h.2)).symm k4
      · refine mw_iconst (pc' := 26) dX4_isMarked_25 rfl ⟨by decide, by decide⟩ ?_
        refine mw_goto (pc' := 0) (tgt := 30) dX4_isMarked_26 (by decide) ?_
        exact mw_st (bI_t ⟨c5, c6⟩).symm k4
  exact mw_iret (pc' := 0) (S := []) dX4_isMarked_30 rfl (Or.inr (Or.inl ⟨rfl, bI_rng⟩)) h
