def pX10_dayOfCount_1 (x1 x2 x3 x4 x5 x6 : Int) (g : mG) (d : mD) (Q : mQ) : Prop := MW mX10_dayOfCount 0 0 9 [(0, vR 53), (1, vI x1), (2, vI x2), (3, vI x3), (4, vI x4), (5, vI x5), (6, vI x6)] [] g d Q
theorem eX10_dayOfCount {x1 x2 x3 : Int} {g : mG} {d : mD} {Q : mQ} (h : pX10_dayOfCount_1 x1 x2 x3 x1 x2 0 g d Q) : MM mX10_dayOfCount [vR 53, vI x1, vI x2, vI x3] g d Q := by
  refine MM_of (by decide) rfl (by simp [catV]) (Nat.le_of_ble_eq_true rfl) ?_
  show MW mX10_dayOfCount 0 0 0 [(0, vR 53), (1, vI x1), (2, vI x2), (3, vI x3)] [] g d Q
  refine mw_top (fun hT => ?_)
  have hG : 65 ≤ g.2.1 := hT.2
  refine mw_iload_n (pc' := 1) dX10_dayOfCount_0 rfl rfl rfl ?_
  refine mw_istore (pc' := 3) (L' := [(0, vR 53), (1, vI x1), (2, vI x2), (3, vI x3), (4, vI x1)]) dX10_dayOfCount_1 rfl (by decide) rfl ?_
  refine mw_iload_n (pc' := 4) dX10_dayOfCount_3 rfl rfl rfl ?_
  refine mw_istore (pc' := 6) (L' := [(0, vR 53), (1, vI x1), (2, vI x2), (3, vI x3), (4, vI x1), (5, vI x2)]) dX10_dayOfCount_4 rfl (by decide) rfl ?_
  refine mw_iconst (pc' := 7) dX10_dayOfCount_6 rfl ⟨by decide, by decide⟩ ?_
  refine mw_istore (pc' := 9) (L' := [(0, vR 53), (1, vI x1), (2, vI x2), (3, vI x3), (4, vI x1), (5, vI x2), (6, vI 0)]) dX10_dayOfCount_7 rfl (by decide) rfl ?_
  exact h
theorem aX10_dayOfCount_1 {R : rW} {x1 x2 x3 x4 x5 x6 : Int} {g : mG} {d : mD} {Q : mQ} (h : ((d 53 4 < x6) → Q (.inl 5000) g d) ∧ ((¬ (d 53 4 < x6)) → ((¬ (d 53 4 ≤ x6)) → 0 ≤ x6 ∧ x6 < 12) ∧ (((¬ (d 53 4 ≤ x6)) → iI ((d 54 x6) - 1)) ∧ (((x3 = 0) → iI ((iT (d 53 4 ≤ x6) 4999 ((d 54 x6) - 1)) - x4)) ∧ (((x3 = 0) → iI (((iT (d 53 4 ≤ x6) 4999 ((d 54 x6) - 1)) - x4) + 1)) ∧ (((¬ (x3 = 0)) → CI d R) ∧ (((¬ (x3 = 0)) → 0 ≤ x4 ∧ x4 ≤ 5001) ∧ (((¬ (x3 = 0)) → -1 ≤ (iT (d 53 4 ≤ x6) 4999 ((d 54 x6) - 1)) ∧ (iT (d 53 4 ≤ x6) 4999 ((d 54 x6) - 1)) ≤ 4999) ∧ (((iT (x3 = 0) (max 0 (((iT (d 53 4 ≤ x6) 4999 ((d 54 x6) - 1)) - x4) + 1)) (cn (court R) x4 (iT (d 53 4 ≤ x6) 4999 ((d 54 x6) - 1))) < x5) → (iI (x5 - (iT (x3 = 0) (max 0 (((iT (d 53 4 ≤ x6) 4999 ((d 54 x6) - 1)) - x4) + 1)) (cn (court R) x4 (iT (d 53 4 ≤ x6) 4999 ((d 54 x6) - 1)))))) ∧ (((¬ (d 53 4 ≤ x6)) → iI ((d 55 x6) + 1)) ∧ ((iI (x6 + 1)) ∧ (pX10_dayOfCount_1 x1 x2 x3 (iT (d 53 4 ≤ x6) 5000 (max x4 ((d 55 x6) + 1))) (x5 - (iT (x3 = 0) (max 0 (((iT (d 53 4 ≤ x6) 4999 ((d 54 x6) - 1)) - x4) + 1)) (cn (court R) x4 (iT (d 53 4 ≤ x6) 4999 ((d 54 x6) - 1))))) (x6 + 1) g d Q)))) ∧ ((¬ (iT (x3 = 0) (max 0 (((iT (d 53 4 ≤ x6) 4999 ((d 54 x6) - 1)) - x4) + 1)) (cn (court R) x4 (iT (d 53 4 ≤ x6) 4999 ((d 54 x6) - 1))) < x5)) → ((x3 = 0) → iI (x4 + x5)) ∧ (((x3 = 0) → iI ((x4 + x5) - 1)) ∧ (((¬ (x3 = 0)) → 0 ≤ x4 ∧ x4 ≤ 5000) ∧ (((¬ (x3 = 0)) → 1 ≤ x5 ∧ x5 ≤ 200) ∧ (Q (.inl (iT (x3 = 0) ((x4 + x5) - 1) (fd (fun x => x5 ≤ cn (court R) x4 x) x4))) g d)))))))))))))) : pX10_dayOfCount_1 x1 x2 x3 x4 x5 x6 g d Q := by
  unfold pX10_dayOfCount_1
  refine mw_top (fun hT => ?_)
  have hG : 65 ≤ g.2.1 := hT.2
  refine mw_iload (pc' := 11) dX10_dayOfCount_9 rfl rfl ?_
  refine mw_aload_n (v := vR 53) (pc' := 12) dX10_dayOfCount_11 rfl rfl (Or.inl rfl) rfl ?_
  refine mw_getI (ji := 4) (pc' := 15) dX10_dayOfCount_12 rfl fi_RX10_26_53 rfl ⟨by decide, by decide⟩ ?_
  refine mw_icmp_gt (tgt := 86) (pc' := 18) dX10_dayOfCount_15 rfl (by decide) (fun c15 => ?_) (fun c15 => ?_)
  · replace h := h.1 c15
    refine mw_sipush (pc' := 89) dX10_dayOfCount_86 rfl ⟨by decide, by decide⟩ ?_
    exact mw_iret (pc' := 0) (S := []) dX10_dayOfCount_89 rfl (Or.inl rfl) h
  · replace h := h.2 c15
    refine mw_aload_n (v := vR 53) (pc' := 19) dX10_dayOfCount_18 rfl rfl (Or.inl rfl) rfl ?_
    refine mw_iload (pc' := 21) dX10_dayOfCount_19 rfl rfl ?_
    refine mw_aload_n (v := vR 53) (pc' := 22) dX10_dayOfCount_21 rfl rfl (Or.inl rfl) rfl ?_
    refine mw_iload (pc' := 24) dX10_dayOfCount_22 rfl rfl ?_
    obtain ⟨o16, h⟩ := h
    obtain ⟨o17, h⟩ := h
    refine mw_callV (M' := mX10_lastDayOfGap) (A := [vI x6]) (A' := [vR 53, vI x6]) (S := [vI x4, vR 53]) (a := 53) (pc' := 27) dX10_dayOfCount_24 rfl cl_RX10_94 cm_X10_lastDayOfGap cv_X10_lastDayOfGap ⟨by decide, by decide, by decide, by decide, by decide⟩ rfl rfl rfl ⟨by decide, by omega⟩ (by decide +kernel) (by decide +kernel) (Nat.le_of_ble_eq_true rfl) (eX10_lastDayOfGap (⟨o16, o17, ?_⟩))
    show MW mX10_dayOfCount 0 0 27 [(0, vR 53), (1, vI x1), (2, vI x2), (3, vI x3), (4, vI x4), (5, vI x5), (6, vI x6)] [vI (iT (d 53 4 ≤ x6) 4999 ((d 54 x6) - 1)), vI x4, vR 53] g d Q
    refine mw_iload_n (pc' := 28) dX10_dayOfCount_27 rfl rfl rfl ?_
    obtain ⟨o18, h⟩ := h
    obtain ⟨o19, h⟩ := h
    obtain ⟨o20, h⟩ := h
    obtain ⟨o21, h⟩ := h
    obtain ⟨o22, h⟩ := h
    refine mw_callV (M' := mX10_countDays) (A := [vI x4, vI (iT (d 53 4 ≤ x6) 4999 ((d 54 x6) - 1)), vI x3]) (A' := [vR 53, vI x4, vI (iT (d 53 4 ≤ x6) 4999 ((d 54 x6) - 1)), vI x3]) (S := []) (a := 53) (pc' := 31) dX10_dayOfCount_28 rfl cl_RX10_97 cm_X10_countDays cv_X10_countDays ⟨by decide, by decide, by decide, by decide, by decide⟩ rfl rfl rfl ⟨by decide, by omega⟩ (by decide +kernel) (by decide +kernel) (Nat.le_of_ble_eq_true rfl) (eX10_countDays (⟨o18, o19, o20, o21, o22, ?_⟩))
    show MW mX10_dayOfCount 0 0 31 [(0, vR 53), (1, vI x1), (2, vI x2), (3, vI x3), (4, vI x4), (5, vI x5), (6, vI x6)] [vI (iT (x3 = 0) (max 0 (((iT (d 53 4 ≤ x6) 4999 ((d 54 x6) - 1)) - x4) + 1)) (cn (court R) x4 (iT (d 53 4 ≤ x6) 4999 ((d 54 x6) - 1))))] g d Q
    refine mw_istore (pc' := 33) (L' := [(0, vR 53), (1, vI x1), (2, vI x2), (3, vI x3), (4, vI x4), (5, vI x5), (6, vI x6), (7, vI (iT (x3 = 0) (max 0 (((iT (d 53 4 ≤ x6) 4999 ((d 54 x6) - 1)) - x4) + 1)) (cn (court R) x4 (iT (d 53 4 ≤ x6) 4999 ((d 54 x6) - 1)))))]) dX10_dayOfCount_31 rfl (by decide) rfl ?_
    refine mw_iload (pc' := 35) dX10_dayOfCount_33 rfl rfl ?_
    refine mw_iload (pc' := 37) dX10_dayOfCount_35 rfl rfl ?_
    refine mw_icmp_lt (tgt := 63) (pc' := 40) dX10_dayOfCount_37 rfl (by decide) (fun c30 => ?_) (fun c30 => ?_)
    · replace h := h.1 c30
      refine mw_iload (pc' := 65) dX10_dayOfCount_63 rfl rfl ?_
      refine mw_iload (pc' := 67) dX10_dayOfCount_65 rfl rfl ?_
      obtain ⟨o31, h⟩ := h
      refine mw_isub (pc' := 68) dX10_dayOfCount_67 rfl o31 ?_
      refine mw_istore (pc' := 70) (L' := [(0, vR 53), (1, vI x1), (2, vI x2), (3, vI x3), (4, vI x4), (5, vI (x5 - (iT (x3 = 0) (max 0 (((iT (d 53 4 ≤ x6) 4999 ((d 54 x6) - 1)) - x4) + 1)) (cn (court R) x4 (iT (d 53 4 ≤ x6) 4999 ((d 54 x6) - 1)))))), (6, vI x6), (7, vI (iT (x3 = 0) (max 0 (((iT (d 53 4 ≤ x6) 4999 ((d 54 x6) - 1)) - x4) + 1)) (cn (court R) x4 (iT (d 53 4 ≤ x6) 4999 ((d 54 x6) - 1)))))]) dX10_dayOfCount_68 rfl (by decide) rfl ?_
      refine mw_aload_n (v := vR 53) (pc' := 71) dX10_dayOfCount_70 rfl rfl (Or.inl rfl) rfl ?_
      refine mw_iload (pc' := 73) dX10_dayOfCount_71 rfl rfl ?_
      refine mw_iload (pc' := 75) dX10_dayOfCount_73 rfl rfl ?_
      obtain ⟨o33, h⟩ := h
      refine mw_callV (M' := mX10_dayBehindRange) (A := [vI x6, vI x4]) (A' := [vR 53, vI x6, vI x4]) (S := []) (a := 53) (pc' := 78) dX10_dayOfCount_75 rfl cl_RX10_103 cm_X10_dayBehindRange cv_X10_dayBehindRange ⟨by decide, by decide, by decide, by decide, by decide⟩ rfl rfl rfl ⟨by decide, by omega⟩ (by decide +kernel) (by decide +kernel) (Nat.le_of_ble_eq_true rfl) (eX10_dayBehindRange (⟨o16, o33, ?_⟩))
      show MW mX10_dayOfCount 0 0 78 [(0, vR 53), (1, vI x1), (2, vI x2), (3, vI x3), (4, vI x4), (5, vI (x5 - (iT (x3 = 0) (max 0 (((iT (d 53 4 ≤ x6) 4999 ((d 54 x6) - 1)) - x4) + 1)) (cn (court R) x4 (iT (d 53 4 ≤ x6) 4999 ((d 54 x6) - 1)))))), (6, vI x6), (7, vI (iT (x3 = 0) (max 0 (((iT (d 53 4 ≤ x6) 4999 ((d 54 x6) - 1)) - x4) + 1)) (cn (court R) x4 (iT (d 53 4 ≤ x6) 4999 ((d 54 x6) - 1)))))] [vI (iT (d 53 4 ≤ x6) 5000 (max x4 ((d 55 x6) + 1)))] g d Q
      refine mw_istore (pc' := 80) (L' := [(0, vR 53), (1, vI x1), (2, vI x2), (3, vI x3), (4, vI (iT (d 53 4 ≤ x6) 5000 (max x4 ((d 55 x6) + 1)))), (5, vI (x5 - (iT (x3 = 0) (max 0 (((iT (d 53 4 ≤ x6) 4999 ((d 54 x6) - 1)) - x4) + 1)) (cn (court R) x4 (iT (d 53 4 ≤ x6) 4999 ((d 54 x6) - 1)))))), (6, vI x6), (7, vI (iT (x3 = 0) (max 0 (((iT (d 53 4 ≤ x6) 4999 ((d 54 x6) - 1)) - x4) + 1)) (cn (court R) x4 (iT (d 53 4 ≤ x6) 4999 ((d 54 x6) - 1)))))]) dX10_dayOfCount_78 rfl (by decide) rfl ?_
      obtain ⟨o34, h⟩ := h
      refine mw_iinc (pc' := 83) (L' := [(0, vR 53), (1, vI x1), (2, vI x2), (3, vI x3), (4, vI (iT (d 53 4 ≤ x6) 5000 (max x4 ((d 55 x6) + 1)))), (5, vI (x5 - (iT (x3 = 0) (max 0 (((iT (d 53 4 ≤ x6) 4999 ((d 54 x6) - 1)) - x4) + 1)) (cn (court R) x4 (iT (d 53 4 ≤ x6) 4999 ((d 54 x6) - 1)))))), (6, vI (x6 + 1)), (7, vI (iT (x3 = 0) (max 0 (((iT (d 53 4 ≤ x6) 4999 ((d 54 x6) - 1)) - x4) + 1)) (cn (court R) x4 (iT (d 53 4 ≤ x6) 4999 ((d 54 x6) - 1)))))]) dX10_dayOfCount_80 rfl rfl (by decide) o34 rfl ?_
      refine mw_goto (pc' := 0) (tgt := 9) dX10_dayOfCount_83 (by decide) ?_
      exact mw_loc (pc' := 0) [0, 1, 2, 3, 4, 5, 6] rfl h
    · replace h := h.2 c30
      refine mw_iload_n (pc' := 41) dX10_dayOfCount_40 rfl rfl rfl ?_
      obtain ⟨o35, h⟩ := h
      obtain ⟨o36, h⟩ := h
      obtain ⟨o38, h⟩ := h
      obtain ⟨o39, h⟩ := h
      suffices k40 : MW mX10_dayOfCount 0 0 62 [(0, vR 53), (1, vI x1), (2, vI x2), (3, vI x3), (4, vI x4), (5, vI x5), (6, vI x6), (7, vI (iT (x3 = 0) (max 0 (((iT (d 53 4 ≤ x6) 4999 ((d 54 x6) - 1)) - x4) + 1)) (cn (court R) x4 (iT (d 53 4 ≤ x6) 4999 ((d 54 x6) - 1)))))] [vI (iT (x3 = 0) ((x4 + x5) - 1) (fd (fun x => x5 ≤ cn (court R) x4 x) x4))] g d Q by
        refine mw_if_eq (tgt := 55) (pc' := 44) dX10_dayOfCount_41 rfl (by decide) (fun c41 => ?_) (fun c41 => ?_)
        · refine mw_iload (pc' := 57) dX10_dayOfCount_55 rfl rfl ?_
          refine mw_iload (pc' := 59) dX10_dayOfCount_57 rfl rfl ?_
          refine mw_iadd (pc' := 60) dX10_dayOfCount_59 rfl (o35 c41) ?_
          refine mw_iconst (pc' := 61) dX10_dayOfCount_60 rfl ⟨by decide, by decide⟩ ?_
          refine mw_isub (pc' := 62) dX10_dayOfCount_61 rfl (o36 c41) ?_
          exact mw_st (((iT_t c41).trans rfl)).symm k40
        · refine mw_aload_n (v := vR 53) (pc' := 45) dX10_dayOfCount_44 rfl rfl (Or.inl rfl) rfl ?_
          refine mw_iload (pc' := 47) dX10_dayOfCount_45 rfl rfl ?_
          refine mw_iload (pc' := 49) dX10_dayOfCount_47 rfl rfl ?_
          refine mw_callV (M' := mX10_courtDayOfCount) (A := [vI x4, vI x5]) (A' := [vR 53, vI x4, vI x5]) (S := []) (a := 53) (pc' := 52) dX10_dayOfCount_49 rfl cl_RX10_100 cm_X10_courtDayOfCount cv_X10_courtDayOfCount ⟨by decide, by decide, by decide, by decide, by decide⟩ rfl rfl rfl ⟨by decide, by omega⟩ (by decide +kernel) (by decide +kernel) (Nat.le_of_ble_eq_true rfl) (f_courtDayOfCount (⟨(o20 c41), (o38 c41), (o39 c41), ?_⟩))
          show MW mX10_dayOfCount 0 0 52 [(0, vR 53), (1, vI x1), (2, vI x2), (3, vI x3), (4, vI x4), (5, vI x5), (6, vI x6), (7, vI (iT (x3 = 0) (max 0 (((iT (d 53 4 ≤ x6) 4999 ((d 54 x6) - 1)) - x4) + 1)) (cn (court R) x4 (iT (d 53 4 ≤ x6) 4999 ((d 54 x6) - 1)))))] [vI (fd (fun x => x5 ≤ cn (court R) x4 x) x4)] g d Q
          refine mw_goto (pc' := 0) (tgt := 62) dX10_dayOfCount_52 (by decide) ?_
          exact mw_st (((iT_f c41).trans rfl)).symm k40
      exact mw_iret (pc' := 0) (S := []) dX10_dayOfCount_62 rfl (Or.inl rfl) h
def pX10_countFree_1 (x1 x2 x3 x4 x5 x6 : Int) (g : mG) (d : mD) (Q : mQ) : Prop := MW mX10_countFree 0 0 9 [(0, vR 53), (1, vI x1), (2, vI x2), (3, vI x3), (4, vI x4), (5, vI x5), (6, vI x6)] [] g d Q
theorem eX10_countFree {x1 x2 x3 : Int} {g : mG} {d : mD} {Q : mQ} (h : pX10_countFree_1 x1 x2 x3 0 x1 0 g d Q) : MM mX10_countFree [vR 53, vI x1, vI x2, vI x3] g d Q := by
  refine MM_of (by decide) rfl (by simp [catV]) (Nat.le_of_ble_eq_true rfl) ?_
  show MW mX10_countFree 0 0 0 [(0, vR 53), (1, vI x1), (2, vI x2), (3, vI x3)] [] g d Q
  refine mw_top (fun hT => ?_)
  have hG : 65 ≤ g.2.1 := hT.2
  refine mw_iconst (pc' := 1) dX10_countFree_0 rfl ⟨by decide, by decide⟩ ?_
  refine mw_istore (pc' := 3) (L' := [(0, vR 53), (1, vI x1), (2, vI x2), (3, vI x3), (4, vI 0)]) dX10_countFree_1 rfl (by decide) rfl ?_
  refine mw_iload_n (pc' := 4) dX10_countFree_3 rfl rfl rfl ?_
  refine mw_istore (pc' := 6) (L' := [(0, vR 53), (1, vI x1), (2, vI x2), (3, vI x3), (4, vI 0), (5, vI x1)]) dX10_countFree_4 rfl (by decide) rfl ?_
  refine mw_iconst (pc' := 7) dX10_countFree_6 rfl ⟨by decide, by decide⟩ ?_
  refine mw_istore (pc' := 9) (L' := [(0, vR 53), (1, vI x1), (2, vI x2), (3, vI x3), (4, vI 0), (5, vI x1), (6, vI 0)]) dX10_countFree_7 rfl (by decide) rfl ?_
  exact h
theorem aX10_countFree_1 {R : rW} {x1 x2 x3 x4 x5 x6 : Int} {g : mG} {d : mD} {Q : mQ} (h : ((d 53 4 < x6) → Q (.inl x4) g d) ∧ ((¬ (d 53 4 < x6)) → ((¬ (d 53 4 ≤ x6)) → 0 ≤ x6 ∧ x6 < 12) ∧ (((¬ (d 53 4 ≤ x6)) → iI ((d 54 x6) - 1)) ∧ (((x3 = 0) → iI ((min x2 (iT (d 53 4 ≤ x6) 4999 ((d 54 x6) - 1))) - x5)) ∧ (((x3 = 0) → iI (((min x2 (iT (d 53 4 ≤ x6) 4999 ((d 54 x6) - 1))) - x5) + 1)) ∧ (((¬ (x3 = 0)) → CI d R) ∧ (((¬ (x3 = 0)) → 0 ≤ x5 ∧ x5 ≤ 5001) ∧ (((¬ (x3 = 0)) → -1 ≤ (min x2 (iT (d 53 4 ≤ x6) 4999 ((d 54 x6) - 1))) ∧ (min x2 (iT (d 53 4 ≤ x6) 4999 ((d 54 x6) - 1))) ≤ 4999) ∧ ((iI (x4 + (iT (x3 = 0) (max 0 (((min x2 (iT (d 53 4 ≤ x6) 4999 ((d 54 x6) - 1))) - x5) + 1)) (cn (court R) x5 (min x2 (iT (d 53 4 ≤ x6) 4999 ((d 54 x6) - 1))))))) ∧ (((¬ (d 53 4 ≤ x6)) → iI ((d 55 x6) + 1)) ∧ ((iI (x6 + 1)) ∧ (pX10_countFree_1 x1 x2 x3 (x4 + (iT (x3 = 0) (max 0 (((min x2 (iT (d 53 4 ≤ x6) 4999 ((d 54 x6) - 1))) - x5) + 1)) (cn (court R) x5 (min x2 (iT (d 53 4 ≤ x6) 4999 ((d 54 x6) - 1)))))) (iT (d 53 4 ≤ x6) 5000 (max x5 ((d 55 x6) + 1))) (x6 + 1) g d Q)))))))))))) : pX10_countFree_1 x1 x2 x3 x4 x5 x6 g d Q := by
  unfold pX10_countFree_1
  refine mw_top (fun hT => ?_)
  have hG : 65 ≤ g.2.1 := hT.2
  refine mw_iload (pc' := 11) dX10_countFree_9 rfl rfl ?_
  refine mw_aload_n (v := vR 53) (pc' := 12) dX10_countFree_11 rfl rfl (Or.inl rfl) rfl ?_
  refine mw_getI (ji := 4) (pc' := 15) dX10_countFree_12 rfl fi_RX10_26_53 rfl ⟨by decide, by decide⟩ ?_
  refine mw_icmp_gt (tgt := 56) (pc' := 18) dX10_countFree_15 rfl (by decide) (fun c17 => ?_) (fun c17 => ?_)
  · replace h := h.1 c17
    refine mw_iload (pc' := 58) dX10_countFree_56 rfl rfl ?_
    exact mw_iret (pc' := 0) (S := []) dX10_countFree_58 rfl (Or.inl rfl) h
  · replace h := h.2 c17
    refine mw_iload (pc' := 20) dX10_countFree_18 rfl rfl ?_
    refine mw_aload_n (v := vR 53) (pc' := 21) dX10_countFree_20 rfl rfl (Or.inl rfl) rfl ?_
    refine mw_iload (pc' := 23) dX10_countFree_21 rfl rfl ?_
    refine mw_iload_n (pc' := 24) dX10_countFree_23 rfl rfl rfl ?_
    refine mw_aload_n (v := vR 53) (pc' := 25) dX10_countFree_24 rfl rfl (Or.inl rfl) rfl ?_
    refine mw_iload (pc' := 27) dX10_countFree_25 rfl rfl ?_
    obtain ⟨o18, h⟩ := h
    obtain ⟨o19, h⟩ := h
    refine mw_callV (M' := mX10_lastDayOfGap) (A := [vI x6]) (A' := [vR 53, vI x6]) (S := [vI x2, vI x5, vR 53, vI x4]) (a := 53) (pc' := 30) dX10_countFree_27 rfl cl_RX10_94 cm_X10_lastDayOfGap cv_X10_lastDayOfGap ⟨by decide, by decide, by decide, by decide, by decide⟩ rfl rfl rfl ⟨by decide, by omega⟩ (by decide +kernel) (by decide +kernel) (Nat.le_of_ble_eq_true rfl) (eX10_lastDayOfGap (⟨o18, o19, ?_⟩))
    show MW mX10_countFree 0 0 30 [(0, vR 53), (1, vI x1), (2, vI x2), (3, vI x3), (4, vI x4), (5, vI x5), (6, vI x6)] [vI (iT (d 53 4 ≤ x6) 4999 ((d 54 x6) - 1)), vI x2, vI x5, vR 53, vI x4] g d Q
    refine mw_min (pc' := 33) dX10_countFree_30 rfl bw_446 bw_447 bw_24 bw_448 (by decide) (by decide) (Nat.le_of_ble_eq_true rfl) ?_
    refine mw_iload_n (pc' := 34) dX10_countFree_33 rfl rfl rfl ?_
    obtain ⟨o20, h⟩ := h
    obtain ⟨o21, h⟩ := h
    obtain ⟨o22, h⟩ := h
    obtain ⟨o23, h⟩ := h
    obtain ⟨o24, h⟩ := h
    refine mw_callV (M' := mX10_countDays) (A := [vI x5, vI (min x2 (iT (d 53 4 ≤ x6) 4999 ((d 54 x6) - 1))), vI x3]) (A' := [vR 53, vI x5, vI (min x2 (iT (d 53 4 ≤ x6) 4999 ((d 54 x6) - 1))), vI x3]) (S := [vI x4]) (a := 53) (pc' := 37) dX10_countFree_34 rfl cl_RX10_97 cm_X10_countDays cv_X10_countDays ⟨by decide, by decide, by decide, by decide, by decide⟩ rfl rfl rfl ⟨by decide, by omega⟩ (by decide +kernel) (by decide +kernel) (Nat.le_of_ble_eq_true rfl) (eX10_countDays (⟨o20, o21, o22, o23, o24, ?_⟩))
    show MW mX10_countFree 0 0 37 [(0, vR 53), (1, vI x1), (2, vI x2), (3, vI x3), (4, vI x4), (5, vI x5), (6, vI x6)] [vI (iT (x3 = 0) (max 0 (((min x2 (iT (d 53 4 ≤ x6) 4999 ((d 54 x6) - 1))) - x5) + 1)) (cn (court R) x5 (min x2 (iT (d 53 4 ≤ x6) 4999 ((d 54 x6) - 1))))), vI x4] g d Q
    obtain ⟨o25, h⟩ := h
    refine mw_iadd (pc' := 38) dX10_countFree_37 rfl o25 ?_
    refine mw_istore (pc' := 40) (L' := [(0, vR 53), (1, vI x1), (2, vI x2), (3, vI x3), (4, vI (x4 + (iT (x3 = 0) (max 0 (((min x2 (iT (d 53 4 ≤ x6) 4999 ((d 54 x6) - 1))) - x5) + 1)) (cn (court R) x5 (min x2 (iT (d 53 4 ≤ x6) 4999 ((d 54 x6) - 1))))))), (5, vI x5), (6, vI x6)]) dX10_countFree_38 rfl (by decide) rfl ?_
    refine mw_aload_n (v := vR 53) (pc' := 41) dX10_countFree_40 rfl rfl (Or.inl rfl) rfl ?_
    refine mw_iload (pc' := 43) dX10_countFree_41 rfl rfl ?_
    refine mw_iload (pc' := 45) dX10_countFree_43 rfl rfl ?_
    obtain ⟨o27, h⟩ := h
    refine mw_callV (M' := mX10_dayBehindRange) (A := [vI x6, vI x5]) (A' := [vR 53, vI x6, vI x5]) (S := []) (a := 53) (pc' := 48) dX10_countFree_45 rfl cl_RX10_103 cm_X10_dayBehindRange cv_X10_dayBehindRange ⟨by decide, by decide, by decide, by decide, by decide⟩ rfl rfl rfl ⟨by decide, by omega⟩ (by decide +kernel) (by decide +kernel) (Nat.le_of_ble_eq_true rfl) (eX10_dayBehindRange (⟨o18, o27, ?_⟩))
    show MW mX10_countFree 0 0 48 [(0, vR 53), (1, vI x1), (2, vI x2), (3, vI x3), (4, vI (x4 + (iT (x3 = 0) (max 0 (((min x2 (iT (d 53 4 ≤ x6) 4999 ((d 54 x6) - 1))) - x5) + 1)) (cn (court R) x5 (min x2 (iT (d 53 4 ≤ x6) 4999 ((d 54 x6) - 1))))))), (5, vI x5), (6, vI x6)] [vI (iT (d 53 4 ≤ x6) 5000 (max x5 ((d 55 x6) + 1)))] g d Q
    refine mw_istore (pc' := 50) (L' := [(0, vR 53), (1, vI x1), (2, vI x2), (3, vI x3), (4, vI (x4 + (iT (x3 = 0) (max 0 (((min x2 (iT (d 53 4 ≤ x6) 4999 ((d 54 x6) - 1))) - x5) + 1)) (cn (court R) x5 (min x2 (iT (d 53 4 ≤ x6) 4999 ((d 54 x6) - 1))))))), (5, vI (iT (d 53 4 ≤ x6) 5000 (max x5 ((d 55 x6) + 1)))), (6, vI x6)]) dX10_countFree_48 rfl (by decide) rfl ?_
    obtain ⟨o28, h⟩ := h
    refine mw_iinc (pc' := 53) (L' := [(0, vR 53), (1, vI x1), (2, vI x2), (3, vI x3), (4, vI (x4 + (iT (x3 = 0) (max 0 (((min x2 (iT (d 53 4 ≤ x6) 4999 ((d 54 x6) - 1))) - x5) + 1)) (cn (court R) x5 (min x2 (iT (d 53 4 ≤ x6) 4999 ((d 54 x6) - 1))))))), (5, vI (iT (d 53 4 ≤ x6) 5000 (max x5 ((d 55 x6) + 1)))), (6, vI (x6 + 1))]) dX10_countFree_50 rfl rfl (by decide) o28 rfl ?_
    refine mw_goto (pc' := 0) (tgt := 9) dX10_countFree_53 (by decide) ?_
    exact h
def pX10_countBack_1 (x1 x2 x3 x4 : Int) (g : mG) (d : mD) (Q : mQ) : Prop := MW mX10_countBack 0 0 20 [(0, vR 53), (1, vI x1), (2, vI x2), (3, vI x3), (4, vI x4)] [] g d Q
theorem eX10_countBack {R : rW} {x1 x2 x3 : Int} {g : mG} {d : mD} {Q : mQ} (h : ((x3 = 0) → iI (x1 - x2)) ∧ (((¬ (x3 = 0)) → iI (x1 - 1)) ∧ (((¬ (x3 = 0)) → CI d R) ∧ (((¬ (x3 = 0)) → -1 ≤ (x1 - 1) ∧ (x1 - 1) ≤ 4999) ∧ (((¬ (x3 = 0)) → 1 ≤ x2 ∧ x2 ≤ 200) ∧ (pX10_countBack_1 x1 x2 x3 (iT (x3 = 0) (x1 - x2) (bd (fun x => x2 ≤ cn (court R) x (x1 - 1)) (x1 - 1))) g d Q)))))) : MM mX10_countBack [vR 53, vI x1, vI x2, vI x3] g d Q := by
  refine MM_of (by decide) rfl (by simp [catV]) (Nat.le_of_ble_eq_true rfl) ?_
  show MW mX10_countBack 0 0 0 [(0, vR 53), (1, vI x1), (2, vI x2), (3, vI x3)] [] g d Q
  refine mw_top (fun hT => ?_)
  have hG : 65 ≤ g.2.1 := hT.2
  refine mw_iload_n (pc' := 1) dX10_countBack_0 rfl rfl rfl ?_
  obtain ⟨o1, h⟩ := h
  obtain ⟨o2, h⟩ := h
  obtain ⟨o3, h⟩ := h
  obtain ⟨o4, h⟩ := h
  obtain ⟨o5, h⟩ := h
  suffices k6 : MW mX10_countBack 0 0 18 [(0, vR 53), (1, vI x1), (2, vI x2), (3, vI x3)] [vI (iT (x3 = 0) (x1 - x2) (bd (fun x => x2 ≤ cn (court R) x (x1 - 1)) (x1 - 1)))] g d Q by
    refine mw_if_eq (tgt := 15) (pc' := 4) dX10_countBack_1 rfl (by decide) (fun c7 => ?_) (fun c7 => ?_)
    · refine mw_iload_n (pc' := 16) dX10_countBack_15 rfl rfl rfl ?_
      refine mw_iload_n (pc' := 17) dX10_countBack_16 rfl rfl rfl ?_
      refine mw_isub (pc' := 18) dX10_countBack_17 rfl (o1 c7) ?_
      exact mw_st (((iT_t c7).trans rfl)).symm k6
    · refine mw_aload_n (v := vR 53) (pc' := 5) dX10_countBack_4 rfl rfl (Or.inl rfl) rfl ?_
      refine mw_iload_n (pc' := 6) dX10_countBack_5 rfl rfl rfl ?_
      refine mw_iconst (pc' := 7) dX10_countBack_6 rfl ⟨by decide, by decide⟩ ?_
      refine mw_isub (pc' := 8) dX10_countBack_7 rfl (o2 c7) ?_
      refine mw_iload_n (pc' := 9) dX10_countBack_8 rfl rfl rfl ?_
      refine mw_callV (M' := mX10_dayOfCountBack) (A := [vI (x1 - 1), vI x2]) (A' := [vR 53, vI (x1 - 1), vI x2]) (S := []) (a := 53) (pc' := 12) dX10_countBack_9 rfl cl_RX10_118 cm_X10_dayOfCountBack cv_X10_dayOfCountBack ⟨by decide, by decide, by decide, by decide, by decide⟩ rfl rfl rfl ⟨by decide, by omega⟩ (by decide +kernel) (by decide +kernel) (Nat.le_of_ble_eq_true rfl) (f_dayOfCountBack (⟨(o3 c7), (o4 c7), (o5 c7), ?_⟩))
      show MW mX10_countBack 0 0 12 [(0, vR 53), (1, vI x1), (2, vI x2), (3, vI x3)] [vI (bd (fun x => x2 ≤ cn (court R) x (x1 - 1)) (x1 - 1))] g d Q
      refine mw_goto (pc' := 0) (tgt := 18) dX10_countBack_12 (by decide) ?_
      exact mw_st (((iT_f c7).trans rfl)).symm k6
  refine mw_istore (pc' := 20) (L' := [(0, vR 53), (1, vI x1), (2, vI x2), (3, vI x3), (4, vI (iT (x3 = 0) (x1 - x2) (bd (fun x => x2 ≤ cn (court R) x (x1 - 1)) (x1 - 1))))]) dX10_countBack_18 rfl (by decide) rfl ?_
  exact h
theorem aX10_countBack_1 {R : rW} {x1 x2 x3 x4 : Int} {g : mG} {d : mD} {Q : mQ} (h : ((¬ (x4 < 0)) → CI d R) ∧ (((¬ (x4 < 0)) → 0 ≤ x4) ∧ ((((¬ (x4 < 0)) ∧ (¬ (court R x4))) → (iI (x4 + (-1))) ∧ (pX10_countBack_1 x1 x2 x3 (x4 + (-1)) g d Q)) ∧ ((¬ ((¬ (x4 < 0)) ∧ (¬ (court R x4)))) → Q (.inl x4) g d)))) : pX10_countBack_1 x1 x2 x3 x4 g d Q := by
  unfold pX10_countBack_1
  refine mw_top (fun hT => ?_)
  have hG : 65 ≤ g.2.1 := hT.2
  refine mw_iload (pc' := 22) dX10_countBack_20 rfl rfl ?_
  obtain ⟨o8, h⟩ := h
  obtain ⟨o9, h⟩ := h
  suffices k10 : (((¬ (x4 < 0)) ∧ (¬ (court R x4))) → MW mX10_countBack 0 0 37 [(0, vR 53), (1, vI x1), (2, vI x2), (3, vI x3), (4, vI x4)] [] g d Q) ∧ ((¬ ((¬ (x4 < 0)) ∧ (¬ (court R x4)))) → MW mX10_countBack 0 0 43 [(0, vR 53), (1, vI x1), (2, vI x2), (3, vI x3), (4, vI x4)] [] g d Q) by
    refine mw_if_lt (tgt := 43) (pc' := 25) dX10_countBack_22 rfl (by decide) (fun c11 => ?_) (fun c11 => ?_)
    · exact k10.2 (fun h => (h.1 c11))
    · refine mw_aload_n (v := vR 53) (pc' := 26) dX10_countBack_25 rfl rfl (Or.inl rfl) rfl ?_
      refine mw_getP (v := 10) (pc' := 29) dX10_countBack_26 rfl fr_RX10_18_53 rfl sp_53_0 ⟨by decide, by decide⟩ ?_
      refine mw_iload (pc' := 31) dX10_countBack_29 rfl rfl ?_
      refine mw_callV (M' := mX0_isCourt) (A := [vI x4]) (A' := [vR 10, vI x4]) (S := []) (a := 10) (pc' := 34) dX10_countBack_31 rfl cl_RX10_111 cm_X0_isCourt cv_X0_isCourt ⟨by decide, by decide, by decide, by decide, by decide⟩ rfl rfl rfl ⟨by decide, by omega⟩ (by decide +kernel) (by decide +kernel) (Nat.le_of_ble_eq_true rfl) (f_isCourtC (⟨(o8 c11), (o9 c11), ?_⟩))
      show MW mX10_countBack 0 0 34 [(0, vR 53), (1, vI x1), (2, vI x2), (3, vI x3), (4, vI x4)] [vI (bI (court R x4))] g d Q
      refine mw_if_ne (tgt := 43) (pc' := 37) dX10_countBack_34 rfl (by decide) (fun c12 => ?_) (fun c12 => ?_)
      · replace c12 := bI_n0.mp c12
        exact k10.2 (fun h => (fun h => (h c12)) h.2)
      · replace c12 := bI_0.mp c12
        exact k10.1 ⟨c11, c12⟩
  refine ⟨fun c13 => ?_, fun c13 => ?_⟩
  · replace h := h.1 c13
    obtain ⟨o14, h⟩ := h
    refine mw_iinc (pc' := 40) (L' := [(0, vR 53), (1, vI x1), (2, vI x2), (3, vI x3), (4, vI (x4 + (-1)))]) dX10_countBack_37 rfl rfl (by decide) o14 rfl ?_
    refine mw_goto (pc' := 0) (tgt := 20) dX10_countBack_40 (by decide) ?_
    exact h
  · replace h := h.2 c13
    refine mw_iload (pc' := 45) dX10_countBack_43 rfl rfl ?_
    exact mw_iret (pc' := 0) (S := []) dX10_countBack_45 rfl (Or.inl rfl) h
