theorem fr_RX6_9_60 : FR RX6 9 60 0 := ⟨(show LK 60 = 6 by decide +kernel) ▸ fg_RX6_9, by decide +kernel, by decide +kernel, by decide⟩
theorem rc_60_4 : RC 60 4 = 0 := by decide +kernel
theorem fq_RX6_25_60 : FP RX6 25 (LK 60) 4 .int false := (show LK 60 = 6 by decide +kernel) ▸ fp_RX6_25
theorem fi_RX6_36_1 : FI RX6 36 1 1 := ⟨(show LK 1 = 9 by decide +kernel) ▸ fg_RX6_36, by decide +kernel, by decide +kernel, by decide⟩
def pX6_countCommon_1 (x2 x3 : Int) (g : mG) (d : mD) (Q : mQ) : Prop := MW mX6_countCommon 0 0 2 [(0, vR 60), (1, vR 1), (2, (6, x2)), (3, vI x3)] [] g d Q
theorem eX6_countCommon {x2 : Int} {g : mG} {d : mD} {Q : mQ} (h : pX6_countCommon_1 x2 0 g d Q) : MM mX6_countCommon [vR 60, vR 1, (6, x2)] g d Q := by
  refine MM_of (by decide) rfl (by simp [catV]) (Nat.le_of_ble_eq_true rfl) ?_
  show MW mX6_countCommon 0 0 0 [(0, vR 60), (1, vR 1), (2, (6, x2))] [] g d Q
  refine mw_top (fun hT => ?_)
  have hG : 76 ≤ g.2.1 := hT.2
  refine mw_iconst (pc' := 1) dX6_countCommon_0 rfl ⟨by decide, by decide⟩ ?_
  refine mw_istore_n (pc' := 2) (L' := [(0, vR 60), (1, vR 1), (2, (6, x2)), (3, vI 0)]) dX6_countCommon_1 rfl rfl (by decide) rfl ?_
  exact h
theorem aX6_countCommon_1 {x2 x3 : Int} {g : mG} {d : mD} {Q : mQ} (h : ((¬ (sLen x2 ≤ x3)) → iI ((d 60 5) + x3)) ∧ (((¬ (sLen x2 ≤ x3)) → (¬ (((d 60 5) + x3) < 0)) → (¬ (d 1 1 ≤ ((d 60 5) + x3))) → 0 ≤ ((d 60 5) + x3) ∧ ((d 60 5) + x3) < 60) ∧ (((¬ (sLen x2 ≤ x3)) → 0 ≤ iT (((d 60 5) + x3) < 0) 0 (iT (d 1 1 ≤ ((d 60 5) + x3)) 0 (d 2 ((d 60 5) + x3))) ∧ iT (((d 60 5) + x3) < 0) 0 (iT (d 1 1 ≤ ((d 60 5) + x3)) 0 (d 2 ((d 60 5) + x3))) ≤ 65535) ∧ (((¬ (sLen x2 ≤ x3)) → 0 ≤ x3 ∧ x3 < sLen x2) ∧ ((((¬ (sLen x2 ≤ x3)) ∧ (iT (((d 60 5) + x3) < 0) 0 (iT (d 1 1 ≤ ((d 60 5) + x3)) 0 (d 2 ((d 60 5) + x3))) = sAt x2 x3)) → (iI (x3 + 1)) ∧ (pX6_countCommon_1 x2 (x3 + 1) g d Q)) ∧ ((¬ ((¬ (sLen x2 ≤ x3)) ∧ (iT (((d 60 5) + x3) < 0) 0 (iT (d 1 1 ≤ ((d 60 5) + x3)) 0 (d 2 ((d 60 5) + x3))) = sAt x2 x3))) → Q (.inl x3) g d)))))) : pX6_countCommon_1 x2 x3 g d Q := by
  unfold pX6_countCommon_1
  refine mw_top (fun hT => ?_)
  have hG : 76 ≤ g.2.1 := hT.2
  refine mw_iload_n (pc' := 3) dX6_countCommon_2 rfl rfl rfl ?_
  refine mw_aload_n (v := (6, x2)) (pc' := 4) dX6_countCommon_3 rfl rfl (Or.inr (Or.inr (Or.inl rfl))) rfl ?_
  refine mw_strlen (pc' := 7) dX6_countCommon_4 rfl rfl ⟨by decide, by decide, by decide, by decide, by decide⟩ (Nat.le_of_ble_eq_true rfl) ?_
  obtain ⟨o1, h⟩ := h
  obtain ⟨o2, h⟩ := h
  obtain ⟨o3, h⟩ := h
  obtain ⟨o4, h⟩ := h
  suffices k5 : (((¬ (sLen x2 ≤ x3)) ∧ (iT (((d 60 5) + x3) < 0) 0 (iT (d 1 1 ≤ ((d 60 5) + x3)) 0 (d 2 ((d 60 5) + x3))) = sAt x2 x3)) → MW mX6_countCommon 0 0 28 [(0, vR 60), (1, vR 1), (2, (6, x2)), (3, vI x3)] [] g d Q) ∧ ((¬ ((¬ (sLen x2 ≤ x3)) ∧ (iT (((d 60 5) + x3) < 0) 0 (iT (d 1 1 ≤ ((d 60 5) + x3)) 0 (d 2 ((d 60 5) + x3))) = sAt x2 x3))) → MW mX6_countCommon 0 0 34 [(0, vR 60), (1, vR 1), (2, (6, x2)), (3, vI x3)] [] g d Q) by
    refine mw_icmp_ge (tgt := 34) (pc' := 10) dX6_countCommon_7 rfl (by decide) (fun c6 => ?_) (fun c6 => ?_)
    · exact k5.2 (fun h => (h.1 c6))
    · refine mw_aload_n (v := vR 1) (pc' := 11) dX6_countCommon_10 rfl rfl (Or.inl rfl) rfl ?_
      refine mw_aload_n (v := vR 60) (pc' := 12) dX6_countCommon_11 rfl rfl (Or.inl rfl) rfl ?_
      refine mw_getI (ji := 5) (pc' := 15) dX6_countCommon_12 rfl fi_RX6_29_60 rfl ⟨by decide, by decide⟩ ?_
      refine mw_iload_n (pc' := 16) dX6_countCommon_15 rfl rfl rfl ?_
      refine mw_iadd (pc' := 17) dX6_countCommon_16 rfl (o1 c6) ?_
      refine mw_callV (M' := mX9_signAt) (A := [vI ((d 60 5) + x3)]) (A' := [vR 1, vI ((d 60 5) + x3)]) (S := []) (a := 1) (pc' := 20) dX6_countCommon_17 rfl cl_RX6_86 cm_X9_signAt cv_X9_signAt ⟨by decide, by decide, by decide, by decide, by decide⟩ rfl rfl rfl ⟨by decide, by omega⟩ (by decide +kernel) (by decide +kernel) (Nat.le_of_ble_eq_true rfl) (eX9_signAt_b (⟨(o2 c6), (o3 c6), ?_⟩))
      show MW mX6_countCommon 0 0 20 [(0, vR 60), (1, vR 1), (2, (6, x2)), (3, vI x3)] [vI (iT (((d 60 5) + x3) < 0) 0 (iT (d 1 1 ≤ ((d 60 5) + x3)) 0 (d 2 ((d 60 5) + x3))))] g d Q
      refine mw_aload_n (v := (6, x2)) (pc' := 21) dX6_countCommon_20 rfl rfl (Or.inr (Or.inr (Or.inl rfl))) rfl ?_
      refine mw_iload_n (pc' := 22) dX6_countCommon_21 rfl rfl rfl ?_
      refine mw_strat (pc' := 25) dX6_countCommon_22 rfl rfl ⟨by decide, by decide, by decide, by decide, by decide⟩ (Nat.le_of_ble_eq_true rfl) (o4 c6) ?_
      refine mw_icmp_ne (tgt := 34) (pc' := 28) dX6_countCommon_25 rfl (by decide) (fun c7 => ?_) (fun c7 => ?_)
      · exact k5.2 (fun h => (fun h => (c7 h)) h.2)
      · exact k5.1 ⟨c6, c7⟩
  refine ⟨fun c8 => ?_, fun c8 => ?_⟩
  · replace h := h.1 c8
    obtain ⟨o9, h⟩ := h
    refine mw_iinc (pc' := 31) (L' := [(0, vR 60), (1, vR 1), (2, (6, x2)), (3, vI (x3 + 1))]) dX6_countCommon_28 rfl rfl (by decide) o9 rfl ?_
    refine mw_goto (pc' := 0) (tgt := 2) dX6_countCommon_31 (by decide) ?_
    exact h
  · replace h := h.2 c8
    refine mw_iload_n (pc' := 35) dX6_countCommon_34 rfl rfl rfl ?_
    exact mw_iret (pc' := 0) (S := []) dX6_countCommon_35 rfl (Or.inl rfl) h
def pX6_readVerb_1 (x2 x3 : Int) (g : mG) (d : mD) (Q : mQ) : Prop := MW mX6_readVerb 0 0 4 [(0, vR 60), (1, vR 1), (2, vI x2), (3, vI x3)] [] g d Q
theorem eX6_readVerb {g : mG} {d : mD} {Q : mQ} (h : pX6_readVerb_1 0 0 g d Q) : MM mX6_readVerb [vR 60, vR 1] g d Q := by
  refine MM_of (by decide) rfl (by simp [catV]) (Nat.le_of_ble_eq_true rfl) ?_
  show MW mX6_readVerb 0 0 0 [(0, vR 60), (1, vR 1)] [] g d Q
  refine mw_top (fun hT => ?_)
  have hG : 76 ≤ g.2.1 := hT.2
  refine mw_iconst (pc' := 1) dX6_readVerb_0 rfl ⟨by decide, by decide⟩ ?_
  refine mw_istore_n (pc' := 2) (L' := [(0, vR 60), (1, vR 1), (2, vI 0)]) dX6_readVerb_1 rfl rfl (by decide) rfl ?_
  refine mw_iconst (pc' := 3) dX6_readVerb_2 rfl ⟨by decide, by decide⟩ ?_
  refine mw_istore_n (pc' := 4) (L' := [(0, vR 60), (1, vR 1), (2, vI 0), (3, vI 0)]) dX6_readVerb_3 rfl rfl (by decide) rfl ?_
  exact h
theorem aX6_readVerb_1 {x2 x3 : Int} {g : mG} {d : mD} {Q : mQ} (h : ((7 ≤ x3) → (iI ((d 60 5) + x2)) ∧ (Q (.inl (-1)) g (ud d 60 5 ((d 60 5) + x2)))) ∧ ((¬ (7 ≤ x3)) → MM mX6_wordOf [vI x3] g d (fun o g7 d8 => match o with | .inl v6 => MM mX6_countCommon [vR 60, vR 1, (6, v6)] g7 d8 (fun o g11 d12 => match o with | .inl v10 => ((v10 = sLen v6) → (iI ((d12 60 5) + v10)) ∧ (Q (.inl x3) g11 (ud d12 60 5 ((d12 60 5) + v10)))) ∧ ((¬ (v10 = sLen v6)) → (iI (x3 + 1)) ∧ (pX6_readVerb_1 (max x2 v10) (x3 + 1) g11 d12 Q)) | .inr k => Q (.inr k) g11 d12) | .inr k => Q (.inr k) g7 d8))) : pX6_readVerb_1 x2 x3 g d Q := by
  unfold pX6_readVerb_1
  refine mw_top (fun hT => ?_)
  have hG : 76 ≤ g.2.1 := hT.2
  refine mw_iload_n (pc' := 5) dX6_readVerb_4 rfl rfl rfl ?_
  refine mw_bipush (pc' := 7) dX6_readVerb_5 rfl ⟨by decide, by decide⟩ ?_
  refine mw_icmp_ge (tgt := 61) (pc' := 10) dX6_readVerb_7 rfl (by decide) (fun c3 => ?_) (fun c3 => ?_)
  · replace h := h.1 c3
    refine mw_aload_n (v := vR 60) (pc' := 62) dX6_readVerb_61 rfl rfl (Or.inl rfl) rfl ?_
    refine mw_dup (pc' := 63) dX6_readVerb_62 rfl rfl ?_
    refine mw_getI (ji := 5) (pc' := 66) dX6_readVerb_63 rfl fi_RX6_29_60 rfl ⟨by decide, by decide⟩ ?_
    refine mw_iload_n (pc' := 67) dX6_readVerb_66 rfl rfl rfl ?_
    obtain ⟨o4, h⟩ := h
    refine mw_iadd (pc' := 68) dX6_readVerb_67 rfl o4 ?_
    refine mw_putI (ji := 5) (pc' := 71) dX6_readVerb_68 rfl (fq_RX6_29_60) (by decide +kernel) rfl (Or.inl ⟨rfl, rc_60_5⟩) (Or.inr rfl) ⟨by decide, by omega⟩ ?_
    refine mw_iconst (pc' := 72) dX6_readVerb_71 rfl ⟨by decide, by decide⟩ ?_
    exact mw_iret (pc' := 0) (S := []) dX6_readVerb_72 rfl (Or.inl rfl) h
  · replace h := h.2 c3
    refine mw_iload_n (pc' := 11) dX6_readVerb_10 rfl rfl rfl ?_
    refine mw_callS (M' := mX6_wordOf) (A := [vI x3]) (S := []) (pc' := 14) dX6_readVerb_11 rfl cl_RX6_53 cm_X6_wordOf cs_X6_wordOf ⟨by decide, by decide, by decide, by decide, by decide⟩ rfl rfl (Nat.le_of_ble_eq_true rfl) (MM.mono ?_ h)
    intro o g7 d8 h5
    rcases o with v6 | k
    · refine mw_top (fun hT => ?_)
      have hG : 76 ≤ g7.2.1 := hT.2
      show MW mX6_readVerb 0 0 14 [(0, vR 60), (1, vR 1), (2, vI x2), (3, vI x3)] [(6, v6)] g7 d8 Q
      refine mw_astore (v := (6, v6)) (pc' := 16) (L' := [(0, vR 60), (1, vR 1), (2, vI x2), (3, vI x3), (4, (6, v6))]) dX6_readVerb_14 rfl (Or.inr (Or.inr (Or.inl rfl))) (by decide) rfl ?_
      refine mw_aload_n (v := vR 60) (pc' := 17) dX6_readVerb_16 rfl rfl (Or.inl rfl) rfl ?_
      refine mw_aload_n (v := vR 1) (pc' := 18) dX6_readVerb_17 rfl rfl (Or.inl rfl) rfl ?_
      refine mw_aload (v := (6, v6)) (pc' := 20) dX6_readVerb_18 rfl (Or.inr (Or.inr (Or.inl rfl))) rfl ?_
      refine mw_callV (M' := mX6_countCommon) (A := [vR 1, (6, v6)]) (A' := [vR 60, vR 1, (6, v6)]) (S := []) (a := 60) (pc' := 23) dX6_readVerb_20 rfl cl_RX6_57 cm_X6_countCommon cv_X6_countCommon ⟨by decide, by decide, by decide, by decide, by decide⟩ rfl rfl rfl ⟨by decide, by omega⟩ (by decide +kernel) (by decide +kernel) (Nat.le_of_ble_eq_true rfl) (MM.mono ?_ h5)
      intro o g11 d12 h9
      rcases o with v10 | k
      · refine mw_top (fun hT => ?_)
        have hG : 76 ≤ g11.2.1 := hT.2
        show MW mX6_readVerb 0 0 23 [(0, vR 60), (1, vR 1), (2, vI x2), (3, vI x3), (4, (6, v6))] [vI v10] g11 d12 Q
        refine mw_istore (pc' := 25) (L' := [(0, vR 60), (1, vR 1), (2, vI x2), (3, vI x3), (4, (6, v6)), (5, vI v10)]) dX6_readVerb_23 rfl (by decide) rfl ?_
        refine mw_iload (pc' := 27) dX6_readVerb_25 rfl rfl ?_
        refine mw_aload (v := (6, v6)) (pc' := 29) dX6_readVerb_27 rfl (Or.inr (Or.inr (Or.inl rfl))) rfl ?_
        refine mw_strlen (pc' := 32) dX6_readVerb_29 rfl rfl ⟨by decide, by decide, by decide, by decide, by decide⟩ (Nat.le_of_ble_eq_true rfl) ?_
        refine mw_icmp_ne (tgt := 48) (pc' := 35) dX6_readVerb_32 rfl (by decide) (fun c15 => ?_) (fun c15 => ?_)
        · replace h9 := h9.2 c15
          refine mw_iload_n (pc' := 49) dX6_readVerb_48 rfl rfl rfl ?_
          refine mw_iload (pc' := 51) dX6_readVerb_49 rfl rfl ?_
          refine mw_max (pc' := 54) dX6_readVerb_51 rfl bw_1547 bw_434 bw_23 bw_435 (by decide) (by decide) (Nat.le_of_ble_eq_true rfl) ?_
          refine mw_istore_n (pc' := 55) (L' := [(0, vR 60), (1, vR 1), (2, vI (max x2 v10)), (3, vI x3), (4, (6, v6)), (5, vI v10)]) dX6_readVerb_54 rfl rfl (by decide) rfl ?_
          obtain ⟨o17, h9⟩ := h9
          refine mw_iinc (pc' := 58) (L' := [(0, vR 60), (1, vR 1), (2, vI (max x2 v10)), (3, vI (x3 + 1)), (4, (6, v6)), (5, vI v10)]) dX6_readVerb_55 rfl rfl (by decide) o17 rfl ?_
          refine mw_goto (pc' := 0) (tgt := 4) dX6_readVerb_58 (by decide) ?_
          exact mw_loc (pc' := 0) [0, 1, 2, 3] rfl h9
        · replace h9 := h9.1 c15
          refine mw_aload_n (v := vR 60) (pc' := 36) dX6_readVerb_35 rfl rfl (Or.inl rfl) rfl ?_
          refine mw_dup (pc' := 37) dX6_readVerb_36 rfl rfl ?_
          refine mw_getI (ji := 5) (pc' := 40) dX6_readVerb_37 rfl fi_RX6_29_60 rfl ⟨by decide, by decide⟩ ?_
          refine mw_iload (pc' := 42) dX6_readVerb_40 rfl rfl ?_
          obtain ⟨o16, h9⟩ := h9
          refine mw_iadd (pc' := 43) dX6_readVerb_42 rfl o16 ?_
          refine mw_putI (ji := 5) (pc' := 46) dX6_readVerb_43 rfl (fq_RX6_29_60) (by decide +kernel) rfl (Or.inl ⟨rfl, rc_60_5⟩) (Or.inr rfl) ⟨by decide, by omega⟩ ?_
          refine mw_iload_n (pc' := 47) dX6_readVerb_46 rfl rfl rfl ?_
          exact mw_iret (pc' := 0) (S := []) dX6_readVerb_47 rfl (Or.inl rfl) h9
      · exact mx_out rfl h9
    · exact mx_out rfl h5
theorem eX6_readCommand {g : mG} {d : mD} {Q : mQ} (h : MM mX6_readVerb [vR 60, vR 1] g d (fun o g3 d4 => match o with | .inl v2 => (((v2 = (-1)) ∨ (¬ (d4 60 4 < 16))) → Q (.inl 0) g3 d4) ∧ ((¬ ((v2 = (-1)) ∨ (¬ (d4 60 4 < 16)))) → (0 ≤ d4 60 4 ∧ d4 60 4 < 16) ∧ (MM mX6_readValues [vR 60, vR 1, vI v2] g3 (ud d4 61 (d4 60 4) v2) (fun o g12 d13 => match o with | .inl v11 => (iI ((d13 60 4) + 1)) ∧ ((0 ≤ v11 ∧ v11 ≤ 1) ∧ (Q (.inl v11) g12 (ud d13 60 4 ((d13 60 4) + 1)))) | .inr k => Q (.inr k) g12 d13))) | .inr k => Q (.inr k) g3 d4)) : MM mX6_readCommand [vR 60, vR 1] g d Q := by
  refine MM_of (by decide) rfl (by simp [catV]) (Nat.le_of_ble_eq_true rfl) ?_
  show MW mX6_readCommand 0 0 0 [(0, vR 60), (1, vR 1)] [] g d Q
  refine mw_top (fun hT => ?_)
  have hG : 76 ≤ g.2.1 := hT.2
  refine mw_aload_n (v := vR 60) (pc' := 1) dX6_readCommand_0 rfl rfl (Or.inl rfl) rfl ?_
  refine mw_aload_n (v := vR 1) (pc' := 2) dX6_readCommand_1 rfl rfl (Or.inl rfl) rfl ?_
  refine mw_callV (M' := mX6_readVerb) (A := [vR 1]) (A' := [vR 60, vR 1]) (S := []) (a := 60) (pc' := 5) dX6_readCommand_2 rfl cl_RX6_45 cm_X6_readVerb cv_X6_readVerb ⟨by decide, by decide, by decide, by decide, by decide⟩ rfl rfl rfl ⟨by decide, by omega⟩ (by decide +kernel) (by decide +kernel) (Nat.le_of_ble_eq_true rfl) (MM.mono ?_ h)
  intro o g3 d4 h1
  rcases o with v2 | k
  · refine mw_top (fun hT => ?_)
    have hG : 76 ≤ g3.2.1 := hT.2
    show MW mX6_readCommand 0 0 5 [(0, vR 60), (1, vR 1)] [vI v2] g3 d4 Q
    refine mw_istore_n (pc' := 6) (L' := [(0, vR 60), (1, vR 1), (2, vI v2)]) dX6_readCommand_5 rfl rfl (by decide) rfl ?_
    refine mw_iload_n (pc' := 7) dX6_readCommand_6 rfl rfl rfl ?_
    refine mw_iconst (pc' := 8) dX6_readCommand_7 rfl ⟨by decide, by decide⟩ ?_
    suffices k5 : (((v2 = (-1)) ∨ (¬ (d4 60 4 < 16))) → MW mX6_readCommand 0 0 20 [(0, vR 60), (1, vR 1), (2, vI v2)] [] g3 d4 Q) ∧ ((¬ ((v2 = (-1)) ∨ (¬ (d4 60 4 < 16)))) → MW mX6_readCommand 0 0 22 [(0, vR 60), (1, vR 1), (2, vI v2)] [] g3 d4 Q) by
      refine mw_icmp_eq (tgt := 20) (pc' := 11) dX6_readCommand_8 rfl (by decide) (fun c6 => ?_) (fun c6 => ?_)
      · exact k5.1 (Or.inl c6)
      · refine mw_aload_n (v := vR 60) (pc' := 12) dX6_readCommand_11 rfl rfl (Or.inl rfl) rfl ?_
        refine mw_getI (ji := 4) (pc' := 15) dX6_readCommand_12 rfl fi_RX6_25_60 rfl ⟨by decide, by decide⟩ ?_
        refine mw_bipush (pc' := 17) dX6_readCommand_15 rfl ⟨by decide, by decide⟩ ?_
        refine mw_icmp_lt (tgt := 22) (pc' := 20) dX6_readCommand_17 rfl (by decide) (fun c7 => ?_) (fun c7 => ?_)
        · exact k5.2 (fun h => h.elim (fun q => (c6 q)) (fun h => (h c7)))
        · exact k5.1 (Or.inr c7)
    refine ⟨fun c8 => ?_, fun c8 => ?_⟩
    · replace h1 := h1.1 c8
      refine mw_iconst (pc' := 21) dX6_readCommand_20 rfl ⟨by decide, by decide⟩ ?_
      exact mw_iret (pc' := 0) (S := []) dX6_readCommand_21 rfl (Or.inr (Or.inl ⟨rfl, by decide, by decide⟩)) h1
    · replace h1 := h1.2 c8
      refine mw_aload_n (v := vR 60) (pc' := 23) dX6_readCommand_22 rfl rfl (Or.inl rfl) rfl ?_
      refine mw_getP (v := 61) (pc' := 26) dX6_readCommand_23 rfl fr_RX6_9_60 rfl sp_60_0 ⟨by decide, by decide⟩ ?_
      refine mw_aload_n (v := vR 60) (pc' := 27) dX6_readCommand_26 rfl rfl (Or.inl rfl) rfl ?_
      refine mw_getI (ji := 4) (pc' := 30) dX6_readCommand_27 rfl fi_RX6_25_60 rfl ⟨by decide, by decide⟩ ?_
      refine mw_iload_n (pc' := 31) dX6_readCommand_30 rfl rfl rfl ?_
      obtain ⟨o9, h1⟩ := h1
      refine mw_iast (pc' := 32) dX6_readCommand_31 rfl lk_61 ⟨by decide, by decide⟩ (by rw [ln_61]; exact o9) ?_
      refine mw_aload_n (v := vR 60) (pc' := 33) dX6_readCommand_32 rfl rfl (Or.inl rfl) rfl ?_
      refine mw_aload_n (v := vR 1) (pc' := 34) dX6_readCommand_33 rfl rfl (Or.inl rfl) rfl ?_
      refine mw_iload_n (pc' := 35) dX6_readCommand_34 rfl rfl rfl ?_
      refine mw_callV (M' := mX6_readValues) (A := [vR 1, vI v2]) (A' := [vR 60, vR 1, vI v2]) (S := []) (a := 60) (pc' := 38) dX6_readCommand_35 rfl cl_RX6_49 cm_X6_readValues cv_X6_readValues ⟨by decide, by decide, by decide, by decide, by decide⟩ rfl rfl rfl ⟨by decide, by omega⟩ (by decide +kernel) (by decide +kernel) (Nat.le_of_ble_eq_true rfl) (MM.mono ?_ h1)
      intro o g12 d13 h10
      rcases o with v11 | k
      · refine mw_top (fun hT => ?_)
        have hG : 76 ≤ g12.2.1 := hT.2
        show MW mX6_readCommand 0 0 38 [(0, vR 60), (1, vR 1), (2, vI v2)] [vI v11] g12 d13 Q
        refine mw_istore_n (pc' := 39) (L' := [(0, vR 60), (1, vR 1), (2, vI v2), (3, vI v11)]) dX6_readCommand_38 rfl rfl (by decide) rfl ?_
        refine mw_aload_n (v := vR 60) (pc' := 40) dX6_readCommand_39 rfl rfl (Or.inl rfl) rfl ?_
        refine mw_dup (pc' := 41) dX6_readCommand_40 rfl rfl ?_
        refine mw_getI (ji := 4) (pc' := 44) dX6_readCommand_41 rfl fi_RX6_25_60 rfl ⟨by decide, by decide⟩ ?_
        refine mw_iconst (pc' := 45) dX6_readCommand_44 rfl ⟨by decide, by decide⟩ ?_
        obtain ⟨o14, h10⟩ := h10
        refine mw_iadd (pc' := 46) dX6_readCommand_45 rfl o14 ?_
        refine mw_putI (ji := 4) (pc' := 49) dX6_readCommand_46 rfl (fq_RX6_25_60) (by decide +kernel) rfl (Or.inl ⟨rfl, rc_60_4⟩) (Or.inr rfl) ⟨by decide, by omega⟩ ?_
        refine mw_iload_n (pc' := 50) dX6_readCommand_49 rfl rfl rfl ?_
        obtain ⟨o15, h10⟩ := h10
        exact mw_iret (pc' := 0) (S := []) dX6_readCommand_50 rfl (Or.inr (Or.inl ⟨rfl, o15⟩)) h10
      · exact mx_out rfl h10
  · exact mx_out rfl h1
def pX6_parse_1 (x2 x3 : Int) (g : mG) (d : mD) (Q : mQ) : Prop := MW mX6_parse 0 0 18 [(0, vR 60), (1, vR 1), (2, vI x2), (3, vI x3)] [] g d Q
theorem eX6_parse {g : mG} {d : mD} {Q : mQ} (h : MM mX6_readCommand [vR 60, vR 1] g (ud (ud d 60 4 0) 60 5 0) (fun o g3 d4 => match o with | .inl v2 => pX6_parse_1 v2 1 g3 d4 Q | .inr k => Q (.inr k) g3 d4)) : MM mX6_parse [vR 60, vR 1] g d Q := by
  refine MM_of (by decide) rfl (by simp [catV]) (Nat.le_of_ble_eq_true rfl) ?_
  show MW mX6_parse 0 0 0 [(0, vR 60), (1, vR 1)] [] g d Q
  refine mw_top (fun hT => ?_)
  have hG : 76 ≤ g.2.1 := hT.2
  refine mw_aload_n (v := vR 60) (pc' := 1) dX6_parse_0 rfl rfl (Or.inl rfl) rfl ?_
  refine mw_iconst (pc' := 2) dX6_parse_1 rfl ⟨by decide, by decide⟩ ?_
  refine mw_putI (ji := 4) (pc' := 5) dX6_parse_2 rfl (fq_RX6_25_60) (by decide +kernel) rfl (Or.inl ⟨rfl, rc_60_4⟩) (Or.inr rfl) ⟨by decide, by omega⟩ ?_
  refine mw_aload_n (v := vR 60) (pc' := 6) dX6_parse_5 rfl rfl (Or.inl rfl) rfl ?_
  refine mw_iconst (pc' := 7) dX6_parse_6 rfl ⟨by decide, by decide⟩ ?_
  refine mw_putI (ji := 5) (pc' := 10) dX6_parse_7 rfl (fq_RX6_29_60) (by decide +kernel) rfl (Or.inl ⟨rfl, rc_60_5⟩) (Or.inr rfl) ⟨by decide, by omega⟩ ?_
  refine mw_aload_n (v := vR 60) (pc' := 11) dX6_parse_10 rfl rfl (Or.inl rfl) rfl ?_
  refine mw_aload_n (v := vR 1) (pc' := 12) dX6_parse_11 rfl rfl (Or.inl rfl) rfl ?_
  refine mw_callV (M' := mX6_readCommand) (A := [vR 1]) (A' := [vR 60, vR 1]) (S := []) (a := 60) (pc' := 15) dX6_parse_12 rfl cl_RX6_32 cm_X6_readCommand cv_X6_readCommand ⟨by decide, by decide, by decide, by decide, by decide⟩ rfl rfl rfl ⟨by decide, by omega⟩ (by decide +kernel) (by decide +kernel) (Nat.le_of_ble_eq_true rfl) (MM.mono ?_ h)
  intro o g3 d4 h1
  rcases o with v2 | k
  · refine mw_top (fun hT => ?_)
    have hG : 76 ≤ g3.2.1 := hT.2
    show MW mX6_parse 0 0 15 [(0, vR 60), (1, vR 1)] [vI v2] g3 d4 Q
    refine mw_istore_n (pc' := 16) (L' := [(0, vR 60), (1, vR 1), (2, vI v2)]) dX6_parse_15 rfl rfl (by decide) rfl ?_
    refine mw_iconst (pc' := 17) dX6_parse_16 rfl ⟨by decide, by decide⟩ ?_
    refine mw_istore_n (pc' := 18) (L' := [(0, vR 60), (1, vR 1), (2, vI v2), (3, vI 1)]) dX6_parse_17 rfl rfl (by decide) rfl ?_
    exact h1
  · exact mx_out rfl h1
theorem aX6_parse_1 {x2 x3 : Int} {g : mG} {d : mD} {Q : mQ} (h : (((¬ (x2 = 0)) ∧ ((¬ (d 1 1 ≤ d 60 5)) ∧ (¬ (16 ≤ x3)))) → ((¬ ((d 60 5) < 0)) → (¬ (d 1 1 ≤ (d 60 5))) → 0 ≤ (d 60 5) ∧ (d 60 5) < 60) ∧ ((0 ≤ iT ((d 60 5) < 0) 0 (iT (d 1 1 ≤ (d 60 5)) 0 (d 2 (d 60 5))) ∧ iT ((d 60 5) < 0) 0 (iT (d 1 1 ≤ (d 60 5)) 0 (d 2 (d 60 5))) ≤ 65535) ∧ (((iT ((d 60 5) < 0) 0 (iT (d 1 1 ≤ (d 60 5)) 0 (d 2 (d 60 5))) = 59) → (iI ((d 60 5) + 1)) ∧ (MM mX6_readCommand [vR 60, vR 1] g (ud d 60 5 ((d 60 5) + 1)) (fun o g16 d17 => match o with | .inl v15 => (iI (x3 + 1)) ∧ (pX6_parse_1 (bI (¬ (v15 = 0))) (x3 + 1) g16 d17 Q) | .inr k => Q (.inr k) g16 d17))) ∧ ((¬ (iT ((d 60 5) < 0) 0 (iT (d 1 1 ≤ (d 60 5)) 0 (d 2 (d 60 5))) = 59)) → (iI (x3 + 1)) ∧ (pX6_parse_1 0 (x3 + 1) g d Q))))) ∧ ((¬ ((¬ (x2 = 0)) ∧ ((¬ (d 1 1 ≤ d 60 5)) ∧ (¬ (16 ≤ x3))))) → Q (.inl (iT (x2 = 0) (d 60 5) (iT (d 60 5 = d 1 1) (-1) (d 60 5)))) g d)) : pX6_parse_1 x2 x3 g d Q := by
  unfold pX6_parse_1
  refine mw_top (fun hT => ?_)
  have hG : 76 ≤ g.2.1 := hT.2
  refine mw_iload_n (pc' := 19) dX6_parse_18 rfl rfl rfl ?_
  suffices k5 : (((¬ (x2 = 0)) ∧ ((¬ (d 1 1 ≤ d 60 5)) ∧ (¬ (16 ≤ x3)))) → MW mX6_parse 0 0 39 [(0, vR 60), (1, vR 1), (2, vI x2), (3, vI x3)] [] g d Q) ∧ ((¬ ((¬ (x2 = 0)) ∧ ((¬ (d 1 1 ≤ d 60 5)) ∧ (¬ (16 ≤ x3))))) → MW mX6_parse 0 0 69 [(0, vR 60), (1, vR 1), (2, vI x2), (3, vI x3)] [] g d Q) by
    refine mw_if_eq (tgt := 69) (pc' := 22) dX6_parse_19 rfl (by decide) (fun c6 => ?_) (fun c6 => ?_)
    · exact k5.2 (fun h => (h.1 c6))
    · refine mw_aload_n (v := vR 60) (pc' := 23) dX6_parse_22 rfl rfl (Or.inl rfl) rfl ?_
      refine mw_getI (ji := 5) (pc' := 26) dX6_parse_23 rfl fi_RX6_29_60 rfl ⟨by decide, by decide⟩ ?_
      refine mw_aload_n (v := vR 1) (pc' := 27) dX6_parse_26 rfl rfl (Or.inl rfl) rfl ?_
      refine mw_getI (ji := 1) (pc' := 30) dX6_parse_27 rfl fi_RX6_36_1 rfl ⟨by decide, by decide⟩ ?_
      refine mw_icmp_ge (tgt := 69) (pc' := 33) dX6_parse_30 rfl (by decide) (fun c7 => ?_) (fun c7 => ?_)
      · exact k5.2 (fun h => (fun h => (h.1 c7)) h.2)
      · refine mw_iload_n (pc' := 34) dX6_parse_33 rfl rfl rfl ?_
        refine mw_bipush (pc' := 36) dX6_parse_34 rfl ⟨by decide, by decide⟩ ?_
        refine mw_icmp_ge (tgt := 69) (pc' := 39) dX6_parse_36 rfl (by decide) (fun c8 => ?_) (fun c8 => ?_)
        · exact k5.2 (fun h => (fun h => (fun h => (h c8)) h.2) h.2)
        · exact k5.1 ⟨c6, ⟨c7, c8⟩⟩
  refine ⟨fun c9 => ?_, fun c9 => ?_⟩
  · replace h := h.1 c9
    refine mw_aload_n (v := vR 60) (pc' := 40) dX6_parse_39 rfl rfl (Or.inl rfl) rfl ?_
    refine mw_aload_n (v := vR 1) (pc' := 41) dX6_parse_40 rfl rfl (Or.inl rfl) rfl ?_
    refine mw_bipush (pc' := 43) dX6_parse_41 rfl ⟨by decide, by decide⟩ ?_
    refine mw_callV (M' := mX6_readSign) (A := [vR 1, vI 59]) (A' := [vR 60, vR 1, vI 59]) (S := []) (a := 60) (pc' := 46) dX6_parse_43 rfl cl_RX6_41 cm_X6_readSign cv_X6_readSign ⟨by decide, by decide, by decide, by decide, by decide⟩ rfl rfl rfl ⟨by decide, by omega⟩ (by decide +kernel) (by decide +kernel) (Nat.le_of_ble_eq_true rfl) (eX6_readSign ?_)
    obtain ⟨o10, h⟩ := h
    refine ⟨o10, ?_⟩
    obtain ⟨o11, h⟩ := h
    refine ⟨o11, ?_⟩
    refine ⟨fun c12 => ?_, fun c12 => ?_⟩
    · replace h := h.1 (show iT ((d 60 5) < 0) 0 (iT (d 1 1 ≤ (d 60 5)) 0 (d 2 (d 60 5))) = 59 from c12)
      obtain ⟨o13, h⟩ := h
      refine ⟨o13, ?_⟩
      show MW mX6_parse 0 0 46 [(0, vR 60), (1, vR 1), (2, vI x2), (3, vI x3)] [vI 1] g (ud d 60 5 ((d 60 5) + 1)) Q
      refine mw_if_eq (tgt := 61) (pc' := 49) dX6_parse_46 rfl (by decide) (fun q => absurd q (by decide)) (fun _ => ?_)
      refine mw_aload_n (v := vR 60) (pc' := 50) dX6_parse_49 rfl rfl (Or.inl rfl) rfl ?_
      refine mw_aload_n (v := vR 1) (pc' := 51) dX6_parse_50 rfl rfl (Or.inl rfl) rfl ?_
      refine mw_callV (M' := mX6_readCommand) (A := [vR 1]) (A' := [vR 60, vR 1]) (S := []) (a := 60) (pc' := 54) dX6_parse_51 rfl cl_RX6_32 cm_X6_readCommand cv_X6_readCommand ⟨by decide, by decide, by decide, by decide, by decide⟩ rfl rfl rfl ⟨by decide, by omega⟩ (by decide +kernel) (by decide +kernel) (Nat.le_of_ble_eq_true rfl) (MM.mono ?_ h)
      intro o g16 d17 h14
      rcases o with v15 | k
      · refine mw_top (fun hT => ?_)
        have hG : 76 ≤ g16.2.1 := hT.2
        show MW mX6_parse 0 0 54 [(0, vR 60), (1, vR 1), (2, vI x2), (3, vI x3)] [vI v15] g16 d17 Q
        suffices k18 : MW mX6_parse 0 0 62 [(0, vR 60), (1, vR 1), (2, vI x2), (3, vI x3)] [vI (bI (¬ (v15 = 0)))] g16 d17 Q by
          refine mw_if_eq (tgt := 61) (pc' := 57) dX6_parse_54 rfl (by decide) (fun c19 => ?_) (fun c19 => ?_)
          · refine mw_iconst (pc' := 62) dX6_parse_61 rfl ⟨by decide, by decide⟩ ?_
            exact mw_st (bI_f (fun h => (h c19))).symm k18
          · refine mw_iconst (pc' := 58) dX6_parse_57 rfl ⟨by decide, by decide⟩ ?_
            refine mw_goto (pc' := 0) (tgt := 62) dX6_parse_58 (by decide) ?_
            exact mw_st (bI_t c19).symm k18
        refine mw_istore_n (pc' := 63) (L' := [(0, vR 60), (1, vR 1), (2, vI (bI (¬ (v15 = 0)))), (3, vI x3)]) dX6_parse_62 rfl rfl (by decide) rfl ?_
        obtain ⟨o20, h14⟩ := h14
        refine mw_iinc (pc' := 66) (L' := [(0, vR 60), (1, vR 1), (2, vI (bI (¬ (v15 = 0)))), (3, vI (x3 + 1))]) dX6_parse_63 rfl rfl (by decide) o20 rfl ?_
        refine mw_goto (pc' := 0) (tgt := 18) dX6_parse_66 (by decide) ?_
        exact h14
      · exact mx_out rfl h14
    · replace h := h.2 (show ¬ (iT ((d 60 5) < 0) 0 (iT (d 1 1 ≤ (d 60 5)) 0 (d 2 (d 60 5))) = 59) from c12)
      show MW mX6_parse 0 0 46 [(0, vR 60), (1, vR 1), (2, vI x2), (3, vI x3)] [vI 0] g d Q
      refine mw_if_eq (tgt := 61) (pc' := 49) dX6_parse_46 rfl (by decide) (fun _ => ?_) (fun q => absurd q (by decide))
      refine mw_iconst (pc' := 62) dX6_parse_61 rfl ⟨by decide, by decide⟩ ?_
      refine mw_istore_n (pc' := 63) (L' := [(0, vR 60), (1, vR 1), (2, vI 0), (3, vI x3)]) dX6_parse_62 rfl rfl (by decide) rfl ?_
      obtain ⟨o21, h⟩ := h
      refine mw_iinc (pc' := 66) (L' := [(0, vR 60), (1, vR 1), (2, vI 0), (3, vI (x3 + 1))]) dX6_parse_63 rfl rfl (by decide) o21 rfl ?_
      refine mw_goto (pc' := 0) (tgt := 18) dX6_parse_66 (by decide) ?_
      exact h
  · replace h := h.2 c9
    refine mw_iload_n (pc' := 70) dX6_parse_69 rfl rfl rfl ?_
    suffices k22 : MW mX6_parse 0 0 92 [(0, vR 60), (1, vR 1), (2, vI x2), (3, vI x3)] [vI (iT (x2 = 0) (d 60 5) (iT (d 60 5 = d 1 1) (-1) (d 60 5)))] g d Q by
      refine mw_if_eq (tgt := 88) (pc' := 73) dX6_parse_70 rfl (by decide) (fun c23 => ?_) (fun c23 => ?_)
      · refine mw_aload_n (v := vR 60) (pc' := 89) dX6_parse_88 rfl rfl (Or.inl rfl) rfl ?_
        refine mw_getI (ji := 5) (pc' := 92) dX6_parse_89 rfl fi_RX6_29_60 rfl ⟨by decide, by decide⟩ ?_
        exact mw_st (((iT_t c23).trans rfl)).symm k22
      · refine mw_aload_n (v := vR 60) (pc' := 74) dX6_parse_73 rfl rfl (Or.inl rfl) rfl ?_
        refine mw_getI (ji := 5) (pc' := 77) dX6_parse_74 rfl fi_RX6_29_60 rfl ⟨by decide, by decide⟩ ?_
        refine mw_aload_n (v := vR 1) (pc' := 78) dX6_parse_77 rfl rfl (Or.inl rfl) rfl ?_
        refine mw_getI (ji := 1) (pc' := 81) dX6_parse_78 rfl fi_RX6_36_1 rfl ⟨by decide, by decide⟩ ?_
        refine mw_icmp_ne (tgt := 88) (pc' := 84) dX6_parse_81 rfl (by decide) (fun c24 => ?_) (fun c24 => ?_)
        · refine mw_aload_n (v := vR 60) (pc' := 89) dX6_parse_88 rfl rfl (Or.inl rfl) rfl ?_
          refine mw_getI (ji := 5) (pc' := 92) dX6_parse_89 rfl fi_RX6_29_60 rfl ⟨by decide, by decide⟩ ?_
          exact mw_st (((iT_f c23).trans ((iT_f c24).trans rfl))).symm k22
        · refine mw_iconst (pc' := 85) dX6_parse_84 rfl ⟨by decide, by decide⟩ ?_
          refine mw_goto (pc' := 0) (tgt := 92) dX6_parse_85 (by decide) ?_
          exact mw_st (((iT_f c23).trans ((iT_t c24).trans rfl))).symm k22
    exact mw_iret (pc' := 0) (S := []) dX6_parse_92 rfl (Or.inl rfl) h
