def mVis (n : Nat) : mM := (yX1_visit, cX1_visit, 6, RX1, (some .int), (8 + n, 200 + 40 * n, 0, 0), 65, [])

def pX1_visit_1 (n : Nat) (x1 x2 x3 x4 x5 : Int) (g : mG) (d : mD) (Q : mQ) : Prop := MW (mVis (n + 1)) 0 0 18 [(0, vR 46), (1, vI x1), (2, vI x2), (3, vI x3), (4, vI x4), (5, vI x5)] [] g d Q
theorem eX1_visit {n : Nat} {x1 x2 x3 : Int} {g : mG} {d : mD} {Q : mQ} (h : ((x3 < 8) → (0 ≤ x1 ∧ x1 < 31) ∧ ((iI ((1 : Int) * 2 ^ (x1).toNat)) ∧ ((0 ≤ x2) ∧ ((0 ≤ (1 : Int) * 2 ^ (x1).toNat) ∧ (pX1_visit_1 n x1 x2 x3 (nOr x2 ((1 : Int) * 2 ^ (x1).toNat)) 0 g d Q))))) ∧ ((¬ (x3 < 8)) → Q (.inl x2) g d)) : MM (mVis (n + 1)) [vR 46, vI x1, vI x2, vI x3] g d Q := by
  refine MM_of (by show plainName "TollClock$Claims" = true; decide) rfl (by simp [catV]) (Nat.le_of_ble_eq_true rfl) ?_
  show MW (mVis (n + 1)) 0 0 0 [(0, vR 46), (1, vI x1), (2, vI x2), (3, vI x3)] [] g d Q
  refine mw_top (fun hT => ?_)
  have hG : 65 ≤ g.2.1 := hT.2
  refine mw_iload_n (pc' := 1) dX1_visit_0 rfl rfl rfl ?_
  refine mw_bipush (pc' := 3) dX1_visit_1 rfl ⟨by decide, by decide⟩ ?_
  refine mw_icmp_lt (tgt := 8) (pc' := 6) dX1_visit_3 rfl (by decide) (fun c9 => ?_) (fun c9 => ?_)
  · replace h := h.1 c9
    refine mw_iload_n (pc' := 9) dX1_visit_8 rfl rfl rfl ?_
    refine mw_iconst (pc' := 10) dX1_visit_9 rfl ⟨by decide, by decide⟩ ?_
    refine mw_iload_n (pc' := 11) dX1_visit_10 rfl rfl rfl ?_
    obtain ⟨o10, h⟩ := h
    obtain ⟨o11, h⟩ := h
    refine mw_ishl (pc' := 12) dX1_visit_11 rfl (by decide) o10 o11 ?_
    obtain ⟨o12, h⟩ := h
    obtain ⟨o13, h⟩ := h
    refine mw_ior (pc' := 13) dX1_visit_12 rfl o12 o13 ?_
    refine mw_istore (pc' := 15) (L' := [(0, vR 46), (1, vI x1), (2, vI x2), (3, vI x3), (4, vI (nOr x2 ((1 : Int) * 2 ^ (x1).toNat)))]) dX1_visit_13 rfl (Nat.le_of_ble_eq_true rfl) rfl ?_
    refine mw_iconst (pc' := 16) dX1_visit_15 rfl ⟨by decide, by decide⟩ ?_
    refine mw_istore (pc' := 18) (L' := [(0, vR 46), (1, vI x1), (2, vI x2), (3, vI x3), (4, vI (nOr x2 ((1 : Int) * 2 ^ (x1).toNat))), (5, vI 0)]) dX1_visit_16 rfl (Nat.le_of_ble_eq_true rfl) rfl ?_
    exact h
  · replace h := h.2 c9
    refine mw_iload_n (pc' := 7) dX1_visit_6 rfl rfl rfl ?_
    exact mw_iret (pc' := 0) (S := []) dX1_visit_7 rfl (Or.inl rfl) h
theorem aX1_visit_1 {n : Nat} {x1 x2 x3 x4 x5 : Int} {g : mG} {d : mD} {Q : mQ} (h : ((8 ≤ x5) → Q (.inl x4) g d) ∧ ((¬ (8 ≤ x5)) → (0 ≤ x1 ∧ x1 < 8) ∧ ((0 ≤ d 46 x1) ∧ ((0 ≤ x5 ∧ x5 < 32) ∧ (((((d 46 x1) / 2 ^ (x5).toNat) % 2 = 1) → 0 ≤ x4) ∧ ((((((d 46 x1) / 2 ^ (x5).toNat) % 2 = 1) ∧ ((x4 / 2 ^ (x5).toNat) % 2 = 0)) → (iI (x3 + 1)) ∧ (MM (mVis n) [vR 46, vI x5, vI x4, vI (x3 + 1)] g d (fun o g36 d37 => match o with | .inl v35 => (iI (x5 + 1)) ∧ (pX1_visit_1 n x1 x2 x3 v35 (x5 + 1) g36 d37 Q) | .inr k => Q (.inr k) g36 d37))) ∧ ((¬ ((((d 46 x1) / 2 ^ (x5).toNat) % 2 = 1) ∧ ((x4 / 2 ^ (x5).toNat) % 2 = 0))) → (iI (x5 + 1)) ∧ (pX1_visit_1 n x1 x2 x3 x4 (x5 + 1) g d Q)))))))) : pX1_visit_1 n x1 x2 x3 x4 x5 g d Q := by
  unfold pX1_visit_1
  refine mw_top (fun hT => ?_)
  have hG : 65 ≤ g.2.1 := hT.2
  refine mw_iload (pc' := 20) dX1_visit_18 rfl rfl ?_
  refine mw_bipush (pc' := 22) dX1_visit_20 rfl ⟨by decide, by decide⟩ ?_
  refine mw_icmp_ge (tgt := 66) (pc' := 25) dX1_visit_22 rfl (by decide) (fun c21 => ?_) (fun c21 => ?_)
  · replace h := h.1 c21
    refine mw_iload (pc' := 68) dX1_visit_66 rfl rfl ?_
    exact mw_iret (pc' := 0) (S := []) dX1_visit_68 rfl (Or.inl rfl) h
  · replace h := h.2 c21
    refine mw_aload_n (v := vR 46) (pc' := 26) dX1_visit_25 rfl rfl (Or.inl rfl) rfl ?_
    refine mw_iload_n (pc' := 27) dX1_visit_26 rfl rfl rfl ?_
    obtain ⟨o22, h⟩ := h
    refine mw_iald (pc' := 28) dX1_visit_27 rfl lk_46 ⟨by decide, (by show (46 : Int) < 65; decide)⟩ (by rw [ln_46]; exact o22) ?_
    refine mw_iload (pc' := 30) dX1_visit_28 rfl rfl ?_
    obtain ⟨o23, h⟩ := h
    obtain ⟨o24, h⟩ := h
    refine mw_ishr (pc' := 31) dX1_visit_30 rfl o23 o24 ?_
    refine mw_iconst (pc' := 32) dX1_visit_31 rfl ⟨by decide, by decide⟩ ?_
    refine mw_imask (n := 2) (n1 := 2) (k := 1) (pc' := 33) dX1_visit_32 rfl (by decide) (by decide) (by decide) (by decide) ?_
    refine mw_iconst (pc' := 34) dX1_visit_33 rfl ⟨by decide, by decide⟩ ?_
    obtain ⟨o25, h⟩ := h
    suffices k29 : (((((d 46 x1) / 2 ^ (x5).toNat) % 2 = 1) ∧ ((x4 / 2 ^ (x5).toNat) % 2 = 0)) → MW (mVis (n + 1)) 0 0 47 [(0, vR 46), (1, vI x1), (2, vI x2), (3, vI x3), (4, vI x4), (5, vI x5)] [] g d Q) ∧ ((¬ ((((d 46 x1) / 2 ^ (x5).toNat) % 2 = 1) ∧ ((x4 / 2 ^ (x5).toNat) % 2 = 0))) → MW (mVis (n + 1)) 0 0 60 [(0, vR 46), (1, vI x1), (2, vI x2), (3, vI x3), (4, vI x4), (5, vI x5)] [] g d Q) by
      refine mw_icmp_ne (tgt := 60) (pc' := 37) dX1_visit_34 rfl (by decide) (fun c30 => ?_) (fun c30 => ?_)
      · exact k29.2 (fun h => (c30 h.1))
      · refine mw_iload (pc' := 39) dX1_visit_37 rfl rfl ?_
        refine mw_iload (pc' := 41) dX1_visit_39 rfl rfl ?_
        refine mw_ishr (pc' := 42) dX1_visit_41 rfl (o25 c30) o24 ?_
        refine mw_iconst (pc' := 43) dX1_visit_42 rfl ⟨by decide, by decide⟩ ?_
        refine mw_imask (n := 2) (n1 := 2) (k := 1) (pc' := 44) dX1_visit_43 rfl (by decide) (by decide) (by decide) (by decide) ?_
        refine mw_if_ne (tgt := 60) (pc' := 47) dX1_visit_44 rfl (by decide) (fun c31 => ?_) (fun c31 => ?_)
        · exact k29.2 (fun h => (fun h => (c31 h)) h.2)
        · exact k29.1 ⟨c30, c31⟩
    refine ⟨fun c32 => ?_, fun c32 => ?_⟩
    · replace h := h.1 c32
      refine mw_aload_n (v := vR 46) (pc' := 48) dX1_visit_47 rfl rfl (Or.inl rfl) rfl ?_
      refine mw_iload (pc' := 50) dX1_visit_48 rfl rfl ?_
      refine mw_iload (pc' := 52) dX1_visit_50 rfl rfl ?_
      refine mw_iload_n (pc' := 53) dX1_visit_52 rfl rfl rfl ?_
      refine mw_iconst (pc' := 54) dX1_visit_53 rfl ⟨by decide, by decide⟩ ?_
      obtain ⟨o33, h⟩ := h
      refine mw_iadd (pc' := 55) dX1_visit_54 rfl o33 ?_
      refine mw_callS (M' := (mVis n)) (A := [vR 46, vI x5, vI x4, vI (x3 + 1)]) (S := []) (pc' := 58) dX1_visit_55 rfl cl_RX1_65 cm_X1_visit cs_X1_visit ⟨(by show 8 + n + 1 ≤ 8 + (n + 1); omega), (by show 8 + (6 + 11) + (200 + 40 * n) ≤ 200 + 40 * (n + 1); omega), Nat.le_refl 0, Nat.le_refl 0, Int.le_refl 65⟩ rfl rfl (Nat.le_of_ble_eq_true rfl) (MM.mono ?_ h)
      intro o g36 d37 h34
      rcases o with v35 | k
      · refine mw_top (fun hT => ?_)
        have hG : 65 ≤ g36.2.1 := hT.2
        show MW (mVis (n + 1)) 0 0 58 [(0, vR 46), (1, vI x1), (2, vI x2), (3, vI x3), (4, vI x4), (5, vI x5)] [vI v35] g36 d37 Q
        refine mw_istore (pc' := 60) (L' := [(0, vR 46), (1, vI x1), (2, vI x2), (3, vI x3), (4, vI v35), (5, vI x5)]) dX1_visit_58 rfl (Nat.le_of_ble_eq_true rfl) rfl ?_
        obtain ⟨o38, h34⟩ := h34
        refine mw_iinc (pc' := 63) (L' := [(0, vR 46), (1, vI x1), (2, vI x2), (3, vI x3), (4, vI v35), (5, vI (x5 + 1))]) dX1_visit_60 rfl rfl (Nat.le_of_ble_eq_true rfl) o38 rfl ?_
        refine mw_goto (pc' := 0) (tgt := 18) dX1_visit_63 (by decide) ?_
        exact h34
      · exact mx_out rfl h34
    · replace h := h.2 c32
      obtain ⟨o39, h⟩ := h
      refine mw_iinc (pc' := 63) (L' := [(0, vR 46), (1, vI x1), (2, vI x2), (3, vI x3), (4, vI x4), (5, vI (x5 + 1))]) dX1_visit_60 rfl rfl (Nat.le_of_ble_eq_true rfl) o39 rfl ?_
      refine mw_goto (pc' := 0) (tgt := 18) dX1_visit_63 (by decide) ?_
      exact h
theorem eX1_isReached {x1 x2 : Int} {g : mG} {d : mD} {Q : mQ} (h : MM (mVis 9) [vR 46, vI x1, vI 0, vI 0] g d (fun o g3 d4 => match o with | .inl v2 => (0 ≤ v2) ∧ ((0 ≤ x2 ∧ x2 < 32) ∧ (Q (.inl (bI ((v2 / 2 ^ (x2).toNat) % 2 = 1))) g3 d4)) | .inr k => Q (.inr k) g3 d4)) : MM mX1_isReached [vR 33, vI x1, vI x2] g d Q := by
  refine MM_of (by decide) rfl (by simp [catV]) (Nat.le_of_ble_eq_true rfl) ?_
  show MW mX1_isReached 0 0 0 [(0, vR 33), (1, vI x1), (2, vI x2)] [] g d Q
  refine mw_top (fun hT => ?_)
  have hG : 65 ≤ g.2.1 := hT.2
  refine mw_aload_n (v := vR 33) (pc' := 1) dX1_isReached_0 rfl rfl (Or.inl rfl) rfl ?_
  refine mw_getP (v := 46) (pc' := 4) dX1_isReached_1 rfl fr_RX1_18_33 rfl sp_33_1 ⟨by decide, by decide⟩ ?_
  refine mw_iload_n (pc' := 5) dX1_isReached_4 rfl rfl rfl ?_
  refine mw_iconst (pc' := 6) dX1_isReached_5 rfl ⟨by decide, by decide⟩ ?_
  refine mw_iconst (pc' := 7) dX1_isReached_6 rfl ⟨by decide, by decide⟩ ?_
  refine mw_callS (M' := (mVis 9)) (A := [vR 46, vI x1, vI 0, vI 0]) (S := []) (pc' := 10) dX1_isReached_7 rfl cl_RX1_65 cm_X1_visit cs_X1_visit ⟨by decide, by decide, by decide, by decide, by decide⟩ rfl rfl (Nat.le_of_ble_eq_true rfl) (MM.mono ?_ h)
  intro o g3 d4 h1
  rcases o with v2 | k
  · refine mw_top (fun hT => ?_)
    have hG : 65 ≤ g3.2.1 := hT.2
    show MW mX1_isReached 0 0 10 [(0, vR 33), (1, vI x1), (2, vI x2)] [vI v2] g3 d4 Q
    refine mw_iload_n (pc' := 11) dX1_isReached_10 rfl rfl rfl ?_
    obtain ⟨o5, h1⟩ := h1
    obtain ⟨o6, h1⟩ := h1
    refine mw_ishr (pc' := 12) dX1_isReached_11 rfl o5 o6 ?_
    refine mw_iconst (pc' := 13) dX1_isReached_12 rfl ⟨by decide, by decide⟩ ?_
    refine mw_imask (n := 2) (n1 := 2) (k := 1) (pc' := 14) dX1_isReached_13 rfl (by decide) (by decide) (by decide) (by decide) ?_
    refine mw_iconst (pc' := 15) dX1_isReached_14 rfl ⟨by decide, by decide⟩ ?_
    suffices k7 : MW mX1_isReached 0 0 23 [(0, vR 33), (1, vI x1), (2, vI x2)] [vI (bI ((v2 / 2 ^ (x2).toNat) % 2 = 1))] g3 d4 Q by
      refine mw_icmp_ne (tgt := 22) (pc' := 18) dX1_isReached_15 rfl (by decide) (fun c8 => ?_) (fun c8 => ?_)
      · refine mw_iconst (pc' := 23) dX1_isReached_22 rfl ⟨by decide, by decide⟩ ?_
        exact mw_st (bI_f (fun h => (c8 h))).symm k7
      · refine mw_iconst (pc' := 19) dX1_isReached_18 rfl ⟨by decide, by decide⟩ ?_
        refine mw_goto (pc' := 0) (tgt := 23) dX1_isReached_19 (by decide) ?_
        exact mw_st (bI_t c8).symm k7
    exact mw_iret (pc' := 0) (S := []) dX1_isReached_23 rfl (Or.inr (Or.inl ⟨rfl, bI_rng⟩)) h1
  · exact mx_out rfl h1
