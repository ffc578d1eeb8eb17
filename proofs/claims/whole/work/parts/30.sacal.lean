theorem fi_RX0_25_10 : FI RX0 25 10 2 := ⟨(show LK 10 = 0 by decide +kernel) ▸ fg_RX0_25, by decide +kernel, by decide +kernel, by decide⟩
theorem fr_RX0_9_10 : FR RX0 9 10 1 := ⟨(show LK 10 = 0 by decide +kernel) ▸ fg_RX0_9, by decide +kernel, by decide +kernel, by decide⟩
theorem sp_10_1 : ((10, 1, 11) : Int × Int × Int) ∈ SPl := by decide +kernel
theorem ln_11 : LN 11 = 40 := by decide +kernel
theorem lk_11 : LK 11 = 100 := by decide +kernel
theorem rc_10_2 : RC 10 2 = 0 := by decide +kernel
theorem fq_RX0_25_10 : FP RX0 25 (LK 10) 2 .int false := (show LK 10 = 0 by decide +kernel) ▸ fp_RX0_25
def pX0_placeOf_1 (x1 x2 : Int) (g : mG) (d : mD) (Q : mQ) : Prop := MW mX0_placeOf 0 0 2 [(0, vR 10), (1, vI x1), (2, vI x2)] [] g d Q
theorem eX0_placeOf {x1 : Int} {g : mG} {d : mD} {Q : mQ} (h : pX0_placeOf_1 x1 0 g d Q) : MM mX0_placeOf [vR 10, vI x1] g d Q := by
  refine MM_of (by decide) rfl (by simp [catV]) (by decide) ?_
  show MW mX0_placeOf 0 0 0 [(0, vR 10), (1, vI x1)] [] g d Q
  refine mw_iconst (pc' := 1) dX0_placeOf_0 rfl ⟨by decide, by decide⟩ ?_
  refine mw_istore_n (pc' := 2) (L' := [(0, vR 10), (1, vI x1), (2, vI 0)]) dX0_placeOf_1 rfl rfl (by decide) rfl ?_
  exact h
theorem aX0_placeOf_1 {x1 x2 : Int} {g : mG} {d : mD} {Q : mQ} (h : ((d 10 2 ≤ x2) → Q (.inl (-1)) g d) ∧ ((¬ (d 10 2 ≤ x2)) → (0 ≤ x2 ∧ x2 < 40) ∧ (((¬ d 11 x2 = x1) → (iI (x2 + 1)) ∧ (pX0_placeOf_1 x1 (x2 + 1) g d Q)) ∧ ((d 11 x2 = x1) → Q (.inl x2) g d)))) : pX0_placeOf_1 x1 x2 g d Q := by
  unfold pX0_placeOf_1
  refine mw_iload_n (pc' := 3) dX0_placeOf_2 rfl rfl rfl ?_
  refine mw_aload_n (v := vR 10) (pc' := 4) dX0_placeOf_3 rfl rfl (Or.inl rfl) rfl ?_
  refine mw_getI (ji := 2) (pc' := 7) dX0_placeOf_4 rfl fi_RX0_25_10 rfl ⟨by decide, by decide⟩ ?_
  refine mw_icmp_ge (tgt := 28) (pc' := 10) dX0_placeOf_7 rfl (by decide) (fun c1 => ?_) (fun c1 => ?_)
  · replace h := h.1 c1
    refine mw_iconst (pc' := 29) dX0_placeOf_28 rfl ⟨by decide, by decide⟩ ?_
    exact mw_iret dX0_placeOf_29 rfl (Or.inl rfl) h
  · replace h := h.2 c1
    refine mw_aload_n (v := vR 10) (pc' := 11) dX0_placeOf_10 rfl rfl (Or.inl rfl) rfl ?_
    refine mw_getP (v := 11) (pc' := 14) dX0_placeOf_11 rfl fr_RX0_9_10 rfl sp_10_1 ⟨by decide, by decide⟩ ?_
    refine mw_iload_n (pc' := 15) dX0_placeOf_14 rfl rfl rfl ?_
    obtain ⟨o2, h⟩ := h
    refine mw_iald (pc' := 16) dX0_placeOf_15 rfl lk_11 ⟨by decide, by decide⟩ (by rw [ln_11]; exact o2) ?_
    refine mw_iload_n (pc' := 17) dX0_placeOf_16 rfl rfl rfl ?_
    refine mw_icmp_ne (tgt := 22) (pc' := 20) dX0_placeOf_17 rfl (by decide) (fun c3 => ?_) (fun c3 => ?_)
    · replace h := h.1 c3
      obtain ⟨o4, h⟩ := h
      refine mw_iinc (pc' := 25) (L' := [(0, vR 10), (1, vI x1), (2, vI (x2 + 1))]) dX0_placeOf_22 rfl rfl (by decide) o4 rfl ?_
      refine mw_goto (tgt := 2) dX0_placeOf_25 (by decide) ?_
      exact h
    · replace h := h.2 c3
      refine mw_iload_n (pc' := 21) dX0_placeOf_20 rfl rfl rfl ?_
      exact mw_iret dX0_placeOf_21 rfl (Or.inl rfl) h
theorem eX0_isHoliday {x1 : Int} {g : mG} {d : mD} {Q : mQ} (h : MM mX0_placeOf [vR 10, vI x1] g d (fun o g3 d4 => match o with | .inl v2 => ((v2 = (-1)) → Q (.inl 0) g3 d4) ∧ ((¬ (v2 = (-1))) → Q (.inl 1) g3 d4) | .inr k => Q (.inr k) g3 d4)) : MM mX0_isHoliday [vR 10, vI x1] g d Q := by
  refine MM_of (by decide) rfl (by simp [catV]) (by decide) ?_
  show MW mX0_isHoliday 0 0 0 [(0, vR 10), (1, vI x1)] [] g d Q
  refine mw_aload_n (v := vR 10) (pc' := 1) dX0_isHoliday_0 rfl rfl (Or.inl rfl) rfl ?_
  refine mw_iload_n (pc' := 2) dX0_isHoliday_1 rfl rfl rfl ?_
  refine mw_top (fun hT => ?_)
  refine mw_callV (M' := mX0_placeOf) (A := [vI x1]) (A' := [vR 10, vI x1]) (S := []) (a := 10) (pc' := 5) dX0_isHoliday_2 rfl cl_RX0_28 cm_X0_placeOf cv_X0_placeOf ⟨by decide, by decide, by decide, by decide, by decide⟩ rfl rfl rfl ⟨by decide, by have := hT.2; omega⟩ (by decide +kernel) (by decide +kernel) (by decide) (MM.mono ?_ h)
  intro o g3 d4 h1
  rcases o with v2 | k
  · show MW mX0_isHoliday 0 0 5 [(0, vR 10), (1, vI x1)] [vI v2] g3 d4 Q
    refine mw_iconst (pc' := 6) dX0_isHoliday_5 rfl ⟨by decide, by decide⟩ ?_
    refine mw_icmp_eq (tgt := 13) (pc' := 9) dX0_isHoliday_6 rfl (by decide) (fun c5 => ?_) (fun c5 => ?_)
    · replace h1 := h1.1 c5
      refine mw_iconst (pc' := 14) dX0_isHoliday_13 rfl ⟨by decide, by decide⟩ ?_
      exact mw_iret dX0_isHoliday_14 rfl (Or.inr (Or.inl ⟨rfl, by decide, by decide⟩)) h1
    · replace h1 := h1.2 c5
      refine mw_iconst (pc' := 10) dX0_isHoliday_9 rfl ⟨by decide, by decide⟩ ?_
      refine mw_goto (tgt := 14) dX0_isHoliday_10 (by decide) ?_
      exact mw_iret dX0_isHoliday_14 rfl (Or.inr (Or.inl ⟨rfl, by decide, by decide⟩)) h1
  · exact mx_out rfl h1
theorem eX0_isCourt {x1 : Int} {g : mG} {d : mD} {Q : mQ} (h : (0 ≤ x1) ∧ (((5 ≤ x1 % 7) → Q (.inl 0) g d) ∧ ((¬ (5 ≤ x1 % 7)) → MM mX0_placeOf [vR 10, vI x1] g d (fun o g5 d6 => match o with | .inl v4 => ((¬ v4 = (-1)) → Q (.inl 0) g5 d6) ∧ ((v4 = (-1)) → Q (.inl 1) g5 d6) | .inr k => Q (.inr k) g5 d6)))) : MM mX0_isCourt [vR 10, vI x1] g d Q := by
  refine MM_of (by decide) rfl (by simp [catV]) (by decide) ?_
  show MW mX0_isCourt 0 0 0 [(0, vR 10), (1, vI x1)] [] g d Q
  refine mw_iload_n (pc' := 1) dX0_isCourt_0 rfl rfl rfl ?_
  refine mw_bipush (pc' := 3) dX0_isCourt_1 rfl ⟨by decide, by decide⟩ ?_
  obtain ⟨o1, h⟩ := h
  refine mw_irem (pc' := 4) dX0_isCourt_3 rfl o1 (by decide) ?_
  refine mw_iconst (pc' := 5) dX0_isCourt_4 rfl ⟨by decide, by decide⟩ ?_
  refine mw_icmp_ge (tgt := 21) (pc' := 8) dX0_isCourt_5 rfl (by decide) (fun c2 => ?_) (fun c2 => ?_)
  · replace h := h.1 c2
    refine mw_iconst (pc' := 22) dX0_isCourt_21 rfl ⟨by decide, by decide⟩ ?_
    exact mw_iret dX0_isCourt_22 rfl (Or.inr (Or.inl ⟨rfl, by decide, by decide⟩)) h
  · replace h := h.2 c2
    refine mw_aload_n (v := vR 10) (pc' := 9) dX0_isCourt_8 rfl rfl (Or.inl rfl) rfl ?_
    refine mw_iload_n (pc' := 10) dX0_isCourt_9 rfl rfl rfl ?_
    refine mw_top (fun hT => ?_)
    refine mw_callV (M' := mX0_placeOf) (A := [vI x1]) (A' := [vR 10, vI x1]) (S := []) (a := 10) (pc' := 13) dX0_isCourt_10 rfl cl_RX0_28 cm_X0_placeOf cv_X0_placeOf ⟨by decide, by decide, by decide, by decide, by decide⟩ rfl rfl rfl ⟨by decide, by have := hT.2; omega⟩ (by decide +kernel) (by decide +kernel) (by decide) (MM.mono ?_ h)
    intro o g5 d6 h3
    rcases o with v4 | k
    · show MW mX0_isCourt 0 0 13 [(0, vR 10), (1, vI x1)] [vI v4] g5 d6 Q
      refine mw_iconst (pc' := 14) dX0_isCourt_13 rfl ⟨by decide, by decide⟩ ?_
      refine mw_icmp_ne (tgt := 21) (pc' := 17) dX0_isCourt_14 rfl (by decide) (fun c7 => ?_) (fun c7 => ?_)
      · replace h3 := h3.1 c7
        refine mw_iconst (pc' := 22) dX0_isCourt_21 rfl ⟨by decide, by decide⟩ ?_
        exact mw_iret dX0_isCourt_22 rfl (Or.inr (Or.inl ⟨rfl, by decide, by decide⟩)) h3
      · replace h3 := h3.2 c7
        refine mw_iconst (pc' := 18) dX0_isCourt_17 rfl ⟨by decide, by decide⟩ ?_
        refine mw_goto (tgt := 22) dX0_isCourt_18 (by decide) ?_
        exact mw_iret dX0_isCourt_22 rfl (Or.inr (Or.inl ⟨rfl, by decide, by decide⟩)) h3
    · exact mx_out rfl h3
theorem eX0_insertHoliday {x1 : Int} {g : mG} {d : mD} {Q : mQ} (h : ((40 ≤ d 10 2) → Q (.inl 0) g d) ∧ ((¬ (40 ≤ d 10 2)) → (0 ≤ d 10 2 ∧ d 10 2 < 40) ∧ ((iI (((ud d 11 (d 10 2) x1) 10 2) + 1)) ∧ (Q (.inl 0) g (ud (ud d 11 (d 10 2) x1) 10 2 (((ud d 11 (d 10 2) x1) 10 2) + 1)))))) : MM mX0_insertHoliday [vR 10, vI x1] g d Q := by
  refine MM_of (by decide) rfl (by simp [catV]) (by decide) ?_
  show MW mX0_insertHoliday 0 0 0 [(0, vR 10), (1, vI x1)] [] g d Q
  refine mw_aload_n (v := vR 10) (pc' := 1) dX0_insertHoliday_0 rfl rfl (Or.inl rfl) rfl ?_
  refine mw_getI (ji := 2) (pc' := 4) dX0_insertHoliday_1 rfl fi_RX0_25_10 rfl ⟨by decide, by decide⟩ ?_
  refine mw_bipush (pc' := 6) dX0_insertHoliday_4 rfl ⟨by decide, by decide⟩ ?_
  refine mw_icmp_ge (tgt := 29) (pc' := 9) dX0_insertHoliday_6 rfl (by decide) (fun c1 => ?_) (fun c1 => ?_)
  · replace h := h.1 c1
    exact mw_vret dX0_insertHoliday_29 rfl h
  · replace h := h.2 c1
    refine mw_aload_n (v := vR 10) (pc' := 10) dX0_insertHoliday_9 rfl rfl (Or.inl rfl) rfl ?_
    refine mw_getP (v := 11) (pc' := 13) dX0_insertHoliday_10 rfl fr_RX0_9_10 rfl sp_10_1 ⟨by decide, by decide⟩ ?_
    refine mw_aload_n (v := vR 10) (pc' := 14) dX0_insertHoliday_13 rfl rfl (Or.inl rfl) rfl ?_
    refine mw_getI (ji := 2) (pc' := 17) dX0_insertHoliday_14 rfl fi_RX0_25_10 rfl ⟨by decide, by decide⟩ ?_
    refine mw_iload_n (pc' := 18) dX0_insertHoliday_17 rfl rfl rfl ?_
    obtain ⟨o2, h⟩ := h
    refine mw_iast (pc' := 19) dX0_insertHoliday_18 rfl lk_11 ⟨by decide, by decide⟩ (by rw [ln_11]; exact o2) ?_
    refine mw_aload_n (v := vR 10) (pc' := 20) dX0_insertHoliday_19 rfl rfl (Or.inl rfl) rfl ?_
    refine mw_dup (pc' := 21) dX0_insertHoliday_20 rfl rfl ?_
    refine mw_getI (ji := 2) (pc' := 24) dX0_insertHoliday_21 rfl fi_RX0_25_10 rfl ⟨by decide, by decide⟩ ?_
    refine mw_iconst (pc' := 25) dX0_insertHoliday_24 rfl ⟨by decide, by decide⟩ ?_
    obtain ⟨o3, h⟩ := h
    refine mw_iadd (pc' := 26) dX0_insertHoliday_25 rfl o3 ?_
    refine mw_top (fun hT => ?_)
    refine mw_putI (ji := 2) (pc' := 29) dX0_insertHoliday_26 rfl (fq_RX0_25_10) (by decide +kernel) rfl (Or.inl ⟨rfl, rc_10_2⟩) (Or.inr rfl) ⟨by decide, by have := hT.2; omega⟩ ?_
    exact mw_vret dX0_insertHoliday_29 rfl h
theorem eX0_deleteHoliday {x1 : Int} {g : mG} {d : mD} {Q : mQ} (h : MM mX0_placeOf [vR 10, vI x1] g d (fun o g3 d4 => match o with | .inl v2 => ((v2 = (-1)) → Q (.inl 0) g3 d4) ∧ ((¬ (v2 = (-1))) → (iI ((d4 10 2) - 1)) ∧ ((0 ≤ (ud d4 10 2 ((d4 10 2) - 1)) 10 2 ∧ (ud d4 10 2 ((d4 10 2) - 1)) 10 2 < 40) ∧ ((0 ≤ v2 ∧ v2 < 40) ∧ (Q (.inl 0) g3 (ud (ud d4 10 2 ((d4 10 2) - 1)) 11 v2 ((ud d4 10 2 ((d4 10 2) - 1)) 11 ((ud d4 10 2 ((d4 10 2) - 1)) 10 2))))))) | .inr k => Q (.inr k) g3 d4)) : MM mX0_deleteHoliday [vR 10, vI x1] g d Q := by
  refine MM_of (by decide) rfl (by simp [catV]) (by decide) ?_
  show MW mX0_deleteHoliday 0 0 0 [(0, vR 10), (1, vI x1)] [] g d Q
  refine mw_aload_n (v := vR 10) (pc' := 1) dX0_deleteHoliday_0 rfl rfl (Or.inl rfl) rfl ?_
  refine mw_iload_n (pc' := 2) dX0_deleteHoliday_1 rfl rfl rfl ?_
  refine mw_top (fun hT => ?_)
  refine mw_callV (M' := mX0_placeOf) (A := [vI x1]) (A' := [vR 10, vI x1]) (S := []) (a := 10) (pc' := 5) dX0_deleteHoliday_2 rfl cl_RX0_28 cm_X0_placeOf cv_X0_placeOf ⟨by decide, by decide, by decide, by decide, by decide⟩ rfl rfl rfl ⟨by decide, by have := hT.2; omega⟩ (by decide +kernel) (by decide +kernel) (by decide) (MM.mono ?_ h)
  intro o g3 d4 h1
  rcases o with v2 | k
  · show MW mX0_deleteHoliday 0 0 5 [(0, vR 10), (1, vI x1)] [vI v2] g3 d4 Q
    refine mw_istore_n (pc' := 6) (L' := [(0, vR 10), (1, vI x1), (2, vI v2)]) dX0_deleteHoliday_5 rfl rfl (by decide) rfl ?_
    refine mw_iload_n (pc' := 7) dX0_deleteHoliday_6 rfl rfl rfl ?_
    refine mw_iconst (pc' := 8) dX0_deleteHoliday_7 rfl ⟨by decide, by decide⟩ ?_
    refine mw_icmp_eq (tgt := 36) (pc' := 11) dX0_deleteHoliday_8 rfl (by decide) (fun c5 => ?_) (fun c5 => ?_)
    · replace h1 := h1.1 c5
      exact mw_vret dX0_deleteHoliday_36 rfl h1
    · replace h1 := h1.2 c5
      refine mw_aload_n (v := vR 10) (pc' := 12) dX0_deleteHoliday_11 rfl rfl (Or.inl rfl) rfl ?_
      refine mw_dup (pc' := 13) dX0_deleteHoliday_12 rfl rfl ?_
      refine mw_getI (ji := 2) (pc' := 16) dX0_deleteHoliday_13 rfl fi_RX0_25_10 rfl ⟨by decide, by decide⟩ ?_
      refine mw_iconst (pc' := 17) dX0_deleteHoliday_16 rfl ⟨by decide, by decide⟩ ?_
      obtain ⟨o6, h1⟩ := h1
      refine mw_isub (pc' := 18) dX0_deleteHoliday_17 rfl o6 ?_
      refine mw_top (fun hT => ?_)
      refine mw_putI (ji := 2) (pc' := 21) dX0_deleteHoliday_18 rfl (fq_RX0_25_10) (by decide +kernel) rfl (Or.inl ⟨rfl, rc_10_2⟩) (Or.inr rfl) ⟨by decide, by have := hT.2; omega⟩ ?_
      refine mw_aload_n (v := vR 10) (pc' := 22) dX0_deleteHoliday_21 rfl rfl (Or.inl rfl) rfl ?_
      refine mw_getP (v := 11) (pc' := 25) dX0_deleteHoliday_22 rfl fr_RX0_9_10 rfl sp_10_1 ⟨by decide, by decide⟩ ?_
      refine mw_iload_n (pc' := 26) dX0_deleteHoliday_25 rfl rfl rfl ?_
      refine mw_aload_n (v := vR 10) (pc' := 27) dX0_deleteHoliday_26 rfl rfl (Or.inl rfl) rfl ?_
      refine mw_getP (v := 11) (pc' := 30) dX0_deleteHoliday_27 rfl fr_RX0_9_10 rfl sp_10_1 ⟨by decide, by decide⟩ ?_
      refine mw_aload_n (v := vR 10) (pc' := 31) dX0_deleteHoliday_30 rfl rfl (Or.inl rfl) rfl ?_
      refine mw_getI (ji := 2) (pc' := 34) dX0_deleteHoliday_31 rfl fi_RX0_25_10 rfl ⟨by decide, by decide⟩ ?_
      obtain ⟨o7, h1⟩ := h1
      refine mw_iald (pc' := 35) dX0_deleteHoliday_34 rfl lk_11 ⟨by decide, by decide⟩ (by rw [ln_11]; exact o7) ?_
      obtain ⟨o8, h1⟩ := h1
      refine mw_iast (pc' := 36) dX0_deleteHoliday_35 rfl lk_11 ⟨by decide, by decide⟩ (by rw [ln_11]; exact o8) ?_
      exact mw_vret dX0_deleteHoliday_36 rfl h1
  · exact mx_out rfl h1
def pX0_countCourt_1 (x1 x2 x3 x4 x5 : Int) (g : mG) (d : mD) (Q : mQ) : Prop := MW mX0_countCourt 0 0 29 [(0, vR 10), (1, vI x1), (2, vI x2), (3, vI x3), (4, vI x4), (5, vI x5)] [] g d Q
def pX0_countCourt_2 (x1 x2 x3 x4 x5 : Int) (g : mG) (d : mD) (Q : mQ) : Prop := MW mX0_countCourt 0 0 63 [(0, vR 10), (1, vI x1), (2, vI x2), (3, vI x3), (4, vI x4), (5, vI x5)] [] g d Q
theorem eX0_countCourt {x1 x2 : Int} {g : mG} {d : mD} {Q : mQ} (h : ((x1 ≤ x2) → (iI (x2 - x1)) ∧ ((iI ((x2 - x1) + 1)) ∧ ((0 ≤ (x2 - x1) + 1) ∧ ((iI ((((x2 - x1) + 1) / 7) * 5)) ∧ ((iI ((((x2 - x1) + 1) / 7) * 7)) ∧ ((iI (x1 + ((((x2 - x1) + 1) / 7) * 7))) ∧ (pX0_countCourt_1 x1 x2 (((x2 - x1) + 1) / 7) ((((x2 - x1) + 1) / 7) * 5) (x1 + ((((x2 - x1) + 1) / 7) * 7)) g d Q))))))) ∧ ((¬ (x1 ≤ x2)) → Q (.inl 0) g d)) : MM mX0_countCourt [vR 10, vI x1, vI x2] g d Q := by
  refine MM_of (by decide) rfl (by simp [catV]) (by decide) ?_
  show MW mX0_countCourt 0 0 0 [(0, vR 10), (1, vI x1), (2, vI x2)] [] g d Q
  refine mw_iload_n (pc' := 1) dX0_countCourt_0 rfl rfl rfl ?_
  refine mw_iload_n (pc' := 2) dX0_countCourt_1 rfl rfl rfl ?_
  refine mw_icmp_ge (tgt := 7) (pc' := 5) dX0_countCourt_2 rfl (by decide) (fun c1 => ?_) (fun c1 => ?_)
  · replace h := h.1 c1
    refine mw_iload_n (pc' := 8) dX0_countCourt_7 rfl rfl rfl ?_
    refine mw_iload_n (pc' := 9) dX0_countCourt_8 rfl rfl rfl ?_
    obtain ⟨o2, h⟩ := h
    refine mw_isub (pc' := 10) dX0_countCourt_9 rfl o2 ?_
    refine mw_iconst (pc' := 11) dX0_countCourt_10 rfl ⟨by decide, by decide⟩ ?_
    obtain ⟨o3, h⟩ := h
    refine mw_iadd (pc' := 12) dX0_countCourt_11 rfl o3 ?_
    refine mw_bipush (pc' := 14) dX0_countCourt_12 rfl ⟨by decide, by decide⟩ ?_
    obtain ⟨o4, h⟩ := h
    refine mw_idiv (pc' := 15) dX0_countCourt_14 rfl o4 (by decide) ?_
    refine mw_istore_n (pc' := 16) (L' := [(0, vR 10), (1, vI x1), (2, vI x2), (3, vI (((x2 - x1) + 1) / 7))]) dX0_countCourt_15 rfl rfl (by decide) rfl ?_
    refine mw_iload_n (pc' := 17) dX0_countCourt_16 rfl rfl rfl ?_
    refine mw_iconst (pc' := 18) dX0_countCourt_17 rfl ⟨by decide, by decide⟩ ?_
    obtain ⟨o5, h⟩ := h
    refine mw_imul (pc' := 19) dX0_countCourt_18 rfl o5 ?_
    refine mw_istore (pc' := 21) (L' := [(0, vR 10), (1, vI x1), (2, vI x2), (3, vI (((x2 - x1) + 1) / 7)), (4, vI ((((x2 - x1) + 1) / 7) * 5))]) dX0_countCourt_19 rfl (by decide) rfl ?_
    refine mw_iload_n (pc' := 22) dX0_countCourt_21 rfl rfl rfl ?_
    refine mw_iload_n (pc' := 23) dX0_countCourt_22 rfl rfl rfl ?_
    refine mw_bipush (pc' := 25) dX0_countCourt_23 rfl ⟨by decide, by decide⟩ ?_
    obtain ⟨o6, h⟩ := h
    refine mw_imul (pc' := 26) dX0_countCourt_25 rfl o6 ?_
    obtain ⟨o7, h⟩ := h
    refine mw_iadd (pc' := 27) dX0_countCourt_26 rfl o7 ?_
    refine mw_istore (pc' := 29) (L' := [(0, vR 10), (1, vI x1), (2, vI x2), (3, vI (((x2 - x1) + 1) / 7)), (4, vI ((((x2 - x1) + 1) / 7) * 5)), (5, vI (x1 + ((((x2 - x1) + 1) / 7) * 7)))]) dX0_countCourt_27 rfl (by decide) rfl ?_
    exact h
  · replace h := h.2 c1
    refine mw_iconst (pc' := 6) dX0_countCourt_5 rfl ⟨by decide, by decide⟩ ?_
    exact mw_iret dX0_countCourt_6 rfl (Or.inl rfl) h
theorem aX0_countCourt_1 {x1 x2 x3 x4 x5 : Int} {g : mG} {d : mD} {Q : mQ} (h : ((x2 < x5) → pX0_countCourt_2 x1 x2 x3 x4 0 g d Q) ∧ ((¬ (x2 < x5)) → (0 ≤ x5) ∧ (((5 ≤ x5 % 7) → (iI (x4 + 0)) ∧ ((iI (x5 + 1)) ∧ (pX0_countCourt_1 x1 x2 x3 (x4 + 0) (x5 + 1) g d Q))) ∧ ((¬ (5 ≤ x5 % 7)) → (iI (x4 + 1)) ∧ ((iI (x5 + 1)) ∧ (pX0_countCourt_1 x1 x2 x3 (x4 + 1) (x5 + 1) g d Q)))))) : pX0_countCourt_1 x1 x2 x3 x4 x5 g d Q := by
  unfold pX0_countCourt_1
  refine mw_iload (pc' := 31) dX0_countCourt_29 rfl rfl ?_
  refine mw_iload_n (pc' := 32) dX0_countCourt_31 rfl rfl rfl ?_
  refine mw_icmp_gt (tgt := 60) (pc' := 35) dX0_countCourt_32 rfl (by decide) (fun c8 => ?_) (fun c8 => ?_)
  · replace h := h.1 c8
    refine mw_iconst (pc' := 61) dX0_countCourt_60 rfl ⟨by decide, by decide⟩ ?_
    refine mw_istore (pc' := 63) (L' := [(0, vR 10), (1, vI x1), (2, vI x2), (3, vI x3), (4, vI x4), (5, vI 0)]) dX0_countCourt_61 rfl (by decide) rfl ?_
    exact h
  · replace h := h.2 c8
    refine mw_iload (pc' := 37) dX0_countCourt_35 rfl rfl ?_
    refine mw_iload (pc' := 39) dX0_countCourt_37 rfl rfl ?_
    refine mw_bipush (pc' := 41) dX0_countCourt_39 rfl ⟨by decide, by decide⟩ ?_
    obtain ⟨o9, h⟩ := h
    refine mw_irem (pc' := 42) dX0_countCourt_41 rfl o9 (by decide) ?_
    refine mw_iconst (pc' := 43) dX0_countCourt_42 rfl ⟨by decide, by decide⟩ ?_
    refine mw_icmp_ge (tgt := 50) (pc' := 46) dX0_countCourt_43 rfl (by decide) (fun c10 => ?_) (fun c10 => ?_)
    · replace h := h.1 c10
      refine mw_iconst (pc' := 51) dX0_countCourt_50 rfl ⟨by decide, by decide⟩ ?_
      obtain ⟨o11, h⟩ := h
      refine mw_iadd (pc' := 52) dX0_countCourt_51 rfl o11 ?_
      refine mw_istore (pc' := 54) (L' := [(0, vR 10), (1, vI x1), (2, vI x2), (3, vI x3), (4, vI (x4 + 0)), (5, vI x5)]) dX0_countCourt_52 rfl (by decide) rfl ?_
      obtain ⟨o12, h⟩ := h
      refine mw_iinc (pc' := 57) (L' := [(0, vR 10), (1, vI x1), (2, vI x2), (3, vI x3), (4, vI (x4 + 0)), (5, vI (x5 + 1))]) dX0_countCourt_54 rfl rfl (by decide) o12 rfl ?_
      refine mw_goto (tgt := 29) dX0_countCourt_57 (by decide) ?_
      exact h
    · replace h := h.2 c10
      refine mw_iconst (pc' := 47) dX0_countCourt_46 rfl ⟨by decide, by decide⟩ ?_
      refine mw_goto (tgt := 51) dX0_countCourt_47 (by decide) ?_
      obtain ⟨o13, h⟩ := h
      refine mw_iadd (pc' := 52) dX0_countCourt_51 rfl o13 ?_
      refine mw_istore (pc' := 54) (L' := [(0, vR 10), (1, vI x1), (2, vI x2), (3, vI x3), (4, vI (x4 + 1)), (5, vI x5)]) dX0_countCourt_52 rfl (by decide) rfl ?_
      obtain ⟨o14, h⟩ := h
      refine mw_iinc (pc' := 57) (L' := [(0, vR 10), (1, vI x1), (2, vI x2), (3, vI x3), (4, vI (x4 + 1)), (5, vI (x5 + 1))]) dX0_countCourt_54 rfl rfl (by decide) o14 rfl ?_
      refine mw_goto (tgt := 29) dX0_countCourt_57 (by decide) ?_
      exact h
theorem aX0_countCourt_2 {x1 x2 x3 x4 x5 : Int} {g : mG} {d : mD} {Q : mQ} (h : ((d 10 2 ≤ x5) → Q (.inl x4) g d) ∧ ((¬ (d 10 2 ≤ x5)) → (0 ≤ x5 ∧ x5 < 40) ∧ (((d 11 x5 < x1) → (iI (x4 - 0)) ∧ ((iI (x5 + 1)) ∧ (pX0_countCourt_2 x1 x2 x3 (x4 - 0) (x5 + 1) g d Q))) ∧ ((¬ (d 11 x5 < x1)) → ((x2 < d 11 x5) → (iI (x4 - 0)) ∧ ((iI (x5 + 1)) ∧ (pX0_countCourt_2 x1 x2 x3 (x4 - 0) (x5 + 1) g d Q))) ∧ ((¬ (x2 < d 11 x5)) → (0 ≤ d 11 x5) ∧ (((5 ≤ (d 11 x5) % 7) → (iI (x4 - 0)) ∧ ((iI (x5 + 1)) ∧ (pX0_countCourt_2 x1 x2 x3 (x4 - 0) (x5 + 1) g d Q))) ∧ ((¬ (5 ≤ (d 11 x5) % 7)) → (iI (x4 - 1)) ∧ ((iI (x5 + 1)) ∧ (pX0_countCourt_2 x1 x2 x3 (x4 - 1) (x5 + 1) g d Q))))))))) : pX0_countCourt_2 x1 x2 x3 x4 x5 g d Q := by
  unfold pX0_countCourt_2
  refine mw_iload (pc' := 65) dX0_countCourt_63 rfl rfl ?_
  refine mw_aload_n (v := vR 10) (pc' := 66) dX0_countCourt_65 rfl rfl (Or.inl rfl) rfl ?_
  refine mw_getI (ji := 2) (pc' := 69) dX0_countCourt_66 rfl fi_RX0_25_10 rfl ⟨by decide, by decide⟩ ?_
  refine mw_icmp_ge (tgt := 118) (pc' := 72) dX0_countCourt_69 rfl (by decide) (fun c15 => ?_) (fun c15 => ?_)
  · replace h := h.1 c15
    refine mw_iload (pc' := 120) dX0_countCourt_118 rfl rfl ?_
    exact mw_iret dX0_countCourt_120 rfl (Or.inl rfl) h
  · replace h := h.2 c15
    refine mw_aload_n (v := vR 10) (pc' := 73) dX0_countCourt_72 rfl rfl (Or.inl rfl) rfl ?_
    refine mw_getP (v := 11) (pc' := 76) dX0_countCourt_73 rfl fr_RX0_9_10 rfl sp_10_1 ⟨by decide, by decide⟩ ?_
    refine mw_iload (pc' := 78) dX0_countCourt_76 rfl rfl ?_
    obtain ⟨o16, h⟩ := h
    refine mw_iald (pc' := 79) dX0_countCourt_78 rfl lk_11 ⟨by decide, by decide⟩ (by rw [ln_11]; exact o16) ?_
    refine mw_istore (pc' := 81) (L' := [(0, vR 10), (1, vI x1), (2, vI x2), (3, vI x3), (4, vI x4), (5, vI x5), (6, vI (d 11 x5))]) dX0_countCourt_79 rfl (by decide) rfl ?_
    refine mw_iload (pc' := 83) dX0_countCourt_81 rfl rfl ?_
    refine mw_iload (pc' := 85) dX0_countCourt_83 rfl rfl ?_
    refine mw_iload_n (pc' := 86) dX0_countCourt_85 rfl rfl rfl ?_
    refine mw_icmp_lt (tgt := 108) (pc' := 89) dX0_countCourt_86 rfl (by decide) (fun c17 => ?_) (fun c17 => ?_)
    · replace h := h.1 c17
      refine mw_iconst (pc' := 109) dX0_countCourt_108 rfl ⟨by decide, by decide⟩ ?_
      obtain ⟨o18, h⟩ := h
      refine mw_isub (pc' := 110) dX0_countCourt_109 rfl o18 ?_
      refine mw_istore (pc' := 112) (L' := [(0, vR 10), (1, vI x1), (2, vI x2), (3, vI x3), (4, vI (x4 - 0)), (5, vI x5), (6, vI (d 11 x5))]) dX0_countCourt_110 rfl (by decide) rfl ?_
      obtain ⟨o19, h⟩ := h
      refine mw_iinc (pc' := 115) (L' := [(0, vR 10), (1, vI x1), (2, vI x2), (3, vI x3), (4, vI (x4 - 0)), (5, vI (x5 + 1)), (6, vI (d 11 x5))]) dX0_countCourt_112 rfl rfl (by decide) o19 rfl ?_
      refine mw_goto (tgt := 63) dX0_countCourt_115 (by decide) ?_
      exact mw_loc [0, 1, 2, 3, 4, 5] rfl h
    · replace h := h.2 c17
      refine mw_iload (pc' := 91) dX0_countCourt_89 rfl rfl ?_
      refine mw_iload_n (pc' := 92) dX0_countCourt_91 rfl rfl rfl ?_
      refine mw_icmp_gt (tgt := 108) (pc' := 95) dX0_countCourt_92 rfl (by decide) (fun c20 => ?_) (fun c20 => ?_)
      · replace h := h.1 c20
        refine mw_iconst (pc' := 109) dX0_countCourt_108 rfl ⟨by decide, by decide⟩ ?_
        obtain ⟨o21, h⟩ := h
        refine mw_isub (pc' := 110) dX0_countCourt_109 rfl o21 ?_
        refine mw_istore (pc' := 112) (L' := [(0, vR 10), (1, vI x1), (2, vI x2), (3, vI x3), (4, vI (x4 - 0)), (5, vI x5), (6, vI (d 11 x5))]) dX0_countCourt_110 rfl (by decide) rfl ?_
        obtain ⟨o22, h⟩ := h
        refine mw_iinc (pc' := 115) (L' := [(0, vR 10), (1, vI x1), (2, vI x2), (3, vI x3), (4, vI (x4 - 0)), (5, vI (x5 + 1)), (6, vI (d 11 x5))]) dX0_countCourt_112 rfl rfl (by decide) o22 rfl ?_
        refine mw_goto (tgt := 63) dX0_countCourt_115 (by decide) ?_
        exact mw_loc [0, 1, 2, 3, 4, 5] rfl h
      · replace h := h.2 c20
        refine mw_iload (pc' := 97) dX0_countCourt_95 rfl rfl ?_
        refine mw_bipush (pc' := 99) dX0_countCourt_97 rfl ⟨by decide, by decide⟩ ?_
        obtain ⟨o23, h⟩ := h
        refine mw_irem (pc' := 100) dX0_countCourt_99 rfl o23 (by decide) ?_
        refine mw_iconst (pc' := 101) dX0_countCourt_100 rfl ⟨by decide, by decide⟩ ?_
        refine mw_icmp_ge (tgt := 108) (pc' := 104) dX0_countCourt_101 rfl (by decide) (fun c24 => ?_) (fun c24 => ?_)
        · replace h := h.1 c24
          refine mw_iconst (pc' := 109) dX0_countCourt_108 rfl ⟨by decide, by decide⟩ ?_
          obtain ⟨o25, h⟩ := h
          refine mw_isub (pc' := 110) dX0_countCourt_109 rfl o25 ?_
          refine mw_istore (pc' := 112) (L' := [(0, vR 10), (1, vI x1), (2, vI x2), (3, vI x3), (4, vI (x4 - 0)), (5, vI x5), (6, vI (d 11 x5))]) dX0_countCourt_110 rfl (by decide) rfl ?_
          obtain ⟨o26, h⟩ := h
          refine mw_iinc (pc' := 115) (L' := [(0, vR 10), (1, vI x1), (2, vI x2), (3, vI x3), (4, vI (x4 - 0)), (5, vI (x5 + 1)), (6, vI (d 11 x5))]) dX0_countCourt_112 rfl rfl (by decide) o26 rfl ?_
          refine mw_goto (tgt := 63) dX0_countCourt_115 (by decide) ?_
          exact mw_loc [0, 1, 2, 3, 4, 5] rfl h
        · replace h := h.2 c24
          refine mw_iconst (pc' := 105) dX0_countCourt_104 rfl ⟨by decide, by decide⟩ ?_
          refine mw_goto (tgt := 109) dX0_countCourt_105 (by decide) ?_
          obtain ⟨o27, h⟩ := h
          refine mw_isub (pc' := 110) dX0_countCourt_109 rfl o27 ?_
          refine mw_istore (pc' := 112) (L' := [(0, vR 10), (1, vI x1), (2, vI x2), (3, vI x3), (4, vI (x4 - 1)), (5, vI x5), (6, vI (d 11 x5))]) dX0_countCourt_110 rfl (by decide) rfl ?_
          obtain ⟨o28, h⟩ := h
          refine mw_iinc (pc' := 115) (L' := [(0, vR 10), (1, vI x1), (2, vI x2), (3, vI x3), (4, vI (x4 - 1)), (5, vI (x5 + 1)), (6, vI (d 11 x5))]) dX0_countCourt_112 rfl rfl (by decide) o28 rfl ?_
          refine mw_goto (tgt := 63) dX0_countCourt_115 (by decide) ?_
          exact mw_loc [0, 1, 2, 3, 4, 5] rfl h
