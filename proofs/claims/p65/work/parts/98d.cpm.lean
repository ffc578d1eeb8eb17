-- the copy methods
theorem CPy.ex {A B l h l' h' : Int} {d d' : mD} (k : CPy A B l h d d') (hb : l' ≤ l ∧ h ≤ h') (hu : ∀ o j : Int, l' ≤ o → o ≤ h' → inC (6 + o) j → l ≤ o ∧ o ≤ h) : CPy A B l' h' d d' :=
  ⟨fun b j q => k.1 b j (by omega), fun o j q1 q2 hi => have c := hu o j q1 q2 hi; k.2 o j c.1 c.2 hi⟩
theorem cal_cp {A B : Int} {d : mD} (hap : A + 46 ≤ B ∨ B + 46 ≤ A) : CPy A B 4 5 d (ud (cpy (ud d (A + 4) 0 (d (B + 4) 0)) (B + 5) (A + 5) 0 0 40) (A + 4) 2 ((cpy (ud d (A + 4) 0 (d (B + 4) 0)) (B + 5) (A + 5) 0 0 40) (B + 4) 2)) := by
  refine ⟨fun b j hb => ?_, fun o j q1 q2 hi => ?_⟩
  · rw [ud_ne (by omega), cpy_row (by omega), ud_ne (by omega)]
  · by_cases c : o = 4
    · subst c
      have h1 := inC_e hi
      rcases (show j = 0 ∨ j = 2 by omega) with rfl | rfl
      · rw [ud_ne (by omega), cpy_row (by omega), ud_same]
      · rw [ud_same, cpy_row (by omega), ud_ne (by omega)]
    · have e : o = 5 := by omega
      subst e
      have h1 := inC_a hi
      have e2 : cpy (ud d (A + 4) 0 (d (B + 4) 0)) (B + 5) (A + 5) 0 0 40 (A + 5) j = ud d (A + 4) 0 (d (B + 4) 0) (B + 5) (0 + (j - 0)) := if_pos ⟨rfl, by omega, by omega⟩
      rw [ud_ne (by omega), e2, ud_ne (by omega), show (0 : Int) + (j - 0) = j by omega]
theorem c_X5 {A B : Int} {g : mG} {d : mD} {Q : mQ} (hA : DKd g A) (hB : DKd g B) (hap : A + 46 ≤ B ∨ B + 46 ≤ A) (h : ∀ d', CPy A B 1 3 d d' → Q (.inl 0) g d') : MM mX5_copy [vR (A + 1), vR (B + 1)] g d Q := by
  refine MM_of (by decide) rfl (by simp [catV]) (Nat.le_of_ble_eq_true rfl) ?_
  show MW mX5_copy 0 0 0 [(0, vR (A + 1)), (1, vR (B + 1))] [] g d Q
  have hrA := hA.rng
  have hrB := hB.rng
  refine mw_top (fun hT => ?_)
  have h21 := hT.1.2.1
  refine mw_aload_n (v := vR (B + 1)) (pc' := 1) dX5_copy_0 rfl rfl (Or.inl rfl) rfl ?_
  refine mw_getD (v := 2) (pc' := 4) dX5_copy_1 rfl hB (by decide +kernel) fg_RX5_9 ⟨⟨by decide, by decide⟩, by decide, by decide +kernel, by decide +kernel⟩ ?_
  refine mw_iconst (pc' := 5) dX5_copy_4 rfl ⟨by decide, by decide⟩ ?_
  refine mw_aload_n (v := vR (A + 1)) (pc' := 6) dX5_copy_5 rfl rfl (Or.inl rfl) rfl ?_
  refine mw_getD (v := 2) (pc' := 9) dX5_copy_6 rfl hA (by decide +kernel) fg_RX5_9 ⟨⟨by decide, by decide⟩, by decide, by decide +kernel, by decide +kernel⟩ ?_
  refine mw_iconst (pc' := 10) dX5_copy_9 rfl ⟨by decide, by decide⟩ ?_
  refine mw_aload_n (v := vR (A + 1)) (pc' := 11) dX5_copy_10 rfl rfl (Or.inl rfl) rfl ?_
  refine mw_getD (v := 2) (pc' := 14) dX5_copy_11 rfl hA (by decide +kernel) fg_RX5_9 ⟨⟨by decide, by decide⟩, by decide, by decide +kernel, by decide +kernel⟩ ?_
  refine mw_alenD (n := 64) (pc' := 15) dX5_copy_14 rfl hA rfl (by decide +kernel) ⟨⟨by decide, by decide⟩, ⟨by decide, by decide⟩, by decide, by decide⟩ ?_
  refine mw_copyD (pc' := 18) dX5_copy_15 rfl bw_665 hA hB rfl (by decide +kernel) ⟨⟨by decide, by decide⟩, ⟨by decide, by decide⟩, by decide⟩ ⟨by decide, by decide⟩ (Nat.le_of_ble_eq_true rfl) ?_
  refine mw_aload_n (v := vR (B + 1)) (pc' := 19) dX5_copy_18 rfl rfl (Or.inl rfl) rfl ?_
  refine mw_getD (v := 3) (pc' := 22) dX5_copy_19 rfl hB (by decide +kernel) fg_RX5_15 ⟨⟨by decide, by decide⟩, by decide, by decide +kernel, by decide +kernel⟩ ?_
  refine mw_iconst (pc' := 23) dX5_copy_22 rfl ⟨by decide, by decide⟩ ?_
  refine mw_aload_n (v := vR (A + 1)) (pc' := 24) dX5_copy_23 rfl rfl (Or.inl rfl) rfl ?_
  refine mw_getD (v := 3) (pc' := 27) dX5_copy_24 rfl hA (by decide +kernel) fg_RX5_15 ⟨⟨by decide, by decide⟩, by decide, by decide +kernel, by decide +kernel⟩ ?_
  refine mw_iconst (pc' := 28) dX5_copy_27 rfl ⟨by decide, by decide⟩ ?_
  refine mw_aload_n (v := vR (A + 1)) (pc' := 29) dX5_copy_28 rfl rfl (Or.inl rfl) rfl ?_
  refine mw_getD (v := 3) (pc' := 32) dX5_copy_29 rfl hA (by decide +kernel) fg_RX5_15 ⟨⟨by decide, by decide⟩, by decide, by decide +kernel, by decide +kernel⟩ ?_
  refine mw_alenD (n := 8) (pc' := 33) dX5_copy_32 rfl hA rfl (by decide +kernel) ⟨⟨by decide, by decide⟩, ⟨by decide, by decide⟩, by decide, by decide⟩ ?_
  refine mw_copyD (pc' := 36) dX5_copy_33 rfl bw_665 hA hB rfl (by decide +kernel) ⟨⟨by decide, by decide⟩, ⟨by decide, by decide⟩, by decide⟩ ⟨by decide, by decide⟩ (Nat.le_of_ble_eq_true rfl) ?_
  refine mw_aload_n (v := vR (A + 1)) (pc' := 37) dX5_copy_36 rfl rfl (Or.inl rfl) rfl ?_
  refine mw_aload_n (v := vR (B + 1)) (pc' := 38) dX5_copy_37 rfl rfl (Or.inl rfl) rfl ?_
  refine mw_getDI (ji := 2) (pc' := 41) dX5_copy_38 rfl hB (by decide +kernel) fg_RX5_24 rfl ⟨⟨by decide, by decide⟩, by decide, by decide +kernel⟩ ?_
  refine mw_putDI (ji := 2) (pc' := 44) dX5_copy_41 rfl hA (by decide +kernel) fp_RX5_24 rfl ⟨⟨by decide, by decide⟩, by decide, by decide +kernel⟩ ?_
  exact mw_vret (pc' := 0) (S := []) dX5_copy_44 rfl (h _ (CPy.tr (l := 1) (h := 3) (CPy.tr (l := 2) (h := 3) (CPy.ar (fun j hj => by have h1 := inC_a hj; have h2 := inC_30 hj; omega)) (CPy.ar (fun j hj => by have h1 := inC_a hj; have h2 := inC_30 hj; omega)) (by decide) (fun o j q1 q2 hi => by have h1 := inC_e hi; omega) hap) (CPy.pt (fun j hj => by have h1 := inC_e hj; omega)) (by decide) (fun o j q1 q2 hi => by have h1 := inC_e hi; omega) hap))
theorem c_X0 {A B : Int} {g : mG} {d : mD} {Q : mQ} (hA : DKd g A) (hB : DKd g B) (hap : A + 46 ≤ B ∨ B + 46 ≤ A) (h : ∀ d', CPy A B 4 5 d d' → Q (.inl 0) g d') : MM mX0_copy [vR (A + 4), vR (B + 4)] g d Q := by
  refine MM_of (by decide) rfl (by simp [catV]) (Nat.le_of_ble_eq_true rfl) ?_
  show MW mX0_copy 0 0 0 [(0, vR (A + 4)), (1, vR (B + 4))] [] g d Q
  have hrA := hA.rng
  have hrB := hB.rng
  refine mw_top (fun hT => ?_)
  have h21 := hT.1.2.1
  refine mw_aload_n (v := vR (A + 4)) (pc' := 1) dX0_copy_0 rfl rfl (Or.inl rfl) rfl ?_
  refine mw_aload_n (v := vR (B + 4)) (pc' := 2) dX0_copy_1 rfl rfl (Or.inl rfl) rfl ?_
  refine mw_getDI (ji := 0) (pc' := 5) dX0_copy_2 rfl hB (by decide +kernel) fg_RX0_15 rfl ⟨⟨by decide, by decide⟩, by decide, by decide +kernel⟩ ?_
  refine mw_putDI (ji := 0) (pc' := 8) dX0_copy_5 rfl hA (by decide +kernel) fp_RX0_15 rfl ⟨⟨by decide, by decide⟩, by decide, by decide +kernel⟩ ?_
  refine mw_aload_n (v := vR (B + 4)) (pc' := 9) dX0_copy_8 rfl rfl (Or.inl rfl) rfl ?_
  refine mw_getD (v := 5) (pc' := 12) dX0_copy_9 rfl hB (by decide +kernel) fg_RX0_9 ⟨⟨by decide, by decide⟩, by decide, by decide +kernel, by decide +kernel⟩ ?_
  refine mw_iconst (pc' := 13) dX0_copy_12 rfl ⟨by decide, by decide⟩ ?_
  refine mw_aload_n (v := vR (A + 4)) (pc' := 14) dX0_copy_13 rfl rfl (Or.inl rfl) rfl ?_
  refine mw_getD (v := 5) (pc' := 17) dX0_copy_14 rfl hA (by decide +kernel) fg_RX0_9 ⟨⟨by decide, by decide⟩, by decide, by decide +kernel, by decide +kernel⟩ ?_
  refine mw_iconst (pc' := 18) dX0_copy_17 rfl ⟨by decide, by decide⟩ ?_
  refine mw_aload_n (v := vR (A + 4)) (pc' := 19) dX0_copy_18 rfl rfl (Or.inl rfl) rfl ?_
  refine mw_getD (v := 5) (pc' := 22) dX0_copy_19 rfl hA (by decide +kernel) fg_RX0_9 ⟨⟨by decide, by decide⟩, by decide, by decide +kernel, by decide +kernel⟩ ?_
  refine mw_alenD (n := 40) (pc' := 23) dX0_copy_22 rfl hA rfl (by decide +kernel) ⟨⟨by decide, by decide⟩, ⟨by decide, by decide⟩, by decide, by decide⟩ ?_
  refine mw_copyD (pc' := 26) dX0_copy_23 rfl bw_672 hA hB rfl (by decide +kernel) ⟨⟨by decide, by decide⟩, ⟨by decide, by decide⟩, by decide⟩ ⟨by decide, by decide⟩ (Nat.le_of_ble_eq_true rfl) ?_
  refine mw_aload_n (v := vR (A + 4)) (pc' := 27) dX0_copy_26 rfl rfl (Or.inl rfl) rfl ?_
  refine mw_aload_n (v := vR (B + 4)) (pc' := 28) dX0_copy_27 rfl rfl (Or.inl rfl) rfl ?_
  refine mw_getDI (ji := 2) (pc' := 31) dX0_copy_28 rfl hB (by decide +kernel) fg_RX0_25 rfl ⟨⟨by decide, by decide⟩, by decide, by decide +kernel⟩ ?_
  refine mw_putDI (ji := 2) (pc' := 34) dX0_copy_31 rfl hA (by decide +kernel) fp_RX0_25 rfl ⟨⟨by decide, by decide⟩, by decide, by decide +kernel⟩ ?_
  exact mw_vret (pc' := 0) (S := []) dX0_copy_34 rfl (h _ (cal_cp hap))
theorem c_X7 {A B : Int} {g : mG} {d : mD} {Q : mQ} (hA : DKd g A) (hB : DKd g B) (hap : A + 46 ≤ B ∨ B + 46 ≤ A) (h : ∀ d', CPy A B 6 9 d d' → Q (.inl 0) g d') : MM mX7_copy [vR (A + 6), vR (B + 6)] g d Q := by
  refine MM_of (by decide) rfl (by simp [catV]) (Nat.le_of_ble_eq_true rfl) ?_
  show MW mX7_copy 0 0 0 [(0, vR (A + 6)), (1, vR (B + 6))] [] g d Q
  have hrA := hA.rng
  have hrB := hB.rng
  refine mw_top (fun hT => ?_)
  have h21 := hT.1.2.1
  refine mw_aload_n (v := vR (B + 6)) (pc' := 1) dX7_copy_0 rfl rfl (Or.inl rfl) rfl ?_
  refine mw_getD (v := 7) (pc' := 4) dX7_copy_1 rfl hB (by decide +kernel) fg_RX7_9 ⟨⟨by decide, by decide⟩, by decide, by decide +kernel, by decide +kernel⟩ ?_
  refine mw_iconst (pc' := 5) dX7_copy_4 rfl ⟨by decide, by decide⟩ ?_
  refine mw_aload_n (v := vR (A + 6)) (pc' := 6) dX7_copy_5 rfl rfl (Or.inl rfl) rfl ?_
  refine mw_getD (v := 7) (pc' := 9) dX7_copy_6 rfl hA (by decide +kernel) fg_RX7_9 ⟨⟨by decide, by decide⟩, by decide, by decide +kernel, by decide +kernel⟩ ?_
  refine mw_iconst (pc' := 10) dX7_copy_9 rfl ⟨by decide, by decide⟩ ?_
  refine mw_aload_n (v := vR (A + 6)) (pc' := 11) dX7_copy_10 rfl rfl (Or.inl rfl) rfl ?_
  refine mw_getD (v := 7) (pc' := 14) dX7_copy_11 rfl hA (by decide +kernel) fg_RX7_9 ⟨⟨by decide, by decide⟩, by decide, by decide +kernel, by decide +kernel⟩ ?_
  refine mw_alenD (n := 8) (pc' := 15) dX7_copy_14 rfl hA rfl (by decide +kernel) ⟨⟨by decide, by decide⟩, ⟨by decide, by decide⟩, by decide, by decide⟩ ?_
  refine mw_copyD (pc' := 18) dX7_copy_15 rfl bw_677 hA hB rfl (by decide +kernel) ⟨⟨by decide, by decide⟩, ⟨by decide, by decide⟩, by decide⟩ ⟨by decide, by decide⟩ (Nat.le_of_ble_eq_true rfl) ?_
  refine mw_aload_n (v := vR (B + 6)) (pc' := 19) dX7_copy_18 rfl rfl (Or.inl rfl) rfl ?_
  refine mw_getD (v := 8) (pc' := 22) dX7_copy_19 rfl hB (by decide +kernel) fg_RX7_15 ⟨⟨by decide, by decide⟩, by decide, by decide +kernel, by decide +kernel⟩ ?_
  refine mw_iconst (pc' := 23) dX7_copy_22 rfl ⟨by decide, by decide⟩ ?_
  refine mw_aload_n (v := vR (A + 6)) (pc' := 24) dX7_copy_23 rfl rfl (Or.inl rfl) rfl ?_
  refine mw_getD (v := 8) (pc' := 27) dX7_copy_24 rfl hA (by decide +kernel) fg_RX7_15 ⟨⟨by decide, by decide⟩, by decide, by decide +kernel, by decide +kernel⟩ ?_
  refine mw_iconst (pc' := 28) dX7_copy_27 rfl ⟨by decide, by decide⟩ ?_
  refine mw_aload_n (v := vR (A + 6)) (pc' := 29) dX7_copy_28 rfl rfl (Or.inl rfl) rfl ?_
  refine mw_getD (v := 8) (pc' := 32) dX7_copy_29 rfl hA (by decide +kernel) fg_RX7_15 ⟨⟨by decide, by decide⟩, by decide, by decide +kernel, by decide +kernel⟩ ?_
  refine mw_alenD (n := 8) (pc' := 33) dX7_copy_32 rfl hA rfl (by decide +kernel) ⟨⟨by decide, by decide⟩, ⟨by decide, by decide⟩, by decide, by decide⟩ ?_
  refine mw_copyD (pc' := 36) dX7_copy_33 rfl bw_677 hA hB rfl (by decide +kernel) ⟨⟨by decide, by decide⟩, ⟨by decide, by decide⟩, by decide⟩ ⟨by decide, by decide⟩ (Nat.le_of_ble_eq_true rfl) ?_
  refine mw_aload_n (v := vR (B + 6)) (pc' := 37) dX7_copy_36 rfl rfl (Or.inl rfl) rfl ?_
  refine mw_getD (v := 9) (pc' := 40) dX7_copy_37 rfl hB (by decide +kernel) fg_RX7_19 ⟨⟨by decide, by decide⟩, by decide, by decide +kernel, by decide +kernel⟩ ?_
  refine mw_iconst (pc' := 41) dX7_copy_40 rfl ⟨by decide, by decide⟩ ?_
  refine mw_aload_n (v := vR (A + 6)) (pc' := 42) dX7_copy_41 rfl rfl (Or.inl rfl) rfl ?_
  refine mw_getD (v := 9) (pc' := 45) dX7_copy_42 rfl hA (by decide +kernel) fg_RX7_19 ⟨⟨by decide, by decide⟩, by decide, by decide +kernel, by decide +kernel⟩ ?_
  refine mw_iconst (pc' := 46) dX7_copy_45 rfl ⟨by decide, by decide⟩ ?_
  refine mw_aload_n (v := vR (A + 6)) (pc' := 47) dX7_copy_46 rfl rfl (Or.inl rfl) rfl ?_
  refine mw_getD (v := 9) (pc' := 50) dX7_copy_47 rfl hA (by decide +kernel) fg_RX7_19 ⟨⟨by decide, by decide⟩, by decide, by decide +kernel, by decide +kernel⟩ ?_
  refine mw_alenD (n := 4) (pc' := 51) dX7_copy_50 rfl hA rfl (by decide +kernel) ⟨⟨by decide, by decide⟩, ⟨by decide, by decide⟩, by decide, by decide⟩ ?_
  refine mw_copyD (pc' := 54) dX7_copy_51 rfl bw_677 hA hB rfl (by decide +kernel) ⟨⟨by decide, by decide⟩, ⟨by decide, by decide⟩, by decide⟩ ⟨by decide, by decide⟩ (Nat.le_of_ble_eq_true rfl) ?_
  exact mw_vret (pc' := 0) (S := []) dX7_copy_54 rfl (h _ (CPy.ex (CPy.tr (l := 7) (h := 9) (CPy.tr (l := 7) (h := 8) (CPy.ar (fun j hj => by have h1 := inC_a hj; have h2 := inC_30 hj; omega)) (CPy.ar (fun j hj => by have h1 := inC_a hj; have h2 := inC_30 hj; omega)) (by decide) (fun o j q1 q2 hi => by have h1 := inC_e hi; omega) hap) (CPy.ar (fun j hj => by have h1 := inC_a hj; have h2 := inC_30 hj; omega)) (by decide) (fun o j q1 q2 hi => by have h1 := inC_e hi; omega) hap) (by decide) (fun o j q1 q2 hi => by have h1 := inC_e hi; omega)))
theorem c_X2d {A B : Int} {g : mG} {d : mD} {Q : mQ} (hA : DKd g A) (hB : DKd g B) (hap : A + 46 ≤ B ∨ B + 46 ≤ A) (h : ∀ d', CPy A B 10 21 d d' → Q (.inl 0) g d') : MM mX2_copy [vR (A + 10), vR (B + 10)] g d Q := by
  refine MM_of (by decide) rfl (by simp [catV]) (Nat.le_of_ble_eq_true rfl) ?_
  show MW mX2_copy 0 0 0 [(0, vR (A + 10)), (1, vR (B + 10))] [] g d Q
  have hrA := hA.rng
  have hrB := hB.rng
  refine mw_top (fun hT => ?_)
  have h21 := hT.1.2.1
  refine mw_aload_n (v := vR (B + 10)) (pc' := 1) dX2_copy_0 rfl rfl (Or.inl rfl) rfl ?_
  refine mw_getD (v := 11) (pc' := 4) dX2_copy_1 rfl hB (by decide +kernel) fg_RX2_9 ⟨⟨by decide, by decide⟩, by decide, by decide +kernel, by decide +kernel⟩ ?_
  refine mw_iconst (pc' := 5) dX2_copy_4 rfl ⟨by decide, by decide⟩ ?_
  refine mw_aload_n (v := vR (A + 10)) (pc' := 6) dX2_copy_5 rfl rfl (Or.inl rfl) rfl ?_
  refine mw_getD (v := 11) (pc' := 9) dX2_copy_6 rfl hA (by decide +kernel) fg_RX2_9 ⟨⟨by decide, by decide⟩, by decide, by decide +kernel, by decide +kernel⟩ ?_
  refine mw_iconst (pc' := 10) dX2_copy_9 rfl ⟨by decide, by decide⟩ ?_
  refine mw_aload_n (v := vR (A + 10)) (pc' := 11) dX2_copy_10 rfl rfl (Or.inl rfl) rfl ?_
  refine mw_getD (v := 11) (pc' := 14) dX2_copy_11 rfl hA (by decide +kernel) fg_RX2_9 ⟨⟨by decide, by decide⟩, by decide, by decide +kernel, by decide +kernel⟩ ?_
  refine mw_alenD (n := 30) (pc' := 15) dX2_copy_14 rfl hA rfl (by decide +kernel) ⟨⟨by decide, by decide⟩, ⟨by decide, by decide⟩, by decide, by decide⟩ ?_
  refine mw_copyD (pc' := 18) dX2_copy_15 rfl bw_682 hA hB rfl (by decide +kernel) ⟨⟨by decide, by decide⟩, ⟨by decide, by decide⟩, by decide⟩ ⟨by decide, by decide⟩ (Nat.le_of_ble_eq_true rfl) ?_
  refine mw_aload_n (v := vR (B + 10)) (pc' := 19) dX2_copy_18 rfl rfl (Or.inl rfl) rfl ?_
  refine mw_getD (v := 12) (pc' := 22) dX2_copy_19 rfl hB (by decide +kernel) fg_RX2_15 ⟨⟨by decide, by decide⟩, by decide, by decide +kernel, by decide +kernel⟩ ?_
  refine mw_iconst (pc' := 23) dX2_copy_22 rfl ⟨by decide, by decide⟩ ?_
  refine mw_aload_n (v := vR (A + 10)) (pc' := 24) dX2_copy_23 rfl rfl (Or.inl rfl) rfl ?_
  refine mw_getD (v := 12) (pc' := 27) dX2_copy_24 rfl hA (by decide +kernel) fg_RX2_15 ⟨⟨by decide, by decide⟩, by decide, by decide +kernel, by decide +kernel⟩ ?_
  refine mw_iconst (pc' := 28) dX2_copy_27 rfl ⟨by decide, by decide⟩ ?_
  refine mw_aload_n (v := vR (A + 10)) (pc' := 29) dX2_copy_28 rfl rfl (Or.inl rfl) rfl ?_
  refine mw_getD (v := 12) (pc' := 32) dX2_copy_29 rfl hA (by decide +kernel) fg_RX2_15 ⟨⟨by decide, by decide⟩, by decide, by decide +kernel, by decide +kernel⟩ ?_
  refine mw_alenD (n := 30) (pc' := 33) dX2_copy_32 rfl hA rfl (by decide +kernel) ⟨⟨by decide, by decide⟩, ⟨by decide, by decide⟩, by decide, by decide⟩ ?_
  refine mw_copyD (pc' := 36) dX2_copy_33 rfl bw_682 hA hB rfl (by decide +kernel) ⟨⟨by decide, by decide⟩, ⟨by decide, by decide⟩, by decide⟩ ⟨by decide, by decide⟩ (Nat.le_of_ble_eq_true rfl) ?_
  refine mw_aload_n (v := vR (B + 10)) (pc' := 37) dX2_copy_36 rfl rfl (Or.inl rfl) rfl ?_
  refine mw_getD (v := 13) (pc' := 40) dX2_copy_37 rfl hB (by decide +kernel) fg_RX2_18 ⟨⟨by decide, by decide⟩, by decide, by decide +kernel, by decide +kernel⟩ ?_
  refine mw_iconst (pc' := 41) dX2_copy_40 rfl ⟨by decide, by decide⟩ ?_
  refine mw_aload_n (v := vR (A + 10)) (pc' := 42) dX2_copy_41 rfl rfl (Or.inl rfl) rfl ?_
  refine mw_getD (v := 13) (pc' := 45) dX2_copy_42 rfl hA (by decide +kernel) fg_RX2_18 ⟨⟨by decide, by decide⟩, by decide, by decide +kernel, by decide +kernel⟩ ?_
  refine mw_iconst (pc' := 46) dX2_copy_45 rfl ⟨by decide, by decide⟩ ?_
  refine mw_aload_n (v := vR (A + 10)) (pc' := 47) dX2_copy_46 rfl rfl (Or.inl rfl) rfl ?_
  refine mw_getD (v := 13) (pc' := 50) dX2_copy_47 rfl hA (by decide +kernel) fg_RX2_18 ⟨⟨by decide, by decide⟩, by decide, by decide +kernel, by decide +kernel⟩ ?_
  refine mw_alenD (n := 30) (pc' := 51) dX2_copy_50 rfl hA rfl (by decide +kernel) ⟨⟨by decide, by decide⟩, ⟨by decide, by decide⟩, by decide, by decide⟩ ?_
  refine mw_copyD (pc' := 54) dX2_copy_51 rfl bw_682 hA hB rfl (by decide +kernel) ⟨⟨by decide, by decide⟩, ⟨by decide, by decide⟩, by decide⟩ ⟨by decide, by decide⟩ (Nat.le_of_ble_eq_true rfl) ?_
  refine mw_aload_n (v := vR (B + 10)) (pc' := 55) dX2_copy_54 rfl rfl (Or.inl rfl) rfl ?_
  refine mw_getD (v := 14) (pc' := 58) dX2_copy_55 rfl hB (by decide +kernel) fg_RX2_21 ⟨⟨by decide, by decide⟩, by decide, by decide +kernel, by decide +kernel⟩ ?_
  refine mw_iconst (pc' := 59) dX2_copy_58 rfl ⟨by decide, by decide⟩ ?_
  refine mw_aload_n (v := vR (A + 10)) (pc' := 60) dX2_copy_59 rfl rfl (Or.inl rfl) rfl ?_
  refine mw_getD (v := 14) (pc' := 63) dX2_copy_60 rfl hA (by decide +kernel) fg_RX2_21 ⟨⟨by decide, by decide⟩, by decide, by decide +kernel, by decide +kernel⟩ ?_
  refine mw_iconst (pc' := 64) dX2_copy_63 rfl ⟨by decide, by decide⟩ ?_
  refine mw_aload_n (v := vR (A + 10)) (pc' := 65) dX2_copy_64 rfl rfl (Or.inl rfl) rfl ?_
  refine mw_getD (v := 14) (pc' := 68) dX2_copy_65 rfl hA (by decide +kernel) fg_RX2_21 ⟨⟨by decide, by decide⟩, by decide, by decide +kernel, by decide +kernel⟩ ?_
  refine mw_alenD (n := 30) (pc' := 69) dX2_copy_68 rfl hA rfl (by decide +kernel) ⟨⟨by decide, by decide⟩, ⟨by decide, by decide⟩, by decide, by decide⟩ ?_
  refine mw_copyD (pc' := 72) dX2_copy_69 rfl bw_682 hA hB rfl (by decide +kernel) ⟨⟨by decide, by decide⟩, ⟨by decide, by decide⟩, by decide⟩ ⟨by decide, by decide⟩ (Nat.le_of_ble_eq_true rfl) ?_
  refine mw_aload_n (v := vR (B + 10)) (pc' := 73) dX2_copy_72 rfl rfl (Or.inl rfl) rfl ?_
  refine mw_getD (v := 15) (pc' := 76) dX2_copy_73 rfl hB (by decide +kernel) fg_RX2_25 ⟨⟨by decide, by decide⟩, by decide, by decide +kernel, by decide +kernel⟩ ?_
  refine mw_iconst (pc' := 77) dX2_copy_76 rfl ⟨by decide, by decide⟩ ?_
  refine mw_aload_n (v := vR (A + 10)) (pc' := 78) dX2_copy_77 rfl rfl (Or.inl rfl) rfl ?_
  refine mw_getD (v := 15) (pc' := 81) dX2_copy_78 rfl hA (by decide +kernel) fg_RX2_25 ⟨⟨by decide, by decide⟩, by decide, by decide +kernel, by decide +kernel⟩ ?_
  refine mw_iconst (pc' := 82) dX2_copy_81 rfl ⟨by decide, by decide⟩ ?_
  refine mw_aload_n (v := vR (A + 10)) (pc' := 83) dX2_copy_82 rfl rfl (Or.inl rfl) rfl ?_
  refine mw_getD (v := 15) (pc' := 86) dX2_copy_83 rfl hA (by decide +kernel) fg_RX2_25 ⟨⟨by decide, by decide⟩, by decide, by decide +kernel, by decide +kernel⟩ ?_
  refine mw_alenD (n := 30) (pc' := 87) dX2_copy_86 rfl hA rfl (by decide +kernel) ⟨⟨by decide, by decide⟩, ⟨by decide, by decide⟩, by decide, by decide⟩ ?_
  refine mw_copyD (pc' := 90) dX2_copy_87 rfl bw_682 hA hB rfl (by decide +kernel) ⟨⟨by decide, by decide⟩, ⟨by decide, by decide⟩, by decide⟩ ⟨by decide, by decide⟩ (Nat.le_of_ble_eq_true rfl) ?_
  refine mw_aload_n (v := vR (B + 10)) (pc' := 91) dX2_copy_90 rfl rfl (Or.inl rfl) rfl ?_
  refine mw_getD (v := 16) (pc' := 94) dX2_copy_91 rfl hB (by decide +kernel) fg_RX2_28 ⟨⟨by decide, by decide⟩, by decide, by decide +kernel, by decide +kernel⟩ ?_
  refine mw_iconst (pc' := 95) dX2_copy_94 rfl ⟨by decide, by decide⟩ ?_
  refine mw_aload_n (v := vR (A + 10)) (pc' := 96) dX2_copy_95 rfl rfl (Or.inl rfl) rfl ?_
  refine mw_getD (v := 16) (pc' := 99) dX2_copy_96 rfl hA (by decide +kernel) fg_RX2_28 ⟨⟨by decide, by decide⟩, by decide, by decide +kernel, by decide +kernel⟩ ?_
  refine mw_iconst (pc' := 100) dX2_copy_99 rfl ⟨by decide, by decide⟩ ?_
  refine mw_aload_n (v := vR (A + 10)) (pc' := 101) dX2_copy_100 rfl rfl (Or.inl rfl) rfl ?_
  refine mw_getD (v := 16) (pc' := 104) dX2_copy_101 rfl hA (by decide +kernel) fg_RX2_28 ⟨⟨by decide, by decide⟩, by decide, by decide +kernel, by decide +kernel⟩ ?_
  refine mw_alenD (n := 210) (pc' := 105) dX2_copy_104 rfl hA rfl (by decide +kernel) ⟨⟨by decide, by decide⟩, ⟨by decide, by decide⟩, by decide, by decide⟩ ?_
  refine mw_copyD (pc' := 108) dX2_copy_105 rfl bw_682 hA hB rfl (by decide +kernel) ⟨⟨by decide, by decide⟩, ⟨by decide, by decide⟩, by decide⟩ ⟨by decide, by decide⟩ (Nat.le_of_ble_eq_true rfl) ?_
  refine mw_aload_n (v := vR (B + 10)) (pc' := 109) dX2_copy_108 rfl rfl (Or.inl rfl) rfl ?_
  refine mw_getD (v := 17) (pc' := 112) dX2_copy_109 rfl hB (by decide +kernel) fg_RX2_31 ⟨⟨by decide, by decide⟩, by decide, by decide +kernel, by decide +kernel⟩ ?_
  refine mw_iconst (pc' := 113) dX2_copy_112 rfl ⟨by decide, by decide⟩ ?_
  refine mw_aload_n (v := vR (A + 10)) (pc' := 114) dX2_copy_113 rfl rfl (Or.inl rfl) rfl ?_
  refine mw_getD (v := 17) (pc' := 117) dX2_copy_114 rfl hA (by decide +kernel) fg_RX2_31 ⟨⟨by decide, by decide⟩, by decide, by decide +kernel, by decide +kernel⟩ ?_
  refine mw_iconst (pc' := 118) dX2_copy_117 rfl ⟨by decide, by decide⟩ ?_
  refine mw_aload_n (v := vR (A + 10)) (pc' := 119) dX2_copy_118 rfl rfl (Or.inl rfl) rfl ?_
  refine mw_getD (v := 17) (pc' := 122) dX2_copy_119 rfl hA (by decide +kernel) fg_RX2_31 ⟨⟨by decide, by decide⟩, by decide, by decide +kernel, by decide +kernel⟩ ?_
  refine mw_alenD (n := 30) (pc' := 123) dX2_copy_122 rfl hA rfl (by decide +kernel) ⟨⟨by decide, by decide⟩, ⟨by decide, by decide⟩, by decide, by decide⟩ ?_
  refine mw_copyD (pc' := 126) dX2_copy_123 rfl bw_682 hA hB rfl (by decide +kernel) ⟨⟨by decide, by decide⟩, ⟨by decide, by decide⟩, by decide⟩ ⟨by decide, by decide⟩ (Nat.le_of_ble_eq_true rfl) ?_
  refine mw_aload_n (v := vR (B + 10)) (pc' := 127) dX2_copy_126 rfl rfl (Or.inl rfl) rfl ?_
  refine mw_getD (v := 18) (pc' := 130) dX2_copy_127 rfl hB (by decide +kernel) fg_RX2_34 ⟨⟨by decide, by decide⟩, by decide, by decide +kernel, by decide +kernel⟩ ?_
  refine mw_iconst (pc' := 131) dX2_copy_130 rfl ⟨by decide, by decide⟩ ?_
  refine mw_aload_n (v := vR (A + 10)) (pc' := 132) dX2_copy_131 rfl rfl (Or.inl rfl) rfl ?_
  refine mw_getD (v := 18) (pc' := 135) dX2_copy_132 rfl hA (by decide +kernel) fg_RX2_34 ⟨⟨by decide, by decide⟩, by decide, by decide +kernel, by decide +kernel⟩ ?_
  refine mw_iconst (pc' := 136) dX2_copy_135 rfl ⟨by decide, by decide⟩ ?_
  refine mw_aload_n (v := vR (A + 10)) (pc' := 137) dX2_copy_136 rfl rfl (Or.inl rfl) rfl ?_
  refine mw_getD (v := 18) (pc' := 140) dX2_copy_137 rfl hA (by decide +kernel) fg_RX2_34 ⟨⟨by decide, by decide⟩, by decide, by decide +kernel, by decide +kernel⟩ ?_
  refine mw_alenD (n := 30) (pc' := 141) dX2_copy_140 rfl hA rfl (by decide +kernel) ⟨⟨by decide, by decide⟩, ⟨by decide, by decide⟩, by decide, by decide⟩ ?_
  refine mw_copyD (pc' := 144) dX2_copy_141 rfl bw_682 hA hB rfl (by decide +kernel) ⟨⟨by decide, by decide⟩, ⟨by decide, by decide⟩, by decide⟩ ⟨by decide, by decide⟩ (Nat.le_of_ble_eq_true rfl) ?_
  refine mw_aload_n (v := vR (B + 10)) (pc' := 145) dX2_copy_144 rfl rfl (Or.inl rfl) rfl ?_
  refine mw_getD (v := 19) (pc' := 148) dX2_copy_145 rfl hB (by decide +kernel) fg_RX2_37 ⟨⟨by decide, by decide⟩, by decide, by decide +kernel, by decide +kernel⟩ ?_
  refine mw_iconst (pc' := 149) dX2_copy_148 rfl ⟨by decide, by decide⟩ ?_
  refine mw_aload_n (v := vR (A + 10)) (pc' := 150) dX2_copy_149 rfl rfl (Or.inl rfl) rfl ?_
  refine mw_getD (v := 19) (pc' := 153) dX2_copy_150 rfl hA (by decide +kernel) fg_RX2_37 ⟨⟨by decide, by decide⟩, by decide, by decide +kernel, by decide +kernel⟩ ?_
  refine mw_iconst (pc' := 154) dX2_copy_153 rfl ⟨by decide, by decide⟩ ?_
  refine mw_aload_n (v := vR (A + 10)) (pc' := 155) dX2_copy_154 rfl rfl (Or.inl rfl) rfl ?_
  refine mw_getD (v := 19) (pc' := 158) dX2_copy_155 rfl hA (by decide +kernel) fg_RX2_37 ⟨⟨by decide, by decide⟩, by decide, by decide +kernel, by decide +kernel⟩ ?_
  refine mw_alenD (n := 30) (pc' := 159) dX2_copy_158 rfl hA rfl (by decide +kernel) ⟨⟨by decide, by decide⟩, ⟨by decide, by decide⟩, by decide, by decide⟩ ?_
  refine mw_copyD (pc' := 162) dX2_copy_159 rfl bw_682 hA hB rfl (by decide +kernel) ⟨⟨by decide, by decide⟩, ⟨by decide, by decide⟩, by decide⟩ ⟨by decide, by decide⟩ (Nat.le_of_ble_eq_true rfl) ?_
  refine mw_aload_n (v := vR (B + 10)) (pc' := 163) dX2_copy_162 rfl rfl (Or.inl rfl) rfl ?_
  refine mw_getD (v := 20) (pc' := 166) dX2_copy_163 rfl hB (by decide +kernel) fg_RX2_40 ⟨⟨by decide, by decide⟩, by decide, by decide +kernel, by decide +kernel⟩ ?_
  refine mw_iconst (pc' := 167) dX2_copy_166 rfl ⟨by decide, by decide⟩ ?_
  refine mw_aload_n (v := vR (A + 10)) (pc' := 168) dX2_copy_167 rfl rfl (Or.inl rfl) rfl ?_
  refine mw_getD (v := 20) (pc' := 171) dX2_copy_168 rfl hA (by decide +kernel) fg_RX2_40 ⟨⟨by decide, by decide⟩, by decide, by decide +kernel, by decide +kernel⟩ ?_
  refine mw_iconst (pc' := 172) dX2_copy_171 rfl ⟨by decide, by decide⟩ ?_
  refine mw_aload_n (v := vR (A + 10)) (pc' := 173) dX2_copy_172 rfl rfl (Or.inl rfl) rfl ?_
  refine mw_getD (v := 20) (pc' := 176) dX2_copy_173 rfl hA (by decide +kernel) fg_RX2_40 ⟨⟨by decide, by decide⟩, by decide, by decide +kernel, by decide +kernel⟩ ?_
  refine mw_alenD (n := 30) (pc' := 177) dX2_copy_176 rfl hA rfl (by decide +kernel) ⟨⟨by decide, by decide⟩, ⟨by decide, by decide⟩, by decide, by decide⟩ ?_
  refine mw_copyD (pc' := 180) dX2_copy_177 rfl bw_682 hA hB rfl (by decide +kernel) ⟨⟨by decide, by decide⟩, ⟨by decide, by decide⟩, by decide⟩ ⟨by decide, by decide⟩ (Nat.le_of_ble_eq_true rfl) ?_
  refine mw_aload_n (v := vR (B + 10)) (pc' := 181) dX2_copy_180 rfl rfl (Or.inl rfl) rfl ?_
  refine mw_getD (v := 21) (pc' := 184) dX2_copy_181 rfl hB (by decide +kernel) fg_RX2_43 ⟨⟨by decide, by decide⟩, by decide, by decide +kernel, by decide +kernel⟩ ?_
  refine mw_iconst (pc' := 185) dX2_copy_184 rfl ⟨by decide, by decide⟩ ?_
  refine mw_aload_n (v := vR (A + 10)) (pc' := 186) dX2_copy_185 rfl rfl (Or.inl rfl) rfl ?_
  refine mw_getD (v := 21) (pc' := 189) dX2_copy_186 rfl hA (by decide +kernel) fg_RX2_43 ⟨⟨by decide, by decide⟩, by decide, by decide +kernel, by decide +kernel⟩ ?_
  refine mw_iconst (pc' := 190) dX2_copy_189 rfl ⟨by decide, by decide⟩ ?_
  refine mw_aload_n (v := vR (A + 10)) (pc' := 191) dX2_copy_190 rfl rfl (Or.inl rfl) rfl ?_
  refine mw_getD (v := 21) (pc' := 194) dX2_copy_191 rfl hA (by decide +kernel) fg_RX2_43 ⟨⟨by decide, by decide⟩, by decide, by decide +kernel, by decide +kernel⟩ ?_
  refine mw_alenD (n := 30) (pc' := 195) dX2_copy_194 rfl hA rfl (by decide +kernel) ⟨⟨by decide, by decide⟩, ⟨by decide, by decide⟩, by decide, by decide⟩ ?_
  refine mw_copyD (pc' := 198) dX2_copy_195 rfl bw_682 hA hB rfl (by decide +kernel) ⟨⟨by decide, by decide⟩, ⟨by decide, by decide⟩, by decide⟩ ⟨by decide, by decide⟩ (Nat.le_of_ble_eq_true rfl) ?_
  refine mw_aload_n (v := vR (A + 10)) (pc' := 199) dX2_copy_198 rfl rfl (Or.inl rfl) rfl ?_
  refine mw_aload_n (v := vR (B + 10)) (pc' := 200) dX2_copy_199 rfl rfl (Or.inl rfl) rfl ?_
  refine mw_getDI (ji := 11) (pc' := 203) dX2_copy_200 rfl hB (by decide +kernel) fg_RX2_53 rfl ⟨⟨by decide, by decide⟩, by decide, by decide +kernel⟩ ?_
  refine mw_putDI (ji := 11) (pc' := 206) dX2_copy_203 rfl hA (by decide +kernel) fp_RX2_53 rfl ⟨⟨by decide, by decide⟩, by decide, by decide +kernel⟩ ?_
  exact mw_vret (pc' := 0) (S := []) dX2_copy_206 rfl (h _ (CPy.tr (l := 10) (h := 21) (CPy.tr (l := 11) (h := 21) (CPy.tr (l := 11) (h := 20) (CPy.tr (l := 11) (h := 19) (CPy.tr (l := 11) (h := 18) (CPy.tr (l := 11) (h := 17) (CPy.tr (l := 11) (h := 16) (CPy.tr (l := 11) (h := 15) (CPy.tr (l := 11) (h := 14) (CPy.tr (l := 11) (h := 13) (CPy.tr (l := 11) (h := 12) (CPy.ar (fun j hj => by have h1 := inC_a hj; have h2 := inC_30 hj; omega)) (CPy.ar (fun j hj => by have h1 := inC_a hj; have h2 := inC_30 hj; omega)) (by decide) (fun o j q1 q2 hi => by have h1 := inC_e hi; omega) hap) (CPy.ar (fun j hj => by have h1 := inC_a hj; have h2 := inC_30 hj; omega)) (by decide) (fun o j q1 q2 hi => by have h1 := inC_e hi; omega) hap) (CPy.ar (fun j hj => by have h1 := inC_a hj; have h2 := inC_30 hj; omega)) (by decide) (fun o j q1 q2 hi => by have h1 := inC_e hi; omega) hap) (CPy.ar (fun j hj => by have h1 := inC_a hj; have h2 := inC_30 hj; omega)) (by decide) (fun o j q1 q2 hi => by have h1 := inC_e hi; omega) hap) (CPy.ar (fun j hj => by have h1 := inC_a hj; have h2 := inC_30 hj; omega)) (by decide) (fun o j q1 q2 hi => by have h1 := inC_e hi; omega) hap) (CPy.ar (fun j hj => by have h1 := inC_a hj; have h2 := inC_30 hj; omega)) (by decide) (fun o j q1 q2 hi => by have h1 := inC_e hi; omega) hap) (CPy.ar (fun j hj => by have h1 := inC_a hj; have h2 := inC_30 hj; omega)) (by decide) (fun o j q1 q2 hi => by have h1 := inC_e hi; omega) hap) (CPy.ar (fun j hj => by have h1 := inC_a hj; have h2 := inC_30 hj; omega)) (by decide) (fun o j q1 q2 hi => by have h1 := inC_e hi; omega) hap) (CPy.ar (fun j hj => by have h1 := inC_a hj; have h2 := inC_30 hj; omega)) (by decide) (fun o j q1 q2 hi => by have h1 := inC_e hi; omega) hap) (CPy.ar (fun j hj => by have h1 := inC_a hj; have h2 := inC_30 hj; omega)) (by decide) (fun o j q1 q2 hi => by have h1 := inC_e hi; omega) hap) (CPy.pt (fun j hj => by have h1 := inC_e hj; omega)) (by decide) (fun o j q1 q2 hi => by have h1 := inC_e hi; omega) hap))
theorem c_X2p {A B : Int} {g : mG} {d : mD} {Q : mQ} (hA : DKd g A) (hB : DKd g B) (hap : A + 46 ≤ B ∨ B + 46 ≤ A) (h : ∀ d', CPy A B 28 39 d d' → Q (.inl 0) g d') : MM mX2_copy [vR (A + 28), vR (B + 28)] g d Q := by
  refine MM_of (by decide) rfl (by simp [catV]) (Nat.le_of_ble_eq_true rfl) ?_
  show MW mX2_copy 0 0 0 [(0, vR (A + 28)), (1, vR (B + 28))] [] g d Q
  have hrA := hA.rng
  have hrB := hB.rng
  refine mw_top (fun hT => ?_)
  have h21 := hT.1.2.1
  refine mw_aload_n (v := vR (B + 28)) (pc' := 1) dX2_copy_0 rfl rfl (Or.inl rfl) rfl ?_
  refine mw_getD (v := 29) (pc' := 4) dX2_copy_1 rfl hB (by decide +kernel) fg_RX2_9 ⟨⟨by decide, by decide⟩, by decide, by decide +kernel, by decide +kernel⟩ ?_
  refine mw_iconst (pc' := 5) dX2_copy_4 rfl ⟨by decide, by decide⟩ ?_
  refine mw_aload_n (v := vR (A + 28)) (pc' := 6) dX2_copy_5 rfl rfl (Or.inl rfl) rfl ?_
  refine mw_getD (v := 29) (pc' := 9) dX2_copy_6 rfl hA (by decide +kernel) fg_RX2_9 ⟨⟨by decide, by decide⟩, by decide, by decide +kernel, by decide +kernel⟩ ?_
  refine mw_iconst (pc' := 10) dX2_copy_9 rfl ⟨by decide, by decide⟩ ?_
  refine mw_aload_n (v := vR (A + 28)) (pc' := 11) dX2_copy_10 rfl rfl (Or.inl rfl) rfl ?_
  refine mw_getD (v := 29) (pc' := 14) dX2_copy_11 rfl hA (by decide +kernel) fg_RX2_9 ⟨⟨by decide, by decide⟩, by decide, by decide +kernel, by decide +kernel⟩ ?_
  refine mw_alenD (n := 30) (pc' := 15) dX2_copy_14 rfl hA rfl (by decide +kernel) ⟨⟨by decide, by decide⟩, ⟨by decide, by decide⟩, by decide, by decide⟩ ?_
  refine mw_copyD (pc' := 18) dX2_copy_15 rfl bw_682 hA hB rfl (by decide +kernel) ⟨⟨by decide, by decide⟩, ⟨by decide, by decide⟩, by decide⟩ ⟨by decide, by decide⟩ (Nat.le_of_ble_eq_true rfl) ?_
  refine mw_aload_n (v := vR (B + 28)) (pc' := 19) dX2_copy_18 rfl rfl (Or.inl rfl) rfl ?_
  refine mw_getD (v := 30) (pc' := 22) dX2_copy_19 rfl hB (by decide +kernel) fg_RX2_15 ⟨⟨by decide, by decide⟩, by decide, by decide +kernel, by decide +kernel⟩ ?_
  refine mw_iconst (pc' := 23) dX2_copy_22 rfl ⟨by decide, by decide⟩ ?_
  refine mw_aload_n (v := vR (A + 28)) (pc' := 24) dX2_copy_23 rfl rfl (Or.inl rfl) rfl ?_
  refine mw_getD (v := 30) (pc' := 27) dX2_copy_24 rfl hA (by decide +kernel) fg_RX2_15 ⟨⟨by decide, by decide⟩, by decide, by decide +kernel, by decide +kernel⟩ ?_
  refine mw_iconst (pc' := 28) dX2_copy_27 rfl ⟨by decide, by decide⟩ ?_
  refine mw_aload_n (v := vR (A + 28)) (pc' := 29) dX2_copy_28 rfl rfl (Or.inl rfl) rfl ?_
  refine mw_getD (v := 30) (pc' := 32) dX2_copy_29 rfl hA (by decide +kernel) fg_RX2_15 ⟨⟨by decide, by decide⟩, by decide, by decide +kernel, by decide +kernel⟩ ?_
  refine mw_alenD (n := 30) (pc' := 33) dX2_copy_32 rfl hA rfl (by decide +kernel) ⟨⟨by decide, by decide⟩, ⟨by decide, by decide⟩, by decide, by decide⟩ ?_
  refine mw_copyD (pc' := 36) dX2_copy_33 rfl bw_682 hA hB rfl (by decide +kernel) ⟨⟨by decide, by decide⟩, ⟨by decide, by decide⟩, by decide⟩ ⟨by decide, by decide⟩ (Nat.le_of_ble_eq_true rfl) ?_
  refine mw_aload_n (v := vR (B + 28)) (pc' := 37) dX2_copy_36 rfl rfl (Or.inl rfl) rfl ?_
  refine mw_getD (v := 31) (pc' := 40) dX2_copy_37 rfl hB (by decide +kernel) fg_RX2_18 ⟨⟨by decide, by decide⟩, by decide, by decide +kernel, by decide +kernel⟩ ?_
  refine mw_iconst (pc' := 41) dX2_copy_40 rfl ⟨by decide, by decide⟩ ?_
  refine mw_aload_n (v := vR (A + 28)) (pc' := 42) dX2_copy_41 rfl rfl (Or.inl rfl) rfl ?_
  refine mw_getD (v := 31) (pc' := 45) dX2_copy_42 rfl hA (by decide +kernel) fg_RX2_18 ⟨⟨by decide, by decide⟩, by decide, by decide +kernel, by decide +kernel⟩ ?_
  refine mw_iconst (pc' := 46) dX2_copy_45 rfl ⟨by decide, by decide⟩ ?_
  refine mw_aload_n (v := vR (A + 28)) (pc' := 47) dX2_copy_46 rfl rfl (Or.inl rfl) rfl ?_
  refine mw_getD (v := 31) (pc' := 50) dX2_copy_47 rfl hA (by decide +kernel) fg_RX2_18 ⟨⟨by decide, by decide⟩, by decide, by decide +kernel, by decide +kernel⟩ ?_
  refine mw_alenD (n := 30) (pc' := 51) dX2_copy_50 rfl hA rfl (by decide +kernel) ⟨⟨by decide, by decide⟩, ⟨by decide, by decide⟩, by decide, by decide⟩ ?_
  refine mw_copyD (pc' := 54) dX2_copy_51 rfl bw_682 hA hB rfl (by decide +kernel) ⟨⟨by decide, by decide⟩, ⟨by decide, by decide⟩, by decide⟩ ⟨by decide, by decide⟩ (Nat.le_of_ble_eq_true rfl) ?_
  refine mw_aload_n (v := vR (B + 28)) (pc' := 55) dX2_copy_54 rfl rfl (Or.inl rfl) rfl ?_
  refine mw_getD (v := 32) (pc' := 58) dX2_copy_55 rfl hB (by decide +kernel) fg_RX2_21 ⟨⟨by decide, by decide⟩, by decide, by decide +kernel, by decide +kernel⟩ ?_
  refine mw_iconst (pc' := 59) dX2_copy_58 rfl ⟨by decide, by decide⟩ ?_
  refine mw_aload_n (v := vR (A + 28)) (pc' := 60) dX2_copy_59 rfl rfl (Or.inl rfl) rfl ?_
  refine mw_getD (v := 32) (pc' := 63) dX2_copy_60 rfl hA (by decide +kernel) fg_RX2_21 ⟨⟨by decide, by decide⟩, by decide, by decide +kernel, by decide +kernel⟩ ?_
  refine mw_iconst (pc' := 64) dX2_copy_63 rfl ⟨by decide, by decide⟩ ?_
  refine mw_aload_n (v := vR (A + 28)) (pc' := 65) dX2_copy_64 rfl rfl (Or.inl rfl) rfl ?_
  refine mw_getD (v := 32) (pc' := 68) dX2_copy_65 rfl hA (by decide +kernel) fg_RX2_21 ⟨⟨by decide, by decide⟩, by decide, by decide +kernel, by decide +kernel⟩ ?_
  refine mw_alenD (n := 30) (pc' := 69) dX2_copy_68 rfl hA rfl (by decide +kernel) ⟨⟨by decide, by decide⟩, ⟨by decide, by decide⟩, by decide, by decide⟩ ?_
  refine mw_copyD (pc' := 72) dX2_copy_69 rfl bw_682 hA hB rfl (by decide +kernel) ⟨⟨by decide, by decide⟩, ⟨by decide, by decide⟩, by decide⟩ ⟨by decide, by decide⟩ (Nat.le_of_ble_eq_true rfl) ?_
  refine mw_aload_n (v := vR (B + 28)) (pc' := 73) dX2_copy_72 rfl rfl (Or.inl rfl) rfl ?_
  refine mw_getD (v := 33) (pc' := 76) dX2_copy_73 rfl hB (by decide +kernel) fg_RX2_25 ⟨⟨by decide, by decide⟩, by decide, by decide +kernel, by decide +kernel⟩ ?_
  refine mw_iconst (pc' := 77) dX2_copy_76 rfl ⟨by decide, by decide⟩ ?_
  refine mw_aload_n (v := vR (A + 28)) (pc' := 78) dX2_copy_77 rfl rfl (Or.inl rfl) rfl ?_
  refine mw_getD (v := 33) (pc' := 81) dX2_copy_78 rfl hA (by decide +kernel) fg_RX2_25 ⟨⟨by decide, by decide⟩, by decide, by decide +kernel, by decide +kernel⟩ ?_
  refine mw_iconst (pc' := 82) dX2_copy_81 rfl ⟨by decide, by decide⟩ ?_
  refine mw_aload_n (v := vR (A + 28)) (pc' := 83) dX2_copy_82 rfl rfl (Or.inl rfl) rfl ?_
  refine mw_getD (v := 33) (pc' := 86) dX2_copy_83 rfl hA (by decide +kernel) fg_RX2_25 ⟨⟨by decide, by decide⟩, by decide, by decide +kernel, by decide +kernel⟩ ?_
  refine mw_alenD (n := 30) (pc' := 87) dX2_copy_86 rfl hA rfl (by decide +kernel) ⟨⟨by decide, by decide⟩, ⟨by decide, by decide⟩, by decide, by decide⟩ ?_
  refine mw_copyD (pc' := 90) dX2_copy_87 rfl bw_682 hA hB rfl (by decide +kernel) ⟨⟨by decide, by decide⟩, ⟨by decide, by decide⟩, by decide⟩ ⟨by decide, by decide⟩ (Nat.le_of_ble_eq_true rfl) ?_
  refine mw_aload_n (v := vR (B + 28)) (pc' := 91) dX2_copy_90 rfl rfl (Or.inl rfl) rfl ?_
  refine mw_getD (v := 34) (pc' := 94) dX2_copy_91 rfl hB (by decide +kernel) fg_RX2_28 ⟨⟨by decide, by decide⟩, by decide, by decide +kernel, by decide +kernel⟩ ?_
  refine mw_iconst (pc' := 95) dX2_copy_94 rfl ⟨by decide, by decide⟩ ?_
  refine mw_aload_n (v := vR (A + 28)) (pc' := 96) dX2_copy_95 rfl rfl (Or.inl rfl) rfl ?_
  refine mw_getD (v := 34) (pc' := 99) dX2_copy_96 rfl hA (by decide +kernel) fg_RX2_28 ⟨⟨by decide, by decide⟩, by decide, by decide +kernel, by decide +kernel⟩ ?_
  refine mw_iconst (pc' := 100) dX2_copy_99 rfl ⟨by decide, by decide⟩ ?_
  refine mw_aload_n (v := vR (A + 28)) (pc' := 101) dX2_copy_100 rfl rfl (Or.inl rfl) rfl ?_
  refine mw_getD (v := 34) (pc' := 104) dX2_copy_101 rfl hA (by decide +kernel) fg_RX2_28 ⟨⟨by decide, by decide⟩, by decide, by decide +kernel, by decide +kernel⟩ ?_
  refine mw_alenD (n := 210) (pc' := 105) dX2_copy_104 rfl hA rfl (by decide +kernel) ⟨⟨by decide, by decide⟩, ⟨by decide, by decide⟩, by decide, by decide⟩ ?_
  refine mw_copyD (pc' := 108) dX2_copy_105 rfl bw_682 hA hB rfl (by decide +kernel) ⟨⟨by decide, by decide⟩, ⟨by decide, by decide⟩, by decide⟩ ⟨by decide, by decide⟩ (Nat.le_of_ble_eq_true rfl) ?_
  refine mw_aload_n (v := vR (B + 28)) (pc' := 109) dX2_copy_108 rfl rfl (Or.inl rfl) rfl ?_
  refine mw_getD (v := 35) (pc' := 112) dX2_copy_109 rfl hB (by decide +kernel) fg_RX2_31 ⟨⟨by decide, by decide⟩, by decide, by decide +kernel, by decide +kernel⟩ ?_
  refine mw_iconst (pc' := 113) dX2_copy_112 rfl ⟨by decide, by decide⟩ ?_
  refine mw_aload_n (v := vR (A + 28)) (pc' := 114) dX2_copy_113 rfl rfl (Or.inl rfl) rfl ?_
  refine mw_getD (v := 35) (pc' := 117) dX2_copy_114 rfl hA (by decide +kernel) fg_RX2_31 ⟨⟨by decide, by decide⟩, by decide, by decide +kernel, by decide +kernel⟩ ?_
  refine mw_iconst (pc' := 118) dX2_copy_117 rfl ⟨by decide, by decide⟩ ?_
  refine mw_aload_n (v := vR (A + 28)) (pc' := 119) dX2_copy_118 rfl rfl (Or.inl rfl) rfl ?_
  refine mw_getD (v := 35) (pc' := 122) dX2_copy_119 rfl hA (by decide +kernel) fg_RX2_31 ⟨⟨by decide, by decide⟩, by decide, by decide +kernel, by decide +kernel⟩ ?_
  refine mw_alenD (n := 30) (pc' := 123) dX2_copy_122 rfl hA rfl (by decide +kernel) ⟨⟨by decide, by decide⟩, ⟨by decide, by decide⟩, by decide, by decide⟩ ?_
  refine mw_copyD (pc' := 126) dX2_copy_123 rfl bw_682 hA hB rfl (by decide +kernel) ⟨⟨by decide, by decide⟩, ⟨by decide, by decide⟩, by decide⟩ ⟨by decide, by decide⟩ (Nat.le_of_ble_eq_true rfl) ?_
  refine mw_aload_n (v := vR (B + 28)) (pc' := 127) dX2_copy_126 rfl rfl (Or.inl rfl) rfl ?_
  refine mw_getD (v := 36) (pc' := 130) dX2_copy_127 rfl hB (by decide +kernel) fg_RX2_34 ⟨⟨by decide, by decide⟩, by decide, by decide +kernel, by decide +kernel⟩ ?_
  refine mw_iconst (pc' := 131) dX2_copy_130 rfl ⟨by decide, by decide⟩ ?_
  refine mw_aload_n (v := vR (A + 28)) (pc' := 132) dX2_copy_131 rfl rfl (Or.inl rfl) rfl ?_
  refine mw_getD (v := 36) (pc' := 135) dX2_copy_132 rfl hA (by decide +kernel) fg_RX2_34 ⟨⟨by decide, by decide⟩, by decide, by decide +kernel, by decide +kernel⟩ ?_
  refine mw_iconst (pc' := 136) dX2_copy_135 rfl ⟨by decide, by decide⟩ ?_
  refine mw_aload_n (v := vR (A + 28)) (pc' := 137) dX2_copy_136 rfl rfl (Or.inl rfl) rfl ?_
  refine mw_getD (v := 36) (pc' := 140) dX2_copy_137 rfl hA (by decide +kernel) fg_RX2_34 ⟨⟨by decide, by decide⟩, by decide, by decide +kernel, by decide +kernel⟩ ?_
  refine mw_alenD (n := 30) (pc' := 141) dX2_copy_140 rfl hA rfl (by decide +kernel) ⟨⟨by decide, by decide⟩, ⟨by decide, by decide⟩, by decide, by decide⟩ ?_
  refine mw_copyD (pc' := 144) dX2_copy_141 rfl bw_682 hA hB rfl (by decide +kernel) ⟨⟨by decide, by decide⟩, ⟨by decide, by decide⟩, by decide⟩ ⟨by decide, by decide⟩ (Nat.le_of_ble_eq_true rfl) ?_
  refine mw_aload_n (v := vR (B + 28)) (pc' := 145) dX2_copy_144 rfl rfl (Or.inl rfl) rfl ?_
  refine mw_getD (v := 37) (pc' := 148) dX2_copy_145 rfl hB (by decide +kernel) fg_RX2_37 ⟨⟨by decide, by decide⟩, by decide, by decide +kernel, by decide +kernel⟩ ?_
  refine mw_iconst (pc' := 149) dX2_copy_148 rfl ⟨by decide, by decide⟩ ?_
  refine mw_aload_n (v := vR (A + 28)) (pc' := 150) dX2_copy_149 rfl rfl (Or.inl rfl) rfl ?_
  refine mw_getD (v := 37) (pc' := 153) dX2_copy_150 rfl hA (by decide +kernel) fg_RX2_37 ⟨⟨by decide, by decide⟩, by decide, by decide +kernel, by decide +kernel⟩ ?_
  refine mw_iconst (pc' := 154) dX2_copy_153 rfl ⟨by decide, by decide⟩ ?_
  refine mw_aload_n (v := vR (A + 28)) (pc' := 155) dX2_copy_154 rfl rfl (Or.inl rfl) rfl ?_
  refine mw_getD (v := 37) (pc' := 158) dX2_copy_155 rfl hA (by decide +kernel) fg_RX2_37 ⟨⟨by decide, by decide⟩, by decide, by decide +kernel, by decide +kernel⟩ ?_
  refine mw_alenD (n := 30) (pc' := 159) dX2_copy_158 rfl hA rfl (by decide +kernel) ⟨⟨by decide, by decide⟩, ⟨by decide, by decide⟩, by decide, by decide⟩ ?_
  refine mw_copyD (pc' := 162) dX2_copy_159 rfl bw_682 hA hB rfl (by decide +kernel) ⟨⟨by decide, by decide⟩, ⟨by decide, by decide⟩, by decide⟩ ⟨by decide, by decide⟩ (Nat.le_of_ble_eq_true rfl) ?_
  refine mw_aload_n (v := vR (B + 28)) (pc' := 163) dX2_copy_162 rfl rfl (Or.inl rfl) rfl ?_
  refine mw_getD (v := 38) (pc' := 166) dX2_copy_163 rfl hB (by decide +kernel) fg_RX2_40 ⟨⟨by decide, by decide⟩, by decide, by decide +kernel, by decide +kernel⟩ ?_
  refine mw_iconst (pc' := 167) dX2_copy_166 rfl ⟨by decide, by decide⟩ ?_
  refine mw_aload_n (v := vR (A + 28)) (pc' := 168) dX2_copy_167 rfl rfl (Or.inl rfl) rfl ?_
  refine mw_getD (v := 38) (pc' := 171) dX2_copy_168 rfl hA (by decide +kernel) fg_RX2_40 ⟨⟨by decide, by decide⟩, by decide, by decide +kernel, by decide +kernel⟩ ?_
  refine mw_iconst (pc' := 172) dX2_copy_171 rfl ⟨by decide, by decide⟩ ?_
  refine mw_aload_n (v := vR (A + 28)) (pc' := 173) dX2_copy_172 rfl rfl (Or.inl rfl) rfl ?_
  refine mw_getD (v := 38) (pc' := 176) dX2_copy_173 rfl hA (by decide +kernel) fg_RX2_40 ⟨⟨by decide, by decide⟩, by decide, by decide +kernel, by decide +kernel⟩ ?_
  refine mw_alenD (n := 30) (pc' := 177) dX2_copy_176 rfl hA rfl (by decide +kernel) ⟨⟨by decide, by decide⟩, ⟨by decide, by decide⟩, by decide, by decide⟩ ?_
  refine mw_copyD (pc' := 180) dX2_copy_177 rfl bw_682 hA hB rfl (by decide +kernel) ⟨⟨by decide, by decide⟩, ⟨by decide, by decide⟩, by decide⟩ ⟨by decide, by decide⟩ (Nat.le_of_ble_eq_true rfl) ?_
  refine mw_aload_n (v := vR (B + 28)) (pc' := 181) dX2_copy_180 rfl rfl (Or.inl rfl) rfl ?_
  refine mw_getD (v := 39) (pc' := 184) dX2_copy_181 rfl hB (by decide +kernel) fg_RX2_43 ⟨⟨by decide, by decide⟩, by decide, by decide +kernel, by decide +kernel⟩ ?_
  refine mw_iconst (pc' := 185) dX2_copy_184 rfl ⟨by decide, by decide⟩ ?_
  refine mw_aload_n (v := vR (A + 28)) (pc' := 186) dX2_copy_185 rfl rfl (Or.inl rfl) rfl ?_
  refine mw_getD (v := 39) (pc' := 189) dX2_copy_186 rfl hA (by decide +kernel) fg_RX2_43 ⟨⟨by decide, by decide⟩, by decide, by decide +kernel, by decide +kernel⟩ ?_
  refine mw_iconst (pc' := 190) dX2_copy_189 rfl ⟨by decide, by decide⟩ ?_
  refine mw_aload_n (v := vR (A + 28)) (pc' := 191) dX2_copy_190 rfl rfl (Or.inl rfl) rfl ?_
  refine mw_getD (v := 39) (pc' := 194) dX2_copy_191 rfl hA (by decide +kernel) fg_RX2_43 ⟨⟨by decide, by decide⟩, by decide, by decide +kernel, by decide +kernel⟩ ?_
  refine mw_alenD (n := 30) (pc' := 195) dX2_copy_194 rfl hA rfl (by decide +kernel) ⟨⟨by decide, by decide⟩, ⟨by decide, by decide⟩, by decide, by decide⟩ ?_
  refine mw_copyD (pc' := 198) dX2_copy_195 rfl bw_682 hA hB rfl (by decide +kernel) ⟨⟨by decide, by decide⟩, ⟨by decide, by decide⟩, by decide⟩ ⟨by decide, by decide⟩ (Nat.le_of_ble_eq_true rfl) ?_
  refine mw_aload_n (v := vR (A + 28)) (pc' := 199) dX2_copy_198 rfl rfl (Or.inl rfl) rfl ?_
  refine mw_aload_n (v := vR (B + 28)) (pc' := 200) dX2_copy_199 rfl rfl (Or.inl rfl) rfl ?_
  refine mw_getDI (ji := 11) (pc' := 203) dX2_copy_200 rfl hB (by decide +kernel) fg_RX2_53 rfl ⟨⟨by decide, by decide⟩, by decide, by decide +kernel⟩ ?_
  refine mw_putDI (ji := 11) (pc' := 206) dX2_copy_203 rfl hA (by decide +kernel) fp_RX2_53 rfl ⟨⟨by decide, by decide⟩, by decide, by decide +kernel⟩ ?_
  exact mw_vret (pc' := 0) (S := []) dX2_copy_206 rfl (h _ (CPy.tr (l := 28) (h := 39) (CPy.tr (l := 29) (h := 39) (CPy.tr (l := 29) (h := 38) (CPy.tr (l := 29) (h := 37) (CPy.tr (l := 29) (h := 36) (CPy.tr (l := 29) (h := 35) (CPy.tr (l := 29) (h := 34) (CPy.tr (l := 29) (h := 33) (CPy.tr (l := 29) (h := 32) (CPy.tr (l := 29) (h := 31) (CPy.tr (l := 29) (h := 30) (CPy.ar (fun j hj => by have h1 := inC_a hj; have h2 := inC_30 hj; omega)) (CPy.ar (fun j hj => by have h1 := inC_a hj; have h2 := inC_30 hj; omega)) (by decide) (fun o j q1 q2 hi => by have h1 := inC_e hi; omega) hap) (CPy.ar (fun j hj => by have h1 := inC_a hj; have h2 := inC_30 hj; omega)) (by decide) (fun o j q1 q2 hi => by have h1 := inC_e hi; omega) hap) (CPy.ar (fun j hj => by have h1 := inC_a hj; have h2 := inC_30 hj; omega)) (by decide) (fun o j q1 q2 hi => by have h1 := inC_e hi; omega) hap) (CPy.ar (fun j hj => by have h1 := inC_a hj; have h2 := inC_30 hj; omega)) (by decide) (fun o j q1 q2 hi => by have h1 := inC_e hi; omega) hap) (CPy.ar (fun j hj => by have h1 := inC_a hj; have h2 := inC_30 hj; omega)) (by decide) (fun o j q1 q2 hi => by have h1 := inC_e hi; omega) hap) (CPy.ar (fun j hj => by have h1 := inC_a hj; have h2 := inC_30 hj; omega)) (by decide) (fun o j q1 q2 hi => by have h1 := inC_e hi; omega) hap) (CPy.ar (fun j hj => by have h1 := inC_a hj; have h2 := inC_30 hj; omega)) (by decide) (fun o j q1 q2 hi => by have h1 := inC_e hi; omega) hap) (CPy.ar (fun j hj => by have h1 := inC_a hj; have h2 := inC_30 hj; omega)) (by decide) (fun o j q1 q2 hi => by have h1 := inC_e hi; omega) hap) (CPy.ar (fun j hj => by have h1 := inC_a hj; have h2 := inC_30 hj; omega)) (by decide) (fun o j q1 q2 hi => by have h1 := inC_e hi; omega) hap) (CPy.ar (fun j hj => by have h1 := inC_a hj; have h2 := inC_30 hj; omega)) (by decide) (fun o j q1 q2 hi => by have h1 := inC_e hi; omega) hap) (CPy.pt (fun j hj => by have h1 := inC_e hj; omega)) (by decide) (fun o j q1 q2 hi => by have h1 := inC_e hi; omega) hap))
theorem c_X8 {A B : Int} {g : mG} {d : mD} {Q : mQ} (hA : DKd g A) (hB : DKd g B) (hap : A + 46 ≤ B ∨ B + 46 ≤ A) (h : ∀ d', CPy A B 22 26 d d' → Q (.inl 0) g d') : MM mX8_copy [vR (A + 22), vR (B + 22)] g d Q := by
  refine MM_of (by decide) rfl (by simp [catV]) (Nat.le_of_ble_eq_true rfl) ?_
  show MW mX8_copy 0 0 0 [(0, vR (A + 22)), (1, vR (B + 22))] [] g d Q
  have hrA := hA.rng
  have hrB := hB.rng
  refine mw_top (fun hT => ?_)
  have h21 := hT.1.2.1
  refine mw_aload_n (v := vR (B + 22)) (pc' := 1) dX8_copy_0 rfl rfl (Or.inl rfl) rfl ?_
  refine mw_getD (v := 23) (pc' := 4) dX8_copy_1 rfl hB (by decide +kernel) fg_RX8_9 ⟨⟨by decide, by decide⟩, by decide, by decide +kernel, by decide +kernel⟩ ?_
  refine mw_iconst (pc' := 5) dX8_copy_4 rfl ⟨by decide, by decide⟩ ?_
  refine mw_aload_n (v := vR (A + 22)) (pc' := 6) dX8_copy_5 rfl rfl (Or.inl rfl) rfl ?_
  refine mw_getD (v := 23) (pc' := 9) dX8_copy_6 rfl hA (by decide +kernel) fg_RX8_9 ⟨⟨by decide, by decide⟩, by decide, by decide +kernel, by decide +kernel⟩ ?_
  refine mw_iconst (pc' := 10) dX8_copy_9 rfl ⟨by decide, by decide⟩ ?_
  refine mw_aload_n (v := vR (A + 22)) (pc' := 11) dX8_copy_10 rfl rfl (Or.inl rfl) rfl ?_
  refine mw_getD (v := 23) (pc' := 14) dX8_copy_11 rfl hA (by decide +kernel) fg_RX8_9 ⟨⟨by decide, by decide⟩, by decide, by decide +kernel, by decide +kernel⟩ ?_
  refine mw_alenD (n := 12) (pc' := 15) dX8_copy_14 rfl hA rfl (by decide +kernel) ⟨⟨by decide, by decide⟩, ⟨by decide, by decide⟩, by decide, by decide⟩ ?_
  refine mw_copyD (pc' := 18) dX8_copy_15 rfl bw_687 hA hB rfl (by decide +kernel) ⟨⟨by decide, by decide⟩, ⟨by decide, by decide⟩, by decide⟩ ⟨by decide, by decide⟩ (Nat.le_of_ble_eq_true rfl) ?_
  refine mw_aload_n (v := vR (B + 22)) (pc' := 19) dX8_copy_18 rfl rfl (Or.inl rfl) rfl ?_
  refine mw_getD (v := 24) (pc' := 22) dX8_copy_19 rfl hB (by decide +kernel) fg_RX8_15 ⟨⟨by decide, by decide⟩, by decide, by decide +kernel, by decide +kernel⟩ ?_
  refine mw_iconst (pc' := 23) dX8_copy_22 rfl ⟨by decide, by decide⟩ ?_
  refine mw_aload_n (v := vR (A + 22)) (pc' := 24) dX8_copy_23 rfl rfl (Or.inl rfl) rfl ?_
  refine mw_getD (v := 24) (pc' := 27) dX8_copy_24 rfl hA (by decide +kernel) fg_RX8_15 ⟨⟨by decide, by decide⟩, by decide, by decide +kernel, by decide +kernel⟩ ?_
  refine mw_iconst (pc' := 28) dX8_copy_27 rfl ⟨by decide, by decide⟩ ?_
  refine mw_aload_n (v := vR (A + 22)) (pc' := 29) dX8_copy_28 rfl rfl (Or.inl rfl) rfl ?_
  refine mw_getD (v := 24) (pc' := 32) dX8_copy_29 rfl hA (by decide +kernel) fg_RX8_15 ⟨⟨by decide, by decide⟩, by decide, by decide +kernel, by decide +kernel⟩ ?_
  refine mw_alenD (n := 12) (pc' := 33) dX8_copy_32 rfl hA rfl (by decide +kernel) ⟨⟨by decide, by decide⟩, ⟨by decide, by decide⟩, by decide, by decide⟩ ?_
  refine mw_copyD (pc' := 36) dX8_copy_33 rfl bw_687 hA hB rfl (by decide +kernel) ⟨⟨by decide, by decide⟩, ⟨by decide, by decide⟩, by decide⟩ ⟨by decide, by decide⟩ (Nat.le_of_ble_eq_true rfl) ?_
  refine mw_aload_n (v := vR (B + 22)) (pc' := 37) dX8_copy_36 rfl rfl (Or.inl rfl) rfl ?_
  refine mw_getD (v := 25) (pc' := 40) dX8_copy_37 rfl hB (by decide +kernel) fg_RX8_18 ⟨⟨by decide, by decide⟩, by decide, by decide +kernel, by decide +kernel⟩ ?_
  refine mw_iconst (pc' := 41) dX8_copy_40 rfl ⟨by decide, by decide⟩ ?_
  refine mw_aload_n (v := vR (A + 22)) (pc' := 42) dX8_copy_41 rfl rfl (Or.inl rfl) rfl ?_
  refine mw_getD (v := 25) (pc' := 45) dX8_copy_42 rfl hA (by decide +kernel) fg_RX8_18 ⟨⟨by decide, by decide⟩, by decide, by decide +kernel, by decide +kernel⟩ ?_
  refine mw_iconst (pc' := 46) dX8_copy_45 rfl ⟨by decide, by decide⟩ ?_
  refine mw_aload_n (v := vR (A + 22)) (pc' := 47) dX8_copy_46 rfl rfl (Or.inl rfl) rfl ?_
  refine mw_getD (v := 25) (pc' := 50) dX8_copy_47 rfl hA (by decide +kernel) fg_RX8_18 ⟨⟨by decide, by decide⟩, by decide, by decide +kernel, by decide +kernel⟩ ?_
  refine mw_alenD (n := 12) (pc' := 51) dX8_copy_50 rfl hA rfl (by decide +kernel) ⟨⟨by decide, by decide⟩, ⟨by decide, by decide⟩, by decide, by decide⟩ ?_
  refine mw_copyD (pc' := 54) dX8_copy_51 rfl bw_687 hA hB rfl (by decide +kernel) ⟨⟨by decide, by decide⟩, ⟨by decide, by decide⟩, by decide⟩ ⟨by decide, by decide⟩ (Nat.le_of_ble_eq_true rfl) ?_
  refine mw_aload_n (v := vR (B + 22)) (pc' := 55) dX8_copy_54 rfl rfl (Or.inl rfl) rfl ?_
  refine mw_getD (v := 26) (pc' := 58) dX8_copy_55 rfl hB (by decide +kernel) fg_RX8_21 ⟨⟨by decide, by decide⟩, by decide, by decide +kernel, by decide +kernel⟩ ?_
  refine mw_iconst (pc' := 59) dX8_copy_58 rfl ⟨by decide, by decide⟩ ?_
  refine mw_aload_n (v := vR (A + 22)) (pc' := 60) dX8_copy_59 rfl rfl (Or.inl rfl) rfl ?_
  refine mw_getD (v := 26) (pc' := 63) dX8_copy_60 rfl hA (by decide +kernel) fg_RX8_21 ⟨⟨by decide, by decide⟩, by decide, by decide +kernel, by decide +kernel⟩ ?_
  refine mw_iconst (pc' := 64) dX8_copy_63 rfl ⟨by decide, by decide⟩ ?_
  refine mw_aload_n (v := vR (A + 22)) (pc' := 65) dX8_copy_64 rfl rfl (Or.inl rfl) rfl ?_
  refine mw_getD (v := 26) (pc' := 68) dX8_copy_65 rfl hA (by decide +kernel) fg_RX8_21 ⟨⟨by decide, by decide⟩, by decide, by decide +kernel, by decide +kernel⟩ ?_
  refine mw_alenD (n := 12) (pc' := 69) dX8_copy_68 rfl hA rfl (by decide +kernel) ⟨⟨by decide, by decide⟩, ⟨by decide, by decide⟩, by decide, by decide⟩ ?_
  refine mw_copyD (pc' := 72) dX8_copy_69 rfl bw_687 hA hB rfl (by decide +kernel) ⟨⟨by decide, by decide⟩, ⟨by decide, by decide⟩, by decide⟩ ⟨by decide, by decide⟩ (Nat.le_of_ble_eq_true rfl) ?_
  refine mw_aload_n (v := vR (A + 22)) (pc' := 73) dX8_copy_72 rfl rfl (Or.inl rfl) rfl ?_
  refine mw_aload_n (v := vR (B + 22)) (pc' := 74) dX8_copy_73 rfl rfl (Or.inl rfl) rfl ?_
  refine mw_getDI (ji := 4) (pc' := 77) dX8_copy_74 rfl hB (by decide +kernel) fg_RX8_30 rfl ⟨⟨by decide, by decide⟩, by decide, by decide +kernel⟩ ?_
  refine mw_putDI (ji := 4) (pc' := 80) dX8_copy_77 rfl hA (by decide +kernel) fp_RX8_30 rfl ⟨⟨by decide, by decide⟩, by decide, by decide +kernel⟩ ?_
  exact mw_vret (pc' := 0) (S := []) dX8_copy_80 rfl (h _ (CPy.tr (l := 22) (h := 26) (CPy.tr (l := 23) (h := 26) (CPy.tr (l := 23) (h := 25) (CPy.tr (l := 23) (h := 24) (CPy.ar (fun j hj => by have h1 := inC_a hj; have h2 := inC_30 hj; omega)) (CPy.ar (fun j hj => by have h1 := inC_a hj; have h2 := inC_30 hj; omega)) (by decide) (fun o j q1 q2 hi => by have h1 := inC_e hi; omega) hap) (CPy.ar (fun j hj => by have h1 := inC_a hj; have h2 := inC_30 hj; omega)) (by decide) (fun o j q1 q2 hi => by have h1 := inC_e hi; omega) hap) (CPy.ar (fun j hj => by have h1 := inC_a hj; have h2 := inC_30 hj; omega)) (by decide) (fun o j q1 q2 hi => by have h1 := inC_e hi; omega) hap) (CPy.pt (fun j hj => by have h1 := inC_e hj; omega)) (by decide) (fun o j q1 q2 hi => by have h1 := inC_e hi; omega) hap))
theorem c_X1 {A B : Int} {g : mG} {d : mD} {Q : mQ} (hA : DKd g A) (hB : DKd g B) (hap : A + 46 ≤ B ∨ B + 46 ≤ A) (h : ∀ d', CPy A B 27 45 d d' → Q (.inl 0) g d') : MM mX1_copy [vR (A + 27), vR (B + 27)] g d Q := by
  refine MM_of (by decide) rfl (by simp [catV]) (Nat.le_of_ble_eq_true rfl) ?_
  show MW mX1_copy 0 0 0 [(0, vR (A + 27)), (1, vR (B + 27))] [] g d Q
  have hrA := hA.rng
  have hrB := hB.rng
  refine mw_top (fun hT => ?_)
  have h21 := hT.1.2.1
  refine mw_aload_n (v := vR (A + 27)) (pc' := 1) dX1_copy_0 rfl rfl (Or.inl rfl) rfl ?_
  refine mw_getD (v := 28) (pc' := 4) dX1_copy_1 rfl hA (by decide +kernel) fg_RX1_12 ⟨⟨by decide, by decide⟩, by decide, by decide +kernel, by decide +kernel⟩ ?_
  refine mw_aload_n (v := vR (B + 27)) (pc' := 5) dX1_copy_4 rfl rfl (Or.inl rfl) rfl ?_
  refine mw_getD (v := 28) (pc' := 8) dX1_copy_5 rfl hB (by decide +kernel) fg_RX1_12 ⟨⟨by decide, by decide⟩, by decide, by decide +kernel, by decide +kernel⟩ ?_
  refine mw_callV (M' := mX2_copy) (A := [vR (B + 28)]) (A' := [vR (A + 28), vR (B + 28)]) (S := []) (a := A + 28) (pc' := 11) dX1_copy_8 rfl cl_RX1_37 cm_X2_copy cv_X2_copy ⟨by decide, by decide, by decide, by decide, by decide⟩ rfl rfl rfl ⟨by omega, by omega⟩ (by rw [(hA.lk (o := 28) (by decide)).1]; decide +kernel) (by rw [(hA.lk (o := 28) (by decide)).1]; decide +kernel) (Nat.le_of_ble_eq_true rfl) (c_X2p hA hB hap fun e8 k8 => ?_)
  show MW mX1_copy 0 0 11 [(0, vR (A + 27)), (1, vR (B + 27))] [] g e8 Q
  refine mw_aload_n (v := vR (B + 27)) (pc' := 12) dX1_copy_11 rfl rfl (Or.inl rfl) rfl ?_
  refine mw_getD (v := 40) (pc' := 15) dX1_copy_12 rfl hB (by decide +kernel) fg_RX1_18 ⟨⟨by decide, by decide⟩, by decide, by decide +kernel, by decide +kernel⟩ ?_
  refine mw_iconst (pc' := 16) dX1_copy_15 rfl ⟨by decide, by decide⟩ ?_
  refine mw_aload_n (v := vR (A + 27)) (pc' := 17) dX1_copy_16 rfl rfl (Or.inl rfl) rfl ?_
  refine mw_getD (v := 40) (pc' := 20) dX1_copy_17 rfl hA (by decide +kernel) fg_RX1_18 ⟨⟨by decide, by decide⟩, by decide, by decide +kernel, by decide +kernel⟩ ?_
  refine mw_iconst (pc' := 21) dX1_copy_20 rfl ⟨by decide, by decide⟩ ?_
  refine mw_aload_n (v := vR (A + 27)) (pc' := 22) dX1_copy_21 rfl rfl (Or.inl rfl) rfl ?_
  refine mw_getD (v := 40) (pc' := 25) dX1_copy_22 rfl hA (by decide +kernel) fg_RX1_18 ⟨⟨by decide, by decide⟩, by decide, by decide +kernel, by decide +kernel⟩ ?_
  refine mw_alenD (n := 8) (pc' := 26) dX1_copy_25 rfl hA rfl (by decide +kernel) ⟨⟨by decide, by decide⟩, ⟨by decide, by decide⟩, by decide, by decide⟩ ?_
  refine mw_copyD (pc' := 29) dX1_copy_26 rfl bw_693 hA hB rfl (by decide +kernel) ⟨⟨by decide, by decide⟩, ⟨by decide, by decide⟩, by decide⟩ ⟨by decide, by decide⟩ (Nat.le_of_ble_eq_true rfl) ?_
  refine mw_aload_n (v := vR (B + 27)) (pc' := 30) dX1_copy_29 rfl rfl (Or.inl rfl) rfl ?_
  refine mw_getD (v := 41) (pc' := 33) dX1_copy_30 rfl hB (by decide +kernel) fg_RX1_22 ⟨⟨by decide, by decide⟩, by decide, by decide +kernel, by decide +kernel⟩ ?_
  refine mw_iconst (pc' := 34) dX1_copy_33 rfl ⟨by decide, by decide⟩ ?_
  refine mw_aload_n (v := vR (A + 27)) (pc' := 35) dX1_copy_34 rfl rfl (Or.inl rfl) rfl ?_
  refine mw_getD (v := 41) (pc' := 38) dX1_copy_35 rfl hA (by decide +kernel) fg_RX1_22 ⟨⟨by decide, by decide⟩, by decide, by decide +kernel, by decide +kernel⟩ ?_
  refine mw_iconst (pc' := 39) dX1_copy_38 rfl ⟨by decide, by decide⟩ ?_
  refine mw_aload_n (v := vR (A + 27)) (pc' := 40) dX1_copy_39 rfl rfl (Or.inl rfl) rfl ?_
  refine mw_getD (v := 41) (pc' := 43) dX1_copy_40 rfl hA (by decide +kernel) fg_RX1_22 ⟨⟨by decide, by decide⟩, by decide, by decide +kernel, by decide +kernel⟩ ?_
  refine mw_alenD (n := 8) (pc' := 44) dX1_copy_43 rfl hA rfl (by decide +kernel) ⟨⟨by decide, by decide⟩, ⟨by decide, by decide⟩, by decide, by decide⟩ ?_
  refine mw_copyD (pc' := 47) dX1_copy_44 rfl bw_693 hA hB rfl (by decide +kernel) ⟨⟨by decide, by decide⟩, ⟨by decide, by decide⟩, by decide⟩ ⟨by decide, by decide⟩ (Nat.le_of_ble_eq_true rfl) ?_
  refine mw_aload_n (v := vR (B + 27)) (pc' := 48) dX1_copy_47 rfl rfl (Or.inl rfl) rfl ?_
  refine mw_getD (v := 42) (pc' := 51) dX1_copy_48 rfl hB (by decide +kernel) fg_RX1_25 ⟨⟨by decide, by decide⟩, by decide, by decide +kernel, by decide +kernel⟩ ?_
  refine mw_iconst (pc' := 52) dX1_copy_51 rfl ⟨by decide, by decide⟩ ?_
  refine mw_aload_n (v := vR (A + 27)) (pc' := 53) dX1_copy_52 rfl rfl (Or.inl rfl) rfl ?_
  refine mw_getD (v := 42) (pc' := 56) dX1_copy_53 rfl hA (by decide +kernel) fg_RX1_25 ⟨⟨by decide, by decide⟩, by decide, by decide +kernel, by decide +kernel⟩ ?_
  refine mw_iconst (pc' := 57) dX1_copy_56 rfl ⟨by decide, by decide⟩ ?_
  refine mw_aload_n (v := vR (A + 27)) (pc' := 58) dX1_copy_57 rfl rfl (Or.inl rfl) rfl ?_
  refine mw_getD (v := 42) (pc' := 61) dX1_copy_58 rfl hA (by decide +kernel) fg_RX1_25 ⟨⟨by decide, by decide⟩, by decide, by decide +kernel, by decide +kernel⟩ ?_
  refine mw_alenD (n := 20) (pc' := 62) dX1_copy_61 rfl hA rfl (by decide +kernel) ⟨⟨by decide, by decide⟩, ⟨by decide, by decide⟩, by decide, by decide⟩ ?_
  refine mw_copyD (pc' := 65) dX1_copy_62 rfl bw_693 hA hB rfl (by decide +kernel) ⟨⟨by decide, by decide⟩, ⟨by decide, by decide⟩, by decide⟩ ⟨by decide, by decide⟩ (Nat.le_of_ble_eq_true rfl) ?_
  refine mw_aload_n (v := vR (B + 27)) (pc' := 66) dX1_copy_65 rfl rfl (Or.inl rfl) rfl ?_
  refine mw_getD (v := 43) (pc' := 69) dX1_copy_66 rfl hB (by decide +kernel) fg_RX1_28 ⟨⟨by decide, by decide⟩, by decide, by decide +kernel, by decide +kernel⟩ ?_
  refine mw_iconst (pc' := 70) dX1_copy_69 rfl ⟨by decide, by decide⟩ ?_
  refine mw_aload_n (v := vR (A + 27)) (pc' := 71) dX1_copy_70 rfl rfl (Or.inl rfl) rfl ?_
  refine mw_getD (v := 43) (pc' := 74) dX1_copy_71 rfl hA (by decide +kernel) fg_RX1_28 ⟨⟨by decide, by decide⟩, by decide, by decide +kernel, by decide +kernel⟩ ?_
  refine mw_iconst (pc' := 75) dX1_copy_74 rfl ⟨by decide, by decide⟩ ?_
  refine mw_aload_n (v := vR (A + 27)) (pc' := 76) dX1_copy_75 rfl rfl (Or.inl rfl) rfl ?_
  refine mw_getD (v := 43) (pc' := 79) dX1_copy_76 rfl hA (by decide +kernel) fg_RX1_28 ⟨⟨by decide, by decide⟩, by decide, by decide +kernel, by decide +kernel⟩ ?_
  refine mw_alenD (n := 20) (pc' := 80) dX1_copy_79 rfl hA rfl (by decide +kernel) ⟨⟨by decide, by decide⟩, ⟨by decide, by decide⟩, by decide, by decide⟩ ?_
  refine mw_copyD (pc' := 83) dX1_copy_80 rfl bw_693 hA hB rfl (by decide +kernel) ⟨⟨by decide, by decide⟩, ⟨by decide, by decide⟩, by decide⟩ ⟨by decide, by decide⟩ (Nat.le_of_ble_eq_true rfl) ?_
  refine mw_aload_n (v := vR (B + 27)) (pc' := 84) dX1_copy_83 rfl rfl (Or.inl rfl) rfl ?_
  refine mw_getD (v := 44) (pc' := 87) dX1_copy_84 rfl hB (by decide +kernel) fg_RX1_31 ⟨⟨by decide, by decide⟩, by decide, by decide +kernel, by decide +kernel⟩ ?_
  refine mw_iconst (pc' := 88) dX1_copy_87 rfl ⟨by decide, by decide⟩ ?_
  refine mw_aload_n (v := vR (A + 27)) (pc' := 89) dX1_copy_88 rfl rfl (Or.inl rfl) rfl ?_
  refine mw_getD (v := 44) (pc' := 92) dX1_copy_89 rfl hA (by decide +kernel) fg_RX1_31 ⟨⟨by decide, by decide⟩, by decide, by decide +kernel, by decide +kernel⟩ ?_
  refine mw_iconst (pc' := 93) dX1_copy_92 rfl ⟨by decide, by decide⟩ ?_
  refine mw_aload_n (v := vR (A + 27)) (pc' := 94) dX1_copy_93 rfl rfl (Or.inl rfl) rfl ?_
  refine mw_getD (v := 44) (pc' := 97) dX1_copy_94 rfl hA (by decide +kernel) fg_RX1_31 ⟨⟨by decide, by decide⟩, by decide, by decide +kernel, by decide +kernel⟩ ?_
  refine mw_alenD (n := 20) (pc' := 98) dX1_copy_97 rfl hA rfl (by decide +kernel) ⟨⟨by decide, by decide⟩, ⟨by decide, by decide⟩, by decide, by decide⟩ ?_
  refine mw_copyD (pc' := 101) dX1_copy_98 rfl bw_693 hA hB rfl (by decide +kernel) ⟨⟨by decide, by decide⟩, ⟨by decide, by decide⟩, by decide⟩ ⟨by decide, by decide⟩ (Nat.le_of_ble_eq_true rfl) ?_
  refine mw_aload_n (v := vR (B + 27)) (pc' := 102) dX1_copy_101 rfl rfl (Or.inl rfl) rfl ?_
  refine mw_getD (v := 45) (pc' := 105) dX1_copy_102 rfl hB (by decide +kernel) fg_RX1_34 ⟨⟨by decide, by decide⟩, by decide, by decide +kernel, by decide +kernel⟩ ?_
  refine mw_iconst (pc' := 106) dX1_copy_105 rfl ⟨by decide, by decide⟩ ?_
  refine mw_aload_n (v := vR (A + 27)) (pc' := 107) dX1_copy_106 rfl rfl (Or.inl rfl) rfl ?_
  refine mw_getD (v := 45) (pc' := 110) dX1_copy_107 rfl hA (by decide +kernel) fg_RX1_34 ⟨⟨by decide, by decide⟩, by decide, by decide +kernel, by decide +kernel⟩ ?_
  refine mw_iconst (pc' := 111) dX1_copy_110 rfl ⟨by decide, by decide⟩ ?_
  refine mw_aload_n (v := vR (A + 27)) (pc' := 112) dX1_copy_111 rfl rfl (Or.inl rfl) rfl ?_
  refine mw_getD (v := 45) (pc' := 115) dX1_copy_112 rfl hA (by decide +kernel) fg_RX1_34 ⟨⟨by decide, by decide⟩, by decide, by decide +kernel, by decide +kernel⟩ ?_
  refine mw_alenD (n := 20) (pc' := 116) dX1_copy_115 rfl hA rfl (by decide +kernel) ⟨⟨by decide, by decide⟩, ⟨by decide, by decide⟩, by decide, by decide⟩ ?_
  refine mw_copyD (pc' := 119) dX1_copy_116 rfl bw_693 hA hB rfl (by decide +kernel) ⟨⟨by decide, by decide⟩, ⟨by decide, by decide⟩, by decide⟩ ⟨by decide, by decide⟩ (Nat.le_of_ble_eq_true rfl) ?_
  refine mw_aload_n (v := vR (A + 27)) (pc' := 120) dX1_copy_119 rfl rfl (Or.inl rfl) rfl ?_
  refine mw_aload_n (v := vR (B + 27)) (pc' := 121) dX1_copy_120 rfl rfl (Or.inl rfl) rfl ?_
  refine mw_getDI (ji := 7) (pc' := 124) dX1_copy_121 rfl hB (by decide +kernel) fg_RX1_47 rfl ⟨⟨by decide, by decide⟩, by decide, by decide +kernel⟩ ?_
  refine mw_putDI (ji := 7) (pc' := 127) dX1_copy_124 rfl hA (by decide +kernel) fp_RX1_47 rfl ⟨⟨by decide, by decide⟩, by decide, by decide +kernel⟩ ?_
  exact mw_vret (pc' := 0) (S := []) dX1_copy_127 rfl (h _ (CPy.tr (l := 27) (h := 45) (CPy.tr (l := 28) (h := 45) (CPy.tr (l := 28) (h := 44) (CPy.tr (l := 28) (h := 43) (CPy.tr (l := 28) (h := 42) (CPy.tr (l := 28) (h := 41) (CPy.tr (l := 28) (h := 40) k8 (CPy.ar (fun j hj => by have h1 := inC_a hj; have h2 := inC_30 hj; omega)) (by decide) (fun o j q1 q2 hi => by have h1 := inC_e hi; omega) hap) (CPy.ar (fun j hj => by have h1 := inC_a hj; have h2 := inC_30 hj; omega)) (by decide) (fun o j q1 q2 hi => by have h1 := inC_e hi; omega) hap) (CPy.ar (fun j hj => by have h1 := inC_a hj; have h2 := inC_30 hj; omega)) (by decide) (fun o j q1 q2 hi => by have h1 := inC_e hi; omega) hap) (CPy.ar (fun j hj => by have h1 := inC_a hj; have h2 := inC_30 hj; omega)) (by decide) (fun o j q1 q2 hi => by have h1 := inC_e hi; omega) hap) (CPy.ar (fun j hj => by have h1 := inC_a hj; have h2 := inC_30 hj; omega)) (by decide) (fun o j q1 q2 hi => by have h1 := inC_e hi; omega) hap) (CPy.ar (fun j hj => by have h1 := inC_a hj; have h2 := inC_30 hj; omega)) (by decide) (fun o j q1 q2 hi => by have h1 := inC_e hi; omega) hap) (CPy.pt (fun j hj => by have h1 := inC_e hj; omega)) (by decide) (fun o j q1 q2 hi => by have h1 := inC_e hi; omega) hap))
theorem c_X3 {A B : Int} {g : mG} {d : mD} {Q : mQ} (hA : DKd g A) (hB : DKd g B) (hap : A + 46 ≤ B ∨ B + 46 ≤ A) (h : ∀ d', CPy A B 0 45 d d' → Q (.inl 0) g d') : MM mX3_copy [vR (A + 0), vR (B + 0)] g d Q := by
  refine MM_of (by decide) rfl (by simp [catV]) (Nat.le_of_ble_eq_true rfl) ?_
  show MW mX3_copy 0 0 0 [(0, vR (A + 0)), (1, vR (B + 0))] [] g d Q
  have hrA := hA.rng
  have hrB := hB.rng
  refine mw_top (fun hT => ?_)
  have h21 := hT.1.2.1
  refine mw_aload_n (v := vR (A + 0)) (pc' := 1) dX3_copy_0 rfl rfl (Or.inl rfl) rfl ?_
  refine mw_getD (v := 1) (pc' := 4) dX3_copy_1 rfl hA (by decide +kernel) fg_RX3_10 ⟨⟨by decide, by decide⟩, by decide, by decide +kernel, by decide +kernel⟩ ?_
  refine mw_aload_n (v := vR (B + 0)) (pc' := 5) dX3_copy_4 rfl rfl (Or.inl rfl) rfl ?_
  refine mw_getD (v := 1) (pc' := 8) dX3_copy_5 rfl hB (by decide +kernel) fg_RX3_10 ⟨⟨by decide, by decide⟩, by decide, by decide +kernel, by decide +kernel⟩ ?_
  refine mw_callV (M' := mX5_copy) (A := [vR (B + 1)]) (A' := [vR (A + 1), vR (B + 1)]) (S := []) (a := A + 1) (pc' := 11) dX3_copy_8 rfl cl_RX3_51 cm_X5_copy cv_X5_copy ⟨by decide, by decide, by decide, by decide, by decide⟩ rfl rfl rfl ⟨by omega, by omega⟩ (by rw [(hA.lk (o := 1) (by decide)).1]; decide +kernel) (by rw [(hA.lk (o := 1) (by decide)).1]; decide +kernel) (Nat.le_of_ble_eq_true rfl) (c_X5 hA hB hap fun e8 k8 => ?_)
  show MW mX3_copy 0 0 11 [(0, vR (A + 0)), (1, vR (B + 0))] [] g e8 Q
  refine mw_aload_n (v := vR (A + 0)) (pc' := 12) dX3_copy_11 rfl rfl (Or.inl rfl) rfl ?_
  refine mw_getD (v := 4) (pc' := 15) dX3_copy_12 rfl hA (by decide +kernel) fg_RX3_19 ⟨⟨by decide, by decide⟩, by decide, by decide +kernel, by decide +kernel⟩ ?_
  refine mw_aload_n (v := vR (B + 0)) (pc' := 16) dX3_copy_15 rfl rfl (Or.inl rfl) rfl ?_
  refine mw_getD (v := 4) (pc' := 19) dX3_copy_16 rfl hB (by decide +kernel) fg_RX3_19 ⟨⟨by decide, by decide⟩, by decide, by decide +kernel, by decide +kernel⟩ ?_
  refine mw_callV (M' := mX0_copy) (A := [vR (B + 4)]) (A' := [vR (A + 4), vR (B + 4)]) (S := []) (a := A + 4) (pc' := 22) dX3_copy_19 rfl cl_RX3_55 cm_X0_copy cv_X0_copy ⟨by decide, by decide, by decide, by decide, by decide⟩ rfl rfl rfl ⟨by omega, by omega⟩ (by rw [(hA.lk (o := 4) (by decide)).1]; decide +kernel) (by rw [(hA.lk (o := 4) (by decide)).1]; decide +kernel) (Nat.le_of_ble_eq_true rfl) (c_X0 hA hB hap fun e19 k19 => ?_)
  show MW mX3_copy 0 0 22 [(0, vR (A + 0)), (1, vR (B + 0))] [] g e19 Q
  refine mw_aload_n (v := vR (A + 0)) (pc' := 23) dX3_copy_22 rfl rfl (Or.inl rfl) rfl ?_
  refine mw_getD (v := 6) (pc' := 26) dX3_copy_23 rfl hA (by decide +kernel) fg_RX3_26 ⟨⟨by decide, by decide⟩, by decide, by decide +kernel, by decide +kernel⟩ ?_
  refine mw_aload_n (v := vR (B + 0)) (pc' := 27) dX3_copy_26 rfl rfl (Or.inl rfl) rfl ?_
  refine mw_getD (v := 6) (pc' := 30) dX3_copy_27 rfl hB (by decide +kernel) fg_RX3_26 ⟨⟨by decide, by decide⟩, by decide, by decide +kernel, by decide +kernel⟩ ?_
  refine mw_callV (M' := mX7_copy) (A := [vR (B + 6)]) (A' := [vR (A + 6), vR (B + 6)]) (S := []) (a := A + 6) (pc' := 33) dX3_copy_30 rfl cl_RX3_58 cm_X7_copy cv_X7_copy ⟨by decide, by decide, by decide, by decide, by decide⟩ rfl rfl rfl ⟨by omega, by omega⟩ (by rw [(hA.lk (o := 6) (by decide)).1]; decide +kernel) (by rw [(hA.lk (o := 6) (by decide)).1]; decide +kernel) (Nat.le_of_ble_eq_true rfl) (c_X7 hA hB hap fun e30 k30 => ?_)
  show MW mX3_copy 0 0 33 [(0, vR (A + 0)), (1, vR (B + 0))] [] g e30 Q
  refine mw_aload_n (v := vR (A + 0)) (pc' := 34) dX3_copy_33 rfl rfl (Or.inl rfl) rfl ?_
  refine mw_getD (v := 10) (pc' := 37) dX3_copy_34 rfl hA (by decide +kernel) fg_RX3_33 ⟨⟨by decide, by decide⟩, by decide, by decide +kernel, by decide +kernel⟩ ?_
  refine mw_aload_n (v := vR (B + 0)) (pc' := 38) dX3_copy_37 rfl rfl (Or.inl rfl) rfl ?_
  refine mw_getD (v := 10) (pc' := 41) dX3_copy_38 rfl hB (by decide +kernel) fg_RX3_33 ⟨⟨by decide, by decide⟩, by decide, by decide +kernel, by decide +kernel⟩ ?_
  refine mw_callV (M' := mX2_copy) (A := [vR (B + 10)]) (A' := [vR (A + 10), vR (B + 10)]) (S := []) (a := A + 10) (pc' := 44) dX3_copy_41 rfl cl_RX3_61 cm_X2_copy cv_X2_copy ⟨by decide, by decide, by decide, by decide, by decide⟩ rfl rfl rfl ⟨by omega, by omega⟩ (by rw [(hA.lk (o := 10) (by decide)).1]; decide +kernel) (by rw [(hA.lk (o := 10) (by decide)).1]; decide +kernel) (Nat.le_of_ble_eq_true rfl) (c_X2d hA hB hap fun e41 k41 => ?_)
  show MW mX3_copy 0 0 44 [(0, vR (A + 0)), (1, vR (B + 0))] [] g e41 Q
  refine mw_aload_n (v := vR (A + 0)) (pc' := 45) dX3_copy_44 rfl rfl (Or.inl rfl) rfl ?_
  refine mw_getD (v := 22) (pc' := 48) dX3_copy_45 rfl hA (by decide +kernel) fg_RX3_40 ⟨⟨by decide, by decide⟩, by decide, by decide +kernel, by decide +kernel⟩ ?_
  refine mw_aload_n (v := vR (B + 0)) (pc' := 49) dX3_copy_48 rfl rfl (Or.inl rfl) rfl ?_
  refine mw_getD (v := 22) (pc' := 52) dX3_copy_49 rfl hB (by decide +kernel) fg_RX3_40 ⟨⟨by decide, by decide⟩, by decide, by decide +kernel, by decide +kernel⟩ ?_
  refine mw_callV (M' := mX8_copy) (A := [vR (B + 22)]) (A' := [vR (A + 22), vR (B + 22)]) (S := []) (a := A + 22) (pc' := 55) dX3_copy_52 rfl cl_RX3_64 cm_X8_copy cv_X8_copy ⟨by decide, by decide, by decide, by decide, by decide⟩ rfl rfl rfl ⟨by omega, by omega⟩ (by rw [(hA.lk (o := 22) (by decide)).1]; decide +kernel) (by rw [(hA.lk (o := 22) (by decide)).1]; decide +kernel) (Nat.le_of_ble_eq_true rfl) (c_X8 hA hB hap fun e52 k52 => ?_)
  show MW mX3_copy 0 0 55 [(0, vR (A + 0)), (1, vR (B + 0))] [] g e52 Q
  refine mw_aload_n (v := vR (A + 0)) (pc' := 56) dX3_copy_55 rfl rfl (Or.inl rfl) rfl ?_
  refine mw_getD (v := 27) (pc' := 59) dX3_copy_56 rfl hA (by decide +kernel) fg_RX3_47 ⟨⟨by decide, by decide⟩, by decide, by decide +kernel, by decide +kernel⟩ ?_
  refine mw_aload_n (v := vR (B + 0)) (pc' := 60) dX3_copy_59 rfl rfl (Or.inl rfl) rfl ?_
  refine mw_getD (v := 27) (pc' := 63) dX3_copy_60 rfl hB (by decide +kernel) fg_RX3_47 ⟨⟨by decide, by decide⟩, by decide, by decide +kernel, by decide +kernel⟩ ?_
  refine mw_callV (M' := mX1_copy) (A := [vR (B + 27)]) (A' := [vR (A + 27), vR (B + 27)]) (S := []) (a := A + 27) (pc' := 66) dX3_copy_63 rfl cl_RX3_67 cm_X1_copy cv_X1_copy ⟨by decide, by decide, by decide, by decide, by decide⟩ rfl rfl rfl ⟨by omega, by omega⟩ (by rw [(hA.lk (o := 27) (by decide)).1]; decide +kernel) (by rw [(hA.lk (o := 27) (by decide)).1]; decide +kernel) (Nat.le_of_ble_eq_true rfl) (c_X1 hA hB hap fun e63 k63 => ?_)
  show MW mX3_copy 0 0 66 [(0, vR (A + 0)), (1, vR (B + 0))] [] g e63 Q
  exact mw_vret (pc' := 0) (S := []) dX3_copy_66 rfl (h _ (CPy.ex (CPy.tr (l := 1) (h := 45) (CPy.tr (l := 1) (h := 26) (CPy.tr (l := 1) (h := 21) (CPy.tr (l := 1) (h := 9) (CPy.tr (l := 1) (h := 5) k8 k19 (by decide) (fun o j q1 q2 hi => by have h1 := inC_e hi; omega) hap) k30 (by decide) (fun o j q1 q2 hi => by have h1 := inC_e hi; omega) hap) k41 (by decide) (fun o j q1 q2 hi => by have h1 := inC_e hi; omega) hap) k52 (by decide) (fun o j q1 q2 hi => by have h1 := inC_e hi; omega) hap) k63 (by decide) (fun o j q1 q2 hi => by have h1 := inC_e hi; omega) hap) (by decide) (fun o j q1 q2 hi => by have h1 := inC_e hi; omega)))
