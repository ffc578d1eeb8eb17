-- the other constructors, at their places
theorem i_X9b {n1 : Int} {r : mR} {d : mD} {Q : mQ} (hn : n1 ≤ 0) (h : ∀ r', NR 0 [(1, 0, 2)] r r' → Q (.inl 0) (n1, 3, r') d) : MM mX9_init [vR 1] (n1, 2, r) d Q := by
  refine MM_of (by decide) rfl (by simp [catV]) (Nat.le_of_ble_eq_true rfl) ?_
  show MW mX9_init 1 215 0 [(0, vR 1)] [] (n1, 2, r) d Q
  refine mw_aload_n (v := vR 1) (pc' := 1) dX9_init_0 rfl rfl (Or.inl rfl) rfl ?_
  refine mw_objinit (pc' := 4) dX9_init_1 rfl (goodW 41 (by decide +kernel) rfl) oi_na.1 oi_na.2 (by decide) (by decide) (by decide) (Nat.le_of_ble_eq_true rfl) ?_
  refine mw_aload_n (v := vR 1) (pc' := 5) dX9_init_4 rfl rfl (Or.inl rfl) rfl ?_
  refine mw_bipush (pc' := 7) dX9_init_5 rfl ⟨by decide, by decide⟩ ?_
  refine mw_newCO (a' := 3) (pc' := 9) dX9_init_7 rfl (by decide +kernel) (by decide +kernel) ⟨⟨by decide, by decide⟩, by decide, by decide⟩ ⟨by decide, by decide⟩ ?_
  show MW mX9_init 0 155 9 [(0, vR 1)] [vR 2, vR 1] (n1, 3, r) d Q
  refine mw_putO (ji := 0) (pc' := 12) dX9_init_9 rfl (by decide +kernel) fp_RX9_9 rfl (Or.inr ⟨_, rfl⟩) rfl (fun C T N e => by cases e; exact bw_42) ⟨by decide, by decide +kernel, by decide +kernel⟩ ⟨⟨by decide, by decide⟩, by decide, by omega⟩ ?_
  have K1 : NR 0 [(1, 0, 2)] r (ur r 1 0 2) := NR.o0
  generalize (ur r 1 0 2) = r1 at K1 ⊢
  exact mw_vret (pc' := 0) (S := []) dX9_init_12 rfl (h _ K1)
theorem i_X9l {n1 : Int} {r : mR} {d : mD} {Q : mQ} (hn : n1 ≤ 0) (h : ∀ r', NR 0 [(3, 0, 4)] r r' → Q (.inl 0) (n1, 5, r') d) : MM mX9_init [vR 3] (n1, 4, r) d Q := by
  refine MM_of (by decide) rfl (by simp [catV]) (Nat.le_of_ble_eq_true rfl) ?_
  show MW mX9_init 1 215 0 [(0, vR 3)] [] (n1, 4, r) d Q
  refine mw_aload_n (v := vR 3) (pc' := 1) dX9_init_0 rfl rfl (Or.inl rfl) rfl ?_
  refine mw_objinit (pc' := 4) dX9_init_1 rfl (goodW 41 (by decide +kernel) rfl) oi_na.1 oi_na.2 (by decide) (by decide) (by decide) (Nat.le_of_ble_eq_true rfl) ?_
  refine mw_aload_n (v := vR 3) (pc' := 5) dX9_init_4 rfl rfl (Or.inl rfl) rfl ?_
  refine mw_bipush (pc' := 7) dX9_init_5 rfl ⟨by decide, by decide⟩ ?_
  refine mw_newCO (a' := 5) (pc' := 9) dX9_init_7 rfl (by decide +kernel) (by decide +kernel) ⟨⟨by decide, by decide⟩, by decide, by decide⟩ ⟨by decide, by decide⟩ ?_
  show MW mX9_init 0 155 9 [(0, vR 3)] [vR 4, vR 3] (n1, 5, r) d Q
  refine mw_putO (ji := 0) (pc' := 12) dX9_init_9 rfl (by decide +kernel) fp_RX9_9 rfl (Or.inr ⟨_, rfl⟩) rfl (fun C T N e => by cases e; exact bw_42) ⟨by decide, by decide +kernel, by decide +kernel⟩ ⟨⟨by decide, by decide⟩, by decide, by omega⟩ ?_
  have K1 : NR 0 [(3, 0, 4)] r (ur r 3 0 4) := NR.o0
  generalize (ur r 3 0 4) = r1 at K1 ⊢
  exact mw_vret (pc' := 0) (S := []) dX9_init_12 rfl (h _ K1)
theorem i_X10 {n1 : Int} {r : mR} {d : mD} {Q : mQ} (hn : n1 ≤ 0) (h : ∀ r', NR 0 [(53, 2, 54), (53, 3, 55), (53, 0, 10), (53, 1, 28)] r r' → Q (.inl 0) (n1, 56, r') d) : MM mX10_init [vR 53, vR 10, vR 28] (n1, 54, r) d Q := by
  refine MM_of (by decide) rfl (by simp [catV]) (Nat.le_of_ble_eq_true rfl) ?_
  show MW mX10_init 2 430 0 [(0, vR 53), (1, vR 10), (2, vR 28)] [] (n1, 54, r) d Q
  refine mw_aload_n (v := vR 53) (pc' := 1) dX10_init_0 rfl rfl (Or.inl rfl) rfl ?_
  refine mw_objinit (pc' := 4) dX10_init_1 rfl (goodW 278 (by decide +kernel) rfl) oi_na.1 oi_na.2 (by decide) (by decide) (by decide) (Nat.le_of_ble_eq_true rfl) ?_
  refine mw_aload_n (v := vR 53) (pc' := 5) dX10_init_4 rfl rfl (Or.inl rfl) rfl ?_
  refine mw_bipush (pc' := 7) dX10_init_5 rfl ⟨by decide, by decide⟩ ?_
  refine mw_newIO (a' := 55) (pc' := 9) dX10_init_7 rfl (by decide +kernel) (by decide +kernel) ⟨⟨by decide, by decide⟩, by decide, by decide⟩ ⟨by decide, by decide⟩ ?_
  show MW mX10_init 1 418 9 [(0, vR 53), (1, vR 10), (2, vR 28)] [vR 54, vR 53] (n1, 55, r) d Q
  refine mw_putO (ji := 2) (pc' := 12) dX10_init_9 rfl (by decide +kernel) fp_RX10_9 rfl (Or.inr ⟨_, rfl⟩) rfl (fun C T N e => by cases e; exact bw_281) ⟨by decide, by decide +kernel, by decide +kernel⟩ ⟨⟨by decide, by decide⟩, by decide, by omega⟩ ?_
  have K1 : NR 0 [(53, 2, 54)] r (ur r 53 2 54) := NR.o0
  generalize (ur r 53 2 54) = r1 at K1 ⊢
  refine mw_aload_n (v := vR 53) (pc' := 13) dX10_init_12 rfl rfl (Or.inl rfl) rfl ?_
  refine mw_bipush (pc' := 15) dX10_init_13 rfl ⟨by decide, by decide⟩ ?_
  refine mw_newIO (a' := 56) (pc' := 17) dX10_init_15 rfl (by decide +kernel) (by decide +kernel) ⟨⟨by decide, by decide⟩, by decide, by decide⟩ ⟨by decide, by decide⟩ ?_
  show MW mX10_init 0 406 17 [(0, vR 53), (1, vR 10), (2, vR 28)] [vR 55, vR 53] (n1, 56, r1) d Q
  refine mw_putO (ji := 3) (pc' := 20) dX10_init_17 rfl (by decide +kernel) fp_RX10_15 rfl (Or.inr ⟨_, rfl⟩) rfl (fun C T N e => by cases e; exact bw_282) ⟨by decide, by decide +kernel, by decide +kernel⟩ ⟨⟨by decide, by decide⟩, by decide, by omega⟩ ?_
  have K2 : NR 0 [(53, 2, 54), (53, 3, 55)] r (ur r1 53 3 55) := NR.tr K1 NR.o0 (by decide +kernel)
  generalize (ur r1 53 3 55) = r2 at K2 ⊢
  refine mw_aload_n (v := vR 53) (pc' := 21) dX10_init_20 rfl rfl (Or.inl rfl) rfl ?_
  refine mw_aload_n (v := vR 10) (pc' := 22) dX10_init_21 rfl rfl (Or.inl rfl) rfl ?_
  refine mw_putO (ji := 0) (pc' := 25) dX10_init_22 rfl (by decide +kernel) fp_RX10_18 rfl (Or.inl ⟨_, rfl⟩) rfl (fun C T N e => by cases e; exact bw_279) ⟨by decide, by decide +kernel, by decide +kernel⟩ ⟨⟨by decide, by decide⟩, by decide, by omega⟩ ?_
  have K3 : NR 0 [(53, 2, 54), (53, 3, 55), (53, 0, 10)] r (ur r2 53 0 10) := NR.tr K2 NR.o0 (by decide +kernel)
  generalize (ur r2 53 0 10) = r3 at K3 ⊢
  refine mw_aload_n (v := vR 53) (pc' := 26) dX10_init_25 rfl rfl (Or.inl rfl) rfl ?_
  refine mw_aload_n (v := vR 28) (pc' := 27) dX10_init_26 rfl rfl (Or.inl rfl) rfl ?_
  refine mw_putO (ji := 1) (pc' := 30) dX10_init_27 rfl (by decide +kernel) fp_RX10_22 rfl (Or.inl ⟨_, rfl⟩) rfl (fun C T N e => by cases e; exact bw_280) ⟨by decide, by decide +kernel, by decide +kernel⟩ ⟨⟨by decide, by decide⟩, by decide, by omega⟩ ?_
  have K4 : NR 0 [(53, 2, 54), (53, 3, 55), (53, 0, 10), (53, 1, 28)] r (ur r3 53 1 28) := NR.tr K3 NR.o0 (by decide +kernel)
  generalize (ur r3 53 1 28) = r4 at K4 ⊢
  exact mw_vret (pc' := 0) (S := []) dX10_init_30 rfl (h _ K4)
theorem i_X4 {n1 : Int} {r : mR} {d : mD} {Q : mQ} (hn : n1 ≤ 0) (h : ∀ r', NR 0 [(56, 2, 57), (56, 3, 58), (56, 0, 10), (56, 1, 28)] r r' → Q (.inl 0) (n1, 59, r') d) : MM mX4_init [vR 56, vR 10, vR 28] (n1, 57, r) d Q := by
  refine MM_of (by decide) rfl (by simp [catV]) (Nat.le_of_ble_eq_true rfl) ?_
  show MW mX4_init 2 430 0 [(0, vR 56), (1, vR 10), (2, vR 28)] [] (n1, 57, r) d Q
  refine mw_aload_n (v := vR 56) (pc' := 1) dX4_init_0 rfl rfl (Or.inl rfl) rfl ?_
  refine mw_objinit (pc' := 4) dX4_init_1 rfl (goodW 300 (by decide +kernel) rfl) oi_na.1 oi_na.2 (by decide) (by decide) (by decide) (Nat.le_of_ble_eq_true rfl) ?_
  refine mw_aload_n (v := vR 56) (pc' := 5) dX4_init_4 rfl rfl (Or.inl rfl) rfl ?_
  refine mw_bipush (pc' := 7) dX4_init_5 rfl ⟨by decide, by decide⟩ ?_
  refine mw_newJO (a' := 58) (pc' := 9) dX4_init_7 rfl (by decide +kernel) (by decide +kernel) ⟨⟨by decide, by decide⟩, by decide, by decide⟩ ⟨by decide, by decide⟩ ?_
  show MW mX4_init 1 351 9 [(0, vR 56), (1, vR 10), (2, vR 28)] [vR 57, vR 56] (n1, 58, r) d Q
  refine mw_putO (ji := 2) (pc' := 12) dX4_init_9 rfl (by decide +kernel) fp_RX4_11 rfl (Or.inr ⟨_, rfl⟩) rfl (fun C T N e => by cases e; exact bw_303) ⟨by decide, by decide +kernel, by decide +kernel⟩ ⟨⟨by decide, by decide⟩, by decide, by omega⟩ ?_
  have K1 : NR 0 [(56, 2, 57)] r (ur r 56 2 57) := NR.o0
  generalize (ur r 56 2 57) = r1 at K1 ⊢
  refine mw_aload_n (v := vR 56) (pc' := 13) dX4_init_12 rfl rfl (Or.inl rfl) rfl ?_
  refine mw_bipush (pc' := 15) dX4_init_13 rfl ⟨by decide, by decide⟩ ?_
  refine mw_newJO (a' := 59) (pc' := 17) dX4_init_15 rfl (by decide +kernel) (by decide +kernel) ⟨⟨by decide, by decide⟩, by decide, by decide⟩ ⟨by decide, by decide⟩ ?_
  show MW mX4_init 0 272 17 [(0, vR 56), (1, vR 10), (2, vR 28)] [vR 58, vR 56] (n1, 59, r1) d Q
  refine mw_putO (ji := 3) (pc' := 20) dX4_init_17 rfl (by decide +kernel) fp_RX4_15 rfl (Or.inr ⟨_, rfl⟩) rfl (fun C T N e => by cases e; exact bw_304) ⟨by decide, by decide +kernel, by decide +kernel⟩ ⟨⟨by decide, by decide⟩, by decide, by omega⟩ ?_
  have K2 : NR 0 [(56, 2, 57), (56, 3, 58)] r (ur r1 56 3 58) := NR.tr K1 NR.o0 (by decide +kernel)
  generalize (ur r1 56 3 58) = r2 at K2 ⊢
  refine mw_aload_n (v := vR 56) (pc' := 21) dX4_init_20 rfl rfl (Or.inl rfl) rfl ?_
  refine mw_aload_n (v := vR 10) (pc' := 22) dX4_init_21 rfl rfl (Or.inl rfl) rfl ?_
  refine mw_putO (ji := 0) (pc' := 25) dX4_init_22 rfl (by decide +kernel) fp_RX4_18 rfl (Or.inl ⟨_, rfl⟩) rfl (fun C T N e => by cases e; exact bw_301) ⟨by decide, by decide +kernel, by decide +kernel⟩ ⟨⟨by decide, by decide⟩, by decide, by omega⟩ ?_
  have K3 : NR 0 [(56, 2, 57), (56, 3, 58), (56, 0, 10)] r (ur r2 56 0 10) := NR.tr K2 NR.o0 (by decide +kernel)
  generalize (ur r2 56 0 10) = r3 at K3 ⊢
  refine mw_aload_n (v := vR 56) (pc' := 26) dX4_init_25 rfl rfl (Or.inl rfl) rfl ?_
  refine mw_aload_n (v := vR 28) (pc' := 27) dX4_init_26 rfl rfl (Or.inl rfl) rfl ?_
  refine mw_putO (ji := 1) (pc' := 30) dX4_init_27 rfl (by decide +kernel) fp_RX4_22 rfl (Or.inl ⟨_, rfl⟩) rfl (fun C T N e => by cases e; exact bw_302) ⟨by decide, by decide +kernel, by decide +kernel⟩ ⟨⟨by decide, by decide⟩, by decide, by omega⟩ ?_
  have K4 : NR 0 [(56, 2, 57), (56, 3, 58), (56, 0, 10), (56, 1, 28)] r (ur r3 56 1 28) := NR.tr K3 NR.o0 (by decide +kernel)
  generalize (ur r3 56 1 28) = r4 at K4 ⊢
  exact mw_vret (pc' := 0) (S := []) dX4_init_30 rfl (h _ K4)
theorem i_X6 {n1 : Int} {r : mR} {d : mD} {Q : mQ} (hn : n1 ≤ 0) (h : ∀ r', NR 0 [(60, 0, 61), (60, 1, 62), (60, 2, 63), (60, 3, 64)] r r' → Q (.inl 0) (n1, 65, r') d) : MM mX6_init [vR 60] (n1, 61, r) d Q := by
  refine MM_of (by decide) rfl (by simp [catV]) (Nat.le_of_ble_eq_true rfl) ?_
  show MW mX6_init 4 860 0 [(0, vR 60)] [] (n1, 61, r) d Q
  refine mw_aload_n (v := vR 60) (pc' := 1) dX6_init_0 rfl rfl (Or.inl rfl) rfl ?_
  refine mw_objinit (pc' := 4) dX6_init_1 rfl (goodW 326 (by decide +kernel) rfl) oi_na.1 oi_na.2 (by decide) (by decide) (by decide) (Nat.le_of_ble_eq_true rfl) ?_
  refine mw_aload_n (v := vR 60) (pc' := 5) dX6_init_4 rfl rfl (Or.inl rfl) rfl ?_
  refine mw_bipush (pc' := 7) dX6_init_5 rfl ⟨by decide, by decide⟩ ?_
  refine mw_newIO (a' := 62) (pc' := 9) dX6_init_7 rfl (by decide +kernel) (by decide +kernel) ⟨⟨by decide, by decide⟩, by decide, by decide⟩ ⟨by decide, by decide⟩ ?_
  show MW mX6_init 3 844 9 [(0, vR 60)] [vR 61, vR 60] (n1, 62, r) d Q
  refine mw_putO (ji := 0) (pc' := 12) dX6_init_9 rfl (by decide +kernel) fp_RX6_9 rfl (Or.inr ⟨_, rfl⟩) rfl (fun C T N e => by cases e; exact bw_327) ⟨by decide, by decide +kernel, by decide +kernel⟩ ⟨⟨by decide, by decide⟩, by decide, by omega⟩ ?_
  have K1 : NR 0 [(60, 0, 61)] r (ur r 60 0 61) := NR.o0
  generalize (ur r 60 0 61) = r1 at K1 ⊢
  refine mw_aload_n (v := vR 60) (pc' := 13) dX6_init_12 rfl rfl (Or.inl rfl) rfl ?_
  refine mw_bipush (pc' := 15) dX6_init_13 rfl ⟨by decide, by decide⟩ ?_
  refine mw_newIO (a' := 63) (pc' := 17) dX6_init_15 rfl (by decide +kernel) (by decide +kernel) ⟨⟨by decide, by decide⟩, by decide, by decide⟩ ⟨by decide, by decide⟩ ?_
  show MW mX6_init 2 828 17 [(0, vR 60)] [vR 62, vR 60] (n1, 63, r1) d Q
  refine mw_putO (ji := 1) (pc' := 20) dX6_init_17 rfl (by decide +kernel) fp_RX6_15 rfl (Or.inr ⟨_, rfl⟩) rfl (fun C T N e => by cases e; exact bw_329) ⟨by decide, by decide +kernel, by decide +kernel⟩ ⟨⟨by decide, by decide⟩, by decide, by omega⟩ ?_
  have K2 : NR 0 [(60, 0, 61), (60, 1, 62)] r (ur r1 60 1 62) := NR.tr K1 NR.o0 (by decide +kernel)
  generalize (ur r1 60 1 62) = r2 at K2 ⊢
  refine mw_aload_n (v := vR 60) (pc' := 21) dX6_init_20 rfl rfl (Or.inl rfl) rfl ?_
  refine mw_bipush (pc' := 23) dX6_init_21 rfl ⟨by decide, by decide⟩ ?_
  refine mw_newIO (a' := 64) (pc' := 25) dX6_init_23 rfl (by decide +kernel) (by decide +kernel) ⟨⟨by decide, by decide⟩, by decide, by decide⟩ ⟨by decide, by decide⟩ ?_
  show MW mX6_init 1 812 25 [(0, vR 60)] [vR 63, vR 60] (n1, 64, r2) d Q
  refine mw_putO (ji := 2) (pc' := 28) dX6_init_25 rfl (by decide +kernel) fp_RX6_18 rfl (Or.inr ⟨_, rfl⟩) rfl (fun C T N e => by cases e; exact bw_331) ⟨by decide, by decide +kernel, by decide +kernel⟩ ⟨⟨by decide, by decide⟩, by decide, by omega⟩ ?_
  have K3 : NR 0 [(60, 0, 61), (60, 1, 62), (60, 2, 63)] r (ur r2 60 2 63) := NR.tr K2 NR.o0 (by decide +kernel)
  generalize (ur r2 60 2 63) = r3 at K3 ⊢
  refine mw_aload_n (v := vR 60) (pc' := 29) dX6_init_28 rfl rfl (Or.inl rfl) rfl ?_
  refine mw_bipush (pc' := 31) dX6_init_29 rfl ⟨by decide, by decide⟩ ?_
  refine mw_newCO (a' := 65) (pc' := 33) dX6_init_31 rfl (by decide +kernel) (by decide +kernel) ⟨⟨by decide, by decide⟩, by decide, by decide⟩ ⟨by decide, by decide⟩ ?_
  show MW mX6_init 0 796 33 [(0, vR 60)] [vR 64, vR 60] (n1, 65, r3) d Q
  refine mw_putO (ji := 3) (pc' := 36) dX6_init_33 rfl (by decide +kernel) fp_RX6_21 rfl (Or.inr ⟨_, rfl⟩) rfl (fun C T N e => by cases e; exact bw_333) ⟨by decide, by decide +kernel, by decide +kernel⟩ ⟨⟨by decide, by decide⟩, by decide, by omega⟩ ?_
  have K4 : NR 0 [(60, 0, 61), (60, 1, 62), (60, 2, 63), (60, 3, 64)] r (ur r3 60 3 64) := NR.tr K3 NR.o0 (by decide +kernel)
  generalize (ur r3 60 3 64) = r4 at K4 ⊢
  exact mw_vret (pc' := 0) (S := []) dX6_init_36 rfl (h _ K4)
theorem i_X11 {n1 : Int} {r : mR} {d : mD} {Q : mQ} (hn : n1 ≤ 0) (h : ∀ r', NR 0 [(1, 0, 2), (0, 0, 1), (3, 0, 4), (0, 1, 3), (0, 2, 5), (7, 0, 8), (7, 1, 9), (6, 0, 7), (10, 1, 11), (6, 1, 10), (12, 0, 13), (12, 1, 14), (12, 2, 15), (6, 2, 12), (16, 0, 17), (16, 1, 18), (16, 2, 19), (16, 3, 20), (16, 4, 21), (16, 5, 22), (16, 6, 23), (16, 7, 24), (16, 8, 25), (16, 9, 26), (16, 10, 27), (6, 3, 16), (28, 0, 29), (28, 1, 30), (28, 2, 31), (28, 3, 32), (6, 4, 28), (34, 0, 35), (34, 1, 36), (34, 2, 37), (34, 3, 38), (34, 4, 39), (34, 5, 40), (34, 6, 41), (34, 7, 42), (34, 8, 43), (34, 9, 44), (34, 10, 45), (33, 0, 34), (33, 1, 46), (33, 2, 47), (33, 3, 48), (33, 4, 49), (33, 5, 50), (33, 6, 51), (6, 5, 33), (0, 3, 6), (0, 4, 52), (53, 2, 54), (53, 3, 55), (53, 0, 10), (53, 1, 28), (0, 7, 53), (56, 2, 57), (56, 3, 58), (56, 0, 10), (56, 1, 28), (0, 8, 56), (0, 9, 59), (60, 0, 61), (60, 1, 62), (60, 2, 63), (60, 3, 64), (0, 10, 60)] r r' → ∀ d', (∀ b j : Int, ¬ (13 ≤ b ∧ b ≤ 15) → d' b j = d b j) → ((∀ j, 0 ≤ j → j < 8 → d' 13 j = 10 + 10 * j ∧ d' 14 j = j % 2) ∧ d' 15 0 = 0 ∧ d' 15 1 = 1 ∧ d' 15 2 = 3 ∧ d' 15 3 = 14) → Q (.inl 0) (n1, 65, r') (ud (ud d' 0 11 (-1)) 0 12 (-1))) : MM mX11_init [vR 0] (n1, 1, r) d Q := by
  refine MM_of (by decide) rfl (by simp [catV]) (Nat.le_of_ble_eq_true rfl) ?_
  show MW mX11_init 64 11038 0 [(0, vR 0)] [] (n1, 1, r) d Q
  refine mw_aload_n (v := vR 0) (pc' := 1) dX11_init_0 rfl rfl (Or.inl rfl) rfl ?_
  refine mw_objinit (pc' := 4) dX11_init_1 rfl (goodW 33 (by decide +kernel) rfl) oi_na.1 oi_na.2 (by decide) (by decide) (by decide) (Nat.le_of_ble_eq_true rfl) ?_
  refine mw_aload_n (v := vR 0) (pc' := 5) dX11_init_4 rfl rfl (Or.inl rfl) rfl ?_
  refine mw_newO (a' := 2) (pc' := 8) dX11_init_5 rfl fn_RX11_9 (by decide +kernel) ⟨by decide, by decide, by decide⟩ ⟨by decide, by decide⟩ ?_
  show MW mX11_init 63 11036 8 [(0, vR 0)] [vR 1, vR 0] (n1, 2, r) d Q
  refine mw_dup (pc' := 9) dX11_init_8 rfl rfl ?_
  refine mw_callI (M' := mX9_init) (A := []) (A' := [vR 1]) (S := [vR 1, vR 0]) (a := 1) (pc' := 12) dX11_init_9 rfl cl_RX11_11 cm_X9_init ci_X9_init rfl rfl ⟨by decide, by decide, by decide, by decide, by decide⟩ rfl rfl rfl ⟨by decide, by show (1 : Int) < 2; decide⟩ (Nat.le_of_ble_eq_true rfl) (i_X9b hn fun r1 k9 => ?_)
  show MW mX11_init 62 10821 12 [(0, vR 0)] [vR 1, vR 0] (n1, 3, r1) d Q
  have K1 : NR 0 [(1, 0, 2)] r r1 := k9
  refine mw_putO (ji := 0) (pc' := 15) dX11_init_12 rfl (by decide +kernel) fp_RX11_12 rfl (Or.inl ⟨_, rfl⟩) rfl (fun C T N e => by cases e; exact bw_351) ⟨by decide, by decide +kernel, by decide +kernel⟩ ⟨⟨by decide, by decide⟩, by decide, by omega⟩ ?_
  have K2 : NR 0 [(1, 0, 2), (0, 0, 1)] r (ur r1 0 0 1) := NR.tr K1 NR.o0 (by decide +kernel)
  generalize (ur r1 0 0 1) = r2 at K2 ⊢
  refine mw_aload_n (v := vR 0) (pc' := 16) dX11_init_15 rfl rfl (Or.inl rfl) rfl ?_
  refine mw_newO (a' := 4) (pc' := 19) dX11_init_16 rfl fn_RX11_9 (by decide +kernel) ⟨by decide, by decide, by decide⟩ ⟨by decide, by decide⟩ ?_
  show MW mX11_init 61 10819 19 [(0, vR 0)] [vR 3, vR 0] (n1, 4, r2) d Q
  refine mw_dup (pc' := 20) dX11_init_19 rfl rfl ?_
  refine mw_callI (M' := mX9_init) (A := []) (A' := [vR 3]) (S := [vR 3, vR 0]) (a := 3) (pc' := 23) dX11_init_20 rfl cl_RX11_11 cm_X9_init ci_X9_init rfl rfl ⟨by decide, by decide, by decide, by decide, by decide⟩ rfl rfl rfl ⟨by decide, by show (3 : Int) < 4; decide⟩ (Nat.le_of_ble_eq_true rfl) (i_X9l hn fun r3 k20 => ?_)
  show MW mX11_init 60 10604 23 [(0, vR 0)] [vR 3, vR 0] (n1, 5, r3) d Q
  have K3 : NR 0 [(1, 0, 2), (0, 0, 1), (3, 0, 4)] r r3 := NR.tr K2 k20 (by decide +kernel)
  refine mw_putO (ji := 1) (pc' := 26) dX11_init_23 rfl (by decide +kernel) fp_RX11_16 rfl (Or.inl ⟨_, rfl⟩) rfl (fun C T N e => by cases e; exact bw_352) ⟨by decide, by decide +kernel, by decide +kernel⟩ ⟨⟨by decide, by decide⟩, by decide, by omega⟩ ?_
  have K4 : NR 0 [(1, 0, 2), (0, 0, 1), (3, 0, 4), (0, 1, 3)] r (ur r3 0 1 3) := NR.tr K3 NR.o0 (by decide +kernel)
  generalize (ur r3 0 1 3) = r4 at K4 ⊢
  refine mw_aload_n (v := vR 0) (pc' := 27) dX11_init_26 rfl rfl (Or.inl rfl) rfl ?_
  refine mw_bipush (pc' := 29) dX11_init_27 rfl ⟨by decide, by decide⟩ ?_
  refine mw_newIO (a' := 6) (pc' := 31) dX11_init_29 rfl (by decide +kernel) (by decide +kernel) ⟨⟨by decide, by decide⟩, by decide, by decide⟩ ⟨by decide, by decide⟩ ?_
  show MW mX11_init 59 10596 31 [(0, vR 0)] [vR 5, vR 0] (n1, 6, r4) d Q
  refine mw_putO (ji := 2) (pc' := 34) dX11_init_31 rfl (by decide +kernel) fp_RX11_19 rfl (Or.inr ⟨_, rfl⟩) rfl (fun C T N e => by cases e; exact bw_353) ⟨by decide, by decide +kernel, by decide +kernel⟩ ⟨⟨by decide, by decide⟩, by decide, by omega⟩ ?_
  have K5 : NR 0 [(1, 0, 2), (0, 0, 1), (3, 0, 4), (0, 1, 3), (0, 2, 5)] r (ur r4 0 2 5) := NR.tr K4 NR.o0 (by decide +kernel)
  generalize (ur r4 0 2 5) = r5 at K5 ⊢
  refine mw_aload_n (v := vR 0) (pc' := 35) dX11_init_34 rfl rfl (Or.inl rfl) rfl ?_
  refine mw_newO (a' := 7) (pc' := 38) dX11_init_35 rfl fn_RX11_23 (by decide +kernel) ⟨by decide, by decide, by decide⟩ ⟨by decide, by decide⟩ ?_
  show MW mX11_init 58 10590 38 [(0, vR 0)] [vR 6, vR 0] (n1, 7, r5) d Q
  refine mw_dup (pc' := 39) dX11_init_38 rfl rfl ?_
  refine mw_callI (M' := mX3_init) (A := []) (A' := [vR 6]) (S := [vR 6, vR 0]) (a := 6) (pc' := 42) dX11_init_39 rfl cl_RX11_25 cm_X3_init ci_X3_init rfl rfl ⟨by decide, by decide, by decide, by decide, by decide⟩ rfl rfl rfl ⟨by decide, by show (6 : Int) < 7; decide⟩ (Nat.le_of_ble_eq_true rfl) (i_X3 (A := 6) (Or.inl rfl) (by omega) fun r50 k39 e39 f39 s39 => ?_)
  show MW mX11_init 13 2374 42 [(0, vR 0)] [vR 6, vR 0] (n1, 52, r50) e39 Q
  have K50 : NR 0 [(1, 0, 2), (0, 0, 1), (3, 0, 4), (0, 1, 3), (0, 2, 5), (7, 0, 8), (7, 1, 9), (6, 0, 7), (10, 1, 11), (6, 1, 10), (12, 0, 13), (12, 1, 14), (12, 2, 15), (6, 2, 12), (16, 0, 17), (16, 1, 18), (16, 2, 19), (16, 3, 20), (16, 4, 21), (16, 5, 22), (16, 6, 23), (16, 7, 24), (16, 8, 25), (16, 9, 26), (16, 10, 27), (6, 3, 16), (28, 0, 29), (28, 1, 30), (28, 2, 31), (28, 3, 32), (6, 4, 28), (34, 0, 35), (34, 1, 36), (34, 2, 37), (34, 3, 38), (34, 4, 39), (34, 5, 40), (34, 6, 41), (34, 7, 42), (34, 8, 43), (34, 9, 44), (34, 10, 45), (33, 0, 34), (33, 1, 46), (33, 2, 47), (33, 3, 48), (33, 4, 49), (33, 5, 50), (33, 6, 51), (6, 5, 33)] r r50 := NR.tr K5 (NR.sh k39) (by decide +kernel)
  refine mw_putO (ji := 3) (pc' := 45) dX11_init_42 rfl (by decide +kernel) fp_RX11_26 rfl (Or.inl ⟨_, rfl⟩) rfl (fun C T N e => by cases e; exact bw_354) ⟨by decide, by decide +kernel, by decide +kernel⟩ ⟨⟨by decide, by decide⟩, by decide, by omega⟩ ?_
  have K51 : NR 0 [(1, 0, 2), (0, 0, 1), (3, 0, 4), (0, 1, 3), (0, 2, 5), (7, 0, 8), (7, 1, 9), (6, 0, 7), (10, 1, 11), (6, 1, 10), (12, 0, 13), (12, 1, 14), (12, 2, 15), (6, 2, 12), (16, 0, 17), (16, 1, 18), (16, 2, 19), (16, 3, 20), (16, 4, 21), (16, 5, 22), (16, 6, 23), (16, 7, 24), (16, 8, 25), (16, 9, 26), (16, 10, 27), (6, 3, 16), (28, 0, 29), (28, 1, 30), (28, 2, 31), (28, 3, 32), (6, 4, 28), (34, 0, 35), (34, 1, 36), (34, 2, 37), (34, 3, 38), (34, 4, 39), (34, 5, 40), (34, 6, 41), (34, 7, 42), (34, 8, 43), (34, 9, 44), (34, 10, 45), (33, 0, 34), (33, 1, 46), (33, 2, 47), (33, 3, 48), (33, 4, 49), (33, 5, 50), (33, 6, 51), (6, 5, 33), (0, 3, 6)] r (ur r50 0 3 6) := NR.tr K50 NR.o0 (by decide +kernel)
  generalize (ur r50 0 3 6) = r51 at K51 ⊢
  refine mw_aload_n (v := vR 0) (pc' := 46) dX11_init_45 rfl rfl (Or.inl rfl) rfl ?_
  refine mw_bipush (pc' := 48) dX11_init_46 rfl ⟨by decide, by decide⟩ ?_
  refine mw_newQO (a' := 53) (pc' := 51) dX11_init_48 rfl bw_52 (by decide +kernel) (by decide +kernel) ⟨⟨by decide, by decide⟩, by decide, by decide⟩ ⟨by decide, by decide⟩ ?_
  show MW mX11_init 12 2365 51 [(0, vR 0)] [vR 52, vR 0] (n1, 53, r51) e39 Q
  refine mw_putO (ji := 4) (pc' := 54) dX11_init_51 rfl (by decide +kernel) fp_RX11_30 rfl (Or.inr ⟨_, rfl⟩) rfl (fun C T N e => by cases e; exact bw_355) ⟨by decide, by decide +kernel, by decide +kernel⟩ ⟨⟨by decide, by decide⟩, by decide, by omega⟩ ?_
  have K52 : NR 0 [(1, 0, 2), (0, 0, 1), (3, 0, 4), (0, 1, 3), (0, 2, 5), (7, 0, 8), (7, 1, 9), (6, 0, 7), (10, 1, 11), (6, 1, 10), (12, 0, 13), (12, 1, 14), (12, 2, 15), (6, 2, 12), (16, 0, 17), (16, 1, 18), (16, 2, 19), (16, 3, 20), (16, 4, 21), (16, 5, 22), (16, 6, 23), (16, 7, 24), (16, 8, 25), (16, 9, 26), (16, 10, 27), (6, 3, 16), (28, 0, 29), (28, 1, 30), (28, 2, 31), (28, 3, 32), (6, 4, 28), (34, 0, 35), (34, 1, 36), (34, 2, 37), (34, 3, 38), (34, 4, 39), (34, 5, 40), (34, 6, 41), (34, 7, 42), (34, 8, 43), (34, 9, 44), (34, 10, 45), (33, 0, 34), (33, 1, 46), (33, 2, 47), (33, 3, 48), (33, 4, 49), (33, 5, 50), (33, 6, 51), (6, 5, 33), (0, 3, 6), (0, 4, 52)] r (ur r51 0 4 52) := NR.tr K51 NR.o0 (by decide +kernel)
  generalize (ur r51 0 4 52) = r52 at K52 ⊢
  refine mw_aload_n (v := vR 0) (pc' := 55) dX11_init_54 rfl rfl (Or.inl rfl) rfl ?_
  refine mw_newO (a' := 54) (pc' := 58) dX11_init_55 rfl fn_RX11_34 (by decide +kernel) ⟨by decide, by decide, by decide⟩ ⟨by decide, by decide⟩ ?_
  show MW mX11_init 11 2360 58 [(0, vR 0)] [vR 53, vR 0] (n1, 54, r52) e39 Q
  refine mw_dup (pc' := 59) dX11_init_58 rfl rfl ?_
  refine mw_aload_n (v := vR 0) (pc' := 60) dX11_init_59 rfl rfl (Or.inl rfl) rfl ?_
  refine mw_getO (v := 6) (ji := 3) (pc' := 63) dX11_init_60 rfl (by decide +kernel) fg_RX11_26 rfl ⟨by decide, by decide +kernel⟩ ⟨by decide, by decide⟩ (NR.v0 K52 (0, 3, 6) (by decide +kernel)) ?_
  refine mw_getO (v := 10) (ji := 1) (pc' := 66) dX11_init_63 rfl (by decide +kernel) fg_RX11_36 rfl ⟨by decide, by decide +kernel⟩ ⟨by decide, by decide⟩ (NR.v0 K52 (6, 1, 10) (by decide +kernel)) ?_
  refine mw_aload_n (v := vR 0) (pc' := 67) dX11_init_66 rfl rfl (Or.inl rfl) rfl ?_
  refine mw_getO (v := 6) (ji := 3) (pc' := 70) dX11_init_67 rfl (by decide +kernel) fg_RX11_26 rfl ⟨by decide, by decide +kernel⟩ ⟨by decide, by decide⟩ (NR.v0 K52 (0, 3, 6) (by decide +kernel)) ?_
  refine mw_getO (v := 28) (ji := 4) (pc' := 73) dX11_init_70 rfl (by decide +kernel) fg_RX11_40 rfl ⟨by decide, by decide +kernel⟩ ⟨by decide, by decide⟩ (NR.v0 K52 (6, 4, 28) (by decide +kernel)) ?_
  refine mw_callI (M' := mX10_init) (A := [vR 10, vR 28]) (A' := [vR 53, vR 10, vR 28]) (S := [vR 53, vR 0]) (a := 53) (pc' := 76) dX11_init_73 rfl cl_RX11_44 cm_X10_init ci_X10_init rfl rfl ⟨by decide, by decide, by decide, by decide, by decide⟩ rfl rfl rfl ⟨by decide, by show (53 : Int) < 54; decide⟩ (Nat.le_of_ble_eq_true rfl) (i_X10 hn fun r56 k73 => ?_)
  show MW mX11_init 9 1930 76 [(0, vR 0)] [vR 53, vR 0] (n1, 56, r56) e39 Q
  have K56 : NR 0 [(1, 0, 2), (0, 0, 1), (3, 0, 4), (0, 1, 3), (0, 2, 5), (7, 0, 8), (7, 1, 9), (6, 0, 7), (10, 1, 11), (6, 1, 10), (12, 0, 13), (12, 1, 14), (12, 2, 15), (6, 2, 12), (16, 0, 17), (16, 1, 18), (16, 2, 19), (16, 3, 20), (16, 4, 21), (16, 5, 22), (16, 6, 23), (16, 7, 24), (16, 8, 25), (16, 9, 26), (16, 10, 27), (6, 3, 16), (28, 0, 29), (28, 1, 30), (28, 2, 31), (28, 3, 32), (6, 4, 28), (34, 0, 35), (34, 1, 36), (34, 2, 37), (34, 3, 38), (34, 4, 39), (34, 5, 40), (34, 6, 41), (34, 7, 42), (34, 8, 43), (34, 9, 44), (34, 10, 45), (33, 0, 34), (33, 1, 46), (33, 2, 47), (33, 3, 48), (33, 4, 49), (33, 5, 50), (33, 6, 51), (6, 5, 33), (0, 3, 6), (0, 4, 52), (53, 2, 54), (53, 3, 55), (53, 0, 10), (53, 1, 28)] r r56 := NR.tr K52 k73 (by decide +kernel)
  refine mw_putO (ji := 7) (pc' := 79) dX11_init_76 rfl (by decide +kernel) fp_RX11_47 rfl (Or.inl ⟨_, rfl⟩) rfl (fun C T N e => by cases e; exact bw_358) ⟨by decide, by decide +kernel, by decide +kernel⟩ ⟨⟨by decide, by decide⟩, by decide, by omega⟩ ?_
  have K57 : NR 0 [(1, 0, 2), (0, 0, 1), (3, 0, 4), (0, 1, 3), (0, 2, 5), (7, 0, 8), (7, 1, 9), (6, 0, 7), (10, 1, 11), (6, 1, 10), (12, 0, 13), (12, 1, 14), (12, 2, 15), (6, 2, 12), (16, 0, 17), (16, 1, 18), (16, 2, 19), (16, 3, 20), (16, 4, 21), (16, 5, 22), (16, 6, 23), (16, 7, 24), (16, 8, 25), (16, 9, 26), (16, 10, 27), (6, 3, 16), (28, 0, 29), (28, 1, 30), (28, 2, 31), (28, 3, 32), (6, 4, 28), (34, 0, 35), (34, 1, 36), (34, 2, 37), (34, 3, 38), (34, 4, 39), (34, 5, 40), (34, 6, 41), (34, 7, 42), (34, 8, 43), (34, 9, 44), (34, 10, 45), (33, 0, 34), (33, 1, 46), (33, 2, 47), (33, 3, 48), (33, 4, 49), (33, 5, 50), (33, 6, 51), (6, 5, 33), (0, 3, 6), (0, 4, 52), (53, 2, 54), (53, 3, 55), (53, 0, 10), (53, 1, 28), (0, 7, 53)] r (ur r56 0 7 53) := NR.tr K56 NR.o0 (by decide +kernel)
  generalize (ur r56 0 7 53) = r57 at K57 ⊢
  refine mw_aload_n (v := vR 0) (pc' := 80) dX11_init_79 rfl rfl (Or.inl rfl) rfl ?_
  refine mw_newO (a' := 57) (pc' := 83) dX11_init_80 rfl fn_RX11_51 (by decide +kernel) ⟨by decide, by decide, by decide⟩ ⟨by decide, by decide⟩ ?_
  show MW mX11_init 8 1924 83 [(0, vR 0)] [vR 56, vR 0] (n1, 57, r57) e39 Q
  refine mw_dup (pc' := 84) dX11_init_83 rfl rfl ?_
  refine mw_aload_n (v := vR 0) (pc' := 85) dX11_init_84 rfl rfl (Or.inl rfl) rfl ?_
  refine mw_getO (v := 6) (ji := 3) (pc' := 88) dX11_init_85 rfl (by decide +kernel) fg_RX11_26 rfl ⟨by decide, by decide +kernel⟩ ⟨by decide, by decide⟩ (NR.v0 K57 (0, 3, 6) (by decide +kernel)) ?_
  refine mw_getO (v := 10) (ji := 1) (pc' := 91) dX11_init_88 rfl (by decide +kernel) fg_RX11_36 rfl ⟨by decide, by decide +kernel⟩ ⟨by decide, by decide⟩ (NR.v0 K57 (6, 1, 10) (by decide +kernel)) ?_
  refine mw_aload_n (v := vR 0) (pc' := 92) dX11_init_91 rfl rfl (Or.inl rfl) rfl ?_
  refine mw_getO (v := 6) (ji := 3) (pc' := 95) dX11_init_92 rfl (by decide +kernel) fg_RX11_26 rfl ⟨by decide, by decide +kernel⟩ ⟨by decide, by decide⟩ (NR.v0 K57 (0, 3, 6) (by decide +kernel)) ?_
  refine mw_getO (v := 28) (ji := 4) (pc' := 98) dX11_init_95 rfl (by decide +kernel) fg_RX11_40 rfl ⟨by decide, by decide +kernel⟩ ⟨by decide, by decide⟩ (NR.v0 K57 (6, 4, 28) (by decide +kernel)) ?_
  refine mw_callI (M' := mX4_init) (A := [vR 10, vR 28]) (A' := [vR 56, vR 10, vR 28]) (S := [vR 56, vR 0]) (a := 56) (pc' := 101) dX11_init_98 rfl cl_RX11_53 cm_X4_init ci_X4_init rfl rfl ⟨by decide, by decide, by decide, by decide, by decide⟩ rfl rfl rfl ⟨by decide, by show (56 : Int) < 57; decide⟩ (Nat.le_of_ble_eq_true rfl) (i_X4 hn fun r61 k98 => ?_)
  show MW mX11_init 6 1494 101 [(0, vR 0)] [vR 56, vR 0] (n1, 59, r61) e39 Q
  have K61 : NR 0 [(1, 0, 2), (0, 0, 1), (3, 0, 4), (0, 1, 3), (0, 2, 5), (7, 0, 8), (7, 1, 9), (6, 0, 7), (10, 1, 11), (6, 1, 10), (12, 0, 13), (12, 1, 14), (12, 2, 15), (6, 2, 12), (16, 0, 17), (16, 1, 18), (16, 2, 19), (16, 3, 20), (16, 4, 21), (16, 5, 22), (16, 6, 23), (16, 7, 24), (16, 8, 25), (16, 9, 26), (16, 10, 27), (6, 3, 16), (28, 0, 29), (28, 1, 30), (28, 2, 31), (28, 3, 32), (6, 4, 28), (34, 0, 35), (34, 1, 36), (34, 2, 37), (34, 3, 38), (34, 4, 39), (34, 5, 40), (34, 6, 41), (34, 7, 42), (34, 8, 43), (34, 9, 44), (34, 10, 45), (33, 0, 34), (33, 1, 46), (33, 2, 47), (33, 3, 48), (33, 4, 49), (33, 5, 50), (33, 6, 51), (6, 5, 33), (0, 3, 6), (0, 4, 52), (53, 2, 54), (53, 3, 55), (53, 0, 10), (53, 1, 28), (0, 7, 53), (56, 2, 57), (56, 3, 58), (56, 0, 10), (56, 1, 28)] r r61 := NR.tr K57 k98 (by decide +kernel)
  refine mw_putO (ji := 8) (pc' := 104) dX11_init_101 rfl (by decide +kernel) fp_RX11_54 rfl (Or.inl ⟨_, rfl⟩) rfl (fun C T N e => by cases e; exact bw_359) ⟨by decide, by decide +kernel, by decide +kernel⟩ ⟨⟨by decide, by decide⟩, by decide, by omega⟩ ?_
  have K62 : NR 0 [(1, 0, 2), (0, 0, 1), (3, 0, 4), (0, 1, 3), (0, 2, 5), (7, 0, 8), (7, 1, 9), (6, 0, 7), (10, 1, 11), (6, 1, 10), (12, 0, 13), (12, 1, 14), (12, 2, 15), (6, 2, 12), (16, 0, 17), (16, 1, 18), (16, 2, 19), (16, 3, 20), (16, 4, 21), (16, 5, 22), (16, 6, 23), (16, 7, 24), (16, 8, 25), (16, 9, 26), (16, 10, 27), (6, 3, 16), (28, 0, 29), (28, 1, 30), (28, 2, 31), (28, 3, 32), (6, 4, 28), (34, 0, 35), (34, 1, 36), (34, 2, 37), (34, 3, 38), (34, 4, 39), (34, 5, 40), (34, 6, 41), (34, 7, 42), (34, 8, 43), (34, 9, 44), (34, 10, 45), (33, 0, 34), (33, 1, 46), (33, 2, 47), (33, 3, 48), (33, 4, 49), (33, 5, 50), (33, 6, 51), (6, 5, 33), (0, 3, 6), (0, 4, 52), (53, 2, 54), (53, 3, 55), (53, 0, 10), (53, 1, 28), (0, 7, 53), (56, 2, 57), (56, 3, 58), (56, 0, 10), (56, 1, 28), (0, 8, 56)] r (ur r61 0 8 56) := NR.tr K61 NR.o0 (by decide +kernel)
  generalize (ur r61 0 8 56) = r62 at K62 ⊢
  refine mw_aload_n (v := vR 0) (pc' := 105) dX11_init_104 rfl rfl (Or.inl rfl) rfl ?_
  refine mw_bipush (pc' := 107) dX11_init_105 rfl ⟨by decide, by decide⟩ ?_
  refine mw_newIO (a' := 60) (pc' := 109) dX11_init_107 rfl (by decide +kernel) (by decide +kernel) ⟨⟨by decide, by decide⟩, by decide, by decide⟩ ⟨by decide, by decide⟩ ?_
  show MW mX11_init 5 1464 109 [(0, vR 0)] [vR 59, vR 0] (n1, 60, r62) e39 Q
  refine mw_putO (ji := 9) (pc' := 112) dX11_init_109 rfl (by decide +kernel) fp_RX11_58 rfl (Or.inr ⟨_, rfl⟩) rfl (fun C T N e => by cases e; exact bw_360) ⟨by decide, by decide +kernel, by decide +kernel⟩ ⟨⟨by decide, by decide⟩, by decide, by omega⟩ ?_
  have K63 : NR 0 [(1, 0, 2), (0, 0, 1), (3, 0, 4), (0, 1, 3), (0, 2, 5), (7, 0, 8), (7, 1, 9), (6, 0, 7), (10, 1, 11), (6, 1, 10), (12, 0, 13), (12, 1, 14), (12, 2, 15), (6, 2, 12), (16, 0, 17), (16, 1, 18), (16, 2, 19), (16, 3, 20), (16, 4, 21), (16, 5, 22), (16, 6, 23), (16, 7, 24), (16, 8, 25), (16, 9, 26), (16, 10, 27), (6, 3, 16), (28, 0, 29), (28, 1, 30), (28, 2, 31), (28, 3, 32), (6, 4, 28), (34, 0, 35), (34, 1, 36), (34, 2, 37), (34, 3, 38), (34, 4, 39), (34, 5, 40), (34, 6, 41), (34, 7, 42), (34, 8, 43), (34, 9, 44), (34, 10, 45), (33, 0, 34), (33, 1, 46), (33, 2, 47), (33, 3, 48), (33, 4, 49), (33, 5, 50), (33, 6, 51), (6, 5, 33), (0, 3, 6), (0, 4, 52), (53, 2, 54), (53, 3, 55), (53, 0, 10), (53, 1, 28), (0, 7, 53), (56, 2, 57), (56, 3, 58), (56, 0, 10), (56, 1, 28), (0, 8, 56), (0, 9, 59)] r (ur r62 0 9 59) := NR.tr K62 NR.o0 (by decide +kernel)
  generalize (ur r62 0 9 59) = r63 at K63 ⊢
  refine mw_aload_n (v := vR 0) (pc' := 113) dX11_init_112 rfl rfl (Or.inl rfl) rfl ?_
  refine mw_newO (a' := 61) (pc' := 116) dX11_init_113 rfl fn_RX11_61 (by decide +kernel) ⟨by decide, by decide, by decide⟩ ⟨by decide, by decide⟩ ?_
  show MW mX11_init 4 1458 116 [(0, vR 0)] [vR 60, vR 0] (n1, 61, r63) e39 Q
  refine mw_dup (pc' := 117) dX11_init_116 rfl rfl ?_
  refine mw_callI (M' := mX6_init) (A := []) (A' := [vR 60]) (S := [vR 60, vR 0]) (a := 60) (pc' := 120) dX11_init_117 rfl cl_RX11_63 cm_X6_init ci_X6_init rfl rfl ⟨by decide, by decide, by decide, by decide, by decide⟩ rfl rfl rfl ⟨by decide, by show (60 : Int) < 61; decide⟩ (Nat.le_of_ble_eq_true rfl) (i_X6 hn fun r67 k117 => ?_)
  show MW mX11_init 0 598 120 [(0, vR 0)] [vR 60, vR 0] (n1, 65, r67) e39 Q
  have K67 : NR 0 [(1, 0, 2), (0, 0, 1), (3, 0, 4), (0, 1, 3), (0, 2, 5), (7, 0, 8), (7, 1, 9), (6, 0, 7), (10, 1, 11), (6, 1, 10), (12, 0, 13), (12, 1, 14), (12, 2, 15), (6, 2, 12), (16, 0, 17), (16, 1, 18), (16, 2, 19), (16, 3, 20), (16, 4, 21), (16, 5, 22), (16, 6, 23), (16, 7, 24), (16, 8, 25), (16, 9, 26), (16, 10, 27), (6, 3, 16), (28, 0, 29), (28, 1, 30), (28, 2, 31), (28, 3, 32), (6, 4, 28), (34, 0, 35), (34, 1, 36), (34, 2, 37), (34, 3, 38), (34, 4, 39), (34, 5, 40), (34, 6, 41), (34, 7, 42), (34, 8, 43), (34, 9, 44), (34, 10, 45), (33, 0, 34), (33, 1, 46), (33, 2, 47), (33, 3, 48), (33, 4, 49), (33, 5, 50), (33, 6, 51), (6, 5, 33), (0, 3, 6), (0, 4, 52), (53, 2, 54), (53, 3, 55), (53, 0, 10), (53, 1, 28), (0, 7, 53), (56, 2, 57), (56, 3, 58), (56, 0, 10), (56, 1, 28), (0, 8, 56), (0, 9, 59), (60, 0, 61), (60, 1, 62), (60, 2, 63), (60, 3, 64)] r r67 := NR.tr K63 k117 (by decide +kernel)
  refine mw_putO (ji := 10) (pc' := 123) dX11_init_120 rfl (by decide +kernel) fp_RX11_64 rfl (Or.inl ⟨_, rfl⟩) rfl (fun C T N e => by cases e; exact bw_361) ⟨by decide, by decide +kernel, by decide +kernel⟩ ⟨⟨by decide, by decide⟩, by decide, by omega⟩ ?_
  have K68 : NR 0 [(1, 0, 2), (0, 0, 1), (3, 0, 4), (0, 1, 3), (0, 2, 5), (7, 0, 8), (7, 1, 9), (6, 0, 7), (10, 1, 11), (6, 1, 10), (12, 0, 13), (12, 1, 14), (12, 2, 15), (6, 2, 12), (16, 0, 17), (16, 1, 18), (16, 2, 19), (16, 3, 20), (16, 4, 21), (16, 5, 22), (16, 6, 23), (16, 7, 24), (16, 8, 25), (16, 9, 26), (16, 10, 27), (6, 3, 16), (28, 0, 29), (28, 1, 30), (28, 2, 31), (28, 3, 32), (6, 4, 28), (34, 0, 35), (34, 1, 36), (34, 2, 37), (34, 3, 38), (34, 4, 39), (34, 5, 40), (34, 6, 41), (34, 7, 42), (34, 8, 43), (34, 9, 44), (34, 10, 45), (33, 0, 34), (33, 1, 46), (33, 2, 47), (33, 3, 48), (33, 4, 49), (33, 5, 50), (33, 6, 51), (6, 5, 33), (0, 3, 6), (0, 4, 52), (53, 2, 54), (53, 3, 55), (53, 0, 10), (53, 1, 28), (0, 7, 53), (56, 2, 57), (56, 3, 58), (56, 0, 10), (56, 1, 28), (0, 8, 56), (0, 9, 59), (60, 0, 61), (60, 1, 62), (60, 2, 63), (60, 3, 64), (0, 10, 60)] r (ur r67 0 10 60) := NR.tr K67 NR.o0 (by decide +kernel)
  generalize (ur r67 0 10 60) = r68 at K68 ⊢
  refine mw_aload_n (v := vR 0) (pc' := 124) dX11_init_123 rfl rfl (Or.inl rfl) rfl ?_
  refine mw_iconst (pc' := 125) dX11_init_124 rfl ⟨by decide, by decide⟩ ?_
  refine mw_putIO (ji := 11) (pc' := 128) dX11_init_125 rfl (by decide +kernel) fp_RX11_68 rfl ⟨by decide, by decide +kernel⟩ ⟨by decide, by show (0 : Int) < 65; decide⟩ ?_
  refine mw_aload_n (v := vR 0) (pc' := 129) dX11_init_128 rfl rfl (Or.inl rfl) rfl ?_
  refine mw_iconst (pc' := 130) dX11_init_129 rfl ⟨by decide, by decide⟩ ?_
  refine mw_putIO (ji := 12) (pc' := 133) dX11_init_130 rfl (by decide +kernel) fp_RX11_72 rfl ⟨by decide, by decide +kernel⟩ ⟨by decide, by show (0 : Int) < 65; decide⟩ ?_
  exact mw_vret (pc' := 0) (S := []) dX11_init_133 rfl (h _ K68 e39 (fun b j q => f39 b j (fun z => q z)) s39)
