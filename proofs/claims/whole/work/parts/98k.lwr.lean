-- the wrappers of the law
theorem kM_X11_type : CM mX11_type 1 := ⟨(goodW 594 (by decide +kernel) rfl), (goodW 1 (by decide +kernel) rfl), ⟨by decide, by decide⟩, by decide +kernel, rfl⟩
theorem kV_X11_type : CV mX11_type := ⟨(goodW 592 (by decide +kernel) rfl), (goodW 593 (by decide +kernel) rfl)⟩
theorem wr_type {x1 : Int} {g : mG} {d : mD} {Q : mQ} (h : MM mX11_type [vR 0, vI x1] g d (fun o g' d' => match o with | .inl v => Q (.inl 0) g' (ud d' 74 0 v) | .inr k => LX [1] k Q g' d')) : MM mL_type [vR 0, vI x1, vR 74] g d Q := by
  refine MM_of (by decide) rfl (by simp [catV]) (Nat.le_of_ble_eq_true rfl) ?_
  show MW mL_type 1 6 0 [(0, vR 0), (1, vI x1), (2, vR 74)] [] g d Q
  refine mw_top (fun hT => ?_)
  have hG : 76 ≤ g.2.1 := hT.2
  refine mw_aload_n (v := vR 74) (pc' := 1) dL_type_0 rfl rfl (Or.inl rfl) rfl ?_
  refine mw_iconst (pc' := 2) dL_type_1 rfl ⟨by decide, by decide⟩ ?_
  refine mw_aload_n (v := vR 0) (pc' := 3) dL_type_2 rfl rfl (Or.inl rfl) rfl ?_
  refine mw_iload_n (pc' := 4) dL_type_3 rfl rfl rfl ?_
  refine mw_callV (M' := mX11_type) (A := [vI x1]) (A' := [vR 0, vI x1]) (S := [vI 0, vR 74]) (a := 0) (pc' := 7) dL_type_4 rfl (Or.inl (goodW 591 (by decide +kernel) rfl)) kM_X11_type kV_X11_type ⟨by decide, by decide, by decide, by decide, by decide⟩ rfl rfl rfl ⟨by decide, by omega⟩ (by decide +kernel) (by decide +kernel) (Nat.le_of_ble_eq_true rfl) (MM.mono ?_ h)
  intro o g1 d1 h1
  rcases o with v | k
  · show MW mL_type 0 0 7 [(0, vR 0), (1, vI x1), (2, vR 74)] [vI v, vI 0, vR 74] g1 d1 Q
    refine mw_i2l (pc' := 8) dL_type_7 rfl ?_
    refine mw_last (pc' := 9) dL_type_8 rfl (by decide +kernel) ⟨by decide, by decide⟩ (by rw [show LN 74 = 1 by decide +kernel]; exact ⟨by decide, by decide⟩) ?_
    refine mw_goto (pc' := 0) (tgt := 15) dL_type_9 (by decide) ?_
    refine mw_iconst (pc' := 16) dL_type_15 rfl ⟨by decide, by decide⟩ ?_
    exact mw_iret (pc' := 0) (S := []) dL_type_16 rfl (Or.inl rfl) h1
  · obtain ⟨hk, hq⟩ := h1
    have hk := List.mem_singleton.mp hk
    subst hk
    refine mx_catch (k := 1) (k1 := 0) [] ⟨0, 9, 12, 13⟩ [] rfl (fun _ hz => absurd hz List.not_mem_nil) rfl (by decide) kc_1 ka_1 (fun q => ?_)
    refine mw_astore_n (v := (7, q)) (pc' := 13) (L' := [(0, vR 0), (1, vI x1), (2, vR 74), (3, (7, q))]) dL_type_12 rfl rfl (by simp) (by decide) rfl ?_
    refine mw_iconst (pc' := 14) dL_type_13 rfl ⟨by decide, by decide⟩ ?_
    exact mw_iret (pc' := 0) (S := []) dL_type_14 rfl (Or.inl rfl) hq
theorem kM_X11_addParty : CM mX11_addParty 0 := ⟨(goodW 678 (by decide +kernel) rfl), (goodW 1 (by decide +kernel) rfl), ⟨by decide, by decide⟩, by decide +kernel, rfl⟩
theorem kV_X11_addParty : CV mX11_addParty := ⟨(goodW 676 (by decide +kernel) rfl), (goodW 677 (by decide +kernel) rfl)⟩
theorem wr_addParty {g : mG} {d : mD} {Q : mQ} (h : MM mX11_addParty [vR 0] g d (fun o g' d' => match o with | .inl v => Q (.inl 0) g' (ud d' 74 0 v) | .inr k => LX [2, 1] k Q g' d')) : MM mL_addParty [vR 0, vR 74] g d Q := by
  refine MM_of (by decide) rfl (by simp [catV]) (Nat.le_of_ble_eq_true rfl) ?_
  show MW mL_addParty 47 8228 0 [(0, vR 0), (1, vR 74)] [] g d Q
  refine mw_top (fun hT => ?_)
  have hG : 76 ≤ g.2.1 := hT.2
  refine mw_aload_n (v := vR 74) (pc' := 1) dL_addParty_0 rfl rfl (Or.inl rfl) rfl ?_
  refine mw_iconst (pc' := 2) dL_addParty_1 rfl ⟨by decide, by decide⟩ ?_
  refine mw_aload_n (v := vR 0) (pc' := 3) dL_addParty_2 rfl rfl (Or.inl rfl) rfl ?_
  refine mw_callV (M' := mX11_addParty) (A := []) (A' := [vR 0]) (S := [vI 0, vR 74]) (a := 0) (pc' := 6) dL_addParty_3 rfl (Or.inl (goodW 675 (by decide +kernel) rfl)) kM_X11_addParty kV_X11_addParty ⟨by decide, by decide, by decide, by decide, by decide⟩ rfl rfl rfl ⟨by decide, by omega⟩ (by decide +kernel) (by decide +kernel) (Nat.le_of_ble_eq_true rfl) (MM.mono ?_ h)
  intro o g1 d1 h1
  rcases o with v | k
  · show MW mL_addParty 0 0 6 [(0, vR 0), (1, vR 74)] [vI v, vI 0, vR 74] g1 d1 Q
    refine mw_i2l (pc' := 7) dL_addParty_6 rfl ?_
    refine mw_last (pc' := 8) dL_addParty_7 rfl (by decide +kernel) ⟨by decide, by decide⟩ (by rw [show LN 74 = 1 by decide +kernel]; exact ⟨by decide, by decide⟩) ?_
    refine mw_goto (pc' := 0) (tgt := 17) dL_addParty_8 (by decide) ?_
    refine mw_iconst (pc' := 18) dL_addParty_17 rfl ⟨by decide, by decide⟩ ?_
    exact mw_iret (pc' := 0) (S := []) dL_addParty_18 rfl (Or.inl rfl) h1
  · obtain ⟨hk, hq⟩ := h1
    rcases (show k = 2 ∨ k = 1 by simpa using hk) with hk | hk
    · subst hk
      refine mx_catch (k := 2) (k1 := 0) [] ⟨0, 8, 11, 19⟩ [⟨0, 8, 14, 13⟩] rfl (fun _ hz => absurd hz List.not_mem_nil) rfl (by decide) kc_2 ka_2 (fun q => ?_)
      refine mw_astore_n (v := (7, q)) (pc' := 12) (L' := [(0, vR 0), (1, vR 74), (2, (7, q))]) dL_addParty_11 rfl rfl (by simp) (by decide) rfl ?_
      refine mw_iconst (pc' := 13) dL_addParty_12 rfl ⟨by decide, by decide⟩ ?_
      exact mw_iret (pc' := 0) (S := []) dL_addParty_13 rfl (Or.inl rfl) hq
    · subst hk
      refine mx_catch (k := 1) (k1 := 0) [⟨0, 8, 11, 19⟩] ⟨0, 8, 14, 13⟩ [] rfl (List.forall_mem_cons.mpr ⟨⟨by decide, 0, 1, by decide, by decide, by decide, rfl, kc_2⟩, (fun _ hz => absurd hz List.not_mem_nil)⟩) rfl (by decide) kc_1 ka_1 (fun q => ?_)
      refine mw_astore_n (v := (7, q)) (pc' := 15) (L' := [(0, vR 0), (1, vR 74), (2, (7, q))]) dL_addParty_14 rfl rfl (by simp) (by decide) rfl ?_
      refine mw_iconst (pc' := 16) dL_addParty_15 rfl ⟨by decide, by decide⟩ ?_
      exact mw_iret (pc' := 0) (S := []) dL_addParty_16 rfl (Or.inl rfl) hq
theorem kM_X11_findParty : CM mX11_findParty 0 := ⟨(goodW 839 (by decide +kernel) rfl), (goodW 1 (by decide +kernel) rfl), ⟨by decide, by decide⟩, by decide +kernel, rfl⟩
theorem kV_X11_findParty : CV mX11_findParty := ⟨(goodW 837 (by decide +kernel) rfl), (goodW 838 (by decide +kernel) rfl)⟩
theorem wr_findParty {g : mG} {d : mD} {Q : mQ} (h : MM mX11_findParty [vR 0] g d (fun o g' d' => match o with | .inl v => Q (.inl 0) g' (ud d' 74 0 v) | .inr k => LX [4] k Q g' d')) : MM mL_findParty [vR 0, vR 74] g d Q := by
  refine MM_of (by decide) rfl (by simp [catV]) (Nat.le_of_ble_eq_true rfl) ?_
  show MW mL_findParty 1 6 0 [(0, vR 0), (1, vR 74)] [] g d Q
  refine mw_top (fun hT => ?_)
  have hG : 76 ≤ g.2.1 := hT.2
  refine mw_aload_n (v := vR 74) (pc' := 1) dL_findParty_0 rfl rfl (Or.inl rfl) rfl ?_
  refine mw_iconst (pc' := 2) dL_findParty_1 rfl ⟨by decide, by decide⟩ ?_
  refine mw_aload_n (v := vR 0) (pc' := 3) dL_findParty_2 rfl rfl (Or.inl rfl) rfl ?_
  refine mw_callV (M' := mX11_findParty) (A := []) (A' := [vR 0]) (S := [vI 0, vR 74]) (a := 0) (pc' := 6) dL_findParty_3 rfl (Or.inl (goodW 836 (by decide +kernel) rfl)) kM_X11_findParty kV_X11_findParty ⟨by decide, by decide, by decide, by decide, by decide⟩ rfl rfl rfl ⟨by decide, by omega⟩ (by decide +kernel) (by decide +kernel) (Nat.le_of_ble_eq_true rfl) (MM.mono ?_ h)
  intro o g1 d1 h1
  rcases o with v | k
  · show MW mL_findParty 0 0 6 [(0, vR 0), (1, vR 74)] [vI v, vI 0, vR 74] g1 d1 Q
    refine mw_i2l (pc' := 7) dL_findParty_6 rfl ?_
    refine mw_last (pc' := 8) dL_findParty_7 rfl (by decide +kernel) ⟨by decide, by decide⟩ (by rw [show LN 74 = 1 by decide +kernel]; exact ⟨by decide, by decide⟩) ?_
    refine mw_goto (pc' := 0) (tgt := 14) dL_findParty_8 (by decide) ?_
    refine mw_iconst (pc' := 15) dL_findParty_14 rfl ⟨by decide, by decide⟩ ?_
    exact mw_iret (pc' := 0) (S := []) dL_findParty_15 rfl (Or.inl rfl) h1
  · obtain ⟨hk, hq⟩ := h1
    have hk := List.mem_singleton.mp hk
    subst hk
    refine mx_catch (k := 4) (k1 := 0) [] ⟨0, 8, 11, 24⟩ [] rfl (fun _ hz => absurd hz List.not_mem_nil) rfl (by decide) kc_4 ka_4 (fun q => ?_)
    refine mw_astore_n (v := (7, q)) (pc' := 12) (L' := [(0, vR 0), (1, vR 74), (2, (7, q))]) dL_findParty_11 rfl rfl (by simp) (by decide) rfl ?_
    refine mw_iconst (pc' := 13) dL_findParty_12 rfl ⟨by decide, by decide⟩ ?_
    exact mw_iret (pc' := 0) (S := []) dL_findParty_13 rfl (Or.inl rfl) hq
theorem kM_X11_nameLength : CM mX11_nameLength 1 := ⟨(goodW 868 (by decide +kernel) rfl), (goodW 1 (by decide +kernel) rfl), ⟨by decide, by decide⟩, by decide +kernel, rfl⟩
theorem kV_X11_nameLength : CV mX11_nameLength := ⟨(goodW 866 (by decide +kernel) rfl), (goodW 867 (by decide +kernel) rfl)⟩
theorem wr_nameLength {x1 : Int} {g : mG} {d : mD} {Q : mQ} (h : MM mX11_nameLength [vR 0, vI x1] g d (fun o g' d' => match o with | .inl v => Q (.inl 0) g' (ud d' 74 0 v) | .inr k => LX [3] k Q g' d')) : MM mL_nameLength [vR 0, vI x1, vR 74] g d Q := by
  refine MM_of (by decide) rfl (by simp [catV]) (Nat.le_of_ble_eq_true rfl) ?_
  show MW mL_nameLength 1 6 0 [(0, vR 0), (1, vI x1), (2, vR 74)] [] g d Q
  refine mw_top (fun hT => ?_)
  have hG : 76 ≤ g.2.1 := hT.2
  refine mw_aload_n (v := vR 74) (pc' := 1) dL_nameLength_0 rfl rfl (Or.inl rfl) rfl ?_
  refine mw_iconst (pc' := 2) dL_nameLength_1 rfl ⟨by decide, by decide⟩ ?_
  refine mw_aload_n (v := vR 0) (pc' := 3) dL_nameLength_2 rfl rfl (Or.inl rfl) rfl ?_
  refine mw_iload_n (pc' := 4) dL_nameLength_3 rfl rfl rfl ?_
  refine mw_callV (M' := mX11_nameLength) (A := [vI x1]) (A' := [vR 0, vI x1]) (S := [vI 0, vR 74]) (a := 0) (pc' := 7) dL_nameLength_4 rfl (Or.inl (goodW 865 (by decide +kernel) rfl)) kM_X11_nameLength kV_X11_nameLength ⟨by decide, by decide, by decide, by decide, by decide⟩ rfl rfl rfl ⟨by decide, by omega⟩ (by decide +kernel) (by decide +kernel) (Nat.le_of_ble_eq_true rfl) (MM.mono ?_ h)
  intro o g1 d1 h1
  rcases o with v | k
  · show MW mL_nameLength 0 0 7 [(0, vR 0), (1, vI x1), (2, vR 74)] [vI v, vI 0, vR 74] g1 d1 Q
    refine mw_i2l (pc' := 8) dL_nameLength_7 rfl ?_
    refine mw_last (pc' := 9) dL_nameLength_8 rfl (by decide +kernel) ⟨by decide, by decide⟩ (by rw [show LN 74 = 1 by decide +kernel]; exact ⟨by decide, by decide⟩) ?_
    refine mw_goto (pc' := 0) (tgt := 15) dL_nameLength_9 (by decide) ?_
    refine mw_iconst (pc' := 16) dL_nameLength_15 rfl ⟨by decide, by decide⟩ ?_
    exact mw_iret (pc' := 0) (S := []) dL_nameLength_16 rfl (Or.inl rfl) h1
  · obtain ⟨hk, hq⟩ := h1
    have hk := List.mem_singleton.mp hk
    subst hk
    refine mx_catch (k := 3) (k1 := 0) [] ⟨0, 9, 12, 30⟩ [] rfl (fun _ hz => absurd hz List.not_mem_nil) rfl (by decide) kc_3 ka_3 (fun q => ?_)
    refine mw_astore_n (v := (7, q)) (pc' := 13) (L' := [(0, vR 0), (1, vI x1), (2, vR 74), (3, (7, q))]) dL_nameLength_12 rfl rfl (by simp) (by decide) rfl ?_
    refine mw_iconst (pc' := 14) dL_nameLength_13 rfl ⟨by decide, by decide⟩ ?_
    exact mw_iret (pc' := 0) (S := []) dL_nameLength_14 rfl (Or.inl rfl) hq
theorem kM_X11_nameCodePoint : CM mX11_nameCodePoint 2 := ⟨(goodW 884 (by decide +kernel) rfl), (goodW 1 (by decide +kernel) rfl), ⟨by decide, by decide⟩, by decide +kernel, rfl⟩
theorem kV_X11_nameCodePoint : CV mX11_nameCodePoint := ⟨(goodW 882 (by decide +kernel) rfl), (goodW 883 (by decide +kernel) rfl)⟩
theorem wr_nameCodePoint {x1 x2 : Int} {g : mG} {d : mD} {Q : mQ} (h : MM mX11_nameCodePoint [vR 0, vI x1, vI x2] g d (fun o g' d' => match o with | .inl v => Q (.inl 0) g' (ud d' 74 0 v) | .inr k => LX [3] k Q g' d')) : MM mL_nameCodePoint [vR 0, vI x1, vI x2, vR 74] g d Q := by
  refine MM_of (by decide) rfl (by simp [catV]) (Nat.le_of_ble_eq_true rfl) ?_
  show MW mL_nameCodePoint 2 12 0 [(0, vR 0), (1, vI x1), (2, vI x2), (3, vR 74)] [] g d Q
  refine mw_top (fun hT => ?_)
  have hG : 76 ≤ g.2.1 := hT.2
  refine mw_aload_n (v := vR 74) (pc' := 1) dL_nameCodePoint_0 rfl rfl (Or.inl rfl) rfl ?_
  refine mw_iconst (pc' := 2) dL_nameCodePoint_1 rfl ⟨by decide, by decide⟩ ?_
  refine mw_aload_n (v := vR 0) (pc' := 3) dL_nameCodePoint_2 rfl rfl (Or.inl rfl) rfl ?_
  refine mw_iload_n (pc' := 4) dL_nameCodePoint_3 rfl rfl rfl ?_
  refine mw_iload_n (pc' := 5) dL_nameCodePoint_4 rfl rfl rfl ?_
  refine mw_callV (M' := mX11_nameCodePoint) (A := [vI x1, vI x2]) (A' := [vR 0, vI x1, vI x2]) (S := [vI 0, vR 74]) (a := 0) (pc' := 8) dL_nameCodePoint_5 rfl (Or.inl (goodW 881 (by decide +kernel) rfl)) kM_X11_nameCodePoint kV_X11_nameCodePoint ⟨by decide, by decide, by decide, by decide, by decide⟩ rfl rfl rfl ⟨by decide, by omega⟩ (by decide +kernel) (by decide +kernel) (Nat.le_of_ble_eq_true rfl) (MM.mono ?_ h)
  intro o g1 d1 h1
  rcases o with v | k
  · show MW mL_nameCodePoint 0 0 8 [(0, vR 0), (1, vI x1), (2, vI x2), (3, vR 74)] [vI v, vI 0, vR 74] g1 d1 Q
    refine mw_i2l (pc' := 9) dL_nameCodePoint_8 rfl ?_
    refine mw_last (pc' := 10) dL_nameCodePoint_9 rfl (by decide +kernel) ⟨by decide, by decide⟩ (by rw [show LN 74 = 1 by decide +kernel]; exact ⟨by decide, by decide⟩) ?_
    refine mw_goto (pc' := 0) (tgt := 17) dL_nameCodePoint_10 (by decide) ?_
    refine mw_iconst (pc' := 18) dL_nameCodePoint_17 rfl ⟨by decide, by decide⟩ ?_
    exact mw_iret (pc' := 0) (S := []) dL_nameCodePoint_18 rfl (Or.inl rfl) h1
  · obtain ⟨hk, hq⟩ := h1
    have hk := List.mem_singleton.mp hk
    subst hk
    refine mx_catch (k := 3) (k1 := 0) [] ⟨0, 10, 13, 30⟩ [] rfl (fun _ hz => absurd hz List.not_mem_nil) rfl (by decide) kc_3 ka_3 (fun q => ?_)
    refine mw_astore (v := (7, q)) (pc' := 15) (L' := [(0, vR 0), (1, vI x1), (2, vI x2), (3, vR 74), (4, (7, q))]) dL_nameCodePoint_13 rfl (by simp) (by decide) rfl ?_
    refine mw_iconst (pc' := 16) dL_nameCodePoint_15 rfl ⟨by decide, by decide⟩ ?_
    exact mw_iret (pc' := 0) (S := []) dL_nameCodePoint_16 rfl (Or.inl rfl) hq
theorem kM_X11_writeNameReversed : CM mX11_writeNameReversed 1 := ⟨(goodW 892 (by decide +kernel) rfl), (goodW 1 (by decide +kernel) rfl), ⟨by decide, by decide⟩, by decide +kernel, rfl⟩
theorem kV_X11_writeNameReversed : CV mX11_writeNameReversed := ⟨(goodW 890 (by decide +kernel) rfl), (goodW 891 (by decide +kernel) rfl)⟩
theorem wr_writeNameReversed {x1 : Int} {g : mG} {d : mD} {Q : mQ} (h : MM mX11_writeNameReversed [vR 0, vI x1] g d (fun o g' d' => match o with | .inl v => Q (.inl 0) g' (ud d' 74 0 v) | .inr k => LX [3] k Q g' d')) : MM mL_writeNameReversed [vR 0, vI x1, vR 74] g d Q := by
  refine MM_of (by decide) rfl (by simp [catV]) (Nat.le_of_ble_eq_true rfl) ?_
  show MW mL_writeNameReversed 1 6 0 [(0, vR 0), (1, vI x1), (2, vR 74)] [] g d Q
  refine mw_top (fun hT => ?_)
  have hG : 76 ≤ g.2.1 := hT.2
  refine mw_aload_n (v := vR 74) (pc' := 1) dL_writeNameReversed_0 rfl rfl (Or.inl rfl) rfl ?_
  refine mw_iconst (pc' := 2) dL_writeNameReversed_1 rfl ⟨by decide, by decide⟩ ?_
  refine mw_aload_n (v := vR 0) (pc' := 3) dL_writeNameReversed_2 rfl rfl (Or.inl rfl) rfl ?_
  refine mw_iload_n (pc' := 4) dL_writeNameReversed_3 rfl rfl rfl ?_
  refine mw_callV (M' := mX11_writeNameReversed) (A := [vI x1]) (A' := [vR 0, vI x1]) (S := [vI 0, vR 74]) (a := 0) (pc' := 7) dL_writeNameReversed_4 rfl (Or.inl (goodW 889 (by decide +kernel) rfl)) kM_X11_writeNameReversed kV_X11_writeNameReversed ⟨by decide, by decide, by decide, by decide, by decide⟩ rfl rfl rfl ⟨by decide, by omega⟩ (by decide +kernel) (by decide +kernel) (Nat.le_of_ble_eq_true rfl) (MM.mono ?_ h)
  intro o g1 d1 h1
  rcases o with v | k
  · show MW mL_writeNameReversed 0 0 7 [(0, vR 0), (1, vI x1), (2, vR 74)] [vI v, vI 0, vR 74] g1 d1 Q
    refine mw_i2l (pc' := 8) dL_writeNameReversed_7 rfl ?_
    refine mw_last (pc' := 9) dL_writeNameReversed_8 rfl (by decide +kernel) ⟨by decide, by decide⟩ (by rw [show LN 74 = 1 by decide +kernel]; exact ⟨by decide, by decide⟩) ?_
    refine mw_goto (pc' := 0) (tgt := 15) dL_writeNameReversed_9 (by decide) ?_
    refine mw_iconst (pc' := 16) dL_writeNameReversed_15 rfl ⟨by decide, by decide⟩ ?_
    exact mw_iret (pc' := 0) (S := []) dL_writeNameReversed_16 rfl (Or.inl rfl) h1
  · obtain ⟨hk, hq⟩ := h1
    have hk := List.mem_singleton.mp hk
    subst hk
    refine mx_catch (k := 3) (k1 := 0) [] ⟨0, 9, 12, 30⟩ [] rfl (fun _ hz => absurd hz List.not_mem_nil) rfl (by decide) kc_3 ka_3 (fun q => ?_)
    refine mw_astore_n (v := (7, q)) (pc' := 13) (L' := [(0, vR 0), (1, vI x1), (2, vR 74), (3, (7, q))]) dL_writeNameReversed_12 rfl rfl (by simp) (by decide) rfl ?_
    refine mw_iconst (pc' := 14) dL_writeNameReversed_13 rfl ⟨by decide, by decide⟩ ?_
    exact mw_iret (pc' := 0) (S := []) dL_writeNameReversed_14 rfl (Or.inl rfl) hq
theorem kM_X11_advance : CM mX11_advance 1 := ⟨(goodW 904 (by decide +kernel) rfl), (goodW 1 (by decide +kernel) rfl), ⟨by decide, by decide⟩, by decide +kernel, rfl⟩
theorem kV_X11_advance : CV mX11_advance := ⟨(goodW 902 (by decide +kernel) rfl), (goodW 903 (by decide +kernel) rfl)⟩
theorem wr_advance {x1 : Int} {g : mG} {d : mD} {Q : mQ} (h : MM mX11_advance [vR 0, vI x1] g d (fun o g' d' => match o with | .inl v => Q (.inl 0) g' (ud d' 74 0 v) | .inr k => LX [2, 1] k Q g' d')) : MM mL_advance [vR 0, vI x1, vR 74] g d Q := by
  refine MM_of (by decide) rfl (by simp [catV]) (Nat.le_of_ble_eq_true rfl) ?_
  show MW mL_advance 47 8228 0 [(0, vR 0), (1, vI x1), (2, vR 74)] [] g d Q
  refine mw_top (fun hT => ?_)
  have hG : 76 ≤ g.2.1 := hT.2
  refine mw_aload_n (v := vR 74) (pc' := 1) dL_advance_0 rfl rfl (Or.inl rfl) rfl ?_
  refine mw_iconst (pc' := 2) dL_advance_1 rfl ⟨by decide, by decide⟩ ?_
  refine mw_aload_n (v := vR 0) (pc' := 3) dL_advance_2 rfl rfl (Or.inl rfl) rfl ?_
  refine mw_iload_n (pc' := 4) dL_advance_3 rfl rfl rfl ?_
  refine mw_callV (M' := mX11_advance) (A := [vI x1]) (A' := [vR 0, vI x1]) (S := [vI 0, vR 74]) (a := 0) (pc' := 7) dL_advance_4 rfl (Or.inl (goodW 901 (by decide +kernel) rfl)) kM_X11_advance kV_X11_advance ⟨by decide, by decide, by decide, by decide, by decide⟩ rfl rfl rfl ⟨by decide, by omega⟩ (by decide +kernel) (by decide +kernel) (Nat.le_of_ble_eq_true rfl) (MM.mono ?_ h)
  intro o g1 d1 h1
  rcases o with v | k
  · show MW mL_advance 0 0 7 [(0, vR 0), (1, vI x1), (2, vR 74)] [vI v, vI 0, vR 74] g1 d1 Q
    refine mw_i2l (pc' := 8) dL_advance_7 rfl ?_
    refine mw_last (pc' := 9) dL_advance_8 rfl (by decide +kernel) ⟨by decide, by decide⟩ (by rw [show LN 74 = 1 by decide +kernel]; exact ⟨by decide, by decide⟩) ?_
    refine mw_goto (pc' := 0) (tgt := 18) dL_advance_9 (by decide) ?_
    refine mw_iconst (pc' := 19) dL_advance_18 rfl ⟨by decide, by decide⟩ ?_
    exact mw_iret (pc' := 0) (S := []) dL_advance_19 rfl (Or.inl rfl) h1
  · obtain ⟨hk, hq⟩ := h1
    rcases (show k = 2 ∨ k = 1 by simpa using hk) with hk | hk
    · subst hk
      refine mx_catch (k := 2) (k1 := 0) [] ⟨0, 9, 12, 19⟩ [⟨0, 9, 15, 13⟩] rfl (fun _ hz => absurd hz List.not_mem_nil) rfl (by decide) kc_2 ka_2 (fun q => ?_)
      refine mw_astore_n (v := (7, q)) (pc' := 13) (L' := [(0, vR 0), (1, vI x1), (2, vR 74), (3, (7, q))]) dL_advance_12 rfl rfl (by simp) (by decide) rfl ?_
      refine mw_iconst (pc' := 14) dL_advance_13 rfl ⟨by decide, by decide⟩ ?_
      exact mw_iret (pc' := 0) (S := []) dL_advance_14 rfl (Or.inl rfl) hq
    · subst hk
      refine mx_catch (k := 1) (k1 := 0) [⟨0, 9, 12, 19⟩] ⟨0, 9, 15, 13⟩ [] rfl (List.forall_mem_cons.mpr ⟨⟨by decide, 0, 1, by decide, by decide, by decide, rfl, kc_2⟩, (fun _ hz => absurd hz List.not_mem_nil)⟩) rfl (by decide) kc_1 ka_1 (fun q => ?_)
      refine mw_astore_n (v := (7, q)) (pc' := 16) (L' := [(0, vR 0), (1, vI x1), (2, vR 74), (3, (7, q))]) dL_advance_15 rfl rfl (by simp) (by decide) rfl ?_
      refine mw_iconst (pc' := 17) dL_advance_16 rfl ⟨by decide, by decide⟩ ?_
      exact mw_iret (pc' := 0) (S := []) dL_advance_17 rfl (Or.inl rfl) hq
theorem kM_X11_weekday : CM mX11_weekday 1 := ⟨(goodW 915 (by decide +kernel) rfl), (goodW 1 (by decide +kernel) rfl), ⟨by decide, by decide⟩, by decide +kernel, rfl⟩
theorem kV_X11_weekday : CV mX11_weekday := ⟨(goodW 913 (by decide +kernel) rfl), (goodW 914 (by decide +kernel) rfl)⟩
theorem wr_weekday {x1 : Int} {g : mG} {d : mD} {Q : mQ} (h : MM mX11_weekday [vR 0, vI x1] g d (fun o g' d' => match o with | .inl v => Q (.inl 0) g' (ud d' 74 0 v) | .inr k => LX [2] k Q g' d')) : MM mL_weekday [vR 0, vI x1, vR 74] g d Q := by
  refine MM_of (by decide) rfl (by simp [catV]) (Nat.le_of_ble_eq_true rfl) ?_
  show MW mL_weekday 1 6 0 [(0, vR 0), (1, vI x1), (2, vR 74)] [] g d Q
  refine mw_top (fun hT => ?_)
  have hG : 76 ≤ g.2.1 := hT.2
  refine mw_aload_n (v := vR 74) (pc' := 1) dL_weekday_0 rfl rfl (Or.inl rfl) rfl ?_
  refine mw_iconst (pc' := 2) dL_weekday_1 rfl ⟨by decide, by decide⟩ ?_
  refine mw_aload_n (v := vR 0) (pc' := 3) dL_weekday_2 rfl rfl (Or.inl rfl) rfl ?_
  refine mw_iload_n (pc' := 4) dL_weekday_3 rfl rfl rfl ?_
  refine mw_callV (M' := mX11_weekday) (A := [vI x1]) (A' := [vR 0, vI x1]) (S := [vI 0, vR 74]) (a := 0) (pc' := 7) dL_weekday_4 rfl (Or.inl (goodW 912 (by decide +kernel) rfl)) kM_X11_weekday kV_X11_weekday ⟨by decide, by decide, by decide, by decide, by decide⟩ rfl rfl rfl ⟨by decide, by omega⟩ (by decide +kernel) (by decide +kernel) (Nat.le_of_ble_eq_true rfl) (MM.mono ?_ h)
  intro o g1 d1 h1
  rcases o with v | k
  · show MW mL_weekday 0 0 7 [(0, vR 0), (1, vI x1), (2, vR 74)] [vI v, vI 0, vR 74] g1 d1 Q
    refine mw_i2l (pc' := 8) dL_weekday_7 rfl ?_
    refine mw_last (pc' := 9) dL_weekday_8 rfl (by decide +kernel) ⟨by decide, by decide⟩ (by rw [show LN 74 = 1 by decide +kernel]; exact ⟨by decide, by decide⟩) ?_
    refine mw_goto (pc' := 0) (tgt := 15) dL_weekday_9 (by decide) ?_
    refine mw_iconst (pc' := 16) dL_weekday_15 rfl ⟨by decide, by decide⟩ ?_
    exact mw_iret (pc' := 0) (S := []) dL_weekday_16 rfl (Or.inl rfl) h1
  · obtain ⟨hk, hq⟩ := h1
    have hk := List.mem_singleton.mp hk
    subst hk
    refine mx_catch (k := 2) (k1 := 0) [] ⟨0, 9, 12, 19⟩ [] rfl (fun _ hz => absurd hz List.not_mem_nil) rfl (by decide) kc_2 ka_2 (fun q => ?_)
    refine mw_astore_n (v := (7, q)) (pc' := 13) (L' := [(0, vR 0), (1, vI x1), (2, vR 74), (3, (7, q))]) dL_weekday_12 rfl rfl (by simp) (by decide) rfl ?_
    refine mw_iconst (pc' := 14) dL_weekday_13 rfl ⟨by decide, by decide⟩ ?_
    exact mw_iret (pc' := 0) (S := []) dL_weekday_14 rfl (Or.inl rfl) hq
theorem kM_X11_isCourtDay : CM mX11_isCourtDay 1 := ⟨(goodW 927 (by decide +kernel) rfl), (goodW 1 (by decide +kernel) rfl), ⟨by decide, by decide⟩, by decide +kernel, rfl⟩
theorem kV_X11_isCourtDay : CV mX11_isCourtDay := ⟨(goodW 925 (by decide +kernel) rfl), (goodW 926 (by decide +kernel) rfl)⟩
theorem wr_isCourtDay {x1 : Int} {g : mG} {d : mD} {Q : mQ} (h : MM mX11_isCourtDay [vR 0, vI x1] g d (fun o g' d' => match o with | .inl v => (v = 0 → Q (.inl 0) g' (ud d' 74 0 0)) ∧ (¬ v = 0 → Q (.inl 0) g' (ud d' 74 0 1)) | .inr k => LX [2] k Q g' d')) : MM mL_isCourtDay [vR 0, vI x1, vR 74] g d Q := by
  refine MM_of (by decide) rfl (by simp [catV]) (Nat.le_of_ble_eq_true rfl) ?_
  show MW mL_isCourtDay 1 6 0 [(0, vR 0), (1, vI x1), (2, vR 74)] [] g d Q
  refine mw_top (fun hT => ?_)
  have hG : 76 ≤ g.2.1 := hT.2
  refine mw_aload_n (v := vR 74) (pc' := 1) dL_isCourtDay_0 rfl rfl (Or.inl rfl) rfl ?_
  refine mw_iconst (pc' := 2) dL_isCourtDay_1 rfl ⟨by decide, by decide⟩ ?_
  refine mw_aload_n (v := vR 0) (pc' := 3) dL_isCourtDay_2 rfl rfl (Or.inl rfl) rfl ?_
  refine mw_iload_n (pc' := 4) dL_isCourtDay_3 rfl rfl rfl ?_
  refine mw_callV (M' := mX11_isCourtDay) (A := [vI x1]) (A' := [vR 0, vI x1]) (S := [vI 0, vR 74]) (a := 0) (pc' := 7) dL_isCourtDay_4 rfl (Or.inl (goodW 924 (by decide +kernel) rfl)) kM_X11_isCourtDay kV_X11_isCourtDay ⟨by decide, by decide, by decide, by decide, by decide⟩ rfl rfl rfl ⟨by decide, by omega⟩ (by decide +kernel) (by decide +kernel) (Nat.le_of_ble_eq_true rfl) (MM.mono ?_ h)
  intro o g1 d1 h1
  rcases o with v | k
  · show MW mL_isCourtDay 0 0 7 [(0, vR 0), (1, vI x1), (2, vR 74)] [vI v, vI 0, vR 74] g1 d1 Q
    refine mw_if_eq (tgt := 14) (pc' := 10) dL_isCourtDay_7 rfl (by decide) (fun c => ?_) (fun c => ?_)
    · refine mw_lconst0 (pc' := 15) dL_isCourtDay_14 rfl ?_
      refine mw_last (pc' := 16) dL_isCourtDay_15 rfl (by decide +kernel) ⟨by decide, by decide⟩ (by rw [show LN 74 = 1 by decide +kernel]; exact ⟨by decide, by decide⟩) ?_
      refine mw_goto (pc' := 0) (tgt := 22) dL_isCourtDay_16 (by decide) ?_
      refine mw_iconst (pc' := 23) dL_isCourtDay_22 rfl ⟨by decide, by decide⟩ ?_
      exact mw_iret (pc' := 0) (S := []) dL_isCourtDay_23 rfl (Or.inl rfl) (h1.1 c)
    · refine mw_lconst1 (pc' := 11) dL_isCourtDay_10 rfl ?_
      refine mw_goto (pc' := 0) (tgt := 15) dL_isCourtDay_11 (by decide) ?_
      refine mw_last (pc' := 16) dL_isCourtDay_15 rfl (by decide +kernel) ⟨by decide, by decide⟩ (by rw [show LN 74 = 1 by decide +kernel]; exact ⟨by decide, by decide⟩) ?_
      refine mw_goto (pc' := 0) (tgt := 22) dL_isCourtDay_16 (by decide) ?_
      refine mw_iconst (pc' := 23) dL_isCourtDay_22 rfl ⟨by decide, by decide⟩ ?_
      exact mw_iret (pc' := 0) (S := []) dL_isCourtDay_23 rfl (Or.inl rfl) (h1.2 c)
  · obtain ⟨hk, hq⟩ := h1
    have hk := List.mem_singleton.mp hk
    subst hk
    refine mx_catch (k := 2) (k1 := 0) [] ⟨0, 16, 19, 19⟩ [] rfl (fun _ hz => absurd hz List.not_mem_nil) rfl (by decide) kc_2 ka_2 (fun q => ?_)
    refine mw_astore_n (v := (7, q)) (pc' := 20) (L' := [(0, vR 0), (1, vI x1), (2, vR 74), (3, (7, q))]) dL_isCourtDay_19 rfl rfl (by simp) (by decide) rfl ?_
    refine mw_iconst (pc' := 21) dL_isCourtDay_20 rfl ⟨by decide, by decide⟩ ?_
    exact mw_iret (pc' := 0) (S := []) dL_isCourtDay_21 rfl (Or.inl rfl) hq
theorem kM_X11_addHoliday : CM mX11_addHoliday 1 := ⟨(goodW 935 (by decide +kernel) rfl), (goodW 1 (by decide +kernel) rfl), ⟨by decide, by decide⟩, by decide +kernel, rfl⟩
theorem kV_X11_addHoliday : CV mX11_addHoliday := ⟨(goodW 933 (by decide +kernel) rfl), (goodW 934 (by decide +kernel) rfl)⟩
theorem wr_addHoliday {x1 : Int} {g : mG} {d : mD} {Q : mQ} (h : MM mX11_addHoliday [vR 0, vI x1] g d (fun o g' d' => match o with | .inl v => Q (.inl 0) g' (ud d' 74 0 v) | .inr k => LX [2, 1] k Q g' d')) : MM mL_addHoliday [vR 0, vI x1, vR 74] g d Q := by
  refine MM_of (by decide) rfl (by simp [catV]) (Nat.le_of_ble_eq_true rfl) ?_
  show MW mL_addHoliday 47 8228 0 [(0, vR 0), (1, vI x1), (2, vR 74)] [] g d Q
  refine mw_top (fun hT => ?_)
  have hG : 76 ≤ g.2.1 := hT.2
  refine mw_aload_n (v := vR 74) (pc' := 1) dL_addHoliday_0 rfl rfl (Or.inl rfl) rfl ?_
  refine mw_iconst (pc' := 2) dL_addHoliday_1 rfl ⟨by decide, by decide⟩ ?_
  refine mw_aload_n (v := vR 0) (pc' := 3) dL_addHoliday_2 rfl rfl (Or.inl rfl) rfl ?_
  refine mw_iload_n (pc' := 4) dL_addHoliday_3 rfl rfl rfl ?_
  refine mw_callV (M' := mX11_addHoliday) (A := [vI x1]) (A' := [vR 0, vI x1]) (S := [vI 0, vR 74]) (a := 0) (pc' := 7) dL_addHoliday_4 rfl (Or.inl (goodW 932 (by decide +kernel) rfl)) kM_X11_addHoliday kV_X11_addHoliday ⟨by decide, by decide, by decide, by decide, by decide⟩ rfl rfl rfl ⟨by decide, by omega⟩ (by decide +kernel) (by decide +kernel) (Nat.le_of_ble_eq_true rfl) (MM.mono ?_ h)
  intro o g1 d1 h1
  rcases o with v | k
  · show MW mL_addHoliday 0 0 7 [(0, vR 0), (1, vI x1), (2, vR 74)] [vI v, vI 0, vR 74] g1 d1 Q
    refine mw_i2l (pc' := 8) dL_addHoliday_7 rfl ?_
    refine mw_last (pc' := 9) dL_addHoliday_8 rfl (by decide +kernel) ⟨by decide, by decide⟩ (by rw [show LN 74 = 1 by decide +kernel]; exact ⟨by decide, by decide⟩) ?_
    refine mw_goto (pc' := 0) (tgt := 18) dL_addHoliday_9 (by decide) ?_
    refine mw_iconst (pc' := 19) dL_addHoliday_18 rfl ⟨by decide, by decide⟩ ?_
    exact mw_iret (pc' := 0) (S := []) dL_addHoliday_19 rfl (Or.inl rfl) h1
  · obtain ⟨hk, hq⟩ := h1
    rcases (show k = 2 ∨ k = 1 by simpa using hk) with hk | hk
    · subst hk
      refine mx_catch (k := 2) (k1 := 0) [] ⟨0, 9, 12, 19⟩ [⟨0, 9, 15, 13⟩] rfl (fun _ hz => absurd hz List.not_mem_nil) rfl (by decide) kc_2 ka_2 (fun q => ?_)
      refine mw_astore_n (v := (7, q)) (pc' := 13) (L' := [(0, vR 0), (1, vI x1), (2, vR 74), (3, (7, q))]) dL_addHoliday_12 rfl rfl (by simp) (by decide) rfl ?_
      refine mw_iconst (pc' := 14) dL_addHoliday_13 rfl ⟨by decide, by decide⟩ ?_
      exact mw_iret (pc' := 0) (S := []) dL_addHoliday_14 rfl (Or.inl rfl) hq
    · subst hk
      refine mx_catch (k := 1) (k1 := 0) [⟨0, 9, 12, 19⟩] ⟨0, 9, 15, 13⟩ [] rfl (List.forall_mem_cons.mpr ⟨⟨by decide, 0, 1, by decide, by decide, by decide, rfl, kc_2⟩, (fun _ hz => absurd hz List.not_mem_nil)⟩) rfl (by decide) kc_1 ka_1 (fun q => ?_)
      refine mw_astore_n (v := (7, q)) (pc' := 16) (L' := [(0, vR 0), (1, vI x1), (2, vR 74), (3, (7, q))]) dL_addHoliday_15 rfl rfl (by simp) (by decide) rfl ?_
      refine mw_iconst (pc' := 17) dL_addHoliday_16 rfl ⟨by decide, by decide⟩ ?_
      exact mw_iret (pc' := 0) (S := []) dL_addHoliday_17 rfl (Or.inl rfl) hq
theorem kM_X11_removeHoliday : CM mX11_removeHoliday 1 := ⟨(goodW 954 (by decide +kernel) rfl), (goodW 1 (by decide +kernel) rfl), ⟨by decide, by decide⟩, by decide +kernel, rfl⟩
theorem kV_X11_removeHoliday : CV mX11_removeHoliday := ⟨(goodW 952 (by decide +kernel) rfl), (goodW 953 (by decide +kernel) rfl)⟩
theorem wr_removeHoliday {x1 : Int} {g : mG} {d : mD} {Q : mQ} (h : MM mX11_removeHoliday [vR 0, vI x1] g d (fun o g' d' => match o with | .inl v => Q (.inl 0) g' (ud d' 74 0 v) | .inr k => LX [2, 4] k Q g' d')) : MM mL_removeHoliday [vR 0, vI x1, vR 74] g d Q := by
  refine MM_of (by decide) rfl (by simp [catV]) (Nat.le_of_ble_eq_true rfl) ?_
  show MW mL_removeHoliday 47 8228 0 [(0, vR 0), (1, vI x1), (2, vR 74)] [] g d Q
  refine mw_top (fun hT => ?_)
  have hG : 76 ≤ g.2.1 := hT.2
  refine mw_aload_n (v := vR 74) (pc' := 1) dL_removeHoliday_0 rfl rfl (Or.inl rfl) rfl ?_
  refine mw_iconst (pc' := 2) dL_removeHoliday_1 rfl ⟨by decide, by decide⟩ ?_
  refine mw_aload_n (v := vR 0) (pc' := 3) dL_removeHoliday_2 rfl rfl (Or.inl rfl) rfl ?_
  refine mw_iload_n (pc' := 4) dL_removeHoliday_3 rfl rfl rfl ?_
  refine mw_callV (M' := mX11_removeHoliday) (A := [vI x1]) (A' := [vR 0, vI x1]) (S := [vI 0, vR 74]) (a := 0) (pc' := 7) dL_removeHoliday_4 rfl (Or.inl (goodW 951 (by decide +kernel) rfl)) kM_X11_removeHoliday kV_X11_removeHoliday ⟨by decide, by decide, by decide, by decide, by decide⟩ rfl rfl rfl ⟨by decide, by omega⟩ (by decide +kernel) (by decide +kernel) (Nat.le_of_ble_eq_true rfl) (MM.mono ?_ h)
  intro o g1 d1 h1
  rcases o with v | k
  · show MW mL_removeHoliday 0 0 7 [(0, vR 0), (1, vI x1), (2, vR 74)] [vI v, vI 0, vR 74] g1 d1 Q
    refine mw_i2l (pc' := 8) dL_removeHoliday_7 rfl ?_
    refine mw_last (pc' := 9) dL_removeHoliday_8 rfl (by decide +kernel) ⟨by decide, by decide⟩ (by rw [show LN 74 = 1 by decide +kernel]; exact ⟨by decide, by decide⟩) ?_
    refine mw_goto (pc' := 0) (tgt := 18) dL_removeHoliday_9 (by decide) ?_
    refine mw_iconst (pc' := 19) dL_removeHoliday_18 rfl ⟨by decide, by decide⟩ ?_
    exact mw_iret (pc' := 0) (S := []) dL_removeHoliday_19 rfl (Or.inl rfl) h1
  · obtain ⟨hk, hq⟩ := h1
    rcases (show k = 2 ∨ k = 4 by simpa using hk) with hk | hk
    · subst hk
      refine mx_catch (k := 2) (k1 := 0) [] ⟨0, 9, 12, 19⟩ [⟨0, 9, 15, 24⟩] rfl (fun _ hz => absurd hz List.not_mem_nil) rfl (by decide) kc_2 ka_2 (fun q => ?_)
      refine mw_astore_n (v := (7, q)) (pc' := 13) (L' := [(0, vR 0), (1, vI x1), (2, vR 74), (3, (7, q))]) dL_removeHoliday_12 rfl rfl (by simp) (by decide) rfl ?_
      refine mw_iconst (pc' := 14) dL_removeHoliday_13 rfl ⟨by decide, by decide⟩ ?_
      exact mw_iret (pc' := 0) (S := []) dL_removeHoliday_14 rfl (Or.inl rfl) hq
    · subst hk
      refine mx_catch (k := 4) (k1 := 0) [⟨0, 9, 12, 19⟩] ⟨0, 9, 15, 24⟩ [] rfl (List.forall_mem_cons.mpr ⟨⟨by decide, 3, 1, by decide, by decide, by decide, rfl, kc_2⟩, (fun _ hz => absurd hz List.not_mem_nil)⟩) rfl (by decide) kc_4 ka_4 (fun q => ?_)
      refine mw_astore_n (v := (7, q)) (pc' := 16) (L' := [(0, vR 0), (1, vI x1), (2, vR 74), (3, (7, q))]) dL_removeHoliday_15 rfl rfl (by simp) (by decide) rfl ?_
      refine mw_iconst (pc' := 17) dL_removeHoliday_16 rfl ⟨by decide, by decide⟩ ?_
      exact mw_iret (pc' := 0) (S := []) dL_removeHoliday_17 rfl (Or.inl rfl) hq
theorem kM_X11_courtDays : CM mX11_courtDays 2 := ⟨(goodW 969 (by decide +kernel) rfl), (goodW 1 (by decide +kernel) rfl), ⟨by decide, by decide⟩, by decide +kernel, rfl⟩
theorem kV_X11_courtDays : CV mX11_courtDays := ⟨(goodW 967 (by decide +kernel) rfl), (goodW 968 (by decide +kernel) rfl)⟩
theorem wr_courtDays {x1 x2 : Int} {g : mG} {d : mD} {Q : mQ} (h : MM mX11_courtDays [vR 0, vI x1, vI x2] g d (fun o g' d' => match o with | .inl v => Q (.inl 0) g' (ud d' 74 0 v) | .inr k => LX [2] k Q g' d')) : MM mL_courtDays [vR 0, vI x1, vI x2, vR 74] g d Q := by
  refine MM_of (by decide) rfl (by simp [catV]) (Nat.le_of_ble_eq_true rfl) ?_
  show MW mL_courtDays 1 6 0 [(0, vR 0), (1, vI x1), (2, vI x2), (3, vR 74)] [] g d Q
  refine mw_top (fun hT => ?_)
  have hG : 76 ≤ g.2.1 := hT.2
  refine mw_aload_n (v := vR 74) (pc' := 1) dL_courtDays_0 rfl rfl (Or.inl rfl) rfl ?_
  refine mw_iconst (pc' := 2) dL_courtDays_1 rfl ⟨by decide, by decide⟩ ?_
  refine mw_aload_n (v := vR 0) (pc' := 3) dL_courtDays_2 rfl rfl (Or.inl rfl) rfl ?_
  refine mw_iload_n (pc' := 4) dL_courtDays_3 rfl rfl rfl ?_
  refine mw_iload_n (pc' := 5) dL_courtDays_4 rfl rfl rfl ?_
  refine mw_callV (M' := mX11_courtDays) (A := [vI x1, vI x2]) (A' := [vR 0, vI x1, vI x2]) (S := [vI 0, vR 74]) (a := 0) (pc' := 8) dL_courtDays_5 rfl (Or.inl (goodW 966 (by decide +kernel) rfl)) kM_X11_courtDays kV_X11_courtDays ⟨by decide, by decide, by decide, by decide, by decide⟩ rfl rfl rfl ⟨by decide, by omega⟩ (by decide +kernel) (by decide +kernel) (Nat.le_of_ble_eq_true rfl) (MM.mono ?_ h)
  intro o g1 d1 h1
  rcases o with v | k
  · show MW mL_courtDays 0 0 8 [(0, vR 0), (1, vI x1), (2, vI x2), (3, vR 74)] [vI v, vI 0, vR 74] g1 d1 Q
    refine mw_i2l (pc' := 9) dL_courtDays_8 rfl ?_
    refine mw_last (pc' := 10) dL_courtDays_9 rfl (by decide +kernel) ⟨by decide, by decide⟩ (by rw [show LN 74 = 1 by decide +kernel]; exact ⟨by decide, by decide⟩) ?_
    refine mw_goto (pc' := 0) (tgt := 17) dL_courtDays_10 (by decide) ?_
    refine mw_iconst (pc' := 18) dL_courtDays_17 rfl ⟨by decide, by decide⟩ ?_
    exact mw_iret (pc' := 0) (S := []) dL_courtDays_18 rfl (Or.inl rfl) h1
  · obtain ⟨hk, hq⟩ := h1
    have hk := List.mem_singleton.mp hk
    subst hk
    refine mx_catch (k := 2) (k1 := 0) [] ⟨0, 10, 13, 19⟩ [] rfl (fun _ hz => absurd hz List.not_mem_nil) rfl (by decide) kc_2 ka_2 (fun q => ?_)
    refine mw_astore (v := (7, q)) (pc' := 15) (L' := [(0, vR 0), (1, vI x1), (2, vI x2), (3, vR 74), (4, (7, q))]) dL_courtDays_13 rfl (by simp) (by decide) rfl ?_
    refine mw_iconst (pc' := 16) dL_courtDays_15 rfl ⟨by decide, by decide⟩ ?_
    exact mw_iret (pc' := 0) (S := []) dL_courtDays_16 rfl (Or.inl rfl) hq
theorem kM_X11_courtDaysByMarking : CM mX11_courtDaysByMarking 2 := ⟨(goodW 980 (by decide +kernel) rfl), (goodW 1 (by decide +kernel) rfl), ⟨by decide, by decide⟩, by decide +kernel, rfl⟩
theorem kV_X11_courtDaysByMarking : CV mX11_courtDaysByMarking := ⟨(goodW 978 (by decide +kernel) rfl), (goodW 979 (by decide +kernel) rfl)⟩
theorem wr_courtDaysByMarking {x1 x2 : Int} {g : mG} {d : mD} {Q : mQ} (h : MM mX11_courtDaysByMarking [vR 0, vI x1, vI x2] g d (fun o g' d' => match o with | .inl v => Q (.inl 0) g' (ud d' 74 0 v) | .inr k => LX [2] k Q g' d')) : MM mL_courtDaysByMarking [vR 0, vI x1, vI x2, vR 74] g d Q := by
  refine MM_of (by decide) rfl (by simp [catV]) (Nat.le_of_ble_eq_true rfl) ?_
  show MW mL_courtDaysByMarking 1 6 0 [(0, vR 0), (1, vI x1), (2, vI x2), (3, vR 74)] [] g d Q
  refine mw_top (fun hT => ?_)
  have hG : 76 ≤ g.2.1 := hT.2
  refine mw_aload_n (v := vR 74) (pc' := 1) dL_courtDaysByMarking_0 rfl rfl (Or.inl rfl) rfl ?_
  refine mw_iconst (pc' := 2) dL_courtDaysByMarking_1 rfl ⟨by decide, by decide⟩ ?_
  refine mw_aload_n (v := vR 0) (pc' := 3) dL_courtDaysByMarking_2 rfl rfl (Or.inl rfl) rfl ?_
  refine mw_iload_n (pc' := 4) dL_courtDaysByMarking_3 rfl rfl rfl ?_
  refine mw_iload_n (pc' := 5) dL_courtDaysByMarking_4 rfl rfl rfl ?_
  refine mw_callV (M' := mX11_courtDaysByMarking) (A := [vI x1, vI x2]) (A' := [vR 0, vI x1, vI x2]) (S := [vI 0, vR 74]) (a := 0) (pc' := 8) dL_courtDaysByMarking_5 rfl (Or.inl (goodW 977 (by decide +kernel) rfl)) kM_X11_courtDaysByMarking kV_X11_courtDaysByMarking ⟨by decide, by decide, by decide, by decide, by decide⟩ rfl rfl rfl ⟨by decide, by omega⟩ (by decide +kernel) (by decide +kernel) (Nat.le_of_ble_eq_true rfl) (MM.mono ?_ h)
  intro o g1 d1 h1
  rcases o with v | k
  · show MW mL_courtDaysByMarking 0 0 8 [(0, vR 0), (1, vI x1), (2, vI x2), (3, vR 74)] [vI v, vI 0, vR 74] g1 d1 Q
    refine mw_i2l (pc' := 9) dL_courtDaysByMarking_8 rfl ?_
    refine mw_last (pc' := 10) dL_courtDaysByMarking_9 rfl (by decide +kernel) ⟨by decide, by decide⟩ (by rw [show LN 74 = 1 by decide +kernel]; exact ⟨by decide, by decide⟩) ?_
    refine mw_goto (pc' := 0) (tgt := 17) dL_courtDaysByMarking_10 (by decide) ?_
    refine mw_iconst (pc' := 18) dL_courtDaysByMarking_17 rfl ⟨by decide, by decide⟩ ?_
    exact mw_iret (pc' := 0) (S := []) dL_courtDaysByMarking_18 rfl (Or.inl rfl) h1
  · obtain ⟨hk, hq⟩ := h1
    have hk := List.mem_singleton.mp hk
    subst hk
    refine mx_catch (k := 2) (k1 := 0) [] ⟨0, 10, 13, 19⟩ [] rfl (fun _ hz => absurd hz List.not_mem_nil) rfl (by decide) kc_2 ka_2 (fun q => ?_)
    refine mw_astore (v := (7, q)) (pc' := 15) (L' := [(0, vR 0), (1, vI x1), (2, vI x2), (3, vR 74), (4, (7, q))]) dL_courtDaysByMarking_13 rfl (by simp) (by decide) rfl ?_
    refine mw_iconst (pc' := 16) dL_courtDaysByMarking_15 rfl ⟨by decide, by decide⟩ ?_
    exact mw_iret (pc' := 0) (S := []) dL_courtDaysByMarking_16 rfl (Or.inl rfl) hq
theorem kM_X11_setRule : CM mX11_setRule 3 := ⟨(goodW 987 (by decide +kernel) rfl), (goodW 1 (by decide +kernel) rfl), ⟨by decide, by decide⟩, by decide +kernel, rfl⟩
theorem kV_X11_setRule : CV mX11_setRule := ⟨(goodW 985 (by decide +kernel) rfl), (goodW 986 (by decide +kernel) rfl)⟩
theorem wr_setRule {x1 x2 x3 : Int} {g : mG} {d : mD} {Q : mQ} (h : MM mX11_setRule [vR 0, vI x1, vI x2, vI x3] g d (fun o g' d' => match o with | .inl v => Q (.inl 0) g' (ud d' 74 0 v) | .inr k => LX [3, 2] k Q g' d')) : MM mL_setRule [vR 0, vI x1, vI x2, vI x3, vR 74] g d Q := by
  refine MM_of (by decide) rfl (by simp [catV]) (Nat.le_of_ble_eq_true rfl) ?_
  show MW mL_setRule 47 8228 0 [(0, vR 0), (1, vI x1), (2, vI x2), (3, vI x3), (4, vR 74)] [] g d Q
  refine mw_top (fun hT => ?_)
  have hG : 76 ≤ g.2.1 := hT.2
  refine mw_aload (v := vR 74) (pc' := 2) dL_setRule_0 rfl (Or.inl rfl) rfl ?_
  refine mw_iconst (pc' := 3) dL_setRule_2 rfl ⟨by decide, by decide⟩ ?_
  refine mw_aload_n (v := vR 0) (pc' := 4) dL_setRule_3 rfl rfl (Or.inl rfl) rfl ?_
  refine mw_iload_n (pc' := 5) dL_setRule_4 rfl rfl rfl ?_
  refine mw_iload_n (pc' := 6) dL_setRule_5 rfl rfl rfl ?_
  refine mw_iload_n (pc' := 7) dL_setRule_6 rfl rfl rfl ?_
  refine mw_callV (M' := mX11_setRule) (A := [vI x1, vI x2, vI x3]) (A' := [vR 0, vI x1, vI x2, vI x3]) (S := [vI 0, vR 74]) (a := 0) (pc' := 10) dL_setRule_7 rfl (Or.inl (goodW 984 (by decide +kernel) rfl)) kM_X11_setRule kV_X11_setRule ⟨by decide, by decide, by decide, by decide, by decide⟩ rfl rfl rfl ⟨by decide, by omega⟩ (by decide +kernel) (by decide +kernel) (Nat.le_of_ble_eq_true rfl) (MM.mono ?_ h)
  intro o g1 d1 h1
  rcases o with v | k
  · show MW mL_setRule 0 0 10 [(0, vR 0), (1, vI x1), (2, vI x2), (3, vI x3), (4, vR 74)] [vI v, vI 0, vR 74] g1 d1 Q
    refine mw_i2l (pc' := 11) dL_setRule_10 rfl ?_
    refine mw_last (pc' := 12) dL_setRule_11 rfl (by decide +kernel) ⟨by decide, by decide⟩ (by rw [show LN 74 = 1 by decide +kernel]; exact ⟨by decide, by decide⟩) ?_
    refine mw_goto (pc' := 0) (tgt := 23) dL_setRule_12 (by decide) ?_
    refine mw_iconst (pc' := 24) dL_setRule_23 rfl ⟨by decide, by decide⟩ ?_
    exact mw_iret (pc' := 0) (S := []) dL_setRule_24 rfl (Or.inl rfl) h1
  · obtain ⟨hk, hq⟩ := h1
    rcases (show k = 3 ∨ k = 2 by simpa using hk) with hk | hk
    · subst hk
      refine mx_catch (k := 3) (k1 := 0) [] ⟨0, 12, 15, 30⟩ [⟨0, 12, 19, 19⟩] rfl (fun _ hz => absurd hz List.not_mem_nil) rfl (by decide) kc_3 ka_3 (fun q => ?_)
      refine mw_astore (v := (7, q)) (pc' := 17) (L' := [(0, vR 0), (1, vI x1), (2, vI x2), (3, vI x3), (4, vR 74), (5, (7, q))]) dL_setRule_15 rfl (by simp) (by decide) rfl ?_
      refine mw_iconst (pc' := 18) dL_setRule_17 rfl ⟨by decide, by decide⟩ ?_
      exact mw_iret (pc' := 0) (S := []) dL_setRule_18 rfl (Or.inl rfl) hq
    · subst hk
      refine mx_catch (k := 2) (k1 := 0) [⟨0, 12, 15, 30⟩] ⟨0, 12, 19, 19⟩ [] rfl (List.forall_mem_cons.mpr ⟨⟨by decide, 1, 2, by decide, by decide, by decide, rfl, kc_3⟩, (fun _ hz => absurd hz List.not_mem_nil)⟩) rfl (by decide) kc_2 ka_2 (fun q => ?_)
      refine mw_astore (v := (7, q)) (pc' := 21) (L' := [(0, vR 0), (1, vI x1), (2, vI x2), (3, vI x3), (4, vR 74), (5, (7, q))]) dL_setRule_19 rfl (by simp) (by decide) rfl ?_
      refine mw_iconst (pc' := 22) dL_setRule_21 rfl ⟨by decide, by decide⟩ ?_
      exact mw_iret (pc' := 0) (S := []) dL_setRule_22 rfl (Or.inl rfl) hq
theorem kM_X11_ruleLength : CM mX11_ruleLength 1 := ⟨(goodW 1001 (by decide +kernel) rfl), (goodW 1 (by decide +kernel) rfl), ⟨by decide, by decide⟩, by decide +kernel, rfl⟩
theorem kV_X11_ruleLength : CV mX11_ruleLength := ⟨(goodW 999 (by decide +kernel) rfl), (goodW 1000 (by decide +kernel) rfl)⟩
theorem wr_ruleLength {x1 : Int} {g : mG} {d : mD} {Q : mQ} (h : MM mX11_ruleLength [vR 0, vI x1] g d (fun o g' d' => match o with | .inl v => Q (.inl 0) g' (ud d' 74 0 v) | .inr k => LX [3] k Q g' d')) : MM mL_ruleLength [vR 0, vI x1, vR 74] g d Q := by
  refine MM_of (by decide) rfl (by simp [catV]) (Nat.le_of_ble_eq_true rfl) ?_
  show MW mL_ruleLength 1 6 0 [(0, vR 0), (1, vI x1), (2, vR 74)] [] g d Q
  refine mw_top (fun hT => ?_)
  have hG : 76 ≤ g.2.1 := hT.2
  refine mw_aload_n (v := vR 74) (pc' := 1) dL_ruleLength_0 rfl rfl (Or.inl rfl) rfl ?_
  refine mw_iconst (pc' := 2) dL_ruleLength_1 rfl ⟨by decide, by decide⟩ ?_
  refine mw_aload_n (v := vR 0) (pc' := 3) dL_ruleLength_2 rfl rfl (Or.inl rfl) rfl ?_
  refine mw_iload_n (pc' := 4) dL_ruleLength_3 rfl rfl rfl ?_
  refine mw_callV (M' := mX11_ruleLength) (A := [vI x1]) (A' := [vR 0, vI x1]) (S := [vI 0, vR 74]) (a := 0) (pc' := 7) dL_ruleLength_4 rfl (Or.inl (goodW 998 (by decide +kernel) rfl)) kM_X11_ruleLength kV_X11_ruleLength ⟨by decide, by decide, by decide, by decide, by decide⟩ rfl rfl rfl ⟨by decide, by omega⟩ (by decide +kernel) (by decide +kernel) (Nat.le_of_ble_eq_true rfl) (MM.mono ?_ h)
  intro o g1 d1 h1
  rcases o with v | k
  · show MW mL_ruleLength 0 0 7 [(0, vR 0), (1, vI x1), (2, vR 74)] [vI v, vI 0, vR 74] g1 d1 Q
    refine mw_i2l (pc' := 8) dL_ruleLength_7 rfl ?_
    refine mw_last (pc' := 9) dL_ruleLength_8 rfl (by decide +kernel) ⟨by decide, by decide⟩ (by rw [show LN 74 = 1 by decide +kernel]; exact ⟨by decide, by decide⟩) ?_
    refine mw_goto (pc' := 0) (tgt := 15) dL_ruleLength_9 (by decide) ?_
    refine mw_iconst (pc' := 16) dL_ruleLength_15 rfl ⟨by decide, by decide⟩ ?_
    exact mw_iret (pc' := 0) (S := []) dL_ruleLength_16 rfl (Or.inl rfl) h1
  · obtain ⟨hk, hq⟩ := h1
    have hk := List.mem_singleton.mp hk
    subst hk
    refine mx_catch (k := 3) (k1 := 0) [] ⟨0, 9, 12, 30⟩ [] rfl (fun _ hz => absurd hz List.not_mem_nil) rfl (by decide) kc_3 ka_3 (fun q => ?_)
    refine mw_astore_n (v := (7, q)) (pc' := 13) (L' := [(0, vR 0), (1, vI x1), (2, vR 74), (3, (7, q))]) dL_ruleLength_12 rfl rfl (by simp) (by decide) rfl ?_
    refine mw_iconst (pc' := 14) dL_ruleLength_13 rfl ⟨by decide, by decide⟩ ?_
    exact mw_iret (pc' := 0) (S := []) dL_ruleLength_14 rfl (Or.inl rfl) hq
theorem kM_X11_countsCourtDays : CM mX11_countsCourtDays 1 := ⟨(goodW 1012 (by decide +kernel) rfl), (goodW 1 (by decide +kernel) rfl), ⟨by decide, by decide⟩, by decide +kernel, rfl⟩
theorem kV_X11_countsCourtDays : CV mX11_countsCourtDays := ⟨(goodW 1010 (by decide +kernel) rfl), (goodW 1011 (by decide +kernel) rfl)⟩
theorem wr_countsCourtDays {x1 : Int} {g : mG} {d : mD} {Q : mQ} (h : MM mX11_countsCourtDays [vR 0, vI x1] g d (fun o g' d' => match o with | .inl v => (v = 0 → Q (.inl 0) g' (ud d' 74 0 0)) ∧ (¬ v = 0 → Q (.inl 0) g' (ud d' 74 0 1)) | .inr k => LX [3] k Q g' d')) : MM mL_countsCourtDays [vR 0, vI x1, vR 74] g d Q := by
  refine MM_of (by decide) rfl (by simp [catV]) (Nat.le_of_ble_eq_true rfl) ?_
  show MW mL_countsCourtDays 1 6 0 [(0, vR 0), (1, vI x1), (2, vR 74)] [] g d Q
  refine mw_top (fun hT => ?_)
  have hG : 76 ≤ g.2.1 := hT.2
  refine mw_aload_n (v := vR 74) (pc' := 1) dL_countsCourtDays_0 rfl rfl (Or.inl rfl) rfl ?_
  refine mw_iconst (pc' := 2) dL_countsCourtDays_1 rfl ⟨by decide, by decide⟩ ?_
  refine mw_aload_n (v := vR 0) (pc' := 3) dL_countsCourtDays_2 rfl rfl (Or.inl rfl) rfl ?_
  refine mw_iload_n (pc' := 4) dL_countsCourtDays_3 rfl rfl rfl ?_
  refine mw_callV (M' := mX11_countsCourtDays) (A := [vI x1]) (A' := [vR 0, vI x1]) (S := [vI 0, vR 74]) (a := 0) (pc' := 7) dL_countsCourtDays_4 rfl (Or.inl (goodW 1009 (by decide +kernel) rfl)) kM_X11_countsCourtDays kV_X11_countsCourtDays ⟨by decide, by decide, by decide, by decide, by decide⟩ rfl rfl rfl ⟨by decide, by omega⟩ (by decide +kernel) (by decide +kernel) (Nat.le_of_ble_eq_true rfl) (MM.mono ?_ h)
  intro o g1 d1 h1
  rcases o with v | k
  · show MW mL_countsCourtDays 0 0 7 [(0, vR 0), (1, vI x1), (2, vR 74)] [vI v, vI 0, vR 74] g1 d1 Q
    refine mw_if_eq (tgt := 14) (pc' := 10) dL_countsCourtDays_7 rfl (by decide) (fun c => ?_) (fun c => ?_)
    · refine mw_lconst0 (pc' := 15) dL_countsCourtDays_14 rfl ?_
      refine mw_last (pc' := 16) dL_countsCourtDays_15 rfl (by decide +kernel) ⟨by decide, by decide⟩ (by rw [show LN 74 = 1 by decide +kernel]; exact ⟨by decide, by decide⟩) ?_
      refine mw_goto (pc' := 0) (tgt := 22) dL_countsCourtDays_16 (by decide) ?_
      refine mw_iconst (pc' := 23) dL_countsCourtDays_22 rfl ⟨by decide, by decide⟩ ?_
      exact mw_iret (pc' := 0) (S := []) dL_countsCourtDays_23 rfl (Or.inl rfl) (h1.1 c)
    · refine mw_lconst1 (pc' := 11) dL_countsCourtDays_10 rfl ?_
      refine mw_goto (pc' := 0) (tgt := 15) dL_countsCourtDays_11 (by decide) ?_
      refine mw_last (pc' := 16) dL_countsCourtDays_15 rfl (by decide +kernel) ⟨by decide, by decide⟩ (by rw [show LN 74 = 1 by decide +kernel]; exact ⟨by decide, by decide⟩) ?_
      refine mw_goto (pc' := 0) (tgt := 22) dL_countsCourtDays_16 (by decide) ?_
      refine mw_iconst (pc' := 23) dL_countsCourtDays_22 rfl ⟨by decide, by decide⟩ ?_
      exact mw_iret (pc' := 0) (S := []) dL_countsCourtDays_23 rfl (Or.inl rfl) (h1.2 c)
  · obtain ⟨hk, hq⟩ := h1
    have hk := List.mem_singleton.mp hk
    subst hk
    refine mx_catch (k := 3) (k1 := 0) [] ⟨0, 16, 19, 30⟩ [] rfl (fun _ hz => absurd hz List.not_mem_nil) rfl (by decide) kc_3 ka_3 (fun q => ?_)
    refine mw_astore_n (v := (7, q)) (pc' := 20) (L' := [(0, vR 0), (1, vI x1), (2, vR 74), (3, (7, q))]) dL_countsCourtDays_19 rfl rfl (by simp) (by decide) rfl ?_
    refine mw_iconst (pc' := 21) dL_countsCourtDays_20 rfl ⟨by decide, by decide⟩ ?_
    exact mw_iret (pc' := 0) (S := []) dL_countsCourtDays_21 rfl (Or.inl rfl) hq
theorem kM_X11_setServiceDays : CM mX11_setServiceDays 2 := ⟨(goodW 1019 (by decide +kernel) rfl), (goodW 1 (by decide +kernel) rfl), ⟨by decide, by decide⟩, by decide +kernel, rfl⟩
theorem kV_X11_setServiceDays : CV mX11_setServiceDays := ⟨(goodW 1017 (by decide +kernel) rfl), (goodW 1018 (by decide +kernel) rfl)⟩
theorem wr_setServiceDays {x1 x2 : Int} {g : mG} {d : mD} {Q : mQ} (h : MM mX11_setServiceDays [vR 0, vI x1, vI x2] g d (fun o g' d' => match o with | .inl v => Q (.inl 0) g' (ud d' 74 0 v) | .inr k => LX [2] k Q g' d')) : MM mL_setServiceDays [vR 0, vI x1, vI x2, vR 74] g d Q := by
  refine MM_of (by decide) rfl (by simp [catV]) (Nat.le_of_ble_eq_true rfl) ?_
  show MW mL_setServiceDays 47 8228 0 [(0, vR 0), (1, vI x1), (2, vI x2), (3, vR 74)] [] g d Q
  refine mw_top (fun hT => ?_)
  have hG : 76 ≤ g.2.1 := hT.2
  refine mw_aload_n (v := vR 74) (pc' := 1) dL_setServiceDays_0 rfl rfl (Or.inl rfl) rfl ?_
  refine mw_iconst (pc' := 2) dL_setServiceDays_1 rfl ⟨by decide, by decide⟩ ?_
  refine mw_aload_n (v := vR 0) (pc' := 3) dL_setServiceDays_2 rfl rfl (Or.inl rfl) rfl ?_
  refine mw_iload_n (pc' := 4) dL_setServiceDays_3 rfl rfl rfl ?_
  refine mw_iload_n (pc' := 5) dL_setServiceDays_4 rfl rfl rfl ?_
  refine mw_callV (M' := mX11_setServiceDays) (A := [vI x1, vI x2]) (A' := [vR 0, vI x1, vI x2]) (S := [vI 0, vR 74]) (a := 0) (pc' := 8) dL_setServiceDays_5 rfl (Or.inl (goodW 1016 (by decide +kernel) rfl)) kM_X11_setServiceDays kV_X11_setServiceDays ⟨by decide, by decide, by decide, by decide, by decide⟩ rfl rfl rfl ⟨by decide, by omega⟩ (by decide +kernel) (by decide +kernel) (Nat.le_of_ble_eq_true rfl) (MM.mono ?_ h)
  intro o g1 d1 h1
  rcases o with v | k
  · show MW mL_setServiceDays 0 0 8 [(0, vR 0), (1, vI x1), (2, vI x2), (3, vR 74)] [vI v, vI 0, vR 74] g1 d1 Q
    refine mw_i2l (pc' := 9) dL_setServiceDays_8 rfl ?_
    refine mw_last (pc' := 10) dL_setServiceDays_9 rfl (by decide +kernel) ⟨by decide, by decide⟩ (by rw [show LN 74 = 1 by decide +kernel]; exact ⟨by decide, by decide⟩) ?_
    refine mw_goto (pc' := 0) (tgt := 17) dL_setServiceDays_10 (by decide) ?_
    refine mw_iconst (pc' := 18) dL_setServiceDays_17 rfl ⟨by decide, by decide⟩ ?_
    exact mw_iret (pc' := 0) (S := []) dL_setServiceDays_18 rfl (Or.inl rfl) h1
  · obtain ⟨hk, hq⟩ := h1
    have hk := List.mem_singleton.mp hk
    subst hk
    refine mx_catch (k := 2) (k1 := 0) [] ⟨0, 10, 13, 19⟩ [] rfl (fun _ hz => absurd hz List.not_mem_nil) rfl (by decide) kc_2 ka_2 (fun q => ?_)
    refine mw_astore (v := (7, q)) (pc' := 15) (L' := [(0, vR 0), (1, vI x1), (2, vI x2), (3, vR 74), (4, (7, q))]) dL_setServiceDays_13 rfl (by simp) (by decide) rfl ?_
    refine mw_iconst (pc' := 16) dL_setServiceDays_15 rfl ⟨by decide, by decide⟩ ?_
    exact mw_iret (pc' := 0) (S := []) dL_setServiceDays_16 rfl (Or.inl rfl) hq
theorem kM_X11_serviceDays : CM mX11_serviceDays 1 := ⟨(goodW 1033 (by decide +kernel) rfl), (goodW 1 (by decide +kernel) rfl), ⟨by decide, by decide⟩, by decide +kernel, rfl⟩
theorem kV_X11_serviceDays : CV mX11_serviceDays := ⟨(goodW 1031 (by decide +kernel) rfl), (goodW 1032 (by decide +kernel) rfl)⟩
theorem wr_serviceDays {x1 : Int} {g : mG} {d : mD} {Q : mQ} (h : MM mX11_serviceDays [vR 0, vI x1] g d (fun o g' d' => match o with | .inl v => Q (.inl 0) g' (ud d' 74 0 v) | .inr k => LX [2] k Q g' d')) : MM mL_serviceDays [vR 0, vI x1, vR 74] g d Q := by
  refine MM_of (by decide) rfl (by simp [catV]) (Nat.le_of_ble_eq_true rfl) ?_
  show MW mL_serviceDays 1 6 0 [(0, vR 0), (1, vI x1), (2, vR 74)] [] g d Q
  refine mw_top (fun hT => ?_)
  have hG : 76 ≤ g.2.1 := hT.2
  refine mw_aload_n (v := vR 74) (pc' := 1) dL_serviceDays_0 rfl rfl (Or.inl rfl) rfl ?_
  refine mw_iconst (pc' := 2) dL_serviceDays_1 rfl ⟨by decide, by decide⟩ ?_
  refine mw_aload_n (v := vR 0) (pc' := 3) dL_serviceDays_2 rfl rfl (Or.inl rfl) rfl ?_
  refine mw_iload_n (pc' := 4) dL_serviceDays_3 rfl rfl rfl ?_
  refine mw_callV (M' := mX11_serviceDays) (A := [vI x1]) (A' := [vR 0, vI x1]) (S := [vI 0, vR 74]) (a := 0) (pc' := 7) dL_serviceDays_4 rfl (Or.inl (goodW 1030 (by decide +kernel) rfl)) kM_X11_serviceDays kV_X11_serviceDays ⟨by decide, by decide, by decide, by decide, by decide⟩ rfl rfl rfl ⟨by decide, by omega⟩ (by decide +kernel) (by decide +kernel) (Nat.le_of_ble_eq_true rfl) (MM.mono ?_ h)
  intro o g1 d1 h1
  rcases o with v | k
  · show MW mL_serviceDays 0 0 7 [(0, vR 0), (1, vI x1), (2, vR 74)] [vI v, vI 0, vR 74] g1 d1 Q
    refine mw_i2l (pc' := 8) dL_serviceDays_7 rfl ?_
    refine mw_last (pc' := 9) dL_serviceDays_8 rfl (by decide +kernel) ⟨by decide, by decide⟩ (by rw [show LN 74 = 1 by decide +kernel]; exact ⟨by decide, by decide⟩) ?_
    refine mw_goto (pc' := 0) (tgt := 15) dL_serviceDays_9 (by decide) ?_
    refine mw_iconst (pc' := 16) dL_serviceDays_15 rfl ⟨by decide, by decide⟩ ?_
    exact mw_iret (pc' := 0) (S := []) dL_serviceDays_16 rfl (Or.inl rfl) h1
  · obtain ⟨hk, hq⟩ := h1
    have hk := List.mem_singleton.mp hk
    subst hk
    refine mx_catch (k := 2) (k1 := 0) [] ⟨0, 9, 12, 19⟩ [] rfl (fun _ hz => absurd hz List.not_mem_nil) rfl (by decide) kc_2 ka_2 (fun q => ?_)
    refine mw_astore_n (v := (7, q)) (pc' := 13) (L' := [(0, vR 0), (1, vI x1), (2, vR 74), (3, (7, q))]) dL_serviceDays_12 rfl rfl (by simp) (by decide) rfl ?_
    refine mw_iconst (pc' := 14) dL_serviceDays_13 rfl ⟨by decide, by decide⟩ ?_
    exact mw_iret (pc' := 0) (S := []) dL_serviceDays_14 rfl (Or.inl rfl) hq
theorem kM_X11_lastDayBefore : CM mX11_lastDayBefore 2 := ⟨(goodW 1041 (by decide +kernel) rfl), (goodW 1 (by decide +kernel) rfl), ⟨by decide, by decide⟩, by decide +kernel, rfl⟩
theorem kV_X11_lastDayBefore : CV mX11_lastDayBefore := ⟨(goodW 1039 (by decide +kernel) rfl), (goodW 1040 (by decide +kernel) rfl)⟩
theorem wr_lastDayBefore {x1 x2 : Int} {g : mG} {d : mD} {Q : mQ} (h : MM mX11_lastDayBefore [vR 0, vI x1, vI x2] g d (fun o g' d' => match o with | .inl v => Q (.inl 0) g' (ud d' 74 0 v) | .inr k => LX [3, 2, 4] k Q g' d')) : MM mL_lastDayBefore [vR 0, vI x1, vI x2, vR 74] g d Q := by
  refine MM_of (by decide) rfl (by simp [catV]) (Nat.le_of_ble_eq_true rfl) ?_
  show MW mL_lastDayBefore 3 18 0 [(0, vR 0), (1, vI x1), (2, vI x2), (3, vR 74)] [] g d Q
  refine mw_top (fun hT => ?_)
  have hG : 76 ≤ g.2.1 := hT.2
  refine mw_aload_n (v := vR 74) (pc' := 1) dL_lastDayBefore_0 rfl rfl (Or.inl rfl) rfl ?_
  refine mw_iconst (pc' := 2) dL_lastDayBefore_1 rfl ⟨by decide, by decide⟩ ?_
  refine mw_aload_n (v := vR 0) (pc' := 3) dL_lastDayBefore_2 rfl rfl (Or.inl rfl) rfl ?_
  refine mw_iload_n (pc' := 4) dL_lastDayBefore_3 rfl rfl rfl ?_
  refine mw_iload_n (pc' := 5) dL_lastDayBefore_4 rfl rfl rfl ?_
  refine mw_callV (M' := mX11_lastDayBefore) (A := [vI x1, vI x2]) (A' := [vR 0, vI x1, vI x2]) (S := [vI 0, vR 74]) (a := 0) (pc' := 8) dL_lastDayBefore_5 rfl (Or.inl (goodW 1038 (by decide +kernel) rfl)) kM_X11_lastDayBefore kV_X11_lastDayBefore ⟨by decide, by decide, by decide, by decide, by decide⟩ rfl rfl rfl ⟨by decide, by omega⟩ (by decide +kernel) (by decide +kernel) (Nat.le_of_ble_eq_true rfl) (MM.mono ?_ h)
  intro o g1 d1 h1
  rcases o with v | k
  · show MW mL_lastDayBefore 0 0 8 [(0, vR 0), (1, vI x1), (2, vI x2), (3, vR 74)] [vI v, vI 0, vR 74] g1 d1 Q
    refine mw_i2l (pc' := 9) dL_lastDayBefore_8 rfl ?_
    refine mw_last (pc' := 10) dL_lastDayBefore_9 rfl (by decide +kernel) ⟨by decide, by decide⟩ (by rw [show LN 74 = 1 by decide +kernel]; exact ⟨by decide, by decide⟩) ?_
    refine mw_goto (pc' := 0) (tgt := 25) dL_lastDayBefore_10 (by decide) ?_
    refine mw_iconst (pc' := 26) dL_lastDayBefore_25 rfl ⟨by decide, by decide⟩ ?_
    exact mw_iret (pc' := 0) (S := []) dL_lastDayBefore_26 rfl (Or.inl rfl) h1
  · obtain ⟨hk, hq⟩ := h1
    rcases (show k = 3 ∨ k = 2 ∨ k = 4 by simpa using hk) with hk | hk | hk
    · subst hk
      refine mx_catch (k := 3) (k1 := 0) [] ⟨0, 10, 13, 30⟩ [⟨0, 10, 17, 19⟩, ⟨0, 10, 21, 24⟩] rfl (fun _ hz => absurd hz List.not_mem_nil) rfl (by decide) kc_3 ka_3 (fun q => ?_)
      refine mw_astore (v := (7, q)) (pc' := 15) (L' := [(0, vR 0), (1, vI x1), (2, vI x2), (3, vR 74), (4, (7, q))]) dL_lastDayBefore_13 rfl (by simp) (by decide) rfl ?_
      refine mw_iconst (pc' := 16) dL_lastDayBefore_15 rfl ⟨by decide, by decide⟩ ?_
      exact mw_iret (pc' := 0) (S := []) dL_lastDayBefore_16 rfl (Or.inl rfl) hq
    · subst hk
      refine mx_catch (k := 2) (k1 := 0) [⟨0, 10, 13, 30⟩] ⟨0, 10, 17, 19⟩ [⟨0, 10, 21, 24⟩] rfl (List.forall_mem_cons.mpr ⟨⟨by decide, 1, 2, by decide, by decide, by decide, rfl, kc_3⟩, (fun _ hz => absurd hz List.not_mem_nil)⟩) rfl (by decide) kc_2 ka_2 (fun q => ?_)
      refine mw_astore (v := (7, q)) (pc' := 19) (L' := [(0, vR 0), (1, vI x1), (2, vI x2), (3, vR 74), (4, (7, q))]) dL_lastDayBefore_17 rfl (by simp) (by decide) rfl ?_
      refine mw_iconst (pc' := 20) dL_lastDayBefore_19 rfl ⟨by decide, by decide⟩ ?_
      exact mw_iret (pc' := 0) (S := []) dL_lastDayBefore_20 rfl (Or.inl rfl) hq
    · subst hk
      refine mx_catch (k := 4) (k1 := 0) [⟨0, 10, 13, 30⟩, ⟨0, 10, 17, 19⟩] ⟨0, 10, 21, 24⟩ [] rfl (List.forall_mem_cons.mpr ⟨⟨by decide, 3, 2, by decide, by decide, by decide, rfl, kc_3⟩, (List.forall_mem_cons.mpr ⟨⟨by decide, 3, 1, by decide, by decide, by decide, rfl, kc_2⟩, (fun _ hz => absurd hz List.not_mem_nil)⟩)⟩) rfl (by decide) kc_4 ka_4 (fun q => ?_)
      refine mw_astore (v := (7, q)) (pc' := 23) (L' := [(0, vR 0), (1, vI x1), (2, vI x2), (3, vR 74), (4, (7, q))]) dL_lastDayBefore_21 rfl (by simp) (by decide) rfl ?_
      refine mw_iconst (pc' := 24) dL_lastDayBefore_23 rfl ⟨by decide, by decide⟩ ?_
      exact mw_iret (pc' := 0) (S := []) dL_lastDayBefore_24 rfl (Or.inl rfl) hq
theorem kM_X11_lastDayBeforeByMarking : CM mX11_lastDayBeforeByMarking 2 := ⟨(goodW 1060 (by decide +kernel) rfl), (goodW 1 (by decide +kernel) rfl), ⟨by decide, by decide⟩, by decide +kernel, rfl⟩
theorem kV_X11_lastDayBeforeByMarking : CV mX11_lastDayBeforeByMarking := ⟨(goodW 1058 (by decide +kernel) rfl), (goodW 1059 (by decide +kernel) rfl)⟩
theorem wr_lastDayBeforeByMarking {x1 x2 : Int} {g : mG} {d : mD} {Q : mQ} (h : MM mX11_lastDayBeforeByMarking [vR 0, vI x1, vI x2] g d (fun o g' d' => match o with | .inl v => Q (.inl 0) g' (ud d' 74 0 v) | .inr k => LX [3, 2, 4] k Q g' d')) : MM mL_lastDayBeforeByMarking [vR 0, vI x1, vI x2, vR 74] g d Q := by
  refine MM_of (by decide) rfl (by simp [catV]) (Nat.le_of_ble_eq_true rfl) ?_
  show MW mL_lastDayBeforeByMarking 3 18 0 [(0, vR 0), (1, vI x1), (2, vI x2), (3, vR 74)] [] g d Q
  refine mw_top (fun hT => ?_)
  have hG : 76 ≤ g.2.1 := hT.2
  refine mw_aload_n (v := vR 74) (pc' := 1) dL_lastDayBeforeByMarking_0 rfl rfl (Or.inl rfl) rfl ?_
  refine mw_iconst (pc' := 2) dL_lastDayBeforeByMarking_1 rfl ⟨by decide, by decide⟩ ?_
  refine mw_aload_n (v := vR 0) (pc' := 3) dL_lastDayBeforeByMarking_2 rfl rfl (Or.inl rfl) rfl ?_
  refine mw_iload_n (pc' := 4) dL_lastDayBeforeByMarking_3 rfl rfl rfl ?_
  refine mw_iload_n (pc' := 5) dL_lastDayBeforeByMarking_4 rfl rfl rfl ?_
  refine mw_callV (M' := mX11_lastDayBeforeByMarking) (A := [vI x1, vI x2]) (A' := [vR 0, vI x1, vI x2]) (S := [vI 0, vR 74]) (a := 0) (pc' := 8) dL_lastDayBeforeByMarking_5 rfl (Or.inl (goodW 1057 (by decide +kernel) rfl)) kM_X11_lastDayBeforeByMarking kV_X11_lastDayBeforeByMarking ⟨by decide, by decide, by decide, by decide, by decide⟩ rfl rfl rfl ⟨by decide, by omega⟩ (by decide +kernel) (by decide +kernel) (Nat.le_of_ble_eq_true rfl) (MM.mono ?_ h)
  intro o g1 d1 h1
  rcases o with v | k
  · show MW mL_lastDayBeforeByMarking 0 0 8 [(0, vR 0), (1, vI x1), (2, vI x2), (3, vR 74)] [vI v, vI 0, vR 74] g1 d1 Q
    refine mw_i2l (pc' := 9) dL_lastDayBeforeByMarking_8 rfl ?_
    refine mw_last (pc' := 10) dL_lastDayBeforeByMarking_9 rfl (by decide +kernel) ⟨by decide, by decide⟩ (by rw [show LN 74 = 1 by decide +kernel]; exact ⟨by decide, by decide⟩) ?_
    refine mw_goto (pc' := 0) (tgt := 25) dL_lastDayBeforeByMarking_10 (by decide) ?_
    refine mw_iconst (pc' := 26) dL_lastDayBeforeByMarking_25 rfl ⟨by decide, by decide⟩ ?_
    exact mw_iret (pc' := 0) (S := []) dL_lastDayBeforeByMarking_26 rfl (Or.inl rfl) h1
  · obtain ⟨hk, hq⟩ := h1
    rcases (show k = 3 ∨ k = 2 ∨ k = 4 by simpa using hk) with hk | hk | hk
    · subst hk
      refine mx_catch (k := 3) (k1 := 0) [] ⟨0, 10, 13, 30⟩ [⟨0, 10, 17, 19⟩, ⟨0, 10, 21, 24⟩] rfl (fun _ hz => absurd hz List.not_mem_nil) rfl (by decide) kc_3 ka_3 (fun q => ?_)
      refine mw_astore (v := (7, q)) (pc' := 15) (L' := [(0, vR 0), (1, vI x1), (2, vI x2), (3, vR 74), (4, (7, q))]) dL_lastDayBeforeByMarking_13 rfl (by simp) (by decide) rfl ?_
      refine mw_iconst (pc' := 16) dL_lastDayBeforeByMarking_15 rfl ⟨by decide, by decide⟩ ?_
      exact mw_iret (pc' := 0) (S := []) dL_lastDayBeforeByMarking_16 rfl (Or.inl rfl) hq
    · subst hk
      refine mx_catch (k := 2) (k1 := 0) [⟨0, 10, 13, 30⟩] ⟨0, 10, 17, 19⟩ [⟨0, 10, 21, 24⟩] rfl (List.forall_mem_cons.mpr ⟨⟨by decide, 1, 2, by decide, by decide, by decide, rfl, kc_3⟩, (fun _ hz => absurd hz List.not_mem_nil)⟩) rfl (by decide) kc_2 ka_2 (fun q => ?_)
      refine mw_astore (v := (7, q)) (pc' := 19) (L' := [(0, vR 0), (1, vI x1), (2, vI x2), (3, vR 74), (4, (7, q))]) dL_lastDayBeforeByMarking_17 rfl (by simp) (by decide) rfl ?_
      refine mw_iconst (pc' := 20) dL_lastDayBeforeByMarking_19 rfl ⟨by decide, by decide⟩ ?_
      exact mw_iret (pc' := 0) (S := []) dL_lastDayBeforeByMarking_20 rfl (Or.inl rfl) hq
    · subst hk
      refine mx_catch (k := 4) (k1 := 0) [⟨0, 10, 13, 30⟩, ⟨0, 10, 17, 19⟩] ⟨0, 10, 21, 24⟩ [] rfl (List.forall_mem_cons.mpr ⟨⟨by decide, 3, 2, by decide, by decide, by decide, rfl, kc_3⟩, (List.forall_mem_cons.mpr ⟨⟨by decide, 3, 1, by decide, by decide, by decide, rfl, kc_2⟩, (fun _ hz => absurd hz List.not_mem_nil)⟩)⟩) rfl (by decide) kc_4 ka_4 (fun q => ?_)
      refine mw_astore (v := (7, q)) (pc' := 23) (L' := [(0, vR 0), (1, vI x1), (2, vI x2), (3, vR 74), (4, (7, q))]) dL_lastDayBeforeByMarking_21 rfl (by simp) (by decide) rfl ?_
      refine mw_iconst (pc' := 24) dL_lastDayBeforeByMarking_23 rfl ⟨by decide, by decide⟩ ?_
      exact mw_iret (pc' := 0) (S := []) dL_lastDayBeforeByMarking_24 rfl (Or.inl rfl) hq
theorem kM_X11_serve : CM mX11_serve 3 := ⟨(goodW 1071 (by decide +kernel) rfl), (goodW 1 (by decide +kernel) rfl), ⟨by decide, by decide⟩, by decide +kernel, rfl⟩
theorem kV_X11_serve : CV mX11_serve := ⟨(goodW 1069 (by decide +kernel) rfl), (goodW 1070 (by decide +kernel) rfl)⟩
theorem wr_serve {x1 x2 x3 : Int} {g : mG} {d : mD} {Q : mQ} (h : MM mX11_serve [vR 0, vI x1, vI x2, vI x3] g d (fun o g' d' => match o with | .inl v => Q (.inl 0) g' (ud d' 74 0 v) | .inr k => LX [3, 2, 1] k Q g' d')) : MM mL_serve [vR 0, vI x1, vI x2, vI x3, vR 74] g d Q := by
  refine MM_of (by decide) rfl (by simp [catV]) (Nat.le_of_ble_eq_true rfl) ?_
  show MW mL_serve 47 8228 0 [(0, vR 0), (1, vI x1), (2, vI x2), (3, vI x3), (4, vR 74)] [] g d Q
  refine mw_top (fun hT => ?_)
  have hG : 76 ≤ g.2.1 := hT.2
  refine mw_aload (v := vR 74) (pc' := 2) dL_serve_0 rfl (Or.inl rfl) rfl ?_
  refine mw_iconst (pc' := 3) dL_serve_2 rfl ⟨by decide, by decide⟩ ?_
  refine mw_aload_n (v := vR 0) (pc' := 4) dL_serve_3 rfl rfl (Or.inl rfl) rfl ?_
  refine mw_iload_n (pc' := 5) dL_serve_4 rfl rfl rfl ?_
  refine mw_iload_n (pc' := 6) dL_serve_5 rfl rfl rfl ?_
  refine mw_iload_n (pc' := 7) dL_serve_6 rfl rfl rfl ?_
  refine mw_callV (M' := mX11_serve) (A := [vI x1, vI x2, vI x3]) (A' := [vR 0, vI x1, vI x2, vI x3]) (S := [vI 0, vR 74]) (a := 0) (pc' := 10) dL_serve_7 rfl (Or.inl (goodW 1068 (by decide +kernel) rfl)) kM_X11_serve kV_X11_serve ⟨by decide, by decide, by decide, by decide, by decide⟩ rfl rfl rfl ⟨by decide, by omega⟩ (by decide +kernel) (by decide +kernel) (Nat.le_of_ble_eq_true rfl) (MM.mono ?_ h)
  intro o g1 d1 h1
  rcases o with v | k
  · show MW mL_serve 0 0 10 [(0, vR 0), (1, vI x1), (2, vI x2), (3, vI x3), (4, vR 74)] [vI v, vI 0, vR 74] g1 d1 Q
    refine mw_i2l (pc' := 11) dL_serve_10 rfl ?_
    refine mw_last (pc' := 12) dL_serve_11 rfl (by decide +kernel) ⟨by decide, by decide⟩ (by rw [show LN 74 = 1 by decide +kernel]; exact ⟨by decide, by decide⟩) ?_
    refine mw_goto (pc' := 0) (tgt := 27) dL_serve_12 (by decide) ?_
    refine mw_iconst (pc' := 28) dL_serve_27 rfl ⟨by decide, by decide⟩ ?_
    exact mw_iret (pc' := 0) (S := []) dL_serve_28 rfl (Or.inl rfl) h1
  · obtain ⟨hk, hq⟩ := h1
    rcases (show k = 3 ∨ k = 2 ∨ k = 1 by simpa using hk) with hk | hk | hk
    · subst hk
      refine mx_catch (k := 3) (k1 := 0) [] ⟨0, 12, 15, 30⟩ [⟨0, 12, 19, 19⟩, ⟨0, 12, 23, 13⟩] rfl (fun _ hz => absurd hz List.not_mem_nil) rfl (by decide) kc_3 ka_3 (fun q => ?_)
      refine mw_astore (v := (7, q)) (pc' := 17) (L' := [(0, vR 0), (1, vI x1), (2, vI x2), (3, vI x3), (4, vR 74), (5, (7, q))]) dL_serve_15 rfl (by simp) (by decide) rfl ?_
      refine mw_iconst (pc' := 18) dL_serve_17 rfl ⟨by decide, by decide⟩ ?_
      exact mw_iret (pc' := 0) (S := []) dL_serve_18 rfl (Or.inl rfl) hq
    · subst hk
      refine mx_catch (k := 2) (k1 := 0) [⟨0, 12, 15, 30⟩] ⟨0, 12, 19, 19⟩ [⟨0, 12, 23, 13⟩] rfl (List.forall_mem_cons.mpr ⟨⟨by decide, 1, 2, by decide, by decide, by decide, rfl, kc_3⟩, (fun _ hz => absurd hz List.not_mem_nil)⟩) rfl (by decide) kc_2 ka_2 (fun q => ?_)
      refine mw_astore (v := (7, q)) (pc' := 21) (L' := [(0, vR 0), (1, vI x1), (2, vI x2), (3, vI x3), (4, vR 74), (5, (7, q))]) dL_serve_19 rfl (by simp) (by decide) rfl ?_
      refine mw_iconst (pc' := 22) dL_serve_21 rfl ⟨by decide, by decide⟩ ?_
      exact mw_iret (pc' := 0) (S := []) dL_serve_22 rfl (Or.inl rfl) hq
    · subst hk
      refine mx_catch (k := 1) (k1 := 0) [⟨0, 12, 15, 30⟩, ⟨0, 12, 19, 19⟩] ⟨0, 12, 23, 13⟩ [] rfl (List.forall_mem_cons.mpr ⟨⟨by decide, 0, 2, by decide, by decide, by decide, rfl, kc_3⟩, (List.forall_mem_cons.mpr ⟨⟨by decide, 0, 1, by decide, by decide, by decide, rfl, kc_2⟩, (fun _ hz => absurd hz List.not_mem_nil)⟩)⟩) rfl (by decide) kc_1 ka_1 (fun q => ?_)
      refine mw_astore (v := (7, q)) (pc' := 25) (L' := [(0, vR 0), (1, vI x1), (2, vI x2), (3, vI x3), (4, vR 74), (5, (7, q))]) dL_serve_23 rfl (by simp) (by decide) rfl ?_
      refine mw_iconst (pc' := 26) dL_serve_25 rfl ⟨by decide, by decide⟩ ?_
      exact mw_iret (pc' := 0) (S := []) dL_serve_26 rfl (Or.inl rfl) hq
theorem kM_X11_due : CM mX11_due 1 := ⟨(goodW 1091 (by decide +kernel) rfl), (goodW 1 (by decide +kernel) rfl), ⟨by decide, by decide⟩, by decide +kernel, rfl⟩
theorem kV_X11_due : CV mX11_due := ⟨(goodW 1089 (by decide +kernel) rfl), (goodW 1090 (by decide +kernel) rfl)⟩
theorem wr_due {x1 : Int} {g : mG} {d : mD} {Q : mQ} (h : MM mX11_due [vR 0, vI x1] g d (fun o g' d' => match o with | .inl v => Q (.inl 0) g' (ud d' 74 0 v) | .inr k => LX [3, 4] k Q g' d')) : MM mL_due [vR 0, vI x1, vR 74] g d Q := by
  refine MM_of (by decide) rfl (by simp [catV]) (Nat.le_of_ble_eq_true rfl) ?_
  show MW mL_due 2 12 0 [(0, vR 0), (1, vI x1), (2, vR 74)] [] g d Q
  refine mw_top (fun hT => ?_)
  have hG : 76 ≤ g.2.1 := hT.2
  refine mw_aload_n (v := vR 74) (pc' := 1) dL_due_0 rfl rfl (Or.inl rfl) rfl ?_
  refine mw_iconst (pc' := 2) dL_due_1 rfl ⟨by decide, by decide⟩ ?_
  refine mw_aload_n (v := vR 0) (pc' := 3) dL_due_2 rfl rfl (Or.inl rfl) rfl ?_
  refine mw_iload_n (pc' := 4) dL_due_3 rfl rfl rfl ?_
  refine mw_callV (M' := mX11_due) (A := [vI x1]) (A' := [vR 0, vI x1]) (S := [vI 0, vR 74]) (a := 0) (pc' := 7) dL_due_4 rfl (Or.inl (goodW 1088 (by decide +kernel) rfl)) kM_X11_due kV_X11_due ⟨by decide, by decide, by decide, by decide, by decide⟩ rfl rfl rfl ⟨by decide, by omega⟩ (by decide +kernel) (by decide +kernel) (Nat.le_of_ble_eq_true rfl) (MM.mono ?_ h)
  intro o g1 d1 h1
  rcases o with v | k
  · show MW mL_due 0 0 7 [(0, vR 0), (1, vI x1), (2, vR 74)] [vI v, vI 0, vR 74] g1 d1 Q
    refine mw_i2l (pc' := 8) dL_due_7 rfl ?_
    refine mw_last (pc' := 9) dL_due_8 rfl (by decide +kernel) ⟨by decide, by decide⟩ (by rw [show LN 74 = 1 by decide +kernel]; exact ⟨by decide, by decide⟩) ?_
    refine mw_goto (pc' := 0) (tgt := 18) dL_due_9 (by decide) ?_
    refine mw_iconst (pc' := 19) dL_due_18 rfl ⟨by decide, by decide⟩ ?_
    exact mw_iret (pc' := 0) (S := []) dL_due_19 rfl (Or.inl rfl) h1
  · obtain ⟨hk, hq⟩ := h1
    rcases (show k = 3 ∨ k = 4 by simpa using hk) with hk | hk
    · subst hk
      refine mx_catch (k := 3) (k1 := 0) [] ⟨0, 9, 12, 30⟩ [⟨0, 9, 15, 24⟩] rfl (fun _ hz => absurd hz List.not_mem_nil) rfl (by decide) kc_3 ka_3 (fun q => ?_)
      refine mw_astore_n (v := (7, q)) (pc' := 13) (L' := [(0, vR 0), (1, vI x1), (2, vR 74), (3, (7, q))]) dL_due_12 rfl rfl (by simp) (by decide) rfl ?_
      refine mw_iconst (pc' := 14) dL_due_13 rfl ⟨by decide, by decide⟩ ?_
      exact mw_iret (pc' := 0) (S := []) dL_due_14 rfl (Or.inl rfl) hq
    · subst hk
      refine mx_catch (k := 4) (k1 := 0) [⟨0, 9, 12, 30⟩] ⟨0, 9, 15, 24⟩ [] rfl (List.forall_mem_cons.mpr ⟨⟨by decide, 3, 2, by decide, by decide, by decide, rfl, kc_3⟩, (fun _ hz => absurd hz List.not_mem_nil)⟩) rfl (by decide) kc_4 ka_4 (fun q => ?_)
      refine mw_astore_n (v := (7, q)) (pc' := 16) (L' := [(0, vR 0), (1, vI x1), (2, vR 74), (3, (7, q))]) dL_due_15 rfl rfl (by simp) (by decide) rfl ?_
      refine mw_iconst (pc' := 17) dL_due_16 rfl ⟨by decide, by decide⟩ ?_
      exact mw_iret (pc' := 0) (S := []) dL_due_17 rfl (Or.inl rfl) hq
theorem kM_X11_dueByMarking : CM mX11_dueByMarking 1 := ⟨(goodW 1111 (by decide +kernel) rfl), (goodW 1 (by decide +kernel) rfl), ⟨by decide, by decide⟩, by decide +kernel, rfl⟩
theorem kV_X11_dueByMarking : CV mX11_dueByMarking := ⟨(goodW 1109 (by decide +kernel) rfl), (goodW 1110 (by decide +kernel) rfl)⟩
theorem wr_dueByMarking {x1 : Int} {g : mG} {d : mD} {Q : mQ} (h : MM mX11_dueByMarking [vR 0, vI x1] g d (fun o g' d' => match o with | .inl v => Q (.inl 0) g' (ud d' 74 0 v) | .inr k => LX [3, 4] k Q g' d')) : MM mL_dueByMarking [vR 0, vI x1, vR 74] g d Q := by
  refine MM_of (by decide) rfl (by simp [catV]) (Nat.le_of_ble_eq_true rfl) ?_
  show MW mL_dueByMarking 2 12 0 [(0, vR 0), (1, vI x1), (2, vR 74)] [] g d Q
  refine mw_top (fun hT => ?_)
  have hG : 76 ≤ g.2.1 := hT.2
  refine mw_aload_n (v := vR 74) (pc' := 1) dL_dueByMarking_0 rfl rfl (Or.inl rfl) rfl ?_
  refine mw_iconst (pc' := 2) dL_dueByMarking_1 rfl ⟨by decide, by decide⟩ ?_
  refine mw_aload_n (v := vR 0) (pc' := 3) dL_dueByMarking_2 rfl rfl (Or.inl rfl) rfl ?_
  refine mw_iload_n (pc' := 4) dL_dueByMarking_3 rfl rfl rfl ?_
  refine mw_callV (M' := mX11_dueByMarking) (A := [vI x1]) (A' := [vR 0, vI x1]) (S := [vI 0, vR 74]) (a := 0) (pc' := 7) dL_dueByMarking_4 rfl (Or.inl (goodW 1108 (by decide +kernel) rfl)) kM_X11_dueByMarking kV_X11_dueByMarking ⟨by decide, by decide, by decide, by decide, by decide⟩ rfl rfl rfl ⟨by decide, by omega⟩ (by decide +kernel) (by decide +kernel) (Nat.le_of_ble_eq_true rfl) (MM.mono ?_ h)
  intro o g1 d1 h1
  rcases o with v | k
  · show MW mL_dueByMarking 0 0 7 [(0, vR 0), (1, vI x1), (2, vR 74)] [vI v, vI 0, vR 74] g1 d1 Q
    refine mw_i2l (pc' := 8) dL_dueByMarking_7 rfl ?_
    refine mw_last (pc' := 9) dL_dueByMarking_8 rfl (by decide +kernel) ⟨by decide, by decide⟩ (by rw [show LN 74 = 1 by decide +kernel]; exact ⟨by decide, by decide⟩) ?_
    refine mw_goto (pc' := 0) (tgt := 18) dL_dueByMarking_9 (by decide) ?_
    refine mw_iconst (pc' := 19) dL_dueByMarking_18 rfl ⟨by decide, by decide⟩ ?_
    exact mw_iret (pc' := 0) (S := []) dL_dueByMarking_19 rfl (Or.inl rfl) h1
  · obtain ⟨hk, hq⟩ := h1
    rcases (show k = 3 ∨ k = 4 by simpa using hk) with hk | hk
    · subst hk
      refine mx_catch (k := 3) (k1 := 0) [] ⟨0, 9, 12, 30⟩ [⟨0, 9, 15, 24⟩] rfl (fun _ hz => absurd hz List.not_mem_nil) rfl (by decide) kc_3 ka_3 (fun q => ?_)
      refine mw_astore_n (v := (7, q)) (pc' := 13) (L' := [(0, vR 0), (1, vI x1), (2, vR 74), (3, (7, q))]) dL_dueByMarking_12 rfl rfl (by simp) (by decide) rfl ?_
      refine mw_iconst (pc' := 14) dL_dueByMarking_13 rfl ⟨by decide, by decide⟩ ?_
      exact mw_iret (pc' := 0) (S := []) dL_dueByMarking_14 rfl (Or.inl rfl) hq
    · subst hk
      refine mx_catch (k := 4) (k1 := 0) [⟨0, 9, 12, 30⟩] ⟨0, 9, 15, 24⟩ [] rfl (List.forall_mem_cons.mpr ⟨⟨by decide, 3, 2, by decide, by decide, by decide, rfl, kc_3⟩, (fun _ hz => absurd hz List.not_mem_nil)⟩) rfl (by decide) kc_4 ka_4 (fun q => ?_)
      refine mw_astore_n (v := (7, q)) (pc' := 16) (L' := [(0, vR 0), (1, vI x1), (2, vR 74), (3, (7, q))]) dL_dueByMarking_15 rfl rfl (by simp) (by decide) rfl ?_
      refine mw_iconst (pc' := 17) dL_dueByMarking_16 rfl ⟨by decide, by decide⟩ ?_
      exact mw_iret (pc' := 0) (S := []) dL_dueByMarking_17 rfl (Or.inl rfl) hq
theorem kM_X11_daysLeft : CM mX11_daysLeft 1 := ⟨(goodW 1118 (by decide +kernel) rfl), (goodW 1 (by decide +kernel) rfl), ⟨by decide, by decide⟩, by decide +kernel, rfl⟩
theorem kV_X11_daysLeft : CV mX11_daysLeft := ⟨(goodW 1116 (by decide +kernel) rfl), (goodW 1117 (by decide +kernel) rfl)⟩
theorem wr_daysLeft {x1 : Int} {g : mG} {d : mD} {Q : mQ} (h : MM mX11_daysLeft [vR 0, vI x1] g d (fun o g' d' => match o with | .inl v => Q (.inl 0) g' (ud d' 74 0 v) | .inr k => LX [3] k Q g' d')) : MM mL_daysLeft [vR 0, vI x1, vR 74] g d Q := by
  refine MM_of (by decide) rfl (by simp [catV]) (Nat.le_of_ble_eq_true rfl) ?_
  show MW mL_daysLeft 1 6 0 [(0, vR 0), (1, vI x1), (2, vR 74)] [] g d Q
  refine mw_top (fun hT => ?_)
  have hG : 76 ≤ g.2.1 := hT.2
  refine mw_aload_n (v := vR 74) (pc' := 1) dL_daysLeft_0 rfl rfl (Or.inl rfl) rfl ?_
  refine mw_iconst (pc' := 2) dL_daysLeft_1 rfl ⟨by decide, by decide⟩ ?_
  refine mw_aload_n (v := vR 0) (pc' := 3) dL_daysLeft_2 rfl rfl (Or.inl rfl) rfl ?_
  refine mw_iload_n (pc' := 4) dL_daysLeft_3 rfl rfl rfl ?_
  refine mw_callV (M' := mX11_daysLeft) (A := [vI x1]) (A' := [vR 0, vI x1]) (S := [vI 0, vR 74]) (a := 0) (pc' := 7) dL_daysLeft_4 rfl (Or.inl (goodW 1115 (by decide +kernel) rfl)) kM_X11_daysLeft kV_X11_daysLeft ⟨by decide, by decide, by decide, by decide, by decide⟩ rfl rfl rfl ⟨by decide, by omega⟩ (by decide +kernel) (by decide +kernel) (Nat.le_of_ble_eq_true rfl) (MM.mono ?_ h)
  intro o g1 d1 h1
  rcases o with v | k
  · show MW mL_daysLeft 0 0 7 [(0, vR 0), (1, vI x1), (2, vR 74)] [vI v, vI 0, vR 74] g1 d1 Q
    refine mw_i2l (pc' := 8) dL_daysLeft_7 rfl ?_
    refine mw_last (pc' := 9) dL_daysLeft_8 rfl (by decide +kernel) ⟨by decide, by decide⟩ (by rw [show LN 74 = 1 by decide +kernel]; exact ⟨by decide, by decide⟩) ?_
    refine mw_goto (pc' := 0) (tgt := 15) dL_daysLeft_9 (by decide) ?_
    refine mw_iconst (pc' := 16) dL_daysLeft_15 rfl ⟨by decide, by decide⟩ ?_
    exact mw_iret (pc' := 0) (S := []) dL_daysLeft_16 rfl (Or.inl rfl) h1
  · obtain ⟨hk, hq⟩ := h1
    have hk := List.mem_singleton.mp hk
    subst hk
    refine mx_catch (k := 3) (k1 := 0) [] ⟨0, 9, 12, 30⟩ [] rfl (fun _ hz => absurd hz List.not_mem_nil) rfl (by decide) kc_3 ka_3 (fun q => ?_)
    refine mw_astore_n (v := (7, q)) (pc' := 13) (L' := [(0, vR 0), (1, vI x1), (2, vR 74), (3, (7, q))]) dL_daysLeft_12 rfl rfl (by simp) (by decide) rfl ?_
    refine mw_iconst (pc' := 14) dL_daysLeft_13 rfl ⟨by decide, by decide⟩ ?_
    exact mw_iret (pc' := 0) (S := []) dL_daysLeft_14 rfl (Or.inl rfl) hq
theorem kM_X11_daysLeftByMarking : CM mX11_daysLeftByMarking 1 := ⟨(goodW 1130 (by decide +kernel) rfl), (goodW 1 (by decide +kernel) rfl), ⟨by decide, by decide⟩, by decide +kernel, rfl⟩
theorem kV_X11_daysLeftByMarking : CV mX11_daysLeftByMarking := ⟨(goodW 1128 (by decide +kernel) rfl), (goodW 1129 (by decide +kernel) rfl)⟩
theorem wr_daysLeftByMarking {x1 : Int} {g : mG} {d : mD} {Q : mQ} (h : MM mX11_daysLeftByMarking [vR 0, vI x1] g d (fun o g' d' => match o with | .inl v => Q (.inl 0) g' (ud d' 74 0 v) | .inr k => LX [3] k Q g' d')) : MM mL_daysLeftByMarking [vR 0, vI x1, vR 74] g d Q := by
  refine MM_of (by decide) rfl (by simp [catV]) (Nat.le_of_ble_eq_true rfl) ?_
  show MW mL_daysLeftByMarking 1 6 0 [(0, vR 0), (1, vI x1), (2, vR 74)] [] g d Q
  refine mw_top (fun hT => ?_)
  have hG : 76 ≤ g.2.1 := hT.2
  refine mw_aload_n (v := vR 74) (pc' := 1) dL_daysLeftByMarking_0 rfl rfl (Or.inl rfl) rfl ?_
  refine mw_iconst (pc' := 2) dL_daysLeftByMarking_1 rfl ⟨by decide, by decide⟩ ?_
  refine mw_aload_n (v := vR 0) (pc' := 3) dL_daysLeftByMarking_2 rfl rfl (Or.inl rfl) rfl ?_
  refine mw_iload_n (pc' := 4) dL_daysLeftByMarking_3 rfl rfl rfl ?_
  refine mw_callV (M' := mX11_daysLeftByMarking) (A := [vI x1]) (A' := [vR 0, vI x1]) (S := [vI 0, vR 74]) (a := 0) (pc' := 7) dL_daysLeftByMarking_4 rfl (Or.inl (goodW 1127 (by decide +kernel) rfl)) kM_X11_daysLeftByMarking kV_X11_daysLeftByMarking ⟨by decide, by decide, by decide, by decide, by decide⟩ rfl rfl rfl ⟨by decide, by omega⟩ (by decide +kernel) (by decide +kernel) (Nat.le_of_ble_eq_true rfl) (MM.mono ?_ h)
  intro o g1 d1 h1
  rcases o with v | k
  · show MW mL_daysLeftByMarking 0 0 7 [(0, vR 0), (1, vI x1), (2, vR 74)] [vI v, vI 0, vR 74] g1 d1 Q
    refine mw_i2l (pc' := 8) dL_daysLeftByMarking_7 rfl ?_
    refine mw_last (pc' := 9) dL_daysLeftByMarking_8 rfl (by decide +kernel) ⟨by decide, by decide⟩ (by rw [show LN 74 = 1 by decide +kernel]; exact ⟨by decide, by decide⟩) ?_
    refine mw_goto (pc' := 0) (tgt := 15) dL_daysLeftByMarking_9 (by decide) ?_
    refine mw_iconst (pc' := 16) dL_daysLeftByMarking_15 rfl ⟨by decide, by decide⟩ ?_
    exact mw_iret (pc' := 0) (S := []) dL_daysLeftByMarking_16 rfl (Or.inl rfl) h1
  · obtain ⟨hk, hq⟩ := h1
    have hk := List.mem_singleton.mp hk
    subst hk
    refine mx_catch (k := 3) (k1 := 0) [] ⟨0, 9, 12, 30⟩ [] rfl (fun _ hz => absurd hz List.not_mem_nil) rfl (by decide) kc_3 ka_3 (fun q => ?_)
    refine mw_astore_n (v := (7, q)) (pc' := 13) (L' := [(0, vR 0), (1, vI x1), (2, vR 74), (3, (7, q))]) dL_daysLeftByMarking_12 rfl rfl (by simp) (by decide) rfl ?_
    refine mw_iconst (pc' := 14) dL_daysLeftByMarking_13 rfl ⟨by decide, by decide⟩ ?_
    exact mw_iret (pc' := 0) (S := []) dL_daysLeftByMarking_14 rfl (Or.inl rfl) hq
theorem kM_X11_extendByConsent : CM mX11_extendByConsent 2 := ⟨(goodW 1138 (by decide +kernel) rfl), (goodW 1 (by decide +kernel) rfl), ⟨by decide, by decide⟩, by decide +kernel, rfl⟩
theorem kV_X11_extendByConsent : CV mX11_extendByConsent := ⟨(goodW 1136 (by decide +kernel) rfl), (goodW 1137 (by decide +kernel) rfl)⟩
theorem wr_extendByConsent {x1 x2 : Int} {g : mG} {d : mD} {Q : mQ} (h : MM mX11_extendByConsent [vR 0, vI x1, vI x2] g d (fun o g' d' => match o with | .inl v => Q (.inl 0) g' (ud d' 74 0 v) | .inr k => LX [3, 2, 1, 5] k Q g' d')) : MM mL_extendByConsent [vR 0, vI x1, vI x2, vR 74] g d Q := by
  refine MM_of (by decide) rfl (by simp [catV]) (Nat.le_of_ble_eq_true rfl) ?_
  show MW mL_extendByConsent 47 8228 0 [(0, vR 0), (1, vI x1), (2, vI x2), (3, vR 74)] [] g d Q
  refine mw_top (fun hT => ?_)
  have hG : 76 ≤ g.2.1 := hT.2
  refine mw_aload_n (v := vR 74) (pc' := 1) dL_extendByConsent_0 rfl rfl (Or.inl rfl) rfl ?_
  refine mw_iconst (pc' := 2) dL_extendByConsent_1 rfl ⟨by decide, by decide⟩ ?_
  refine mw_aload_n (v := vR 0) (pc' := 3) dL_extendByConsent_2 rfl rfl (Or.inl rfl) rfl ?_
  refine mw_iload_n (pc' := 4) dL_extendByConsent_3 rfl rfl rfl ?_
  refine mw_iload_n (pc' := 5) dL_extendByConsent_4 rfl rfl rfl ?_
  refine mw_callV (M' := mX11_extendByConsent) (A := [vI x1, vI x2]) (A' := [vR 0, vI x1, vI x2]) (S := [vI 0, vR 74]) (a := 0) (pc' := 8) dL_extendByConsent_5 rfl (Or.inl (goodW 1135 (by decide +kernel) rfl)) kM_X11_extendByConsent kV_X11_extendByConsent ⟨by decide, by decide, by decide, by decide, by decide⟩ rfl rfl rfl ⟨by decide, by omega⟩ (by decide +kernel) (by decide +kernel) (Nat.le_of_ble_eq_true rfl) (MM.mono ?_ h)
  intro o g1 d1 h1
  rcases o with v | k
  · show MW mL_extendByConsent 0 0 8 [(0, vR 0), (1, vI x1), (2, vI x2), (3, vR 74)] [vI v, vI 0, vR 74] g1 d1 Q
    refine mw_i2l (pc' := 9) dL_extendByConsent_8 rfl ?_
    refine mw_last (pc' := 10) dL_extendByConsent_9 rfl (by decide +kernel) ⟨by decide, by decide⟩ (by rw [show LN 74 = 1 by decide +kernel]; exact ⟨by decide, by decide⟩) ?_
    refine mw_goto (pc' := 0) (tgt := 29) dL_extendByConsent_10 (by decide) ?_
    refine mw_iconst (pc' := 30) dL_extendByConsent_29 rfl ⟨by decide, by decide⟩ ?_
    exact mw_iret (pc' := 0) (S := []) dL_extendByConsent_30 rfl (Or.inl rfl) h1
  · obtain ⟨hk, hq⟩ := h1
    rcases (show k = 3 ∨ k = 2 ∨ k = 1 ∨ k = 5 by simpa using hk) with hk | hk | hk | hk
    · subst hk
      refine mx_catch (k := 3) (k1 := 0) [] ⟨0, 10, 13, 30⟩ [⟨0, 10, 17, 19⟩, ⟨0, 10, 21, 13⟩, ⟨0, 10, 25, 103⟩] rfl (fun _ hz => absurd hz List.not_mem_nil) rfl (by decide) kc_3 ka_3 (fun q => ?_)
      refine mw_astore (v := (7, q)) (pc' := 15) (L' := [(0, vR 0), (1, vI x1), (2, vI x2), (3, vR 74), (4, (7, q))]) dL_extendByConsent_13 rfl (by simp) (by decide) rfl ?_
      refine mw_iconst (pc' := 16) dL_extendByConsent_15 rfl ⟨by decide, by decide⟩ ?_
      exact mw_iret (pc' := 0) (S := []) dL_extendByConsent_16 rfl (Or.inl rfl) hq
    · subst hk
      refine mx_catch (k := 2) (k1 := 0) [⟨0, 10, 13, 30⟩] ⟨0, 10, 17, 19⟩ [⟨0, 10, 21, 13⟩, ⟨0, 10, 25, 103⟩] rfl (List.forall_mem_cons.mpr ⟨⟨by decide, 1, 2, by decide, by decide, by decide, rfl, kc_3⟩, (fun _ hz => absurd hz List.not_mem_nil)⟩) rfl (by decide) kc_2 ka_2 (fun q => ?_)
      refine mw_astore (v := (7, q)) (pc' := 19) (L' := [(0, vR 0), (1, vI x1), (2, vI x2), (3, vR 74), (4, (7, q))]) dL_extendByConsent_17 rfl (by simp) (by decide) rfl ?_
      refine mw_iconst (pc' := 20) dL_extendByConsent_19 rfl ⟨by decide, by decide⟩ ?_
      exact mw_iret (pc' := 0) (S := []) dL_extendByConsent_20 rfl (Or.inl rfl) hq
    · subst hk
      refine mx_catch (k := 1) (k1 := 0) [⟨0, 10, 13, 30⟩, ⟨0, 10, 17, 19⟩] ⟨0, 10, 21, 13⟩ [⟨0, 10, 25, 103⟩] rfl (List.forall_mem_cons.mpr ⟨⟨by decide, 0, 2, by decide, by decide, by decide, rfl, kc_3⟩, (List.forall_mem_cons.mpr ⟨⟨by decide, 0, 1, by decide, by decide, by decide, rfl, kc_2⟩, (fun _ hz => absurd hz List.not_mem_nil)⟩)⟩) rfl (by decide) kc_1 ka_1 (fun q => ?_)
      refine mw_astore (v := (7, q)) (pc' := 23) (L' := [(0, vR 0), (1, vI x1), (2, vI x2), (3, vR 74), (4, (7, q))]) dL_extendByConsent_21 rfl (by simp) (by decide) rfl ?_
      refine mw_iconst (pc' := 24) dL_extendByConsent_23 rfl ⟨by decide, by decide⟩ ?_
      exact mw_iret (pc' := 0) (S := []) dL_extendByConsent_24 rfl (Or.inl rfl) hq
    · subst hk
      refine mx_catch (k := 5) (k1 := 0) [⟨0, 10, 13, 30⟩, ⟨0, 10, 17, 19⟩, ⟨0, 10, 21, 13⟩] ⟨0, 10, 25, 103⟩ [] rfl (List.forall_mem_cons.mpr ⟨⟨by decide, 4, 2, by decide, by decide, by decide, rfl, kc_3⟩, (List.forall_mem_cons.mpr ⟨⟨by decide, 4, 1, by decide, by decide, by decide, rfl, kc_2⟩, (List.forall_mem_cons.mpr ⟨⟨by decide, 4, 0, by decide, by decide, by decide, rfl, kc_1⟩, (fun _ hz => absurd hz List.not_mem_nil)⟩)⟩)⟩) rfl (by decide) kc_5 ka_5 (fun q => ?_)
      refine mw_astore (v := (7, q)) (pc' := 27) (L' := [(0, vR 0), (1, vI x1), (2, vI x2), (3, vR 74), (4, (7, q))]) dL_extendByConsent_25 rfl (by simp) (by decide) rfl ?_
      refine mw_iconst (pc' := 28) dL_extendByConsent_27 rfl ⟨by decide, by decide⟩ ?_
      exact mw_iret (pc' := 0) (S := []) dL_extendByConsent_28 rfl (Or.inl rfl) hq
theorem kM_X11_extendByOrder : CM mX11_extendByOrder 2 := ⟨(goodW 1153 (by decide +kernel) rfl), (goodW 1 (by decide +kernel) rfl), ⟨by decide, by decide⟩, by decide +kernel, rfl⟩
theorem kV_X11_extendByOrder : CV mX11_extendByOrder := ⟨(goodW 1151 (by decide +kernel) rfl), (goodW 1152 (by decide +kernel) rfl)⟩
theorem wr_extendByOrder {x1 x2 : Int} {g : mG} {d : mD} {Q : mQ} (h : MM mX11_extendByOrder [vR 0, vI x1, vI x2] g d (fun o g' d' => match o with | .inl v => Q (.inl 0) g' (ud d' 74 0 v) | .inr k => LX [3, 2, 1] k Q g' d')) : MM mL_extendByOrder [vR 0, vI x1, vI x2, vR 74] g d Q := by
  refine MM_of (by decide) rfl (by simp [catV]) (Nat.le_of_ble_eq_true rfl) ?_
  show MW mL_extendByOrder 47 8228 0 [(0, vR 0), (1, vI x1), (2, vI x2), (3, vR 74)] [] g d Q
  refine mw_top (fun hT => ?_)
  have hG : 76 ≤ g.2.1 := hT.2
  refine mw_aload_n (v := vR 74) (pc' := 1) dL_extendByOrder_0 rfl rfl (Or.inl rfl) rfl ?_
  refine mw_iconst (pc' := 2) dL_extendByOrder_1 rfl ⟨by decide, by decide⟩ ?_
  refine mw_aload_n (v := vR 0) (pc' := 3) dL_extendByOrder_2 rfl rfl (Or.inl rfl) rfl ?_
  refine mw_iload_n (pc' := 4) dL_extendByOrder_3 rfl rfl rfl ?_
  refine mw_iload_n (pc' := 5) dL_extendByOrder_4 rfl rfl rfl ?_
  refine mw_callV (M' := mX11_extendByOrder) (A := [vI x1, vI x2]) (A' := [vR 0, vI x1, vI x2]) (S := [vI 0, vR 74]) (a := 0) (pc' := 8) dL_extendByOrder_5 rfl (Or.inl (goodW 1150 (by decide +kernel) rfl)) kM_X11_extendByOrder kV_X11_extendByOrder ⟨by decide, by decide, by decide, by decide, by decide⟩ rfl rfl rfl ⟨by decide, by omega⟩ (by decide +kernel) (by decide +kernel) (Nat.le_of_ble_eq_true rfl) (MM.mono ?_ h)
  intro o g1 d1 h1
  rcases o with v | k
  · show MW mL_extendByOrder 0 0 8 [(0, vR 0), (1, vI x1), (2, vI x2), (3, vR 74)] [vI v, vI 0, vR 74] g1 d1 Q
    refine mw_i2l (pc' := 9) dL_extendByOrder_8 rfl ?_
    refine mw_last (pc' := 10) dL_extendByOrder_9 rfl (by decide +kernel) ⟨by decide, by decide⟩ (by rw [show LN 74 = 1 by decide +kernel]; exact ⟨by decide, by decide⟩) ?_
    refine mw_goto (pc' := 0) (tgt := 25) dL_extendByOrder_10 (by decide) ?_
    refine mw_iconst (pc' := 26) dL_extendByOrder_25 rfl ⟨by decide, by decide⟩ ?_
    exact mw_iret (pc' := 0) (S := []) dL_extendByOrder_26 rfl (Or.inl rfl) h1
  · obtain ⟨hk, hq⟩ := h1
    rcases (show k = 3 ∨ k = 2 ∨ k = 1 by simpa using hk) with hk | hk | hk
    · subst hk
      refine mx_catch (k := 3) (k1 := 0) [] ⟨0, 10, 13, 30⟩ [⟨0, 10, 17, 19⟩, ⟨0, 10, 21, 13⟩] rfl (fun _ hz => absurd hz List.not_mem_nil) rfl (by decide) kc_3 ka_3 (fun q => ?_)
      refine mw_astore (v := (7, q)) (pc' := 15) (L' := [(0, vR 0), (1, vI x1), (2, vI x2), (3, vR 74), (4, (7, q))]) dL_extendByOrder_13 rfl (by simp) (by decide) rfl ?_
      refine mw_iconst (pc' := 16) dL_extendByOrder_15 rfl ⟨by decide, by decide⟩ ?_
      exact mw_iret (pc' := 0) (S := []) dL_extendByOrder_16 rfl (Or.inl rfl) hq
    · subst hk
      refine mx_catch (k := 2) (k1 := 0) [⟨0, 10, 13, 30⟩] ⟨0, 10, 17, 19⟩ [⟨0, 10, 21, 13⟩] rfl (List.forall_mem_cons.mpr ⟨⟨by decide, 1, 2, by decide, by decide, by decide, rfl, kc_3⟩, (fun _ hz => absurd hz List.not_mem_nil)⟩) rfl (by decide) kc_2 ka_2 (fun q => ?_)
      refine mw_astore (v := (7, q)) (pc' := 19) (L' := [(0, vR 0), (1, vI x1), (2, vI x2), (3, vR 74), (4, (7, q))]) dL_extendByOrder_17 rfl (by simp) (by decide) rfl ?_
      refine mw_iconst (pc' := 20) dL_extendByOrder_19 rfl ⟨by decide, by decide⟩ ?_
      exact mw_iret (pc' := 0) (S := []) dL_extendByOrder_20 rfl (Or.inl rfl) hq
    · subst hk
      refine mx_catch (k := 1) (k1 := 0) [⟨0, 10, 13, 30⟩, ⟨0, 10, 17, 19⟩] ⟨0, 10, 21, 13⟩ [] rfl (List.forall_mem_cons.mpr ⟨⟨by decide, 0, 2, by decide, by decide, by decide, rfl, kc_3⟩, (List.forall_mem_cons.mpr ⟨⟨by decide, 0, 1, by decide, by decide, by decide, rfl, kc_2⟩, (fun _ hz => absurd hz List.not_mem_nil)⟩)⟩) rfl (by decide) kc_1 ka_1 (fun q => ?_)
      refine mw_astore (v := (7, q)) (pc' := 23) (L' := [(0, vR 0), (1, vI x1), (2, vI x2), (3, vR 74), (4, (7, q))]) dL_extendByOrder_21 rfl (by simp) (by decide) rfl ?_
      refine mw_iconst (pc' := 24) dL_extendByOrder_23 rfl ⟨by decide, by decide⟩ ?_
      exact mw_iret (pc' := 0) (S := []) dL_extendByOrder_24 rfl (Or.inl rfl) hq
theorem kM_X11_extensionDays : CM mX11_extensionDays 1 := ⟨(goodW 1164 (by decide +kernel) rfl), (goodW 1 (by decide +kernel) rfl), ⟨by decide, by decide⟩, by decide +kernel, rfl⟩
theorem kV_X11_extensionDays : CV mX11_extensionDays := ⟨(goodW 1162 (by decide +kernel) rfl), (goodW 1163 (by decide +kernel) rfl)⟩
theorem wr_extensionDays {x1 : Int} {g : mG} {d : mD} {Q : mQ} (h : MM mX11_extensionDays [vR 0, vI x1] g d (fun o g' d' => match o with | .inl v => Q (.inl 0) g' (ud d' 74 0 v) | .inr k => LX [3] k Q g' d')) : MM mL_extensionDays [vR 0, vI x1, vR 74] g d Q := by
  refine MM_of (by decide) rfl (by simp [catV]) (Nat.le_of_ble_eq_true rfl) ?_
  show MW mL_extensionDays 1 6 0 [(0, vR 0), (1, vI x1), (2, vR 74)] [] g d Q
  refine mw_top (fun hT => ?_)
  have hG : 76 ≤ g.2.1 := hT.2
  refine mw_aload_n (v := vR 74) (pc' := 1) dL_extensionDays_0 rfl rfl (Or.inl rfl) rfl ?_
  refine mw_iconst (pc' := 2) dL_extensionDays_1 rfl ⟨by decide, by decide⟩ ?_
  refine mw_aload_n (v := vR 0) (pc' := 3) dL_extensionDays_2 rfl rfl (Or.inl rfl) rfl ?_
  refine mw_iload_n (pc' := 4) dL_extensionDays_3 rfl rfl rfl ?_
  refine mw_callV (M' := mX11_extensionDays) (A := [vI x1]) (A' := [vR 0, vI x1]) (S := [vI 0, vR 74]) (a := 0) (pc' := 7) dL_extensionDays_4 rfl (Or.inl (goodW 1161 (by decide +kernel) rfl)) kM_X11_extensionDays kV_X11_extensionDays ⟨by decide, by decide, by decide, by decide, by decide⟩ rfl rfl rfl ⟨by decide, by omega⟩ (by decide +kernel) (by decide +kernel) (Nat.le_of_ble_eq_true rfl) (MM.mono ?_ h)
  intro o g1 d1 h1
  rcases o with v | k
  · show MW mL_extensionDays 0 0 7 [(0, vR 0), (1, vI x1), (2, vR 74)] [vI v, vI 0, vR 74] g1 d1 Q
    refine mw_i2l (pc' := 8) dL_extensionDays_7 rfl ?_
    refine mw_last (pc' := 9) dL_extensionDays_8 rfl (by decide +kernel) ⟨by decide, by decide⟩ (by rw [show LN 74 = 1 by decide +kernel]; exact ⟨by decide, by decide⟩) ?_
    refine mw_goto (pc' := 0) (tgt := 15) dL_extensionDays_9 (by decide) ?_
    refine mw_iconst (pc' := 16) dL_extensionDays_15 rfl ⟨by decide, by decide⟩ ?_
    exact mw_iret (pc' := 0) (S := []) dL_extensionDays_16 rfl (Or.inl rfl) h1
  · obtain ⟨hk, hq⟩ := h1
    have hk := List.mem_singleton.mp hk
    subst hk
    refine mx_catch (k := 3) (k1 := 0) [] ⟨0, 9, 12, 30⟩ [] rfl (fun _ hz => absurd hz List.not_mem_nil) rfl (by decide) kc_3 ka_3 (fun q => ?_)
    refine mw_astore_n (v := (7, q)) (pc' := 13) (L' := [(0, vR 0), (1, vI x1), (2, vR 74), (3, (7, q))]) dL_extensionDays_12 rfl rfl (by simp) (by decide) rfl ?_
    refine mw_iconst (pc' := 14) dL_extensionDays_13 rfl ⟨by decide, by decide⟩ ?_
    exact mw_iret (pc' := 0) (S := []) dL_extensionDays_14 rfl (Or.inl rfl) hq
theorem kM_X11_file : CM mX11_file 1 := ⟨(goodW 1171 (by decide +kernel) rfl), (goodW 1 (by decide +kernel) rfl), ⟨by decide, by decide⟩, by decide +kernel, rfl⟩
theorem kV_X11_file : CV mX11_file := ⟨(goodW 1169 (by decide +kernel) rfl), (goodW 1170 (by decide +kernel) rfl)⟩
theorem wr_file {x1 : Int} {g : mG} {d : mD} {Q : mQ} (h : MM mX11_file [vR 0, vI x1] g d (fun o g' d' => match o with | .inl v => (v = 0 → Q (.inl 0) g' (ud d' 74 0 0)) ∧ (¬ v = 0 → Q (.inl 0) g' (ud d' 74 0 1)) | .inr k => LX [3, 1] k Q g' d')) : MM mL_file [vR 0, vI x1, vR 74] g d Q := by
  refine MM_of (by decide) rfl (by simp [catV]) (Nat.le_of_ble_eq_true rfl) ?_
  show MW mL_file 47 8228 0 [(0, vR 0), (1, vI x1), (2, vR 74)] [] g d Q
  refine mw_top (fun hT => ?_)
  have hG : 76 ≤ g.2.1 := hT.2
  refine mw_aload_n (v := vR 74) (pc' := 1) dL_file_0 rfl rfl (Or.inl rfl) rfl ?_
  refine mw_iconst (pc' := 2) dL_file_1 rfl ⟨by decide, by decide⟩ ?_
  refine mw_aload_n (v := vR 0) (pc' := 3) dL_file_2 rfl rfl (Or.inl rfl) rfl ?_
  refine mw_iload_n (pc' := 4) dL_file_3 rfl rfl rfl ?_
  refine mw_callV (M' := mX11_file) (A := [vI x1]) (A' := [vR 0, vI x1]) (S := [vI 0, vR 74]) (a := 0) (pc' := 7) dL_file_4 rfl (Or.inl (goodW 1168 (by decide +kernel) rfl)) kM_X11_file kV_X11_file ⟨by decide, by decide, by decide, by decide, by decide⟩ rfl rfl rfl ⟨by decide, by omega⟩ (by decide +kernel) (by decide +kernel) (Nat.le_of_ble_eq_true rfl) (MM.mono ?_ h)
  intro o g1 d1 h1
  rcases o with v | k
  · show MW mL_file 0 0 7 [(0, vR 0), (1, vI x1), (2, vR 74)] [vI v, vI 0, vR 74] g1 d1 Q
    refine mw_if_eq (tgt := 14) (pc' := 10) dL_file_7 rfl (by decide) (fun c => ?_) (fun c => ?_)
    · refine mw_lconst0 (pc' := 15) dL_file_14 rfl ?_
      refine mw_last (pc' := 16) dL_file_15 rfl (by decide +kernel) ⟨by decide, by decide⟩ (by rw [show LN 74 = 1 by decide +kernel]; exact ⟨by decide, by decide⟩) ?_
      refine mw_goto (pc' := 0) (tgt := 25) dL_file_16 (by decide) ?_
      refine mw_iconst (pc' := 26) dL_file_25 rfl ⟨by decide, by decide⟩ ?_
      exact mw_iret (pc' := 0) (S := []) dL_file_26 rfl (Or.inl rfl) (h1.1 c)
    · refine mw_lconst1 (pc' := 11) dL_file_10 rfl ?_
      refine mw_goto (pc' := 0) (tgt := 15) dL_file_11 (by decide) ?_
      refine mw_last (pc' := 16) dL_file_15 rfl (by decide +kernel) ⟨by decide, by decide⟩ (by rw [show LN 74 = 1 by decide +kernel]; exact ⟨by decide, by decide⟩) ?_
      refine mw_goto (pc' := 0) (tgt := 25) dL_file_16 (by decide) ?_
      refine mw_iconst (pc' := 26) dL_file_25 rfl ⟨by decide, by decide⟩ ?_
      exact mw_iret (pc' := 0) (S := []) dL_file_26 rfl (Or.inl rfl) (h1.2 c)
  · obtain ⟨hk, hq⟩ := h1
    rcases (show k = 3 ∨ k = 1 by simpa using hk) with hk | hk
    · subst hk
      refine mx_catch (k := 3) (k1 := 0) [] ⟨0, 16, 19, 30⟩ [⟨0, 16, 22, 13⟩] rfl (fun _ hz => absurd hz List.not_mem_nil) rfl (by decide) kc_3 ka_3 (fun q => ?_)
      refine mw_astore_n (v := (7, q)) (pc' := 20) (L' := [(0, vR 0), (1, vI x1), (2, vR 74), (3, (7, q))]) dL_file_19 rfl rfl (by simp) (by decide) rfl ?_
      refine mw_iconst (pc' := 21) dL_file_20 rfl ⟨by decide, by decide⟩ ?_
      exact mw_iret (pc' := 0) (S := []) dL_file_21 rfl (Or.inl rfl) hq
    · subst hk
      refine mx_catch (k := 1) (k1 := 0) [⟨0, 16, 19, 30⟩] ⟨0, 16, 22, 13⟩ [] rfl (List.forall_mem_cons.mpr ⟨⟨by decide, 0, 2, by decide, by decide, by decide, rfl, kc_3⟩, (fun _ hz => absurd hz List.not_mem_nil)⟩) rfl (by decide) kc_1 ka_1 (fun q => ?_)
      refine mw_astore_n (v := (7, q)) (pc' := 23) (L' := [(0, vR 0), (1, vI x1), (2, vR 74), (3, (7, q))]) dL_file_22 rfl rfl (by simp) (by decide) rfl ?_
      refine mw_iconst (pc' := 24) dL_file_23 rfl ⟨by decide, by decide⟩ ?_
      exact mw_iret (pc' := 0) (S := []) dL_file_24 rfl (Or.inl rfl) hq
theorem kM_X11_strike : CM mX11_strike 1 := ⟨(goodW 1182 (by decide +kernel) rfl), (goodW 1 (by decide +kernel) rfl), ⟨by decide, by decide⟩, by decide +kernel, rfl⟩
theorem kV_X11_strike : CV mX11_strike := ⟨(goodW 1180 (by decide +kernel) rfl), (goodW 1181 (by decide +kernel) rfl)⟩
theorem wr_strike {x1 : Int} {g : mG} {d : mD} {Q : mQ} (h : MM mX11_strike [vR 0, vI x1] g d (fun o g' d' => match o with | .inl v => Q (.inl 0) g' (ud d' 74 0 v) | .inr k => LX [3, 1] k Q g' d')) : MM mL_strike [vR 0, vI x1, vR 74] g d Q := by
  refine MM_of (by decide) rfl (by simp [catV]) (Nat.le_of_ble_eq_true rfl) ?_
  show MW mL_strike 47 8228 0 [(0, vR 0), (1, vI x1), (2, vR 74)] [] g d Q
  refine mw_top (fun hT => ?_)
  have hG : 76 ≤ g.2.1 := hT.2
  refine mw_aload_n (v := vR 74) (pc' := 1) dL_strike_0 rfl rfl (Or.inl rfl) rfl ?_
  refine mw_iconst (pc' := 2) dL_strike_1 rfl ⟨by decide, by decide⟩ ?_
  refine mw_aload_n (v := vR 0) (pc' := 3) dL_strike_2 rfl rfl (Or.inl rfl) rfl ?_
  refine mw_iload_n (pc' := 4) dL_strike_3 rfl rfl rfl ?_
  refine mw_callV (M' := mX11_strike) (A := [vI x1]) (A' := [vR 0, vI x1]) (S := [vI 0, vR 74]) (a := 0) (pc' := 7) dL_strike_4 rfl (Or.inl (goodW 1179 (by decide +kernel) rfl)) kM_X11_strike kV_X11_strike ⟨by decide, by decide, by decide, by decide, by decide⟩ rfl rfl rfl ⟨by decide, by omega⟩ (by decide +kernel) (by decide +kernel) (Nat.le_of_ble_eq_true rfl) (MM.mono ?_ h)
  intro o g1 d1 h1
  rcases o with v | k
  · show MW mL_strike 0 0 7 [(0, vR 0), (1, vI x1), (2, vR 74)] [vI v, vI 0, vR 74] g1 d1 Q
    refine mw_i2l (pc' := 8) dL_strike_7 rfl ?_
    refine mw_last (pc' := 9) dL_strike_8 rfl (by decide +kernel) ⟨by decide, by decide⟩ (by rw [show LN 74 = 1 by decide +kernel]; exact ⟨by decide, by decide⟩) ?_
    refine mw_goto (pc' := 0) (tgt := 18) dL_strike_9 (by decide) ?_
    refine mw_iconst (pc' := 19) dL_strike_18 rfl ⟨by decide, by decide⟩ ?_
    exact mw_iret (pc' := 0) (S := []) dL_strike_19 rfl (Or.inl rfl) h1
  · obtain ⟨hk, hq⟩ := h1
    rcases (show k = 3 ∨ k = 1 by simpa using hk) with hk | hk
    · subst hk
      refine mx_catch (k := 3) (k1 := 0) [] ⟨0, 9, 12, 30⟩ [⟨0, 9, 15, 13⟩] rfl (fun _ hz => absurd hz List.not_mem_nil) rfl (by decide) kc_3 ka_3 (fun q => ?_)
      refine mw_astore_n (v := (7, q)) (pc' := 13) (L' := [(0, vR 0), (1, vI x1), (2, vR 74), (3, (7, q))]) dL_strike_12 rfl rfl (by simp) (by decide) rfl ?_
      refine mw_iconst (pc' := 14) dL_strike_13 rfl ⟨by decide, by decide⟩ ?_
      exact mw_iret (pc' := 0) (S := []) dL_strike_14 rfl (Or.inl rfl) hq
    · subst hk
      refine mx_catch (k := 1) (k1 := 0) [⟨0, 9, 12, 30⟩] ⟨0, 9, 15, 13⟩ [] rfl (List.forall_mem_cons.mpr ⟨⟨by decide, 0, 2, by decide, by decide, by decide, rfl, kc_3⟩, (fun _ hz => absurd hz List.not_mem_nil)⟩) rfl (by decide) kc_1 ka_1 (fun q => ?_)
      refine mw_astore_n (v := (7, q)) (pc' := 16) (L' := [(0, vR 0), (1, vI x1), (2, vR 74), (3, (7, q))]) dL_strike_15 rfl rfl (by simp) (by decide) rfl ?_
      refine mw_iconst (pc' := 17) dL_strike_16 rfl ⟨by decide, by decide⟩ ?_
      exact mw_iret (pc' := 0) (S := []) dL_strike_17 rfl (Or.inl rfl) hq
theorem kM_X11_status : CM mX11_status 1 := ⟨(goodW 1198 (by decide +kernel) rfl), (goodW 1 (by decide +kernel) rfl), ⟨by decide, by decide⟩, by decide +kernel, rfl⟩
theorem kV_X11_status : CV mX11_status := ⟨(goodW 1196 (by decide +kernel) rfl), (goodW 1197 (by decide +kernel) rfl)⟩
theorem wr_status {x1 : Int} {g : mG} {d : mD} {Q : mQ} (h : MM mX11_status [vR 0, vI x1] g d (fun o g' d' => match o with | .inl v => Q (.inl 0) g' (ud d' 74 0 v) | .inr k => LX [3] k Q g' d')) : MM mL_status [vR 0, vI x1, vR 74] g d Q := by
  refine MM_of (by decide) rfl (by simp [catV]) (Nat.le_of_ble_eq_true rfl) ?_
  show MW mL_status 1 6 0 [(0, vR 0), (1, vI x1), (2, vR 74)] [] g d Q
  refine mw_top (fun hT => ?_)
  have hG : 76 ≤ g.2.1 := hT.2
  refine mw_aload_n (v := vR 74) (pc' := 1) dL_status_0 rfl rfl (Or.inl rfl) rfl ?_
  refine mw_iconst (pc' := 2) dL_status_1 rfl ⟨by decide, by decide⟩ ?_
  refine mw_aload_n (v := vR 0) (pc' := 3) dL_status_2 rfl rfl (Or.inl rfl) rfl ?_
  refine mw_iload_n (pc' := 4) dL_status_3 rfl rfl rfl ?_
  refine mw_callV (M' := mX11_status) (A := [vI x1]) (A' := [vR 0, vI x1]) (S := [vI 0, vR 74]) (a := 0) (pc' := 7) dL_status_4 rfl (Or.inl (goodW 1195 (by decide +kernel) rfl)) kM_X11_status kV_X11_status ⟨by decide, by decide, by decide, by decide, by decide⟩ rfl rfl rfl ⟨by decide, by omega⟩ (by decide +kernel) (by decide +kernel) (Nat.le_of_ble_eq_true rfl) (MM.mono ?_ h)
  intro o g1 d1 h1
  rcases o with v | k
  · show MW mL_status 0 0 7 [(0, vR 0), (1, vI x1), (2, vR 74)] [vI v, vI 0, vR 74] g1 d1 Q
    refine mw_i2l (pc' := 8) dL_status_7 rfl ?_
    refine mw_last (pc' := 9) dL_status_8 rfl (by decide +kernel) ⟨by decide, by decide⟩ (by rw [show LN 74 = 1 by decide +kernel]; exact ⟨by decide, by decide⟩) ?_
    refine mw_goto (pc' := 0) (tgt := 15) dL_status_9 (by decide) ?_
    refine mw_iconst (pc' := 16) dL_status_15 rfl ⟨by decide, by decide⟩ ?_
    exact mw_iret (pc' := 0) (S := []) dL_status_16 rfl (Or.inl rfl) h1
  · obtain ⟨hk, hq⟩ := h1
    have hk := List.mem_singleton.mp hk
    subst hk
    refine mx_catch (k := 3) (k1 := 0) [] ⟨0, 9, 12, 30⟩ [] rfl (fun _ hz => absurd hz List.not_mem_nil) rfl (by decide) kc_3 ka_3 (fun q => ?_)
    refine mw_astore_n (v := (7, q)) (pc' := 13) (L' := [(0, vR 0), (1, vI x1), (2, vR 74), (3, (7, q))]) dL_status_12 rfl rfl (by simp) (by decide) rfl ?_
    refine mw_iconst (pc' := 14) dL_status_13 rfl ⟨by decide, by decide⟩ ?_
    exact mw_iret (pc' := 0) (S := []) dL_status_14 rfl (Or.inl rfl) hq
theorem kM_X11_openAt : CM mX11_openAt 1 := ⟨(goodW 1205 (by decide +kernel) rfl), (goodW 1 (by decide +kernel) rfl), ⟨by decide, by decide⟩, by decide +kernel, rfl⟩
theorem kV_X11_openAt : CV mX11_openAt := ⟨(goodW 1203 (by decide +kernel) rfl), (goodW 1204 (by decide +kernel) rfl)⟩
theorem wr_openAt {x1 : Int} {g : mG} {d : mD} {Q : mQ} (h : MM mX11_openAt [vR 0, vI x1] g d (fun o g' d' => match o with | .inl v => Q (.inl 0) g' (ud d' 74 0 v) | .inr k => LX [4] k Q g' d')) : MM mL_openAt [vR 0, vI x1, vR 74] g d Q := by
  refine MM_of (by decide) rfl (by simp [catV]) (Nat.le_of_ble_eq_true rfl) ?_
  show MW mL_openAt 1 6 0 [(0, vR 0), (1, vI x1), (2, vR 74)] [] g d Q
  refine mw_top (fun hT => ?_)
  have hG : 76 ≤ g.2.1 := hT.2
  refine mw_aload_n (v := vR 74) (pc' := 1) dL_openAt_0 rfl rfl (Or.inl rfl) rfl ?_
  refine mw_iconst (pc' := 2) dL_openAt_1 rfl ⟨by decide, by decide⟩ ?_
  refine mw_aload_n (v := vR 0) (pc' := 3) dL_openAt_2 rfl rfl (Or.inl rfl) rfl ?_
  refine mw_iload_n (pc' := 4) dL_openAt_3 rfl rfl rfl ?_
  refine mw_callV (M' := mX11_openAt) (A := [vI x1]) (A' := [vR 0, vI x1]) (S := [vI 0, vR 74]) (a := 0) (pc' := 7) dL_openAt_4 rfl (Or.inl (goodW 1202 (by decide +kernel) rfl)) kM_X11_openAt kV_X11_openAt ⟨by decide, by decide, by decide, by decide, by decide⟩ rfl rfl rfl ⟨by decide, by omega⟩ (by decide +kernel) (by decide +kernel) (Nat.le_of_ble_eq_true rfl) (MM.mono ?_ h)
  intro o g1 d1 h1
  rcases o with v | k
  · show MW mL_openAt 0 0 7 [(0, vR 0), (1, vI x1), (2, vR 74)] [vI v, vI 0, vR 74] g1 d1 Q
    refine mw_i2l (pc' := 8) dL_openAt_7 rfl ?_
    refine mw_last (pc' := 9) dL_openAt_8 rfl (by decide +kernel) ⟨by decide, by decide⟩ (by rw [show LN 74 = 1 by decide +kernel]; exact ⟨by decide, by decide⟩) ?_
    refine mw_goto (pc' := 0) (tgt := 15) dL_openAt_9 (by decide) ?_
    refine mw_iconst (pc' := 16) dL_openAt_15 rfl ⟨by decide, by decide⟩ ?_
    exact mw_iret (pc' := 0) (S := []) dL_openAt_16 rfl (Or.inl rfl) h1
  · obtain ⟨hk, hq⟩ := h1
    have hk := List.mem_singleton.mp hk
    subst hk
    refine mx_catch (k := 4) (k1 := 0) [] ⟨0, 9, 12, 24⟩ [] rfl (fun _ hz => absurd hz List.not_mem_nil) rfl (by decide) kc_4 ka_4 (fun q => ?_)
    refine mw_astore_n (v := (7, q)) (pc' := 13) (L' := [(0, vR 0), (1, vI x1), (2, vR 74), (3, (7, q))]) dL_openAt_12 rfl rfl (by simp) (by decide) rfl ?_
    refine mw_iconst (pc' := 14) dL_openAt_13 rfl ⟨by decide, by decide⟩ ?_
    exact mw_iret (pc' := 0) (S := []) dL_openAt_14 rfl (Or.inl rfl) hq
theorem kM_X11_busiestDay : CM mX11_busiestDay 0 := ⟨(goodW 1217 (by decide +kernel) rfl), (goodW 1 (by decide +kernel) rfl), ⟨by decide, by decide⟩, by decide +kernel, rfl⟩
theorem kV_X11_busiestDay : CV mX11_busiestDay := ⟨(goodW 1215 (by decide +kernel) rfl), (goodW 1216 (by decide +kernel) rfl)⟩
theorem wr_busiestDay {g : mG} {d : mD} {Q : mQ} (h : MM mX11_busiestDay [vR 0] g d (fun o g' d' => match o with | .inl v => Q (.inl 0) g' (ud d' 74 0 v) | .inr k => LX [4] k Q g' d')) : MM mL_busiestDay [vR 0, vR 74] g d Q := by
  refine MM_of (by decide) rfl (by simp [catV]) (Nat.le_of_ble_eq_true rfl) ?_
  show MW mL_busiestDay 1 6 0 [(0, vR 0), (1, vR 74)] [] g d Q
  refine mw_top (fun hT => ?_)
  have hG : 76 ≤ g.2.1 := hT.2
  refine mw_aload_n (v := vR 74) (pc' := 1) dL_busiestDay_0 rfl rfl (Or.inl rfl) rfl ?_
  refine mw_iconst (pc' := 2) dL_busiestDay_1 rfl ⟨by decide, by decide⟩ ?_
  refine mw_aload_n (v := vR 0) (pc' := 3) dL_busiestDay_2 rfl rfl (Or.inl rfl) rfl ?_
  refine mw_callV (M' := mX11_busiestDay) (A := []) (A' := [vR 0]) (S := [vI 0, vR 74]) (a := 0) (pc' := 6) dL_busiestDay_3 rfl (Or.inl (goodW 1214 (by decide +kernel) rfl)) kM_X11_busiestDay kV_X11_busiestDay ⟨by decide, by decide, by decide, by decide, by decide⟩ rfl rfl rfl ⟨by decide, by omega⟩ (by decide +kernel) (by decide +kernel) (Nat.le_of_ble_eq_true rfl) (MM.mono ?_ h)
  intro o g1 d1 h1
  rcases o with v | k
  · show MW mL_busiestDay 0 0 6 [(0, vR 0), (1, vR 74)] [vI v, vI 0, vR 74] g1 d1 Q
    refine mw_i2l (pc' := 7) dL_busiestDay_6 rfl ?_
    refine mw_last (pc' := 8) dL_busiestDay_7 rfl (by decide +kernel) ⟨by decide, by decide⟩ (by rw [show LN 74 = 1 by decide +kernel]; exact ⟨by decide, by decide⟩) ?_
    refine mw_goto (pc' := 0) (tgt := 14) dL_busiestDay_8 (by decide) ?_
    refine mw_iconst (pc' := 15) dL_busiestDay_14 rfl ⟨by decide, by decide⟩ ?_
    exact mw_iret (pc' := 0) (S := []) dL_busiestDay_15 rfl (Or.inl rfl) h1
  · obtain ⟨hk, hq⟩ := h1
    have hk := List.mem_singleton.mp hk
    subst hk
    refine mx_catch (k := 4) (k1 := 0) [] ⟨0, 8, 11, 24⟩ [] rfl (fun _ hz => absurd hz List.not_mem_nil) rfl (by decide) kc_4 ka_4 (fun q => ?_)
    refine mw_astore_n (v := (7, q)) (pc' := 12) (L' := [(0, vR 0), (1, vR 74), (2, (7, q))]) dL_busiestDay_11 rfl rfl (by simp) (by decide) rfl ?_
    refine mw_iconst (pc' := 13) dL_busiestDay_12 rfl ⟨by decide, by decide⟩ ?_
    exact mw_iret (pc' := 0) (S := []) dL_busiestDay_13 rfl (Or.inl rfl) hq
theorem kM_X11_meanDaysLeft : CM mX11_meanDaysLeft 0 := ⟨(goodW 1242 (by decide +kernel) rfl), (goodW 1 (by decide +kernel) rfl), ⟨by decide, by decide⟩, by decide +kernel, rfl⟩
theorem kV_X11_meanDaysLeft : CV mX11_meanDaysLeft := ⟨(goodW 1240 (by decide +kernel) rfl), (goodW 1241 (by decide +kernel) rfl)⟩
theorem wr_meanDaysLeft {g : mG} {d : mD} {Q : mQ} (h : MM mX11_meanDaysLeft [vR 0] g d (fun o g' d' => match o with | .inl v => Q (.inl 0) g' (ud d' 75 0 v) | .inr k => LX [6] k Q g' d')) : MM mL_meanDaysLeft [vR 0, vR 75] g d Q := by
  refine MM_of (by decide) rfl (by simp [catV]) (Nat.le_of_ble_eq_true rfl) ?_
  show MW mL_meanDaysLeft 1 6 0 [(0, vR 0), (1, vR 75)] [] g d Q
  refine mw_top (fun hT => ?_)
  have hG : 76 ≤ g.2.1 := hT.2
  refine mw_aload_n (v := vR 75) (pc' := 1) dL_meanDaysLeft_0 rfl rfl (Or.inl rfl) rfl ?_
  refine mw_iconst (pc' := 2) dL_meanDaysLeft_1 rfl ⟨by decide, by decide⟩ ?_
  refine mw_aload_n (v := vR 0) (pc' := 3) dL_meanDaysLeft_2 rfl rfl (Or.inl rfl) rfl ?_
  refine mw_callV (M' := mX11_meanDaysLeft) (A := []) (A' := [vR 0]) (S := [vI 0, vR 75]) (a := 0) (pc' := 6) dL_meanDaysLeft_3 rfl (Or.inl (goodW 1239 (by decide +kernel) rfl)) kM_X11_meanDaysLeft kV_X11_meanDaysLeft ⟨by decide, by decide, by decide, by decide, by decide⟩ rfl rfl rfl ⟨by decide, by omega⟩ (by decide +kernel) (by decide +kernel) (Nat.le_of_ble_eq_true rfl) (MM.mono ?_ h)
  intro o g1 d1 h1
  rcases o with v | k
  · show MW mL_meanDaysLeft 0 0 6 [(0, vR 0), (1, vR 75)] [vD v, vI 0, vR 75] g1 d1 Q
    refine mw_dast (pc' := 7) dL_meanDaysLeft_6 rfl (by decide +kernel) ⟨by decide, by decide⟩ (by rw [show LN 75 = 1 by decide +kernel]; exact ⟨by decide, by decide⟩) ?_
    refine mw_goto (pc' := 0) (tgt := 13) dL_meanDaysLeft_7 (by decide) ?_
    refine mw_iconst (pc' := 14) dL_meanDaysLeft_13 rfl ⟨by decide, by decide⟩ ?_
    exact mw_iret (pc' := 0) (S := []) dL_meanDaysLeft_14 rfl (Or.inl rfl) h1
  · obtain ⟨hk, hq⟩ := h1
    have hk := List.mem_singleton.mp hk
    subst hk
    refine mx_catch (k := 6) (k1 := 0) [] ⟨0, 7, 10, 131⟩ [] rfl (fun _ hz => absurd hz List.not_mem_nil) rfl (by decide) kc_6 ka_6 (fun q => ?_)
    refine mw_astore_n (v := (7, q)) (pc' := 11) (L' := [(0, vR 0), (1, vR 75), (2, (7, q))]) dL_meanDaysLeft_10 rfl rfl (by simp) (by decide) rfl ?_
    refine mw_iconst (pc' := 12) dL_meanDaysLeft_11 rfl ⟨by decide, by decide⟩ ?_
    exact mw_iret (pc' := 0) (S := []) dL_meanDaysLeft_12 rfl (Or.inl rfl) hq
theorem kM_X11_stayParty : CM mX11_stayParty 2 := ⟨(goodW 1252 (by decide +kernel) rfl), (goodW 1 (by decide +kernel) rfl), ⟨by decide, by decide⟩, by decide +kernel, rfl⟩
theorem kV_X11_stayParty : CV mX11_stayParty := ⟨(goodW 1250 (by decide +kernel) rfl), (goodW 1251 (by decide +kernel) rfl)⟩
theorem wr_stayParty {x1 x2 : Int} {g : mG} {d : mD} {Q : mQ} (h : MM mX11_stayParty [vR 0, vI x1, vI x2] g d (fun o g' d' => match o with | .inl v => Q (.inl 0) g' (ud d' 74 0 v) | .inr k => LX [3, 2, 1] k Q g' d')) : MM mL_stayParty [vR 0, vI x1, vI x2, vR 74] g d Q := by
  refine MM_of (by decide) rfl (by simp [catV]) (Nat.le_of_ble_eq_true rfl) ?_
  show MW mL_stayParty 47 8228 0 [(0, vR 0), (1, vI x1), (2, vI x2), (3, vR 74)] [] g d Q
  refine mw_top (fun hT => ?_)
  have hG : 76 ≤ g.2.1 := hT.2
  refine mw_aload_n (v := vR 74) (pc' := 1) dL_stayParty_0 rfl rfl (Or.inl rfl) rfl ?_
  refine mw_iconst (pc' := 2) dL_stayParty_1 rfl ⟨by decide, by decide⟩ ?_
  refine mw_aload_n (v := vR 0) (pc' := 3) dL_stayParty_2 rfl rfl (Or.inl rfl) rfl ?_
  refine mw_iload_n (pc' := 4) dL_stayParty_3 rfl rfl rfl ?_
  refine mw_iload_n (pc' := 5) dL_stayParty_4 rfl rfl rfl ?_
  refine mw_callV (M' := mX11_stayParty) (A := [vI x1, vI x2]) (A' := [vR 0, vI x1, vI x2]) (S := [vI 0, vR 74]) (a := 0) (pc' := 8) dL_stayParty_5 rfl (Or.inl (goodW 1249 (by decide +kernel) rfl)) kM_X11_stayParty kV_X11_stayParty ⟨by decide, by decide, by decide, by decide, by decide⟩ rfl rfl rfl ⟨by decide, by omega⟩ (by decide +kernel) (by decide +kernel) (Nat.le_of_ble_eq_true rfl) (MM.mono ?_ h)
  intro o g1 d1 h1
  rcases o with v | k
  · show MW mL_stayParty 0 0 8 [(0, vR 0), (1, vI x1), (2, vI x2), (3, vR 74)] [vI v, vI 0, vR 74] g1 d1 Q
    refine mw_i2l (pc' := 9) dL_stayParty_8 rfl ?_
    refine mw_last (pc' := 10) dL_stayParty_9 rfl (by decide +kernel) ⟨by decide, by decide⟩ (by rw [show LN 74 = 1 by decide +kernel]; exact ⟨by decide, by decide⟩) ?_
    refine mw_goto (pc' := 0) (tgt := 25) dL_stayParty_10 (by decide) ?_
    refine mw_iconst (pc' := 26) dL_stayParty_25 rfl ⟨by decide, by decide⟩ ?_
    exact mw_iret (pc' := 0) (S := []) dL_stayParty_26 rfl (Or.inl rfl) h1
  · obtain ⟨hk, hq⟩ := h1
    rcases (show k = 3 ∨ k = 2 ∨ k = 1 by simpa using hk) with hk | hk | hk
    · subst hk
      refine mx_catch (k := 3) (k1 := 0) [] ⟨0, 10, 13, 30⟩ [⟨0, 10, 17, 19⟩, ⟨0, 10, 21, 13⟩] rfl (fun _ hz => absurd hz List.not_mem_nil) rfl (by decide) kc_3 ka_3 (fun q => ?_)
      refine mw_astore (v := (7, q)) (pc' := 15) (L' := [(0, vR 0), (1, vI x1), (2, vI x2), (3, vR 74), (4, (7, q))]) dL_stayParty_13 rfl (by simp) (by decide) rfl ?_
      refine mw_iconst (pc' := 16) dL_stayParty_15 rfl ⟨by decide, by decide⟩ ?_
      exact mw_iret (pc' := 0) (S := []) dL_stayParty_16 rfl (Or.inl rfl) hq
    · subst hk
      refine mx_catch (k := 2) (k1 := 0) [⟨0, 10, 13, 30⟩] ⟨0, 10, 17, 19⟩ [⟨0, 10, 21, 13⟩] rfl (List.forall_mem_cons.mpr ⟨⟨by decide, 1, 2, by decide, by decide, by decide, rfl, kc_3⟩, (fun _ hz => absurd hz List.not_mem_nil)⟩) rfl (by decide) kc_2 ka_2 (fun q => ?_)
      refine mw_astore (v := (7, q)) (pc' := 19) (L' := [(0, vR 0), (1, vI x1), (2, vI x2), (3, vR 74), (4, (7, q))]) dL_stayParty_17 rfl (by simp) (by decide) rfl ?_
      refine mw_iconst (pc' := 20) dL_stayParty_19 rfl ⟨by decide, by decide⟩ ?_
      exact mw_iret (pc' := 0) (S := []) dL_stayParty_20 rfl (Or.inl rfl) hq
    · subst hk
      refine mx_catch (k := 1) (k1 := 0) [⟨0, 10, 13, 30⟩, ⟨0, 10, 17, 19⟩] ⟨0, 10, 21, 13⟩ [] rfl (List.forall_mem_cons.mpr ⟨⟨by decide, 0, 2, by decide, by decide, by decide, rfl, kc_3⟩, (List.forall_mem_cons.mpr ⟨⟨by decide, 0, 1, by decide, by decide, by decide, rfl, kc_2⟩, (fun _ hz => absurd hz List.not_mem_nil)⟩)⟩) rfl (by decide) kc_1 ka_1 (fun q => ?_)
      refine mw_astore (v := (7, q)) (pc' := 23) (L' := [(0, vR 0), (1, vI x1), (2, vI x2), (3, vR 74), (4, (7, q))]) dL_stayParty_21 rfl (by simp) (by decide) rfl ?_
      refine mw_iconst (pc' := 24) dL_stayParty_23 rfl ⟨by decide, by decide⟩ ?_
      exact mw_iret (pc' := 0) (S := []) dL_stayParty_24 rfl (Or.inl rfl) hq
theorem kM_X11_stayAll : CM mX11_stayAll 1 := ⟨(goodW 1271 (by decide +kernel) rfl), (goodW 1 (by decide +kernel) rfl), ⟨by decide, by decide⟩, by decide +kernel, rfl⟩
theorem kV_X11_stayAll : CV mX11_stayAll := ⟨(goodW 1269 (by decide +kernel) rfl), (goodW 1270 (by decide +kernel) rfl)⟩
theorem wr_stayAll {x1 : Int} {g : mG} {d : mD} {Q : mQ} (h : MM mX11_stayAll [vR 0, vI x1] g d (fun o g' d' => match o with | .inl v => Q (.inl 0) g' (ud d' 74 0 v) | .inr k => LX [2, 1] k Q g' d')) : MM mL_stayAll [vR 0, vI x1, vR 74] g d Q := by
  refine MM_of (by decide) rfl (by simp [catV]) (Nat.le_of_ble_eq_true rfl) ?_
  show MW mL_stayAll 47 8228 0 [(0, vR 0), (1, vI x1), (2, vR 74)] [] g d Q
  refine mw_top (fun hT => ?_)
  have hG : 76 ≤ g.2.1 := hT.2
  refine mw_aload_n (v := vR 74) (pc' := 1) dL_stayAll_0 rfl rfl (Or.inl rfl) rfl ?_
  refine mw_iconst (pc' := 2) dL_stayAll_1 rfl ⟨by decide, by decide⟩ ?_
  refine mw_aload_n (v := vR 0) (pc' := 3) dL_stayAll_2 rfl rfl (Or.inl rfl) rfl ?_
  refine mw_iload_n (pc' := 4) dL_stayAll_3 rfl rfl rfl ?_
  refine mw_callV (M' := mX11_stayAll) (A := [vI x1]) (A' := [vR 0, vI x1]) (S := [vI 0, vR 74]) (a := 0) (pc' := 7) dL_stayAll_4 rfl (Or.inl (goodW 1268 (by decide +kernel) rfl)) kM_X11_stayAll kV_X11_stayAll ⟨by decide, by decide, by decide, by decide, by decide⟩ rfl rfl rfl ⟨by decide, by omega⟩ (by decide +kernel) (by decide +kernel) (Nat.le_of_ble_eq_true rfl) (MM.mono ?_ h)
  intro o g1 d1 h1
  rcases o with v | k
  · show MW mL_stayAll 0 0 7 [(0, vR 0), (1, vI x1), (2, vR 74)] [vI v, vI 0, vR 74] g1 d1 Q
    refine mw_i2l (pc' := 8) dL_stayAll_7 rfl ?_
    refine mw_last (pc' := 9) dL_stayAll_8 rfl (by decide +kernel) ⟨by decide, by decide⟩ (by rw [show LN 74 = 1 by decide +kernel]; exact ⟨by decide, by decide⟩) ?_
    refine mw_goto (pc' := 0) (tgt := 18) dL_stayAll_9 (by decide) ?_
    refine mw_iconst (pc' := 19) dL_stayAll_18 rfl ⟨by decide, by decide⟩ ?_
    exact mw_iret (pc' := 0) (S := []) dL_stayAll_19 rfl (Or.inl rfl) h1
  · obtain ⟨hk, hq⟩ := h1
    rcases (show k = 2 ∨ k = 1 by simpa using hk) with hk | hk
    · subst hk
      refine mx_catch (k := 2) (k1 := 0) [] ⟨0, 9, 12, 19⟩ [⟨0, 9, 15, 13⟩] rfl (fun _ hz => absurd hz List.not_mem_nil) rfl (by decide) kc_2 ka_2 (fun q => ?_)
      refine mw_astore_n (v := (7, q)) (pc' := 13) (L' := [(0, vR 0), (1, vI x1), (2, vR 74), (3, (7, q))]) dL_stayAll_12 rfl rfl (by simp) (by decide) rfl ?_
      refine mw_iconst (pc' := 14) dL_stayAll_13 rfl ⟨by decide, by decide⟩ ?_
      exact mw_iret (pc' := 0) (S := []) dL_stayAll_14 rfl (Or.inl rfl) hq
    · subst hk
      refine mx_catch (k := 1) (k1 := 0) [⟨0, 9, 12, 19⟩] ⟨0, 9, 15, 13⟩ [] rfl (List.forall_mem_cons.mpr ⟨⟨by decide, 0, 1, by decide, by decide, by decide, rfl, kc_2⟩, (fun _ hz => absurd hz List.not_mem_nil)⟩) rfl (by decide) kc_1 ka_1 (fun q => ?_)
      refine mw_astore_n (v := (7, q)) (pc' := 16) (L' := [(0, vR 0), (1, vI x1), (2, vR 74), (3, (7, q))]) dL_stayAll_15 rfl rfl (by simp) (by decide) rfl ?_
      refine mw_iconst (pc' := 17) dL_stayAll_16 rfl ⟨by decide, by decide⟩ ?_
      exact mw_iret (pc' := 0) (S := []) dL_stayAll_17 rfl (Or.inl rfl) hq
theorem kM_X11_lift : CM mX11_lift 1 := ⟨(goodW 1278 (by decide +kernel) rfl), (goodW 1 (by decide +kernel) rfl), ⟨by decide, by decide⟩, by decide +kernel, rfl⟩
theorem kV_X11_lift : CV mX11_lift := ⟨(goodW 1276 (by decide +kernel) rfl), (goodW 1277 (by decide +kernel) rfl)⟩
theorem wr_lift {x1 : Int} {g : mG} {d : mD} {Q : mQ} (h : MM mX11_lift [vR 0, vI x1] g d (fun o g' d' => match o with | .inl v => Q (.inl 0) g' (ud d' 74 0 v) | .inr k => LX [3, 1] k Q g' d')) : MM mL_lift [vR 0, vI x1, vR 74] g d Q := by
  refine MM_of (by decide) rfl (by simp [catV]) (Nat.le_of_ble_eq_true rfl) ?_
  show MW mL_lift 47 8228 0 [(0, vR 0), (1, vI x1), (2, vR 74)] [] g d Q
  refine mw_top (fun hT => ?_)
  have hG : 76 ≤ g.2.1 := hT.2
  refine mw_aload_n (v := vR 74) (pc' := 1) dL_lift_0 rfl rfl (Or.inl rfl) rfl ?_
  refine mw_iconst (pc' := 2) dL_lift_1 rfl ⟨by decide, by decide⟩ ?_
  refine mw_aload_n (v := vR 0) (pc' := 3) dL_lift_2 rfl rfl (Or.inl rfl) rfl ?_
  refine mw_iload_n (pc' := 4) dL_lift_3 rfl rfl rfl ?_
  refine mw_callV (M' := mX11_lift) (A := [vI x1]) (A' := [vR 0, vI x1]) (S := [vI 0, vR 74]) (a := 0) (pc' := 7) dL_lift_4 rfl (Or.inl (goodW 1275 (by decide +kernel) rfl)) kM_X11_lift kV_X11_lift ⟨by decide, by decide, by decide, by decide, by decide⟩ rfl rfl rfl ⟨by decide, by omega⟩ (by decide +kernel) (by decide +kernel) (Nat.le_of_ble_eq_true rfl) (MM.mono ?_ h)
  intro o g1 d1 h1
  rcases o with v | k
  · show MW mL_lift 0 0 7 [(0, vR 0), (1, vI x1), (2, vR 74)] [vI v, vI 0, vR 74] g1 d1 Q
    refine mw_i2l (pc' := 8) dL_lift_7 rfl ?_
    refine mw_last (pc' := 9) dL_lift_8 rfl (by decide +kernel) ⟨by decide, by decide⟩ (by rw [show LN 74 = 1 by decide +kernel]; exact ⟨by decide, by decide⟩) ?_
    refine mw_goto (pc' := 0) (tgt := 18) dL_lift_9 (by decide) ?_
    refine mw_iconst (pc' := 19) dL_lift_18 rfl ⟨by decide, by decide⟩ ?_
    exact mw_iret (pc' := 0) (S := []) dL_lift_19 rfl (Or.inl rfl) h1
  · obtain ⟨hk, hq⟩ := h1
    rcases (show k = 3 ∨ k = 1 by simpa using hk) with hk | hk
    · subst hk
      refine mx_catch (k := 3) (k1 := 0) [] ⟨0, 9, 12, 30⟩ [⟨0, 9, 15, 13⟩] rfl (fun _ hz => absurd hz List.not_mem_nil) rfl (by decide) kc_3 ka_3 (fun q => ?_)
      refine mw_astore_n (v := (7, q)) (pc' := 13) (L' := [(0, vR 0), (1, vI x1), (2, vR 74), (3, (7, q))]) dL_lift_12 rfl rfl (by simp) (by decide) rfl ?_
      refine mw_iconst (pc' := 14) dL_lift_13 rfl ⟨by decide, by decide⟩ ?_
      exact mw_iret (pc' := 0) (S := []) dL_lift_14 rfl (Or.inl rfl) hq
    · subst hk
      refine mx_catch (k := 1) (k1 := 0) [⟨0, 9, 12, 30⟩] ⟨0, 9, 15, 13⟩ [] rfl (List.forall_mem_cons.mpr ⟨⟨by decide, 0, 2, by decide, by decide, by decide, rfl, kc_3⟩, (fun _ hz => absurd hz List.not_mem_nil)⟩) rfl (by decide) kc_1 ka_1 (fun q => ?_)
      refine mw_astore_n (v := (7, q)) (pc' := 16) (L' := [(0, vR 0), (1, vI x1), (2, vR 74), (3, (7, q))]) dL_lift_15 rfl rfl (by simp) (by decide) rfl ?_
      refine mw_iconst (pc' := 17) dL_lift_16 rfl ⟨by decide, by decide⟩ ?_
      exact mw_iret (pc' := 0) (S := []) dL_lift_17 rfl (Or.inl rfl) hq
theorem kM_X11_isStopped : CM mX11_isStopped 2 := ⟨(goodW 1294 (by decide +kernel) rfl), (goodW 1 (by decide +kernel) rfl), ⟨by decide, by decide⟩, by decide +kernel, rfl⟩
theorem kV_X11_isStopped : CV mX11_isStopped := ⟨(goodW 1292 (by decide +kernel) rfl), (goodW 1293 (by decide +kernel) rfl)⟩
theorem wr_isStopped {x1 x2 : Int} {g : mG} {d : mD} {Q : mQ} (h : MM mX11_isStopped [vR 0, vI x1, vI x2] g d (fun o g' d' => match o with | .inl v => (v = 0 → Q (.inl 0) g' (ud d' 74 0 0)) ∧ (¬ v = 0 → Q (.inl 0) g' (ud d' 74 0 1)) | .inr k => LX [3, 2] k Q g' d')) : MM mL_isStopped [vR 0, vI x1, vI x2, vR 74] g d Q := by
  refine MM_of (by decide) rfl (by simp [catV]) (Nat.le_of_ble_eq_true rfl) ?_
  show MW mL_isStopped 2 12 0 [(0, vR 0), (1, vI x1), (2, vI x2), (3, vR 74)] [] g d Q
  refine mw_top (fun hT => ?_)
  have hG : 76 ≤ g.2.1 := hT.2
  refine mw_aload_n (v := vR 74) (pc' := 1) dL_isStopped_0 rfl rfl (Or.inl rfl) rfl ?_
  refine mw_iconst (pc' := 2) dL_isStopped_1 rfl ⟨by decide, by decide⟩ ?_
  refine mw_aload_n (v := vR 0) (pc' := 3) dL_isStopped_2 rfl rfl (Or.inl rfl) rfl ?_
  refine mw_iload_n (pc' := 4) dL_isStopped_3 rfl rfl rfl ?_
  refine mw_iload_n (pc' := 5) dL_isStopped_4 rfl rfl rfl ?_
  refine mw_callV (M' := mX11_isStopped) (A := [vI x1, vI x2]) (A' := [vR 0, vI x1, vI x2]) (S := [vI 0, vR 74]) (a := 0) (pc' := 8) dL_isStopped_5 rfl (Or.inl (goodW 1291 (by decide +kernel) rfl)) kM_X11_isStopped kV_X11_isStopped ⟨by decide, by decide, by decide, by decide, by decide⟩ rfl rfl rfl ⟨by decide, by omega⟩ (by decide +kernel) (by decide +kernel) (Nat.le_of_ble_eq_true rfl) (MM.mono ?_ h)
  intro o g1 d1 h1
  rcases o with v | k
  · show MW mL_isStopped 0 0 8 [(0, vR 0), (1, vI x1), (2, vI x2), (3, vR 74)] [vI v, vI 0, vR 74] g1 d1 Q
    refine mw_if_eq (tgt := 15) (pc' := 11) dL_isStopped_8 rfl (by decide) (fun c => ?_) (fun c => ?_)
    · refine mw_lconst0 (pc' := 16) dL_isStopped_15 rfl ?_
      refine mw_last (pc' := 17) dL_isStopped_16 rfl (by decide +kernel) ⟨by decide, by decide⟩ (by rw [show LN 74 = 1 by decide +kernel]; exact ⟨by decide, by decide⟩) ?_
      refine mw_goto (pc' := 0) (tgt := 28) dL_isStopped_17 (by decide) ?_
      refine mw_iconst (pc' := 29) dL_isStopped_28 rfl ⟨by decide, by decide⟩ ?_
      exact mw_iret (pc' := 0) (S := []) dL_isStopped_29 rfl (Or.inl rfl) (h1.1 c)
    · refine mw_lconst1 (pc' := 12) dL_isStopped_11 rfl ?_
      refine mw_goto (pc' := 0) (tgt := 16) dL_isStopped_12 (by decide) ?_
      refine mw_last (pc' := 17) dL_isStopped_16 rfl (by decide +kernel) ⟨by decide, by decide⟩ (by rw [show LN 74 = 1 by decide +kernel]; exact ⟨by decide, by decide⟩) ?_
      refine mw_goto (pc' := 0) (tgt := 28) dL_isStopped_17 (by decide) ?_
      refine mw_iconst (pc' := 29) dL_isStopped_28 rfl ⟨by decide, by decide⟩ ?_
      exact mw_iret (pc' := 0) (S := []) dL_isStopped_29 rfl (Or.inl rfl) (h1.2 c)
  · obtain ⟨hk, hq⟩ := h1
    rcases (show k = 3 ∨ k = 2 by simpa using hk) with hk | hk
    · subst hk
      refine mx_catch (k := 3) (k1 := 0) [] ⟨0, 17, 20, 30⟩ [⟨0, 17, 24, 19⟩] rfl (fun _ hz => absurd hz List.not_mem_nil) rfl (by decide) kc_3 ka_3 (fun q => ?_)
      refine mw_astore (v := (7, q)) (pc' := 22) (L' := [(0, vR 0), (1, vI x1), (2, vI x2), (3, vR 74), (4, (7, q))]) dL_isStopped_20 rfl (by simp) (by decide) rfl ?_
      refine mw_iconst (pc' := 23) dL_isStopped_22 rfl ⟨by decide, by decide⟩ ?_
      exact mw_iret (pc' := 0) (S := []) dL_isStopped_23 rfl (Or.inl rfl) hq
    · subst hk
      refine mx_catch (k := 2) (k1 := 0) [⟨0, 17, 20, 30⟩] ⟨0, 17, 24, 19⟩ [] rfl (List.forall_mem_cons.mpr ⟨⟨by decide, 1, 2, by decide, by decide, by decide, rfl, kc_3⟩, (fun _ hz => absurd hz List.not_mem_nil)⟩) rfl (by decide) kc_2 ka_2 (fun q => ?_)
      refine mw_astore (v := (7, q)) (pc' := 26) (L' := [(0, vR 0), (1, vI x1), (2, vI x2), (3, vR 74), (4, (7, q))]) dL_isStopped_24 rfl (by simp) (by decide) rfl ?_
      refine mw_iconst (pc' := 27) dL_isStopped_26 rfl ⟨by decide, by decide⟩ ?_
      exact mw_iret (pc' := 0) (S := []) dL_isStopped_27 rfl (Or.inl rfl) hq
theorem kM_X11_stoppedDays : CM mX11_stoppedDays 3 := ⟨(goodW 1301 (by decide +kernel) rfl), (goodW 1 (by decide +kernel) rfl), ⟨by decide, by decide⟩, by decide +kernel, rfl⟩
theorem kV_X11_stoppedDays : CV mX11_stoppedDays := ⟨(goodW 1299 (by decide +kernel) rfl), (goodW 1300 (by decide +kernel) rfl)⟩
theorem wr_stoppedDays {x1 x2 x3 : Int} {g : mG} {d : mD} {Q : mQ} (h : MM mX11_stoppedDays [vR 0, vI x1, vI x2, vI x3] g d (fun o g' d' => match o with | .inl v => Q (.inl 0) g' (ud d' 74 0 v) | .inr k => LX [3, 2] k Q g' d')) : MM mL_stoppedDays [vR 0, vI x1, vI x2, vI x3, vR 74] g d Q := by
  refine MM_of (by decide) rfl (by simp [catV]) (Nat.le_of_ble_eq_true rfl) ?_
  show MW mL_stoppedDays 2 12 0 [(0, vR 0), (1, vI x1), (2, vI x2), (3, vI x3), (4, vR 74)] [] g d Q
  refine mw_top (fun hT => ?_)
  have hG : 76 ≤ g.2.1 := hT.2
  refine mw_aload (v := vR 74) (pc' := 2) dL_stoppedDays_0 rfl (Or.inl rfl) rfl ?_
  refine mw_iconst (pc' := 3) dL_stoppedDays_2 rfl ⟨by decide, by decide⟩ ?_
  refine mw_aload_n (v := vR 0) (pc' := 4) dL_stoppedDays_3 rfl rfl (Or.inl rfl) rfl ?_
  refine mw_iload_n (pc' := 5) dL_stoppedDays_4 rfl rfl rfl ?_
  refine mw_iload_n (pc' := 6) dL_stoppedDays_5 rfl rfl rfl ?_
  refine mw_iload_n (pc' := 7) dL_stoppedDays_6 rfl rfl rfl ?_
  refine mw_callV (M' := mX11_stoppedDays) (A := [vI x1, vI x2, vI x3]) (A' := [vR 0, vI x1, vI x2, vI x3]) (S := [vI 0, vR 74]) (a := 0) (pc' := 10) dL_stoppedDays_7 rfl (Or.inl (goodW 1298 (by decide +kernel) rfl)) kM_X11_stoppedDays kV_X11_stoppedDays ⟨by decide, by decide, by decide, by decide, by decide⟩ rfl rfl rfl ⟨by decide, by omega⟩ (by decide +kernel) (by decide +kernel) (Nat.le_of_ble_eq_true rfl) (MM.mono ?_ h)
  intro o g1 d1 h1
  rcases o with v | k
  · show MW mL_stoppedDays 0 0 10 [(0, vR 0), (1, vI x1), (2, vI x2), (3, vI x3), (4, vR 74)] [vI v, vI 0, vR 74] g1 d1 Q
    refine mw_i2l (pc' := 11) dL_stoppedDays_10 rfl ?_
    refine mw_last (pc' := 12) dL_stoppedDays_11 rfl (by decide +kernel) ⟨by decide, by decide⟩ (by rw [show LN 74 = 1 by decide +kernel]; exact ⟨by decide, by decide⟩) ?_
    refine mw_goto (pc' := 0) (tgt := 23) dL_stoppedDays_12 (by decide) ?_
    refine mw_iconst (pc' := 24) dL_stoppedDays_23 rfl ⟨by decide, by decide⟩ ?_
    exact mw_iret (pc' := 0) (S := []) dL_stoppedDays_24 rfl (Or.inl rfl) h1
  · obtain ⟨hk, hq⟩ := h1
    rcases (show k = 3 ∨ k = 2 by simpa using hk) with hk | hk
    · subst hk
      refine mx_catch (k := 3) (k1 := 0) [] ⟨0, 12, 15, 30⟩ [⟨0, 12, 19, 19⟩] rfl (fun _ hz => absurd hz List.not_mem_nil) rfl (by decide) kc_3 ka_3 (fun q => ?_)
      refine mw_astore (v := (7, q)) (pc' := 17) (L' := [(0, vR 0), (1, vI x1), (2, vI x2), (3, vI x3), (4, vR 74), (5, (7, q))]) dL_stoppedDays_15 rfl (by simp) (by decide) rfl ?_
      refine mw_iconst (pc' := 18) dL_stoppedDays_17 rfl ⟨by decide, by decide⟩ ?_
      exact mw_iret (pc' := 0) (S := []) dL_stoppedDays_18 rfl (Or.inl rfl) hq
    · subst hk
      refine mx_catch (k := 2) (k1 := 0) [⟨0, 12, 15, 30⟩] ⟨0, 12, 19, 19⟩ [] rfl (List.forall_mem_cons.mpr ⟨⟨by decide, 1, 2, by decide, by decide, by decide, rfl, kc_3⟩, (fun _ hz => absurd hz List.not_mem_nil)⟩) rfl (by decide) kc_2 ka_2 (fun q => ?_)
      refine mw_astore (v := (7, q)) (pc' := 21) (L' := [(0, vR 0), (1, vI x1), (2, vI x2), (3, vI x3), (4, vR 74), (5, (7, q))]) dL_stoppedDays_19 rfl (by simp) (by decide) rfl ?_
      refine mw_iconst (pc' := 22) dL_stoppedDays_21 rfl ⟨by decide, by decide⟩ ?_
      exact mw_iret (pc' := 0) (S := []) dL_stoppedDays_22 rfl (Or.inl rfl) hq
theorem kM_X11_stoppedDaysByMarking : CM mX11_stoppedDaysByMarking 3 := ⟨(goodW 1308 (by decide +kernel) rfl), (goodW 1 (by decide +kernel) rfl), ⟨by decide, by decide⟩, by decide +kernel, rfl⟩
theorem kV_X11_stoppedDaysByMarking : CV mX11_stoppedDaysByMarking := ⟨(goodW 1306 (by decide +kernel) rfl), (goodW 1307 (by decide +kernel) rfl)⟩
theorem wr_stoppedDaysByMarking {x1 x2 x3 : Int} {g : mG} {d : mD} {Q : mQ} (h : MM mX11_stoppedDaysByMarking [vR 0, vI x1, vI x2, vI x3] g d (fun o g' d' => match o with | .inl v => Q (.inl 0) g' (ud d' 74 0 v) | .inr k => LX [3, 2] k Q g' d')) : MM mL_stoppedDaysByMarking [vR 0, vI x1, vI x2, vI x3, vR 74] g d Q := by
  refine MM_of (by decide) rfl (by simp [catV]) (Nat.le_of_ble_eq_true rfl) ?_
  show MW mL_stoppedDaysByMarking 2 12 0 [(0, vR 0), (1, vI x1), (2, vI x2), (3, vI x3), (4, vR 74)] [] g d Q
  refine mw_top (fun hT => ?_)
  have hG : 76 ≤ g.2.1 := hT.2
  refine mw_aload (v := vR 74) (pc' := 2) dL_stoppedDaysByMarking_0 rfl (Or.inl rfl) rfl ?_
  refine mw_iconst (pc' := 3) dL_stoppedDaysByMarking_2 rfl ⟨by decide, by decide⟩ ?_
  refine mw_aload_n (v := vR 0) (pc' := 4) dL_stoppedDaysByMarking_3 rfl rfl (Or.inl rfl) rfl ?_
  refine mw_iload_n (pc' := 5) dL_stoppedDaysByMarking_4 rfl rfl rfl ?_
  refine mw_iload_n (pc' := 6) dL_stoppedDaysByMarking_5 rfl rfl rfl ?_
  refine mw_iload_n (pc' := 7) dL_stoppedDaysByMarking_6 rfl rfl rfl ?_
  refine mw_callV (M' := mX11_stoppedDaysByMarking) (A := [vI x1, vI x2, vI x3]) (A' := [vR 0, vI x1, vI x2, vI x3]) (S := [vI 0, vR 74]) (a := 0) (pc' := 10) dL_stoppedDaysByMarking_7 rfl (Or.inl (goodW 1305 (by decide +kernel) rfl)) kM_X11_stoppedDaysByMarking kV_X11_stoppedDaysByMarking ⟨by decide, by decide, by decide, by decide, by decide⟩ rfl rfl rfl ⟨by decide, by omega⟩ (by decide +kernel) (by decide +kernel) (Nat.le_of_ble_eq_true rfl) (MM.mono ?_ h)
  intro o g1 d1 h1
  rcases o with v | k
  · show MW mL_stoppedDaysByMarking 0 0 10 [(0, vR 0), (1, vI x1), (2, vI x2), (3, vI x3), (4, vR 74)] [vI v, vI 0, vR 74] g1 d1 Q
    refine mw_i2l (pc' := 11) dL_stoppedDaysByMarking_10 rfl ?_
    refine mw_last (pc' := 12) dL_stoppedDaysByMarking_11 rfl (by decide +kernel) ⟨by decide, by decide⟩ (by rw [show LN 74 = 1 by decide +kernel]; exact ⟨by decide, by decide⟩) ?_
    refine mw_goto (pc' := 0) (tgt := 23) dL_stoppedDaysByMarking_12 (by decide) ?_
    refine mw_iconst (pc' := 24) dL_stoppedDaysByMarking_23 rfl ⟨by decide, by decide⟩ ?_
    exact mw_iret (pc' := 0) (S := []) dL_stoppedDaysByMarking_24 rfl (Or.inl rfl) h1
  · obtain ⟨hk, hq⟩ := h1
    rcases (show k = 3 ∨ k = 2 by simpa using hk) with hk | hk
    · subst hk
      refine mx_catch (k := 3) (k1 := 0) [] ⟨0, 12, 15, 30⟩ [⟨0, 12, 19, 19⟩] rfl (fun _ hz => absurd hz List.not_mem_nil) rfl (by decide) kc_3 ka_3 (fun q => ?_)
      refine mw_astore (v := (7, q)) (pc' := 17) (L' := [(0, vR 0), (1, vI x1), (2, vI x2), (3, vI x3), (4, vR 74), (5, (7, q))]) dL_stoppedDaysByMarking_15 rfl (by simp) (by decide) rfl ?_
      refine mw_iconst (pc' := 18) dL_stoppedDaysByMarking_17 rfl ⟨by decide, by decide⟩ ?_
      exact mw_iret (pc' := 0) (S := []) dL_stoppedDaysByMarking_18 rfl (Or.inl rfl) hq
    · subst hk
      refine mx_catch (k := 2) (k1 := 0) [⟨0, 12, 15, 30⟩] ⟨0, 12, 19, 19⟩ [] rfl (List.forall_mem_cons.mpr ⟨⟨by decide, 1, 2, by decide, by decide, by decide, rfl, kc_3⟩, (fun _ hz => absurd hz List.not_mem_nil)⟩) rfl (by decide) kc_2 ka_2 (fun q => ?_)
      refine mw_astore (v := (7, q)) (pc' := 21) (L' := [(0, vR 0), (1, vI x1), (2, vI x2), (3, vI x3), (4, vR 74), (5, (7, q))]) dL_stoppedDaysByMarking_19 rfl (by simp) (by decide) rfl ?_
      refine mw_iconst (pc' := 22) dL_stoppedDaysByMarking_21 rfl ⟨by decide, by decide⟩ ?_
      exact mw_iret (pc' := 0) (S := []) dL_stoppedDaysByMarking_22 rfl (Or.inl rfl) hq
theorem kM_X11_addOccurrence : CM mX11_addOccurrence 2 := ⟨(goodW 1315 (by decide +kernel) rfl), (goodW 1 (by decide +kernel) rfl), ⟨by decide, by decide⟩, by decide +kernel, rfl⟩
theorem kV_X11_addOccurrence : CV mX11_addOccurrence := ⟨(goodW 1313 (by decide +kernel) rfl), (goodW 1314 (by decide +kernel) rfl)⟩
theorem wr_addOccurrence {x1 x2 : Int} {g : mG} {d : mD} {Q : mQ} (h : MM mX11_addOccurrence [vR 0, vI x1, vI x2] g d (fun o g' d' => match o with | .inl v => Q (.inl 0) g' (ud d' 74 0 v) | .inr k => LX [2, 3, 1] k Q g' d')) : MM mL_addOccurrence [vR 0, vI x1, vI x2, vR 74] g d Q := by
  refine MM_of (by decide) rfl (by simp [catV]) (Nat.le_of_ble_eq_true rfl) ?_
  show MW mL_addOccurrence 47 8228 0 [(0, vR 0), (1, vI x1), (2, vI x2), (3, vR 74)] [] g d Q
  refine mw_top (fun hT => ?_)
  have hG : 76 ≤ g.2.1 := hT.2
  refine mw_aload_n (v := vR 74) (pc' := 1) dL_addOccurrence_0 rfl rfl (Or.inl rfl) rfl ?_
  refine mw_iconst (pc' := 2) dL_addOccurrence_1 rfl ⟨by decide, by decide⟩ ?_
  refine mw_aload_n (v := vR 0) (pc' := 3) dL_addOccurrence_2 rfl rfl (Or.inl rfl) rfl ?_
  refine mw_iload_n (pc' := 4) dL_addOccurrence_3 rfl rfl rfl ?_
  refine mw_iload_n (pc' := 5) dL_addOccurrence_4 rfl rfl rfl ?_
  refine mw_callV (M' := mX11_addOccurrence) (A := [vI x1, vI x2]) (A' := [vR 0, vI x1, vI x2]) (S := [vI 0, vR 74]) (a := 0) (pc' := 8) dL_addOccurrence_5 rfl (Or.inl (goodW 1312 (by decide +kernel) rfl)) kM_X11_addOccurrence kV_X11_addOccurrence ⟨by decide, by decide, by decide, by decide, by decide⟩ rfl rfl rfl ⟨by decide, by omega⟩ (by decide +kernel) (by decide +kernel) (Nat.le_of_ble_eq_true rfl) (MM.mono ?_ h)
  intro o g1 d1 h1
  rcases o with v | k
  · show MW mL_addOccurrence 0 0 8 [(0, vR 0), (1, vI x1), (2, vI x2), (3, vR 74)] [vI v, vI 0, vR 74] g1 d1 Q
    refine mw_i2l (pc' := 9) dL_addOccurrence_8 rfl ?_
    refine mw_last (pc' := 10) dL_addOccurrence_9 rfl (by decide +kernel) ⟨by decide, by decide⟩ (by rw [show LN 74 = 1 by decide +kernel]; exact ⟨by decide, by decide⟩) ?_
    refine mw_goto (pc' := 0) (tgt := 25) dL_addOccurrence_10 (by decide) ?_
    refine mw_iconst (pc' := 26) dL_addOccurrence_25 rfl ⟨by decide, by decide⟩ ?_
    exact mw_iret (pc' := 0) (S := []) dL_addOccurrence_26 rfl (Or.inl rfl) h1
  · obtain ⟨hk, hq⟩ := h1
    rcases (show k = 2 ∨ k = 3 ∨ k = 1 by simpa using hk) with hk | hk | hk
    · subst hk
      refine mx_catch (k := 2) (k1 := 0) [] ⟨0, 10, 13, 19⟩ [⟨0, 10, 17, 30⟩, ⟨0, 10, 21, 13⟩] rfl (fun _ hz => absurd hz List.not_mem_nil) rfl (by decide) kc_2 ka_2 (fun q => ?_)
      refine mw_astore (v := (7, q)) (pc' := 15) (L' := [(0, vR 0), (1, vI x1), (2, vI x2), (3, vR 74), (4, (7, q))]) dL_addOccurrence_13 rfl (by simp) (by decide) rfl ?_
      refine mw_iconst (pc' := 16) dL_addOccurrence_15 rfl ⟨by decide, by decide⟩ ?_
      exact mw_iret (pc' := 0) (S := []) dL_addOccurrence_16 rfl (Or.inl rfl) hq
    · subst hk
      refine mx_catch (k := 3) (k1 := 0) [⟨0, 10, 13, 19⟩] ⟨0, 10, 17, 30⟩ [⟨0, 10, 21, 13⟩] rfl (List.forall_mem_cons.mpr ⟨⟨by decide, 2, 1, by decide, by decide, by decide, rfl, kc_2⟩, (fun _ hz => absurd hz List.not_mem_nil)⟩) rfl (by decide) kc_3 ka_3 (fun q => ?_)
      refine mw_astore (v := (7, q)) (pc' := 19) (L' := [(0, vR 0), (1, vI x1), (2, vI x2), (3, vR 74), (4, (7, q))]) dL_addOccurrence_17 rfl (by simp) (by decide) rfl ?_
      refine mw_iconst (pc' := 20) dL_addOccurrence_19 rfl ⟨by decide, by decide⟩ ?_
      exact mw_iret (pc' := 0) (S := []) dL_addOccurrence_20 rfl (Or.inl rfl) hq
    · subst hk
      refine mx_catch (k := 1) (k1 := 0) [⟨0, 10, 13, 19⟩, ⟨0, 10, 17, 30⟩] ⟨0, 10, 21, 13⟩ [] rfl (List.forall_mem_cons.mpr ⟨⟨by decide, 0, 1, by decide, by decide, by decide, rfl, kc_2⟩, (List.forall_mem_cons.mpr ⟨⟨by decide, 0, 2, by decide, by decide, by decide, rfl, kc_3⟩, (fun _ hz => absurd hz List.not_mem_nil)⟩)⟩) rfl (by decide) kc_1 ka_1 (fun q => ?_)
      refine mw_astore (v := (7, q)) (pc' := 23) (L' := [(0, vR 0), (1, vI x1), (2, vI x2), (3, vR 74), (4, (7, q))]) dL_addOccurrence_21 rfl (by simp) (by decide) rfl ?_
      refine mw_iconst (pc' := 24) dL_addOccurrence_23 rfl ⟨by decide, by decide⟩ ?_
      exact mw_iret (pc' := 0) (S := []) dL_addOccurrence_24 rfl (Or.inl rfl) hq
theorem kM_X11_linkOccurrences : CM mX11_linkOccurrences 2 := ⟨(goodW 1331 (by decide +kernel) rfl), (goodW 1 (by decide +kernel) rfl), ⟨by decide, by decide⟩, by decide +kernel, rfl⟩
theorem kV_X11_linkOccurrences : CV mX11_linkOccurrences := ⟨(goodW 1329 (by decide +kernel) rfl), (goodW 1330 (by decide +kernel) rfl)⟩
theorem wr_linkOccurrences {x1 x2 : Int} {g : mG} {d : mD} {Q : mQ} (h : MM mX11_linkOccurrences [vR 0, vI x1, vI x2] g d (fun o g' d' => match o with | .inl v => Q (.inl 0) g' (ud d' 74 0 v) | .inr k => LX [3, 2, 1] k Q g' d')) : MM mL_linkOccurrences [vR 0, vI x1, vI x2, vR 74] g d Q := by
  refine MM_of (by decide) rfl (by simp [catV]) (Nat.le_of_ble_eq_true rfl) ?_
  show MW mL_linkOccurrences 47 8228 0 [(0, vR 0), (1, vI x1), (2, vI x2), (3, vR 74)] [] g d Q
  refine mw_top (fun hT => ?_)
  have hG : 76 ≤ g.2.1 := hT.2
  refine mw_aload_n (v := vR 74) (pc' := 1) dL_linkOccurrences_0 rfl rfl (Or.inl rfl) rfl ?_
  refine mw_iconst (pc' := 2) dL_linkOccurrences_1 rfl ⟨by decide, by decide⟩ ?_
  refine mw_aload_n (v := vR 0) (pc' := 3) dL_linkOccurrences_2 rfl rfl (Or.inl rfl) rfl ?_
  refine mw_iload_n (pc' := 4) dL_linkOccurrences_3 rfl rfl rfl ?_
  refine mw_iload_n (pc' := 5) dL_linkOccurrences_4 rfl rfl rfl ?_
  refine mw_callV (M' := mX11_linkOccurrences) (A := [vI x1, vI x2]) (A' := [vR 0, vI x1, vI x2]) (S := [vI 0, vR 74]) (a := 0) (pc' := 8) dL_linkOccurrences_5 rfl (Or.inl (goodW 1328 (by decide +kernel) rfl)) kM_X11_linkOccurrences kV_X11_linkOccurrences ⟨by decide, by decide, by decide, by decide, by decide⟩ rfl rfl rfl ⟨by decide, by omega⟩ (by decide +kernel) (by decide +kernel) (Nat.le_of_ble_eq_true rfl) (MM.mono ?_ h)
  intro o g1 d1 h1
  rcases o with v | k
  · show MW mL_linkOccurrences 0 0 8 [(0, vR 0), (1, vI x1), (2, vI x2), (3, vR 74)] [vI v, vI 0, vR 74] g1 d1 Q
    refine mw_i2l (pc' := 9) dL_linkOccurrences_8 rfl ?_
    refine mw_last (pc' := 10) dL_linkOccurrences_9 rfl (by decide +kernel) ⟨by decide, by decide⟩ (by rw [show LN 74 = 1 by decide +kernel]; exact ⟨by decide, by decide⟩) ?_
    refine mw_goto (pc' := 0) (tgt := 25) dL_linkOccurrences_10 (by decide) ?_
    refine mw_iconst (pc' := 26) dL_linkOccurrences_25 rfl ⟨by decide, by decide⟩ ?_
    exact mw_iret (pc' := 0) (S := []) dL_linkOccurrences_26 rfl (Or.inl rfl) h1
  · obtain ⟨hk, hq⟩ := h1
    rcases (show k = 3 ∨ k = 2 ∨ k = 1 by simpa using hk) with hk | hk | hk
    · subst hk
      refine mx_catch (k := 3) (k1 := 0) [] ⟨0, 10, 13, 30⟩ [⟨0, 10, 17, 19⟩, ⟨0, 10, 21, 13⟩] rfl (fun _ hz => absurd hz List.not_mem_nil) rfl (by decide) kc_3 ka_3 (fun q => ?_)
      refine mw_astore (v := (7, q)) (pc' := 15) (L' := [(0, vR 0), (1, vI x1), (2, vI x2), (3, vR 74), (4, (7, q))]) dL_linkOccurrences_13 rfl (by simp) (by decide) rfl ?_
      refine mw_iconst (pc' := 16) dL_linkOccurrences_15 rfl ⟨by decide, by decide⟩ ?_
      exact mw_iret (pc' := 0) (S := []) dL_linkOccurrences_16 rfl (Or.inl rfl) hq
    · subst hk
      refine mx_catch (k := 2) (k1 := 0) [⟨0, 10, 13, 30⟩] ⟨0, 10, 17, 19⟩ [⟨0, 10, 21, 13⟩] rfl (List.forall_mem_cons.mpr ⟨⟨by decide, 1, 2, by decide, by decide, by decide, rfl, kc_3⟩, (fun _ hz => absurd hz List.not_mem_nil)⟩) rfl (by decide) kc_2 ka_2 (fun q => ?_)
      refine mw_astore (v := (7, q)) (pc' := 19) (L' := [(0, vR 0), (1, vI x1), (2, vI x2), (3, vR 74), (4, (7, q))]) dL_linkOccurrences_17 rfl (by simp) (by decide) rfl ?_
      refine mw_iconst (pc' := 20) dL_linkOccurrences_19 rfl ⟨by decide, by decide⟩ ?_
      exact mw_iret (pc' := 0) (S := []) dL_linkOccurrences_20 rfl (Or.inl rfl) hq
    · subst hk
      refine mx_catch (k := 1) (k1 := 0) [⟨0, 10, 13, 30⟩, ⟨0, 10, 17, 19⟩] ⟨0, 10, 21, 13⟩ [] rfl (List.forall_mem_cons.mpr ⟨⟨by decide, 0, 2, by decide, by decide, by decide, rfl, kc_3⟩, (List.forall_mem_cons.mpr ⟨⟨by decide, 0, 1, by decide, by decide, by decide, rfl, kc_2⟩, (fun _ hz => absurd hz List.not_mem_nil)⟩)⟩) rfl (by decide) kc_1 ka_1 (fun q => ?_)
      refine mw_astore (v := (7, q)) (pc' := 23) (L' := [(0, vR 0), (1, vI x1), (2, vI x2), (3, vR 74), (4, (7, q))]) dL_linkOccurrences_21 rfl (by simp) (by decide) rfl ?_
      refine mw_iconst (pc' := 24) dL_linkOccurrences_23 rfl ⟨by decide, by decide⟩ ?_
      exact mw_iret (pc' := 0) (S := []) dL_linkOccurrences_24 rfl (Or.inl rfl) hq
theorem kM_X11_sameConduct : CM mX11_sameConduct 2 := ⟨(goodW 1356 (by decide +kernel) rfl), (goodW 1 (by decide +kernel) rfl), ⟨by decide, by decide⟩, by decide +kernel, rfl⟩
theorem kV_X11_sameConduct : CV mX11_sameConduct := ⟨(goodW 1354 (by decide +kernel) rfl), (goodW 1355 (by decide +kernel) rfl)⟩
theorem wr_sameConduct {x1 x2 : Int} {g : mG} {d : mD} {Q : mQ} (h : MM mX11_sameConduct [vR 0, vI x1, vI x2] g d (fun o g' d' => match o with | .inl v => (v = 0 → Q (.inl 0) g' (ud d' 74 0 0)) ∧ (¬ v = 0 → Q (.inl 0) g' (ud d' 74 0 1)) | .inr k => LX [3] k Q g' d')) : MM mL_sameConduct [vR 0, vI x1, vI x2, vR 74] g d Q := by
  refine MM_of (by decide) rfl (by simp [catV]) (Nat.le_of_ble_eq_true rfl) ?_
  show MW mL_sameConduct 2 12 0 [(0, vR 0), (1, vI x1), (2, vI x2), (3, vR 74)] [] g d Q
  refine mw_top (fun hT => ?_)
  have hG : 76 ≤ g.2.1 := hT.2
  refine mw_aload_n (v := vR 74) (pc' := 1) dL_sameConduct_0 rfl rfl (Or.inl rfl) rfl ?_
  refine mw_iconst (pc' := 2) dL_sameConduct_1 rfl ⟨by decide, by decide⟩ ?_
  refine mw_aload_n (v := vR 0) (pc' := 3) dL_sameConduct_2 rfl rfl (Or.inl rfl) rfl ?_
  refine mw_iload_n (pc' := 4) dL_sameConduct_3 rfl rfl rfl ?_
  refine mw_iload_n (pc' := 5) dL_sameConduct_4 rfl rfl rfl ?_
  refine mw_callV (M' := mX11_sameConduct) (A := [vI x1, vI x2]) (A' := [vR 0, vI x1, vI x2]) (S := [vI 0, vR 74]) (a := 0) (pc' := 8) dL_sameConduct_5 rfl (Or.inl (goodW 1353 (by decide +kernel) rfl)) kM_X11_sameConduct kV_X11_sameConduct ⟨by decide, by decide, by decide, by decide, by decide⟩ rfl rfl rfl ⟨by decide, by omega⟩ (by decide +kernel) (by decide +kernel) (Nat.le_of_ble_eq_true rfl) (MM.mono ?_ h)
  intro o g1 d1 h1
  rcases o with v | k
  · show MW mL_sameConduct 0 0 8 [(0, vR 0), (1, vI x1), (2, vI x2), (3, vR 74)] [vI v, vI 0, vR 74] g1 d1 Q
    refine mw_if_eq (tgt := 15) (pc' := 11) dL_sameConduct_8 rfl (by decide) (fun c => ?_) (fun c => ?_)
    · refine mw_lconst0 (pc' := 16) dL_sameConduct_15 rfl ?_
      refine mw_last (pc' := 17) dL_sameConduct_16 rfl (by decide +kernel) ⟨by decide, by decide⟩ (by rw [show LN 74 = 1 by decide +kernel]; exact ⟨by decide, by decide⟩) ?_
      refine mw_goto (pc' := 0) (tgt := 24) dL_sameConduct_17 (by decide) ?_
      refine mw_iconst (pc' := 25) dL_sameConduct_24 rfl ⟨by decide, by decide⟩ ?_
      exact mw_iret (pc' := 0) (S := []) dL_sameConduct_25 rfl (Or.inl rfl) (h1.1 c)
    · refine mw_lconst1 (pc' := 12) dL_sameConduct_11 rfl ?_
      refine mw_goto (pc' := 0) (tgt := 16) dL_sameConduct_12 (by decide) ?_
      refine mw_last (pc' := 17) dL_sameConduct_16 rfl (by decide +kernel) ⟨by decide, by decide⟩ (by rw [show LN 74 = 1 by decide +kernel]; exact ⟨by decide, by decide⟩) ?_
      refine mw_goto (pc' := 0) (tgt := 24) dL_sameConduct_17 (by decide) ?_
      refine mw_iconst (pc' := 25) dL_sameConduct_24 rfl ⟨by decide, by decide⟩ ?_
      exact mw_iret (pc' := 0) (S := []) dL_sameConduct_25 rfl (Or.inl rfl) (h1.2 c)
  · obtain ⟨hk, hq⟩ := h1
    have hk := List.mem_singleton.mp hk
    subst hk
    refine mx_catch (k := 3) (k1 := 0) [] ⟨0, 17, 20, 30⟩ [] rfl (fun _ hz => absurd hz List.not_mem_nil) rfl (by decide) kc_3 ka_3 (fun q => ?_)
    refine mw_astore (v := (7, q)) (pc' := 22) (L' := [(0, vR 0), (1, vI x1), (2, vI x2), (3, vR 74), (4, (7, q))]) dL_sameConduct_20 rfl (by simp) (by decide) rfl ?_
    refine mw_iconst (pc' := 23) dL_sameConduct_22 rfl ⟨by decide, by decide⟩ ?_
    exact mw_iret (pc' := 0) (S := []) dL_sameConduct_23 rfl (Or.inl rfl) hq
theorem kM_X11_sameConductBySearch : CM mX11_sameConductBySearch 2 := ⟨(goodW 1368 (by decide +kernel) rfl), (goodW 1 (by decide +kernel) rfl), ⟨by decide, by decide⟩, by decide +kernel, rfl⟩
theorem kV_X11_sameConductBySearch : CV mX11_sameConductBySearch := ⟨(goodW 1366 (by decide +kernel) rfl), (goodW 1367 (by decide +kernel) rfl)⟩
theorem wr_sameConductBySearch {x1 x2 : Int} {g : mG} {d : mD} {Q : mQ} (h : MM mX11_sameConductBySearch [vR 0, vI x1, vI x2] g d (fun o g' d' => match o with | .inl v => (v = 0 → Q (.inl 0) g' (ud d' 74 0 0)) ∧ (¬ v = 0 → Q (.inl 0) g' (ud d' 74 0 1)) | .inr k => LX [3] k Q g' d')) : MM mL_sameConductBySearch [vR 0, vI x1, vI x2, vR 74] g d Q := by
  refine MM_of (by decide) rfl (by simp [catV]) (Nat.le_of_ble_eq_true rfl) ?_
  show MW mL_sameConductBySearch 2 12 0 [(0, vR 0), (1, vI x1), (2, vI x2), (3, vR 74)] [] g d Q
  refine mw_top (fun hT => ?_)
  have hG : 76 ≤ g.2.1 := hT.2
  refine mw_aload_n (v := vR 74) (pc' := 1) dL_sameConductBySearch_0 rfl rfl (Or.inl rfl) rfl ?_
  refine mw_iconst (pc' := 2) dL_sameConductBySearch_1 rfl ⟨by decide, by decide⟩ ?_
  refine mw_aload_n (v := vR 0) (pc' := 3) dL_sameConductBySearch_2 rfl rfl (Or.inl rfl) rfl ?_
  refine mw_iload_n (pc' := 4) dL_sameConductBySearch_3 rfl rfl rfl ?_
  refine mw_iload_n (pc' := 5) dL_sameConductBySearch_4 rfl rfl rfl ?_
  refine mw_callV (M' := mX11_sameConductBySearch) (A := [vI x1, vI x2]) (A' := [vR 0, vI x1, vI x2]) (S := [vI 0, vR 74]) (a := 0) (pc' := 8) dL_sameConductBySearch_5 rfl (Or.inl (goodW 1365 (by decide +kernel) rfl)) kM_X11_sameConductBySearch kV_X11_sameConductBySearch ⟨by decide, by decide, by decide, by decide, by decide⟩ rfl rfl rfl ⟨by decide, by omega⟩ (by decide +kernel) (by decide +kernel) (Nat.le_of_ble_eq_true rfl) (MM.mono ?_ h)
  intro o g1 d1 h1
  rcases o with v | k
  · show MW mL_sameConductBySearch 0 0 8 [(0, vR 0), (1, vI x1), (2, vI x2), (3, vR 74)] [vI v, vI 0, vR 74] g1 d1 Q
    refine mw_if_eq (tgt := 15) (pc' := 11) dL_sameConductBySearch_8 rfl (by decide) (fun c => ?_) (fun c => ?_)
    · refine mw_lconst0 (pc' := 16) dL_sameConductBySearch_15 rfl ?_
      refine mw_last (pc' := 17) dL_sameConductBySearch_16 rfl (by decide +kernel) ⟨by decide, by decide⟩ (by rw [show LN 74 = 1 by decide +kernel]; exact ⟨by decide, by decide⟩) ?_
      refine mw_goto (pc' := 0) (tgt := 24) dL_sameConductBySearch_17 (by decide) ?_
      refine mw_iconst (pc' := 25) dL_sameConductBySearch_24 rfl ⟨by decide, by decide⟩ ?_
      exact mw_iret (pc' := 0) (S := []) dL_sameConductBySearch_25 rfl (Or.inl rfl) (h1.1 c)
    · refine mw_lconst1 (pc' := 12) dL_sameConductBySearch_11 rfl ?_
      refine mw_goto (pc' := 0) (tgt := 16) dL_sameConductBySearch_12 (by decide) ?_
      refine mw_last (pc' := 17) dL_sameConductBySearch_16 rfl (by decide +kernel) ⟨by decide, by decide⟩ (by rw [show LN 74 = 1 by decide +kernel]; exact ⟨by decide, by decide⟩) ?_
      refine mw_goto (pc' := 0) (tgt := 24) dL_sameConductBySearch_17 (by decide) ?_
      refine mw_iconst (pc' := 25) dL_sameConductBySearch_24 rfl ⟨by decide, by decide⟩ ?_
      exact mw_iret (pc' := 0) (S := []) dL_sameConductBySearch_25 rfl (Or.inl rfl) (h1.2 c)
  · obtain ⟨hk, hq⟩ := h1
    have hk := List.mem_singleton.mp hk
    subst hk
    refine mx_catch (k := 3) (k1 := 0) [] ⟨0, 17, 20, 30⟩ [] rfl (fun _ hz => absurd hz List.not_mem_nil) rfl (by decide) kc_3 ka_3 (fun q => ?_)
    refine mw_astore (v := (7, q)) (pc' := 22) (L' := [(0, vR 0), (1, vI x1), (2, vI x2), (3, vR 74), (4, (7, q))]) dL_sameConductBySearch_20 rfl (by simp) (by decide) rfl ?_
    refine mw_iconst (pc' := 23) dL_sameConductBySearch_22 rfl ⟨by decide, by decide⟩ ?_
    exact mw_iret (pc' := 0) (S := []) dL_sameConductBySearch_23 rfl (Or.inl rfl) hq
theorem kM_X11_barDay : CM mX11_barDay 1 := ⟨(goodW 1375 (by decide +kernel) rfl), (goodW 1 (by decide +kernel) rfl), ⟨by decide, by decide⟩, by decide +kernel, rfl⟩
theorem kV_X11_barDay : CV mX11_barDay := ⟨(goodW 1373 (by decide +kernel) rfl), (goodW 1374 (by decide +kernel) rfl)⟩
theorem wr_barDay {x1 : Int} {g : mG} {d : mD} {Q : mQ} (h : MM mX11_barDay [vR 0, vI x1] g d (fun o g' d' => match o with | .inl v => Q (.inl 0) g' (ud d' 74 0 v) | .inr k => LX [3, 4] k Q g' d')) : MM mL_barDay [vR 0, vI x1, vR 74] g d Q := by
  refine MM_of (by decide) rfl (by simp [catV]) (Nat.le_of_ble_eq_true rfl) ?_
  show MW mL_barDay 2 12 0 [(0, vR 0), (1, vI x1), (2, vR 74)] [] g d Q
  refine mw_top (fun hT => ?_)
  have hG : 76 ≤ g.2.1 := hT.2
  refine mw_aload_n (v := vR 74) (pc' := 1) dL_barDay_0 rfl rfl (Or.inl rfl) rfl ?_
  refine mw_iconst (pc' := 2) dL_barDay_1 rfl ⟨by decide, by decide⟩ ?_
  refine mw_aload_n (v := vR 0) (pc' := 3) dL_barDay_2 rfl rfl (Or.inl rfl) rfl ?_
  refine mw_iload_n (pc' := 4) dL_barDay_3 rfl rfl rfl ?_
  refine mw_callV (M' := mX11_barDay) (A := [vI x1]) (A' := [vR 0, vI x1]) (S := [vI 0, vR 74]) (a := 0) (pc' := 7) dL_barDay_4 rfl (Or.inl (goodW 1372 (by decide +kernel) rfl)) kM_X11_barDay kV_X11_barDay ⟨by decide, by decide, by decide, by decide, by decide⟩ rfl rfl rfl ⟨by decide, by omega⟩ (by decide +kernel) (by decide +kernel) (Nat.le_of_ble_eq_true rfl) (MM.mono ?_ h)
  intro o g1 d1 h1
  rcases o with v | k
  · show MW mL_barDay 0 0 7 [(0, vR 0), (1, vI x1), (2, vR 74)] [vI v, vI 0, vR 74] g1 d1 Q
    refine mw_i2l (pc' := 8) dL_barDay_7 rfl ?_
    refine mw_last (pc' := 9) dL_barDay_8 rfl (by decide +kernel) ⟨by decide, by decide⟩ (by rw [show LN 74 = 1 by decide +kernel]; exact ⟨by decide, by decide⟩) ?_
    refine mw_goto (pc' := 0) (tgt := 18) dL_barDay_9 (by decide) ?_
    refine mw_iconst (pc' := 19) dL_barDay_18 rfl ⟨by decide, by decide⟩ ?_
    exact mw_iret (pc' := 0) (S := []) dL_barDay_19 rfl (Or.inl rfl) h1
  · obtain ⟨hk, hq⟩ := h1
    rcases (show k = 3 ∨ k = 4 by simpa using hk) with hk | hk
    · subst hk
      refine mx_catch (k := 3) (k1 := 0) [] ⟨0, 9, 12, 30⟩ [⟨0, 9, 15, 24⟩] rfl (fun _ hz => absurd hz List.not_mem_nil) rfl (by decide) kc_3 ka_3 (fun q => ?_)
      refine mw_astore_n (v := (7, q)) (pc' := 13) (L' := [(0, vR 0), (1, vI x1), (2, vR 74), (3, (7, q))]) dL_barDay_12 rfl rfl (by simp) (by decide) rfl ?_
      refine mw_iconst (pc' := 14) dL_barDay_13 rfl ⟨by decide, by decide⟩ ?_
      exact mw_iret (pc' := 0) (S := []) dL_barDay_14 rfl (Or.inl rfl) hq
    · subst hk
      refine mx_catch (k := 4) (k1 := 0) [⟨0, 9, 12, 30⟩] ⟨0, 9, 15, 24⟩ [] rfl (List.forall_mem_cons.mpr ⟨⟨by decide, 3, 2, by decide, by decide, by decide, rfl, kc_3⟩, (fun _ hz => absurd hz List.not_mem_nil)⟩) rfl (by decide) kc_4 ka_4 (fun q => ?_)
      refine mw_astore_n (v := (7, q)) (pc' := 16) (L' := [(0, vR 0), (1, vI x1), (2, vR 74), (3, (7, q))]) dL_barDay_15 rfl rfl (by simp) (by decide) rfl ?_
      refine mw_iconst (pc' := 17) dL_barDay_16 rfl ⟨by decide, by decide⟩ ?_
      exact mw_iret (pc' := 0) (S := []) dL_barDay_17 rfl (Or.inl rfl) hq
theorem kM_X11_fileClaim : CM mX11_fileClaim 2 := ⟨(goodW 1382 (by decide +kernel) rfl), (goodW 1 (by decide +kernel) rfl), ⟨by decide, by decide⟩, by decide +kernel, rfl⟩
theorem kV_X11_fileClaim : CV mX11_fileClaim := ⟨(goodW 1380 (by decide +kernel) rfl), (goodW 1381 (by decide +kernel) rfl)⟩
theorem wr_fileClaim {x1 x2 : Int} {g : mG} {d : mD} {Q : mQ} (h : MM mX11_fileClaim [vR 0, vI x1, vI x2] g d (fun o g' d' => match o with | .inl v => Q (.inl 0) g' (ud d' 74 0 v) | .inr k => LX [3, 1] k Q g' d')) : MM mL_fileClaim [vR 0, vI x1, vI x2, vR 74] g d Q := by
  refine MM_of (by decide) rfl (by simp [catV]) (Nat.le_of_ble_eq_true rfl) ?_
  show MW mL_fileClaim 47 8228 0 [(0, vR 0), (1, vI x1), (2, vI x2), (3, vR 74)] [] g d Q
  refine mw_top (fun hT => ?_)
  have hG : 76 ≤ g.2.1 := hT.2
  refine mw_aload_n (v := vR 74) (pc' := 1) dL_fileClaim_0 rfl rfl (Or.inl rfl) rfl ?_
  refine mw_iconst (pc' := 2) dL_fileClaim_1 rfl ⟨by decide, by decide⟩ ?_
  refine mw_aload_n (v := vR 0) (pc' := 3) dL_fileClaim_2 rfl rfl (Or.inl rfl) rfl ?_
  refine mw_iload_n (pc' := 4) dL_fileClaim_3 rfl rfl rfl ?_
  refine mw_iload_n (pc' := 5) dL_fileClaim_4 rfl rfl rfl ?_
  refine mw_callV (M' := mX11_fileClaim) (A := [vI x1, vI x2]) (A' := [vR 0, vI x1, vI x2]) (S := [vI 0, vR 74]) (a := 0) (pc' := 8) dL_fileClaim_5 rfl (Or.inl (goodW 1379 (by decide +kernel) rfl)) kM_X11_fileClaim kV_X11_fileClaim ⟨by decide, by decide, by decide, by decide, by decide⟩ rfl rfl rfl ⟨by decide, by omega⟩ (by decide +kernel) (by decide +kernel) (Nat.le_of_ble_eq_true rfl) (MM.mono ?_ h)
  intro o g1 d1 h1
  rcases o with v | k
  · show MW mL_fileClaim 0 0 8 [(0, vR 0), (1, vI x1), (2, vI x2), (3, vR 74)] [vI v, vI 0, vR 74] g1 d1 Q
    refine mw_i2l (pc' := 9) dL_fileClaim_8 rfl ?_
    refine mw_last (pc' := 10) dL_fileClaim_9 rfl (by decide +kernel) ⟨by decide, by decide⟩ (by rw [show LN 74 = 1 by decide +kernel]; exact ⟨by decide, by decide⟩) ?_
    refine mw_goto (pc' := 0) (tgt := 21) dL_fileClaim_10 (by decide) ?_
    refine mw_iconst (pc' := 22) dL_fileClaim_21 rfl ⟨by decide, by decide⟩ ?_
    exact mw_iret (pc' := 0) (S := []) dL_fileClaim_22 rfl (Or.inl rfl) h1
  · obtain ⟨hk, hq⟩ := h1
    rcases (show k = 3 ∨ k = 1 by simpa using hk) with hk | hk
    · subst hk
      refine mx_catch (k := 3) (k1 := 0) [] ⟨0, 10, 13, 30⟩ [⟨0, 10, 17, 13⟩] rfl (fun _ hz => absurd hz List.not_mem_nil) rfl (by decide) kc_3 ka_3 (fun q => ?_)
      refine mw_astore (v := (7, q)) (pc' := 15) (L' := [(0, vR 0), (1, vI x1), (2, vI x2), (3, vR 74), (4, (7, q))]) dL_fileClaim_13 rfl (by simp) (by decide) rfl ?_
      refine mw_iconst (pc' := 16) dL_fileClaim_15 rfl ⟨by decide, by decide⟩ ?_
      exact mw_iret (pc' := 0) (S := []) dL_fileClaim_16 rfl (Or.inl rfl) hq
    · subst hk
      refine mx_catch (k := 1) (k1 := 0) [⟨0, 10, 13, 30⟩] ⟨0, 10, 17, 13⟩ [] rfl (List.forall_mem_cons.mpr ⟨⟨by decide, 0, 2, by decide, by decide, by decide, rfl, kc_3⟩, (fun _ hz => absurd hz List.not_mem_nil)⟩) rfl (by decide) kc_1 ka_1 (fun q => ?_)
      refine mw_astore (v := (7, q)) (pc' := 19) (L' := [(0, vR 0), (1, vI x1), (2, vI x2), (3, vR 74), (4, (7, q))]) dL_fileClaim_17 rfl (by simp) (by decide) rfl ?_
      refine mw_iconst (pc' := 20) dL_fileClaim_19 rfl ⟨by decide, by decide⟩ ?_
      exact mw_iret (pc' := 0) (S := []) dL_fileClaim_20 rfl (Or.inl rfl) hq
theorem kM_X11_amendClaim : CM mX11_amendClaim 2 := ⟨(goodW 1397 (by decide +kernel) rfl), (goodW 1 (by decide +kernel) rfl), ⟨by decide, by decide⟩, by decide +kernel, rfl⟩
theorem kV_X11_amendClaim : CV mX11_amendClaim := ⟨(goodW 1395 (by decide +kernel) rfl), (goodW 1396 (by decide +kernel) rfl)⟩
theorem wr_amendClaim {x1 x2 : Int} {g : mG} {d : mD} {Q : mQ} (h : MM mX11_amendClaim [vR 0, vI x1, vI x2] g d (fun o g' d' => match o with | .inl v => Q (.inl 0) g' (ud d' 74 0 v) | .inr k => LX [3, 1] k Q g' d')) : MM mL_amendClaim [vR 0, vI x1, vI x2, vR 74] g d Q := by
  refine MM_of (by decide) rfl (by simp [catV]) (Nat.le_of_ble_eq_true rfl) ?_
  show MW mL_amendClaim 47 8228 0 [(0, vR 0), (1, vI x1), (2, vI x2), (3, vR 74)] [] g d Q
  refine mw_top (fun hT => ?_)
  have hG : 76 ≤ g.2.1 := hT.2
  refine mw_aload_n (v := vR 74) (pc' := 1) dL_amendClaim_0 rfl rfl (Or.inl rfl) rfl ?_
  refine mw_iconst (pc' := 2) dL_amendClaim_1 rfl ⟨by decide, by decide⟩ ?_
  refine mw_aload_n (v := vR 0) (pc' := 3) dL_amendClaim_2 rfl rfl (Or.inl rfl) rfl ?_
  refine mw_iload_n (pc' := 4) dL_amendClaim_3 rfl rfl rfl ?_
  refine mw_iload_n (pc' := 5) dL_amendClaim_4 rfl rfl rfl ?_
  refine mw_callV (M' := mX11_amendClaim) (A := [vI x1, vI x2]) (A' := [vR 0, vI x1, vI x2]) (S := [vI 0, vR 74]) (a := 0) (pc' := 8) dL_amendClaim_5 rfl (Or.inl (goodW 1394 (by decide +kernel) rfl)) kM_X11_amendClaim kV_X11_amendClaim ⟨by decide, by decide, by decide, by decide, by decide⟩ rfl rfl rfl ⟨by decide, by omega⟩ (by decide +kernel) (by decide +kernel) (Nat.le_of_ble_eq_true rfl) (MM.mono ?_ h)
  intro o g1 d1 h1
  rcases o with v | k
  · show MW mL_amendClaim 0 0 8 [(0, vR 0), (1, vI x1), (2, vI x2), (3, vR 74)] [vI v, vI 0, vR 74] g1 d1 Q
    refine mw_i2l (pc' := 9) dL_amendClaim_8 rfl ?_
    refine mw_last (pc' := 10) dL_amendClaim_9 rfl (by decide +kernel) ⟨by decide, by decide⟩ (by rw [show LN 74 = 1 by decide +kernel]; exact ⟨by decide, by decide⟩) ?_
    refine mw_goto (pc' := 0) (tgt := 21) dL_amendClaim_10 (by decide) ?_
    refine mw_iconst (pc' := 22) dL_amendClaim_21 rfl ⟨by decide, by decide⟩ ?_
    exact mw_iret (pc' := 0) (S := []) dL_amendClaim_22 rfl (Or.inl rfl) h1
  · obtain ⟨hk, hq⟩ := h1
    rcases (show k = 3 ∨ k = 1 by simpa using hk) with hk | hk
    · subst hk
      refine mx_catch (k := 3) (k1 := 0) [] ⟨0, 10, 13, 30⟩ [⟨0, 10, 17, 13⟩] rfl (fun _ hz => absurd hz List.not_mem_nil) rfl (by decide) kc_3 ka_3 (fun q => ?_)
      refine mw_astore (v := (7, q)) (pc' := 15) (L' := [(0, vR 0), (1, vI x1), (2, vI x2), (3, vR 74), (4, (7, q))]) dL_amendClaim_13 rfl (by simp) (by decide) rfl ?_
      refine mw_iconst (pc' := 16) dL_amendClaim_15 rfl ⟨by decide, by decide⟩ ?_
      exact mw_iret (pc' := 0) (S := []) dL_amendClaim_16 rfl (Or.inl rfl) hq
    · subst hk
      refine mx_catch (k := 1) (k1 := 0) [⟨0, 10, 13, 30⟩] ⟨0, 10, 17, 13⟩ [] rfl (List.forall_mem_cons.mpr ⟨⟨by decide, 0, 2, by decide, by decide, by decide, rfl, kc_3⟩, (fun _ hz => absurd hz List.not_mem_nil)⟩) rfl (by decide) kc_1 ka_1 (fun q => ?_)
      refine mw_astore (v := (7, q)) (pc' := 19) (L' := [(0, vR 0), (1, vI x1), (2, vI x2), (3, vR 74), (4, (7, q))]) dL_amendClaim_17 rfl (by simp) (by decide) rfl ?_
      refine mw_iconst (pc' := 20) dL_amendClaim_19 rfl ⟨by decide, by decide⟩ ?_
      exact mw_iret (pc' := 0) (S := []) dL_amendClaim_20 rfl (Or.inl rfl) hq
theorem kM_X11_effectiveDay : CM mX11_effectiveDay 1 := ⟨(goodW 1412 (by decide +kernel) rfl), (goodW 1 (by decide +kernel) rfl), ⟨by decide, by decide⟩, by decide +kernel, rfl⟩
theorem kV_X11_effectiveDay : CV mX11_effectiveDay := ⟨(goodW 1410 (by decide +kernel) rfl), (goodW 1411 (by decide +kernel) rfl)⟩
theorem wr_effectiveDay {x1 : Int} {g : mG} {d : mD} {Q : mQ} (h : MM mX11_effectiveDay [vR 0, vI x1] g d (fun o g' d' => match o with | .inl v => Q (.inl 0) g' (ud d' 74 0 v) | .inr k => LX [3] k Q g' d')) : MM mL_effectiveDay [vR 0, vI x1, vR 74] g d Q := by
  refine MM_of (by decide) rfl (by simp [catV]) (Nat.le_of_ble_eq_true rfl) ?_
  show MW mL_effectiveDay 1 6 0 [(0, vR 0), (1, vI x1), (2, vR 74)] [] g d Q
  refine mw_top (fun hT => ?_)
  have hG : 76 ≤ g.2.1 := hT.2
  refine mw_aload_n (v := vR 74) (pc' := 1) dL_effectiveDay_0 rfl rfl (Or.inl rfl) rfl ?_
  refine mw_iconst (pc' := 2) dL_effectiveDay_1 rfl ⟨by decide, by decide⟩ ?_
  refine mw_aload_n (v := vR 0) (pc' := 3) dL_effectiveDay_2 rfl rfl (Or.inl rfl) rfl ?_
  refine mw_iload_n (pc' := 4) dL_effectiveDay_3 rfl rfl rfl ?_
  refine mw_callV (M' := mX11_effectiveDay) (A := [vI x1]) (A' := [vR 0, vI x1]) (S := [vI 0, vR 74]) (a := 0) (pc' := 7) dL_effectiveDay_4 rfl (Or.inl (goodW 1409 (by decide +kernel) rfl)) kM_X11_effectiveDay kV_X11_effectiveDay ⟨by decide, by decide, by decide, by decide, by decide⟩ rfl rfl rfl ⟨by decide, by omega⟩ (by decide +kernel) (by decide +kernel) (Nat.le_of_ble_eq_true rfl) (MM.mono ?_ h)
  intro o g1 d1 h1
  rcases o with v | k
  · show MW mL_effectiveDay 0 0 7 [(0, vR 0), (1, vI x1), (2, vR 74)] [vI v, vI 0, vR 74] g1 d1 Q
    refine mw_i2l (pc' := 8) dL_effectiveDay_7 rfl ?_
    refine mw_last (pc' := 9) dL_effectiveDay_8 rfl (by decide +kernel) ⟨by decide, by decide⟩ (by rw [show LN 74 = 1 by decide +kernel]; exact ⟨by decide, by decide⟩) ?_
    refine mw_goto (pc' := 0) (tgt := 15) dL_effectiveDay_9 (by decide) ?_
    refine mw_iconst (pc' := 16) dL_effectiveDay_15 rfl ⟨by decide, by decide⟩ ?_
    exact mw_iret (pc' := 0) (S := []) dL_effectiveDay_16 rfl (Or.inl rfl) h1
  · obtain ⟨hk, hq⟩ := h1
    have hk := List.mem_singleton.mp hk
    subst hk
    refine mx_catch (k := 3) (k1 := 0) [] ⟨0, 9, 12, 30⟩ [] rfl (fun _ hz => absurd hz List.not_mem_nil) rfl (by decide) kc_3 ka_3 (fun q => ?_)
    refine mw_astore_n (v := (7, q)) (pc' := 13) (L' := [(0, vR 0), (1, vI x1), (2, vR 74), (3, (7, q))]) dL_effectiveDay_12 rfl rfl (by simp) (by decide) rfl ?_
    refine mw_iconst (pc' := 14) dL_effectiveDay_13 rfl ⟨by decide, by decide⟩ ?_
    exact mw_iret (pc' := 0) (S := []) dL_effectiveDay_14 rfl (Or.inl rfl) hq
theorem kM_X11_isTimely : CM mX11_isTimely 1 := ⟨(goodW 1433 (by decide +kernel) rfl), (goodW 1 (by decide +kernel) rfl), ⟨by decide, by decide⟩, by decide +kernel, rfl⟩
theorem kV_X11_isTimely : CV mX11_isTimely := ⟨(goodW 1431 (by decide +kernel) rfl), (goodW 1432 (by decide +kernel) rfl)⟩
theorem wr_isTimely {x1 : Int} {g : mG} {d : mD} {Q : mQ} (h : MM mX11_isTimely [vR 0, vI x1] g d (fun o g' d' => match o with | .inl v => (v = 0 → Q (.inl 0) g' (ud d' 74 0 0)) ∧ (¬ v = 0 → Q (.inl 0) g' (ud d' 74 0 1)) | .inr k => LX [3] k Q g' d')) : MM mL_isTimely [vR 0, vI x1, vR 74] g d Q := by
  refine MM_of (by decide) rfl (by simp [catV]) (Nat.le_of_ble_eq_true rfl) ?_
  show MW mL_isTimely 1 6 0 [(0, vR 0), (1, vI x1), (2, vR 74)] [] g d Q
  refine mw_top (fun hT => ?_)
  have hG : 76 ≤ g.2.1 := hT.2
  refine mw_aload_n (v := vR 74) (pc' := 1) dL_isTimely_0 rfl rfl (Or.inl rfl) rfl ?_
  refine mw_iconst (pc' := 2) dL_isTimely_1 rfl ⟨by decide, by decide⟩ ?_
  refine mw_aload_n (v := vR 0) (pc' := 3) dL_isTimely_2 rfl rfl (Or.inl rfl) rfl ?_
  refine mw_iload_n (pc' := 4) dL_isTimely_3 rfl rfl rfl ?_
  refine mw_callV (M' := mX11_isTimely) (A := [vI x1]) (A' := [vR 0, vI x1]) (S := [vI 0, vR 74]) (a := 0) (pc' := 7) dL_isTimely_4 rfl (Or.inl (goodW 1430 (by decide +kernel) rfl)) kM_X11_isTimely kV_X11_isTimely ⟨by decide, by decide, by decide, by decide, by decide⟩ rfl rfl rfl ⟨by decide, by omega⟩ (by decide +kernel) (by decide +kernel) (Nat.le_of_ble_eq_true rfl) (MM.mono ?_ h)
  intro o g1 d1 h1
  rcases o with v | k
  · show MW mL_isTimely 0 0 7 [(0, vR 0), (1, vI x1), (2, vR 74)] [vI v, vI 0, vR 74] g1 d1 Q
    refine mw_if_eq (tgt := 14) (pc' := 10) dL_isTimely_7 rfl (by decide) (fun c => ?_) (fun c => ?_)
    · refine mw_lconst0 (pc' := 15) dL_isTimely_14 rfl ?_
      refine mw_last (pc' := 16) dL_isTimely_15 rfl (by decide +kernel) ⟨by decide, by decide⟩ (by rw [show LN 74 = 1 by decide +kernel]; exact ⟨by decide, by decide⟩) ?_
      refine mw_goto (pc' := 0) (tgt := 22) dL_isTimely_16 (by decide) ?_
      refine mw_iconst (pc' := 23) dL_isTimely_22 rfl ⟨by decide, by decide⟩ ?_
      exact mw_iret (pc' := 0) (S := []) dL_isTimely_23 rfl (Or.inl rfl) (h1.1 c)
    · refine mw_lconst1 (pc' := 11) dL_isTimely_10 rfl ?_
      refine mw_goto (pc' := 0) (tgt := 15) dL_isTimely_11 (by decide) ?_
      refine mw_last (pc' := 16) dL_isTimely_15 rfl (by decide +kernel) ⟨by decide, by decide⟩ (by rw [show LN 74 = 1 by decide +kernel]; exact ⟨by decide, by decide⟩) ?_
      refine mw_goto (pc' := 0) (tgt := 22) dL_isTimely_16 (by decide) ?_
      refine mw_iconst (pc' := 23) dL_isTimely_22 rfl ⟨by decide, by decide⟩ ?_
      exact mw_iret (pc' := 0) (S := []) dL_isTimely_23 rfl (Or.inl rfl) (h1.2 c)
  · obtain ⟨hk, hq⟩ := h1
    have hk := List.mem_singleton.mp hk
    subst hk
    refine mx_catch (k := 3) (k1 := 0) [] ⟨0, 16, 19, 30⟩ [] rfl (fun _ hz => absurd hz List.not_mem_nil) rfl (by decide) kc_3 ka_3 (fun q => ?_)
    refine mw_astore_n (v := (7, q)) (pc' := 20) (L' := [(0, vR 0), (1, vI x1), (2, vR 74), (3, (7, q))]) dL_isTimely_19 rfl rfl (by simp) (by decide) rfl ?_
    refine mw_iconst (pc' := 21) dL_isTimely_20 rfl ⟨by decide, by decide⟩ ?_
    exact mw_iret (pc' := 0) (S := []) dL_isTimely_21 rfl (Or.inl rfl) hq
theorem kM_X11_timelyClaims : CM mX11_timelyClaims 1 := ⟨(goodW 1444 (by decide +kernel) rfl), (goodW 1 (by decide +kernel) rfl), ⟨by decide, by decide⟩, by decide +kernel, rfl⟩
theorem kV_X11_timelyClaims : CV mX11_timelyClaims := ⟨(goodW 1442 (by decide +kernel) rfl), (goodW 1443 (by decide +kernel) rfl)⟩
theorem wr_timelyClaims {x1 : Int} {g : mG} {d : mD} {Q : mQ} (h : MM mX11_timelyClaims [vR 0, vI x1] g d (fun o g' d' => match o with | .inl v => Q (.inl 0) g' (ud d' 74 0 v) | .inr k => LX [3] k Q g' d')) : MM mL_timelyClaims [vR 0, vI x1, vR 74] g d Q := by
  refine MM_of (by decide) rfl (by simp [catV]) (Nat.le_of_ble_eq_true rfl) ?_
  show MW mL_timelyClaims 1 6 0 [(0, vR 0), (1, vI x1), (2, vR 74)] [] g d Q
  refine mw_top (fun hT => ?_)
  have hG : 76 ≤ g.2.1 := hT.2
  refine mw_aload_n (v := vR 74) (pc' := 1) dL_timelyClaims_0 rfl rfl (Or.inl rfl) rfl ?_
  refine mw_iconst (pc' := 2) dL_timelyClaims_1 rfl ⟨by decide, by decide⟩ ?_
  refine mw_aload_n (v := vR 0) (pc' := 3) dL_timelyClaims_2 rfl rfl (Or.inl rfl) rfl ?_
  refine mw_iload_n (pc' := 4) dL_timelyClaims_3 rfl rfl rfl ?_
  refine mw_callV (M' := mX11_timelyClaims) (A := [vI x1]) (A' := [vR 0, vI x1]) (S := [vI 0, vR 74]) (a := 0) (pc' := 7) dL_timelyClaims_4 rfl (Or.inl (goodW 1441 (by decide +kernel) rfl)) kM_X11_timelyClaims kV_X11_timelyClaims ⟨by decide, by decide, by decide, by decide, by decide⟩ rfl rfl rfl ⟨by decide, by omega⟩ (by decide +kernel) (by decide +kernel) (Nat.le_of_ble_eq_true rfl) (MM.mono ?_ h)
  intro o g1 d1 h1
  rcases o with v | k
  · show MW mL_timelyClaims 0 0 7 [(0, vR 0), (1, vI x1), (2, vR 74)] [vI v, vI 0, vR 74] g1 d1 Q
    refine mw_i2l (pc' := 8) dL_timelyClaims_7 rfl ?_
    refine mw_last (pc' := 9) dL_timelyClaims_8 rfl (by decide +kernel) ⟨by decide, by decide⟩ (by rw [show LN 74 = 1 by decide +kernel]; exact ⟨by decide, by decide⟩) ?_
    refine mw_goto (pc' := 0) (tgt := 15) dL_timelyClaims_9 (by decide) ?_
    refine mw_iconst (pc' := 16) dL_timelyClaims_15 rfl ⟨by decide, by decide⟩ ?_
    exact mw_iret (pc' := 0) (S := []) dL_timelyClaims_16 rfl (Or.inl rfl) h1
  · obtain ⟨hk, hq⟩ := h1
    have hk := List.mem_singleton.mp hk
    subst hk
    refine mx_catch (k := 3) (k1 := 0) [] ⟨0, 9, 12, 30⟩ [] rfl (fun _ hz => absurd hz List.not_mem_nil) rfl (by decide) kc_3 ka_3 (fun q => ?_)
    refine mw_astore_n (v := (7, q)) (pc' := 13) (L' := [(0, vR 0), (1, vI x1), (2, vR 74), (3, (7, q))]) dL_timelyClaims_12 rfl rfl (by simp) (by decide) rfl ?_
    refine mw_iconst (pc' := 14) dL_timelyClaims_13 rfl ⟨by decide, by decide⟩ ?_
    exact mw_iret (pc' := 0) (S := []) dL_timelyClaims_14 rfl (Or.inl rfl) hq
theorem kM_X11_writeDeadline : CM mX11_writeDeadline 1 := ⟨(goodW 1451 (by decide +kernel) rfl), (goodW 1 (by decide +kernel) rfl), ⟨by decide, by decide⟩, by decide +kernel, rfl⟩
theorem kV_X11_writeDeadline : CV mX11_writeDeadline := ⟨(goodW 1449 (by decide +kernel) rfl), (goodW 1450 (by decide +kernel) rfl)⟩
theorem wr_writeDeadline {x1 : Int} {g : mG} {d : mD} {Q : mQ} (h : MM mX11_writeDeadline [vR 0, vI x1] g d (fun o g' d' => match o with | .inl v => Q (.inl 0) g' (ud d' 74 0 v) | .inr k => LX [3] k Q g' d')) : MM mL_writeDeadline [vR 0, vI x1, vR 74] g d Q := by
  refine MM_of (by decide) rfl (by simp [catV]) (Nat.le_of_ble_eq_true rfl) ?_
  show MW mL_writeDeadline 1 6 0 [(0, vR 0), (1, vI x1), (2, vR 74)] [] g d Q
  refine mw_top (fun hT => ?_)
  have hG : 76 ≤ g.2.1 := hT.2
  refine mw_aload_n (v := vR 74) (pc' := 1) dL_writeDeadline_0 rfl rfl (Or.inl rfl) rfl ?_
  refine mw_iconst (pc' := 2) dL_writeDeadline_1 rfl ⟨by decide, by decide⟩ ?_
  refine mw_aload_n (v := vR 0) (pc' := 3) dL_writeDeadline_2 rfl rfl (Or.inl rfl) rfl ?_
  refine mw_iload_n (pc' := 4) dL_writeDeadline_3 rfl rfl rfl ?_
  refine mw_callV (M' := mX11_writeDeadline) (A := [vI x1]) (A' := [vR 0, vI x1]) (S := [vI 0, vR 74]) (a := 0) (pc' := 7) dL_writeDeadline_4 rfl (Or.inl (goodW 1448 (by decide +kernel) rfl)) kM_X11_writeDeadline kV_X11_writeDeadline ⟨by decide, by decide, by decide, by decide, by decide⟩ rfl rfl rfl ⟨by decide, by omega⟩ (by decide +kernel) (by decide +kernel) (Nat.le_of_ble_eq_true rfl) (MM.mono ?_ h)
  intro o g1 d1 h1
  rcases o with v | k
  · show MW mL_writeDeadline 0 0 7 [(0, vR 0), (1, vI x1), (2, vR 74)] [vI v, vI 0, vR 74] g1 d1 Q
    refine mw_i2l (pc' := 8) dL_writeDeadline_7 rfl ?_
    refine mw_last (pc' := 9) dL_writeDeadline_8 rfl (by decide +kernel) ⟨by decide, by decide⟩ (by rw [show LN 74 = 1 by decide +kernel]; exact ⟨by decide, by decide⟩) ?_
    refine mw_goto (pc' := 0) (tgt := 15) dL_writeDeadline_9 (by decide) ?_
    refine mw_iconst (pc' := 16) dL_writeDeadline_15 rfl ⟨by decide, by decide⟩ ?_
    exact mw_iret (pc' := 0) (S := []) dL_writeDeadline_16 rfl (Or.inl rfl) h1
  · obtain ⟨hk, hq⟩ := h1
    have hk := List.mem_singleton.mp hk
    subst hk
    refine mx_catch (k := 3) (k1 := 0) [] ⟨0, 9, 12, 30⟩ [] rfl (fun _ hz => absurd hz List.not_mem_nil) rfl (by decide) kc_3 ka_3 (fun q => ?_)
    refine mw_astore_n (v := (7, q)) (pc' := 13) (L' := [(0, vR 0), (1, vI x1), (2, vR 74), (3, (7, q))]) dL_writeDeadline_12 rfl rfl (by simp) (by decide) rfl ?_
    refine mw_iconst (pc' := 14) dL_writeDeadline_13 rfl ⟨by decide, by decide⟩ ?_
    exact mw_iret (pc' := 0) (S := []) dL_writeDeadline_14 rfl (Or.inl rfl) hq
theorem kM_X11_charAt : CM mX11_charAt 1 := ⟨(goodW 1462 (by decide +kernel) rfl), (goodW 1 (by decide +kernel) rfl), ⟨by decide, by decide⟩, by decide +kernel, rfl⟩
theorem kV_X11_charAt : CV mX11_charAt := ⟨(goodW 1460 (by decide +kernel) rfl), (goodW 1461 (by decide +kernel) rfl)⟩
theorem wr_charAt {x1 : Int} {g : mG} {d : mD} {Q : mQ} (h : MM mX11_charAt [vR 0, vI x1] g d (fun o g' d' => match o with | .inl v => Q (.inl 0) g' (ud d' 74 0 v) | .inr k => LX [3] k Q g' d')) : MM mL_charAt [vR 0, vI x1, vR 74] g d Q := by
  refine MM_of (by decide) rfl (by simp [catV]) (Nat.le_of_ble_eq_true rfl) ?_
  show MW mL_charAt 1 6 0 [(0, vR 0), (1, vI x1), (2, vR 74)] [] g d Q
  refine mw_top (fun hT => ?_)
  have hG : 76 ≤ g.2.1 := hT.2
  refine mw_aload_n (v := vR 74) (pc' := 1) dL_charAt_0 rfl rfl (Or.inl rfl) rfl ?_
  refine mw_iconst (pc' := 2) dL_charAt_1 rfl ⟨by decide, by decide⟩ ?_
  refine mw_aload_n (v := vR 0) (pc' := 3) dL_charAt_2 rfl rfl (Or.inl rfl) rfl ?_
  refine mw_iload_n (pc' := 4) dL_charAt_3 rfl rfl rfl ?_
  refine mw_callV (M' := mX11_charAt) (A := [vI x1]) (A' := [vR 0, vI x1]) (S := [vI 0, vR 74]) (a := 0) (pc' := 7) dL_charAt_4 rfl (Or.inl (goodW 1459 (by decide +kernel) rfl)) kM_X11_charAt kV_X11_charAt ⟨by decide, by decide, by decide, by decide, by decide⟩ rfl rfl rfl ⟨by decide, by omega⟩ (by decide +kernel) (by decide +kernel) (Nat.le_of_ble_eq_true rfl) (MM.mono ?_ h)
  intro o g1 d1 h1
  rcases o with v | k
  · show MW mL_charAt 0 0 7 [(0, vR 0), (1, vI x1), (2, vR 74)] [vI v, vI 0, vR 74] g1 d1 Q
    refine mw_i2l (pc' := 8) dL_charAt_7 rfl ?_
    refine mw_last (pc' := 9) dL_charAt_8 rfl (by decide +kernel) ⟨by decide, by decide⟩ (by rw [show LN 74 = 1 by decide +kernel]; exact ⟨by decide, by decide⟩) ?_
    refine mw_goto (pc' := 0) (tgt := 15) dL_charAt_9 (by decide) ?_
    refine mw_iconst (pc' := 16) dL_charAt_15 rfl ⟨by decide, by decide⟩ ?_
    exact mw_iret (pc' := 0) (S := []) dL_charAt_16 rfl (Or.inl rfl) h1
  · obtain ⟨hk, hq⟩ := h1
    have hk := List.mem_singleton.mp hk
    subst hk
    refine mx_catch (k := 3) (k1 := 0) [] ⟨0, 9, 12, 30⟩ [] rfl (fun _ hz => absurd hz List.not_mem_nil) rfl (by decide) kc_3 ka_3 (fun q => ?_)
    refine mw_astore_n (v := (7, q)) (pc' := 13) (L' := [(0, vR 0), (1, vI x1), (2, vR 74), (3, (7, q))]) dL_charAt_12 rfl rfl (by simp) (by decide) rfl ?_
    refine mw_iconst (pc' := 14) dL_charAt_13 rfl ⟨by decide, by decide⟩ ?_
    exact mw_iret (pc' := 0) (S := []) dL_charAt_14 rfl (Or.inl rfl) hq
theorem kM_X11_run : CM mX11_run 0 := ⟨(goodW 1471 (by decide +kernel) rfl), (goodW 1 (by decide +kernel) rfl), ⟨by decide, by decide⟩, by decide +kernel, rfl⟩
theorem kV_X11_run : CV mX11_run := ⟨(goodW 1469 (by decide +kernel) rfl), (goodW 1470 (by decide +kernel) rfl)⟩
theorem wr_run {g : mG} {d : mD} {Q : mQ} (h : MM mX11_run [vR 0] g d (fun o g' d' => match o with | .inl v => Q (.inl 0) g' (ud d' 74 0 v) | .inr k => LX [2, 5] k Q g' d')) : MM mL_run [vR 0, vR 74] g d Q := by
  refine MM_of (by decide) rfl (by simp [catV]) (Nat.le_of_ble_eq_true rfl) ?_
  show MW mL_run 48 8234 0 [(0, vR 0), (1, vR 74)] [] g d Q
  refine mw_top (fun hT => ?_)
  have hG : 76 ≤ g.2.1 := hT.2
  refine mw_aload_n (v := vR 74) (pc' := 1) dL_run_0 rfl rfl (Or.inl rfl) rfl ?_
  refine mw_iconst (pc' := 2) dL_run_1 rfl ⟨by decide, by decide⟩ ?_
  refine mw_aload_n (v := vR 0) (pc' := 3) dL_run_2 rfl rfl (Or.inl rfl) rfl ?_
  refine mw_callV (M' := mX11_run) (A := []) (A' := [vR 0]) (S := [vI 0, vR 74]) (a := 0) (pc' := 6) dL_run_3 rfl (Or.inl (goodW 1468 (by decide +kernel) rfl)) kM_X11_run kV_X11_run ⟨by decide, by decide, by decide, by decide, by decide⟩ rfl rfl rfl ⟨by decide, by omega⟩ (by decide +kernel) (by decide +kernel) (Nat.le_of_ble_eq_true rfl) (MM.mono ?_ h)
  intro o g1 d1 h1
  rcases o with v | k
  · show MW mL_run 0 0 6 [(0, vR 0), (1, vR 74)] [vI v, vI 0, vR 74] g1 d1 Q
    refine mw_i2l (pc' := 7) dL_run_6 rfl ?_
    refine mw_last (pc' := 8) dL_run_7 rfl (by decide +kernel) ⟨by decide, by decide⟩ (by rw [show LN 74 = 1 by decide +kernel]; exact ⟨by decide, by decide⟩) ?_
    refine mw_goto (pc' := 0) (tgt := 17) dL_run_8 (by decide) ?_
    refine mw_iconst (pc' := 18) dL_run_17 rfl ⟨by decide, by decide⟩ ?_
    exact mw_iret (pc' := 0) (S := []) dL_run_18 rfl (Or.inl rfl) h1
  · obtain ⟨hk, hq⟩ := h1
    rcases (show k = 2 ∨ k = 5 by simpa using hk) with hk | hk
    · subst hk
      refine mx_catch (k := 2) (k1 := 0) [] ⟨0, 8, 11, 19⟩ [⟨0, 8, 14, 103⟩] rfl (fun _ hz => absurd hz List.not_mem_nil) rfl (by decide) kc_2 ka_2 (fun q => ?_)
      refine mw_astore_n (v := (7, q)) (pc' := 12) (L' := [(0, vR 0), (1, vR 74), (2, (7, q))]) dL_run_11 rfl rfl (by simp) (by decide) rfl ?_
      refine mw_iconst (pc' := 13) dL_run_12 rfl ⟨by decide, by decide⟩ ?_
      exact mw_iret (pc' := 0) (S := []) dL_run_13 rfl (Or.inl rfl) hq
    · subst hk
      refine mx_catch (k := 5) (k1 := 0) [⟨0, 8, 11, 19⟩] ⟨0, 8, 14, 103⟩ [] rfl (List.forall_mem_cons.mpr ⟨⟨by decide, 4, 1, by decide, by decide, by decide, rfl, kc_2⟩, (fun _ hz => absurd hz List.not_mem_nil)⟩) rfl (by decide) kc_5 ka_5 (fun q => ?_)
      refine mw_astore_n (v := (7, q)) (pc' := 15) (L' := [(0, vR 0), (1, vR 74), (2, (7, q))]) dL_run_14 rfl rfl (by simp) (by decide) rfl ?_
      refine mw_iconst (pc' := 16) dL_run_15 rfl ⟨by decide, by decide⟩ ?_
      exact mw_iret (pc' := 0) (S := []) dL_run_16 rfl (Or.inl rfl) hq
theorem kM_X11_errorPosition : CM mX11_errorPosition 0 := ⟨(goodW 1597 (by decide +kernel) rfl), (goodW 1 (by decide +kernel) rfl), ⟨by decide, by decide⟩, by decide +kernel, rfl⟩
theorem kV_X11_errorPosition : CV mX11_errorPosition := ⟨(goodW 1595 (by decide +kernel) rfl), (goodW 1596 (by decide +kernel) rfl)⟩
theorem wr_errorPosition {g : mG} {d : mD} {Q : mQ} (h : MM mX11_errorPosition [vR 0] g d (fun o g' d' => match o with | .inl v => Q (.inl 0) g' (ud d' 74 0 v) | .inr k => LX [4] k Q g' d')) : MM mL_errorPosition [vR 0, vR 74] g d Q := by
  refine MM_of (by decide) rfl (by simp [catV]) (Nat.le_of_ble_eq_true rfl) ?_
  show MW mL_errorPosition 1 6 0 [(0, vR 0), (1, vR 74)] [] g d Q
  refine mw_top (fun hT => ?_)
  have hG : 76 ≤ g.2.1 := hT.2
  refine mw_aload_n (v := vR 74) (pc' := 1) dL_errorPosition_0 rfl rfl (Or.inl rfl) rfl ?_
  refine mw_iconst (pc' := 2) dL_errorPosition_1 rfl ⟨by decide, by decide⟩ ?_
  refine mw_aload_n (v := vR 0) (pc' := 3) dL_errorPosition_2 rfl rfl (Or.inl rfl) rfl ?_
  refine mw_callV (M' := mX11_errorPosition) (A := []) (A' := [vR 0]) (S := [vI 0, vR 74]) (a := 0) (pc' := 6) dL_errorPosition_3 rfl (Or.inl (goodW 1594 (by decide +kernel) rfl)) kM_X11_errorPosition kV_X11_errorPosition ⟨by decide, by decide, by decide, by decide, by decide⟩ rfl rfl rfl ⟨by decide, by omega⟩ (by decide +kernel) (by decide +kernel) (Nat.le_of_ble_eq_true rfl) (MM.mono ?_ h)
  intro o g1 d1 h1
  rcases o with v | k
  · show MW mL_errorPosition 0 0 6 [(0, vR 0), (1, vR 74)] [vI v, vI 0, vR 74] g1 d1 Q
    refine mw_i2l (pc' := 7) dL_errorPosition_6 rfl ?_
    refine mw_last (pc' := 8) dL_errorPosition_7 rfl (by decide +kernel) ⟨by decide, by decide⟩ (by rw [show LN 74 = 1 by decide +kernel]; exact ⟨by decide, by decide⟩) ?_
    refine mw_goto (pc' := 0) (tgt := 14) dL_errorPosition_8 (by decide) ?_
    refine mw_iconst (pc' := 15) dL_errorPosition_14 rfl ⟨by decide, by decide⟩ ?_
    exact mw_iret (pc' := 0) (S := []) dL_errorPosition_15 rfl (Or.inl rfl) h1
  · obtain ⟨hk, hq⟩ := h1
    have hk := List.mem_singleton.mp hk
    subst hk
    refine mx_catch (k := 4) (k1 := 0) [] ⟨0, 8, 11, 24⟩ [] rfl (fun _ hz => absurd hz List.not_mem_nil) rfl (by decide) kc_4 ka_4 (fun q => ?_)
    refine mw_astore_n (v := (7, q)) (pc' := 12) (L' := [(0, vR 0), (1, vR 74), (2, (7, q))]) dL_errorPosition_11 rfl rfl (by simp) (by decide) rfl ?_
    refine mw_iconst (pc' := 13) dL_errorPosition_12 rfl ⟨by decide, by decide⟩ ?_
    exact mw_iret (pc' := 0) (S := []) dL_errorPosition_13 rfl (Or.inl rfl) hq
theorem kM_X11_failedCommand : CM mX11_failedCommand 0 := ⟨(goodW 1605 (by decide +kernel) rfl), (goodW 1 (by decide +kernel) rfl), ⟨by decide, by decide⟩, by decide +kernel, rfl⟩
theorem kV_X11_failedCommand : CV mX11_failedCommand := ⟨(goodW 1603 (by decide +kernel) rfl), (goodW 1604 (by decide +kernel) rfl)⟩
theorem wr_failedCommand {g : mG} {d : mD} {Q : mQ} (h : MM mX11_failedCommand [vR 0] g d (fun o g' d' => match o with | .inl v => Q (.inl 0) g' (ud d' 74 0 v) | .inr k => LX [4] k Q g' d')) : MM mL_failedCommand [vR 0, vR 74] g d Q := by
  refine MM_of (by decide) rfl (by simp [catV]) (Nat.le_of_ble_eq_true rfl) ?_
  show MW mL_failedCommand 1 6 0 [(0, vR 0), (1, vR 74)] [] g d Q
  refine mw_top (fun hT => ?_)
  have hG : 76 ≤ g.2.1 := hT.2
  refine mw_aload_n (v := vR 74) (pc' := 1) dL_failedCommand_0 rfl rfl (Or.inl rfl) rfl ?_
  refine mw_iconst (pc' := 2) dL_failedCommand_1 rfl ⟨by decide, by decide⟩ ?_
  refine mw_aload_n (v := vR 0) (pc' := 3) dL_failedCommand_2 rfl rfl (Or.inl rfl) rfl ?_
  refine mw_callV (M' := mX11_failedCommand) (A := []) (A' := [vR 0]) (S := [vI 0, vR 74]) (a := 0) (pc' := 6) dL_failedCommand_3 rfl (Or.inl (goodW 1602 (by decide +kernel) rfl)) kM_X11_failedCommand kV_X11_failedCommand ⟨by decide, by decide, by decide, by decide, by decide⟩ rfl rfl rfl ⟨by decide, by omega⟩ (by decide +kernel) (by decide +kernel) (Nat.le_of_ble_eq_true rfl) (MM.mono ?_ h)
  intro o g1 d1 h1
  rcases o with v | k
  · show MW mL_failedCommand 0 0 6 [(0, vR 0), (1, vR 74)] [vI v, vI 0, vR 74] g1 d1 Q
    refine mw_i2l (pc' := 7) dL_failedCommand_6 rfl ?_
    refine mw_last (pc' := 8) dL_failedCommand_7 rfl (by decide +kernel) ⟨by decide, by decide⟩ (by rw [show LN 74 = 1 by decide +kernel]; exact ⟨by decide, by decide⟩) ?_
    refine mw_goto (pc' := 0) (tgt := 14) dL_failedCommand_8 (by decide) ?_
    refine mw_iconst (pc' := 15) dL_failedCommand_14 rfl ⟨by decide, by decide⟩ ?_
    exact mw_iret (pc' := 0) (S := []) dL_failedCommand_15 rfl (Or.inl rfl) h1
  · obtain ⟨hk, hq⟩ := h1
    have hk := List.mem_singleton.mp hk
    subst hk
    refine mx_catch (k := 4) (k1 := 0) [] ⟨0, 8, 11, 24⟩ [] rfl (fun _ hz => absurd hz List.not_mem_nil) rfl (by decide) kc_4 ka_4 (fun q => ?_)
    refine mw_astore_n (v := (7, q)) (pc' := 12) (L' := [(0, vR 0), (1, vR 74), (2, (7, q))]) dL_failedCommand_11 rfl rfl (by simp) (by decide) rfl ?_
    refine mw_iconst (pc' := 13) dL_failedCommand_12 rfl ⟨by decide, by decide⟩ ?_
    exact mw_iret (pc' := 0) (S := []) dL_failedCommand_13 rfl (Or.inl rfl) hq
theorem kM_X11_undo : CM mX11_undo 0 := ⟨(goodW 1613 (by decide +kernel) rfl), (goodW 1 (by decide +kernel) rfl), ⟨by decide, by decide⟩, by decide +kernel, rfl⟩
theorem kV_X11_undo : CV mX11_undo := ⟨(goodW 1611 (by decide +kernel) rfl), (goodW 1612 (by decide +kernel) rfl)⟩
theorem wr_undo {g : mG} {d : mD} {Q : mQ} (h : MM mX11_undo [vR 0] g d (fun o g' d' => match o with | .inl v => Q (.inl 0) g' (ud d' 74 0 v) | .inr k => LX [1] k Q g' d')) : MM mL_undo [vR 0, vR 74] g d Q := by
  refine MM_of (by decide) rfl (by simp [catV]) (Nat.le_of_ble_eq_true rfl) ?_
  show MW mL_undo 1 6 0 [(0, vR 0), (1, vR 74)] [] g d Q
  refine mw_top (fun hT => ?_)
  have hG : 76 ≤ g.2.1 := hT.2
  refine mw_aload_n (v := vR 74) (pc' := 1) dL_undo_0 rfl rfl (Or.inl rfl) rfl ?_
  refine mw_iconst (pc' := 2) dL_undo_1 rfl ⟨by decide, by decide⟩ ?_
  refine mw_aload_n (v := vR 0) (pc' := 3) dL_undo_2 rfl rfl (Or.inl rfl) rfl ?_
  refine mw_callV (M' := mX11_undo) (A := []) (A' := [vR 0]) (S := [vI 0, vR 74]) (a := 0) (pc' := 6) dL_undo_3 rfl (Or.inl (goodW 1610 (by decide +kernel) rfl)) kM_X11_undo kV_X11_undo ⟨by decide, by decide, by decide, by decide, by decide⟩ rfl rfl rfl ⟨by decide, by omega⟩ (by decide +kernel) (by decide +kernel) (Nat.le_of_ble_eq_true rfl) (MM.mono ?_ h)
  intro o g1 d1 h1
  rcases o with v | k
  · show MW mL_undo 0 0 6 [(0, vR 0), (1, vR 74)] [vI v, vI 0, vR 74] g1 d1 Q
    refine mw_i2l (pc' := 7) dL_undo_6 rfl ?_
    refine mw_last (pc' := 8) dL_undo_7 rfl (by decide +kernel) ⟨by decide, by decide⟩ (by rw [show LN 74 = 1 by decide +kernel]; exact ⟨by decide, by decide⟩) ?_
    refine mw_goto (pc' := 0) (tgt := 14) dL_undo_8 (by decide) ?_
    refine mw_iconst (pc' := 15) dL_undo_14 rfl ⟨by decide, by decide⟩ ?_
    exact mw_iret (pc' := 0) (S := []) dL_undo_15 rfl (Or.inl rfl) h1
  · obtain ⟨hk, hq⟩ := h1
    have hk := List.mem_singleton.mp hk
    subst hk
    refine mx_catch (k := 1) (k1 := 0) [] ⟨0, 8, 11, 13⟩ [] rfl (fun _ hz => absurd hz List.not_mem_nil) rfl (by decide) kc_1 ka_1 (fun q => ?_)
    refine mw_astore_n (v := (7, q)) (pc' := 12) (L' := [(0, vR 0), (1, vR 74), (2, (7, q))]) dL_undo_11 rfl rfl (by simp) (by decide) rfl ?_
    refine mw_iconst (pc' := 13) dL_undo_12 rfl ⟨by decide, by decide⟩ ?_
    exact mw_iret (pc' := 0) (S := []) dL_undo_13 rfl (Or.inl rfl) hq
