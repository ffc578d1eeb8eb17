-- the cases of the law, 3
theorem lc_48 {i : Int} {bc bs : Nat} {g : mG} {d : mD} {Q : mQ} (hI : INV g d) (hi : 0 ≤ i ∧ i + 3 < d SCR (-1)) (hN : d SCR (-1) ≤ 2048) (hb : 48 ≤ bc ∧ 8234 ≤ bs) (h : ∀ g' d', INV g' d' → d' SCR = d SCR → MW mL_law (bc - 48) (bs - 8234) 3808 [(0, (5, 0)), (1, vR 0), (2, vR 65), (3, vR 74), (4, vR 75), (5, vI i)] [] g' d' Q) : MW mL_law bc bs 3065 [(0, (5, 0)), (1, vR 0), (2, vR 65), (3, vR 74), (4, vR 75), (5, vI i)] [] g d Q := by
  refine mw_top (fun hT => ?_)
  have hG : 76 ≤ g.2.1 := hT.2
  refine mw_aload_n (v := vR 0) (pc' := 3066) dL_law_3065 rfl rfl (by simp) rfl ?_
  refine mw_aload_n (v := (5, 0)) (pc' := 3067) dL_law_3066 rfl rfl (by simp) rfl ?_
  refine mw_iload (pc' := 3069) dL_law_3067 rfl rfl ?_
  refine mw_iconst (pc' := 3070) dL_law_3069 rfl ⟨by decide, by decide⟩ ?_
  refine mw_iadd (pc' := 3071) dL_law_3070 rfl (ik (by omega)) ?_
  refine mw_xld (pc' := 3072) dL_law_3071 rfl ⟨by omega, by omega⟩ ?_
  refine mw_aload_n (v := (5, 0)) (pc' := 3073) dL_law_3072 rfl rfl (by simp) rfl ?_
  refine mw_iload (pc' := 3075) dL_law_3073 rfl rfl ?_
  refine mw_iconst (pc' := 3076) dL_law_3075 rfl ⟨by decide, by decide⟩ ?_
  refine mw_iadd (pc' := 3077) dL_law_3076 rfl (ik (by omega)) ?_
  refine mw_xld (pc' := 3078) dL_law_3077 rfl ⟨by omega, by omega⟩ ?_
  refine mw_aload_n (v := vR 74) (pc' := 3079) dL_law_3078 rfl rfl (by simp) rfl ?_
  refine mw_callSX (M' := mL_sameConductBySearch) (A := [vR 0, vI (d SCR (i + 1)), vI (d SCR (i + 2)), vR 74]) (S := []) (pc' := 3082) dL_law_3079 rfl (goodW 1362 (by decide +kernel) rfl) kM_L_sameConductBySearch kS_L_sameConductBySearch ⟨by decide, by decide, Nat.le_trans (by decide) hb.1, Nat.le_trans (by decide) hb.2, by decide⟩ rfl rfl (Nat.le_of_ble_eq_true rfl) (MM.mono ?_ (MM.scr (o_sameConductBySearch g d hI)))
  intro o g1 d1 hh
  obtain ⟨⟨k, ho, h1⟩, hs1⟩ := hh
  subst ho
  show MW mL_law (bc - 2) (bs - 12) 3082 [(0, (5, 0)), (1, vR 0), (2, vR 65), (3, vR 74), (4, vR 75), (5, vI i)] [vI k] g1 d1 Q
  refine mw_top (fun hT1 => ?_)
  have hG1 : 76 ≤ g1.2.1 := hT1.2
  refine mw_istore (pc' := 3084) (L' := [(0, (5, 0)), (1, vR 0), (2, vR 65), (3, vR 74), (4, vR 75), (5, vI i), (6, vI k)]) dL_law_3082 rfl (by decide) rfl ?_
  refine mw_aload_n (v := vR 65) (pc' := 3085) dL_law_3084 rfl rfl (by simp) rfl ?_
  refine mw_aload_n (v := (5, 0)) (pc' := 3086) dL_law_3085 rfl rfl (by simp) rfl ?_
  refine mw_iload (pc' := 3088) dL_law_3086 rfl rfl ?_
  refine mw_iconst (pc' := 3089) dL_law_3088 rfl ⟨by decide, by decide⟩ ?_
  refine mw_iadd (pc' := 3090) dL_law_3089 rfl (ik (by omega)) ?_
  refine mw_xld (pc' := 3091) dL_law_3090 rfl (by rw [hs1]; exact ⟨by omega, by omega⟩) ?_
  rw [hs1]
  refine mw_aload_n (v := (5, 0)) (pc' := 3092) dL_law_3091 rfl rfl (by simp) rfl ?_
  refine mw_iload (pc' := 3094) dL_law_3092 rfl rfl ?_
  refine mw_iconst (pc' := 3095) dL_law_3094 rfl ⟨by decide, by decide⟩ ?_
  refine mw_iadd (pc' := 3096) dL_law_3095 rfl (ik (by omega)) ?_
  refine mw_xld (pc' := 3097) dL_law_3096 rfl (by rw [hs1]; exact ⟨by omega, by omega⟩) ?_
  rw [hs1]
  refine mw_callV (M' := mX12_sameConductBySearch) (A := [vI (d SCR (i + 1)), vI (d SCR (i + 2))]) (A' := [vR 65, vI (d SCR (i + 1)), vI (d SCR (i + 2))]) (S := []) (a := 65) (pc' := 3100) dL_law_3097 rfl (Or.inl (goodW 2020 (by decide +kernel) rfl)) kM_X12_sameConductBySearch kV_X12_sameConductBySearch ⟨by decide, by decide, Nat.zero_le _, Nat.zero_le _, by decide⟩ rfl rfl rfl ⟨by decide, by omega⟩ (by decide +kernel) (by decide +kernel) (Nat.le_of_ble_eq_true rfl) (h1 _ (fun b d2 hI2 hs2 h5 hb0 => ?_))
  show MW mL_law (bc - 2) (bs - 12) 3100 [(0, (5, 0)), (1, vR 0), (2, vR 65), (3, vR 74), (4, vR 75), (5, vI i), (6, vI k)] [vI b] g1 d2 Q
  refine mw_istore (pc' := 3102) (L' := [(0, (5, 0)), (1, vR 0), (2, vR 65), (3, vR 74), (4, vR 75), (5, vI i), (6, vI k), (7, vI b)]) dL_law_3100 rfl (by decide) rfl ?_
  refine mw_aload_n (v := vR 65) (pc' := 3103) dL_law_3102 rfl rfl (by simp) rfl ?_
  refine mw_callV (M' := mX12_thrown) (A := []) (A' := [vR 65]) (S := []) (a := 65) (pc' := 3106) dL_law_3103 rfl (Or.inl (goodW 1679 (by decide +kernel) rfl)) kM_X12_thrown kV_X12_thrown ⟨by decide, by decide, Nat.zero_le _, Nat.zero_le _, by decide⟩ rfl rfl rfl ⟨by decide, by omega⟩ (by decide +kernel) (by decide +kernel) (Nat.le_of_ble_eq_true rfl) (eX12_thrown ?_)
  show MW mL_law (bc - 2) (bs - 12) 3106 [(0, (5, 0)), (1, vR 0), (2, vR 65), (3, vR 74), (4, vR 75), (5, vI i), (6, vI k), (7, vI b)] [vI (d2 65 5)] g1 d2 Q
  rw [h5]
  refine mw_iload (pc' := 3108) dL_law_3106 rfl rfl ?_
  refine mw_icmp_eq (tgt := 3113) (pc' := 3111) dL_law_3108 rfl (by decide) (fun _ => ?_) (fun c => absurd rfl c)
  refine mw_iload (pc' := 3115) dL_law_3113 rfl rfl ?_
  refine mw_if_ne (tgt := 3137) (pc' := 3118) dL_law_3115 rfl (by decide) (fun c => ?_) (fun c => ?_)
  · refine mw_goto (pc' := 0) (tgt := 3808) dL_law_3137 (by decide) ?_
    exact mw_loc (pc' := 0) [0, 1, 2, 3, 4, 5] rfl (mw_less ⟨by omega, by omega⟩ (h g1 d2 hI2 hs2))
  · obtain ⟨hb1, hb2⟩ := hb0 c
    refine mw_aload_n (v := vR 74) (pc' := 3119) dL_law_3118 rfl rfl (by simp) rfl ?_
    refine mw_iconst (pc' := 3120) dL_law_3119 rfl ⟨by decide, by decide⟩ ?_
    refine mw_lald (pc' := 3121) dL_law_3120 rfl (by decide +kernel) ⟨by decide, by decide⟩ (by rw [show LN 74 = 1 by decide +kernel]; exact ⟨by decide, by decide⟩) ?_
    refine mw_iload (pc' := 3123) dL_law_3121 rfl rfl ?_
    rcases hb2 with hb2 | hb2
    · rw [← hb1, hb2]
      refine mw_if_eq (tgt := 3130) (pc' := 3126) dL_law_3123 rfl (by decide) (fun _ => ?_) (fun c2 => absurd rfl c2)
      refine mw_lconst0 (pc' := 3131) dL_law_3130 rfl ?_
      refine mw_lcmp (pc' := 3132) dL_law_3131 rfl ?_
      refine mw_if_eq (tgt := 3137) (pc' := 3135) dL_law_3132 rfl (by decide) (fun _ => ?_) (fun c3 => absurd lCmp_rf c3)
      refine mw_goto (pc' := 0) (tgt := 3808) dL_law_3137 (by decide) ?_
      exact mw_loc (pc' := 0) [0, 1, 2, 3, 4, 5] rfl (mw_less ⟨by omega, by omega⟩ (h g1 d2 hI2 hs2))
    · rw [← hb1, hb2]
      refine mw_if_eq (tgt := 3130) (pc' := 3126) dL_law_3123 rfl (by decide) (fun c2 => absurd c2 (by decide)) (fun _ => ?_)
      refine mw_lconst1 (pc' := 3127) dL_law_3126 rfl ?_
      refine mw_goto (pc' := 0) (tgt := 3131) dL_law_3127 (by decide) ?_
      refine mw_lcmp (pc' := 3132) dL_law_3131 rfl ?_
      refine mw_if_eq (tgt := 3137) (pc' := 3135) dL_law_3132 rfl (by decide) (fun _ => ?_) (fun c3 => absurd lCmp_rf c3)
      refine mw_goto (pc' := 0) (tgt := 3808) dL_law_3137 (by decide) ?_
      exact mw_loc (pc' := 0) [0, 1, 2, 3, 4, 5] rfl (mw_less ⟨by omega, by omega⟩ (h g1 d2 hI2 hs2))
theorem lc_49 {i : Int} {bc bs : Nat} {g : mG} {d : mD} {Q : mQ} (hI : INV g d) (hi : 0 ≤ i ∧ i + 3 < d SCR (-1)) (hN : d SCR (-1) ≤ 2048) (hb : 48 ≤ bc ∧ 8234 ≤ bs) (h : ∀ g' d', INV g' d' → d' SCR = d SCR → MW mL_law (bc - 48) (bs - 8234) 3808 [(0, (5, 0)), (1, vR 0), (2, vR 65), (3, vR 74), (4, vR 75), (5, vI i)] [] g' d' Q) : MW mL_law bc bs 3140 [(0, (5, 0)), (1, vR 0), (2, vR 65), (3, vR 74), (4, vR 75), (5, vI i)] [] g d Q := by
  refine mw_top (fun hT => ?_)
  have hG : 76 ≤ g.2.1 := hT.2
  refine mw_aload_n (v := vR 0) (pc' := 3141) dL_law_3140 rfl rfl (by simp) rfl ?_
  refine mw_aload_n (v := (5, 0)) (pc' := 3142) dL_law_3141 rfl rfl (by simp) rfl ?_
  refine mw_iload (pc' := 3144) dL_law_3142 rfl rfl ?_
  refine mw_iconst (pc' := 3145) dL_law_3144 rfl ⟨by decide, by decide⟩ ?_
  refine mw_iadd (pc' := 3146) dL_law_3145 rfl (ik (by omega)) ?_
  refine mw_xld (pc' := 3147) dL_law_3146 rfl ⟨by omega, by omega⟩ ?_
  refine mw_aload_n (v := vR 74) (pc' := 3148) dL_law_3147 rfl rfl (by simp) rfl ?_
  refine mw_callSX (M' := mL_barDay) (A := [vR 0, vI (d SCR (i + 1)), vR 74]) (S := []) (pc' := 3151) dL_law_3148 rfl (goodW 1369 (by decide +kernel) rfl) kM_L_barDay kS_L_barDay ⟨by decide, by decide, Nat.le_trans (by decide) hb.1, Nat.le_trans (by decide) hb.2, by decide⟩ rfl rfl (Nat.le_of_ble_eq_true rfl) (MM.mono ?_ (MM.scr (o_barDay g d hI)))
  intro o g1 d1 hh
  obtain ⟨⟨k, ho, h1⟩, hs1⟩ := hh
  subst ho
  show MW mL_law (bc - 2) (bs - 12) 3151 [(0, (5, 0)), (1, vR 0), (2, vR 65), (3, vR 74), (4, vR 75), (5, vI i)] [vI k] g1 d1 Q
  refine mw_top (fun hT1 => ?_)
  have hG1 : 76 ≤ g1.2.1 := hT1.2
  refine mw_istore (pc' := 3153) (L' := [(0, (5, 0)), (1, vR 0), (2, vR 65), (3, vR 74), (4, vR 75), (5, vI i), (6, vI k)]) dL_law_3151 rfl (by decide) rfl ?_
  refine mw_aload_n (v := vR 65) (pc' := 3154) dL_law_3153 rfl rfl (by simp) rfl ?_
  refine mw_aload_n (v := (5, 0)) (pc' := 3155) dL_law_3154 rfl rfl (by simp) rfl ?_
  refine mw_iload (pc' := 3157) dL_law_3155 rfl rfl ?_
  refine mw_iconst (pc' := 3158) dL_law_3157 rfl ⟨by decide, by decide⟩ ?_
  refine mw_iadd (pc' := 3159) dL_law_3158 rfl (ik (by omega)) ?_
  refine mw_xld (pc' := 3160) dL_law_3159 rfl (by rw [hs1]; exact ⟨by omega, by omega⟩) ?_
  rw [hs1]
  refine mw_callV (M' := mX12_barDay) (A := [vI (d SCR (i + 1))]) (A' := [vR 65, vI (d SCR (i + 1))]) (S := []) (a := 65) (pc' := 3163) dL_law_3160 rfl (Or.inl (goodW 2025 (by decide +kernel) rfl)) kM_X12_barDay kV_X12_barDay ⟨by decide, by decide, Nat.zero_le _, Nat.zero_le _, by decide⟩ rfl rfl rfl ⟨by decide, by omega⟩ (by decide +kernel) (by decide +kernel) (Nat.le_of_ble_eq_true rfl) (h1 _ (fun b d2 hI2 hs2 h5 hb0 => ?_))
  show MW mL_law (bc - 2) (bs - 12) 3163 [(0, (5, 0)), (1, vR 0), (2, vR 65), (3, vR 74), (4, vR 75), (5, vI i), (6, vI k)] [vI b] g1 d2 Q
  refine mw_istore (pc' := 3165) (L' := [(0, (5, 0)), (1, vR 0), (2, vR 65), (3, vR 74), (4, vR 75), (5, vI i), (6, vI k), (7, vI b)]) dL_law_3163 rfl (by decide) rfl ?_
  refine mw_aload_n (v := vR 65) (pc' := 3166) dL_law_3165 rfl rfl (by simp) rfl ?_
  refine mw_callV (M' := mX12_thrown) (A := []) (A' := [vR 65]) (S := []) (a := 65) (pc' := 3169) dL_law_3166 rfl (Or.inl (goodW 1679 (by decide +kernel) rfl)) kM_X12_thrown kV_X12_thrown ⟨by decide, by decide, Nat.zero_le _, Nat.zero_le _, by decide⟩ rfl rfl rfl ⟨by decide, by omega⟩ (by decide +kernel) (by decide +kernel) (Nat.le_of_ble_eq_true rfl) (eX12_thrown ?_)
  show MW mL_law (bc - 2) (bs - 12) 3169 [(0, (5, 0)), (1, vR 0), (2, vR 65), (3, vR 74), (4, vR 75), (5, vI i), (6, vI k), (7, vI b)] [vI (d2 65 5)] g1 d2 Q
  rw [h5]
  refine mw_iload (pc' := 3171) dL_law_3169 rfl rfl ?_
  refine mw_icmp_eq (tgt := 3176) (pc' := 3174) dL_law_3171 rfl (by decide) (fun _ => ?_) (fun c => absurd rfl c)
  refine mw_iload (pc' := 3178) dL_law_3176 rfl rfl ?_
  refine mw_if_ne (tgt := 3193) (pc' := 3181) dL_law_3178 rfl (by decide) (fun c => ?_) (fun c => ?_)
  · refine mw_goto (pc' := 0) (tgt := 3808) dL_law_3193 (by decide) ?_
    exact mw_loc (pc' := 0) [0, 1, 2, 3, 4, 5] rfl (mw_less ⟨by omega, by omega⟩ (h g1 d2 hI2 hs2))
  · have hb1 := hb0 c
    refine mw_aload_n (v := vR 74) (pc' := 3182) dL_law_3181 rfl rfl (by simp) rfl ?_
    refine mw_iconst (pc' := 3183) dL_law_3182 rfl ⟨by decide, by decide⟩ ?_
    refine mw_lald (pc' := 3184) dL_law_3183 rfl (by decide +kernel) ⟨by decide, by decide⟩ (by rw [show LN 74 = 1 by decide +kernel]; exact ⟨by decide, by decide⟩) ?_
    refine mw_iload (pc' := 3186) dL_law_3184 rfl rfl ?_
    refine mw_i2l (pc' := 3187) dL_law_3186 rfl ?_
    refine mw_lcmp (pc' := 3188) dL_law_3187 rfl ?_
    refine mw_if_eq (tgt := 3193) (pc' := 3191) dL_law_3188 rfl (by decide) (fun _ => ?_) (fun c3 => absurd (by rw [hb1]; exact lCmp_rf) c3)
    refine mw_goto (pc' := 0) (tgt := 3808) dL_law_3193 (by decide) ?_
    exact mw_loc (pc' := 0) [0, 1, 2, 3, 4, 5] rfl (mw_less ⟨by omega, by omega⟩ (h g1 d2 hI2 hs2))
theorem lc_50 {i : Int} {bc bs : Nat} {g : mG} {d : mD} {Q : mQ} (hI : INV g d) (hi : 0 ≤ i ∧ i + 3 < d SCR (-1)) (hN : d SCR (-1) ≤ 2048) (hb : 48 ≤ bc ∧ 8234 ≤ bs) (h : ∀ g' d', INV g' d' → d' SCR = d SCR → MW mL_law (bc - 48) (bs - 8234) 3808 [(0, (5, 0)), (1, vR 0), (2, vR 65), (3, vR 74), (4, vR 75), (5, vI i)] [] g' d' Q) : MW mL_law bc bs 3196 [(0, (5, 0)), (1, vR 0), (2, vR 65), (3, vR 74), (4, vR 75), (5, vI i)] [] g d Q := by
  refine mw_top (fun hT => ?_)
  have hG : 76 ≤ g.2.1 := hT.2
  refine mw_aload_n (v := vR 0) (pc' := 3197) dL_law_3196 rfl rfl (by simp) rfl ?_
  refine mw_aload_n (v := (5, 0)) (pc' := 3198) dL_law_3197 rfl rfl (by simp) rfl ?_
  refine mw_iload (pc' := 3200) dL_law_3198 rfl rfl ?_
  refine mw_iconst (pc' := 3201) dL_law_3200 rfl ⟨by decide, by decide⟩ ?_
  refine mw_iadd (pc' := 3202) dL_law_3201 rfl (ik (by omega)) ?_
  refine mw_xld (pc' := 3203) dL_law_3202 rfl ⟨by omega, by omega⟩ ?_
  refine mw_aload_n (v := (5, 0)) (pc' := 3204) dL_law_3203 rfl rfl (by simp) rfl ?_
  refine mw_iload (pc' := 3206) dL_law_3204 rfl rfl ?_
  refine mw_iconst (pc' := 3207) dL_law_3206 rfl ⟨by decide, by decide⟩ ?_
  refine mw_iadd (pc' := 3208) dL_law_3207 rfl (ik (by omega)) ?_
  refine mw_xld (pc' := 3209) dL_law_3208 rfl ⟨by omega, by omega⟩ ?_
  refine mw_aload_n (v := vR 74) (pc' := 3210) dL_law_3209 rfl rfl (by simp) rfl ?_
  refine mw_callSX (M' := mL_fileClaim) (A := [vR 0, vI (d SCR (i + 1)), vI (d SCR (i + 2)), vR 74]) (S := []) (pc' := 3213) dL_law_3210 rfl (goodW 1376 (by decide +kernel) rfl) kM_L_fileClaim kS_L_fileClaim ⟨by decide, by decide, Nat.le_trans (by decide) hb.1, Nat.le_trans (by decide) hb.2, by decide⟩ rfl rfl (Nat.le_of_ble_eq_true rfl) (MM.mono ?_ (MM.scr (o_fileClaim g d hI)))
  intro o g1 d1 hh
  obtain ⟨⟨k, ho, h1⟩, hs1⟩ := hh
  subst ho
  show MW mL_law (bc - 47) (bs - 8228) 3213 [(0, (5, 0)), (1, vR 0), (2, vR 65), (3, vR 74), (4, vR 75), (5, vI i)] [vI k] g1 d1 Q
  refine mw_top (fun hT1 => ?_)
  have hG1 : 76 ≤ g1.2.1 := hT1.2
  refine mw_istore (pc' := 3215) (L' := [(0, (5, 0)), (1, vR 0), (2, vR 65), (3, vR 74), (4, vR 75), (5, vI i), (6, vI k)]) dL_law_3213 rfl (by decide) rfl ?_
  refine mw_aload_n (v := vR 65) (pc' := 3216) dL_law_3215 rfl rfl (by simp) rfl ?_
  refine mw_aload_n (v := (5, 0)) (pc' := 3217) dL_law_3216 rfl rfl (by simp) rfl ?_
  refine mw_iload (pc' := 3219) dL_law_3217 rfl rfl ?_
  refine mw_iconst (pc' := 3220) dL_law_3219 rfl ⟨by decide, by decide⟩ ?_
  refine mw_iadd (pc' := 3221) dL_law_3220 rfl (ik (by omega)) ?_
  refine mw_xld (pc' := 3222) dL_law_3221 rfl (by rw [hs1]; exact ⟨by omega, by omega⟩) ?_
  rw [hs1]
  refine mw_aload_n (v := (5, 0)) (pc' := 3223) dL_law_3222 rfl rfl (by simp) rfl ?_
  refine mw_iload (pc' := 3225) dL_law_3223 rfl rfl ?_
  refine mw_iconst (pc' := 3226) dL_law_3225 rfl ⟨by decide, by decide⟩ ?_
  refine mw_iadd (pc' := 3227) dL_law_3226 rfl (ik (by omega)) ?_
  refine mw_xld (pc' := 3228) dL_law_3227 rfl (by rw [hs1]; exact ⟨by omega, by omega⟩) ?_
  rw [hs1]
  refine mw_callV (M' := mX12_fileClaim) (A := [vI (d SCR (i + 1)), vI (d SCR (i + 2))]) (A' := [vR 65, vI (d SCR (i + 1)), vI (d SCR (i + 2))]) (S := []) (a := 65) (pc' := 3231) dL_law_3228 rfl (Or.inl (goodW 2033 (by decide +kernel) rfl)) kM_X12_fileClaim kV_X12_fileClaim ⟨by decide, by decide, Nat.zero_le _, Nat.zero_le _, by decide⟩ rfl rfl rfl ⟨by decide, by omega⟩ (by decide +kernel) (by decide +kernel) (Nat.le_of_ble_eq_true rfl) (h1 _ (fun b d2 hI2 hs2 h5 hb0 => ?_))
  show MW mL_law (bc - 47 - 0) (bs - 8228 - 0) 3231 [(0, (5, 0)), (1, vR 0), (2, vR 65), (3, vR 74), (4, vR 75), (5, vI i), (6, vI k)] [vI b] g1 d2 Q
  rw [Nat.sub_zero (bc - 47), Nat.sub_zero (bs - 8228)]
  refine mw_istore (pc' := 3233) (L' := [(0, (5, 0)), (1, vR 0), (2, vR 65), (3, vR 74), (4, vR 75), (5, vI i), (6, vI k), (7, vI b)]) dL_law_3231 rfl (by decide) rfl ?_
  refine mw_aload_n (v := vR 65) (pc' := 3234) dL_law_3233 rfl rfl (by simp) rfl ?_
  refine mw_callV (M' := mX12_thrown) (A := []) (A' := [vR 65]) (S := []) (a := 65) (pc' := 3237) dL_law_3234 rfl (Or.inl (goodW 1679 (by decide +kernel) rfl)) kM_X12_thrown kV_X12_thrown ⟨by decide, by decide, Nat.zero_le _, Nat.zero_le _, by decide⟩ rfl rfl rfl ⟨by decide, by omega⟩ (by decide +kernel) (by decide +kernel) (Nat.le_of_ble_eq_true rfl) (eX12_thrown ?_)
  show MW mL_law (bc - 47 - 0) (bs - 8228 - 0) 3237 [(0, (5, 0)), (1, vR 0), (2, vR 65), (3, vR 74), (4, vR 75), (5, vI i), (6, vI k), (7, vI b)] [vI (d2 65 5)] g1 d2 Q
  rw [Nat.sub_zero (bc - 47), Nat.sub_zero (bs - 8228)]
  rw [h5]
  refine mw_iload (pc' := 3239) dL_law_3237 rfl rfl ?_
  refine mw_icmp_eq (tgt := 3244) (pc' := 3242) dL_law_3239 rfl (by decide) (fun _ => ?_) (fun c => absurd rfl c)
  refine mw_iload (pc' := 3246) dL_law_3244 rfl rfl ?_
  refine mw_if_ne (tgt := 3261) (pc' := 3249) dL_law_3246 rfl (by decide) (fun c => ?_) (fun c => ?_)
  · refine mw_goto (pc' := 0) (tgt := 3808) dL_law_3261 (by decide) ?_
    exact mw_loc (pc' := 0) [0, 1, 2, 3, 4, 5] rfl (mw_less ⟨by omega, by omega⟩ (h g1 d2 hI2 hs2))
  · have hb1 := hb0 c
    refine mw_aload_n (v := vR 74) (pc' := 3250) dL_law_3249 rfl rfl (by simp) rfl ?_
    refine mw_iconst (pc' := 3251) dL_law_3250 rfl ⟨by decide, by decide⟩ ?_
    refine mw_lald (pc' := 3252) dL_law_3251 rfl (by decide +kernel) ⟨by decide, by decide⟩ (by rw [show LN 74 = 1 by decide +kernel]; exact ⟨by decide, by decide⟩) ?_
    refine mw_iload (pc' := 3254) dL_law_3252 rfl rfl ?_
    refine mw_i2l (pc' := 3255) dL_law_3254 rfl ?_
    refine mw_lcmp (pc' := 3256) dL_law_3255 rfl ?_
    refine mw_if_eq (tgt := 3261) (pc' := 3259) dL_law_3256 rfl (by decide) (fun _ => ?_) (fun c3 => absurd (by rw [hb1]; exact lCmp_rf) c3)
    refine mw_goto (pc' := 0) (tgt := 3808) dL_law_3261 (by decide) ?_
    exact mw_loc (pc' := 0) [0, 1, 2, 3, 4, 5] rfl (mw_less ⟨by omega, by omega⟩ (h g1 d2 hI2 hs2))
theorem lc_51 {i : Int} {bc bs : Nat} {g : mG} {d : mD} {Q : mQ} (hI : INV g d) (hi : 0 ≤ i ∧ i + 3 < d SCR (-1)) (hN : d SCR (-1) ≤ 2048) (hb : 48 ≤ bc ∧ 8234 ≤ bs) (h : ∀ g' d', INV g' d' → d' SCR = d SCR → MW mL_law (bc - 48) (bs - 8234) 3808 [(0, (5, 0)), (1, vR 0), (2, vR 65), (3, vR 74), (4, vR 75), (5, vI i)] [] g' d' Q) : MW mL_law bc bs 3264 [(0, (5, 0)), (1, vR 0), (2, vR 65), (3, vR 74), (4, vR 75), (5, vI i)] [] g d Q := by
  refine mw_top (fun hT => ?_)
  have hG : 76 ≤ g.2.1 := hT.2
  refine mw_aload_n (v := vR 0) (pc' := 3265) dL_law_3264 rfl rfl (by simp) rfl ?_
  refine mw_aload_n (v := (5, 0)) (pc' := 3266) dL_law_3265 rfl rfl (by simp) rfl ?_
  refine mw_iload (pc' := 3268) dL_law_3266 rfl rfl ?_
  refine mw_iconst (pc' := 3269) dL_law_3268 rfl ⟨by decide, by decide⟩ ?_
  refine mw_iadd (pc' := 3270) dL_law_3269 rfl (ik (by omega)) ?_
  refine mw_xld (pc' := 3271) dL_law_3270 rfl ⟨by omega, by omega⟩ ?_
  refine mw_aload_n (v := (5, 0)) (pc' := 3272) dL_law_3271 rfl rfl (by simp) rfl ?_
  refine mw_iload (pc' := 3274) dL_law_3272 rfl rfl ?_
  refine mw_iconst (pc' := 3275) dL_law_3274 rfl ⟨by decide, by decide⟩ ?_
  refine mw_iadd (pc' := 3276) dL_law_3275 rfl (ik (by omega)) ?_
  refine mw_xld (pc' := 3277) dL_law_3276 rfl ⟨by omega, by omega⟩ ?_
  refine mw_aload_n (v := vR 74) (pc' := 3278) dL_law_3277 rfl rfl (by simp) rfl ?_
  refine mw_callSX (M' := mL_amendClaim) (A := [vR 0, vI (d SCR (i + 1)), vI (d SCR (i + 2)), vR 74]) (S := []) (pc' := 3281) dL_law_3278 rfl (goodW 1391 (by decide +kernel) rfl) kM_L_amendClaim kS_L_amendClaim ⟨by decide, by decide, Nat.le_trans (by decide) hb.1, Nat.le_trans (by decide) hb.2, by decide⟩ rfl rfl (Nat.le_of_ble_eq_true rfl) (MM.mono ?_ (MM.scr (o_amendClaim g d hI)))
  intro o g1 d1 hh
  obtain ⟨⟨k, ho, h1⟩, hs1⟩ := hh
  subst ho
  show MW mL_law (bc - 47) (bs - 8228) 3281 [(0, (5, 0)), (1, vR 0), (2, vR 65), (3, vR 74), (4, vR 75), (5, vI i)] [vI k] g1 d1 Q
  refine mw_top (fun hT1 => ?_)
  have hG1 : 76 ≤ g1.2.1 := hT1.2
  refine mw_istore (pc' := 3283) (L' := [(0, (5, 0)), (1, vR 0), (2, vR 65), (3, vR 74), (4, vR 75), (5, vI i), (6, vI k)]) dL_law_3281 rfl (by decide) rfl ?_
  refine mw_aload_n (v := vR 65) (pc' := 3284) dL_law_3283 rfl rfl (by simp) rfl ?_
  refine mw_aload_n (v := (5, 0)) (pc' := 3285) dL_law_3284 rfl rfl (by simp) rfl ?_
  refine mw_iload (pc' := 3287) dL_law_3285 rfl rfl ?_
  refine mw_iconst (pc' := 3288) dL_law_3287 rfl ⟨by decide, by decide⟩ ?_
  refine mw_iadd (pc' := 3289) dL_law_3288 rfl (ik (by omega)) ?_
  refine mw_xld (pc' := 3290) dL_law_3289 rfl (by rw [hs1]; exact ⟨by omega, by omega⟩) ?_
  rw [hs1]
  refine mw_aload_n (v := (5, 0)) (pc' := 3291) dL_law_3290 rfl rfl (by simp) rfl ?_
  refine mw_iload (pc' := 3293) dL_law_3291 rfl rfl ?_
  refine mw_iconst (pc' := 3294) dL_law_3293 rfl ⟨by decide, by decide⟩ ?_
  refine mw_iadd (pc' := 3295) dL_law_3294 rfl (ik (by omega)) ?_
  refine mw_xld (pc' := 3296) dL_law_3295 rfl (by rw [hs1]; exact ⟨by omega, by omega⟩) ?_
  rw [hs1]
  refine mw_callV (M' := mX12_amendClaim) (A := [vI (d SCR (i + 1)), vI (d SCR (i + 2))]) (A' := [vR 65, vI (d SCR (i + 1)), vI (d SCR (i + 2))]) (S := []) (a := 65) (pc' := 3299) dL_law_3296 rfl (Or.inl (goodW 2044 (by decide +kernel) rfl)) kM_X12_amendClaim kV_X12_amendClaim ⟨by decide, by decide, Nat.zero_le _, Nat.zero_le _, by decide⟩ rfl rfl rfl ⟨by decide, by omega⟩ (by decide +kernel) (by decide +kernel) (Nat.le_of_ble_eq_true rfl) (h1 _ (fun b d2 hI2 hs2 h5 hb0 => ?_))
  show MW mL_law (bc - 47 - 0) (bs - 8228 - 0) 3299 [(0, (5, 0)), (1, vR 0), (2, vR 65), (3, vR 74), (4, vR 75), (5, vI i), (6, vI k)] [vI b] g1 d2 Q
  rw [Nat.sub_zero (bc - 47), Nat.sub_zero (bs - 8228)]
  refine mw_istore (pc' := 3301) (L' := [(0, (5, 0)), (1, vR 0), (2, vR 65), (3, vR 74), (4, vR 75), (5, vI i), (6, vI k), (7, vI b)]) dL_law_3299 rfl (by decide) rfl ?_
  refine mw_aload_n (v := vR 65) (pc' := 3302) dL_law_3301 rfl rfl (by simp) rfl ?_
  refine mw_callV (M' := mX12_thrown) (A := []) (A' := [vR 65]) (S := []) (a := 65) (pc' := 3305) dL_law_3302 rfl (Or.inl (goodW 1679 (by decide +kernel) rfl)) kM_X12_thrown kV_X12_thrown ⟨by decide, by decide, Nat.zero_le _, Nat.zero_le _, by decide⟩ rfl rfl rfl ⟨by decide, by omega⟩ (by decide +kernel) (by decide +kernel) (Nat.le_of_ble_eq_true rfl) (eX12_thrown ?_)
  show MW mL_law (bc - 47 - 0) (bs - 8228 - 0) 3305 [(0, (5, 0)), (1, vR 0), (2, vR 65), (3, vR 74), (4, vR 75), (5, vI i), (6, vI k), (7, vI b)] [vI (d2 65 5)] g1 d2 Q
  rw [Nat.sub_zero (bc - 47), Nat.sub_zero (bs - 8228)]
  rw [h5]
  refine mw_iload (pc' := 3307) dL_law_3305 rfl rfl ?_
  refine mw_icmp_eq (tgt := 3312) (pc' := 3310) dL_law_3307 rfl (by decide) (fun _ => ?_) (fun c => absurd rfl c)
  refine mw_iload (pc' := 3314) dL_law_3312 rfl rfl ?_
  refine mw_if_ne (tgt := 3329) (pc' := 3317) dL_law_3314 rfl (by decide) (fun c => ?_) (fun c => ?_)
  · refine mw_goto (pc' := 0) (tgt := 3808) dL_law_3329 (by decide) ?_
    exact mw_loc (pc' := 0) [0, 1, 2, 3, 4, 5] rfl (mw_less ⟨by omega, by omega⟩ (h g1 d2 hI2 hs2))
  · have hb1 := hb0 c
    refine mw_aload_n (v := vR 74) (pc' := 3318) dL_law_3317 rfl rfl (by simp) rfl ?_
    refine mw_iconst (pc' := 3319) dL_law_3318 rfl ⟨by decide, by decide⟩ ?_
    refine mw_lald (pc' := 3320) dL_law_3319 rfl (by decide +kernel) ⟨by decide, by decide⟩ (by rw [show LN 74 = 1 by decide +kernel]; exact ⟨by decide, by decide⟩) ?_
    refine mw_iload (pc' := 3322) dL_law_3320 rfl rfl ?_
    refine mw_i2l (pc' := 3323) dL_law_3322 rfl ?_
    refine mw_lcmp (pc' := 3324) dL_law_3323 rfl ?_
    refine mw_if_eq (tgt := 3329) (pc' := 3327) dL_law_3324 rfl (by decide) (fun _ => ?_) (fun c3 => absurd (by rw [hb1]; exact lCmp_rf) c3)
    refine mw_goto (pc' := 0) (tgt := 3808) dL_law_3329 (by decide) ?_
    exact mw_loc (pc' := 0) [0, 1, 2, 3, 4, 5] rfl (mw_less ⟨by omega, by omega⟩ (h g1 d2 hI2 hs2))
theorem lc_52 {i : Int} {bc bs : Nat} {g : mG} {d : mD} {Q : mQ} (hI : INV g d) (hi : 0 ≤ i ∧ i + 3 < d SCR (-1)) (hN : d SCR (-1) ≤ 2048) (hb : 48 ≤ bc ∧ 8234 ≤ bs) (h : ∀ g' d', INV g' d' → d' SCR = d SCR → MW mL_law (bc - 48) (bs - 8234) 3808 [(0, (5, 0)), (1, vR 0), (2, vR 65), (3, vR 74), (4, vR 75), (5, vI i)] [] g' d' Q) : MW mL_law bc bs 3332 [(0, (5, 0)), (1, vR 0), (2, vR 65), (3, vR 74), (4, vR 75), (5, vI i)] [] g d Q := by
  refine mw_top (fun hT => ?_)
  have hG : 76 ≤ g.2.1 := hT.2
  refine mw_aload_n (v := vR 0) (pc' := 3333) dL_law_3332 rfl rfl (by simp) rfl ?_
  refine mw_aload_n (v := (5, 0)) (pc' := 3334) dL_law_3333 rfl rfl (by simp) rfl ?_
  refine mw_iload (pc' := 3336) dL_law_3334 rfl rfl ?_
  refine mw_iconst (pc' := 3337) dL_law_3336 rfl ⟨by decide, by decide⟩ ?_
  refine mw_iadd (pc' := 3338) dL_law_3337 rfl (ik (by omega)) ?_
  refine mw_xld (pc' := 3339) dL_law_3338 rfl ⟨by omega, by omega⟩ ?_
  refine mw_aload_n (v := vR 74) (pc' := 3340) dL_law_3339 rfl rfl (by simp) rfl ?_
  refine mw_callSX (M' := mL_effectiveDay) (A := [vR 0, vI (d SCR (i + 1)), vR 74]) (S := []) (pc' := 3343) dL_law_3340 rfl (goodW 1406 (by decide +kernel) rfl) kM_L_effectiveDay kS_L_effectiveDay ⟨by decide, by decide, Nat.le_trans (by decide) hb.1, Nat.le_trans (by decide) hb.2, by decide⟩ rfl rfl (Nat.le_of_ble_eq_true rfl) (MM.mono ?_ (MM.scr (o_effectiveDay g d hI)))
  intro o g1 d1 hh
  obtain ⟨⟨k, ho, h1⟩, hs1⟩ := hh
  subst ho
  show MW mL_law (bc - 1) (bs - 6) 3343 [(0, (5, 0)), (1, vR 0), (2, vR 65), (3, vR 74), (4, vR 75), (5, vI i)] [vI k] g1 d1 Q
  refine mw_top (fun hT1 => ?_)
  have hG1 : 76 ≤ g1.2.1 := hT1.2
  refine mw_istore (pc' := 3345) (L' := [(0, (5, 0)), (1, vR 0), (2, vR 65), (3, vR 74), (4, vR 75), (5, vI i), (6, vI k)]) dL_law_3343 rfl (by decide) rfl ?_
  refine mw_aload_n (v := vR 65) (pc' := 3346) dL_law_3345 rfl rfl (by simp) rfl ?_
  refine mw_aload_n (v := (5, 0)) (pc' := 3347) dL_law_3346 rfl rfl (by simp) rfl ?_
  refine mw_iload (pc' := 3349) dL_law_3347 rfl rfl ?_
  refine mw_iconst (pc' := 3350) dL_law_3349 rfl ⟨by decide, by decide⟩ ?_
  refine mw_iadd (pc' := 3351) dL_law_3350 rfl (ik (by omega)) ?_
  refine mw_xld (pc' := 3352) dL_law_3351 rfl (by rw [hs1]; exact ⟨by omega, by omega⟩) ?_
  rw [hs1]
  refine mw_callV (M' := mX12_effectiveDay) (A := [vI (d SCR (i + 1))]) (A' := [vR 65, vI (d SCR (i + 1))]) (S := []) (a := 65) (pc' := 3355) dL_law_3352 rfl (Or.inl (goodW 2052 (by decide +kernel) rfl)) kM_X12_effectiveDay kV_X12_effectiveDay ⟨by decide, by decide, Nat.zero_le _, Nat.zero_le _, by decide⟩ rfl rfl rfl ⟨by decide, by omega⟩ (by decide +kernel) (by decide +kernel) (Nat.le_of_ble_eq_true rfl) (h1 _ (fun b d2 hI2 hs2 h5 hb0 => ?_))
  show MW mL_law (bc - 1) (bs - 6) 3355 [(0, (5, 0)), (1, vR 0), (2, vR 65), (3, vR 74), (4, vR 75), (5, vI i), (6, vI k)] [vI b] g1 d2 Q
  refine mw_istore (pc' := 3357) (L' := [(0, (5, 0)), (1, vR 0), (2, vR 65), (3, vR 74), (4, vR 75), (5, vI i), (6, vI k), (7, vI b)]) dL_law_3355 rfl (by decide) rfl ?_
  refine mw_aload_n (v := vR 65) (pc' := 3358) dL_law_3357 rfl rfl (by simp) rfl ?_
  refine mw_callV (M' := mX12_thrown) (A := []) (A' := [vR 65]) (S := []) (a := 65) (pc' := 3361) dL_law_3358 rfl (Or.inl (goodW 1679 (by decide +kernel) rfl)) kM_X12_thrown kV_X12_thrown ⟨by decide, by decide, Nat.zero_le _, Nat.zero_le _, by decide⟩ rfl rfl rfl ⟨by decide, by omega⟩ (by decide +kernel) (by decide +kernel) (Nat.le_of_ble_eq_true rfl) (eX12_thrown ?_)
  show MW mL_law (bc - 1) (bs - 6) 3361 [(0, (5, 0)), (1, vR 0), (2, vR 65), (3, vR 74), (4, vR 75), (5, vI i), (6, vI k), (7, vI b)] [vI (d2 65 5)] g1 d2 Q
  rw [h5]
  refine mw_iload (pc' := 3363) dL_law_3361 rfl rfl ?_
  refine mw_icmp_eq (tgt := 3368) (pc' := 3366) dL_law_3363 rfl (by decide) (fun _ => ?_) (fun c => absurd rfl c)
  refine mw_iload (pc' := 3370) dL_law_3368 rfl rfl ?_
  refine mw_if_ne (tgt := 3385) (pc' := 3373) dL_law_3370 rfl (by decide) (fun c => ?_) (fun c => ?_)
  · refine mw_goto (pc' := 0) (tgt := 3808) dL_law_3385 (by decide) ?_
    exact mw_loc (pc' := 0) [0, 1, 2, 3, 4, 5] rfl (mw_less ⟨by omega, by omega⟩ (h g1 d2 hI2 hs2))
  · have hb1 := hb0 c
    refine mw_aload_n (v := vR 74) (pc' := 3374) dL_law_3373 rfl rfl (by simp) rfl ?_
    refine mw_iconst (pc' := 3375) dL_law_3374 rfl ⟨by decide, by decide⟩ ?_
    refine mw_lald (pc' := 3376) dL_law_3375 rfl (by decide +kernel) ⟨by decide, by decide⟩ (by rw [show LN 74 = 1 by decide +kernel]; exact ⟨by decide, by decide⟩) ?_
    refine mw_iload (pc' := 3378) dL_law_3376 rfl rfl ?_
    refine mw_i2l (pc' := 3379) dL_law_3378 rfl ?_
    refine mw_lcmp (pc' := 3380) dL_law_3379 rfl ?_
    refine mw_if_eq (tgt := 3385) (pc' := 3383) dL_law_3380 rfl (by decide) (fun _ => ?_) (fun c3 => absurd (by rw [hb1]; exact lCmp_rf) c3)
    refine mw_goto (pc' := 0) (tgt := 3808) dL_law_3385 (by decide) ?_
    exact mw_loc (pc' := 0) [0, 1, 2, 3, 4, 5] rfl (mw_less ⟨by omega, by omega⟩ (h g1 d2 hI2 hs2))
theorem lc_53 {i : Int} {bc bs : Nat} {g : mG} {d : mD} {Q : mQ} (hI : INV g d) (hi : 0 ≤ i ∧ i + 3 < d SCR (-1)) (hN : d SCR (-1) ≤ 2048) (hb : 48 ≤ bc ∧ 8234 ≤ bs) (h : ∀ g' d', INV g' d' → d' SCR = d SCR → MW mL_law (bc - 48) (bs - 8234) 3808 [(0, (5, 0)), (1, vR 0), (2, vR 65), (3, vR 74), (4, vR 75), (5, vI i)] [] g' d' Q) : MW mL_law bc bs 3388 [(0, (5, 0)), (1, vR 0), (2, vR 65), (3, vR 74), (4, vR 75), (5, vI i)] [] g d Q := by
  refine mw_top (fun hT => ?_)
  have hG : 76 ≤ g.2.1 := hT.2
  refine mw_aload_n (v := vR 0) (pc' := 3389) dL_law_3388 rfl rfl (by simp) rfl ?_
  refine mw_aload_n (v := (5, 0)) (pc' := 3390) dL_law_3389 rfl rfl (by simp) rfl ?_
  refine mw_iload (pc' := 3392) dL_law_3390 rfl rfl ?_
  refine mw_iconst (pc' := 3393) dL_law_3392 rfl ⟨by decide, by decide⟩ ?_
  refine mw_iadd (pc' := 3394) dL_law_3393 rfl (ik (by omega)) ?_
  refine mw_xld (pc' := 3395) dL_law_3394 rfl ⟨by omega, by omega⟩ ?_
  refine mw_aload_n (v := vR 74) (pc' := 3396) dL_law_3395 rfl rfl (by simp) rfl ?_
  refine mw_callSX (M' := mL_isTimely) (A := [vR 0, vI (d SCR (i + 1)), vR 74]) (S := []) (pc' := 3399) dL_law_3396 rfl (goodW 1427 (by decide +kernel) rfl) kM_L_isTimely kS_L_isTimely ⟨by decide, by decide, Nat.le_trans (by decide) hb.1, Nat.le_trans (by decide) hb.2, by decide⟩ rfl rfl (Nat.le_of_ble_eq_true rfl) (MM.mono ?_ (MM.scr (o_isTimely g d hI)))
  intro o g1 d1 hh
  obtain ⟨⟨k, ho, h1⟩, hs1⟩ := hh
  subst ho
  show MW mL_law (bc - 1) (bs - 6) 3399 [(0, (5, 0)), (1, vR 0), (2, vR 65), (3, vR 74), (4, vR 75), (5, vI i)] [vI k] g1 d1 Q
  refine mw_top (fun hT1 => ?_)
  have hG1 : 76 ≤ g1.2.1 := hT1.2
  refine mw_istore (pc' := 3401) (L' := [(0, (5, 0)), (1, vR 0), (2, vR 65), (3, vR 74), (4, vR 75), (5, vI i), (6, vI k)]) dL_law_3399 rfl (by decide) rfl ?_
  refine mw_aload_n (v := vR 65) (pc' := 3402) dL_law_3401 rfl rfl (by simp) rfl ?_
  refine mw_aload_n (v := (5, 0)) (pc' := 3403) dL_law_3402 rfl rfl (by simp) rfl ?_
  refine mw_iload (pc' := 3405) dL_law_3403 rfl rfl ?_
  refine mw_iconst (pc' := 3406) dL_law_3405 rfl ⟨by decide, by decide⟩ ?_
  refine mw_iadd (pc' := 3407) dL_law_3406 rfl (ik (by omega)) ?_
  refine mw_xld (pc' := 3408) dL_law_3407 rfl (by rw [hs1]; exact ⟨by omega, by omega⟩) ?_
  rw [hs1]
  refine mw_callV (M' := mX12_isTimely) (A := [vI (d SCR (i + 1))]) (A' := [vR 65, vI (d SCR (i + 1))]) (S := []) (a := 65) (pc' := 3411) dL_law_3408 rfl (Or.inl (goodW 2060 (by decide +kernel) rfl)) kM_X12_isTimely kV_X12_isTimely ⟨by decide, by decide, Nat.zero_le _, Nat.zero_le _, by decide⟩ rfl rfl rfl ⟨by decide, by omega⟩ (by decide +kernel) (by decide +kernel) (Nat.le_of_ble_eq_true rfl) (h1 _ (fun b d2 hI2 hs2 h5 hb0 => ?_))
  show MW mL_law (bc - 1) (bs - 6) 3411 [(0, (5, 0)), (1, vR 0), (2, vR 65), (3, vR 74), (4, vR 75), (5, vI i), (6, vI k)] [vI b] g1 d2 Q
  refine mw_istore (pc' := 3413) (L' := [(0, (5, 0)), (1, vR 0), (2, vR 65), (3, vR 74), (4, vR 75), (5, vI i), (6, vI k), (7, vI b)]) dL_law_3411 rfl (by decide) rfl ?_
  refine mw_aload_n (v := vR 65) (pc' := 3414) dL_law_3413 rfl rfl (by simp) rfl ?_
  refine mw_callV (M' := mX12_thrown) (A := []) (A' := [vR 65]) (S := []) (a := 65) (pc' := 3417) dL_law_3414 rfl (Or.inl (goodW 1679 (by decide +kernel) rfl)) kM_X12_thrown kV_X12_thrown ⟨by decide, by decide, Nat.zero_le _, Nat.zero_le _, by decide⟩ rfl rfl rfl ⟨by decide, by omega⟩ (by decide +kernel) (by decide +kernel) (Nat.le_of_ble_eq_true rfl) (eX12_thrown ?_)
  show MW mL_law (bc - 1) (bs - 6) 3417 [(0, (5, 0)), (1, vR 0), (2, vR 65), (3, vR 74), (4, vR 75), (5, vI i), (6, vI k), (7, vI b)] [vI (d2 65 5)] g1 d2 Q
  rw [h5]
  refine mw_iload (pc' := 3419) dL_law_3417 rfl rfl ?_
  refine mw_icmp_eq (tgt := 3424) (pc' := 3422) dL_law_3419 rfl (by decide) (fun _ => ?_) (fun c => absurd rfl c)
  refine mw_iload (pc' := 3426) dL_law_3424 rfl rfl ?_
  refine mw_if_ne (tgt := 3448) (pc' := 3429) dL_law_3426 rfl (by decide) (fun c => ?_) (fun c => ?_)
  · refine mw_goto (pc' := 0) (tgt := 3808) dL_law_3448 (by decide) ?_
    exact mw_loc (pc' := 0) [0, 1, 2, 3, 4, 5] rfl (mw_less ⟨by omega, by omega⟩ (h g1 d2 hI2 hs2))
  · obtain ⟨hb1, hb2⟩ := hb0 c
    refine mw_aload_n (v := vR 74) (pc' := 3430) dL_law_3429 rfl rfl (by simp) rfl ?_
    refine mw_iconst (pc' := 3431) dL_law_3430 rfl ⟨by decide, by decide⟩ ?_
    refine mw_lald (pc' := 3432) dL_law_3431 rfl (by decide +kernel) ⟨by decide, by decide⟩ (by rw [show LN 74 = 1 by decide +kernel]; exact ⟨by decide, by decide⟩) ?_
    refine mw_iload (pc' := 3434) dL_law_3432 rfl rfl ?_
    rcases hb2 with hb2 | hb2
    · rw [← hb1, hb2]
      refine mw_if_eq (tgt := 3441) (pc' := 3437) dL_law_3434 rfl (by decide) (fun _ => ?_) (fun c2 => absurd rfl c2)
      refine mw_lconst0 (pc' := 3442) dL_law_3441 rfl ?_
      refine mw_lcmp (pc' := 3443) dL_law_3442 rfl ?_
      refine mw_if_eq (tgt := 3448) (pc' := 3446) dL_law_3443 rfl (by decide) (fun _ => ?_) (fun c3 => absurd lCmp_rf c3)
      refine mw_goto (pc' := 0) (tgt := 3808) dL_law_3448 (by decide) ?_
      exact mw_loc (pc' := 0) [0, 1, 2, 3, 4, 5] rfl (mw_less ⟨by omega, by omega⟩ (h g1 d2 hI2 hs2))
    · rw [← hb1, hb2]
      refine mw_if_eq (tgt := 3441) (pc' := 3437) dL_law_3434 rfl (by decide) (fun c2 => absurd c2 (by decide)) (fun _ => ?_)
      refine mw_lconst1 (pc' := 3438) dL_law_3437 rfl ?_
      refine mw_goto (pc' := 0) (tgt := 3442) dL_law_3438 (by decide) ?_
      refine mw_lcmp (pc' := 3443) dL_law_3442 rfl ?_
      refine mw_if_eq (tgt := 3448) (pc' := 3446) dL_law_3443 rfl (by decide) (fun _ => ?_) (fun c3 => absurd lCmp_rf c3)
      refine mw_goto (pc' := 0) (tgt := 3808) dL_law_3448 (by decide) ?_
      exact mw_loc (pc' := 0) [0, 1, 2, 3, 4, 5] rfl (mw_less ⟨by omega, by omega⟩ (h g1 d2 hI2 hs2))
theorem lc_54 {i : Int} {bc bs : Nat} {g : mG} {d : mD} {Q : mQ} (hI : INV g d) (hi : 0 ≤ i ∧ i + 3 < d SCR (-1)) (hN : d SCR (-1) ≤ 2048) (hb : 48 ≤ bc ∧ 8234 ≤ bs) (h : ∀ g' d', INV g' d' → d' SCR = d SCR → MW mL_law (bc - 48) (bs - 8234) 3808 [(0, (5, 0)), (1, vR 0), (2, vR 65), (3, vR 74), (4, vR 75), (5, vI i)] [] g' d' Q) : MW mL_law bc bs 3451 [(0, (5, 0)), (1, vR 0), (2, vR 65), (3, vR 74), (4, vR 75), (5, vI i)] [] g d Q := by
  refine mw_top (fun hT => ?_)
  have hG : 76 ≤ g.2.1 := hT.2
  refine mw_aload_n (v := vR 0) (pc' := 3452) dL_law_3451 rfl rfl (by simp) rfl ?_
  refine mw_aload_n (v := (5, 0)) (pc' := 3453) dL_law_3452 rfl rfl (by simp) rfl ?_
  refine mw_iload (pc' := 3455) dL_law_3453 rfl rfl ?_
  refine mw_iconst (pc' := 3456) dL_law_3455 rfl ⟨by decide, by decide⟩ ?_
  refine mw_iadd (pc' := 3457) dL_law_3456 rfl (ik (by omega)) ?_
  refine mw_xld (pc' := 3458) dL_law_3457 rfl ⟨by omega, by omega⟩ ?_
  refine mw_aload_n (v := vR 74) (pc' := 3459) dL_law_3458 rfl rfl (by simp) rfl ?_
  refine mw_callSX (M' := mL_timelyClaims) (A := [vR 0, vI (d SCR (i + 1)), vR 74]) (S := []) (pc' := 3462) dL_law_3459 rfl (goodW 1438 (by decide +kernel) rfl) kM_L_timelyClaims kS_L_timelyClaims ⟨by decide, by decide, Nat.le_trans (by decide) hb.1, Nat.le_trans (by decide) hb.2, by decide⟩ rfl rfl (Nat.le_of_ble_eq_true rfl) (MM.mono ?_ (MM.scr (o_timelyClaims g d hI)))
  intro o g1 d1 hh
  obtain ⟨⟨k, ho, h1⟩, hs1⟩ := hh
  subst ho
  show MW mL_law (bc - 1) (bs - 6) 3462 [(0, (5, 0)), (1, vR 0), (2, vR 65), (3, vR 74), (4, vR 75), (5, vI i)] [vI k] g1 d1 Q
  refine mw_top (fun hT1 => ?_)
  have hG1 : 76 ≤ g1.2.1 := hT1.2
  refine mw_istore (pc' := 3464) (L' := [(0, (5, 0)), (1, vR 0), (2, vR 65), (3, vR 74), (4, vR 75), (5, vI i), (6, vI k)]) dL_law_3462 rfl (by decide) rfl ?_
  refine mw_aload_n (v := vR 65) (pc' := 3465) dL_law_3464 rfl rfl (by simp) rfl ?_
  refine mw_aload_n (v := (5, 0)) (pc' := 3466) dL_law_3465 rfl rfl (by simp) rfl ?_
  refine mw_iload (pc' := 3468) dL_law_3466 rfl rfl ?_
  refine mw_iconst (pc' := 3469) dL_law_3468 rfl ⟨by decide, by decide⟩ ?_
  refine mw_iadd (pc' := 3470) dL_law_3469 rfl (ik (by omega)) ?_
  refine mw_xld (pc' := 3471) dL_law_3470 rfl (by rw [hs1]; exact ⟨by omega, by omega⟩) ?_
  rw [hs1]
  refine mw_callV (M' := mX12_timelyClaims) (A := [vI (d SCR (i + 1))]) (A' := [vR 65, vI (d SCR (i + 1))]) (S := []) (a := 65) (pc' := 3474) dL_law_3471 rfl (Or.inl (goodW 2068 (by decide +kernel) rfl)) kM_X12_timelyClaims kV_X12_timelyClaims ⟨by decide, by decide, Nat.zero_le _, Nat.zero_le _, by decide⟩ rfl rfl rfl ⟨by decide, by omega⟩ (by decide +kernel) (by decide +kernel) (Nat.le_of_ble_eq_true rfl) (h1 _ (fun b d2 hI2 hs2 h5 hb0 => ?_))
  show MW mL_law (bc - 1) (bs - 6) 3474 [(0, (5, 0)), (1, vR 0), (2, vR 65), (3, vR 74), (4, vR 75), (5, vI i), (6, vI k)] [vI b] g1 d2 Q
  refine mw_istore (pc' := 3476) (L' := [(0, (5, 0)), (1, vR 0), (2, vR 65), (3, vR 74), (4, vR 75), (5, vI i), (6, vI k), (7, vI b)]) dL_law_3474 rfl (by decide) rfl ?_
  refine mw_aload_n (v := vR 65) (pc' := 3477) dL_law_3476 rfl rfl (by simp) rfl ?_
  refine mw_callV (M' := mX12_thrown) (A := []) (A' := [vR 65]) (S := []) (a := 65) (pc' := 3480) dL_law_3477 rfl (Or.inl (goodW 1679 (by decide +kernel) rfl)) kM_X12_thrown kV_X12_thrown ⟨by decide, by decide, Nat.zero_le _, Nat.zero_le _, by decide⟩ rfl rfl rfl ⟨by decide, by omega⟩ (by decide +kernel) (by decide +kernel) (Nat.le_of_ble_eq_true rfl) (eX12_thrown ?_)
  show MW mL_law (bc - 1) (bs - 6) 3480 [(0, (5, 0)), (1, vR 0), (2, vR 65), (3, vR 74), (4, vR 75), (5, vI i), (6, vI k), (7, vI b)] [vI (d2 65 5)] g1 d2 Q
  rw [h5]
  refine mw_iload (pc' := 3482) dL_law_3480 rfl rfl ?_
  refine mw_icmp_eq (tgt := 3487) (pc' := 3485) dL_law_3482 rfl (by decide) (fun _ => ?_) (fun c => absurd rfl c)
  refine mw_iload (pc' := 3489) dL_law_3487 rfl rfl ?_
  refine mw_if_ne (tgt := 3504) (pc' := 3492) dL_law_3489 rfl (by decide) (fun c => ?_) (fun c => ?_)
  · refine mw_goto (pc' := 0) (tgt := 3808) dL_law_3504 (by decide) ?_
    exact mw_loc (pc' := 0) [0, 1, 2, 3, 4, 5] rfl (mw_less ⟨by omega, by omega⟩ (h g1 d2 hI2 hs2))
  · have hb1 := hb0 c
    refine mw_aload_n (v := vR 74) (pc' := 3493) dL_law_3492 rfl rfl (by simp) rfl ?_
    refine mw_iconst (pc' := 3494) dL_law_3493 rfl ⟨by decide, by decide⟩ ?_
    refine mw_lald (pc' := 3495) dL_law_3494 rfl (by decide +kernel) ⟨by decide, by decide⟩ (by rw [show LN 74 = 1 by decide +kernel]; exact ⟨by decide, by decide⟩) ?_
    refine mw_iload (pc' := 3497) dL_law_3495 rfl rfl ?_
    refine mw_i2l (pc' := 3498) dL_law_3497 rfl ?_
    refine mw_lcmp (pc' := 3499) dL_law_3498 rfl ?_
    refine mw_if_eq (tgt := 3504) (pc' := 3502) dL_law_3499 rfl (by decide) (fun _ => ?_) (fun c3 => absurd (by rw [hb1]; exact lCmp_rf) c3)
    refine mw_goto (pc' := 0) (tgt := 3808) dL_law_3504 (by decide) ?_
    exact mw_loc (pc' := 0) [0, 1, 2, 3, 4, 5] rfl (mw_less ⟨by omega, by omega⟩ (h g1 d2 hI2 hs2))
theorem lc_55 {i : Int} {bc bs : Nat} {g : mG} {d : mD} {Q : mQ} (hI : INV g d) (hi : 0 ≤ i ∧ i + 3 < d SCR (-1)) (hN : d SCR (-1) ≤ 2048) (hb : 48 ≤ bc ∧ 8234 ≤ bs) (h : ∀ g' d', INV g' d' → d' SCR = d SCR → MW mL_law (bc - 48) (bs - 8234) 3808 [(0, (5, 0)), (1, vR 0), (2, vR 65), (3, vR 74), (4, vR 75), (5, vI i)] [] g' d' Q) : MW mL_law bc bs 3507 [(0, (5, 0)), (1, vR 0), (2, vR 65), (3, vR 74), (4, vR 75), (5, vI i)] [] g d Q := by
  refine mw_top (fun hT => ?_)
  have hG : 76 ≤ g.2.1 := hT.2
  refine mw_aload_n (v := vR 0) (pc' := 3508) dL_law_3507 rfl rfl (by simp) rfl ?_
  refine mw_aload_n (v := (5, 0)) (pc' := 3509) dL_law_3508 rfl rfl (by simp) rfl ?_
  refine mw_iload (pc' := 3511) dL_law_3509 rfl rfl ?_
  refine mw_iconst (pc' := 3512) dL_law_3511 rfl ⟨by decide, by decide⟩ ?_
  refine mw_iadd (pc' := 3513) dL_law_3512 rfl (ik (by omega)) ?_
  refine mw_xld (pc' := 3514) dL_law_3513 rfl ⟨by omega, by omega⟩ ?_
  refine mw_aload_n (v := vR 74) (pc' := 3515) dL_law_3514 rfl rfl (by simp) rfl ?_
  refine mw_callSX (M' := mL_writeDeadline) (A := [vR 0, vI (d SCR (i + 1)), vR 74]) (S := []) (pc' := 3518) dL_law_3515 rfl (goodW 1445 (by decide +kernel) rfl) kM_L_writeDeadline kS_L_writeDeadline ⟨by decide, by decide, Nat.le_trans (by decide) hb.1, Nat.le_trans (by decide) hb.2, by decide⟩ rfl rfl (Nat.le_of_ble_eq_true rfl) (MM.mono ?_ (MM.scr (o_writeDeadline g d hI)))
  intro o g1 d1 hh
  obtain ⟨⟨k, ho, h1⟩, hs1⟩ := hh
  subst ho
  show MW mL_law (bc - 1) (bs - 6) 3518 [(0, (5, 0)), (1, vR 0), (2, vR 65), (3, vR 74), (4, vR 75), (5, vI i)] [vI k] g1 d1 Q
  refine mw_top (fun hT1 => ?_)
  have hG1 : 76 ≤ g1.2.1 := hT1.2
  refine mw_istore (pc' := 3520) (L' := [(0, (5, 0)), (1, vR 0), (2, vR 65), (3, vR 74), (4, vR 75), (5, vI i), (6, vI k)]) dL_law_3518 rfl (by decide) rfl ?_
  refine mw_aload_n (v := vR 65) (pc' := 3521) dL_law_3520 rfl rfl (by simp) rfl ?_
  refine mw_aload_n (v := (5, 0)) (pc' := 3522) dL_law_3521 rfl rfl (by simp) rfl ?_
  refine mw_iload (pc' := 3524) dL_law_3522 rfl rfl ?_
  refine mw_iconst (pc' := 3525) dL_law_3524 rfl ⟨by decide, by decide⟩ ?_
  refine mw_iadd (pc' := 3526) dL_law_3525 rfl (ik (by omega)) ?_
  refine mw_xld (pc' := 3527) dL_law_3526 rfl (by rw [hs1]; exact ⟨by omega, by omega⟩) ?_
  rw [hs1]
  refine mw_callV (M' := mX12_writeDeadline) (A := [vI (d SCR (i + 1))]) (A' := [vR 65, vI (d SCR (i + 1))]) (S := []) (a := 65) (pc' := 3530) dL_law_3527 rfl (Or.inl (goodW 2072 (by decide +kernel) rfl)) kM_X12_writeDeadline kV_X12_writeDeadline ⟨by decide, by decide, Nat.zero_le _, Nat.zero_le _, by decide⟩ rfl rfl rfl ⟨by decide, by omega⟩ (by decide +kernel) (by decide +kernel) (Nat.le_of_ble_eq_true rfl) (h1 _ (fun b d2 hI2 hs2 h5 hb0 => ?_))
  show MW mL_law (bc - 1) (bs - 6) 3530 [(0, (5, 0)), (1, vR 0), (2, vR 65), (3, vR 74), (4, vR 75), (5, vI i), (6, vI k)] [vI b] g1 d2 Q
  refine mw_istore (pc' := 3532) (L' := [(0, (5, 0)), (1, vR 0), (2, vR 65), (3, vR 74), (4, vR 75), (5, vI i), (6, vI k), (7, vI b)]) dL_law_3530 rfl (by decide) rfl ?_
  refine mw_aload_n (v := vR 65) (pc' := 3533) dL_law_3532 rfl rfl (by simp) rfl ?_
  refine mw_callV (M' := mX12_thrown) (A := []) (A' := [vR 65]) (S := []) (a := 65) (pc' := 3536) dL_law_3533 rfl (Or.inl (goodW 1679 (by decide +kernel) rfl)) kM_X12_thrown kV_X12_thrown ⟨by decide, by decide, Nat.zero_le _, Nat.zero_le _, by decide⟩ rfl rfl rfl ⟨by decide, by omega⟩ (by decide +kernel) (by decide +kernel) (Nat.le_of_ble_eq_true rfl) (eX12_thrown ?_)
  show MW mL_law (bc - 1) (bs - 6) 3536 [(0, (5, 0)), (1, vR 0), (2, vR 65), (3, vR 74), (4, vR 75), (5, vI i), (6, vI k), (7, vI b)] [vI (d2 65 5)] g1 d2 Q
  rw [h5]
  refine mw_iload (pc' := 3538) dL_law_3536 rfl rfl ?_
  refine mw_icmp_eq (tgt := 3543) (pc' := 3541) dL_law_3538 rfl (by decide) (fun _ => ?_) (fun c => absurd rfl c)
  refine mw_iload (pc' := 3545) dL_law_3543 rfl rfl ?_
  refine mw_if_ne (tgt := 3560) (pc' := 3548) dL_law_3545 rfl (by decide) (fun c => ?_) (fun c => ?_)
  · refine mw_goto (pc' := 0) (tgt := 3808) dL_law_3560 (by decide) ?_
    exact mw_loc (pc' := 0) [0, 1, 2, 3, 4, 5] rfl (mw_less ⟨by omega, by omega⟩ (h g1 d2 hI2 hs2))
  · have hb1 := hb0 c
    refine mw_aload_n (v := vR 74) (pc' := 3549) dL_law_3548 rfl rfl (by simp) rfl ?_
    refine mw_iconst (pc' := 3550) dL_law_3549 rfl ⟨by decide, by decide⟩ ?_
    refine mw_lald (pc' := 3551) dL_law_3550 rfl (by decide +kernel) ⟨by decide, by decide⟩ (by rw [show LN 74 = 1 by decide +kernel]; exact ⟨by decide, by decide⟩) ?_
    refine mw_iload (pc' := 3553) dL_law_3551 rfl rfl ?_
    refine mw_i2l (pc' := 3554) dL_law_3553 rfl ?_
    refine mw_lcmp (pc' := 3555) dL_law_3554 rfl ?_
    refine mw_if_eq (tgt := 3560) (pc' := 3558) dL_law_3555 rfl (by decide) (fun _ => ?_) (fun c3 => absurd (by rw [hb1]; exact lCmp_rf) c3)
    refine mw_goto (pc' := 0) (tgt := 3808) dL_law_3560 (by decide) ?_
    exact mw_loc (pc' := 0) [0, 1, 2, 3, 4, 5] rfl (mw_less ⟨by omega, by omega⟩ (h g1 d2 hI2 hs2))
theorem lc_56 {i : Int} {bc bs : Nat} {g : mG} {d : mD} {Q : mQ} (hI : INV g d) (hi : 0 ≤ i ∧ i + 3 < d SCR (-1)) (hN : d SCR (-1) ≤ 2048) (hb : 48 ≤ bc ∧ 8234 ≤ bs) (h : ∀ g' d', INV g' d' → d' SCR = d SCR → MW mL_law (bc - 48) (bs - 8234) 3808 [(0, (5, 0)), (1, vR 0), (2, vR 65), (3, vR 74), (4, vR 75), (5, vI i)] [] g' d' Q) : MW mL_law bc bs 3563 [(0, (5, 0)), (1, vR 0), (2, vR 65), (3, vR 74), (4, vR 75), (5, vI i)] [] g d Q := by
  refine mw_top (fun hT => ?_)
  have hG : 76 ≤ g.2.1 := hT.2
  refine mw_aload_n (v := vR 0) (pc' := 3564) dL_law_3563 rfl rfl (by simp) rfl ?_
  refine mw_aload_n (v := (5, 0)) (pc' := 3565) dL_law_3564 rfl rfl (by simp) rfl ?_
  refine mw_iload (pc' := 3567) dL_law_3565 rfl rfl ?_
  refine mw_iconst (pc' := 3568) dL_law_3567 rfl ⟨by decide, by decide⟩ ?_
  refine mw_iadd (pc' := 3569) dL_law_3568 rfl (ik (by omega)) ?_
  refine mw_xld (pc' := 3570) dL_law_3569 rfl ⟨by omega, by omega⟩ ?_
  refine mw_aload_n (v := vR 74) (pc' := 3571) dL_law_3570 rfl rfl (by simp) rfl ?_
  refine mw_callSX (M' := mL_charAt) (A := [vR 0, vI (d SCR (i + 1)), vR 74]) (S := []) (pc' := 3574) dL_law_3571 rfl (goodW 1456 (by decide +kernel) rfl) kM_L_charAt kS_L_charAt ⟨by decide, by decide, Nat.le_trans (by decide) hb.1, Nat.le_trans (by decide) hb.2, by decide⟩ rfl rfl (Nat.le_of_ble_eq_true rfl) (MM.mono ?_ (MM.scr (o_charAt g d hI)))
  intro o g1 d1 hh
  obtain ⟨⟨k, ho, h1⟩, hs1⟩ := hh
  subst ho
  show MW mL_law (bc - 1) (bs - 6) 3574 [(0, (5, 0)), (1, vR 0), (2, vR 65), (3, vR 74), (4, vR 75), (5, vI i)] [vI k] g1 d1 Q
  refine mw_top (fun hT1 => ?_)
  have hG1 : 76 ≤ g1.2.1 := hT1.2
  refine mw_istore (pc' := 3576) (L' := [(0, (5, 0)), (1, vR 0), (2, vR 65), (3, vR 74), (4, vR 75), (5, vI i), (6, vI k)]) dL_law_3574 rfl (by decide) rfl ?_
  refine mw_aload_n (v := vR 65) (pc' := 3577) dL_law_3576 rfl rfl (by simp) rfl ?_
  refine mw_aload_n (v := (5, 0)) (pc' := 3578) dL_law_3577 rfl rfl (by simp) rfl ?_
  refine mw_iload (pc' := 3580) dL_law_3578 rfl rfl ?_
  refine mw_iconst (pc' := 3581) dL_law_3580 rfl ⟨by decide, by decide⟩ ?_
  refine mw_iadd (pc' := 3582) dL_law_3581 rfl (ik (by omega)) ?_
  refine mw_xld (pc' := 3583) dL_law_3582 rfl (by rw [hs1]; exact ⟨by omega, by omega⟩) ?_
  rw [hs1]
  refine mw_callV (M' := mX12_charAt) (A := [vI (d SCR (i + 1))]) (A' := [vR 65, vI (d SCR (i + 1))]) (S := []) (a := 65) (pc' := 3586) dL_law_3583 rfl (Or.inl (goodW 2080 (by decide +kernel) rfl)) kM_X12_charAt kV_X12_charAt ⟨by decide, by decide, Nat.zero_le _, Nat.zero_le _, by decide⟩ rfl rfl rfl ⟨by decide, by omega⟩ (by decide +kernel) (by decide +kernel) (Nat.le_of_ble_eq_true rfl) (h1 _ (fun b d2 hI2 hs2 h5 hb0 => ?_))
  show MW mL_law (bc - 1) (bs - 6) 3586 [(0, (5, 0)), (1, vR 0), (2, vR 65), (3, vR 74), (4, vR 75), (5, vI i), (6, vI k)] [vI b] g1 d2 Q
  refine mw_istore (pc' := 3588) (L' := [(0, (5, 0)), (1, vR 0), (2, vR 65), (3, vR 74), (4, vR 75), (5, vI i), (6, vI k), (7, vI b)]) dL_law_3586 rfl (by decide) rfl ?_
  refine mw_aload_n (v := vR 65) (pc' := 3589) dL_law_3588 rfl rfl (by simp) rfl ?_
  refine mw_callV (M' := mX12_thrown) (A := []) (A' := [vR 65]) (S := []) (a := 65) (pc' := 3592) dL_law_3589 rfl (Or.inl (goodW 1679 (by decide +kernel) rfl)) kM_X12_thrown kV_X12_thrown ⟨by decide, by decide, Nat.zero_le _, Nat.zero_le _, by decide⟩ rfl rfl rfl ⟨by decide, by omega⟩ (by decide +kernel) (by decide +kernel) (Nat.le_of_ble_eq_true rfl) (eX12_thrown ?_)
  show MW mL_law (bc - 1) (bs - 6) 3592 [(0, (5, 0)), (1, vR 0), (2, vR 65), (3, vR 74), (4, vR 75), (5, vI i), (6, vI k), (7, vI b)] [vI (d2 65 5)] g1 d2 Q
  rw [h5]
  refine mw_iload (pc' := 3594) dL_law_3592 rfl rfl ?_
  refine mw_icmp_eq (tgt := 3599) (pc' := 3597) dL_law_3594 rfl (by decide) (fun _ => ?_) (fun c => absurd rfl c)
  refine mw_iload (pc' := 3601) dL_law_3599 rfl rfl ?_
  refine mw_if_ne (tgt := 3616) (pc' := 3604) dL_law_3601 rfl (by decide) (fun c => ?_) (fun c => ?_)
  · refine mw_goto (pc' := 0) (tgt := 3808) dL_law_3616 (by decide) ?_
    exact mw_loc (pc' := 0) [0, 1, 2, 3, 4, 5] rfl (mw_less ⟨by omega, by omega⟩ (h g1 d2 hI2 hs2))
  · have hb1 := hb0 c
    refine mw_aload_n (v := vR 74) (pc' := 3605) dL_law_3604 rfl rfl (by simp) rfl ?_
    refine mw_iconst (pc' := 3606) dL_law_3605 rfl ⟨by decide, by decide⟩ ?_
    refine mw_lald (pc' := 3607) dL_law_3606 rfl (by decide +kernel) ⟨by decide, by decide⟩ (by rw [show LN 74 = 1 by decide +kernel]; exact ⟨by decide, by decide⟩) ?_
    refine mw_iload (pc' := 3609) dL_law_3607 rfl rfl ?_
    refine mw_i2l (pc' := 3610) dL_law_3609 rfl ?_
    refine mw_lcmp (pc' := 3611) dL_law_3610 rfl ?_
    refine mw_if_eq (tgt := 3616) (pc' := 3614) dL_law_3611 rfl (by decide) (fun _ => ?_) (fun c3 => absurd (by rw [hb1]; exact lCmp_rf) c3)
    refine mw_goto (pc' := 0) (tgt := 3808) dL_law_3616 (by decide) ?_
    exact mw_loc (pc' := 0) [0, 1, 2, 3, 4, 5] rfl (mw_less ⟨by omega, by omega⟩ (h g1 d2 hI2 hs2))
theorem lc_57 {i : Int} {bc bs : Nat} {g : mG} {d : mD} {Q : mQ} (hI : INV g d) (hi : 0 ≤ i ∧ i + 3 < d SCR (-1)) (hN : d SCR (-1) ≤ 2048) (hb : 48 ≤ bc ∧ 8234 ≤ bs) (h : ∀ g' d', INV g' d' → d' SCR = d SCR → MW mL_law (bc - 48) (bs - 8234) 3808 [(0, (5, 0)), (1, vR 0), (2, vR 65), (3, vR 74), (4, vR 75), (5, vI i)] [] g' d' Q) : MW mL_law bc bs 3619 [(0, (5, 0)), (1, vR 0), (2, vR 65), (3, vR 74), (4, vR 75), (5, vI i)] [] g d Q := by
  refine mw_top (fun hT => ?_)
  have hG : 76 ≤ g.2.1 := hT.2
  refine mw_aload_n (v := vR 0) (pc' := 3620) dL_law_3619 rfl rfl (by simp) rfl ?_
  refine mw_callV (M' := mX11_isConsistent) (A := []) (A' := [vR 0]) (S := []) (a := 0) (pc' := 3623) dL_law_3620 rfl (Or.inl (goodW 499 (by decide +kernel) rfl)) kM_X11_isConsistent kV_X11_isConsistent ⟨by decide, by decide, Nat.zero_le _, Nat.zero_le _, by decide⟩ rfl rfl rfl ⟨by decide, by omega⟩ (by decide +kernel) (by decide +kernel) (Nat.le_of_ble_eq_true rfl) (MM.mono ?_ (o_isConsistent g d hI))
  intro o g1 d1 hh
  obtain ⟨k, ho, h1⟩ := hh
  subst ho
  show MW mL_law bc bs 3623 [(0, (5, 0)), (1, vR 0), (2, vR 65), (3, vR 74), (4, vR 75), (5, vI i)] [vI k] g1 d1 Q
  refine mw_top (fun hT1 => ?_)
  have hG1 : 76 ≤ g1.2.1 := hT1.2
  refine mw_aload_n (v := vR 65) (pc' := 3624) dL_law_3623 rfl rfl (by simp) rfl ?_
  refine mw_callV (M' := mX12_isConsistent) (A := []) (A' := [vR 65]) (S := [vI k]) (a := 65) (pc' := 3627) dL_law_3624 rfl (Or.inl (goodW 2084 (by decide +kernel) rfl)) kM_X12_isConsistent kV_X12_isConsistent ⟨by decide, by decide, Nat.zero_le _, Nat.zero_le _, by decide⟩ rfl rfl rfl ⟨by decide, by omega⟩ (by decide +kernel) (by decide +kernel) (Nat.le_of_ble_eq_true rfl) (h1 _ (fun b d2 hI2 hs2 hb0 => ?_))
  show MW mL_law bc bs 3627 [(0, (5, 0)), (1, vR 0), (2, vR 65), (3, vR 74), (4, vR 75), (5, vI i)] [vI b, vI k] g1 d2 Q
  refine mw_icmp_eq (tgt := 3808) (pc' := 3630) dL_law_3627 rfl (by decide) (fun _ => ?_) (fun c => absurd hb0.symm c)
  exact mw_less ⟨by omega, by omega⟩ (h g1 d2 hI2 hs2)
theorem lc_58 {i : Int} {bc bs : Nat} {g : mG} {d : mD} {Q : mQ} (hI : INV g d) (hi : 0 ≤ i ∧ i + 3 < d SCR (-1)) (hN : d SCR (-1) ≤ 2048) (hb : 48 ≤ bc ∧ 8234 ≤ bs) (h : ∀ g' d', INV g' d' → d' SCR = d SCR → MW mL_law (bc - 48) (bs - 8234) 3808 [(0, (5, 0)), (1, vR 0), (2, vR 65), (3, vR 74), (4, vR 75), (5, vI i)] [] g' d' Q) : MW mL_law bc bs 3632 [(0, (5, 0)), (1, vR 0), (2, vR 65), (3, vR 74), (4, vR 75), (5, vI i)] [] g d Q := by
  refine mw_top (fun hT => ?_)
  have hG : 76 ≤ g.2.1 := hT.2
  refine mw_aload_n (v := vR 0) (pc' := 3633) dL_law_3632 rfl rfl (by simp) rfl ?_
  refine mw_aload_n (v := vR 74) (pc' := 3634) dL_law_3633 rfl rfl (by simp) rfl ?_
  refine mw_callSX (M' := mL_run) (A := [vR 0, vR 74]) (S := []) (pc' := 3637) dL_law_3634 rfl (goodW 1465 (by decide +kernel) rfl) kM_L_run kS_L_run ⟨by decide, by decide, Nat.le_trans (by decide) hb.1, Nat.le_trans (by decide) hb.2, by decide⟩ rfl rfl (Nat.le_of_ble_eq_true rfl) (MM.mono ?_ (MM.scr (o_run g d hI)))
  intro o g1 d1 hh
  obtain ⟨⟨k, ho, h1⟩, hs1⟩ := hh
  subst ho
  show MW mL_law (bc - 48) (bs - 8234) 3637 [(0, (5, 0)), (1, vR 0), (2, vR 65), (3, vR 74), (4, vR 75), (5, vI i)] [vI k] g1 d1 Q
  refine mw_top (fun hT1 => ?_)
  have hG1 : 76 ≤ g1.2.1 := hT1.2
  refine mw_istore (pc' := 3639) (L' := [(0, (5, 0)), (1, vR 0), (2, vR 65), (3, vR 74), (4, vR 75), (5, vI i), (6, vI k)]) dL_law_3637 rfl (by decide) rfl ?_
  refine mw_aload_n (v := vR 65) (pc' := 3640) dL_law_3639 rfl rfl (by simp) rfl ?_
  refine mw_callV (M' := mX12_run) (A := []) (A' := [vR 65]) (S := []) (a := 65) (pc' := 3643) dL_law_3640 rfl (Or.inl (goodW 2088 (by decide +kernel) rfl)) kM_X12_run kV_X12_run ⟨by decide, by decide, Nat.zero_le _, Nat.zero_le _, by decide⟩ rfl rfl rfl ⟨by decide, by omega⟩ (by decide +kernel) (by decide +kernel) (Nat.le_of_ble_eq_true rfl) (h1 _ (fun b d2 hI2 hs2 h5 hb0 => ?_))
  show MW mL_law (bc - 48 - 0) (bs - 8234 - 0) 3643 [(0, (5, 0)), (1, vR 0), (2, vR 65), (3, vR 74), (4, vR 75), (5, vI i), (6, vI k)] [vI b] g1 d2 Q
  rw [Nat.sub_zero (bc - 48), Nat.sub_zero (bs - 8234)]
  refine mw_istore (pc' := 3645) (L' := [(0, (5, 0)), (1, vR 0), (2, vR 65), (3, vR 74), (4, vR 75), (5, vI i), (6, vI k), (7, vI b)]) dL_law_3643 rfl (by decide) rfl ?_
  refine mw_aload_n (v := vR 65) (pc' := 3646) dL_law_3645 rfl rfl (by simp) rfl ?_
  refine mw_callV (M' := mX12_thrown) (A := []) (A' := [vR 65]) (S := []) (a := 65) (pc' := 3649) dL_law_3646 rfl (Or.inl (goodW 1679 (by decide +kernel) rfl)) kM_X12_thrown kV_X12_thrown ⟨by decide, by decide, Nat.zero_le _, Nat.zero_le _, by decide⟩ rfl rfl rfl ⟨by decide, by omega⟩ (by decide +kernel) (by decide +kernel) (Nat.le_of_ble_eq_true rfl) (eX12_thrown ?_)
  show MW mL_law (bc - 48 - 0) (bs - 8234 - 0) 3649 [(0, (5, 0)), (1, vR 0), (2, vR 65), (3, vR 74), (4, vR 75), (5, vI i), (6, vI k), (7, vI b)] [vI (d2 65 5)] g1 d2 Q
  rw [Nat.sub_zero (bc - 48), Nat.sub_zero (bs - 8234)]
  rw [h5]
  refine mw_iload (pc' := 3651) dL_law_3649 rfl rfl ?_
  refine mw_icmp_eq (tgt := 3656) (pc' := 3654) dL_law_3651 rfl (by decide) (fun _ => ?_) (fun c => absurd rfl c)
  refine mw_iload (pc' := 3658) dL_law_3656 rfl rfl ?_
  refine mw_if_ne (tgt := 3673) (pc' := 3661) dL_law_3658 rfl (by decide) (fun c => ?_) (fun c => ?_)
  · refine mw_goto (pc' := 0) (tgt := 3808) dL_law_3673 (by decide) ?_
    exact mw_loc (pc' := 0) [0, 1, 2, 3, 4, 5] rfl (mw_less ⟨by omega, by omega⟩ (h g1 d2 hI2 hs2))
  · have hb1 := hb0 c
    refine mw_aload_n (v := vR 74) (pc' := 3662) dL_law_3661 rfl rfl (by simp) rfl ?_
    refine mw_iconst (pc' := 3663) dL_law_3662 rfl ⟨by decide, by decide⟩ ?_
    refine mw_lald (pc' := 3664) dL_law_3663 rfl (by decide +kernel) ⟨by decide, by decide⟩ (by rw [show LN 74 = 1 by decide +kernel]; exact ⟨by decide, by decide⟩) ?_
    refine mw_iload (pc' := 3666) dL_law_3664 rfl rfl ?_
    refine mw_i2l (pc' := 3667) dL_law_3666 rfl ?_
    refine mw_lcmp (pc' := 3668) dL_law_3667 rfl ?_
    refine mw_if_eq (tgt := 3673) (pc' := 3671) dL_law_3668 rfl (by decide) (fun _ => ?_) (fun c3 => absurd (by rw [hb1]; exact lCmp_rf) c3)
    refine mw_goto (pc' := 0) (tgt := 3808) dL_law_3673 (by decide) ?_
    exact mw_loc (pc' := 0) [0, 1, 2, 3, 4, 5] rfl (mw_less ⟨by omega, by omega⟩ (h g1 d2 hI2 hs2))
theorem lc_59 {i : Int} {bc bs : Nat} {g : mG} {d : mD} {Q : mQ} (hI : INV g d) (hi : 0 ≤ i ∧ i + 3 < d SCR (-1)) (hN : d SCR (-1) ≤ 2048) (hb : 48 ≤ bc ∧ 8234 ≤ bs) (h : ∀ g' d', INV g' d' → d' SCR = d SCR → MW mL_law (bc - 48) (bs - 8234) 3808 [(0, (5, 0)), (1, vR 0), (2, vR 65), (3, vR 74), (4, vR 75), (5, vI i)] [] g' d' Q) : MW mL_law bc bs 3676 [(0, (5, 0)), (1, vR 0), (2, vR 65), (3, vR 74), (4, vR 75), (5, vI i)] [] g d Q := by
  refine mw_top (fun hT => ?_)
  have hG : 76 ≤ g.2.1 := hT.2
  refine mw_aload_n (v := vR 0) (pc' := 3677) dL_law_3676 rfl rfl (by simp) rfl ?_
  refine mw_aload_n (v := vR 74) (pc' := 3678) dL_law_3677 rfl rfl (by simp) rfl ?_
  refine mw_callSX (M' := mL_errorPosition) (A := [vR 0, vR 74]) (S := []) (pc' := 3681) dL_law_3678 rfl (goodW 1591 (by decide +kernel) rfl) kM_L_errorPosition kS_L_errorPosition ⟨by decide, by decide, Nat.le_trans (by decide) hb.1, Nat.le_trans (by decide) hb.2, by decide⟩ rfl rfl (Nat.le_of_ble_eq_true rfl) (MM.mono ?_ (MM.scr (o_errorPosition g d hI)))
  intro o g1 d1 hh
  obtain ⟨⟨k, ho, h1⟩, hs1⟩ := hh
  subst ho
  show MW mL_law (bc - 1) (bs - 6) 3681 [(0, (5, 0)), (1, vR 0), (2, vR 65), (3, vR 74), (4, vR 75), (5, vI i)] [vI k] g1 d1 Q
  refine mw_top (fun hT1 => ?_)
  have hG1 : 76 ≤ g1.2.1 := hT1.2
  refine mw_istore (pc' := 3683) (L' := [(0, (5, 0)), (1, vR 0), (2, vR 65), (3, vR 74), (4, vR 75), (5, vI i), (6, vI k)]) dL_law_3681 rfl (by decide) rfl ?_
  refine mw_aload_n (v := vR 65) (pc' := 3684) dL_law_3683 rfl rfl (by simp) rfl ?_
  refine mw_callV (M' := mX12_errorPosition) (A := []) (A' := [vR 65]) (S := []) (a := 65) (pc' := 3687) dL_law_3684 rfl (Or.inl (goodW 2139 (by decide +kernel) rfl)) kM_X12_errorPosition kV_X12_errorPosition ⟨by decide, by decide, Nat.zero_le _, Nat.zero_le _, by decide⟩ rfl rfl rfl ⟨by decide, by omega⟩ (by decide +kernel) (by decide +kernel) (Nat.le_of_ble_eq_true rfl) (h1 _ (fun b d2 hI2 hs2 h5 hb0 => ?_))
  show MW mL_law (bc - 1) (bs - 6) 3687 [(0, (5, 0)), (1, vR 0), (2, vR 65), (3, vR 74), (4, vR 75), (5, vI i), (6, vI k)] [vI b] g1 d2 Q
  refine mw_istore (pc' := 3689) (L' := [(0, (5, 0)), (1, vR 0), (2, vR 65), (3, vR 74), (4, vR 75), (5, vI i), (6, vI k), (7, vI b)]) dL_law_3687 rfl (by decide) rfl ?_
  refine mw_aload_n (v := vR 65) (pc' := 3690) dL_law_3689 rfl rfl (by simp) rfl ?_
  refine mw_callV (M' := mX12_thrown) (A := []) (A' := [vR 65]) (S := []) (a := 65) (pc' := 3693) dL_law_3690 rfl (Or.inl (goodW 1679 (by decide +kernel) rfl)) kM_X12_thrown kV_X12_thrown ⟨by decide, by decide, Nat.zero_le _, Nat.zero_le _, by decide⟩ rfl rfl rfl ⟨by decide, by omega⟩ (by decide +kernel) (by decide +kernel) (Nat.le_of_ble_eq_true rfl) (eX12_thrown ?_)
  show MW mL_law (bc - 1) (bs - 6) 3693 [(0, (5, 0)), (1, vR 0), (2, vR 65), (3, vR 74), (4, vR 75), (5, vI i), (6, vI k), (7, vI b)] [vI (d2 65 5)] g1 d2 Q
  rw [h5]
  refine mw_iload (pc' := 3695) dL_law_3693 rfl rfl ?_
  refine mw_icmp_eq (tgt := 3700) (pc' := 3698) dL_law_3695 rfl (by decide) (fun _ => ?_) (fun c => absurd rfl c)
  refine mw_iload (pc' := 3702) dL_law_3700 rfl rfl ?_
  refine mw_if_ne (tgt := 3717) (pc' := 3705) dL_law_3702 rfl (by decide) (fun c => ?_) (fun c => ?_)
  · refine mw_goto (pc' := 0) (tgt := 3808) dL_law_3717 (by decide) ?_
    exact mw_loc (pc' := 0) [0, 1, 2, 3, 4, 5] rfl (mw_less ⟨by omega, by omega⟩ (h g1 d2 hI2 hs2))
  · have hb1 := hb0 c
    refine mw_aload_n (v := vR 74) (pc' := 3706) dL_law_3705 rfl rfl (by simp) rfl ?_
    refine mw_iconst (pc' := 3707) dL_law_3706 rfl ⟨by decide, by decide⟩ ?_
    refine mw_lald (pc' := 3708) dL_law_3707 rfl (by decide +kernel) ⟨by decide, by decide⟩ (by rw [show LN 74 = 1 by decide +kernel]; exact ⟨by decide, by decide⟩) ?_
    refine mw_iload (pc' := 3710) dL_law_3708 rfl rfl ?_
    refine mw_i2l (pc' := 3711) dL_law_3710 rfl ?_
    refine mw_lcmp (pc' := 3712) dL_law_3711 rfl ?_
    refine mw_if_eq (tgt := 3717) (pc' := 3715) dL_law_3712 rfl (by decide) (fun _ => ?_) (fun c3 => absurd (by rw [hb1]; exact lCmp_rf) c3)
    refine mw_goto (pc' := 0) (tgt := 3808) dL_law_3717 (by decide) ?_
    exact mw_loc (pc' := 0) [0, 1, 2, 3, 4, 5] rfl (mw_less ⟨by omega, by omega⟩ (h g1 d2 hI2 hs2))
theorem lc_60 {i : Int} {bc bs : Nat} {g : mG} {d : mD} {Q : mQ} (hI : INV g d) (hi : 0 ≤ i ∧ i + 3 < d SCR (-1)) (hN : d SCR (-1) ≤ 2048) (hb : 48 ≤ bc ∧ 8234 ≤ bs) (h : ∀ g' d', INV g' d' → d' SCR = d SCR → MW mL_law (bc - 48) (bs - 8234) 3808 [(0, (5, 0)), (1, vR 0), (2, vR 65), (3, vR 74), (4, vR 75), (5, vI i)] [] g' d' Q) : MW mL_law bc bs 3720 [(0, (5, 0)), (1, vR 0), (2, vR 65), (3, vR 74), (4, vR 75), (5, vI i)] [] g d Q := by
  refine mw_top (fun hT => ?_)
  have hG : 76 ≤ g.2.1 := hT.2
  refine mw_aload_n (v := vR 0) (pc' := 3721) dL_law_3720 rfl rfl (by simp) rfl ?_
  refine mw_aload_n (v := vR 74) (pc' := 3722) dL_law_3721 rfl rfl (by simp) rfl ?_
  refine mw_callSX (M' := mL_failedCommand) (A := [vR 0, vR 74]) (S := []) (pc' := 3725) dL_law_3722 rfl (goodW 1599 (by decide +kernel) rfl) kM_L_failedCommand kS_L_failedCommand ⟨by decide, by decide, Nat.le_trans (by decide) hb.1, Nat.le_trans (by decide) hb.2, by decide⟩ rfl rfl (Nat.le_of_ble_eq_true rfl) (MM.mono ?_ (MM.scr (o_failedCommand g d hI)))
  intro o g1 d1 hh
  obtain ⟨⟨k, ho, h1⟩, hs1⟩ := hh
  subst ho
  show MW mL_law (bc - 1) (bs - 6) 3725 [(0, (5, 0)), (1, vR 0), (2, vR 65), (3, vR 74), (4, vR 75), (5, vI i)] [vI k] g1 d1 Q
  refine mw_top (fun hT1 => ?_)
  have hG1 : 76 ≤ g1.2.1 := hT1.2
  refine mw_istore (pc' := 3727) (L' := [(0, (5, 0)), (1, vR 0), (2, vR 65), (3, vR 74), (4, vR 75), (5, vI i), (6, vI k)]) dL_law_3725 rfl (by decide) rfl ?_
  refine mw_aload_n (v := vR 65) (pc' := 3728) dL_law_3727 rfl rfl (by simp) rfl ?_
  refine mw_callV (M' := mX12_failedCommand) (A := []) (A' := [vR 65]) (S := []) (a := 65) (pc' := 3731) dL_law_3728 rfl (Or.inl (goodW 2143 (by decide +kernel) rfl)) kM_X12_failedCommand kV_X12_failedCommand ⟨by decide, by decide, Nat.zero_le _, Nat.zero_le _, by decide⟩ rfl rfl rfl ⟨by decide, by omega⟩ (by decide +kernel) (by decide +kernel) (Nat.le_of_ble_eq_true rfl) (h1 _ (fun b d2 hI2 hs2 h5 hb0 => ?_))
  show MW mL_law (bc - 1) (bs - 6) 3731 [(0, (5, 0)), (1, vR 0), (2, vR 65), (3, vR 74), (4, vR 75), (5, vI i), (6, vI k)] [vI b] g1 d2 Q
  refine mw_istore (pc' := 3733) (L' := [(0, (5, 0)), (1, vR 0), (2, vR 65), (3, vR 74), (4, vR 75), (5, vI i), (6, vI k), (7, vI b)]) dL_law_3731 rfl (by decide) rfl ?_
  refine mw_aload_n (v := vR 65) (pc' := 3734) dL_law_3733 rfl rfl (by simp) rfl ?_
  refine mw_callV (M' := mX12_thrown) (A := []) (A' := [vR 65]) (S := []) (a := 65) (pc' := 3737) dL_law_3734 rfl (Or.inl (goodW 1679 (by decide +kernel) rfl)) kM_X12_thrown kV_X12_thrown ⟨by decide, by decide, Nat.zero_le _, Nat.zero_le _, by decide⟩ rfl rfl rfl ⟨by decide, by omega⟩ (by decide +kernel) (by decide +kernel) (Nat.le_of_ble_eq_true rfl) (eX12_thrown ?_)
  show MW mL_law (bc - 1) (bs - 6) 3737 [(0, (5, 0)), (1, vR 0), (2, vR 65), (3, vR 74), (4, vR 75), (5, vI i), (6, vI k), (7, vI b)] [vI (d2 65 5)] g1 d2 Q
  rw [h5]
  refine mw_iload (pc' := 3739) dL_law_3737 rfl rfl ?_
  refine mw_icmp_eq (tgt := 3744) (pc' := 3742) dL_law_3739 rfl (by decide) (fun _ => ?_) (fun c => absurd rfl c)
  refine mw_iload (pc' := 3746) dL_law_3744 rfl rfl ?_
  refine mw_if_ne (tgt := 3761) (pc' := 3749) dL_law_3746 rfl (by decide) (fun c => ?_) (fun c => ?_)
  · refine mw_goto (pc' := 0) (tgt := 3808) dL_law_3761 (by decide) ?_
    exact mw_loc (pc' := 0) [0, 1, 2, 3, 4, 5] rfl (mw_less ⟨by omega, by omega⟩ (h g1 d2 hI2 hs2))
  · have hb1 := hb0 c
    refine mw_aload_n (v := vR 74) (pc' := 3750) dL_law_3749 rfl rfl (by simp) rfl ?_
    refine mw_iconst (pc' := 3751) dL_law_3750 rfl ⟨by decide, by decide⟩ ?_
    refine mw_lald (pc' := 3752) dL_law_3751 rfl (by decide +kernel) ⟨by decide, by decide⟩ (by rw [show LN 74 = 1 by decide +kernel]; exact ⟨by decide, by decide⟩) ?_
    refine mw_iload (pc' := 3754) dL_law_3752 rfl rfl ?_
    refine mw_i2l (pc' := 3755) dL_law_3754 rfl ?_
    refine mw_lcmp (pc' := 3756) dL_law_3755 rfl ?_
    refine mw_if_eq (tgt := 3761) (pc' := 3759) dL_law_3756 rfl (by decide) (fun _ => ?_) (fun c3 => absurd (by rw [hb1]; exact lCmp_rf) c3)
    refine mw_goto (pc' := 0) (tgt := 3808) dL_law_3761 (by decide) ?_
    exact mw_loc (pc' := 0) [0, 1, 2, 3, 4, 5] rfl (mw_less ⟨by omega, by omega⟩ (h g1 d2 hI2 hs2))
theorem lc_61 {i : Int} {bc bs : Nat} {g : mG} {d : mD} {Q : mQ} (hI : INV g d) (hi : 0 ≤ i ∧ i + 3 < d SCR (-1)) (hN : d SCR (-1) ≤ 2048) (hb : 48 ≤ bc ∧ 8234 ≤ bs) (h : ∀ g' d', INV g' d' → d' SCR = d SCR → MW mL_law (bc - 48) (bs - 8234) 3808 [(0, (5, 0)), (1, vR 0), (2, vR 65), (3, vR 74), (4, vR 75), (5, vI i)] [] g' d' Q) : MW mL_law bc bs 3764 [(0, (5, 0)), (1, vR 0), (2, vR 65), (3, vR 74), (4, vR 75), (5, vI i)] [] g d Q := by
  refine mw_top (fun hT => ?_)
  have hG : 76 ≤ g.2.1 := hT.2
  refine mw_aload_n (v := vR 0) (pc' := 3765) dL_law_3764 rfl rfl (by simp) rfl ?_
  refine mw_aload_n (v := vR 74) (pc' := 3766) dL_law_3765 rfl rfl (by simp) rfl ?_
  refine mw_callSX (M' := mL_undo) (A := [vR 0, vR 74]) (S := []) (pc' := 3769) dL_law_3766 rfl (goodW 1607 (by decide +kernel) rfl) kM_L_undo kS_L_undo ⟨by decide, by decide, Nat.le_trans (by decide) hb.1, Nat.le_trans (by decide) hb.2, by decide⟩ rfl rfl (Nat.le_of_ble_eq_true rfl) (MM.mono ?_ (MM.scr (o_undo g d hI)))
  intro o g1 d1 hh
  obtain ⟨⟨k, ho, h1⟩, hs1⟩ := hh
  subst ho
  show MW mL_law (bc - 1) (bs - 6) 3769 [(0, (5, 0)), (1, vR 0), (2, vR 65), (3, vR 74), (4, vR 75), (5, vI i)] [vI k] g1 d1 Q
  refine mw_top (fun hT1 => ?_)
  have hG1 : 76 ≤ g1.2.1 := hT1.2
  refine mw_istore (pc' := 3771) (L' := [(0, (5, 0)), (1, vR 0), (2, vR 65), (3, vR 74), (4, vR 75), (5, vI i), (6, vI k)]) dL_law_3769 rfl (by decide) rfl ?_
  refine mw_aload_n (v := vR 65) (pc' := 3772) dL_law_3771 rfl rfl (by simp) rfl ?_
  refine mw_callV (M' := mX12_undo) (A := []) (A' := [vR 65]) (S := []) (a := 65) (pc' := 3775) dL_law_3772 rfl (Or.inl (goodW 1683 (by decide +kernel) rfl)) kM_X12_undo kV_X12_undo ⟨by decide, by decide, Nat.zero_le _, Nat.zero_le _, by decide⟩ rfl rfl rfl ⟨by decide, by omega⟩ (by decide +kernel) (by decide +kernel) (Nat.le_of_ble_eq_true rfl) (h1 _ (fun b d2 hI2 hs2 h5 hb0 => ?_))
  show MW mL_law (bc - 1) (bs - 6) 3775 [(0, (5, 0)), (1, vR 0), (2, vR 65), (3, vR 74), (4, vR 75), (5, vI i), (6, vI k)] [vI b] g1 d2 Q
  refine mw_istore (pc' := 3777) (L' := [(0, (5, 0)), (1, vR 0), (2, vR 65), (3, vR 74), (4, vR 75), (5, vI i), (6, vI k), (7, vI b)]) dL_law_3775 rfl (by decide) rfl ?_
  refine mw_aload_n (v := vR 65) (pc' := 3778) dL_law_3777 rfl rfl (by simp) rfl ?_
  refine mw_callV (M' := mX12_thrown) (A := []) (A' := [vR 65]) (S := []) (a := 65) (pc' := 3781) dL_law_3778 rfl (Or.inl (goodW 1679 (by decide +kernel) rfl)) kM_X12_thrown kV_X12_thrown ⟨by decide, by decide, Nat.zero_le _, Nat.zero_le _, by decide⟩ rfl rfl rfl ⟨by decide, by omega⟩ (by decide +kernel) (by decide +kernel) (Nat.le_of_ble_eq_true rfl) (eX12_thrown ?_)
  show MW mL_law (bc - 1) (bs - 6) 3781 [(0, (5, 0)), (1, vR 0), (2, vR 65), (3, vR 74), (4, vR 75), (5, vI i), (6, vI k), (7, vI b)] [vI (d2 65 5)] g1 d2 Q
  rw [h5]
  refine mw_iload (pc' := 3783) dL_law_3781 rfl rfl ?_
  refine mw_icmp_eq (tgt := 3788) (pc' := 3786) dL_law_3783 rfl (by decide) (fun _ => ?_) (fun c => absurd rfl c)
  refine mw_iload (pc' := 3790) dL_law_3788 rfl rfl ?_
  refine mw_if_ne (tgt := 3805) (pc' := 3793) dL_law_3790 rfl (by decide) (fun c => ?_) (fun c => ?_)
  · refine mw_goto (pc' := 0) (tgt := 3808) dL_law_3805 (by decide) ?_
    exact mw_loc (pc' := 0) [0, 1, 2, 3, 4, 5] rfl (mw_less ⟨by omega, by omega⟩ (h g1 d2 hI2 hs2))
  · have hb1 := hb0 c
    refine mw_aload_n (v := vR 74) (pc' := 3794) dL_law_3793 rfl rfl (by simp) rfl ?_
    refine mw_iconst (pc' := 3795) dL_law_3794 rfl ⟨by decide, by decide⟩ ?_
    refine mw_lald (pc' := 3796) dL_law_3795 rfl (by decide +kernel) ⟨by decide, by decide⟩ (by rw [show LN 74 = 1 by decide +kernel]; exact ⟨by decide, by decide⟩) ?_
    refine mw_iload (pc' := 3798) dL_law_3796 rfl rfl ?_
    refine mw_i2l (pc' := 3799) dL_law_3798 rfl ?_
    refine mw_lcmp (pc' := 3800) dL_law_3799 rfl ?_
    refine mw_if_eq (tgt := 3805) (pc' := 3803) dL_law_3800 rfl (by decide) (fun _ => ?_) (fun c3 => absurd (by rw [hb1]; exact lCmp_rf) c3)
    refine mw_goto (pc' := 0) (tgt := 3808) dL_law_3805 (by decide) ?_
    exact mw_loc (pc' := 0) [0, 1, 2, 3, 4, 5] rfl (mw_less ⟨by omega, by omega⟩ (h g1 d2 hI2 hs2))
