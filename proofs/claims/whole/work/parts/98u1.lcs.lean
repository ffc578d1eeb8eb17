-- the cases of the law, 1
theorem lc_16 {i : Int} {bc bs : Nat} {g : mG} {d : mD} {Q : mQ} (hI : INV g d) (hi : 0 ≤ i ∧ i + 3 < d SCR (-1)) (hN : d SCR (-1) ≤ 2048) (hb : 48 ≤ bc ∧ 8234 ≤ bs) (h : ∀ g' d', INV g' d' → d' SCR = d SCR → MW mL_law (bc - 48) (bs - 8234) 3808 [(0, (5, 0)), (1, vR 0), (2, vR 65), (3, vR 74), (4, vR 75), (5, vI i)] [] g' d' Q) : MW mL_law bc bs 1179 [(0, (5, 0)), (1, vR 0), (2, vR 65), (3, vR 74), (4, vR 75), (5, vI i)] [] g d Q := by
  refine mw_top (fun hT => ?_)
  have hG : 76 ≤ g.2.1 := hT.2
  refine mw_aload_n (v := vR 0) (pc' := 1180) dL_law_1179 rfl rfl (by simp) rfl ?_
  refine mw_aload_n (v := (5, 0)) (pc' := 1181) dL_law_1180 rfl rfl (by simp) rfl ?_
  refine mw_iload (pc' := 1183) dL_law_1181 rfl rfl ?_
  refine mw_iconst (pc' := 1184) dL_law_1183 rfl ⟨by decide, by decide⟩ ?_
  refine mw_iadd (pc' := 1185) dL_law_1184 rfl (ik (by omega)) ?_
  refine mw_xld (pc' := 1186) dL_law_1185 rfl ⟨by omega, by omega⟩ ?_
  refine mw_aload_n (v := vR 74) (pc' := 1187) dL_law_1186 rfl rfl (by simp) rfl ?_
  refine mw_callSX (M' := mL_ruleLength) (A := [vR 0, vI (d SCR (i + 1)), vR 74]) (S := []) (pc' := 1190) dL_law_1187 rfl (goodW 995 (by decide +kernel) rfl) kM_L_ruleLength kS_L_ruleLength ⟨by decide, by decide, Nat.le_trans (by decide) hb.1, Nat.le_trans (by decide) hb.2, by decide⟩ rfl rfl (Nat.le_of_ble_eq_true rfl) (MM.mono ?_ (MM.scr (o_ruleLength g d hI)))
  intro o g1 d1 hh
  obtain ⟨⟨k, ho, h1⟩, hs1⟩ := hh
  subst ho
  show MW mL_law (bc - 1) (bs - 6) 1190 [(0, (5, 0)), (1, vR 0), (2, vR 65), (3, vR 74), (4, vR 75), (5, vI i)] [vI k] g1 d1 Q
  refine mw_top (fun hT1 => ?_)
  have hG1 : 76 ≤ g1.2.1 := hT1.2
  refine mw_istore (pc' := 1192) (L' := [(0, (5, 0)), (1, vR 0), (2, vR 65), (3, vR 74), (4, vR 75), (5, vI i), (6, vI k)]) dL_law_1190 rfl (by decide) rfl ?_
  refine mw_aload_n (v := vR 65) (pc' := 1193) dL_law_1192 rfl rfl (by simp) rfl ?_
  refine mw_aload_n (v := (5, 0)) (pc' := 1194) dL_law_1193 rfl rfl (by simp) rfl ?_
  refine mw_iload (pc' := 1196) dL_law_1194 rfl rfl ?_
  refine mw_iconst (pc' := 1197) dL_law_1196 rfl ⟨by decide, by decide⟩ ?_
  refine mw_iadd (pc' := 1198) dL_law_1197 rfl (ik (by omega)) ?_
  refine mw_xld (pc' := 1199) dL_law_1198 rfl (by rw [hs1]; exact ⟨by omega, by omega⟩) ?_
  rw [hs1]
  refine mw_callV (M' := mX12_ruleLength) (A := [vI (d SCR (i + 1))]) (A' := [vR 65, vI (d SCR (i + 1))]) (S := []) (a := 65) (pc' := 1202) dL_law_1199 rfl (Or.inl (goodW 1811 (by decide +kernel) rfl)) kM_X12_ruleLength kV_X12_ruleLength ⟨by decide, by decide, Nat.zero_le _, Nat.zero_le _, by decide⟩ rfl rfl rfl ⟨by decide, by omega⟩ (by decide +kernel) (by decide +kernel) (Nat.le_of_ble_eq_true rfl) (h1 _ (fun b d2 hI2 hs2 h5 hb0 => ?_))
  show MW mL_law (bc - 1) (bs - 6) 1202 [(0, (5, 0)), (1, vR 0), (2, vR 65), (3, vR 74), (4, vR 75), (5, vI i), (6, vI k)] [vI b] g1 d2 Q
  refine mw_istore (pc' := 1204) (L' := [(0, (5, 0)), (1, vR 0), (2, vR 65), (3, vR 74), (4, vR 75), (5, vI i), (6, vI k), (7, vI b)]) dL_law_1202 rfl (by decide) rfl ?_
  refine mw_aload_n (v := vR 65) (pc' := 1205) dL_law_1204 rfl rfl (by simp) rfl ?_
  refine mw_callV (M' := mX12_thrown) (A := []) (A' := [vR 65]) (S := []) (a := 65) (pc' := 1208) dL_law_1205 rfl (Or.inl (goodW 1679 (by decide +kernel) rfl)) kM_X12_thrown kV_X12_thrown ⟨by decide, by decide, Nat.zero_le _, Nat.zero_le _, by decide⟩ rfl rfl rfl ⟨by decide, by omega⟩ (by decide +kernel) (by decide +kernel) (Nat.le_of_ble_eq_true rfl) (eX12_thrown ?_)
  show MW mL_law (bc - 1) (bs - 6) 1208 [(0, (5, 0)), (1, vR 0), (2, vR 65), (3, vR 74), (4, vR 75), (5, vI i), (6, vI k), (7, vI b)] [vI (d2 65 5)] g1 d2 Q
  rw [h5]
  refine mw_iload (pc' := 1210) dL_law_1208 rfl rfl ?_
  refine mw_icmp_eq (tgt := 1215) (pc' := 1213) dL_law_1210 rfl (by decide) (fun _ => ?_) (fun c => absurd rfl c)
  refine mw_iload (pc' := 1217) dL_law_1215 rfl rfl ?_
  refine mw_if_ne (tgt := 1232) (pc' := 1220) dL_law_1217 rfl (by decide) (fun c => ?_) (fun c => ?_)
  · refine mw_goto (pc' := 0) (tgt := 3808) dL_law_1232 (by decide) ?_
    exact mw_loc (pc' := 0) [0, 1, 2, 3, 4, 5] rfl (mw_less ⟨by omega, by omega⟩ (h g1 d2 hI2 hs2))
  · have hb1 := hb0 c
    refine mw_aload_n (v := vR 74) (pc' := 1221) dL_law_1220 rfl rfl (by simp) rfl ?_
    refine mw_iconst (pc' := 1222) dL_law_1221 rfl ⟨by decide, by decide⟩ ?_
    refine mw_lald (pc' := 1223) dL_law_1222 rfl (by decide +kernel) ⟨by decide, by decide⟩ (by rw [show LN 74 = 1 by decide +kernel]; exact ⟨by decide, by decide⟩) ?_
    refine mw_iload (pc' := 1225) dL_law_1223 rfl rfl ?_
    refine mw_i2l (pc' := 1226) dL_law_1225 rfl ?_
    refine mw_lcmp (pc' := 1227) dL_law_1226 rfl ?_
    refine mw_if_eq (tgt := 1232) (pc' := 1230) dL_law_1227 rfl (by decide) (fun _ => ?_) (fun c3 => absurd (by rw [hb1]; exact lCmp_rf) c3)
    refine mw_goto (pc' := 0) (tgt := 3808) dL_law_1232 (by decide) ?_
    exact mw_loc (pc' := 0) [0, 1, 2, 3, 4, 5] rfl (mw_less ⟨by omega, by omega⟩ (h g1 d2 hI2 hs2))
theorem lc_17 {i : Int} {bc bs : Nat} {g : mG} {d : mD} {Q : mQ} (hI : INV g d) (hi : 0 ≤ i ∧ i + 3 < d SCR (-1)) (hN : d SCR (-1) ≤ 2048) (hb : 48 ≤ bc ∧ 8234 ≤ bs) (h : ∀ g' d', INV g' d' → d' SCR = d SCR → MW mL_law (bc - 48) (bs - 8234) 3808 [(0, (5, 0)), (1, vR 0), (2, vR 65), (3, vR 74), (4, vR 75), (5, vI i)] [] g' d' Q) : MW mL_law bc bs 1235 [(0, (5, 0)), (1, vR 0), (2, vR 65), (3, vR 74), (4, vR 75), (5, vI i)] [] g d Q := by
  refine mw_top (fun hT => ?_)
  have hG : 76 ≤ g.2.1 := hT.2
  refine mw_aload_n (v := vR 0) (pc' := 1236) dL_law_1235 rfl rfl (by simp) rfl ?_
  refine mw_aload_n (v := (5, 0)) (pc' := 1237) dL_law_1236 rfl rfl (by simp) rfl ?_
  refine mw_iload (pc' := 1239) dL_law_1237 rfl rfl ?_
  refine mw_iconst (pc' := 1240) dL_law_1239 rfl ⟨by decide, by decide⟩ ?_
  refine mw_iadd (pc' := 1241) dL_law_1240 rfl (ik (by omega)) ?_
  refine mw_xld (pc' := 1242) dL_law_1241 rfl ⟨by omega, by omega⟩ ?_
  refine mw_aload_n (v := vR 74) (pc' := 1243) dL_law_1242 rfl rfl (by simp) rfl ?_
  refine mw_callSX (M' := mL_countsCourtDays) (A := [vR 0, vI (d SCR (i + 1)), vR 74]) (S := []) (pc' := 1246) dL_law_1243 rfl (goodW 1006 (by decide +kernel) rfl) kM_L_countsCourtDays kS_L_countsCourtDays ⟨by decide, by decide, Nat.le_trans (by decide) hb.1, Nat.le_trans (by decide) hb.2, by decide⟩ rfl rfl (Nat.le_of_ble_eq_true rfl) (MM.mono ?_ (MM.scr (o_countsCourtDays g d hI)))
  intro o g1 d1 hh
  obtain ⟨⟨k, ho, h1⟩, hs1⟩ := hh
  subst ho
  show MW mL_law (bc - 1) (bs - 6) 1246 [(0, (5, 0)), (1, vR 0), (2, vR 65), (3, vR 74), (4, vR 75), (5, vI i)] [vI k] g1 d1 Q
  refine mw_top (fun hT1 => ?_)
  have hG1 : 76 ≤ g1.2.1 := hT1.2
  refine mw_istore (pc' := 1248) (L' := [(0, (5, 0)), (1, vR 0), (2, vR 65), (3, vR 74), (4, vR 75), (5, vI i), (6, vI k)]) dL_law_1246 rfl (by decide) rfl ?_
  refine mw_aload_n (v := vR 65) (pc' := 1249) dL_law_1248 rfl rfl (by simp) rfl ?_
  refine mw_aload_n (v := (5, 0)) (pc' := 1250) dL_law_1249 rfl rfl (by simp) rfl ?_
  refine mw_iload (pc' := 1252) dL_law_1250 rfl rfl ?_
  refine mw_iconst (pc' := 1253) dL_law_1252 rfl ⟨by decide, by decide⟩ ?_
  refine mw_iadd (pc' := 1254) dL_law_1253 rfl (ik (by omega)) ?_
  refine mw_xld (pc' := 1255) dL_law_1254 rfl (by rw [hs1]; exact ⟨by omega, by omega⟩) ?_
  rw [hs1]
  refine mw_callV (M' := mX12_countsCourtDays) (A := [vI (d SCR (i + 1))]) (A' := [vR 65, vI (d SCR (i + 1))]) (S := []) (a := 65) (pc' := 1258) dL_law_1255 rfl (Or.inl (goodW 1815 (by decide +kernel) rfl)) kM_X12_countsCourtDays kV_X12_countsCourtDays ⟨by decide, by decide, Nat.zero_le _, Nat.zero_le _, by decide⟩ rfl rfl rfl ⟨by decide, by omega⟩ (by decide +kernel) (by decide +kernel) (Nat.le_of_ble_eq_true rfl) (h1 _ (fun b d2 hI2 hs2 h5 hb0 => ?_))
  show MW mL_law (bc - 1) (bs - 6) 1258 [(0, (5, 0)), (1, vR 0), (2, vR 65), (3, vR 74), (4, vR 75), (5, vI i), (6, vI k)] [vI b] g1 d2 Q
  refine mw_istore (pc' := 1260) (L' := [(0, (5, 0)), (1, vR 0), (2, vR 65), (3, vR 74), (4, vR 75), (5, vI i), (6, vI k), (7, vI b)]) dL_law_1258 rfl (by decide) rfl ?_
  refine mw_aload_n (v := vR 65) (pc' := 1261) dL_law_1260 rfl rfl (by simp) rfl ?_
  refine mw_callV (M' := mX12_thrown) (A := []) (A' := [vR 65]) (S := []) (a := 65) (pc' := 1264) dL_law_1261 rfl (Or.inl (goodW 1679 (by decide +kernel) rfl)) kM_X12_thrown kV_X12_thrown ⟨by decide, by decide, Nat.zero_le _, Nat.zero_le _, by decide⟩ rfl rfl rfl ⟨by decide, by omega⟩ (by decide +kernel) (by decide +kernel) (Nat.le_of_ble_eq_true rfl) (eX12_thrown ?_)
  show MW mL_law (bc - 1) (bs - 6) 1264 [(0, (5, 0)), (1, vR 0), (2, vR 65), (3, vR 74), (4, vR 75), (5, vI i), (6, vI k), (7, vI b)] [vI (d2 65 5)] g1 d2 Q
  rw [h5]
  refine mw_iload (pc' := 1266) dL_law_1264 rfl rfl ?_
  refine mw_icmp_eq (tgt := 1271) (pc' := 1269) dL_law_1266 rfl (by decide) (fun _ => ?_) (fun c => absurd rfl c)
  refine mw_iload (pc' := 1273) dL_law_1271 rfl rfl ?_
  refine mw_if_ne (tgt := 1295) (pc' := 1276) dL_law_1273 rfl (by decide) (fun c => ?_) (fun c => ?_)
  · refine mw_goto (pc' := 0) (tgt := 3808) dL_law_1295 (by decide) ?_
    exact mw_loc (pc' := 0) [0, 1, 2, 3, 4, 5] rfl (mw_less ⟨by omega, by omega⟩ (h g1 d2 hI2 hs2))
  · obtain ⟨hb1, hb2⟩ := hb0 c
    refine mw_aload_n (v := vR 74) (pc' := 1277) dL_law_1276 rfl rfl (by simp) rfl ?_
    refine mw_iconst (pc' := 1278) dL_law_1277 rfl ⟨by decide, by decide⟩ ?_
    refine mw_lald (pc' := 1279) dL_law_1278 rfl (by decide +kernel) ⟨by decide, by decide⟩ (by rw [show LN 74 = 1 by decide +kernel]; exact ⟨by decide, by decide⟩) ?_
    refine mw_iload (pc' := 1281) dL_law_1279 rfl rfl ?_
    rcases hb2 with hb2 | hb2
    · rw [← hb1, hb2]
      refine mw_if_eq (tgt := 1288) (pc' := 1284) dL_law_1281 rfl (by decide) (fun _ => ?_) (fun c2 => absurd rfl c2)
      refine mw_lconst0 (pc' := 1289) dL_law_1288 rfl ?_
      refine mw_lcmp (pc' := 1290) dL_law_1289 rfl ?_
      refine mw_if_eq (tgt := 1295) (pc' := 1293) dL_law_1290 rfl (by decide) (fun _ => ?_) (fun c3 => absurd lCmp_rf c3)
      refine mw_goto (pc' := 0) (tgt := 3808) dL_law_1295 (by decide) ?_
      exact mw_loc (pc' := 0) [0, 1, 2, 3, 4, 5] rfl (mw_less ⟨by omega, by omega⟩ (h g1 d2 hI2 hs2))
    · rw [← hb1, hb2]
      refine mw_if_eq (tgt := 1288) (pc' := 1284) dL_law_1281 rfl (by decide) (fun c2 => absurd c2 (by decide)) (fun _ => ?_)
      refine mw_lconst1 (pc' := 1285) dL_law_1284 rfl ?_
      refine mw_goto (pc' := 0) (tgt := 1289) dL_law_1285 (by decide) ?_
      refine mw_lcmp (pc' := 1290) dL_law_1289 rfl ?_
      refine mw_if_eq (tgt := 1295) (pc' := 1293) dL_law_1290 rfl (by decide) (fun _ => ?_) (fun c3 => absurd lCmp_rf c3)
      refine mw_goto (pc' := 0) (tgt := 3808) dL_law_1295 (by decide) ?_
      exact mw_loc (pc' := 0) [0, 1, 2, 3, 4, 5] rfl (mw_less ⟨by omega, by omega⟩ (h g1 d2 hI2 hs2))
theorem lc_18 {i : Int} {bc bs : Nat} {g : mG} {d : mD} {Q : mQ} (hI : INV g d) (hi : 0 ≤ i ∧ i + 3 < d SCR (-1)) (hN : d SCR (-1) ≤ 2048) (hb : 48 ≤ bc ∧ 8234 ≤ bs) (h : ∀ g' d', INV g' d' → d' SCR = d SCR → MW mL_law (bc - 48) (bs - 8234) 3808 [(0, (5, 0)), (1, vR 0), (2, vR 65), (3, vR 74), (4, vR 75), (5, vI i)] [] g' d' Q) : MW mL_law bc bs 1298 [(0, (5, 0)), (1, vR 0), (2, vR 65), (3, vR 74), (4, vR 75), (5, vI i)] [] g d Q := by
  refine mw_top (fun hT => ?_)
  have hG : 76 ≤ g.2.1 := hT.2
  refine mw_aload_n (v := vR 0) (pc' := 1299) dL_law_1298 rfl rfl (by simp) rfl ?_
  refine mw_aload_n (v := (5, 0)) (pc' := 1300) dL_law_1299 rfl rfl (by simp) rfl ?_
  refine mw_iload (pc' := 1302) dL_law_1300 rfl rfl ?_
  refine mw_iconst (pc' := 1303) dL_law_1302 rfl ⟨by decide, by decide⟩ ?_
  refine mw_iadd (pc' := 1304) dL_law_1303 rfl (ik (by omega)) ?_
  refine mw_xld (pc' := 1305) dL_law_1304 rfl ⟨by omega, by omega⟩ ?_
  refine mw_i2c (pc' := 1306) dL_law_1305 rfl ?_
  refine mw_aload_n (v := (5, 0)) (pc' := 1307) dL_law_1306 rfl rfl (by simp) rfl ?_
  refine mw_iload (pc' := 1309) dL_law_1307 rfl rfl ?_
  refine mw_iconst (pc' := 1310) dL_law_1309 rfl ⟨by decide, by decide⟩ ?_
  refine mw_iadd (pc' := 1311) dL_law_1310 rfl (ik (by omega)) ?_
  refine mw_xld (pc' := 1312) dL_law_1311 rfl ⟨by omega, by omega⟩ ?_
  refine mw_aload_n (v := vR 74) (pc' := 1313) dL_law_1312 rfl rfl (by simp) rfl ?_
  refine mw_callSX (M' := mL_setServiceDays) (A := [vR 0, vI ((d SCR (i + 1)) % 65536), vI (d SCR (i + 2)), vR 74]) (S := []) (pc' := 1316) dL_law_1313 rfl (goodW 1013 (by decide +kernel) rfl) kM_L_setServiceDays kS_L_setServiceDays ⟨by decide, by decide, Nat.le_trans (by decide) hb.1, Nat.le_trans (by decide) hb.2, by decide⟩ rfl rfl (Nat.le_of_ble_eq_true rfl) (MM.mono ?_ (MM.scr (o_setServiceDays g d hI)))
  intro o g1 d1 hh
  obtain ⟨⟨k, ho, h1⟩, hs1⟩ := hh
  subst ho
  show MW mL_law (bc - 47) (bs - 8228) 1316 [(0, (5, 0)), (1, vR 0), (2, vR 65), (3, vR 74), (4, vR 75), (5, vI i)] [vI k] g1 d1 Q
  refine mw_top (fun hT1 => ?_)
  have hG1 : 76 ≤ g1.2.1 := hT1.2
  refine mw_istore (pc' := 1318) (L' := [(0, (5, 0)), (1, vR 0), (2, vR 65), (3, vR 74), (4, vR 75), (5, vI i), (6, vI k)]) dL_law_1316 rfl (by decide) rfl ?_
  refine mw_aload_n (v := vR 65) (pc' := 1319) dL_law_1318 rfl rfl (by simp) rfl ?_
  refine mw_aload_n (v := (5, 0)) (pc' := 1320) dL_law_1319 rfl rfl (by simp) rfl ?_
  refine mw_iload (pc' := 1322) dL_law_1320 rfl rfl ?_
  refine mw_iconst (pc' := 1323) dL_law_1322 rfl ⟨by decide, by decide⟩ ?_
  refine mw_iadd (pc' := 1324) dL_law_1323 rfl (ik (by omega)) ?_
  refine mw_xld (pc' := 1325) dL_law_1324 rfl (by rw [hs1]; exact ⟨by omega, by omega⟩) ?_
  rw [hs1]
  refine mw_i2c (pc' := 1326) dL_law_1325 rfl ?_
  refine mw_aload_n (v := (5, 0)) (pc' := 1327) dL_law_1326 rfl rfl (by simp) rfl ?_
  refine mw_iload (pc' := 1329) dL_law_1327 rfl rfl ?_
  refine mw_iconst (pc' := 1330) dL_law_1329 rfl ⟨by decide, by decide⟩ ?_
  refine mw_iadd (pc' := 1331) dL_law_1330 rfl (ik (by omega)) ?_
  refine mw_xld (pc' := 1332) dL_law_1331 rfl (by rw [hs1]; exact ⟨by omega, by omega⟩) ?_
  rw [hs1]
  refine mw_callV (M' := mX12_setServiceDays) (A := [vI ((d SCR (i + 1)) % 65536), vI (d SCR (i + 2))]) (A' := [vR 65, vI ((d SCR (i + 1)) % 65536), vI (d SCR (i + 2))]) (S := []) (a := 65) (pc' := 1335) dL_law_1332 rfl (Or.inl (goodW 1819 (by decide +kernel) rfl)) kM_X12_setServiceDays kV_X12_setServiceDays ⟨by decide, by decide, Nat.zero_le _, Nat.zero_le _, by decide⟩ rfl rfl rfl ⟨by decide, by omega⟩ (by decide +kernel) (by decide +kernel) (Nat.le_of_ble_eq_true rfl) (h1 _ (fun b d2 hI2 hs2 h5 hb0 => ?_))
  show MW mL_law (bc - 47 - 0) (bs - 8228 - 0) 1335 [(0, (5, 0)), (1, vR 0), (2, vR 65), (3, vR 74), (4, vR 75), (5, vI i), (6, vI k)] [vI b] g1 d2 Q
  rw [Nat.sub_zero (bc - 47), Nat.sub_zero (bs - 8228)]
  refine mw_istore (pc' := 1337) (L' := [(0, (5, 0)), (1, vR 0), (2, vR 65), (3, vR 74), (4, vR 75), (5, vI i), (6, vI k), (7, vI b)]) dL_law_1335 rfl (by decide) rfl ?_
  refine mw_aload_n (v := vR 65) (pc' := 1338) dL_law_1337 rfl rfl (by simp) rfl ?_
  refine mw_callV (M' := mX12_thrown) (A := []) (A' := [vR 65]) (S := []) (a := 65) (pc' := 1341) dL_law_1338 rfl (Or.inl (goodW 1679 (by decide +kernel) rfl)) kM_X12_thrown kV_X12_thrown ⟨by decide, by decide, Nat.zero_le _, Nat.zero_le _, by decide⟩ rfl rfl rfl ⟨by decide, by omega⟩ (by decide +kernel) (by decide +kernel) (Nat.le_of_ble_eq_true rfl) (eX12_thrown ?_)
  show MW mL_law (bc - 47 - 0) (bs - 8228 - 0) 1341 [(0, (5, 0)), (1, vR 0), (2, vR 65), (3, vR 74), (4, vR 75), (5, vI i), (6, vI k), (7, vI b)] [vI (d2 65 5)] g1 d2 Q
  rw [Nat.sub_zero (bc - 47), Nat.sub_zero (bs - 8228)]
  rw [h5]
  refine mw_iload (pc' := 1343) dL_law_1341 rfl rfl ?_
  refine mw_icmp_eq (tgt := 1348) (pc' := 1346) dL_law_1343 rfl (by decide) (fun _ => ?_) (fun c => absurd rfl c)
  refine mw_iload (pc' := 1350) dL_law_1348 rfl rfl ?_
  refine mw_if_ne (tgt := 1365) (pc' := 1353) dL_law_1350 rfl (by decide) (fun c => ?_) (fun c => ?_)
  · refine mw_goto (pc' := 0) (tgt := 3808) dL_law_1365 (by decide) ?_
    exact mw_loc (pc' := 0) [0, 1, 2, 3, 4, 5] rfl (mw_less ⟨by omega, by omega⟩ (h g1 d2 hI2 hs2))
  · have hb1 := hb0 c
    refine mw_aload_n (v := vR 74) (pc' := 1354) dL_law_1353 rfl rfl (by simp) rfl ?_
    refine mw_iconst (pc' := 1355) dL_law_1354 rfl ⟨by decide, by decide⟩ ?_
    refine mw_lald (pc' := 1356) dL_law_1355 rfl (by decide +kernel) ⟨by decide, by decide⟩ (by rw [show LN 74 = 1 by decide +kernel]; exact ⟨by decide, by decide⟩) ?_
    refine mw_iload (pc' := 1358) dL_law_1356 rfl rfl ?_
    refine mw_i2l (pc' := 1359) dL_law_1358 rfl ?_
    refine mw_lcmp (pc' := 1360) dL_law_1359 rfl ?_
    refine mw_if_eq (tgt := 1365) (pc' := 1363) dL_law_1360 rfl (by decide) (fun _ => ?_) (fun c3 => absurd (by rw [hb1]; exact lCmp_rf) c3)
    refine mw_goto (pc' := 0) (tgt := 3808) dL_law_1365 (by decide) ?_
    exact mw_loc (pc' := 0) [0, 1, 2, 3, 4, 5] rfl (mw_less ⟨by omega, by omega⟩ (h g1 d2 hI2 hs2))
theorem lc_19 {i : Int} {bc bs : Nat} {g : mG} {d : mD} {Q : mQ} (hI : INV g d) (hi : 0 ≤ i ∧ i + 3 < d SCR (-1)) (hN : d SCR (-1) ≤ 2048) (hb : 48 ≤ bc ∧ 8234 ≤ bs) (h : ∀ g' d', INV g' d' → d' SCR = d SCR → MW mL_law (bc - 48) (bs - 8234) 3808 [(0, (5, 0)), (1, vR 0), (2, vR 65), (3, vR 74), (4, vR 75), (5, vI i)] [] g' d' Q) : MW mL_law bc bs 1368 [(0, (5, 0)), (1, vR 0), (2, vR 65), (3, vR 74), (4, vR 75), (5, vI i)] [] g d Q := by
  refine mw_top (fun hT => ?_)
  have hG : 76 ≤ g.2.1 := hT.2
  refine mw_aload_n (v := vR 0) (pc' := 1369) dL_law_1368 rfl rfl (by simp) rfl ?_
  refine mw_aload_n (v := (5, 0)) (pc' := 1370) dL_law_1369 rfl rfl (by simp) rfl ?_
  refine mw_iload (pc' := 1372) dL_law_1370 rfl rfl ?_
  refine mw_iconst (pc' := 1373) dL_law_1372 rfl ⟨by decide, by decide⟩ ?_
  refine mw_iadd (pc' := 1374) dL_law_1373 rfl (ik (by omega)) ?_
  refine mw_xld (pc' := 1375) dL_law_1374 rfl ⟨by omega, by omega⟩ ?_
  refine mw_i2c (pc' := 1376) dL_law_1375 rfl ?_
  refine mw_aload_n (v := vR 74) (pc' := 1377) dL_law_1376 rfl rfl (by simp) rfl ?_
  refine mw_callSX (M' := mL_serviceDays) (A := [vR 0, vI ((d SCR (i + 1)) % 65536), vR 74]) (S := []) (pc' := 1380) dL_law_1377 rfl (goodW 1027 (by decide +kernel) rfl) kM_L_serviceDays kS_L_serviceDays ⟨by decide, by decide, Nat.le_trans (by decide) hb.1, Nat.le_trans (by decide) hb.2, by decide⟩ rfl rfl (Nat.le_of_ble_eq_true rfl) (MM.mono ?_ (MM.scr (o_serviceDays g d hI)))
  intro o g1 d1 hh
  obtain ⟨⟨k, ho, h1⟩, hs1⟩ := hh
  subst ho
  show MW mL_law (bc - 1) (bs - 6) 1380 [(0, (5, 0)), (1, vR 0), (2, vR 65), (3, vR 74), (4, vR 75), (5, vI i)] [vI k] g1 d1 Q
  refine mw_top (fun hT1 => ?_)
  have hG1 : 76 ≤ g1.2.1 := hT1.2
  refine mw_istore (pc' := 1382) (L' := [(0, (5, 0)), (1, vR 0), (2, vR 65), (3, vR 74), (4, vR 75), (5, vI i), (6, vI k)]) dL_law_1380 rfl (by decide) rfl ?_
  refine mw_aload_n (v := vR 65) (pc' := 1383) dL_law_1382 rfl rfl (by simp) rfl ?_
  refine mw_aload_n (v := (5, 0)) (pc' := 1384) dL_law_1383 rfl rfl (by simp) rfl ?_
  refine mw_iload (pc' := 1386) dL_law_1384 rfl rfl ?_
  refine mw_iconst (pc' := 1387) dL_law_1386 rfl ⟨by decide, by decide⟩ ?_
  refine mw_iadd (pc' := 1388) dL_law_1387 rfl (ik (by omega)) ?_
  refine mw_xld (pc' := 1389) dL_law_1388 rfl (by rw [hs1]; exact ⟨by omega, by omega⟩) ?_
  rw [hs1]
  refine mw_i2c (pc' := 1390) dL_law_1389 rfl ?_
  refine mw_callV (M' := mX12_serviceDays) (A := [vI ((d SCR (i + 1)) % 65536)]) (A' := [vR 65, vI ((d SCR (i + 1)) % 65536)]) (S := []) (a := 65) (pc' := 1393) dL_law_1390 rfl (Or.inl (goodW 1826 (by decide +kernel) rfl)) kM_X12_serviceDays kV_X12_serviceDays ⟨by decide, by decide, Nat.zero_le _, Nat.zero_le _, by decide⟩ rfl rfl rfl ⟨by decide, by omega⟩ (by decide +kernel) (by decide +kernel) (Nat.le_of_ble_eq_true rfl) (h1 _ (fun b d2 hI2 hs2 h5 hb0 => ?_))
  show MW mL_law (bc - 1) (bs - 6) 1393 [(0, (5, 0)), (1, vR 0), (2, vR 65), (3, vR 74), (4, vR 75), (5, vI i), (6, vI k)] [vI b] g1 d2 Q
  refine mw_istore (pc' := 1395) (L' := [(0, (5, 0)), (1, vR 0), (2, vR 65), (3, vR 74), (4, vR 75), (5, vI i), (6, vI k), (7, vI b)]) dL_law_1393 rfl (by decide) rfl ?_
  refine mw_aload_n (v := vR 65) (pc' := 1396) dL_law_1395 rfl rfl (by simp) rfl ?_
  refine mw_callV (M' := mX12_thrown) (A := []) (A' := [vR 65]) (S := []) (a := 65) (pc' := 1399) dL_law_1396 rfl (Or.inl (goodW 1679 (by decide +kernel) rfl)) kM_X12_thrown kV_X12_thrown ⟨by decide, by decide, Nat.zero_le _, Nat.zero_le _, by decide⟩ rfl rfl rfl ⟨by decide, by omega⟩ (by decide +kernel) (by decide +kernel) (Nat.le_of_ble_eq_true rfl) (eX12_thrown ?_)
  show MW mL_law (bc - 1) (bs - 6) 1399 [(0, (5, 0)), (1, vR 0), (2, vR 65), (3, vR 74), (4, vR 75), (5, vI i), (6, vI k), (7, vI b)] [vI (d2 65 5)] g1 d2 Q
  rw [h5]
  refine mw_iload (pc' := 1401) dL_law_1399 rfl rfl ?_
  refine mw_icmp_eq (tgt := 1406) (pc' := 1404) dL_law_1401 rfl (by decide) (fun _ => ?_) (fun c => absurd rfl c)
  refine mw_iload (pc' := 1408) dL_law_1406 rfl rfl ?_
  refine mw_if_ne (tgt := 1423) (pc' := 1411) dL_law_1408 rfl (by decide) (fun c => ?_) (fun c => ?_)
  · refine mw_goto (pc' := 0) (tgt := 3808) dL_law_1423 (by decide) ?_
    exact mw_loc (pc' := 0) [0, 1, 2, 3, 4, 5] rfl (mw_less ⟨by omega, by omega⟩ (h g1 d2 hI2 hs2))
  · have hb1 := hb0 c
    refine mw_aload_n (v := vR 74) (pc' := 1412) dL_law_1411 rfl rfl (by simp) rfl ?_
    refine mw_iconst (pc' := 1413) dL_law_1412 rfl ⟨by decide, by decide⟩ ?_
    refine mw_lald (pc' := 1414) dL_law_1413 rfl (by decide +kernel) ⟨by decide, by decide⟩ (by rw [show LN 74 = 1 by decide +kernel]; exact ⟨by decide, by decide⟩) ?_
    refine mw_iload (pc' := 1416) dL_law_1414 rfl rfl ?_
    refine mw_i2l (pc' := 1417) dL_law_1416 rfl ?_
    refine mw_lcmp (pc' := 1418) dL_law_1417 rfl ?_
    refine mw_if_eq (tgt := 1423) (pc' := 1421) dL_law_1418 rfl (by decide) (fun _ => ?_) (fun c3 => absurd (by rw [hb1]; exact lCmp_rf) c3)
    refine mw_goto (pc' := 0) (tgt := 3808) dL_law_1423 (by decide) ?_
    exact mw_loc (pc' := 0) [0, 1, 2, 3, 4, 5] rfl (mw_less ⟨by omega, by omega⟩ (h g1 d2 hI2 hs2))
theorem lc_20 {i : Int} {bc bs : Nat} {g : mG} {d : mD} {Q : mQ} (hI : INV g d) (hi : 0 ≤ i ∧ i + 3 < d SCR (-1)) (hN : d SCR (-1) ≤ 2048) (hb : 48 ≤ bc ∧ 8234 ≤ bs) (h : ∀ g' d', INV g' d' → d' SCR = d SCR → MW mL_law (bc - 48) (bs - 8234) 3808 [(0, (5, 0)), (1, vR 0), (2, vR 65), (3, vR 74), (4, vR 75), (5, vI i)] [] g' d' Q) : MW mL_law bc bs 1426 [(0, (5, 0)), (1, vR 0), (2, vR 65), (3, vR 74), (4, vR 75), (5, vI i)] [] g d Q := by
  refine mw_top (fun hT => ?_)
  have hG : 76 ≤ g.2.1 := hT.2
  refine mw_aload_n (v := vR 0) (pc' := 1427) dL_law_1426 rfl rfl (by simp) rfl ?_
  refine mw_aload_n (v := (5, 0)) (pc' := 1428) dL_law_1427 rfl rfl (by simp) rfl ?_
  refine mw_iload (pc' := 1430) dL_law_1428 rfl rfl ?_
  refine mw_iconst (pc' := 1431) dL_law_1430 rfl ⟨by decide, by decide⟩ ?_
  refine mw_iadd (pc' := 1432) dL_law_1431 rfl (ik (by omega)) ?_
  refine mw_xld (pc' := 1433) dL_law_1432 rfl ⟨by omega, by omega⟩ ?_
  refine mw_aload_n (v := (5, 0)) (pc' := 1434) dL_law_1433 rfl rfl (by simp) rfl ?_
  refine mw_iload (pc' := 1436) dL_law_1434 rfl rfl ?_
  refine mw_iconst (pc' := 1437) dL_law_1436 rfl ⟨by decide, by decide⟩ ?_
  refine mw_iadd (pc' := 1438) dL_law_1437 rfl (ik (by omega)) ?_
  refine mw_xld (pc' := 1439) dL_law_1438 rfl ⟨by omega, by omega⟩ ?_
  refine mw_aload_n (v := vR 74) (pc' := 1440) dL_law_1439 rfl rfl (by simp) rfl ?_
  refine mw_callSX (M' := mL_lastDayBefore) (A := [vR 0, vI (d SCR (i + 1)), vI (d SCR (i + 2)), vR 74]) (S := []) (pc' := 1443) dL_law_1440 rfl (goodW 1035 (by decide +kernel) rfl) kM_L_lastDayBefore kS_L_lastDayBefore ⟨by decide, by decide, Nat.le_trans (by decide) hb.1, Nat.le_trans (by decide) hb.2, by decide⟩ rfl rfl (Nat.le_of_ble_eq_true rfl) (MM.mono ?_ (MM.scr (o_lastDayBefore g d hI)))
  intro o g1 d1 hh
  obtain ⟨⟨k, ho, h1⟩, hs1⟩ := hh
  subst ho
  show MW mL_law (bc - 3) (bs - 18) 1443 [(0, (5, 0)), (1, vR 0), (2, vR 65), (3, vR 74), (4, vR 75), (5, vI i)] [vI k] g1 d1 Q
  refine mw_top (fun hT1 => ?_)
  have hG1 : 76 ≤ g1.2.1 := hT1.2
  refine mw_istore (pc' := 1445) (L' := [(0, (5, 0)), (1, vR 0), (2, vR 65), (3, vR 74), (4, vR 75), (5, vI i), (6, vI k)]) dL_law_1443 rfl (by decide) rfl ?_
  refine mw_aload_n (v := vR 65) (pc' := 1446) dL_law_1445 rfl rfl (by simp) rfl ?_
  refine mw_aload_n (v := (5, 0)) (pc' := 1447) dL_law_1446 rfl rfl (by simp) rfl ?_
  refine mw_iload (pc' := 1449) dL_law_1447 rfl rfl ?_
  refine mw_iconst (pc' := 1450) dL_law_1449 rfl ⟨by decide, by decide⟩ ?_
  refine mw_iadd (pc' := 1451) dL_law_1450 rfl (ik (by omega)) ?_
  refine mw_xld (pc' := 1452) dL_law_1451 rfl (by rw [hs1]; exact ⟨by omega, by omega⟩) ?_
  rw [hs1]
  refine mw_aload_n (v := (5, 0)) (pc' := 1453) dL_law_1452 rfl rfl (by simp) rfl ?_
  refine mw_iload (pc' := 1455) dL_law_1453 rfl rfl ?_
  refine mw_iconst (pc' := 1456) dL_law_1455 rfl ⟨by decide, by decide⟩ ?_
  refine mw_iadd (pc' := 1457) dL_law_1456 rfl (ik (by omega)) ?_
  refine mw_xld (pc' := 1458) dL_law_1457 rfl (by rw [hs1]; exact ⟨by omega, by omega⟩) ?_
  rw [hs1]
  refine mw_callV (M' := mX12_lastDayBefore) (A := [vI (d SCR (i + 1)), vI (d SCR (i + 2))]) (A' := [vR 65, vI (d SCR (i + 1)), vI (d SCR (i + 2))]) (S := []) (a := 65) (pc' := 1461) dL_law_1458 rfl (Or.inl (goodW 1830 (by decide +kernel) rfl)) kM_X12_lastDayBefore kV_X12_lastDayBefore ⟨by decide, by decide, Nat.zero_le _, Nat.zero_le _, by decide⟩ rfl rfl rfl ⟨by decide, by omega⟩ (by decide +kernel) (by decide +kernel) (Nat.le_of_ble_eq_true rfl) (h1 _ (fun b d2 hI2 hs2 h5 hb0 => ?_))
  show MW mL_law (bc - 3) (bs - 18) 1461 [(0, (5, 0)), (1, vR 0), (2, vR 65), (3, vR 74), (4, vR 75), (5, vI i), (6, vI k)] [vI b] g1 d2 Q
  refine mw_istore (pc' := 1463) (L' := [(0, (5, 0)), (1, vR 0), (2, vR 65), (3, vR 74), (4, vR 75), (5, vI i), (6, vI k), (7, vI b)]) dL_law_1461 rfl (by decide) rfl ?_
  refine mw_aload_n (v := vR 65) (pc' := 1464) dL_law_1463 rfl rfl (by simp) rfl ?_
  refine mw_callV (M' := mX12_thrown) (A := []) (A' := [vR 65]) (S := []) (a := 65) (pc' := 1467) dL_law_1464 rfl (Or.inl (goodW 1679 (by decide +kernel) rfl)) kM_X12_thrown kV_X12_thrown ⟨by decide, by decide, Nat.zero_le _, Nat.zero_le _, by decide⟩ rfl rfl rfl ⟨by decide, by omega⟩ (by decide +kernel) (by decide +kernel) (Nat.le_of_ble_eq_true rfl) (eX12_thrown ?_)
  show MW mL_law (bc - 3) (bs - 18) 1467 [(0, (5, 0)), (1, vR 0), (2, vR 65), (3, vR 74), (4, vR 75), (5, vI i), (6, vI k), (7, vI b)] [vI (d2 65 5)] g1 d2 Q
  rw [h5]
  refine mw_iload (pc' := 1469) dL_law_1467 rfl rfl ?_
  refine mw_icmp_eq (tgt := 1474) (pc' := 1472) dL_law_1469 rfl (by decide) (fun _ => ?_) (fun c => absurd rfl c)
  refine mw_iload (pc' := 1476) dL_law_1474 rfl rfl ?_
  refine mw_if_ne (tgt := 1491) (pc' := 1479) dL_law_1476 rfl (by decide) (fun c => ?_) (fun c => ?_)
  · refine mw_goto (pc' := 0) (tgt := 3808) dL_law_1491 (by decide) ?_
    exact mw_loc (pc' := 0) [0, 1, 2, 3, 4, 5] rfl (mw_less ⟨by omega, by omega⟩ (h g1 d2 hI2 hs2))
  · have hb1 := hb0 c
    refine mw_aload_n (v := vR 74) (pc' := 1480) dL_law_1479 rfl rfl (by simp) rfl ?_
    refine mw_iconst (pc' := 1481) dL_law_1480 rfl ⟨by decide, by decide⟩ ?_
    refine mw_lald (pc' := 1482) dL_law_1481 rfl (by decide +kernel) ⟨by decide, by decide⟩ (by rw [show LN 74 = 1 by decide +kernel]; exact ⟨by decide, by decide⟩) ?_
    refine mw_iload (pc' := 1484) dL_law_1482 rfl rfl ?_
    refine mw_i2l (pc' := 1485) dL_law_1484 rfl ?_
    refine mw_lcmp (pc' := 1486) dL_law_1485 rfl ?_
    refine mw_if_eq (tgt := 1491) (pc' := 1489) dL_law_1486 rfl (by decide) (fun _ => ?_) (fun c3 => absurd (by rw [hb1]; exact lCmp_rf) c3)
    refine mw_goto (pc' := 0) (tgt := 3808) dL_law_1491 (by decide) ?_
    exact mw_loc (pc' := 0) [0, 1, 2, 3, 4, 5] rfl (mw_less ⟨by omega, by omega⟩ (h g1 d2 hI2 hs2))
theorem lc_21 {i : Int} {bc bs : Nat} {g : mG} {d : mD} {Q : mQ} (hI : INV g d) (hi : 0 ≤ i ∧ i + 3 < d SCR (-1)) (hN : d SCR (-1) ≤ 2048) (hb : 48 ≤ bc ∧ 8234 ≤ bs) (h : ∀ g' d', INV g' d' → d' SCR = d SCR → MW mL_law (bc - 48) (bs - 8234) 3808 [(0, (5, 0)), (1, vR 0), (2, vR 65), (3, vR 74), (4, vR 75), (5, vI i)] [] g' d' Q) : MW mL_law bc bs 1494 [(0, (5, 0)), (1, vR 0), (2, vR 65), (3, vR 74), (4, vR 75), (5, vI i)] [] g d Q := by
  refine mw_top (fun hT => ?_)
  have hG : 76 ≤ g.2.1 := hT.2
  refine mw_aload_n (v := vR 0) (pc' := 1495) dL_law_1494 rfl rfl (by simp) rfl ?_
  refine mw_aload_n (v := (5, 0)) (pc' := 1496) dL_law_1495 rfl rfl (by simp) rfl ?_
  refine mw_iload (pc' := 1498) dL_law_1496 rfl rfl ?_
  refine mw_iconst (pc' := 1499) dL_law_1498 rfl ⟨by decide, by decide⟩ ?_
  refine mw_iadd (pc' := 1500) dL_law_1499 rfl (ik (by omega)) ?_
  refine mw_xld (pc' := 1501) dL_law_1500 rfl ⟨by omega, by omega⟩ ?_
  refine mw_aload_n (v := (5, 0)) (pc' := 1502) dL_law_1501 rfl rfl (by simp) rfl ?_
  refine mw_iload (pc' := 1504) dL_law_1502 rfl rfl ?_
  refine mw_iconst (pc' := 1505) dL_law_1504 rfl ⟨by decide, by decide⟩ ?_
  refine mw_iadd (pc' := 1506) dL_law_1505 rfl (ik (by omega)) ?_
  refine mw_xld (pc' := 1507) dL_law_1506 rfl ⟨by omega, by omega⟩ ?_
  refine mw_aload_n (v := vR 74) (pc' := 1508) dL_law_1507 rfl rfl (by simp) rfl ?_
  refine mw_callSX (M' := mL_lastDayBeforeByMarking) (A := [vR 0, vI (d SCR (i + 1)), vI (d SCR (i + 2)), vR 74]) (S := []) (pc' := 1511) dL_law_1508 rfl (goodW 1054 (by decide +kernel) rfl) kM_L_lastDayBeforeByMarking kS_L_lastDayBeforeByMarking ⟨by decide, by decide, Nat.le_trans (by decide) hb.1, Nat.le_trans (by decide) hb.2, by decide⟩ rfl rfl (Nat.le_of_ble_eq_true rfl) (MM.mono ?_ (MM.scr (o_lastDayBeforeByMarking g d hI)))
  intro o g1 d1 hh
  obtain ⟨⟨k, ho, h1⟩, hs1⟩ := hh
  subst ho
  show MW mL_law (bc - 3) (bs - 18) 1511 [(0, (5, 0)), (1, vR 0), (2, vR 65), (3, vR 74), (4, vR 75), (5, vI i)] [vI k] g1 d1 Q
  refine mw_top (fun hT1 => ?_)
  have hG1 : 76 ≤ g1.2.1 := hT1.2
  refine mw_istore (pc' := 1513) (L' := [(0, (5, 0)), (1, vR 0), (2, vR 65), (3, vR 74), (4, vR 75), (5, vI i), (6, vI k)]) dL_law_1511 rfl (by decide) rfl ?_
  refine mw_aload_n (v := vR 65) (pc' := 1514) dL_law_1513 rfl rfl (by simp) rfl ?_
  refine mw_aload_n (v := (5, 0)) (pc' := 1515) dL_law_1514 rfl rfl (by simp) rfl ?_
  refine mw_iload (pc' := 1517) dL_law_1515 rfl rfl ?_
  refine mw_iconst (pc' := 1518) dL_law_1517 rfl ⟨by decide, by decide⟩ ?_
  refine mw_iadd (pc' := 1519) dL_law_1518 rfl (ik (by omega)) ?_
  refine mw_xld (pc' := 1520) dL_law_1519 rfl (by rw [hs1]; exact ⟨by omega, by omega⟩) ?_
  rw [hs1]
  refine mw_aload_n (v := (5, 0)) (pc' := 1521) dL_law_1520 rfl rfl (by simp) rfl ?_
  refine mw_iload (pc' := 1523) dL_law_1521 rfl rfl ?_
  refine mw_iconst (pc' := 1524) dL_law_1523 rfl ⟨by decide, by decide⟩ ?_
  refine mw_iadd (pc' := 1525) dL_law_1524 rfl (ik (by omega)) ?_
  refine mw_xld (pc' := 1526) dL_law_1525 rfl (by rw [hs1]; exact ⟨by omega, by omega⟩) ?_
  rw [hs1]
  refine mw_callV (M' := mX12_lastDayBeforeByMarking) (A := [vI (d SCR (i + 1)), vI (d SCR (i + 2))]) (A' := [vR 65, vI (d SCR (i + 1)), vI (d SCR (i + 2))]) (S := []) (a := 65) (pc' := 1529) dL_law_1526 rfl (Or.inl (goodW 1834 (by decide +kernel) rfl)) kM_X12_lastDayBeforeByMarking kV_X12_lastDayBeforeByMarking ⟨by decide, by decide, Nat.zero_le _, Nat.zero_le _, by decide⟩ rfl rfl rfl ⟨by decide, by omega⟩ (by decide +kernel) (by decide +kernel) (Nat.le_of_ble_eq_true rfl) (h1 _ (fun b d2 hI2 hs2 h5 hb0 => ?_))
  show MW mL_law (bc - 3) (bs - 18) 1529 [(0, (5, 0)), (1, vR 0), (2, vR 65), (3, vR 74), (4, vR 75), (5, vI i), (6, vI k)] [vI b] g1 d2 Q
  refine mw_istore (pc' := 1531) (L' := [(0, (5, 0)), (1, vR 0), (2, vR 65), (3, vR 74), (4, vR 75), (5, vI i), (6, vI k), (7, vI b)]) dL_law_1529 rfl (by decide) rfl ?_
  refine mw_aload_n (v := vR 65) (pc' := 1532) dL_law_1531 rfl rfl (by simp) rfl ?_
  refine mw_callV (M' := mX12_thrown) (A := []) (A' := [vR 65]) (S := []) (a := 65) (pc' := 1535) dL_law_1532 rfl (Or.inl (goodW 1679 (by decide +kernel) rfl)) kM_X12_thrown kV_X12_thrown ⟨by decide, by decide, Nat.zero_le _, Nat.zero_le _, by decide⟩ rfl rfl rfl ⟨by decide, by omega⟩ (by decide +kernel) (by decide +kernel) (Nat.le_of_ble_eq_true rfl) (eX12_thrown ?_)
  show MW mL_law (bc - 3) (bs - 18) 1535 [(0, (5, 0)), (1, vR 0), (2, vR 65), (3, vR 74), (4, vR 75), (5, vI i), (6, vI k), (7, vI b)] [vI (d2 65 5)] g1 d2 Q
  rw [h5]
  refine mw_iload (pc' := 1537) dL_law_1535 rfl rfl ?_
  refine mw_icmp_eq (tgt := 1542) (pc' := 1540) dL_law_1537 rfl (by decide) (fun _ => ?_) (fun c => absurd rfl c)
  refine mw_iload (pc' := 1544) dL_law_1542 rfl rfl ?_
  refine mw_if_ne (tgt := 1559) (pc' := 1547) dL_law_1544 rfl (by decide) (fun c => ?_) (fun c => ?_)
  · refine mw_goto (pc' := 0) (tgt := 3808) dL_law_1559 (by decide) ?_
    exact mw_loc (pc' := 0) [0, 1, 2, 3, 4, 5] rfl (mw_less ⟨by omega, by omega⟩ (h g1 d2 hI2 hs2))
  · have hb1 := hb0 c
    refine mw_aload_n (v := vR 74) (pc' := 1548) dL_law_1547 rfl rfl (by simp) rfl ?_
    refine mw_iconst (pc' := 1549) dL_law_1548 rfl ⟨by decide, by decide⟩ ?_
    refine mw_lald (pc' := 1550) dL_law_1549 rfl (by decide +kernel) ⟨by decide, by decide⟩ (by rw [show LN 74 = 1 by decide +kernel]; exact ⟨by decide, by decide⟩) ?_
    refine mw_iload (pc' := 1552) dL_law_1550 rfl rfl ?_
    refine mw_i2l (pc' := 1553) dL_law_1552 rfl ?_
    refine mw_lcmp (pc' := 1554) dL_law_1553 rfl ?_
    refine mw_if_eq (tgt := 1559) (pc' := 1557) dL_law_1554 rfl (by decide) (fun _ => ?_) (fun c3 => absurd (by rw [hb1]; exact lCmp_rf) c3)
    refine mw_goto (pc' := 0) (tgt := 3808) dL_law_1559 (by decide) ?_
    exact mw_loc (pc' := 0) [0, 1, 2, 3, 4, 5] rfl (mw_less ⟨by omega, by omega⟩ (h g1 d2 hI2 hs2))
theorem lc_22 {i : Int} {bc bs : Nat} {g : mG} {d : mD} {Q : mQ} (hI : INV g d) (hi : 0 ≤ i ∧ i + 3 < d SCR (-1)) (hN : d SCR (-1) ≤ 2048) (hb : 48 ≤ bc ∧ 8234 ≤ bs) (h : ∀ g' d', INV g' d' → d' SCR = d SCR → MW mL_law (bc - 48) (bs - 8234) 3808 [(0, (5, 0)), (1, vR 0), (2, vR 65), (3, vR 74), (4, vR 75), (5, vI i)] [] g' d' Q) : MW mL_law bc bs 1562 [(0, (5, 0)), (1, vR 0), (2, vR 65), (3, vR 74), (4, vR 75), (5, vI i)] [] g d Q := by
  refine mw_top (fun hT => ?_)
  have hG : 76 ≤ g.2.1 := hT.2
  refine mw_aload_n (v := vR 0) (pc' := 1563) dL_law_1562 rfl rfl (by simp) rfl ?_
  refine mw_aload_n (v := (5, 0)) (pc' := 1564) dL_law_1563 rfl rfl (by simp) rfl ?_
  refine mw_iload (pc' := 1566) dL_law_1564 rfl rfl ?_
  refine mw_iconst (pc' := 1567) dL_law_1566 rfl ⟨by decide, by decide⟩ ?_
  refine mw_iadd (pc' := 1568) dL_law_1567 rfl (ik (by omega)) ?_
  refine mw_xld (pc' := 1569) dL_law_1568 rfl ⟨by omega, by omega⟩ ?_
  refine mw_aload_n (v := (5, 0)) (pc' := 1570) dL_law_1569 rfl rfl (by simp) rfl ?_
  refine mw_iload (pc' := 1572) dL_law_1570 rfl rfl ?_
  refine mw_iconst (pc' := 1573) dL_law_1572 rfl ⟨by decide, by decide⟩ ?_
  refine mw_iadd (pc' := 1574) dL_law_1573 rfl (ik (by omega)) ?_
  refine mw_xld (pc' := 1575) dL_law_1574 rfl ⟨by omega, by omega⟩ ?_
  refine mw_aload_n (v := (5, 0)) (pc' := 1576) dL_law_1575 rfl rfl (by simp) rfl ?_
  refine mw_iload (pc' := 1578) dL_law_1576 rfl rfl ?_
  refine mw_iconst (pc' := 1579) dL_law_1578 rfl ⟨by decide, by decide⟩ ?_
  refine mw_iadd (pc' := 1580) dL_law_1579 rfl (ik (by omega)) ?_
  refine mw_xld (pc' := 1581) dL_law_1580 rfl ⟨by omega, by omega⟩ ?_
  refine mw_i2c (pc' := 1582) dL_law_1581 rfl ?_
  refine mw_aload_n (v := vR 74) (pc' := 1583) dL_law_1582 rfl rfl (by simp) rfl ?_
  refine mw_callSX (M' := mL_serve) (A := [vR 0, vI (d SCR (i + 1)), vI (d SCR (i + 2)), vI ((d SCR (i + 3)) % 65536), vR 74]) (S := []) (pc' := 1586) dL_law_1583 rfl (goodW 1065 (by decide +kernel) rfl) kM_L_serve kS_L_serve ⟨by decide, by decide, Nat.le_trans (by decide) hb.1, Nat.le_trans (by decide) hb.2, by decide⟩ rfl rfl (Nat.le_of_ble_eq_true rfl) (MM.mono ?_ (MM.scr (o_serve g d hI)))
  intro o g1 d1 hh
  obtain ⟨⟨k, ho, h1⟩, hs1⟩ := hh
  subst ho
  show MW mL_law (bc - 47) (bs - 8228) 1586 [(0, (5, 0)), (1, vR 0), (2, vR 65), (3, vR 74), (4, vR 75), (5, vI i)] [vI k] g1 d1 Q
  refine mw_top (fun hT1 => ?_)
  have hG1 : 76 ≤ g1.2.1 := hT1.2
  refine mw_istore (pc' := 1588) (L' := [(0, (5, 0)), (1, vR 0), (2, vR 65), (3, vR 74), (4, vR 75), (5, vI i), (6, vI k)]) dL_law_1586 rfl (by decide) rfl ?_
  refine mw_aload_n (v := vR 65) (pc' := 1589) dL_law_1588 rfl rfl (by simp) rfl ?_
  refine mw_aload_n (v := (5, 0)) (pc' := 1590) dL_law_1589 rfl rfl (by simp) rfl ?_
  refine mw_iload (pc' := 1592) dL_law_1590 rfl rfl ?_
  refine mw_iconst (pc' := 1593) dL_law_1592 rfl ⟨by decide, by decide⟩ ?_
  refine mw_iadd (pc' := 1594) dL_law_1593 rfl (ik (by omega)) ?_
  refine mw_xld (pc' := 1595) dL_law_1594 rfl (by rw [hs1]; exact ⟨by omega, by omega⟩) ?_
  rw [hs1]
  refine mw_aload_n (v := (5, 0)) (pc' := 1596) dL_law_1595 rfl rfl (by simp) rfl ?_
  refine mw_iload (pc' := 1598) dL_law_1596 rfl rfl ?_
  refine mw_iconst (pc' := 1599) dL_law_1598 rfl ⟨by decide, by decide⟩ ?_
  refine mw_iadd (pc' := 1600) dL_law_1599 rfl (ik (by omega)) ?_
  refine mw_xld (pc' := 1601) dL_law_1600 rfl (by rw [hs1]; exact ⟨by omega, by omega⟩) ?_
  rw [hs1]
  refine mw_aload_n (v := (5, 0)) (pc' := 1602) dL_law_1601 rfl rfl (by simp) rfl ?_
  refine mw_iload (pc' := 1604) dL_law_1602 rfl rfl ?_
  refine mw_iconst (pc' := 1605) dL_law_1604 rfl ⟨by decide, by decide⟩ ?_
  refine mw_iadd (pc' := 1606) dL_law_1605 rfl (ik (by omega)) ?_
  refine mw_xld (pc' := 1607) dL_law_1606 rfl (by rw [hs1]; exact ⟨by omega, by omega⟩) ?_
  rw [hs1]
  refine mw_i2c (pc' := 1608) dL_law_1607 rfl ?_
  refine mw_callV (M' := mX12_serve) (A := [vI (d SCR (i + 1)), vI (d SCR (i + 2)), vI ((d SCR (i + 3)) % 65536)]) (A' := [vR 65, vI (d SCR (i + 1)), vI (d SCR (i + 2)), vI ((d SCR (i + 3)) % 65536)]) (S := []) (a := 65) (pc' := 1611) dL_law_1608 rfl (Or.inl (goodW 1839 (by decide +kernel) rfl)) kM_X12_serve kV_X12_serve ⟨by decide, by decide, Nat.zero_le _, Nat.zero_le _, by decide⟩ rfl rfl rfl ⟨by decide, by omega⟩ (by decide +kernel) (by decide +kernel) (Nat.le_of_ble_eq_true rfl) (h1 _ (fun b d2 hI2 hs2 h5 hb0 => ?_))
  show MW mL_law (bc - 47 - 0) (bs - 8228 - 0) 1611 [(0, (5, 0)), (1, vR 0), (2, vR 65), (3, vR 74), (4, vR 75), (5, vI i), (6, vI k)] [vI b] g1 d2 Q
  rw [Nat.sub_zero (bc - 47), Nat.sub_zero (bs - 8228)]
  refine mw_istore (pc' := 1613) (L' := [(0, (5, 0)), (1, vR 0), (2, vR 65), (3, vR 74), (4, vR 75), (5, vI i), (6, vI k), (7, vI b)]) dL_law_1611 rfl (by decide) rfl ?_
  refine mw_aload_n (v := vR 65) (pc' := 1614) dL_law_1613 rfl rfl (by simp) rfl ?_
  refine mw_callV (M' := mX12_thrown) (A := []) (A' := [vR 65]) (S := []) (a := 65) (pc' := 1617) dL_law_1614 rfl (Or.inl (goodW 1679 (by decide +kernel) rfl)) kM_X12_thrown kV_X12_thrown ⟨by decide, by decide, Nat.zero_le _, Nat.zero_le _, by decide⟩ rfl rfl rfl ⟨by decide, by omega⟩ (by decide +kernel) (by decide +kernel) (Nat.le_of_ble_eq_true rfl) (eX12_thrown ?_)
  show MW mL_law (bc - 47 - 0) (bs - 8228 - 0) 1617 [(0, (5, 0)), (1, vR 0), (2, vR 65), (3, vR 74), (4, vR 75), (5, vI i), (6, vI k), (7, vI b)] [vI (d2 65 5)] g1 d2 Q
  rw [Nat.sub_zero (bc - 47), Nat.sub_zero (bs - 8228)]
  rw [h5]
  refine mw_iload (pc' := 1619) dL_law_1617 rfl rfl ?_
  refine mw_icmp_eq (tgt := 1624) (pc' := 1622) dL_law_1619 rfl (by decide) (fun _ => ?_) (fun c => absurd rfl c)
  refine mw_iload (pc' := 1626) dL_law_1624 rfl rfl ?_
  refine mw_if_ne (tgt := 1641) (pc' := 1629) dL_law_1626 rfl (by decide) (fun c => ?_) (fun c => ?_)
  · refine mw_goto (pc' := 0) (tgt := 3808) dL_law_1641 (by decide) ?_
    exact mw_loc (pc' := 0) [0, 1, 2, 3, 4, 5] rfl (mw_less ⟨by omega, by omega⟩ (h g1 d2 hI2 hs2))
  · have hb1 := hb0 c
    refine mw_aload_n (v := vR 74) (pc' := 1630) dL_law_1629 rfl rfl (by simp) rfl ?_
    refine mw_iconst (pc' := 1631) dL_law_1630 rfl ⟨by decide, by decide⟩ ?_
    refine mw_lald (pc' := 1632) dL_law_1631 rfl (by decide +kernel) ⟨by decide, by decide⟩ (by rw [show LN 74 = 1 by decide +kernel]; exact ⟨by decide, by decide⟩) ?_
    refine mw_iload (pc' := 1634) dL_law_1632 rfl rfl ?_
    refine mw_i2l (pc' := 1635) dL_law_1634 rfl ?_
    refine mw_lcmp (pc' := 1636) dL_law_1635 rfl ?_
    refine mw_if_eq (tgt := 1641) (pc' := 1639) dL_law_1636 rfl (by decide) (fun _ => ?_) (fun c3 => absurd (by rw [hb1]; exact lCmp_rf) c3)
    refine mw_goto (pc' := 0) (tgt := 3808) dL_law_1641 (by decide) ?_
    exact mw_loc (pc' := 0) [0, 1, 2, 3, 4, 5] rfl (mw_less ⟨by omega, by omega⟩ (h g1 d2 hI2 hs2))
theorem lc_23 {i : Int} {bc bs : Nat} {g : mG} {d : mD} {Q : mQ} (hI : INV g d) (hi : 0 ≤ i ∧ i + 3 < d SCR (-1)) (hN : d SCR (-1) ≤ 2048) (hb : 48 ≤ bc ∧ 8234 ≤ bs) (h : ∀ g' d', INV g' d' → d' SCR = d SCR → MW mL_law (bc - 48) (bs - 8234) 3808 [(0, (5, 0)), (1, vR 0), (2, vR 65), (3, vR 74), (4, vR 75), (5, vI i)] [] g' d' Q) : MW mL_law bc bs 1644 [(0, (5, 0)), (1, vR 0), (2, vR 65), (3, vR 74), (4, vR 75), (5, vI i)] [] g d Q := by
  refine mw_top (fun hT => ?_)
  have hG : 76 ≤ g.2.1 := hT.2
  refine mw_aload_n (v := vR 0) (pc' := 1645) dL_law_1644 rfl rfl (by simp) rfl ?_
  refine mw_callV (M' := mX11_deadlines) (A := []) (A' := [vR 0]) (S := []) (a := 0) (pc' := 1648) dL_law_1645 rfl (Or.inl (goodW 401 (by decide +kernel) rfl)) kM_X11_deadlines kV_X11_deadlines ⟨by decide, by decide, Nat.zero_le _, Nat.zero_le _, by decide⟩ rfl rfl rfl ⟨by decide, by omega⟩ (by decide +kernel) (by decide +kernel) (Nat.le_of_ble_eq_true rfl) (MM.mono ?_ (o_deadlines g d hI))
  intro o g1 d1 hh
  obtain ⟨k, ho, h1⟩ := hh
  subst ho
  show MW mL_law bc bs 1648 [(0, (5, 0)), (1, vR 0), (2, vR 65), (3, vR 74), (4, vR 75), (5, vI i)] [vI k] g1 d1 Q
  refine mw_top (fun hT1 => ?_)
  have hG1 : 76 ≤ g1.2.1 := hT1.2
  refine mw_aload_n (v := vR 65) (pc' := 1649) dL_law_1648 rfl rfl (by simp) rfl ?_
  refine mw_callV (M' := mX12_deadlines) (A := []) (A' := [vR 65]) (S := [vI k]) (a := 65) (pc' := 1652) dL_law_1649 rfl (Or.inl (goodW 1846 (by decide +kernel) rfl)) kM_X12_deadlines kV_X12_deadlines ⟨by decide, by decide, Nat.zero_le _, Nat.zero_le _, by decide⟩ rfl rfl rfl ⟨by decide, by omega⟩ (by decide +kernel) (by decide +kernel) (Nat.le_of_ble_eq_true rfl) (h1 _ (fun b d2 hI2 hs2 hb0 => ?_))
  show MW mL_law bc bs 1652 [(0, (5, 0)), (1, vR 0), (2, vR 65), (3, vR 74), (4, vR 75), (5, vI i)] [vI b, vI k] g1 d2 Q
  refine mw_icmp_eq (tgt := 3808) (pc' := 1655) dL_law_1652 rfl (by decide) (fun _ => ?_) (fun c => absurd hb0.symm c)
  exact mw_less ⟨by omega, by omega⟩ (h g1 d2 hI2 hs2)
theorem lc_24 {i : Int} {bc bs : Nat} {g : mG} {d : mD} {Q : mQ} (hI : INV g d) (hi : 0 ≤ i ∧ i + 3 < d SCR (-1)) (hN : d SCR (-1) ≤ 2048) (hb : 48 ≤ bc ∧ 8234 ≤ bs) (h : ∀ g' d', INV g' d' → d' SCR = d SCR → MW mL_law (bc - 48) (bs - 8234) 3808 [(0, (5, 0)), (1, vR 0), (2, vR 65), (3, vR 74), (4, vR 75), (5, vI i)] [] g' d' Q) : MW mL_law bc bs 1657 [(0, (5, 0)), (1, vR 0), (2, vR 65), (3, vR 74), (4, vR 75), (5, vI i)] [] g d Q := by
  refine mw_top (fun hT => ?_)
  have hG : 76 ≤ g.2.1 := hT.2
  refine mw_aload_n (v := vR 0) (pc' := 1658) dL_law_1657 rfl rfl (by simp) rfl ?_
  refine mw_aload_n (v := (5, 0)) (pc' := 1659) dL_law_1658 rfl rfl (by simp) rfl ?_
  refine mw_iload (pc' := 1661) dL_law_1659 rfl rfl ?_
  refine mw_iconst (pc' := 1662) dL_law_1661 rfl ⟨by decide, by decide⟩ ?_
  refine mw_iadd (pc' := 1663) dL_law_1662 rfl (ik (by omega)) ?_
  refine mw_xld (pc' := 1664) dL_law_1663 rfl ⟨by omega, by omega⟩ ?_
  refine mw_aload_n (v := vR 74) (pc' := 1665) dL_law_1664 rfl rfl (by simp) rfl ?_
  refine mw_callSX (M' := mL_due) (A := [vR 0, vI (d SCR (i + 1)), vR 74]) (S := []) (pc' := 1668) dL_law_1665 rfl (goodW 1085 (by decide +kernel) rfl) kM_L_due kS_L_due ⟨by decide, by decide, Nat.le_trans (by decide) hb.1, Nat.le_trans (by decide) hb.2, by decide⟩ rfl rfl (Nat.le_of_ble_eq_true rfl) (MM.mono ?_ (MM.scr (o_due g d hI)))
  intro o g1 d1 hh
  obtain ⟨⟨k, ho, h1⟩, hs1⟩ := hh
  subst ho
  show MW mL_law (bc - 2) (bs - 12) 1668 [(0, (5, 0)), (1, vR 0), (2, vR 65), (3, vR 74), (4, vR 75), (5, vI i)] [vI k] g1 d1 Q
  refine mw_top (fun hT1 => ?_)
  have hG1 : 76 ≤ g1.2.1 := hT1.2
  refine mw_istore (pc' := 1670) (L' := [(0, (5, 0)), (1, vR 0), (2, vR 65), (3, vR 74), (4, vR 75), (5, vI i), (6, vI k)]) dL_law_1668 rfl (by decide) rfl ?_
  refine mw_aload_n (v := vR 65) (pc' := 1671) dL_law_1670 rfl rfl (by simp) rfl ?_
  refine mw_aload_n (v := (5, 0)) (pc' := 1672) dL_law_1671 rfl rfl (by simp) rfl ?_
  refine mw_iload (pc' := 1674) dL_law_1672 rfl rfl ?_
  refine mw_iconst (pc' := 1675) dL_law_1674 rfl ⟨by decide, by decide⟩ ?_
  refine mw_iadd (pc' := 1676) dL_law_1675 rfl (ik (by omega)) ?_
  refine mw_xld (pc' := 1677) dL_law_1676 rfl (by rw [hs1]; exact ⟨by omega, by omega⟩) ?_
  rw [hs1]
  refine mw_callV (M' := mX12_due) (A := [vI (d SCR (i + 1))]) (A' := [vR 65, vI (d SCR (i + 1))]) (S := []) (a := 65) (pc' := 1680) dL_law_1677 rfl (Or.inl (goodW 1850 (by decide +kernel) rfl)) kM_X12_due kV_X12_due ⟨by decide, by decide, Nat.zero_le _, Nat.zero_le _, by decide⟩ rfl rfl rfl ⟨by decide, by omega⟩ (by decide +kernel) (by decide +kernel) (Nat.le_of_ble_eq_true rfl) (h1 _ (fun b d2 hI2 hs2 h5 hb0 => ?_))
  show MW mL_law (bc - 2) (bs - 12) 1680 [(0, (5, 0)), (1, vR 0), (2, vR 65), (3, vR 74), (4, vR 75), (5, vI i), (6, vI k)] [vI b] g1 d2 Q
  refine mw_istore (pc' := 1682) (L' := [(0, (5, 0)), (1, vR 0), (2, vR 65), (3, vR 74), (4, vR 75), (5, vI i), (6, vI k), (7, vI b)]) dL_law_1680 rfl (by decide) rfl ?_
  refine mw_aload_n (v := vR 65) (pc' := 1683) dL_law_1682 rfl rfl (by simp) rfl ?_
  refine mw_callV (M' := mX12_thrown) (A := []) (A' := [vR 65]) (S := []) (a := 65) (pc' := 1686) dL_law_1683 rfl (Or.inl (goodW 1679 (by decide +kernel) rfl)) kM_X12_thrown kV_X12_thrown ⟨by decide, by decide, Nat.zero_le _, Nat.zero_le _, by decide⟩ rfl rfl rfl ⟨by decide, by omega⟩ (by decide +kernel) (by decide +kernel) (Nat.le_of_ble_eq_true rfl) (eX12_thrown ?_)
  show MW mL_law (bc - 2) (bs - 12) 1686 [(0, (5, 0)), (1, vR 0), (2, vR 65), (3, vR 74), (4, vR 75), (5, vI i), (6, vI k), (7, vI b)] [vI (d2 65 5)] g1 d2 Q
  rw [h5]
  refine mw_iload (pc' := 1688) dL_law_1686 rfl rfl ?_
  refine mw_icmp_eq (tgt := 1693) (pc' := 1691) dL_law_1688 rfl (by decide) (fun _ => ?_) (fun c => absurd rfl c)
  refine mw_iload (pc' := 1695) dL_law_1693 rfl rfl ?_
  refine mw_if_ne (tgt := 1710) (pc' := 1698) dL_law_1695 rfl (by decide) (fun c => ?_) (fun c => ?_)
  · refine mw_goto (pc' := 0) (tgt := 3808) dL_law_1710 (by decide) ?_
    exact mw_loc (pc' := 0) [0, 1, 2, 3, 4, 5] rfl (mw_less ⟨by omega, by omega⟩ (h g1 d2 hI2 hs2))
  · have hb1 := hb0 c
    refine mw_aload_n (v := vR 74) (pc' := 1699) dL_law_1698 rfl rfl (by simp) rfl ?_
    refine mw_iconst (pc' := 1700) dL_law_1699 rfl ⟨by decide, by decide⟩ ?_
    refine mw_lald (pc' := 1701) dL_law_1700 rfl (by decide +kernel) ⟨by decide, by decide⟩ (by rw [show LN 74 = 1 by decide +kernel]; exact ⟨by decide, by decide⟩) ?_
    refine mw_iload (pc' := 1703) dL_law_1701 rfl rfl ?_
    refine mw_i2l (pc' := 1704) dL_law_1703 rfl ?_
    refine mw_lcmp (pc' := 1705) dL_law_1704 rfl ?_
    refine mw_if_eq (tgt := 1710) (pc' := 1708) dL_law_1705 rfl (by decide) (fun _ => ?_) (fun c3 => absurd (by rw [hb1]; exact lCmp_rf) c3)
    refine mw_goto (pc' := 0) (tgt := 3808) dL_law_1710 (by decide) ?_
    exact mw_loc (pc' := 0) [0, 1, 2, 3, 4, 5] rfl (mw_less ⟨by omega, by omega⟩ (h g1 d2 hI2 hs2))
theorem lc_25 {i : Int} {bc bs : Nat} {g : mG} {d : mD} {Q : mQ} (hI : INV g d) (hi : 0 ≤ i ∧ i + 3 < d SCR (-1)) (hN : d SCR (-1) ≤ 2048) (hb : 48 ≤ bc ∧ 8234 ≤ bs) (h : ∀ g' d', INV g' d' → d' SCR = d SCR → MW mL_law (bc - 48) (bs - 8234) 3808 [(0, (5, 0)), (1, vR 0), (2, vR 65), (3, vR 74), (4, vR 75), (5, vI i)] [] g' d' Q) : MW mL_law bc bs 1713 [(0, (5, 0)), (1, vR 0), (2, vR 65), (3, vR 74), (4, vR 75), (5, vI i)] [] g d Q := by
  refine mw_top (fun hT => ?_)
  have hG : 76 ≤ g.2.1 := hT.2
  refine mw_aload_n (v := vR 0) (pc' := 1714) dL_law_1713 rfl rfl (by simp) rfl ?_
  refine mw_aload_n (v := (5, 0)) (pc' := 1715) dL_law_1714 rfl rfl (by simp) rfl ?_
  refine mw_iload (pc' := 1717) dL_law_1715 rfl rfl ?_
  refine mw_iconst (pc' := 1718) dL_law_1717 rfl ⟨by decide, by decide⟩ ?_
  refine mw_iadd (pc' := 1719) dL_law_1718 rfl (ik (by omega)) ?_
  refine mw_xld (pc' := 1720) dL_law_1719 rfl ⟨by omega, by omega⟩ ?_
  refine mw_aload_n (v := vR 74) (pc' := 1721) dL_law_1720 rfl rfl (by simp) rfl ?_
  refine mw_callSX (M' := mL_dueByMarking) (A := [vR 0, vI (d SCR (i + 1)), vR 74]) (S := []) (pc' := 1724) dL_law_1721 rfl (goodW 1105 (by decide +kernel) rfl) kM_L_dueByMarking kS_L_dueByMarking ⟨by decide, by decide, Nat.le_trans (by decide) hb.1, Nat.le_trans (by decide) hb.2, by decide⟩ rfl rfl (Nat.le_of_ble_eq_true rfl) (MM.mono ?_ (MM.scr (o_dueByMarking g d hI)))
  intro o g1 d1 hh
  obtain ⟨⟨k, ho, h1⟩, hs1⟩ := hh
  subst ho
  show MW mL_law (bc - 2) (bs - 12) 1724 [(0, (5, 0)), (1, vR 0), (2, vR 65), (3, vR 74), (4, vR 75), (5, vI i)] [vI k] g1 d1 Q
  refine mw_top (fun hT1 => ?_)
  have hG1 : 76 ≤ g1.2.1 := hT1.2
  refine mw_istore (pc' := 1726) (L' := [(0, (5, 0)), (1, vR 0), (2, vR 65), (3, vR 74), (4, vR 75), (5, vI i), (6, vI k)]) dL_law_1724 rfl (by decide) rfl ?_
  refine mw_aload_n (v := vR 65) (pc' := 1727) dL_law_1726 rfl rfl (by simp) rfl ?_
  refine mw_aload_n (v := (5, 0)) (pc' := 1728) dL_law_1727 rfl rfl (by simp) rfl ?_
  refine mw_iload (pc' := 1730) dL_law_1728 rfl rfl ?_
  refine mw_iconst (pc' := 1731) dL_law_1730 rfl ⟨by decide, by decide⟩ ?_
  refine mw_iadd (pc' := 1732) dL_law_1731 rfl (ik (by omega)) ?_
  refine mw_xld (pc' := 1733) dL_law_1732 rfl (by rw [hs1]; exact ⟨by omega, by omega⟩) ?_
  rw [hs1]
  refine mw_callV (M' := mX12_dueByMarking) (A := [vI (d SCR (i + 1))]) (A' := [vR 65, vI (d SCR (i + 1))]) (S := []) (a := 65) (pc' := 1736) dL_law_1733 rfl (Or.inl (goodW 1882 (by decide +kernel) rfl)) kM_X12_dueByMarking kV_X12_dueByMarking ⟨by decide, by decide, Nat.zero_le _, Nat.zero_le _, by decide⟩ rfl rfl rfl ⟨by decide, by omega⟩ (by decide +kernel) (by decide +kernel) (Nat.le_of_ble_eq_true rfl) (h1 _ (fun b d2 hI2 hs2 h5 hb0 => ?_))
  show MW mL_law (bc - 2) (bs - 12) 1736 [(0, (5, 0)), (1, vR 0), (2, vR 65), (3, vR 74), (4, vR 75), (5, vI i), (6, vI k)] [vI b] g1 d2 Q
  refine mw_istore (pc' := 1738) (L' := [(0, (5, 0)), (1, vR 0), (2, vR 65), (3, vR 74), (4, vR 75), (5, vI i), (6, vI k), (7, vI b)]) dL_law_1736 rfl (by decide) rfl ?_
  refine mw_aload_n (v := vR 65) (pc' := 1739) dL_law_1738 rfl rfl (by simp) rfl ?_
  refine mw_callV (M' := mX12_thrown) (A := []) (A' := [vR 65]) (S := []) (a := 65) (pc' := 1742) dL_law_1739 rfl (Or.inl (goodW 1679 (by decide +kernel) rfl)) kM_X12_thrown kV_X12_thrown ⟨by decide, by decide, Nat.zero_le _, Nat.zero_le _, by decide⟩ rfl rfl rfl ⟨by decide, by omega⟩ (by decide +kernel) (by decide +kernel) (Nat.le_of_ble_eq_true rfl) (eX12_thrown ?_)
  show MW mL_law (bc - 2) (bs - 12) 1742 [(0, (5, 0)), (1, vR 0), (2, vR 65), (3, vR 74), (4, vR 75), (5, vI i), (6, vI k), (7, vI b)] [vI (d2 65 5)] g1 d2 Q
  rw [h5]
  refine mw_iload (pc' := 1744) dL_law_1742 rfl rfl ?_
  refine mw_icmp_eq (tgt := 1749) (pc' := 1747) dL_law_1744 rfl (by decide) (fun _ => ?_) (fun c => absurd rfl c)
  refine mw_iload (pc' := 1751) dL_law_1749 rfl rfl ?_
  refine mw_if_ne (tgt := 1766) (pc' := 1754) dL_law_1751 rfl (by decide) (fun c => ?_) (fun c => ?_)
  · refine mw_goto (pc' := 0) (tgt := 3808) dL_law_1766 (by decide) ?_
    exact mw_loc (pc' := 0) [0, 1, 2, 3, 4, 5] rfl (mw_less ⟨by omega, by omega⟩ (h g1 d2 hI2 hs2))
  · have hb1 := hb0 c
    refine mw_aload_n (v := vR 74) (pc' := 1755) dL_law_1754 rfl rfl (by simp) rfl ?_
    refine mw_iconst (pc' := 1756) dL_law_1755 rfl ⟨by decide, by decide⟩ ?_
    refine mw_lald (pc' := 1757) dL_law_1756 rfl (by decide +kernel) ⟨by decide, by decide⟩ (by rw [show LN 74 = 1 by decide +kernel]; exact ⟨by decide, by decide⟩) ?_
    refine mw_iload (pc' := 1759) dL_law_1757 rfl rfl ?_
    refine mw_i2l (pc' := 1760) dL_law_1759 rfl ?_
    refine mw_lcmp (pc' := 1761) dL_law_1760 rfl ?_
    refine mw_if_eq (tgt := 1766) (pc' := 1764) dL_law_1761 rfl (by decide) (fun _ => ?_) (fun c3 => absurd (by rw [hb1]; exact lCmp_rf) c3)
    refine mw_goto (pc' := 0) (tgt := 3808) dL_law_1766 (by decide) ?_
    exact mw_loc (pc' := 0) [0, 1, 2, 3, 4, 5] rfl (mw_less ⟨by omega, by omega⟩ (h g1 d2 hI2 hs2))
theorem lc_26 {i : Int} {bc bs : Nat} {g : mG} {d : mD} {Q : mQ} (hI : INV g d) (hi : 0 ≤ i ∧ i + 3 < d SCR (-1)) (hN : d SCR (-1) ≤ 2048) (hb : 48 ≤ bc ∧ 8234 ≤ bs) (h : ∀ g' d', INV g' d' → d' SCR = d SCR → MW mL_law (bc - 48) (bs - 8234) 3808 [(0, (5, 0)), (1, vR 0), (2, vR 65), (3, vR 74), (4, vR 75), (5, vI i)] [] g' d' Q) : MW mL_law bc bs 1769 [(0, (5, 0)), (1, vR 0), (2, vR 65), (3, vR 74), (4, vR 75), (5, vI i)] [] g d Q := by
  refine mw_top (fun hT => ?_)
  have hG : 76 ≤ g.2.1 := hT.2
  refine mw_aload_n (v := vR 0) (pc' := 1770) dL_law_1769 rfl rfl (by simp) rfl ?_
  refine mw_aload_n (v := (5, 0)) (pc' := 1771) dL_law_1770 rfl rfl (by simp) rfl ?_
  refine mw_iload (pc' := 1773) dL_law_1771 rfl rfl ?_
  refine mw_iconst (pc' := 1774) dL_law_1773 rfl ⟨by decide, by decide⟩ ?_
  refine mw_iadd (pc' := 1775) dL_law_1774 rfl (ik (by omega)) ?_
  refine mw_xld (pc' := 1776) dL_law_1775 rfl ⟨by omega, by omega⟩ ?_
  refine mw_aload_n (v := vR 74) (pc' := 1777) dL_law_1776 rfl rfl (by simp) rfl ?_
  refine mw_callSX (M' := mL_daysLeft) (A := [vR 0, vI (d SCR (i + 1)), vR 74]) (S := []) (pc' := 1780) dL_law_1777 rfl (goodW 1112 (by decide +kernel) rfl) kM_L_daysLeft kS_L_daysLeft ⟨by decide, by decide, Nat.le_trans (by decide) hb.1, Nat.le_trans (by decide) hb.2, by decide⟩ rfl rfl (Nat.le_of_ble_eq_true rfl) (MM.mono ?_ (MM.scr (o_daysLeft g d hI)))
  intro o g1 d1 hh
  obtain ⟨⟨k, ho, h1⟩, hs1⟩ := hh
  subst ho
  show MW mL_law (bc - 1) (bs - 6) 1780 [(0, (5, 0)), (1, vR 0), (2, vR 65), (3, vR 74), (4, vR 75), (5, vI i)] [vI k] g1 d1 Q
  refine mw_top (fun hT1 => ?_)
  have hG1 : 76 ≤ g1.2.1 := hT1.2
  refine mw_istore (pc' := 1782) (L' := [(0, (5, 0)), (1, vR 0), (2, vR 65), (3, vR 74), (4, vR 75), (5, vI i), (6, vI k)]) dL_law_1780 rfl (by decide) rfl ?_
  refine mw_aload_n (v := vR 65) (pc' := 1783) dL_law_1782 rfl rfl (by simp) rfl ?_
  refine mw_aload_n (v := (5, 0)) (pc' := 1784) dL_law_1783 rfl rfl (by simp) rfl ?_
  refine mw_iload (pc' := 1786) dL_law_1784 rfl rfl ?_
  refine mw_iconst (pc' := 1787) dL_law_1786 rfl ⟨by decide, by decide⟩ ?_
  refine mw_iadd (pc' := 1788) dL_law_1787 rfl (ik (by omega)) ?_
  refine mw_xld (pc' := 1789) dL_law_1788 rfl (by rw [hs1]; exact ⟨by omega, by omega⟩) ?_
  rw [hs1]
  refine mw_callV (M' := mX12_daysLeft) (A := [vI (d SCR (i + 1))]) (A' := [vR 65, vI (d SCR (i + 1))]) (S := []) (a := 65) (pc' := 1792) dL_law_1789 rfl (Or.inl (goodW 1887 (by decide +kernel) rfl)) kM_X12_daysLeft kV_X12_daysLeft ⟨by decide, by decide, Nat.zero_le _, Nat.zero_le _, by decide⟩ rfl rfl rfl ⟨by decide, by omega⟩ (by decide +kernel) (by decide +kernel) (Nat.le_of_ble_eq_true rfl) (h1 _ (fun b d2 hI2 hs2 h5 hb0 => ?_))
  show MW mL_law (bc - 1) (bs - 6) 1792 [(0, (5, 0)), (1, vR 0), (2, vR 65), (3, vR 74), (4, vR 75), (5, vI i), (6, vI k)] [vI b] g1 d2 Q
  refine mw_istore (pc' := 1794) (L' := [(0, (5, 0)), (1, vR 0), (2, vR 65), (3, vR 74), (4, vR 75), (5, vI i), (6, vI k), (7, vI b)]) dL_law_1792 rfl (by decide) rfl ?_
  refine mw_aload_n (v := vR 65) (pc' := 1795) dL_law_1794 rfl rfl (by simp) rfl ?_
  refine mw_callV (M' := mX12_thrown) (A := []) (A' := [vR 65]) (S := []) (a := 65) (pc' := 1798) dL_law_1795 rfl (Or.inl (goodW 1679 (by decide +kernel) rfl)) kM_X12_thrown kV_X12_thrown ⟨by decide, by decide, Nat.zero_le _, Nat.zero_le _, by decide⟩ rfl rfl rfl ⟨by decide, by omega⟩ (by decide +kernel) (by decide +kernel) (Nat.le_of_ble_eq_true rfl) (eX12_thrown ?_)
  show MW mL_law (bc - 1) (bs - 6) 1798 [(0, (5, 0)), (1, vR 0), (2, vR 65), (3, vR 74), (4, vR 75), (5, vI i), (6, vI k), (7, vI b)] [vI (d2 65 5)] g1 d2 Q
  rw [h5]
  refine mw_iload (pc' := 1800) dL_law_1798 rfl rfl ?_
  refine mw_icmp_eq (tgt := 1805) (pc' := 1803) dL_law_1800 rfl (by decide) (fun _ => ?_) (fun c => absurd rfl c)
  refine mw_iload (pc' := 1807) dL_law_1805 rfl rfl ?_
  refine mw_if_ne (tgt := 1822) (pc' := 1810) dL_law_1807 rfl (by decide) (fun c => ?_) (fun c => ?_)
  · refine mw_goto (pc' := 0) (tgt := 3808) dL_law_1822 (by decide) ?_
    exact mw_loc (pc' := 0) [0, 1, 2, 3, 4, 5] rfl (mw_less ⟨by omega, by omega⟩ (h g1 d2 hI2 hs2))
  · have hb1 := hb0 c
    refine mw_aload_n (v := vR 74) (pc' := 1811) dL_law_1810 rfl rfl (by simp) rfl ?_
    refine mw_iconst (pc' := 1812) dL_law_1811 rfl ⟨by decide, by decide⟩ ?_
    refine mw_lald (pc' := 1813) dL_law_1812 rfl (by decide +kernel) ⟨by decide, by decide⟩ (by rw [show LN 74 = 1 by decide +kernel]; exact ⟨by decide, by decide⟩) ?_
    refine mw_iload (pc' := 1815) dL_law_1813 rfl rfl ?_
    refine mw_i2l (pc' := 1816) dL_law_1815 rfl ?_
    refine mw_lcmp (pc' := 1817) dL_law_1816 rfl ?_
    refine mw_if_eq (tgt := 1822) (pc' := 1820) dL_law_1817 rfl (by decide) (fun _ => ?_) (fun c3 => absurd (by rw [hb1]; exact lCmp_rf) c3)
    refine mw_goto (pc' := 0) (tgt := 3808) dL_law_1822 (by decide) ?_
    exact mw_loc (pc' := 0) [0, 1, 2, 3, 4, 5] rfl (mw_less ⟨by omega, by omega⟩ (h g1 d2 hI2 hs2))
theorem lc_27 {i : Int} {bc bs : Nat} {g : mG} {d : mD} {Q : mQ} (hI : INV g d) (hi : 0 ≤ i ∧ i + 3 < d SCR (-1)) (hN : d SCR (-1) ≤ 2048) (hb : 48 ≤ bc ∧ 8234 ≤ bs) (h : ∀ g' d', INV g' d' → d' SCR = d SCR → MW mL_law (bc - 48) (bs - 8234) 3808 [(0, (5, 0)), (1, vR 0), (2, vR 65), (3, vR 74), (4, vR 75), (5, vI i)] [] g' d' Q) : MW mL_law bc bs 1825 [(0, (5, 0)), (1, vR 0), (2, vR 65), (3, vR 74), (4, vR 75), (5, vI i)] [] g d Q := by
  refine mw_top (fun hT => ?_)
  have hG : 76 ≤ g.2.1 := hT.2
  refine mw_aload_n (v := vR 0) (pc' := 1826) dL_law_1825 rfl rfl (by simp) rfl ?_
  refine mw_aload_n (v := (5, 0)) (pc' := 1827) dL_law_1826 rfl rfl (by simp) rfl ?_
  refine mw_iload (pc' := 1829) dL_law_1827 rfl rfl ?_
  refine mw_iconst (pc' := 1830) dL_law_1829 rfl ⟨by decide, by decide⟩ ?_
  refine mw_iadd (pc' := 1831) dL_law_1830 rfl (ik (by omega)) ?_
  refine mw_xld (pc' := 1832) dL_law_1831 rfl ⟨by omega, by omega⟩ ?_
  refine mw_aload_n (v := vR 74) (pc' := 1833) dL_law_1832 rfl rfl (by simp) rfl ?_
  refine mw_callSX (M' := mL_daysLeftByMarking) (A := [vR 0, vI (d SCR (i + 1)), vR 74]) (S := []) (pc' := 1836) dL_law_1833 rfl (goodW 1124 (by decide +kernel) rfl) kM_L_daysLeftByMarking kS_L_daysLeftByMarking ⟨by decide, by decide, Nat.le_trans (by decide) hb.1, Nat.le_trans (by decide) hb.2, by decide⟩ rfl rfl (Nat.le_of_ble_eq_true rfl) (MM.mono ?_ (MM.scr (o_daysLeftByMarking g d hI)))
  intro o g1 d1 hh
  obtain ⟨⟨k, ho, h1⟩, hs1⟩ := hh
  subst ho
  show MW mL_law (bc - 1) (bs - 6) 1836 [(0, (5, 0)), (1, vR 0), (2, vR 65), (3, vR 74), (4, vR 75), (5, vI i)] [vI k] g1 d1 Q
  refine mw_top (fun hT1 => ?_)
  have hG1 : 76 ≤ g1.2.1 := hT1.2
  refine mw_istore (pc' := 1838) (L' := [(0, (5, 0)), (1, vR 0), (2, vR 65), (3, vR 74), (4, vR 75), (5, vI i), (6, vI k)]) dL_law_1836 rfl (by decide) rfl ?_
  refine mw_aload_n (v := vR 65) (pc' := 1839) dL_law_1838 rfl rfl (by simp) rfl ?_
  refine mw_aload_n (v := (5, 0)) (pc' := 1840) dL_law_1839 rfl rfl (by simp) rfl ?_
  refine mw_iload (pc' := 1842) dL_law_1840 rfl rfl ?_
  refine mw_iconst (pc' := 1843) dL_law_1842 rfl ⟨by decide, by decide⟩ ?_
  refine mw_iadd (pc' := 1844) dL_law_1843 rfl (ik (by omega)) ?_
  refine mw_xld (pc' := 1845) dL_law_1844 rfl (by rw [hs1]; exact ⟨by omega, by omega⟩) ?_
  rw [hs1]
  refine mw_callV (M' := mX12_daysLeftByMarking) (A := [vI (d SCR (i + 1))]) (A' := [vR 65, vI (d SCR (i + 1))]) (S := []) (a := 65) (pc' := 1848) dL_law_1845 rfl (Or.inl (goodW 1895 (by decide +kernel) rfl)) kM_X12_daysLeftByMarking kV_X12_daysLeftByMarking ⟨by decide, by decide, Nat.zero_le _, Nat.zero_le _, by decide⟩ rfl rfl rfl ⟨by decide, by omega⟩ (by decide +kernel) (by decide +kernel) (Nat.le_of_ble_eq_true rfl) (h1 _ (fun b d2 hI2 hs2 h5 hb0 => ?_))
  show MW mL_law (bc - 1) (bs - 6) 1848 [(0, (5, 0)), (1, vR 0), (2, vR 65), (3, vR 74), (4, vR 75), (5, vI i), (6, vI k)] [vI b] g1 d2 Q
  refine mw_istore (pc' := 1850) (L' := [(0, (5, 0)), (1, vR 0), (2, vR 65), (3, vR 74), (4, vR 75), (5, vI i), (6, vI k), (7, vI b)]) dL_law_1848 rfl (by decide) rfl ?_
  refine mw_aload_n (v := vR 65) (pc' := 1851) dL_law_1850 rfl rfl (by simp) rfl ?_
  refine mw_callV (M' := mX12_thrown) (A := []) (A' := [vR 65]) (S := []) (a := 65) (pc' := 1854) dL_law_1851 rfl (Or.inl (goodW 1679 (by decide +kernel) rfl)) kM_X12_thrown kV_X12_thrown ⟨by decide, by decide, Nat.zero_le _, Nat.zero_le _, by decide⟩ rfl rfl rfl ⟨by decide, by omega⟩ (by decide +kernel) (by decide +kernel) (Nat.le_of_ble_eq_true rfl) (eX12_thrown ?_)
  show MW mL_law (bc - 1) (bs - 6) 1854 [(0, (5, 0)), (1, vR 0), (2, vR 65), (3, vR 74), (4, vR 75), (5, vI i), (6, vI k), (7, vI b)] [vI (d2 65 5)] g1 d2 Q
  rw [h5]
  refine mw_iload (pc' := 1856) dL_law_1854 rfl rfl ?_
  refine mw_icmp_eq (tgt := 1861) (pc' := 1859) dL_law_1856 rfl (by decide) (fun _ => ?_) (fun c => absurd rfl c)
  refine mw_iload (pc' := 1863) dL_law_1861 rfl rfl ?_
  refine mw_if_ne (tgt := 1878) (pc' := 1866) dL_law_1863 rfl (by decide) (fun c => ?_) (fun c => ?_)
  · refine mw_goto (pc' := 0) (tgt := 3808) dL_law_1878 (by decide) ?_
    exact mw_loc (pc' := 0) [0, 1, 2, 3, 4, 5] rfl (mw_less ⟨by omega, by omega⟩ (h g1 d2 hI2 hs2))
  · have hb1 := hb0 c
    refine mw_aload_n (v := vR 74) (pc' := 1867) dL_law_1866 rfl rfl (by simp) rfl ?_
    refine mw_iconst (pc' := 1868) dL_law_1867 rfl ⟨by decide, by decide⟩ ?_
    refine mw_lald (pc' := 1869) dL_law_1868 rfl (by decide +kernel) ⟨by decide, by decide⟩ (by rw [show LN 74 = 1 by decide +kernel]; exact ⟨by decide, by decide⟩) ?_
    refine mw_iload (pc' := 1871) dL_law_1869 rfl rfl ?_
    refine mw_i2l (pc' := 1872) dL_law_1871 rfl ?_
    refine mw_lcmp (pc' := 1873) dL_law_1872 rfl ?_
    refine mw_if_eq (tgt := 1878) (pc' := 1876) dL_law_1873 rfl (by decide) (fun _ => ?_) (fun c3 => absurd (by rw [hb1]; exact lCmp_rf) c3)
    refine mw_goto (pc' := 0) (tgt := 3808) dL_law_1878 (by decide) ?_
    exact mw_loc (pc' := 0) [0, 1, 2, 3, 4, 5] rfl (mw_less ⟨by omega, by omega⟩ (h g1 d2 hI2 hs2))
theorem lc_28 {i : Int} {bc bs : Nat} {g : mG} {d : mD} {Q : mQ} (hI : INV g d) (hi : 0 ≤ i ∧ i + 3 < d SCR (-1)) (hN : d SCR (-1) ≤ 2048) (hb : 48 ≤ bc ∧ 8234 ≤ bs) (h : ∀ g' d', INV g' d' → d' SCR = d SCR → MW mL_law (bc - 48) (bs - 8234) 3808 [(0, (5, 0)), (1, vR 0), (2, vR 65), (3, vR 74), (4, vR 75), (5, vI i)] [] g' d' Q) : MW mL_law bc bs 1881 [(0, (5, 0)), (1, vR 0), (2, vR 65), (3, vR 74), (4, vR 75), (5, vI i)] [] g d Q := by
  refine mw_top (fun hT => ?_)
  have hG : 76 ≤ g.2.1 := hT.2
  refine mw_aload_n (v := vR 0) (pc' := 1882) dL_law_1881 rfl rfl (by simp) rfl ?_
  refine mw_aload_n (v := (5, 0)) (pc' := 1883) dL_law_1882 rfl rfl (by simp) rfl ?_
  refine mw_iload (pc' := 1885) dL_law_1883 rfl rfl ?_
  refine mw_iconst (pc' := 1886) dL_law_1885 rfl ⟨by decide, by decide⟩ ?_
  refine mw_iadd (pc' := 1887) dL_law_1886 rfl (ik (by omega)) ?_
  refine mw_xld (pc' := 1888) dL_law_1887 rfl ⟨by omega, by omega⟩ ?_
  refine mw_aload_n (v := (5, 0)) (pc' := 1889) dL_law_1888 rfl rfl (by simp) rfl ?_
  refine mw_iload (pc' := 1891) dL_law_1889 rfl rfl ?_
  refine mw_iconst (pc' := 1892) dL_law_1891 rfl ⟨by decide, by decide⟩ ?_
  refine mw_iadd (pc' := 1893) dL_law_1892 rfl (ik (by omega)) ?_
  refine mw_xld (pc' := 1894) dL_law_1893 rfl ⟨by omega, by omega⟩ ?_
  refine mw_aload_n (v := vR 74) (pc' := 1895) dL_law_1894 rfl rfl (by simp) rfl ?_
  refine mw_callSX (M' := mL_extendByConsent) (A := [vR 0, vI (d SCR (i + 1)), vI (d SCR (i + 2)), vR 74]) (S := []) (pc' := 1898) dL_law_1895 rfl (goodW 1131 (by decide +kernel) rfl) kM_L_extendByConsent kS_L_extendByConsent ⟨by decide, by decide, Nat.le_trans (by decide) hb.1, Nat.le_trans (by decide) hb.2, by decide⟩ rfl rfl (Nat.le_of_ble_eq_true rfl) (MM.mono ?_ (MM.scr (o_extendByConsent g d hI)))
  intro o g1 d1 hh
  obtain ⟨⟨k, ho, h1⟩, hs1⟩ := hh
  subst ho
  show MW mL_law (bc - 47) (bs - 8228) 1898 [(0, (5, 0)), (1, vR 0), (2, vR 65), (3, vR 74), (4, vR 75), (5, vI i)] [vI k] g1 d1 Q
  refine mw_top (fun hT1 => ?_)
  have hG1 : 76 ≤ g1.2.1 := hT1.2
  refine mw_istore (pc' := 1900) (L' := [(0, (5, 0)), (1, vR 0), (2, vR 65), (3, vR 74), (4, vR 75), (5, vI i), (6, vI k)]) dL_law_1898 rfl (by decide) rfl ?_
  refine mw_aload_n (v := vR 65) (pc' := 1901) dL_law_1900 rfl rfl (by simp) rfl ?_
  refine mw_aload_n (v := (5, 0)) (pc' := 1902) dL_law_1901 rfl rfl (by simp) rfl ?_
  refine mw_iload (pc' := 1904) dL_law_1902 rfl rfl ?_
  refine mw_iconst (pc' := 1905) dL_law_1904 rfl ⟨by decide, by decide⟩ ?_
  refine mw_iadd (pc' := 1906) dL_law_1905 rfl (ik (by omega)) ?_
  refine mw_xld (pc' := 1907) dL_law_1906 rfl (by rw [hs1]; exact ⟨by omega, by omega⟩) ?_
  rw [hs1]
  refine mw_aload_n (v := (5, 0)) (pc' := 1908) dL_law_1907 rfl rfl (by simp) rfl ?_
  refine mw_iload (pc' := 1910) dL_law_1908 rfl rfl ?_
  refine mw_iconst (pc' := 1911) dL_law_1910 rfl ⟨by decide, by decide⟩ ?_
  refine mw_iadd (pc' := 1912) dL_law_1911 rfl (ik (by omega)) ?_
  refine mw_xld (pc' := 1913) dL_law_1912 rfl (by rw [hs1]; exact ⟨by omega, by omega⟩) ?_
  rw [hs1]
  refine mw_callV (M' := mX12_extendByConsent) (A := [vI (d SCR (i + 1)), vI (d SCR (i + 2))]) (A' := [vR 65, vI (d SCR (i + 1)), vI (d SCR (i + 2))]) (S := []) (a := 65) (pc' := 1916) dL_law_1913 rfl (Or.inl (goodW 1900 (by decide +kernel) rfl)) kM_X12_extendByConsent kV_X12_extendByConsent ⟨by decide, by decide, Nat.zero_le _, Nat.zero_le _, by decide⟩ rfl rfl rfl ⟨by decide, by omega⟩ (by decide +kernel) (by decide +kernel) (Nat.le_of_ble_eq_true rfl) (h1 _ (fun b d2 hI2 hs2 h5 hb0 => ?_))
  show MW mL_law (bc - 47 - 0) (bs - 8228 - 0) 1916 [(0, (5, 0)), (1, vR 0), (2, vR 65), (3, vR 74), (4, vR 75), (5, vI i), (6, vI k)] [vI b] g1 d2 Q
  rw [Nat.sub_zero (bc - 47), Nat.sub_zero (bs - 8228)]
  refine mw_istore (pc' := 1918) (L' := [(0, (5, 0)), (1, vR 0), (2, vR 65), (3, vR 74), (4, vR 75), (5, vI i), (6, vI k), (7, vI b)]) dL_law_1916 rfl (by decide) rfl ?_
  refine mw_aload_n (v := vR 65) (pc' := 1919) dL_law_1918 rfl rfl (by simp) rfl ?_
  refine mw_callV (M' := mX12_thrown) (A := []) (A' := [vR 65]) (S := []) (a := 65) (pc' := 1922) dL_law_1919 rfl (Or.inl (goodW 1679 (by decide +kernel) rfl)) kM_X12_thrown kV_X12_thrown ⟨by decide, by decide, Nat.zero_le _, Nat.zero_le _, by decide⟩ rfl rfl rfl ⟨by decide, by omega⟩ (by decide +kernel) (by decide +kernel) (Nat.le_of_ble_eq_true rfl) (eX12_thrown ?_)
  show MW mL_law (bc - 47 - 0) (bs - 8228 - 0) 1922 [(0, (5, 0)), (1, vR 0), (2, vR 65), (3, vR 74), (4, vR 75), (5, vI i), (6, vI k), (7, vI b)] [vI (d2 65 5)] g1 d2 Q
  rw [Nat.sub_zero (bc - 47), Nat.sub_zero (bs - 8228)]
  rw [h5]
  refine mw_iload (pc' := 1924) dL_law_1922 rfl rfl ?_
  refine mw_icmp_eq (tgt := 1929) (pc' := 1927) dL_law_1924 rfl (by decide) (fun _ => ?_) (fun c => absurd rfl c)
  refine mw_iload (pc' := 1931) dL_law_1929 rfl rfl ?_
  refine mw_if_ne (tgt := 1946) (pc' := 1934) dL_law_1931 rfl (by decide) (fun c => ?_) (fun c => ?_)
  · refine mw_goto (pc' := 0) (tgt := 3808) dL_law_1946 (by decide) ?_
    exact mw_loc (pc' := 0) [0, 1, 2, 3, 4, 5] rfl (mw_less ⟨by omega, by omega⟩ (h g1 d2 hI2 hs2))
  · have hb1 := hb0 c
    refine mw_aload_n (v := vR 74) (pc' := 1935) dL_law_1934 rfl rfl (by simp) rfl ?_
    refine mw_iconst (pc' := 1936) dL_law_1935 rfl ⟨by decide, by decide⟩ ?_
    refine mw_lald (pc' := 1937) dL_law_1936 rfl (by decide +kernel) ⟨by decide, by decide⟩ (by rw [show LN 74 = 1 by decide +kernel]; exact ⟨by decide, by decide⟩) ?_
    refine mw_iload (pc' := 1939) dL_law_1937 rfl rfl ?_
    refine mw_i2l (pc' := 1940) dL_law_1939 rfl ?_
    refine mw_lcmp (pc' := 1941) dL_law_1940 rfl ?_
    refine mw_if_eq (tgt := 1946) (pc' := 1944) dL_law_1941 rfl (by decide) (fun _ => ?_) (fun c3 => absurd (by rw [hb1]; exact lCmp_rf) c3)
    refine mw_goto (pc' := 0) (tgt := 3808) dL_law_1946 (by decide) ?_
    exact mw_loc (pc' := 0) [0, 1, 2, 3, 4, 5] rfl (mw_less ⟨by omega, by omega⟩ (h g1 d2 hI2 hs2))
theorem lc_29 {i : Int} {bc bs : Nat} {g : mG} {d : mD} {Q : mQ} (hI : INV g d) (hi : 0 ≤ i ∧ i + 3 < d SCR (-1)) (hN : d SCR (-1) ≤ 2048) (hb : 48 ≤ bc ∧ 8234 ≤ bs) (h : ∀ g' d', INV g' d' → d' SCR = d SCR → MW mL_law (bc - 48) (bs - 8234) 3808 [(0, (5, 0)), (1, vR 0), (2, vR 65), (3, vR 74), (4, vR 75), (5, vI i)] [] g' d' Q) : MW mL_law bc bs 1949 [(0, (5, 0)), (1, vR 0), (2, vR 65), (3, vR 74), (4, vR 75), (5, vI i)] [] g d Q := by
  refine mw_top (fun hT => ?_)
  have hG : 76 ≤ g.2.1 := hT.2
  refine mw_aload_n (v := vR 0) (pc' := 1950) dL_law_1949 rfl rfl (by simp) rfl ?_
  refine mw_aload_n (v := (5, 0)) (pc' := 1951) dL_law_1950 rfl rfl (by simp) rfl ?_
  refine mw_iload (pc' := 1953) dL_law_1951 rfl rfl ?_
  refine mw_iconst (pc' := 1954) dL_law_1953 rfl ⟨by decide, by decide⟩ ?_
  refine mw_iadd (pc' := 1955) dL_law_1954 rfl (ik (by omega)) ?_
  refine mw_xld (pc' := 1956) dL_law_1955 rfl ⟨by omega, by omega⟩ ?_
  refine mw_aload_n (v := (5, 0)) (pc' := 1957) dL_law_1956 rfl rfl (by simp) rfl ?_
  refine mw_iload (pc' := 1959) dL_law_1957 rfl rfl ?_
  refine mw_iconst (pc' := 1960) dL_law_1959 rfl ⟨by decide, by decide⟩ ?_
  refine mw_iadd (pc' := 1961) dL_law_1960 rfl (ik (by omega)) ?_
  refine mw_xld (pc' := 1962) dL_law_1961 rfl ⟨by omega, by omega⟩ ?_
  refine mw_aload_n (v := vR 74) (pc' := 1963) dL_law_1962 rfl rfl (by simp) rfl ?_
  refine mw_callSX (M' := mL_extendByOrder) (A := [vR 0, vI (d SCR (i + 1)), vI (d SCR (i + 2)), vR 74]) (S := []) (pc' := 1966) dL_law_1963 rfl (goodW 1147 (by decide +kernel) rfl) kM_L_extendByOrder kS_L_extendByOrder ⟨by decide, by decide, Nat.le_trans (by decide) hb.1, Nat.le_trans (by decide) hb.2, by decide⟩ rfl rfl (Nat.le_of_ble_eq_true rfl) (MM.mono ?_ (MM.scr (o_extendByOrder g d hI)))
  intro o g1 d1 hh
  obtain ⟨⟨k, ho, h1⟩, hs1⟩ := hh
  subst ho
  show MW mL_law (bc - 47) (bs - 8228) 1966 [(0, (5, 0)), (1, vR 0), (2, vR 65), (3, vR 74), (4, vR 75), (5, vI i)] [vI k] g1 d1 Q
  refine mw_top (fun hT1 => ?_)
  have hG1 : 76 ≤ g1.2.1 := hT1.2
  refine mw_istore (pc' := 1968) (L' := [(0, (5, 0)), (1, vR 0), (2, vR 65), (3, vR 74), (4, vR 75), (5, vI i), (6, vI k)]) dL_law_1966 rfl (by decide) rfl ?_
  refine mw_aload_n (v := vR 65) (pc' := 1969) dL_law_1968 rfl rfl (by simp) rfl ?_
  refine mw_aload_n (v := (5, 0)) (pc' := 1970) dL_law_1969 rfl rfl (by simp) rfl ?_
  refine mw_iload (pc' := 1972) dL_law_1970 rfl rfl ?_
  refine mw_iconst (pc' := 1973) dL_law_1972 rfl ⟨by decide, by decide⟩ ?_
  refine mw_iadd (pc' := 1974) dL_law_1973 rfl (ik (by omega)) ?_
  refine mw_xld (pc' := 1975) dL_law_1974 rfl (by rw [hs1]; exact ⟨by omega, by omega⟩) ?_
  rw [hs1]
  refine mw_aload_n (v := (5, 0)) (pc' := 1976) dL_law_1975 rfl rfl (by simp) rfl ?_
  refine mw_iload (pc' := 1978) dL_law_1976 rfl rfl ?_
  refine mw_iconst (pc' := 1979) dL_law_1978 rfl ⟨by decide, by decide⟩ ?_
  refine mw_iadd (pc' := 1980) dL_law_1979 rfl (ik (by omega)) ?_
  refine mw_xld (pc' := 1981) dL_law_1980 rfl (by rw [hs1]; exact ⟨by omega, by omega⟩) ?_
  rw [hs1]
  refine mw_callV (M' := mX12_extendByOrder) (A := [vI (d SCR (i + 1)), vI (d SCR (i + 2))]) (A' := [vR 65, vI (d SCR (i + 1)), vI (d SCR (i + 2))]) (S := []) (a := 65) (pc' := 1984) dL_law_1981 rfl (Or.inl (goodW 1920 (by decide +kernel) rfl)) kM_X12_extendByOrder kV_X12_extendByOrder ⟨by decide, by decide, Nat.zero_le _, Nat.zero_le _, by decide⟩ rfl rfl rfl ⟨by decide, by omega⟩ (by decide +kernel) (by decide +kernel) (Nat.le_of_ble_eq_true rfl) (h1 _ (fun b d2 hI2 hs2 h5 hb0 => ?_))
  show MW mL_law (bc - 47 - 0) (bs - 8228 - 0) 1984 [(0, (5, 0)), (1, vR 0), (2, vR 65), (3, vR 74), (4, vR 75), (5, vI i), (6, vI k)] [vI b] g1 d2 Q
  rw [Nat.sub_zero (bc - 47), Nat.sub_zero (bs - 8228)]
  refine mw_istore (pc' := 1986) (L' := [(0, (5, 0)), (1, vR 0), (2, vR 65), (3, vR 74), (4, vR 75), (5, vI i), (6, vI k), (7, vI b)]) dL_law_1984 rfl (by decide) rfl ?_
  refine mw_aload_n (v := vR 65) (pc' := 1987) dL_law_1986 rfl rfl (by simp) rfl ?_
  refine mw_callV (M' := mX12_thrown) (A := []) (A' := [vR 65]) (S := []) (a := 65) (pc' := 1990) dL_law_1987 rfl (Or.inl (goodW 1679 (by decide +kernel) rfl)) kM_X12_thrown kV_X12_thrown ⟨by decide, by decide, Nat.zero_le _, Nat.zero_le _, by decide⟩ rfl rfl rfl ⟨by decide, by omega⟩ (by decide +kernel) (by decide +kernel) (Nat.le_of_ble_eq_true rfl) (eX12_thrown ?_)
  show MW mL_law (bc - 47 - 0) (bs - 8228 - 0) 1990 [(0, (5, 0)), (1, vR 0), (2, vR 65), (3, vR 74), (4, vR 75), (5, vI i), (6, vI k), (7, vI b)] [vI (d2 65 5)] g1 d2 Q
  rw [Nat.sub_zero (bc - 47), Nat.sub_zero (bs - 8228)]
  rw [h5]
  refine mw_iload (pc' := 1992) dL_law_1990 rfl rfl ?_
  refine mw_icmp_eq (tgt := 1997) (pc' := 1995) dL_law_1992 rfl (by decide) (fun _ => ?_) (fun c => absurd rfl c)
  refine mw_iload (pc' := 1999) dL_law_1997 rfl rfl ?_
  refine mw_if_ne (tgt := 2014) (pc' := 2002) dL_law_1999 rfl (by decide) (fun c => ?_) (fun c => ?_)
  · refine mw_goto (pc' := 0) (tgt := 3808) dL_law_2014 (by decide) ?_
    exact mw_loc (pc' := 0) [0, 1, 2, 3, 4, 5] rfl (mw_less ⟨by omega, by omega⟩ (h g1 d2 hI2 hs2))
  · have hb1 := hb0 c
    refine mw_aload_n (v := vR 74) (pc' := 2003) dL_law_2002 rfl rfl (by simp) rfl ?_
    refine mw_iconst (pc' := 2004) dL_law_2003 rfl ⟨by decide, by decide⟩ ?_
    refine mw_lald (pc' := 2005) dL_law_2004 rfl (by decide +kernel) ⟨by decide, by decide⟩ (by rw [show LN 74 = 1 by decide +kernel]; exact ⟨by decide, by decide⟩) ?_
    refine mw_iload (pc' := 2007) dL_law_2005 rfl rfl ?_
    refine mw_i2l (pc' := 2008) dL_law_2007 rfl ?_
    refine mw_lcmp (pc' := 2009) dL_law_2008 rfl ?_
    refine mw_if_eq (tgt := 2014) (pc' := 2012) dL_law_2009 rfl (by decide) (fun _ => ?_) (fun c3 => absurd (by rw [hb1]; exact lCmp_rf) c3)
    refine mw_goto (pc' := 0) (tgt := 3808) dL_law_2014 (by decide) ?_
    exact mw_loc (pc' := 0) [0, 1, 2, 3, 4, 5] rfl (mw_less ⟨by omega, by omega⟩ (h g1 d2 hI2 hs2))
theorem lc_30 {i : Int} {bc bs : Nat} {g : mG} {d : mD} {Q : mQ} (hI : INV g d) (hi : 0 ≤ i ∧ i + 3 < d SCR (-1)) (hN : d SCR (-1) ≤ 2048) (hb : 48 ≤ bc ∧ 8234 ≤ bs) (h : ∀ g' d', INV g' d' → d' SCR = d SCR → MW mL_law (bc - 48) (bs - 8234) 3808 [(0, (5, 0)), (1, vR 0), (2, vR 65), (3, vR 74), (4, vR 75), (5, vI i)] [] g' d' Q) : MW mL_law bc bs 2017 [(0, (5, 0)), (1, vR 0), (2, vR 65), (3, vR 74), (4, vR 75), (5, vI i)] [] g d Q := by
  refine mw_top (fun hT => ?_)
  have hG : 76 ≤ g.2.1 := hT.2
  refine mw_aload_n (v := vR 0) (pc' := 2018) dL_law_2017 rfl rfl (by simp) rfl ?_
  refine mw_aload_n (v := (5, 0)) (pc' := 2019) dL_law_2018 rfl rfl (by simp) rfl ?_
  refine mw_iload (pc' := 2021) dL_law_2019 rfl rfl ?_
  refine mw_iconst (pc' := 2022) dL_law_2021 rfl ⟨by decide, by decide⟩ ?_
  refine mw_iadd (pc' := 2023) dL_law_2022 rfl (ik (by omega)) ?_
  refine mw_xld (pc' := 2024) dL_law_2023 rfl ⟨by omega, by omega⟩ ?_
  refine mw_aload_n (v := vR 74) (pc' := 2025) dL_law_2024 rfl rfl (by simp) rfl ?_
  refine mw_callSX (M' := mL_extensionDays) (A := [vR 0, vI (d SCR (i + 1)), vR 74]) (S := []) (pc' := 2028) dL_law_2025 rfl (goodW 1158 (by decide +kernel) rfl) kM_L_extensionDays kS_L_extensionDays ⟨by decide, by decide, Nat.le_trans (by decide) hb.1, Nat.le_trans (by decide) hb.2, by decide⟩ rfl rfl (Nat.le_of_ble_eq_true rfl) (MM.mono ?_ (MM.scr (o_extensionDays g d hI)))
  intro o g1 d1 hh
  obtain ⟨⟨k, ho, h1⟩, hs1⟩ := hh
  subst ho
  show MW mL_law (bc - 1) (bs - 6) 2028 [(0, (5, 0)), (1, vR 0), (2, vR 65), (3, vR 74), (4, vR 75), (5, vI i)] [vI k] g1 d1 Q
  refine mw_top (fun hT1 => ?_)
  have hG1 : 76 ≤ g1.2.1 := hT1.2
  refine mw_istore (pc' := 2030) (L' := [(0, (5, 0)), (1, vR 0), (2, vR 65), (3, vR 74), (4, vR 75), (5, vI i), (6, vI k)]) dL_law_2028 rfl (by decide) rfl ?_
  refine mw_aload_n (v := vR 65) (pc' := 2031) dL_law_2030 rfl rfl (by simp) rfl ?_
  refine mw_aload_n (v := (5, 0)) (pc' := 2032) dL_law_2031 rfl rfl (by simp) rfl ?_
  refine mw_iload (pc' := 2034) dL_law_2032 rfl rfl ?_
  refine mw_iconst (pc' := 2035) dL_law_2034 rfl ⟨by decide, by decide⟩ ?_
  refine mw_iadd (pc' := 2036) dL_law_2035 rfl (ik (by omega)) ?_
  refine mw_xld (pc' := 2037) dL_law_2036 rfl (by rw [hs1]; exact ⟨by omega, by omega⟩) ?_
  rw [hs1]
  refine mw_callV (M' := mX12_extensionDays) (A := [vI (d SCR (i + 1))]) (A' := [vR 65, vI (d SCR (i + 1))]) (S := []) (a := 65) (pc' := 2040) dL_law_2037 rfl (Or.inl (goodW 1924 (by decide +kernel) rfl)) kM_X12_extensionDays kV_X12_extensionDays ⟨by decide, by decide, Nat.zero_le _, Nat.zero_le _, by decide⟩ rfl rfl rfl ⟨by decide, by omega⟩ (by decide +kernel) (by decide +kernel) (Nat.le_of_ble_eq_true rfl) (h1 _ (fun b d2 hI2 hs2 h5 hb0 => ?_))
  show MW mL_law (bc - 1) (bs - 6) 2040 [(0, (5, 0)), (1, vR 0), (2, vR 65), (3, vR 74), (4, vR 75), (5, vI i), (6, vI k)] [vI b] g1 d2 Q
  refine mw_istore (pc' := 2042) (L' := [(0, (5, 0)), (1, vR 0), (2, vR 65), (3, vR 74), (4, vR 75), (5, vI i), (6, vI k), (7, vI b)]) dL_law_2040 rfl (by decide) rfl ?_
  refine mw_aload_n (v := vR 65) (pc' := 2043) dL_law_2042 rfl rfl (by simp) rfl ?_
  refine mw_callV (M' := mX12_thrown) (A := []) (A' := [vR 65]) (S := []) (a := 65) (pc' := 2046) dL_law_2043 rfl (Or.inl (goodW 1679 (by decide +kernel) rfl)) kM_X12_thrown kV_X12_thrown ⟨by decide, by decide, Nat.zero_le _, Nat.zero_le _, by decide⟩ rfl rfl rfl ⟨by decide, by omega⟩ (by decide +kernel) (by decide +kernel) (Nat.le_of_ble_eq_true rfl) (eX12_thrown ?_)
  show MW mL_law (bc - 1) (bs - 6) 2046 [(0, (5, 0)), (1, vR 0), (2, vR 65), (3, vR 74), (4, vR 75), (5, vI i), (6, vI k), (7, vI b)] [vI (d2 65 5)] g1 d2 Q
  rw [h5]
  refine mw_iload (pc' := 2048) dL_law_2046 rfl rfl ?_
  refine mw_icmp_eq (tgt := 2053) (pc' := 2051) dL_law_2048 rfl (by decide) (fun _ => ?_) (fun c => absurd rfl c)
  refine mw_iload (pc' := 2055) dL_law_2053 rfl rfl ?_
  refine mw_if_ne (tgt := 2070) (pc' := 2058) dL_law_2055 rfl (by decide) (fun c => ?_) (fun c => ?_)
  · refine mw_goto (pc' := 0) (tgt := 3808) dL_law_2070 (by decide) ?_
    exact mw_loc (pc' := 0) [0, 1, 2, 3, 4, 5] rfl (mw_less ⟨by omega, by omega⟩ (h g1 d2 hI2 hs2))
  · have hb1 := hb0 c
    refine mw_aload_n (v := vR 74) (pc' := 2059) dL_law_2058 rfl rfl (by simp) rfl ?_
    refine mw_iconst (pc' := 2060) dL_law_2059 rfl ⟨by decide, by decide⟩ ?_
    refine mw_lald (pc' := 2061) dL_law_2060 rfl (by decide +kernel) ⟨by decide, by decide⟩ (by rw [show LN 74 = 1 by decide +kernel]; exact ⟨by decide, by decide⟩) ?_
    refine mw_iload (pc' := 2063) dL_law_2061 rfl rfl ?_
    refine mw_i2l (pc' := 2064) dL_law_2063 rfl ?_
    refine mw_lcmp (pc' := 2065) dL_law_2064 rfl ?_
    refine mw_if_eq (tgt := 2070) (pc' := 2068) dL_law_2065 rfl (by decide) (fun _ => ?_) (fun c3 => absurd (by rw [hb1]; exact lCmp_rf) c3)
    refine mw_goto (pc' := 0) (tgt := 3808) dL_law_2070 (by decide) ?_
    exact mw_loc (pc' := 0) [0, 1, 2, 3, 4, 5] rfl (mw_less ⟨by omega, by omega⟩ (h g1 d2 hI2 hs2))
theorem lc_31 {i : Int} {bc bs : Nat} {g : mG} {d : mD} {Q : mQ} (hI : INV g d) (hi : 0 ≤ i ∧ i + 3 < d SCR (-1)) (hN : d SCR (-1) ≤ 2048) (hb : 48 ≤ bc ∧ 8234 ≤ bs) (h : ∀ g' d', INV g' d' → d' SCR = d SCR → MW mL_law (bc - 48) (bs - 8234) 3808 [(0, (5, 0)), (1, vR 0), (2, vR 65), (3, vR 74), (4, vR 75), (5, vI i)] [] g' d' Q) : MW mL_law bc bs 2073 [(0, (5, 0)), (1, vR 0), (2, vR 65), (3, vR 74), (4, vR 75), (5, vI i)] [] g d Q := by
  refine mw_top (fun hT => ?_)
  have hG : 76 ≤ g.2.1 := hT.2
  refine mw_aload_n (v := vR 0) (pc' := 2074) dL_law_2073 rfl rfl (by simp) rfl ?_
  refine mw_aload_n (v := (5, 0)) (pc' := 2075) dL_law_2074 rfl rfl (by simp) rfl ?_
  refine mw_iload (pc' := 2077) dL_law_2075 rfl rfl ?_
  refine mw_iconst (pc' := 2078) dL_law_2077 rfl ⟨by decide, by decide⟩ ?_
  refine mw_iadd (pc' := 2079) dL_law_2078 rfl (ik (by omega)) ?_
  refine mw_xld (pc' := 2080) dL_law_2079 rfl ⟨by omega, by omega⟩ ?_
  refine mw_aload_n (v := vR 74) (pc' := 2081) dL_law_2080 rfl rfl (by simp) rfl ?_
  refine mw_callSX (M' := mL_file) (A := [vR 0, vI (d SCR (i + 1)), vR 74]) (S := []) (pc' := 2084) dL_law_2081 rfl (goodW 1165 (by decide +kernel) rfl) kM_L_file kS_L_file ⟨by decide, by decide, Nat.le_trans (by decide) hb.1, Nat.le_trans (by decide) hb.2, by decide⟩ rfl rfl (Nat.le_of_ble_eq_true rfl) (MM.mono ?_ (MM.scr (o_file g d hI)))
  intro o g1 d1 hh
  obtain ⟨⟨k, ho, h1⟩, hs1⟩ := hh
  subst ho
  show MW mL_law (bc - 47) (bs - 8228) 2084 [(0, (5, 0)), (1, vR 0), (2, vR 65), (3, vR 74), (4, vR 75), (5, vI i)] [vI k] g1 d1 Q
  refine mw_top (fun hT1 => ?_)
  have hG1 : 76 ≤ g1.2.1 := hT1.2
  refine mw_istore (pc' := 2086) (L' := [(0, (5, 0)), (1, vR 0), (2, vR 65), (3, vR 74), (4, vR 75), (5, vI i), (6, vI k)]) dL_law_2084 rfl (by decide) rfl ?_
  refine mw_aload_n (v := vR 65) (pc' := 2087) dL_law_2086 rfl rfl (by simp) rfl ?_
  refine mw_aload_n (v := (5, 0)) (pc' := 2088) dL_law_2087 rfl rfl (by simp) rfl ?_
  refine mw_iload (pc' := 2090) dL_law_2088 rfl rfl ?_
  refine mw_iconst (pc' := 2091) dL_law_2090 rfl ⟨by decide, by decide⟩ ?_
  refine mw_iadd (pc' := 2092) dL_law_2091 rfl (ik (by omega)) ?_
  refine mw_xld (pc' := 2093) dL_law_2092 rfl (by rw [hs1]; exact ⟨by omega, by omega⟩) ?_
  rw [hs1]
  refine mw_callV (M' := mX12_file) (A := [vI (d SCR (i + 1))]) (A' := [vR 65, vI (d SCR (i + 1))]) (S := []) (a := 65) (pc' := 2096) dL_law_2093 rfl (Or.inl (goodW 1928 (by decide +kernel) rfl)) kM_X12_file kV_X12_file ⟨by decide, by decide, Nat.zero_le _, Nat.zero_le _, by decide⟩ rfl rfl rfl ⟨by decide, by omega⟩ (by decide +kernel) (by decide +kernel) (Nat.le_of_ble_eq_true rfl) (h1 _ (fun b d2 hI2 hs2 h5 hb0 => ?_))
  show MW mL_law (bc - 47 - 0) (bs - 8228 - 0) 2096 [(0, (5, 0)), (1, vR 0), (2, vR 65), (3, vR 74), (4, vR 75), (5, vI i), (6, vI k)] [vI b] g1 d2 Q
  rw [Nat.sub_zero (bc - 47), Nat.sub_zero (bs - 8228)]
  refine mw_istore (pc' := 2098) (L' := [(0, (5, 0)), (1, vR 0), (2, vR 65), (3, vR 74), (4, vR 75), (5, vI i), (6, vI k), (7, vI b)]) dL_law_2096 rfl (by decide) rfl ?_
  refine mw_aload_n (v := vR 65) (pc' := 2099) dL_law_2098 rfl rfl (by simp) rfl ?_
  refine mw_callV (M' := mX12_thrown) (A := []) (A' := [vR 65]) (S := []) (a := 65) (pc' := 2102) dL_law_2099 rfl (Or.inl (goodW 1679 (by decide +kernel) rfl)) kM_X12_thrown kV_X12_thrown ⟨by decide, by decide, Nat.zero_le _, Nat.zero_le _, by decide⟩ rfl rfl rfl ⟨by decide, by omega⟩ (by decide +kernel) (by decide +kernel) (Nat.le_of_ble_eq_true rfl) (eX12_thrown ?_)
  show MW mL_law (bc - 47 - 0) (bs - 8228 - 0) 2102 [(0, (5, 0)), (1, vR 0), (2, vR 65), (3, vR 74), (4, vR 75), (5, vI i), (6, vI k), (7, vI b)] [vI (d2 65 5)] g1 d2 Q
  rw [Nat.sub_zero (bc - 47), Nat.sub_zero (bs - 8228)]
  rw [h5]
  refine mw_iload (pc' := 2104) dL_law_2102 rfl rfl ?_
  refine mw_icmp_eq (tgt := 2109) (pc' := 2107) dL_law_2104 rfl (by decide) (fun _ => ?_) (fun c => absurd rfl c)
  refine mw_iload (pc' := 2111) dL_law_2109 rfl rfl ?_
  refine mw_if_ne (tgt := 2133) (pc' := 2114) dL_law_2111 rfl (by decide) (fun c => ?_) (fun c => ?_)
  · refine mw_goto (pc' := 0) (tgt := 3808) dL_law_2133 (by decide) ?_
    exact mw_loc (pc' := 0) [0, 1, 2, 3, 4, 5] rfl (mw_less ⟨by omega, by omega⟩ (h g1 d2 hI2 hs2))
  · obtain ⟨hb1, hb2⟩ := hb0 c
    refine mw_aload_n (v := vR 74) (pc' := 2115) dL_law_2114 rfl rfl (by simp) rfl ?_
    refine mw_iconst (pc' := 2116) dL_law_2115 rfl ⟨by decide, by decide⟩ ?_
    refine mw_lald (pc' := 2117) dL_law_2116 rfl (by decide +kernel) ⟨by decide, by decide⟩ (by rw [show LN 74 = 1 by decide +kernel]; exact ⟨by decide, by decide⟩) ?_
    refine mw_iload (pc' := 2119) dL_law_2117 rfl rfl ?_
    rcases hb2 with hb2 | hb2
    · rw [← hb1, hb2]
      refine mw_if_eq (tgt := 2126) (pc' := 2122) dL_law_2119 rfl (by decide) (fun _ => ?_) (fun c2 => absurd rfl c2)
      refine mw_lconst0 (pc' := 2127) dL_law_2126 rfl ?_
      refine mw_lcmp (pc' := 2128) dL_law_2127 rfl ?_
      refine mw_if_eq (tgt := 2133) (pc' := 2131) dL_law_2128 rfl (by decide) (fun _ => ?_) (fun c3 => absurd lCmp_rf c3)
      refine mw_goto (pc' := 0) (tgt := 3808) dL_law_2133 (by decide) ?_
      exact mw_loc (pc' := 0) [0, 1, 2, 3, 4, 5] rfl (mw_less ⟨by omega, by omega⟩ (h g1 d2 hI2 hs2))
    · rw [← hb1, hb2]
      refine mw_if_eq (tgt := 2126) (pc' := 2122) dL_law_2119 rfl (by decide) (fun c2 => absurd c2 (by decide)) (fun _ => ?_)
      refine mw_lconst1 (pc' := 2123) dL_law_2122 rfl ?_
      refine mw_goto (pc' := 0) (tgt := 2127) dL_law_2123 (by decide) ?_
      refine mw_lcmp (pc' := 2128) dL_law_2127 rfl ?_
      refine mw_if_eq (tgt := 2133) (pc' := 2131) dL_law_2128 rfl (by decide) (fun _ => ?_) (fun c3 => absurd lCmp_rf c3)
      refine mw_goto (pc' := 0) (tgt := 3808) dL_law_2133 (by decide) ?_
      exact mw_loc (pc' := 0) [0, 1, 2, 3, 4, 5] rfl (mw_less ⟨by omega, by omega⟩ (h g1 d2 hI2 hs2))
