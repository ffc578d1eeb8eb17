-- the cases of the law, 2
theorem lc_32 {i : Int} {bc bs : Nat} {g : mG} {d : mD} {Q : mQ} (hI : INV g d) (hi : 0 ≤ i ∧ i + 3 < d SCR (-1)) (hN : d SCR (-1) ≤ 2048) (hb : 48 ≤ bc ∧ 8234 ≤ bs) (h : ∀ g' d', INV g' d' → d' SCR = d SCR → MW mL_law (bc - 48) (bs - 8234) 3808 [(0, (5, 0)), (1, vR 0), (2, vR 65), (3, vR 74), (4, vR 75), (5, vI i)] [] g' d' Q) : MW mL_law bc bs 2136 [(0, (5, 0)), (1, vR 0), (2, vR 65), (3, vR 74), (4, vR 75), (5, vI i)] [] g d Q := by
  refine mw_top (fun hT => ?_)
  have hG : 76 ≤ g.2.1 := hT.2
  refine mw_aload_n (v := vR 0) (pc' := 2137) dL_law_2136 rfl rfl (by simp) rfl ?_
  refine mw_aload_n (v := (5, 0)) (pc' := 2138) dL_law_2137 rfl rfl (by simp) rfl ?_
  refine mw_iload (pc' := 2140) dL_law_2138 rfl rfl ?_
  refine mw_iconst (pc' := 2141) dL_law_2140 rfl ⟨by decide, by decide⟩ ?_
  refine mw_iadd (pc' := 2142) dL_law_2141 rfl (ik (by omega)) ?_
  refine mw_xld (pc' := 2143) dL_law_2142 rfl ⟨by omega, by omega⟩ ?_
  refine mw_aload_n (v := vR 74) (pc' := 2144) dL_law_2143 rfl rfl (by simp) rfl ?_
  refine mw_callSX (M' := mL_strike) (A := [vR 0, vI (d SCR (i + 1)), vR 74]) (S := []) (pc' := 2147) dL_law_2144 rfl (goodW 1176 (by decide +kernel) rfl) kM_L_strike kS_L_strike ⟨by decide, by decide, Nat.le_trans (by decide) hb.1, Nat.le_trans (by decide) hb.2, by decide⟩ rfl rfl (Nat.le_of_ble_eq_true rfl) (MM.mono ?_ (MM.scr (o_strike g d hI)))
  intro o g1 d1 hh
  obtain ⟨⟨k, ho, h1⟩, hs1⟩ := hh
  subst ho
  show MW mL_law (bc - 47) (bs - 8228) 2147 [(0, (5, 0)), (1, vR 0), (2, vR 65), (3, vR 74), (4, vR 75), (5, vI i)] [vI k] g1 d1 Q
  refine mw_top (fun hT1 => ?_)
  have hG1 : 76 ≤ g1.2.1 := hT1.2
  refine mw_istore (pc' := 2149) (L' := [(0, (5, 0)), (1, vR 0), (2, vR 65), (3, vR 74), (4, vR 75), (5, vI i), (6, vI k)]) dL_law_2147 rfl (by decide) rfl ?_
  refine mw_aload_n (v := vR 65) (pc' := 2150) dL_law_2149 rfl rfl (by simp) rfl ?_
  refine mw_aload_n (v := (5, 0)) (pc' := 2151) dL_law_2150 rfl rfl (by simp) rfl ?_
  refine mw_iload (pc' := 2153) dL_law_2151 rfl rfl ?_
  refine mw_iconst (pc' := 2154) dL_law_2153 rfl ⟨by decide, by decide⟩ ?_
  refine mw_iadd (pc' := 2155) dL_law_2154 rfl (ik (by omega)) ?_
  refine mw_xld (pc' := 2156) dL_law_2155 rfl (by rw [hs1]; exact ⟨by omega, by omega⟩) ?_
  rw [hs1]
  refine mw_callV (M' := mX12_strike) (A := [vI (d SCR (i + 1))]) (A' := [vR 65, vI (d SCR (i + 1))]) (S := []) (a := 65) (pc' := 2159) dL_law_2156 rfl (Or.inl (goodW 1932 (by decide +kernel) rfl)) kM_X12_strike kV_X12_strike ⟨by decide, by decide, Nat.zero_le _, Nat.zero_le _, by decide⟩ rfl rfl rfl ⟨by decide, by omega⟩ (by decide +kernel) (by decide +kernel) (Nat.le_of_ble_eq_true rfl) (h1 _ (fun b d2 hI2 hs2 h5 hb0 => ?_))
  show MW mL_law (bc - 47 - 0) (bs - 8228 - 0) 2159 [(0, (5, 0)), (1, vR 0), (2, vR 65), (3, vR 74), (4, vR 75), (5, vI i), (6, vI k)] [vI b] g1 d2 Q
  rw [Nat.sub_zero (bc - 47), Nat.sub_zero (bs - 8228)]
  refine mw_istore (pc' := 2161) (L' := [(0, (5, 0)), (1, vR 0), (2, vR 65), (3, vR 74), (4, vR 75), (5, vI i), (6, vI k), (7, vI b)]) dL_law_2159 rfl (by decide) rfl ?_
  refine mw_aload_n (v := vR 65) (pc' := 2162) dL_law_2161 rfl rfl (by simp) rfl ?_
  refine mw_callV (M' := mX12_thrown) (A := []) (A' := [vR 65]) (S := []) (a := 65) (pc' := 2165) dL_law_2162 rfl (Or.inl (goodW 1679 (by decide +kernel) rfl)) kM_X12_thrown kV_X12_thrown ⟨by decide, by decide, Nat.zero_le _, Nat.zero_le _, by decide⟩ rfl rfl rfl ⟨by decide, by omega⟩ (by decide +kernel) (by decide +kernel) (Nat.le_of_ble_eq_true rfl) (eX12_thrown ?_)
  show MW mL_law (bc - 47 - 0) (bs - 8228 - 0) 2165 [(0, (5, 0)), (1, vR 0), (2, vR 65), (3, vR 74), (4, vR 75), (5, vI i), (6, vI k), (7, vI b)] [vI (d2 65 5)] g1 d2 Q
  rw [Nat.sub_zero (bc - 47), Nat.sub_zero (bs - 8228)]
  rw [h5]
  refine mw_iload (pc' := 2167) dL_law_2165 rfl rfl ?_
  refine mw_icmp_eq (tgt := 2172) (pc' := 2170) dL_law_2167 rfl (by decide) (fun _ => ?_) (fun c => absurd rfl c)
  refine mw_iload (pc' := 2174) dL_law_2172 rfl rfl ?_
  refine mw_if_ne (tgt := 2189) (pc' := 2177) dL_law_2174 rfl (by decide) (fun c => ?_) (fun c => ?_)
  · refine mw_goto (pc' := 0) (tgt := 3808) dL_law_2189 (by decide) ?_
    exact mw_loc (pc' := 0) [0, 1, 2, 3, 4, 5] rfl (mw_less ⟨by omega, by omega⟩ (h g1 d2 hI2 hs2))
  · have hb1 := hb0 c
    refine mw_aload_n (v := vR 74) (pc' := 2178) dL_law_2177 rfl rfl (by simp) rfl ?_
    refine mw_iconst (pc' := 2179) dL_law_2178 rfl ⟨by decide, by decide⟩ ?_
    refine mw_lald (pc' := 2180) dL_law_2179 rfl (by decide +kernel) ⟨by decide, by decide⟩ (by rw [show LN 74 = 1 by decide +kernel]; exact ⟨by decide, by decide⟩) ?_
    refine mw_iload (pc' := 2182) dL_law_2180 rfl rfl ?_
    refine mw_i2l (pc' := 2183) dL_law_2182 rfl ?_
    refine mw_lcmp (pc' := 2184) dL_law_2183 rfl ?_
    refine mw_if_eq (tgt := 2189) (pc' := 2187) dL_law_2184 rfl (by decide) (fun _ => ?_) (fun c3 => absurd (by rw [hb1]; exact lCmp_rf) c3)
    refine mw_goto (pc' := 0) (tgt := 3808) dL_law_2189 (by decide) ?_
    exact mw_loc (pc' := 0) [0, 1, 2, 3, 4, 5] rfl (mw_less ⟨by omega, by omega⟩ (h g1 d2 hI2 hs2))
theorem lc_33 {i : Int} {bc bs : Nat} {g : mG} {d : mD} {Q : mQ} (hI : INV g d) (hi : 0 ≤ i ∧ i + 3 < d SCR (-1)) (hN : d SCR (-1) ≤ 2048) (hb : 48 ≤ bc ∧ 8234 ≤ bs) (h : ∀ g' d', INV g' d' → d' SCR = d SCR → MW mL_law (bc - 48) (bs - 8234) 3808 [(0, (5, 0)), (1, vR 0), (2, vR 65), (3, vR 74), (4, vR 75), (5, vI i)] [] g' d' Q) : MW mL_law bc bs 2192 [(0, (5, 0)), (1, vR 0), (2, vR 65), (3, vR 74), (4, vR 75), (5, vI i)] [] g d Q := by
  refine mw_top (fun hT => ?_)
  have hG : 76 ≤ g.2.1 := hT.2
  refine mw_aload_n (v := vR 0) (pc' := 2193) dL_law_2192 rfl rfl (by simp) rfl ?_
  refine mw_aload_n (v := (5, 0)) (pc' := 2194) dL_law_2193 rfl rfl (by simp) rfl ?_
  refine mw_iload (pc' := 2196) dL_law_2194 rfl rfl ?_
  refine mw_iconst (pc' := 2197) dL_law_2196 rfl ⟨by decide, by decide⟩ ?_
  refine mw_iadd (pc' := 2198) dL_law_2197 rfl (ik (by omega)) ?_
  refine mw_xld (pc' := 2199) dL_law_2198 rfl ⟨by omega, by omega⟩ ?_
  refine mw_aload_n (v := vR 74) (pc' := 2200) dL_law_2199 rfl rfl (by simp) rfl ?_
  refine mw_callSX (M' := mL_status) (A := [vR 0, vI (d SCR (i + 1)), vR 74]) (S := []) (pc' := 2203) dL_law_2200 rfl (goodW 1192 (by decide +kernel) rfl) kM_L_status kS_L_status ⟨by decide, by decide, Nat.le_trans (by decide) hb.1, Nat.le_trans (by decide) hb.2, by decide⟩ rfl rfl (Nat.le_of_ble_eq_true rfl) (MM.mono ?_ (MM.scr (o_status g d hI)))
  intro o g1 d1 hh
  obtain ⟨⟨k, ho, h1⟩, hs1⟩ := hh
  subst ho
  show MW mL_law (bc - 1) (bs - 6) 2203 [(0, (5, 0)), (1, vR 0), (2, vR 65), (3, vR 74), (4, vR 75), (5, vI i)] [vI k] g1 d1 Q
  refine mw_top (fun hT1 => ?_)
  have hG1 : 76 ≤ g1.2.1 := hT1.2
  refine mw_istore (pc' := 2205) (L' := [(0, (5, 0)), (1, vR 0), (2, vR 65), (3, vR 74), (4, vR 75), (5, vI i), (6, vI k)]) dL_law_2203 rfl (by decide) rfl ?_
  refine mw_aload_n (v := vR 65) (pc' := 2206) dL_law_2205 rfl rfl (by simp) rfl ?_
  refine mw_aload_n (v := (5, 0)) (pc' := 2207) dL_law_2206 rfl rfl (by simp) rfl ?_
  refine mw_iload (pc' := 2209) dL_law_2207 rfl rfl ?_
  refine mw_iconst (pc' := 2210) dL_law_2209 rfl ⟨by decide, by decide⟩ ?_
  refine mw_iadd (pc' := 2211) dL_law_2210 rfl (ik (by omega)) ?_
  refine mw_xld (pc' := 2212) dL_law_2211 rfl (by rw [hs1]; exact ⟨by omega, by omega⟩) ?_
  rw [hs1]
  refine mw_callV (M' := mX12_status) (A := [vI (d SCR (i + 1))]) (A' := [vR 65, vI (d SCR (i + 1))]) (S := []) (a := 65) (pc' := 2215) dL_law_2212 rfl (Or.inl (goodW 1936 (by decide +kernel) rfl)) kM_X12_status kV_X12_status ⟨by decide, by decide, Nat.zero_le _, Nat.zero_le _, by decide⟩ rfl rfl rfl ⟨by decide, by omega⟩ (by decide +kernel) (by decide +kernel) (Nat.le_of_ble_eq_true rfl) (h1 _ (fun b d2 hI2 hs2 h5 hb0 => ?_))
  show MW mL_law (bc - 1) (bs - 6) 2215 [(0, (5, 0)), (1, vR 0), (2, vR 65), (3, vR 74), (4, vR 75), (5, vI i), (6, vI k)] [vI b] g1 d2 Q
  refine mw_istore (pc' := 2217) (L' := [(0, (5, 0)), (1, vR 0), (2, vR 65), (3, vR 74), (4, vR 75), (5, vI i), (6, vI k), (7, vI b)]) dL_law_2215 rfl (by decide) rfl ?_
  refine mw_aload_n (v := vR 65) (pc' := 2218) dL_law_2217 rfl rfl (by simp) rfl ?_
  refine mw_callV (M' := mX12_thrown) (A := []) (A' := [vR 65]) (S := []) (a := 65) (pc' := 2221) dL_law_2218 rfl (Or.inl (goodW 1679 (by decide +kernel) rfl)) kM_X12_thrown kV_X12_thrown ⟨by decide, by decide, Nat.zero_le _, Nat.zero_le _, by decide⟩ rfl rfl rfl ⟨by decide, by omega⟩ (by decide +kernel) (by decide +kernel) (Nat.le_of_ble_eq_true rfl) (eX12_thrown ?_)
  show MW mL_law (bc - 1) (bs - 6) 2221 [(0, (5, 0)), (1, vR 0), (2, vR 65), (3, vR 74), (4, vR 75), (5, vI i), (6, vI k), (7, vI b)] [vI (d2 65 5)] g1 d2 Q
  rw [h5]
  refine mw_iload (pc' := 2223) dL_law_2221 rfl rfl ?_
  refine mw_icmp_eq (tgt := 2228) (pc' := 2226) dL_law_2223 rfl (by decide) (fun _ => ?_) (fun c => absurd rfl c)
  refine mw_iload (pc' := 2230) dL_law_2228 rfl rfl ?_
  refine mw_if_ne (tgt := 2245) (pc' := 2233) dL_law_2230 rfl (by decide) (fun c => ?_) (fun c => ?_)
  · refine mw_goto (pc' := 0) (tgt := 3808) dL_law_2245 (by decide) ?_
    exact mw_loc (pc' := 0) [0, 1, 2, 3, 4, 5] rfl (mw_less ⟨by omega, by omega⟩ (h g1 d2 hI2 hs2))
  · have hb1 := hb0 c
    refine mw_aload_n (v := vR 74) (pc' := 2234) dL_law_2233 rfl rfl (by simp) rfl ?_
    refine mw_iconst (pc' := 2235) dL_law_2234 rfl ⟨by decide, by decide⟩ ?_
    refine mw_lald (pc' := 2236) dL_law_2235 rfl (by decide +kernel) ⟨by decide, by decide⟩ (by rw [show LN 74 = 1 by decide +kernel]; exact ⟨by decide, by decide⟩) ?_
    refine mw_iload (pc' := 2238) dL_law_2236 rfl rfl ?_
    refine mw_i2l (pc' := 2239) dL_law_2238 rfl ?_
    refine mw_lcmp (pc' := 2240) dL_law_2239 rfl ?_
    refine mw_if_eq (tgt := 2245) (pc' := 2243) dL_law_2240 rfl (by decide) (fun _ => ?_) (fun c3 => absurd (by rw [hb1]; exact lCmp_rf) c3)
    refine mw_goto (pc' := 0) (tgt := 3808) dL_law_2245 (by decide) ?_
    exact mw_loc (pc' := 0) [0, 1, 2, 3, 4, 5] rfl (mw_less ⟨by omega, by omega⟩ (h g1 d2 hI2 hs2))
theorem lc_34 {i : Int} {bc bs : Nat} {g : mG} {d : mD} {Q : mQ} (hI : INV g d) (hi : 0 ≤ i ∧ i + 3 < d SCR (-1)) (hN : d SCR (-1) ≤ 2048) (hb : 48 ≤ bc ∧ 8234 ≤ bs) (h : ∀ g' d', INV g' d' → d' SCR = d SCR → MW mL_law (bc - 48) (bs - 8234) 3808 [(0, (5, 0)), (1, vR 0), (2, vR 65), (3, vR 74), (4, vR 75), (5, vI i)] [] g' d' Q) : MW mL_law bc bs 2248 [(0, (5, 0)), (1, vR 0), (2, vR 65), (3, vR 74), (4, vR 75), (5, vI i)] [] g d Q := by
  refine mw_top (fun hT => ?_)
  have hG : 76 ≤ g.2.1 := hT.2
  refine mw_aload_n (v := vR 0) (pc' := 2249) dL_law_2248 rfl rfl (by simp) rfl ?_
  refine mw_aload_n (v := (5, 0)) (pc' := 2250) dL_law_2249 rfl rfl (by simp) rfl ?_
  refine mw_iload (pc' := 2252) dL_law_2250 rfl rfl ?_
  refine mw_iconst (pc' := 2253) dL_law_2252 rfl ⟨by decide, by decide⟩ ?_
  refine mw_iadd (pc' := 2254) dL_law_2253 rfl (ik (by omega)) ?_
  refine mw_xld (pc' := 2255) dL_law_2254 rfl ⟨by omega, by omega⟩ ?_
  refine mw_aload_n (v := vR 74) (pc' := 2256) dL_law_2255 rfl rfl (by simp) rfl ?_
  refine mw_callSX (M' := mL_openAt) (A := [vR 0, vI (d SCR (i + 1)), vR 74]) (S := []) (pc' := 2259) dL_law_2256 rfl (goodW 1199 (by decide +kernel) rfl) kM_L_openAt kS_L_openAt ⟨by decide, by decide, Nat.le_trans (by decide) hb.1, Nat.le_trans (by decide) hb.2, by decide⟩ rfl rfl (Nat.le_of_ble_eq_true rfl) (MM.mono ?_ (MM.scr (o_openAt g d hI)))
  intro o g1 d1 hh
  obtain ⟨⟨k, ho, h1⟩, hs1⟩ := hh
  subst ho
  show MW mL_law (bc - 1) (bs - 6) 2259 [(0, (5, 0)), (1, vR 0), (2, vR 65), (3, vR 74), (4, vR 75), (5, vI i)] [vI k] g1 d1 Q
  refine mw_top (fun hT1 => ?_)
  have hG1 : 76 ≤ g1.2.1 := hT1.2
  refine mw_istore (pc' := 2261) (L' := [(0, (5, 0)), (1, vR 0), (2, vR 65), (3, vR 74), (4, vR 75), (5, vI i), (6, vI k)]) dL_law_2259 rfl (by decide) rfl ?_
  refine mw_aload_n (v := vR 65) (pc' := 2262) dL_law_2261 rfl rfl (by simp) rfl ?_
  refine mw_aload_n (v := (5, 0)) (pc' := 2263) dL_law_2262 rfl rfl (by simp) rfl ?_
  refine mw_iload (pc' := 2265) dL_law_2263 rfl rfl ?_
  refine mw_iconst (pc' := 2266) dL_law_2265 rfl ⟨by decide, by decide⟩ ?_
  refine mw_iadd (pc' := 2267) dL_law_2266 rfl (ik (by omega)) ?_
  refine mw_xld (pc' := 2268) dL_law_2267 rfl (by rw [hs1]; exact ⟨by omega, by omega⟩) ?_
  rw [hs1]
  refine mw_callV (M' := mX12_openAt) (A := [vI (d SCR (i + 1))]) (A' := [vR 65, vI (d SCR (i + 1))]) (S := []) (a := 65) (pc' := 2271) dL_law_2268 rfl (Or.inl (goodW 1940 (by decide +kernel) rfl)) kM_X12_openAt kV_X12_openAt ⟨by decide, by decide, Nat.zero_le _, Nat.zero_le _, by decide⟩ rfl rfl rfl ⟨by decide, by omega⟩ (by decide +kernel) (by decide +kernel) (Nat.le_of_ble_eq_true rfl) (h1 _ (fun b d2 hI2 hs2 h5 hb0 => ?_))
  show MW mL_law (bc - 1) (bs - 6) 2271 [(0, (5, 0)), (1, vR 0), (2, vR 65), (3, vR 74), (4, vR 75), (5, vI i), (6, vI k)] [vI b] g1 d2 Q
  refine mw_istore (pc' := 2273) (L' := [(0, (5, 0)), (1, vR 0), (2, vR 65), (3, vR 74), (4, vR 75), (5, vI i), (6, vI k), (7, vI b)]) dL_law_2271 rfl (by decide) rfl ?_
  refine mw_aload_n (v := vR 65) (pc' := 2274) dL_law_2273 rfl rfl (by simp) rfl ?_
  refine mw_callV (M' := mX12_thrown) (A := []) (A' := [vR 65]) (S := []) (a := 65) (pc' := 2277) dL_law_2274 rfl (Or.inl (goodW 1679 (by decide +kernel) rfl)) kM_X12_thrown kV_X12_thrown ⟨by decide, by decide, Nat.zero_le _, Nat.zero_le _, by decide⟩ rfl rfl rfl ⟨by decide, by omega⟩ (by decide +kernel) (by decide +kernel) (Nat.le_of_ble_eq_true rfl) (eX12_thrown ?_)
  show MW mL_law (bc - 1) (bs - 6) 2277 [(0, (5, 0)), (1, vR 0), (2, vR 65), (3, vR 74), (4, vR 75), (5, vI i), (6, vI k), (7, vI b)] [vI (d2 65 5)] g1 d2 Q
  rw [h5]
  refine mw_iload (pc' := 2279) dL_law_2277 rfl rfl ?_
  refine mw_icmp_eq (tgt := 2284) (pc' := 2282) dL_law_2279 rfl (by decide) (fun _ => ?_) (fun c => absurd rfl c)
  refine mw_iload (pc' := 2286) dL_law_2284 rfl rfl ?_
  refine mw_if_ne (tgt := 2301) (pc' := 2289) dL_law_2286 rfl (by decide) (fun c => ?_) (fun c => ?_)
  · refine mw_goto (pc' := 0) (tgt := 3808) dL_law_2301 (by decide) ?_
    exact mw_loc (pc' := 0) [0, 1, 2, 3, 4, 5] rfl (mw_less ⟨by omega, by omega⟩ (h g1 d2 hI2 hs2))
  · have hb1 := hb0 c
    refine mw_aload_n (v := vR 74) (pc' := 2290) dL_law_2289 rfl rfl (by simp) rfl ?_
    refine mw_iconst (pc' := 2291) dL_law_2290 rfl ⟨by decide, by decide⟩ ?_
    refine mw_lald (pc' := 2292) dL_law_2291 rfl (by decide +kernel) ⟨by decide, by decide⟩ (by rw [show LN 74 = 1 by decide +kernel]; exact ⟨by decide, by decide⟩) ?_
    refine mw_iload (pc' := 2294) dL_law_2292 rfl rfl ?_
    refine mw_i2l (pc' := 2295) dL_law_2294 rfl ?_
    refine mw_lcmp (pc' := 2296) dL_law_2295 rfl ?_
    refine mw_if_eq (tgt := 2301) (pc' := 2299) dL_law_2296 rfl (by decide) (fun _ => ?_) (fun c3 => absurd (by rw [hb1]; exact lCmp_rf) c3)
    refine mw_goto (pc' := 0) (tgt := 3808) dL_law_2301 (by decide) ?_
    exact mw_loc (pc' := 0) [0, 1, 2, 3, 4, 5] rfl (mw_less ⟨by omega, by omega⟩ (h g1 d2 hI2 hs2))
theorem lc_35 {i : Int} {bc bs : Nat} {g : mG} {d : mD} {Q : mQ} (hI : INV g d) (hi : 0 ≤ i ∧ i + 3 < d SCR (-1)) (hN : d SCR (-1) ≤ 2048) (hb : 48 ≤ bc ∧ 8234 ≤ bs) (h : ∀ g' d', INV g' d' → d' SCR = d SCR → MW mL_law (bc - 48) (bs - 8234) 3808 [(0, (5, 0)), (1, vR 0), (2, vR 65), (3, vR 74), (4, vR 75), (5, vI i)] [] g' d' Q) : MW mL_law bc bs 2304 [(0, (5, 0)), (1, vR 0), (2, vR 65), (3, vR 74), (4, vR 75), (5, vI i)] [] g d Q := by
  refine mw_top (fun hT => ?_)
  have hG : 76 ≤ g.2.1 := hT.2
  refine mw_aload_n (v := vR 0) (pc' := 2305) dL_law_2304 rfl rfl (by simp) rfl ?_
  refine mw_callV (M' := mX11_overdue) (A := []) (A' := [vR 0]) (S := []) (a := 0) (pc' := 2308) dL_law_2305 rfl (Or.inl (goodW 405 (by decide +kernel) rfl)) kM_X11_overdue kV_X11_overdue ⟨by decide, by decide, Nat.zero_le _, Nat.zero_le _, by decide⟩ rfl rfl rfl ⟨by decide, by omega⟩ (by decide +kernel) (by decide +kernel) (Nat.le_of_ble_eq_true rfl) (MM.mono ?_ (o_overdue g d hI))
  intro o g1 d1 hh
  obtain ⟨k, ho, h1⟩ := hh
  subst ho
  show MW mL_law bc bs 2308 [(0, (5, 0)), (1, vR 0), (2, vR 65), (3, vR 74), (4, vR 75), (5, vI i)] [vI k] g1 d1 Q
  refine mw_top (fun hT1 => ?_)
  have hG1 : 76 ≤ g1.2.1 := hT1.2
  refine mw_aload_n (v := vR 65) (pc' := 2309) dL_law_2308 rfl rfl (by simp) rfl ?_
  refine mw_callV (M' := mX12_overdue) (A := []) (A' := [vR 65]) (S := [vI k]) (a := 65) (pc' := 2312) dL_law_2309 rfl (Or.inl (goodW 1948 (by decide +kernel) rfl)) kM_X12_overdue kV_X12_overdue ⟨by decide, by decide, Nat.zero_le _, Nat.zero_le _, by decide⟩ rfl rfl rfl ⟨by decide, by omega⟩ (by decide +kernel) (by decide +kernel) (Nat.le_of_ble_eq_true rfl) (h1 _ (fun b d2 hI2 hs2 hb0 => ?_))
  show MW mL_law bc bs 2312 [(0, (5, 0)), (1, vR 0), (2, vR 65), (3, vR 74), (4, vR 75), (5, vI i)] [vI b, vI k] g1 d2 Q
  refine mw_icmp_eq (tgt := 3808) (pc' := 2315) dL_law_2312 rfl (by decide) (fun _ => ?_) (fun c => absurd hb0.symm c)
  exact mw_less ⟨by omega, by omega⟩ (h g1 d2 hI2 hs2)
theorem lc_36 {i : Int} {bc bs : Nat} {g : mG} {d : mD} {Q : mQ} (hI : INV g d) (hi : 0 ≤ i ∧ i + 3 < d SCR (-1)) (hN : d SCR (-1) ≤ 2048) (hb : 48 ≤ bc ∧ 8234 ≤ bs) (h : ∀ g' d', INV g' d' → d' SCR = d SCR → MW mL_law (bc - 48) (bs - 8234) 3808 [(0, (5, 0)), (1, vR 0), (2, vR 65), (3, vR 74), (4, vR 75), (5, vI i)] [] g' d' Q) : MW mL_law bc bs 2317 [(0, (5, 0)), (1, vR 0), (2, vR 65), (3, vR 74), (4, vR 75), (5, vI i)] [] g d Q := by
  refine mw_top (fun hT => ?_)
  have hG : 76 ≤ g.2.1 := hT.2
  refine mw_aload_n (v := vR 0) (pc' := 2318) dL_law_2317 rfl rfl (by simp) rfl ?_
  refine mw_aload_n (v := vR 74) (pc' := 2319) dL_law_2318 rfl rfl (by simp) rfl ?_
  refine mw_callSX (M' := mL_busiestDay) (A := [vR 0, vR 74]) (S := []) (pc' := 2322) dL_law_2319 rfl (goodW 1211 (by decide +kernel) rfl) kM_L_busiestDay kS_L_busiestDay ⟨by decide, by decide, Nat.le_trans (by decide) hb.1, Nat.le_trans (by decide) hb.2, by decide⟩ rfl rfl (Nat.le_of_ble_eq_true rfl) (MM.mono ?_ (MM.scr (o_busiestDay g d hI)))
  intro o g1 d1 hh
  obtain ⟨⟨k, ho, h1⟩, hs1⟩ := hh
  subst ho
  show MW mL_law (bc - 1) (bs - 6) 2322 [(0, (5, 0)), (1, vR 0), (2, vR 65), (3, vR 74), (4, vR 75), (5, vI i)] [vI k] g1 d1 Q
  refine mw_top (fun hT1 => ?_)
  have hG1 : 76 ≤ g1.2.1 := hT1.2
  refine mw_istore (pc' := 2324) (L' := [(0, (5, 0)), (1, vR 0), (2, vR 65), (3, vR 74), (4, vR 75), (5, vI i), (6, vI k)]) dL_law_2322 rfl (by decide) rfl ?_
  refine mw_aload_n (v := vR 65) (pc' := 2325) dL_law_2324 rfl rfl (by simp) rfl ?_
  refine mw_callV (M' := mX12_busiestDay) (A := []) (A' := [vR 65]) (S := []) (a := 65) (pc' := 2328) dL_law_2325 rfl (Or.inl (goodW 1952 (by decide +kernel) rfl)) kM_X12_busiestDay kV_X12_busiestDay ⟨by decide, by decide, Nat.zero_le _, Nat.zero_le _, by decide⟩ rfl rfl rfl ⟨by decide, by omega⟩ (by decide +kernel) (by decide +kernel) (Nat.le_of_ble_eq_true rfl) (h1 _ (fun b d2 hI2 hs2 h5 hb0 => ?_))
  show MW mL_law (bc - 1) (bs - 6) 2328 [(0, (5, 0)), (1, vR 0), (2, vR 65), (3, vR 74), (4, vR 75), (5, vI i), (6, vI k)] [vI b] g1 d2 Q
  refine mw_istore (pc' := 2330) (L' := [(0, (5, 0)), (1, vR 0), (2, vR 65), (3, vR 74), (4, vR 75), (5, vI i), (6, vI k), (7, vI b)]) dL_law_2328 rfl (by decide) rfl ?_
  refine mw_aload_n (v := vR 65) (pc' := 2331) dL_law_2330 rfl rfl (by simp) rfl ?_
  refine mw_callV (M' := mX12_thrown) (A := []) (A' := [vR 65]) (S := []) (a := 65) (pc' := 2334) dL_law_2331 rfl (Or.inl (goodW 1679 (by decide +kernel) rfl)) kM_X12_thrown kV_X12_thrown ⟨by decide, by decide, Nat.zero_le _, Nat.zero_le _, by decide⟩ rfl rfl rfl ⟨by decide, by omega⟩ (by decide +kernel) (by decide +kernel) (Nat.le_of_ble_eq_true rfl) (eX12_thrown ?_)
  show MW mL_law (bc - 1) (bs - 6) 2334 [(0, (5, 0)), (1, vR 0), (2, vR 65), (3, vR 74), (4, vR 75), (5, vI i), (6, vI k), (7, vI b)] [vI (d2 65 5)] g1 d2 Q
  rw [h5]
  refine mw_iload (pc' := 2336) dL_law_2334 rfl rfl ?_
  refine mw_icmp_eq (tgt := 2341) (pc' := 2339) dL_law_2336 rfl (by decide) (fun _ => ?_) (fun c => absurd rfl c)
  refine mw_iload (pc' := 2343) dL_law_2341 rfl rfl ?_
  refine mw_if_ne (tgt := 2358) (pc' := 2346) dL_law_2343 rfl (by decide) (fun c => ?_) (fun c => ?_)
  · refine mw_goto (pc' := 0) (tgt := 3808) dL_law_2358 (by decide) ?_
    exact mw_loc (pc' := 0) [0, 1, 2, 3, 4, 5] rfl (mw_less ⟨by omega, by omega⟩ (h g1 d2 hI2 hs2))
  · have hb1 := hb0 c
    refine mw_aload_n (v := vR 74) (pc' := 2347) dL_law_2346 rfl rfl (by simp) rfl ?_
    refine mw_iconst (pc' := 2348) dL_law_2347 rfl ⟨by decide, by decide⟩ ?_
    refine mw_lald (pc' := 2349) dL_law_2348 rfl (by decide +kernel) ⟨by decide, by decide⟩ (by rw [show LN 74 = 1 by decide +kernel]; exact ⟨by decide, by decide⟩) ?_
    refine mw_iload (pc' := 2351) dL_law_2349 rfl rfl ?_
    refine mw_i2l (pc' := 2352) dL_law_2351 rfl ?_
    refine mw_lcmp (pc' := 2353) dL_law_2352 rfl ?_
    refine mw_if_eq (tgt := 2358) (pc' := 2356) dL_law_2353 rfl (by decide) (fun _ => ?_) (fun c3 => absurd (by rw [hb1]; exact lCmp_rf) c3)
    refine mw_goto (pc' := 0) (tgt := 3808) dL_law_2358 (by decide) ?_
    exact mw_loc (pc' := 0) [0, 1, 2, 3, 4, 5] rfl (mw_less ⟨by omega, by omega⟩ (h g1 d2 hI2 hs2))
theorem lc_37 {i : Int} {bc bs : Nat} {g : mG} {d : mD} {Q : mQ} (hI : INV g d) (hi : 0 ≤ i ∧ i + 3 < d SCR (-1)) (hN : d SCR (-1) ≤ 2048) (hb : 48 ≤ bc ∧ 8234 ≤ bs) (h : ∀ g' d', INV g' d' → d' SCR = d SCR → MW mL_law (bc - 48) (bs - 8234) 3808 [(0, (5, 0)), (1, vR 0), (2, vR 65), (3, vR 74), (4, vR 75), (5, vI i)] [] g' d' Q) : MW mL_law bc bs 2361 [(0, (5, 0)), (1, vR 0), (2, vR 65), (3, vR 74), (4, vR 75), (5, vI i)] [] g d Q := by
  refine mw_top (fun hT => ?_)
  have hG : 76 ≤ g.2.1 := hT.2
  refine mw_aload_n (v := vR 0) (pc' := 2362) dL_law_2361 rfl rfl (by simp) rfl ?_
  refine mw_aload (v := vR 75) (pc' := 2364) dL_law_2362 rfl (by simp) rfl ?_
  refine mw_callSX (M' := mL_meanDaysLeft) (A := [vR 0, vR 75]) (S := []) (pc' := 2367) dL_law_2364 rfl (goodW 1222 (by decide +kernel) rfl) kM_L_meanDaysLeft kS_L_meanDaysLeft ⟨by decide, by decide, Nat.le_trans (by decide) hb.1, Nat.le_trans (by decide) hb.2, by decide⟩ rfl rfl (Nat.le_of_ble_eq_true rfl) (MM.mono ?_ (MM.scr (o_meanDaysLeft g d hI)))
  intro o g1 d1 hh
  obtain ⟨⟨k, ho, h1⟩, hs1⟩ := hh
  subst ho
  show MW mL_law (bc - 1) (bs - 6) 2367 [(0, (5, 0)), (1, vR 0), (2, vR 65), (3, vR 74), (4, vR 75), (5, vI i)] [vI k] g1 d1 Q
  refine mw_top (fun hT1 => ?_)
  have hG1 : 76 ≤ g1.2.1 := hT1.2
  refine mw_istore (pc' := 2369) (L' := [(0, (5, 0)), (1, vR 0), (2, vR 65), (3, vR 74), (4, vR 75), (5, vI i), (6, vI k)]) dL_law_2367 rfl (by decide) rfl ?_
  refine mw_aload_n (v := vR 65) (pc' := 2370) dL_law_2369 rfl rfl (by simp) rfl ?_
  refine mw_callV (M' := mX12_meanDaysLeft) (A := []) (A' := [vR 65]) (S := []) (a := 65) (pc' := 2373) dL_law_2370 rfl (Or.inl (goodW 1956 (by decide +kernel) rfl)) kM_X12_meanDaysLeft kV_X12_meanDaysLeft ⟨by decide, by decide, Nat.zero_le _, Nat.zero_le _, by decide⟩ rfl rfl rfl ⟨by decide, by omega⟩ (by decide +kernel) (by decide +kernel) (Nat.le_of_ble_eq_true rfl) (h1 _ (fun b d2 hI2 hs2 h5 hb0 => ?_))
  show MW mL_law (bc - 1) (bs - 6) 2373 [(0, (5, 0)), (1, vR 0), (2, vR 65), (3, vR 74), (4, vR 75), (5, vI i), (6, vI k)] [vD b] g1 d2 Q
  refine mw_dstore (pc' := 2375) (L' := [(0, (5, 0)), (1, vR 0), (2, vR 65), (3, vR 74), (4, vR 75), (5, vI i), (6, vI k), (7, vD b)]) dL_law_2373 rfl (by decide) rfl ?_
  refine mw_aload_n (v := vR 65) (pc' := 2376) dL_law_2375 rfl rfl (by simp) rfl ?_
  refine mw_callV (M' := mX12_thrown) (A := []) (A' := [vR 65]) (S := []) (a := 65) (pc' := 2379) dL_law_2376 rfl (Or.inl (goodW 1679 (by decide +kernel) rfl)) kM_X12_thrown kV_X12_thrown ⟨by decide, by decide, Nat.zero_le _, Nat.zero_le _, by decide⟩ rfl rfl rfl ⟨by decide, by omega⟩ (by decide +kernel) (by decide +kernel) (Nat.le_of_ble_eq_true rfl) (eX12_thrown ?_)
  show MW mL_law (bc - 1) (bs - 6) 2379 [(0, (5, 0)), (1, vR 0), (2, vR 65), (3, vR 74), (4, vR 75), (5, vI i), (6, vI k), (7, vD b)] [vI (d2 65 5)] g1 d2 Q
  rw [h5]
  refine mw_iload (pc' := 2381) dL_law_2379 rfl rfl ?_
  refine mw_icmp_eq (tgt := 2386) (pc' := 2384) dL_law_2381 rfl (by decide) (fun _ => ?_) (fun c => absurd rfl c)
  refine mw_iload (pc' := 2388) dL_law_2386 rfl rfl ?_
  refine mw_if_ne (tgt := 2423) (pc' := 2391) dL_law_2388 rfl (by decide) (fun c => ?_) (fun c => ?_)
  · refine mw_goto (pc' := 0) (tgt := 3808) dL_law_2423 (by decide) ?_
    exact mw_loc (pc' := 0) [0, 1, 2, 3, 4, 5] rfl (mw_less ⟨by omega, by omega⟩ (h g1 d2 hI2 hs2))
  · have hb1 := hb0 c
    refine mw_aload (v := vR 75) (pc' := 2393) dL_law_2391 rfl (by simp) rfl ?_
    refine mw_iconst (pc' := 2394) dL_law_2393 rfl ⟨by decide, by decide⟩ ?_
    refine mw_dald (pc' := 2395) dL_law_2394 rfl (by decide +kernel) ⟨by decide, by decide⟩ (by rw [show LN 75 = 1 by decide +kernel]; exact ⟨by decide, by decide⟩) ?_
    refine mw_dload (pc' := 2397) dL_law_2395 rfl rfl ?_
    refine mw_dcmp (pc' := 2398) dL_law_2397 rfl ?_
    rw [hb1]
    refine mw_if_eq (tgt := 2423) (pc' := 2401) dL_law_2398 rfl (by decide) (fun _ => ?_) (fun c3 => ?_)
    · refine mw_goto (pc' := 0) (tgt := 3808) dL_law_2423 (by decide) ?_
      exact mw_loc (pc' := 0) [0, 1, 2, 3, 4, 5] rfl (mw_less ⟨by omega, by omega⟩ (h g1 d2 hI2 hs2))
    · refine mw_aload (v := vR 75) (pc' := 2403) dL_law_2401 rfl (by simp) rfl ?_
      refine mw_iconst (pc' := 2404) dL_law_2403 rfl ⟨by decide, by decide⟩ ?_
      refine mw_dald (pc' := 2405) dL_law_2404 rfl (by decide +kernel) ⟨by decide, by decide⟩ (by rw [show LN 75 = 1 by decide +kernel]; exact ⟨by decide, by decide⟩) ?_
      refine mw_aload (v := vR 75) (pc' := 2407) dL_law_2405 rfl (by simp) rfl ?_
      refine mw_iconst (pc' := 2408) dL_law_2407 rfl ⟨by decide, by decide⟩ ?_
      refine mw_dald (pc' := 2409) dL_law_2408 rfl (by decide +kernel) ⟨by decide, by decide⟩ (by rw [show LN 75 = 1 by decide +kernel]; exact ⟨by decide, by decide⟩) ?_
      refine mw_dcmp (pc' := 2410) dL_law_2409 rfl ?_
      refine mw_if_eq (tgt := 2421) (pc' := 2413) dL_law_2410 rfl (by decide) (fun c4 => absurd c4 c3) (fun _ => ?_)
      refine mw_dload (pc' := 2415) dL_law_2413 rfl rfl ?_
      refine mw_dload (pc' := 2417) dL_law_2415 rfl rfl ?_
      refine mw_dcmp (pc' := 2418) dL_law_2417 rfl ?_
      try rw [hb1]
      refine mw_if_ne (tgt := 2423) (pc' := 2421) dL_law_2418 rfl (by decide) (fun _ => ?_) (fun c4 => absurd c4 c3)
      refine mw_goto (pc' := 0) (tgt := 3808) dL_law_2423 (by decide) ?_
      exact mw_loc (pc' := 0) [0, 1, 2, 3, 4, 5] rfl (mw_less ⟨by omega, by omega⟩ (h g1 d2 hI2 hs2))
theorem lc_38 {i : Int} {bc bs : Nat} {g : mG} {d : mD} {Q : mQ} (hI : INV g d) (hi : 0 ≤ i ∧ i + 3 < d SCR (-1)) (hN : d SCR (-1) ≤ 2048) (hb : 48 ≤ bc ∧ 8234 ≤ bs) (h : ∀ g' d', INV g' d' → d' SCR = d SCR → MW mL_law (bc - 48) (bs - 8234) 3808 [(0, (5, 0)), (1, vR 0), (2, vR 65), (3, vR 74), (4, vR 75), (5, vI i)] [] g' d' Q) : MW mL_law bc bs 2426 [(0, (5, 0)), (1, vR 0), (2, vR 65), (3, vR 74), (4, vR 75), (5, vI i)] [] g d Q := by
  refine mw_top (fun hT => ?_)
  have hG : 76 ≤ g.2.1 := hT.2
  refine mw_aload_n (v := vR 0) (pc' := 2427) dL_law_2426 rfl rfl (by simp) rfl ?_
  refine mw_aload_n (v := (5, 0)) (pc' := 2428) dL_law_2427 rfl rfl (by simp) rfl ?_
  refine mw_iload (pc' := 2430) dL_law_2428 rfl rfl ?_
  refine mw_iconst (pc' := 2431) dL_law_2430 rfl ⟨by decide, by decide⟩ ?_
  refine mw_iadd (pc' := 2432) dL_law_2431 rfl (ik (by omega)) ?_
  refine mw_xld (pc' := 2433) dL_law_2432 rfl ⟨by omega, by omega⟩ ?_
  refine mw_aload_n (v := (5, 0)) (pc' := 2434) dL_law_2433 rfl rfl (by simp) rfl ?_
  refine mw_iload (pc' := 2436) dL_law_2434 rfl rfl ?_
  refine mw_iconst (pc' := 2437) dL_law_2436 rfl ⟨by decide, by decide⟩ ?_
  refine mw_iadd (pc' := 2438) dL_law_2437 rfl (ik (by omega)) ?_
  refine mw_xld (pc' := 2439) dL_law_2438 rfl ⟨by omega, by omega⟩ ?_
  refine mw_aload_n (v := vR 74) (pc' := 2440) dL_law_2439 rfl rfl (by simp) rfl ?_
  refine mw_callSX (M' := mL_stayParty) (A := [vR 0, vI (d SCR (i + 1)), vI (d SCR (i + 2)), vR 74]) (S := []) (pc' := 2443) dL_law_2440 rfl (goodW 1246 (by decide +kernel) rfl) kM_L_stayParty kS_L_stayParty ⟨by decide, by decide, Nat.le_trans (by decide) hb.1, Nat.le_trans (by decide) hb.2, by decide⟩ rfl rfl (Nat.le_of_ble_eq_true rfl) (MM.mono ?_ (MM.scr (o_stayParty g d hI)))
  intro o g1 d1 hh
  obtain ⟨⟨k, ho, h1⟩, hs1⟩ := hh
  subst ho
  show MW mL_law (bc - 47) (bs - 8228) 2443 [(0, (5, 0)), (1, vR 0), (2, vR 65), (3, vR 74), (4, vR 75), (5, vI i)] [vI k] g1 d1 Q
  refine mw_top (fun hT1 => ?_)
  have hG1 : 76 ≤ g1.2.1 := hT1.2
  refine mw_istore (pc' := 2445) (L' := [(0, (5, 0)), (1, vR 0), (2, vR 65), (3, vR 74), (4, vR 75), (5, vI i), (6, vI k)]) dL_law_2443 rfl (by decide) rfl ?_
  refine mw_aload_n (v := vR 65) (pc' := 2446) dL_law_2445 rfl rfl (by simp) rfl ?_
  refine mw_aload_n (v := (5, 0)) (pc' := 2447) dL_law_2446 rfl rfl (by simp) rfl ?_
  refine mw_iload (pc' := 2449) dL_law_2447 rfl rfl ?_
  refine mw_iconst (pc' := 2450) dL_law_2449 rfl ⟨by decide, by decide⟩ ?_
  refine mw_iadd (pc' := 2451) dL_law_2450 rfl (ik (by omega)) ?_
  refine mw_xld (pc' := 2452) dL_law_2451 rfl (by rw [hs1]; exact ⟨by omega, by omega⟩) ?_
  rw [hs1]
  refine mw_aload_n (v := (5, 0)) (pc' := 2453) dL_law_2452 rfl rfl (by simp) rfl ?_
  refine mw_iload (pc' := 2455) dL_law_2453 rfl rfl ?_
  refine mw_iconst (pc' := 2456) dL_law_2455 rfl ⟨by decide, by decide⟩ ?_
  refine mw_iadd (pc' := 2457) dL_law_2456 rfl (ik (by omega)) ?_
  refine mw_xld (pc' := 2458) dL_law_2457 rfl (by rw [hs1]; exact ⟨by omega, by omega⟩) ?_
  rw [hs1]
  refine mw_callV (M' := mX12_stayParty) (A := [vI (d SCR (i + 1)), vI (d SCR (i + 2))]) (A' := [vR 65, vI (d SCR (i + 1)), vI (d SCR (i + 2))]) (S := []) (a := 65) (pc' := 2461) dL_law_2458 rfl (Or.inl (goodW 1960 (by decide +kernel) rfl)) kM_X12_stayParty kV_X12_stayParty ⟨by decide, by decide, Nat.zero_le _, Nat.zero_le _, by decide⟩ rfl rfl rfl ⟨by decide, by omega⟩ (by decide +kernel) (by decide +kernel) (Nat.le_of_ble_eq_true rfl) (h1 _ (fun b d2 hI2 hs2 h5 hb0 => ?_))
  show MW mL_law (bc - 47 - 0) (bs - 8228 - 0) 2461 [(0, (5, 0)), (1, vR 0), (2, vR 65), (3, vR 74), (4, vR 75), (5, vI i), (6, vI k)] [vI b] g1 d2 Q
  rw [Nat.sub_zero (bc - 47), Nat.sub_zero (bs - 8228)]
  refine mw_istore (pc' := 2463) (L' := [(0, (5, 0)), (1, vR 0), (2, vR 65), (3, vR 74), (4, vR 75), (5, vI i), (6, vI k), (7, vI b)]) dL_law_2461 rfl (by decide) rfl ?_
  refine mw_aload_n (v := vR 65) (pc' := 2464) dL_law_2463 rfl rfl (by simp) rfl ?_
  refine mw_callV (M' := mX12_thrown) (A := []) (A' := [vR 65]) (S := []) (a := 65) (pc' := 2467) dL_law_2464 rfl (Or.inl (goodW 1679 (by decide +kernel) rfl)) kM_X12_thrown kV_X12_thrown ⟨by decide, by decide, Nat.zero_le _, Nat.zero_le _, by decide⟩ rfl rfl rfl ⟨by decide, by omega⟩ (by decide +kernel) (by decide +kernel) (Nat.le_of_ble_eq_true rfl) (eX12_thrown ?_)
  show MW mL_law (bc - 47 - 0) (bs - 8228 - 0) 2467 [(0, (5, 0)), (1, vR 0), (2, vR 65), (3, vR 74), (4, vR 75), (5, vI i), (6, vI k), (7, vI b)] [vI (d2 65 5)] g1 d2 Q
  rw [Nat.sub_zero (bc - 47), Nat.sub_zero (bs - 8228)]
  rw [h5]
  refine mw_iload (pc' := 2469) dL_law_2467 rfl rfl ?_
  refine mw_icmp_eq (tgt := 2474) (pc' := 2472) dL_law_2469 rfl (by decide) (fun _ => ?_) (fun c => absurd rfl c)
  refine mw_iload (pc' := 2476) dL_law_2474 rfl rfl ?_
  refine mw_if_ne (tgt := 2491) (pc' := 2479) dL_law_2476 rfl (by decide) (fun c => ?_) (fun c => ?_)
  · refine mw_goto (pc' := 0) (tgt := 3808) dL_law_2491 (by decide) ?_
    exact mw_loc (pc' := 0) [0, 1, 2, 3, 4, 5] rfl (mw_less ⟨by omega, by omega⟩ (h g1 d2 hI2 hs2))
  · have hb1 := hb0 c
    refine mw_aload_n (v := vR 74) (pc' := 2480) dL_law_2479 rfl rfl (by simp) rfl ?_
    refine mw_iconst (pc' := 2481) dL_law_2480 rfl ⟨by decide, by decide⟩ ?_
    refine mw_lald (pc' := 2482) dL_law_2481 rfl (by decide +kernel) ⟨by decide, by decide⟩ (by rw [show LN 74 = 1 by decide +kernel]; exact ⟨by decide, by decide⟩) ?_
    refine mw_iload (pc' := 2484) dL_law_2482 rfl rfl ?_
    refine mw_i2l (pc' := 2485) dL_law_2484 rfl ?_
    refine mw_lcmp (pc' := 2486) dL_law_2485 rfl ?_
    refine mw_if_eq (tgt := 2491) (pc' := 2489) dL_law_2486 rfl (by decide) (fun _ => ?_) (fun c3 => absurd (by rw [hb1]; exact lCmp_rf) c3)
    refine mw_goto (pc' := 0) (tgt := 3808) dL_law_2491 (by decide) ?_
    exact mw_loc (pc' := 0) [0, 1, 2, 3, 4, 5] rfl (mw_less ⟨by omega, by omega⟩ (h g1 d2 hI2 hs2))
theorem lc_39 {i : Int} {bc bs : Nat} {g : mG} {d : mD} {Q : mQ} (hI : INV g d) (hi : 0 ≤ i ∧ i + 3 < d SCR (-1)) (hN : d SCR (-1) ≤ 2048) (hb : 48 ≤ bc ∧ 8234 ≤ bs) (h : ∀ g' d', INV g' d' → d' SCR = d SCR → MW mL_law (bc - 48) (bs - 8234) 3808 [(0, (5, 0)), (1, vR 0), (2, vR 65), (3, vR 74), (4, vR 75), (5, vI i)] [] g' d' Q) : MW mL_law bc bs 2494 [(0, (5, 0)), (1, vR 0), (2, vR 65), (3, vR 74), (4, vR 75), (5, vI i)] [] g d Q := by
  refine mw_top (fun hT => ?_)
  have hG : 76 ≤ g.2.1 := hT.2
  refine mw_aload_n (v := vR 0) (pc' := 2495) dL_law_2494 rfl rfl (by simp) rfl ?_
  refine mw_aload_n (v := (5, 0)) (pc' := 2496) dL_law_2495 rfl rfl (by simp) rfl ?_
  refine mw_iload (pc' := 2498) dL_law_2496 rfl rfl ?_
  refine mw_iconst (pc' := 2499) dL_law_2498 rfl ⟨by decide, by decide⟩ ?_
  refine mw_iadd (pc' := 2500) dL_law_2499 rfl (ik (by omega)) ?_
  refine mw_xld (pc' := 2501) dL_law_2500 rfl ⟨by omega, by omega⟩ ?_
  refine mw_aload_n (v := vR 74) (pc' := 2502) dL_law_2501 rfl rfl (by simp) rfl ?_
  refine mw_callSX (M' := mL_stayAll) (A := [vR 0, vI (d SCR (i + 1)), vR 74]) (S := []) (pc' := 2505) dL_law_2502 rfl (goodW 1265 (by decide +kernel) rfl) kM_L_stayAll kS_L_stayAll ⟨by decide, by decide, Nat.le_trans (by decide) hb.1, Nat.le_trans (by decide) hb.2, by decide⟩ rfl rfl (Nat.le_of_ble_eq_true rfl) (MM.mono ?_ (MM.scr (o_stayAll g d hI)))
  intro o g1 d1 hh
  obtain ⟨⟨k, ho, h1⟩, hs1⟩ := hh
  subst ho
  show MW mL_law (bc - 47) (bs - 8228) 2505 [(0, (5, 0)), (1, vR 0), (2, vR 65), (3, vR 74), (4, vR 75), (5, vI i)] [vI k] g1 d1 Q
  refine mw_top (fun hT1 => ?_)
  have hG1 : 76 ≤ g1.2.1 := hT1.2
  refine mw_istore (pc' := 2507) (L' := [(0, (5, 0)), (1, vR 0), (2, vR 65), (3, vR 74), (4, vR 75), (5, vI i), (6, vI k)]) dL_law_2505 rfl (by decide) rfl ?_
  refine mw_aload_n (v := vR 65) (pc' := 2508) dL_law_2507 rfl rfl (by simp) rfl ?_
  refine mw_aload_n (v := (5, 0)) (pc' := 2509) dL_law_2508 rfl rfl (by simp) rfl ?_
  refine mw_iload (pc' := 2511) dL_law_2509 rfl rfl ?_
  refine mw_iconst (pc' := 2512) dL_law_2511 rfl ⟨by decide, by decide⟩ ?_
  refine mw_iadd (pc' := 2513) dL_law_2512 rfl (ik (by omega)) ?_
  refine mw_xld (pc' := 2514) dL_law_2513 rfl (by rw [hs1]; exact ⟨by omega, by omega⟩) ?_
  rw [hs1]
  refine mw_callV (M' := mX12_stayAll) (A := [vI (d SCR (i + 1))]) (A' := [vR 65, vI (d SCR (i + 1))]) (S := []) (a := 65) (pc' := 2517) dL_law_2514 rfl (Or.inl (goodW 1968 (by decide +kernel) rfl)) kM_X12_stayAll kV_X12_stayAll ⟨by decide, by decide, Nat.zero_le _, Nat.zero_le _, by decide⟩ rfl rfl rfl ⟨by decide, by omega⟩ (by decide +kernel) (by decide +kernel) (Nat.le_of_ble_eq_true rfl) (h1 _ (fun b d2 hI2 hs2 h5 hb0 => ?_))
  show MW mL_law (bc - 47 - 0) (bs - 8228 - 0) 2517 [(0, (5, 0)), (1, vR 0), (2, vR 65), (3, vR 74), (4, vR 75), (5, vI i), (6, vI k)] [vI b] g1 d2 Q
  rw [Nat.sub_zero (bc - 47), Nat.sub_zero (bs - 8228)]
  refine mw_istore (pc' := 2519) (L' := [(0, (5, 0)), (1, vR 0), (2, vR 65), (3, vR 74), (4, vR 75), (5, vI i), (6, vI k), (7, vI b)]) dL_law_2517 rfl (by decide) rfl ?_
  refine mw_aload_n (v := vR 65) (pc' := 2520) dL_law_2519 rfl rfl (by simp) rfl ?_
  refine mw_callV (M' := mX12_thrown) (A := []) (A' := [vR 65]) (S := []) (a := 65) (pc' := 2523) dL_law_2520 rfl (Or.inl (goodW 1679 (by decide +kernel) rfl)) kM_X12_thrown kV_X12_thrown ⟨by decide, by decide, Nat.zero_le _, Nat.zero_le _, by decide⟩ rfl rfl rfl ⟨by decide, by omega⟩ (by decide +kernel) (by decide +kernel) (Nat.le_of_ble_eq_true rfl) (eX12_thrown ?_)
  show MW mL_law (bc - 47 - 0) (bs - 8228 - 0) 2523 [(0, (5, 0)), (1, vR 0), (2, vR 65), (3, vR 74), (4, vR 75), (5, vI i), (6, vI k), (7, vI b)] [vI (d2 65 5)] g1 d2 Q
  rw [Nat.sub_zero (bc - 47), Nat.sub_zero (bs - 8228)]
  rw [h5]
  refine mw_iload (pc' := 2525) dL_law_2523 rfl rfl ?_
  refine mw_icmp_eq (tgt := 2530) (pc' := 2528) dL_law_2525 rfl (by decide) (fun _ => ?_) (fun c => absurd rfl c)
  refine mw_iload (pc' := 2532) dL_law_2530 rfl rfl ?_
  refine mw_if_ne (tgt := 2547) (pc' := 2535) dL_law_2532 rfl (by decide) (fun c => ?_) (fun c => ?_)
  · refine mw_goto (pc' := 0) (tgt := 3808) dL_law_2547 (by decide) ?_
    exact mw_loc (pc' := 0) [0, 1, 2, 3, 4, 5] rfl (mw_less ⟨by omega, by omega⟩ (h g1 d2 hI2 hs2))
  · have hb1 := hb0 c
    refine mw_aload_n (v := vR 74) (pc' := 2536) dL_law_2535 rfl rfl (by simp) rfl ?_
    refine mw_iconst (pc' := 2537) dL_law_2536 rfl ⟨by decide, by decide⟩ ?_
    refine mw_lald (pc' := 2538) dL_law_2537 rfl (by decide +kernel) ⟨by decide, by decide⟩ (by rw [show LN 74 = 1 by decide +kernel]; exact ⟨by decide, by decide⟩) ?_
    refine mw_iload (pc' := 2540) dL_law_2538 rfl rfl ?_
    refine mw_i2l (pc' := 2541) dL_law_2540 rfl ?_
    refine mw_lcmp (pc' := 2542) dL_law_2541 rfl ?_
    refine mw_if_eq (tgt := 2547) (pc' := 2545) dL_law_2542 rfl (by decide) (fun _ => ?_) (fun c3 => absurd (by rw [hb1]; exact lCmp_rf) c3)
    refine mw_goto (pc' := 0) (tgt := 3808) dL_law_2547 (by decide) ?_
    exact mw_loc (pc' := 0) [0, 1, 2, 3, 4, 5] rfl (mw_less ⟨by omega, by omega⟩ (h g1 d2 hI2 hs2))
theorem lc_40 {i : Int} {bc bs : Nat} {g : mG} {d : mD} {Q : mQ} (hI : INV g d) (hi : 0 ≤ i ∧ i + 3 < d SCR (-1)) (hN : d SCR (-1) ≤ 2048) (hb : 48 ≤ bc ∧ 8234 ≤ bs) (h : ∀ g' d', INV g' d' → d' SCR = d SCR → MW mL_law (bc - 48) (bs - 8234) 3808 [(0, (5, 0)), (1, vR 0), (2, vR 65), (3, vR 74), (4, vR 75), (5, vI i)] [] g' d' Q) : MW mL_law bc bs 2550 [(0, (5, 0)), (1, vR 0), (2, vR 65), (3, vR 74), (4, vR 75), (5, vI i)] [] g d Q := by
  refine mw_top (fun hT => ?_)
  have hG : 76 ≤ g.2.1 := hT.2
  refine mw_aload_n (v := vR 0) (pc' := 2551) dL_law_2550 rfl rfl (by simp) rfl ?_
  refine mw_aload_n (v := (5, 0)) (pc' := 2552) dL_law_2551 rfl rfl (by simp) rfl ?_
  refine mw_iload (pc' := 2554) dL_law_2552 rfl rfl ?_
  refine mw_iconst (pc' := 2555) dL_law_2554 rfl ⟨by decide, by decide⟩ ?_
  refine mw_iadd (pc' := 2556) dL_law_2555 rfl (ik (by omega)) ?_
  refine mw_xld (pc' := 2557) dL_law_2556 rfl ⟨by omega, by omega⟩ ?_
  refine mw_aload_n (v := vR 74) (pc' := 2558) dL_law_2557 rfl rfl (by simp) rfl ?_
  refine mw_callSX (M' := mL_lift) (A := [vR 0, vI (d SCR (i + 1)), vR 74]) (S := []) (pc' := 2561) dL_law_2558 rfl (goodW 1272 (by decide +kernel) rfl) kM_L_lift kS_L_lift ⟨by decide, by decide, Nat.le_trans (by decide) hb.1, Nat.le_trans (by decide) hb.2, by decide⟩ rfl rfl (Nat.le_of_ble_eq_true rfl) (MM.mono ?_ (MM.scr (o_lift g d hI)))
  intro o g1 d1 hh
  obtain ⟨⟨k, ho, h1⟩, hs1⟩ := hh
  subst ho
  show MW mL_law (bc - 47) (bs - 8228) 2561 [(0, (5, 0)), (1, vR 0), (2, vR 65), (3, vR 74), (4, vR 75), (5, vI i)] [vI k] g1 d1 Q
  refine mw_top (fun hT1 => ?_)
  have hG1 : 76 ≤ g1.2.1 := hT1.2
  refine mw_istore (pc' := 2563) (L' := [(0, (5, 0)), (1, vR 0), (2, vR 65), (3, vR 74), (4, vR 75), (5, vI i), (6, vI k)]) dL_law_2561 rfl (by decide) rfl ?_
  refine mw_aload_n (v := vR 65) (pc' := 2564) dL_law_2563 rfl rfl (by simp) rfl ?_
  refine mw_aload_n (v := (5, 0)) (pc' := 2565) dL_law_2564 rfl rfl (by simp) rfl ?_
  refine mw_iload (pc' := 2567) dL_law_2565 rfl rfl ?_
  refine mw_iconst (pc' := 2568) dL_law_2567 rfl ⟨by decide, by decide⟩ ?_
  refine mw_iadd (pc' := 2569) dL_law_2568 rfl (ik (by omega)) ?_
  refine mw_xld (pc' := 2570) dL_law_2569 rfl (by rw [hs1]; exact ⟨by omega, by omega⟩) ?_
  rw [hs1]
  refine mw_callV (M' := mX12_lift) (A := [vI (d SCR (i + 1))]) (A' := [vR 65, vI (d SCR (i + 1))]) (S := []) (a := 65) (pc' := 2573) dL_law_2570 rfl (Or.inl (goodW 1972 (by decide +kernel) rfl)) kM_X12_lift kV_X12_lift ⟨by decide, by decide, Nat.zero_le _, Nat.zero_le _, by decide⟩ rfl rfl rfl ⟨by decide, by omega⟩ (by decide +kernel) (by decide +kernel) (Nat.le_of_ble_eq_true rfl) (h1 _ (fun b d2 hI2 hs2 h5 hb0 => ?_))
  show MW mL_law (bc - 47 - 0) (bs - 8228 - 0) 2573 [(0, (5, 0)), (1, vR 0), (2, vR 65), (3, vR 74), (4, vR 75), (5, vI i), (6, vI k)] [vI b] g1 d2 Q
  rw [Nat.sub_zero (bc - 47), Nat.sub_zero (bs - 8228)]
  refine mw_istore (pc' := 2575) (L' := [(0, (5, 0)), (1, vR 0), (2, vR 65), (3, vR 74), (4, vR 75), (5, vI i), (6, vI k), (7, vI b)]) dL_law_2573 rfl (by decide) rfl ?_
  refine mw_aload_n (v := vR 65) (pc' := 2576) dL_law_2575 rfl rfl (by simp) rfl ?_
  refine mw_callV (M' := mX12_thrown) (A := []) (A' := [vR 65]) (S := []) (a := 65) (pc' := 2579) dL_law_2576 rfl (Or.inl (goodW 1679 (by decide +kernel) rfl)) kM_X12_thrown kV_X12_thrown ⟨by decide, by decide, Nat.zero_le _, Nat.zero_le _, by decide⟩ rfl rfl rfl ⟨by decide, by omega⟩ (by decide +kernel) (by decide +kernel) (Nat.le_of_ble_eq_true rfl) (eX12_thrown ?_)
  show MW mL_law (bc - 47 - 0) (bs - 8228 - 0) 2579 [(0, (5, 0)), (1, vR 0), (2, vR 65), (3, vR 74), (4, vR 75), (5, vI i), (6, vI k), (7, vI b)] [vI (d2 65 5)] g1 d2 Q
  rw [Nat.sub_zero (bc - 47), Nat.sub_zero (bs - 8228)]
  rw [h5]
  refine mw_iload (pc' := 2581) dL_law_2579 rfl rfl ?_
  refine mw_icmp_eq (tgt := 2586) (pc' := 2584) dL_law_2581 rfl (by decide) (fun _ => ?_) (fun c => absurd rfl c)
  refine mw_iload (pc' := 2588) dL_law_2586 rfl rfl ?_
  refine mw_if_ne (tgt := 2603) (pc' := 2591) dL_law_2588 rfl (by decide) (fun c => ?_) (fun c => ?_)
  · refine mw_goto (pc' := 0) (tgt := 3808) dL_law_2603 (by decide) ?_
    exact mw_loc (pc' := 0) [0, 1, 2, 3, 4, 5] rfl (mw_less ⟨by omega, by omega⟩ (h g1 d2 hI2 hs2))
  · have hb1 := hb0 c
    refine mw_aload_n (v := vR 74) (pc' := 2592) dL_law_2591 rfl rfl (by simp) rfl ?_
    refine mw_iconst (pc' := 2593) dL_law_2592 rfl ⟨by decide, by decide⟩ ?_
    refine mw_lald (pc' := 2594) dL_law_2593 rfl (by decide +kernel) ⟨by decide, by decide⟩ (by rw [show LN 74 = 1 by decide +kernel]; exact ⟨by decide, by decide⟩) ?_
    refine mw_iload (pc' := 2596) dL_law_2594 rfl rfl ?_
    refine mw_i2l (pc' := 2597) dL_law_2596 rfl ?_
    refine mw_lcmp (pc' := 2598) dL_law_2597 rfl ?_
    refine mw_if_eq (tgt := 2603) (pc' := 2601) dL_law_2598 rfl (by decide) (fun _ => ?_) (fun c3 => absurd (by rw [hb1]; exact lCmp_rf) c3)
    refine mw_goto (pc' := 0) (tgt := 3808) dL_law_2603 (by decide) ?_
    exact mw_loc (pc' := 0) [0, 1, 2, 3, 4, 5] rfl (mw_less ⟨by omega, by omega⟩ (h g1 d2 hI2 hs2))
theorem lc_41 {i : Int} {bc bs : Nat} {g : mG} {d : mD} {Q : mQ} (hI : INV g d) (hi : 0 ≤ i ∧ i + 3 < d SCR (-1)) (hN : d SCR (-1) ≤ 2048) (hb : 48 ≤ bc ∧ 8234 ≤ bs) (h : ∀ g' d', INV g' d' → d' SCR = d SCR → MW mL_law (bc - 48) (bs - 8234) 3808 [(0, (5, 0)), (1, vR 0), (2, vR 65), (3, vR 74), (4, vR 75), (5, vI i)] [] g' d' Q) : MW mL_law bc bs 2606 [(0, (5, 0)), (1, vR 0), (2, vR 65), (3, vR 74), (4, vR 75), (5, vI i)] [] g d Q := by
  refine mw_top (fun hT => ?_)
  have hG : 76 ≤ g.2.1 := hT.2
  refine mw_aload_n (v := vR 0) (pc' := 2607) dL_law_2606 rfl rfl (by simp) rfl ?_
  refine mw_callV (M' := mX11_staysInForce) (A := []) (A' := [vR 0]) (S := []) (a := 0) (pc' := 2610) dL_law_2607 rfl (Or.inl (goodW 487 (by decide +kernel) rfl)) kM_X11_staysInForce kV_X11_staysInForce ⟨by decide, by decide, Nat.zero_le _, Nat.zero_le _, by decide⟩ rfl rfl rfl ⟨by decide, by omega⟩ (by decide +kernel) (by decide +kernel) (Nat.le_of_ble_eq_true rfl) (MM.mono ?_ (o_staysInForce g d hI))
  intro o g1 d1 hh
  obtain ⟨k, ho, h1⟩ := hh
  subst ho
  show MW mL_law bc bs 2610 [(0, (5, 0)), (1, vR 0), (2, vR 65), (3, vR 74), (4, vR 75), (5, vI i)] [vI k] g1 d1 Q
  refine mw_top (fun hT1 => ?_)
  have hG1 : 76 ≤ g1.2.1 := hT1.2
  refine mw_aload_n (v := vR 65) (pc' := 2611) dL_law_2610 rfl rfl (by simp) rfl ?_
  refine mw_callV (M' := mX12_staysInForce) (A := []) (A' := [vR 65]) (S := [vI k]) (a := 65) (pc' := 2614) dL_law_2611 rfl (Or.inl (goodW 1976 (by decide +kernel) rfl)) kM_X12_staysInForce kV_X12_staysInForce ⟨by decide, by decide, Nat.zero_le _, Nat.zero_le _, by decide⟩ rfl rfl rfl ⟨by decide, by omega⟩ (by decide +kernel) (by decide +kernel) (Nat.le_of_ble_eq_true rfl) (h1 _ (fun b d2 hI2 hs2 hb0 => ?_))
  show MW mL_law bc bs 2614 [(0, (5, 0)), (1, vR 0), (2, vR 65), (3, vR 74), (4, vR 75), (5, vI i)] [vI b, vI k] g1 d2 Q
  refine mw_icmp_eq (tgt := 3808) (pc' := 2617) dL_law_2614 rfl (by decide) (fun _ => ?_) (fun c => absurd hb0.symm c)
  exact mw_less ⟨by omega, by omega⟩ (h g1 d2 hI2 hs2)
theorem lc_42 {i : Int} {bc bs : Nat} {g : mG} {d : mD} {Q : mQ} (hI : INV g d) (hi : 0 ≤ i ∧ i + 3 < d SCR (-1)) (hN : d SCR (-1) ≤ 2048) (hb : 48 ≤ bc ∧ 8234 ≤ bs) (h : ∀ g' d', INV g' d' → d' SCR = d SCR → MW mL_law (bc - 48) (bs - 8234) 3808 [(0, (5, 0)), (1, vR 0), (2, vR 65), (3, vR 74), (4, vR 75), (5, vI i)] [] g' d' Q) : MW mL_law bc bs 2619 [(0, (5, 0)), (1, vR 0), (2, vR 65), (3, vR 74), (4, vR 75), (5, vI i)] [] g d Q := by
  refine mw_top (fun hT => ?_)
  have hG : 76 ≤ g.2.1 := hT.2
  refine mw_aload_n (v := vR 0) (pc' := 2620) dL_law_2619 rfl rfl (by simp) rfl ?_
  refine mw_aload_n (v := (5, 0)) (pc' := 2621) dL_law_2620 rfl rfl (by simp) rfl ?_
  refine mw_iload (pc' := 2623) dL_law_2621 rfl rfl ?_
  refine mw_iconst (pc' := 2624) dL_law_2623 rfl ⟨by decide, by decide⟩ ?_
  refine mw_iadd (pc' := 2625) dL_law_2624 rfl (ik (by omega)) ?_
  refine mw_xld (pc' := 2626) dL_law_2625 rfl ⟨by omega, by omega⟩ ?_
  refine mw_aload_n (v := (5, 0)) (pc' := 2627) dL_law_2626 rfl rfl (by simp) rfl ?_
  refine mw_iload (pc' := 2629) dL_law_2627 rfl rfl ?_
  refine mw_iconst (pc' := 2630) dL_law_2629 rfl ⟨by decide, by decide⟩ ?_
  refine mw_iadd (pc' := 2631) dL_law_2630 rfl (ik (by omega)) ?_
  refine mw_xld (pc' := 2632) dL_law_2631 rfl ⟨by omega, by omega⟩ ?_
  refine mw_aload_n (v := vR 74) (pc' := 2633) dL_law_2632 rfl rfl (by simp) rfl ?_
  refine mw_callSX (M' := mL_isStopped) (A := [vR 0, vI (d SCR (i + 1)), vI (d SCR (i + 2)), vR 74]) (S := []) (pc' := 2636) dL_law_2633 rfl (goodW 1288 (by decide +kernel) rfl) kM_L_isStopped kS_L_isStopped ⟨by decide, by decide, Nat.le_trans (by decide) hb.1, Nat.le_trans (by decide) hb.2, by decide⟩ rfl rfl (Nat.le_of_ble_eq_true rfl) (MM.mono ?_ (MM.scr (o_isStopped g d hI)))
  intro o g1 d1 hh
  obtain ⟨⟨k, ho, h1⟩, hs1⟩ := hh
  subst ho
  show MW mL_law (bc - 2) (bs - 12) 2636 [(0, (5, 0)), (1, vR 0), (2, vR 65), (3, vR 74), (4, vR 75), (5, vI i)] [vI k] g1 d1 Q
  refine mw_top (fun hT1 => ?_)
  have hG1 : 76 ≤ g1.2.1 := hT1.2
  refine mw_istore (pc' := 2638) (L' := [(0, (5, 0)), (1, vR 0), (2, vR 65), (3, vR 74), (4, vR 75), (5, vI i), (6, vI k)]) dL_law_2636 rfl (by decide) rfl ?_
  refine mw_aload_n (v := vR 65) (pc' := 2639) dL_law_2638 rfl rfl (by simp) rfl ?_
  refine mw_aload_n (v := (5, 0)) (pc' := 2640) dL_law_2639 rfl rfl (by simp) rfl ?_
  refine mw_iload (pc' := 2642) dL_law_2640 rfl rfl ?_
  refine mw_iconst (pc' := 2643) dL_law_2642 rfl ⟨by decide, by decide⟩ ?_
  refine mw_iadd (pc' := 2644) dL_law_2643 rfl (ik (by omega)) ?_
  refine mw_xld (pc' := 2645) dL_law_2644 rfl (by rw [hs1]; exact ⟨by omega, by omega⟩) ?_
  rw [hs1]
  refine mw_aload_n (v := (5, 0)) (pc' := 2646) dL_law_2645 rfl rfl (by simp) rfl ?_
  refine mw_iload (pc' := 2648) dL_law_2646 rfl rfl ?_
  refine mw_iconst (pc' := 2649) dL_law_2648 rfl ⟨by decide, by decide⟩ ?_
  refine mw_iadd (pc' := 2650) dL_law_2649 rfl (ik (by omega)) ?_
  refine mw_xld (pc' := 2651) dL_law_2650 rfl (by rw [hs1]; exact ⟨by omega, by omega⟩) ?_
  rw [hs1]
  refine mw_callV (M' := mX12_isStopped) (A := [vI (d SCR (i + 1)), vI (d SCR (i + 2))]) (A' := [vR 65, vI (d SCR (i + 1)), vI (d SCR (i + 2))]) (S := []) (a := 65) (pc' := 2654) dL_law_2651 rfl (Or.inl (goodW 1980 (by decide +kernel) rfl)) kM_X12_isStopped kV_X12_isStopped ⟨by decide, by decide, Nat.zero_le _, Nat.zero_le _, by decide⟩ rfl rfl rfl ⟨by decide, by omega⟩ (by decide +kernel) (by decide +kernel) (Nat.le_of_ble_eq_true rfl) (h1 _ (fun b d2 hI2 hs2 h5 hb0 => ?_))
  show MW mL_law (bc - 2) (bs - 12) 2654 [(0, (5, 0)), (1, vR 0), (2, vR 65), (3, vR 74), (4, vR 75), (5, vI i), (6, vI k)] [vI b] g1 d2 Q
  refine mw_istore (pc' := 2656) (L' := [(0, (5, 0)), (1, vR 0), (2, vR 65), (3, vR 74), (4, vR 75), (5, vI i), (6, vI k), (7, vI b)]) dL_law_2654 rfl (by decide) rfl ?_
  refine mw_aload_n (v := vR 65) (pc' := 2657) dL_law_2656 rfl rfl (by simp) rfl ?_
  refine mw_callV (M' := mX12_thrown) (A := []) (A' := [vR 65]) (S := []) (a := 65) (pc' := 2660) dL_law_2657 rfl (Or.inl (goodW 1679 (by decide +kernel) rfl)) kM_X12_thrown kV_X12_thrown ⟨by decide, by decide, Nat.zero_le _, Nat.zero_le _, by decide⟩ rfl rfl rfl ⟨by decide, by omega⟩ (by decide +kernel) (by decide +kernel) (Nat.le_of_ble_eq_true rfl) (eX12_thrown ?_)
  show MW mL_law (bc - 2) (bs - 12) 2660 [(0, (5, 0)), (1, vR 0), (2, vR 65), (3, vR 74), (4, vR 75), (5, vI i), (6, vI k), (7, vI b)] [vI (d2 65 5)] g1 d2 Q
  rw [h5]
  refine mw_iload (pc' := 2662) dL_law_2660 rfl rfl ?_
  refine mw_icmp_eq (tgt := 2667) (pc' := 2665) dL_law_2662 rfl (by decide) (fun _ => ?_) (fun c => absurd rfl c)
  refine mw_iload (pc' := 2669) dL_law_2667 rfl rfl ?_
  refine mw_if_ne (tgt := 2691) (pc' := 2672) dL_law_2669 rfl (by decide) (fun c => ?_) (fun c => ?_)
  · refine mw_goto (pc' := 0) (tgt := 3808) dL_law_2691 (by decide) ?_
    exact mw_loc (pc' := 0) [0, 1, 2, 3, 4, 5] rfl (mw_less ⟨by omega, by omega⟩ (h g1 d2 hI2 hs2))
  · obtain ⟨hb1, hb2⟩ := hb0 c
    refine mw_aload_n (v := vR 74) (pc' := 2673) dL_law_2672 rfl rfl (by simp) rfl ?_
    refine mw_iconst (pc' := 2674) dL_law_2673 rfl ⟨by decide, by decide⟩ ?_
    refine mw_lald (pc' := 2675) dL_law_2674 rfl (by decide +kernel) ⟨by decide, by decide⟩ (by rw [show LN 74 = 1 by decide +kernel]; exact ⟨by decide, by decide⟩) ?_
    refine mw_iload (pc' := 2677) dL_law_2675 rfl rfl ?_
    rcases hb2 with hb2 | hb2
    · rw [← hb1, hb2]
      refine mw_if_eq (tgt := 2684) (pc' := 2680) dL_law_2677 rfl (by decide) (fun _ => ?_) (fun c2 => absurd rfl c2)
      refine mw_lconst0 (pc' := 2685) dL_law_2684 rfl ?_
      refine mw_lcmp (pc' := 2686) dL_law_2685 rfl ?_
      refine mw_if_eq (tgt := 2691) (pc' := 2689) dL_law_2686 rfl (by decide) (fun _ => ?_) (fun c3 => absurd lCmp_rf c3)
      refine mw_goto (pc' := 0) (tgt := 3808) dL_law_2691 (by decide) ?_
      exact mw_loc (pc' := 0) [0, 1, 2, 3, 4, 5] rfl (mw_less ⟨by omega, by omega⟩ (h g1 d2 hI2 hs2))
    · rw [← hb1, hb2]
      refine mw_if_eq (tgt := 2684) (pc' := 2680) dL_law_2677 rfl (by decide) (fun c2 => absurd c2 (by decide)) (fun _ => ?_)
      refine mw_lconst1 (pc' := 2681) dL_law_2680 rfl ?_
      refine mw_goto (pc' := 0) (tgt := 2685) dL_law_2681 (by decide) ?_
      refine mw_lcmp (pc' := 2686) dL_law_2685 rfl ?_
      refine mw_if_eq (tgt := 2691) (pc' := 2689) dL_law_2686 rfl (by decide) (fun _ => ?_) (fun c3 => absurd lCmp_rf c3)
      refine mw_goto (pc' := 0) (tgt := 3808) dL_law_2691 (by decide) ?_
      exact mw_loc (pc' := 0) [0, 1, 2, 3, 4, 5] rfl (mw_less ⟨by omega, by omega⟩ (h g1 d2 hI2 hs2))
theorem lc_43 {i : Int} {bc bs : Nat} {g : mG} {d : mD} {Q : mQ} (hI : INV g d) (hi : 0 ≤ i ∧ i + 3 < d SCR (-1)) (hN : d SCR (-1) ≤ 2048) (hb : 48 ≤ bc ∧ 8234 ≤ bs) (h : ∀ g' d', INV g' d' → d' SCR = d SCR → MW mL_law (bc - 48) (bs - 8234) 3808 [(0, (5, 0)), (1, vR 0), (2, vR 65), (3, vR 74), (4, vR 75), (5, vI i)] [] g' d' Q) : MW mL_law bc bs 2694 [(0, (5, 0)), (1, vR 0), (2, vR 65), (3, vR 74), (4, vR 75), (5, vI i)] [] g d Q := by
  refine mw_top (fun hT => ?_)
  have hG : 76 ≤ g.2.1 := hT.2
  refine mw_aload_n (v := vR 0) (pc' := 2695) dL_law_2694 rfl rfl (by simp) rfl ?_
  refine mw_aload_n (v := (5, 0)) (pc' := 2696) dL_law_2695 rfl rfl (by simp) rfl ?_
  refine mw_iload (pc' := 2698) dL_law_2696 rfl rfl ?_
  refine mw_iconst (pc' := 2699) dL_law_2698 rfl ⟨by decide, by decide⟩ ?_
  refine mw_iadd (pc' := 2700) dL_law_2699 rfl (ik (by omega)) ?_
  refine mw_xld (pc' := 2701) dL_law_2700 rfl ⟨by omega, by omega⟩ ?_
  refine mw_aload_n (v := (5, 0)) (pc' := 2702) dL_law_2701 rfl rfl (by simp) rfl ?_
  refine mw_iload (pc' := 2704) dL_law_2702 rfl rfl ?_
  refine mw_iconst (pc' := 2705) dL_law_2704 rfl ⟨by decide, by decide⟩ ?_
  refine mw_iadd (pc' := 2706) dL_law_2705 rfl (ik (by omega)) ?_
  refine mw_xld (pc' := 2707) dL_law_2706 rfl ⟨by omega, by omega⟩ ?_
  refine mw_aload_n (v := (5, 0)) (pc' := 2708) dL_law_2707 rfl rfl (by simp) rfl ?_
  refine mw_iload (pc' := 2710) dL_law_2708 rfl rfl ?_
  refine mw_iconst (pc' := 2711) dL_law_2710 rfl ⟨by decide, by decide⟩ ?_
  refine mw_iadd (pc' := 2712) dL_law_2711 rfl (ik (by omega)) ?_
  refine mw_xld (pc' := 2713) dL_law_2712 rfl ⟨by omega, by omega⟩ ?_
  refine mw_aload_n (v := vR 74) (pc' := 2714) dL_law_2713 rfl rfl (by simp) rfl ?_
  refine mw_callSX (M' := mL_stoppedDays) (A := [vR 0, vI (d SCR (i + 1)), vI (d SCR (i + 2)), vI (d SCR (i + 3)), vR 74]) (S := []) (pc' := 2717) dL_law_2714 rfl (goodW 1295 (by decide +kernel) rfl) kM_L_stoppedDays kS_L_stoppedDays ⟨by decide, by decide, Nat.le_trans (by decide) hb.1, Nat.le_trans (by decide) hb.2, by decide⟩ rfl rfl (Nat.le_of_ble_eq_true rfl) (MM.mono ?_ (MM.scr (o_stoppedDays g d hI)))
  intro o g1 d1 hh
  obtain ⟨⟨k, ho, h1⟩, hs1⟩ := hh
  subst ho
  show MW mL_law (bc - 2) (bs - 12) 2717 [(0, (5, 0)), (1, vR 0), (2, vR 65), (3, vR 74), (4, vR 75), (5, vI i)] [vI k] g1 d1 Q
  refine mw_top (fun hT1 => ?_)
  have hG1 : 76 ≤ g1.2.1 := hT1.2
  refine mw_istore (pc' := 2719) (L' := [(0, (5, 0)), (1, vR 0), (2, vR 65), (3, vR 74), (4, vR 75), (5, vI i), (6, vI k)]) dL_law_2717 rfl (by decide) rfl ?_
  refine mw_aload_n (v := vR 65) (pc' := 2720) dL_law_2719 rfl rfl (by simp) rfl ?_
  refine mw_aload_n (v := (5, 0)) (pc' := 2721) dL_law_2720 rfl rfl (by simp) rfl ?_
  refine mw_iload (pc' := 2723) dL_law_2721 rfl rfl ?_
  refine mw_iconst (pc' := 2724) dL_law_2723 rfl ⟨by decide, by decide⟩ ?_
  refine mw_iadd (pc' := 2725) dL_law_2724 rfl (ik (by omega)) ?_
  refine mw_xld (pc' := 2726) dL_law_2725 rfl (by rw [hs1]; exact ⟨by omega, by omega⟩) ?_
  rw [hs1]
  refine mw_aload_n (v := (5, 0)) (pc' := 2727) dL_law_2726 rfl rfl (by simp) rfl ?_
  refine mw_iload (pc' := 2729) dL_law_2727 rfl rfl ?_
  refine mw_iconst (pc' := 2730) dL_law_2729 rfl ⟨by decide, by decide⟩ ?_
  refine mw_iadd (pc' := 2731) dL_law_2730 rfl (ik (by omega)) ?_
  refine mw_xld (pc' := 2732) dL_law_2731 rfl (by rw [hs1]; exact ⟨by omega, by omega⟩) ?_
  rw [hs1]
  refine mw_aload_n (v := (5, 0)) (pc' := 2733) dL_law_2732 rfl rfl (by simp) rfl ?_
  refine mw_iload (pc' := 2735) dL_law_2733 rfl rfl ?_
  refine mw_iconst (pc' := 2736) dL_law_2735 rfl ⟨by decide, by decide⟩ ?_
  refine mw_iadd (pc' := 2737) dL_law_2736 rfl (ik (by omega)) ?_
  refine mw_xld (pc' := 2738) dL_law_2737 rfl (by rw [hs1]; exact ⟨by omega, by omega⟩) ?_
  rw [hs1]
  refine mw_callV (M' := mX12_stoppedDays) (A := [vI (d SCR (i + 1)), vI (d SCR (i + 2)), vI (d SCR (i + 3))]) (A' := [vR 65, vI (d SCR (i + 1)), vI (d SCR (i + 2)), vI (d SCR (i + 3))]) (S := []) (a := 65) (pc' := 2741) dL_law_2738 rfl (Or.inl (goodW 1988 (by decide +kernel) rfl)) kM_X12_stoppedDays kV_X12_stoppedDays ⟨by decide, by decide, Nat.zero_le _, Nat.zero_le _, by decide⟩ rfl rfl rfl ⟨by decide, by omega⟩ (by decide +kernel) (by decide +kernel) (Nat.le_of_ble_eq_true rfl) (h1 _ (fun b d2 hI2 hs2 h5 hb0 => ?_))
  show MW mL_law (bc - 2) (bs - 12) 2741 [(0, (5, 0)), (1, vR 0), (2, vR 65), (3, vR 74), (4, vR 75), (5, vI i), (6, vI k)] [vI b] g1 d2 Q
  refine mw_istore (pc' := 2743) (L' := [(0, (5, 0)), (1, vR 0), (2, vR 65), (3, vR 74), (4, vR 75), (5, vI i), (6, vI k), (7, vI b)]) dL_law_2741 rfl (by decide) rfl ?_
  refine mw_aload_n (v := vR 65) (pc' := 2744) dL_law_2743 rfl rfl (by simp) rfl ?_
  refine mw_callV (M' := mX12_thrown) (A := []) (A' := [vR 65]) (S := []) (a := 65) (pc' := 2747) dL_law_2744 rfl (Or.inl (goodW 1679 (by decide +kernel) rfl)) kM_X12_thrown kV_X12_thrown ⟨by decide, by decide, Nat.zero_le _, Nat.zero_le _, by decide⟩ rfl rfl rfl ⟨by decide, by omega⟩ (by decide +kernel) (by decide +kernel) (Nat.le_of_ble_eq_true rfl) (eX12_thrown ?_)
  show MW mL_law (bc - 2) (bs - 12) 2747 [(0, (5, 0)), (1, vR 0), (2, vR 65), (3, vR 74), (4, vR 75), (5, vI i), (6, vI k), (7, vI b)] [vI (d2 65 5)] g1 d2 Q
  rw [h5]
  refine mw_iload (pc' := 2749) dL_law_2747 rfl rfl ?_
  refine mw_icmp_eq (tgt := 2754) (pc' := 2752) dL_law_2749 rfl (by decide) (fun _ => ?_) (fun c => absurd rfl c)
  refine mw_iload (pc' := 2756) dL_law_2754 rfl rfl ?_
  refine mw_if_ne (tgt := 2771) (pc' := 2759) dL_law_2756 rfl (by decide) (fun c => ?_) (fun c => ?_)
  · refine mw_goto (pc' := 0) (tgt := 3808) dL_law_2771 (by decide) ?_
    exact mw_loc (pc' := 0) [0, 1, 2, 3, 4, 5] rfl (mw_less ⟨by omega, by omega⟩ (h g1 d2 hI2 hs2))
  · have hb1 := hb0 c
    refine mw_aload_n (v := vR 74) (pc' := 2760) dL_law_2759 rfl rfl (by simp) rfl ?_
    refine mw_iconst (pc' := 2761) dL_law_2760 rfl ⟨by decide, by decide⟩ ?_
    refine mw_lald (pc' := 2762) dL_law_2761 rfl (by decide +kernel) ⟨by decide, by decide⟩ (by rw [show LN 74 = 1 by decide +kernel]; exact ⟨by decide, by decide⟩) ?_
    refine mw_iload (pc' := 2764) dL_law_2762 rfl rfl ?_
    refine mw_i2l (pc' := 2765) dL_law_2764 rfl ?_
    refine mw_lcmp (pc' := 2766) dL_law_2765 rfl ?_
    refine mw_if_eq (tgt := 2771) (pc' := 2769) dL_law_2766 rfl (by decide) (fun _ => ?_) (fun c3 => absurd (by rw [hb1]; exact lCmp_rf) c3)
    refine mw_goto (pc' := 0) (tgt := 3808) dL_law_2771 (by decide) ?_
    exact mw_loc (pc' := 0) [0, 1, 2, 3, 4, 5] rfl (mw_less ⟨by omega, by omega⟩ (h g1 d2 hI2 hs2))
theorem lc_44 {i : Int} {bc bs : Nat} {g : mG} {d : mD} {Q : mQ} (hI : INV g d) (hi : 0 ≤ i ∧ i + 3 < d SCR (-1)) (hN : d SCR (-1) ≤ 2048) (hb : 48 ≤ bc ∧ 8234 ≤ bs) (h : ∀ g' d', INV g' d' → d' SCR = d SCR → MW mL_law (bc - 48) (bs - 8234) 3808 [(0, (5, 0)), (1, vR 0), (2, vR 65), (3, vR 74), (4, vR 75), (5, vI i)] [] g' d' Q) : MW mL_law bc bs 2774 [(0, (5, 0)), (1, vR 0), (2, vR 65), (3, vR 74), (4, vR 75), (5, vI i)] [] g d Q := by
  refine mw_top (fun hT => ?_)
  have hG : 76 ≤ g.2.1 := hT.2
  refine mw_aload_n (v := vR 0) (pc' := 2775) dL_law_2774 rfl rfl (by simp) rfl ?_
  refine mw_aload_n (v := (5, 0)) (pc' := 2776) dL_law_2775 rfl rfl (by simp) rfl ?_
  refine mw_iload (pc' := 2778) dL_law_2776 rfl rfl ?_
  refine mw_iconst (pc' := 2779) dL_law_2778 rfl ⟨by decide, by decide⟩ ?_
  refine mw_iadd (pc' := 2780) dL_law_2779 rfl (ik (by omega)) ?_
  refine mw_xld (pc' := 2781) dL_law_2780 rfl ⟨by omega, by omega⟩ ?_
  refine mw_aload_n (v := (5, 0)) (pc' := 2782) dL_law_2781 rfl rfl (by simp) rfl ?_
  refine mw_iload (pc' := 2784) dL_law_2782 rfl rfl ?_
  refine mw_iconst (pc' := 2785) dL_law_2784 rfl ⟨by decide, by decide⟩ ?_
  refine mw_iadd (pc' := 2786) dL_law_2785 rfl (ik (by omega)) ?_
  refine mw_xld (pc' := 2787) dL_law_2786 rfl ⟨by omega, by omega⟩ ?_
  refine mw_aload_n (v := (5, 0)) (pc' := 2788) dL_law_2787 rfl rfl (by simp) rfl ?_
  refine mw_iload (pc' := 2790) dL_law_2788 rfl rfl ?_
  refine mw_iconst (pc' := 2791) dL_law_2790 rfl ⟨by decide, by decide⟩ ?_
  refine mw_iadd (pc' := 2792) dL_law_2791 rfl (ik (by omega)) ?_
  refine mw_xld (pc' := 2793) dL_law_2792 rfl ⟨by omega, by omega⟩ ?_
  refine mw_aload_n (v := vR 74) (pc' := 2794) dL_law_2793 rfl rfl (by simp) rfl ?_
  refine mw_callSX (M' := mL_stoppedDaysByMarking) (A := [vR 0, vI (d SCR (i + 1)), vI (d SCR (i + 2)), vI (d SCR (i + 3)), vR 74]) (S := []) (pc' := 2797) dL_law_2794 rfl (goodW 1302 (by decide +kernel) rfl) kM_L_stoppedDaysByMarking kS_L_stoppedDaysByMarking ⟨by decide, by decide, Nat.le_trans (by decide) hb.1, Nat.le_trans (by decide) hb.2, by decide⟩ rfl rfl (Nat.le_of_ble_eq_true rfl) (MM.mono ?_ (MM.scr (o_stoppedDaysByMarking g d hI)))
  intro o g1 d1 hh
  obtain ⟨⟨k, ho, h1⟩, hs1⟩ := hh
  subst ho
  show MW mL_law (bc - 2) (bs - 12) 2797 [(0, (5, 0)), (1, vR 0), (2, vR 65), (3, vR 74), (4, vR 75), (5, vI i)] [vI k] g1 d1 Q
  refine mw_top (fun hT1 => ?_)
  have hG1 : 76 ≤ g1.2.1 := hT1.2
  refine mw_istore (pc' := 2799) (L' := [(0, (5, 0)), (1, vR 0), (2, vR 65), (3, vR 74), (4, vR 75), (5, vI i), (6, vI k)]) dL_law_2797 rfl (by decide) rfl ?_
  refine mw_aload_n (v := vR 65) (pc' := 2800) dL_law_2799 rfl rfl (by simp) rfl ?_
  refine mw_aload_n (v := (5, 0)) (pc' := 2801) dL_law_2800 rfl rfl (by simp) rfl ?_
  refine mw_iload (pc' := 2803) dL_law_2801 rfl rfl ?_
  refine mw_iconst (pc' := 2804) dL_law_2803 rfl ⟨by decide, by decide⟩ ?_
  refine mw_iadd (pc' := 2805) dL_law_2804 rfl (ik (by omega)) ?_
  refine mw_xld (pc' := 2806) dL_law_2805 rfl (by rw [hs1]; exact ⟨by omega, by omega⟩) ?_
  rw [hs1]
  refine mw_aload_n (v := (5, 0)) (pc' := 2807) dL_law_2806 rfl rfl (by simp) rfl ?_
  refine mw_iload (pc' := 2809) dL_law_2807 rfl rfl ?_
  refine mw_iconst (pc' := 2810) dL_law_2809 rfl ⟨by decide, by decide⟩ ?_
  refine mw_iadd (pc' := 2811) dL_law_2810 rfl (ik (by omega)) ?_
  refine mw_xld (pc' := 2812) dL_law_2811 rfl (by rw [hs1]; exact ⟨by omega, by omega⟩) ?_
  rw [hs1]
  refine mw_aload_n (v := (5, 0)) (pc' := 2813) dL_law_2812 rfl rfl (by simp) rfl ?_
  refine mw_iload (pc' := 2815) dL_law_2813 rfl rfl ?_
  refine mw_iconst (pc' := 2816) dL_law_2815 rfl ⟨by decide, by decide⟩ ?_
  refine mw_iadd (pc' := 2817) dL_law_2816 rfl (ik (by omega)) ?_
  refine mw_xld (pc' := 2818) dL_law_2817 rfl (by rw [hs1]; exact ⟨by omega, by omega⟩) ?_
  rw [hs1]
  refine mw_callV (M' := mX12_stoppedDaysByMarking) (A := [vI (d SCR (i + 1)), vI (d SCR (i + 2)), vI (d SCR (i + 3))]) (A' := [vR 65, vI (d SCR (i + 1)), vI (d SCR (i + 2)), vI (d SCR (i + 3))]) (S := []) (a := 65) (pc' := 2821) dL_law_2818 rfl (Or.inl (goodW 1992 (by decide +kernel) rfl)) kM_X12_stoppedDaysByMarking kV_X12_stoppedDaysByMarking ⟨by decide, by decide, Nat.zero_le _, Nat.zero_le _, by decide⟩ rfl rfl rfl ⟨by decide, by omega⟩ (by decide +kernel) (by decide +kernel) (Nat.le_of_ble_eq_true rfl) (h1 _ (fun b d2 hI2 hs2 h5 hb0 => ?_))
  show MW mL_law (bc - 2) (bs - 12) 2821 [(0, (5, 0)), (1, vR 0), (2, vR 65), (3, vR 74), (4, vR 75), (5, vI i), (6, vI k)] [vI b] g1 d2 Q
  refine mw_istore (pc' := 2823) (L' := [(0, (5, 0)), (1, vR 0), (2, vR 65), (3, vR 74), (4, vR 75), (5, vI i), (6, vI k), (7, vI b)]) dL_law_2821 rfl (by decide) rfl ?_
  refine mw_aload_n (v := vR 65) (pc' := 2824) dL_law_2823 rfl rfl (by simp) rfl ?_
  refine mw_callV (M' := mX12_thrown) (A := []) (A' := [vR 65]) (S := []) (a := 65) (pc' := 2827) dL_law_2824 rfl (Or.inl (goodW 1679 (by decide +kernel) rfl)) kM_X12_thrown kV_X12_thrown ⟨by decide, by decide, Nat.zero_le _, Nat.zero_le _, by decide⟩ rfl rfl rfl ⟨by decide, by omega⟩ (by decide +kernel) (by decide +kernel) (Nat.le_of_ble_eq_true rfl) (eX12_thrown ?_)
  show MW mL_law (bc - 2) (bs - 12) 2827 [(0, (5, 0)), (1, vR 0), (2, vR 65), (3, vR 74), (4, vR 75), (5, vI i), (6, vI k), (7, vI b)] [vI (d2 65 5)] g1 d2 Q
  rw [h5]
  refine mw_iload (pc' := 2829) dL_law_2827 rfl rfl ?_
  refine mw_icmp_eq (tgt := 2834) (pc' := 2832) dL_law_2829 rfl (by decide) (fun _ => ?_) (fun c => absurd rfl c)
  refine mw_iload (pc' := 2836) dL_law_2834 rfl rfl ?_
  refine mw_if_ne (tgt := 2851) (pc' := 2839) dL_law_2836 rfl (by decide) (fun c => ?_) (fun c => ?_)
  · refine mw_goto (pc' := 0) (tgt := 3808) dL_law_2851 (by decide) ?_
    exact mw_loc (pc' := 0) [0, 1, 2, 3, 4, 5] rfl (mw_less ⟨by omega, by omega⟩ (h g1 d2 hI2 hs2))
  · have hb1 := hb0 c
    refine mw_aload_n (v := vR 74) (pc' := 2840) dL_law_2839 rfl rfl (by simp) rfl ?_
    refine mw_iconst (pc' := 2841) dL_law_2840 rfl ⟨by decide, by decide⟩ ?_
    refine mw_lald (pc' := 2842) dL_law_2841 rfl (by decide +kernel) ⟨by decide, by decide⟩ (by rw [show LN 74 = 1 by decide +kernel]; exact ⟨by decide, by decide⟩) ?_
    refine mw_iload (pc' := 2844) dL_law_2842 rfl rfl ?_
    refine mw_i2l (pc' := 2845) dL_law_2844 rfl ?_
    refine mw_lcmp (pc' := 2846) dL_law_2845 rfl ?_
    refine mw_if_eq (tgt := 2851) (pc' := 2849) dL_law_2846 rfl (by decide) (fun _ => ?_) (fun c3 => absurd (by rw [hb1]; exact lCmp_rf) c3)
    refine mw_goto (pc' := 0) (tgt := 3808) dL_law_2851 (by decide) ?_
    exact mw_loc (pc' := 0) [0, 1, 2, 3, 4, 5] rfl (mw_less ⟨by omega, by omega⟩ (h g1 d2 hI2 hs2))
theorem lc_45 {i : Int} {bc bs : Nat} {g : mG} {d : mD} {Q : mQ} (hI : INV g d) (hi : 0 ≤ i ∧ i + 3 < d SCR (-1)) (hN : d SCR (-1) ≤ 2048) (hb : 48 ≤ bc ∧ 8234 ≤ bs) (h : ∀ g' d', INV g' d' → d' SCR = d SCR → MW mL_law (bc - 48) (bs - 8234) 3808 [(0, (5, 0)), (1, vR 0), (2, vR 65), (3, vR 74), (4, vR 75), (5, vI i)] [] g' d' Q) : MW mL_law bc bs 2854 [(0, (5, 0)), (1, vR 0), (2, vR 65), (3, vR 74), (4, vR 75), (5, vI i)] [] g d Q := by
  refine mw_top (fun hT => ?_)
  have hG : 76 ≤ g.2.1 := hT.2
  refine mw_aload_n (v := vR 0) (pc' := 2855) dL_law_2854 rfl rfl (by simp) rfl ?_
  refine mw_aload_n (v := (5, 0)) (pc' := 2856) dL_law_2855 rfl rfl (by simp) rfl ?_
  refine mw_iload (pc' := 2858) dL_law_2856 rfl rfl ?_
  refine mw_iconst (pc' := 2859) dL_law_2858 rfl ⟨by decide, by decide⟩ ?_
  refine mw_iadd (pc' := 2860) dL_law_2859 rfl (ik (by omega)) ?_
  refine mw_xld (pc' := 2861) dL_law_2860 rfl ⟨by omega, by omega⟩ ?_
  refine mw_aload_n (v := (5, 0)) (pc' := 2862) dL_law_2861 rfl rfl (by simp) rfl ?_
  refine mw_iload (pc' := 2864) dL_law_2862 rfl rfl ?_
  refine mw_iconst (pc' := 2865) dL_law_2864 rfl ⟨by decide, by decide⟩ ?_
  refine mw_iadd (pc' := 2866) dL_law_2865 rfl (ik (by omega)) ?_
  refine mw_xld (pc' := 2867) dL_law_2866 rfl ⟨by omega, by omega⟩ ?_
  refine mw_aload_n (v := vR 74) (pc' := 2868) dL_law_2867 rfl rfl (by simp) rfl ?_
  refine mw_callSX (M' := mL_addOccurrence) (A := [vR 0, vI (d SCR (i + 1)), vI (d SCR (i + 2)), vR 74]) (S := []) (pc' := 2871) dL_law_2868 rfl (goodW 1309 (by decide +kernel) rfl) kM_L_addOccurrence kS_L_addOccurrence ⟨by decide, by decide, Nat.le_trans (by decide) hb.1, Nat.le_trans (by decide) hb.2, by decide⟩ rfl rfl (Nat.le_of_ble_eq_true rfl) (MM.mono ?_ (MM.scr (o_addOccurrence g d hI)))
  intro o g1 d1 hh
  obtain ⟨⟨k, ho, h1⟩, hs1⟩ := hh
  subst ho
  show MW mL_law (bc - 47) (bs - 8228) 2871 [(0, (5, 0)), (1, vR 0), (2, vR 65), (3, vR 74), (4, vR 75), (5, vI i)] [vI k] g1 d1 Q
  refine mw_top (fun hT1 => ?_)
  have hG1 : 76 ≤ g1.2.1 := hT1.2
  refine mw_istore (pc' := 2873) (L' := [(0, (5, 0)), (1, vR 0), (2, vR 65), (3, vR 74), (4, vR 75), (5, vI i), (6, vI k)]) dL_law_2871 rfl (by decide) rfl ?_
  refine mw_aload_n (v := vR 65) (pc' := 2874) dL_law_2873 rfl rfl (by simp) rfl ?_
  refine mw_aload_n (v := (5, 0)) (pc' := 2875) dL_law_2874 rfl rfl (by simp) rfl ?_
  refine mw_iload (pc' := 2877) dL_law_2875 rfl rfl ?_
  refine mw_iconst (pc' := 2878) dL_law_2877 rfl ⟨by decide, by decide⟩ ?_
  refine mw_iadd (pc' := 2879) dL_law_2878 rfl (ik (by omega)) ?_
  refine mw_xld (pc' := 2880) dL_law_2879 rfl (by rw [hs1]; exact ⟨by omega, by omega⟩) ?_
  rw [hs1]
  refine mw_aload_n (v := (5, 0)) (pc' := 2881) dL_law_2880 rfl rfl (by simp) rfl ?_
  refine mw_iload (pc' := 2883) dL_law_2881 rfl rfl ?_
  refine mw_iconst (pc' := 2884) dL_law_2883 rfl ⟨by decide, by decide⟩ ?_
  refine mw_iadd (pc' := 2885) dL_law_2884 rfl (ik (by omega)) ?_
  refine mw_xld (pc' := 2886) dL_law_2885 rfl (by rw [hs1]; exact ⟨by omega, by omega⟩) ?_
  rw [hs1]
  refine mw_callV (M' := mX12_addOccurrence) (A := [vI (d SCR (i + 1)), vI (d SCR (i + 2))]) (A' := [vR 65, vI (d SCR (i + 1)), vI (d SCR (i + 2))]) (S := []) (a := 65) (pc' := 2889) dL_law_2886 rfl (Or.inl (goodW 1997 (by decide +kernel) rfl)) kM_X12_addOccurrence kV_X12_addOccurrence ⟨by decide, by decide, Nat.zero_le _, Nat.zero_le _, by decide⟩ rfl rfl rfl ⟨by decide, by omega⟩ (by decide +kernel) (by decide +kernel) (Nat.le_of_ble_eq_true rfl) (h1 _ (fun b d2 hI2 hs2 h5 hb0 => ?_))
  show MW mL_law (bc - 47 - 0) (bs - 8228 - 0) 2889 [(0, (5, 0)), (1, vR 0), (2, vR 65), (3, vR 74), (4, vR 75), (5, vI i), (6, vI k)] [vI b] g1 d2 Q
  rw [Nat.sub_zero (bc - 47), Nat.sub_zero (bs - 8228)]
  refine mw_istore (pc' := 2891) (L' := [(0, (5, 0)), (1, vR 0), (2, vR 65), (3, vR 74), (4, vR 75), (5, vI i), (6, vI k), (7, vI b)]) dL_law_2889 rfl (by decide) rfl ?_
  refine mw_aload_n (v := vR 65) (pc' := 2892) dL_law_2891 rfl rfl (by simp) rfl ?_
  refine mw_callV (M' := mX12_thrown) (A := []) (A' := [vR 65]) (S := []) (a := 65) (pc' := 2895) dL_law_2892 rfl (Or.inl (goodW 1679 (by decide +kernel) rfl)) kM_X12_thrown kV_X12_thrown ⟨by decide, by decide, Nat.zero_le _, Nat.zero_le _, by decide⟩ rfl rfl rfl ⟨by decide, by omega⟩ (by decide +kernel) (by decide +kernel) (Nat.le_of_ble_eq_true rfl) (eX12_thrown ?_)
  show MW mL_law (bc - 47 - 0) (bs - 8228 - 0) 2895 [(0, (5, 0)), (1, vR 0), (2, vR 65), (3, vR 74), (4, vR 75), (5, vI i), (6, vI k), (7, vI b)] [vI (d2 65 5)] g1 d2 Q
  rw [Nat.sub_zero (bc - 47), Nat.sub_zero (bs - 8228)]
  rw [h5]
  refine mw_iload (pc' := 2897) dL_law_2895 rfl rfl ?_
  refine mw_icmp_eq (tgt := 2902) (pc' := 2900) dL_law_2897 rfl (by decide) (fun _ => ?_) (fun c => absurd rfl c)
  refine mw_iload (pc' := 2904) dL_law_2902 rfl rfl ?_
  refine mw_if_ne (tgt := 2919) (pc' := 2907) dL_law_2904 rfl (by decide) (fun c => ?_) (fun c => ?_)
  · refine mw_goto (pc' := 0) (tgt := 3808) dL_law_2919 (by decide) ?_
    exact mw_loc (pc' := 0) [0, 1, 2, 3, 4, 5] rfl (mw_less ⟨by omega, by omega⟩ (h g1 d2 hI2 hs2))
  · have hb1 := hb0 c
    refine mw_aload_n (v := vR 74) (pc' := 2908) dL_law_2907 rfl rfl (by simp) rfl ?_
    refine mw_iconst (pc' := 2909) dL_law_2908 rfl ⟨by decide, by decide⟩ ?_
    refine mw_lald (pc' := 2910) dL_law_2909 rfl (by decide +kernel) ⟨by decide, by decide⟩ (by rw [show LN 74 = 1 by decide +kernel]; exact ⟨by decide, by decide⟩) ?_
    refine mw_iload (pc' := 2912) dL_law_2910 rfl rfl ?_
    refine mw_i2l (pc' := 2913) dL_law_2912 rfl ?_
    refine mw_lcmp (pc' := 2914) dL_law_2913 rfl ?_
    refine mw_if_eq (tgt := 2919) (pc' := 2917) dL_law_2914 rfl (by decide) (fun _ => ?_) (fun c3 => absurd (by rw [hb1]; exact lCmp_rf) c3)
    refine mw_goto (pc' := 0) (tgt := 3808) dL_law_2919 (by decide) ?_
    exact mw_loc (pc' := 0) [0, 1, 2, 3, 4, 5] rfl (mw_less ⟨by omega, by omega⟩ (h g1 d2 hI2 hs2))
theorem lc_46 {i : Int} {bc bs : Nat} {g : mG} {d : mD} {Q : mQ} (hI : INV g d) (hi : 0 ≤ i ∧ i + 3 < d SCR (-1)) (hN : d SCR (-1) ≤ 2048) (hb : 48 ≤ bc ∧ 8234 ≤ bs) (h : ∀ g' d', INV g' d' → d' SCR = d SCR → MW mL_law (bc - 48) (bs - 8234) 3808 [(0, (5, 0)), (1, vR 0), (2, vR 65), (3, vR 74), (4, vR 75), (5, vI i)] [] g' d' Q) : MW mL_law bc bs 2922 [(0, (5, 0)), (1, vR 0), (2, vR 65), (3, vR 74), (4, vR 75), (5, vI i)] [] g d Q := by
  refine mw_top (fun hT => ?_)
  have hG : 76 ≤ g.2.1 := hT.2
  refine mw_aload_n (v := vR 0) (pc' := 2923) dL_law_2922 rfl rfl (by simp) rfl ?_
  refine mw_aload_n (v := (5, 0)) (pc' := 2924) dL_law_2923 rfl rfl (by simp) rfl ?_
  refine mw_iload (pc' := 2926) dL_law_2924 rfl rfl ?_
  refine mw_iconst (pc' := 2927) dL_law_2926 rfl ⟨by decide, by decide⟩ ?_
  refine mw_iadd (pc' := 2928) dL_law_2927 rfl (ik (by omega)) ?_
  refine mw_xld (pc' := 2929) dL_law_2928 rfl ⟨by omega, by omega⟩ ?_
  refine mw_aload_n (v := (5, 0)) (pc' := 2930) dL_law_2929 rfl rfl (by simp) rfl ?_
  refine mw_iload (pc' := 2932) dL_law_2930 rfl rfl ?_
  refine mw_iconst (pc' := 2933) dL_law_2932 rfl ⟨by decide, by decide⟩ ?_
  refine mw_iadd (pc' := 2934) dL_law_2933 rfl (ik (by omega)) ?_
  refine mw_xld (pc' := 2935) dL_law_2934 rfl ⟨by omega, by omega⟩ ?_
  refine mw_aload_n (v := vR 74) (pc' := 2936) dL_law_2935 rfl rfl (by simp) rfl ?_
  refine mw_callSX (M' := mL_linkOccurrences) (A := [vR 0, vI (d SCR (i + 1)), vI (d SCR (i + 2)), vR 74]) (S := []) (pc' := 2939) dL_law_2936 rfl (goodW 1325 (by decide +kernel) rfl) kM_L_linkOccurrences kS_L_linkOccurrences ⟨by decide, by decide, Nat.le_trans (by decide) hb.1, Nat.le_trans (by decide) hb.2, by decide⟩ rfl rfl (Nat.le_of_ble_eq_true rfl) (MM.mono ?_ (MM.scr (o_linkOccurrences g d hI)))
  intro o g1 d1 hh
  obtain ⟨⟨k, ho, h1⟩, hs1⟩ := hh
  subst ho
  show MW mL_law (bc - 47) (bs - 8228) 2939 [(0, (5, 0)), (1, vR 0), (2, vR 65), (3, vR 74), (4, vR 75), (5, vI i)] [vI k] g1 d1 Q
  refine mw_top (fun hT1 => ?_)
  have hG1 : 76 ≤ g1.2.1 := hT1.2
  refine mw_istore (pc' := 2941) (L' := [(0, (5, 0)), (1, vR 0), (2, vR 65), (3, vR 74), (4, vR 75), (5, vI i), (6, vI k)]) dL_law_2939 rfl (by decide) rfl ?_
  refine mw_aload_n (v := vR 65) (pc' := 2942) dL_law_2941 rfl rfl (by simp) rfl ?_
  refine mw_aload_n (v := (5, 0)) (pc' := 2943) dL_law_2942 rfl rfl (by simp) rfl ?_
  refine mw_iload (pc' := 2945) dL_law_2943 rfl rfl ?_
  refine mw_iconst (pc' := 2946) dL_law_2945 rfl ⟨by decide, by decide⟩ ?_
  refine mw_iadd (pc' := 2947) dL_law_2946 rfl (ik (by omega)) ?_
  refine mw_xld (pc' := 2948) dL_law_2947 rfl (by rw [hs1]; exact ⟨by omega, by omega⟩) ?_
  rw [hs1]
  refine mw_aload_n (v := (5, 0)) (pc' := 2949) dL_law_2948 rfl rfl (by simp) rfl ?_
  refine mw_iload (pc' := 2951) dL_law_2949 rfl rfl ?_
  refine mw_iconst (pc' := 2952) dL_law_2951 rfl ⟨by decide, by decide⟩ ?_
  refine mw_iadd (pc' := 2953) dL_law_2952 rfl (ik (by omega)) ?_
  refine mw_xld (pc' := 2954) dL_law_2953 rfl (by rw [hs1]; exact ⟨by omega, by omega⟩) ?_
  rw [hs1]
  refine mw_callV (M' := mX12_linkOccurrences) (A := [vI (d SCR (i + 1)), vI (d SCR (i + 2))]) (A' := [vR 65, vI (d SCR (i + 1)), vI (d SCR (i + 2))]) (S := []) (a := 65) (pc' := 2957) dL_law_2954 rfl (Or.inl (goodW 2004 (by decide +kernel) rfl)) kM_X12_linkOccurrences kV_X12_linkOccurrences ⟨by decide, by decide, Nat.zero_le _, Nat.zero_le _, by decide⟩ rfl rfl rfl ⟨by decide, by omega⟩ (by decide +kernel) (by decide +kernel) (Nat.le_of_ble_eq_true rfl) (h1 _ (fun b d2 hI2 hs2 h5 hb0 => ?_))
  show MW mL_law (bc - 47 - 0) (bs - 8228 - 0) 2957 [(0, (5, 0)), (1, vR 0), (2, vR 65), (3, vR 74), (4, vR 75), (5, vI i), (6, vI k)] [vI b] g1 d2 Q
  rw [Nat.sub_zero (bc - 47), Nat.sub_zero (bs - 8228)]
  refine mw_istore (pc' := 2959) (L' := [(0, (5, 0)), (1, vR 0), (2, vR 65), (3, vR 74), (4, vR 75), (5, vI i), (6, vI k), (7, vI b)]) dL_law_2957 rfl (by decide) rfl ?_
  refine mw_aload_n (v := vR 65) (pc' := 2960) dL_law_2959 rfl rfl (by simp) rfl ?_
  refine mw_callV (M' := mX12_thrown) (A := []) (A' := [vR 65]) (S := []) (a := 65) (pc' := 2963) dL_law_2960 rfl (Or.inl (goodW 1679 (by decide +kernel) rfl)) kM_X12_thrown kV_X12_thrown ⟨by decide, by decide, Nat.zero_le _, Nat.zero_le _, by decide⟩ rfl rfl rfl ⟨by decide, by omega⟩ (by decide +kernel) (by decide +kernel) (Nat.le_of_ble_eq_true rfl) (eX12_thrown ?_)
  show MW mL_law (bc - 47 - 0) (bs - 8228 - 0) 2963 [(0, (5, 0)), (1, vR 0), (2, vR 65), (3, vR 74), (4, vR 75), (5, vI i), (6, vI k), (7, vI b)] [vI (d2 65 5)] g1 d2 Q
  rw [Nat.sub_zero (bc - 47), Nat.sub_zero (bs - 8228)]
  rw [h5]
  refine mw_iload (pc' := 2965) dL_law_2963 rfl rfl ?_
  refine mw_icmp_eq (tgt := 2970) (pc' := 2968) dL_law_2965 rfl (by decide) (fun _ => ?_) (fun c => absurd rfl c)
  refine mw_iload (pc' := 2972) dL_law_2970 rfl rfl ?_
  refine mw_if_ne (tgt := 2987) (pc' := 2975) dL_law_2972 rfl (by decide) (fun c => ?_) (fun c => ?_)
  · refine mw_goto (pc' := 0) (tgt := 3808) dL_law_2987 (by decide) ?_
    exact mw_loc (pc' := 0) [0, 1, 2, 3, 4, 5] rfl (mw_less ⟨by omega, by omega⟩ (h g1 d2 hI2 hs2))
  · have hb1 := hb0 c
    refine mw_aload_n (v := vR 74) (pc' := 2976) dL_law_2975 rfl rfl (by simp) rfl ?_
    refine mw_iconst (pc' := 2977) dL_law_2976 rfl ⟨by decide, by decide⟩ ?_
    refine mw_lald (pc' := 2978) dL_law_2977 rfl (by decide +kernel) ⟨by decide, by decide⟩ (by rw [show LN 74 = 1 by decide +kernel]; exact ⟨by decide, by decide⟩) ?_
    refine mw_iload (pc' := 2980) dL_law_2978 rfl rfl ?_
    refine mw_i2l (pc' := 2981) dL_law_2980 rfl ?_
    refine mw_lcmp (pc' := 2982) dL_law_2981 rfl ?_
    refine mw_if_eq (tgt := 2987) (pc' := 2985) dL_law_2982 rfl (by decide) (fun _ => ?_) (fun c3 => absurd (by rw [hb1]; exact lCmp_rf) c3)
    refine mw_goto (pc' := 0) (tgt := 3808) dL_law_2987 (by decide) ?_
    exact mw_loc (pc' := 0) [0, 1, 2, 3, 4, 5] rfl (mw_less ⟨by omega, by omega⟩ (h g1 d2 hI2 hs2))
theorem lc_47 {i : Int} {bc bs : Nat} {g : mG} {d : mD} {Q : mQ} (hI : INV g d) (hi : 0 ≤ i ∧ i + 3 < d SCR (-1)) (hN : d SCR (-1) ≤ 2048) (hb : 48 ≤ bc ∧ 8234 ≤ bs) (h : ∀ g' d', INV g' d' → d' SCR = d SCR → MW mL_law (bc - 48) (bs - 8234) 3808 [(0, (5, 0)), (1, vR 0), (2, vR 65), (3, vR 74), (4, vR 75), (5, vI i)] [] g' d' Q) : MW mL_law bc bs 2990 [(0, (5, 0)), (1, vR 0), (2, vR 65), (3, vR 74), (4, vR 75), (5, vI i)] [] g d Q := by
  refine mw_top (fun hT => ?_)
  have hG : 76 ≤ g.2.1 := hT.2
  refine mw_aload_n (v := vR 0) (pc' := 2991) dL_law_2990 rfl rfl (by simp) rfl ?_
  refine mw_aload_n (v := (5, 0)) (pc' := 2992) dL_law_2991 rfl rfl (by simp) rfl ?_
  refine mw_iload (pc' := 2994) dL_law_2992 rfl rfl ?_
  refine mw_iconst (pc' := 2995) dL_law_2994 rfl ⟨by decide, by decide⟩ ?_
  refine mw_iadd (pc' := 2996) dL_law_2995 rfl (ik (by omega)) ?_
  refine mw_xld (pc' := 2997) dL_law_2996 rfl ⟨by omega, by omega⟩ ?_
  refine mw_aload_n (v := (5, 0)) (pc' := 2998) dL_law_2997 rfl rfl (by simp) rfl ?_
  refine mw_iload (pc' := 3000) dL_law_2998 rfl rfl ?_
  refine mw_iconst (pc' := 3001) dL_law_3000 rfl ⟨by decide, by decide⟩ ?_
  refine mw_iadd (pc' := 3002) dL_law_3001 rfl (ik (by omega)) ?_
  refine mw_xld (pc' := 3003) dL_law_3002 rfl ⟨by omega, by omega⟩ ?_
  refine mw_aload_n (v := vR 74) (pc' := 3004) dL_law_3003 rfl rfl (by simp) rfl ?_
  refine mw_callSX (M' := mL_sameConduct) (A := [vR 0, vI (d SCR (i + 1)), vI (d SCR (i + 2)), vR 74]) (S := []) (pc' := 3007) dL_law_3004 rfl (goodW 1350 (by decide +kernel) rfl) kM_L_sameConduct kS_L_sameConduct ⟨by decide, by decide, Nat.le_trans (by decide) hb.1, Nat.le_trans (by decide) hb.2, by decide⟩ rfl rfl (Nat.le_of_ble_eq_true rfl) (MM.mono ?_ (MM.scr (o_sameConduct g d hI)))
  intro o g1 d1 hh
  obtain ⟨⟨k, ho, h1⟩, hs1⟩ := hh
  subst ho
  show MW mL_law (bc - 2) (bs - 12) 3007 [(0, (5, 0)), (1, vR 0), (2, vR 65), (3, vR 74), (4, vR 75), (5, vI i)] [vI k] g1 d1 Q
  refine mw_top (fun hT1 => ?_)
  have hG1 : 76 ≤ g1.2.1 := hT1.2
  refine mw_istore (pc' := 3009) (L' := [(0, (5, 0)), (1, vR 0), (2, vR 65), (3, vR 74), (4, vR 75), (5, vI i), (6, vI k)]) dL_law_3007 rfl (by decide) rfl ?_
  refine mw_aload_n (v := vR 65) (pc' := 3010) dL_law_3009 rfl rfl (by simp) rfl ?_
  refine mw_aload_n (v := (5, 0)) (pc' := 3011) dL_law_3010 rfl rfl (by simp) rfl ?_
  refine mw_iload (pc' := 3013) dL_law_3011 rfl rfl ?_
  refine mw_iconst (pc' := 3014) dL_law_3013 rfl ⟨by decide, by decide⟩ ?_
  refine mw_iadd (pc' := 3015) dL_law_3014 rfl (ik (by omega)) ?_
  refine mw_xld (pc' := 3016) dL_law_3015 rfl (by rw [hs1]; exact ⟨by omega, by omega⟩) ?_
  rw [hs1]
  refine mw_aload_n (v := (5, 0)) (pc' := 3017) dL_law_3016 rfl rfl (by simp) rfl ?_
  refine mw_iload (pc' := 3019) dL_law_3017 rfl rfl ?_
  refine mw_iconst (pc' := 3020) dL_law_3019 rfl ⟨by decide, by decide⟩ ?_
  refine mw_iadd (pc' := 3021) dL_law_3020 rfl (ik (by omega)) ?_
  refine mw_xld (pc' := 3022) dL_law_3021 rfl (by rw [hs1]; exact ⟨by omega, by omega⟩) ?_
  rw [hs1]
  refine mw_callV (M' := mX12_sameConduct) (A := [vI (d SCR (i + 1)), vI (d SCR (i + 2))]) (A' := [vR 65, vI (d SCR (i + 1)), vI (d SCR (i + 2))]) (S := []) (a := 65) (pc' := 3025) dL_law_3022 rfl (Or.inl (goodW 2016 (by decide +kernel) rfl)) kM_X12_sameConduct kV_X12_sameConduct ⟨by decide, by decide, Nat.zero_le _, Nat.zero_le _, by decide⟩ rfl rfl rfl ⟨by decide, by omega⟩ (by decide +kernel) (by decide +kernel) (Nat.le_of_ble_eq_true rfl) (h1 _ (fun b d2 hI2 hs2 h5 hb0 => ?_))
  show MW mL_law (bc - 2) (bs - 12) 3025 [(0, (5, 0)), (1, vR 0), (2, vR 65), (3, vR 74), (4, vR 75), (5, vI i), (6, vI k)] [vI b] g1 d2 Q
  refine mw_istore (pc' := 3027) (L' := [(0, (5, 0)), (1, vR 0), (2, vR 65), (3, vR 74), (4, vR 75), (5, vI i), (6, vI k), (7, vI b)]) dL_law_3025 rfl (by decide) rfl ?_
  refine mw_aload_n (v := vR 65) (pc' := 3028) dL_law_3027 rfl rfl (by simp) rfl ?_
  refine mw_callV (M' := mX12_thrown) (A := []) (A' := [vR 65]) (S := []) (a := 65) (pc' := 3031) dL_law_3028 rfl (Or.inl (goodW 1679 (by decide +kernel) rfl)) kM_X12_thrown kV_X12_thrown ⟨by decide, by decide, Nat.zero_le _, Nat.zero_le _, by decide⟩ rfl rfl rfl ⟨by decide, by omega⟩ (by decide +kernel) (by decide +kernel) (Nat.le_of_ble_eq_true rfl) (eX12_thrown ?_)
  show MW mL_law (bc - 2) (bs - 12) 3031 [(0, (5, 0)), (1, vR 0), (2, vR 65), (3, vR 74), (4, vR 75), (5, vI i), (6, vI k), (7, vI b)] [vI (d2 65 5)] g1 d2 Q
  rw [h5]
  refine mw_iload (pc' := 3033) dL_law_3031 rfl rfl ?_
  refine mw_icmp_eq (tgt := 3038) (pc' := 3036) dL_law_3033 rfl (by decide) (fun _ => ?_) (fun c => absurd rfl c)
  refine mw_iload (pc' := 3040) dL_law_3038 rfl rfl ?_
  refine mw_if_ne (tgt := 3062) (pc' := 3043) dL_law_3040 rfl (by decide) (fun c => ?_) (fun c => ?_)
  · refine mw_goto (pc' := 0) (tgt := 3808) dL_law_3062 (by decide) ?_
    exact mw_loc (pc' := 0) [0, 1, 2, 3, 4, 5] rfl (mw_less ⟨by omega, by omega⟩ (h g1 d2 hI2 hs2))
  · obtain ⟨hb1, hb2⟩ := hb0 c
    refine mw_aload_n (v := vR 74) (pc' := 3044) dL_law_3043 rfl rfl (by simp) rfl ?_
    refine mw_iconst (pc' := 3045) dL_law_3044 rfl ⟨by decide, by decide⟩ ?_
    refine mw_lald (pc' := 3046) dL_law_3045 rfl (by decide +kernel) ⟨by decide, by decide⟩ (by rw [show LN 74 = 1 by decide +kernel]; exact ⟨by decide, by decide⟩) ?_
    refine mw_iload (pc' := 3048) dL_law_3046 rfl rfl ?_
    rcases hb2 with hb2 | hb2
    · rw [← hb1, hb2]
      refine mw_if_eq (tgt := 3055) (pc' := 3051) dL_law_3048 rfl (by decide) (fun _ => ?_) (fun c2 => absurd rfl c2)
      refine mw_lconst0 (pc' := 3056) dL_law_3055 rfl ?_
      refine mw_lcmp (pc' := 3057) dL_law_3056 rfl ?_
      refine mw_if_eq (tgt := 3062) (pc' := 3060) dL_law_3057 rfl (by decide) (fun _ => ?_) (fun c3 => absurd lCmp_rf c3)
      refine mw_goto (pc' := 0) (tgt := 3808) dL_law_3062 (by decide) ?_
      exact mw_loc (pc' := 0) [0, 1, 2, 3, 4, 5] rfl (mw_less ⟨by omega, by omega⟩ (h g1 d2 hI2 hs2))
    · rw [← hb1, hb2]
      refine mw_if_eq (tgt := 3055) (pc' := 3051) dL_law_3048 rfl (by decide) (fun c2 => absurd c2 (by decide)) (fun _ => ?_)
      refine mw_lconst1 (pc' := 3052) dL_law_3051 rfl ?_
      refine mw_goto (pc' := 0) (tgt := 3056) dL_law_3052 (by decide) ?_
      refine mw_lcmp (pc' := 3057) dL_law_3056 rfl ?_
      refine mw_if_eq (tgt := 3062) (pc' := 3060) dL_law_3057 rfl (by decide) (fun _ => ?_) (fun c3 => absurd lCmp_rf c3)
      refine mw_goto (pc' := 0) (tgt := 3808) dL_law_3062 (by decide) ?_
      exact mw_loc (pc' := 0) [0, 1, 2, 3, 4, 5] rfl (mw_less ⟨by omega, by omega⟩ (h g1 d2 hI2 hs2))
