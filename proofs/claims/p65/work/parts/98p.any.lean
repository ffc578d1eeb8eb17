-- the law's cells, picks and ways
section
variable {g : mG} {d : mD} {R : rW} {u : Int} {H : Int → rW} {sc fg : Int → Int} {n : Int} {Q : mQ}
theorem f_cell {x1 : Int} (h0 : 0 ≤ d SCR (-1)) (h1 : 0 ≤ x1) (h : ∀ v, Q (.inl v) g d) : MM mL_cell [(5, 0), vI x1] g d Q := eL_cell ⟨h0, fun c => ⟨h1, by omega⟩, h _⟩
theorem f_pick {x1 x2 : Int} (h0 : 0 ≤ d SCR (-1)) (h1 : 0 ≤ x1) (h2 : 0 < x2) (h : ∀ v, 0 ≤ v → v < x2 → Q (.inl v) g d) : MM mL_pick [(5, 0), vI x1, vI x2] g d Q := eL_pick (f_cell h0 h1 (fun v => ⟨(us8 v).1, h2, h _ (Int.emod_nonneg _ (by omega)) (Int.emod_lt_of_pos _ h2)⟩))
theorem l_pick {x1 x2 : Int} (hS : KLS g d R u H sc fg n) (h0 : 0 ≤ sc (-1)) (h1 : 0 ≤ x1) (h2 : 0 < x2) (h : ∀ v, 0 ≤ v → v < x2 → Q (.inl v) g d) : MM mL_pick [(5, 0), vI x1, vI x2] g d Q := f_pick (by rw [hS.2.1]; exact h0) h1 h2 h
theorem f_way {x0 : Int} (h : ∀ v, Q (.inl v) g d) : MM mL_way [vI x0] g d Q := by
  refine eL_way ⟨?_, h _⟩
  by_cases c0 : x0 = 0
  · rw [iT_t c0]; decide
  · rw [iT_f c0]
    by_cases c1 : x0 = 1
    · rw [iT_t c1]; decide
    · rw [iT_f c1]
      by_cases c2 : x0 = 2
      · rw [iT_t c2]; decide
      · rw [iT_f c2]; decide
theorem f_any {x2 : Int} (hS : KLS g d R u H sc fg n) (h0 : 0 ≤ sc (-1)) (h2 : 0 ≤ x2 ∧ x2 ≤ 100000) (he : ∀ v, v < 0 → ∀ g' d', KLS g' d' R u H sc fg n → Q (.inl v) g' d') (hv : ∀ v, 0 ≤ v → ∀ g' d' R', KLS g' d' R' (min 8 (u + 1)) (hPush u R H) sc fg n → Q (.inl v) g' d') : MM mL_any [vR 0, (5, 0), vI x2] g d Q := by
  have hn3 := hS.w.n.2.2.2.1
  have hn0 := hS.w.n.1
  refine eL_any ?_
  refine l_deadlines hS (fun d1 hS => ?_)
  dsimp only
  refine ⟨ik (by omega), ?_⟩
  refine l_pick hS h0 (by omega) (by decide) (fun v7 v7_a v7_b => ?_)
  dsimp only
  refine ⟨fun c0 => ?_, fun c0 => ?_⟩
  · refine ⟨ik (by omega), ?_⟩
    refine l_pick hS h0 (by omega) (by decide) (fun v13 v13_a v13_b => ?_)
    dsimp only
    refine ⟨ik (by omega), ?_⟩
    refine l_pick hS h0 (by omega) (by decide) (fun v18 v18_a v18_b => ?_)
    dsimp only
    refine ⟨ik (by omega), ?_⟩
    refine l_pick hS h0 (by omega) (by decide) (fun v23 v23_a v23_b => ?_)
    dsimp only
    refine f_way (fun v27 => ?_)
    dsimp only
    exact d_serve hS (fun z g' d' hS' => he _ (by omega) g' d' hS') (fun z g' d' hS' => hv _ z g' d' _ hS')
  · refine ⟨fun c1 => ?_, fun c1 => ?_⟩
    · refine ⟨ik (by omega), ?_⟩
      refine l_pick hS h0 (by omega) (by decide) (fun v37 v37_a v37_b => ?_)
      dsimp only
      refine ⟨ik (by omega), ?_⟩
      refine l_pick hS h0 (by omega) (by decide) (fun v42 v42_a v42_b => ?_)
      dsimp only
      refine ⟨ik (by omega), ?_⟩
      refine l_pick hS h0 (by omega) (by decide) (fun v47 v47_a v47_b => ?_)
      dsimp only
      refine f_way (fun v51 => ?_)
      dsimp only
      exact d_serve hS (fun z g' d' hS' => he _ (by omega) g' d' hS') (fun z g' d' hS' => hv _ z g' d' _ hS')
    · refine ⟨fun c2 => ?_, fun c2 => ?_⟩
      · refine ⟨ik (by omega), ?_⟩
        refine l_pick hS h0 (by omega) (by decide) (fun v61 v61_a v61_b => ?_)
        dsimp only
        refine ⟨ik (by omega), ?_⟩
        refine l_pick hS h0 (by omega) (by decide) (fun v66 v66_a v66_b => ?_)
        dsimp only
        refine ⟨ik (by omega), ?_⟩
        refine l_pick hS h0 (by omega) (by decide) (fun v71 v71_a v71_b => ?_)
        dsimp only
        refine f_way (fun v75 => ?_)
        dsimp only
        exact d_serve hS (fun z g' d' hS' => he _ (by omega) g' d' hS') (fun z g' d' hS' => hv _ z g' d' _ hS')
      · refine ⟨fun c3 => ?_, fun c3 => ?_⟩
        · refine ⟨ik (by omega), ?_⟩
          refine l_pick hS h0 (by omega) (by decide) (fun v85 v85_a v85_b => ?_)
          dsimp only
          refine ⟨ik (by omega), ?_⟩
          refine l_pick hS h0 (by omega) (by decide) (fun v90 v90_a v90_b => ?_)
          dsimp only
          refine ⟨ik (by omega), ?_⟩
          refine l_pick hS h0 (by omega) (by decide) (fun v95 v95_a v95_b => ?_)
          dsimp only
          refine f_way (fun v99 => ?_)
          dsimp only
          exact d_serve hS (fun z g' d' hS' => he _ (by omega) g' d' hS') (fun z g' d' hS' => hv _ z g' d' _ hS')
        · refine ⟨fun c4 => ?_, fun c4 => ?_⟩
          · refine ⟨ik (by omega), ?_⟩
            refine ⟨ik (by omega), ?_⟩
            refine l_pick hS h0 (by omega) (by decide) (fun v110 v110_a v110_b => ?_)
            dsimp only
            have hp5 : 0 < iT (v110 = 0) 200 12 ∧ iT (v110 = 0) 200 12 ≤ 200 := by rcases iT_or (p := v110 = 0) 200 12 with ⟨_, e⟩ | ⟨_, e⟩ <;> omega
            refine l_pick hS h0 (by omega) hp5.1 (fun v116 v116_a v116_b => ?_)
            dsimp only
            refine ⟨ik (by omega), ?_⟩
            exact d_advance hS (fun z g' d' hS' => he _ (by omega) g' d' hS') (fun z g' d' hS' => hv _ z g' d' _ hS')
          · refine ⟨fun c6 => ?_, fun c6 => ?_⟩
            · refine ⟨ik (by omega), ?_⟩
              refine ⟨ik (by omega), ?_⟩
              refine l_pick hS h0 (by omega) (by decide) (fun v128 v128_a v128_b => ?_)
              dsimp only
              have hp7 : 0 < iT (v128 = 0) 200 12 ∧ iT (v128 = 0) 200 12 ≤ 200 := by rcases iT_or (p := v128 = 0) 200 12 with ⟨_, e⟩ | ⟨_, e⟩ <;> omega
              refine l_pick hS h0 (by omega) hp7.1 (fun v134 v134_a v134_b => ?_)
              dsimp only
              refine ⟨ik (by omega), ?_⟩
              exact d_advance hS (fun z g' d' hS' => he _ (by omega) g' d' hS') (fun z g' d' hS' => hv _ z g' d' _ hS')
            · refine ⟨fun c8 => ?_, fun c8 => ?_⟩
              · refine ⟨ik (by omega), ?_⟩
                refine ⟨ik (by omega), ?_⟩
                refine l_pick hS h0 (by omega) (by decide) (fun v146 v146_a v146_b => ?_)
                dsimp only
                have hp9 : 0 < iT (v146 = 0) 200 12 ∧ iT (v146 = 0) 200 12 ≤ 200 := by rcases iT_or (p := v146 = 0) 200 12 with ⟨_, e⟩ | ⟨_, e⟩ <;> omega
                refine l_pick hS h0 (by omega) hp9.1 (fun v152 v152_a v152_b => ?_)
                dsimp only
                refine ⟨ik (by omega), ?_⟩
                exact d_advance hS (fun z g' d' hS' => he _ (by omega) g' d' hS') (fun z g' d' hS' => hv _ z g' d' _ hS')
              · refine ⟨fun c10 => ?_, fun c10 => ?_⟩
                · refine ⟨ik (by omega), ?_⟩
                  refine l_pick hS h0 (by omega) (by omega) (fun v163 v163_a v163_b => ?_)
                  dsimp only
                  refine ⟨ik (by omega), ?_⟩
                  refine l_pick hS h0 (by omega) (by decide) (fun v168 v168_a v168_b => ?_)
                  dsimp only
                  refine ⟨ik (by omega), ?_⟩
                  exact d_consent hS (fun z g' d' hS' => he _ (by omega) g' d' hS') (fun z g' d' hS' => hv _ z g' d' _ hS')
                · refine ⟨fun c11 => ?_, fun c11 => ?_⟩
                  · refine ⟨ik (by omega), ?_⟩
                    refine l_pick hS h0 (by omega) (by omega) (fun v179 v179_a v179_b => ?_)
                    dsimp only
                    refine ⟨ik (by omega), ?_⟩
                    refine l_pick hS h0 (by omega) (by decide) (fun v184 v184_a v184_b => ?_)
                    dsimp only
                    refine ⟨ik (by omega), ?_⟩
                    exact d_order hS (fun z g' d' hS' => he _ (by omega) g' d' hS') (fun z g' d' hS' => hv _ z g' d' _ hS')
                  · refine ⟨fun c12 => ?_, fun c12 => ?_⟩
                    · refine ⟨ik (by omega), ?_⟩
                      refine l_pick hS h0 (by omega) (by omega) (fun v195 v195_a v195_b => ?_)
                      dsimp only
                      exact d_file hS (fun z g' d' hS' => he _ (by omega) g' d' hS') (fun z g' d' hS' => hv _ z g' d' _ hS')
                    · refine ⟨fun c13 => ?_, fun c13 => ?_⟩
                      · refine ⟨ik (by omega), ?_⟩
                        refine l_pick hS h0 (by omega) (by omega) (fun v205 v205_a v205_b => ?_)
                        dsimp only
                        exact d_strike hS (fun z g' d' hS' => he _ (by omega) g' d' hS') (fun z g' d' hS' => hv _ z g' d' _ hS')
                      · refine ⟨fun c14 => ?_, fun c14 => ?_⟩
                        · refine ⟨ik (by omega), ?_⟩
                          refine l_pick hS h0 (by omega) (by decide) (fun v215 v215_a v215_b => ?_)
                          dsimp only
                          refine ⟨ik (by omega), ?_⟩
                          refine l_pick hS h0 (by omega) (by decide) (fun v220 v220_a v220_b => ?_)
                          dsimp only
                          refine ⟨ik (by omega), ?_⟩
                          exact d_stayParty hS (fun z g' d' hS' => he _ (by omega) g' d' hS') (fun z g' d' hS' => hv _ z g' d' _ hS')
                        · refine ⟨fun c15 => ?_, fun c15 => ?_⟩
                          · refine ⟨ik (by omega), ?_⟩
                            refine l_pick hS h0 (by omega) (by decide) (fun v231 v231_a v231_b => ?_)
                            dsimp only
                            refine ⟨ik (by omega), ?_⟩
                            refine l_pick hS h0 (by omega) (by decide) (fun v236 v236_a v236_b => ?_)
                            dsimp only
                            refine ⟨ik (by omega), ?_⟩
                            exact d_stayParty hS (fun z g' d' hS' => he _ (by omega) g' d' hS') (fun z g' d' hS' => hv _ z g' d' _ hS')
                          · refine ⟨fun c16 => ?_, fun c16 => ?_⟩
                            · refine ⟨ik (by omega), ?_⟩
                              refine l_pick hS h0 (by omega) (by decide) (fun v247 v247_a v247_b => ?_)
                              dsimp only
                              refine ⟨ik (by omega), ?_⟩
                              exact d_stayAll hS (fun z g' d' hS' => he _ (by omega) g' d' hS') (fun z g' d' hS' => hv _ z g' d' _ hS')
                            · refine ⟨fun c17 => ?_, fun c17 => ?_⟩
                              · refine ⟨ik (by omega), ?_⟩
                                refine l_pick hS h0 (by omega) (by decide) (fun v258 v258_a v258_b => ?_)
                                dsimp only
                                exact d_lift hS (fun z g' d' hS' => he _ (by omega) g' d' hS') (fun z g' d' hS' => hv _ z g' d' _ hS')
                              · refine ⟨fun c18 => ?_, fun c18 => ?_⟩
                                · refine ⟨ik (by omega), ?_⟩
                                  refine l_pick hS h0 (by omega) (by decide) (fun v268 v268_a v268_b => ?_)
                                  dsimp only
                                  exact d_lift hS (fun z g' d' hS' => he _ (by omega) g' d' hS') (fun z g' d' hS' => hv _ z g' d' _ hS')
                                · refine ⟨fun c19 => ?_, fun c19 => ?_⟩
                                  · refine ⟨ik (by omega), ?_⟩
                                    refine l_pick hS h0 (by omega) (by decide) (fun v278 v278_a v278_b => ?_)
                                    dsimp only
                                    exact d_lift hS (fun z g' d' hS' => he _ (by omega) g' d' hS') (fun z g' d' hS' => hv _ z g' d' _ hS')
                                  · refine ⟨fun c20 => ?_, fun c20 => ?_⟩
                                    · refine l_today hS (fun d1 hS => ?_)
                                      dsimp only
                                      refine ⟨ik (by omega), ?_⟩
                                      refine l_pick hS h0 (by omega) (by decide) (fun v292 v292_a v292_b => ?_)
                                      dsimp only
                                      refine ⟨ik (by omega), ?_⟩
                                      exact d_addHoliday hS (fun z g' d' hS' => he _ (by omega) g' d' hS') (fun z g' d' hS' => hv _ z g' d' _ hS')
                                    · refine ⟨fun c21 => ?_, fun c21 => ?_⟩
                                      · refine ⟨ik (by omega), ?_⟩
                                        refine l_today hS (fun d1 hS => ?_)
                                        dsimp only
                                        refine ⟨ik (by omega), ?_⟩
                                        refine l_pick hS h0 (by omega) (by omega) (fun v308 v308_a v308_b => ?_)
                                        dsimp only
                                        refine ⟨ik (by omega), ?_⟩
                                        refine l_pick hS h0 (by omega) (by decide) (fun v313 v313_a v313_b => ?_)
                                        dsimp only
                                        exact d_occ hS (fun z g' d' hS' => he _ (by omega) g' d' hS') (fun z g' d' hS' => hv _ z g' d' _ hS')
                                      · refine ⟨fun c22 => ?_, fun c22 => ?_⟩
                                        · refine ⟨ik (by omega), ?_⟩
                                          refine l_pick hS h0 (by omega) (by decide) (fun v323 v323_a v323_b => ?_)
                                          dsimp only
                                          refine ⟨ik (by omega), ?_⟩
                                          refine l_pick hS h0 (by omega) (by decide) (fun v328 v328_a v328_b => ?_)
                                          dsimp only
                                          exact d_link hS (fun z g' d' hS' => he _ (by omega) g' d' hS') (fun z g' d' hS' => hv _ z g' d' _ hS')
                                        · refine ⟨fun c23 => ?_, fun c23 => ?_⟩
                                          · refine ⟨ik (by omega), ?_⟩
                                            refine l_pick hS h0 (by omega) (by decide) (fun v338 v338_a v338_b => ?_)
                                            dsimp only
                                            refine ⟨ik (by omega), ?_⟩
                                            refine l_pick hS h0 (by omega) (by decide) (fun v343 v343_a v343_b => ?_)
                                            dsimp only
                                            exact d_fileClaim hS (fun z g' d' hS' => he _ (by omega) g' d' hS') (fun z g' d' hS' => hv _ z g' d' _ hS')
                                          · refine ⟨ik (by omega), ?_⟩
                                            refine l_pick hS h0 (by omega) (by decide) (fun v352 v352_a v352_b => ?_)
                                            dsimp only
                                            refine ⟨ik (by omega), ?_⟩
                                            refine l_pick hS h0 (by omega) (by decide) (fun v357 v357_a v357_b => ?_)
                                            dsimp only
                                            exact d_amendClaim hS (fun z g' d' hS' => he _ (by omega) g' d' hS') (fun z g' d' hS' => hv _ z g' d' _ hS')
end
