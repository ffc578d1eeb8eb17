-- the other calls: names, undo
theorem q_findParty2 {R : rW} {g : mG} {d : mD} {Q : mQ} (hC : CI d R) (hn : 0 ≤ d 1 1 ∧ d 1 1 ≤ 60) (hT : ∀ j, 0 ≤ j → j < d 1 1 → 0 ≤ d 2 j ∧ d 2 j ≤ 65535) (h : ∀ d', (∀ b j : Int, b ≠ 5 → ¬ (b = 1 ∧ j = 1) → d' b j = d b j) → d' 1 1 = 0 → Q (r_find R (cdP (d 2) (d 1 1)) (rdF (d 2) (d 1 1))) g d') : MM mX11_findParty [vR 0] g d Q := by
  refine eX11_findParty (R := R) (q_readName hn hT fun d4 hf hL hN => ?_)
  have fr0 : ∀ b j : Int, b ≠ 5 → ¬ (b = 1 ∧ j = 1) → (ud d4 1 1 0) b j = d b j := fun b j q1 q2 => by rw [ud_ne (by omega)]; exact hf b j (by omega)
  have hC4 : CI (ud d4 1 1 0) R := hC.fr (fun b j q1 q2 => by rw [ud_ne (by omega)]; exact hf b j (by omega))
  have hnm : nmF R (d4 5) (rdF (d 2) (d 1 1)) = nmF R (cdP (d 2) (d 1 1)) (rdF (d 2) (d 1 1)) := nmF_cg hN
  dsimp only
  rw [hnm]
  have hh := h _ fr0 (ud_same _ _ _ _)
  refine ⟨hC4, hL, fun c => ?_, fun c => ?_⟩
  · unfold r_find at hh; rwa [iO_t c] at hh
  · unfold r_find at hh; rwa [iO_f c] at hh
/-- the text is emptied on both sides -/
theorem inv_text0 {g : mG} {d d2 : mD} {R : rW} {u : Int} {H : Int → rW} {n : Int} {T : rW} {l : Ln} {e f : Int} (h1 : CHh g d R u H n T l e f) (h2 : MHh d R u H n T l e f) (h3 : SD n T l) (hc : ∀ b j : Int, b ≠ 5 → ¬ (b = 1 ∧ j = 1) → b ≠ 71 → b ≠ 74 → ¬ (b = 65 ∧ (j = 5 ∨ j = 7 ∨ j = 13)) → d2 b j = d b j) (e1 : d2 1 1 = 0) (e7 : d2 65 7 = 0) : INV g d2 := by
  obtain ⟨a1, a2, a3, a4, a5, a6⟩ := h1
  obtain ⟨⟨b1, b2, b3⟩, b4, b5, b6, b7, b8, b9⟩ := h2
  refine ⟨R, u, H, 0, T, l, e, f, ⟨a1.fr (a1.1.fr (fun b j y1 y2 => hc b j (by omega) (by omega) (by omega) (by omega) (by omega))) (fun b j y1 y2 => hc b j (by omega) (by omega) (by omega) (by omega) (by omega)) (hc 0 5 (by omega) (by omega) (by omega) (by omega) (by omega)) (hc 0 6 (by omega) (by omega) (by omega) (by omega) (by omega)), (funext fun j => hc 2 j (by omega) (by omega) (by omega) (by omega) (by omega)).trans a2, e1, a4.frr (hc 3 1 (by omega) (by omega) (by omega) (by omega) (by omega)) (fun j => hc 4 j (by omega) (by omega) (by omega) (by omega) (by omega)), (hc 0 11 (by omega) (by omega) (by omega) (by omega) (by omega)).trans a5, (hc 0 12 (by omega) (by omega) (by omega) (by omega) (by omega)).trans a6⟩, ⟨⟨(funext fun j => hc 66 j (by omega) (by omega) (by omega) (by omega) (by omega)).trans b1, (hc 65 3 (by omega) (by omega) (by omega) (by omega) (by omega)).trans b2, fun i q1 q2 x y1 y2 => (hc 68 _ (by omega) (by omega) (by omega) (by omega) (by omega)).trans (b3 i q1 q2 x y1 y2)⟩, (funext fun j => hc 69 j (by omega) (by omega) (by omega) (by omega) (by omega)).trans b4, e7, b6.frr (hc 65 9 (by omega) (by omega) (by omega) (by omega) (by omega)) (fun j => hc 70 j (by omega) (by omega) (by omega) (by omega) (by omega)), (hc 65 10 (by omega) (by omega) (by omega) (by omega) (by omega)).trans b7, (hc 65 11 (by omega) (by omega) (by omega) (by omega) (by omega)).trans b8, (hc 65 4 (by omega) (by omega) (by omega) (by omega) (by omega)).trans b9⟩, ⟨⟨Int.le_refl _, by decide⟩, h3.2⟩⟩
theorem ri_find {R : rW} {N : Int → Int} {L : Int} : RinS [4] (r_find R N L) := RinS.i (RinS.e (by decide)) RinS.v
theorem o_findParty : Op mL_findParty [vR 0, vR 74] mX12_findParty [vR 65] := op_i fun g d R u H n T l e f h1 h2 h3 => by
  have hC := h1.1.1
  have e66 : d 66 = R := h2.1.1
  have e2 : d 2 = T := h1.2.1
  have e1 : d 1 1 = n := h1.2.2.1
  refine wr_findParty (q_findParty2 hC (by rw [e1]; exact h3.1) (fun j _ _ => by rw [e2]; exact h3.2.1 j) (fun d1 f1 en => ?_))
  rw [e2, e1]
  have key : ∀ (d1' : mD) (k : Int), (∀ b j : Int, b ≠ 5 → ¬ (b = 1 ∧ j = 1) → b ≠ 74 → d1' b j = d b j) → d1' 1 1 = 0 → kx [4] (r_find R (cdP T n) (rdF T n)) = k → (k = 0 → ∀ v, (∀ w, r_find R (cdP T n) (rdF T n) = .inl w → v = w) → v = d1' 74 0) → ∀ Q2 : mQ, (∀ (b : Int) (d2 : mD), INV g d2 → d2 SCR = d SCR → d2 65 5 = k → (k = 0 → b = d2 74 0) → Q2 (.inl b) g d2) → MM mX12_findParty [vR 65] g d1' Q2 := fun d1' k fr en' hk hw Q2 h => by
    have em : d1' 66 = R := (funext fun j => fr 66 j (by omega) (by omega) (by decide)).trans e66
    have em7 : d1' 65 7 = n := (fr 65 7 (by omega) (by omega) (by decide)).trans h2.2.2.1
    have emT : d1' 69 = T := (funext fun j => fr 69 j (by omega) (by omega) (by decide)).trans h2.2.1
    refine m_findParty (by rw [em]; exact hC.w) (by rw [em7]; exact h3.1) (fun j _ _ => by rw [emT]; exact h3.2.1 j) (fun v d2 f2 e7 h5 hv => ?_)
    rw [em, emT, em7] at h5 hv
    refine h v d2 (inv_text0 h1 h2 h3 (fun b j q1 q2 q3 q4 q5 => (f2 b j q3 (by omega)).trans (fr b j q1 q2 q4)) ((f2 1 1 (by omega) (by omega)).trans en') e7) ?_ (h5.trans hk) (fun z => ?_)
    · exact funext fun j => (f2 SCR j (by decide) (fun q => absurd q.1 (by decide))).trans (fr SCR j (by decide) (fun q => absurd q.1 (by decide)) (by decide))
    · rw [f2 74 0 (by omega) (by omega)]
      exact hw z v hv
  cases hr : r_find R (cdP T n) (rdF T n) with
  | inl w =>
    dsimp only
    rw [hr] at key
    refine ⟨0, rfl, key (ud d1 74 0 w) 0 (fun b j q1 q2 q3 => by rw [ud_ne (by omega)]; exact f1 b j q1 q2) (by rw [ud_ne (by omega)]; exact en) rfl (fun _ v hv => by rw [ud_same]; exact hv w rfl)⟩
  | inr k =>
    dsimp only
    rw [hr] at key
    refine ⟨ri_find k hr, ix k [4], rfl, key d1 (ix k [4]) (fun b j q1 q2 q3 => f1 b j q1 q2) en rfl (fun z => absurd z (by have := ix_pos (k := k) [4]; omega))⟩
theorem o_addParty : Op mL_addParty [vR 0, vR 74] mX12_addParty [vR 65] := op_i fun g d R u H n T l e f h1 h2 h3 => by
  have hC := h1.1.1
  have e66 : d 66 = R := h2.1.1
  have e2 : d 2 = T := h1.2.1
  have e1 : d 1 1 = n := h1.2.2.1
  have hu := h1.1.2.choose_spec.2.2.2.1
  have hl : ∀ x ∈ ([-2, -3] : List Int), -5 ≤ x ∧ x < 0 := by decide
  refine wr_addParty (eX11_addParty (z_change (M' := mX11_tryAddParty) (A := [vR 0]) (l := [-2, -3]) (s := st_addParty R (cdP T n) (rdF T n)) (n' := 0) h1.1 (fun c hc => (hl c hc).1) (ok_addParty hC.w) (fun g3 d3 Q3 hC3 f3 hq => ?_) (fun z zl g' d' fy en hS => ?_) (fun z g' d' fy en hS => ?_)))
  · have t2 : d3 2 = T := (funext fun j => f3 2 j (by omega)).trans e2
    have t1 : d3 1 1 = n := (f3 1 1 (by omega)).trans e1
    refine t_addParty hC3 (by rw [t1]; exact h3.1) (fun j _ _ => by rw [t2]; exact h3.2.1 j) (fun d' f' en' hC' => ?_)
    rw [t2, t1] at hC' ⊢
    exact hq d' f' en' hC'
  · show LX [2, 1] _ _ g' d'
    have ek : exF (st_addParty R (cdP T n) (rdF T n)).1 ∈ ([-2, -3] : List Int).map exF := List.mem_map.mpr ⟨_, zl, rfl⟩
    refine ⟨ek, ix (exF (st_addParty R (cdP T n) (rdF T n)).1) [2, 1], rfl, fun Q2 h => ?_⟩
    have hmh := h2.fr fy.mh
    have em : d' 66 = R := hmh.1.1
    have em7 : d' 65 7 = n := hmh.2.2.1
    have emT : d' 69 = T := hmh.2.1
    refine n_addParty (by rw [em]; exact hC.w) (by rw [hmh.1.2.1]; exact hu) (by rw [em7]; exact h3.1) (fun j _ _ => by rw [emT]; exact h3.2.1 j) (fun _ v d2 f2 e7 h5 => ?_) (fun z2 => absurd z2 (by rw [em, emT, em7]; omega))
    rw [em, emT, em7, exF_ix _ hl zl] at h5
    have hch := ch_of h1 fy hS en
    have f2' : ∀ b j : Int, b ≠ 71 → ¬ (b = 65 ∧ (j = 5 ∨ j = 7 ∨ j = 13)) → d2 b j = d' b j := f2
    obtain ⟨⟨b1, b2, b3⟩, b4, b5, b6, b7, b8, b9⟩ := hmh
    refine h v d2 ⟨R, u, H, 0, T, l, e, f, hch.fr (fun b j q => f2' b j (by omega) (by omega)), ⟨⟨(funext fun j => f2' 66 j (by omega) (by omega)).trans b1, (f2' 65 3 (by omega) (by omega)).trans b2, fun i q1 q2 x y1 y2 => (f2' 68 _ (by omega) (by omega)).trans (b3 i q1 q2 x y1 y2)⟩, (funext fun j => f2' 69 j (by omega) (by omega)).trans b4, e7, b6.frr (f2' 65 9 (by omega) (by omega)) (fun j => f2' 70 j (by omega) (by omega)), (f2' 65 10 (by omega) (by omega)).trans b7, (f2' 65 11 (by omega) (by omega)).trans b8, (f2' 65 4 (by omega) (by omega)).trans b9⟩, ⟨⟨Int.le_refl _, by decide⟩, h3.2⟩⟩ ?_ h5 (fun z3 => by have := ix_pos (k := exF (st_addParty R (cdP T n) (rdF T n)).1) [2, 1]; omega)
    exact funext fun j => (f2 SCR j (by decide) (fun q => absurd q.1 (by decide))).trans (congrFun (scr_Y fy) j)
  · show ∃ k, _
    refine ⟨0, rfl, fun Q2 h => ?_⟩
    have hmh := (h2.fr fy.mh).fr (d' := ud d' 74 0 (st_addParty R (cdP T n) (rdF T n)).1) (fun b j q => ud_ne (by omega))
    have em : (ud d' 74 0 (st_addParty R (cdP T n) (rdF T n)).1) 66 = R := hmh.1.1
    have em7 : (ud d' 74 0 (st_addParty R (cdP T n) (rdF T n)).1) 65 7 = n := hmh.2.2.1
    have emT : (ud d' 74 0 (st_addParty R (cdP T n) (rdF T n)).1) 69 = T := hmh.2.1
    refine n_addParty (by rw [em]; exact hC.w) (by rw [hmh.1.2.1]; exact hu) (by rw [em7]; exact h3.1) (fun j _ _ => by rw [emT]; exact h3.2.1 j) (fun z2 => absurd z2 (by rw [em, emT, em7]; omega)) (fun _ d2 e2' e7 f2 => ?_)
    rw [em, emT, em7] at e2' ⊢
    have fm : ∀ b j : Int, ¬ (65 ≤ b ∧ b ≤ 73) → d2 b j = ud d' 74 0 (st_addParty R (cdP T n) (rdF T n)).1 b j := fun b j q => by
      rw [f2 b j (by omega) (by omega) (by omega), mChg_fr (by omega), ud_ne (by omega)]
    refine h _ d2 ⟨(st_addParty R (cdP T n) (rdF T n)).2, min 8 (u + 1), hPush u R H, 0, T, l, e, f, ((ch_of h1 fy hS en).fr (d' := ud d' 74 0 (st_addParty R (cdP T n) (rdF T n)).1) (fun b j q => ud_ne (by omega))).fr (fun b j q => fm b j (by omega)), mh_chg hmh hu e2' (fun b j q q2 => f2 b j q (by omega) (by omega)) e7, ⟨⟨Int.le_refl _, by decide⟩, h3.2⟩⟩ ?_ ?_ (fun _ => ?_)
    · refine funext fun j => (fm SCR j (by decide)).trans ?_
      rw [ud_row (by decide)]
      exact congrFun (scr_Y fy) j
    · rw [f2 65 5 (by decide) (by decide) (by omega), mChg_fr (by omega), ud_same]
    · rw [fm 74 0 (by omega), ud_same]
theorem o_undo : Op mL_undo [vR 0, vR 74] mX12_undo [vR 65] := op_i fun g d R u H n T l e f h1 h2 h3 => by
  have hC := h1.1.1
  have e66 : d 66 = R := h2.1.1
  have e3 : d 65 3 = u := h2.1.2.1
  obtain ⟨c, hP, hn, hu6, hu, hsl⟩ := h1.1.2
  refine wr_undo (eX11_undo ⟨fun c0 => ?_, fun c0 => ⟨fun _ => ik (by omega), ?_⟩⟩)
  · refine ⟨by decide, 1, rfl, fun Q2 h => ?_⟩
    refine m_undo (by rw [e3]; exact hu) (fun _ => ?_) (fun z => absurd (by omega) z)
    refine h 0 _ ⟨R, u, H, n, T, l, e, f, h1.fr (fun b j q => by rw [ud_ne (by omega), ud_ne (by omega)]), h2.fr (fun b j q => by rw [ud_ne (by omega), ud_ne (by omega)]), h3⟩ ?_ (ud_same _ _ _ _) (fun z => absurd z (by decide))
    rw [ud_row (by decide), ud_row (by decide)]
  · have hpop := ring_pop (S := fun k R' => SlotS d c k R') (np := d 0 5) (u := u) (np' := iT (d 0 5 = 0) 8 (d 0 5 - 1)) ⟨hn.1, hn.2.1⟩ ⟨by omega, hu.2⟩ rfl hsl
    obtain ⟨⟨hs1, hs2⟩, hrest⟩ := hpop
    have hnp0 : 0 ≤ iT (d 0 5 = 0) 8 (d 0 5 - 1) ∧ iT (d 0 5 = 0) 8 (d 0 5 - 1) ≤ 8 := by
      by_cases z : d 0 5 = 0
      · rw [iT_t z]; omega
      · rw [iT_f z]; omega
    generalize iT (d 0 5 = 0) 8 (d 0 5 - 1) = np' at hs1 hs2 hrest hnp0 ⊢
    refine q_takeBack (c := c) (np := np') (A := 76 + 46 * np') (R := H (u - 1)) hP (ud_same _ _ _ _) ⟨hnp0.1, hs1⟩ rfl ?_ (fun d9 f9 hC9 => ?_)
    · refine CI.sh (d := d) (k := 70 + 46 * np') hs2 (fun b j hb => ?_)
      have := inC_e hb
      rw [ud_ne (by omega), show 76 + 46 * np' - 6 = 70 + 46 * np' by omega]
    · dsimp only
      have e96 : d9 0 6 = u := ((f9 0 6 (by omega)).trans (ud_ne (by omega))).trans hu6
      have e95 : d9 0 5 = np' := (f9 0 5 (by omega)).trans (ud_same _ _ _ _)
      rw [e96]
      refine ⟨ik (by omega), ?_⟩
      refine ⟨0, rfl, fun Q2 h => ?_⟩
      have fr9 : ∀ b j : Int, ¬ (6 ≤ b ∧ b < 52) → ¬ (b = 0 ∧ (j = 5 ∨ j = 6)) → b ≠ 74 → ud (ud d9 0 6 (u - 1)) 74 0 (u - 1) b j = d b j := fun b j q1 q2 q3 => by
        rw [ud_ne (by omega), ud_ne (by omega), f9 b j (by omega), ud_ne (by omega)]
      have hmh := h2.fr (d' := ud (ud d9 0 6 (u - 1)) 74 0 (u - 1)) (fun b j q => fr9 b j (by omega) (by omega) (by omega))
      have m3 := hmh.1.2.1
      refine m_undo (by rw [m3]; exact hu) (fun z => absurd z (by rw [m3]; omega)) (fun _ d2 f2 e23 e25 hrow => ?_)
      rw [m3] at e23 hrow ⊢
      have hrow2 : eqOn (H (u - 1)) (d2 66) 0 786 := fun j q1 q2 => by
        rw [hrow j q1 (by omega), show (u - 1) * 787 + j = 787 * (u - 1) + j by omega]
        exact hmh.1.2.2 (u - 1) (by omega) (by omega) j q1 (by omega)
      have fr2 : ∀ b j : Int, ¬ (6 ≤ b ∧ b < 52) → ¬ (b = 0 ∧ (j = 5 ∨ j = 6)) → b ≠ 74 → b ≠ 66 → ¬ (b = 65 ∧ (j = 3 ∨ j = 5)) → d2 b j = d b j := fun b j q1 q2 q3 q4 q5 => (f2 b j q4 q5).trans (fr9 b j q1 q2 q3)
      have fr29 : ∀ b j : Int, 6 ≤ b → b < 52 → d2 b j = d9 b j := fun b j q1 q2 => by
        rw [f2 b j (by omega) (by omega), ud_ne (by omega), ud_ne (by omega)]
      have e25' : d2 0 5 = np' := by rw [f2 0 5 (by omega) (by omega), ud_ne (by omega), ud_ne (by omega)]; exact e95
      have e26' : d2 0 6 = u - 1 := by rw [f2 0 6 (by omega) (by omega), ud_ne (by omega), ud_same]
      obtain ⟨⟨b1, b2, b3⟩, b4, b5, b6, b7, b8, b9⟩ := h2
      obtain ⟨a1, a2, a3, a4, a5, a6⟩ := h1
      refine h _ d2 ⟨d2 66, u - 1, H, n, T, l, e, f, ⟨⟨(hC9.fr (d' := d2) (fun b j q1 q2 => fr29 b j q1 q2)).on hrow2, c, hP, by rw [e25']; exact ⟨hnp0.1, hnp0.2, by omega⟩, e26', by omega, ?_⟩, ?_, ?_, ?_, ?_, ?_⟩, ⟨⟨rfl, e23, fun i q1 q2 x y1 y2 => ?_⟩, ?_, ?_, ?_, ?_, ?_, ?_⟩, h3⟩ ?_ e25 (fun _ => ?_)
      · rw [e25']
        intro j y1 y2
        have hs := hrest j y1 y2
        have h1' := hs.1
        exact hs.fr ⟨by omega, hP.1.2⟩ (fun b i z1 z2 => fr2 b i (by omega) (by omega) (by omega) (by omega) (by omega)) (Int.le_refl _)
      · exact (funext fun j => fr2 2 j (by omega) (by omega) (by omega) (by omega) (by omega)).trans a2
      · exact (fr2 1 1 (by omega) (by omega) (by omega) (by omega) (by omega)).trans a3
      · exact a4.frr (fr2 3 1 (by omega) (by omega) (by omega) (by omega) (by omega)) (fun j => fr2 4 j (by omega) (by omega) (by omega) (by omega) (by omega))
      · exact (fr2 0 11 (by omega) (by omega) (by omega) (by omega) (by omega)).trans a5
      · exact (fr2 0 12 (by omega) (by omega) (by omega) (by omega) (by omega)).trans a6
      · exact (fr2 68 _ (by omega) (by omega) (by omega) (by omega) (by omega)).trans (b3 i q1 (by omega) x y1 y2)
      · exact (funext fun j => fr2 69 j (by omega) (by omega) (by omega) (by omega) (by omega)).trans b4
      · exact (fr2 65 7 (by omega) (by omega) (by omega) (by omega) (by omega)).trans b5
      · exact b6.frr (fr2 65 9 (by omega) (by omega) (by omega) (by omega) (by omega)) (fun j => fr2 70 j (by omega) (by omega) (by omega) (by omega) (by omega))
      · exact (fr2 65 10 (by omega) (by omega) (by omega) (by omega) (by omega)).trans b7
      · exact (fr2 65 11 (by omega) (by omega) (by omega) (by omega) (by omega)).trans b8
      · exact (fr2 65 4 (by omega) (by omega) (by omega) (by omega) (by omega)).trans b9
      · exact funext fun j => fr2 SCR j (by decide) (fun q => absurd q.1 (by decide)) (by decide) (by decide) (fun q => absurd q.1 (by decide))
      · rw [f2 74 0 (by omega) (by omega), ud_same]
