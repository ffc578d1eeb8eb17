-- parties, reference
theorem mChg_cg {d d' : mD} (h3 : d' 65 3 = d 65 3) (h4 : d' 65 4 = d 65 4) (e66 : d' 66 = d 66) (e68 : d' 68 = d 68) {b j : Int} (hb : b = 68 ∨ (b = 65 ∧ j = 3)) : mChg d' b j = mChg d b j := by
  unfold mChg
  rw [h4]
  by_cases c : d 65 4 = 0
  · rw [if_pos c, if_pos c, h3, e66]
    unfold mRemR
    rcases hb with hb | ⟨hb, hj⟩
    · subst hb
      rw [if_pos rfl, if_pos rfl, e68]
    · subst hb; subst hj
      rw [if_neg (show ¬ ((65 : Int) = 68) by decide), if_neg (show ¬ ((65 : Int) = 68) by decide), if_pos (show (65 : Int) = 65 ∧ (3 : Int) = 3 from ⟨rfl, rfl⟩), if_pos (show (65 : Int) = 65 ∧ (3 : Int) = 3 from ⟨rfl, rfl⟩)]
  · rw [if_neg c, if_neg c]
    rcases hb with hb | ⟨hb, hj⟩
    · subst hb; rw [e68]
    · subst hb; subst hj; exact h3
theorem mChg_any {d d' : mD} (h : ∀ b j : Int, b ≠ 66 → b ≠ 71 → ¬ (b = 65 ∧ (j = 5 ∨ j = 7 ∨ j = 13)) → d' b j = d b j) (e66 : d' 66 = d 66) (h5 : d' 65 5 = 0) {b j : Int} (q1 : b ≠ 66) (q2 : b ≠ 71) (q3 : ¬ (b = 65 ∧ (j = 7 ∨ j = 13))) : mChg d' b j = mChg (ud d 65 5 0) b j := by
  by_cases hb : b = 68 ∨ (b = 65 ∧ j = 3)
  · refine mChg_cg ?_ ?_ ?_ ?_ hb
    · rw [ud_ne (by omega)]; exact h 65 3 (by omega) (by omega) (by omega)
    · rw [ud_ne (by omega)]; exact h 65 4 (by omega) (by omega) (by omega)
    · rw [e66, ud_row (by decide)]
    · rw [ud_row (by decide)]; exact funext fun j => h 68 j (by omega) (by omega) (by omega)
  · rw [mChg_fr hb, mChg_fr hb]
    by_cases c : b = 65 ∧ j = 5
    · obtain ⟨c1, c2⟩ := c; subst c1; subst c2; rw [h5, ud_same]
    · rw [ud_ne c]; exact h b j q1 q2 (by omega)
theorem n_addParty {g : mG} {d : mD} {Q : mQ} (hR : RW (d 66)) (h3 : 0 ≤ d 65 3 ∧ d 65 3 ≤ 8) (hn : 0 ≤ d 65 7 ∧ d 65 7 ≤ 60) (hT : ∀ j, 0 ≤ j → j < d 65 7 → 0 ≤ d 69 j ∧ d 69 j ≤ 65535)
    (he : (st_addParty (d 66) (cdP (d 69) (d 65 7)) (rdF (d 69) (d 65 7))).1 < 0 → ∀ (v : Int) (d' : mD), (∀ b j : Int, b ≠ 71 → ¬ (b = 65 ∧ (j = 5 ∨ j = 7 ∨ j = 13)) → d' b j = d b j) → d' 65 7 = 0 → d' 65 5 = cx [-2, -3] (st_addParty (d 66) (cdP (d 69) (d 65 7)) (rdF (d 69) (d 65 7))).1 → Q (.inl v) g d')
    (hv : 0 ≤ (st_addParty (d 66) (cdP (d 69) (d 65 7)) (rdF (d 69) (d 65 7))).1 → ∀ d' : mD, d' 66 = (st_addParty (d 66) (cdP (d 69) (d 65 7)) (rdF (d 69) (d 65 7))).2 → d' 65 7 = 0 → (∀ b j : Int, b ≠ 66 → b ≠ 71 → ¬ (b = 65 ∧ (j = 7 ∨ j = 13)) → d' b j = mChg (ud d 65 5 0) b j) → Q (.inl (st_addParty (d 66) (cdP (d 69) (d 65 7)) (rdF (d 69) (d 65 7))).1) g d') : MM mX12_addParty [vR 65] g d Q := by
  have n1 := hR.n.2.1
  have en : ud d 65 5 0 65 7 = d 65 7 := ud_ne (by omega)
  have eT : ud d 65 5 0 69 = d 69 := ud_row (by decide)
  refine eX12_addParty (m_readName (by rw [en]; exact hn) (by rw [en, eT]; exact hT) ?_)
  rw [en, eT]
  intro d4 hf h7 h13 hL hN
  have hcd := fun k (q1 : 0 ≤ k) (q2 : k < rdF (d 69) (d 65 7)) => cdP_rng (n := d 65 7) hT ⟨q1, q2⟩
  generalize rdF (d 69) (d 65 7) = L at *
  generalize cdP (d 69) (d 65 7) = N at *
  have e66 : d4 66 = d 66 := funext fun j => (hf 66 j (by decide) (by omega)).trans (ud_ne (by omega))
  have e5 : d4 65 5 = 0 := (hf 65 5 (by decide) (by omega)).trans (ud_same _ _ _ _)
  have hf0 : ∀ b j : Int, b ≠ 71 → ¬ (b = 65 ∧ (j = 5 ∨ j = 7 ∨ j = 13)) → d4 b j = d b j := fun b j q1 q2 => (hf b j q1 (by omega)).trans (ud_ne (by omega))
  by_cases cL : L = 0
  · have hs : st_addParty (d 66) N L = (-2, d 66) := sO_t cL
    rw [hs] at he
    dsimp only at he
    rw [bI_f (fun z => z cL)]
    dsimp only
    refine f_failsM e5 (by decide) (fun _ => ⟨fun z => absurd z (by decide), fun _ => ?_⟩) (fun z => absurd rfl z)
    exact he (by decide) 0 _ (fun b j q1 q2 => by rw [ud_ne (by omega)]; exact hf0 b j q1 q2) (by rw [ud_ne (by omega)]; exact h7) (by rw [ud_same]; decide)
  · have e13 := hL cL
    rw [bI_t cL]
    dsimp only
    refine f_failsM e5 (by decide) (fun z => absurd z (by decide)) (fun _ => ⟨fun _ => ?_, fun z => absurd rfl z⟩)
    have hnm : nmF (d 66) (d4 71) L = nmF (d 66) N L := nmF_cg (fun k q1 q2 => hN k q1 (by omega))
    rw [e66, e13, hnm]
    refine ⟨fun _ => hR, fun _ => by omega, f_failsM e5 (by decide) (fun c => ⟨fun z => absurd z (by decide), fun _ => ?_⟩) (fun c => ⟨fun _ => ?_, fun z => absurd rfl z⟩)⟩
    · have hs : st_addParty (d 66) N L = (-3, d 66) := by
        unfold st_addParty
        rw [sO_f cL, sO_f (by omega)]
      rw [hs] at he
      dsimp only at he
      exact he (by decide) 0 _ (fun b j q1 q2 => by rw [ud_ne (by omega)]; exact hf0 b j q1 q2) (by rw [ud_ne (by omega)]; exact h7) (by rw [ud_same]; decide)
    · have hs : st_addParty (d 66) N L = (d 66 1, apR (d 66) N L) := by
        unfold st_addParty
        rw [sO_f cL, sO_t (by omega)]
      rw [hs] at hv
      dsimp only at hv
      have e3 : d4 65 3 = d 65 3 := hf0 65 3 (by decide) (by omega)
      have em : mChg d4 66 = d 66 := (funext fun j => mChg_fr (by omega)).trans e66
      have em7 : mChg d4 71 = d4 71 := funext fun j => mChg_fr (by omega)
      have em13 : mChg d4 65 13 = L := (mChg_fr (by omega)).trans e13
      have emv : mChg d4 65 7 = 0 := (mChg_fr (by omega)).trans h7
      rw [e66, e13, e3]
      refine ⟨h3, ik (by omega), ik (by omega), by omega, ?_⟩
      have hl : ∀ (m : Nat) (k : Int) (d' : mD), 0 ≤ k → k + m = L → (∀ b j : Int, b ≠ 66 → d' b j = mChg d4 b j) → (∀ j, ¬ (7 + 9 * d 66 1 ≤ j ∧ j < 8 + 9 * d 66 1 + k) → d' 66 j = d 66 j) → d' 66 (7 + 9 * d 66 1) = L → (∀ i, 0 ≤ i → i < k → d' 66 (8 + 9 * d 66 1 + i) = N i) → pX12_addParty_1 1 (d 66 1) k g d' Q := by
        intro m
        induction m with
        | zero =>
          intro k d' hk hm f1 f2 f3 f4
          have a13 : d' 65 13 = L := (f1 65 13 (by decide)).trans em13
          have a1 : d' 66 1 = d 66 1 := f2 1 (by omega)
          refine aX12_addParty_1 ?_
          rw [a13, a1]
          refine ⟨fun _ => ⟨ik (by omega), ?_⟩, fun c => absurd (by omega) c⟩
          refine hv (by omega) _ ?_ ?_ (fun b j q1 q2 q3 => ?_)
          · rw [ud_up]
            funext j
            by_cases c1 : j = 1
            · subst c1; rw [up_s, apR_1]
            · rw [up_n c1]
              by_cases c2 : j = 7 + 9 * d 66 1
              · subst c2; rw [f3, apR_L n1.1]
              · by_cases c3 : 8 + 9 * d 66 1 ≤ j ∧ j < 8 + 9 * d 66 1 + L
                · have a := f4 (j - (8 + 9 * d 66 1)) (by omega) (by omega)
                  have b := apR_k (R := d 66) (N := N) (L := L) (k := j - (8 + 9 * d 66 1)) n1.1 (by omega)
                  rw [show 8 + 9 * d 66 1 + (j - (8 + 9 * d 66 1)) = j by omega] at a b
                  rw [a, b]
                · rw [f2 j (by omega), apR_ne c1 (by omega) (by omega)]
          · rw [ud_ne (by omega), f1 65 7 (by decide)]; exact emv
          · rw [ud_ne (by omega), f1 b j q1]
            exact mChg_any (fun b j p1 p2 p3 => hf0 b j p2 p3) e66 e5 q1 q2 q3
        | succ m ih =>
          intro k d' hk hm f1 f2 f3 f4
          have a13 : d' 65 13 = L := (f1 65 13 (by decide)).trans em13
          have a71 : d' 71 k = N k := by
            rw [f1 71 k (by decide), em7]; exact hN k hk (by omega)
          refine aX12_addParty_1 ?_
          rw [a13, a71]
          refine ⟨fun c => absurd c (by omega), fun _ => ⟨ik (by omega), ik (by omega), ik (by omega), ik (by omega), by omega, by omega, ik (by omega), ih (k + 1) _ (by omega) (by omega) (fun b j q => by rw [ud_ne (by omega)]; exact f1 b j q) (fun j q => by rw [ud_ne (by omega)]; exact f2 j (by omega)) (by rw [ud_ne (by omega)]; exact f3) (fun i q1 q2 => ?_)⟩⟩
          by_cases c : i = k
          · subst c; rw [ud_same]
          · rw [ud_ne (by omega)]; exact f4 i q1 (by omega)
      exact hl L.toNat 0 _ (by omega) (by omega) (fun b j q => ud_ne (by omega)) (fun j q => by rw [ud_ne (by omega), em]) (ud_same _ _ _ _) (fun i q1 q2 => by omega)
-- finding
noncomputable def r_find (R : rW) (N : Int → Int) (L : Int) : mO := iO (nmF R N L = -1) (.inr 4) (.inl (nmF R N L))
theorem nmN_0 {R : rW} (hR : RW R) {N : Int → Int} : ∀ (m : Nat) (p : Int), 0 ≤ p → nmN R N 0 m p = -1 := by
  intro m
  induction m with
  | zero => intro p _; rfl
  | succ m ih =>
    intro p hp
    unfold nmN
    by_cases c : R 1 ≤ p
    · rw [if_pos c]
    · rw [if_neg c, if_neg ?_]
      · exact ih (p + 1) (by omega)
      · intro q
        have := (hR.p p (by omega)).1
        have := q.1
        omega
theorem q_findParty {R : rW} {g : mG} {d : mD} {Q : mQ} (hC : CI d R) (hn : 0 ≤ d 1 1 ∧ d 1 1 ≤ 60) (hT : ∀ j, 0 ≤ j → j < d 1 1 → 0 ≤ d 2 j ∧ d 2 j ≤ 65535) (h : ∀ d', FrP d d' → d' 1 1 = 0 → Q (r_find R (cdP (d 2) (d 1 1)) (rdF (d 2) (d 1 1))) g d') : MM mX11_findParty [vR 0] g d Q := by
  refine eX11_findParty (R := R) (q_readName hn hT fun d4 hf hL hN => ?_)
  have fr0 : FrP d (ud d4 1 1 0) := fun b j q1 q2 => by rw [ud_ne (by omega)]; exact hf b j (by omega)
  have hC4 : CI (ud d4 1 1 0) R := hC.fr (fun b j q1 q2 => by rw [ud_ne (by omega)]; exact hf b j (by omega))
  have hnm : nmF R (d4 5) (rdF (d 2) (d 1 1)) = nmF R (cdP (d 2) (d 1 1)) (rdF (d 2) (d 1 1)) := nmF_cg hN
  dsimp only
  rw [hnm]
  have hh := h _ fr0 (ud_same _ _ _ _)
  refine ⟨hC4, hL, fun c => ?_, fun c => ?_⟩
  · unfold r_find at hh; rwa [iO_t c] at hh
  · unfold r_find at hh; rwa [iO_f c] at hh
theorem m_findParty {g : mG} {d : mD} {Q : mQ} (hR : RW (d 66)) (hn : 0 ≤ d 65 7 ∧ d 65 7 ≤ 60) (hT : ∀ j, 0 ≤ j → j < d 65 7 → 0 ≤ d 69 j ∧ d 69 j ≤ 65535)
    (h : ∀ (v : Int) (d' : mD), (∀ b j : Int, b ≠ 71 → ¬ (b = 65 ∧ (j = 5 ∨ j = 7 ∨ j = 13)) → d' b j = d b j) → d' 65 7 = 0 → d' 65 5 = kx [4] (r_find (d 66) (cdP (d 69) (d 65 7)) (rdF (d 69) (d 65 7))) → (∀ w, r_find (d 66) (cdP (d 69) (d 65 7)) (rdF (d 69) (d 65 7)) = .inl w → v = w) → Q (.inl v) g d') : MM mX12_findParty [vR 65] g d Q := by
  have en : ud d 65 5 0 65 7 = d 65 7 := ud_ne (by omega)
  have eT : ud d 65 5 0 69 = d 69 := ud_row (by decide)
  refine eX12_findParty (m_readName (by rw [en]; exact hn) (by rw [en, eT]; exact hT) ?_)
  rw [en, eT]
  intro d4 hf h7 h13 hL hN
  generalize rdF (d 69) (d 65 7) = L at *
  generalize cdP (d 69) (d 65 7) = N at *
  have e66 : d4 66 = d 66 := funext fun j => (hf 66 j (by decide) (by omega)).trans (ud_ne (by omega))
  have e5 : d4 65 5 = 0 := (hf 65 5 (by decide) (by omega)).trans (ud_same _ _ _ _)
  have hf0 : ∀ b j : Int, b ≠ 71 → ¬ (b = 65 ∧ (j = 5 ∨ j = 7 ∨ j = 13)) → d4 b j = d b j := fun b j q1 q2 => (hf b j q1 (by omega)).trans (ud_ne (by omega))
  dsimp only
  rw [e66]
  refine ⟨fun _ => hR, fun _ => h13, ?_⟩
  have ev : iT (bI (¬ L = 0) = 0) (-1) (nmF (d 66) (d4 71) (d4 65 13)) = nmF (d 66) N L := by
    by_cases cL : L = 0
    · rw [iT_t (bI_0.2 (fun z => z cL))]
      subst cL
      exact (nmN_0 hR 9 0 (Int.le_refl _)).symm
    · rw [iT_f (bI_n0.2 cL), hL cL]
      exact nmF_cg (fun k q1 q2 => hN k q1 (by rw [hL cL]; exact q2))
  rw [ev]
  refine f_failsM e5 (by decide) (fun c => ?_) (fun c => ?_)
  · have hr : r_find (d 66) N L = .inr 4 := iO_t c
    dsimp only
    refine h _ _ (fun b j q1 q2 => by rw [ud_ne (by omega)]; exact hf0 b j q1 q2) (by rw [ud_ne (by omega)]; exact h7) (by rw [ud_same, hr]; rfl) (fun w hw => by rw [hr] at hw; cases hw)
  · have hr : r_find (d 66) N L = .inl (nmF (d 66) N L) := iO_f c
    dsimp only
    rw [iT_t rfl]
    refine h _ _ hf0 h7 (by rw [e5, hr]; rfl) (fun w hw => by rw [hr] at hw; cases hw; rfl)
