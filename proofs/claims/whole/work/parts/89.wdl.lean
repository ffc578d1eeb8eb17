-- a deadline on a line, reference
theorem m_writeDeadline {x : Int} {g : mG} {d : mD} {Q : mQ} (hR : RW (d 66)) (h1 : (0 ≤ x ∧ x < d 66 3) → ∀ d', FrK (ud d 65 5 0) d' → LnM d' (lnD (d 66) x) → Q (.inl (lnD (d 66) x).1) g d') (h2 : ¬ (0 ≤ x ∧ x < d 66 3) → Q (.inl 0) g (ud (ud d 65 5 0) 65 5 1)) : MM mX12_writeDeadline [vR 65, vI x] g d Q := by
  have n3 := hR.n.2.2.2.1
  refine eX12_writeDeadline ⟨ik (by omega), fun c => h2 (by omega), fun c => ?_⟩
  have hx : 0 ≤ x ∧ x < d 66 3 := by omega
  have hw := hR.dl hx
  have hg := grF_rng hw
  have hdue := dueF_rng hR hx
  have n1 := hR.n.2.1
  have hst := stOk_rng hw.2.2.2.2.2.2.1
  have b1 := @apN_1 l00 x
  have b2 := @apN_1 (apL (apL (apN l00 x) 58) (d 66 (145 + 16 * x))) (d 66 (139 + 16 * x))
  have b3 := @lnA_1 (d 66) x
  have b4 := @lnB_1 (d 66) x
  have b0 : l00.1 = 0 := rfl
  rw [apL_1, apL_1] at b2
  have hm := noD_1 hdue.1
  refine ⟨hR, hx, ?_⟩
  refine m_putNumber ⟨hx.1, by omega⟩ LnM.z (by omega) (fun d2 f2 l2 => ?_)
  have g2 : FrK (ud d 65 5 0) d2 := FrK.z.tr f2
  have e66 : d2 66 = d 66 := funext fun j => (g2 66 j (by omega) (by omega)).trans (ud_ne (by omega))
  have z2 := l2.2.1
  dsimp only
  rw [e66]
  refine ⟨by omega, ik (by omega), by omega, by omega, ik (by omega), ?_⟩
  have l3 := (l2.ap (c := 58) (by decide) rfl).ap (c := d 66 (145 + 16 * x)) (by omega) (ud_same _ _ _ _)
  refine m_putNumber ⟨hw.1.1, by have := hw.1.2; omega⟩ l3 (by rw [apL_1, apL_1]; omega) (fun d4 f4 l4 => ?_)
  have g4 : FrK (ud d 65 5 0) d4 := ((g2.tr FrK.ap).tr FrK.ap).tr f4
  have e66' : d4 66 = d 66 := funext fun j => (g4 66 j (by omega) (by omega)).trans (ud_ne (by omega))
  have z4 := l4.2.1
  have l5 : LnM (ud (ud d4 70 (d4 65 9) 62) 65 9 (d4 65 9 + 1)) (lnA (d 66) x) := l4.ap (by decide) rfl
  have z5 : d4 65 9 + 1 = (lnA (d 66) x).1 := by
    have := l5.2.1
    rwa [ud_same] at this
  have g5 : FrK (ud d 65 5 0) (ud (ud d4 70 (d4 65 9) 62) 65 9 (d4 65 9 + 1)) := g4.tr FrK.ap
  dsimp only
  rw [e66']
  refine ⟨by omega, ik (by omega), fun c1 => ⟨by omega, ik (by omega), hR, hx, ?_⟩, fun c1 => ?_⟩
  · have eB : lnB (d 66) x = apL (lnA (d 66) x) 45 := if_pos (hm.1 c1)
    have l6 : LnM (ud (ud (ud (ud d4 70 (d4 65 9) 62) 65 9 (d4 65 9 + 1)) 70 (d4 65 9 + 1) 45) 65 9 (d4 65 9 + 1 + 1)) (lnB (d 66) x) := eB ▸ l5.ap (by decide) (ud_same _ _ _ _)
    have z6 : d4 65 9 + 1 + 1 = (lnB (d 66) x).1 := by
      have := l6.2.1
      rwa [ud_same] at this
    refine ⟨fun c2 => ?_, fun c2 => ⟨by omega, ik (by omega), ?_⟩⟩
    · have eD : lnD (d 66) x = lnB (d 66) x := if_pos c2
      rw [← eD] at l6 z6
      have := h1 hx _ (g5.tr FrK.ap) l6
      rw [← z6] at this
      exact this
    · have eD : lnD (d 66) x = apN (apL (lnB (d 66) x) 43) (grF (d 66) x) := if_neg c2
      refine m_putNumber ⟨hg.1, by omega⟩ (l6.ap (c := 43) (by decide) (ud_same _ _ _ _)) (by rw [apL_1]; omega) (fun d7 f7 l7 => ?_)
      have z7 := l7.2.1
      rw [← eD] at l7 z7
      dsimp only
      rw [z7]
      exact h1 hx _ (((g5.tr FrK.ap).tr FrK.ap).tr f7) l7
  · have c1' : ¬ dueF (d 66) x = 5000 := fun q => c1 (hm.2 q)
    have eB : lnB (d 66) x = apN (lnA (d 66) x) (dueF (d 66) x) := if_neg c1'
    rw [show dueM (d 66) x = dueF (d 66) x from noD_n c1']
    refine m_putNumber ⟨hdue.1, by omega⟩ l5 (by omega) (fun d6 f6 l6 => ?_)
    have g6 := g5.tr f6
    have e66'' : d6 66 = d 66 := funext fun j => (g6 66 j (by omega) (by omega)).trans (ud_ne (by omega))
    have z6 := l6.2.1
    rw [← eB] at l6 z6
    dsimp only
    rw [e66'']
    refine ⟨hR, hx, fun c2 => ?_, fun c2 => ⟨by omega, ik (by omega), ?_⟩⟩
    · have eD : lnD (d 66) x = lnB (d 66) x := if_pos c2
      rw [z6, ← eD]
      rw [← eD] at l6
      exact h1 hx _ g6 l6
    · have eD : lnD (d 66) x = apN (apL (lnB (d 66) x) 43) (grF (d 66) x) := if_neg c2
      refine m_putNumber ⟨hg.1, by omega⟩ (l6.ap (c := 43) (by decide) rfl) (by rw [apL_1]; omega) (fun d7 f7 l7 => ?_)
      have z7 := l7.2.1
      rw [← eD] at l7 z7
      dsimp only
      rw [z7]
      exact h1 hx _ ((g6.tr FrK.ap).tr f7) l7
