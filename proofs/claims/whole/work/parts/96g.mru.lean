-- undo and run, reference, whole
theorem m_undo {g : mG} {d : mD} {Q : mQ} (h3 : 0 ≤ d 65 3 ∧ d 65 3 ≤ 8) (he : d 65 3 = 0 → Q (.inl 0) g (ud (ud d 65 5 0) 65 5 1)) (hv : ¬ d 65 3 = 0 → ∀ d', (∀ b j : Int, b ≠ 66 → ¬ (b = 65 ∧ (j = 3 ∨ j = 5)) → d' b j = d b j) → d' 65 3 = d 65 3 - 1 → d' 65 5 = 0 → (∀ j, 0 ≤ j → j < 787 → d' 66 j = d 68 ((d 65 3 - 1) * 787 + j)) → Q (.inl (d 65 3 - 1)) g d') : MM mX12_undo [vR 65] g d Q := by
  refine eX12_undo ⟨he, fun c => ⟨ik (by omega), ?_⟩⟩
  refine l_undo1 (r := d 65 3 - 1) (by omega) 787 0 _ (ud_same _ _ _ _) (by decide) (by decide) (fun d' h1 h2 _ => ?_)
  refine hv c d' (fun b j q1 q2 => ?_) ?_ ?_ (fun j q1 q2 => ?_)
  · rw [h1 b j q1, ud_ne (by omega), ud_ne (by omega)]
  · rw [h1 65 3 (by decide), ud_same]
  · rw [h1 65 5 (by decide), ud_ne (by omega), ud_same]
  · rw [h2 j q1 q2, ud_ne (by omega), ud_ne (by omega)]
def FrR (d d' : mD) : Prop := ∀ b j : Int, b ≠ 66 → b ≠ 67 → b ≠ 72 → ¬ (b = 65 ∧ (j = 4 ∨ j = 5 ∨ j = 7 ∨ j = 10 ∨ j = 11 ∨ j = 15 ∨ j = 17 ∨ j = 18)) → d' b j = d b j
theorem m_run {T : rW} {n : Int} {g : mG} {d : mD} {Q : mQ} (hn : 0 ≤ n ∧ n ≤ 60) (e69 : d 69 = T) (e7 : d 65 7 = n) (hT : ∀ j, 0 ≤ j → j < n → 0 ≤ T j ∧ T j ≤ 65535) (hR : RW (d 66)) (h3 : 0 ≤ d 65 3 ∧ d 65 3 ≤ 8) (h4 : d 65 4 = 0)
    (he : ¬ pgOk T n → ∀ d', FrR d d' → d' 66 = d 66 → d' 65 4 = 0 → d' 65 5 = 1 → d' 65 7 = 0 → d' 65 10 = (pgF T n).1.1 → d' 65 11 = d 65 11 → Q (.inl 0) g d')
    (hf : pgOk T n → 0 ≤ (rnF T n (d 66)).1 → ∀ d', FrR d d' → eqOn (d 66) (d' 66) 0 786 → d' 65 4 = 0 → d' 65 5 = 2 → d' 65 7 = 0 → d' 65 10 = d 65 10 → d' 65 11 = (rnF T n (d 66)).1 → Q (.inl 0) g d')
    (hv : pgOk T n → (rnF T n (d 66)).1 = -1 → ∀ d' d2 : mD, FrR d d2 → eqOn (d 66) (d2 67) 0 786 → d2 66 = (rnF T n (d 66)).2 → d2 65 4 = 0 → d2 65 5 = 0 → d2 65 7 = 0 → d2 65 10 = d 65 10 → d2 65 11 = d 65 11 → d' = mRemR (d 65 3) (d2 67) d2 → Q (.inl (pgF T n).2) g d') : MM mX12_run [vR 65] g d Q := by
  refine eX12_run ?_
  refine m_readProgram (T := T) (n := n) hn (by rw [ud_row (by decide)]; exact e69) (by rw [ud_ne (by omega)]; exact e7) (fun d4 f4 h17 hok => ?_)
  have g4 : ∀ b j : Int, ¬ (b = 65 ∧ (j = 5 ∨ j = 15 ∨ j = 17 ∨ j = 18)) → b ≠ 72 → d4 b j = d b j := fun b j q1 q2 => (f4 b j (by omega) q2).trans (ud_ne (by omega))
  have h5 : d4 65 5 = 0 := (f4 65 5 (by omega) (by decide)).trans (ud_same _ _ _ _)
  have e66 : d4 66 = d 66 := funext fun j => g4 66 j (by omega) (by decide)
  dsimp only
  refine f_failsM (by rw [ud_ne (by omega)]; exact h5) (by decide) (fun z => ⟨fun y => absurd y (by decide), fun _ => ?_⟩) (fun z => ⟨fun _ => ?_, fun y => absurd rfl y⟩)
  · have zo : ¬ pgOk T n := bI_0.1 z
    refine he zo _ (fun b j q1 q2 q3 q4 => ?_) ?_ ?_ ?_ ?_ ?_ ?_
    · rw [ud_ne (by omega), ud_ne (by omega), ud_ne (by omega)]; exact g4 b j (by omega) q3
    · rw [ud_row (by decide), ud_row (by decide), ud_row (by decide)]; exact e66
    · rw [ud_ne (by omega), ud_ne (by omega), ud_ne (by omega), g4 65 4 (by omega) (by decide)]; exact h4
    · rw [ud_ne (by omega), ud_same]
    · rw [ud_ne (by omega), ud_ne (by omega), ud_same]
    · rw [ud_same, ud_ne (by omega), ud_ne (by omega)]; exact h17
    · rw [ud_ne (by omega), ud_ne (by omega), ud_ne (by omega)]; exact g4 65 11 (by omega) (by decide)
  · have zo : pgOk T n := bI_n0.1 z
    obtain ⟨h15, hc, hcm⟩ := hok zo
    refine l_run1 787 0 _ (by decide) (by decide) (fun d5 k1 k2 _ => ?_)
    have g5 : ∀ b j : Int, ¬ (b = 65 ∧ (j = 4 ∨ j = 5 ∨ j = 7 ∨ j = 15 ∨ j = 17 ∨ j = 18)) → b ≠ 72 → b ≠ 67 → d5 b j = d b j := fun b j q1 q2 q3 => by
      rw [k1 b j q3, ud_ne (by omega), ud_ne (by omega)]; exact g4 b j (by omega) q2
    have e665 : d5 66 = d 66 := funext fun j => g5 66 j (by omega) (by decide) (by decide)
    have c4 : d5 65 4 = 1 := by rw [k1 65 4 (by decide), ud_same]
    have c5 : d5 65 5 = 0 := by rw [k1 65 5 (by decide), ud_ne (by omega), ud_ne (by omega)]; exact h5
    have c7 : d5 65 7 = 0 := by rw [k1 65 7 (by decide), ud_ne (by omega), ud_same]
    have c15 : d5 65 15 = (pgF T n).2 := by rw [k1 65 15 (by decide), ud_ne (by omega), ud_ne (by omega)]; exact h15
    have c67 : ∀ j, 0 ≤ j → j < 787 → d5 67 j = d 66 j := fun j q1 q2 => by
      rw [k2 j q1 q2, ud_ne (by omega)]; exact g4 66 j (by omega) (by decide)
    refine l_run2 (T := T) (n := n) hn.1 hT (by rw [e665]; exact hR) (by rw [g5 65 3 (by omega) (by decide) (by decide)]; exact h3) c4 c5 c15 hc (fun k q1 q2 => (hcm k q1 q2).fr (fun j _ _ => by rw [k1 72 j (by decide), ud_ne (by omega), ud_ne (by omega)])) (fun d6 k6 z6 h56 => ?_) (fun d6 k6 z6 e6 => ?_)
    · rw [e665] at z6 ⊢
      refine l_run3 787 0 _ (by decide) (by decide) (fun d7 j1 j2 j3 j4 _ => hf zo z6 d7 (fun b j q1 q2 q3 q4 => ?_) (fun j q1 q2 => ?_) ?_ j2 ?_ ?_ j3)
      · rw [j1 b j q1 (by omega), ud_ne (by omega), k6 b j q1 (by omega)]; exact g5 b j (by omega) q3 q2
      · rw [j4 j q1 (by omega), ud_ne (by omega), k6 67 j (by decide) (by omega)]; exact c67 j q1 (by omega)
      · rw [j1 65 4 (by decide) (by omega), ud_same]
      · rw [j1 65 7 (by decide) (by omega), ud_ne (by omega), k6 65 7 (by decide) (by omega)]; exact c7
      · rw [j1 65 10 (by decide) (by omega), ud_ne (by omega), k6 65 10 (by decide) (by omega)]; exact g5 65 10 (by omega) (by decide) (by decide)
    · rw [e665] at z6 e6
      have e3 : ud d6 65 4 0 65 3 = d 65 3 := by rw [ud_ne (by omega), k6 65 3 (by decide)]; exact g5 65 3 (by omega) (by decide) (by decide)
      refine f_remember_b (by rw [e3]; exact h3) ?_
      rw [e3]
      refine hv zo z6 _ (ud d6 65 4 0) (fun b j q1 q2 q3 q4 => ?_) (fun j q1 q2 => ?_) ?_ (ud_same _ _ _ _) ?_ ?_ ?_ ?_ rfl
      · rw [ud_ne (by omega), k6 b j q1]; exact g5 b j (by omega) q3 q2
      · rw [ud_ne (by omega), k6 67 j (by decide)]; exact c67 j q1 (by omega)
      · rw [ud_row (by decide)]; exact e6
      · rw [ud_ne (by omega), k6 65 5 (by decide)]; exact c5
      · rw [ud_ne (by omega), k6 65 7 (by decide)]; exact c7
      · rw [ud_ne (by omega), k6 65 10 (by decide)]; exact g5 65 10 (by omega) (by decide) (by decide)
      · rw [ud_ne (by omega), k6 65 11 (by decide)]; exact g5 65 11 (by omega) (by decide) (by decide)
