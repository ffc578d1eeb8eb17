-- the ring of past dockets and the history
theorem ring_push {S : Int → rW → Prop} {np u np' u' : Int} {H H' : Int → rW} {R : rW} (hnp : 0 ≤ np ∧ np ≤ 8) (hu : 0 ≤ u ∧ u ≤ 8) (e1 : np' = iT (np = 8) 0 (np + 1)) (e2 : u' = min 8 (u + 1)) (h : ∀ j, 0 ≤ j → j < u → S ((np + 9 - u + j) % 9) (H j)) (hR : S np R) (h8 : u = 8 → (∀ j, 0 ≤ j → j < 7 → H' j = H (j + 1)) ∧ H' 7 = R) (hn : ¬ u = 8 → (∀ j, 0 ≤ j → j < u → H' j = H j) ∧ H' u = R) : ∀ j, 0 ≤ j → j < u' → S ((np' + 9 - u' + j) % 9) (H' j) := by
  intro j hj1 hj2
  have en : np' = if np = 8 then 0 else np + 1 := by
    rw [e1]
    by_cases c : np = 8
    · rw [iT_t c, if_pos c]
    · rw [iT_f c, if_neg c]
  by_cases c : u = 8
  · have hu' : u' = 8 := by omega
    subst hu'
    obtain ⟨k1, k2⟩ := h8 c
    by_cases cj : j = 7
    · subst cj
      rw [k2, show (np' + 9 - 8 + 7) % 9 = np by rw [en]; split <;> omega]
      exact hR
    · have := h (j + 1) (by omega) (by omega)
      rw [k1 j hj1 (by omega), show (np' + 9 - 8 + j) % 9 = (np + 9 - u + (j + 1)) % 9 by rw [en]; split <;> omega]
      exact this
  · have hu' : u' = u + 1 := by omega
    subst hu'
    obtain ⟨k1, k2⟩ := hn c
    by_cases cj : j = u
    · subst cj
      rw [k2, show (np' + 9 - (j + 1) + j) % 9 = np by rw [en]; split <;> omega]
      exact hR
    · have := h j hj1 (by omega)
      rw [k1 j hj1 (by omega), show (np' + 9 - (u + 1) + j) % 9 = (np + 9 - u + j) % 9 by rw [en]; split <;> omega]
      exact this
theorem ring_pop {S : Int → rW → Prop} {np u np' : Int} {H : Int → rW} (hnp : 0 ≤ np ∧ np ≤ 8) (hu : 1 ≤ u ∧ u ≤ 8) (e1 : np' = iT (np = 0) 8 (np - 1)) (h : ∀ j, 0 ≤ j → j < u → S ((np + 9 - u + j) % 9) (H j)) : S np' (H (u - 1)) ∧ ∀ j, 0 ≤ j → j < u - 1 → S ((np' + 9 - (u - 1) + j) % 9) (H j) := by
  have en : np' = if np = 0 then 8 else np - 1 := by
    rw [e1]
    by_cases c : np = 0
    · rw [iT_t c, if_pos c]
    · rw [iT_f c, if_neg c]
  refine ⟨?_, fun j hj1 hj2 => ?_⟩
  · have := h (u - 1) (by omega) (by omega)
    rwa [show (np + 9 - u + (u - 1)) % 9 = np' by rw [en]; split <;> omega] at this
  · have := h j hj1 (by omega)
    rwa [show (np + 9 - u + j) % 9 = (np' + 9 - (u - 1) + j) % 9 by rw [en]; split <;> omega] at this
