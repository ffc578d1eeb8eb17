theorem l_find {len : Int} {R : rW} {g : mG} {d : mD} {Q : mQ} (hC : CI d R) (h8 : 0 ≤ len ∧ len ≤ 8) : ∀ (n : Nat) (p : Int), 0 ≤ p → R 1 ≤ p + n → Q (.inl (nmN R (d 5) len (n + 1) p)) g d → pX5_find_1 len p g d Q := by
  have h1 := hC.w.n.2.1
  have hc := hC.par.1
  intro n
  induction n with
  | zero =>
    intro p hp hn h
    refine aX5_find_1 (R := R) ⟨fun c => ?_, fun c => absurd (by omega) c⟩
    rw [show nmN R (d 5) len (0 + 1) p = -1 from if_pos (by omega)] at h
    exact h
  | succ n ih =>
    intro p hp hn h
    refine aX5_find_1 (R := R) ⟨fun c => ?_, fun c => ⟨hC, by omega, h8, fun c2 => ?_, fun c2 => ⟨ik (by omega), ?_⟩⟩⟩
    · rw [show nmN R (d 5) len (n + 1 + 1) p = -1 from if_pos (by omega)] at h
      exact h
    · rw [show nmN R (d 5) len (n + 1 + 1) p = @ite Int (nmd R (d 5) p len) (Classical.propDecidable _) p (nmN R (d 5) len (n + 1) (p + 1)) from if_neg (by omega), if_pos c2] at h
      exact h
    · rw [show nmN R (d 5) len (n + 1 + 1) p = @ite Int (nmd R (d 5) p len) (Classical.propDecidable _) p (nmN R (d 5) len (n + 1) (p + 1)) from if_neg (by omega), if_neg c2] at h
      exact ih (p + 1) (by omega) (by omega) h
theorem f_find {x2 : Int} {R : rW} {g : mG} {d : mD} {Q : mQ} (h : CI d R ∧ (0 ≤ x2 ∧ x2 ≤ 8) ∧ Q (.inl (nmF R (d 5) x2)) g d) : MM mX5_find [vR 7, vR 5, vI x2] g d Q :=
  eX5_find (l_find h.1 h.2.1 8 0 (by omega) (by have := h.1.w.n.2.1; omega) h.2.2)
-- the end of a part, day by day
-- effective days
