-- what is untouched
theorem CI.fr {d d' : mD} {R : rW} (hf : ∀ b j : Int, 6 ≤ b → b < 52 → d' b j = d b j) (h : CI d R) : CI d' R := by
  have e : ∀ b : Int, 6 ≤ b → b < 52 → d' b = d b := fun b h1 h2 => funext fun j => hf b j h1 h2
  obtain ⟨h1, h2, h3, h4, h5, h6, h7, h8⟩ := h
  refine ⟨h1, ?_, ?_, ?_, ?_, ?_, ?_, ?_⟩
  · unfold SCal at h2 ⊢
    rw [e 10 (by decide) (by decide), e 11 (by decide) (by decide)]
    exact h2
  · unfold SPar at h3 ⊢
    rw [e 7 (by decide) (by decide), e 8 (by decide) (by decide), e 9 (by decide) (by decide)]
    exact h3
  · unfold SRul at h4 ⊢
    rw [e 13 (by decide) (by decide), e 14 (by decide) (by decide), e 15 (by decide) (by decide)]
    exact h4
  · unfold SDl DLS at h5 ⊢
    rw [e 16 (by decide) (by decide), e 17 (by decide) (by decide), e 18 (by decide) (by decide), e 19 (by decide) (by decide), e 20 (by decide) (by decide), e 21 (by decide) (by decide), e 22 (by decide) (by decide), e 23 (by decide) (by decide), e 24 (by decide) (by decide), e 25 (by decide) (by decide), e 26 (by decide) (by decide), e 27 (by decide) (by decide)]
    exact h5
  · unfold SSt at h6 ⊢
    rw [e 28 (by decide) (by decide), e 29 (by decide) (by decide), e 30 (by decide) (by decide), e 31 (by decide) (by decide), e 32 (by decide) (by decide)]
    exact h6
  · unfold SOc at h7 ⊢
    rw [e 34 (by decide) (by decide), e 35 (by decide) (by decide), e 36 (by decide) (by decide), e 37 (by decide) (by decide), e 38 (by decide) (by decide), e 39 (by decide) (by decide), e 40 (by decide) (by decide), e 46 (by decide) (by decide), e 47 (by decide) (by decide)]
    exact h7
  · unfold SCm at h8 ⊢
    rw [e 33 (by decide) (by decide), e 48 (by decide) (by decide), e 49 (by decide) (by decide), e 50 (by decide) (by decide), e 51 (by decide) (by decide)]
    exact h8
theorem FrW.rf {d : mD} : FrW d d := fun _ => rfl
theorem FrW.tr {d d' d'' : mD} (h : FrW d d') (h2 : FrW d' d'') : FrW d d'' := fun q => (h2 q).trans (h q)
theorem FrW.row {d d' : mD} (h : FrW d d') {b : Int} (h1 : b ≠ 54) (h2 : b ≠ 55) (h3 : b ≠ 53) : d' b = d b := funext fun j => h (by omega)
theorem CI.frW {d d' : mD} {R : rW} (h : CI d R) (hf : FrW d d') : CI d' R := h.fr (fun b j h1 h2 => hf (by omega))
-- ranges of stopped days
theorem RG.lt {d : mD} {R : rW} {p r : Int} (h : RG d R p r) : ∀ (n : Nat) (i : Int), 0 ≤ i → i + 1 + n < d 53 4 → d 55 i + 1 < d 54 (i + 1 + n) := by
  obtain ⟨h1, h2, h3, -⟩ := h
  intro n
  induction n with
  | zero =>
    intro i hi hn
    rw [show i + 1 + ((0 : Nat) : Int) = i + 1 by omega]
    exact h3 i (by omega)
  | succ n ih =>
    intro i hi hn
    have a := ih i hi (by omega)
    have b := h3 (i + 1 + n) (by omega)
    have c := h2 (i + 1 + n) (by omega)
    rw [show i + 1 + ((n + 1 : Nat) : Int) = i + 1 + n + 1 by omega]
    omega
theorem l_skipRange {x p r : Int} {R : rW} {g : mG} {d : mD} {Q : mQ} (hG : RG d R p r) (hx : 0 ≤ x ∧ x ≤ 5000) (h : Q (.inl (fd (fun x => ¬ stopd R p r x) x)) g d) : ∀ (m : Nat) (i : Int), 0 ≤ i → i + m = d 53 4 → (∀ j, 0 ≤ j → j < i → ¬ (d 54 j ≤ x ∧ x ≤ d 55 j)) → pX10_skipRange_1 x i g d Q := by
  obtain ⟨h1, h2, h3, h4⟩ := id hG
  intro m
  induction m with
  | zero =>
    intro i hi hm hj
    refine aX10_skipRange_1 ⟨fun c => ?_, fun c => absurd (by omega) c⟩
    rw [fd_here] at h
    · exact h
    · by_cases hz : 5000 ≤ x
      · exact Or.inr hz
      · refine Or.inl (fun q => ?_)
        obtain ⟨j, hj1, hj2⟩ := (h4 x (by omega)).mp q
        exact hj j hj1.1 (by omega) hj2
  | succ m ih =>
    intro i hi hm hj
    have hr := h2 i (by omega)
    refine aX10_skipRange_1 ⟨fun c => absurd c (by omega), fun c => ⟨by omega, fun c2 => ⟨ik (by omega), ?_⟩, fun c2 => ⟨ik (by omega), ih (i + 1) (by omega) (by omega) (fun j h5 h6 => ?_)⟩⟩⟩
    · rw [fd_eq (e := d 55 i + 1) (by omega) (fun y h5 h6 => ?_) (fun h5 => ?_)] at h
      · exact h
      · exact fun q => q ((h4 y (by omega)).mpr ⟨i, by omega, by omega⟩)
      · intro q
        obtain ⟨j, hj1, hj2⟩ := (h4 _ (by omega)).mp q
        rcases (show j < i ∨ j = i ∨ i < j by omega) with h7 | h7 | h7
        · have := hG.lt (i - j - 1).toNat j hj1.1 (by omega)
          rw [show j + 1 + ((i - j - 1).toNat : Int) = i by omega] at this
          have := h2 j hj1
          omega
        · subst h7
          omega
        · have := hG.lt (j - i - 1).toNat i hi (by omega)
          rw [show i + 1 + ((j - i - 1).toNat : Int) = j by omega] at this
          omega
    · by_cases h7 : j = i
      · subst h7
        omega
      · exact hj j h5 (by omega)
theorem f_skipRange {x1 p r : Int} {R : rW} {g : mG} {d : mD} {Q : mQ} (h : RG d R p r ∧ (0 ≤ x1 ∧ x1 ≤ 5000) ∧ Q (.inl (fd (fun x => ¬ stopd R p r x) x1)) g d) : MM mX10_skipRange [vR 53, vI x1] g d Q :=
  eX10_skipRange (l_skipRange h.1 h.2.1 h.2.2 (d 53 4).toNat 0 (by omega) (by have := h.1.1; omega) (fun j h1 h2 => absurd h1 (by omega)))
