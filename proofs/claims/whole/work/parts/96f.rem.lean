-- remembering the row that was put aside; the other ends of a run
theorem l_rem_b2 {r : Int} {g : mG} {d : mD} {Q : mQ} (hr : 0 ≤ r ∧ r ≤ 7) (h3 : d 65 3 = r) (h : Q (.inl 0) g (ud (cpK d r (d 67) 787) 65 3 (r + 1))) : ∀ m k : Nat, k + m = 787 → pX12_remember_b_2 k g (cpK d r (d 67) k) Q := by
  intro m
  induction m with
  | zero =>
    intro k hk
    refine aX12_remember_b_2 ⟨fun c => ?_, fun c => absurd (by omega) c⟩
    rw [cpK_n (show (65 : Int) ≠ 68 by decide), h3, show k = 787 by omega]
    exact ⟨ik (by omega), h⟩
  | succ m ih =>
    intro k hk
    refine aX12_remember_b_2 ⟨fun c => absurd c (by omega), fun c => ?_⟩
    rw [cpK_n (show (65 : Int) ≠ 68 by decide), cpK_n (show (67 : Int) ≠ 68 by decide), h3, cpK_s (by omega)]
    exact ⟨ik (by omega), ik (by omega), by omega, by omega, ik (by omega), ih (k + 1) (by omega)⟩
theorem l_rem_b1 {g : mG} {d : mD} {Q : mQ} (h3 : d 65 3 = 8) (h : pX12_remember_b_2 0 g (ud (shK d 5509) 65 3 7) Q) : ∀ m k : Nat, k + m = 5509 → pX12_remember_b_1 k g (shK d k) Q := by
  intro m
  induction m with
  | zero =>
    intro k hk
    refine aX12_remember_b_1 ⟨fun c => ?_, fun c => absurd (by omega) c⟩
    rw [shK_n (show (65 : Int) ≠ 68 by decide), h3, show k = 5509 by omega]
    exact ⟨ik (by omega), h⟩
  | succ m ih =>
    intro k hk
    refine aX12_remember_b_1 ⟨fun c => absurd c (by omega), fun c => ?_⟩
    rw [shK_s (by omega)]
    exact ⟨ik (by omega), by omega, by omega, ik (by omega), ih (k + 1) (by omega)⟩
theorem f_remember_b {g : mG} {d : mD} {Q : mQ} (h3 : 0 ≤ d 65 3 ∧ d 65 3 ≤ 8) (h : Q (.inl 0) g (mRemR (d 65 3) (d 67) d)) : MM mX12_remember [vR 65, vR 67] g d Q := by
  refine eX12_remember_b ⟨fun c => ?_, fun c => ?_⟩
  · rw [c] at h
    have t := l_rem_b1 (d := d) (g := g) (Q := Q) c (by
      have e : (ud (shK d 5509) 65 3 7) 67 = d 67 := by
        rw [ud_row (by decide)]
        funext j
        exact shK_n (by decide)
      have t := l_rem_b2 (r := 7) (d := ud (shK d 5509) 65 3 7) (g := g) (Q := Q) (by omega) (ud_same _ _ _ _) (by rw [e, rem_8]; exact h) 787 0 rfl
      rw [show cpK (ud (shK d 5509) 65 3 7) 7 (ud (shK d 5509) 65 3 7 67) ((0 : Nat) : Int) = ud (shK d 5509) 65 3 7 from cpK_0] at t
      exact t) 5509 0 rfl
    rw [show shK d ((0 : Nat) : Int) = d from shK_0] at t
    exact t
  · have t := l_rem_b2 (r := d 65 3) (d := d) (g := g) (Q := Q) (by omega) rfl (by rw [rem_lt (by omega)]; exact h) 787 0 rfl
    rw [show cpK d (d 65 3) (d 67) ((0 : Nat) : Int) = d from cpK_0] at t
    exact t

theorem l_run1 {x1 : Int} {g : mG} {Q : mQ} : ∀ (m : Nat) (k : Int) (d : mD), 0 ≤ k → k + m = 787 → (∀ d', (∀ b j : Int, b ≠ 67 → d' b j = ud d 65 4 1 b j) → (∀ j, k ≤ j → j < 787 → d' 67 j = d 66 j) → (∀ j, j < k → d' 67 j = d 67 j) → pX12_run_2 x1 0 g d' Q) → pX12_run_1 x1 k g d Q := by
  intro m
  induction m with
  | zero =>
    intro k d hk hm h
    exact aX12_run_1 ⟨fun _ => h _ (fun _ _ _ => rfl) (fun j q1 q2 => by omega) (fun j _ => by rw [ud_ne (by omega)]), fun c => absurd (by omega) c⟩
  | succ m ih =>
    intro k d hk hm h
    refine aX12_run_1 ⟨fun c => absurd c (by omega), fun _ => ⟨by omega, ik (by omega), ih (k + 1) _ (by omega) (by omega) (fun d' h1 h2 h3 => h d' (fun b j q => ?_) (fun j q1 q2 => ?_) (fun j q => ?_))⟩⟩
    · rw [h1 b j q]
      by_cases c : b = 65 ∧ j = 4
      · obtain ⟨c1, c2⟩ := c; subst c1; subst c2; rw [ud_same, ud_same]
      · rw [ud_ne c, ud_ne c, ud_ne (by omega)]
    · by_cases c : j = k
      · subst c
        rw [h3 j (by omega), ud_same]
      · rw [h2 j (by omega) q2, ud_ne (by omega)]
    · rw [h3 j (by omega), ud_ne (by omega)]
theorem l_run3 {x1 x2 : Int} {g : mG} {Q : mQ} : ∀ (m : Nat) (k : Int) (d : mD), 0 ≤ k → k + m = 787 → (∀ d', (∀ b j : Int, b ≠ 66 → ¬ (b = 65 ∧ (j = 5 ∨ j = 11)) → d' b j = d b j) → d' 65 5 = 2 → d' 65 11 = x2 → (∀ j, k ≤ j → j < 787 → d' 66 j = d 67 j) → (∀ j, j < k → d' 66 j = d 66 j) → Q (.inl 0) g d') → pX12_run_3 x1 x2 k g d Q := by
  intro m
  induction m with
  | zero =>
    intro k d hk hm h
    exact aX12_run_3 ⟨fun _ => h _ (fun b j q1 q2 => by rw [ud_ne (by omega), ud_ne (by omega)]) (ud_same _ _ _ _) (by rw [ud_ne (by omega), ud_same]) (fun j q1 q2 => by omega) (fun j _ => by rw [ud_ne (by omega), ud_ne (by omega)]), fun c => absurd (by omega) c⟩
  | succ m ih =>
    intro k d hk hm h
    refine aX12_run_3 ⟨fun c => absurd c (by omega), fun _ => ⟨by omega, ik (by omega), ih (k + 1) _ (by omega) (by omega) (fun d' h1 h2 h3 h4 h5 => h d' (fun b j q q2 => ?_) h2 h3 (fun j q1 q2 => ?_) (fun j q => ?_))⟩⟩
    · rw [h1 b j q q2, ud_ne (by omega)]
    · by_cases c : j = k
      · subst c
        rw [h5 j (by omega), ud_same]
      · rw [h4 j (by omega) q2, ud_ne (by omega)]
    · rw [h5 j (by omega), ud_ne (by omega)]
theorem l_undo1 {g : mG} {Q : mQ} {r : Int} (hr : 0 ≤ r ∧ r ≤ 7) : ∀ (m : Nat) (k : Int) (d : mD), d 65 3 = r → 0 ≤ k → k + m = 787 → (∀ d', (∀ b j : Int, b ≠ 66 → d' b j = d b j) → (∀ j, k ≤ j → j < 787 → d' 66 j = d 68 (r * 787 + j)) → (∀ j, j < k → d' 66 j = d 66 j) → Q (.inl r) g d') → pX12_undo_1 k g d Q := by
  intro m
  induction m with
  | zero =>
    intro k d h3 hk hm h
    refine aX12_undo_1 ⟨fun _ => ?_, fun c => absurd (by omega) c⟩
    rw [h3]
    exact h d (fun _ _ _ => rfl) (fun j q1 q2 => by omega) (fun _ _ => rfl)
  | succ m ih =>
    intro k d h3 hk hm h
    refine aX12_undo_1 ⟨fun c => absurd c (by omega), fun _ => ?_⟩
    rw [h3]
    refine ⟨ik (by omega), ik (by omega), by omega, by omega, ik (by omega), ih (k + 1) _ (by rw [ud_ne (by omega)]; exact h3) (by omega) (by omega) (fun d' h1 h2 h4 => h d' (fun b j q => ?_) (fun j q1 q2 => ?_) (fun j q => ?_))⟩
    · rw [h1 b j q, ud_ne (by omega)]
    · by_cases c : j = k
      · subst c
        rw [h4 j (by omega), ud_same]
      · rw [h2 j (by omega) q2, ud_ne (by omega)]
    · rw [h4 j (by omega), ud_ne (by omega)]
