-- numbers on a line
noncomputable def apD (l : Ln) (v u : Int) : Ln := if u ≤ v then apL l (48 + v / u % 10) else l
noncomputable def apN (l : Ln) (v : Int) : Ln := apL (apD (apD (apD l v 1000) v 100) v 10) (48 + v / 1 % 10)
theorem apD_1 {l : Ln} {v u : Int} : l.1 ≤ (apD l v u).1 ∧ (apD l v u).1 ≤ l.1 + 1 := by
  unfold apD
  split
  · rw [apL_1]; omega
  · omega
theorem apN_1 {l : Ln} {v : Int} : l.1 + 1 ≤ (apN l v).1 ∧ (apN l v).1 ≤ l.1 + 4 := by
  have h1 := @apD_1 l v 1000
  have h2 := @apD_1 (apD l v 1000) v 100
  have h3 := @apD_1 (apD (apD l v 1000) v 100) v 10
  unfold apN
  rw [apL_1]
  omega
theorem s_num {v u : Int} {l : Ln} {g : mG} {d : mD} {Q : mQ} (hv : 0 ≤ v) (hu : 1 ≤ u) (hl : LnC d l) (hn : l.1 < 60) (k1 : (u ≤ v ∨ u = 1) → ∀ d', FrL d d' → LnC d' (apL l (48 + v / u % 10)) → pX9_appendNumber_1 v (u / 10) g d' Q) (k2 : ¬ (u ≤ v ∨ u = 1) → pX9_appendNumber_1 v (u / 10) g d Q) : pX9_appendNumber_1 v u g d Q := by
  have hd : 0 ≤ v / u := Int.ediv_nonneg hv (by omega)
  have e3 := hl.2.1
  have h0 := hl.1.1
  refine aX9_appendNumber_1 ⟨fun c => absurd c (by omega), fun _ => ⟨fun c => ⟨hv, by omega, hd, ik (by omega), fun c2 => absurd c2 (by omega), fun _ => ⟨by omega, by omega, ik (by omega), by omega, ?_⟩⟩, fun c => ⟨by omega, k2 c⟩⟩⟩
  rw [show (48 + v / u % 10) % 65536 = 48 + v / u % 10 by omega]
  exact k1 c _ FrL.ap (hl.ap (by omega) rfl)
theorem s_numD {v u : Int} {l : Ln} {g : mG} {d : mD} {Q : mQ} (hv : 0 ≤ v) (hu : 2 ≤ u) (hl : LnC d l) (hn : l.1 < 60) (k : ∀ d', FrL d d' → LnC d' (apD l v u) → pX9_appendNumber_1 v (u / 10) g d' Q) : pX9_appendNumber_1 v u g d Q := by
  refine s_num hv (by omega) hl hn (fun c d' hf hd => k d' hf ?_) (fun c => k d FrL.rf ?_)
  · unfold apD; rw [if_pos (by omega)]; exact hd
  · unfold apD; rw [if_neg (by omega)]; exact hl
theorem q_appendNumber {v : Int} {l : Ln} {g : mG} {d : mD} {Q : mQ} (hv : 0 ≤ v) (hl : LnC d l) (hn : l.1 + 4 ≤ 60) (h : ∀ d', FrL d d' → LnC d' (apN l v) → Q (.inl 0) g d') : MM mX9_appendNumber [vR 3, vI v] g d Q := by
  have h1 := @apD_1 l v 1000
  have h2 := @apD_1 (apD l v 1000) v 100
  have h3 := @apD_1 (apD (apD l v 1000) v 100) v 10
  refine eX9_appendNumber (s_numD hv (by decide) hl (by omega) fun d1 f1 l1 => ?_)
  refine s_numD (u := 100) hv (by decide) l1 (by omega) fun d2 f2 l2 => ?_
  refine s_numD (u := 10) hv (by decide) l2 (by omega) fun d3 f3 l3 => ?_
  refine s_num (u := 1) hv (by decide) l3 (by omega) (fun _ d4 f4 l4 => ?_) (fun c => absurd (Or.inr rfl) c)
  exact aX9_appendNumber_1 ⟨fun _ => h d4 (((f1.tr f2).tr f3).tr f4) l4, fun c => absurd (by decide) c⟩
theorem s_put {v u : Int} {l : Ln} {g : mG} {d : mD} {Q : mQ} (hv : 0 ≤ v) (hu : 1 ≤ u) (hl : LnM d l) (hn : l.1 < 80) (k : ∀ d', FrK d d' → LnM d' (apL l (48 + v / u % 10)) → pX12_putNumber_2 v (u / 10) g d' Q) : pX12_putNumber_2 v u g d Q := by
  have hd : 0 ≤ v / u := Int.ediv_nonneg hv (by omega)
  have e3 := hl.2.1
  have h0 := hl.1.1
  exact aX12_putNumber_2 ⟨fun c => absurd c (by omega), fun _ => ⟨hv, by omega, hd, ik (by omega), by omega, ik (by omega), by omega, k _ FrK.ap (hl.ap (by omega) rfl)⟩⟩
theorem m_putNumber {v : Int} {l : Ln} {g : mG} {d : mD} {Q : mQ} (hv : 0 ≤ v ∧ v ≤ 9999) (hl : LnM d l) (hn : l.1 + 4 ≤ 80) (h : ∀ d', FrK d d' → LnM d' (apN l v) → Q (.inl 0) g d') : MM mX12_putNumber [vR 65, vI v] g d Q := by
  have hv1 := Int.ediv_one v
  have p0 : ∀ (l0 : Ln) (d0 : mD), FrK d d0 → LnM d0 l0 → l0.1 < 80 → apL l0 (48 + v / 1 % 10) = apN l v → pX12_putNumber_2 v 1 g d0 Q := fun l0 d0 f0 l0' h0 e =>
    s_put hv.1 (by decide) l0' h0 fun d1 f1 l1 => aX12_putNumber_2 ⟨fun _ => h d1 (f0.tr f1) (e ▸ l1), fun c => absurd (by decide) c⟩
  have p1 : ∀ (l0 : Ln) (d0 : mD), FrK d d0 → LnM d0 l0 → l0.1 + 1 < 80 → apL (apL l0 (48 + v / 10 % 10)) (48 + v / 1 % 10) = apN l v → pX12_putNumber_2 v 10 g d0 Q := fun l0 d0 f0 l0' h0 e =>
    s_put hv.1 (by decide) l0' (by omega) fun d1 f1 l1 => p0 _ d1 (f0.tr f1) l1 (by rw [apL_1]; omega) e
  have p2 : ∀ (l0 : Ln) (d0 : mD), FrK d d0 → LnM d0 l0 → l0.1 + 2 < 80 → apL (apL (apL l0 (48 + v / 100 % 10)) (48 + v / 10 % 10)) (48 + v / 1 % 10) = apN l v → pX12_putNumber_2 v 100 g d0 Q := fun l0 d0 f0 l0' h0 e =>
    s_put hv.1 (by decide) l0' (by omega) fun d1 f1 l1 => p1 _ d1 (f0.tr f1) l1 (by rw [apL_1]; omega) e
  have p3 : ∀ (l0 : Ln) (d0 : mD), FrK d d0 → LnM d0 l0 → l0.1 + 3 < 80 → apL (apL (apL (apL l0 (48 + v / 1000 % 10)) (48 + v / 100 % 10)) (48 + v / 10 % 10)) (48 + v / 1 % 10) = apN l v → pX12_putNumber_2 v 1000 g d0 Q := fun l0 d0 f0 l0' h0 e =>
    s_put hv.1 (by decide) l0' (by omega) fun d1 f1 l1 => p2 _ d1 (f0.tr f1) l1 (by rw [apL_1]; omega) e
  refine eX12_putNumber (aX12_putNumber_1 ⟨hv.1, by decide, fun c => ?_, fun c => ⟨ik (by decide), aX12_putNumber_1 ⟨hv.1, by decide, fun c2 => ?_, fun c2 => ⟨ik (by decide), aX12_putNumber_1 ⟨hv.1, by decide, fun c3 => ?_, fun c3 => ⟨ik (by decide), aX12_putNumber_1 ⟨hv.1, by decide, fun c4 => ?_, fun c4 => absurd c4 (by omega)⟩⟩⟩⟩⟩⟩⟩)
  · refine p0 l d FrK.rf hl (by omega) ?_
    unfold apN apD
    rw [if_neg (by omega), if_neg (by omega), if_neg (by omega)]
  · refine p1 l d FrK.rf hl (by omega) ?_
    unfold apN apD
    rw [if_pos (by omega), if_neg (by omega), if_neg (by omega)]
  · refine p2 l d FrK.rf hl (by omega) ?_
    unfold apN apD
    rw [if_pos (by omega), if_pos (by omega), if_neg (by omega)]
  · refine p3 l d FrK.rf hl (by omega) ?_
    unfold apN apD
    rw [if_pos (by omega), if_pos (by omega), if_pos (by omega)]
-- a deadline on a line
noncomputable def lnA (R : rW) (x : Int) : Ln := apL (apN (apL (apL (apN l00 x) 58) (R (145 + 16 * x))) (R (139 + 16 * x))) 62
noncomputable def lnB (R : rW) (x : Int) : Ln := if dueF R x = 5000 then apL (lnA R x) 45 else apN (lnA R x) (dueF R x)
noncomputable def lnD (R : rW) (x : Int) : Ln := if grF R x ≤ 0 then lnB R x else apN (apL (lnB R x) 43) (grF R x)
theorem lnA_1 {R : rW} {x : Int} : 0 ≤ (lnA R x).1 ∧ (lnA R x).1 ≤ 11 := by
  have h1 := @apN_1 l00 x
  have h2 := @apN_1 (apL (apL (apN l00 x) 58) (R (145 + 16 * x))) (R (139 + 16 * x))
  have h0 : l00.1 = 0 := rfl
  unfold lnA
  rw [apL_1] at *
  rw [apL_1] at h2
  omega
theorem lnB_1 {R : rW} {x : Int} : 0 ≤ (lnB R x).1 ∧ (lnB R x).1 ≤ 15 := by
  have h1 := @lnA_1 R x
  have h2 := @apN_1 (lnA R x) (dueF R x)
  unfold lnB
  split
  · rw [apL_1]; omega
  · omega
theorem q_writeDeadline {x : Int} {R : rW} {g : mG} {d : mD} {Q : mQ} (hC : CI d R) (h1 : (0 ≤ x ∧ x < R 3) → ∀ d', (∀ b j : Int, ¬ (b = 3 ∧ j = 1) → b ≠ 4 → ¬ (53 ≤ b ∧ b ≤ 55) → d' b j = d b j) → LnC d' (lnD R x) → Q (.inl (lnD R x).1) g d') (h2 : ¬ (0 ≤ x ∧ x < R 3) → Q (.inr 3) g d) : MM mX11_writeDeadline [vR 0, vI x] g d Q := by
  have e3 := hC.dl.1
  have n3 := hC.w.n.2.2.2.1
  refine eX11_writeDeadline (R := R) ⟨fun c => ?_, fun c => h2 (by omega)⟩
  have hx : 0 ≤ x ∧ x < R 3 := by omega
  have hd := hC.dl.2 x hx
  have hw := hC.w.dl hx
  have hg := grF_rng hw
  have hdue := dueF_rng hC.w hx
  have n1 := hC.w.n.2.1
  have hst := stOk_rng hw.2.2.2.2.2.2.1
  have b1 := @apN_1 l00 x
  have b2 := @apN_1 (apL (apL (apN l00 x) 58) (R (145 + 16 * x))) (R (139 + 16 * x))
  have b3 := @lnA_1 R x
  have b4 := @lnB_1 R x
  have b0 : l00.1 = 0 := rfl
  rw [apL_1, apL_1] at b2
  refine ⟨hC, hx, fun d1 f1 => ?_⟩
  refine q_appendNumber hx.1 LnC.z (by omega) (fun d2 f2 l2 => ?_)
  have g2 : ∀ b j : Int, ¬ (b = 3 ∧ j = 1) → b ≠ 4 → ¬ (53 ≤ b ∧ b ≤ 55) → d2 b j = d b j := fun b j q1 q2 q3 => (f2 b j q1 q2).trans ((ud_ne (by omega)).trans (f1 (by omega)))
  have c27 : d2 27 x = R (145 + 16 * x) := (g2 27 x (by omega) (by omega) (by omega)).trans hd.2.2.2.2.2.2.2.2.2.2
  have c17 : d2 17 x = R (139 + 16 * x) := (g2 17 x (by omega) (by omega) (by omega)).trans hd.1
  have z2 := l2.2.1
  dsimp only
  rw [c27, c17]
  refine ⟨by omega, by decide, by omega, by omega, by omega, ?_⟩
  have l3 := (l2.ap (c := 58) (by decide) rfl).ap (c := R (145 + 16 * x)) (by omega) (ud_same _ _ _ _)
  refine q_appendNumber hw.1.1 l3 (by rw [apL_1, apL_1]; omega) (fun d4 f4 l4 => ?_)
  have g4 : ∀ b j : Int, ¬ (b = 3 ∧ j = 1) → b ≠ 4 → ¬ (53 ≤ b ∧ b ≤ 55) → d4 b j = d b j := fun b j q1 q2 q3 => (f4 b j q1 q2).trans ((by rw [ud_ne (by omega), ud_ne (by omega), ud_ne (by omega), ud_ne (by omega)] : _ = d2 b j).trans (g2 b j q1 q2 q3))
  have z4 := l4.2.1
  have e26 := hd.2.2.2.2.2.2.2.2.2.1
  have l5 : LnC (ud (ud d4 4 (d4 3 1) 62) 3 1 (d4 3 1 + 1)) (lnA R x) := l4.ap (by decide) rfl
  have z5 : d4 3 1 + 1 = (lnA R x).1 := by
    have := l5.2.1
    rwa [ud_same] at this
  dsimp only
  rw [g4 26 x (by omega) (by omega) (by omega), e26]
  refine ⟨by omega, by decide, fun c1 => ⟨by omega, by decide, ?_⟩, fun c1 => ?_⟩
  · have eB : lnB R x = apL (lnA R x) 45 := if_pos c1
    have l6 : LnC (ud (ud (ud (ud d4 4 (d4 3 1) 62) 3 1 (d4 3 1 + 1)) 4 (d4 3 1 + 1) 45) 3 1 (d4 3 1 + 1 + 1)) (lnB R x) := eB ▸ l5.ap (by decide) (ud_same _ _ _ _)
    have z6 : d4 3 1 + 1 + 1 = (lnB R x).1 := by
      have := l6.2.1
      rwa [ud_same] at this
    refine ⟨fun c2 => ?_, fun c2 => ⟨by omega, by decide, ?_⟩⟩
    · have eD : lnD R x = lnB R x := if_pos c2
      rw [z6, ← eD]
      rw [← eD] at l6 z6
      rw [z6] at l6
      exact h1 hx _ (fun b j q1 q2 q3 => by rw [ud_ne (by omega), ud_ne (by omega), ud_ne (by omega), ud_ne (by omega)]; exact g4 b j q1 q2 q3) l6
    · have eD : lnD R x = apN (apL (lnB R x) 43) (grF R x) := if_neg c2
      refine q_appendNumber hg.1 (l6.ap (c := 43) (by decide) (ud_same _ _ _ _)) (by rw [apL_1]; omega) (fun d7 f7 l7 => ?_)
      have z7 := l7.2.1
      rw [← eD] at l7 z7
      dsimp only
      rw [z7]
      exact h1 hx _ (fun b j q1 q2 q3 => (f7 b j q1 q2).trans (by rw [ud_ne (by omega), ud_ne (by omega), ud_ne (by omega), ud_ne (by omega), ud_ne (by omega), ud_ne (by omega)]; exact g4 b j q1 q2 q3)) l7
  · have eB : lnB R x = apN (lnA R x) (dueF R x) := if_neg c1
    refine q_appendNumber hdue.1 l5 (by omega) (fun d6 f6 l6 => ?_)
    have g6 : ∀ b j : Int, ¬ (b = 3 ∧ j = 1) → b ≠ 4 → ¬ (53 ≤ b ∧ b ≤ 55) → d6 b j = d b j := fun b j q1 q2 q3 => (f6 b j q1 q2).trans (by rw [ud_ne (by omega), ud_ne (by omega)]; exact g4 b j q1 q2 q3)
    have z6 := l6.2.1
    rw [← eB] at l6 z6
    dsimp only
    rw [g6 26 x (by omega) (by omega) (by omega), e26]
    refine ⟨fun c2 => ?_, fun c2 => ⟨by omega, by decide, ?_⟩⟩
    · have eD : lnD R x = lnB R x := if_pos c2
      rw [z6, ← eD]
      rw [← eD] at l6
      exact h1 hx _ g6 l6
    · have eD : lnD R x = apN (apL (lnB R x) 43) (grF R x) := if_neg c2
      refine q_appendNumber hg.1 (l6.ap (c := 43) (by decide) rfl) (by rw [apL_1]; omega) (fun d7 f7 l7 => ?_)
      have z7 := l7.2.1
      rw [← eD] at l7 z7
      dsimp only
      rw [z7]
      exact h1 hx _ (fun b j q1 q2 q3 => (f7 b j q1 q2).trans (by rw [ud_ne (by omega), ud_ne (by omega)]; exact g6 b j q1 q2 q3)) l7
