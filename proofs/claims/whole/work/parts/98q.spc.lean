-- the other calls: text, lines, positions, undo
theorem ud_upG {d : mD} {a i v : Int} : ud d a i v a = up (d a) i v := by
  funext j
  unfold ud up
  by_cases h : j = i
  · rw [if_pos ⟨rfl, h⟩, if_pos h]
  · rw [if_neg (fun c => h c.2), if_neg h]
theorem op_i {Mw Mm : mM} {Aw Am : List mV} (h : ∀ (g : mG) (d : mD) (R : rW) (u : Int) (H : Int → rW) (n : Int) (T : rW) (l : Ln) (e f : Int), CHh g d R u H n T l e f → MHh d R u H n T l e f → SD n T l → MM Mw Aw g d (fun o g1 d1 => ∃ k, o = .inl k ∧ ∀ Q2 : mQ, (∀ (b : Int) (d2 : mD), INV g1 d2 → d2 SCR = d SCR → d2 65 5 = k → (k = 0 → b = d2 74 0) → Q2 (.inl b) g1 d2) → MM Mm Am g1 d1 Q2)) : Op Mw Aw Mm Am := by
  intro g d hI
  obtain ⟨R, u, H, n, T, l, e, f, h1, h2, h3⟩ := hI
  exact h g d R u H n T l e f h1 h2 h3
theorem o_errorPosition : Op mL_errorPosition [vR 0, vR 74] mX12_errorPosition [vR 65] := op_i fun g d R u H n T l e f h1 h2 h3 => by
  have e1 : d 0 11 = e := h1.2.2.2.2.1
  have e2 : d 65 10 = e := h2.2.2.2.2.1
  refine wr_errorPosition (eX11_errorPosition ⟨fun c => ?_, fun c => ?_⟩)
  · refine ⟨by decide, 1, rfl, fun Q2 h => ?_⟩
    refine eX12_errorPosition ⟨fun _ => ?_, fun c2 => absurd (by omega) c2⟩
    refine h 0 _ ⟨R, u, H, n, T, l, e, f, h1.fr (fun b j q => by rw [ud_ne (by omega), ud_ne (by omega)]), h2.fr (fun b j q => by rw [ud_ne (by omega), ud_ne (by omega)]), h3⟩ ?_ (ud_same _ _ _ _) (fun z => absurd z (by decide))
    rw [ud_row (by decide), ud_row (by decide)]
  · refine ⟨0, rfl, fun Q2 h => ?_⟩
    refine eX12_errorPosition ⟨fun c2 => absurd c2 (by rw [ud_ne (by omega)]; omega), fun _ => ?_⟩
    rw [ud_ne (by omega : ¬ ((65 : Int) = 74 ∧ (10 : Int) = 0))]
    refine h _ _ ⟨R, u, H, n, T, l, e, f, h1.fr (fun b j q => by rw [ud_ne (by omega), ud_ne (by omega)]), h2.fr (fun b j q => by rw [ud_ne (by omega), ud_ne (by omega)]), h3⟩ ?_ (ud_same _ _ _ _) (fun _ => by rw [ud_ne (by omega), ud_same]; omega)
    rw [ud_row (by decide), ud_row (by decide)]
theorem o_failedCommand : Op mL_failedCommand [vR 0, vR 74] mX12_failedCommand [vR 65] := op_i fun g d R u H n T l e f h1 h2 h3 => by
  have e1 : d 0 12 = f := h1.2.2.2.2.2
  have e2 : d 65 11 = f := h2.2.2.2.2.2.1
  refine wr_failedCommand (eX11_failedCommand ⟨fun c => ?_, fun c => ?_⟩)
  · refine ⟨by decide, 1, rfl, fun Q2 h => ?_⟩
    refine eX12_failedCommand ⟨fun _ => ?_, fun c2 => absurd (by omega) c2⟩
    refine h 0 _ ⟨R, u, H, n, T, l, e, f, h1.fr (fun b j q => by rw [ud_ne (by omega), ud_ne (by omega)]), h2.fr (fun b j q => by rw [ud_ne (by omega), ud_ne (by omega)]), h3⟩ ?_ (ud_same _ _ _ _) (fun z => absurd z (by decide))
    rw [ud_row (by decide), ud_row (by decide)]
  · refine ⟨0, rfl, fun Q2 h => ?_⟩
    refine eX12_failedCommand ⟨fun c2 => absurd c2 (by rw [ud_ne (by omega)]; omega), fun _ => ?_⟩
    rw [ud_ne (by omega : ¬ ((65 : Int) = 74 ∧ (11 : Int) = 0))]
    refine h _ _ ⟨R, u, H, n, T, l, e, f, h1.fr (fun b j q => by rw [ud_ne (by omega), ud_ne (by omega)]), h2.fr (fun b j q => by rw [ud_ne (by omega), ud_ne (by omega)]), h3⟩ ?_ (ud_same _ _ _ _) (fun _ => by rw [ud_ne (by omega), ud_same]; omega)
    rw [ud_row (by decide), ud_row (by decide)]
theorem o_charAt {x : Int} : Op mL_charAt [vR 0, vI x, vR 74] mX12_charAt [vR 65, vI x] := op_i fun g d R u H n T l e f h1 h2 h3 => by
  obtain ⟨lo, e1, lc⟩ := h1.2.2.2.1
  obtain ⟨_, e2, lm⟩ := h2.2.2.2.1
  have l60 := h3.2.2
  refine wr_charAt (eX11_charAt ⟨fun c => ?_, fun c => ?_⟩)
  · refine ⟨by decide, 1, rfl, fun Q2 h => ?_⟩
    refine eX12_charAt ⟨ik (by have := lo.1; omega), fun _ => ?_, fun c2 => absurd c2 (by omega)⟩
    refine h 0 _ ⟨R, u, H, n, T, l, e, f, h1.fr (fun b j q => by rw [ud_ne (by omega), ud_ne (by omega)]), h2.fr (fun b j q => by rw [ud_ne (by omega), ud_ne (by omega)]), h3⟩ ?_ (ud_same _ _ _ _) (fun z => absurd z (by decide))
    rw [ud_row (by decide), ud_row (by decide)]
  · have hx : 0 ≤ x ∧ x < l.1 := by omega
    have hv := lo.2 x hx.1 hx.2
    have c4 := lc x hx.1 hx.2
    have c70 := lm x hx.1 hx.2
    have ev : iT (x < 0) 0 (iT (d 3 1 ≤ x) 0 (d 4 x)) = l.2 x := by rw [iT_f (by omega), iT_f (by omega), c4]
    rw [ev]
    refine ⟨fun _ _ => by omega, hv, hv, ?_⟩
    refine ⟨0, rfl, fun Q2 h => ?_⟩
    have m9 : ud d 74 0 (l.2 x) 65 9 = l.1 := by rw [ud_ne (by omega)]; exact e2
    have m70 : ud d 74 0 (l.2 x) 70 x = l.2 x := by rw [ud_ne (by omega)]; exact c70
    refine eX12_charAt ?_
    rw [m9, m70, show l.2 x % 65536 = l.2 x by omega]
    refine ⟨ik (by omega), fun c2 => absurd (by omega) c2, fun _ => ⟨by omega, hv, ?_⟩⟩
    refine h _ _ ⟨R, u, H, n, T, l, e, f, h1.fr (fun b j q => by rw [ud_ne (by omega), ud_ne (by omega)]), h2.fr (fun b j q => by rw [ud_ne (by omega), ud_ne (by omega)]), h3⟩ ?_ (ud_same _ _ _ _) (fun _ => by rw [ud_ne (by omega), ud_same])
    rw [ud_row (by decide), ud_row (by decide)]
theorem o_type {x : Int} (hx : 0 ≤ x ∧ x ≤ 65535) : Op mL_type [vR 0, vI x, vR 74] mX12_type [vR 65, vI x] := op_i fun g d R u H n T l e f h1 h2 h3 => by
  have e1 : d 1 1 = n := h1.2.2.1
  have e7 : d 65 7 = n := h2.2.2.1
  have e2 : d 2 = T := h1.2.1
  have e69 : d 69 = T := h2.2.1
  have hn := h3.1
  refine wr_type (eX11_type ⟨fun c => ?_, fun c => ?_⟩)
  · refine ⟨by omega, hx, ?_⟩
    refine ⟨0, rfl, fun Q2 h => ?_⟩
    have f1 : ∀ b j : Int, ¬ (b = 2 ∨ b = 74 ∨ (b = 1 ∧ j = 1)) → ud (ud (ud d 2 (d 1 1) x) 1 1 (d 1 1 + 1)) 74 0 (d 1 1 + 1) b j = d b j := fun b j q => by rw [ud_ne (by omega), ud_ne (by omega), ud_ne (by omega)]
    refine eX12_type ?_
    rw [f1 65 7 (by omega), e7]
    refine ⟨fun c2 => absurd c2 (by omega), fun c2 => ⟨by omega, ik (by omega), ?_⟩⟩
    refine h _ _ ⟨R, u, H, n + 1, up T n x, l, e, f, ?_, ?_, ⟨by omega, fun j => ?_, h3.2.2⟩⟩ ?_ ?_ (fun _ => ?_)
    · have hS := h1.1
      refine ⟨hS.fr (hS.1.fr (fun b j y1 y2 => by rw [ud_ne (by omega), ud_ne (by omega), ud_ne (by omega)]; exact f1 b j (by omega))) (fun b j y1 y2 => by rw [ud_ne (by omega), ud_ne (by omega), ud_ne (by omega)]; exact f1 b j (by omega)) (by rw [ud_ne (by omega), ud_ne (by omega), ud_ne (by omega)]; exact f1 0 5 (by omega)) (by rw [ud_ne (by omega), ud_ne (by omega), ud_ne (by omega)]; exact f1 0 6 (by omega)), ?_, ?_, ?_, ?_, ?_⟩
      · rw [ud_row (by decide), ud_row (by decide), ud_row (by decide), ud_row (by decide), ud_row (by decide), ud_upG, e2, e1]
      · rw [ud_ne (by omega), ud_ne (by omega), ud_ne (by omega), ud_ne (by omega), ud_same, e1]
      · exact h1.2.2.2.1.frr (by rw [ud_ne (by omega), ud_ne (by omega), ud_ne (by omega)]; exact f1 3 1 (by omega)) (fun j => by rw [ud_ne (by omega), ud_ne (by omega), ud_ne (by omega)]; exact f1 4 j (by omega))
      · rw [ud_ne (by omega), ud_ne (by omega), ud_ne (by omega)]; exact (f1 0 11 (by omega)).trans h1.2.2.2.2.1
      · rw [ud_ne (by omega), ud_ne (by omega), ud_ne (by omega)]; exact (f1 0 12 (by omega)).trans h1.2.2.2.2.2
    · obtain ⟨⟨a1, a2, a3⟩, a4, a5, a6, a7, a8, a9⟩ := h2
      refine ⟨⟨?_, ?_, fun i q1 q2 y z1 z2 => ?_⟩, ?_, ud_same _ _ _ _, ?_, ?_, ?_, ?_⟩
      · refine (funext fun j => ?_ : _ = d 66).trans a1
        rw [ud_ne (by omega), ud_ne (by omega), ud_ne (by omega)]; exact f1 66 j (by omega)
      · rw [ud_ne (by omega), ud_ne (by omega), ud_ne (by omega)]; exact (f1 65 3 (by omega)).trans a2
      · rw [ud_ne (by omega), ud_ne (by omega), ud_ne (by omega), f1 68 _ (by omega)]; exact a3 i q1 q2 y z1 z2
      · rw [ud_row (by decide), ud_upG]
        have : (ud (ud (ud (ud d 2 (d 1 1) x) 1 1 (d 1 1 + 1)) 74 0 (d 1 1 + 1)) 65 5 0) 69 = T := by
          rw [ud_row (by decide), ud_row (by decide), ud_row (by decide), ud_row (by decide)]; exact e69
        rw [this]
      · exact a6.frr (by rw [ud_ne (by omega), ud_ne (by omega), ud_ne (by omega)]; exact f1 65 9 (by omega)) (fun j => by rw [ud_ne (by omega), ud_ne (by omega), ud_ne (by omega)]; exact f1 70 j (by omega))
      · rw [ud_ne (by omega), ud_ne (by omega), ud_ne (by omega)]; exact (f1 65 10 (by omega)).trans a7
      · rw [ud_ne (by omega), ud_ne (by omega), ud_ne (by omega)]; exact (f1 65 11 (by omega)).trans a8
      · rw [ud_ne (by omega), ud_ne (by omega), ud_ne (by omega)]; exact (f1 65 4 (by omega)).trans a9
    · have := h3.2.1 j
      unfold up
      split
      · exact hx
      · exact this
    · refine funext fun j => ?_
      rw [ud_row (by decide), ud_row (by decide), ud_row (by decide), ud_row (by decide), ud_row (by decide), ud_row (by decide)]
    · rw [ud_ne (by omega), ud_ne (by omega), ud_same]
    · rw [ud_ne (by omega), ud_ne (by omega), ud_ne (by omega), ud_same, e1]
  · refine ⟨by decide, 1, rfl, fun Q2 h => ?_⟩
    refine eX12_type ⟨fun _ => ?_, fun c2 => absurd (by omega) c2⟩
    refine h 0 _ ⟨R, u, H, n, T, l, e, f, h1.fr (fun b j q => by rw [ud_ne (by omega), ud_ne (by omega)]), h2.fr (fun b j q => by rw [ud_ne (by omega), ud_ne (by omega)]), h3⟩ ?_ (ud_same _ _ _ _) (fun z => absurd z (by decide))
    rw [ud_row (by decide), ud_row (by decide)]
theorem wrN_1 {R : rW} {p : Int} : ∀ (m : Nat) (l : Ln), (wrN R p m l).1 ≤ l.1 + 2 * m := by
  intro m
  induction m with
  | zero => intro l; show l.1 ≤ l.1 + 2 * ((0 : Nat) : Int); omega
  | succ m ih =>
    intro l
    have h1 := ih (apC l (R (8 + 9 * p + m)))
    have h2 := @apC_1 l (R (8 + 9 * p + m))
    show (wrN R p m (apC l (R (8 + 9 * p + m)))).1 ≤ l.1 + 2 * ((m + 1 : Nat) : Int)
    omega
theorem wrF_1 {R : rW} {p : Int} (h : R (7 + 9 * p) ≤ 8) : (wrF R p).1 ≤ 60 := by
  have h1 := @wrN_1 R p (R (7 + 9 * p)).toNat l00
  have h0 : l00.1 = 0 := rfl
  unfold wrF
  omega
theorem lnD_1 {R : rW} {p : Int} : (lnD R p).1 ≤ 60 := by
  have h1 := @lnB_1 R p
  unfold lnD
  split
  · omega
  · have h2 := @apN_1 (apL (lnB R p) 43) (grF R p)
    rw [apL_1] at h2
    omega
/-- a line is written on both sides -/
theorem inv_line {g : mG} {d d1 d2 : mD} {R : rW} {u : Int} {H : Int → rW} {n : Int} {T : rW} {l l' : Ln} {e f : Int} (h1 : CHh g d R u H n T l e f) (h2 : MHh d R u H n T l e f) (h3 : SD n T l) (hc : ∀ b j : Int, ¬ (b = 3 ∧ j = 1) → b ≠ 4 → ¬ (53 ≤ b ∧ b ≤ 55) → b ≠ 74 → d1 b j = d b j) (hl : LnC d1 l') (hm : ∀ b j : Int, ¬ (b = 65 ∧ (j = 5 ∨ j = 9)) → b ≠ 70 → d2 b j = d1 b j) (hl2 : LnM d2 l') (l60 : l'.1 ≤ 60) : INV g d2 := by
  have fc : ∀ b j : Int, ¬ (b = 3 ∧ j = 1) → b ≠ 4 → ¬ (53 ≤ b ∧ b ≤ 55) → b ≠ 74 → ¬ (65 ≤ b ∧ b ≤ 70) → d2 b j = d b j := fun b j q1 q2 q3 q4 q5 => (hm b j (by omega) (by omega)).trans (hc b j q1 q2 q3 q4)
  have fm : ∀ b j : Int, 65 ≤ b → b ≤ 69 → ¬ (b = 65 ∧ (j = 5 ∨ j = 9)) → d2 b j = d b j := fun b j q1 q2 q3 => (hm b j q3 (by omega)).trans (hc b j (by omega) (by omega) (by omega) (by omega))
  obtain ⟨a1, a2, a3, a4, a5, a6⟩ := h1
  obtain ⟨⟨b1, b2, b3⟩, b4, b5, b6, b7, b8, b9⟩ := h2
  refine ⟨R, u, H, n, T, l', e, f, ⟨a1.fr (a1.1.fr (fun b j y1 y2 => fc b j (by omega) (by omega) (by omega) (by omega) (by omega))) (fun b j y1 y2 => fc b j (by omega) (by omega) (by omega) (by omega) (by omega)) (fc 0 5 (by omega) (by omega) (by omega) (by omega) (by omega)) (fc 0 6 (by omega) (by omega) (by omega) (by omega) (by omega)), (funext fun j => fc 2 j (by omega) (by omega) (by omega) (by omega) (by omega)).trans a2, (fc 1 1 (by omega) (by omega) (by omega) (by omega) (by omega)).trans a3, hl.frr (hm 3 1 (by omega) (by omega)) (fun j => hm 4 j (by omega) (by omega)), (fc 0 11 (by omega) (by omega) (by omega) (by omega) (by omega)).trans a5, (fc 0 12 (by omega) (by omega) (by omega) (by omega) (by omega)).trans a6⟩, ⟨⟨(funext fun j => fm 66 j (by omega) (by omega) (by omega)).trans b1, (fm 65 3 (by omega) (by omega) (by omega)).trans b2, fun i q1 q2 x y1 y2 => (fm 68 _ (by omega) (by omega) (by omega)).trans (b3 i q1 q2 x y1 y2)⟩, (funext fun j => fm 69 j (by omega) (by omega) (by omega)).trans b4, (fm 65 7 (by omega) (by omega) (by omega)).trans b5, hl2, (fm 65 10 (by omega) (by omega) (by omega)).trans b7, (fm 65 11 (by omega) (by omega) (by omega)).trans b8, (fm 65 4 (by omega) (by omega) (by omega)).trans b9⟩, ⟨h3.1, h3.2.1, l60⟩⟩
theorem o_writeNameReversed {x : Int} : Op mL_writeNameReversed [vR 0, vI x, vR 74] mX12_writeNameReversed [vR 65, vI x] := op_i fun g d R u H n T l e f h1 h2 h3 => by
  have hC := h1.1.1
  have e66 : d 66 = R := h2.1.1
  refine wr_writeNameReversed (q_writeName hC (fun hx d1 f1 hl => ?_) (fun hx => ?_))
  · refine ⟨0, rfl, fun Q2 h => ?_⟩
    have em : (ud d1 74 0 (wrF R x).1) 66 = R := by
      rw [ud_row (by decide)]
      exact (funext fun j => f1 66 j (by omega) (by omega)).trans e66
    refine m_writeName (by rw [em]; exact hC.w) (fun hx2 d2 f2 hl2 => ?_) (fun hx2 => absurd (by rw [em]; exact hx) hx2)
    rw [em] at hl2 ⊢
    have hm : ∀ b j : Int, ¬ (b = 65 ∧ (j = 5 ∨ j = 9)) → b ≠ 70 → d2 b j = ud d1 74 0 (wrF R x).1 b j := fun b j q1 q2 => by
      rw [f2 b j (by omega) q2, ud_ne (by omega)]
    refine h _ d2 (inv_line h1 h2 h3 (fun b j q1 q2 q3 q4 => by rw [ud_ne (by omega)]; exact f1 b j q1 q2) (hl.frr (d' := ud d1 74 0 (wrF R x).1) (ud_ne (by omega)) (fun j => ud_ne (by omega))) hm hl2 (wrF_1 (hC.w.p x hx).1.2)) ?_ ?_ (fun _ => ?_)
    · refine funext fun j => ?_
      rw [hm SCR j (fun q => absurd q.1 (by decide)) (by decide), ud_row (by decide)]
      exact f1 SCR j (fun q => absurd q.1 (by decide)) (by decide)
    · rw [f2 65 5 (by omega) (by decide), ud_same]
    · rw [hm 74 0 (by omega) (by decide), ud_same]
  · refine ⟨by decide, 1, rfl, fun Q2 h => ?_⟩
    refine m_writeName (by rw [e66]; exact hC.w) (fun hx2 => absurd (by rw [← e66]; exact hx2) hx) (fun _ => ?_)
    refine h 0 _ ⟨R, u, H, n, T, l, e, f, h1.fr (fun b j q => by rw [ud_ne (by omega), ud_ne (by omega)]), h2.fr (fun b j q => by rw [ud_ne (by omega), ud_ne (by omega)]), h3⟩ ?_ (ud_same _ _ _ _) (fun z => absurd z (by decide))
    rw [ud_row (by decide), ud_row (by decide)]
theorem o_writeDeadline {x : Int} : Op mL_writeDeadline [vR 0, vI x, vR 74] mX12_writeDeadline [vR 65, vI x] := op_i fun g d R u H n T l e f h1 h2 h3 => by
  have hC := h1.1.1
  have e66 : d 66 = R := h2.1.1
  refine wr_writeDeadline (q_writeDeadline hC (fun hx d1 f1 hl => ?_) (fun hx => ?_))
  · refine ⟨0, rfl, fun Q2 h => ?_⟩
    have em : (ud d1 74 0 (lnD R x).1) 66 = R := by
      rw [ud_row (by decide)]
      exact (funext fun j => f1 66 j (by omega) (by omega) (by omega)).trans e66
    refine m_writeDeadline (by rw [em]; exact hC.w) (fun hx2 d2 f2 hl2 => ?_) (fun hx2 => absurd (by rw [em]; exact hx) hx2)
    rw [em] at hl2 ⊢
    have hm : ∀ b j : Int, ¬ (b = 65 ∧ (j = 5 ∨ j = 9)) → b ≠ 70 → d2 b j = ud d1 74 0 (lnD R x).1 b j := fun b j q1 q2 => by
      rw [f2 b j (by omega) q2, ud_ne (by omega)]
    refine h _ d2 (inv_line h1 h2 h3 (fun b j q1 q2 q3 q4 => by rw [ud_ne (by omega)]; exact f1 b j q1 q2 q3) (hl.frr (d' := ud d1 74 0 (lnD R x).1) (ud_ne (by omega)) (fun j => ud_ne (by omega))) hm hl2 lnD_1) ?_ ?_ (fun _ => ?_)
    · refine funext fun j => ?_
      rw [hm SCR j (fun q => absurd q.1 (by decide)) (by decide), ud_row (by decide)]
      exact f1 SCR j (fun q => absurd q.1 (by decide)) (by decide) (by decide)
    · rw [f2 65 5 (by omega) (by decide), ud_same]
    · rw [hm 74 0 (by omega) (by decide), ud_same]
  · refine ⟨by decide, 1, rfl, fun Q2 h => ?_⟩
    refine m_writeDeadline (by rw [e66]; exact hC.w) (fun hx2 => absurd (by rw [← e66]; exact hx2) hx) (fun _ => ?_)
    refine h 0 _ ⟨R, u, H, n, T, l, e, f, h1.fr (fun b j q => by rw [ud_ne (by omega), ud_ne (by omega)]), h2.fr (fun b j q => by rw [ud_ne (by omega), ud_ne (by omega)]), h3⟩ ?_ (ud_same _ _ _ _) (fun z => absurd z (by decide))
    rw [ud_row (by decide), ud_row (by decide)]
