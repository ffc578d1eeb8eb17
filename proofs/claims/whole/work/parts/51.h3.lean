theorem l_find {len : Int} {R : rW} {g : mG} {d : mD} {Q : mQ} (hC : CI d R) (h8 : 0 ≤ len ∧ len ≤ 8) : ∀ (n : Nat) (p : Int), 0 ≤ p → R 1 ≤ p + n → Q (.inl (nmN R (d 5) len (n + 1) p)) g d → pX5_find_1 len p g d Q := by
  have h1 := hC.w.n.2.1
  have hc := hC.par.1
  intro n
  induction n with
  | zero =>
    intro p hp hn h
    refine aX5_find_1 (R := R) ⟨fun c => ?_, fun c => absurd (by omega) c⟩
    rw [show nmN R (d 5) len (0 + 1) p = -1 from if_pos (by omega)] at h
    exact h
  | succ n ih =>
    intro p hp hn h
    refine aX5_find_1 (R := R) ⟨fun c => ?_, fun c => ⟨hC, by omega, h8, fun c2 => ?_, fun c2 => ⟨ik (by omega), ?_⟩⟩⟩
    · rw [show nmN R (d 5) len (n + 1 + 1) p = -1 from if_pos (by omega)] at h
      exact h
    · rw [show nmN R (d 5) len (n + 1 + 1) p = @ite Int (nmd R (d 5) p len) (Classical.propDecidable _) p (nmN R (d 5) len (n + 1) (p + 1)) from if_neg (by omega), if_pos c2] at h
      exact h
    · rw [show nmN R (d 5) len (n + 1 + 1) p = @ite Int (nmd R (d 5) p len) (Classical.propDecidable _) p (nmN R (d 5) len (n + 1) (p + 1)) from if_neg (by omega), if_neg c2] at h
      exact ih (p + 1) (by omega) (by omega) h
theorem f_find {x2 : Int} {R : rW} {g : mG} {d : mD} {Q : mQ} (h : CI d R ∧ (0 ≤ x2 ∧ x2 ≤ 8) ∧ Q (.inl (nmF R (d 5) x2)) g d) : MM mX5_find [vR 7, vR 5, vI x2] g d Q :=
  eX5_find (l_find h.1 h.2.1 8 0 (by omega) (by have := h.1.w.n.2.1; omega) h.2.2)
theorem f_change {g : mG} {d : mD} {Q : mQ} (h : (0 ≤ d 65 3 ∧ d 65 3 ≤ 8) ∧ Q (.inl 0) g (mChg d)) : MM mX12_change [vR 65] g d Q := by
  obtain ⟨h3, h⟩ := h
  refine eX12_change ⟨fun c => f_remember h3 ?_, fun c => ?_⟩
  · rw [show mChg d = mRemR (d 65 3) (d 66) d from if_pos c] at h
    exact h
  · rw [show mChg d = d from if_neg c] at h
    exact h
theorem f_grant {x1 x2 : Int} {g : mG} {d : mD} {Q : mQ} (h : RW ((ud (ud d 66 (150 + 16 * x1 + (d 66 (146 + 16 * x1))) x2) 66 (146 + 16 * x1) ((d 66 (146 + 16 * x1)) + 1)) 66) ∧ (0 ≤ x1 ∧ x1 < d 66 3) ∧ (0 ≤ d 66 (146 + 16 * x1) ∧ d 66 (146 + 16 * x1) < 5) ∧ Q (.inl (grF (d 66) x1 + x2)) g (ud (ud d 66 (150 + 16 * x1 + (d 66 (146 + 16 * x1))) x2) 66 (146 + 16 * x1) ((d 66 (146 + 16 * x1)) + 1))) : MM mX12_grant [vR 65, vI x1, vI x2] g d Q := by
  obtain ⟨hR, h1, h2, hq⟩ := h
  have e0 : (ud d 66 (150 + 16 * x1 + (d 66 (146 + 16 * x1))) x2) 66 (146 + 16 * x1) = d 66 (146 + 16 * x1) := ud_ne (by omega)
  have e3 : ((ud (ud d 66 (150 + 16 * x1 + (d 66 (146 + 16 * x1))) x2) 66 (146 + 16 * x1) ((d 66 (146 + 16 * x1)) + 1)) 66 3) = d 66 3 := by
    rw [ud_ne (by omega), ud_ne (by omega)]
  have h3 := hR.n.2.2.2.1
  rw [e3] at h3
  refine eX12_grant ?_
  rw [e0]
  refine ⟨ik (by omega), ik (by omega), ik (by omega), ik (by omega), by omega, ik (by omega), by omega, ik (by omega), hR, by rw [e3]; exact h1, ?_⟩
  have e : grF ((ud (ud d 66 (150 + 16 * x1 + (d 66 (146 + 16 * x1))) x2) 66 (146 + 16 * x1) ((d 66 (146 + 16 * x1)) + 1)) 66) x1 = grF (d 66) x1 + x2 := by
    have key : ∀ n : Nat, (n : Int) ≤ d 66 (146 + 16 * x1) → grN ((ud (ud d 66 (150 + 16 * x1 + (d 66 (146 + 16 * x1))) x2) 66 (146 + 16 * x1) ((d 66 (146 + 16 * x1)) + 1)) 66) x1 n = grN (d 66) x1 n := by
      intro n
      induction n with
      | zero => intro _; rfl
      | succ n ih =>
        intro hn
        show grN _ x1 n + _ = grN (d 66) x1 n + _
        rw [ih (by omega), ud_ne (by omega), ud_ne (by omega)]
    unfold grF
    rw [ud_same, show (d 66 (146 + 16 * x1) + 1).toNat = (d 66 (146 + 16 * x1)).toNat + 1 by omega]
    show grN _ x1 (d 66 (146 + 16 * x1)).toNat + _ = _
    rw [key _ (by omega), show (((d 66 (146 + 16 * x1)).toNat : Nat) : Int) = d 66 (146 + 16 * x1) by omega, ud_ne (by omega), ud_same]
  rw [e]
  exact hq
-- the end of a part, day by day
theorem l_endOf2 {p r f len ic k : Int} {g : mG} {d : mD} {Q : mQ} (hR : RW (d 66)) (hr : 0 ≤ r ∧ r < 8) : ∀ (m : Nat) (x : Int), 0 ≤ x → x + m = 4999 → Q (.inl (noD (fd (fun x => court (d 66) x ∧ ¬ stopd (d 66) p r x) (x + 1)))) g d → pX12_endOf_2 p r f len ic x k g d Q := by
  intro m
  induction m with
  | zero =>
    intro x hx hm h
    refine aX12_endOf_2 ⟨ik (by omega), fun c => absurd c (by omega), fun _ => ?_⟩
    rw [fd_here (Or.inr (by omega)), show x + 1 = 5000 by omega] at h
    exact h
  | succ m ih =>
    intro x hx hm h
    refine aX12_endOf_2 ⟨ik (by omega), fun c => ⟨hR, by omega, fun _ => hr, fun c2 => ?_, fun c2 => ?_⟩, fun c => absurd (by omega) c⟩
    · refine ih (x + 1) (by omega) (by omega) ?_
      rw [fd_step (fun q => c2.elim (fun z => z q.1) (fun z => q.2 z)) (by omega)] at h
      exact h
    · rw [fd_here (Or.inl ⟨Classical.byContradiction fun z => c2 (Or.inl z), fun z => c2 (Or.inr z)⟩)] at h
      rw [show noD (x + 1) = x + 1 from if_neg (by omega)] at h
      exact h
theorem l_endOf1 {p r f len ic : Int} {g : mG} {d : mD} {Q : mQ} (hR : RW (d 66)) (hr : 0 ≤ r ∧ r < 8) (hf : 0 ≤ f) (hl : 1 ≤ len ∧ len ≤ 200) (h : Q (.inl (endM (d 66) p r f len ic)) g d) : ∀ (m : Nat) (x : Int), f ≤ x → x + m = 4999 → (∀ y, f + 1 ≤ y → y < x → cn (Cc (d 66) p r ic) (f + 1) y < len) → pX12_endOf_1 p r f len ic x (cn (Cc (d 66) p r ic) (f + 1) x) g d Q := by
  have hit : ∀ x : Int, f ≤ x → x ≤ 4999 → (∀ y, f + 1 ≤ y → y < x → cn (Cc (d 66) p r ic) (f + 1) y < len) → len ≤ cn (Cc (d 66) p r ic) (f + 1) x → RW (d 66) ∧ 0 ≤ x ∧ ((court (d 66) x → Q (.inl x) g d) ∧ (¬ court (d 66) x → pX12_endOf_2 p r f len ic x (cn (Cc (d 66) p r ic) (f + 1) x) g d Q)) := by
    intro x hx hx2 hy hc
    have hxf : f + 1 ≤ x := by
      refine Classical.byContradiction fun q => ?_
      rw [cn_empty (by omega)] at hc
      omega
    have e1 : fd (fun x => len ≤ cn (Cc (d 66) p r ic) (f + 1) x) (f + 1) = x := fd_eq (by omega) (fun y h1 h2 q => by have := hy y h1 h2; omega) (fun _ => hc)
    have hC : Cc (d 66) p r ic x := by
      refine Classical.byContradiction fun q => ?_
      rw [cn_last hxf, bI_f q] at hc
      by_cases hz : f + 1 ≤ x - 1
      · have := hy (x - 1) hz (by omega)
        omega
      · rw [cn_empty (by omega)] at hc
        omega
    have e2 : endM (d 66) p r f len ic = noD (fd (fun x => court (d 66) x ∧ ¬ stopd (d 66) p r x) x) := by
      unfold endM endF
      rw [e1]
    rw [e2] at h
    refine ⟨hR, by omega, fun c => ?_, fun c => ?_⟩
    · rw [fd_here (Or.inl ⟨c, hC.1⟩), show noD x = x from if_neg (by omega)] at h
      exact h
    · rw [fd_step (fun q => c q.1) (by omega)] at h
      exact l_endOf2 hR hr (4999 - x).toNat x (by omega) (by omega) h
  intro m
  induction m with
  | zero =>
    intro x hx hm hy
    refine aX12_endOf_1 ⟨fun c => hit x hx (by omega) hy c, fun c => ⟨ik (by omega), fun c2 => absurd c2 (by omega), fun _ => ?_⟩⟩
    have e1 : fd (fun x => len ≤ cn (Cc (d 66) p r ic) (f + 1) x) (f + 1) = 5000 := fd_eq (by omega) (fun y h1 h2 q => by
      by_cases hz : y < x
      · have := hy y h1 hz
        omega
      · rw [show y = x by omega] at q
        omega) (fun q => absurd q (by omega))
    have e2 : endM (d 66) p r f len ic = -1 := by
      unfold endM endF
      rw [e1, fd_here (Or.inr (by omega))]
      rfl
    rw [e2] at h
    exact h
  | succ m ih =>
    intro x hx hm hy
    have hrg := cn_rng (P := Cc (d 66) p r ic) (a := f + 1) (b := x) (by omega)
    refine aX12_endOf_1 ⟨fun c => hit x hx (by omega) hy c, fun c => ⟨ik (by omega), fun c2 => ⟨hR, hr, fun _ _ => by omega, fun c3 => ⟨ik (by omega), ?_⟩, fun c3 => ⟨ik (by omega), ?_⟩⟩, fun c2 => absurd (by omega) c2⟩⟩
    · have t := ih (x + 1) (by omega) (by omega) (fun y h1 h2 => by
        by_cases hz : y < x
        · exact hy y h1 hz
        · rw [show y = x by omega]; omega)
      rw [cn_last (a := f + 1) (b := x + 1) (by omega), show x + 1 - 1 = x by omega, bI_t (show Cc (d 66) p r ic (x + 1) from c3)] at t
      exact t
    · have t := ih (x + 1) (by omega) (by omega) (fun y h1 h2 => by
        by_cases hz : y < x
        · exact hy y h1 hz
        · rw [show y = x by omega]; omega)
      rw [cn_last (a := f + 1) (b := x + 1) (by omega), show x + 1 - 1 = x by omega, bI_f (show ¬ Cc (d 66) p r ic (x + 1) from c3)] at t
      exact t
theorem f_endOf {x1 x2 x3 x4 x5 : Int} {g : mG} {d : mD} {Q : mQ} (h : RW (d 66) ∧ (0 ≤ x2 ∧ x2 < 8) ∧ (0 ≤ x3 ∧ x3 ≤ 4999) ∧ (1 ≤ x4 ∧ x4 ≤ 200) ∧ Q (.inl (endM (d 66) x1 x2 x3 x4 x5)) g d) : MM mX12_endOf [vR 65, vI x1, vI x2, vI x3, vI x4, vI x5] g d Q := by
  obtain ⟨hR, hr, hf, hl, hq⟩ := h
  have t := l_endOf1 (g := g) (Q := Q) hR hr hf.1 hl hq (4999 - x3).toNat x3 (by omega) (by omega) (fun y h1 h2 => absurd h1 (by omega))
  rw [cn_empty (by omega)] at t
  exact eX12_endOf t
-- effective days
theorem l_effectiveOf {x1 : Int} {g : mG} {d : mD} {Q : mQ} (hR : RW (d 66)) : ∀ (n : Nat) (a : Int), 0 ≤ a → a ≤ n → a < d 66 6 → Q (.inl (effN (d 66) n a)) g d → pX12_effectiveOf_1 x1 a g d Q := by
  have h6 := hR.n.2.2.2.2.2.2
  have h5 := hR.n.2.2.2.2.2.1
  intro n
  induction n with
  | zero =>
    intro a ha hn ha6 h
    have hc := hR.c (c := a) (by omega)
    unfold CLW at hc
    have e : d 66 (710 + 4 * a) = -1 := by omega
    exact aX12_effectiveOf_1 ⟨ik (by omega), ik (by omega), ik (by omega), by omega, fun q => absurd e q, fun q => absurd e q, fun q => absurd e q, fun q => absurd e q, fun q => absurd e q, fun q => absurd e q, fun q => absurd e q, fun q => absurd e q, fun q => absurd e q, fun q => absurd e q, fun q => absurd e q.1, fun _ => ⟨ik (by omega), by omega, h⟩⟩
  | succ n ih =>
    intro a ha hn ha6 h
    have hc := hR.c (c := a) (by omega)
    unfold CLW at hc
    have hq : ¬ (d 66 (710 + 4 * a) = -1) → CLW (d 66) (d 66 (710 + 4 * a)) := fun q => hR.c (by omega)
    unfold CLW at hq
    rw [show effN (d 66) (n + 1) a = @ite Int ((d 66) (710 + 4 * a) ≠ -1 ∧ conn (d 66) (d 66 (708 + 4 * a)) (d 66 (708 + 4 * d 66 (710 + 4 * a)))) (Classical.propDecidable _) (effN (d 66) n (d 66 (710 + 4 * a))) (d 66 (709 + 4 * a)) from rfl] at h
    refine aX12_effectiveOf_1 ⟨ik (by omega), ik (by omega), ik (by omega), by omega, fun q => ik (by omega), fun q => by omega, fun q => hR, fun q => hc.2.1, fun q => ik (by omega), fun q => ik (by omega), fun q => ik (by omega), fun q => by omega, fun q => condF_nn hR hc.2.1, fun q => by have := hq q; omega, fun q => ?_, fun q => ⟨ik (by omega), by omega, ?_⟩⟩
    · have hz := hq q.1
      rw [if_pos ⟨q.1, (condF_conn hR hc.2.1 hz.2.1.1).mp q.2⟩] at h
      exact ih _ (by omega) (by omega) (by omega) h
    · rw [if_neg (fun z => q ⟨z.1, (condF_conn hR hc.2.1 (hq z.1).2.1.1).mpr z.2⟩)] at h
      exact h
theorem f_effectiveOf {x1 : Int} {g : mG} {d : mD} {Q : mQ} (h : RW (d 66) ∧ (0 ≤ x1 ∧ x1 < d 66 6) ∧ Q (.inl (effF (d 66) x1)) g d) : MM mX12_effectiveOf [vR 65, vI x1] g d Q :=
  eX12_effectiveOf (l_effectiveOf h.1 20 x1 h.2.1.1 (by have := h.1.n.2.2.2.2.2.2; omega) h.2.1.2 h.2.2)
