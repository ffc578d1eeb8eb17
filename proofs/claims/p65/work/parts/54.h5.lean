-- the stays of a deadline as rising ranges
def RK (d : mD) (R : rW) (p r k : Int) : Prop := (0 ≤ d 53 4 ∧ d 53 4 ≤ k) ∧ (∀ i, 0 ≤ i ∧ i < d 53 4 → (1 ≤ d 54 i ∧ d 54 i ≤ d 55 i ∧ d 55 i ≤ 4999) ∧ ∀ j, k ≤ j → j < R 4 → d 54 i ≤ R (621 + 4 * j) + 1) ∧ (∀ i, 0 ≤ i ∧ i + 1 < d 53 4 → d 55 i + 1 < d 54 (i + 1)) ∧ ∀ x, 0 ≤ x ∧ x ≤ 4999 → ((∃ j, 0 ≤ j ∧ j < k ∧ hits R p r x j) ↔ ∃ i, (0 ≤ i ∧ i < d 53 4) ∧ d 54 i ≤ x ∧ x ≤ d 55 i)
theorem ex_last {P : Int → Prop} {k : Int} (hk : 0 ≤ k) : (∃ j, 0 ≤ j ∧ j < k + 1 ∧ P j) ↔ (∃ j, 0 ≤ j ∧ j < k ∧ P j) ∨ P k := by
  constructor
  · rintro ⟨j, a, b, c⟩
    by_cases h : j = k
    · exact Or.inr (h ▸ c)
    · exact Or.inl ⟨j, a, by omega, c⟩
  · rintro (⟨j, a, b, c⟩ | c)
    · exact ⟨j, a, by omega, c⟩
    · exact ⟨k, hk, by omega, c⟩
theorem st_sorted {R : rW} (hR : RW R) : ∀ (n : Nat) (k : Int), 0 ≤ k → k + n < R 4 → R (621 + 4 * k) ≤ R (621 + 4 * (k + n)) := by
  intro n
  induction n with
  | zero => intro k _ _; rw [show k + ((0 : Nat) : Int) = k by omega]; exact Int.le_refl _
  | succ n ih =>
    intro k hk hn
    have a := ih k hk (by omega)
    have b := hR.s.2 (k + n) (by omega)
    rw [show 625 + 4 * (k + (n : Int)) = 621 + 4 * (k + ((n + 1 : Nat) : Int)) by omega] at b
    omega
theorem f_join {p r k : Int} {R : rW} {g : mG} {d : mD} {Q : mQ} (hR : RW R) (hk : 0 ≤ k ∧ k < R 4) (hK : RK d R p r k) (hc : (R (619 + 4 * k) = -1 ∨ R (619 + 4 * k) = p) ∧ R (620 + 4 * k) / 2 ^ r.toNat % 2 = 1) (h : ∀ d', FrW d d' → RK d' R p r (k + 1) → Q (.inl 0) g d') : MM mX10_joinRange [vR 53, vI (R (621 + 4 * k) + 1), vI (lastD (R (622 + 4 * k)))] g d Q := by
  have h4 := hR.n.2.2.2.2.1
  have h0 := hR.n.1
  have hs := hR.s.1 k hk
  unfold STW at hs
  obtain ⟨k1, k2, k3, k4⟩ := hK
  have hh : ∀ x, 0 ≤ x ∧ x ≤ 4999 → (hits R p r x k ↔ R (621 + 4 * k) + 1 ≤ x ∧ x ≤ lastD (R (622 + 4 * k))) := by
    intro x hx
    unfold hits lastD
    constructor
    · rintro ⟨-, -, a, b⟩
      split <;> omega
    · rintro ⟨a, b⟩
      refine ⟨hc.1, hc.2, by omega, ?_⟩
      split at b <;> omega
  have hl : lastD (R (622 + 4 * k)) ≤ 4999 := by
    unfold lastD
    split <;> omega
  have hfut : ∀ j, k ≤ j → j < R 4 → R (621 + 4 * k) + 1 ≤ R (621 + 4 * j) + 1 := by
    intro j hj hj2
    have := st_sorted hR (j - k).toNat k hk.1 (by omega)
    rw [show k + ((j - k).toNat : Int) = j by omega] at this
    omega
  generalize hx1 : R (621 + 4 * k) + 1 = x1 at *
  generalize hx2 : lastD (R (622 + 4 * k)) = x2 at *
  refine eX10_joinRange ⟨fun c => ⟨fun c1 => ik (by omega), fun c1 => by omega, fun c1 => ik (by have := (k2 (d 53 4 - 1) (by omega)).1; omega), fun c1 => ⟨ik (by omega), by omega, ?_⟩, fun c1 => ⟨fun c2 => absurd c2 (by omega), fun c2 => ⟨by omega, ik (by omega), ?_⟩⟩⟩, fun c => ?_⟩
  · -- the latest range grows
    have hn := (k2 (d 53 4 - 1) (by omega))
    refine h _ (fun {b j} q => ud_ne (by omega)) ⟨?_, ?_, ?_, ?_⟩
    · rw [ud_ne (by omega)]; omega
    · intro i hi
      rw [ud_ne (by omega)] at hi
      have hi2 := k2 i hi
      rw [ud_ne (by omega)]
      refine ⟨?_, fun j hj1 hj2 => hi2.2 j (by omega) hj2⟩
      by_cases hz : i = d 53 4 - 1
      · rw [hz, ud_same]
        rw [hz] at hi2
        omega
      · rw [ud_ne (by omega)]
        exact hi2.1
    · intro i hi
      rw [ud_ne (by omega)] at hi
      rw [ud_ne (by omega), ud_ne (by omega)]
      exact k3 i hi
    · intro x hx
      rw [ex_last hk.1, k4 x hx, hh x hx]
      have e : ∀ i, (ud d 55 (d 53 4 - 1) (max (d 55 (d 53 4 - 1)) x2)) 54 i = d 54 i := fun i => ud_ne (by omega)
      rw [ud_ne (by omega)]
      constructor
      · rintro (⟨i, h1, h2, h3⟩ | ⟨h1, h2⟩)
        · refine ⟨i, h1, by rw [e]; exact h2, ?_⟩
          by_cases hz : i = d 53 4 - 1
          · rw [hz, ud_same]
            rw [hz] at h3
            omega
          · rw [ud_ne (by omega)]
            exact h3
        · have := hn.2 k (by omega) hk.2
          refine ⟨d 53 4 - 1, by omega, by rw [e]; omega, ?_⟩
          rw [ud_same]
          omega
      · rintro ⟨i, h1, h2, h3⟩
        rw [e] at h2
        by_cases hz : i = d 53 4 - 1
        · rw [hz, ud_same] at h3
          rw [hz] at h2
          by_cases hw : x ≤ d 55 (d 53 4 - 1)
          · exact Or.inl ⟨d 53 4 - 1, by omega, h2, hw⟩
          · exact Or.inr ⟨by omega, by omega⟩
        · rw [ud_ne (by omega)] at h3
          exact Or.inl ⟨i, h1, h2, h3⟩
  · -- a new range
    have e54 : ∀ i, i ≠ d 53 4 → (ud (ud (ud d 54 (d 53 4) x1) 55 (d 53 4) x2) 53 4 (d 53 4 + 1)) 54 i = d 54 i := fun i hi => by rw [ud_ne (by omega), ud_ne (by omega), ud_ne (by omega)]
    have e55 : ∀ i, i ≠ d 53 4 → (ud (ud (ud d 54 (d 53 4) x1) 55 (d 53 4) x2) 53 4 (d 53 4 + 1)) 55 i = d 55 i := fun i hi => by rw [ud_ne (by omega), ud_ne (by omega), ud_ne (by omega)]
    have n54 : (ud (ud (ud d 54 (d 53 4) x1) 55 (d 53 4) x2) 53 4 (d 53 4 + 1)) 54 (d 53 4) = x1 := by rw [ud_ne (by omega), ud_ne (by omega), ud_same]
    have n55 : (ud (ud (ud d 54 (d 53 4) x1) 55 (d 53 4) x2) 53 4 (d 53 4 + 1)) 55 (d 53 4) = x2 := by rw [ud_ne (by omega), ud_same]
    refine h _ (fun {b j} q => by rw [ud_ne (by omega), ud_ne (by omega), ud_ne (by omega)]) ⟨?_, ?_, ?_, ?_⟩
    · rw [ud_same]; omega
    · intro i hi
      rw [ud_same] at hi
      by_cases hz : i = d 53 4
      · rw [hz, n54, n55]
        exact ⟨by omega, fun j hj1 hj2 => hfut j (by omega) hj2⟩
      · have hi2 := k2 i (by omega)
        rw [e54 i hz, e55 i hz]
        exact ⟨hi2.1, fun j hj1 hj2 => hi2.2 j (by omega) hj2⟩
    · intro i hi
      rw [ud_same] at hi
      by_cases hz : i + 1 = d 53 4
      · rw [hz, n54, e55 i (by omega)]
        rw [show i = d 53 4 - 1 by omega]
        exact Int.not_le.mp (fun q => c1 ⟨by omega, by omega⟩)
      · rw [e54 (i + 1) hz, e55 i (by omega)]
        exact k3 i (by omega)
    · intro x hx
      rw [ex_last hk.1, k4 x hx, hh x hx, ud_same]
      constructor
      · rintro (⟨i, h1, h2, h3⟩ | ⟨h1, h2⟩)
        · exact ⟨i, by omega, by rw [e54 i (by omega)]; exact h2, by rw [e55 i (by omega)]; exact h3⟩
        · exact ⟨d 53 4, by omega, by rw [n54]; exact h1, by rw [n55]; exact h2⟩
      · rintro ⟨i, h1, h2, h3⟩
        by_cases hz : i = d 53 4
        · rw [hz, n54] at h2
          rw [hz, n55] at h3
          exact Or.inr ⟨h2, h3⟩
        · rw [e54 i hz] at h2
          rw [e55 i hz] at h3
          exact Or.inl ⟨i, by omega, h2, h3⟩
  · -- a stay without days
    refine h d FrW.rf ⟨by omega, fun i hi => ⟨(k2 i hi).1, fun j hj1 hj2 => (k2 i hi).2 j (by omega) hj2⟩, k3, fun x hx => ?_⟩
    rw [ex_last hk.1, k4 x hx, hh x hx]
    constructor
    · rintro (h1 | ⟨h1, h2⟩)
      · exact h1
      · omega
    · exact Or.inl
theorem RK.rg {d : mD} {R : rW} {p r : Int} (hR : RW R) (h : RK d R p r (R 4)) : RG d R p r := by
  have h4 := hR.n.2.2.2.2.1
  obtain ⟨k1, k2, k3, k4⟩ := h
  refine ⟨by omega, fun i hi => ?_, k3, fun x hx => ?_⟩
  · have := (k2 i hi).1
    omega
  · exact k4 x hx
theorem RK.z {d : mD} {R : rW} {p r : Int} (h : d 53 4 = 0) : RK d R p r 0 := by
  refine ⟨by omega, fun i hi => absurd hi (by omega), fun i hi => absurd hi (by omega), fun x hx => ?_⟩
  constructor
  · rintro ⟨j, h1, h2, -⟩
    omega
  · rintro ⟨i, h1, -⟩
    omega
theorem l_takeStays_d {x2 : Int} {R : rW} {g : mG} {d0 : mD} {Q : mQ} (hC : CI d0 R) (hi : 0 ≤ x2 ∧ x2 < R 3) (h : ∀ d', FrW d0 d' → RG d' R (R (139 + 16 * x2)) (R (140 + 16 * x2)) → Q (.inl 0) g d') : ∀ (m : Nat) (k : Int) (d : mD), 0 ≤ k → k + m = R 4 → FrW d0 d → RK d R (R (139 + 16 * x2)) (R (140 + 16 * x2)) k → pX10_takeStays_d_1 x2 k g d Q := by
  have hR := hC.w
  have h4 := hR.n.2.2.2.2.1
  have h3 := hR.n.2.2.2.1
  have hd := hR.dl hi
  unfold DLW at hd
  have h00 := hR.n.1
  have hst := hC.st
  obtain ⟨e28, est⟩ := hst
  have hdl := hC.dl.2 x2 hi
  unfold DLS at hdl
  intro m
  induction m with
  | zero =>
    intro k d hk hm hf hK
    refine aX10_takeStays_d_1 ⟨fun _ => h d hf (RK.rg hR (by rw [show R 4 = k by omega]; exact hK)), fun c => absurd ?_ c⟩
    rw [hf (by decide)]
    omega
  | succ m ih =>
    intro k d hk hm hf hK
    have hs := hR.s.1 k (by omega)
    unfold STW at hs
    have e := est k (by omega)
    have e28' : d 28 4 = R 4 := (hf (by decide)).trans e28
    have e29 : d 29 k = R (619 + 4 * k) := (hf (by omega)).trans e.1
    have e30 : d 30 k = R (620 + 4 * k) := (hf (by omega)).trans e.2.1
    have e31 : d 31 k = R (621 + 4 * k) := (hf (by omega)).trans e.2.2.1
    have e32 : d 32 k = lastD (R (622 + 4 * k)) := (hf (by omega)).trans e.2.2.2
    have e17 : d 17 x2 = R (139 + 16 * x2) := (hf (by omega)).trans hdl.1
    have e18 : d 18 x2 = R (140 + 16 * x2) := (hf (by omega)).trans hdl.2.1
    refine aX10_takeStays_d_1 ⟨fun c => absurd c (by omega), fun c => ?_⟩
    rw [e29, e30, e31, e32, e17, e18]
    refine ⟨by omega, by omega, fun _ => by omega, fun _ => by omega, fun c2 => ⟨ik (by omega), ?_⟩, fun c2 => ⟨ik (by omega), ?_⟩⟩
    · exact f_join hR (by omega) hK c2 (fun d' hf2 hK2 => ⟨ik (by omega), ih (k + 1) d' (by omega) (by omega) (hf.tr hf2) hK2⟩)
    · refine ih (k + 1) d (by omega) (by omega) hf ?_
      obtain ⟨k1, k2, k3, k4⟩ := hK
      refine ⟨by omega, fun i hi => ⟨(k2 i hi).1, fun j hj1 hj2 => (k2 i hi).2 j (by omega) hj2⟩, k3, fun x hx => ?_⟩
      rw [ex_last hk, k4 x hx]
      exact ⟨fun q => q.elim (fun z => z) (fun z => absurd ⟨z.1, z.2.1⟩ c2), Or.inl⟩
theorem f_takeStays_d {x2 : Int} {R : rW} {g : mG} {d : mD} {Q : mQ} (hC : CI d R) (hi : 0 ≤ x2 ∧ x2 < R 3) (h : ∀ d', FrW d d' → RG d' R (R (139 + 16 * x2)) (R (140 + 16 * x2)) → Q (.inl 0) g d') : MM mX10_takeStays [vR 53, vR 16, vI x2] g d Q := by
  have h4 := hC.w.n.2.2.2.2.1
  exact eX10_takeStays_d (l_takeStays_d hC hi h (R 4).toNat 0 _ (by omega) (by omega) (fun {b j} q => ud_ne (by omega)) (RK.z (ud_same _ _ _ _)))
theorem l_takeStays_p {x2 : Int} {R : rW} {g : mG} {d0 : mD} {Q : mQ} (hC : CI d0 R) (hi : 0 ≤ x2 ∧ x2 < R 5) (h : ∀ d', FrW d0 d' → RG d' R (-1) (R (668 + 5 * x2)) → Q (.inl 0) g d') : ∀ (m : Nat) (k : Int) (d : mD), 0 ≤ k → k + m = R 4 → FrW d0 d → RK d R (-1) (R (668 + 5 * x2)) k → pX10_takeStays_p_1 x2 k g d Q := by
  have hR := hC.w
  have h4 := hR.n.2.2.2.2.1
  have h5 := hR.n.2.2.2.2.2.1
  have ho := hR.o.1 x2 hi
  unfold OCW at ho
  have h00 := hR.n.1
  have hst := hC.st
  obtain ⟨e28, est⟩ := hst
  have hdl := hC.oc.2.1 x2 hi
  intro m
  induction m with
  | zero =>
    intro k d hk hm hf hK
    refine aX10_takeStays_p_1 ⟨fun _ => h d hf (RK.rg hR (by rw [show R 4 = k by omega]; exact hK)), fun c => absurd ?_ c⟩
    rw [hf (by decide)]
    omega
  | succ m ih =>
    intro k d hk hm hf hK
    have hs := hR.s.1 k (by omega)
    unfold STW at hs
    have e := est k (by omega)
    have e28' : d 28 4 = R 4 := (hf (by decide)).trans e28
    have e29 : d 29 k = R (619 + 4 * k) := (hf (by omega)).trans e.1
    have e30 : d 30 k = R (620 + 4 * k) := (hf (by omega)).trans e.2.1
    have e31 : d 31 k = R (621 + 4 * k) := (hf (by omega)).trans e.2.2.1
    have e32 : d 32 k = lastD (R (622 + 4 * k)) := (hf (by omega)).trans e.2.2.2
    have e17 : d 35 x2 = -1 := (hf (by omega)).trans hdl.1
    have e18 : d 36 x2 = R (668 + 5 * x2) := (hf (by omega)).trans hdl.2.1
    refine aX10_takeStays_p_1 ⟨fun c => absurd c (by omega), fun c => ?_⟩
    rw [e29, e30, e31, e32, e17, e18]
    refine ⟨by omega, by omega, fun _ => by omega, fun _ => by omega, fun c2 => ⟨ik (by omega), ?_⟩, fun c2 => ⟨ik (by omega), ?_⟩⟩
    · exact f_join hR (by omega) hK c2 (fun d' hf2 hK2 => ⟨ik (by omega), ih (k + 1) d' (by omega) (by omega) (hf.tr hf2) hK2⟩)
    · refine ih (k + 1) d (by omega) (by omega) hf ?_
      obtain ⟨k1, k2, k3, k4⟩ := hK
      refine ⟨by omega, fun i hi => ⟨(k2 i hi).1, fun j hj1 hj2 => (k2 i hi).2 j (by omega) hj2⟩, k3, fun x hx => ?_⟩
      rw [ex_last hk, k4 x hx]
      exact ⟨fun q => q.elim (fun z => z) (fun z => absurd ⟨z.1, z.2.1⟩ c2), Or.inl⟩
theorem f_takeStays_p {x2 : Int} {R : rW} {g : mG} {d : mD} {Q : mQ} (hC : CI d R) (hi : 0 ≤ x2 ∧ x2 < R 5) (h : ∀ d', FrW d d' → RG d' R (-1) (R (668 + 5 * x2)) → Q (.inl 0) g d') : MM mX10_takeStays [vR 53, vR 34, vI x2] g d Q := by
  have h4 := hC.w.n.2.2.2.2.1
  exact eX10_takeStays_p (l_takeStays_p hC hi h (R 4).toNat 0 _ (by omega) (by omega) (fun {b j} q => ud_ne (by omega)) (RK.z (ud_same _ _ _ _)))
