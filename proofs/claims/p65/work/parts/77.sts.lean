-- stays
def syR (R : rW) (p r : Int) : rW := up (up (up (up (up R (619 + 4 * R 4) p) (620 + 4 * R 4) r) (621 + 4 * R 4) (R 0)) (622 + 4 * R 4) (-1)) 4 (R 4 + 1)
noncomputable def st_stay (R : rW) (p r : Int) : Int × rW := sO (1 ≤ r ∧ r ≤ 255) (sO (R 4 < 12) (R 4, syR R p r) (-3, R)) (-2, R)
noncomputable def st_stayParty (R : rW) (p r : Int) : Int × rW := sO (0 ≤ p ∧ p < R 1) (st_stay R p r) (-1, R)
theorem syR_ne {R : rW} {p r j : Int} (q : ¬ j = 4) (q2 : ¬ (619 + 4 * R 4 ≤ j ∧ j ≤ 622 + 4 * R 4)) : syR R p r j = R j := by
  unfold syR
  rw [up_n (by omega), up_n (by omega), up_n (by omega), up_n (by omega), up_n (by omega)]
theorem syR_4 {R : rW} {p r : Int} : syR R p r 4 = R 4 + 1 := up_s
theorem syR_a {R : rW} {p r : Int} (h : 0 ≤ R 4) : syR R p r (619 + 4 * R 4) = p ∧ syR R p r (620 + 4 * R 4) = r ∧ syR R p r (621 + 4 * R 4) = R 0 ∧ syR R p r (622 + 4 * R 4) = -1 := by
  unfold syR
  refine ⟨?_, ?_, ?_, ?_⟩
  · rw [up_n (by omega), up_n (by omega), up_n (by omega), up_n (by omega), up_s]
  · rw [up_n (by omega), up_n (by omega), up_n (by omega), up_s]
  · rw [up_n (by omega), up_n (by omega), up_s]
  · rw [up_n (by omega), up_s]
theorem w_stay {R : rW} {p r : Int} (hR : RW R) (hp : -1 ≤ p ∧ p < R 1) (hr : 1 ≤ r ∧ r ≤ 255) (h4 : R 4 < 12) : RW (syR R p r) := by
  have n4 := hR.n.2.2.2.2.1
  have n0 := hR.n.1
  obtain ⟨s1, s2, s3, s4⟩ := syR_a (R := R) (p := p) (r := r) n4.1
  have e0 : syR R p r 0 = R 0 := syR_ne (by omega) (by omega)
  have e1 : syR R p r 1 = R 1 := syR_ne (by omega) (by omega)
  refine hR.gsts (fun j q => syR_ne (by omega) (by omega)) (by rw [syR_4]; omega) ⟨fun k hk => ?_, fun k hk => ?_⟩
  · rw [syR_4] at hk
    unfold STW
    by_cases c : k = R 4
    · subst c
      rw [s1, s2, s3, s4, e0, e1]
      exact ⟨hp, hr, by omega, Or.inl rfl⟩
    · rw [e0, e1, syR_ne (by omega) (by omega), syR_ne (by omega) (by omega), syR_ne (by omega) (by omega), syR_ne (by omega) (by omega)]
      exact hR.s.1 k (by omega)
  · rw [syR_4] at hk
    have hs := (hR.s.1 k (by omega)).2.2.1
    rw [syR_ne (j := 621 + 4 * k) (by omega) (by omega)]
    by_cases c : k + 1 = R 4
    · rw [show 625 + 4 * k = 621 + 4 * R 4 by omega, s3]; exact hs.2
    · rw [syR_ne (by omega) (by omega)]; exact hR.s.2 k (by omega)
theorem t_stay {p r : Int} {R : rW} {g : mG} {d : mD} {Q : mQ} (hC : CI d R) (hp : -1 ≤ p ∧ p < R 1) (h : HT (st_stay R p r) d g Q) : MM mX11_tryStay [vR 0, vI p, vI r] g d Q := by
  have hR := hC.w
  have n4 := hR.n.2.2.2.2.1
  have n0 := hR.n.1
  have e4 := hC.st.1
  have e0 := hC.cal.1
  refine eX11_tryStay ⟨fun c => h.e hC (sO_f (by omega)), fun c => ⟨fun c2 => ⟨fun _ => ?_, fun c3 => absurd c2 c3⟩, fun c2 => h.e hC ?_⟩⟩
  · rw [e4] at c2 ⊢
    obtain ⟨s1, s2, s3, s4⟩ := syR_a (R := R) (p := p) (r := r) n4.1
    refine ⟨by omega, ik (by omega), ik (by omega), ?_⟩
    rw [show R 4 + 1 - 1 = R 4 by omega]
    refine h.v (R := syR R p r) ?_ (((((FrT.u1 (by decide)).u2 (by decide)).u2 (by decide)).u2 (by decide)).u2 (by decide)) ?_
    · unfold st_stay
      rw [sO_t (by omega), sO_t c2]
    · refine hC.gsts (w_stay hR hp (by omega) c2) (fun j q => syR_ne (by omega) (by omega)) (fun k j q1 q2 q3 => by rw [ud_ne (by omega), ud_ne (by omega), ud_ne (by omega), ud_ne (by omega), ud_ne (by omega)]) ⟨?_, fun k hk => ?_⟩
      · rw [ud_same, syR_4]
      · rw [syR_4] at hk
        by_cases c5 : k = R 4
        · subst c5
          rw [s1, s2, s3, s4]
          refine ⟨?_, ?_, ?_, ?_⟩
          · rw [ud_ne (by omega), ud_ne (by omega), ud_ne (by omega), ud_ne (by omega), ud_same]
          · rw [ud_ne (by omega), ud_ne (by omega), ud_ne (by omega), ud_same]
          · rw [ud_ne (by omega), ud_ne (by omega), ud_same, e0]
          · rw [ud_ne (by omega), ud_same]; rfl
        · rw [syR_ne (by omega) (by omega), syR_ne (by omega) (by omega), syR_ne (by omega) (by omega), syR_ne (by omega) (by omega)]
          have := hC.st.2 k (by omega)
          refine ⟨?_, ?_, ?_, ?_⟩
          · rw [ud_ne (by omega), ud_ne (by omega), ud_ne (by omega), ud_ne (by omega), ud_ne (by omega)]; exact this.1
          · rw [ud_ne (by omega), ud_ne (by omega), ud_ne (by omega), ud_ne (by omega), ud_ne (by omega)]; exact this.2.1
          · rw [ud_ne (by omega), ud_ne (by omega), ud_ne (by omega), ud_ne (by omega), ud_ne (by omega)]; exact this.2.2.1
          · rw [ud_ne (by omega), ud_ne (by omega), ud_ne (by omega), ud_ne (by omega), ud_ne (by omega)]; exact this.2.2.2
  · unfold st_stay
    rw [sO_t (by omega), sO_f (by omega)]
theorem t_stayParty {p r : Int} {R : rW} {g : mG} {d : mD} {Q : mQ} (hC : CI d R) (h : HT (st_stayParty R p r) d g Q) : MM mX11_tryStayParty [vR 0, vI p, vI r] g d Q := by
  have e1 := hC.par.1
  refine eX11_tryStayParty ⟨fun c => t_stay hC (by omega) (fun d' hf hc => ?_), fun c => h.e hC (sO_f (by omega))⟩
  have e : st_stayParty R p r = st_stay R p r := sO_t (by omega)
  show Q (.inl (st_stay R p r).1) g d'
  rw [← e] at hc ⊢
  exact h d' hf hc
-- lifting
noncomputable def st_lift (R : rW) (x : Int) : Int × rW := sO (0 ≤ x ∧ x < R 4) (sO (R (622 + 4 * x) = -1) (R 0 - R (621 + 4 * x), up R (622 + 4 * x) (R 0)) (-3, R)) (-1, R)
theorem w_lift {R : rW} {x : Int} (hR : RW R) (hx : 0 ≤ x ∧ x < R 4) : RW (up R (622 + 4 * x) (R 0)) := by
  have n4 := hR.n.2.2.2.2.1
  refine hR.gsts (fun j q => up_n (by omega)) (by rw [up_n (by omega)]; exact n4) ⟨fun k hk => ?_, fun k hk => ?_⟩
  · rw [up_n (by omega)] at hk
    have h1 := hR.s.1 k hk
    unfold STW
    rw [up_n (i := 622 + 4 * x) (j := 619 + 4 * k) (by omega), up_n (i := 622 + 4 * x) (j := 620 + 4 * k) (by omega), up_n (i := 622 + 4 * x) (j := 621 + 4 * k) (by omega), up_n (i := 622 + 4 * x) (j := 0) (by omega), up_n (i := 622 + 4 * x) (j := 1) (by omega)]
    refine ⟨h1.1, h1.2.1, h1.2.2.1, ?_⟩
    by_cases c : k = x
    · subst c; rw [up_s]; exact Or.inr ⟨h1.2.2.1.2, Int.le_refl _⟩
    · rw [up_n (by omega)]; exact h1.2.2.2
  · rw [up_n (by omega)] at hk
    rw [up_n (by omega), up_n (by omega)]
    exact hR.s.2 k hk
theorem t_lift {x : Int} {R : rW} {g : mG} {d : mD} {Q : mQ} (hC : CI d R) (h : HT (st_lift R x) d g Q) : MM mX11_tryLift [vR 0, vI x] g d Q := by
  have hR := hC.w
  have n4 := hR.n.2.2.2.2.1
  have n0 := hR.n.1
  have e4 := hC.st.1
  have e0 := hC.cal.1
  refine eX11_tryLift ⟨fun c => ?_, fun c => h.e hC (sO_f (by omega))⟩
  have hx : 0 ≤ x ∧ x < R 4 := by omega
  obtain ⟨s1, s2, s3, s4⟩ := hC.st.2 x hx
  have hs := hR.s.1 x hx
  have hl : d 32 x = 4999 ↔ R (622 + 4 * x) = -1 := by
    have := hs.2.2.2
    rw [s4]; unfold lastD; split <;> omega
  have h3 := hs.2.2.1
  refine ⟨by omega, fun c2 => ?_, fun c2 => h.e hC ?_⟩
  · rw [e0, s3]
    refine ⟨ik (by omega), h.v (R := up R (622 + 4 * x) (R 0)) ?_ (FrT.u1 (by decide)) ?_⟩
    · unfold st_lift
      rw [sO_t hx, sO_t (hl.1 c2)]
    · refine hC.gsts (w_lift hR hx) (fun j q => up_n (by omega)) (fun k j q1 q2 q3 => by rw [ud_ne (by omega)]) ⟨?_, fun k hk => ?_⟩
      · rw [ud_ne (by omega), up_n (by omega)]; exact e4
      · rw [up_n (by omega)] at hk
        obtain ⟨t1, t2, t3, t4⟩ := hC.st.2 k hk
        rw [ud_ne (by omega), ud_ne (by omega), ud_ne (by omega), up_n (by omega), up_n (by omega), up_n (by omega)]
        refine ⟨t1, t2, t3, ?_⟩
        by_cases c3 : k = x
        · subst c3
          rw [ud_same, up_s]
          exact (if_neg (by omega)).symm
        · rw [ud_ne (by omega), up_n (by omega)]; exact t4
  · unfold st_lift
    rw [sO_t hx, sO_f (fun q => c2 (hl.2 q))]
