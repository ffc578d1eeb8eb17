-- extension by consent
noncomputable def cnR (R : rW) (x y : Int) : rW := up (up (up (up R (147 + 16 * x) (R (147 + 16 * x) + 1)) (149 + 16 * x) (R (149 + 16 * x) + y)) (150 + 16 * x + R (146 + 16 * x)) y) (146 + 16 * x) (R (146 + 16 * x) + 1)
noncomputable def st_consent (R : rW) (x y : Int) : Int × rW := sO (0 ≤ x ∧ x < R 3) (sO (1 ≤ y ∧ y ≤ 28) (sO (opn R x ∧ R 0 ≤ dueF R x ∧ R (147 + 16 * x) < 2) (sO (R (149 + 16 * x) + y ≤ 28) (grF R x + y, cnR R x y) (-4, R)) (-3, R)) (-2, R)) (-1, R)
theorem dw_consent {R : rW} {x y : Int} (hx : 0 ≤ x) (h : DLW R x) (h1 : R (147 + 16 * x) < 2) (h2 : R (149 + 16 * x) + y ≤ 28) (hy : 1 ≤ y ∧ y ≤ 28) : DLW (cnR R x y) x := by
  have h' := h
  obtain ⟨a1, a2, a3, a4, a5, a6, a7, a8, a9, a10, a11, a12⟩ := h'
  unfold cnR
  refine h.gt (y := y) ?_ ?_ (fun j q1 q2 => ?_) up_s ?_ ?_ ?_ ?_ (fun k q1 q2 => ?_) ?_ (by omega)
  · rw [up_n (by omega), up_n (by omega), up_n (by omega), up_n (by omega)]
  · rw [up_n (by omega), up_n (by omega), up_n (by omega), up_n (by omega)]
  · rw [up_n (by omega), up_n (by omega), up_n (by omega), up_n (by omega)]
  · rw [up_n (by omega), up_n (by omega), up_n (by omega), up_s, up_n (by omega), up_n (by omega), up_n (by omega), up_n (by omega)]; omega
  · rw [up_n (by omega), up_n (by omega), up_n (by omega), up_s]; omega
  · rw [up_n (by omega), up_n (by omega), up_n (by omega), up_n (by omega)]; exact a9
  · rw [up_n (by omega), up_n (by omega), up_s]; omega
  · rw [up_n (by omega), up_n (by omega), up_n (by omega), up_n (by omega)]
  · rw [up_n (by omega), up_s]
theorem cnR_ne {R : rW} {x y j : Int} (h : DLW R x) (q : ¬ (139 + 16 * x ≤ j ∧ j ≤ 154 + 16 * x)) (hb : R (147 + 16 * x) < 2) : cnR R x y j = R j := by
  obtain ⟨a1, a2, a3, a4, a5, a6, a7, a8, a9, a10, a11, a12⟩ := h
  unfold cnR
  rw [up_n (by omega), up_n (by omega), up_n (by omega), up_n (by omega)]
theorem w_consent {R : rW} {x y : Int} (hR : RW R) (hx : 0 ≤ x ∧ x < R 3) (h1 : R (147 + 16 * x) < 2) (h2 : R (149 + 16 * x) + y ≤ 28) (hy : 1 ≤ y ∧ y ≤ 28) : RW (cnR R x y) :=
  hR.one hx (fun j q => cnR_ne (hR.dl hx) q h1) (dw_consent hx.1 (hR.dl hx) h1 h2 hy)
theorem t_consent {x y : Int} {R : rW} {g : mG} {d : mD} {Q : mQ} (hC : CI d R) (h : HT (st_consent R x y) d g Q) : MM mX11_tryExtendByConsent [vR 0, vI x, vI y] g d Q := by
  have e3 := hC.dl.1
  have e0 := hC.cal.1
  have n3 := hC.w.n.2.2.2.1
  refine eX11_tryExtendByConsent (R := R) ⟨fun c => ⟨fun c2 => h.e hC ?_, fun c2 => ⟨by omega, fun c3 => ⟨hC, by omega, fun d' hf => ?_⟩, fun c3 => h.e hC ?_⟩⟩, fun c => h.e hC (sO_f (by omega))⟩
  · unfold st_consent
    rw [sO_t (by omega), sO_f (by omega)]
  · have hx : 0 ≤ x ∧ x < R 3 := by omega
    have hs := hC.dl.2 x hx
    have hw := hC.w.dl hx
    have hp := partsF_rng hw
    have e21 := hs.2.2.2.2.1
    have e23 := hs.2.2.2.2.2.2.1
    have e24 := hs.2.2.2.2.2.2.2.1
    have e26 := hs.2.2.2.2.2.2.2.2.2.1
    have e25 := hs.2.2.2.2.2.2.2.2.1
    have e27 := hs.2.2.2.2.2.2.2.2.2.2
    have hb := hw.2.2.2.2.2.2.2.2.1
    have hb7 := hw.2.2.2.2.2.2.2.1
    have h146 := hw.2.2.2.2.2.2.2.2.2.1
    have h149 := hw.2.2.2.2.2.2.2.2.2.2.1
    have hg := grF_rng hw
    have eP : partsF R x = 1 + svF R x + R (146 + 16 * x) := rfl
    have hsv : 0 ≤ svF R x ∧ svF R x ≤ 1 := bI_rng
    have ho : R (145 + 16 * x) = 111 := by omega
    rw [e0, e23, e24, hf (b := 21) (by omega), hf (b := 26) (by omega)]
    refine ⟨fun c4 => ?_, fun c4 => ⟨ik (by omega), fun c5 => ⟨ik (by omega), by omega, ik (by omega), ?_⟩, fun c5 => ?_⟩⟩
    · refine h.v (R := R) ?_ (fun b j q => hf (by omega)) (hC.frW hf)
      have c5 : ¬ (R (145 + 16 * x) = 111 ∧ R 0 ≤ dueF R x ∧ R (147 + 16 * x) < 2) := by omega
      unfold st_consent
      rw [sO_t hx, sO_t (by omega), sO_f (p := opn R x ∧ R 0 ≤ dueF R x ∧ R (147 + 16 * x) < 2) c5]
    · have c6 : R (145 + 16 * x) = 111 ∧ R 0 ≤ dueF R x ∧ R (147 + 16 * x) < 2 := by omega
      refine h.v (R := cnR R x y) ?_ ((((((show FrT d d' from fun b j q => hf (by omega)).u2 (by decide)).u2 (by decide)).u2 (by decide)).u2 (by decide)).u2 (by decide)) ?_
      · unfold st_consent
        rw [sO_t hx, sO_t (by omega), sO_t (p := opn R x ∧ R 0 ≤ dueF R x ∧ R (147 + 16 * x) < 2) c6, sO_t c5, e26]
      · refine hC.one hx (fun j q => cnR_ne hw q c6.2.2) (fun k j q1 q2 q3 q4 => by rw [ud_ne (by omega), ud_ne (by omega), ud_ne (by omega), ud_ne (by omega), ud_ne (by omega), hf (by omega)]) (dw_consent hx.1 hw c6.2.2 c5 (by omega)) ?_
        unfold cnR
        refine (hs.gt hw (y := y) (fun j q1 q2 => ?_) up_s (fun k q1 q2 => ?_) ?_ ?_ ?_ ?_ ?_ ?_ ?_ (fun t q1 q2 => ?_) ?_ ?_ ?_ ?_ ?_)
        · rw [up_n (by omega), up_n (by omega), up_n (by omega), up_n (by omega)]
        · rw [up_n (by omega), up_n (by omega), up_n (by omega), up_n (by omega)]
        · rw [up_n (by omega), up_s]
        · rw [ud_ne (by omega), ud_ne (by omega), ud_ne (by omega), ud_ne (by omega), ud_ne (by omega), hf (by omega)]
        · rw [ud_ne (by omega), ud_ne (by omega), ud_ne (by omega), ud_ne (by omega), ud_ne (by omega), hf (by omega)]
        · rw [ud_ne (by omega), ud_ne (by omega), ud_ne (by omega), ud_ne (by omega), ud_ne (by omega), hf (by omega)]
        · rw [ud_ne (by omega), ud_ne (by omega), ud_ne (by omega), ud_ne (by omega), ud_ne (by omega), hf (by omega)]
        · rw [ud_ne (by omega), ud_ne (by omega), ud_ne (by omega), ud_ne (by omega), ud_ne (by omega), hf (by omega)]
        · rw [ud_ne (by omega), ud_same]
        · rw [ud_ne (by omega), ud_ne (by omega), ud_ne (by omega), ud_ne (by omega), ud_ne (by omega), hf (by omega)]
        · rw [ud_ne (by omega), ud_ne (by omega), ud_same]
        · rw [ud_ne (by omega), ud_ne (by omega), ud_ne (by omega), ud_ne (by omega), ud_same, up_n (by omega), up_n (by omega), up_n (by omega), up_s]
        · rw [ud_ne (by omega), ud_ne (by omega), ud_ne (by omega), ud_same, up_n (by omega), up_n (by omega), up_s]
        · rw [ud_ne (by omega), ud_ne (by omega), ud_ne (by omega), ud_ne (by omega), ud_ne (by omega), hf (by omega), up_n (by omega), up_n (by omega), up_n (by omega), up_n (by omega), e25]
        · rw [ud_same]
    · refine h.v (R := R) ?_ (fun b j q => hf (by omega)) (hC.frW hf)
      have c6 : R (145 + 16 * x) = 111 ∧ R 0 ≤ dueF R x ∧ R (147 + 16 * x) < 2 := by omega
      unfold st_consent
      rw [sO_t hx, sO_t (by omega), sO_t (p := opn R x ∧ R 0 ≤ dueF R x ∧ R (147 + 16 * x) < 2) c6, sO_f c5]
  · have hs := hC.dl.2 x (by omega)
    have e27 := hs.2.2.2.2.2.2.2.2.2.2
    have c5 : ¬ (R (145 + 16 * x) = 111 ∧ R 0 ≤ dueF R x ∧ R (147 + 16 * x) < 2) := by omega
    unfold st_consent
    rw [sO_t (by omega), sO_t (by omega), sO_f (p := opn R x ∧ R 0 ≤ dueF R x ∧ R (147 + 16 * x) < 2) c5]
