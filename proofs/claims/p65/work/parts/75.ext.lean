-- extensions
theorem grN_rng {R : rW} {i : Int} : ∀ (n : Nat), (∀ k, 0 ≤ k → k < n → 1 ≤ R (150 + 16 * i + k) ∧ R (150 + 16 * i + k) ≤ 100) → 0 ≤ grN R i n ∧ grN R i n ≤ 100 * n := by
  intro n
  induction n with
  | zero => intro _; exact ⟨Int.le_refl _, Int.le_refl _⟩
  | succ n ih =>
    intro h
    have h1 := ih (fun k q1 q2 => h k q1 (by omega))
    have h2 := h n (by omega) (by omega)
    show 0 ≤ grN R i n + R (150 + 16 * i + n) ∧ grN R i n + R (150 + 16 * i + n) ≤ 100 * ((n + 1 : Nat) : Int)
    omega
theorem grF_rng {R : rW} {i : Int} (h : DLW R i) : 0 ≤ grF R i ∧ grF R i ≤ 500 := by
  obtain ⟨a1, a2, a3, a4, a5, a6, a7, a8, a9, a10, a11, a12⟩ := h
  have := grN_rng (R := R) (i := i) (R (146 + 16 * i)).toNat (fun k q1 q2 => a12 k (by omega))
  unfold grF
  omega
def gtR (R : rW) (x y : Int) : rW := up (up R (150 + 16 * x + R (146 + 16 * x)) y) (146 + 16 * x) (R (146 + 16 * x) + 1)
theorem DLW.gt {R R' : rW} {x y : Int} (h : DLW R x) (e0 : R' 0 = R 0) (e1 : R' 1 = R 1) (e : ∀ j, 139 + 16 * x ≤ j → j ≤ 145 + 16 * x → R' j = R j) (e146 : R' (146 + 16 * x) = R (146 + 16 * x) + 1) (s : R' (147 + 16 * x) + R' (148 + 16 * x) = R (147 + 16 * x) + R (148 + 16 * x) + 1) (b147 : 0 ≤ R' (147 + 16 * x) ∧ R' (147 + 16 * x) ≤ 2) (b148 : 0 ≤ R' (148 + 16 * x) ∧ R' (148 + 16 * x) ≤ 3) (b149 : 0 ≤ R' (149 + 16 * x) ∧ R' (149 + 16 * x) ≤ 28) (ex : ∀ k, 0 ≤ k → k < R (146 + 16 * x) → R' (150 + 16 * x + k) = R (150 + 16 * x + k)) (ey : R' (150 + 16 * x + R (146 + 16 * x)) = y) (hy : 1 ≤ y ∧ y ≤ 100) : DLW R' x := by
  obtain ⟨a1, a2, a3, a4, a5, a6, a7, a8, a9, a10, a11, a12⟩ := h
  unfold DLW
  rw [e (139 + 16 * x) (by omega) (by omega), e (140 + 16 * x) (by omega) (by omega), e (141 + 16 * x) (by omega) (by omega), e (142 + 16 * x) (by omega) (by omega), e (143 + 16 * x) (by omega) (by omega), e (144 + 16 * x) (by omega) (by omega), e (145 + 16 * x) (by omega) (by omega), e0, e1, e146]
  refine ⟨a1, a2, a3, a4, a5, a6, a7, b147, b148, by omega, b149, fun k hk => ?_⟩
  by_cases c : k = R (146 + 16 * x)
  · subst c; rw [ey]; exact hy
  · rw [ex k hk.1 (by omega)]; exact a12 k (by omega)
theorem DLS.gt {d d' : mD} {R R' : rW} {x y : Int} (h : DLS d R x) (hw : DLW R x) (e : ∀ j, 139 + 16 * x ≤ j → j ≤ 145 + 16 * x → R' j = R j) (e146 : R' (146 + 16 * x) = R (146 + 16 * x) + 1) (ex : ∀ k, 0 ≤ k → k < R (146 + 16 * x) → R' (150 + 16 * x + k) = R (150 + 16 * x + k)) (ey : R' (150 + 16 * x + R (146 + 16 * x)) = y) (q17 : d' 17 x = d 17 x) (q18 : d' 18 x = d 18 x) (q19 : d' 19 x = d 19 x) (q20 : d' 20 x = d 20 x) (q27 : d' 27 x = d 27 x) (q21 : d' 21 x = d 21 x + 1) (q22 : ∀ t, 0 ≤ t → t < partsF R x → d' 22 (x * 7 + t) = d 22 (x * 7 + t)) (q22' : d' 22 (x * 7 + d 21 x) = y) (q23 : d' 23 x = R' (147 + 16 * x)) (q24 : d' 24 x = R' (149 + 16 * x)) (q25 : d' 25 x = R' (148 + 16 * x)) (q26 : d' 26 x = d 26 x + y) : DLS d' R' x := by
  have hp := partsF_rng hw
  obtain ⟨b1, b2, b3, b4, b5, b6, b7, b8, b9, b10, b11, b12⟩ := hw
  obtain ⟨a1, a2, a3, a4, a5, a6, a7, a8, a9, a10, a11⟩ := h
  have es : svF R' x = svF R x := by unfold svF; rw [e (144 + 16 * x) (by omega) (by omega)]
  have ep : partsF R' x = partsF R x + 1 := by unfold partsF; rw [es, e146]; omega
  have hs := @bI_rng (0 < R (144 + 16 * x))
  have eg : grF R' x = grF R x + y := by
    unfold grF
    rw [e146, show (R (146 + 16 * x) + 1).toNat = (R (146 + 16 * x)).toNat + 1 by omega]
    show grN R' x (R (146 + 16 * x)).toNat + R' (150 + 16 * x + ((R (146 + 16 * x)).toNat : Nat)) = _
    rw [show (((R (146 + 16 * x)).toNat : Nat) : Int) = R (146 + 16 * x) by omega, ey, grN_cg (R := R) (R' := R') _ (fun j q1 q2 => by
      have := ex (j - (150 + 16 * x)) (by omega) (by omega)
      rwa [show 150 + 16 * x + (j - (150 + 16 * x)) = j by omega] at this)]
  unfold DLS
  rw [ep, eg, q17, q18, q19, q20, q27, q21, q23, q24, q25, q26, e (139 + 16 * x) (by omega) (by omega), e (140 + 16 * x) (by omega) (by omega), e (141 + 16 * x) (by omega) (by omega), e (143 + 16 * x) (by omega) (by omega), e (145 + 16 * x) (by omega) (by omega)]
  refine ⟨a1, a2, a3, a4, by omega, fun k hk => ?_, rfl, rfl, rfl, by omega, a11⟩
  have eP : partsF R x = 1 + svF R x + R (146 + 16 * x) := rfl
  have hsv : 0 ≤ svF R x ∧ svF R x ≤ 1 := hs
  by_cases c : k = partsF R x
  · subst c
    rw [show x * 7 + partsF R x = x * 7 + d 21 x by omega, q22']
    unfold plenF
    rw [iT_f (by omega), es, iT_f (by omega), show partsF R x - 1 - svF R x = R (146 + 16 * x) by omega, ey]
  · rw [q22 k hk.1 (by omega), a6 k (by omega)]
    unfold plenF
    rw [es, e (142 + 16 * x) (by omega) (by omega), e (144 + 16 * x) (by omega) (by omega)]
    by_cases c2 : k - 1 - svF R x < 0
    · rw [iT_t c2, iT_t c2]
    · rw [ex (k - 1 - svF R x) (by omega) (by omega)]
-- by order
noncomputable def st_order (R : rW) (x y : Int) : Int × rW := sO (0 ≤ x ∧ x < R 3) (sO (1 ≤ y ∧ y ≤ 100) (sO (opn R x ∧ R (148 + 16 * x) < 3) (grF R x + y, up (up (up R (148 + 16 * x) (R (148 + 16 * x) + 1)) (150 + 16 * x + R (146 + 16 * x)) y) (146 + 16 * x) (R (146 + 16 * x) + 1)) (-3, R)) (-2, R)) (-1, R)
theorem dw_order {R : rW} {x y : Int} (hx : 0 ≤ x) (h : DLW R x) (h1 : R (148 + 16 * x) < 3) (hy : 1 ≤ y ∧ y ≤ 100) : DLW (up (up (up R (148 + 16 * x) (R (148 + 16 * x) + 1)) (150 + 16 * x + R (146 + 16 * x)) y) (146 + 16 * x) (R (146 + 16 * x) + 1)) x := by
  have h' := h
  obtain ⟨a1, a2, a3, a4, a5, a6, a7, a8, a9, a10, a11, a12⟩ := h'
  refine h.gt (y := y) ?_ ?_ (fun j q1 q2 => ?_) up_s ?_ ?_ ?_ ?_ (fun k q1 q2 => ?_) ?_ hy
  · rw [up_n (by omega), up_n (by omega), up_n (by omega)]
  · rw [up_n (by omega), up_n (by omega), up_n (by omega)]
  · rw [up_n (by omega), up_n (by omega), up_n (by omega)]
  · rw [up_n (by omega), up_n (by omega), up_n (by omega), up_n (by omega), up_n (by omega), up_s]; omega
  · rw [up_n (by omega), up_n (by omega), up_n (by omega)]; exact a8
  · rw [up_n (by omega), up_n (by omega), up_s]; omega
  · rw [up_n (by omega), up_n (by omega), up_n (by omega)]; exact a11
  · rw [up_n (by omega), up_n (by omega), up_n (by omega)]
  · rw [up_n (by omega), up_s]
theorem w_order {R : rW} {x y : Int} (hR : RW R) (hx : 0 ≤ x ∧ x < R 3) (h1 : R (148 + 16 * x) < 3) (hy : 1 ≤ y ∧ y ≤ 100) : RW (up (up (up R (148 + 16 * x) (R (148 + 16 * x) + 1)) (150 + 16 * x + R (146 + 16 * x)) y) (146 + 16 * x) (R (146 + 16 * x) + 1)) := by
  obtain ⟨a1, a2, a3, a4, a5, a6, a7, a8, a9, a10, a11, a12⟩ := hR.dl hx
  exact hR.one hx (fun j q => by rw [up_n (by omega), up_n (by omega), up_n (by omega)]) (dw_order hx.1 (hR.dl hx) h1 hy)
theorem t_order {x y : Int} {R : rW} {g : mG} {d : mD} {Q : mQ} (hC : CI d R) (h : HT (st_order R x y) d g Q) : MM mX11_tryExtendByOrder [vR 0, vI x, vI y] g d Q := by
  have e3 := hC.dl.1
  have n3 := hC.w.n.2.2.2.1
  refine eX11_tryExtendByOrder ⟨fun c => ⟨fun c2 => h.e hC ?_, fun c2 => ⟨fun c3 => ⟨by omega, fun c4 => h.e hC ?_, fun c4 => ?_⟩, fun c3 => h.e hC ?_⟩⟩, fun c => h.e hC (sO_f (by omega))⟩
  · unfold st_order
    rw [sO_t (by omega), sO_f (by omega)]
  · have hs := hC.dl.2 x (by omega)
    unfold st_order
    have h1 := hs.2.2.2.2.2.2.2.2.2.2
    have h2 := hs.2.2.2.2.2.2.2.2.1
    have h3 : ¬ (R (145 + 16 * x) = 111 ∧ R (148 + 16 * x) < 3) := by omega
    rw [sO_t (by omega), sO_t (by omega), sO_f (p := opn R x ∧ R (148 + 16 * x) < 3) h3]
  · have hx : 0 ≤ x ∧ x < R 3 := by omega
    have hs := hC.dl.2 x hx
    have hw := hC.w.dl hx
    have hp := partsF_rng hw
    have e21 := hs.2.2.2.2.1
    have e26 := hs.2.2.2.2.2.2.2.2.2.1
    have e25 := hs.2.2.2.2.2.2.2.2.1
    have e27 := hs.2.2.2.2.2.2.2.2.2.2
    have hb := hw.2.2.2.2.2.2.2.2.1
    have hb7 := hw.2.2.2.2.2.2.2.1
    have h146 := hw.2.2.2.2.2.2.2.2.2.1
    have hc4 : R (145 + 16 * x) = 111 ∧ R (148 + 16 * x) < 3 := by omega
    have hg : 0 ≤ grF R x ∧ grF R x ≤ 500 := grF_rng hw
    have eP : partsF R x = 1 + svF R x + R (146 + 16 * x) := rfl
    have hsv : 0 ≤ svF R x ∧ svF R x ≤ 1 := bI_rng
    refine ⟨ik (by omega), by omega, ik (by omega), ?_⟩
    refine h.v (R := up (up (up R (148 + 16 * x) (R (148 + 16 * x) + 1)) (150 + 16 * x + R (146 + 16 * x)) y) (146 + 16 * x) (R (146 + 16 * x) + 1)) ?_ ((((FrT.u1 (by decide)).u2 (by decide)).u2 (by decide)).u2 (by decide)) ?_
    · unfold st_order
      rw [sO_t hx, sO_t (by omega), sO_t (p := opn R x ∧ R (148 + 16 * x) < 3) hc4, e26]
    · refine hC.one hx (fun j q => by rw [up_n (by omega), up_n (by omega), up_n (by omega)]) (fun k j q1 q2 q3 q4 => by rw [ud_ne (by omega), ud_ne (by omega), ud_ne (by omega), ud_ne (by omega)]) (dw_order hx.1 hw hc4.2 (by omega)) (hs.gt hw (y := y) (fun j q1 q2 => ?_) up_s (fun k q1 q2 => ?_) ?_ ?_ ?_ ?_ ?_ ?_ ?_ (fun t q1 q2 => ?_) ?_ ?_ ?_ ?_ ?_)
      · rw [up_n (by omega), up_n (by omega), up_n (by omega)]
      · rw [up_n (by omega), up_n (by omega), up_n (by omega)]
      · rw [up_n (by omega), up_s]
      · rw [ud_ne (by omega), ud_ne (by omega), ud_ne (by omega), ud_ne (by omega)]
      · rw [ud_ne (by omega), ud_ne (by omega), ud_ne (by omega), ud_ne (by omega)]
      · rw [ud_ne (by omega), ud_ne (by omega), ud_ne (by omega), ud_ne (by omega)]
      · rw [ud_ne (by omega), ud_ne (by omega), ud_ne (by omega), ud_ne (by omega)]
      · rw [ud_ne (by omega), ud_ne (by omega), ud_ne (by omega), ud_ne (by omega)]
      · rw [ud_ne (by omega), ud_same]
      · rw [ud_ne (by omega), ud_ne (by omega), ud_ne (by omega), ud_ne (by omega)]
      · rw [ud_ne (by omega), ud_ne (by omega), ud_same]
      · rw [ud_ne (by omega), ud_ne (by omega), ud_ne (by omega), ud_ne (by omega), up_n (by omega), up_n (by omega), up_n (by omega)]
        exact hs.2.2.2.2.2.2.1
      · rw [ud_ne (by omega), ud_ne (by omega), ud_ne (by omega), ud_ne (by omega), up_n (by omega), up_n (by omega), up_n (by omega)]
        exact hs.2.2.2.2.2.2.2.1
      · rw [ud_ne (by omega), ud_ne (by omega), ud_ne (by omega), ud_same, up_n (by omega), up_n (by omega), up_s, e25]
      · rw [ud_same]
  · unfold st_order
    rw [sO_t (by omega), sO_f (by omega)]
