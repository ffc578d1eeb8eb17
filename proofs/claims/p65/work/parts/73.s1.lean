-- steps: holidays, rules, service days
noncomputable def st_addHoliday (R : rW) (x : Int) : Int × rW := sO (0 ≤ x ∧ x ≤ 4999) (sO (hAt R x = -1 ∧ R 2 < 40) (R 2 + 1, up (up R (79 + R 2) x) 2 (R 2 + 1)) (-3, R)) (-2, R)
theorem hAt_1 {R : rW} (h : R 2 ≤ 40) {x : Int} (c : hAt R x = -1) : ∀ j, 0 ≤ j → j < R 2 → R (79 + j) ≠ x := by
  rcases hAt_spec (R := R) (x := x) h with ⟨_, a⟩ | ⟨a, _⟩
  · exact a
  · omega
theorem hAt_2 {R : rW} (h : R 2 ≤ 40) {x : Int} (c : ¬ hAt R x = -1) : (0 ≤ hAt R x ∧ hAt R x < R 2) ∧ R (79 + hAt R x) = x := by
  rcases hAt_spec (R := R) (x := x) h with ⟨a, _⟩ | a
  · exact absurd a c
  · exact a
theorem w_addHoliday {R : rW} {x : Int} (hR : RW R) (hx : 0 ≤ x ∧ x ≤ 4999) (h1 : hAt R x = -1) (h2 : R 2 < 40) : RW (up (up R (79 + R 2) x) 2 (R 2 + 1)) := by
  have n2 := hR.n.2.2.1
  have ha := hAt_1 (R := R) n2.2 h1
  refine hR.ghol (fun j q => up2_n (by omega) (by omega)) (by rw [up_s]; omega) ⟨fun k hk => ?_, fun j k q1 q2 q3 => ?_⟩
  · rw [up_s] at hk
    rw [up_n (by omega)]
    by_cases c : k = R 2
    · subst c; rw [up_s]; exact hx
    · rw [up_n (by omega)]; exact hR.hd.1 k (by omega)
  · rw [up_s] at q3
    rw [up_n (by omega), up_n (i := 2) (by omega), up_n (i := 79 + R 2) (j := 79 + j) (by omega)]
    by_cases c : k = R 2
    · subst c; rw [up_s]; exact ha j q1 (by omega)
    · rw [up_n (by omega)]; exact hR.hd.2 j k q1 q2 (by omega)
theorem t_addHoliday {x : Int} {R : rW} {g : mG} {d : mD} {Q : mQ} (hC : CI d R) (h : HT (st_addHoliday R x) d g Q) : MM mX11_tryAddHoliday [vR 0, vI x] g d Q := by
  have hR := hC.w
  have n2 := hR.n.2.2.1
  have e2 := hC.cal.2.1
  refine eX11_tryAddHoliday (R := R) ⟨fun c => ⟨hC, fun c2 => h.e hC ?_, fun c2 => ?_⟩, fun c => h.e hC (sO_f (by omega))⟩
  · unfold st_addHoliday
    rw [sO_t (by omega), sO_f (by omega)]
  · rw [e2] at c2 ⊢
    have c3 : hAt R x = -1 ∧ R 2 < 40 := by omega
    refine ⟨fun c4 => absurd c4 (by omega), fun _ => ⟨by omega, ik (by omega), h.v (R := up (up R (79 + R 2) x) 2 (R 2 + 1)) ?_ ((FrT.u1 (by decide)).u2 (by decide)) ?_⟩⟩
    · unfold st_addHoliday
      rw [sO_t (by omega), sO_t c3]
    · refine hC.ghol (w_addHoliday hR (by omega) c3.1 c3.2) (fun j q => up2_n (by omega) (by omega)) (fun k j _ _ q => by rw [ud_ne (by omega), ud_ne (by omega)]) ⟨?_, ?_, fun k hk => ?_⟩
      · rw [ud_ne (by omega), ud_ne (by omega), up2_n (by omega) (by decide)]; exact hC.cal.1
      · rw [ud_same, up_s]
      · rw [up_s] at hk
        rw [ud_ne (by omega), up_n (by omega)]
        by_cases c : k = R 2
        · subst c; rw [ud_same, up_s]
        · rw [ud_ne (by omega), up_n (by omega)]; exact hC.cal.2.2 k (by omega)
noncomputable def st_removeHoliday (R : rW) (x : Int) : Int × rW := sO (0 ≤ x ∧ x ≤ 4999) (sO (hAt R x = -1) (-5, R) (R 2 - 1, up (up R 2 (R 2 - 1)) (79 + hAt R x) (R (78 + R 2)))) (-2, R)
theorem w_removeHoliday {R : rW} {x : Int} (hR : RW R) (h1 : ¬ hAt R x = -1) : RW (up (up R 2 (R 2 - 1)) (79 + hAt R x) (R (78 + R 2))) := by
  have n2 := hR.n.2.2.1
  obtain ⟨ha, hb⟩ := hAt_2 (R := R) n2.2 h1
  have e2 : up (up R 2 (R 2 - 1)) (79 + hAt R x) (R (78 + R 2)) 2 = R 2 - 1 := by rw [up_n (by omega), up_s]
  have ek : ∀ k, ¬ k = hAt R x → 0 ≤ k → up (up R 2 (R 2 - 1)) (79 + hAt R x) (R (78 + R 2)) (79 + k) = R (79 + k) := fun k q1 q2 => by rw [up_n (by omega), up_n (by omega)]
  have el := hR.hd.1 (R 2 - 1) (by omega)
  have es : R (78 + R 2) = R (79 + (R 2 - 1)) := by rw [show 79 + (R 2 - 1) = 78 + R 2 by omega]
  refine hR.ghol (fun j q => up2_n (by omega) (by omega)) (by rw [e2]; omega) ⟨fun k hk => ?_, fun j k q1 q2 q3 => ?_⟩
  · rw [e2] at hk
    by_cases c : k = hAt R x
    · subst c; rw [up_s, es]; exact el
    · rw [ek k c (by omega)]; exact hR.hd.1 k (by omega)
  · rw [e2] at q3
    by_cases c : k = hAt R x
    · subst c
      rw [up_s, ek j (by omega) q1, es]
      exact hR.hd.2 j (R 2 - 1) q1 (by omega) (by omega)
    · rw [ek k c (by omega)]
      by_cases c2 : j = hAt R x
      · subst c2
        rw [up_s, es]
        exact fun q => hR.hd.2 k (R 2 - 1) (by omega) (by omega) (by omega) q.symm
      · rw [ek j c2 q1]; exact hR.hd.2 j k q1 q2 (by omega)
-- rules
noncomputable def st_setRule (R : rW) (x y z : Int) : Int × rW := sO (0 ≤ x ∧ x < 8) (sO (1 ≤ y ∧ y ≤ 200) (R (119 + 2 * x), up (up R (119 + 2 * x) y) (120 + 2 * x) z) (-2, R)) (-1, R)
theorem w_setRule {R : rW} {x y z : Int} (hR : RW R) (hx : 0 ≤ x ∧ x < 8) (hy : 1 ≤ y ∧ y ≤ 200) (hz : 0 ≤ z ∧ z ≤ 1) : RW (up (up R (119 + 2 * x) y) (120 + 2 * x) z) := by
  refine hR.grul (fun j q => up2_n (by omega) (by omega)) ⟨fun r hr => ?_, fun w hw => ?_⟩
  · by_cases c : r = x
    · subst c; rw [up_n (by omega), up_s, up_s]; omega
    · rw [up_n (by omega), up_n (by omega), up_n (by omega), up_n (by omega)]; exact hR.r.1 r hr
  · rw [up_n (by omega), up_n (by omega)]; exact hR.r.2 w hw
theorem t_setRule {x y z : Int} {R : rW} {g : mG} {d : mD} {Q : mQ} (hC : CI d R) (hz : 0 ≤ z ∧ z ≤ 1) (h : HT (st_setRule R x y z) d g Q) : MM mX11_trySetRule [vR 0, vI x, vI y, vI z] g d Q := by
  have hR := hC.w
  refine eX11_trySetRule ⟨fun c => ⟨fun c2 => h.e hC ?_, fun c2 => ⟨by omega, hz, h.v (R := up (up R (119 + 2 * x) y) (120 + 2 * x) z) ?_ ((FrT.u1 (by decide)).u2 (by decide)) ?_⟩⟩, fun c => h.e hC (sO_f (by omega))⟩
  · unfold st_setRule
    rw [sO_t (by omega), sO_f (by omega)]
  · unfold st_setRule
    rw [sO_t (by omega), sO_t (by omega), (hC.rul.1 x (by omega)).1]
  · refine hC.grul (w_setRule hR (by omega) (by omega) hz) (fun j q => up2_n (by omega) (by omega)) (fun k j _ _ q => by rw [ud_ne (by omega), ud_ne (by omega)]) ⟨fun r hr => ?_, fun w hw => ?_⟩
    · by_cases c : r = x
      · subst c; rw [ud_ne (by omega), ud_same, ud_same, up_n (by omega), up_s, up_s]; exact ⟨rfl, rfl⟩
      · rw [ud_ne (by omega), ud_ne (by omega), ud_ne (by omega), ud_ne (by omega), up_n (by omega), up_n (by omega), up_n (by omega), up_n (by omega)]; exact hC.rul.1 r hr
    · rw [ud_ne (by omega), ud_ne (by omega), up_n (by omega), up_n (by omega)]; exact hC.rul.2 w hw
noncomputable def st_setServiceDays (R : rW) (x y : Int) : Int × rW := sO (wayF x = -1 ∨ ¬ (0 ≤ y ∧ y ≤ 30)) (-2, R) (R (135 + wayF x), up R (135 + wayF x) y)
theorem w_setServiceDays {R : rW} {x y : Int} (hR : RW R) (hx : 0 ≤ x ∧ x < 4) (hy : 0 ≤ y ∧ y ≤ 30) : RW (up R (135 + x) y) := by
  refine hR.grul (fun j q => up_n (by omega)) ⟨fun r hr => ?_, fun w hw => ?_⟩
  · rw [up_n (by omega), up_n (by omega)]; exact hR.r.1 r hr
  · by_cases c : w = x
    · subst c; rw [up_s]; exact hy
    · rw [up_n (by omega)]; exact hR.r.2 w hw
theorem t_setServiceDays {x y : Int} {R : rW} {g : mG} {d : mD} {Q : mQ} (hC : CI d R) (h : HT (st_setServiceDays R x y) d g Q) : MM mX11_trySetServiceDays [vR 0, vI x, vI y] g d Q := by
  have hR := hC.w
  have hw := way_rng x
  refine eX11_trySetServiceDays (f_placeOfWay ⟨fun c => h.e hC (sO_t (by omega)), fun c => ⟨by omega, h.v (R := up R (135 + wayF x) y) ?_ (FrT.u1 (by decide)) ?_⟩⟩)
  · rw [hC.rul.2 _ (by omega)]
    exact sO_f (by omega)
  · refine hC.grul (w_setServiceDays hR (by omega) (by omega)) (fun j q => up_n (by omega)) (fun k j _ _ q => by rw [ud_ne (by omega)]) ⟨fun r hr => ?_, fun w hw => ?_⟩
    · rw [ud_ne (by omega), ud_ne (by omega), up_n (by omega), up_n (by omega)]; exact hC.rul.1 r hr
    · by_cases c : w = wayF x
      · subst c; rw [ud_same, up_s]
      · rw [ud_ne (by omega), up_n (by omega)]; exact hC.rul.2 w hw
