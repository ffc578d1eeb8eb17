-- answers, second part
theorem q_today {R : rW} {g : mG} {d : mD} {Q : mQ} (hC : CI d R) (h : HQ (.inl (R 0)) d g Q) : MM mX11_today [vR 0] g d Q := eX11_today (h.a (by rw [hC.cal.1]))
theorem q_deadlines {R : rW} {g : mG} {d : mD} {Q : mQ} (hC : CI d R) (h : HQ (.inl (R 3)) d g Q) : MM mX11_deadlines [vR 0] g d Q := eX11_deadlines (h.a (by rw [hC.dl.1]))
-- due
theorem dueN_rng {R : rW} {i : Int} : ∀ (n : Nat) (q x : Int), 0 ≤ x ∧ x ≤ 5000 → 0 ≤ dueN R i n q x ∧ dueN R i n q x ≤ 5000 := by
  intro n
  induction n with
  | zero => intro q x h; exact h
  | succ n ih =>
    intro q x h
    rw [dueN_s]
    by_cases c : x = 5000
    · rw [if_pos c]; exact h
    · rw [if_neg c]
      have := endF_rng (R := R) (p := R (139 + 16 * i)) (r := R (140 + 16 * i)) (f := x) (len := plenF R i q) (ic := bI (q = 0 ∧ R (143 + 16 * i) = 1)) (by omega)
      exact ih _ _ (by omega)
theorem dueF_rng {R : rW} (hR : RW R) {i : Int} (hi : 0 ≤ i ∧ i < R 3) : 0 ≤ dueF R i ∧ dueF R i ≤ 5000 :=
  dueN_rng _ _ _ (by have h1 := (hR.dl hi).2.2.1; have h2 := hR.n.1; omega)
theorem noD_1 {x : Int} (h : 0 ≤ x) : noD x = -1 ↔ x = 5000 := by unfold noD; split <;> omega
theorem noD_n {x : Int} (h : ¬ x = 5000) : noD x = x := if_neg h
noncomputable def r_due (R : rW) (x : Int) : mO := iO (0 ≤ x ∧ x < R 3) (iO (dueF R x = 5000) (.inr 4) (.inl (dueF R x))) (.inr 3)
theorem r_due_5 {R : rW} {x : Int} (h : 0 ≤ x ∧ x < R 3) (h2 : dueF R x = 5000) : r_due R x = .inr 4 := by unfold r_due; rw [iO_t h, iO_t h2]
theorem r_due_v {R : rW} {x : Int} (h : 0 ≤ x ∧ x < R 3) (h2 : ¬ dueF R x = 5000) : r_due R x = .inl (dueF R x) := by unfold r_due; rw [iO_t h, iO_f h2]
theorem q_due {x : Int} {R : rW} {g : mG} {d : mD} {Q : mQ} (hC : CI d R) (h : HQ (r_due R x) d g Q) : MM mX11_due [vR 0, vI x] g d Q := by
  have e := hC.dl.1
  exact eX11_due (R := R) ⟨fun c => ⟨hC, by omega, fun d' hf => ⟨fun c2 => h.s (FrS.w hf) (r_due_5 (by omega) c2), fun c2 => h.s (FrS.w hf) (r_due_v (by omega) c2)⟩⟩, fun c => h.a (iO_f (by omega))⟩
theorem q_dueByMarking {x : Int} {R : rW} {g : mG} {d : mD} {Q : mQ} (hC : CI d R) (h : HQ (r_due R x) d g Q) : MM mX11_dueByMarking [vR 0, vI x] g d Q := by
  have e := hC.dl.1
  exact eX11_dueByMarking (R := R) ⟨fun c => ⟨hC, by omega, fun d' hf => ⟨fun c2 => h.s (FrS.m hf) (r_due_5 (by omega) c2), fun c2 => h.s (FrS.m hf) (r_due_v (by omega) c2)⟩⟩, fun c => h.a (iO_f (by omega))⟩
theorem ctF_rng {R : rW} (hR : RW R) {i : Int} (hi : 0 ≤ i ∧ i < R 3) : 0 ≤ ctF R i ∧ ctF R i ≤ 1500 := by
  have h1 := (hR.dl hi).2.2.1
  have h2 := hR.n.1
  have := wk_rng (R := R) (i := i) (R 0 - R (141 + 16 * i)).toNat (R (141 + 16 * i) + 1) 0 0
  unfold ctF
  omega
theorem leftF_rng {R : rW} (hR : RW R) {i : Int} (hi : 0 ≤ i ∧ i < R 3) : -1500 ≤ leftF R i ∧ leftF R i ≤ 1400 := by
  have h1 := ctF_rng hR hi
  have h2 := sumF_rng hR hi
  unfold leftF
  omega
noncomputable def r_left (R : rW) (x : Int) : mO := iO (0 ≤ x ∧ x < R 3) (.inl (leftF R x)) (.inr 3)
theorem q_daysLeft {x : Int} {R : rW} {g : mG} {d : mD} {Q : mQ} (hC : CI d R) (h : HQ (r_left R x) d g Q) : MM mX11_daysLeft [vR 0, vI x] g d Q := by
  have e := hC.dl.1
  refine eX11_daysLeft (R := R) ⟨fun c => ⟨hC, by omega, hC.cal.1, fun d' hf => ?_⟩, fun c => h.a (iO_f (by omega))⟩
  have h1 := ctF_rng hC.w (i := x) (by omega)
  have h2 := sumF_rng hC.w (i := x) (by omega)
  exact ⟨ik (by omega), h.s (FrS.w hf) (iO_t (by omega))⟩
theorem q_daysLeftByMarking {x : Int} {R : rW} {g : mG} {d : mD} {Q : mQ} (hC : CI d R) (h : HQ (r_left R x) d g Q) : MM mX11_daysLeftByMarking [vR 0, vI x] g d Q := by
  have e := hC.dl.1
  refine eX11_daysLeftByMarking (R := R) ⟨fun c => ⟨hC, by omega, hC.cal.1, fun d' hf => ?_⟩, fun c => h.a (iO_f (by omega))⟩
  have h1 := ctF_rng hC.w (i := x) (by omega)
  have h2 := sumF_rng hC.w (i := x) (by omega)
  exact ⟨ik (by omega), h.s (FrS.m hf) (iO_t (by omega))⟩
noncomputable def r_extensionDays (R : rW) (x : Int) : mO := iO (0 ≤ x ∧ x < R 3) (.inl (grF R x)) (.inr 3)
noncomputable def r_status (R : rW) (x : Int) : mO := iO (0 ≤ x ∧ x < R 3) (.inl (R (145 + 16 * x))) (.inr 3)
theorem stOk_rng {v : Int} (h : stOk v) : 0 ≤ v ∧ v ≤ 127 := by unfold stOk at h; omega
theorem q_status {x : Int} {R : rW} {g : mG} {d : mD} {Q : mQ} (hC : CI d R) (h : HQ (r_status R x) d g Q) : MM mX11_status [vR 0, vI x] g d Q := by
  have e := hC.dl.1
  have h1 := hC.w.n.2.2.2.1
  refine eX11_status ⟨fun c => ?_, fun c => h.a (iO_f (by omega))⟩
  have hs := (hC.dl.2 x (by omega)).2.2.2.2.2.2.2.2.2.2
  have ho := stOk_rng (hC.w.dl (i := x) (by omega)).2.2.2.2.2.2.1
  rw [hs]
  exact ⟨by omega, by omega, h.a (iO_t (by omega))⟩
-- stops
noncomputable def r_isStopped (R : rW) (x y : Int) : mO := iO (0 ≤ x ∧ x < R 3) (iO (0 ≤ y ∧ y ≤ 4999) (.inl (bI (stopd R (R (139 + 16 * x)) (R (140 + 16 * x)) y))) (.inr 2)) (.inr 3)
theorem q_isStopped {x y : Int} {R : rW} {g : mG} {d : mD} {Q : mQ} (hC : CI d R) (h : HQ (r_isStopped R x y) d g Q) : MM mX11_isStopped [vR 0, vI x, vI y] g d Q := by
  have e := hC.dl.1
  refine eX11_isStopped (R := R) ⟨fun c => ⟨fun c2 => ⟨hC, by omega, by omega, by omega, fun d' hf => h.s (FrS.w hf) ?_⟩, fun c2 => h.a ?_⟩, fun c => h.a (iO_f (by omega))⟩
  · unfold r_isStopped
    rw [iO_t (by omega), iO_t (by omega), cn_one, bI_cg bI_1]
  · unfold r_isStopped
    rw [iO_t (by omega), iO_f (by omega)]
noncomputable def r_stopped (R : rW) (x y z : Int) : mO := iO (0 ≤ x ∧ x < R 3) (iO (0 ≤ y ∧ y ≤ z ∧ z ≤ 4999) (.inl (cn (stopd R (R (139 + 16 * x)) (R (140 + 16 * x))) y z)) (.inr 2)) (.inr 3)
theorem r_stopped_2 {R : rW} {x y z : Int} (h : 0 ≤ x ∧ x < R 3) (h2 : ¬ (0 ≤ y ∧ y ≤ z ∧ z ≤ 4999)) : r_stopped R x y z = .inr 2 := by unfold r_stopped; rw [iO_t h, iO_f h2]
theorem r_stopped_v {R : rW} {x y z : Int} (h : 0 ≤ x ∧ x < R 3) (h2 : 0 ≤ y ∧ y ≤ z ∧ z ≤ 4999) : r_stopped R x y z = .inl (cn (stopd R (R (139 + 16 * x)) (R (140 + 16 * x))) y z) := by unfold r_stopped; rw [iO_t h, iO_t h2]
theorem q_stoppedDays {x y z : Int} {R : rW} {g : mG} {d : mD} {Q : mQ} (hC : CI d R) (h : HQ (r_stopped R x y z) d g Q) : MM mX11_stoppedDays [vR 0, vI x, vI y, vI z] g d Q := by
  have e := hC.dl.1
  exact eX11_stoppedDays (R := R) ⟨fun c => ⟨fun c2 => h.a (r_stopped_2 (by omega) (by omega)), fun c2 => ⟨hC, by omega, by omega, by omega, fun d' hf => h.s (FrS.w hf) (r_stopped_v (by omega) (by omega))⟩⟩, fun c => h.a (iO_f (by omega))⟩
theorem q_stoppedDaysByMarking {x y z : Int} {R : rW} {g : mG} {d : mD} {Q : mQ} (hC : CI d R) (h : HQ (r_stopped R x y z) d g Q) : MM mX11_stoppedDaysByMarking [vR 0, vI x, vI y, vI z] g d Q := by
  have e := hC.dl.1
  exact eX11_stoppedDaysByMarking (R := R) ⟨fun c => ⟨fun c2 => h.a (r_stopped_2 (by omega) (by omega)), fun c2 => ⟨hC, by omega, by omega, by omega, fun d' hf => h.s (FrS.m hf) (r_stopped_v (by omega) (by omega))⟩⟩, fun c => h.a (iO_f (by omega))⟩
noncomputable def r_staysInForce (R : rW) : mO := .inl (cn (fun k => R (622 + 4 * k) = -1) 0 (R 4 - 1))
theorem q_staysInForce {R : rW} {g : mG} {d : mD} {Q : mQ} (hC : CI d R) (h : HQ (r_staysInForce R) d g Q) : MM mX11_staysInForce [vR 0] g d Q := by
  have e := hC.st.1
  have h1 := hC.w.n
  refine eX11_staysInForce ⟨by rw [e]; exact h1.2.2.2.2.1, h.a ?_⟩
  unfold r_staysInForce nuF
  rw [e]
  refine congrArg Sum.inl (cn_cg fun k q1 q2 => ?_)
  have hs := (hC.w.s.1 k (by omega)).2.2.2
  have h0 := h1.1
  rw [(hC.st.2 k (by omega)).2.2.2]
  unfold lastD
  split <;> omega
-- conduct
noncomputable def r_same (R : rW) (x y : Int) : mO := iO ((0 ≤ x ∧ x < R 5) ∧ (0 ≤ y ∧ y < R 5)) (.inl (bI (conn R x y))) (.inr 3)
theorem q_sameConduct {x y : Int} {R : rW} {g : mG} {d : mD} {Q : mQ} (hC : CI d R) (h : HQ (r_same R x y) d g Q) : MM mX11_sameConduct [vR 0, vI x, vI y] g d Q := by
  have e := hC.oc.1
  have h1 := hC.w.n.2.2.2.2.2.1
  refine eX11_sameConduct ⟨fun c => ⟨fun c2 => ⟨by omega, by omega, h.a ?_⟩, fun c2 => h.a (iO_f (by omega))⟩, fun c => h.a (iO_f (by omega))⟩
  unfold r_same
  rw [iO_t (by omega), bI_cg (hC.oc.2.2.2 x y (by omega) (by omega))]
theorem q_sameConductBySearch {x y : Int} {R : rW} {g : mG} {d : mD} {Q : mQ} (hC : CI d R) (h : HQ (r_same R x y) d g Q) : MM mX11_sameConductBySearch [vR 0, vI x, vI y] g d Q := by
  have e := hC.oc.1
  exact eX11_sameConductBySearch (R := R) ⟨fun c => ⟨fun c2 => ⟨hC, by omega, by omega, h.a (iO_t (by omega))⟩, fun c2 => h.a (iO_f (by omega))⟩, fun c => h.a (iO_f (by omega))⟩
