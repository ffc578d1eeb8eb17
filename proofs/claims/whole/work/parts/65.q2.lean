-- answers, second part
theorem q_parties {R : rW} {g : mG} {d : mD} {Q : mQ} (hC : CI d R) (h : HQ (.inl (R 1)) d g Q) : MM mX11_parties [vR 0] g d Q := eX11_parties (h.a (by rw [hC.par.1]))
theorem m_parties {g : mG} {d : mD} {Q : mQ} (h : HN [] (.inl (d 66 1)) d g Q) : MM mX12_parties [vR 65] g d Q := eX12_parties (h.v rfl)
theorem q_today {R : rW} {g : mG} {d : mD} {Q : mQ} (hC : CI d R) (h : HQ (.inl (R 0)) d g Q) : MM mX11_today [vR 0] g d Q := eX11_today (h.a (by rw [hC.cal.1]))
theorem m_today {g : mG} {d : mD} {Q : mQ} (h : HN [] (.inl (d 66 0)) d g Q) : MM mX12_today [vR 65] g d Q := eX12_today (h.v rfl)
theorem q_deadlines {R : rW} {g : mG} {d : mD} {Q : mQ} (hC : CI d R) (h : HQ (.inl (R 3)) d g Q) : MM mX11_deadlines [vR 0] g d Q := eX11_deadlines (h.a (by rw [hC.dl.1]))
theorem m_deadlines {g : mG} {d : mD} {Q : mQ} (h : HN [] (.inl (d 66 3)) d g Q) : MM mX12_deadlines [vR 65] g d Q := eX12_deadlines (h.v rfl)
-- due
theorem dueN_rng {R : rW} {i : Int} : ∀ (n : Nat) (q x : Int), 0 ≤ x ∧ x ≤ 5000 → 0 ≤ dueN R i n q x ∧ dueN R i n q x ≤ 5000 := by
  intro n
  induction n with
  | zero => intro q x h; exact h
  | succ n ih =>
    intro q x h
    rw [dueN_s]
    by_cases c : x = 5000
    · rw [if_pos c]; exact h
    · rw [if_neg c]
      have := endF_rng (R := R) (p := R (139 + 16 * i)) (r := R (140 + 16 * i)) (f := x) (len := plenF R i q) (ic := bI (q = 0 ∧ R (143 + 16 * i) = 1)) (by omega)
      exact ih _ _ (by omega)
theorem dueF_rng {R : rW} (hR : RW R) {i : Int} (hi : 0 ≤ i ∧ i < R 3) : 0 ≤ dueF R i ∧ dueF R i ≤ 5000 :=
  dueN_rng _ _ _ (by have h1 := (hR.dl hi).2.2.1; have h2 := hR.n.1; omega)
theorem noD_1 {x : Int} (h : 0 ≤ x) : noD x = -1 ↔ x = 5000 := by unfold noD; split <;> omega
theorem noD_n {x : Int} (h : ¬ x = 5000) : noD x = x := if_neg h
noncomputable def r_due (R : rW) (x : Int) : mO := iO (0 ≤ x ∧ x < R 3) (iO (dueF R x = 5000) (.inr 4) (.inl (dueF R x))) (.inr 3)
theorem r_due_5 {R : rW} {x : Int} (h : 0 ≤ x ∧ x < R 3) (h2 : dueF R x = 5000) : r_due R x = .inr 4 := by unfold r_due; rw [iO_t h, iO_t h2]
theorem r_due_v {R : rW} {x : Int} (h : 0 ≤ x ∧ x < R 3) (h2 : ¬ dueF R x = 5000) : r_due R x = .inl (dueF R x) := by unfold r_due; rw [iO_t h, iO_f h2]
theorem q_due {x : Int} {R : rW} {g : mG} {d : mD} {Q : mQ} (hC : CI d R) (h : HQ (r_due R x) d g Q) : MM mX11_due [vR 0, vI x] g d Q := by
  have e := hC.dl.1
  exact eX11_due (R := R) ⟨fun c => ⟨hC, by omega, fun d' hf => ⟨fun c2 => h.s (FrS.w hf) (r_due_5 (by omega) c2), fun c2 => h.s (FrS.w hf) (r_due_v (by omega) c2)⟩⟩, fun c => h.a (iO_f (by omega))⟩
theorem q_dueByMarking {x : Int} {R : rW} {g : mG} {d : mD} {Q : mQ} (hC : CI d R) (h : HQ (r_due R x) d g Q) : MM mX11_dueByMarking [vR 0, vI x] g d Q := by
  have e := hC.dl.1
  exact eX11_dueByMarking (R := R) ⟨fun c => ⟨hC, by omega, fun d' hf => ⟨fun c2 => h.s (FrS.m hf) (r_due_5 (by omega) c2), fun c2 => h.s (FrS.m hf) (r_due_v (by omega) c2)⟩⟩, fun c => h.a (iO_f (by omega))⟩
theorem m_due {x : Int} {g : mG} {d : mD} {Q : mQ} (hR : RW (d 66)) (h : HN [3, 4] (r_due (d 66) x) d g Q) : MM mX12_due [vR 65, vI x] g d Q := by
  have h1 := hR.n.2.2.2.1
  refine eX12_due ⟨ik (by omega), fun c => h.e (iO_f (by omega)) rfl 0, fun c => ⟨hR, by omega, fun c2 => ?_, fun c2 => ?_⟩⟩
  · exact h.e (r_due_5 (by omega) ((noD_1 (dueF_rng hR (by omega)).1).1 c2)) rfl 0
  · have c3 : ¬ dueF (d 66) x = 5000 := fun q => c2 ((noD_1 (dueF_rng hR (by omega)).1).2 q)
    rw [show dueM (d 66) x = dueF (d 66) x from noD_n c3]
    exact h.v (r_due_v (by omega) c3)
theorem m_dueByMarking {x : Int} {g : mG} {d : mD} {Q : mQ} (hR : RW (d 66)) (h : HN [3, 4] (r_due (d 66) x) d g Q) : MM mX12_dueByMarking [vR 65, vI x] g d Q := by
  have h1 := hR.n.2.2.2.1
  refine eX12_dueByMarking ⟨ik (by omega), fun c => h.e (iO_f (by omega)) rfl 0, fun c => ⟨hR, by omega, fun c2 => ?_, fun c2 => ?_⟩⟩
  · exact h.e (r_due_5 (by omega) ((noD_1 (dueF_rng hR (by omega)).1).1 c2)) rfl 0
  · have c3 : ¬ dueF (d 66) x = 5000 := fun q => c2 ((noD_1 (dueF_rng hR (by omega)).1).2 q)
    rw [show dueM (d 66) x = dueF (d 66) x from noD_n c3]
    exact h.v (r_due_v (by omega) c3)
theorem ctF_rng {R : rW} (hR : RW R) {i : Int} (hi : 0 ≤ i ∧ i < R 3) : 0 ≤ ctF R i ∧ ctF R i ≤ 1500 := by
  have h1 := (hR.dl hi).2.2.1
  have h2 := hR.n.1
  have := wk_rng (R := R) (i := i) (R 0 - R (141 + 16 * i)).toNat (R (141 + 16 * i) + 1) 0 0
  unfold ctF
  omega
theorem leftF_rng {R : rW} (hR : RW R) {i : Int} (hi : 0 ≤ i ∧ i < R 3) : -1500 ≤ leftF R i ∧ leftF R i ≤ 1400 := by
  have h1 := ctF_rng hR hi
  have h2 := sumF_rng hR hi
  unfold leftF
  omega
noncomputable def r_left (R : rW) (x : Int) : mO := iO (0 ≤ x ∧ x < R 3) (.inl (leftF R x)) (.inr 3)
theorem q_daysLeft {x : Int} {R : rW} {g : mG} {d : mD} {Q : mQ} (hC : CI d R) (h : HQ (r_left R x) d g Q) : MM mX11_daysLeft [vR 0, vI x] g d Q := by
  have e := hC.dl.1
  refine eX11_daysLeft (R := R) ⟨fun c => ⟨hC, by omega, hC.cal.1, fun d' hf => ?_⟩, fun c => h.a (iO_f (by omega))⟩
  have h1 := ctF_rng hC.w (i := x) (by omega)
  have h2 := sumF_rng hC.w (i := x) (by omega)
  exact ⟨ik (by omega), h.s (FrS.w hf) (iO_t (by omega))⟩
theorem q_daysLeftByMarking {x : Int} {R : rW} {g : mG} {d : mD} {Q : mQ} (hC : CI d R) (h : HQ (r_left R x) d g Q) : MM mX11_daysLeftByMarking [vR 0, vI x] g d Q := by
  have e := hC.dl.1
  refine eX11_daysLeftByMarking (R := R) ⟨fun c => ⟨hC, by omega, hC.cal.1, fun d' hf => ?_⟩, fun c => h.a (iO_f (by omega))⟩
  have h1 := ctF_rng hC.w (i := x) (by omega)
  have h2 := sumF_rng hC.w (i := x) (by omega)
  exact ⟨ik (by omega), h.s (FrS.m hf) (iO_t (by omega))⟩
theorem m_daysLeft {x : Int} {g : mG} {d : mD} {Q : mQ} (hR : RW (d 66)) (h : HN [3] (r_left (d 66) x) d g Q) : MM mX12_daysLeft [vR 65, vI x] g d Q := by
  have h1 := hR.n.2.2.2.1
  exact eX12_daysLeft ⟨ik (by omega), fun c => h.e (iO_f (by omega)) rfl 0, fun c => ⟨hR, by omega, h.v (iO_t (by omega))⟩⟩
theorem m_daysLeftByMarking {x : Int} {g : mG} {d : mD} {Q : mQ} (hR : RW (d 66)) (h : HN [3] (r_left (d 66) x) d g Q) : MM mX12_daysLeftByMarking [vR 65, vI x] g d Q := by
  have h1 := hR.n.2.2.2.1
  exact eX12_daysLeftByMarking ⟨ik (by omega), fun c => h.e (iO_f (by omega)) rfl 0, fun c => ⟨hR, by omega, h.v (iO_t (by omega))⟩⟩
noncomputable def r_extensionDays (R : rW) (x : Int) : mO := iO (0 ≤ x ∧ x < R 3) (.inl (grF R x)) (.inr 3)
theorem q_extensionDays {x : Int} {R : rW} {g : mG} {d : mD} {Q : mQ} (hC : CI d R) (h : HQ (r_extensionDays R x) d g Q) : MM mX11_extensionDays [vR 0, vI x] g d Q := by
  have e := hC.dl.1
  have h1 := hC.w.n.2.2.2.1
  refine eX11_extensionDays ⟨fun c => ⟨by omega, h.a ?_⟩, fun c => h.a (iO_f (by omega))⟩
  have hd := hC.dl.2 x (by omega)
  unfold r_extensionDays
  rw [iO_t (by omega), hd.2.2.2.2.2.2.2.2.2.1]
theorem m_extensionDays {x : Int} {g : mG} {d : mD} {Q : mQ} (hR : RW (d 66)) (h : HN [3] (r_extensionDays (d 66) x) d g Q) : MM mX12_extensionDays [vR 65, vI x] g d Q := by
  have h1 := hR.n.2.2.2.1
  exact eX12_extensionDays ⟨ik (by omega), fun c => h.e (iO_f (by omega)) rfl 0, fun c => ⟨hR, by omega, h.v (iO_t (by omega))⟩⟩
noncomputable def r_status (R : rW) (x : Int) : mO := iO (0 ≤ x ∧ x < R 3) (.inl (R (145 + 16 * x))) (.inr 3)
theorem stOk_rng {v : Int} (h : stOk v) : 0 ≤ v ∧ v ≤ 127 := by unfold stOk at h; omega
theorem q_status {x : Int} {R : rW} {g : mG} {d : mD} {Q : mQ} (hC : CI d R) (h : HQ (r_status R x) d g Q) : MM mX11_status [vR 0, vI x] g d Q := by
  have e := hC.dl.1
  have h1 := hC.w.n.2.2.2.1
  refine eX11_status ⟨fun c => ?_, fun c => h.a (iO_f (by omega))⟩
  have hs := (hC.dl.2 x (by omega)).2.2.2.2.2.2.2.2.2.2
  have ho := stOk_rng (hC.w.dl (i := x) (by omega)).2.2.2.2.2.2.1
  rw [hs]
  exact ⟨by omega, by omega, h.a (iO_t (by omega))⟩
theorem m_status {x : Int} {g : mG} {d : mD} {Q : mQ} (hR : RW (d 66)) (h : HN [3] (r_status (d 66) x) d g Q) : MM mX12_status [vR 65, vI x] g d Q := by
  have h1 := hR.n.2.2.2.1
  refine eX12_status ⟨ik (by omega), fun c => h.e (iO_f (by omega)) rfl 0, fun c => ?_⟩
  have ho := stOk_rng (hR.dl (i := x) (by omega)).2.2.2.2.2.2.1
  rw [show d 66 (145 + 16 * x) % 65536 = d 66 (145 + 16 * x) by omega]
  exact ⟨by omega, by omega, h.v (iO_t (by omega))⟩
-- stops
noncomputable def r_isStopped (R : rW) (x y : Int) : mO := iO (0 ≤ x ∧ x < R 3) (iO (0 ≤ y ∧ y ≤ 4999) (.inl (bI (stopd R (R (139 + 16 * x)) (R (140 + 16 * x)) y))) (.inr 2)) (.inr 3)
theorem q_isStopped {x y : Int} {R : rW} {g : mG} {d : mD} {Q : mQ} (hC : CI d R) (h : HQ (r_isStopped R x y) d g Q) : MM mX11_isStopped [vR 0, vI x, vI y] g d Q := by
  have e := hC.dl.1
  refine eX11_isStopped (R := R) ⟨fun c => ⟨fun c2 => ⟨hC, by omega, by omega, by omega, fun d' hf => h.s (FrS.w hf) ?_⟩, fun c2 => h.a ?_⟩, fun c => h.a (iO_f (by omega))⟩
  · unfold r_isStopped
    rw [iO_t (by omega), iO_t (by omega), cn_one, bI_cg bI_1]
  · unfold r_isStopped
    rw [iO_t (by omega), iO_f (by omega)]
theorem m_isStopped {x y : Int} {g : mG} {d : mD} {Q : mQ} (hR : RW (d 66)) (h : HN [3, 2] (r_isStopped (d 66) x y) d g Q) : MM mX12_isStopped [vR 65, vI x, vI y] g d Q := by
  have h1 := hR.n.2.2.2.1
  refine eX12_isStopped ⟨ik (by omega), fun c => h.e (iO_f (by omega)) rfl 0, fun c => ⟨fun c2 => h.e (e := 2) ?_ rfl 0, fun c2 => ⟨by omega, hR, (hR.dl (by omega)).2.1, h.v ?_⟩⟩⟩
  · unfold r_isStopped
    rw [iO_t (by omega), iO_f (by omega)]
  · unfold r_isStopped
    rw [iO_t (by omega), iO_t (by omega)]
noncomputable def r_stopped (R : rW) (x y z : Int) : mO := iO (0 ≤ x ∧ x < R 3) (iO (0 ≤ y ∧ y ≤ z ∧ z ≤ 4999) (.inl (cn (stopd R (R (139 + 16 * x)) (R (140 + 16 * x))) y z)) (.inr 2)) (.inr 3)
theorem r_stopped_2 {R : rW} {x y z : Int} (h : 0 ≤ x ∧ x < R 3) (h2 : ¬ (0 ≤ y ∧ y ≤ z ∧ z ≤ 4999)) : r_stopped R x y z = .inr 2 := by unfold r_stopped; rw [iO_t h, iO_f h2]
theorem r_stopped_v {R : rW} {x y z : Int} (h : 0 ≤ x ∧ x < R 3) (h2 : 0 ≤ y ∧ y ≤ z ∧ z ≤ 4999) : r_stopped R x y z = .inl (cn (stopd R (R (139 + 16 * x)) (R (140 + 16 * x))) y z) := by unfold r_stopped; rw [iO_t h, iO_t h2]
theorem q_stoppedDays {x y z : Int} {R : rW} {g : mG} {d : mD} {Q : mQ} (hC : CI d R) (h : HQ (r_stopped R x y z) d g Q) : MM mX11_stoppedDays [vR 0, vI x, vI y, vI z] g d Q := by
  have e := hC.dl.1
  exact eX11_stoppedDays (R := R) ⟨fun c => ⟨fun c2 => h.a (r_stopped_2 (by omega) (by omega)), fun c2 => ⟨hC, by omega, by omega, by omega, fun d' hf => h.s (FrS.w hf) (r_stopped_v (by omega) (by omega))⟩⟩, fun c => h.a (iO_f (by omega))⟩
theorem q_stoppedDaysByMarking {x y z : Int} {R : rW} {g : mG} {d : mD} {Q : mQ} (hC : CI d R) (h : HQ (r_stopped R x y z) d g Q) : MM mX11_stoppedDaysByMarking [vR 0, vI x, vI y, vI z] g d Q := by
  have e := hC.dl.1
  exact eX11_stoppedDaysByMarking (R := R) ⟨fun c => ⟨fun c2 => h.a (r_stopped_2 (by omega) (by omega)), fun c2 => ⟨hC, by omega, by omega, by omega, fun d' hf => h.s (FrS.m hf) (r_stopped_v (by omega) (by omega))⟩⟩, fun c => h.a (iO_f (by omega))⟩
theorem l_stoppedDays {x y z : Int} {g : mG} {d : mD} {Q : mQ} (hR : RW (d 66)) (hx : 0 ≤ x ∧ x < d 66 3) (hz : z ≤ 4999) : ∀ (m : Nat) (acc a : Int), 0 ≤ a → a + m = z + 1 → 0 ≤ acc → acc ≤ a → Q (.inl (acc + cnN (stopd (d 66) (d 66 (139 + 16 * x)) (d 66 (140 + 16 * x))) m a)) g d → pX12_stoppedDays_1 x y z acc a g d Q := by
  have h1 := hR.n.2.2.2.1
  intro m
  induction m with
  | zero =>
    intro acc a ha hm q1 q2 h
    rw [show ∀ P, acc + cnN P 0 a = acc from fun _ => Int.add_zero _] at h
    exact aX12_stoppedDays_1 ⟨fun _ => h, fun c => absurd (by omega) c⟩
  | succ m ih =>
    intro acc a ha hm q1 q2 h
    rw [show ∀ P, acc + cnN P (m + 1) a = acc + bI (P a) + cnN P m (a + 1) from fun P => (Int.add_assoc _ _ _).symm] at h
    have hr := @bI_rng (stopd (d 66) (d 66 (139 + 16 * x)) (d 66 (140 + 16 * x)) a)
    exact aX12_stoppedDays_1 ⟨fun c => absurd c (by omega), fun c => ⟨by omega, hR, (hR.dl hx).2.1, ik (by omega), ik (by omega), ih _ (a + 1) (by omega) (by omega) (by omega) (by omega) h⟩⟩
theorem m_stoppedDays {x y z : Int} {g : mG} {d : mD} {Q : mQ} (hR : RW (d 66)) (h : HN [3, 2] (r_stopped (d 66) x y z) d g Q) : MM mX12_stoppedDays [vR 65, vI x, vI y, vI z] g d Q := by
  have h1 := hR.n.2.2.2.1
  refine eX12_stoppedDays ⟨ik (by omega), fun c => h.e (iO_f (by omega)) rfl 0, fun c => ⟨fun c2 => h.e (r_stopped_2 (by omega) (by omega)) rfl 0, fun c2 => ?_⟩⟩
  refine l_stoppedDays (by rw [r66]; exact hR) (by rw [r66]; omega) (by omega) (z + 1 - y).toNat 0 y (by omega) (by omega) (by omega) (by omega) ?_
  rw [r66, Int.zero_add]
  refine h.v ?_
  rw [r_stopped_v (by omega) (by omega)]
  unfold cn
  rw [show z - y + 1 = z + 1 - y by omega]
theorem m_stoppedDaysByMarking {x y z : Int} {g : mG} {d : mD} {Q : mQ} (hR : RW (d 66)) (h : HN [3, 2] (r_stopped (d 66) x y z) d g Q) : MM mX12_stoppedDaysByMarking [vR 65, vI x, vI y, vI z] g d Q :=
  eX12_stoppedDaysByMarking (m_stoppedDays hR (fun v d' h1 h2 h3 => h v d' h1 h2 h3))
noncomputable def r_staysInForce (R : rW) : mO := .inl (cn (fun k => R (622 + 4 * k) = -1) 0 (R 4 - 1))
theorem q_staysInForce {R : rW} {g : mG} {d : mD} {Q : mQ} (hC : CI d R) (h : HQ (r_staysInForce R) d g Q) : MM mX11_staysInForce [vR 0] g d Q := by
  have e := hC.st.1
  have h1 := hC.w.n
  refine eX11_staysInForce ⟨by rw [e]; exact h1.2.2.2.2.1, h.a ?_⟩
  unfold r_staysInForce nuF
  rw [e]
  refine congrArg Sum.inl (cn_cg fun k q1 q2 => ?_)
  have hs := (hC.w.s.1 k (by omega)).2.2.2
  have h0 := h1.1
  rw [(hC.st.2 k (by omega)).2.2.2]
  unfold lastD
  split <;> omega
theorem l_staysInForce {g : mG} {d : mD} {Q : mQ} (hR : RW (d 66)) : ∀ (m : Nat) (acc k : Int), 0 ≤ k → k + m = d 66 4 → 0 ≤ acc → acc ≤ k → Q (.inl (acc + cnN (fun k => d 66 (622 + 4 * k) = -1) m k)) g d → pX12_staysInForce_1 acc k g d Q := by
  have h1 := hR.n.2.2.2.2.1
  intro m
  induction m with
  | zero =>
    intro acc a ha hm q1 q2 h
    rw [show ∀ P, acc + cnN P 0 a = acc from fun _ => Int.add_zero _] at h
    exact aX12_staysInForce_1 ⟨fun _ => h, fun c => absurd (by omega) c⟩
  | succ m ih =>
    intro acc a ha hm q1 q2 h
    rw [show ∀ P, acc + cnN P (m + 1) a = acc + bI (P a) + cnN P m (a + 1) from fun P => (Int.add_assoc _ _ _).symm] at h
    have hr := @bI_rng (d 66 (622 + 4 * a) = -1)
    exact aX12_staysInForce_1 ⟨fun c => absurd c (by omega), fun c => ⟨ik (by omega), ik (by omega), ik (by omega), by omega, ik (by omega), ik (by omega), ih _ (a + 1) (by omega) (by omega) (by omega) (by omega) h⟩⟩
theorem m_staysInForce {g : mG} {d : mD} {Q : mQ} (hR : RW (d 66)) (h : HN [] (r_staysInForce (d 66)) d g Q) : MM mX12_staysInForce [vR 65] g d Q := by
  have h1 := hR.n.2.2.2.2.1
  refine eX12_staysInForce (l_staysInForce (by rw [r66]; exact hR) (d 66 4).toNat 0 0 (by omega) (by rw [r66]; omega) (by omega) (by omega) ?_)
  rw [r66, Int.zero_add]
  refine h.v ?_
  unfold r_staysInForce cn
  rw [show d 66 4 - 1 - 0 + 1 = d 66 4 by omega]
-- conduct
noncomputable def r_same (R : rW) (x y : Int) : mO := iO ((0 ≤ x ∧ x < R 5) ∧ (0 ≤ y ∧ y < R 5)) (.inl (bI (conn R x y))) (.inr 3)
theorem q_sameConduct {x y : Int} {R : rW} {g : mG} {d : mD} {Q : mQ} (hC : CI d R) (h : HQ (r_same R x y) d g Q) : MM mX11_sameConduct [vR 0, vI x, vI y] g d Q := by
  have e := hC.oc.1
  have h1 := hC.w.n.2.2.2.2.2.1
  refine eX11_sameConduct ⟨fun c => ⟨fun c2 => ⟨by omega, by omega, h.a ?_⟩, fun c2 => h.a (iO_f (by omega))⟩, fun c => h.a (iO_f (by omega))⟩
  unfold r_same
  rw [iO_t (by omega), bI_cg (hC.oc.2.2.2 x y (by omega) (by omega))]
theorem q_sameConductBySearch {x y : Int} {R : rW} {g : mG} {d : mD} {Q : mQ} (hC : CI d R) (h : HQ (r_same R x y) d g Q) : MM mX11_sameConductBySearch [vR 0, vI x, vI y] g d Q := by
  have e := hC.oc.1
  exact eX11_sameConductBySearch (R := R) ⟨fun c => ⟨fun c2 => ⟨hC, by omega, by omega, h.a (iO_t (by omega))⟩, fun c2 => h.a (iO_f (by omega))⟩, fun c => h.a (iO_f (by omega))⟩
theorem m_sameConduct {x y : Int} {g : mG} {d : mD} {Q : mQ} (hR : RW (d 66)) (h : HN [3] (r_same (d 66) x y) d g Q) : MM mX12_sameConduct [vR 65, vI x, vI y] g d Q := by
  have h1 := hR.n.2.2.2.2.2.1
  refine eX12_sameConduct ⟨ik (by omega), fun c => h.e (iO_f (by omega)) rfl 0, fun c => ⟨hR, by omega, condF_nn hR (by omega), by omega, h.v ?_⟩⟩
  unfold r_same
  rw [iO_t (by omega), ← bI_cg (condF_conn hR (by omega) (by omega))]
  rfl
theorem m_sameConductBySearch {x y : Int} {g : mG} {d : mD} {Q : mQ} (hR : RW (d 66)) (h : HN [3] (r_same (d 66) x y) d g Q) : MM mX12_sameConductBySearch [vR 65, vI x, vI y] g d Q := by
  have h1 := hR.n.2.2.2.2.2.1
  refine eX12_sameConductBySearch ⟨ik (by omega), fun c => h.e (iO_f (by omega)) rfl 0, fun c => ⟨hR, by omega, condF_nn hR (by omega), by omega, h.v ?_⟩⟩
  unfold r_same
  rw [iO_t (by omega), ← bI_cg (condF_conn hR (by omega) (by omega))]
  rfl
