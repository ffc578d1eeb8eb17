-- answers, both sides
noncomputable def iO (p : Prop) (a b : mO) : mO := @ite mO p (Classical.propDecidable p) a b
theorem iO_t {p : Prop} {a b : mO} (h : p) : iO p a b = a := if_pos h
theorem iO_f {p : Prop} {a b : mO} (h : ¬ p) : iO p a b = b := if_neg h
def FrS (d d' : mD) : Prop := ∀ b j : Int, b ≠ 5 → ¬ (53 ≤ b ∧ b ≤ 59) → d' b j = d b j
def FrN (d d' : mD) : Prop := ∀ b j : Int, ¬ (b = 65 ∧ j = 5) → b ≠ 73 → d' b j = d b j
theorem FrS.rf {d : mD} : FrS d d := fun _ _ _ _ => rfl
theorem FrS.w {d d' : mD} (h : FrW d d') : FrS d d' := fun b j h1 h2 => h (by omega)
theorem FrS.m {d d' : mD} (h : FrM d d') : FrS d d' := fun b j h1 h2 => h (by omega)
theorem FrS.tr {d d' d'' : mD} (h : FrS d d') (h2 : FrS d' d'') : FrS d d'' := fun b j q1 q2 => (h2 b j q1 q2).trans (h b j q1 q2)
theorem CI.frS {d d' : mD} {R : rW} (h : CI d R) (hf : FrS d d') : CI d' R := h.fr (fun b j h1 h2 => hf b j (by omega) (by omega))
def ix (e : Nat) : List Nat → Int
  | [] => 1
  | x :: l => if x = e then 1 else ix e l + 1
def kx (l : List Nat) : mO → Int
  | .inl _ => 0
  | .inr e => ix e l
def HQ (r : mO) (d : mD) (g : mG) (Q : mQ) : Prop := ∀ d', FrS d d' → Q r g d'
def HN (l : List Nat) (r : mO) (d : mD) (g : mG) (Q : mQ) : Prop := ∀ (v : Int) (d' : mD), FrN d d' → d' 65 5 = kx l r → (∀ w, r = .inl w → v = w) → Q (.inl v) g d'
theorem HQ.a {r o : mO} {d : mD} {g : mG} {Q : mQ} (h : HQ r d g Q) (e : r = o) : Q o g d := e ▸ h d FrS.rf
theorem HQ.s {r o : mO} {d d' : mD} {g : mG} {Q : mQ} (h : HQ r d g Q) (hf : FrS d d') (e : r = o) : Q o g d' := e ▸ h d' hf
theorem HN.e {l : List Nat} {r : mO} {d : mD} {g : mG} {Q : mQ} (h : HN l r d g Q) {e : Nat} {k : Int} (hr : r = .inr e) (hk : ix e l = k) (v : Int) : Q (.inl v) g (ud (ud d 65 5 0) 65 5 k) := by
  refine h v _ (fun b j q1 q2 => ?_) ?_ (fun w hw => ?_)
  · rw [ud_ne (by omega), ud_ne (by omega)]
  · rw [ud_same, hr]; exact hk.symm
  · rw [hr] at hw; cases hw
theorem HN.v {l : List Nat} {r : mO} {d : mD} {g : mG} {Q : mQ} (h : HN l r d g Q) {w : Int} (hr : r = .inl w) : Q (.inl w) g (ud d 65 5 0) := by
  refine h w _ (fun b j q1 q2 => ?_) ?_ (fun w' hw => ?_)
  · rw [ud_ne (by omega)]
  · rw [ud_same, hr]; rfl
  · rw [hr] at hw; cases hw; rfl
theorem r66 {d : mD} : (ud d 65 5 0) 66 = d 66 := ud_row (by decide)
-- parties
noncomputable def r_nameLength (R : rW) (x : Int) : mO := iO (0 ≤ x ∧ x < R 1) (.inl (R (7 + 9 * x))) (.inr 3)
theorem q_nameLength {x : Int} {R : rW} {g : mG} {d : mD} {Q : mQ} (hC : CI d R) (h : HQ (r_nameLength R x) d g Q) : MM mX11_nameLength [vR 0, vI x] g d Q := by
  have h1 := hC.w.n.2.1
  have e := hC.par.1
  refine eX11_nameLength ⟨fun c => ⟨by omega, h.a ?_⟩, fun c => h.a ?_⟩
  · unfold r_nameLength
    rw [iO_t (by omega), (hC.par.2 x (by omega)).1]
  · exact iO_f (by omega)
theorem m_nameLength {x : Int} {g : mG} {d : mD} {Q : mQ} (hR : RW (d 66)) (h : HN [3] (r_nameLength (d 66) x) d g Q) : MM mX12_nameLength [vR 65, vI x] g d Q := by
  have h1 := hR.n.2.1
  refine eX12_nameLength ⟨ik (by omega), fun c => h.e (iO_f (by omega)) rfl 0, fun c => ⟨ik (by omega), ik (by omega), by omega, h.v (iO_t (by omega))⟩⟩
noncomputable def r_nameCodePoint (R : rW) (x y : Int) : mO := iO (0 ≤ x ∧ x < R 1) (iO (0 ≤ y ∧ y < R (7 + 9 * x)) (.inl (R (8 + 9 * x + y))) (.inr 3)) (.inr 3)
theorem q_nameCodePoint {x y : Int} {R : rW} {g : mG} {d : mD} {Q : mQ} (hC : CI d R) (h : HQ (r_nameCodePoint R x y) d g Q) : MM mX11_nameCodePoint [vR 0, vI x, vI y] g d Q := by
  have h1 := hC.w.n.2.1
  have e := hC.par.1
  refine eX11_nameCodePoint ⟨fun c => ⟨fun _ => by omega, ?_⟩, fun c => h.a (iO_f (by omega))⟩
  have hp := hC.w.p x (by omega)
  obtain ⟨e2, e3⟩ := hC.par.2 x (by omega)
  refine ⟨fun c2 => h.a ?_, fun c2 => ⟨ik (by omega), ik (by omega), by omega, h.a ?_⟩⟩
  · unfold r_nameCodePoint
    rw [iO_t (by omega), iO_f (by omega)]
  · unfold r_nameCodePoint
    rw [iO_t (by omega), iO_t (by omega), e3 y (by omega)]
theorem m_nameCodePoint {x y : Int} {g : mG} {d : mD} {Q : mQ} (hR : RW (d 66)) (h : HN [3] (r_nameCodePoint (d 66) x y) d g Q) : MM mX12_nameCodePoint [vR 65, vI x, vI y] g d Q := by
  have h1 := hR.n.2.1
  refine eX12_nameCodePoint ⟨ik (by omega), fun c => h.e (iO_f (by omega)) rfl 0, fun c => ?_⟩
  have hp := hR.p x (by omega)
  refine ⟨ik (by omega), ik (by omega), by omega, ik (by omega), fun c2 => h.e (e := 3) ?_ rfl 0, fun c2 => ⟨ik (by omega), ik (by omega), by omega, h.v ?_⟩⟩
  · unfold r_nameCodePoint
    rw [iO_t (by omega), iO_f (by omega)]
  · unfold r_nameCodePoint
    rw [iO_t (by omega), iO_t (by omega)]
-- calendar
noncomputable def r_weekday (x : Int) : mO := iO (0 ≤ x ∧ x ≤ 4999) (.inl (x % 7)) (.inr 2)
theorem q_weekday {x : Int} {g : mG} {d : mD} {Q : mQ} (h : HQ (r_weekday x) d g Q) : MM mX11_weekday [vR 0, vI x] g d Q :=
  eX11_weekday ⟨fun c => ⟨by omega, h.a (iO_t (by omega))⟩, fun c => h.a (iO_f (by omega))⟩
theorem m_weekday {x : Int} {g : mG} {d : mD} {Q : mQ} (h : HN [2] (r_weekday x) d g Q) : MM mX12_weekday [vR 65, vI x] g d Q :=
  eX12_weekday ⟨fun c => h.e (iO_f (by omega)) rfl 0, fun c => ⟨by omega, h.v (iO_t (by omega))⟩⟩
noncomputable def r_isCourtDay (R : rW) (x : Int) : mO := iO (0 ≤ x ∧ x ≤ 4999) (.inl (bI (court R x))) (.inr 2)
theorem q_isCourtDay {x : Int} {R : rW} {g : mG} {d : mD} {Q : mQ} (hC : CI d R) (h : HQ (r_isCourtDay R x) d g Q) : MM mX11_isCourtDay [vR 0, vI x] g d Q :=
  eX11_isCourtDay (R := R) ⟨fun c => ⟨hC, by omega, h.a (iO_t (by omega))⟩, fun c => h.a (iO_f (by omega))⟩
theorem m_isCourtDay {x : Int} {g : mG} {d : mD} {Q : mQ} (hR : RW (d 66)) (h : HN [2] (r_isCourtDay (d 66) x) d g Q) : MM mX12_isCourtDay [vR 65, vI x] g d Q :=
  eX12_isCourtDay ⟨fun c => h.e (iO_f (by omega)) rfl 0, fun c => ⟨hR, by omega, h.v (iO_t (by omega))⟩⟩
noncomputable def r_courtDays (R : rW) (x y : Int) : mO := iO (0 ≤ x ∧ x ≤ y ∧ y ≤ 4999) (.inl (cn (court R) x y)) (.inr 2)
theorem q_courtDays {x y : Int} {R : rW} {g : mG} {d : mD} {Q : mQ} (hC : CI d R) (h : HQ (r_courtDays R x y) d g Q) : MM mX11_courtDays [vR 0, vI x, vI y] g d Q :=
  eX11_courtDays (R := R) ⟨fun c => h.a (iO_f (by omega)), fun c => ⟨hC, by omega, by omega, h.a (iO_t (by omega))⟩⟩
theorem q_courtDaysByMarking {x y : Int} {R : rW} {g : mG} {d : mD} {Q : mQ} (hC : CI d R) (h : HQ (r_courtDays R x y) d g Q) : MM mX11_courtDaysByMarking [vR 0, vI x, vI y] g d Q :=
  eX11_courtDaysByMarking (R := R) ⟨fun c => h.a (iO_f (by omega)), fun c => ⟨hC, by omega, by omega, fun d' hf => h.s (FrS.m hf) (iO_t (by omega))⟩⟩
theorem l_courtDays {a b : Int} {g : mG} {d : mD} {Q : mQ} (hR : RW (d 66)) (hb : b ≤ 4999) : ∀ (m : Nat) (acc x : Int), 0 ≤ x → x + m = b + 1 → 0 ≤ acc → acc ≤ x → Q (.inl (acc + cnN (court (d 66)) m x)) g d → pX12_courtDays_1 a b acc x g d Q := by
  intro m
  induction m with
  | zero =>
    intro acc x hx hm ha ha2 h
    rw [show acc + cnN (court (d 66)) 0 x = acc from Int.add_zero _] at h
    exact aX12_courtDays_1 ⟨fun _ => h, fun c => absurd (by omega) c⟩
  | succ m ih =>
    intro acc x hx hm ha ha2 h
    rw [show acc + cnN (court (d 66)) (m + 1) x = acc + bI (court (d 66) x) + cnN (court (d 66)) m (x + 1) from (Int.add_assoc _ _ _).symm] at h
    have hr := @bI_rng (court (d 66) x)
    exact aX12_courtDays_1 ⟨fun c => absurd c (by omega), fun c => ⟨hR, hx, ik (by omega), ik (by omega), ih _ (x + 1) (by omega) (by omega) (by omega) (by omega) h⟩⟩
theorem m_courtDays {x y : Int} {g : mG} {d : mD} {Q : mQ} (hR : RW (d 66)) (h : HN [2] (r_courtDays (d 66) x y) d g Q) : MM mX12_courtDays [vR 65, vI x, vI y] g d Q := by
  refine eX12_courtDays ⟨fun c => h.e (iO_f (by omega)) rfl 0, fun c => ?_⟩
  refine l_courtDays (by rw [r66]; exact hR) (by omega) (y + 1 - x).toNat 0 x (by omega) (by omega) (by omega) (by omega) ?_
  rw [r66, Int.zero_add]
  refine h.v ?_
  unfold r_courtDays
  rw [iO_t (by omega)]
  unfold cn
  rw [show y - x + 1 = y + 1 - x by omega]
theorem m_courtDaysByMarking {x y : Int} {g : mG} {d : mD} {Q : mQ} (hR : RW (d 66)) (h : HN [2] (r_courtDays (d 66) x y) d g Q) : MM mX12_courtDaysByMarking [vR 65, vI x, vI y] g d Q :=
  eX12_courtDaysByMarking (m_courtDays hR (fun v d' h1 h2 h3 => h v d' h1 h2 h3))
-- rules
noncomputable def r_ruleLength (R : rW) (x : Int) : mO := iO (0 ≤ x ∧ x < 8) (.inl (R (119 + 2 * x))) (.inr 3)
theorem q_ruleLength {x : Int} {R : rW} {g : mG} {d : mD} {Q : mQ} (hC : CI d R) (h : HQ (r_ruleLength R x) d g Q) : MM mX11_ruleLength [vR 0, vI x] g d Q :=
  eX11_ruleLength ⟨fun c => ⟨by omega, h.a (by unfold r_ruleLength; rw [iO_t (by omega), (hC.rul.1 x (by omega)).1])⟩, fun c => h.a (iO_f (by omega))⟩
theorem m_ruleLength {x : Int} {g : mG} {d : mD} {Q : mQ} (h : HN [3] (r_ruleLength (d 66) x) d g Q) : MM mX12_ruleLength [vR 65, vI x] g d Q :=
  eX12_ruleLength ⟨fun c => h.e (iO_f (by omega)) rfl 0, fun c => ⟨ik (by omega), ik (by omega), by omega, h.v (iO_t (by omega))⟩⟩
noncomputable def r_countsCourtDays (R : rW) (x : Int) : mO := iO (0 ≤ x ∧ x < 8) (.inl (R (120 + 2 * x))) (.inr 3)
theorem q_countsCourtDays {x : Int} {R : rW} {g : mG} {d : mD} {Q : mQ} (hC : CI d R) (h : HQ (r_countsCourtDays R x) d g Q) : MM mX11_countsCourtDays [vR 0, vI x] g d Q := by
  refine eX11_countsCourtDays ⟨fun c => ?_, fun c => h.a (iO_f (by omega))⟩
  have e := (hC.rul.1 x (by omega)).2
  have hr := (hC.w.r.1 x (by omega)).2
  exact ⟨by omega, by omega, h.a (by unfold r_countsCourtDays; rw [iO_t (by omega), e])⟩
theorem m_countsCourtDays {x : Int} {g : mG} {d : mD} {Q : mQ} (hR : RW (d 66)) (h : HN [3] (r_countsCourtDays (d 66) x) d g Q) : MM mX12_countsCourtDays [vR 65, vI x] g d Q := by
  refine eX12_countsCourtDays ⟨fun c => h.e (iO_f (by omega)) rfl 0, fun c => ⟨ik (by omega), ik (by omega), ik (by omega), by omega, ?_⟩⟩
  have hr := (hR.r.1 x (by omega)).2
  have e : bI (d 66 (120 + 2 * x) = 1) = d 66 (120 + 2 * x) := by
    rcases bI_or (d 66 (120 + 2 * x) = 1) with ⟨a, b⟩ | ⟨a, b⟩ <;> omega
  rw [e]
  exact h.v (iO_t (by omega))
noncomputable def wayF (c : Int) : Int := iT (c = 112) 0 (iT (c = 101) 1 (iT (c = 109) 2 (iT (c = 97) 3 (-1))))
theorem way_rng (c : Int) : -1 ≤ wayF c ∧ wayF c < 4 := by
  unfold wayF
  rcases iT_or (p := c = 112) 0 (iT (c = 101) 1 (iT (c = 109) 2 (iT (c = 97) 3 (-1)))) with ⟨_, e⟩ | ⟨_, e⟩
  · rw [e]; decide
  · rw [e]
    rcases iT_or (p := c = 101) 1 (iT (c = 109) 2 (iT (c = 97) 3 (-1))) with ⟨_, e⟩ | ⟨_, e⟩
    · rw [e]; decide
    · rw [e]
      rcases iT_or (p := c = 109) 2 (iT (c = 97) 3 (-1)) with ⟨_, e⟩ | ⟨_, e⟩
      · rw [e]; decide
      · rw [e]
        rcases iT_or (p := c = 97) 3 (-1) with ⟨_, e⟩ | ⟨_, e⟩ <;> rw [e] <;> decide
theorem f_placeOfWay {x1 : Int} {g : mG} {d : mD} {Q : mQ} (h : Q (.inl (wayF x1)) g d) : MM mX7_placeOfWay [vI x1] g d Q := by
  unfold wayF at h
  refine eX7_placeOfWay ⟨fun c => ?_, fun c => ⟨fun c2 => ?_, fun c2 => ⟨fun c3 => ?_, fun c3 => ⟨fun c4 => ?_, fun c4 => ?_⟩⟩⟩⟩
  · rw [iT_f (p := x1 = 112) (by omega), iT_f (p := x1 = 101) (by omega), iT_f (p := x1 = 109) (by omega), iT_t c] at h
    exact h
  · rw [iT_f (p := x1 = 112) (by omega), iT_t c2] at h
    exact h
  · rw [iT_f (p := x1 = 112) (by omega), iT_f (p := x1 = 101) (by omega), iT_t c3] at h
    exact h
  · rw [iT_t c4] at h
    exact h
  · rw [iT_f c4, iT_f c2, iT_f c3, iT_f c] at h
    exact h
noncomputable def r_serviceDays (R : rW) (c : Int) : mO := iO (wayF c = -1) (.inr 2) (.inl (R (135 + wayF c)))
theorem q_serviceDays {x : Int} {R : rW} {g : mG} {d : mD} {Q : mQ} (hC : CI d R) (h : HQ (r_serviceDays R x) d g Q) : MM mX11_serviceDays [vR 0, vI x] g d Q := by
  have hw := way_rng x
  refine eX11_serviceDays (f_placeOfWay ⟨fun c => h.a (iO_t c), fun c => ⟨by omega, h.a ?_⟩⟩)
  unfold r_serviceDays
  rw [iO_f c, hC.rul.2 _ (by omega)]
theorem m_serviceDays {x : Int} {g : mG} {d : mD} {Q : mQ} (h : HN [2] (r_serviceDays (d 66) x) d g Q) : MM mX12_serviceDays [vR 65, vI x] g d Q := by
  have hw := way_rng x
  refine eX12_serviceDays ?_
  show (wayF x = -1 → _) ∧ (¬ (wayF x = -1) → iI (135 + wayF x) ∧ ((0 ≤ 135 + wayF x ∧ 135 + wayF x < 787) ∧ Q (.inl (d 66 (135 + wayF x))) g (ud d 65 5 0)))
  exact ⟨fun c => h.e (iO_t c) rfl 0, fun c => ⟨ik (by omega), by omega, h.v (iO_f c)⟩⟩
noncomputable def r_lastDayBefore (R : rW) (x y : Int) : mO := iO (0 ≤ x ∧ x < 8) (iO (0 ≤ y ∧ y ≤ 4999) (iO (0 ≤ bkF R y (R (119 + 2 * x)) (R (120 + 2 * x))) (.inl (bkF R y (R (119 + 2 * x)) (R (120 + 2 * x)))) (.inr 4)) (.inr 2)) (.inr 3)
theorem bkF_neg {R : rW} {y l : Int} (hy : 0 ≤ y) (hl : 1 ≤ l) (h : y - l < 0) : bkF R y l 0 = -1 := by
  unfold bkF
  have e : bd (fun x => l ≤ cn (fun y => (0 : Int) = 0 ∨ court R y) x (y - 1)) (y - 1) = -1 := by
    refine bd_eq (by omega) (fun z q1 q2 q3 => ?_) (fun q => absurd q (by decide))
    have := cn_rng (P := fun y => (0 : Int) = 0 ∨ court R y) (a := z) (b := y - 1) (by omega)
    omega
  rw [e, bd_here (Or.inr (by decide))]
theorem q_lastDayBefore {x y : Int} {R : rW} {g : mG} {d : mD} {Q : mQ} (hC : CI d R) (h : HQ (r_lastDayBefore R x y) d g Q) : MM mX11_lastDayBefore [vR 0, vI x, vI y] g d Q := by
  refine eX11_lastDayBefore (R := R) ⟨fun c => ⟨fun c2 => ?_, fun c2 => h.a ?_⟩, fun c => h.a (iO_f (by omega))⟩
  · have hl := (hC.w.r.1 x (by omega)).1
    obtain ⟨e1, e2⟩ := hC.rul.1 x (by omega)
    rw [e1, e2]
    refine ⟨by omega, hC, by omega, hl, ?_⟩
    by_cases hz : R (120 + 2 * x) = 0 ∧ y - R (119 + 2 * x) < 0
    · rw [iT_t hz]
      have hb := bkF_neg (R := R) (y := y) (by omega) hl.1 hz.2
      refine ⟨fun c3 => absurd c3 (by omega), fun c3 => h.a ?_⟩
      unfold r_lastDayBefore
      rw [iO_t (by omega), iO_t (by omega), hz.1, hb, iO_f (by decide)]
    · rw [iT_f hz]
      refine ⟨fun c3 => h.a ?_, fun c3 => h.a ?_⟩
      · unfold r_lastDayBefore
        rw [iO_t (by omega), iO_t (by omega), iO_t c3]
      · unfold r_lastDayBefore
        rw [iO_t (by omega), iO_t (by omega), iO_f c3]
  · unfold r_lastDayBefore
    rw [iO_t (by omega), iO_f (by omega)]
theorem q_lastDayBeforeByMarking {x y : Int} {R : rW} {g : mG} {d : mD} {Q : mQ} (hC : CI d R) (h : HQ (r_lastDayBefore R x y) d g Q) : MM mX11_lastDayBeforeByMarking [vR 0, vI x, vI y] g d Q := by
  refine eX11_lastDayBeforeByMarking (R := R) ⟨fun c => ⟨fun c2 => ?_, fun c2 => h.a ?_⟩, fun c => h.a (iO_f (by omega))⟩
  · have hl := (hC.w.r.1 x (by omega)).1
    obtain ⟨e1, e2⟩ := hC.rul.1 x (by omega)
    rw [e1, e2]
    refine ⟨by omega, hC, by omega, hl, fun d' hf => ⟨fun c3 => h.s (FrS.m hf) ?_, fun c3 => h.s (FrS.m hf) ?_⟩⟩
    · unfold r_lastDayBefore
      rw [iO_t (by omega), iO_t (by omega), iO_t c3]
    · unfold r_lastDayBefore
      rw [iO_t (by omega), iO_t (by omega), iO_f c3]
  · unfold r_lastDayBefore
    rw [iO_t (by omega), iO_f (by omega)]
theorem f_failsM {k : Int} {P : Prop} {g : mG} {d : mD} {Q : mQ} (hz : d 65 5 = 0) (hk : ¬ k = 0) (h1 : P → Q (.inl 1) g (ud d 65 5 k)) (h2 : ¬ P → Q (.inl 0) g d) : MM mX12_fails [vR 65, vI (bI P), vI k] g d Q := f_fails hz hk ⟨h1, h2⟩
theorem l_lastDayBefore2 {a1 a2 a3 a4 : Int} {g : mG} {d : mD} {Q : mQ} (hR : RW (d 66)) (hz : d 65 5 = 0) (h1 : ∀ x, bd (court (d 66)) x = bd (court (d 66)) x) : ∀ (m : Nat) (x : Int), -1 ≤ x → x + 1 ≤ m → (0 ≤ bd (court (d 66)) x → Q (.inl (bd (court (d 66)) x)) g d) → (¬ 0 ≤ bd (court (d 66)) x → Q (.inl 0) g (ud d 65 5 3)) → x ≤ 4999 → pX12_lastDayBefore_2 a1 a2 a3 a4 x g d Q := by
  have fin : ∀ x, (court (d 66) x ∨ x = -1) → -1 ≤ x → (0 ≤ bd (court (d 66)) x → Q (.inl (bd (court (d 66)) x)) g d) → (¬ 0 ≤ bd (court (d 66)) x → Q (.inl 0) g (ud d 65 5 3)) → MM mX12_fails [vR 65, vI (bI (¬ (0 ≤ x))), vI 3] g d (fun o g39 d40 => match o with | .inl v38 => Q (.inl (iT (v38 = 0) x 0)) g39 d40 | .inr k => Q (.inr k) g39 d40) := by
    intro x hx hx1 q1 q2
    have e : bd (court (d 66)) x = x := bd_here (hx.elim Or.inl (fun z => Or.inr (by omega)))
    rw [e] at q1 q2
    refine f_failsM hz (by decide) (fun c => ?_) (fun c => ?_)
    · show Q (.inl (iT ((1 : Int) = 0) x 0)) g _
      rw [iT_f (by decide)]
      exact q2 c
    · show Q (.inl (iT ((0 : Int) = 0) x 0)) g _
      rw [iT_t rfl]
      exact q1 (Classical.not_not.mp c)
  intro m
  induction m with
  | zero =>
    intro x hx hm q1 q2 hx2
    exact aX12_lastDayBefore_2 ⟨fun _ => hR, fun c => by omega, fun c => absurd (by omega) c.1, fun c => fin x (Or.inr (by omega)) hx q1 q2⟩
  | succ m ih =>
    intro x hx hm q1 q2 hx2
    refine aX12_lastDayBefore_2 ⟨fun _ => hR, fun c => by omega, fun c => ⟨ik (by omega), ?_⟩, fun c => ?_⟩
    · rw [bd_step c.2 (by omega)] at q1 q2
      exact ih (x + (-1)) (by omega) (by omega) q1 q2 (by omega)
    · refine fin x ?_ hx q1 q2
      by_cases hz : x = -1
      · exact Or.inr hz
      · exact Or.inl (Classical.byContradiction fun q => c ⟨by omega, q⟩)
theorem l_lastDayBefore1 {a1 a2 ic : Int} {g : mG} {d : mD} {Q : mQ} (hR : RW (d 66)) (hz : d 65 5 = 0) : ∀ (m : Nat) (x l : Int), x + 1 ≤ m → -1 ≤ x → x ≤ 4999 → 1 ≤ l ∧ l ≤ 200 → (0 ≤ bd (court (d 66)) (bd (fun y => l ≤ cn (fun z => ic = 0 ∨ court (d 66) z) y (x - 1)) (x - 1)) → Q (.inl (bd (court (d 66)) (bd (fun y => l ≤ cn (fun z => ic = 0 ∨ court (d 66) z) y (x - 1)) (x - 1)))) g d) → (¬ 0 ≤ bd (court (d 66)) (bd (fun y => l ≤ cn (fun z => ic = 0 ∨ court (d 66) z) y (x - 1)) (x - 1)) → Q (.inl 0) g (ud d 65 5 3)) → pX12_lastDayBefore_1 a1 a2 l ic x g d Q := by
  intro m
  induction m with
  | zero =>
    intro x l hm hx hx2 hl q1 q2
    have e : x = -1 := by omega
    subst e
    rw [show bd (fun y => l ≤ cn (fun z => ic = 0 ∨ court (d 66) z) y (-1 - 1)) (-1 - 1) = -1 - 1 from bd_here (Or.inr (by decide)), show bd (court (d 66)) (-1 - 1) = -1 - 1 from bd_here (Or.inr (by decide))] at q1 q2
    exact aX12_lastDayBefore_1 ⟨fun c => absurd (by decide) c.1, fun c => l_lastDayBefore2 hR hz (fun _ => rfl) 0 (-1) (by decide) (by decide) (fun q => absurd q (by rw [bd_here (Or.inr (by decide))]; decide)) (fun _ => q2 (by decide)) (by decide)⟩
  | succ m ih =>
    intro x l hm hx hx2 hl q1 q2
    refine aX12_lastDayBefore_1 ⟨fun c => ⟨ik (by omega), fun _ _ => hR, fun c2 _ => by omega, fun c2 => ⟨ik (by omega), ?_⟩, fun c2 => ⟨ik (by omega), ?_⟩⟩, fun c => ?_⟩
    · have c3 : ic = 0 ∨ court (d 66) (x - 1) := by
        have := c2.2
        rwa [show x + (-1) = x - 1 by omega] at this
      by_cases h1 : l = 1
      · subst h1
        rw [show bd (fun y => (1 : Int) ≤ cn (fun z => ic = 0 ∨ court (d 66) z) y (x - 1)) (x - 1) = x + (-1) from bd_here (Or.inl (by rw [cn_one, bI_t c3]; exact Int.le_refl _))] at q1 q2
        refine aX12_lastDayBefore_1 ⟨fun c3 => absurd (by decide) c3.2, fun c3 => l_lastDayBefore2 hR hz (fun _ => rfl) 5000 (x + (-1)) (by omega) (by omega) q1 q2 (by omega)⟩
      · have e := bd_cut (P := fun z => ic = 0 ∨ court (d 66) z) (a := x - 1) (b := x + (-1) - 1) (n := l) (by omega) (by rw [show x + (-1) - 1 + 1 = x - 1 by omega, cn_one, bI_t c3]; omega)
        rw [show x + (-1) - 1 + 1 = x - 1 by omega, cn_one, bI_t c3] at e
        rw [e] at q1 q2
        exact ih (x + (-1)) (l - 1) (by omega) (by omega) (by omega) (by omega) q1 q2
    · rw [Int.sub_zero]
      by_cases h0 : x + (-1) < 0
      · have e : bd (fun y => l ≤ cn (fun z => ic = 0 ∨ court (d 66) z) y (x - 1)) (x - 1) = bd (fun y => l ≤ cn (fun z => ic = 0 ∨ court (d 66) z) y (x + (-1) - 1)) (-1) := by
          rw [bd_here (a := x - 1) (Or.inr (by omega)), bd_here (a := -1) (Or.inr (by decide))]; omega
        rw [e] at q1 q2
        rw [bd_here (a := -1) (Or.inr (by decide))] at q1 q2
        refine ih (x + (-1)) l (by omega) (by omega) (by omega) hl (fun q => absurd q ?_) (fun _ => q2 (by rw [bd_here (Or.inr (by decide))]; decide))
        rw [show bd (fun y => l ≤ cn (fun z => ic = 0 ∨ court (d 66) z) y (x + (-1) - 1)) (x + (-1) - 1) = x + (-1) - 1 from bd_here (Or.inr (by omega)), bd_here (Or.inr (by omega))]
        omega
      · have hn : ¬ (ic = 0 ∨ court (d 66) (x - 1)) := fun q => c2 ⟨h0, by rw [show x + (-1) = x - 1 by omega]; exact q⟩
        have e := bd_cut (P := fun z => ic = 0 ∨ court (d 66) z) (a := x - 1) (b := x + (-1) - 1) (n := l) (by omega) (by rw [show x + (-1) - 1 + 1 = x - 1 by omega, cn_one, bI_f hn]; omega)
        rw [show x + (-1) - 1 + 1 = x - 1 by omega, cn_one, bI_f hn, Int.sub_zero] at e
        rw [e] at q1 q2
        exact ih (x + (-1)) l (by omega) (by omega) (by omega) hl q1 q2
    · have h0 : x = -1 := by omega
      subst h0
      rw [show bd (fun y => l ≤ cn (fun z => ic = 0 ∨ court (d 66) z) y (-1 - 1)) (-1 - 1) = -1 - 1 from bd_here (Or.inr (by decide)), show bd (court (d 66)) (-1 - 1) = -1 - 1 from bd_here (Or.inr (by decide))] at q1 q2
      exact l_lastDayBefore2 hR hz (fun _ => rfl) 0 (-1) (by decide) (by decide) (fun q => absurd q (by rw [bd_here (Or.inr (by decide))]; decide)) (fun _ => q2 (by decide)) (by decide)
theorem m_lastDayBefore {x y : Int} {g : mG} {d : mD} {Q : mQ} (hR : RW (d 66)) (h : HN [3, 2, 4] (r_lastDayBefore (d 66) x y) d g Q) : MM mX12_lastDayBefore [vR 65, vI x, vI y] g d Q := by
  refine eX12_lastDayBefore ⟨fun c => h.e (iO_f (by omega)) rfl 0, fun c => ⟨fun c2 => h.e (e := 2) ?_ rfl 0, fun c2 => ⟨ik (by omega), ik (by omega), by omega, ik (by omega), by omega, ?_⟩⟩⟩
  · unfold r_lastDayBefore
    rw [iO_t (by omega), iO_f (by omega)]
  · have hr := hR.r.1 x (by omega)
    have e : bI (d 66 (120 + 2 * x) = 1) = d 66 (120 + 2 * x) := by
      rcases bI_or (d 66 (120 + 2 * x) = 1) with ⟨a, b⟩ | ⟨a, b⟩ <;> omega
    rw [e]
    refine l_lastDayBefore1 (by rw [r66]; exact hR) (ud_same _ _ _ _) 5000 y _ (by omega) (by omega) (by omega) hr.1 (fun q => ?_) (fun q => ?_)
    · rw [r66] at q ⊢
      refine h.v ?_
      unfold r_lastDayBefore
      rw [iO_t (by omega), iO_t (by omega)]
      exact iO_t (p := 0 ≤ bkF (d 66) y (d 66 (119 + 2 * x)) (d 66 (120 + 2 * x))) q
    · rw [r66] at q
      refine h.e (e := 4) ?_ rfl 0
      unfold r_lastDayBefore
      rw [iO_t (by omega), iO_t (by omega)]
      exact iO_f (p := 0 ≤ bkF (d 66) y (d 66 (119 + 2 * x)) (d 66 (120 + 2 * x))) q
theorem m_lastDayBeforeByMarking {x y : Int} {g : mG} {d : mD} {Q : mQ} (hR : RW (d 66)) (h : HN [3, 2, 4] (r_lastDayBefore (d 66) x y) d g Q) : MM mX12_lastDayBeforeByMarking [vR 65, vI x, vI y] g d Q :=
  eX12_lastDayBeforeByMarking (m_lastDayBefore hR (fun v d' h1 h2 h3 => h v d' h1 h2 h3))
