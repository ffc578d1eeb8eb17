-- answers, both sides
noncomputable def iO (p : Prop) (a b : mO) : mO := @ite mO p (Classical.propDecidable p) a b
theorem iO_t {p : Prop} {a b : mO} (h : p) : iO p a b = a := if_pos h
theorem iO_f {p : Prop} {a b : mO} (h : ¬ p) : iO p a b = b := if_neg h
def FrS (d d' : mD) : Prop := ∀ b j : Int, b ≠ 5 → ¬ (53 ≤ b ∧ b ≤ 59) → d' b j = d b j
def FrN (d d' : mD) : Prop := ∀ b j : Int, ¬ (b = 65 ∧ j = 5) → b ≠ 73 → d' b j = d b j
theorem FrS.rf {d : mD} : FrS d d := fun _ _ _ _ => rfl
theorem FrS.w {d d' : mD} (h : FrW d d') : FrS d d' := fun b j h1 h2 => h (by omega)
theorem FrS.m {d d' : mD} (h : FrM d d') : FrS d d' := fun b j h1 h2 => h (by omega)
theorem FrS.tr {d d' d'' : mD} (h : FrS d d') (h2 : FrS d' d'') : FrS d d'' := fun b j q1 q2 => (h2 b j q1 q2).trans (h b j q1 q2)
theorem CI.frS {d d' : mD} {R : rW} (h : CI d R) (hf : FrS d d') : CI d' R := h.fr (fun b j h1 h2 => hf b j (by omega) (by omega))
def ix (e : Nat) : List Nat → Int
  | [] => 1
  | x :: l => if x = e then 1 else ix e l + 1
def kx (l : List Nat) : mO → Int
  | .inl _ => 0
  | .inr e => ix e l
def HQ (r : mO) (d : mD) (g : mG) (Q : mQ) : Prop := ∀ d', FrS d d' → Q r g d'
theorem HQ.a {r o : mO} {d : mD} {g : mG} {Q : mQ} (h : HQ r d g Q) (e : r = o) : Q o g d := e ▸ h d FrS.rf
theorem HQ.s {r o : mO} {d d' : mD} {g : mG} {Q : mQ} (h : HQ r d g Q) (hf : FrS d d') (e : r = o) : Q o g d' := e ▸ h d' hf
-- parties
noncomputable def r_nameLength (R : rW) (x : Int) : mO := iO (0 ≤ x ∧ x < R 1) (.inl (R (7 + 9 * x))) (.inr 3)
noncomputable def r_nameCodePoint (R : rW) (x y : Int) : mO := iO (0 ≤ x ∧ x < R 1) (iO (0 ≤ y ∧ y < R (7 + 9 * x)) (.inl (R (8 + 9 * x + y))) (.inr 3)) (.inr 3)
-- calendar
noncomputable def r_weekday (x : Int) : mO := iO (0 ≤ x ∧ x ≤ 4999) (.inl (x % 7)) (.inr 2)
noncomputable def r_isCourtDay (R : rW) (x : Int) : mO := iO (0 ≤ x ∧ x ≤ 4999) (.inl (bI (court R x))) (.inr 2)
theorem q_isCourtDay {x : Int} {R : rW} {g : mG} {d : mD} {Q : mQ} (hC : CI d R) (h : HQ (r_isCourtDay R x) d g Q) : MM mX11_isCourtDay [vR 0, vI x] g d Q :=
  eX11_isCourtDay (R := R) ⟨fun c => ⟨hC, by omega, h.a (iO_t (by omega))⟩, fun c => h.a (iO_f (by omega))⟩
noncomputable def r_courtDays (R : rW) (x y : Int) : mO := iO (0 ≤ x ∧ x ≤ y ∧ y ≤ 4999) (.inl (cn (court R) x y)) (.inr 2)
theorem q_courtDays {x y : Int} {R : rW} {g : mG} {d : mD} {Q : mQ} (hC : CI d R) (h : HQ (r_courtDays R x y) d g Q) : MM mX11_courtDays [vR 0, vI x, vI y] g d Q :=
  eX11_courtDays (R := R) ⟨fun c => h.a (iO_f (by omega)), fun c => ⟨hC, by omega, by omega, h.a (iO_t (by omega))⟩⟩
theorem q_courtDaysByMarking {x y : Int} {R : rW} {g : mG} {d : mD} {Q : mQ} (hC : CI d R) (h : HQ (r_courtDays R x y) d g Q) : MM mX11_courtDaysByMarking [vR 0, vI x, vI y] g d Q :=
  eX11_courtDaysByMarking (R := R) ⟨fun c => h.a (iO_f (by omega)), fun c => ⟨hC, by omega, by omega, fun d' hf => h.s (FrS.m hf) (iO_t (by omega))⟩⟩
-- rules
noncomputable def r_ruleLength (R : rW) (x : Int) : mO := iO (0 ≤ x ∧ x < 8) (.inl (R (119 + 2 * x))) (.inr 3)
noncomputable def r_countsCourtDays (R : rW) (x : Int) : mO := iO (0 ≤ x ∧ x < 8) (.inl (R (120 + 2 * x))) (.inr 3)
noncomputable def wayF (c : Int) : Int := iT (c = 112) 0 (iT (c = 101) 1 (iT (c = 109) 2 (iT (c = 97) 3 (-1))))
theorem way_rng (c : Int) : -1 ≤ wayF c ∧ wayF c < 4 := by
  unfold wayF
  rcases iT_or (p := c = 112) 0 (iT (c = 101) 1 (iT (c = 109) 2 (iT (c = 97) 3 (-1)))) with ⟨_, e⟩ | ⟨_, e⟩
  · rw [e]; decide
  · rw [e]
    rcases iT_or (p := c = 101) 1 (iT (c = 109) 2 (iT (c = 97) 3 (-1))) with ⟨_, e⟩ | ⟨_, e⟩
    · rw [e]; decide
    · rw [e]
      rcases iT_or (p := c = 109) 2 (iT (c = 97) 3 (-1)) with ⟨_, e⟩ | ⟨_, e⟩
      · rw [e]; decide
      · rw [e]
        rcases iT_or (p := c = 97) 3 (-1) with ⟨_, e⟩ | ⟨_, e⟩ <;> rw [e] <;> decide
theorem f_placeOfWay {x1 : Int} {g : mG} {d : mD} {Q : mQ} (h : Q (.inl (wayF x1)) g d) : MM mX7_placeOfWay [vI x1] g d Q := by
  unfold wayF at h
  refine eX7_placeOfWay ⟨fun c => ?_, fun c => ⟨fun c2 => ?_, fun c2 => ⟨fun c3 => ?_, fun c3 => ⟨fun c4 => ?_, fun c4 => ?_⟩⟩⟩⟩
  · rw [iT_f (p := x1 = 112) (by omega), iT_f (p := x1 = 101) (by omega), iT_f (p := x1 = 109) (by omega), iT_t c] at h
    exact h
  · rw [iT_f (p := x1 = 112) (by omega), iT_t c2] at h
    exact h
  · rw [iT_f (p := x1 = 112) (by omega), iT_f (p := x1 = 101) (by omega), iT_t c3] at h
    exact h
  · rw [iT_t c4] at h
    exact h
  · rw [iT_f c4, iT_f c2, iT_f c3, iT_f c] at h
    exact h
noncomputable def r_serviceDays (R : rW) (c : Int) : mO := iO (wayF c = -1) (.inr 2) (.inl (R (135 + wayF c)))
noncomputable def r_lastDayBefore (R : rW) (x y : Int) : mO := iO (0 ≤ x ∧ x < 8) (iO (0 ≤ y ∧ y ≤ 4999) (iO (0 ≤ bkF R y (R (119 + 2 * x)) (R (120 + 2 * x))) (.inl (bkF R y (R (119 + 2 * x)) (R (120 + 2 * x)))) (.inr 4)) (.inr 2)) (.inr 3)
theorem bkF_neg {R : rW} {y l : Int} (hy : 0 ≤ y) (hl : 1 ≤ l) (h : y - l < 0) : bkF R y l 0 = -1 := by
  unfold bkF
  have e : bd (fun x => l ≤ cn (fun y => (0 : Int) = 0 ∨ court R y) x (y - 1)) (y - 1) = -1 := by
    refine bd_eq (by omega) (fun z q1 q2 q3 => ?_) (fun q => absurd q (by decide))
    have := cn_rng (P := fun y => (0 : Int) = 0 ∨ court R y) (a := z) (b := y - 1) (by omega)
    omega
  rw [e, bd_here (Or.inr (by decide))]
theorem q_lastDayBefore {x y : Int} {R : rW} {g : mG} {d : mD} {Q : mQ} (hC : CI d R) (h : HQ (r_lastDayBefore R x y) d g Q) : MM mX11_lastDayBefore [vR 0, vI x, vI y] g d Q := by
  refine eX11_lastDayBefore (R := R) ⟨fun c => ⟨fun c2 => ?_, fun c2 => h.a ?_⟩, fun c => h.a (iO_f (by omega))⟩
  · have hl := (hC.w.r.1 x (by omega)).1
    obtain ⟨e1, e2⟩ := hC.rul.1 x (by omega)
    rw [e1, e2]
    refine ⟨by omega, hC, by omega, hl, ?_⟩
    by_cases hz : R (120 + 2 * x) = 0 ∧ y - R (119 + 2 * x) < 0
    · rw [iT_t hz]
      have hb := bkF_neg (R := R) (y := y) (by omega) hl.1 hz.2
      refine ⟨fun c3 => absurd c3 (by omega), fun c3 => h.a ?_⟩
      unfold r_lastDayBefore
      rw [iO_t (by omega), iO_t (by omega), hz.1, hb, iO_f (by decide)]
    · rw [iT_f hz]
      refine ⟨fun c3 => h.a ?_, fun c3 => h.a ?_⟩
      · unfold r_lastDayBefore
        rw [iO_t (by omega), iO_t (by omega), iO_t c3]
      · unfold r_lastDayBefore
        rw [iO_t (by omega), iO_t (by omega), iO_f c3]
  · unfold r_lastDayBefore
    rw [iO_t (by omega), iO_f (by omega)]
theorem q_lastDayBeforeByMarking {x y : Int} {R : rW} {g : mG} {d : mD} {Q : mQ} (hC : CI d R) (h : HQ (r_lastDayBefore R x y) d g Q) : MM mX11_lastDayBeforeByMarking [vR 0, vI x, vI y] g d Q := by
  refine eX11_lastDayBeforeByMarking (R := R) ⟨fun c => ⟨fun c2 => ?_, fun c2 => h.a ?_⟩, fun c => h.a (iO_f (by omega))⟩
  · have hl := (hC.w.r.1 x (by omega)).1
    obtain ⟨e1, e2⟩ := hC.rul.1 x (by omega)
    rw [e1, e2]
    refine ⟨by omega, hC, by omega, hl, fun d' hf => ⟨fun c3 => h.s (FrS.m hf) ?_, fun c3 => h.s (FrS.m hf) ?_⟩⟩
    · unfold r_lastDayBefore
      rw [iO_t (by omega), iO_t (by omega), iO_t c3]
    · unfold r_lastDayBefore
      rw [iO_t (by omega), iO_t (by omega), iO_f c3]
  · unfold r_lastDayBefore
    rw [iO_t (by omega), iO_f (by omega)]
