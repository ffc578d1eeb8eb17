-- the class by marks
def BH (d : mD) (R : rW) : Prop := ∀ x, 0 ≤ x ∧ x ≤ 4999 → (mkB (d 57) x ↔ ¬ (hAt R x = -1))
def BS (d : mD) (R : rW) (p r : Int) : Prop := ∀ x, 0 ≤ x ∧ x ≤ 4999 → (mkB (d 58) x ↔ stopd R p r x)
theorem BH.crt {d : mD} {R : rW} (h : BH d R) {x : Int} (hx : 0 ≤ x ∧ x ≤ 4999) : ((¬ (5 ≤ x % 7)) ∧ ¬ mkB (d 57) x) ↔ court R x := by
  rw [h x hx]
  unfold court
  constructor
  · rintro ⟨a, b⟩; exact ⟨by omega, Classical.not_not.mp b⟩
  · rintro ⟨a, b⟩; exact ⟨by omega, fun z => z b⟩
theorem l_markHolidays {R : rW} {g : mG} {d0 : mD} {Q : mQ} (hC : CI d0 R) (h : ∀ d', (∀ b j, b ≠ 57 → d' b j = d0 b j) → BH d' R → Q (.inl 0) g d') : ∀ (m : Nat) (k : Int) (d : mD), 0 ≤ k → k + m = R 2 → (∀ b j, b ≠ 57 → d b j = d0 b j) → (∀ x, mkB (d 57) x ↔ ∃ j, 0 ≤ j ∧ j < k ∧ R (79 + j) = x) → pX4_markHolidays_1 k g d Q := by
  have h2 := hC.w.n.2.2.1
  have hc := hC.cal
  intro m
  induction m with
  | zero =>
    intro k d hk hm hf hs
    refine aX4_markHolidays_1 ⟨fun _ => h d hf (fun x hx => ?_), fun c => absurd ?_ c⟩
    · rw [hs x]
      rcases hAt_spec (R := R) (x := x) h2.2 with ⟨a, b⟩ | ⟨a, b⟩
      · constructor
        · rintro ⟨j, q1, q2, q3⟩
          exact absurd q3 (b j q1 (by omega))
        · intro q
          exact absurd a q
      · constructor
        · intro _ q
          omega
        · intro _
          exact ⟨hAt R x, a.1, by omega, b⟩
    · rw [hf 10 2 (by decide), hc.2.1]
      omega
  | succ m ih =>
    intro k d hk hm hf hs
    have e10 : d 10 2 = R 2 := (hf 10 2 (by decide)).trans hc.2.1
    have e11 : d 11 k = R (79 + k) := (hf 11 k (by decide)).trans (hc.2.2 k (by omega))
    have hh := hC.w.hd.1 k (by omega)
    refine aX4_markHolidays_1 ⟨fun c => absurd c (by omega), fun c => ⟨by omega, ?_⟩⟩
    rw [e11]
    refine f_mark_h (by omega) (fun d' hf2 hs2 => ⟨ik (by omega), ih (k + 1) d' (by omega) (by omega) (fun b j q => (hf2 b j q).trans (hf b j q)) (fun x => ?_)⟩)
    rw [hs2 x, hs x, ex_last (P := fun j => R (79 + j) = x) hk]
    constructor
    · rintro (q | q)
      · exact Or.inl q
      · exact Or.inr (by omega)
    · rintro (q | q)
      · exact Or.inl q
      · exact Or.inr (by omega)
theorem f_markHolidays {R : rW} {g : mG} {d : mD} {Q : mQ} (hC : CI d R) (h : ∀ d', (∀ b j, b ≠ 57 → d' b j = d b j) → BH d' R → Q (.inl 0) g d') : MM mX4_markHolidays [vR 56] g d Q :=
  eX4_markHolidays (f_clear_h (fun d' hf hz => l_markHolidays hC h (R 2).toNat 0 d' (by omega) (by have := hC.w.n.2.2.1; omega) hf (fun x => ⟨fun q => absurd q (hz x), fun q => by obtain ⟨j, q1, q2, -⟩ := q; omega⟩)))
theorem hits_iv {R : rW} (hR : RW R) {p r k x : Int} (hk : 0 ≤ k ∧ k < R 4) (hc : (R (619 + 4 * k) = -1 ∨ R (619 + 4 * k) = p) ∧ R (620 + 4 * k) / 2 ^ r.toNat % 2 = 1) (hx : 0 ≤ x ∧ x ≤ 4999) : hits R p r x k ↔ R (621 + 4 * k) + 1 ≤ x ∧ x ≤ lastD (R (622 + 4 * k)) := by
  unfold hits lastD
  constructor
  · rintro ⟨-, -, a, b⟩
    split <;> omega
  · rintro ⟨a, b⟩
    refine ⟨hc.1, hc.2, by omega, ?_⟩
    split at b <;> omega
theorem l_markStays {i : Int} {R : rW} {g : mG} {d0 : mD} {Q : mQ} (hC : CI d0 R) (hi : 0 ≤ i ∧ i < R 3) (h : ∀ d', (∀ b j, b ≠ 58 → d' b j = d0 b j) → BS d' R (R (139 + 16 * i)) (R (140 + 16 * i)) → Q (.inl 0) g d') : ∀ (m : Nat) (k : Int) (d : mD), 0 ≤ k → k + m = R 4 → (∀ b j, b ≠ 58 → d b j = d0 b j) → (∀ x, 0 ≤ x ∧ x ≤ 4999 → (mkB (d 58) x ↔ ∃ j, 0 ≤ j ∧ j < k ∧ hits R (R (139 + 16 * i)) (R (140 + 16 * i)) x j)) → pX4_markStays_1 i k g d Q := by
  have hR := hC.w
  have h4 := hR.n.2.2.2.2.1
  have h3 := hR.n.2.2.2.1
  have h00 := hR.n.1
  have hd := hR.dl hi
  unfold DLW at hd
  obtain ⟨e28, est⟩ := hC.st
  have hdl := hC.dl.2 i hi
  unfold DLS at hdl
  intro m
  induction m with
  | zero =>
    intro k d hk hm hf hs
    refine aX4_markStays_1 ⟨fun _ => h d hf (fun x hx => ?_), fun c => absurd ?_ c⟩
    · rw [hs x hx, show k = R 4 by omega]
      exact Iff.rfl
    · rw [hf 28 4 (by decide), e28]
      omega
  | succ m ih =>
    intro k d hk hm hf hs
    have hst := hR.s.1 k (by omega)
    unfold STW at hst
    have e := est k (by omega)
    have e28' : d 28 4 = R 4 := (hf 28 4 (by decide)).trans e28
    have e29 : d 29 k = R (619 + 4 * k) := (hf 29 k (by decide)).trans e.1
    have e30 : d 30 k = R (620 + 4 * k) := (hf 30 k (by decide)).trans e.2.1
    have e31 : d 31 k = R (621 + 4 * k) := (hf 31 k (by decide)).trans e.2.2.1
    have e32 : d 32 k = lastD (R (622 + 4 * k)) := (hf 32 k (by decide)).trans e.2.2.2
    have e17 : d 17 i = R (139 + 16 * i) := (hf 17 i (by decide)).trans hdl.1
    have e18 : d 18 i = R (140 + 16 * i) := (hf 18 i (by decide)).trans hdl.2.1
    have hl : -1 ≤ lastD (R (622 + 4 * k)) ∧ lastD (R (622 + 4 * k)) ≤ 4999 := by
      unfold lastD
      split <;> omega
    refine aX4_markStays_1 ⟨fun c => absurd c (by omega), fun c => ?_⟩
    rw [e29, e30, e31, e32, e17, e18]
    refine ⟨by omega, by omega, fun _ => by omega, fun _ => by omega, fun c2 => ⟨ik (by omega), ?_⟩, fun c2 => ⟨ik (by omega), ?_⟩⟩
    · refine f_mark_s (by omega) (fun d' hf2 hs2 => ⟨ik (by omega), ih (k + 1) d' (by omega) (by omega) (fun b j q => (hf2 b j q).trans (hf b j q)) (fun x hx => ?_)⟩)
      rw [hs2 x, hs x hx, ex_last hk, hits_iv hR (by omega) c2 hx]
    · refine ih (k + 1) d (by omega) (by omega) hf (fun x hx => ?_)
      rw [hs x hx, ex_last hk]
      exact ⟨Or.inl, fun q => q.elim id (fun z => absurd ⟨z.1, z.2.1⟩ c2)⟩
theorem f_markStays {i : Int} {R : rW} {g : mG} {d : mD} {Q : mQ} (hC : CI d R) (hi : 0 ≤ i ∧ i < R 3) (h : ∀ d', (∀ b j, b ≠ 58 → d' b j = d b j) → BS d' R (R (139 + 16 * i)) (R (140 + 16 * i)) → Q (.inl 0) g d') : MM mX4_markStays [vR 56, vR 16, vI i] g d Q :=
  eX4_markStays (f_clear_s (fun d' hf hz => l_markStays hC hi h (R 4).toNat 0 d' (by omega) (by have := hC.w.n.2.2.2.2.1; omega) hf (fun x hx => ⟨fun q => absurd q (hz x), fun q => by obtain ⟨j, q1, q2, -⟩ := q; omega⟩)))
theorem FrM.of {d d' : mD} (h : ∀ b j, b ≠ 57 → b ≠ 58 → d' b j = d b j) : FrM d d' := fun {b j} q => h b j (by omega) (by omega)
theorem l_countCourtM {a b : Int} {R : rW} {g : mG} {d : mD} {Q : mQ} (hB : BH d R) (hb : b ≤ 4999) : ∀ (m : Nat) (acc x : Int), 0 ≤ x → x + m = b + 1 → 0 ≤ acc → acc ≤ x → Q (.inl (acc + cnN (court R) m x)) g d → pX4_countCourt_1 a b acc x g d Q := by
  intro m
  induction m with
  | zero =>
    intro acc x hx hm ha ha2 h
    rw [show acc + cnN (court R) 0 x = acc from Int.add_zero _] at h
    exact aX4_countCourt_1 ⟨fun _ => h, fun c => absurd (by omega) c⟩
  | succ m ih =>
    intro acc x hx hm ha ha2 h
    rw [show acc + cnN (court R) (m + 1) x = acc + bI (court R x) + cnN (court R) m (x + 1) from (Int.add_assoc _ _ _).symm] at h
    have hr := @bI_rng (court R x)
    refine aX4_countCourt_1 ⟨fun c => absurd c (by omega), fun c => ?_⟩
    rw [bI_cg (hB.crt (x := x) (by omega))]
    exact ⟨hx, ik (by omega), ik (by omega), ih _ (x + 1) (by omega) (by omega) (by omega) (by omega) h⟩
theorem f_countCourtM {x1 x2 : Int} {R : rW} {g : mG} {d : mD} {Q : mQ} (h : CI d R ∧ (0 ≤ x1 ∧ x1 ≤ x2) ∧ x2 ≤ 4999 ∧ ∀ d', FrM d d' → Q (.inl (cn (court R) x1 x2)) g d') : MM mX4_countCourt [vR 56, vI x1, vI x2] g d Q := by
  obtain ⟨hC, h1, h2, hq⟩ := h
  refine eX4_countCourt (f_markHolidays hC (fun d' hf hB => l_countCourtM hB h2 (x2 + 1 - x1).toNat 0 x1 (by omega) (by omega) (by omega) (by omega) ?_))
  have t := hq d' (FrM.of (fun b j q1 q2 => hf b j q1))
  unfold cn at t
  rw [Int.zero_add, show x2 + 1 - x1 = x2 - x1 + 1 by omega]
  exact t
theorem l_countStoppedM {i a b p r : Int} {R : rW} {g : mG} {d : mD} {Q : mQ} (hB : BS d R p r) (hb : b ≤ 4999) : ∀ (m : Nat) (acc x : Int), 0 ≤ x → x + m = b + 1 → 0 ≤ acc → acc ≤ x → Q (.inl (acc + cnN (stopd R p r) m x)) g d → pX4_countStopped_1 i a b acc x g d Q := by
  intro m
  induction m with
  | zero =>
    intro acc x hx hm ha ha2 h
    rw [show acc + cnN (stopd R p r) 0 x = acc from Int.add_zero _] at h
    exact aX4_countStopped_1 ⟨fun _ => h, fun c => absurd (by omega) c⟩
  | succ m ih =>
    intro acc x hx hm ha ha2 h
    rw [show acc + cnN (stopd R p r) (m + 1) x = acc + bI (stopd R p r x) + cnN (stopd R p r) m (x + 1) from (Int.add_assoc _ _ _).symm] at h
    have hr := @bI_rng (stopd R p r x)
    refine aX4_countStopped_1 ⟨fun c => absurd c (by omega), fun c => ?_⟩
    rw [bI_cg (hB x (by omega))]
    exact ⟨ik (by omega), ik (by omega), ih _ (x + 1) (by omega) (by omega) (by omega) (by omega) h⟩
theorem f_countStoppedM {x2 x3 x4 : Int} {R : rW} {g : mG} {d : mD} {Q : mQ} (h : CI d R ∧ (0 ≤ x2 ∧ x2 < R 3) ∧ (0 ≤ x3 ∧ x3 ≤ x4) ∧ x4 ≤ 4999 ∧ ∀ d', FrM d d' → Q (.inl (cn (stopd R (R (139 + 16 * x2)) (R (140 + 16 * x2))) x3 x4)) g d') : MM mX4_countStopped [vR 56, vR 16, vI x2, vI x3, vI x4] g d Q := by
  obtain ⟨hC, hi, h3, h4, hq⟩ := h
  refine eX4_countStopped (f_markStays hC hi (fun d' hf hB => l_countStoppedM hB h4 (x4 + 1 - x3).toNat 0 x3 (by omega) (by omega) (by omega) (by omega) ?_))
  have t := hq d' (FrM.of (fun b j q1 q2 => hf b j q2))
  unfold cn at t
  rw [Int.zero_add, show x4 + 1 - x3 = x4 - x3 + 1 by omega]
  exact t
-- counting back by marks
theorem l_countBackM {day len ic : Int} {R : rW} {g : mG} {d : mD} {Q : mQ} (hB : BH d R) (hd : day ≤ 4999) (hl : 1 ≤ len ∧ len ≤ 200) : ∀ (m : Nat) (acc x : Int), x + 1 = m → x ≤ day - 1 → 0 ≤ acc → acc ≤ day - 1 - x → Q (.inl (bd (court R) (if len ≤ acc then x else bd (fun y => len - acc ≤ cn (fun z => ic = 0 ∨ court R z) y x) x))) g d → pX4_countBack_1 day len ic acc x g d Q := by
  intro m
  induction m with
  | zero =>
    intro acc x hm hx ha ha2 h
    have e : (if len ≤ acc then x else bd (fun y => len - acc ≤ cn (fun z => ic = 0 ∨ court R z) y x) x) = -1 := by
      split
      · omega
      · rw [bd_here (Or.inr (by omega))]; omega
    rw [e, bd_here (Or.inr (by omega))] at h
    exact aX4_countBack_1 ⟨fun _ => h, fun c => absurd (by omega) c⟩
  | succ m ih =>
    intro acc x hm hx ha ha2 h
    have ec : (((¬ (5 ≤ x % 7)) ∧ ¬ mkB (d 57) x) ∨ ic = 0) ↔ (ic = 0 ∨ court R x) := by
      rw [hB.crt (x := x) (by omega)]
      exact Or.comm
    have hr := @bI_rng (ic = 0 ∨ court R x)
    refine aX4_countBack_1 ⟨fun c => absurd c (by omega), fun c => ?_⟩
    rw [bI_cg ec, hB.crt (x := x) (by omega)]
    have key : (if len ≤ acc then x else bd (fun y => len - acc ≤ cn (fun z => ic = 0 ∨ court R z) y x) x) = (if len ≤ acc + bI (ic = 0 ∨ court R x) then x else bd (fun y => len - (acc + bI (ic = 0 ∨ court R x)) ≤ cn (fun z => ic = 0 ∨ court R z) y (x + (-1))) (x + (-1))) := by
      by_cases h1 : len ≤ acc
      · rw [if_pos h1, if_pos (by omega)]
      · rw [if_neg h1]
        by_cases h2 : len ≤ acc + bI (ic = 0 ∨ court R x)
        · rw [if_pos h2, bd_here (Or.inl (by rw [cn_one]; omega))]
        · rw [if_neg h2]
          have e := bd_cut (P := fun z => ic = 0 ∨ court R z) (a := x) (b := x + (-1)) (n := len - acc) (by omega) (by rw [show x + (-1) + 1 = x by omega, cn_one]; omega)
          rw [show x + (-1) + 1 = x by omega, cn_one] at e
          rw [e, show len - acc - bI (ic = 0 ∨ court R x) = len - (acc + bI (ic = 0 ∨ court R x)) by omega]
    rw [key] at h
    refine ⟨by omega, ik (by omega), fun c2 => ?_, fun c2 => ⟨ik (by omega), ih _ _ (by omega) (by omega) (by omega) (by omega) ?_⟩⟩
    · rw [if_pos (by omega), bd_here (Or.inl c2.2)] at h
      exact h
    · by_cases h3 : len ≤ acc + bI (ic = 0 ∨ court R x)
      · rw [if_pos h3] at h ⊢
        rw [bd_step (fun q => c2 ⟨by omega, q⟩) (by omega)] at h
        exact h
      · rw [if_neg h3] at h ⊢
        exact h
theorem f_countBackM {x1 x2 x3 : Int} {R : rW} {g : mG} {d : mD} {Q : mQ} (h : CI d R ∧ (0 ≤ x1 ∧ x1 ≤ 4999) ∧ (1 ≤ x2 ∧ x2 ≤ 200) ∧ ∀ d', FrM d d' → Q (.inl (bkF R x1 x2 x3)) g d') : MM mX4_countBack [vR 56, vI x1, vI x2, vI x3] g d Q := by
  obtain ⟨hC, h1, h2, hq⟩ := h
  refine eX4_countBack (f_markHolidays hC (fun d' hf hB => ⟨ik (by omega), l_countBackM hB h1.2 h2 x1.toNat 0 (x1 - 1) (by omega) (by omega) (by omega) (by omega) ?_⟩))
  rw [if_neg (by omega), Int.sub_zero]
  exact hq d' (FrM.of (fun b j q1 q2 => hf b j q1))
-- the walk
noncomputable def EW (R : rW) (i : Int) : Nat → Int → Int → Int → Int → Int
  | 0, _, _, _, e => e
  | n + 1, x, q, c, e => if partsF R i ≤ q then e else iT (c + bI (cnts R i x q c) = plenF R i q ∧ court R x ∧ ¬ stopd R (R (139 + 16 * i)) (R (140 + 16 * i)) x) (EW R i n (x + 1) (q + 1) 0 (iT (q + 1 = partsF R i) x 5000)) (EW R i n (x + 1) q (c + bI (cnts R i x q c)) e)
theorem EW_s {R : rW} {i x q c e : Int} {n : Nat} : EW R i (n + 1) x q c e = if partsF R i ≤ q then e else iT (c + bI (cnts R i x q c) = plenF R i q ∧ court R x ∧ ¬ stopd R (R (139 + 16 * i)) (R (140 + 16 * i)) x) (EW R i n (x + 1) (q + 1) 0 (iT (q + 1 = partsF R i) x 5000)) (EW R i n (x + 1) q (c + bI (cnts R i x q c)) e) := rfl
theorem EW_done {R : rW} {i x q c e : Int} {n : Nat} (h : partsF R i ≤ q) : EW R i n x q c e = e := by
  cases n with
  | zero => rfl
  | succ n => rw [EW_s, if_pos h]
theorem l_walk {i T : Int} {R : rW} {g : mG} {d1 : mD} {Q : mQ} (hC : CI d1 R) (hi : 0 ≤ i ∧ i < R 3) (hH : BH d1 R) (hS : BS d1 R (R (139 + 16 * i)) (R (140 + 16 * i))) (hT : T ≤ 4999) : ∀ (n : Nat) (x q c : Int) (d : mD), 0 ≤ x → (x + n = T + 1 ∨ (n = 0 ∧ T < x)) → 0 ≤ q → 0 ≤ c → c ≤ x → 0 ≤ d 56 4 → d 56 4 ≤ x → (∀ b j, ¬ (b = 56 ∧ (j = 4 ∨ j = 5)) → d b j = d1 b j) →
    (∀ d', (∀ b j, ¬ (b = 56 ∧ (j = 4 ∨ j = 5)) → d' b j = d1 b j) → d' 56 4 = d 56 4 + wk R i n x q c → d' 56 5 = EW R i n x q c (d 56 5) → Q (.inl 0) g d') → pX4_walk_1 i T (partsF R i) q c x g d Q := by
  have hR := hC.w
  have h3 := hR.n.2.2.2.1
  have hp := parts_rng hR hi
  have hd := hR.dl hi
  unfold DLW at hd
  have hdl := hC.dl.2 i hi
  unfold DLS at hdl
  obtain ⟨-, -, e19, e20, e21, e22, -⟩ := hdl
  intro n
  induction n with
  | zero =>
    intro x q c d hx hn hq hc hcx h4 h4x hf h
    exact aX4_walk_1 ⟨fun z => absurd (by omega) z.1, fun _ => h d hf (by rw [show wk R i 0 x q c = 0 from rfl, Int.add_zero]) rfl⟩
  | succ n ih =>
    intro x q c d hx hn hq hc hcx h4 h4x hf h
    have hx2 : 0 ≤ x ∧ x ≤ 4999 := by omega
    have r57 : d 57 = d1 57 := funext fun j => hf 57 j (by omega)
    have r58 : d 58 = d1 58 := funext fun j => hf 58 j (by omega)
    have hst : mkB (d 58) x ↔ stopd R (R (139 + 16 * i)) (R (140 + 16 * i)) x := by rw [r58]; exact hS x hx2
    have hco : ((¬ (5 ≤ x % 7)) ∧ ¬ mkB (d 57) x) ↔ court R x := by rw [r57]; exact hH.crt hx2
    have r20 : d 20 i = R (143 + 16 * i) := (hf 20 i (by omega)).trans e20
    refine aX4_walk_1 ⟨fun z => ?_, fun z => ?_⟩
    · have r22 : d 22 (i * 7 + q) = plenF R i q := (hf 22 _ (by omega)).trans (e22 q (by omega))
      rw [hst, hco, r22, r20]
      rw [wk_s, if_neg z.2, EW_s, if_neg z.2] at h
      refine ⟨fun s => ⟨ik (by omega), ?_⟩, fun s => ⟨hx, ik (by omega), ik (by omega), by omega, fun _ _ _ => by omega, fun k => ⟨ik (by omega), ik (by omega), fun w => ⟨ik (by omega), ik (by omega), ?_⟩, fun w => ⟨ik (by omega), ?_⟩⟩, fun k => ⟨fun w => ⟨ik (by omega), ik (by omega), ?_⟩, fun w => ⟨ik (by omega), ?_⟩⟩⟩⟩
      · have hcf : ¬ cnts R i x q c := fun y => y.2.1 s
        refine ih (x + 1) q c d (by omega) (by omega) hq hc (by omega) h4 (by omega) hf (fun d' f1 f2 f3 => h d' f1 ?_ ?_)
        · rw [bI_f hcf, iT_f (fun y => y.2.2 s), f2, Int.add_zero, Int.zero_add]
        · rw [bI_f hcf, iT_f (fun y => y.2.2 s), f3, Int.add_zero]
      · have hct : cnts R i x q c := ⟨by omega, s, by
          rcases k.2 with y | y
          · exact Or.inr (Or.inr y)
          · by_cases h0 : R (143 + 16 * i) = 0
            · exact Or.inr (Or.inl h0)
            · exact Or.inl (by omega)⟩
        refine ih (x + 1) (q + 1) 0 _ (by omega) (by omega) (by omega) (by omega) (by omega) ?_ ?_ (fun b j y => ?_) (fun d' f1 f2 f3 => h d' f1 ?_ ?_)
        · rw [ud_ne (by omega), ud_same]; omega
        · rw [ud_ne (by omega), ud_same]; omega
        · rw [ud_ne (by omega), ud_ne (by omega)]; exact hf b j y
        · rw [bI_t hct, iT_t ⟨w.1, w.2, s⟩, f2, ud_ne (by omega), ud_same]; omega
        · rw [bI_t hct, iT_t ⟨w.1, w.2, s⟩, f3, ud_same]
      · have hct : cnts R i x q c := ⟨by omega, s, by
          rcases k.2 with y | y
          · exact Or.inr (Or.inr y)
          · by_cases h0 : R (143 + 16 * i) = 0
            · exact Or.inr (Or.inl h0)
            · exact Or.inl (by omega)⟩
        refine ih (x + 1) q (c + 1) _ (by omega) (by omega) (by omega) (by omega) (by omega) ?_ ?_ (fun b j y => ?_) (fun d' f1 f2 f3 => h d' f1 ?_ ?_)
        · rw [ud_same]; omega
        · rw [ud_same]; omega
        · rw [ud_ne (by omega)]; exact hf b j y
        · rw [bI_t hct, iT_f (fun y => w ⟨y.1, y.2.1⟩), f2, ud_same]; omega
        · rw [bI_t hct, iT_f (fun y => w ⟨y.1, y.2.1⟩), f3, ud_ne (by omega)]
      · have hcf : ¬ cnts R i x q c := fun y => k ⟨by have := y.1; omega, by
          rcases y.2.2 with v | v | v
          · exact Or.inr (fun u => by omega)
          · exact Or.inr (fun u => u.2 v)
          · exact Or.inl v⟩
        refine ih (x + 1) (q + 1) 0 _ (by omega) (by omega) (by omega) (by omega) (by omega) ?_ ?_ (fun b j y => ?_) (fun d' f1 f2 f3 => h d' f1 ?_ ?_)
        · rw [ud_ne (by omega)]; omega
        · rw [ud_ne (by omega)]; omega
        · rw [ud_ne (by omega)]; exact hf b j y
        · rw [bI_f hcf, iT_t ⟨by omega, w.2, s⟩, f2, ud_ne (by omega), Int.zero_add]
        · rw [bI_f hcf, iT_t ⟨by omega, w.2, s⟩, f3, ud_same]
      · have hcf : ¬ cnts R i x q c := fun y => k ⟨by have := y.1; omega, by
          rcases y.2.2 with v | v | v
          · exact Or.inr (fun u => by omega)
          · exact Or.inr (fun u => u.2 v)
          · exact Or.inl v⟩
        refine ih (x + 1) q c d (by omega) (by omega) hq hc (by omega) h4 (by omega) hf (fun d' f1 f2 f3 => h d' f1 ?_ ?_)
        · rw [bI_f hcf, iT_f (fun y => w ⟨by omega, y.2.1⟩), f2, Int.add_zero, Int.zero_add]
        · rw [bI_f hcf, iT_f (fun y => w ⟨by omega, y.2.1⟩), f3, Int.add_zero]
    · have hq2 : partsF R i ≤ q := Int.not_lt.mp (fun y => z ⟨by omega, by omega⟩)
      refine h d hf ?_ ?_
      · rw [wk_s, if_pos hq2, Int.add_zero]
      · rw [EW_s, if_pos hq2]
theorem f_walk {x2 x3 : Int} {R : rW} {g : mG} {d : mD} {Q : mQ} (hC : CI d R) (hi : 0 ≤ x2 ∧ x2 < R 3) (h3 : x3 ≤ 4999 ∧ R 0 ≤ x3) (h : ∀ d', FrM d d' → d' 56 4 = wk R x2 (x3 - R (141 + 16 * x2)).toNat (R (141 + 16 * x2) + 1) 0 0 → d' 56 5 = EW R x2 (x3 - R (141 + 16 * x2)).toNat (R (141 + 16 * x2) + 1) 0 0 5000 → Q (.inl 0) g d') : MM mX4_walk [vR 56, vR 16, vI x2, vI x3] g d Q := by
  have hR := hC.w
  have h30 := hR.n.2.2.2.1
  have h0 := hR.n.1
  have hd := hR.dl hi
  unfold DLW at hd
  have hdl := hC.dl.2 x2 hi
  unfold DLS at hdl
  refine eX4_walk (f_markHolidays hC (fun d1 f1 b1 => ?_))
  have hC1 : CI d1 R := hC.fr (fun b j q1 q2 => f1 b j (by omega))
  show MM mX4_markStays [vR 56, vR 16, vI x2] g d1 _
  refine f_markStays hC1 hi (fun d2 f2 b2 => ?_)
  have hC2 : CI d2 R := hC1.fr (fun b j q1 q2 => f2 b j (by omega))
  have b3 : BH d2 R := fun x hx => by
    rw [show d2 57 = d1 57 from funext fun j => f2 57 j (by decide)]
    exact b1 x hx
  show (0 ≤ x2 ∧ x2 < 30) ∧ (iI (d2 19 x2 + 1) ∧ pX4_walk_1 x2 x3 (d2 21 x2) 0 0 (d2 19 x2 + 1) g (ud (ud d2 56 4 0) 56 5 5000) Q)
  rw [f2 19 x2 (by decide), f1 19 x2 (by decide), f2 21 x2 (by decide), f1 21 x2 (by decide), hdl.2.2.1, hdl.2.2.2.2.1]
  refine ⟨by omega, ik (by omega), ?_⟩
  have e4 : (ud (ud d2 56 4 0) 56 5 5000) 56 4 = 0 := by rw [ud_ne (by omega), ud_same]
  have e5 : (ud (ud d2 56 4 0) 56 5 5000) 56 5 = 5000 := ud_same _ _ _ _
  refine l_walk hC2 hi b3 b2 h3.1 (x3 - R (141 + 16 * x2)).toNat _ 0 0 _ (by omega) (by omega) (by omega) (by omega) (by omega) (by omega) (by omega) (fun b j q => by rw [ud_ne (by omega), ud_ne (by omega)]) (fun d' g1 g2 g3 => h d' (fun {b j} q => ?_) (by rw [g2, e4, Int.zero_add]) (by rw [g3, e5]))
  rw [g1 b j (by omega), f2 b j (by omega), f1 b j (by omega)]
theorem f_countedUntilM {x2 x3 : Int} {R : rW} {g : mG} {d : mD} {Q : mQ} (h : CI d R ∧ (0 ≤ x2 ∧ x2 < R 3) ∧ x3 = R 0 ∧ ∀ d', FrM d d' → Q (.inl (ctF R x2)) g d') : MM mX4_countedUntil [vR 56, vR 16, vI x2, vI x3] g d Q := by
  obtain ⟨hC, hi, rfl, hq⟩ := h
  have h0 := hC.w.n.1
  refine eX4_countedUntil (f_walk hC hi (by omega) (fun d' f1 f2 f3 => ?_))
  show Q (.inl (d' 56 4)) g d'
  rw [f2]
  exact hq d' f1
theorem EW_wait {R : rW} {i q : Int} (hq : q < partsF R i) : ∀ (n : Nat) (x : Int), x + n = 5000 → EW R i n x q (plenF R i q) 5000 = iT (fd (fun x => court R x ∧ ¬ stopd R (R (139 + 16 * i)) (R (140 + 16 * i)) x) x = 5000) 5000 (EW R i (4999 - fd (fun x => court R x ∧ ¬ stopd R (R (139 + 16 * i)) (R (140 + 16 * i)) x) x).toNat (fd (fun x => court R x ∧ ¬ stopd R (R (139 + 16 * i)) (R (140 + 16 * i)) x) x + 1) (q + 1) 0 (iT (q + 1 = partsF R i) (fd (fun x => court R x ∧ ¬ stopd R (R (139 + 16 * i)) (R (140 + 16 * i)) x) x) 5000)) := by
  intro n
  induction n with
  | zero =>
    intro x hn
    rw [fd_here (Or.inr (by omega)), iT_t (p := x = 5000) (by omega)]
    rfl
  | succ n ih =>
    intro x hn
    rw [EW_s, if_neg (by omega), bI_f (p := cnts R i x q (plenF R i q)) (fun z => absurd z.1 (by omega)), Int.add_zero]
    by_cases hc : court R x ∧ ¬ stopd R (R (139 + 16 * i)) (R (140 + 16 * i)) x
    · rw [iT_t ⟨rfl, hc⟩, fd_here (Or.inl hc), iT_f (p := x = 5000) (by omega), show (4999 - x).toNat = n by omega]
    · rw [iT_f (fun z => hc z.2), fd_step hc (by omega), ih (x + 1) (by omega)]
theorem EW_part {R : rW} {i q : Int} (hq : 0 ≤ q ∧ q < partsF R i) (hb : R (143 + 16 * i) = 0 ∨ R (143 + 16 * i) = 1) : ∀ (n : Nat) (x l : Int), x + n = 5000 → 1 ≤ l → l ≤ plenF R i q →
    EW R i n x q (plenF R i q - l) 5000 = iT (fd (fun x => court R x ∧ ¬ stopd R (R (139 + 16 * i)) (R (140 + 16 * i)) x) (fd (fun y => l ≤ cn (Cc R (R (139 + 16 * i)) (R (140 + 16 * i)) (bI (q = 0 ∧ R (143 + 16 * i) = 1))) x y) x) = 5000) 5000 (EW R i (4999 - fd (fun x => court R x ∧ ¬ stopd R (R (139 + 16 * i)) (R (140 + 16 * i)) x) (fd (fun y => l ≤ cn (Cc R (R (139 + 16 * i)) (R (140 + 16 * i)) (bI (q = 0 ∧ R (143 + 16 * i) = 1))) x y) x)).toNat (fd (fun x => court R x ∧ ¬ stopd R (R (139 + 16 * i)) (R (140 + 16 * i)) x) (fd (fun y => l ≤ cn (Cc R (R (139 + 16 * i)) (R (140 + 16 * i)) (bI (q = 0 ∧ R (143 + 16 * i) = 1))) x y) x) + 1) (q + 1) 0 (iT (q + 1 = partsF R i) (fd (fun x => court R x ∧ ¬ stopd R (R (139 + 16 * i)) (R (140 + 16 * i)) x) (fd (fun y => l ≤ cn (Cc R (R (139 + 16 * i)) (R (140 + 16 * i)) (bI (q = 0 ∧ R (143 + 16 * i) = 1))) x y) x)) 5000)) := by
  generalize hCd : Cc R (R (139 + 16 * i)) (R (140 + 16 * i)) (bI (q = 0 ∧ R (143 + 16 * i) = 1)) = C
  have hcn : ∀ x c, c < plenF R i q → (cnts R i x q c ↔ C x) := by
    intro x c hc
    rw [← hCd]
    unfold cnts Cc
    have e : bI (q = 0 ∧ R (143 + 16 * i) = 1) = 0 ↔ (0 < q ∨ R (143 + 16 * i) = 0) := by
      rw [bI_0]
      constructor <;> intro z <;> omega
    rw [e]
    constructor
    · rintro ⟨-, a, b⟩
      exact ⟨a, by rcases b with b | b | b; exact Or.inl (Or.inl b); exact Or.inl (Or.inr b); exact Or.inr b⟩
    · rintro ⟨a, b⟩
      exact ⟨hc, a, by rcases b with (b | b) | b; exact Or.inl b; exact Or.inr (Or.inl b); exact Or.inr (Or.inr b)⟩
  have hCs : ∀ x, C x → ¬ stopd R (R (139 + 16 * i)) (R (140 + 16 * i)) x := fun x hx => by rw [← hCd] at hx; exact hx.1
  intro n
  induction n with
  | zero =>
    intro x l hn hl hl2
    rw [fd_here (P := fun y => l ≤ cn C x y) (a := x) (Or.inr (by omega)), fd_here (a := x) (Or.inr (by omega)), iT_t (p := x = 5000) (by omega)]
    rfl
  | succ n ih =>
    intro x l hn hl hl2
    rw [EW_s, if_neg (by omega), bI_cg (hcn x (plenF R i q - l) (by omega))]
    by_cases hcx : C x
    · rw [bI_t hcx]
      by_cases hl1 : l = 1
      · subst hl1
        rw [fd_here (P := fun y => (1 : Int) ≤ cn C x y) (a := x) (Or.inl (by rw [cn_one, bI_t hcx]; exact Int.le_refl _))]
        by_cases hco : court R x
        · rw [iT_t (p := plenF R i q - 1 + 1 = plenF R i q ∧ court R x ∧ ¬ stopd R (R (139 + 16 * i)) (R (140 + 16 * i)) x) ⟨by omega, hco, hCs x hcx⟩, fd_here (a := x) (Or.inl ⟨hco, hCs x hcx⟩), iT_f (p := x = 5000) (by omega), show (4999 - x).toNat = n by omega]
        · rw [iT_f (p := plenF R i q - 1 + 1 = plenF R i q ∧ court R x ∧ ¬ stopd R (R (139 + 16 * i)) (R (140 + 16 * i)) x) (fun z => hco z.2.1), fd_step (fun z => hco z.1) (by omega), show plenF R i q - 1 + 1 = plenF R i q by omega, EW_wait hq.2 n (x + 1) (by omega)]
      · have ef := fd_cut (P := C) (a := x) (b := x + 1) (n := l) (by omega) (by rw [show x + 1 - 1 = x by omega, cn_one, bI_t hcx]; omega)
        rw [show x + 1 - 1 = x by omega, cn_one, bI_t hcx] at ef
        rw [iT_f (p := plenF R i q - l + 1 = plenF R i q ∧ court R x ∧ ¬ stopd R (R (139 + 16 * i)) (R (140 + 16 * i)) x) (fun z => absurd z.1 (by omega)), ef, show plenF R i q - l + 1 = plenF R i q - (l - 1) by omega, ih (x + 1) (l - 1) (by omega) (by omega) (by omega)]
    · rw [bI_f hcx]
      have ef := fd_cut (P := C) (a := x) (b := x + 1) (n := l) (by omega) (by rw [show x + 1 - 1 = x by omega, cn_one, bI_f hcx]; omega)
      rw [show x + 1 - 1 = x by omega, cn_one, bI_f hcx, Int.sub_zero] at ef
      rw [iT_f (p := plenF R i q - l + 0 = plenF R i q ∧ court R x ∧ ¬ stopd R (R (139 + 16 * i)) (R (140 + 16 * i)) x) (fun z => absurd z.1 (by omega)), ef, show plenF R i q - l + 0 = plenF R i q - l by omega, ih (x + 1) l (by omega) (by omega) (by omega)]
theorem EW_due {R : rW} (hR : RW R) {i : Int} (hi : 0 ≤ i ∧ i < R 3) : ∀ (m : Nat) (q y : Int), 0 ≤ q → q + (m + 1 : Nat) = partsF R i → 0 ≤ y ∧ y ≤ 4999 → EW R i (4999 - y).toNat (y + 1) q 0 5000 = dueN R i (m + 1) q y := by
  have hd := hR.dl hi
  unfold DLW at hd
  intro m
  induction m with
  | zero =>
    intro q y hq hm hy
    have hl := plen_rng hR hi (q := q) (by omega)
    have hp := EW_part (R := R) (i := i) (q := q) (by omega) hd.2.2.2.2.1 (4999 - y).toNat (y + 1) (plenF R i q) (by omega) hl.1 (Int.le_refl _)
    rw [Int.sub_self] at hp
    rw [hp, dueN_s, if_neg (by omega)]
    have e : fd (fun x => court R x ∧ ¬ stopd R (R (139 + 16 * i)) (R (140 + 16 * i)) x) (fd (fun y_1 => plenF R i q ≤ cn (Cc R (R (139 + 16 * i)) (R (140 + 16 * i)) (bI (q = 0 ∧ R (143 + 16 * i) = 1))) (y + 1) y_1) (y + 1)) = endF R (R (139 + 16 * i)) (R (140 + 16 * i)) y (plenF R i q) (bI (q = 0 ∧ R (143 + 16 * i) = 1)) := rfl
    rw [e, EW_done (by omega), iT_t (p := q + 1 = partsF R i) (by omega)]
    show _ = endF R (R (139 + 16 * i)) (R (140 + 16 * i)) y (plenF R i q) (bI (q = 0 ∧ R (143 + 16 * i) = 1))
    generalize endF R (R (139 + 16 * i)) (R (140 + 16 * i)) y (plenF R i q) (bI (q = 0 ∧ R (143 + 16 * i) = 1)) = E
    rcases iT_or (p := E = 5000) 5000 E with ⟨h1, h2⟩ | ⟨h1, h2⟩ <;> rw [h2]
    exact h1.symm
  | succ m ih =>
    intro q y hq hm hy
    have hl := plen_rng hR hi (q := q) (by omega)
    have hp := EW_part (R := R) (i := i) (q := q) (by omega) hd.2.2.2.2.1 (4999 - y).toNat (y + 1) (plenF R i q) (by omega) hl.1 (Int.le_refl _)
    rw [Int.sub_self] at hp
    rw [hp, dueN_s, if_neg (by omega)]
    have e : fd (fun x => court R x ∧ ¬ stopd R (R (139 + 16 * i)) (R (140 + 16 * i)) x) (fd (fun y_1 => plenF R i q ≤ cn (Cc R (R (139 + 16 * i)) (R (140 + 16 * i)) (bI (q = 0 ∧ R (143 + 16 * i) = 1))) (y + 1) y_1) (y + 1)) = endF R (R (139 + 16 * i)) (R (140 + 16 * i)) y (plenF R i q) (bI (q = 0 ∧ R (143 + 16 * i) = 1)) := rfl
    have he := endF_rng (R := R) (p := R (139 + 16 * i)) (r := R (140 + 16 * i)) (f := y) (len := plenF R i q) (ic := bI (q = 0 ∧ R (143 + 16 * i) = 1)) (by omega)
    rw [e, iT_f (p := q + 1 = partsF R i) (by omega)]
    generalize endF R (R (139 + 16 * i)) (R (140 + 16 * i)) y (plenF R i q) (bI (q = 0 ∧ R (143 + 16 * i) = 1)) = E at he
    by_cases h5 : E = 5000
    · rw [iT_t h5, h5, dueN_5]
    · rw [iT_f h5]
      exact ih (q + 1) E (by omega) (by omega) (by omega)
theorem f_endOfM {x2 : Int} {R : rW} {g : mG} {d : mD} {Q : mQ} (h : CI d R ∧ (0 ≤ x2 ∧ x2 < R 3) ∧ ∀ d', FrM d d' → Q (.inl (dueF R x2)) g d') : MM mX4_endOf [vR 56, vR 16, vI x2] g d Q := by
  obtain ⟨hC, hi, hq⟩ := h
  have hR := hC.w
  have h0 := hR.n.1
  have hd := hR.dl hi
  unfold DLW at hd
  have hp := parts_rng hR hi
  refine eX4_endOf (f_walk hC hi (by omega) (fun d' f1 f2 f3 => ?_))
  show Q (.inl (d' 56 5)) g d'
  rw [f3, EW_due hR hi ((partsF R x2).toNat - 1) 0 (R (141 + 16 * x2)) (by omega) (by omega) (by omega), show (partsF R x2).toNat - 1 + 1 = (partsF R x2).toNat by omega]
  exact hq d' f1
