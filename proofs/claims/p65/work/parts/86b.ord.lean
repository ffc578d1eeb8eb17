-- the order of the open deadlines
theorem cnN_sub {P Q : Int → Prop} : ∀ (n : Nat) (a : Int), (∀ x, a ≤ x → x < a + n → P x → Q x) → cnN P n a ≤ cnN Q n a := by
  intro n
  induction n with
  | zero => intro a _; exact Int.le_refl _
  | succ n ih =>
    intro a h
    show bI (P a) + cnN P n (a + 1) ≤ bI (Q a) + cnN Q n (a + 1)
    have h1 := ih (a + 1) (fun x q1 q2 => h x (by omega) (by omega))
    by_cases p : P a
    · rw [bI_t p, bI_t (h a (Int.le_refl _) (by omega) p)]; omega
    · have := @bI_rng (Q a)
      rw [bI_f p]; omega
theorem cnN_lt {P Q : Int → Prop} {n : Nat} {a z : Int} (h : ∀ x, a ≤ x → x < a + n → P x → Q x) (hz : a ≤ z ∧ z < a + n) (hQ : Q z) (hP : ¬ P z) : cnN P n a < cnN Q n a := by
  have h1 := cnN_del (P := fun x => Q x ∧ x ≠ z) (Q := Q) (z := z) (fun x => Iff.rfl) n a
  have h2 := cnN_sub (P := P) (Q := fun x => Q x ∧ x ≠ z) n a (fun x q1 q2 p => ⟨h x q1 q2 p, fun e => hP (e ▸ p)⟩)
  rw [bI_t ⟨hz.1, hz.2, hQ⟩] at h1
  omega
theorem cnN_or {P Q : Int → Prop} : ∀ (n : Nat) (a : Int), cnN (fun x => P x ∨ Q x) n a ≤ cnN P n a + cnN Q n a := by
  intro n
  induction n with
  | zero => intro a; show (0 : Int) ≤ 0 + 0; decide
  | succ n ih =>
    intro a
    show bI (P a ∨ Q a) + cnN (fun x => P x ∨ Q x) n (a + 1) ≤ bI (P a) + cnN P n (a + 1) + (bI (Q a) + cnN Q n (a + 1))
    have h1 := ih (a + 1)
    have hp := @bI_rng (P a)
    have hq := @bI_rng (Q a)
    by_cases p : P a
    · rw [bI_t p, bI_t (Or.inl p)]; omega
    · by_cases q : Q a
      · rw [bI_t q, bI_t (Or.inr q)]; omega
      · rw [bI_f (fun z => z.elim p q)]; omega
theorem cnN_1 {P : Int → Prop} : ∀ (n : Nat) (a : Int), (∀ x y, a ≤ x → x < a + n → a ≤ y → y < a + n → P x → P y → x = y) → cnN P n a ≤ 1 := by
  intro n
  induction n with
  | zero => intro a _; show (0 : Int) ≤ 1; decide
  | succ n ih =>
    intro a h
    show bI (P a) + cnN P n (a + 1) ≤ 1
    by_cases p : P a
    · have h0 : cnN P n (a + 1) ≤ cnN (fun _ => False) n (a + 1) := cnN_sub n (a + 1) (fun x q1 q2 px => by
        have := h a x (Int.le_refl _) (by omega) (by omega) (by omega) p px
        omega)
      have h1 : ∀ (m : Nat) (b : Int), cnN (fun _ => False) m b = 0 := by
        intro m
        induction m with
        | zero => intro b; rfl
        | succ m ihm =>
          intro b
          show bI False + cnN (fun _ => False) m (b + 1) = 0
          rw [ihm, bI_f (fun z => z)]
          rfl
      rw [h1] at h0
      rw [bI_t p]; omega
    · have := ih (a + 1) (fun x y q1 q2 q3 q4 => h x y (by omega) (by omega) (by omega) (by omega))
      rw [bI_f p]; omega
theorem rk_rng {R : rW} {i : Int} : 0 ≤ rkF R i ∧ rkF R i ≤ (R 3).toNat := cnN_rng _ _ _
/-- i stands ahead of j -/
theorem rk_lt {R : rW} {i j : Int} (hi : 0 ≤ i ∧ i < R 3) (h : bef R j i) : rkF R i < rkF R j := by
  unfold rkF
  refine cnN_lt (z := i) (fun x q1 q2 p => ?_) (by omega) h (fun p => ?_)
  · unfold bef at p h ⊢
    exact ⟨p.1, by omega⟩
  · unfold bef at p
    omega
theorem rk_le {R : rW} {i j : Int} (oj : opn R j) (h : ¬ bef R i j) : rkF R i ≤ rkF R j := by
  unfold rkF
  refine cnN_sub _ _ (fun x q1 q2 p => ?_)
  unfold bef at p h ⊢
  exact ⟨p.1, by
    have : ¬ (odF R j < odF R i ∨ (odF R j = odF R i ∧ ¬ i ≤ j)) := fun z => h ⟨oj, z⟩
    omega⟩
theorem rk_inj {R : rW} {i j : Int} (hi : 0 ≤ i ∧ i < R 3) (hj : 0 ≤ j ∧ j < R 3) (oi : opn R i) (oj : opn R j) (h : rkF R i = rkF R j) : i = j := by
  refine Classical.byContradiction fun e => ?_
  by_cases h1 : odF R i < odF R j ∨ (odF R i = odF R j ∧ ¬ j ≤ i)
  · have := rk_lt (R := R) hi (j := j) ⟨oi, h1⟩
    omega
  · have h2 : odF R j < odF R i ∨ (odF R j = odF R i ∧ ¬ i ≤ j) := by omega
    have := rk_lt (R := R) hj (j := i) ⟨oj, h2⟩
    omega
def blw (R : rW) (t : Int) (k : Int) : Prop := opn R k ∧ rkF R k < t
theorem blw_le {R : rW} : ∀ t : Nat, cnN (blw R t) (R 3).toNat 0 ≤ t := by
  intro t
  induction t with
  | zero =>
    have h3 : ∀ (m : Nat) (b : Int), cnN (blw R ((0 : Nat) : Int)) m b = 0 := by
      intro m
      induction m with
      | zero => intro b; rfl
      | succ m ihm =>
        intro b
        show bI (blw R ((0 : Nat) : Int) b) + cnN (blw R ((0 : Nat) : Int)) m (b + 1) = 0
        rw [ihm, bI_f (fun p => absurd p.2 (by have := (rk_rng (R := R) (i := b)).1; omega))]
        rfl
    rw [h3]
    exact Int.le_refl _
  | succ t ih =>
    have h1 : cnN (blw R ((t + 1 : Nat) : Int)) (R 3).toNat 0 ≤ cnN (fun x => blw R (t : Int) x ∨ (opn R x ∧ rkF R x = t)) (R 3).toNat 0 := cnN_sub _ _ (fun x q1 q2 p => by
      unfold blw at p ⊢
      by_cases e : rkF R x = t
      · exact Or.inr ⟨p.1, e⟩
      · exact Or.inl ⟨p.1, by have := p.2; omega⟩)
    have h2 := cnN_or (P := blw R (t : Int)) (Q := fun x => opn R x ∧ rkF R x = t) (R 3).toNat 0
    have h3 := cnN_1 (P := fun x => opn R x ∧ rkF R x = t) (R 3).toNat 0 (fun x y q1 q2 q3 q4 p q => rk_inj (by omega) (by omega) p.1 q.1 (p.2.trans q.2.symm))
    omega
theorem rk_down {R : rW} {t : Nat} : ∀ (n : Nat) (i : Int), 0 ≤ i ∧ i < R 3 → opn R i → rkF R i ≤ n → rkF R i < t ∨ ∃ j, (0 ≤ j ∧ j < R 3) ∧ opn R j ∧ rkF R j = t := by
  intro n
  induction n with
  | zero =>
    intro i hi oi h
    by_cases e : rkF R i = t
    · exact Or.inr ⟨i, hi, oi, e⟩
    · have := (rk_rng (R := R) (i := i)).1
      exact Or.inl (by omega)
  | succ n ih =>
    intro i hi oi h
    by_cases h1 : rkF R i < t
    · exact Or.inl h1
    · by_cases h2 : rkF R i = t
      · exact Or.inr ⟨i, hi, oi, h2⟩
      · by_cases h3 : ∀ k, 0 ≤ k → k < 0 + ((R 3).toNat : Int) → bef R i k → blw R t k
        · have h4 := cnN_sub (P := bef R i) (Q := blw R t) (R 3).toNat 0 h3
          have h5 := blw_le (R := R) t
          have h6 : rkF R i = cnN (bef R i) (R 3).toNat 0 := rfl
          omega
        · obtain ⟨k, hk⟩ := Classical.not_forall.mp h3
          obtain ⟨k1, hk⟩ := Classical.not_imp.mp hk
          obtain ⟨k2, hk⟩ := Classical.not_imp.mp hk
          obtain ⟨k3, k4⟩ := Classical.not_imp.mp hk
          have hk0 : 0 ≤ k ∧ k < R 3 := by omega
          have k5 := rk_lt hk0 k3
          rcases ih k hk0 k3.1 (by omega) with q | q
          · exact absurd ⟨k3.1, q⟩ k4
          · exact Or.inr q
theorem rk_last {R : rW} {j : Int} (hj : 0 ≤ j ∧ j < R 3) (oj : opn R j) : rkF R j < R 3 := by
  have h1 : cnN (bef R j) (R 3).toNat 0 < cnN (opn R) (R 3).toNat 0 := cnN_lt (z := j) (fun x q1 q2 p => p.1) (by omega) oj (fun p => by unfold bef at p; omega)
  have h2 := (cnN_rng (opn R) (R 3).toNat 0).2
  have h3 : rkF R j = cnN (bef R j) (R 3).toNat 0 := rfl
  omega
noncomputable def ovN (R : rW) : Int := cnN (ovd R) (R 3).toNat 0
theorem ov_rng {R : rW} : 0 ≤ ovN R ∧ ovN R ≤ (R 3).toNat := cnN_rng _ _ _
theorem past_iff {R : rW} {i : Int} (hi : 0 ≤ i ∧ i < R 3) (oi : opn R i) : odF R i < R 0 ↔ rkF R i < ovN R := by
  constructor
  · intro h
    unfold rkF ovN
    refine cnN_lt (z := i) (fun x q1 q2 p => ?_) (by omega) ⟨oi, h⟩ (fun p => ?_)
    · unfold bef at p
      exact ⟨p.1, by omega⟩
    · unfold bef at p
      omega
  · intro h
    refine Classical.byContradiction fun q => ?_
    have : ovN R ≤ rkF R i := by
      unfold rkF ovN
      refine cnN_sub _ _ (fun x q1 q2 p => ?_)
      unfold ovd at p
      exact ⟨p.1, by omega⟩
    omega
theorem ov_end {R : rW} (h3 : 0 ≤ R 3) {t : Int} (ht : 0 ≤ t) (h : ∀ j, 0 ≤ j → j < R 3 → ¬ (opn R j ∧ rkF R j = t)) : ovN R ≤ t := by
  have h1 : cnN (ovd R) (R 3).toNat 0 ≤ cnN (blw R (t.toNat : Int)) (R 3).toNat 0 := cnN_sub _ _ (fun x q1 q2 p => by
    rcases rk_down (R := R) (t := t.toNat) (rkF R x).toNat x (by omega) p.1 (by have := (rk_rng (R := R) (i := x)).1; omega) with q | ⟨j, q3, q4, q5⟩
    · exact ⟨p.1, q⟩
    · exact absurd ⟨q4, by omega⟩ (h j q3.1 q3.2))
  have h2 := blw_le (R := R) t.toNat
  unfold ovN
  omega
theorem oa_spec {R : rW} {x : Int} : ∀ (n : Nat) (k : Int), (∃ j, (k ≤ j ∧ j < k + n) ∧ opn R j ∧ rkF R j = x ∧ oaN R x n k = .inl j) ∨ ((∀ j, k ≤ j → j < k + n → ¬ (opn R j ∧ rkF R j = x)) ∧ oaN R x n k = .inr 4) := by
  intro n
  induction n with
  | zero => intro k; exact Or.inr ⟨fun j q1 q2 => by omega, rfl⟩
  | succ n ih =>
    intro k
    have e : oaN R x (n + 1) k = iO (opn R k ∧ rkF R k = x) (.inl k) (oaN R x n (k + 1)) := rfl
    rw [e]
    by_cases c : opn R k ∧ rkF R k = x
    · rw [iO_t c]
      exact Or.inl ⟨k, by omega, c.1, c.2, rfl⟩
    · rw [iO_f c]
      rcases ih (k + 1) with ⟨j, q1, q2⟩ | ⟨q1, q2⟩
      · exact Or.inl ⟨j, by omega, q2⟩
      · refine Or.inr ⟨fun j q3 q4 => ?_, q2⟩
        by_cases ej : j = k
        · rw [ej]; exact c
        · exact q1 j (by omega) (by omega)
theorem openAt_spec {R : rW} (h3 : 0 ≤ R 3) (x : Int) : (∃ j, (0 ≤ j ∧ j < R 3) ∧ opn R j ∧ rkF R j = x ∧ r_openAt R x = .inl j) ∨ ((∀ j, 0 ≤ j → j < R 3 → ¬ (opn R j ∧ rkF R j = x)) ∧ r_openAt R x = .inr 4) := by
  rcases oa_spec (R := R) (x := x) (R 3).toNat 0 with ⟨j, q1, q2⟩ | ⟨q1, q2⟩
  · exact Or.inl ⟨j, by omega, q2⟩
  · exact Or.inr ⟨fun j q3 q4 => q1 j q3 (by omega), q2⟩
/-- the next in the order has no earlier day -/
theorem od_next {R : rW} {i j : Int} (oi : opn R i) (oj : opn R j) (h : rkF R j < rkF R i) : odF R j ≤ odF R i := by
  refine Classical.byContradiction fun q => ?_
  have := rk_le (R := R) (i := i) (j := j) oj (fun z => by unfold bef at z; omega)
  omega
-- ranges of days, days counted back
theorem bkF_ok {R : rW} {day len ic : Int} (hd : 0 ≤ day) (h : 0 ≤ bkF R day len ic) : bkF R day len ic < day ∧ court R (bkF R day len ic) := by
  unfold bkF at h ⊢
  have a := (bd_spec (P := fun x => len ≤ cn (fun y => ic = 0 ∨ court R y) x (day - 1)) (a := day - 1) (by omega)).1
  have b := bd_spec (P := court R) (a := bd (fun x => len ≤ cn (fun y => ic = 0 ∨ court R y) x (day - 1)) (day - 1)) a.1
  exact ⟨by have := b.1.2; omega, b.2.2 h⟩
