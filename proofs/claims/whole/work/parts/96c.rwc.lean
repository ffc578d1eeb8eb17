-- a command keeps a row well-formed
theorem w_stC {R : rW} (hR : RW R) {v a b w : Int} : RW (stC R v a b w).2 := by
  have n1 := hR.n.2.1
  unfold stC
  by_cases c0 : v = 0
  · rw [if_pos c0]
    unfold st_serve
    by_cases c1 : (0 ≤ a ∧ a < R 1) ∧ (0 ≤ b ∧ b < 8)
    · rw [sO_t c1]
      by_cases c2 : wayF w = -1
      · rw [sO_t c2]; exact hR
      · rw [sO_f c2]
        by_cases c3 : R 3 < 30
        · rw [sO_t c3]
          have := way_rng w
          exact w_serve hR c1.1 c1.2 (by omega) c3
        · rw [sO_f c3]; exact hR
    · rw [sO_f c1]; exact hR
  rw [if_neg c0]
  by_cases c0 : v = 1
  · rw [if_pos c0]
    unfold st_advance
    by_cases c1 : 1 ≤ a ∧ a ≤ 400
    · rw [sO_t c1]
      by_cases c2 : R 0 + a ≤ 1500
      · rw [sO_t c2]; exact w_advance hR ⟨c1.1, c2⟩
      · rw [sO_f c2]; exact hR
    · rw [sO_f c1]; exact hR
  rw [if_neg c0]
  by_cases c0 : v = 2
  · rw [if_pos c0]
    unfold st_stay
    by_cases c1 : 1 ≤ a ∧ a ≤ 255
    · rw [sO_t c1]
      by_cases c2 : R 4 < 12
      · rw [sO_t c2]; exact w_stay hR (by omega) c1 c2
      · rw [sO_f c2]; exact hR
    · rw [sO_f c1]; exact hR
  rw [if_neg c0]
  by_cases c0 : v = 3
  · rw [if_pos c0]
    unfold st_lift
    by_cases c1 : 0 ≤ a ∧ a < R 4
    · rw [sO_t c1]
      by_cases c2 : R (622 + 4 * a) = -1
      · rw [sO_t c2]; exact w_lift hR c1
      · rw [sO_f c2]; exact hR
    · rw [sO_f c1]; exact hR
  rw [if_neg c0]
  by_cases c0 : v = 4
  · rw [if_pos c0]
    unfold st_consent
    by_cases c1 : 0 ≤ a ∧ a < R 3
    · rw [sO_t c1]
      by_cases c2 : 1 ≤ b ∧ b ≤ 28
      · rw [sO_t c2]
        by_cases c3 : opn R a ∧ R 0 ≤ dueF R a ∧ R (147 + 16 * a) < 2
        · rw [sO_t c3]
          by_cases c4 : R (149 + 16 * a) + b ≤ 28
          · rw [sO_t c4]; exact w_consent hR c1 c3.2.2 c4 c2
          · rw [sO_f c4]; exact hR
        · rw [sO_f c3]; exact hR
      · rw [sO_f c2]; exact hR
    · rw [sO_f c1]; exact hR
  rw [if_neg c0]
  by_cases c0 : v = 5
  · rw [if_pos c0]
    unfold st_file
    by_cases c1 : 0 ≤ a ∧ a < R 3
    · rw [sO_t c1]
      by_cases c2 : opn R a
      · rw [sO_t c2]; exact w_status hR c1 stOk_file
      · rw [sO_f c2]; exact hR
    · rw [sO_f c1]; exact hR
  rw [if_neg c0]
  unfold st_addHoliday
  by_cases c1 : 0 ≤ a ∧ a ≤ 4999
  · rw [sO_t c1]
    by_cases c2 : hAt R a = -1 ∧ R 2 < 40
    · rw [sO_t c2]; exact w_addHoliday hR c1 c2.1 c2.2
    · rw [sO_f c2]; exact hR
  · rw [sO_f c1]; exact hR
-- a program over a row: the number of the command that fails, or -1; the row behind
noncomputable def stK (T : rW) (n : Int) (R : rW) (k : Int) : Int × rW := stC R (vb T n (psP T n k.toNat)) (vlA T n (vb T n (psP T n k.toNat)) (wS T n (vb T n (psP T n k.toNat)) (psP T n k.toNat)).1) (vlB T n (vb T n (psP T n k.toNat)) (wS T n (vb T n (psP T n k.toNat)) (psP T n k.toNat)).1) (sgF T n (sv2 T n (wS T n (vb T n (psP T n k.toNat)) (psP T n k.toNat)).1).1)
noncomputable def rnN (T : rW) (n : Int) : Nat → Int → rW → Int × rW
  | 0, _, R => (-1, R)
  | m + 1, k, R => if (stK T n R k).1 < 0 then (k, R) else rnN T n m (k + 1) (stK T n R k).2
noncomputable def rnF (T : rW) (n : Int) (R : rW) : Int × rW := rnN T n (pgF T n).2.toNat 0 R
theorem vb_rng {T : rW} {n p : Int} : 0 ≤ vb T n p ∧ vb T n p ≤ 6 := by
  unfold vb
  split
  · decide
  split
  · decide
  split
  · decide
  split
  · decide
  split
  · decide
  split
  · decide
  · decide
