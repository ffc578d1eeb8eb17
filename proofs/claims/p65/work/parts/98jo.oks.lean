-- a change that is refused changes nothing; one that is not answers no negative number
theorem ok_advance {R : rW} {x : Int} (hR : RW R) : OkS [-2, -3] R (st_advance R x) := OkS.i (fun c => OkS.i (fun _ => OkS.v (by have := hR.n.1; omega)) (fun _ => OkS.e (by decide))) (fun _ => OkS.e (by decide))
theorem ok_addHoliday {R : rW} {x : Int} (hR : RW R) : OkS [-2, -3] R (st_addHoliday R x) := OkS.i (fun c => OkS.i (fun _ => OkS.v (by have := hR.n.2.2.1; omega)) (fun _ => OkS.e (by decide))) (fun _ => OkS.e (by decide))
theorem ok_removeHoliday {R : rW} {x : Int} (hR : RW R) : OkS [-2, -5] R (st_removeHoliday R x) := OkS.i (fun c => OkS.i (fun _ => OkS.e (by decide)) (fun c2 => OkS.v (by have := hAt_2 hR.n.2.2.1.2 c2; omega))) (fun _ => OkS.e (by decide))
theorem ok_setRule {R : rW} {x y z : Int} (hR : RW R) : OkS [-1, -2] R (st_setRule R x y z) := OkS.i (fun c => OkS.i (fun _ => OkS.v (by have := hR.r.1 x c; omega)) (fun _ => OkS.e (by decide))) (fun _ => OkS.e (by decide))
theorem ok_setServiceDays {R : rW} {x y : Int} (hR : RW R) : OkS [-2] R (st_setServiceDays R x y) := OkS.i (fun _ => OkS.e (by decide)) (fun c => OkS.v (by
  have hw := way_rng x
  have := hR.r.2 (wayF x) (by omega)
  omega))
theorem ok_serve {R : rW} {x y z : Int} (hR : RW R) : OkS [-1, -2, -3] R (st_serve R x y z) := OkS.i (fun c => OkS.i (fun _ => OkS.e (by decide)) (fun _ => OkS.i (fun _ => OkS.v (by have := hR.n.2.2.2.1; omega)) (fun _ => OkS.e (by decide)))) (fun _ => OkS.e (by decide))
theorem ok_consent {R : rW} {x y : Int} (hR : RW R) : OkS [-1, -2, -3, -4] R (st_consent R x y) := OkS.i (fun c => OkS.i (fun c2 => OkS.i (fun _ => OkS.i (fun _ => OkS.v (by have := grF_rng (hR.dl c); omega)) (fun _ => OkS.e (by decide))) (fun _ => OkS.e (by decide))) (fun _ => OkS.e (by decide))) (fun _ => OkS.e (by decide))
theorem ok_order {R : rW} {x y : Int} (hR : RW R) : OkS [-1, -2, -3] R (st_order R x y) := OkS.i (fun c => OkS.i (fun c2 => OkS.i (fun _ => OkS.v (by have := grF_rng (hR.dl c); omega)) (fun _ => OkS.e (by decide))) (fun _ => OkS.e (by decide))) (fun _ => OkS.e (by decide))
theorem ok_file {R : rW} {x : Int} (_ : RW R) : OkS [-1, -3] R (st_file R x) := OkS.i (fun c => OkS.i (fun _ => OkS.v bI_rng.1) (fun _ => OkS.e (by decide))) (fun _ => OkS.e (by decide))
theorem ok_strike {R : rW} {x : Int} (_ : RW R) : OkS [-1, -3] R (st_strike R x) := OkS.i (fun c => OkS.i (fun _ => OkS.v (cnN_rng _ _ _).1) (fun _ => OkS.e (by decide))) (fun _ => OkS.e (by decide))
theorem ok_stay {R : rW} {p x : Int} (hR : RW R) : OkS [-2, -3] R (st_stay R p x) := OkS.i (fun c => OkS.i (fun _ => OkS.v (by have := hR.n.2.2.2.2.1; omega)) (fun _ => OkS.e (by decide))) (fun _ => OkS.e (by decide))
theorem ok_stayParty {R : rW} {p x : Int} (hR : RW R) : OkS [-1, -2, -3] R (st_stayParty R p x) := OkS.i (fun _ => OkS.i (fun c => OkS.i (fun _ => OkS.v (by have := hR.n.2.2.2.2.1; omega)) (fun _ => OkS.e (by decide))) (fun _ => OkS.e (by decide))) (fun _ => OkS.e (by decide))
theorem ok_lift {R : rW} {x : Int} (hR : RW R) : OkS [-1, -3] R (st_lift R x) := OkS.i (fun c => OkS.i (fun _ => OkS.v (by have := (hR.s.1 x c).2.2.1; omega)) (fun _ => OkS.e (by decide))) (fun _ => OkS.e (by decide))
theorem ok_occ {R : rW} {x y : Int} (hR : RW R) : OkS [-2, -1, -3] R (st_occ R x y) := OkS.i (fun c => OkS.i (fun _ => OkS.i (fun _ => OkS.v (by have := hR.n.2.2.2.2.2.1; omega)) (fun _ => OkS.e (by decide))) (fun _ => OkS.e (by decide))) (fun _ => OkS.e (by decide))
theorem ok_link {R : rW} {x y : Int} (_ : RW R) : OkS [-1, -2, -3] R (st_link R x y) := OkS.i (fun c => OkS.i (fun _ => OkS.e (by decide)) (fun _ => OkS.i (fun _ => OkS.e (by decide)) (fun _ => OkS.v (cnN_rng _ _ _).1))) (fun _ => OkS.e (by decide))
theorem ok_fileClaim {R : rW} {x y : Int} (hR : RW R) : OkS [-1, -3] R (st_fileClaim R x y) := OkS.i (fun c => OkS.i (fun _ => OkS.v (by have := hR.n.2.2.2.2.2.2; omega)) (fun _ => OkS.e (by decide))) (fun _ => OkS.e (by decide))
theorem ok_amendClaim {R : rW} {x y : Int} (hR : RW R) : OkS [-1, -3] R (st_amendClaim R x y) := OkS.i (fun c => OkS.i (fun _ => OkS.v (by have := hR.n.2.2.2.2.2.2; omega)) (fun _ => OkS.e (by decide))) (fun _ => OkS.e (by decide))
theorem ok_addParty {R : rW} {N : Int → Int} {L : Int} (hR : RW R) : OkS [-2, -3] R (st_addParty R N L) := OkS.i (fun _ => OkS.e (by decide)) (fun _ => OkS.i (fun _ => OkS.v (by have := hR.n.2.1; omega)) (fun _ => OkS.e (by decide)))
theorem file_01 {R : rW} {x : Int} (_ : RW R) (h : 0 ≤ (st_file R x).1) : (st_file R x).1 = 0 ∨ (st_file R x).1 = 1 := by
  unfold st_file at h ⊢
  by_cases c : 0 ≤ x ∧ x < R 3
  · rw [sO_t c] at h ⊢
    by_cases c2 : opn R x
    · rw [sO_t c2]
      have := @bI_rng (R 0 ≤ dueF R x)
      show bI (R 0 ≤ dueF R x) = 0 ∨ bI (R 0 ≤ dueF R x) = 1
      omega
    · rw [sO_f c2] at h
      exact absurd h (show ¬ (0 : Int) ≤ -3 by decide)
  · rw [sO_f c] at h
    exact absurd h (show ¬ (0 : Int) ≤ -1 by decide)
