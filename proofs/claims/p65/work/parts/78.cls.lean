-- claims
def clR (R : rW) (p o a : Int) : rW := up (up (up (up (up R (707 + 4 * R 6) p) (708 + 4 * R 6) o) (709 + 4 * R 6) (R 0)) (710 + 4 * R 6) a) 6 (R 6 + 1)
theorem clR_ne {R : rW} {p o a j : Int} (q : ¬ j = 6) (q2 : ¬ (707 + 4 * R 6 ≤ j ∧ j ≤ 710 + 4 * R 6)) : clR R p o a j = R j := by
  unfold clR
  rw [up_n (by omega), up_n (by omega), up_n (by omega), up_n (by omega), up_n (by omega)]
theorem clR_6 {R : rW} {p o a : Int} : clR R p o a 6 = R 6 + 1 := up_s
theorem clR_a {R : rW} {p o a : Int} (h : 0 ≤ R 6) : clR R p o a (707 + 4 * R 6) = p ∧ clR R p o a (708 + 4 * R 6) = o ∧ clR R p o a (709 + 4 * R 6) = R 0 ∧ clR R p o a (710 + 4 * R 6) = a := by
  unfold clR
  refine ⟨?_, ?_, ?_, ?_⟩
  · rw [up_n (by omega), up_n (by omega), up_n (by omega), up_n (by omega), up_s]
  · rw [up_n (by omega), up_n (by omega), up_n (by omega), up_s]
  · rw [up_n (by omega), up_n (by omega), up_s]
  · rw [up_n (by omega), up_s]
theorem w_claim {R : rW} {p o a : Int} (hR : RW R) (hp : 0 ≤ p ∧ p < R 1) (ho : 0 ≤ o ∧ o < R 5) (ha : -1 ≤ a ∧ a < R 6) (h6 : R 6 < 20) : RW (clR R p o a) := by
  have n6 := hR.n.2.2.2.2.2.2
  have n0 := hR.n.1
  obtain ⟨s1, s2, s3, s4⟩ := clR_a (R := R) (p := p) (o := o) (a := a) n6.1
  have e0 : clR R p o a 0 = R 0 := clR_ne (by omega) (by omega)
  have e1 : clR R p o a 1 = R 1 := clR_ne (by omega) (by omega)
  have e5 : clR R p o a 5 = R 5 := clR_ne (by omega) (by omega)
  refine hR.gcls (fun j q => clR_ne (by omega) (by omega)) (by rw [clR_6]; omega) (fun k hk => ?_)
  rw [clR_6] at hk
  unfold CLW
  rw [e0, e1, e5]
  by_cases c : k = R 6
  · subst c
    rw [s1, s2, s3, s4]
    exact ⟨hp, ho, by omega, ha⟩
  · rw [clR_ne (by omega) (by omega), clR_ne (by omega) (by omega), clR_ne (by omega) (by omega), clR_ne (by omega) (by omega)]
    exact hR.c (by omega)
theorem c_claim {d : mD} {R : rW} {p o a : Int} (hC : CI d R) (hp : 0 ≤ p ∧ p < R 1) (ho : 0 ≤ o ∧ o < R 5) (ha : -1 ≤ a ∧ a < R 6) (h6 : R 6 < 20) : CI (ud (ud (ud (ud (ud d 48 (R 6) p) 49 (R 6) o) 50 (R 6) (R 0)) 51 (R 6) a) 33 7 (R 6 + 1)) (clR R p o a) := by
  have n6 := hC.w.n.2.2.2.2.2.2
  obtain ⟨s1, s2, s3, s4⟩ := clR_a (R := R) (p := p) (o := o) (a := a) n6.1
  refine hC.gcls (w_claim hC.w hp ho ha h6) (fun j q => clR_ne (by omega) (by omega)) (fun k j q1 q2 q3 => by rw [ud_ne (by omega), ud_ne (by omega), ud_ne (by omega), ud_ne (by omega), ud_ne (by omega)]) ⟨?_, fun k hk => ?_⟩
  · rw [ud_same, clR_6]
  · rw [clR_6] at hk
    by_cases c5 : k = R 6
    · subst c5
      rw [s1, s2, s3, s4]
      refine ⟨?_, ?_, ?_, ?_⟩
      · rw [ud_ne (by omega), ud_ne (by omega), ud_ne (by omega), ud_ne (by omega), ud_same]
      · rw [ud_ne (by omega), ud_ne (by omega), ud_ne (by omega), ud_same]
      · rw [ud_ne (by omega), ud_ne (by omega), ud_same]
      · rw [ud_ne (by omega), ud_same]
    · rw [clR_ne (by omega) (by omega), clR_ne (by omega) (by omega), clR_ne (by omega) (by omega), clR_ne (by omega) (by omega)]
      have := hC.cm.2 k (by omega)
      refine ⟨?_, ?_, ?_, ?_⟩
      · rw [ud_ne (by omega), ud_ne (by omega), ud_ne (by omega), ud_ne (by omega), ud_ne (by omega)]; exact this.1
      · rw [ud_ne (by omega), ud_ne (by omega), ud_ne (by omega), ud_ne (by omega), ud_ne (by omega)]; exact this.2.1
      · rw [ud_ne (by omega), ud_ne (by omega), ud_ne (by omega), ud_ne (by omega), ud_ne (by omega)]; exact this.2.2.1
      · rw [ud_ne (by omega), ud_ne (by omega), ud_ne (by omega), ud_ne (by omega), ud_ne (by omega)]; exact this.2.2.2
noncomputable def st_fileClaim (R : rW) (p o : Int) : Int × rW := sO ((0 ≤ p ∧ p < R 1) ∧ (0 ≤ o ∧ o < R 5)) (sO (R 6 < 20) (R 6, clR R p o (-1)) (-3, R)) (-1, R)
noncomputable def st_amendClaim (R : rW) (c o : Int) : Int × rW := sO ((0 ≤ c ∧ c < R 6) ∧ (0 ≤ o ∧ o < R 5)) (sO (R 6 < 20) (R 6, clR R (R (707 + 4 * c)) o c) (-3, R)) (-1, R)
theorem t_fileClaim {p o : Int} {R : rW} {g : mG} {d : mD} {Q : mQ} (hC : CI d R) (h : HT (st_fileClaim R p o) d g Q) : MM mX11_tryFileClaim [vR 0, vI p, vI o] g d Q := by
  have n6 := hC.w.n.2.2.2.2.2.2
  have e1 := hC.par.1
  have e5 := hC.oc.1
  have e6 := hC.cm.1
  have e0 := hC.cal.1
  refine eX11_tryFileClaim ⟨fun c => h.e hC (sO_f (by omega)), fun c => ⟨fun c2 => ⟨fun _ => ?_, fun c3 => absurd c2 c3⟩, fun c2 => h.e hC ?_⟩⟩
  · rw [e6] at c2 ⊢
    rw [e0, show R 6 + 1 - 1 = R 6 by omega]
    refine ⟨by omega, ik (by omega), ik (by omega), h.v (R := clR R p o (-1)) ?_ (((((FrT.u1 (by decide)).u2 (by decide)).u2 (by decide)).u2 (by decide)).u2 (by decide)) (c_claim hC (by omega) (by omega) (by omega) c2)⟩
    unfold st_fileClaim
    rw [sO_t (by omega), sO_t c2]
  · unfold st_fileClaim
    rw [sO_t (by omega), sO_f (by omega)]
theorem t_amendClaim {p o : Int} {R : rW} {g : mG} {d : mD} {Q : mQ} (hC : CI d R) (h : HT (st_amendClaim R p o) d g Q) : MM mX11_tryAmendClaim [vR 0, vI p, vI o] g d Q := by
  have n6 := hC.w.n.2.2.2.2.2.2
  have e5 := hC.oc.1
  have e6 := hC.cm.1
  have e0 := hC.cal.1
  refine eX11_tryAmendClaim ⟨fun c => h.e hC (sO_f (by omega)), fun c => ⟨fun c2 => ⟨by omega, fun _ => ?_, fun c3 => absurd c2 c3⟩, fun c2 => h.e hC ?_⟩⟩
  · have hp := (hC.cm.2 p (by omega)).1
    rw [e6] at c2 ⊢
    rw [e0, hp, show R 6 + 1 - 1 = R 6 by omega]
    have hw := (hC.w.c (c := p) (by omega)).1
    refine ⟨by omega, ik (by omega), ik (by omega), h.v (R := clR R (R (707 + 4 * p)) o p) ?_ (((((FrT.u1 (by decide)).u2 (by decide)).u2 (by decide)).u2 (by decide)).u2 (by decide)) (c_claim hC hw (by omega) (by omega) c2)⟩
    unfold st_amendClaim
    rw [sO_t (by omega), sO_t c2]
  · unfold st_amendClaim
    rw [sO_t (by omega), sO_f (by omega)]
