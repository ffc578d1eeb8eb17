-- one deadline changed
theorem partsF_rng {R : rW} {i : Int} (h : DLW R i) : 1 ≤ partsF R i ∧ partsF R i ≤ 7 := by
  obtain ⟨a1, a2, a3, a4, a5, a6, a7, a8, a9, a10, a11, a12⟩ := h
  have := @bI_rng (0 < R (144 + 16 * i))
  unfold partsF svF
  omega
theorem DLS.cq {d d' : mD} {R R' : rW} {i : Int} (hw : DLW R i) (q : ∀ k, 17 ≤ k → k ≤ 27 → k ≠ 22 → d' k i = d k i) (q2 : ∀ t, 0 ≤ t → t < 7 → d' 22 (i * 7 + t) = d 22 (i * 7 + t)) (e : eqOn R R' (139 + 16 * i) (154 + 16 * i)) (h : DLS d R i) : DLS d' R' i := by
  obtain ⟨a1, a2, a3, a4, a5, a6, a7, a8, a9, a10, a11⟩ := h
  have hp := partsF_rng hw
  unfold DLS
  rw [q 17 (by decide) (by decide) (by decide), q 18 (by decide) (by decide) (by decide), q 19 (by decide) (by decide) (by decide), q 20 (by decide) (by decide) (by decide), q 21 (by decide) (by decide) (by decide), q 23 (by decide) (by decide) (by decide), q 24 (by decide) (by decide) (by decide), q 25 (by decide) (by decide) (by decide), q 26 (by decide) (by decide) (by decide), q 27 (by decide) (by decide) (by decide)]
  rw [e (139 + 16 * i) (by omega) (by omega), e (140 + 16 * i) (by omega) (by omega), e (141 + 16 * i) (by omega) (by omega), e (143 + 16 * i) (by omega) (by omega), e (145 + 16 * i) (by omega) (by omega), e (147 + 16 * i) (by omega) (by omega), e (148 + 16 * i) (by omega) (by omega), e (149 + 16 * i) (by omega) (by omega), partsF_cg e, grF_cg hw e]
  refine ⟨a1, a2, a3, a4, a5, fun k hk => ?_, a7, a8, a9, a10, a11⟩
  rw [q2 k hk.1 (by omega), plenF_cg hw e hk.2]
  exact a6 k hk
theorem RW.one {R R' : rW} (hR : RW R) {x : Int} (hx : 0 ≤ x ∧ x < R 3) (e : ∀ j, ¬ (139 + 16 * x ≤ j ∧ j ≤ 154 + 16 * x) → R' j = R j) (h : DLW R' x) : RW R' := by
  have n3 := hR.n.2.2.2.1
  have e3 := e 3 (by omega)
  refine hR.gdls (fun j q => e j (by omega)) (by omega) (fun i hi => ?_)
  by_cases c : i = x
  · subst c; exact h
  · have e0 := e 0 (by omega)
    have e1 := e 1 (by omega)
    exact (hR.dl (i := i) (by omega)).cg (by omega) (by omega) (fun j q1 q2 => e j (by omega))
theorem CI.one {d d' : mD} {R R' : rW} (hC : CI d R) {x : Int} (hx : 0 ≤ x ∧ x < R 3) (e : ∀ j, ¬ (139 + 16 * x ≤ j ∧ j ≤ 154 + 16 * x) → R' j = R j) (q : ∀ k j : Int, 6 ≤ k → k ≤ 51 → ¬ (17 ≤ k ∧ k ≤ 27 ∧ j = x ∧ k ≠ 22) → ¬ (k = 22 ∧ x * 7 ≤ j ∧ j < x * 7 + 7) → d' k j = d k j) (hw : DLW R' x) (hs : DLS d' R' x) : CI d' R' := by
  have hR := hC.w
  have n3 := hR.n.2.2.2.1
  have e3 := e 3 (by omega)
  refine hC.gdls (hR.one hx e hw) (fun j q => e j (by omega)) (fun k j q1 q2 q3 => q k j q1 q2 (by omega) (by omega)) ⟨?_, fun i hi => ?_⟩
  · rw [q 16 11 (by decide) (by decide) (by omega) (by omega), e3]; exact hC.dl.1
  · by_cases c : i = x
    · subst c; exact hs
    · exact (hC.dl.2 i (by omega)).cq (hR.dl (i := i) (by omega)) (fun k q1 q2 q3 => q k i (by omega) (by omega) (by omega) (by omega)) (fun t q1 q2 => q 22 _ (by omega) (by omega) (by omega) (by omega)) (fun j q1 q2 => e j (by omega))
-- the status
theorem DLW.st {R : rW} {x v : Int} (hx : 0 ≤ x) (h : DLW R x) (hv : stOk v) : DLW (up R (145 + 16 * x) v) x := by
  obtain ⟨a1, a2, a3, a4, a5, a6, a7, a8, a9, a10, a11, a12⟩ := h
  have e : ∀ j, ¬ j = 145 + 16 * x → up R (145 + 16 * x) v j = R j := fun j q => up_n q
  unfold DLW
  rw [e (139 + 16 * x) (by omega), e (140 + 16 * x) (by omega), e (141 + 16 * x) (by omega), e (142 + 16 * x) (by omega), e (143 + 16 * x) (by omega), e (144 + 16 * x) (by omega), e (146 + 16 * x) (by omega), e (147 + 16 * x) (by omega), e (148 + 16 * x) (by omega), e (149 + 16 * x) (by omega), e 0 (by omega), e 1 (by omega), up_s]
  refine ⟨a1, a2, a3, a4, a5, a6, hv, a8, a9, a10, a11, fun k hk => ?_⟩
  rw [e (150 + 16 * x + k) (by omega)]
  exact a12 k hk
theorem grF_st {R : rW} {x v : Int} : grF (up R (145 + 16 * x) v) x = grF R x := by
  unfold grF
  rw [up_n (by omega)]
  exact grN_cg _ (fun j q1 q2 => up_n (by omega))
theorem partsF_st {R : rW} {x v : Int} : partsF (up R (145 + 16 * x) v) x = partsF R x := by
  unfold partsF svF
  rw [up_n (by omega), up_n (by omega)]
theorem plenF_st {R : rW} {x v q : Int} : plenF (up R (145 + 16 * x) v) x q = plenF R x q := by
  unfold plenF svF
  rw [up_n (i := 145 + 16 * x) (j := 142 + 16 * x) (by omega), up_n (i := 145 + 16 * x) (j := 144 + 16 * x) (by omega)]
  by_cases c : q - 1 - bI (0 < R (144 + 16 * x)) < 0
  · rw [iT_t c, iT_t c]
  · rw [up_n (by omega)]
theorem DLS.st {d d' : mD} {R : rW} {x v : Int} (h : DLS d R x) (q : ∀ k j, 17 ≤ k → k ≤ 26 → d' k j = d k j) (q2 : d' 27 x = v) : DLS d' (up R (145 + 16 * x) v) x := by
  obtain ⟨a1, a2, a3, a4, a5, a6, a7, a8, a9, a10, a11⟩ := h
  have e : ∀ j, ¬ j = 145 + 16 * x → up R (145 + 16 * x) v j = R j := fun j q => up_n q
  unfold DLS
  rw [partsF_st, grF_st, q2, up_s, e (139 + 16 * x) (by omega), e (140 + 16 * x) (by omega), e (141 + 16 * x) (by omega), e (143 + 16 * x) (by omega), e (147 + 16 * x) (by omega), e (148 + 16 * x) (by omega), e (149 + 16 * x) (by omega), q 17 x (by decide) (by decide), q 18 x (by decide) (by decide), q 19 x (by decide) (by decide), q 20 x (by decide) (by decide), q 21 x (by decide) (by decide), q 23 x (by decide) (by decide), q 24 x (by decide) (by decide), q 25 x (by decide) (by decide), q 26 x (by decide) (by decide)]
  refine ⟨a1, a2, a3, a4, a5, fun k hk => ?_, a7, a8, a9, a10, rfl⟩
  rw [plenF_st, q 22 _ (by decide) (by decide)]
  exact a6 k hk
theorem w_status {R : rW} {x v : Int} (hR : RW R) (hx : 0 ≤ x ∧ x < R 3) (hv : stOk v) : RW (up R (145 + 16 * x) v) := hR.one hx (fun j q => up_n (by omega)) (DLW.st hx.1 (hR.dl hx) hv)
theorem c_status {d d' : mD} {R : rW} {x v : Int} (hC : CI d R) (hx : 0 ≤ x ∧ x < R 3) (hv : stOk v) (hf : FrW d d') : CI (ud d' 27 x v) (up R (145 + 16 * x) v) :=
  hC.one hx (fun j q => up_n (by omega)) (fun k j q1 q2 q3 q4 => by rw [ud_ne (by omega), hf (by omega)]) (DLW.st hx.1 (hC.w.dl hx) hv) ((hC.dl.2 x hx).st (fun k j q1 q2 => by rw [ud_ne (by omega), hf (by omega)]) (ud_same _ _ _ _))
-- filing
noncomputable def st_file (R : rW) (x : Int) : Int × rW := sO (0 ≤ x ∧ x < R 3) (sO (opn R x) (bI (R 0 ≤ dueF R x), up R (145 + 16 * x) (iT (R 0 ≤ dueF R x) 116 108)) (-3, R)) (-1, R)
theorem stOk_file {p : Prop} : stOk (iT p 116 108) := by
  unfold stOk
  rcases iT_or (p := p) 116 108 with ⟨_, b⟩ | ⟨_, b⟩ <;> omega
theorem t_file {x : Int} {R : rW} {g : mG} {d : mD} {Q : mQ} (hC : CI d R) (h : HT (st_file R x) d g Q) : MM mX11_tryFile [vR 0, vI x] g d Q := by
  have e3 := hC.dl.1
  have e0 := hC.cal.1
  have n3 := hC.w.n.2.2.2.1
  refine eX11_tryFile (R := R) ⟨fun c => ⟨by omega, fun c2 => ⟨hC, by omega, fun d' hf => ?_⟩, fun c2 => h.e hC ?_⟩, fun c => h.e hC (sO_f (by omega))⟩
  · have hs := (hC.dl.2 x (by omega)).2.2.2.2.2.2.2.2.2.2
    have ho := stOk_rng (stOk_file (p := R 0 ≤ dueF R x))
    rw [e0, show iT (¬ R 0 ≤ dueF R x) 108 116 = iT (R 0 ≤ dueF R x) 116 108 by
      by_cases c : R 0 ≤ dueF R x
      · rw [iT_t c, iT_f (fun q => q c)]
      · rw [iT_f c, iT_t c]]
    refine ⟨by omega, h.v (R := up R (145 + 16 * x) (iT (R 0 ≤ dueF R x) 116 108)) ?_ ((show FrT d d' from fun b j q => hf (by omega)).u2 (by decide)) (c_status hC (by omega) stOk_file hf)⟩
    unfold st_file
    rw [sO_t (by omega), sO_t (p := opn R x) (hs.symm.trans c2)]
  · have hs := (hC.dl.2 x (by omega)).2.2.2.2.2.2.2.2.2.2
    unfold st_file
    rw [sO_t (by omega), sO_f (p := opn R x) (fun q => c2 (hs.trans q))]
theorem late_m {R : rW} (hR : RW R) {x : Int} (hx : 0 ≤ x ∧ x < R 3) : ((¬ dueM R x = -1) ∧ ¬ R 0 ≤ dueM R x) ↔ ¬ R 0 ≤ dueF R x := by
  have hd := dueF_rng hR hx
  have h0 := hR.n.1
  unfold dueM noD
  split <;> omega
-- striking
noncomputable def st_strike (R : rW) (x : Int) : Int × rW := sO (0 ≤ x ∧ x < R 3) (sO (opn R x) (cnN (opn (up R (145 + 16 * x) 115)) (R 3).toNat 0, up R (145 + 16 * x) 115) (-3, R)) (-1, R)
theorem t_strike {x : Int} {R : rW} {g : mG} {d : mD} {Q : mQ} (hC : CI d R) (h : HT (st_strike R x) d g Q) : MM mX11_tryStrike [vR 0, vI x] g d Q := by
  have e3 := hC.dl.1
  have n3 := hC.w.n.2.2.2.1
  refine eX11_tryStrike ⟨fun c => ⟨by omega, fun c2 => ⟨by omega, ?_⟩, fun c2 => h.e hC ?_⟩, fun c => h.e hC (sO_f (by omega))⟩
  · have hs := (hC.dl.2 x (by omega)).2.2.2.2.2.2.2.2.2.2
    have hC' := c_status hC (x := x) (v := 115) (by omega) (Or.inr (Or.inr (Or.inr rfl))) FrW.rf
    rw [nuF_eq, e3, cnN_cg (Q := opn (up R (145 + 16 * x) 115)) (R 3).toNat 0 (fun i q1 q2 => by
      have := (hC'.dl.2 i (by rw [up_n (by omega)]; omega)).2.2.2.2.2.2.2.2.2.2
      unfold opn
      rw [this])]
    refine h.v ?_ (FrT.u1 (by decide)) hC'
    unfold st_strike
    rw [sO_t (by omega), sO_t (p := opn R x) (hs.symm.trans c2)]
  · have hs := (hC.dl.2 x (by omega)).2.2.2.2.2.2.2.2.2.2
    unfold st_strike
    rw [sO_t (by omega), sO_f (p := opn R x) (fun q => c2 (hs.trans q))]
