-- steps, both sides
noncomputable def sO (p : Prop) (a b : Int × rW) : Int × rW := @ite _ p (Classical.propDecidable p) a b
theorem sO_t {p : Prop} {a b : Int × rW} (h : p) : sO p a b = a := if_pos h
theorem sO_f {p : Prop} {a b : Int × rW} (h : ¬ p) : sO p a b = b := if_neg h
def FrT (d d' : mD) : Prop := ∀ b j : Int, ¬ (6 ≤ b ∧ b ≤ 59) → d' b j = d b j
theorem FrT.rf {d : mD} : FrT d d := fun _ _ _ => rfl
theorem FrT.tr {d d' d'' : mD} (h : FrT d d') (h2 : FrT d' d'') : FrT d d'' := fun b j q1 => (h2 b j q1).trans (h b j q1)
theorem FrT.u1 {d : mD} {b i v : Int} (h : 6 ≤ b ∧ b ≤ 59) : FrT d (ud d b i v) := fun b' j q => ud_ne (by omega)
theorem FrT.u2 {d d' : mD} {b i v : Int} (k : FrT d d') (h : 6 ≤ b ∧ b ≤ 59) : FrT d (ud d' b i v) := k.tr (FrT.u1 h)
def HT (s : Int × rW) (d : mD) (g : mG) (Q : mQ) : Prop := ∀ d', FrT d d' → CI d' s.2 → Q (.inl s.1) g d'
theorem HT.e {s : Int × rW} {d : mD} {R : rW} {g : mG} {Q : mQ} (h : HT s d g Q) (hC : CI d R) {c : Int} (hs : s = (c, R)) : Q (.inl c) g d := by
  have := h d FrT.rf (by rw [hs]; exact hC)
  rwa [hs] at this
theorem HT.v {s : Int × rW} {d d' : mD} {R : rW} {g : mG} {Q : mQ} (h : HT s d g Q) {c : Int} (hs : s = (c, R)) (hf : FrT d d') (hC : CI d' R) : Q (.inl c) g d' := by
  have := h d' hf (by rw [hs]; exact hC)
  rwa [hs] at this
def cx : List Int → Int → Int
  | [], _ => 1
  | x :: l, c => if x = c then 1 else cx l c + 1
theorem eqOn.p2 {R : rW} {i v k w a b : Int} (h : ¬ (a ≤ i ∧ i ≤ b)) (h2 : ¬ (a ≤ k ∧ k ≤ b)) : eqOn R (up (up R i v) k w) a b := (eqOn.p1 h).tr (eqOn.p1 h2)
theorem eqB.u2 {d : mD} {k i v k2 i2 v2 a b : Int} (h : ¬ (a ≤ k ∧ k ≤ b)) (h2 : ¬ (a ≤ k2 ∧ k2 ≤ b)) : eqB d (ud (ud d k i v) k2 i2 v2) a b := (eqB.u1 h).tr (eqB.u1 h2)
theorem up2_n {R : rW} {i v k w j : Int} (h : ¬ j = i) (h2 : ¬ j = k) : up (up R i v) k w j = R j := (up_n h2).trans (up_n h)
-- the next day
noncomputable def st_advance (R : rW) (x : Int) : Int × rW := sO (1 ≤ x ∧ x ≤ 400) (sO (R 0 + x ≤ 1500) (R 0 + x, up R 0 (R 0 + x)) (-3, R)) (-2, R)
theorem w_advance {R : rW} {x : Int} (hR : RW R) (hx : 1 ≤ x ∧ R 0 + x ≤ 1500) : RW (up R 0 (R 0 + x)) := by
  have hn := hR.n
  obtain ⟨n0, n1, n2, n3, n4, n5, n6⟩ := hn
  have e : ∀ j, ¬ j = 0 → up R 0 (R 0 + x) j = R j := fun j h => up_n h
  have e0 : up R 0 (R 0 + x) 0 = R 0 + x := up_s
  refine ⟨?_, hR.p.cg (e 1 (by decide)) n1.2 (eqOn.p1 (by decide)), hR.hd.cg (e 2 (by decide)) n2.2 (eqOn.p1 (by decide)), hR.r.cg (eqOn.p1 (by decide)), RWd.cg (by omega) (Int.le_of_eq (e 1 (by decide)).symm) (e 3 (by decide)) (eqOn.p1 (by decide)) n3.2 hR.2.2.2.2.1, hR.s.cg (by omega) (Int.le_of_eq (e 1 (by decide)).symm) (e 4 (by decide)) (eqOn.p1 (by decide)) n4.2, hR.o.cg (by omega) (e 5 (by decide)) (eqOn.p1 (by decide)) n5.2, RWc.cg (by omega) (Int.le_of_eq (e 1 (by decide)).symm) (Int.le_of_eq (e 5 (by decide)).symm) (e 6 (by decide)) (eqOn.p1 (by decide)) n6.2 hR.2.2.2.2.2.2.2⟩
  unfold RWn
  rw [e0, e 1 (by decide), e 2 (by decide), e 3 (by decide), e 4 (by decide), e 5 (by decide), e 6 (by decide)]
  exact ⟨by omega, n1, n2, n3, n4, n5, n6⟩
theorem t_advance {x : Int} {R : rW} {g : mG} {d : mD} {Q : mQ} (hC : CI d R) (h : HT (st_advance R x) d g Q) : MM mX11_tryAdvance [vR 0, vI x] g d Q := by
  have hR := hC.w
  obtain ⟨n0, n1, n2, n3, n4, n5, n6⟩ := hR.n
  have e0 := hC.cal.1
  refine eX11_tryAdvance ⟨fun c => h.e hC (sO_f (by omega)), fun c => ⟨ik (by omega), fun c2 => ?_, fun c2 => h.e hC ?_⟩⟩
  · rw [e0] at c2 ⊢
    refine h.v (R := up R 0 (R 0 + x)) ?_ (FrT.u1 (by decide)) ?_
    · unfold st_advance
      rw [sO_t (by omega), sO_t c2]
    · refine ⟨w_advance hR (by omega), ⟨ud_same _ _ _ _, ?_, fun k hk => ?_⟩, hC.par.cg hR (eqB.u1 (by decide)) (eqOn.p1 (by decide)) (up_n (by decide)), hC.rul.cg (eqB.u1 (by decide)) (eqOn.p1 (by decide)), hC.dl.cg hR (eqB.u1 (by decide)) (eqOn.p1 (by decide)) (up_n (by decide)), hC.st.cg n4.2 (eqB.u1 (by decide)) (eqOn.p1 (by decide)) (up_n (by decide)), hC.oc.cg n5.2 (eqB.u1 (by decide)) (eqOn.p1 (by decide)) (up_n (by decide)), hC.cm.cg n6.2 (eqB.u1 (by decide)) (ud_ne (by decide)) (eqOn.p1 (by decide)) (up_n (by decide))⟩
      · rw [ud_ne (by decide), up_n (by decide)]; exact hC.cal.2.1
      · rw [up_n (by decide)] at hk
        rw [ud_ne (by omega), up_n (by omega)]
        exact hC.cal.2.2 k hk
  · rw [e0] at c2
    unfold st_advance
    rw [sO_t (by omega), sO_f c2]
