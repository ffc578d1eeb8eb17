-- a command of a program, both sides
noncomputable def stC (R : rW) (v a b w : Int) : Int × rW := if v = 0 then st_serve R a b w else if v = 1 then st_advance R a else if v = 2 then st_stay R (-1) a else if v = 3 then st_lift R a else if v = 4 then st_consent R a b else if v = 5 then st_file R a else st_addHoliday R a
theorem tt_advance {x : Int} {R : rW} {g : mG} {d : mD} {Q : mQ} (hC : CI d R) (h : HT (st_advance R x) d g Q) : (((x < 1) ∨ (¬ (x ≤ 400))) → Q (.inl (-2)) g d) ∧ ((¬ ((x < 1) ∨ (¬ (x ≤ 400)))) → (iI ((d 10 0) + x)) ∧ ((((d 10 0) + x ≤ 1500) → Q (.inl ((d 10 0) + x)) g (ud d 10 0 ((d 10 0) + x))) ∧ ((¬ ((d 10 0) + x ≤ 1500)) → Q (.inl (-3)) g d))) := by
  have hR := hC.w
  obtain ⟨n0, n1, n2, n3, n4, n5, n6⟩ := hR.n
  have e0 := hC.cal.1
  refine ⟨fun c => h.e hC (sO_f (by omega)), fun c => ⟨ik (by omega), fun c2 => ?_, fun c2 => h.e hC ?_⟩⟩
  · rw [e0] at c2 ⊢
    refine h.v (R := up R 0 (R 0 + x)) ?_ (FrT.u1 (by decide)) ?_
    · unfold st_advance
      rw [sO_t (by omega), sO_t c2]
    · refine ⟨w_advance hR (by omega), ⟨ud_same _ _ _ _, ?_, fun k hk => ?_⟩, hC.par.cg hR (eqB.u1 (by decide)) (eqOn.p1 (by decide)) (up_n (by decide)), hC.rul.cg (eqB.u1 (by decide)) (eqOn.p1 (by decide)), hC.dl.cg hR (eqB.u1 (by decide)) (eqOn.p1 (by decide)) (up_n (by decide)), hC.st.cg n4.2 (eqB.u1 (by decide)) (eqOn.p1 (by decide)) (up_n (by decide)), hC.oc.cg n5.2 (eqB.u1 (by decide)) (eqOn.p1 (by decide)) (up_n (by decide)), hC.cm.cg n6.2 (eqB.u1 (by decide)) (ud_ne (by decide)) (eqOn.p1 (by decide)) (up_n (by decide))⟩
      · rw [ud_ne (by decide), up_n (by decide)]; exact hC.cal.2.1
      · rw [up_n (by decide)] at hk
        rw [ud_ne (by omega), up_n (by omega)]
        exact hC.cal.2.2 k hk
  · rw [e0] at c2
    unfold st_advance
    rw [sO_t (by omega), sO_f c2]
theorem tt_lift {x : Int} {R : rW} {g : mG} {d : mD} {Q : mQ} (hC : CI d R) (h : HT (st_lift R x) d g Q) : (((¬ (x < 0)) ∧ (¬ (d 28 4 ≤ x))) → (0 ≤ x ∧ x < 12) ∧ (((d 32 x = 4999) → (iI ((d 10 0) - (d 31 x))) ∧ (Q (.inl ((d 10 0) - (d 31 x))) g (ud d 32 x (d 10 0)))) ∧ ((¬ (d 32 x = 4999)) → Q (.inl (-3)) g d))) ∧ ((¬ ((¬ (x < 0)) ∧ (¬ (d 28 4 ≤ x)))) → Q (.inl (-1)) g d) := by
  have hR := hC.w
  have n4 := hR.n.2.2.2.2.1
  have n0 := hR.n.1
  have e4 := hC.st.1
  have e0 := hC.cal.1
  refine ⟨fun c => ?_, fun c => h.e hC (sO_f (by omega))⟩
  have hx : 0 ≤ x ∧ x < R 4 := by omega
  obtain ⟨s1, s2, s3, s4⟩ := hC.st.2 x hx
  have hs := hR.s.1 x hx
  have hl : d 32 x = 4999 ↔ R (622 + 4 * x) = -1 := by
    have := hs.2.2.2
    rw [s4]; unfold lastD; split <;> omega
  have h3 := hs.2.2.1
  refine ⟨by omega, fun c2 => ?_, fun c2 => h.e hC ?_⟩
  · rw [e0, s3]
    refine ⟨ik (by omega), h.v (R := up R (622 + 4 * x) (R 0)) ?_ (FrT.u1 (by decide)) ?_⟩
    · unfold st_lift
      rw [sO_t hx, sO_t (hl.1 c2)]
    · refine hC.gsts (w_lift hR hx) (fun j q => up_n (by omega)) (fun k j q1 q2 q3 => by rw [ud_ne (by omega)]) ⟨?_, fun k hk => ?_⟩
      · rw [ud_ne (by omega), up_n (by omega)]; exact e4
      · rw [up_n (by omega)] at hk
        obtain ⟨t1, t2, t3, t4⟩ := hC.st.2 k hk
        rw [ud_ne (by omega), ud_ne (by omega), ud_ne (by omega), up_n (by omega), up_n (by omega), up_n (by omega)]
        refine ⟨t1, t2, t3, ?_⟩
        by_cases c3 : k = x
        · subst c3
          rw [ud_same, up_s]
          exact (if_neg (by omega)).symm
        · rw [ud_ne (by omega), up_n (by omega)]; exact t4
  · unfold st_lift
    rw [sO_t hx, sO_f (fun q => c2 (hl.2 q))]
theorem t_execute {k v a b w : Int} {R : rW} {g : mG} {d : mD} {Q : mQ} (hC : CI d R) (hk : 0 ≤ k ∧ k < 16) (e1 : d 61 k = v) (e2 : d 62 k = a) (e3 : v = 0 ∨ v = 4 → d 63 k = b) (e4 : v = 0 → d 64 k = w) (h : HT (stC R v a b w) d g Q) : MM mX11_execute [vR 0, vI k] g d Q := by
  have n1 := hC.w.n.2.1
  refine eX11_execute ?_
  rw [e1, e2]
  unfold stC at h
  refine ⟨hk, fun c0 => ?_, fun c0 => ⟨fun c1 => ?_, fun c1 => ⟨fun c2 => ?_, fun c2 => ⟨fun c3 => ?_, fun c3 => ⟨fun c4 => ?_, fun c4 => ⟨fun c5 => ?_, fun c5 => ?_⟩⟩⟩⟩⟩⟩
  · rw [if_pos c0] at h
    rw [e3 (Or.inl c0), e4 c0]
    exact t_serve hC h
  · rw [if_neg c0, if_pos c1] at h
    exact tt_advance hC h
  · rw [if_neg c0, if_neg c1, if_pos c2] at h
    exact t_stay hC (by omega) h
  · rw [if_neg c0, if_neg c1, if_neg c2, if_pos c3] at h
    exact tt_lift hC h
  · rw [if_neg c0, if_neg c1, if_neg c2, if_neg c3, if_pos c4] at h
    rw [e3 (Or.inr c4)]
    exact t_consent hC h
  · rw [if_neg c0, if_neg c1, if_neg c2, if_neg c3, if_neg c4, if_pos c5] at h
    exact t_file hC h
  · rw [if_neg c0, if_neg c1, if_neg c2, if_neg c3, if_neg c4, if_neg c5] at h
    exact t_addHoliday hC h
theorem cx_pos : ∀ (l : List Int) (c : Int), 1 ≤ cx l c := by
  intro l
  induction l with
  | nil => intro c; exact Int.le_refl _
  | cons x l ih =>
    intro c
    unfold cx
    split
    · exact Int.le_refl _
    · have := ih c; omega
def HX (s : Int × rW) (d : mD) (g : mG) (Q : mQ) : Prop :=
  (s.1 < 0 → ∀ d' : mD, (∀ b j : Int, ¬ (b = 65 ∧ j = 5) → d' b j = d b j) → ¬ d' 65 5 = 0 → Q (.inl 0) g d') ∧
  (0 ≤ s.1 → ∀ d' : mD, d' 66 = s.2 → (∀ b j : Int, b ≠ 66 → d' b j = mChg (ud d 65 5 0) b j) → Q (.inl 0) g d')
theorem HX.k {s : Int × rW} {d : mD} {g : mG} {Q Q' : mQ} (h : HX s d g Q) (l : List Int) (hq : ∀ v d', Q (.inl 0) g d' → Q' (.inl v) g d') : HK l s d g Q' :=
  ⟨fun hs v d' hf h5 => hq v d' (h.1 hs d' hf (by have := cx_pos l s.1; omega)), fun hs d' e66 hf => hq s.1 d' (h.2 hs d' e66 hf)⟩
