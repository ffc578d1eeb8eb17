-- answers, third part
noncomputable def r_barDay (R : rW) (x : Int) : mO := iO (0 ≤ x ∧ x < R 5) (iO (barF R x = 5000) (.inr 4) (.inl (barF R x))) (.inr 3)
theorem r_barDay_5 {R : rW} {x : Int} (h : 0 ≤ x ∧ x < R 5) (h2 : barF R x = 5000) : r_barDay R x = .inr 4 := by unfold r_barDay; rw [iO_t h, iO_t h2]
theorem r_barDay_v {R : rW} {x : Int} (h : 0 ≤ x ∧ x < R 5) (h2 : ¬ barF R x = 5000) : r_barDay R x = .inl (barF R x) := by unfold r_barDay; rw [iO_t h, iO_f h2]
theorem barF_rng {R : rW} (hR : RW R) {x : Int} (h : 0 ≤ x ∧ x < R 5) : 0 ≤ barF R x ∧ barF R x ≤ 5000 := by
  have h1 := (hR.o.1 x h).1
  have h0 := hR.n.1
  have := endF_rng (R := R) (p := -1) (r := R (668 + 5 * x)) (f := R (667 + 5 * x)) (len := R (669 + 5 * x)) (ic := bI (R (670 + 5 * x) = 1)) (by omega)
  unfold barF
  omega
theorem q_barDay {x : Int} {R : rW} {g : mG} {d : mD} {Q : mQ} (hC : CI d R) (h : HQ (r_barDay R x) d g Q) : MM mX11_barDay [vR 0, vI x] g d Q := by
  have e := hC.oc.1
  exact eX11_barDay (R := R) ⟨fun c => ⟨hC, by omega, fun d' hf => ⟨fun c2 => h.s (FrS.w hf) (r_barDay_5 (by omega) c2), fun c2 => h.s (FrS.w hf) (r_barDay_v (by omega) c2)⟩⟩, fun c => h.a (iO_f (by omega))⟩
theorem m_barDay {x : Int} {g : mG} {d : mD} {Q : mQ} (hR : RW (d 66)) (h : HN [3, 4] (r_barDay (d 66) x) d g Q) : MM mX12_barDay [vR 65, vI x] g d Q := by
  have h1 := hR.n.2.2.2.2.2.1
  have h0 := hR.n.1
  refine eX12_barDay ⟨ik (by omega), fun c => h.e (iO_f (by omega)) rfl 0, fun c => ?_⟩
  have hx : 0 ≤ x ∧ x < d 66 5 := by omega
  have ho := hR.o.1 x hx
  have hb := barF_rng hR hx
  refine ⟨ik (by omega), ik (by omega), ik (by omega), by omega, by omega, ik (by omega), by omega, ik (by omega), by omega, hR, ho.2.1, ⟨ho.1.1, by have := ho.1.2; omega⟩, ho.2.2.1, ?_⟩
  show (noD (barF (d 66) x) = -1 → _) ∧ (¬ (noD (barF (d 66) x) = -1) → Q (.inl (noD (barF (d 66) x))) g _)
  refine ⟨fun c2 => h.e (r_barDay_5 hx ((noD_1 hb.1).1 c2)) rfl 0, fun c2 => ?_⟩
  have c3 : ¬ barF (d 66) x = 5000 := fun q => c2 ((noD_1 hb.1).2 q)
  rw [noD_n c3]
  exact h.v (r_barDay_v hx c3)
theorem effN_rng {R : rW} (hR : RW R) : ∀ (n : Nat) (c : Int), 0 ≤ c ∧ c < R 6 → 0 ≤ effN R n c ∧ effN R n c ≤ R 0 := by
  intro n
  induction n with
  | zero => intro c hc; exact (hR.c hc).2.2.1
  | succ n ih =>
    intro c hc
    have h1 := (hR.c hc).2.2.2
    unfold effN
    by_cases q : R (710 + 4 * c) ≠ -1 ∧ conn R (R (708 + 4 * c)) (R (708 + 4 * R (710 + 4 * c)))
    · rw [if_pos q]
      exact ih _ (by omega)
    · rw [if_neg q]
      exact (hR.c hc).2.2.1
theorem effF_rng {R : rW} (hR : RW R) {c : Int} (hc : 0 ≤ c ∧ c < R 6) : 0 ≤ effF R c ∧ effF R c ≤ R 0 := effN_rng hR _ _ hc
noncomputable def r_effectiveDay (R : rW) (x : Int) : mO := iO (0 ≤ x ∧ x < R 6) (.inl (effF R x)) (.inr 3)
theorem q_effectiveDay {x : Int} {R : rW} {g : mG} {d : mD} {Q : mQ} (hC : CI d R) (h : HQ (r_effectiveDay R x) d g Q) : MM mX11_effectiveDay [vR 0, vI x] g d Q := by
  have e := hC.cm.1
  exact eX11_effectiveDay (R := R) ⟨fun c => ⟨hC, by omega, h.a (iO_t (by omega))⟩, fun c => h.a (iO_f (by omega))⟩
theorem m_effectiveDay {x : Int} {g : mG} {d : mD} {Q : mQ} (hR : RW (d 66)) (h : HN [3] (r_effectiveDay (d 66) x) d g Q) : MM mX12_effectiveDay [vR 65, vI x] g d Q := by
  have h1 := hR.n.2.2.2.2.2.2
  exact eX12_effectiveDay ⟨ik (by omega), fun c => h.e (iO_f (by omega)) rfl 0, fun c => ⟨hR, by omega, h.v (iO_t (by omega))⟩⟩
def tim (R : rW) (c : Int) : Prop := ¬ barF R (R (708 + 4 * c)) < effF R c
noncomputable def r_isTimely (R : rW) (x : Int) : mO := iO (0 ≤ x ∧ x < R 6) (.inl (bI (tim R x))) (.inr 3)
theorem tim_m {R : rW} (hR : RW R) {c : Int} (hc : 0 ≤ c ∧ c < R 6) : (noD (barF R (R (708 + 4 * c))) = -1 ∨ ¬ noD (barF R (R (708 + 4 * c))) < effF R c) ↔ tim R c := by
  have h1 := (hR.c hc).2.1
  have hb := barF_rng hR h1
  have he := effF_rng hR hc
  have h0 := hR.n.1
  unfold tim noD
  split <;> omega
theorem q_meetsBar {x : Int} {R : rW} {g : mG} {d : mD} {Q : mQ} (hC : CI d R) (hx : 0 ≤ x ∧ x < R 6) (h : ∀ d', FrW d d' → Q (.inl (bI (tim R x))) g d') : MM mX11_meetsBar [vR 0, vI x] g d Q := by
  have h1 := hC.w.n.2.2.2.2.2.2
  have e2 := (hC.cm.2 x hx).2.1
  have h2 := (hC.w.c hx).2.1
  refine eX11_meetsBar (R := R) ⟨by omega, hC, by rw [e2]; exact h2, fun d' hf => ⟨hC.frW hf, hx, ?_⟩⟩
  rw [e2]
  exact h d' hf
theorem q_isTimely {x : Int} {R : rW} {g : mG} {d : mD} {Q : mQ} (hC : CI d R) (h : HQ (r_isTimely R x) d g Q) : MM mX11_isTimely [vR 0, vI x] g d Q := by
  have e := hC.cm.1
  refine eX11_isTimely ⟨fun c => q_meetsBar hC (by omega) fun d' hf => ?_, fun c => h.a (iO_f (by omega))⟩
  exact ⟨bI_rng, h.s (FrS.w hf) (iO_t (by omega))⟩
theorem m_isTimely {x : Int} {g : mG} {d : mD} {Q : mQ} (hR : RW (d 66)) (h : HN [3] (r_isTimely (d 66) x) d g Q) : MM mX12_isTimely [vR 65, vI x] g d Q := by
  have h1 := hR.n.2.2.2.2.2.2
  have h0 := hR.n.1
  have h5 := hR.n.2.2.2.2.2.1
  refine eX12_isTimely ⟨ik (by omega), fun c => h.e (iO_f (by omega)) rfl 0, fun c => ?_⟩
  have hx : 0 ≤ x ∧ x < d 66 6 := by omega
  have hc := (hR.c hx).2.1
  have ho := hR.o.1 _ hc
  refine ⟨ik (by omega), ik (by omega), ik (by omega), by omega, ik (by omega), ik (by omega), ik (by omega), by omega, by omega, ik (by omega), by omega, ik (by omega), by omega, hR, ho.2.1, ⟨ho.1.1, by have := ho.1.2; omega⟩, ho.2.2.1, fun _ => hx, h.v ?_⟩
  unfold r_isTimely
  rw [iO_t hx, ← bI_cg (tim_m hR hx)]
  rfl
-- timely claims of a party
noncomputable def r_timelyClaims (R : rW) (x : Int) : mO := iO (0 ≤ x ∧ x < R 1) (.inl (cn (fun c => R (707 + 4 * c) = x ∧ tim R c) 0 (R 6 - 1))) (.inr 3)
theorem q_timelyClaims {x : Int} {R : rW} {g : mG} {d : mD} {Q : mQ} (hC : CI d R) (h : HQ (r_timelyClaims R x) d g Q) : MM mX11_timelyClaims [vR 0, vI x] g d Q := by
  have e := hC.par.1
  have e6 := hC.cm.1
  have h6 := hC.w.n.2.2.2.2.2.2
  refine eX11_timelyClaims ⟨fun c => ?_, fun c => h.a (iO_f (by omega))⟩
  have hl : ∀ (m : Nat) (acc k : Int) (d' : mD), FrS d d' → 0 ≤ k → k + m = R 6 → 0 ≤ acc → acc ≤ k → acc + cnN (fun c => R (707 + 4 * c) = x ∧ tim R c) m k = cn (fun c => R (707 + 4 * c) = x ∧ tim R c) 0 (R 6 - 1) → pX11_timelyClaims_1 x acc k g d' Q := by
    intro m
    induction m with
    | zero =>
      intro acc k d' hf hk hm q1 q2 he
      have hC' := hC.frS hf
      have e6 := hC'.cm.1
      refine aX11_timelyClaims_1 ⟨fun _ => h.s hf ?_, fun c => absurd (by omega) c⟩
      rw [show ∀ P, acc + cnN P 0 k = acc from fun _ => Int.add_zero _] at he
      rw [he]
      exact iO_t (by omega)
    | succ m ih =>
      intro acc k d' hf hk hm q1 q2 he
      have hC' := hC.frS hf
      have e6 := hC'.cm.1
      have ep := (hC'.cm.2 k (by omega)).1
      rw [show ∀ P, acc + cnN P (m + 1) k = acc + bI (P k) + cnN P m (k + 1) from fun P => (Int.add_assoc _ _ _).symm] at he
      refine aX11_timelyClaims_1 ⟨fun c => absurd c (by omega), fun c => ⟨by omega, fun c2 => ?_, fun c2 => ?_⟩⟩
      · refine q_meetsBar hC' (by omega) fun d'' hf2 => ⟨fun c3 => ⟨ik (by omega), ?_⟩, fun c3 => ⟨ik (by omega), ik (by omega), ?_⟩⟩
        · rw [bI_f (fun q => (bI_0.1 c3) q.2), Int.add_zero] at he
          exact ih acc (k + 1) d'' (hf.tr (FrS.w hf2)) (by omega) (by omega) (by omega) (by omega) he
        · rw [bI_t ⟨by omega, bI_n0.1 c3⟩] at he
          exact ih (acc + 1) (k + 1) d'' (hf.tr (FrS.w hf2)) (by omega) (by omega) (by omega) (by omega) he
      · rw [bI_f (fun q => c2 (by omega)), Int.add_zero] at he
        exact ⟨ik (by omega), ih acc (k + 1) d' hf (by omega) (by omega) (by omega) (by omega) he⟩
  refine hl (R 6).toNat 0 0 d FrS.rf (by omega) (by omega) (by omega) (by omega) ?_
  unfold cn
  rw [show R 6 - 1 - 0 + 1 = R 6 by omega, Int.zero_add]
theorem l_timelyClaims {x : Int} {g : mG} {d : mD} {Q : mQ} (hR : RW (d 66)) : ∀ (m : Nat) (acc k : Int), 0 ≤ k → k + m = d 66 6 → 0 ≤ acc → acc ≤ k → Q (.inl (acc + cnN (fun c => d 66 (707 + 4 * c) = x ∧ tim (d 66) c) m k)) g d → pX12_timelyClaims_1 x acc k g d Q := by
  have h6 := hR.n.2.2.2.2.2.2
  have h0 := hR.n.1
  have h5 := hR.n.2.2.2.2.2.1
  intro m
  induction m with
  | zero =>
    intro acc k hk hm q1 q2 h
    rw [show ∀ P, acc + cnN P 0 k = acc from fun _ => Int.add_zero _] at h
    exact aX12_timelyClaims_1 ⟨fun _ => h, fun c => absurd (by omega) c⟩
  | succ m ih =>
    intro acc k hk hm q1 q2 h
    rw [show ∀ P, acc + cnN P (m + 1) k = acc + bI (P k) + cnN P m (k + 1) from fun P => (Int.add_assoc _ _ _).symm] at h
    have hx : 0 ≤ k ∧ k < d 66 6 := by omega
    have hc := (hR.c hx).2.1
    have ho := hR.o.1 _ hc
    have eb : bI (d 66 (707 + 4 * k) = x ∧ (noD (barF (d 66) (d 66 (708 + 4 * k))) = -1 ∨ ¬ noD (barF (d 66) (d 66 (708 + 4 * k))) < effF (d 66) k)) = bI (d 66 (707 + 4 * k) = x ∧ tim (d 66) k) := bI_cg (and_congr_right fun _ => tim_m hR hx)
    have hr := @bI_rng (d 66 (707 + 4 * k) = x ∧ tim (d 66) k)
    refine aX12_timelyClaims_1 ⟨fun c => absurd c (by omega), fun c => ⟨ik (by omega), ik (by omega), by omega, fun _ => ik (by omega), fun _ => by omega, fun _ => ik (by omega), fun _ => ik (by omega), fun _ => ik (by omega), fun _ => by omega, fun _ => by omega, fun _ => ik (by omega), fun _ => by omega, fun _ => ik (by omega), fun _ => by omega, fun _ => hR, fun _ => ho.2.1, fun _ => ⟨ho.1.1, by have := ho.1.2; omega⟩, fun _ => ho.2.2.1, fun _ _ => hx, ?_⟩⟩
    show iI (acc + bI (d 66 (707 + 4 * k) = x ∧ (noD (barF (d 66) (d 66 (708 + 4 * k))) = -1 ∨ ¬ noD (barF (d 66) (d 66 (708 + 4 * k))) < effF (d 66) k))) ∧ (iI (k + 1) ∧ pX12_timelyClaims_1 x (acc + bI (d 66 (707 + 4 * k) = x ∧ (noD (barF (d 66) (d 66 (708 + 4 * k))) = -1 ∨ ¬ noD (barF (d 66) (d 66 (708 + 4 * k))) < effF (d 66) k))) (k + 1) g d Q)
    rw [eb]
    exact ⟨ik (by omega), ik (by omega), ih _ (k + 1) (by omega) (by omega) (by omega) (by omega) h⟩
theorem m_timelyClaims {x : Int} {g : mG} {d : mD} {Q : mQ} (hR : RW (d 66)) (h : HN [3] (r_timelyClaims (d 66) x) d g Q) : MM mX12_timelyClaims [vR 65, vI x] g d Q := by
  have h1 := hR.n.2.1
  have h6 := hR.n.2.2.2.2.2.2
  refine eX12_timelyClaims ⟨ik (by omega), fun c => h.e (iO_f (by omega)) rfl 0, fun c => ?_⟩
  refine l_timelyClaims (by rw [r66]; exact hR) (d 66 6).toNat 0 0 (by omega) (by rw [r66]; omega) (by omega) (by omega) ?_
  rw [r66, Int.zero_add]
  refine h.v ?_
  unfold r_timelyClaims cn
  rw [iO_t (by omega), show d 66 6 - 1 - 0 + 1 = d 66 6 by omega]
-- consistency
theorem q_conductAgrees {R : rW} {g : mG} {d : mD} {Q : mQ} (hC : CI d R) (h : Q (.inl 1) g d) : MM mX11_conductAgrees [vR 0] g d Q := by
  have e := hC.oc.1
  have h5 := hC.w.n.2.2.2.2.2.1
  have l2 : ∀ (m : Nat) (a b : Int), 0 ≤ a ∧ a < R 5 → 0 ≤ b → b + m = R 5 → pX11_conductAgrees_1 (a + 1) g d Q → pX11_conductAgrees_2 a b g d Q := by
    intro m
    induction m with
    | zero => intro a b ha hb hm k; exact aX11_conductAgrees_2 (R := R) ⟨fun _ => ⟨ik (by omega), k⟩, fun c => absurd (by omega) c⟩
    | succ m ih =>
      intro a b ha hb hm k
      exact aX11_conductAgrees_2 (R := R) ⟨fun c => absurd c (by omega), fun c => ⟨by omega, by omega, hC, ha, by omega, fun _ => ⟨ik (by omega), ih a (b + 1) ha (by omega) (by omega) k⟩, fun c2 => absurd (bI_cg (hC.oc.2.2.2 a b (by omega) (by omega))) c2⟩⟩
  have l1 : ∀ (m : Nat) (a : Int), 0 ≤ a → a + m = R 5 → pX11_conductAgrees_1 a g d Q := by
    intro m
    induction m with
    | zero => intro a ha hm; exact aX11_conductAgrees_1 ⟨fun _ => h, fun c => absurd (by omega) c⟩
    | succ m ih => intro a ha hm; exact aX11_conductAgrees_1 ⟨fun c => absurd c (by omega), fun c => l2 (R 5).toNat a 0 (by omega) (by omega) (by omega) (ih (a + 1) (by omega) (by omega))⟩
  exact eX11_conductAgrees (l1 (R 5).toNat 0 (by omega) (by omega))
theorem q_courtDaysAgree {R : rW} {g : mG} {d : mD} {Q : mQ} (hC : CI d R) (h : ∀ d', FrM d d' → Q (.inl 1) g d') : MM mX11_courtDaysAgree [vR 0] g d Q := by
  have e := hC.cal.1
  have h0 := hC.w.n.1
  refine eX11_courtDaysAgree (R := R) ⟨hC, by decide, by omega, by omega, by omega, fun d' hf => ?_⟩
  rw [bI_t rfl]
  exact h d' hf
theorem q_deadlineAgrees {x : Int} {R : rW} {g : mG} {d : mD} {Q : mQ} (hC : CI d R) (hx : 0 ≤ x ∧ x < R 3) (h : ∀ d', FrS d d' → Q (.inl 1) g d') : MM mX11_deadlineAgrees [vR 0, vI x] g d Q := by
  have e := hC.cal.1
  have h0 := hC.w.n.1
  refine eX11_deadlineAgrees (R := R) ⟨hC, hx, fun d1 f1 => ⟨hC.frW f1, fun d2 f2 => ⟨fun _ => ?_, fun c => absurd rfl c⟩⟩⟩
  have g2 : FrS d d2 := (FrS.w f1).tr (FrS.m f2)
  refine ⟨hC.frS g2, e, fun d3 f3 => ⟨(hC.frS g2).frW f3, fun d4 f4 => ⟨fun _ => ?_, fun c => absurd rfl c⟩⟩⟩
  have g4 : FrS d d4 := (g2.tr (FrS.w f3)).tr (FrS.m f4)
  refine ⟨hC.frS g4, by omega, by omega, fun d5 f5 => ⟨(hC.frS g4).frW f5, fun d6 f6 => ?_⟩⟩
  rw [bI_t rfl]
  exact h d6 ((g4.tr (FrS.w f5)).tr (FrS.m f6))
theorem q_isConsistent {R : rW} {g : mG} {d : mD} {Q : mQ} (hC : CI d R) (h : HQ (.inl 1) d g Q) : MM mX11_isConsistent [vR 0] g d Q := by
  have h3 := hC.w.n.2.2.2.1
  have l1 : ∀ (m : Nat) (a : Int) (d' : mD), FrS d d' → 0 ≤ a → a + m = R 3 → pX11_isConsistent_1 a g d' Q := by
    intro m
    induction m with
    | zero =>
      intro a d' hf ha hm
      have e3 := (hC.frS hf).dl.1
      refine aX11_isConsistent_1 ⟨fun _ => q_conductAgrees (hC.frS hf) ⟨fun c => absurd c (by decide), fun _ => q_courtDaysAgree (hC.frS hf) fun d'' hf2 => ?_⟩, fun c => absurd (by omega) c⟩
      show Q (.inl (bI (¬ ((1 : Int) = 0)))) g d''
      rw [bI_t (by decide)]
      exact h d'' (hf.tr (FrS.m hf2))
    | succ m ih =>
      intro a d' hf ha hm
      have e3 := (hC.frS hf).dl.1
      refine aX11_isConsistent_1 ⟨fun c => absurd c (by omega), fun _ => q_deadlineAgrees (hC.frS hf) (by omega) fun d'' hf2 => ⟨fun c => absurd c (by decide), fun _ => ⟨ik (by omega), ih (a + 1) d'' (hf.tr hf2) (by omega) (by omega)⟩⟩⟩
  exact eX11_isConsistent (l1 (R 3).toNat 0 d FrS.rf (by omega) (by omega))
theorem m_isConsistent {g : mG} {d : mD} {Q : mQ} (h : HN [] (.inl 1) d g Q) : MM mX12_isConsistent [vR 65] g d Q := eX12_isConsistent (h.v rfl)
