-- answers, third part
noncomputable def r_barDay (R : rW) (x : Int) : mO := iO (0 ≤ x ∧ x < R 5) (iO (barF R x = 5000) (.inr 4) (.inl (barF R x))) (.inr 3)
theorem r_barDay_5 {R : rW} {x : Int} (h : 0 ≤ x ∧ x < R 5) (h2 : barF R x = 5000) : r_barDay R x = .inr 4 := by unfold r_barDay; rw [iO_t h, iO_t h2]
theorem r_barDay_v {R : rW} {x : Int} (h : 0 ≤ x ∧ x < R 5) (h2 : ¬ barF R x = 5000) : r_barDay R x = .inl (barF R x) := by unfold r_barDay; rw [iO_t h, iO_f h2]
theorem barF_rng {R : rW} (hR : RW R) {x : Int} (h : 0 ≤ x ∧ x < R 5) : 0 ≤ barF R x ∧ barF R x ≤ 5000 := by
  have h1 := (hR.o.1 x h).1
  have h0 := hR.n.1
  have := endF_rng (R := R) (p := -1) (r := R (668 + 5 * x)) (f := R (667 + 5 * x)) (len := R (669 + 5 * x)) (ic := bI (R (670 + 5 * x) = 1)) (by omega)
  unfold barF
  omega
theorem effN_rng {R : rW} (hR : RW R) : ∀ (n : Nat) (c : Int), 0 ≤ c ∧ c < R 6 → 0 ≤ effN R n c ∧ effN R n c ≤ R 0 := by
  intro n
  induction n with
  | zero => intro c hc; exact (hR.c hc).2.2.1
  | succ n ih =>
    intro c hc
    have h1 := (hR.c hc).2.2.2
    unfold effN
    by_cases q : R (710 + 4 * c) ≠ -1 ∧ conn R (R (708 + 4 * c)) (R (708 + 4 * R (710 + 4 * c)))
    · rw [if_pos q]
      exact ih _ (by omega)
    · rw [if_neg q]
      exact (hR.c hc).2.2.1
theorem effF_rng {R : rW} (hR : RW R) {c : Int} (hc : 0 ≤ c ∧ c < R 6) : 0 ≤ effF R c ∧ effF R c ≤ R 0 := effN_rng hR _ _ hc
noncomputable def r_effectiveDay (R : rW) (x : Int) : mO := iO (0 ≤ x ∧ x < R 6) (.inl (effF R x)) (.inr 3)
def tim (R : rW) (c : Int) : Prop := ¬ barF R (R (708 + 4 * c)) < effF R c
noncomputable def r_isTimely (R : rW) (x : Int) : mO := iO (0 ≤ x ∧ x < R 6) (.inl (bI (tim R x))) (.inr 3)
theorem tim_m {R : rW} (hR : RW R) {c : Int} (hc : 0 ≤ c ∧ c < R 6) : (noD (barF R (R (708 + 4 * c))) = -1 ∨ ¬ noD (barF R (R (708 + 4 * c))) < effF R c) ↔ tim R c := by
  have h1 := (hR.c hc).2.1
  have hb := barF_rng hR h1
  have he := effF_rng hR hc
  have h0 := hR.n.1
  unfold tim noD
  split <;> omega
-- timely claims of a party
noncomputable def r_timelyClaims (R : rW) (x : Int) : mO := iO (0 ≤ x ∧ x < R 1) (.inl (cn (fun c => R (707 + 4 * c) = x ∧ tim R c) 0 (R 6 - 1))) (.inr 3)
-- consistency
theorem q_conductAgrees {R : rW} {g : mG} {d : mD} {Q : mQ} (hC : CI d R) (h : Q (.inl 1) g d) : MM mX11_conductAgrees [vR 0] g d Q := by
  have e := hC.oc.1
  have h5 := hC.w.n.2.2.2.2.2.1
  have l2 : ∀ (m : Nat) (a b : Int), 0 ≤ a ∧ a < R 5 → 0 ≤ b → b + m = R 5 → pX11_conductAgrees_1 (a + 1) g d Q → pX11_conductAgrees_2 a b g d Q := by
    intro m
    induction m with
    | zero => intro a b ha hb hm k; exact aX11_conductAgrees_2 (R := R) ⟨fun _ => ⟨ik (by omega), k⟩, fun c => absurd (by omega) c⟩
    | succ m ih =>
      intro a b ha hb hm k
      exact aX11_conductAgrees_2 (R := R) ⟨fun c => absurd c (by omega), fun c => ⟨by omega, by omega, hC, ha, by omega, fun _ => ⟨ik (by omega), ih a (b + 1) ha (by omega) (by omega) k⟩, fun c2 => absurd (bI_cg (hC.oc.2.2.2 a b (by omega) (by omega))) c2⟩⟩
  have l1 : ∀ (m : Nat) (a : Int), 0 ≤ a → a + m = R 5 → pX11_conductAgrees_1 a g d Q := by
    intro m
    induction m with
    | zero => intro a ha hm; exact aX11_conductAgrees_1 ⟨fun _ => h, fun c => absurd (by omega) c⟩
    | succ m ih => intro a ha hm; exact aX11_conductAgrees_1 ⟨fun c => absurd c (by omega), fun c => l2 (R 5).toNat a 0 (by omega) (by omega) (by omega) (ih (a + 1) (by omega) (by omega))⟩
  exact eX11_conductAgrees (l1 (R 5).toNat 0 (by omega) (by omega))
theorem q_courtDaysAgree {R : rW} {g : mG} {d : mD} {Q : mQ} (hC : CI d R) (h : ∀ d', FrM d d' → Q (.inl 1) g d') : MM mX11_courtDaysAgree [vR 0] g d Q := by
  have e := hC.cal.1
  have h0 := hC.w.n.1
  refine eX11_courtDaysAgree (R := R) ⟨hC, by decide, by omega, by omega, by omega, fun d' hf => ?_⟩
  rw [bI_t rfl]
  exact h d' hf
theorem q_deadlineAgrees {x : Int} {R : rW} {g : mG} {d : mD} {Q : mQ} (hC : CI d R) (hx : 0 ≤ x ∧ x < R 3) (h : ∀ d', FrS d d' → Q (.inl 1) g d') : MM mX11_deadlineAgrees [vR 0, vI x] g d Q := by
  have e := hC.cal.1
  have h0 := hC.w.n.1
  refine eX11_deadlineAgrees (R := R) ⟨hC, hx, fun d1 f1 => ⟨hC.frW f1, fun d2 f2 => ⟨fun _ => ?_, fun c => absurd rfl c⟩⟩⟩
  have g2 : FrS d d2 := (FrS.w f1).tr (FrS.m f2)
  refine ⟨hC.frS g2, e, fun d3 f3 => ⟨(hC.frS g2).frW f3, fun d4 f4 => ⟨fun _ => ?_, fun c => absurd rfl c⟩⟩⟩
  have g4 : FrS d d4 := (g2.tr (FrS.w f3)).tr (FrS.m f4)
  refine ⟨hC.frS g4, by omega, by omega, fun d5 f5 => ⟨(hC.frS g4).frW f5, fun d6 f6 => ?_⟩⟩
  rw [bI_t rfl]
  exact h d6 ((g4.tr (FrS.w f5)).tr (FrS.m f6))
theorem q_isConsistent {R : rW} {g : mG} {d : mD} {Q : mQ} (hC : CI d R) (h : HQ (.inl 1) d g Q) : MM mX11_isConsistent [vR 0] g d Q := by
  have h3 := hC.w.n.2.2.2.1
  have l1 : ∀ (m : Nat) (a : Int) (d' : mD), FrS d d' → 0 ≤ a → a + m = R 3 → pX11_isConsistent_1 a g d' Q := by
    intro m
    induction m with
    | zero =>
      intro a d' hf ha hm
      have e3 := (hC.frS hf).dl.1
      refine aX11_isConsistent_1 ⟨fun _ => q_conductAgrees (hC.frS hf) ⟨fun c => absurd c (by decide), fun _ => q_courtDaysAgree (hC.frS hf) fun d'' hf2 => ?_⟩, fun c => absurd (by omega) c⟩
      show Q (.inl (bI (¬ ((1 : Int) = 0)))) g d''
      rw [bI_t (by decide)]
      exact h d'' (hf.tr (FrS.m hf2))
    | succ m ih =>
      intro a d' hf ha hm
      have e3 := (hC.frS hf).dl.1
      refine aX11_isConsistent_1 ⟨fun c => absurd c (by omega), fun _ => q_deadlineAgrees (hC.frS hf) (by omega) fun d'' hf2 => ⟨fun c => absurd c (by decide), fun _ => ⟨ik (by omega), ih (a + 1) d'' (hf.tr hf2) (by omega) (by omega)⟩⟩⟩
  exact eX11_isConsistent (l1 (R 3).toNat 0 d FrS.rf (by omega) (by omega))
