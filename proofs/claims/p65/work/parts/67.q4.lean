-- answers, fourth part: the open deadlines
def opn (R : rW) (i : Int) : Prop := R (145 + 16 * i) = 111
noncomputable def odF (R : rW) (i : Int) : Int := iT (opn R i) (dueF R i) 5000
theorem odF_o {R : rW} {i : Int} (h : opn R i) : odF R i = dueF R i := iT_t h
theorem odF_c {R : rW} {i : Int} (h : ¬ opn R i) : odF R i = 5000 := iT_f h
theorem odF_rng {R : rW} (hR : RW R) {i : Int} (hi : 0 ≤ i ∧ i < R 3) : 0 ≤ odF R i ∧ odF R i ≤ 5000 := by
  by_cases c : opn R i
  · rw [odF_o c]; exact dueF_rng hR hi
  · rw [odF_c c]; decide
theorem q_findOpenDues {R : rW} {g : mG} {d : mD} {Q : mQ} (hC : CI d R) (h : ∀ d', FrS d d' → (∀ j, 0 ≤ j → j < R 3 → d' 59 j = odF R j) → Q (.inl 0) g d') : MM mX11_findOpenDues [vR 0] g d Q := by
  have h3 := hC.w.n.2.2.2.1
  have hl : ∀ (m : Nat) (x : Int) (d' : mD), FrS d d' → 0 ≤ x → x + m = R 3 → (∀ j, 0 ≤ j → j < x → d' 59 j = odF R j) → pX11_findOpenDues_1 x g d' Q := by
    intro m
    induction m with
    | zero =>
      intro x d' hf hx hm ho
      have e3 := (hC.frS hf).dl.1
      exact aX11_findOpenDues_1 (R := R) ⟨fun _ => h d' hf (fun j q1 q2 => ho j q1 (by omega)), fun c => absurd (by omega) c⟩
    | succ m ih =>
      intro x d' hf hx hm ho
      have hC' := hC.frS hf
      have e3 := hC'.dl.1
      have es := (hC'.dl.2 x (by omega)).2.2.2.2.2.2.2.2.2.2
      refine aX11_findOpenDues_1 (R := R) ⟨fun c => absurd c (by omega), fun _ => ⟨by omega, fun c => ⟨hC', by omega, fun d'' hf2 => ⟨ik (by omega), ih (x + 1) _ ?_ (by omega) (by omega) ?_⟩⟩, fun c => ⟨ik (by omega), ih (x + 1) _ ?_ (by omega) (by omega) ?_⟩⟩⟩
      · intro b j q1 q2
        rw [ud_ne (by omega)]
        exact (hf.tr (FrS.w hf2)) b j q1 q2
      · intro j q1 q2
        by_cases e : j = x
        · subst e
          rw [ud_same, odF_o (by unfold opn; omega)]
        · rw [ud_ne (by omega), hf2 (by omega)]
          exact ho j q1 (by omega)
      · intro b j q1 q2
        rw [ud_ne (by omega)]
        exact hf b j q1 q2
      · intro j q1 q2
        by_cases e : j = x
        · subst e
          rw [ud_same, odF_c (by unfold opn; omega)]
        · rw [ud_ne (by omega)]
          exact ho j q1 (by omega)
  exact eX11_findOpenDues (hl (R 3).toNat 0 d FrS.rf (by omega) (by omega) (fun j q1 q2 => by omega))
-- the answers of a loop, with a code in 65.5 that is still 0
-- the place in the order
def bef (R : rW) (i j : Int) : Prop := opn R j ∧ (odF R j < odF R i ∨ (odF R j = odF R i ∧ ¬ i ≤ j))
noncomputable def rkF (R : rW) (i : Int) : Int := cnN (bef R i) (R 3).toNat 0
noncomputable def oaN (R : rW) (x : Int) : Nat → Int → mO
  | 0, _ => .inr 4
  | n + 1, i => iO (opn R i ∧ rkF R i = x) (.inl i) (oaN R x n (i + 1))
noncomputable def r_openAt (R : rW) (x : Int) : mO := oaN R x (R 3).toNat 0
theorem q_countOpenAhead {R : rW} {x : Int} {g : mG} {d : mD} {Q : mQ} (hC : CI d R) (hx : 0 ≤ x ∧ x < R 3) (ho : ∀ j, 0 ≤ j → j < R 3 → d 59 j = odF R j) (h : Q (.inl (rkF R x)) g d) : MM mX11_countOpenAhead [vR 0, vI x] g d Q := by
  have h3 := hC.w.n.2.2.2.1
  have e3 := hC.dl.1
  have hl : ∀ (m : Nat) (acc k : Int), 0 ≤ k → k + m = R 3 → 0 ≤ acc → acc ≤ k → acc + cnN (bef R x) m k = rkF R x → pX11_countOpenAhead_1 x acc k g d Q := by
    intro m
    induction m with
    | zero =>
      intro acc k hk hm q1 q2 he
      rw [show ∀ P, acc + cnN P 0 k = acc from fun _ => Int.add_zero _] at he
      rw [he]
      exact aX11_countOpenAhead_1 ⟨fun _ => h, fun c => absurd (by omega) c⟩
    | succ m ih =>
      intro acc k hk hm q1 q2 he
      rw [show ∀ P, acc + cnN P (m + 1) k = acc + bI (P k) + cnN P m (k + 1) from fun P => (Int.add_assoc _ _ _).symm] at he
      have es : d 27 k = R (145 + 16 * k) := (hC.dl.2 k (by omega)).2.2.2.2.2.2.2.2.2.2
      have ek := ho k (by omega) (by omega)
      have ex := ho x (by omega) (by omega)
      have ey : bef R x k → bI (bef R x k) = 1 := bI_t
      have en : ¬ bef R x k → bI (bef R x k) = 0 := bI_f
      have ed : bef R x k ↔ (d 27 k = 111 ∧ (d 59 k < d 59 x ∨ (d 59 k = d 59 x ∧ ¬ x ≤ k))) := by
        rw [ek, ex, es]; exact Iff.rfl
      refine aX11_countOpenAhead_1 ⟨fun c => absurd c (by omega), fun _ => ⟨by omega, by omega, fun c => ⟨fun c2 => ⟨ik (by omega), ik (by omega), ?_⟩, fun c2 => ⟨ik (by omega), ?_⟩⟩, fun c => ⟨fun c2 => ⟨ik (by omega), ?_⟩, fun c2 => ⟨ik (by omega), ?_⟩⟩⟩⟩
      · rw [ey (ed.2 ⟨c2, c⟩)] at he
        exact ih _ (k + 1) (by omega) (by omega) (by omega) (by omega) he
      · rw [en (fun q => c2 (ed.1 q).1), Int.add_zero] at he
        exact ih _ (k + 1) (by omega) (by omega) (by omega) (by omega) he
      · rw [en (fun q => c (ed.1 q).2), Int.add_zero] at he
        exact ih _ (k + 1) (by omega) (by omega) (by omega) (by omega) he
      · rw [en (fun q => c (ed.1 q).2), Int.add_zero] at he
        exact ih _ (k + 1) (by omega) (by omega) (by omega) (by omega) he
  exact eX11_countOpenAhead (hl (R 3).toNat 0 0 (by omega) (by omega) (by omega) (by omega) (Int.zero_add _))
theorem q_openAt {R : rW} {x : Int} {g : mG} {d : mD} {Q : mQ} (hC : CI d R) (h : HQ (r_openAt R x) d g Q) : MM mX11_openAt [vR 0, vI x] g d Q := by
  have h3 := hC.w.n.2.2.2.1
  refine eX11_openAt (q_findOpenDues hC fun d' hf ho => ?_)
  have hC' := hC.frS hf
  have e3 := hC'.dl.1
  have hl : ∀ (m : Nat) (k : Int), 0 ≤ k → k + m = R 3 → oaN R x m k = r_openAt R x → pX11_openAt_1 x k g d' Q := by
    intro m
    induction m with
    | zero => intro k hk hm he; exact aX11_openAt_1 ⟨fun _ => h.s hf he.symm, fun c => absurd (by omega) c⟩
    | succ m ih =>
      intro k hk hm he
      have es : d' 27 k = R (145 + 16 * k) := (hC'.dl.2 k (by omega)).2.2.2.2.2.2.2.2.2.2
      rw [show oaN R x (m + 1) k = iO (opn R k ∧ rkF R k = x) (.inl k) (oaN R x m (k + 1)) from rfl] at he
      refine aX11_openAt_1 ⟨fun c => absurd c (by omega), fun _ => ⟨by omega, fun c => q_countOpenAhead hC' (by omega) ho ⟨fun c2 => ?_, fun c2 => ⟨ik (by omega), ?_⟩⟩, fun c => ⟨ik (by omega), ?_⟩⟩⟩
      · rw [iO_t ⟨es.symm.trans c, c2⟩] at he
        exact h.s hf he.symm
      · rw [iO_f (fun q => c2 q.2)] at he
        exact ih (k + 1) (by omega) (by omega) he
      · rw [iO_f (fun q => c (es.trans q.1))] at he
        exact ih (k + 1) (by omega) (by omega) he
  exact hl (R 3).toNat 0 (by omega) (by omega) rfl
-- overdue
def ovd (R : rW) (i : Int) : Prop := opn R i ∧ odF R i < R 0
noncomputable def r_overdue (R : rW) : mO := .inl (cnN (ovd R) (R 3).toNat 0)
theorem q_overdue {R : rW} {g : mG} {d : mD} {Q : mQ} (hC : CI d R) (h : HQ (r_overdue R) d g Q) : MM mX11_overdue [vR 0] g d Q := by
  have h3 := hC.w.n.2.2.2.1
  refine eX11_overdue (q_findOpenDues hC fun d' hf ho => ?_)
  have hC' := hC.frS hf
  have e3 := hC'.dl.1
  have e0 := hC'.cal.1
  have hl : ∀ (m : Nat) (acc k : Int), 0 ≤ k → k + m = R 3 → 0 ≤ acc → acc ≤ k → acc + cnN (ovd R) m k = cnN (ovd R) (R 3).toNat 0 → pX11_overdue_1 acc k g d' Q := by
    intro m
    induction m with
    | zero =>
      intro acc k hk hm q1 q2 he
      rw [show ∀ P, acc + cnN P 0 k = acc from fun _ => Int.add_zero _] at he
      rw [he]
      exact aX11_overdue_1 ⟨fun _ => h.s hf rfl, fun c => absurd (by omega) c⟩
    | succ m ih =>
      intro acc k hk hm q1 q2 he
      rw [show ∀ P, acc + cnN P (m + 1) k = acc + bI (P k) + cnN P m (k + 1) from fun P => (Int.add_assoc _ _ _).symm] at he
      have es : d' 27 k = R (145 + 16 * k) := (hC'.dl.2 k (by omega)).2.2.2.2.2.2.2.2.2.2
      have ek := ho k (by omega) (by omega)
      have ed : ovd R k ↔ (d' 27 k = 111 ∧ ¬ d' 10 0 ≤ d' 59 k) := by
        rw [ek, e0, es]; unfold ovd opn; omega
      refine aX11_overdue_1 ⟨fun c => absurd c (by omega), fun _ => ⟨by omega, fun c => ⟨ik (by omega), ik (by omega), ?_⟩, fun c => ⟨ik (by omega), ?_⟩⟩⟩
      · rw [bI_t (ed.2 c)] at he
        exact ih _ (k + 1) (by omega) (by omega) (by omega) (by omega) he
      · rw [bI_f (fun q => c (ed.1 q)), Int.add_zero] at he
        exact ih _ (k + 1) (by omega) (by omega) (by omega) (by omega) he
  exact hl (R 3).toNat 0 0 (by omega) (by omega) (by omega) (by omega) (Int.zero_add _)
