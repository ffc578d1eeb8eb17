-- answers, sixth part: the mean
theorem n64_of {r : UInt64} (h : FP.Core.val64 r ≠ .nan) : vf_n64 r := by
  unfold vf_n64
  have h0 : FP.Core.decode FP.Core.b64 r.toNat ≠ .nan := h
  have hl : r.toNat < 2 ^ 64 := r.toNat_lt
  rw [UInt64.le_iff_toNat_le, UInt64.toNat_and]
  rw [show (9223372036854775807 : UInt64).toNat = 2 ^ 63 - 1 from rfl, show (9218868437227405312 : UInt64).toNat = 9218868437227405312 from rfl, Nat.and_two_pow_sub_one_eq_mod]
  unfold FP.Core.decode FP.Core.fieldE FP.Core.fieldT at h0
  rw [show FP.Core.b64.tails = 4503599627370496 from rfl, show FP.Core.b64.exps = 2048 from rfl] at h0
  by_cases c : r.toNat / 4503599627370496 % 2048 = 2048 - 1
  · rw [if_pos c] at h0
    by_cases c2 : r.toNat % 4503599627370496 = 0
    · omega
    · rw [if_neg c2] at h0
      exact absurd rfl h0
  · omega
theorem quo_nn {s t : Bool} {c e : Nat} {q r : Int} (h : e ≠ 0) : FP.Core.quotient FP.Core.b64 (.fin s c q) (.fin t e r) ≠ .nan := by
  show (if e = 0 then (if c = 0 then FP.Core.Datum.nan else .inf (s != t)) else FP.Core.roundRatio FP.Core.b64 (s != t) c e (q - r)) ≠ .nan
  rw [if_neg h]
  unfold FP.Core.roundRatio
  split
  · exact fun q => nomatch q
  · unfold FP.Core.roundAt FP.Core.settle FP.Core.bound
    split
    · split <;> exact fun q => nomatch q
    · split <;> exact fun q => nomatch q
theorem whl_fin {i : Int} {x : FP.Core.Datum} (h : FP.Core.Whole i x) : ∃ s c q, x = .fin s c q ∧ (i ≠ 0 → c ≠ 0) := by
  cases x with
  | nan => exact h.elim
  | inf => exact h.elim
  | fin s c q =>
    refine ⟨s, c, q, rfl, fun hi hc => ?_⟩
    have h0 : FP.Core.signed s (c * 2 ^ q.toNat) = i * ((2 ^ (-q).toNat : Nat) : Int) := h
    rw [hc, Nat.zero_mul] at h0
    have h1 : FP.Core.signed s 0 = 0 := by cases s <;> rfl
    rw [h1] at h0
    have h2 : (0 : Int) < ((2 ^ (-q).toNat : Nat) : Int) := by have := Nat.two_pow_pos (-q).toNat; omega
    rcases Int.mul_eq_zero.mp h0.symm with a | a
    · exact hi a
    · omega
theorem n64_mean {a b : Int} (hb : 1 ≤ b ∧ b ≤ 100) : vf_n64 (FP.ddiv (UInt64.ofNat (fI2 a).toNat) (UInt64.ofNat (fI2 b).toNat)) := by
  refine n64_of ?_
  have e : ∀ x : Int, UInt64.ofNat (fI2 x).toNat = FP.i2d (Int32.ofInt x) := fun x => f_of _
  rw [e, e]
  have ha := FP.Core.i2d_int (Int32.ofInt a)
  have hb2 := FP.Core.i2d_int (Int32.ofInt b)
  have eb : (Int32.ofInt b).toInt = b := Int32.toInt_ofInt_of_le (by omega) (by omega)
  rw [eb] at hb2
  rw [show FP.Core.val64 (FP.ddiv (FP.i2d (Int32.ofInt a)) (FP.i2d (Int32.ofInt b))) = _ from FP.Core.val64_ddiv _ _]
  obtain ⟨s, c, q, h1, _⟩ := whl_fin ha
  obtain ⟨t, e', r, h2, h3⟩ := whl_fin hb2
  rw [show FP.Core.val64 (FP.i2d (Int32.ofInt a)) = _ from h1, show FP.Core.val64 (FP.i2d (Int32.ofInt b)) = _ from h2]
  exact quo_nn (h3 (by omega))
noncomputable def mlN (R : rW) : Nat → Int → Int → Int → mO
  | 0, _, s, n => iO (n = 0) (.inr 6) (.inl (fDiv (fI2 s) (fI2 n)))
  | m + 1, i, s, n => iO (opn R i) (mlN R m (i + 1) (s + leftF R i) (n + 1)) (mlN R m (i + 1) s n)
theorem mlN_s {R : rW} {m : Nat} {i s n : Int} : mlN R (m + 1) i s n = iO (opn R i) (mlN R m (i + 1) (s + leftF R i) (n + 1)) (mlN R m (i + 1) s n) := rfl
noncomputable def r_meanDaysLeft (R : rW) : mO := mlN R (R 3).toNat 0 0 0
theorem q_meanDaysLeft {R : rW} {g : mG} {d : mD} {Q : mQ} (hC : CI d R) (h : HQ (r_meanDaysLeft R) d g Q) : MM mX11_meanDaysLeft [vR 0] g d Q := by
  have h3 := hC.w.n.2.2.2.1
  have hl : ∀ (m : Nat) (s n k : Int) (d' : mD), FrS d d' → 0 ≤ k → k + m = R 3 → (0 ≤ n ∧ n ≤ k) → (-1500 * k ≤ s ∧ s ≤ 1500 * k) → mlN R m k s n = r_meanDaysLeft R → pX11_meanDaysLeft_1 s n k g d' Q := by
    intro m
    induction m with
    | zero =>
      intro s n k d' hf hk hm hn hs he
      have hC' := hC.frS hf
      have e3 := hC'.dl.1
      rw [show mlN R 0 k s n = iO (n = 0) (.inr 6) (.inl (fDiv (fI2 s) (fI2 n))) from rfl] at he
      refine aX11_meanDaysLeft_1 (R := R) ⟨fun _ => ⟨fun c => ?_, fun c => ⟨n64_mean (by omega), ?_⟩⟩, fun c => absurd (by omega) c⟩
      · rw [iO_t c] at he
        exact h.s hf he.symm
      · rw [iO_f c] at he
        exact h.s hf he.symm
    | succ m ih =>
      intro s n k d' hf hk hm hn hs he
      have hC' := hC.frS hf
      have e3 := hC'.dl.1
      have es : d' 27 k = R (145 + 16 * k) := (hC'.dl.2 k (by omega)).2.2.2.2.2.2.2.2.2.2
      have hr := leftF_rng hC.w (i := k) (by omega)
      rw [mlN_s] at he
      refine aX11_meanDaysLeft_1 (R := R) ⟨fun c => absurd c (by omega), fun _ => ⟨by omega, fun c => ⟨hC', by omega, hC'.cal.1, fun d'' hf2 => ?_⟩, fun c => ⟨ik (by omega), ?_⟩⟩⟩
      · rw [iO_t (p := opn R k) (es.symm.trans c)] at he
        refine ⟨ik (by unfold leftF at hr; omega), ik (by unfold leftF at hr; omega), ik (by omega), ik (by omega), ?_⟩
        exact ih (s + leftF R k) (n + 1) (k + 1) d'' (hf.tr (FrS.w hf2)) (by omega) (by omega) (by omega) (by omega) he
      · rw [iO_f (p := opn R k) (fun q => c (es.trans q))] at he
        exact ih s n (k + 1) d' hf (by omega) (by omega) (by omega) (by omega) he
  exact eX11_meanDaysLeft (hl (R 3).toNat 0 0 0 d FrS.rf (by omega) (by omega) (by omega) (by omega) rfl)
theorem m_meanDaysLeft {g : mG} {d : mD} {Q : mQ} (hR : RW (d 66)) (h : HN [6] (r_meanDaysLeft (d 66)) d g Q) : MM mX12_meanDaysLeft [vR 65] g d Q := by
  have h3 := hR.n.2.2.2.1
  have hl : ∀ (m : Nat) (s n k : Int), 0 ≤ k → k + m = d 66 3 → (0 ≤ n ∧ n ≤ k) → (-1500 * k ≤ s ∧ s ≤ 1500 * k) → mlN (d 66) m k s n = r_meanDaysLeft (d 66) → pX12_meanDaysLeft_1 s n k g (ud d 65 5 0) Q := by
    intro m
    induction m with
    | zero =>
      intro s n k hk hm hn hs he
      rw [show mlN (d 66) 0 k s n = iO (n = 0) (.inr 6) (.inl (fDiv (fI2 s) (fI2 n))) from rfl] at he
      refine aX12_meanDaysLeft_1 ?_
      rw [r66]
      refine ⟨fun _ => f_failsM (ud_same _ _ _ _) (by decide) (fun c => ?_) (fun c => ?_), fun c => absurd (by omega) c⟩
      · refine ⟨fun q => absurd q (by decide), ?_⟩
        show Q (.inl (iT ((1 : Int) = 0) _ 0)) g _
        rw [iT_f (by decide)]
        rw [iO_t c] at he
        exact h.e he.symm rfl 0
      · refine ⟨fun _ => n64_mean (by omega), ?_⟩
        show Q (.inl (iT ((0 : Int) = 0) _ 0)) g _
        rw [iT_t rfl]
        rw [iO_f c] at he
        exact h.v he.symm
    | succ m ih =>
      intro s n k hk hm hn hs he
      have hr := leftF_rng hR (i := k) (by omega)
      rw [mlN_s] at he
      refine aX12_meanDaysLeft_1 ?_
      rw [r66]
      refine ⟨fun c => absurd c (by omega), fun _ => ⟨by omega, fun c => ⟨hR, by omega, ik (by omega), ik (by omega), ik (by omega), ?_⟩, fun c => ⟨ik (by omega), ?_⟩⟩⟩
      · rw [iO_t (p := opn (d 66) k) c] at he
        exact ih _ _ (k + 1) (by omega) (by omega) (by omega) (by omega) he
      · rw [iO_f (p := opn (d 66) k) c] at he
        exact ih _ _ (k + 1) (by omega) (by omega) (by omega) (by omega) he
  exact eX12_meanDaysLeft (hl (d 66 3).toNat 0 0 0 (by omega) (by omega) (by omega) (by omega) rfl)
