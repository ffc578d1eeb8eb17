-- links, reference
theorem nAnd_low {a k : Int} (ha : 0 ≤ a) (hk : 0 ≤ k) : nAnd a (1 * 2 ^ k.toNat - 1) = 0 ↔ ∀ j, 0 ≤ j → j < k → ¬ bitp a j := by
  have e : ((1 : Int) * 2 ^ k.toNat - 1).toNat = 2 ^ k.toNat - 1 := by
    rw [Int.one_mul, pow_cast]
    have := Nat.two_pow_pos k.toNat
    omega
  unfold nAnd
  rw [e, Nat.and_two_pow_sub_one_eq_mod]
  constructor
  · intro h j hj1 hj2 hb
    have h0 : a.toNat % 2 ^ k.toNat = 0 := by omega
    have h1 := (bitp_nat ha).1 hb
    have h2 : (a.toNat % 2 ^ k.toNat).testBit j.toNat = true := by
      rw [Nat.testBit_mod_two_pow, h1, decide_eq_true (show j.toNat < k.toNat by omega)]; rfl
    rw [h0, Nat.zero_testBit] at h2
    exact absurd h2 (by decide)
  · intro h
    have h0 : a.toNat % 2 ^ k.toNat = 0 := by
      refine Nat.eq_of_testBit_eq fun i => ?_
      rw [Nat.testBit_mod_two_pow, Nat.zero_testBit]
      by_cases c : i < k.toNat
      · have h1 := h (i : Int) (Int.natCast_nonneg _) (by omega)
        rw [bitp_nat ha, Int.toNat_natCast] at h1
        rw [decide_eq_true c, Bool.true_and]
        exact Bool.eq_false_iff.mpr h1
      · rw [decide_eq_false c]; rfl
    rw [h0]; rfl
theorem ldr_m {R : rW} (hR : RW R) {k : Int} (hk : 0 ≤ k ∧ k < R 5) : nAnd (condF R k) (1 * 2 ^ k.toNat - 1) = 0 ↔ ldr R k := by
  rw [nAnd_low (condF_nn hR hk) hk.1]
  constructor
  · intro h j q1 q2 q3
    exact h j q1 q2 ((condF_conn hR hk q1).2 q3)
  · intro h j q1 q2 q3
    exact h j q1 q2 ((condF_conn hR hk q1).1 q3)
theorem n_link {x y : Int} {g : mG} {d : mD} {Q : mQ} (hR : RW (d 66)) (h3 : 0 ≤ d 65 3 ∧ d 65 3 ≤ 8) (h : HK [-1, -2, -3] (st_link (d 66) x y) d g Q) : MM mX12_linkOccurrences [vR 65, vI x, vI y] g d Q := by
  have n5 := hR.n.2.2.2.2.2.1
  refine eX12_linkOccurrences ⟨ik (by omega), fun c => h.e (sO_f (by omega)) (by decide) (by decide) 0, fun c => ⟨fun c2 => h.e (c := -2) (R := d 66) ?_ (by decide) (by decide) 0, fun c2 => ?_⟩⟩
  · unfold st_link
    rw [sO_t (by omega), sO_t c2]
  · have hx : 0 ≤ x ∧ x < d 66 5 := by omega
    have hy : 0 ≤ y ∧ y < d 66 5 := by omega
    have bx := (hR.o.1 x hx).2.2.2.2
    have byy := (hR.o.1 y hy).2.2.2.2
    have px := pow8k (k := x) (by omega)
    have py := pow8k (k := y) (by omega)
    refine ⟨ik (by omega), ik (by omega), ik (by omega), by omega, by omega, by omega, fun c3 => h.e (c := -3) (R := d 66) ?_ (by decide) (by decide) 0, fun c3 => ?_⟩
    · unfold st_link
      rw [sO_t ⟨hx, hy⟩, sO_f c2, sO_t (p := bitp (d 66 (671 + 5 * x)) y) c3]
    · have hs : st_link (d 66) x y = (grpF (lkR (d 66) x y), lkR (d 66) x y) := by
        unfold st_link
        rw [sO_t ⟨hx, hy⟩, sO_f c2, sO_f (p := bitp (d 66 (671 + 5 * x)) y) c3]
      have hW := w_link hR hx hy c2
      have e5 : lkR (d 66) x y 5 = d 66 5 := lkR_ne (by omega) (by omega)
      have q1 : ud (mChg (ud d 65 5 0)) 66 (671 + 5 * x) (nOr (d 66 (671 + 5 * x)) ((1 : Int) * 2 ^ y.toNat)) 66 (671 + 5 * y) = d 66 (671 + 5 * y) := by rw [ud_ne (by omega), mChg66]
      rw [q1]
      refine ⟨h3, by omega, ik (by omega), by omega, ik (by omega), ik (by omega), ik (by omega), by omega, by omega, ik (by omega), by omega, by omega, ?_⟩
      have e66 : ud (ud (mChg (ud d 65 5 0)) 66 (671 + 5 * x) (nOr (d 66 (671 + 5 * x)) ((1 : Int) * 2 ^ y.toNat))) 66 (671 + 5 * y) (nOr (d 66 (671 + 5 * y)) ((1 : Int) * 2 ^ x.toNat)) 66 = lkR (d 66) x y := by
        rw [ud_up, ud_up, mChg66]; rfl
      have hl : ∀ (m : Nat) (acc k : Int), 0 ≤ k → k + m = d 66 5 → 0 ≤ acc → acc ≤ k → acc + cnN (ldr (lkR (d 66) x y)) m k = grpF (lkR (d 66) x y) → pX12_linkOccurrences_1 x y acc k g (ud (ud (mChg (ud d 65 5 0)) 66 (671 + 5 * x) (nOr (d 66 (671 + 5 * x)) ((1 : Int) * 2 ^ y.toNat))) 66 (671 + 5 * y) (nOr (d 66 (671 + 5 * y)) ((1 : Int) * 2 ^ x.toNat))) Q := by
        intro m
        induction m with
        | zero =>
          intro acc k hk hm a1 a2 he
          rw [show ∀ P, acc + cnN P 0 k = acc from fun _ => Int.add_zero _] at he
          refine aX12_linkOccurrences_1 ?_
          rw [e66, e5]
          exact ⟨fun _ => h.v (by rw [hs, he]) a1 e66 (fun b j q => by repeat rw [ud_ne (by omega)]), fun c => absurd (by omega) c⟩
        | succ m ih =>
          intro acc k hk hm a1 a2 he
          rw [show ∀ P, acc + cnN P (m + 1) k = acc + bI (P k) + cnN P m (k + 1) from fun P => (Int.add_assoc _ _ _).symm] at he
          have hr := @bI_rng (ldr (lkR (d 66) x y) k)
          have pk := pow8k (k := k) (by omega)
          refine aX12_linkOccurrences_1 ?_
          rw [e66, e5, bI_cg (ldr_m hW (k := k) (by omega))]
          exact ⟨fun c => absurd c (by omega), fun _ => ⟨hW, by omega, by omega, ik (by omega), ik (by omega), condF_nn hW (by omega), by omega, ik (by omega), ik (by omega), ih _ (k + 1) (by omega) (by omega) (by omega) (by omega) he⟩⟩
      exact hl (d 66 5).toNat 0 0 (by omega) (by omega) (by omega) (by omega) (by rw [Int.zero_add]; unfold grpF; rw [e5])
