-- the reference runs a program
theorem ps_rng {T : rW} {n : Int} : ∀ (m : Nat) (c p : Int), 0 ≤ c → (0 ≤ p ∧ p ≤ n) → p = psP T n c.toNat → (∀ k, 0 ≤ k → k < c → 0 ≤ psP T n k.toNat ∧ psP T n k.toNat ≤ n) → ∀ k, 0 ≤ k → k < (pgN T n m p c).2 → 0 ≤ psP T n k.toNat ∧ psP T n k.toNat ≤ n := by
  intro m
  induction m with
  | zero =>
    intro c p hc hp hps h k q1 q2
    have q2' : k < c + 1 := q2
    by_cases ck : k = c
    · subst ck; rw [← hps]; exact hp
    · exact h k q1 (by omega)
  | succ m ih =>
    intro c p hc hp hps h k q1 q2
    rw [pgN_s] at q2
    have ok := (cmS_ok (T := T) hp).1.1
    by_cases z : (cmS T n p).2 = 0 ∧ sgF T n (cmS T n p).1 = 59
    · rw [if_pos z] at q2
      have hlt : (cmS T n p).1 < n := by
        rcases Int.lt_or_le (cmS T n p).1 n with a | a
        · exact a
        · have z2 := z.2
          rw [sgF_out a ok.1] at z2
          exact absurd z2 (by decide)
      refine ih (c + 1) _ (by omega) (by omega) (by rw [show (c + 1).toNat = c.toNat + 1 by omega, hps]; rfl) (fun k' q3 q4 => ?_) k q1 q2
      by_cases ck : k' = c
      · subst ck; rw [← hps]; exact hp
      · exact h k' q3 (by omega)
    · rw [if_neg z] at q2
      have q2' : k < c + 1 := q2
      by_cases ck : k = c
      · subst ck; rw [← hps]; exact hp
      · exact h k q1 (by omega)
theorem ps_ok {T : rW} {n k : Int} (hn : 0 ≤ n) (hk : 0 ≤ k ∧ k < (pgF T n).2) : 0 ≤ psP T n k.toNat ∧ psP T n k.toNat ≤ n :=
  ps_rng 60 0 0 (Int.le_refl _) ⟨Int.le_refl _, hn⟩ rfl (fun k q1 q2 => by omega) k hk.1 hk.2
theorem way_w {T : rW} {n v p : Int} (hT : ∀ j, 0 ≤ j → j < n → 0 ≤ T j ∧ T j ≤ 65535) (hp : 0 ≤ p ∧ p ≤ n) : 0 ≤ sgF T n (sv2 T n (wS T n v p).1).1 ∧ sgF T n (sv2 T n (wS T n v p).1).1 ≤ 65535 := by
  have h1 := (wS_ok (T := T) (v := v) hp).1
  have o1 : sOk n (sv1 T n (wS T n v p).1) := tk_ok (dgF_rng (k := 1) (by decide) (show sOk n ((wS T n v p).1, 0) from ⟨h1.1, Or.inl rfl⟩)).2 (by decide)
  have o2 : sOk n (sv2 T n (wS T n v p).1) := tk_ok (dgF_rng (k := 1) (by decide) o1).2 (by decide)
  exact sgF_rng hT o2.1.1
theorem l_run2 {T : rW} {n x1 : Int} {g : mG} {d : mD} {Q : mQ} (hn : 0 ≤ n) (hT : ∀ j, 0 ≤ j → j < n → 0 ≤ T j ∧ T j ≤ 65535) (hR : RW (d 66)) (h3 : 0 ≤ d 65 3 ∧ d 65 3 ≤ 8) (h4 : d 65 4 = 1) (h5 : d 65 5 = 0) (h15 : d 65 15 = (pgF T n).2) (hc : 1 ≤ (pgF T n).2 ∧ (pgF T n).2 ≤ 15) (hcm : ∀ k, 0 ≤ k → k < (pgF T n).2 → CmD d T n k (psP T n k.toNat))
    (kf : ∀ d', (∀ b j : Int, b ≠ 66 → ¬ (b = 65 ∧ j = 5) → d' b j = d b j) → 0 ≤ (rnF T n (d 66)).1 → ¬ d' 65 5 = 0 → pX12_run_3 x1 (rnF T n (d 66)).1 0 g (ud d' 65 4 0) Q)
    (ko : ∀ d', (∀ b j : Int, b ≠ 66 → d' b j = d b j) → (rnF T n (d 66)).1 = -1 → d' 66 = (rnF T n (d 66)).2 → MM mX12_remember [vR 65, vR 67] g (ud d' 65 4 0) (fun o g35 d36 => match o with | .inl v34 => Q (.inl (pgF T n).2) g35 d36 | .inr k => Q (.inr k) g35 d36)) : pX12_run_2 x1 0 g d Q := by
  have hl : ∀ (m : Nat) (k : Int) (d' : mD), 0 ≤ k → k + m = (pgF T n).2 → (∀ b j : Int, b ≠ 66 → d' b j = d b j) → RW (d' 66) → rnN T n m k (d' 66) = rnF T n (d 66) → pX12_run_2 x1 k g d' Q := by
    intro m
    induction m with
    | zero =>
      intro k d' hk hm hf hR' he
      have e15 : d' 65 15 = (pgF T n).2 := (hf 65 15 (by decide)).trans h15
      have e5 : d' 65 5 = 0 := (hf 65 5 (by decide)).trans h5
      have he' : ((-1 : Int), d' 66) = rnF T n (d 66) := he
      refine aX12_run_2 ?_
      rw [e15, e5]
      refine ⟨fun z => absurd z.1 (by omega), fun _ => ⟨fun _ => ?_, fun z => absurd rfl z⟩⟩
      rw [show k = (pgF T n).2 by omega]
      exact ko d' hf (by rw [← he']) (by rw [← he'])
    | succ m ih =>
      intro k d' hk hm hf hR' he
      have e15 : d' 65 15 = (pgF T n).2 := (hf 65 15 (by decide)).trans h15
      have e5 : d' 65 5 = 0 := (hf 65 5 (by decide)).trans h5
      have e3 : d' 65 3 = d 65 3 := hf 65 3 (by decide)
      have e4 : d' 65 4 = 1 := (hf 65 4 (by decide)).trans h4
      have hcd := (hcm k hk (by omega)).fr (d' := d') (fun j _ _ => hf 72 j (by decide))
      obtain ⟨c1, c2, c3, c4⟩ := hcd
      have hps := ps_ok (T := T) (k := k) hn ⟨hk, by omega⟩
      have hmc : ∀ b j : Int, mChg (ud d' 65 5 0) b j = d' b j := fun b j => by
        unfold mChg
        rw [if_neg (by rw [ud_ne (by omega), e4]; decide)]
        by_cases y : b = 65 ∧ j = 5
        · obtain ⟨y1, y2⟩ := y; subst y1; subst y2; rw [ud_same, e5]
        · exact ud_ne y
      have eN : rnN T n (m + 1) k (d' 66) = if (stK T n (d' 66) k).1 < 0 then (k, d' 66) else rnN T n m (k + 1) (stK T n (d' 66) k).2 := rfl
      rw [eN] at he
      refine aX12_run_2 ?_
      rw [e15, e5]
      refine ⟨fun _ => ⟨ik (by omega), ?_⟩, fun z => absurd ⟨by omega, rfl⟩ z⟩
      refine m_execute hR' (by rw [e3]; exact h3) (by omega) vb_rng c1 c2 c3 (fun z => ⟨c4 z, way_w hT hps⟩) ⟨fun z d2 hf2 h52 => ?_, fun z d2 e66 hf2 => ?_⟩
      · have z' : (stK T n (d' 66) k).1 < 0 := z
        rw [if_pos z'] at he
        dsimp only
        rw [bI_f h52, Int.add_zero]
        refine ⟨ik (by omega), ?_⟩
        have hf3 : ∀ b j : Int, b ≠ 66 → ¬ (b = 65 ∧ j = 5) → d2 b j = d b j := fun b j q1 q2 => (hf2 b j q2).trans (hf b j q1)
        have := kf d2 hf3 (by rw [← he]; exact hk) h52
        rw [← he] at this
        exact aX12_run_2 ⟨fun y => absurd y.2 h52, fun _ => ⟨fun y => absurd y h52, fun _ => this⟩⟩
      · have z' : ¬ (stK T n (d' 66) k).1 < 0 := by
          have z2 : 0 ≤ (stK T n (d' 66) k).1 := z
          omega
        rw [if_neg z'] at he
        have e66' : d2 66 = (stK T n (d' 66) k).2 := e66
        have hf3 : ∀ b j : Int, b ≠ 66 → d2 b j = d b j := fun b j q1 => ((hf2 b j q1).trans (hmc b j)).trans (hf b j q1)
        have e52 : d2 65 5 = 0 := (hf3 65 5 (by decide)).trans h5
        dsimp only
        rw [e52, bI_t rfl]
        exact ⟨ik (by omega), ih (k + 1) d2 (by omega) (by omega) hf3 (by rw [e66']; exact w_stC hR') (by rw [e66']; exact he)⟩
  exact hl (pgF T n).2.toNat 0 d (by decide) (by omega) (fun _ _ _ => rfl) hR rfl
