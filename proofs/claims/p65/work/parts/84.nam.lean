-- reading a name
def prP (T : rW) (n p : Int) : Prop := (55296 ≤ T p ∧ T p ≤ 56319) ∧ p + 1 < n ∧ 56320 ≤ T (p + 1) ∧ T (p + 1) ≤ 57343
def bdP (T : rW) (n p : Int) : Prop := ¬ prP T n p ∧ ((55296 ≤ T p ∧ T p ≤ 56319) ∨ (56320 ≤ T p ∧ T p ≤ 57343))
noncomputable def wdF (T : rW) (n p : Int) : Int := iT (prP T n p) 2 1
noncomputable def cpF (T : rW) (n p : Int) : Int := iT (prP T n p) (65536 + (T p - 55296) * 1024 + (T (p + 1) - 56320)) (T p)
noncomputable def psN (T : rW) (n : Int) : Nat → Int
  | 0 => 0
  | k + 1 => psN T n k + wdF T n (psN T n k)
noncomputable def cdP (T : rW) (n k : Int) : Int := cpF T n (psN T n k.toNat)
noncomputable def rdN (T : rW) (n : Int) : Nat → Int → Int → Int
  | 0, _, c => c
  | f + 1, p, c => iT (n ≤ p) c (iT (8 ≤ c ∨ bdP T n p) 0 (rdN T n f (p + wdF T n p) (c + 1)))
noncomputable def rdF (T : rW) (n : Int) : Int := rdN T n 61 0 0
theorem rdN_s {T : rW} {n p c : Int} {f : Nat} : rdN T n (f + 1) p c = iT (n ≤ p) c (iT (8 ≤ c ∨ bdP T n p) 0 (rdN T n f (p + wdF T n p) (c + 1))) := rfl
theorem wdF_rng {T : rW} {n p : Int} (h : p < n) : 1 ≤ wdF T n p ∧ p + wdF T n p ≤ n := by
  unfold wdF
  by_cases c : prP T n p
  · rw [iT_t c]; have := c.2.1; omega
  · rw [iT_f c]; omega
theorem psN_s {T : rW} {n c : Int} (h : 0 ≤ c) : psN T n (c + 1).toNat = psN T n c.toNat + wdF T n (psN T n c.toNat) := by
  rw [show (c + 1).toNat = c.toNat + 1 by omega]; rfl
theorem q_readName {g : mG} {d : mD} {Q : mQ} (hn : 0 ≤ d 1 1 ∧ d 1 1 ≤ 60) (hT : ∀ j, 0 ≤ j → j < d 1 1 → 0 ≤ d 2 j ∧ d 2 j ≤ 65535) (h : ∀ d', (∀ b j : Int, b ≠ 5 → d' b j = d b j) → (0 ≤ rdF (d 2) (d 1 1) ∧ rdF (d 2) (d 1 1) ≤ 8) → (∀ k, 0 ≤ k → k < rdF (d 2) (d 1 1) → d' 5 k = cdP (d 2) (d 1 1) k) → Q (.inl (rdF (d 2) (d 1 1))) g d') : MM mX9_readName [vR 1, vR 5] g d Q := by
  have hl : ∀ (m : Nat) (c p : Int) (d' : mD), (∀ b j : Int, b ≠ 5 → d' b j = d b j) → (0 ≤ c ∧ c ≤ 8) → (0 ≤ p ∧ p ≤ d 1 1) → d 1 1 - p < m → p = psN (d 2) (d 1 1) c.toNat → (∀ k, 0 ≤ k → k < c → d' 5 k = cdP (d 2) (d 1 1) k) → rdN (d 2) (d 1 1) m p c = rdF (d 2) (d 1 1) → pX9_readName_1 c p g d' Q := by
    intro m
    induction m with
    | zero => intro c p d' _ _ hp hm; omega
    | succ m ih =>
      intro c p d' hf hc hp hm hps hN he
      have e1 : d' 1 1 = d 1 1 := hf 1 1 (by decide)
      have e2 : ∀ j, d' 2 j = d 2 j := fun j => hf 2 j (by decide)
      rw [rdN_s] at he
      refine aX9_readName_1 ?_
      rw [e1, e2, e2]
      refine ⟨fun q => ?_, fun q => ?_⟩
      · rw [iT_t q] at he
        rw [he]
        exact h d' hf (by omega) (fun k q1 q2 => hN k q1 (by omega))
      · have hTp := hT p (by omega) (by omega)
        have hw := wdF_rng (T := d 2) (n := d 1 1) (p := p) (by omega)
        rw [iT_f q] at he
        have hS : ∃ S, iT (p + 1 < 0) 0 (iT (d 1 1 ≤ p + 1) 0 (d 2 (p + 1))) = S ∧ (0 ≤ S ∧ S ≤ 65535) ∧ (d 1 1 ≤ p + 1 → S = 0) ∧ (¬ d 1 1 ≤ p + 1 → S = d 2 (p + 1)) := by
          refine ⟨_, rfl, ?_⟩
          rw [iT_f (by omega)]
          by_cases c1 : d 1 1 ≤ p + 1
          · rw [iT_t c1]; exact ⟨by decide, fun _ => rfl, fun q => absurd c1 q⟩
          · rw [iT_f c1]; exact ⟨hT (p + 1) (by omega) (by omega), fun q => absurd q c1, fun _ => rfl⟩
        obtain ⟨S, eS, hS1, hS2, hS3⟩ := hS
        rw [eS, show (2 : Int) ^ (10 : Int).toNat = 1024 from rfl]
        have hP : (((¬ (d 2 p < 55296)) ∧ (¬ (56319 < d 2 p))) ∧ ((¬ (S < 56320)) ∧ (¬ (57343 < S)))) ↔ prP (d 2) (d 1 1) p := by
          unfold prP
          by_cases c1 : d 1 1 ≤ p + 1
          · have := hS2 c1; omega
          · have := hS3 c1; omega
        have hB : ((¬ (((¬ (d 2 p < 55296)) ∧ (¬ (56319 < d 2 p))) ∧ ((¬ (S < 56320)) ∧ (¬ (57343 < S))))) ∧ (((¬ (d 2 p < 55296)) ∧ (¬ (56319 < d 2 p))) ∨ ((¬ (d 2 p < 56320)) ∧ (¬ (57343 < d 2 p))))) ↔ bdP (d 2) (d 1 1) p := by
          rw [hP]
          unfold bdP
          refine and_congr_right fun _ => ?_
          omega
        rw [hB, iT_cg hP, iT_cg hP]
        refine ⟨by omega, fun _ => ik (by omega), fun _ _ _ => by omega, fun _ => hS1, fun c1 => ?_, fun c1 => ?_⟩
        · rw [iT_t c1] at he
          rw [← he] at h
          exact h d' hf (by decide) (fun k q1 q2 => by omega)
        · rw [iT_f c1] at he
          refine ⟨fun _ => ik (by omega), fun _ _ _ => by omega, fun _ => hS1, fun _ => ik (by omega), fun c2 => by omega, fun c2 => ik (by omega), fun c2 => ik (by omega), fun c2 => ik (by omega), fun c2 => ik (by omega), by omega, ik (by omega), ?_⟩
          show iI (p + wdF (d 2) (d 1 1) p) ∧ pX9_readName_1 (c + 1) (p + wdF (d 2) (d 1 1) p) g (ud d' 5 c (iT (prP (d 2) (d 1 1) p) (65536 + (d 2 p - 55296) * 1024 + (S - 56320)) (d 2 p))) Q
          have ev : iT (prP (d 2) (d 1 1) p) (65536 + (d 2 p - 55296) * 1024 + (S - 56320)) (d 2 p) = cdP (d 2) (d 1 1) c := by
            unfold cdP
            rw [← hps]
            unfold cpF
            by_cases c3 : prP (d 2) (d 1 1) p
            · rw [iT_t c3, iT_t c3, hS3 (by have := c3.2.1; omega)]
            · rw [iT_f c3, iT_f c3]
          rw [ev]
          refine ⟨ik (by omega), ih (c + 1) _ _ (fun b j q => by rw [ud_ne (by omega)]; exact hf b j q) (by omega) (by omega) (by omega) (by rw [psN_s hc.1, ← hps]) (fun k q1 q2 => ?_) he⟩
          by_cases c3 : k = c
          · subst c3; rw [ud_same]
          · rw [ud_ne (by omega)]; exact hN k q1 (by omega)
  exact eX9_readName (hl 61 0 0 d (fun _ _ _ => rfl) (by decide) (by omega) (by omega) rfl (fun k q1 q2 => by omega) rfl)
