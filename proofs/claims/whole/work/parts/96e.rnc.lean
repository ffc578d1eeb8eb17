-- the class runs a program
def CmC (d : mD) (T : rW) (n k p : Int) : Prop := d 61 k = vb T n p ∧ d 62 k = vlA T n (vb T n p) (wS T n (vb T n p) p).1 ∧ (vb T n p = 0 ∨ vb T n p = 4 → d 63 k = vlB T n (vb T n p) (wS T n (vb T n p) p).1) ∧ (vb T n p = 0 → d 64 k = sgF T n (sv2 T n (wS T n (vb T n p) p).1).1)
theorem t_run1 {T : rW} {n x1 : Int} {R : rW} {g : mG} {d : mD} {Q : mQ} (hC : CI d R) (h4 : d 60 4 = (pgF T n).2) (hc : 1 ≤ (pgF T n).2 ∧ (pgF T n).2 ≤ 15) (hcm : ∀ k, 0 ≤ k → k < (pgF T n).2 → CmC d T n k (psP T n k.toNat))
    (kf : ∀ d', FrT d d' → 0 ≤ (rnF T n R).1 → MM mX11_takeBack [vR 0] g d' (fun o g23 d24 => match o with | .inl v22 => Q (.inr 5) g23 (ud d24 0 12 (rnF T n R).1) | .inr k => Q (.inr k) g23 d24))
    (ko : ∀ d', FrT d d' → (rnF T n R).1 = -1 → CI d' (rnF T n R).2 → MM mX11_settle [vR 0, vI (pgF T n).2] g d' (fun o g13 d14 => match o with | .inl v12 => Q (.inl v12) g13 d14 | .inr k => Q (.inr k) g13 d14)) : pX11_run_1 x1 0 g d Q := by
  have hl : ∀ (m : Nat) (k : Int) (R' : rW) (d' : mD), 0 ≤ k → k + m = (pgF T n).2 → FrT d d' → CI d' R' → rnN T n m k R' = rnF T n R → pX11_run_1 x1 k g d' Q := by
    intro m
    induction m with
    | zero =>
      intro k R' d' hk hm hf hC' he
      have e4 : d' 60 4 = (pgF T n).2 := (hf 60 4 (by omega)).trans h4
      have he' : ((-1 : Int), R') = rnF T n R := he
      refine aX11_run_1 ?_
      rw [e4]
      exact ⟨fun _ => ko d' hf (by rw [← he']) (by rw [← he']; exact hC'), fun z => absurd (by omega) z⟩
    | succ m ih =>
      intro k R' d' hk hm hf hC' he
      have e4 : d' 60 4 = (pgF T n).2 := (hf 60 4 (by omega)).trans h4
      obtain ⟨c1, c2, c3, c4⟩ := hcm k hk (by omega)
      have eN : rnN T n (m + 1) k R' = if (stK T n R' k).1 < 0 then (k, R') else rnN T n m (k + 1) (stK T n R' k).2 := rfl
      rw [eN] at he
      refine aX11_run_1 ?_
      rw [e4]
      refine ⟨fun z => absurd z (by omega), fun _ => ?_⟩
      refine t_execute hC' (by omega) ((hf 61 k (by omega)).trans c1) ((hf 62 k (by omega)).trans c2) (fun z => (hf 63 k (by omega)).trans (c3 z)) (fun z => (hf 64 k (by omega)).trans (c4 z)) (fun d2 hf2 hC2 => ?_)
      have hC2' : CI d2 (stK T n R' k).2 := hC2
      show (0 ≤ (stK T n R' k).1 → _ ∧ _) ∧ (¬ (0 ≤ (stK T n R' k).1) → _)
      refine ⟨fun z => ⟨ik (by omega), ?_⟩, fun z => ?_⟩
      · rw [if_neg (by omega)] at he
        exact ih (k + 1) _ d2 (by omega) (by omega) (hf.tr hf2) hC2' he
      · rw [if_pos (by omega)] at he
        have := kf d2 (hf.tr hf2) (by rw [← he]; exact hk)
        rwa [← he] at this
  exact hl (pgF T n).2.toNat 0 R d (by decide) (by omega) FrT.rf hC rfl
