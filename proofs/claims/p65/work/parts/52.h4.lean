theorem l_moveEnd {x1 p r : Int} {R : rW} {g : mG} {d : mD} {Q : mQ} (hC : CI d R) (hG : RG d R p r) : ∀ (m : Nat) (x z : Int), 0 ≤ z ∧ z ≤ x → x ≤ 5000 → 5000 - x ≤ m → (x < 5000 → ¬ stopd R p r x) → Q (.inl (fd (fun x => court R x ∧ ¬ stopd R p r x) x)) g d → pX10_moveEnd_1 x1 x z g d Q := by
  intro m
  induction m with
  | zero =>
    intro x z hx hx2 hm hs h
    rw [fd_here (Or.inr (by omega))] at h
    exact aX10_moveEnd_1 (R := R) (gp := p) (gr := r) ⟨fun _ q => absurd (by omega) q, fun _ q => absurd (by omega) q, fun q => absurd (by omega) q.2.1, fun _ => h⟩
  | succ m ih =>
    intro x z hx hx2 hm hs h
    refine aX10_moveEnd_1 (R := R) (gp := p) (gr := r) ⟨fun _ q => hC, fun _ q => by omega, fun q => ⟨ik (by omega), hG, by omega, ik (by omega), ?_⟩, fun q => ?_⟩
    · obtain ⟨s1, s2, s3⟩ := fd_spec (P := fun x => ¬ stopd R p r x) (a := x + 1) (by omega)
      refine ih _ _ (by omega) s1.2 (by omega) (fun h5 => s3 h5) ?_
      rw [fd_step (fun z => q.2.2 z.1) (by omega), fd_skip s1 (fun y h5 h6 z => s2 y h5 h6 z.2)] at h
      exact h
    · rw [fd_here] at h
      · exact h
      · by_cases hz : 5000 ≤ x
        · exact Or.inr hz
        · exact Or.inl ⟨Classical.byContradiction fun y => q ⟨by omega, by omega, y⟩, hs (by omega)⟩
theorem f_moveEnd {x1 p r : Int} {R : rW} {g : mG} {d : mD} {Q : mQ} (h : CI d R ∧ RG d R p r ∧ (0 ≤ x1 ∧ x1 ≤ 5000) ∧ Q (.inl (fd (fun x => court R x ∧ ¬ stopd R p r x) x1)) g d) : MM mX10_moveEnd [vR 53, vI x1] g d Q := by
  obtain ⟨hC, hG, hx, hq⟩ := h
  obtain ⟨s1, s2, s3⟩ := fd_spec (P := fun x => ¬ stopd R p r x) (a := x1) hx.2
  refine eX10_moveEnd ⟨hG, hx, l_moveEnd hC hG 5000 _ 0 (by omega) s1.2 (by omega) (fun h5 => s3 h5) ?_⟩
  rw [fd_skip s1 (fun y h5 h6 z => s2 y h5 h6 z.2)] at hq
  exact hq
-- court days counted on
theorem cn_wk {R : rW} {a : Int} (k : Nat) : cn (court R) a (a + 7 * k - 1) ≤ 5 * k := by
  have h1 := cn_sub (P := court R) (Q := fun x => x % 7 < 5) (a := a) (b := a + 7 * k - 1) (fun x _ _ h => h.1)
  have h2 : cn (fun x => x % 7 < 5) a (a + 7 * k - 1) = 5 * k := by
    unfold cn
    rw [show (a + 7 * k - 1 - a + 1).toNat = 7 * k by omega, wks]
  omega
theorem fd_cut {P : Int → Prop} {a b n : Int} (h : a ≤ b ∧ b ≤ 5000) (hc : cn P a (b - 1) < n) : fd (fun x => n ≤ cn P a x) a = fd (fun x => n - cn P a (b - 1) ≤ cn P b x) b := by
  rw [fd_skip h (fun x h1 h2 q => by have := cn_mono (P := P) (a := a) (b := x) (c := b - 1) (by omega); omega)]
  refine fd_cg h.2 (fun x h1 h2 => ?_)
  rw [cn_split (P := P) (a := a) (m := b - 1) (b := x) (by omega) (by omega), show b - 1 + 1 = b by omega]
  constructor <;> intro q <;> omega
theorem l_courtDay2 {x1 x2 : Int} {R : rW} {g : mG} {d : mD} {Q : mQ} (hC : CI d R) : ∀ (m : Nat) (x l : Int), 0 ≤ x → x ≤ 5000 → 5000 - x ≤ m → 1 ≤ l ∧ l ≤ 200 → Q (.inl (fd (fun y => l ≤ cn (court R) x y) x)) g d → pX10_courtDayOfCount_2 x1 x2 x l g d Q := by
  intro m
  induction m with
  | zero =>
    intro x l hx hx2 hm hl h
    rw [fd_here (Or.inr (by omega)), show x = 5000 by omega] at h
    exact aX10_courtDayOfCount_2 (R := R) ⟨fun _ => h, fun c => absurd (by omega) c⟩
  | succ m ih =>
    intro x l hx hx2 hm hl h
    refine aX10_courtDayOfCount_2 (R := R) ⟨fun c => ?_, fun c => ⟨hC, hx, ik (by have := @bI_rng (court R x); omega), fun c2 => ?_, fun c2 => ⟨ik (by omega), ?_⟩⟩⟩
    · rw [fd_here (Or.inr (by omega)), show x = 5000 by omega] at h
      exact h
    · rw [fd_here (Or.inl (by rw [cn_one]; omega))] at h
      exact h
    · have hb := @bI_rng (court R x)
      have e := fd_cut (P := court R) (a := x) (b := x + 1) (n := l) (by omega) (by rw [show x + 1 - 1 = x by omega, cn_one]; omega)
      rw [show x + 1 - 1 = x by omega, cn_one] at e
      rw [e] at h
      exact ih (x + 1) _ (by omega) (by omega) (by omega) (by omega) h
theorem l_courtDay1 {x1 x2 : Int} {R : rW} {g : mG} {d : mD} {Q : mQ} (hC : CI d R) : ∀ (m : Nat) (x l : Int), 0 ≤ x → x ≤ 5000 → 5000 - x ≤ m → 1 ≤ l ∧ l ≤ 200 → Q (.inl (fd (fun y => l ≤ cn (court R) x y) x)) g d → pX10_courtDayOfCount_1 x1 x2 x l g d Q := by
  intro m
  induction m with
  | zero =>
    intro x l hx hx2 hm hl h
    exact aX10_courtDayOfCount_1 (R := R) ⟨fun _ => ik (by omega), fun c => absurd c.2 (by omega), fun _ => l_courtDay2 hC 5000 x l hx hx2 (by omega) hl h⟩
  | succ m ih =>
    intro x l hx hx2 hm hl h
    refine aX10_courtDayOfCount_1 (R := R) ⟨fun _ => ik (by omega), fun c => ?_, fun _ => l_courtDay2 hC 5000 x l hx hx2 (by omega) hl h⟩
    generalize hk : min ((l - 1) / 5) ((4999 - x) / 7) = k
    have hk1 : 1 ≤ k ∧ 5 * k ≤ l - 1 ∧ 7 * k ≤ 4999 - x := by omega
    have hw := cn_wk (R := R) (a := x) k.toNat
    rw [show x + 7 * ((k.toNat : Nat) : Int) - 1 = x + 7 * k - 1 by omega] at hw
    have hr := cn_rng (P := court R) (a := x) (b := x + 7 * k - 1) (by omega)
    refine ⟨ik (by omega), by omega, ik (by omega), by omega, ik (by omega), ik (by omega), ik (by omega), hC, by omega, by omega, ik (by omega), ih _ _ (by omega) (by omega) (by omega) (by omega) ?_⟩
    rw [fd_cut (b := x + 7 * k) (by omega) (by omega)] at h
    exact h
theorem f_courtDayOfCount {x1 x2 : Int} {R : rW} {g : mG} {d : mD} {Q : mQ} (h : CI d R ∧ (0 ≤ x1 ∧ x1 ≤ 5000) ∧ (1 ≤ x2 ∧ x2 ≤ 200) ∧ Q (.inl (fd (fun x => x2 ≤ cn (court R) x1 x) x1)) g d) : MM mX10_courtDayOfCount [vR 53, vI x1, vI x2] g d Q :=
  eX10_courtDayOfCount (l_courtDay1 h.1 5000 x1 x2 h.2.1.1 h.2.1.2 (by omega) h.2.2.1 h.2.2.2)
-- court days counted back
theorem bd_skip {P : Int → Prop} {a b : Int} (h : -1 ≤ b ∧ b ≤ a) (h2 : ∀ x, b < x → x ≤ a → ¬ P x) : bd P a = bd P b := by
  obtain ⟨q1, q2, q3⟩ := bd_spec (P := P) (a := b) h.1
  refine bd_eq ⟨q1.1, by omega⟩ (fun x h3 h4 => ?_) q3
  by_cases hx : b < x
  · exact h2 x hx h4
  · exact q2 x h3 (by omega)
theorem bd_cg {P Q : Int → Prop} {a : Int} (ha : -1 ≤ a) (h : ∀ x, 0 ≤ x → x ≤ a → (P x ↔ Q x)) : bd P a = bd Q a := by
  obtain ⟨q1, q2, q3⟩ := bd_spec (P := Q) (a := a) ha
  exact bd_eq q1 (fun x h1 h2 => fun q => q2 x h1 h2 ((h x (by omega) h2).mp q)) (fun h1 => (h _ h1 q1.2).mpr (q3 h1))
theorem cn_mono2 {P : Int → Prop} {a a' b : Int} (h : a' ≤ a) : cn P a b ≤ cn P a' b := by
  by_cases hb : b < a
  · rw [cn_empty hb]; exact cn_nn
  · rw [cn_split (P := P) (a := a') (m := a - 1) (b := b) (by omega) (by omega), show a - 1 + 1 = a by omega]
    have := @cn_nn P a' (a - 1)
    omega
theorem bd_cut {P : Int → Prop} {a b n : Int} (h : -1 ≤ b ∧ b ≤ a) (hc : cn P (b + 1) a < n) : bd (fun x => n ≤ cn P x a) a = bd (fun x => n - cn P (b + 1) a ≤ cn P x b) b := by
  rw [bd_skip h (fun x h1 h2 q => by have := cn_mono2 (P := P) (a := x) (a' := b + 1) (b := a) (by omega); omega)]
  refine bd_cg h.1 (fun x h1 h2 => ?_)
  rw [cn_split (P := P) (a := x) (m := b) (b := a) (by omega) (by omega)]
  constructor <;> intro q <;> omega
theorem l_dayBack2 {x1 x2 : Int} {R : rW} {g : mG} {d : mD} {Q : mQ} (hC : CI d R) : ∀ (m : Nat) (x l : Int), -1 ≤ x → x ≤ 4999 → x + 1 ≤ m → 1 ≤ l ∧ l ≤ 200 → Q (.inl (bd (fun y => l ≤ cn (court R) y x) x)) g d → pX10_dayOfCountBack_2 x1 x2 x l g d Q := by
  intro m
  induction m with
  | zero =>
    intro x l hx hx2 hm hl h
    rw [bd_here (Or.inr (by omega)), show x = -1 by omega] at h
    exact aX10_dayOfCountBack_2 (R := R) ⟨fun _ => h, fun c => absurd (by omega) c⟩
  | succ m ih =>
    intro x l hx hx2 hm hl h
    refine aX10_dayOfCountBack_2 (R := R) ⟨fun c => ?_, fun c => ⟨hC, by omega, ik (by have := @bI_rng (court R x); omega), fun c2 => ?_, fun c2 => ⟨ik (by omega), ?_⟩⟩⟩
    · rw [bd_here (Or.inr (by omega)), show x = -1 by omega] at h
      exact h
    · rw [bd_here (Or.inl (by rw [cn_one]; omega))] at h
      exact h
    · have hb := @bI_rng (court R x)
      have e := bd_cut (P := court R) (a := x) (b := x + (-1)) (n := l) (by omega) (by rw [show x + (-1) + 1 = x by omega, cn_one]; omega)
      rw [show x + (-1) + 1 = x by omega, cn_one] at e
      rw [e] at h
      exact ih (x + (-1)) _ (by omega) (by omega) (by omega) (by omega) h
theorem l_dayBack1 {x1 x2 : Int} {R : rW} {g : mG} {d : mD} {Q : mQ} (hC : CI d R) : ∀ (m : Nat) (x l : Int), -1 ≤ x → x ≤ 4999 → x + 1 ≤ m → 1 ≤ l ∧ l ≤ 200 → Q (.inl (bd (fun y => l ≤ cn (court R) y x) x)) g d → pX10_dayOfCountBack_1 x1 x2 x l g d Q := by
  intro m
  induction m with
  | zero =>
    intro x l hx hx2 hm hl h
    exact aX10_dayOfCountBack_1 (R := R) ⟨fun c => absurd (by omega) c.2, fun _ => l_dayBack2 hC 5000 x l hx hx2 (by omega) hl h⟩
  | succ m ih =>
    intro x l hx hx2 hm hl h
    refine aX10_dayOfCountBack_1 (R := R) ⟨fun c => ?_, fun _ => l_dayBack2 hC 5000 x l hx hx2 (by omega) hl h⟩
    generalize hk : min ((l - 1) / 5) (x / 7) = k
    have hk1 : 1 ≤ k ∧ 5 * k ≤ l - 1 ∧ 7 * k ≤ x := by omega
    have hw := cn_wk (R := R) (a := x - 7 * k + 1) k.toNat
    rw [show x - 7 * k + 1 + 7 * ((k.toNat : Nat) : Int) - 1 = x by omega] at hw
    have hr := cn_rng (P := court R) (a := x - 7 * k + 1) (b := x) (by omega)
    refine ⟨ik (by omega), by omega, by omega, ik (by omega), ik (by omega), ik (by omega), hC, by omega, by omega, ik (by omega), ih _ _ (by omega) (by omega) (by omega) (by omega) ?_⟩
    rw [bd_cut (b := x - 7 * k) (by omega) (by omega)] at h
    exact h
theorem f_dayOfCountBack {x1 x2 : Int} {R : rW} {g : mG} {d : mD} {Q : mQ} (h : CI d R ∧ (-1 ≤ x1 ∧ x1 ≤ 4999) ∧ (1 ≤ x2 ∧ x2 ≤ 200) ∧ Q (.inl (bd (fun x => x2 ≤ cn (court R) x x1) x1)) g d) : MM mX10_dayOfCountBack [vR 53, vI x1, vI x2] g d Q :=
  eX10_dayOfCountBack (l_dayBack1 h.1 5000 x1 x2 h.2.1.1 h.2.1.2 (by omega) h.2.2.1 h.2.2.2)
