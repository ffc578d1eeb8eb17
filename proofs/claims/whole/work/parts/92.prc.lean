-- the parser of the class
def PC (d : mD) (T : rW) (n p : Int) : Prop := d 2 = T ∧ d 1 1 = n ∧ d 60 5 = p
def FrB (d d' : mD) : Prop := ∀ b j : Int, ¬ (b = 60 ∧ j = 5) → d' b j = d b j
def FrQ (c : Int) (d d' : mD) : Prop := ∀ b j : Int, ¬ (b = 60 ∧ j = 5) → ¬ (j = c ∧ 62 ≤ b ∧ b ≤ 64) → d' b j = d b j
theorem FrB.rf {d : mD} : FrB d d := fun _ _ _ => rfl
theorem FrB.tr {d d' d'' : mD} (h : FrB d d') (h2 : FrB d' d'') : FrB d d'' := fun b j q => (h2 b j q).trans (h b j q)
theorem FrQ.rf {c : Int} {d : mD} : FrQ c d d := fun _ _ _ _ => rfl
theorem FrQ.tr {c : Int} {d d' d'' : mD} (h : FrQ c d d') (h2 : FrQ c d' d'') : FrQ c d d'' := fun b j q q2 => (h2 b j q q2).trans (h b j q q2)
theorem FrB.q {c : Int} {d d' : mD} (h : FrB d d') : FrQ c d d' := fun b j q _ => h b j q
theorem PC.fq {c : Int} {d d' : mD} {T : rW} {n p p' : Int} (h : PC d T n p) (hf : FrQ c d d') (h5 : d' 60 5 = p') : PC d' T n p' :=
  ⟨(funext fun j => hf 2 j (by omega) (by omega)).trans h.1, (hf 1 1 (by omega) (by omega)).trans h.2.1, h5⟩
theorem q_sign {T : rW} {n p : Int} (hn : 0 ≤ n ∧ n ≤ 60) (hT : ∀ j, 0 ≤ j → j < n → 0 ≤ T j ∧ T j ≤ 65535) (h0 : 0 ≤ p) : ((¬ (p < 0)) → (¬ (n ≤ p)) → 0 ≤ p ∧ p < 60) ∧ (0 ≤ sgF T n p ∧ sgF T n p ≤ 65535) :=
  ⟨fun _ _ => by omega, sgF_rng hT h0⟩
theorem dgN_p {T : rW} {n : Int} : ∀ (m : Nat) (v p : Int), p ≤ (dgN T n m v p).2 := by
  intro m
  induction m with
  | zero => intro v p; exact Int.le_refl _
  | succ m ih =>
    intro v p
    rw [dgN_s]
    by_cases c : dgP T n p
    · rw [if_pos c]; have := ih (10 * v + (sgF T n p - 48)) (p + 1); omega
    · rw [if_neg c]; exact Int.le_refl _
theorem dgF_w {T : rW} {n p : Int} {k : Nat} : (dgP T n p ∧ dgF T n k (p, 0) = ((dgN T n k 0 p).1, ((dgN T n k 0 p).2, 0))) ∨ (¬ dgP T n p ∧ dgF T n k (p, 0) = (0, (p, 1))) := by
  by_cases c : dgP T n p
  · exact Or.inl ⟨c, if_pos ⟨rfl, c⟩⟩
  · exact Or.inr ⟨c, if_neg (fun q => c q.2)⟩
theorem q_readNumber {k : Nat} {n p : Int} {T : rW} {g : mG} {d : mD} {Q : mQ} (hk : 1 ≤ k ∧ k ≤ 4) (hn : 0 ≤ n ∧ n ≤ 60) (hT : ∀ j, 0 ≤ j → j < n → 0 ≤ T j ∧ T j ≤ 65535) (hp0 : 0 ≤ p ∧ p ≤ n) (hp : PC d T n p) (h : ∀ d', FrB d d' → d' 60 5 = (dgF T n k (p, 0)).2.1 → Q (.inl (if (dgF T n k (p, 0)).2.2 = 0 then (dgF T n k (p, 0)).1 else -1)) g d') : MM mX6_readNumber [vR 60, vR 1, vI k] g d Q := by
  have hl : ∀ (m : Nat) (v x i q : Int) (d' : mD), 0 ≤ i → i + m = k → 0 ≤ q ∧ q ≤ n → (0 ≤ v ∧ (i ≤ 0 → v ≤ 0) ∧ (i ≤ 1 → v ≤ 9) ∧ (i ≤ 2 → v ≤ 99) ∧ (i ≤ 3 → v ≤ 999) ∧ v ≤ 9999) → (i = 0 → x = -1) → (¬ i = 0 → x = v) → FrB d d' → PC d' T n q → (∀ d'', FrB d d'' → d'' 60 5 = (dgN T n m v q).2 → Q (.inl (iT (i = 0 ∧ ¬ dgP T n q) (-1) (dgN T n m v q).1)) g d'') → (i = 0 → 1 ≤ m) → pX6_readNumber_1 k x i g d' Q := by
    intro m
    induction m with
    | zero =>
      intro v x i q d' hi him hq hv hx1 hx2 hf hps hh him0
      refine aX6_readNumber_1 ⟨fun _ => ?_, fun z => absurd (by omega) z⟩
      have := hh d' hf hps.2.2
      rw [iT_f (by omega)] at this
      rw [hx2 (by omega)]
      exact this
    | succ m ih =>
      intro v x i q d' hi him hq hv hx1 hx2 hf hps hh him0
      have hps0 := hps
      obtain ⟨f2, f1, f5⟩ := hps
      refine aX6_readNumber_1 ?_
      rw [f2, f1, f5]
      obtain ⟨g1, g2⟩ := q_sign (T := T) hn hT hq.1
      have stop : ¬ dgP T n q → Q (.inl x) g d' := fun z => by
        have := hh d' hf (by rw [dgN_s, if_neg z]; exact f5)
        rw [dgN_s, if_neg z] at this
        by_cases i0 : i = 0
        · rw [iT_t ⟨i0, z⟩] at this
          rw [hx1 i0]; exact this
        · rw [iT_f (fun y => i0 y.1)] at this
          rw [hx2 i0]; exact this
      refine ⟨fun z => absurd z (by omega), fun _ => ⟨g1, g2, fun z => stop (fun y => ?_), fun z => ⟨fun z2 => ?_, fun z2 => stop (fun y => ?_)⟩⟩⟩
      · have y' : 48 ≤ sgF T n q ∧ sgF T n q ≤ 57 := y
        have z' : sgF T n q < 48 := z
        omega
      · have zd : dgP T n q := ⟨by have z' : ¬ sgF T n q < 48 := z; omega, z2⟩
        have zd' : 48 ≤ sgF T n q ∧ sgF T n q ≤ 57 := zd
        have hlt := dgP_in hq.1 zd
        show (¬ i = 0 → iI (x * 10)) ∧ (iI (sgF T n q - 48) ∧ (iI (iT (i = 0) 0 (x * 10) + (sgF T n q - 48)) ∧ (iI (q + 1) ∧ (iI (i + 1) ∧ pX6_readNumber_1 k (iT (i = 0) 0 (x * 10) + (sgF T n q - 48)) (i + 1) g (ud d' 60 5 (q + 1)) Q))))
        have ev : iT (i = 0) 0 (x * 10) + (sgF T n q - 48) = 10 * v + (sgF T n q - 48) := by
          by_cases i0 : i = 0
          · rw [iT_t i0]; have := hv.2.1 (by omega); omega
          · rw [iT_f i0, hx2 i0]; omega
        rw [ev]
        refine ⟨fun i0 => ik (by have := hx2 i0; omega), ik (by omega), ik (by omega), ik (by omega), ik (by omega), ih (10 * v + (sgF T n q - 48)) _ (i + 1) (q + 1) _ (by omega) (by omega) (by omega) (by omega) (fun z => absurd z (by omega)) (fun _ => rfl) (hf.tr (fun b j y => by rw [ud_ne (by omega)])) (hps0.fq (c := 0) (FrB.q (fun b j y => by rw [ud_ne (by omega)])) (ud_same _ _ _ _)) (fun d'' hf2 h5 => ?_) (fun z => absurd z (by omega))⟩
        have := hh d'' hf2 (by rw [dgN_s, if_pos zd]; exact h5)
        rw [iT_f (fun y => y.2 zd), dgN_s, if_pos zd] at this
        rw [iT_f (by omega)]
        exact this
      · have y' : 48 ≤ sgF T n q ∧ sgF T n q ≤ 57 := y
        have z' : ¬ sgF T n q ≤ 57 := z2
        omega
  refine eX6_readNumber (hl k 0 (-1) 0 p d (by omega) (by omega) hp0 (by omega) (fun _ => rfl) (fun z => absurd rfl z) FrB.rf hp (fun d'' hf2 h5 => ?_) (fun _ => hk.1))
  rcases dgF_w (T := T) (n := n) (p := p) (k := k) with ⟨c, e⟩ | ⟨c, e⟩
  · rw [e] at h
    have := h d'' hf2 h5
    rw [if_pos rfl] at this
    rw [iT_f (fun y => y.2 c)]
    exact this
  · rw [e] at h
    have e2 : dgN T n k 0 p = (0, p) := by
      obtain ⟨m, rfl⟩ : ∃ m, k = m + 1 := ⟨k - 1, by omega⟩
      rw [dgN_s, if_neg c]
    have := h d'' hf2 (by rw [h5, e2])
    rw [if_neg (show ¬ ((1 : Int) = 0) by decide)] at this
    rw [iT_t ⟨rfl, c⟩]
    exact this
theorem q_readFirst {k : Nat} {n p c : Int} {T : rW} {g : mG} {d : mD} {Q : mQ} (hk : 1 ≤ k ∧ k ≤ 4) (hn : 0 ≤ n ∧ n ≤ 60) (hT : ∀ j, 0 ≤ j → j < n → 0 ≤ T j ∧ T j ≤ 65535) (hp0 : 0 ≤ p ∧ p ≤ n) (hp : PC d T n p) (hc : d 60 4 = c) (hc2 : 0 ≤ c ∧ c < 16) (h : ∀ d', FrQ c d d' → (∀ j, d' 63 j = d 63 j) → (∀ j, d' 64 j = d 64 j) → d' 60 5 = (dgF T n k (p, 0)).2.1 → ((dgF T n k (p, 0)).2.2 = 0 → d' 62 c = (dgF T n k (p, 0)).1) → Q (.inl (bI ((dgF T n k (p, 0)).2.2 = 0))) g d') : MM mX6_readFirst [vR 60, vR 1, vI k] g d Q := by
  refine eX6_readFirst (q_readNumber hk hn hT hp0 hp fun d1 f1 h5 => ?_)
  have e4 : d1 60 4 = c := (f1 60 4 (by omega)).trans hc
  have hr := (dgF_rng (T := T) (n := n) (k := k) (s := (p, 0)) hk.2 ⟨hp0, Or.inl rfl⟩).1
  dsimp only
  rw [hc, e4, ud_same]
  refine ⟨hc2, hc2, ?_⟩
  have eb : bI (¬ ((if (dgF T n k (p, 0)).2.2 = 0 then (dgF T n k (p, 0)).1 else -1) = -1)) = bI ((dgF T n k (p, 0)).2.2 = 0) := by
    refine bI_cg ?_
    by_cases z : (dgF T n k (p, 0)).2.2 = 0
    · rw [if_pos z]; exact ⟨fun _ => z, fun _ => by omega⟩
    · rw [if_neg z]; exact ⟨fun y => absurd rfl y, fun y => absurd y z⟩
  rw [eb]
  refine h _ (fun b j y1 y2 => by rw [ud_ne (by omega)]; exact f1 b j y1) (fun j => by rw [ud_ne (by omega)]; exact f1 63 j (by omega)) (fun j => by rw [ud_ne (by omega)]; exact f1 64 j (by omega)) (by rw [ud_ne (by omega)]; exact h5) (fun z => by rw [ud_same, if_pos z])
theorem q_readSecond {k : Nat} {n p c : Int} {T : rW} {g : mG} {d : mD} {Q : mQ} (hk : 1 ≤ k ∧ k ≤ 4) (hn : 0 ≤ n ∧ n ≤ 60) (hT : ∀ j, 0 ≤ j → j < n → 0 ≤ T j ∧ T j ≤ 65535) (hp0 : 0 ≤ p ∧ p ≤ n) (hp : PC d T n p) (hc : d 60 4 = c) (hc2 : 0 ≤ c ∧ c < 16) (h : ∀ d', FrQ c d d' → (∀ j, d' 62 j = d 62 j) → (∀ j, d' 64 j = d 64 j) → d' 60 5 = (dgF T n k (p, 0)).2.1 → ((dgF T n k (p, 0)).2.2 = 0 → d' 63 c = (dgF T n k (p, 0)).1) → Q (.inl (bI ((dgF T n k (p, 0)).2.2 = 0))) g d') : MM mX6_readSecond [vR 60, vR 1, vI k] g d Q := by
  refine eX6_readSecond (q_readNumber hk hn hT hp0 hp fun d1 f1 h5 => ?_)
  have e4 : d1 60 4 = c := (f1 60 4 (by omega)).trans hc
  have hr := (dgF_rng (T := T) (n := n) (k := k) (s := (p, 0)) hk.2 ⟨hp0, Or.inl rfl⟩).1
  dsimp only
  rw [hc, e4, ud_same]
  refine ⟨hc2, hc2, ?_⟩
  have eb : bI (¬ ((if (dgF T n k (p, 0)).2.2 = 0 then (dgF T n k (p, 0)).1 else -1) = -1)) = bI ((dgF T n k (p, 0)).2.2 = 0) := by
    refine bI_cg ?_
    by_cases z : (dgF T n k (p, 0)).2.2 = 0
    · rw [if_pos z]; exact ⟨fun _ => z, fun _ => by omega⟩
    · rw [if_neg z]; exact ⟨fun y => absurd rfl y, fun y => absurd y z⟩
  rw [eb]
  refine h _ (fun b j y1 y2 => by rw [ud_ne (by omega)]; exact f1 b j y1) (fun j => by rw [ud_ne (by omega)]; exact f1 62 j (by omega)) (fun j => by rw [ud_ne (by omega)]; exact f1 64 j (by omega)) (by rw [ud_ne (by omega)]; exact h5) (fun z => by rw [ud_same, if_pos z])
