-- how far a command reads
theorem tk_0 {T : rW} {n c : Int} {s : Ps} (h : (tk T n c s).2 = 0) : s.2 = 0 ∧ (tk T n c s).1 = s.1 + 1 := by
  by_cases q : s.2 = 0 ∧ sgF T n s.1 = c
  · rw [tk_t q]; exact ⟨q.1, rfl⟩
  · rw [tk_f q] at h; exact absurd h (by decide : ¬ ((1 : Int) = 0))
theorem tkI_0 {T : rW} {n c : Int} {s : Ps} (h : (tkI T n c s).2 = 0) : s.2 = 0 ∧ s.1 ≤ (tkI T n c s).1 := by
  unfold tkI at h ⊢
  by_cases z : c = 0
  · rw [if_pos z] at h ⊢; exact ⟨h, Int.le_refl _⟩
  · rw [if_neg z] at h ⊢; have := tk_0 h; exact ⟨this.1, by omega⟩
theorem tkW_0 {T : rW} {n a b c e f k : Int} {s : Ps} (h : (tkW T n a b c e f k s).2 = 0) : s.2 = 0 ∧ s.1 + 3 ≤ (tkW T n a b c e f k s).1 := by
  have h' := h
  unfold tkW at h'
  have h1 := tkI_0 h'
  have h2 := tkI_0 h1.1
  have h3 := tkI_0 h2.1
  have h4 := tk_0 h3.1
  have h5 := tk_0 h4.1
  have h6 := tk_0 h5.1
  refine ⟨h6.1, ?_⟩
  unfold tkW
  omega
theorem dgF_0 {T : rW} {n : Int} {k : Nat} {s : Ps} (h : (dgF T n k s).2.2 = 0) : s.2 = 0 ∧ s.1 ≤ (dgF T n k s).2.1 := by
  unfold dgF at h ⊢
  by_cases c : s.2 = 0 ∧ dgP T n s.1
  · rw [if_pos c]; exact ⟨c.1, dgN_p _ _ _⟩
  · rw [if_neg c] at h; exact absurd h (by decide : ¬ ((1 : Int) = 0))
theorem wyF_0 {T : rW} {n : Int} {s : Ps} (h : (wyF T n s).2 = 0) : s.2 = 0 ∧ (wyF T n s).1 = s.1 + 1 := by
  by_cases q : s.2 = 0 ∧ ¬ wayF (sgF T n s.1) = -1
  · rw [wyF_t q]; exact ⟨q.1, rfl⟩
  · rw [wyF_f q] at h; exact absurd h (by decide : ¬ ((1 : Int) = 0))
theorem wyF_ok {T : rW} {n : Int} {s : Ps} (h : sOk n s) : sOk n (wyF T n s) := by
  by_cases q : s.2 = 0 ∧ ¬ wayF (sgF T n s.1) = -1
  · rw [wyF_t q]
    have : ¬ n ≤ s.1 := fun y => q.2 (by rw [sgF_out y h.1.1]; exact wayF_0)
    exact ⟨⟨by have := h.1; show 0 ≤ s.1 + 1; omega, by have := h.1; show s.1 + 1 ≤ n; omega⟩, Or.inl rfl⟩
  · rw [wyF_f q]; exact ⟨h.1, Or.inr rfl⟩
theorem wW_ok {T : rW} {n v p : Int} (hp : 0 ≤ p ∧ p ≤ n) : sOk n (wW T n v p) ∧ ((wW T n v p).2 = 0 → p + 3 ≤ (wW T n v p).1) := by
  have s0 : sOk n (p, 0) := ⟨hp, Or.inl rfl⟩
  have k : ∀ {a b c e f k : Int}, ¬ a = 0 → ¬ b = 0 → ¬ c = 0 → sOk n (tkW T n a b c e f k (p, 0)) ∧ ((tkW T n a b c e f k (p, 0)).2 = 0 → p + 3 ≤ (tkW T n a b c e f k (p, 0)).1) := fun ha hb hc => ⟨tkW_ok s0 ha hb hc, fun z => (tkW_0 z).2⟩
  unfold wW
  by_cases c1 : v = 2
  · rw [if_pos c1]; exact k (by decide) (by decide) (by decide)
  rw [if_neg c1]
  by_cases c2 : v = 0
  · rw [if_pos c2]; exact k (by decide) (by decide) (by decide)
  rw [if_neg c2]
  by_cases c3 : v = 1
  · rw [if_pos c3]; exact k (by decide) (by decide) (by decide)
  rw [if_neg c3]
  by_cases c4 : v = 3
  · rw [if_pos c4]; exact k (by decide) (by decide) (by decide)
  rw [if_neg c4]
  by_cases c5 : v = 4
  · rw [if_pos c5]; exact k (by decide) (by decide) (by decide)
  rw [if_neg c5]
  by_cases c6 : v = 5
  · rw [if_pos c6]; exact k (by decide) (by decide) (by decide)
  rw [if_neg c6]
  have h1 := k (a := 104) (b := 111) (c := 108) (e := 105) (f := 100) (k := 97) (by decide) (by decide) (by decide)
  refine ⟨tk_ok h1.1 (by decide), fun z => ?_⟩
  have h2 := tk_0 z
  have h3 := h1.2 h2.1
  omega
theorem wS_ok {T : rW} {n v p : Int} (hp : 0 ≤ p ∧ p ≤ n) : sOk n (wS T n v p) ∧ ((wS T n v p).2 = 0 → p + 3 ≤ (wS T n v p).1) := by
  have h1 := wW_ok (T := T) (v := v) hp
  unfold wS
  by_cases c1 : v = 1
  · rw [if_pos c1]; exact h1
  · rw [if_neg c1]
    refine ⟨tk_ok h1.1 (by decide), fun z => ?_⟩
    have h2 := tk_0 z
    have h3 := h1.2 h2.1
    omega
theorem vlS_ok {T : rW} {n v p : Int} (hp : 0 ≤ p ∧ p ≤ n) : sOk n (vlS T n v p) ∧ ((vlS T n v p).2 = 0 → p ≤ (vlS T n v p).1) := by
  have s0 : sOk n (p, 0) := ⟨hp, Or.inl rfl⟩
  unfold vlS
  by_cases c1 : v = 0
  · rw [if_pos c1]
    have o1 : sOk n (sv1 T n p) := tk_ok (dgF_rng (by decide) s0).2 (by decide)
    have o2 : sOk n (sv2 T n p) := tk_ok (dgF_rng (by decide) o1).2 (by decide)
    refine ⟨wyF_ok o2, fun z => ?_⟩
    have h1 := wyF_0 z
    have h2 := tk_0 h1.1
    have h3 := dgF_0 h2.1
    have h4 := tk_0 h3.1
    have h5 := dgF_0 h4.1
    have h6 := h5.2
    dsimp only at h6
    have e1 : (sv1 T n p).1 = (dgF T n 1 (p, 0)).2.1 + 1 := h4.2
    have e2 : (sv2 T n p).1 = (dgF T n 1 (sv1 T n p)).2.1 + 1 := h2.2
    have e3 : (svS T n p).1 = (sv2 T n p).1 + 1 := h1.2
    have e4 := h3.2
    omega
  rw [if_neg c1]
  by_cases c2 : v = 1
  · rw [if_pos c2]
    unfold dyS
    by_cases z : sgF T n p = 32
    · rw [if_pos z]
      have hlt : p < n := by
        rcases Int.lt_or_le p n with a | a
        · exact a
        · rw [sgF_out a hp.1] at z; omega
      refine ⟨(dgF_rng (by decide) ⟨⟨by show 0 ≤ p + 1; omega, by show p + 1 ≤ n; omega⟩, Or.inl rfl⟩).2, fun y => ?_⟩
      have h1 := (dgF_0 y).2
      dsimp only at h1
      omega
    · rw [if_neg z]; exact ⟨s0, fun _ => Int.le_refl _⟩
  rw [if_neg c2]
  by_cases c3 : v = 4
  · rw [if_pos c3]
    have o1 : sOk n (mr1 T n p) := tk_ok (dgF_rng (by decide) s0).2 (by decide)
    refine ⟨(dgF_rng (by decide) o1).2, fun z => ?_⟩
    have h3 := dgF_0 z
    have h4 := tk_0 h3.1
    have h5 := dgF_0 h4.1
    have h6 := h5.2
    dsimp only at h6
    have e1 : (mr1 T n p).1 = (dgF T n 4 (p, 0)).2.1 + 1 := h4.2
    have e4 := h3.2
    omega
  rw [if_neg c3]
  refine ⟨(dgF_rng (by decide) s0).2, fun z => ?_⟩
  exact (dgF_0 z).2
theorem cmS_ok {T : rW} {n p : Int} (hp : 0 ≤ p ∧ p ≤ n) : sOk n (cmS T n p) ∧ ((cmS T n p).2 = 0 → p + 3 ≤ (cmS T n p).1) := by
  have h1 := wS_ok (T := T) (v := vb T n p) hp
  unfold cmS
  by_cases z : (wS T n (vb T n p) p).2 = 0
  · rw [if_pos z]
    have h2 := vlS_ok (T := T) (v := vb T n p) h1.1.1
    have h3 := h1.2 z
    exact ⟨h2.1, fun y => by have := h2.2 y; omega⟩
  · rw [if_neg z]
    exact ⟨⟨h1.1.1, Or.inr rfl⟩, fun y => absurd y (by decide : ¬ ((1 : Int) = 0))⟩
