-- the due day
theorem endF_ok {R : rW} {p r f len ic : Int} (h1 : f ≤ 4999) : endF R p r f len ic = 5000 ∨ (f < endF R p r f len ic ∧ endF R p r f len ic ≤ 4999 ∧ court R (endF R p r f len ic) ∧ ¬ stopd R p r (endF R p r f len ic)) := by
  have hr := endF_rng (R := R) (p := p) (r := r) (f := f) (len := len) (ic := ic) h1
  by_cases h : endF R p r f len ic = 5000
  · exact Or.inl h
  · have hs : endF R p r f len ic < 5000 := by omega
    have a := (fd_spec (P := fun x => len ≤ cn (Cc R p r ic) (f + 1) x) (a := f + 1) (by omega)).1
    have b := (fd_spec (P := fun x => court R x ∧ ¬ stopd R p r x) (a := fd (fun x => len ≤ cn (Cc R p r ic) (f + 1) x) (f + 1)) a.2).2.2 hs
    exact Or.inr ⟨by omega, by omega, b.1, b.2⟩
theorem dueN_ok {R : rW} {i : Int} : ∀ (n : Nat) (q y : Int), y ≤ 4999 → dueN R i (n + 1) q y = 5000 ∨ (y < dueN R i (n + 1) q y ∧ dueN R i (n + 1) q y ≤ 4999 ∧ court R (dueN R i (n + 1) q y) ∧ ¬ stopd R (R (139 + 16 * i)) (R (140 + 16 * i)) (dueN R i (n + 1) q y)) := by
  intro n
  induction n with
  | zero =>
    intro q y h1
    rw [dueN_s, if_neg (by omega)]
    exact endF_ok h1
  | succ n ih =>
    intro q y h1
    rw [dueN_s, if_neg (by omega)]
    rcases endF_ok (R := R) (p := R (139 + 16 * i)) (r := R (140 + 16 * i)) (f := y) (len := plenF R i q) (ic := bI (q = 0 ∧ R (143 + 16 * i) = 1)) h1 with h | ⟨h2, h3, -, -⟩
    · rw [h]
      exact Or.inl dueN_5
    · generalize endF R (R (139 + 16 * i)) (R (140 + 16 * i)) y (plenF R i q) (bI (q = 0 ∧ R (143 + 16 * i) = 1)) = E at h2 h3 ⊢
      rcases ih (q + 1) E h3 with t | ⟨t1, t2, t3, t4⟩
      · exact Or.inl t
      · exact Or.inr ⟨by omega, t2, t3, t4⟩
theorem dueF_e {R : rW} (hR : RW R) {i : Int} (hi : 0 ≤ i ∧ i < R 3) : dueF R i = dueN R i ((partsF R i).toNat - 1 + 1) 0 (R (141 + 16 * i)) := by
  have hp := parts_rng hR hi
  unfold dueF
  rw [show (partsF R i).toNat - 1 + 1 = (partsF R i).toNat by omega]
theorem due_ok {R : rW} (hR : RW R) {i : Int} (hi : 0 ≤ i ∧ i < R 3) : dueF R i = 5000 ∨ ((1 ≤ dueF R i ∧ dueF R i ≤ 4999) ∧ court R (dueF R i) ∧ ¬ stopd R (R (139 + 16 * i)) (R (140 + 16 * i)) (dueF R i)) := by
  have h0 := hR.n.1
  have hd := hR.dl hi
  unfold DLW at hd
  rw [dueF_e hR hi]
  rcases dueN_ok (R := R) (i := i) ((partsF R i).toNat - 1) 0 (R (141 + 16 * i)) (by omega) with h | ⟨h1, h2, h3, h4⟩
  · exact Or.inl h
  · exact Or.inr ⟨⟨by omega, h2⟩, h3, h4⟩
-- the days left
theorem sumN_le {R : rW} (hR : RW R) {i : Int} (hi : 0 ≤ i ∧ i < R 3) (a : Nat) : ∀ m : Nat, ((a + m : Nat) : Int) ≤ partsF R i → sumN R i a ≤ sumN R i (a + m) := by
  intro m
  induction m with
  | zero => intro _; exact Int.le_refl _
  | succ m ih =>
    intro h
    have h2 := plen_rng hR hi (q := ((a + m : Nat) : Int)) (by omega)
    have h3 := ih (by omega)
    have e : sumN R i (a + (m + 1)) = sumN R i (a + m) + plenF R i ((a + m : Nat) : Int) := rfl
    omega
theorem rest_s {R : rW} {i q : Int} (hq : 0 ≤ q) : sumN R i (q + 1).toNat = sumN R i q.toNat + plenF R i q := by
  rw [show (q + 1).toNat = q.toNat + 1 by omega]
  show sumN R i q.toNat + plenF R i ((q.toNat : Nat) : Int) = _
  rw [n_i hq]
theorem rest_le {R : rW} (hR : RW R) {i q : Int} (hi : 0 ≤ i ∧ i < R 3) (hq : 0 ≤ q ∧ q ≤ partsF R i) : sumN R i q.toNat ≤ sumF R i := by
  have h := sumN_le hR hi q.toNat ((partsF R i).toNat - q.toNat) (by omega)
  rw [show q.toNat + ((partsF R i).toNat - q.toNat) = (partsF R i).toNat by omega] at h
  exact h
theorem cnts_lt {R : rW} {i x q c : Int} (h : c ≤ plenF R i q) : c + bI (cnts R i x q c) ≤ plenF R i q := by
  by_cases k : cnts R i x q c
  · rw [bI_t k]
    have := k.1
    omega
  · rw [bI_f k]
    omega
theorem wk_le {R : rW} (hR : RW R) {i : Int} (hi : 0 ≤ i ∧ i < R 3) : ∀ (n : Nat) (x q c : Int), 0 ≤ q ∧ q ≤ partsF R i → (q < partsF R i → c ≤ plenF R i q) → (q = partsF R i → c = 0) → wk R i n x q c + c ≤ sumF R i - sumN R i q.toNat := by
  intro n
  induction n with
  | zero =>
    intro x q c hq h1 h2
    show 0 + c ≤ _
    by_cases e : q = partsF R i
    · have := rest_le hR hi hq
      have := h2 e
      omega
    · have h3 := rest_le hR hi (q := q + 1) (by omega)
      rw [rest_s hq.1] at h3
      have := h1 (by omega)
      omega
  | succ n ih =>
    intro x q c hq h1 h2
    rw [wk_s]
    by_cases e : partsF R i ≤ q
    · rw [if_pos e]
      have := rest_le hR hi hq
      have := h2 (by omega)
      omega
    · rw [if_neg e]
      have hb := cnts_lt (R := R) (i := i) (x := x) (q := q) (h1 (by omega))
      have hb0 := @bI_rng (cnts R i x q c)
      have hs := rest_s (R := R) (i := i) hq.1
      by_cases k : c + bI (cnts R i x q c) = plenF R i q ∧ court R x ∧ ¬ stopd R (R (139 + 16 * i)) (R (140 + 16 * i)) x
      · rw [iT_t k]
        have hp := plen_rng hR hi (q := q + 1)
        have := ih (x + 1) (q + 1) 0 (by omega) (fun z => by have := hp (by omega); omega) (fun _ => rfl)
        have := k.1
        omega
      · rw [iT_f k]
        have := ih (x + 1) q (c + bI (cnts R i x q c)) hq (fun _ => hb) (fun z => absurd z (by omega))
        omega
theorem left_nn {R : rW} (hR : RW R) {i : Int} (hi : 0 ≤ i ∧ i < R 3) : 0 ≤ leftF R i := by
  have hp := parts_rng hR hi
  have hl := plen_rng hR hi (q := 0) (by omega)
  have h := wk_le hR hi (R 0 - R (141 + 16 * i)).toNat (R (141 + 16 * i) + 1) 0 0 (by omega) (fun _ => by omega) (fun _ => rfl)
  have e : sumN R i (0 : Int).toNat = 0 := rfl
  unfold leftF ctF
  omega
theorem EW_ge {R : rW} {i : Int} : ∀ (n : Nat) (x q c : Int), q < partsF R i → EW R i n x q c 5000 = 5000 ∨ x ≤ EW R i n x q c 5000 := by
  intro n
  induction n with
  | zero => intro x q c _; exact Or.inl rfl
  | succ n ih =>
    intro x q c hq
    rw [EW_s, if_neg (by omega)]
    by_cases k : c + bI (cnts R i x q c) = plenF R i q ∧ court R x ∧ ¬ stopd R (R (139 + 16 * i)) (R (140 + 16 * i)) x
    · rw [iT_t k]
      by_cases e : q + 1 = partsF R i
      · rw [iT_t e, EW_done (by omega)]
        exact Or.inr (Int.le_refl _)
      · rw [iT_f e]
        rcases ih (x + 1) (q + 1) 0 (by omega) with t | t
        · exact Or.inl t
        · exact Or.inr (by omega)
    · rw [iT_f k]
      rcases ih (x + 1) q (c + bI (cnts R i x q c)) hq with t | t
      · exact Or.inl t
      · exact Or.inr (by omega)
theorem wk_0 {R : rW} {i x q c : Int} (h : partsF R i ≤ q) (n : Nat) : wk R i n x q c = 0 := by
  cases n with
  | zero => rfl
  | succ n => rw [wk_s, if_pos h]
theorem wk_end {R : rW} (hR : RW R) {i : Int} (hi : 0 ≤ i ∧ i < R 3) : ∀ (n m : Nat) (x q c : Int), m ≤ n → 0 ≤ q → q < partsF R i → c ≤ plenF R i q → EW R i n x q c 5000 ≠ 5000 → EW R i n x q c 5000 < x + m → wk R i m x q c + c = sumF R i - sumN R i q.toNat := by
  intro n
  induction n with
  | zero => intro m x q c _ _ _ _ h _; exact absurd rfl h
  | succ n ih =>
    intro m x q c hm hq hqp hc h5 hx
    have hge := EW_ge (R := R) (i := i) (n + 1) x q c hqp
    cases m with
    | zero => omega
    | succ m =>
      rw [EW_s, if_neg (by omega)] at h5 hx
      rw [wk_s, if_neg (by omega)]
      have hb := cnts_lt (R := R) (i := i) (x := x) hc
      have hs := rest_s (R := R) (i := i) hq
      by_cases k : c + bI (cnts R i x q c) = plenF R i q ∧ court R x ∧ ¬ stopd R (R (139 + 16 * i)) (R (140 + 16 * i)) x
      · rw [iT_t k] at h5 hx ⊢
        have k1 := k.1
        by_cases e : q + 1 = partsF R i
        · rw [wk_0 (by omega)]
          have es : sumF R i = sumN R i (q + 1).toNat := by
            unfold sumF
            rw [e]
          omega
        · rw [iT_f e] at h5 hx
          have hp := plen_rng hR hi (q := q + 1) (by omega)
          have := ih m (x + 1) (q + 1) 0 (by omega) (by omega) (by omega) (by omega) h5 (by omega)
          omega
      · rw [iT_f k] at h5 hx ⊢
        have := ih m (x + 1) q (c + bI (cnts R i x q c)) (by omega) hq hqp hb h5 (by omega)
        omega
theorem due_left {R : rW} (hR : RW R) {i : Int} (hi : 0 ≤ i ∧ i < R 3) (h : dueF R i ≤ R 0) : leftF R i = 0 := by
  have h0 := hR.n.1
  have hd := hR.dl hi
  unfold DLW at hd
  have hp := parts_rng hR hi
  have hl := plen_rng hR hi (q := 0) (by omega)
  have e := EW_due hR hi ((partsF R i).toNat - 1) 0 (R (141 + 16 * i)) (by omega) (by omega) (by omega)
  rw [← dueF_e hR hi] at e
  have hw := wk_end hR hi (4999 - R (141 + 16 * i)).toNat (R 0 - R (141 + 16 * i)).toNat (R (141 + 16 * i) + 1) 0 0 (by omega) (by omega) (by omega) (by omega) (by omega) (by omega)
  have e0 : sumN R i (0 : Int).toNat = 0 := rfl
  unfold leftF ctF
  omega
-- a stay of everything
theorem wk_stop {R : rW} {i : Int} : ∀ (n : Nat) (x q c : Int), (∀ y, x ≤ y → stopd R (R (139 + 16 * i)) (R (140 + 16 * i)) y) → wk R i n x q c = 0 := by
  intro n
  induction n with
  | zero => intro x q c _; rfl
  | succ n ih =>
    intro x q c h
    rw [wk_s]
    by_cases e : partsF R i ≤ q
    · rw [if_pos e]
    · rw [if_neg e, bI_f (fun z => z.2.1 (h x (Int.le_refl _))), iT_f (fun z => z.2.2 (h x (Int.le_refl _))), ih (x + 1) q _ (fun y hy => h y (by omega))]
      rfl
theorem wk_more {R R' : rW} {i T : Int} (hp : partsF R' i = partsF R i) (hl : ∀ q, q < partsF R i → plenF R' i q = plenF R i q) (h3 : R' (143 + 16 * i) = R (143 + 16 * i)) (hc : ∀ x, court R' x ↔ court R x) (hs : ∀ x, x ≤ T → (stopd R' (R' (139 + 16 * i)) (R' (140 + 16 * i)) x ↔ stopd R (R (139 + 16 * i)) (R (140 + 16 * i)) x)) (hT : ∀ x, T < x → stopd R' (R' (139 + 16 * i)) (R' (140 + 16 * i)) x) (m : Nat) : ∀ (n : Nat) (x q c : Int), x + n = T + 1 → wk R' i (n + m) x q c = wk R i n x q c := by
  intro n
  induction n with
  | zero =>
    intro x q c hx
    exact wk_stop _ x q c (fun y hy => hT y (by omega))
  | succ n ih =>
    intro x q c hx
    rw [show n + 1 + m = (n + m) + 1 by omega, wk_s, wk_s, hp]
    by_cases e : partsF R i ≤ q
    · rw [if_pos e, if_pos e]
    · have ec : cnts R' i x q c ↔ cnts R i x q c := by
        unfold cnts
        rw [hl q (by omega), h3, hc x, hs x (by omega)]
      rw [if_neg e, if_neg e, bI_cg ec, hl q (by omega), ih (x + 1) (q + 1) 0 (by omega), ih (x + 1) q _ (by omega)]
      rw [iT_cg (q := c + bI (cnts R i x q c) = plenF R i q ∧ court R x ∧ ¬ stopd R (R (139 + 16 * i)) (R (140 + 16 * i)) x)]
      rw [hc x, hs x (by omega)]
/-- days pass under a stay of everything: no deadline loses one -/
theorem left_stay {R : rW} (hR : RW R) {v : Int} (hv : R 0 ≤ v) {i : Int} (hi : 0 ≤ i ∧ i < R 3) (hs : ∀ x, R 0 < x → stopd R (R (139 + 16 * i)) (R (140 + 16 * i)) x) : leftF (up R 0 v) i = leftF R i := by
  have hd := hR.dl hi
  have hw : DLW R i := hd
  unfold DLW at hd
  have ne : ∀ j : Int, 1 ≤ j → up R 0 v j = R j := fun j hj => up_n (by omega)
  have eo : eqOn R (up R 0 v) (139 + 16 * i) (154 + 16 * i) := fun j q1 q2 => ne j (by omega)
  have ep := partsF_cg eo
  have el : ∀ q, q < partsF R i → plenF (up R 0 v) i q = plenF R i q := fun q hq => plenF_cg hw eo hq
  have est : ∀ p r x, stopd (up R 0 v) p r x ↔ stopd R p r x := fun p r x => by
    unfold stopd
    rw [ne 4 (by decide)]
    constructor
    · rintro ⟨k, k1, k2, k3⟩
      refine ⟨k, k1, k2, ?_⟩
      unfold hits at k3 ⊢
      rw [ne (619 + 4 * k) (by omega), ne (620 + 4 * k) (by omega), ne (621 + 4 * k) (by omega), ne (622 + 4 * k) (by omega)] at k3
      exact k3
    · rintro ⟨k, k1, k2, k3⟩
      refine ⟨k, k1, k2, ?_⟩
      unfold hits at k3 ⊢
      rw [ne (619 + 4 * k) (by omega), ne (620 + 4 * k) (by omega), ne (621 + 4 * k) (by omega), ne (622 + 4 * k) (by omega)]
      exact k3
  have ehN : ∀ (n : Nat) (x k : Int), 0 ≤ k → hAtN (up R 0 v) x n k = hAtN R x n k := by
    intro n
    induction n with
    | zero => intro x k _; rfl
    | succ n ih =>
      intro x k hk
      rw [hAtN_s, hAtN_s, ne 2 (by decide), ne (79 + k) (by omega), ih x (k + 1) (by omega)]
  have eco : ∀ x, court (up R 0 v) x ↔ court R x := fun x => by
    unfold court hAt
    rw [ehN 41 x 0 (by omega)]
  have esum : sumF (up R 0 v) i = sumF R i := by
    have key : ∀ n : Nat, (n : Int) ≤ partsF R i → sumN (up R 0 v) i n = sumN R i n := by
      intro n
      induction n with
      | zero => intro _; rfl
      | succ n ih =>
        intro hn
        show sumN (up R 0 v) i n + plenF (up R 0 v) i n = sumN R i n + plenF R i n
        rw [ih (by omega), el n (by omega)]
    have hp := parts_rng hR hi
    unfold sumF
    rw [ep]
    exact key _ (by omega)
  have ect : ctF (up R 0 v) i = ctF R i := by
    unfold ctF
    rw [ne (141 + 16 * i) (by omega), up_s]
    have h := wk_more (R := R) (R' := up R 0 v) (i := i) (T := R 0) ep el (ne (143 + 16 * i) (by omega)) eco (fun x _ => by rw [ne (139 + 16 * i) (by omega), ne (140 + 16 * i) (by omega)]; exact est _ _ x) (fun x hx => by rw [ne (139 + 16 * i) (by omega), ne (140 + 16 * i) (by omega)]; exact (est _ _ x).2 (hs x hx)) (v - R 0).toNat (R 0 - R (141 + 16 * i)).toNat (R (141 + 16 * i) + 1) 0 0 (by omega)
    rw [show (R 0 - R (141 + 16 * i)).toNat + (v - R 0).toNat = (v - R (141 + 16 * i)).toNat by omega] at h
    exact h
  unfold leftF
  rw [esum, ect]
theorem bit_255 {r : Int} (hr : 0 ≤ r ∧ r < 8) : (255 : Int) / 2 ^ r.toNat % 2 = 1 := by
  rcases (show r = 0 ∨ r = 1 ∨ r = 2 ∨ r = 3 ∨ r = 4 ∨ r = 5 ∨ r = 6 ∨ r = 7 by omega) with rfl | rfl | rfl | rfl | rfl | rfl | rfl | rfl <;> decide
theorem stop_all {R : rW} (hR : RW R) {p r x : Int} (hr : 0 ≤ r ∧ r < 8) (hx : R 0 < x) : stopd (syR R (-1) 255) p r x := by
  have h4 := hR.n.2.2.2.2.1
  refine ⟨R 4, by omega, ?_, ?_⟩
  · show R 4 < syR R (-1) 255 4
    unfold syR
    rw [up_s]
    omega
  · unfold hits syR
    rw [up_n (by omega), up_n (by omega), up_n (by omega), up_n (by omega), up_s]
    rw [up_n (i := 4) (by omega), up_n (i := 622 + 4 * R 4) (by omega), up_n (i := 621 + 4 * R 4) (by omega), up_s]
    rw [up_n (i := 4) (by omega), up_n (i := 622 + 4 * R 4) (by omega), up_s]
    rw [up_n (i := 4) (by omega), up_s]
    exact ⟨Or.inl rfl, bit_255 hr, hx, Or.inl rfl⟩
theorem syR_e {R : rW} {p r j : Int} (h4 : 0 ≤ R 4) (h : ¬ (j = 4 ∨ (619 + 4 * R 4 ≤ j ∧ j ≤ 622 + 4 * R 4))) : syR R p r j = R j := by
  unfold syR
  rw [up_n (by omega), up_n (by omega), up_n (by omega), up_n (by omega), up_n (by omega)]
theorem stopd_up {R : rW} {v p r x : Int} (h : 0 ≤ R 4) : stopd (up R 0 v) p r x ↔ stopd R p r x := by
  have ne : ∀ j : Int, 1 ≤ j → up R 0 v j = R j := fun j hj => up_n (by omega)
  unfold stopd
  rw [ne 4 (by decide)]
  constructor
  · rintro ⟨k, k1, k2, k3⟩
    refine ⟨k, k1, k2, ?_⟩
    unfold hits at k3 ⊢
    rw [ne (619 + 4 * k) (by omega), ne (620 + 4 * k) (by omega), ne (621 + 4 * k) (by omega), ne (622 + 4 * k) (by omega)] at k3
    exact k3
  · rintro ⟨k, k1, k2, k3⟩
    refine ⟨k, k1, k2, ?_⟩
    unfold hits at k3 ⊢
    rw [ne (619 + 4 * k) (by omega), ne (620 + 4 * k) (by omega), ne (621 + 4 * k) (by omega), ne (622 + 4 * k) (by omega)]
    exact k3
