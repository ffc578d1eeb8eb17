-- the class by weeks: ends, days counted, stopped days
theorem ic_eq {R : rW} {i q : Int} (h : R (143 + 16 * i) = 0 ∨ R (143 + 16 * i) = 1) : bI ((q = 0) ∧ (¬ (R (143 + 16 * i) = 0))) = bI (q = 0 ∧ R (143 + 16 * i) = 1) := bI_cg ⟨fun z => ⟨z.1, by omega⟩, fun z => ⟨z.1, by omega⟩⟩
theorem dueN_5 {R : rW} {i q : Int} {n : Nat} : dueN R i n q 5000 = 5000 := by
  cases n with
  | zero => rfl
  | succ n => rw [dueN_s, if_pos rfl]
theorem l_endOf_d {i : Int} {R : rW} {g : mG} {d : mD} {Q : mQ} (hC : CI d R) (hi : 0 ≤ i ∧ i < R 3) (hG : RG d R (R (139 + 16 * i)) (R (140 + 16 * i))) : ∀ (n : Nat) (q y : Int), 0 ≤ q → q + n = partsF R i → 0 ≤ y ∧ y ≤ 5000 → Q (.inl (dueN R i n q y)) g d → pX10_endOf_d_1 i y q g d Q := by
  have hR := hC.w
  have h3 := hR.n.2.2.2.1
  have hp := parts_rng hR hi
  have hd := hR.dl hi
  unfold DLW at hd
  have hdl := hC.dl.2 i hi
  unfold DLS at hdl
  obtain ⟨-, -, e19, e20, e21, e22, -⟩ := hdl
  intro n
  induction n with
  | zero =>
    intro q y hq hn hy h
    exact aX10_endOf_d_1 (R := R) (gp := R (139 + 16 * i)) (gr := R (140 + 16 * i)) ⟨by omega, fun c => absurd (by omega) c.1, fun _ => h⟩
  | succ n ih =>
    intro q y hq hn hy h
    have hl := plen_rng hR hi (q := q) (by omega)
    refine aX10_endOf_d_1 (R := R) (gp := R (139 + 16 * i)) (gr := R (140 + 16 * i)) ⟨by omega, fun c => ?_, fun c => ?_⟩
    · rw [dueN_s, if_neg (by omega)] at h
      rw [e22 q (by omega), e20, ic_eq hd.2.2.2.2.1]
      have s := (fd_spec (P := fun x => plenF R i q ≤ cn (Cc R (R (139 + 16 * i)) (R (140 + 16 * i)) (bI (q = 0 ∧ R (143 + 16 * i) = 1))) (y + 1) x) (a := y + 1) (by omega)).1
      have he := endF_rng (R := R) (p := R (139 + 16 * i)) (r := R (140 + 16 * i)) (f := y) (len := plenF R i q) (ic := bI (q = 0 ∧ R (143 + 16 * i) = 1)) (by omega)
      exact ⟨fun _ => by omega, ik (by omega), ik (by omega), ik (by omega), by omega, hC, hG, by omega, hl, by omega, ik (by omega), ih (q + 1) _ (by omega) (by omega) ⟨by unfold endF at he; omega, by unfold endF at he; omega⟩ h⟩
    · rw [show y = 5000 by omega, dueN_5] at h
      rw [show y = 5000 by omega]
      exact h
theorem f_endOfW {x2 : Int} {R : rW} {g : mG} {d : mD} {Q : mQ} (h : CI d R ∧ (0 ≤ x2 ∧ x2 < R 3) ∧ ∀ d', FrW d d' → Q (.inl (dueF R x2)) g d') : MM mX10_endOf [vR 53, vR 16, vI x2] g d Q := by
  obtain ⟨hC, hi, hq⟩ := h
  have hR := hC.w
  have h3 := hR.n.2.2.2.1
  have h0 := hR.n.1
  have hp := parts_rng hR hi
  have hd := hR.dl hi
  unfold DLW at hd
  have hdl := hC.dl.2 x2 hi
  unfold DLS at hdl
  refine eX10_endOf_d (f_takeStays_d hC hi (fun d' hf hG => ⟨by omega, ?_⟩))
  rw [hf (show ¬ ((19 : Int) = 54 ∨ (19 : Int) = 55 ∨ ((19 : Int) = 53 ∧ x2 = 4)) by omega), hdl.2.2.1]
  exact l_endOf_d (hC.frW hf) hi hG (partsF R x2).toNat 0 _ (by omega) (by omega) (by omega) (hq d' hf)
theorem l_endOf_p {i : Int} {R : rW} {g : mG} {d : mD} {Q : mQ} (hC : CI d R) (hi : 0 ≤ i ∧ i < R 5) (hG : RG d R (-1) (R (668 + 5 * i))) (h : Q (.inl (barF R i)) g d) : pX10_endOf_p_1 i (R (667 + 5 * i)) 0 g d Q := by
  have hR := hC.w
  have h5 := hR.n.2.2.2.2.2.1
  have h0 := hR.n.1
  have ho := hR.o.1 i hi
  unfold OCW at ho
  obtain ⟨e35, e36, e37, e38, e39, e40, e46⟩ := hC.oc.2.1 i hi
  refine aX10_endOf_p_1 (R := R) (gp := -1) (gr := R (668 + 5 * i)) ⟨by omega, fun c => ?_, fun c => absurd ⟨by omega, by omega⟩ c⟩
  rw [show i * 7 + 0 = i * 7 by omega, e40, e38]
  have e : bI (((0 : Int) = 0) ∧ (¬ (R (670 + 5 * i) = 0))) = bI (R (670 + 5 * i) = 1) := bI_cg ⟨fun z => by omega, fun z => ⟨rfl, by omega⟩⟩
  rw [e]
  have s := (fd_spec (P := fun x => R (669 + 5 * i) ≤ cn (Cc R (-1) (R (668 + 5 * i)) (bI (R (670 + 5 * i) = 1))) (R (667 + 5 * i) + 1) x) (a := R (667 + 5 * i) + 1) (by omega)).1
  refine ⟨fun _ => by omega, ik (by omega), ik (by omega), ik (by omega), by omega, hC, hG, by omega, by omega, by omega, ik (by omega), ?_⟩
  exact aX10_endOf_p_1 (R := R) (gp := -1) (gr := R (668 + 5 * i)) ⟨by omega, fun c2 => absurd c2.1 (by omega), fun _ => h⟩
theorem f_endOfP {x2 : Int} {R : rW} {g : mG} {d : mD} {Q : mQ} (h : CI d R ∧ (0 ≤ x2 ∧ x2 < R 5) ∧ ∀ d', FrW d d' → Q (.inl (barF R x2)) g d') : MM mX10_endOf [vR 53, vR 34, vI x2] g d Q := by
  obtain ⟨hC, hi, hq⟩ := h
  have h5 := hC.w.n.2.2.2.2.2.1
  obtain ⟨e35, e36, e37, e38, e39, e40, e46⟩ := hC.oc.2.1 x2 hi
  refine eX10_endOf_p (f_takeStays_p hC hi (fun d' hf hG => ⟨by omega, ?_⟩))
  rw [hf (show ¬ ((37 : Int) = 54 ∨ (37 : Int) = 55 ∨ ((37 : Int) = 53 ∧ x2 = 4)) by omega), e37]
  exact l_endOf_p (hC.frW hf) hi hG (hq d' hf)
-- a walk through a part
theorem wk_wait {R : rW} {i q : Int} (hq : q < partsF R i) : ∀ (n : Nat) (x : Int), 0 ≤ x → x + n ≤ 5000 → wk R i n x q (plenF R i q) = wk R i (x + n - 1 - fd (fun x => court R x ∧ ¬ stopd R (R (139 + 16 * i)) (R (140 + 16 * i)) x) x).toNat (fd (fun x => court R x ∧ ¬ stopd R (R (139 + 16 * i)) (R (140 + 16 * i)) x) x + 1) (q + 1) 0 := by
  intro n
  induction n with
  | zero =>
    intro x hx hn
    have s := (fd_spec (P := fun x => court R x ∧ ¬ stopd R (R (139 + 16 * i)) (R (140 + 16 * i)) x) (a := x) (by omega)).1
    rw [show (x + ((0 : Nat) : Int) - 1 - fd (fun x => court R x ∧ ¬ stopd R (R (139 + 16 * i)) (R (140 + 16 * i)) x) x).toNat = 0 by omega]
    rfl
  | succ n ih =>
    intro x hx hn
    rw [wk_s, if_neg (by omega), bI_f (p := cnts R i x q (plenF R i q)) (fun z => absurd z.1 (by omega)), Int.add_zero]
    by_cases hc : court R x ∧ ¬ stopd R (R (139 + 16 * i)) (R (140 + 16 * i)) x
    · rw [iT_t ⟨rfl, hc⟩, fd_here (Or.inl hc), show (x + ((n + 1 : Nat) : Int) - 1 - x).toNat = n by omega]
      omega
    · rw [iT_f (fun z => hc z.2), fd_step hc (by omega), ih (x + 1) (by omega) (by omega), show x + 1 + (n : Int) - 1 = x + ((n + 1 : Nat) : Int) - 1 by omega]
      omega
theorem wk_part {R : rW} {i q : Int} (hq : 0 ≤ q ∧ q < partsF R i) (hb : R (143 + 16 * i) = 0 ∨ R (143 + 16 * i) = 1) : ∀ (n : Nat) (x l : Int), 0 ≤ x → x + n ≤ 5000 → 1 ≤ l → l ≤ plenF R i q →
    wk R i n x q (plenF R i q - l) = iT (x + n - 1 < fd (fun y => l ≤ cn (Cc R (R (139 + 16 * i)) (R (140 + 16 * i)) (bI (q = 0 ∧ R (143 + 16 * i) = 1))) x y) x) (cn (Cc R (R (139 + 16 * i)) (R (140 + 16 * i)) (bI (q = 0 ∧ R (143 + 16 * i) = 1))) x (x + n - 1)) l
      + wk R i (x + n - 1 - fd (fun x => court R x ∧ ¬ stopd R (R (139 + 16 * i)) (R (140 + 16 * i)) x) (fd (fun y => l ≤ cn (Cc R (R (139 + 16 * i)) (R (140 + 16 * i)) (bI (q = 0 ∧ R (143 + 16 * i) = 1))) x y) x)).toNat (fd (fun x => court R x ∧ ¬ stopd R (R (139 + 16 * i)) (R (140 + 16 * i)) x) (fd (fun y => l ≤ cn (Cc R (R (139 + 16 * i)) (R (140 + 16 * i)) (bI (q = 0 ∧ R (143 + 16 * i) = 1))) x y) x) + 1) (q + 1) 0 := by
  generalize hCd : Cc R (R (139 + 16 * i)) (R (140 + 16 * i)) (bI (q = 0 ∧ R (143 + 16 * i) = 1)) = C
  have hcn : ∀ x c, c < plenF R i q → (cnts R i x q c ↔ C x) := by
    intro x c hc
    rw [← hCd]
    unfold cnts Cc
    have e : bI (q = 0 ∧ R (143 + 16 * i) = 1) = 0 ↔ (0 < q ∨ R (143 + 16 * i) = 0) := by
      rw [bI_0]
      constructor <;> intro z <;> omega
    rw [e]
    constructor
    · rintro ⟨-, a, b⟩
      exact ⟨a, by rcases b with b | b | b; exact Or.inl (Or.inl b); exact Or.inl (Or.inr b); exact Or.inr b⟩
    · rintro ⟨a, b⟩
      exact ⟨hc, a, by rcases b with (b | b) | b; exact Or.inl b; exact Or.inr (Or.inl b); exact Or.inr (Or.inr b)⟩
  have hCs : ∀ x, C x → ¬ stopd R (R (139 + 16 * i)) (R (140 + 16 * i)) x := fun x hx => by rw [← hCd] at hx; exact hx.1
  intro n
  induction n with
  | zero =>
    intro x l hx hn hl hl2
    have s := (fd_spec (P := fun y => l ≤ cn C x y) (a := x) (by omega)).1
    have s2 := (fd_spec (P := fun x => court R x ∧ ¬ stopd R (R (139 + 16 * i)) (R (140 + 16 * i)) x) (a := fd (fun y => l ≤ cn C x y) x) s.2).1
    rw [iT_t (by omega), cn_empty (by omega), show (x + ((0 : Nat) : Int) - 1 - fd (fun x => court R x ∧ ¬ stopd R (R (139 + 16 * i)) (R (140 + 16 * i)) x) (fd (fun y => l ≤ cn C x y) x)).toNat = 0 by omega]
    rfl
  | succ n ih =>
    intro x l hx hn hl hl2
    rw [wk_s, if_neg (by omega), bI_cg (hcn x (plenF R i q - l) (by omega))]
    have ecn : ∀ y, x ≤ y → cn C x y = bI (C x) + cn C (x + 1) y := fun y hy => cn_first hy
    by_cases hcx : C x
    · rw [bI_t hcx]
      by_cases hl1 : l = 1
      · subst hl1
        rw [fd_here (P := fun y => (1 : Int) ≤ cn C x y) (a := x) (Or.inl (by rw [cn_one, bI_t hcx]; exact Int.le_refl _)), iT_f (p := x + ((n + 1 : Nat) : Int) - 1 < x) (by omega)]
        by_cases hco : court R x
        · rw [iT_t ⟨by omega, hco, hCs x hcx⟩, fd_here (Or.inl ⟨hco, hCs x hcx⟩), show (x + ((n + 1 : Nat) : Int) - 1 - x).toNat = n by omega]
        · rw [iT_f (fun z => hco z.2.1), fd_step (fun z => hco z.1) (by omega), show plenF R i q - 1 + 1 = plenF R i q by omega, wk_wait hq.2 n (x + 1) (by omega) (by omega), show x + 1 + (n : Int) - 1 = x + ((n + 1 : Nat) : Int) - 1 by omega]
      · have ef := fd_cut (P := C) (a := x) (b := x + 1) (n := l) (by omega) (by rw [show x + 1 - 1 = x by omega, cn_one, bI_t hcx]; omega)
        rw [show x + 1 - 1 = x by omega, cn_one, bI_t hcx] at ef
        rw [iT_f (p := plenF R i q - l + 1 = plenF R i q ∧ court R x ∧ ¬ stopd R (R (139 + 16 * i)) (R (140 + 16 * i)) x) (fun z => absurd z.1 (by omega)), ef, show plenF R i q - l + 1 = plenF R i q - (l - 1) by omega, ih (x + 1) (l - 1) (by omega) (by omega) (by omega) (by omega), show x + 1 + (n : Int) - 1 = x + ((n + 1 : Nat) : Int) - 1 by omega, ecn (x + ((n + 1 : Nat) : Int) - 1) (by omega), bI_t hcx]
        rcases iT_or (p := x + ((n + 1 : Nat) : Int) - 1 < fd (fun y => l - 1 ≤ cn C (x + 1) y) (x + 1)) (cn C (x + 1) (x + ((n + 1 : Nat) : Int) - 1)) (l - 1) with ⟨hp, e⟩ | ⟨hp, e⟩
        · rw [e, iT_t hp]; omega
        · rw [e, iT_f hp]; omega
    · rw [bI_f hcx]
      have ef := fd_cut (P := C) (a := x) (b := x + 1) (n := l) (by omega) (by rw [show x + 1 - 1 = x by omega, cn_one, bI_f hcx]; omega)
      rw [show x + 1 - 1 = x by omega, cn_one, bI_f hcx, Int.sub_zero] at ef
      rw [iT_f (p := plenF R i q - l + 0 = plenF R i q ∧ court R x ∧ ¬ stopd R (R (139 + 16 * i)) (R (140 + 16 * i)) x) (fun z => absurd z.1 (by omega)), ef, show plenF R i q - l + 0 = plenF R i q - l by omega, ih (x + 1) l (by omega) (by omega) (by omega) (by omega), show x + 1 + (n : Int) - 1 = x + ((n + 1 : Nat) : Int) - 1 by omega, ecn (x + ((n + 1 : Nat) : Int) - 1) (by omega), bI_f hcx, Int.zero_add, Int.zero_add]
theorem wk_rng {R : rW} {i : Int} : ∀ (n : Nat) (x q c : Int), 0 ≤ wk R i n x q c ∧ wk R i n x q c ≤ n
  | 0, x, q, c => ⟨Int.le_refl _, Int.le_refl _⟩
  | n + 1, x, q, c => by
    rw [wk_s]
    split
    · omega
    · have hb := @bI_rng (cnts R i x q c)
      have h1 := wk_rng n (x + 1) (q + 1) 0 (R := R) (i := i)
      have h2 := wk_rng n (x + 1) q (c + bI (cnts R i x q c)) (R := R) (i := i)
      rcases iT_or (p := c + bI (cnts R i x q c) = plenF R i q ∧ court R x ∧ ¬ stopd R (R (139 + 16 * i)) (R (140 + 16 * i)) x) (wk R i n (x + 1) (q + 1) 0) (wk R i n (x + 1) q (c + bI (cnts R i x q c))) with ⟨_, e⟩ | ⟨_, e⟩ <;> rw [e] <;> omega
theorem l_countedUntil {i : Int} {R : rW} {g : mG} {d : mD} {Q : mQ} (hC : CI d R) (hi : 0 ≤ i ∧ i < R 3) (hG : RG d R (R (139 + 16 * i)) (R (140 + 16 * i))) : ∀ (m : Nat) (acc x q : Int), 0 ≤ q → q + m = partsF R i → 0 ≤ x ∧ x ≤ 5001 → 0 ≤ acc ∧ acc ≤ x → Q (.inl (acc + wk R i (R 0 + 1 - x).toNat x q 0)) g d → pX10_countedUntil_d_1 i (R 0) acc x q g d Q := by
  have hR := hC.w
  have h3 := hR.n.2.2.2.1
  have h0 := hR.n.1
  have hp := parts_rng hR hi
  have hd := hR.dl hi
  unfold DLW at hd
  have hdl := hC.dl.2 i hi
  unfold DLS at hdl
  obtain ⟨-, -, e19, e20, e21, e22, -⟩ := hdl
  intro m
  induction m with
  | zero =>
    intro acc x q hq hm hx ha h
    refine aX10_countedUntil_d_1 (R := R) (gp := R (139 + 16 * i)) (gr := R (140 + 16 * i)) ⟨by omega, fun c => absurd (by omega) c.1, fun _ => ?_⟩
    have e : wk R i (R 0 + 1 - x).toNat x q 0 = 0 := by
      cases (R 0 + 1 - x).toNat with
      | zero => rfl
      | succ n => rw [wk_s, if_pos (by omega)]
    rw [e, Int.add_zero] at h
    exact h
  | succ m ih =>
    intro acc x q hq hm hx ha h
    have hl := plen_rng hR hi (q := q) (by omega)
    refine aX10_countedUntil_d_1 (R := R) (gp := R (139 + 16 * i)) (gr := R (140 + 16 * i)) ⟨by omega, fun c => ?_, fun c => ?_⟩
    · have hw := wk_part (R := R) (i := i) (q := q) (by omega) hd.2.2.2.2.1 (R 0 + 1 - x).toNat x (plenF R i q) hx.1 (by omega) hl.1 (Int.le_refl _)
      rw [Int.sub_self, show x + ((R 0 + 1 - x).toNat : Int) - 1 = R 0 by omega] at hw
      rw [e22 q (by omega), e20, ic_eq hd.2.2.2.2.1]
      rw [hw, ← Int.add_assoc] at h
      generalize hCd : Cc R (R (139 + 16 * i)) (R (140 + 16 * i)) (bI (q = 0 ∧ R (143 + 16 * i) = 1)) = C at *
      have s := fd_spec (P := fun y => plenF R i q ≤ cn C x y) (a := x) (by omega)
      generalize hF : fd (fun y => plenF R i q ≤ cn C x y) x = F at *
      have s2 := (fd_spec (P := fun x => court R x ∧ ¬ stopd R (R (139 + 16 * i)) (R (140 + 16 * i)) x) (a := F) s.1.2).1
      have hcr : 0 ≤ iT (R 0 < F) (cn C x (R 0)) (plenF R i q) ∧ iT (R 0 < F) (cn C x (R 0)) (plenF R i q) ≤ F - x + 1 := by
        rcases iT_or (p := R 0 < F) (cn C x (R 0)) (plenF R i q) with ⟨hz, e⟩ | ⟨hz, e⟩
        · rw [e]
          have := cn_rng (P := C) (a := x) (b := R 0) (by omega)
          omega
        · rw [e]
          have h5 := s.2.2 (by omega)
          have := cn_rng (P := C) (a := x) (b := F) (by omega)
          omega
      refine ⟨ik (by omega), ik (by omega), by omega, fun _ => by omega, hC, hG, by omega, hl, fun _ => by omega, ik (by omega), by omega, ik (by omega), ik (by omega), ih _ _ (q + 1) (by omega) (by omega) (by omega) (by omega) ?_⟩
      rw [show R 0 + 1 - (fd (fun x => court R x ∧ ¬ stopd R (R (139 + 16 * i)) (R (140 + 16 * i)) x) F + 1) = R 0 - fd (fun x => court R x ∧ ¬ stopd R (R (139 + 16 * i)) (R (140 + 16 * i)) x) F by omega]
      exact h
    · rw [show (R 0 + 1 - x).toNat = 0 by omega, show wk R i 0 x q 0 = 0 from rfl, Int.add_zero] at h
      exact h
theorem f_countedUntilW {x2 x3 : Int} {R : rW} {g : mG} {d : mD} {Q : mQ} (h : CI d R ∧ (0 ≤ x2 ∧ x2 < R 3) ∧ x3 = R 0 ∧ ∀ d', FrW d d' → Q (.inl (ctF R x2)) g d') : MM mX10_countedUntil [vR 53, vR 16, vI x2, vI x3] g d Q := by
  obtain ⟨hC, hi, rfl, hq⟩ := h
  have hR := hC.w
  have h3 := hR.n.2.2.2.1
  have h0 := hR.n.1
  have hp := parts_rng hR hi
  have hd := hR.dl hi
  unfold DLW at hd
  have hdl := hC.dl.2 x2 hi
  unfold DLS at hdl
  refine eX10_countedUntil_d (f_takeStays_d hC hi (fun d' hf hG => ?_))
  show (0 ≤ x2 ∧ x2 < 30) ∧ (iI (d' 19 x2 + 1) ∧ pX10_countedUntil_d_1 x2 (R 0) 0 (d' 19 x2 + 1) 0 g d' Q)
  rw [hf (show ¬ ((19 : Int) = 54 ∨ (19 : Int) = 55 ∨ ((19 : Int) = 53 ∧ x2 = 4)) by omega), hdl.2.2.1]
  refine ⟨by omega, ik (by omega), l_countedUntil (hC.frW hf) hi hG (partsF R x2).toNat 0 _ 0 (by omega) (by omega) (by omega) (by omega) ?_⟩
  rw [Int.zero_add, show R 0 + 1 - (R (141 + 16 * x2) + 1) = R 0 - R (141 + 16 * x2) by omega]
  exact hq d' hf
theorem cn_iv {l h a b : Int} (hab : a ≤ b) : cn (fun x => l ≤ x ∧ x ≤ h) a b = max 0 (min b h - max a l + 1) := by
  by_cases hc : max a l ≤ min b h
  · rw [cn_split (P := fun x => l ≤ x ∧ x ≤ h) (a := a) (m := min b h) (b := b) (by omega) (by omega), cn_split (P := fun x => l ≤ x ∧ x ≤ h) (a := a) (m := max a l - 1) (b := min b h) (by omega) (by omega), cn_none (a := a) (b := max a l - 1) (fun x q1 q2 q3 => by omega), cn_none (a := min b h + 1) (b := b) (fun x q1 q2 q3 => by omega), cn_all (a := max a l - 1 + 1) (b := min b h) (by omega) (fun x q1 q2 => by omega)]
    omega
  · rw [cn_none (fun x q1 q2 q3 => by omega)]
    omega
theorem cn_or {P Q : Int → Prop} {a b : Int} (h : ∀ x, a ≤ x → x ≤ b → P x → Q x → False) : cn (fun x => P x ∨ Q x) a b = cn P a b + cn Q a b := by
  have key : ∀ (n : Nat) (a : Int), (∀ x, a ≤ x → x < a + n → P x → Q x → False) → cnN (fun x => P x ∨ Q x) n a = cnN P n a + cnN Q n a := by
    intro n
    induction n with
    | zero => intro a _; rfl
    | succ n ih =>
      intro a h
      show bI (P a ∨ Q a) + cnN _ n (a + 1) = bI (P a) + cnN P n (a + 1) + (bI (Q a) + cnN Q n (a + 1))
      rw [ih (a + 1) (fun x h1 h2 => h x (by omega) (by omega))]
      have hb : bI (P a ∨ Q a) = bI (P a) + bI (Q a) := by
        by_cases hp : P a
        · rw [bI_t (Or.inl hp), bI_t hp, bI_f (fun hq => h a (by omega) (by omega) hp hq)]; rfl
        · by_cases hq : Q a
          · rw [bI_t (Or.inr hq), bI_f hp, bI_t hq]; rfl
          · rw [bI_f (fun z => z.elim hp hq), bI_f hp, bI_f hq]; rfl
      omega
  exact key _ a (fun x h1 h2 => h x h1 (by omega))
theorem l_countStopped {i a b p r : Int} {R : rW} {g : mG} {d : mD} {Q : mQ} (hG : RG d R p r) (hab : 0 ≤ a ∧ a ≤ b ∧ b ≤ 4999) (h : Q (.inl (cn (stopd R p r) a b)) g d) : ∀ (m : Nat) (k : Int), 0 ≤ k → k + m = d 53 4 → pX10_countStopped_d_1 i a b (cn (fun x => ∃ j, (0 ≤ j ∧ j < k) ∧ d 54 j ≤ x ∧ x ≤ d 55 j) a b) k g d Q := by
  obtain ⟨h1, h2, h3, h4⟩ := id hG
  intro m
  induction m with
  | zero =>
    intro k hk hm
    rw [cn_cg (Q := fun x => ∃ j, (0 ≤ j ∧ j < k) ∧ d 54 j ≤ x ∧ x ≤ d 55 j) (fun x q1 q2 => by rw [h4 x (by omega), show d 53 4 = k by omega])] at h
    exact aX10_countStopped_d_1 ⟨fun _ => h, fun c => absurd (by omega) c⟩
  | succ m ih =>
    intro k hk hm
    have hr := h2 k (by omega)
    have e : cn (fun x => ∃ j, (0 ≤ j ∧ j < k + 1) ∧ d 54 j ≤ x ∧ x ≤ d 55 j) a b = cn (fun x => ∃ j, (0 ≤ j ∧ j < k) ∧ d 54 j ≤ x ∧ x ≤ d 55 j) a b + max 0 (min b (d 55 k) - max a (d 54 k) + 1) := by
      rw [← cn_iv hab.2.1, ← cn_or (fun x q1 q2 q3 q4 => ?_)]
      · refine cn_cg (fun x q1 q2 => ?_)
        constructor
        · rintro ⟨j, hj, hx⟩
          by_cases hjk : j = k
          · exact Or.inr (hjk ▸ hx)
          · exact Or.inl ⟨j, by omega, hx⟩
        · rintro (⟨j, hj, hx⟩ | hx)
          · exact ⟨j, by omega, hx⟩
          · exact ⟨k, by omega, hx⟩
      · obtain ⟨j, hj, hx⟩ := q3
        have := hG.lt (k - j - 1).toNat j hj.1 (by omega)
        rw [show j + 1 + ((k - j - 1).toNat : Int) = k by omega] at this
        omega
    have c1 := cn_rng (P := fun x => ∃ j, (0 ≤ j ∧ j < k) ∧ d 54 j ≤ x ∧ x ≤ d 55 j) (a := a) (b := b) (by omega)
    have t := ih (k + 1) (by omega) (by omega)
    rw [e] at t
    exact aX10_countStopped_d_1 ⟨fun c => absurd c (by omega), fun c => ⟨by omega, ik (by omega), ik (by omega), ik (by omega), ik (by omega), t⟩⟩
theorem f_countStoppedW {x2 x3 x4 : Int} {R : rW} {g : mG} {d : mD} {Q : mQ} (h : CI d R ∧ (0 ≤ x2 ∧ x2 < R 3) ∧ (0 ≤ x3 ∧ x3 ≤ x4) ∧ x4 ≤ 4999 ∧ ∀ d', FrW d d' → Q (.inl (cn (stopd R (R (139 + 16 * x2)) (R (140 + 16 * x2))) x3 x4)) g d') : MM mX10_countStopped [vR 53, vR 16, vI x2, vI x3, vI x4] g d Q := by
  obtain ⟨hC, hi, h3, h4, hq⟩ := h
  refine eX10_countStopped_d (f_takeStays_d hC hi (fun d' hf hG => ?_))
  have t := l_countStopped (i := x2) hG ⟨h3.1, h3.2, h4⟩ (hq d' hf) (d' 53 4).toNat 0 (by omega) (by have := hG.1; omega)
  rw [cn_none (fun x q1 q2 q3 => by obtain ⟨j, hj, -⟩ := q3; omega)] at t
  exact t
