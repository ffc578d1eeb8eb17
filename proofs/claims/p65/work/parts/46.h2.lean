-- the class: counting
theorem l_countOpen {g : mG} {d : mD} {Q : mQ} : ∀ (m : Nat) (acc k : Int), 0 ≤ k → 0 ≤ acc → acc ≤ k → d 16 11 = k + m → d 16 11 ≤ 30 → Q (.inl (acc + cnN (fun i => d 27 i = 111) m k)) g d → pX2_countOpen_1 acc k g d Q := by
  intro m
  induction m with
  | zero =>
    intro acc k hk ha hak hn h30 h
    rw [show acc + cnN (fun i => d 27 i = 111) 0 k = acc from Int.add_zero _] at h
    exact aX2_countOpen_1 ⟨fun _ => h, fun c => absurd (by omega) c⟩
  | succ m ih =>
    intro acc k hk ha hak hn h30 h
    have hb := @bI_rng (d 27 k = 111)
    rw [show acc + cnN (fun i => d 27 i = 111) (m + 1) k = acc + bI (d 27 k = 111) + cnN (fun i => d 27 i = 111) m (k + 1) from (Int.add_assoc _ _ _).symm] at h
    exact aX2_countOpen_1 ⟨fun c => absurd c (by omega), fun c => ⟨by omega, ik (by omega), ik (by omega), ih _ (k + 1) (by omega) (by omega) (by omega) (by omega) h30 h⟩⟩
theorem f_countOpen {g : mG} {d : mD} {Q : mQ} (h : (0 ≤ d 16 11 ∧ d 16 11 ≤ 30) ∧ Q (.inl (nuF (fun i => d 27 i = 111) (d 16 11))) g d) : MM mX2_countOpen [vR 16] g d Q := by
  obtain ⟨h1, h2⟩ := h
  rw [nuF_eq] at h2
  refine eX2_countOpen (l_countOpen (d 16 11).toNat 0 0 (by omega) (by omega) (by omega) (by omega) h1.2 ?_)
  rw [Int.zero_add]
  exact h2
theorem l_countInForce {g : mG} {d : mD} {Q : mQ} : ∀ (m : Nat) (acc k : Int), 0 ≤ k → 0 ≤ acc → acc ≤ k → d 28 4 = k + m → d 28 4 ≤ 12 → Q (.inl (acc + cnN (fun i => d 32 i = 4999) m k)) g d → pX8_countInForce_1 acc k g d Q := by
  intro m
  induction m with
  | zero =>
    intro acc k hk ha hak hn h30 h
    rw [show acc + cnN (fun i => d 32 i = 4999) 0 k = acc from Int.add_zero _] at h
    exact aX8_countInForce_1 ⟨fun _ => h, fun c => absurd (by omega) c⟩
  | succ m ih =>
    intro acc k hk ha hak hn h30 h
    have hb := @bI_rng (d 32 k = 4999)
    rw [show acc + cnN (fun i => d 32 i = 4999) (m + 1) k = acc + bI (d 32 k = 4999) + cnN (fun i => d 32 i = 4999) m (k + 1) from (Int.add_assoc _ _ _).symm] at h
    exact aX8_countInForce_1 ⟨fun c => absurd c (by omega), fun c => ⟨by omega, ik (by omega), ik (by omega), ih _ (k + 1) (by omega) (by omega) (by omega) (by omega) h30 h⟩⟩
theorem f_countInForce {g : mG} {d : mD} {Q : mQ} (h : (0 ≤ d 28 4 ∧ d 28 4 ≤ 12) ∧ Q (.inl (nuF (fun i => d 32 i = 4999) (d 28 4))) g d) : MM mX8_countInForce [vR 28] g d Q := by
  obtain ⟨h1, h2⟩ := h
  rw [nuF_eq] at h2
  refine eX8_countInForce (l_countInForce (d 28 4).toNat 0 0 (by omega) (by omega) (by omega) (by omega) h1.2 ?_)
  rw [Int.zero_add]
  exact h2
theorem l_countGroups {g : mG} {d : mD} {Q : mQ} : ∀ (m : Nat) (acc k : Int), 0 ≤ k → 0 ≤ acc → acc ≤ k → d 34 11 = k + m → d 34 11 ≤ 8 → Q (.inl (acc + cnN (fun i => d 47 i = i) m k)) g d → pX1_countGroups_1 acc k g d Q := by
  intro m
  induction m with
  | zero =>
    intro acc k hk ha hak hn h30 h
    rw [show acc + cnN (fun i => d 47 i = i) 0 k = acc from Int.add_zero _] at h
    exact aX1_countGroups_1 ⟨fun _ => h, fun c => absurd (by omega) c⟩
  | succ m ih =>
    intro acc k hk ha hak hn h30 h
    have hb := @bI_rng (d 47 k = k)
    rw [show acc + cnN (fun i => d 47 i = i) (m + 1) k = acc + bI (d 47 k = k) + cnN (fun i => d 47 i = i) m (k + 1) from (Int.add_assoc _ _ _).symm] at h
    exact aX1_countGroups_1 ⟨fun c => absurd c (by omega), fun c => ⟨by omega, ik (by omega), ik (by omega), ih _ (k + 1) (by omega) (by omega) (by omega) (by omega) h30 h⟩⟩
theorem f_countGroups {g : mG} {d : mD} {Q : mQ} (h : (0 ≤ d 34 11 ∧ d 34 11 ≤ 8) ∧ Q (.inl (nuF (fun i => d 47 i = i) (d 34 11))) g d) : MM mX1_countGroups [vR 33] g d Q := by
  obtain ⟨h1, h2⟩ := h
  rw [nuF_eq] at h2
  refine eX1_countGroups (l_countGroups (d 34 11).toNat 0 0 (by omega) (by omega) (by omega) (by omega) h1.2 ?_)
  rw [Int.zero_add]
  exact h2
theorem f_isCourtC {x1 : Int} {R : rW} {g : mG} {d : mD} {Q : mQ} (h : CI d R ∧ 0 ≤ x1 ∧ Q (.inl (bI (court R x1))) g d) : MM mX0_isCourt [vR 10, vI x1] g d Q := by
  refine eX0_isCourt ⟨h.2.1, fun _ => h.1, ?_⟩
  rw [bI_cg (q := court R x1) ⟨fun q => ⟨by omega, q.2⟩, fun q => ⟨by have := q.1; omega, q.2⟩⟩]
  exact h.2.2
-- court days by whole weeks
theorem l_countCourt1 {x1 x2 x3 : Int} {g : mG} {d : mD} {Q : mQ} (h1 : 0 ≤ x1 ∧ x2 ≤ 4999) : ∀ (m : Nat) (acc x : Int), 0 ≤ x → x + m = x2 + 1 → 0 ≤ acc → acc + m ≤ 10000 → pX0_countCourt_2 x1 x2 x3 (acc + cnN (fun x => x % 7 < 5) m x) 0 g d Q → pX0_countCourt_1 x1 x2 x3 acc x g d Q := by
  intro m
  induction m with
  | zero =>
    intro acc x hx hm ha hb h
    rw [show acc + cnN (fun x => x % 7 < 5) 0 x = acc from Int.add_zero _] at h
    exact aX0_countCourt_1 ⟨fun _ => h, fun c => absurd (by omega) c⟩
  | succ m ih =>
    intro acc x hx hm ha hb h
    have e : bI (¬ (5 ≤ x % 7)) = bI (x % 7 < 5) := bI_cg ⟨fun q => by omega, fun q => by omega⟩
    have hr := @bI_rng (x % 7 < 5)
    rw [show acc + cnN (fun x => x % 7 < 5) (m + 1) x = acc + bI (x % 7 < 5) + cnN (fun x => x % 7 < 5) m (x + 1) from (Int.add_assoc _ _ _).symm] at h
    refine aX0_countCourt_1 ⟨fun c => absurd c (by omega), fun c => ?_⟩
    rw [e]
    exact ⟨hx, ik (by omega), ik (by omega), ih _ (x + 1) (by omega) (by omega) (by omega) (by omega) h⟩
theorem l_countCourt2 {x1 x2 x3 : Int} {R : rW} {g : mG} {d : mD} {Q : mQ} (hR : RW R) (hS : SCal d R) (hx : 0 ≤ x1 ∧ x1 ≤ x2 ∧ x2 ≤ 4999) : ∀ (m : Nat) (k : Int), 0 ≤ k → k + m = R 2 → Q (.inl (cn (court R) x1 x2)) g d → pX0_countCourt_2 x1 x2 x3 (cn (crtK R k) x1 x2) k g d Q := by
  have h2 := hR.n.2.2.1
  obtain ⟨-, hc, hd⟩ := hS
  intro m
  induction m with
  | zero =>
    intro k hk hm h
    rw [cn_cg (Q := crtK R k) (fun x _ _ => by rw [court_K h2.2, show R 2 = k by omega])] at h
    exact aX0_countCourt_2 ⟨fun _ => h, fun c => absurd (by omega) c⟩
  | succ m ih =>
    intro k hk hm h
    have e := hd k (by omega)
    have hh := hR.hd.1 k (by omega)
    have hr := cn_rng (P := crtK R k) (a := x1) (b := x2) (by omega)
    have hdel : cn (crtK R (k + 1)) x1 x2 = cn (crtK R k) x1 x2 - bI (x1 ≤ R (79 + k) ∧ R (79 + k) ≤ x2 ∧ crtK R k (R (79 + k))) := by
      refine cn_del (fun x => ⟨fun q => ⟨⟨q.1, fun j h3 h4 => q.2 j h3 (by omega)⟩, fun z => q.2 k hk (by omega) z.symm⟩, fun q => ⟨q.1.1, fun j h3 h4 => ?_⟩⟩)
      by_cases hj : j = k
      · rw [hj]; exact fun z => q.2 z.symm
      · exact q.1.2 j h3 (by omega)
    have eb : bI ((¬ (d 11 k < x1)) ∧ ((¬ (x2 < d 11 k)) ∧ (¬ (5 ≤ (d 11 k) % 7)))) = bI (x1 ≤ R (79 + k) ∧ R (79 + k) ≤ x2 ∧ crtK R k (R (79 + k))) := by
      rw [e]
      exact bI_cg ⟨fun q => ⟨by omega, by omega, by omega, fun j h3 h4 => hR.hd.2 j k h3 h4 (by omega)⟩, fun q => ⟨by omega, by omega, by have := q.2.2.1; omega⟩⟩
    refine aX0_countCourt_2 ⟨fun c => absurd c (by omega), fun c => ?_⟩
    have hb := @bI_rng (x1 ≤ R (79 + k) ∧ R (79 + k) ≤ x2 ∧ crtK R k (R (79 + k)))
    rw [eb]
    refine ⟨by omega, fun _ _ => by omega, ik (by omega), ik (by omega), ?_⟩
    have t := ih (k + 1) (by omega) (by omega) h
    rw [hdel] at t
    exact t
theorem f_countCourt {x1 x2 : Int} {R : rW} {g : mG} {d : mD} {Q : mQ} (h : CI d R ∧ (0 ≤ x1 ∧ x1 ≤ 5001) ∧ (-1 ≤ x2 ∧ x2 ≤ 4999) ∧ Q (.inl (cn (court R) x1 x2)) g d) : MM mX0_countCourt [vR 10, vI x1, vI x2] g d Q := by
  obtain ⟨hC, h1, h2, hq⟩ := h
  refine eX0_countCourt ⟨fun c => ⟨ik (by omega), ik (by omega), by omega, ik (by omega), ik (by omega), ik (by omega), ?_⟩, fun c => ?_⟩
  · have hw : (x2 - x1 + 1) / 7 * 7 ≤ x2 - x1 + 1 := by omega
    refine l_countCourt1 (by omega) (x2 + 1 - (x1 + ((x2 - x1 + 1) / 7 * 7))).toNat _ _ (by omega) (by omega) (by omega) (by omega) ?_
    have e : (x2 - x1 + 1) / 7 * 5 + cnN (fun x => x % 7 < 5) (x2 + 1 - (x1 + ((x2 - x1 + 1) / 7 * 7))).toNat (x1 + ((x2 - x1 + 1) / 7 * 7)) = cn (crtK R 0) x1 x2 := by
      rw [cn_cg (P := crtK R 0) (Q := fun x => x % 7 < 5) (fun x _ _ => ⟨fun q => q.1, fun q => ⟨q, fun j h3 h4 => absurd h3 (by omega)⟩⟩)]
      unfold cn
      rw [show (x2 - x1 + 1).toNat = 7 * ((x2 - x1 + 1) / 7).toNat + (x2 + 1 - (x1 + ((x2 - x1 + 1) / 7 * 7))).toNat by omega, cnN_add, wks, show x1 + ((7 * ((x2 - x1 + 1) / 7).toNat : Nat) : Int) = x1 + ((x2 - x1 + 1) / 7 * 7) by omega]
      omega
    rw [e]
    exact l_countCourt2 hC.w hC.cal (by omega) (R 2).toNat 0 (by omega) (by have := hC.w.n.2.2.1; omega) hq
  · rw [cn_empty (by omega)] at hq
    exact hq
-- names
theorem l_isNamed {p len : Int} {R : rW} {g : mG} {d : mD} {Q : mQ} (hR : RWn R) (hS : SPar d R) (hp : 0 ≤ p ∧ p < R 1) (hl : R (7 + 9 * p) = len) (h8 : len ≤ 8) (h : Q (.inl (bI (nmd R (d 5) p len))) g d) : ∀ (m : Nat) (k : Int), 0 ≤ k → k + m = len → (∀ j, 0 ≤ j ∧ j < k → R (8 + 9 * p + j) = d 5 j) → pX5_isNamed_1 p len k g d Q := by
  have h1 := hR.2.1
  have hd := (hS.2 p hp).2
  intro m
  induction m with
  | zero =>
    intro k hk hm hj
    refine aX5_isNamed_1 ⟨fun c => ?_, fun c => absurd (by omega) c⟩
    rw [bI_t ⟨hl, fun j h3 => hj j (by omega)⟩] at h
    exact h
  | succ m ih =>
    intro k hk hm hj
    have e := hd k (by omega)
    refine aX5_isNamed_1 ⟨fun c => absurd c (by omega), fun c => ⟨ik (by omega), ik (by omega), by omega, by omega, fun c2 => ⟨ik (by omega), ih (k + 1) (by omega) (by omega) (fun j h3 => ?_)⟩, fun c2 => ?_⟩⟩
    · by_cases hjk : j = k
      · rw [hjk, ← e]; exact c2
      · exact hj j (by omega)
    · rw [bI_f (fun q => c2 (by rw [e]; exact q.2 k (by omega)))] at h
      exact h
theorem f_isNamed {x1 x3 : Int} {R : rW} {g : mG} {d : mD} {Q : mQ} (h : CI d R ∧ (0 ≤ x1 ∧ x1 < R 1) ∧ (0 ≤ x3 ∧ x3 ≤ 8) ∧ Q (.inl (bI (nmd R (d 5) x1 x3))) g d) : MM mX5_isNamed [vR 7, vI x1, vR 5, vI x3] g d Q := by
  obtain ⟨hC, h1, h3, hq⟩ := h
  have hn := hC.w.n.2.1
  have e := (hC.par.2 x1 h1).1
  refine eX5_isNamed ⟨by omega, fun c => ?_, fun c => ?_⟩
  · exact l_isNamed hC.w.n hC.par h1 (by omega) h3.2 hq x3.toNat 0 (by omega) (by omega) (fun j hj => absurd hj (by omega))
  · rw [bI_f (fun q => c (by rw [e]; exact q.1))] at hq
    exact hq
-- sums of parts
theorem sum_rng {R : rW} (h : RW R) {i : Int} (hi : 0 ≤ i ∧ i < R 3) : ∀ n : Nat, (n : Int) ≤ partsF R i → n ≤ sumN R i n ∧ sumN R i n ≤ 200 * n := by
  intro n
  induction n with
  | zero => intro _; exact ⟨by simp [sumN], by simp [sumN]⟩
  | succ n ih =>
    intro hn
    have := ih (by omega)
    have h2 := plen_rng h hi (q := n) (by omega)
    have e : sumN R i (n + 1) = sumN R i n + plenF R i n := rfl
    omega
theorem l_sumOfParts {i : Int} {R : rW} {g : mG} {d : mD} {Q : mQ} (hR : RW R) (hS : SDl d R) (hi : 0 ≤ i ∧ i < R 3) (h : Q (.inl (sumF R i)) g d) : ∀ m k : Nat, (k : Int) + m = partsF R i → pX2_sumOfParts_1 i (sumN R i k) k g d Q := by
  have h3 := hR.n.2.2.2.1
  have hp := parts_rng hR hi
  have hd := hS.2 i hi
  unfold DLS at hd
  obtain ⟨-, -, -, -, h21, h22, -⟩ := hd
  intro m
  induction m with
  | zero =>
    intro k hk
    refine aX2_sumOfParts_1 ⟨by omega, fun c => ?_, fun c => absurd (by omega) c⟩
    have e : sumF R i = sumN R i k := by
      unfold sumF
      rw [show (partsF R i).toNat = k by omega]
    rw [e] at h
    exact h
  | succ m ih =>
    intro k hk
    have hg := sum_rng hR hi (k + 1) (by omega)
    have hg0 := sum_rng hR hi k (by omega)
    have e : sumN R i (k + 1) = sumN R i k + plenF R i k := rfl
    have e2 := h22 k (by omega)
    refine aX2_sumOfParts_1 ⟨by omega, fun c => absurd c (by omega), fun c => ?_⟩
    rw [e2]
    refine ⟨ik (by omega), ik (by omega), by omega, ik (by omega), ik (by omega), ?_⟩
    have t := ih (k + 1) (by omega)
    rw [e] at t
    exact t
theorem f_sumOfParts {x1 : Int} {R : rW} {g : mG} {d : mD} {Q : mQ} (h : CI d R ∧ (0 ≤ x1 ∧ x1 < R 3) ∧ Q (.inl (sumF R x1)) g d) : MM mX2_sumOfParts [vR 16, vI x1] g d Q :=
  eX2_sumOfParts (l_sumOfParts h.1.w h.1.dl h.2.1 h.2.2 (partsF R x1).toNat 0 (by have := parts_rng h.1.w h.2.1; omega))
-- effective days
-- the model's groups
theorem pow8 {x : Int} (h : 0 ≤ x ∧ x < 8) : 1 ≤ (2 : Int) ^ x.toNat ∧ (2 : Int) ^ x.toNat ≤ 128 := by
  rcases (show x = 0 ∨ x = 1 ∨ x = 2 ∨ x = 3 ∨ x = 4 ∨ x = 5 ∨ x = 6 ∨ x = 7 by omega) with rfl | rfl | rfl | rfl | rfl | rfl | rfl | rfl <;> decide
theorem nOr_nn {a b : Int} : 0 ≤ nOr a b := Int.natCast_nonneg _
theorem cdI_nn {R : rW} : ∀ (n : Nat) (k s : Int), 0 ≤ s → 0 ≤ cdI R n k s
  | 0, _, _, h => h
  | n + 1, k, s, h => by
    show 0 ≤ if R 5 ≤ k then s else _
    split
    · exact h
    · exact cdI_nn n _ _ nOr_nn
-- what is remembered
def cpK (d : mD) (r : Int) (src : rW) (k : Int) : mD := fun b j => if b = 68 ∧ r * 787 ≤ j ∧ j < r * 787 + k then src (j - r * 787) else d b j
theorem cpK_s {d : mD} {r : Int} {src : rW} {k : Int} (hk : 0 ≤ k) : ud (cpK d r src k) 68 (r * 787 + k) (src k) = cpK d r src (k + 1) := by
  funext b j
  unfold ud cpK
  by_cases h1 : b = 68 ∧ j = r * 787 + k
  · rw [if_pos h1, if_pos (by omega), show j - r * 787 = k by omega]
  · rw [if_neg h1]
    by_cases h2 : b = 68 ∧ r * 787 ≤ j ∧ j < r * 787 + k
    · rw [if_pos h2, if_pos (by omega)]
    · rw [if_neg h2, if_neg (by omega)]
theorem cpK_n {d : mD} {r : Int} {src : rW} {k b j : Int} (h : b ≠ 68) : cpK d r src k b j = d b j := if_neg (fun q => h q.1)
theorem cpK_0 {d : mD} {r : Int} {src : rW} : cpK d r src 0 = d := by
  funext b j
  exact if_neg (fun q => by omega)
