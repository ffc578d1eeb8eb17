-- readers
theorem RW.p {R : rW} (h : RW R) : RWp R := h.2.1
theorem RW.hd {R : rW} (h : RW R) : RWh R := h.2.2.1
theorem RW.r {R : rW} (h : RW R) : RWr R := h.2.2.2.1
theorem RW.dl {R : rW} (h : RW R) {i : Int} (hi : 0 ≤ i ∧ i < R 3) : DLW R i := h.2.2.2.2.1 i hi
theorem RW.s {R : rW} (h : RW R) : RWs R := h.2.2.2.2.2.1
theorem RW.o {R : rW} (h : RW R) : RWo R := h.2.2.2.2.2.2.1
theorem RW.c {R : rW} (h : RW R) {c : Int} (hc : 0 ≤ c ∧ c < R 6) : CLW R c := h.2.2.2.2.2.2.2 c hc
theorem CI.w {d : mD} {R : rW} (h : CI d R) : RW R := h.1
theorem CI.cal {d : mD} {R : rW} (h : CI d R) : SCal d R := h.2.1
theorem CI.par {d : mD} {R : rW} (h : CI d R) : SPar d R := h.2.2.1
theorem CI.rul {d : mD} {R : rW} (h : CI d R) : SRul d R := h.2.2.2.1
theorem CI.dl {d : mD} {R : rW} (h : CI d R) : SDl d R := h.2.2.2.2.1
theorem CI.st {d : mD} {R : rW} (h : CI d R) : SSt d R := h.2.2.2.2.2.1
theorem CI.oc {d : mD} {R : rW} (h : CI d R) : SOc d R := h.2.2.2.2.2.2.1
theorem CI.cm {d : mD} {R : rW} (h : CI d R) : SCm d R := h.2.2.2.2.2.2.2
theorem ex_step {P : Int → Prop} {k m : Int} (h : ¬ P k) : (∃ j, k ≤ j ∧ j < m ∧ P j) ↔ ∃ j, k + 1 ≤ j ∧ j < m ∧ P j := by
  constructor
  · rintro ⟨j, a, b, c⟩
    refine ⟨j, ?_, b, c⟩
    have : j ≠ k := fun q => h (q ▸ c)
    omega
  · rintro ⟨j, a, b, c⟩
    exact ⟨j, by omega, b, c⟩
-- the model: court days, stopped days
theorem f_isCourt {x1 : Int} {g : mG} {d : mD} {Q : mQ} (h : RW (d 66) ∧ 0 ≤ x1 ∧ Q (.inl (bI (court (d 66) x1))) g d) : MM mX12_isCourt [vR 65, vI x1] g d Q := by
  refine eX12_isCourt ⟨h.2.1, fun _ => h.1, ?_⟩
  rw [bI_cg (q := court (d 66) x1) ⟨fun q => ⟨by omega, q.2⟩, fun q => ⟨by have := q.1; omega, q.2⟩⟩]
  exact h.2.2
theorem l_isStoppedFor {p r x : Int} {g : mG} {d : mD} {Q : mQ} (hR : RW (d 66)) (hr : 0 ≤ r ∧ r < 8) : ∀ (n : Nat) (k : Int), 0 ≤ k → d 66 4 ≤ k + n → Q (.inl (bI (∃ j, k ≤ j ∧ j < d 66 4 ∧ hits (d 66) p r x j))) g d → pX12_isStoppedFor_1 p r x k g d Q := by
  have h4 := hR.n.2.2.2.2.1
  intro n
  induction n with
  | zero =>
    intro k hk hn h
    rw [bI_f (by rintro ⟨j, a, b, -⟩; omega)] at h
    exact aX12_isStoppedFor_1 ⟨fun _ => h, fun c => absurd (by omega) c⟩
  | succ n ih =>
    intro k hk hn h
    refine aX12_isStoppedFor_1 ⟨fun c => ?_, fun c => ?_⟩
    · rw [bI_f (by rintro ⟨j, a, b, -⟩; omega)] at h
      exact h
    · have hs := hR.s.1 k (by omega)
      unfold STW at hs
      have go : ¬ hits (d 66) p r x k → iI (k + 1) ∧ pX12_isStoppedFor_1 p r x (k + 1) g d Q := by
        intro nh
        rw [bI_cg (ex_step nh)] at h
        exact ⟨ik (by omega), ih (k + 1) (by omega) (by omega) h⟩
      refine ⟨ik (by omega), ik (by omega), by omega, fun c1 => ?_, fun c1 => go (fun q => c1 q.1)⟩
      refine ⟨ik (by omega), by omega, by omega, by omega, fun _ => ik (by omega), fun _ => by omega, fun _ _ => ik (by omega), fun _ _ => by omega, fun _ _ _ => ik (by omega), fun _ _ _ => by omega, fun c2 => ?_, fun c2 => go (fun q => c2 ?_)⟩
      · rw [bI_t ⟨k, by omega, by omega, c1, c2.1, by have := c2.2.1; omega, by have := c2.2.2; omega⟩] at h
        exact h
      · exact ⟨q.2.1, by have := q.2.2.1; omega, by have := q.2.2.2; omega⟩
theorem f_isStoppedFor {x1 x2 x3 : Int} {g : mG} {d : mD} {Q : mQ} (h : RW (d 66) ∧ (0 ≤ x2 ∧ x2 < 8) ∧ Q (.inl (bI (stopd (d 66) x1 x2 x3))) g d) : MM mX12_isStoppedFor [vR 65, vI x1, vI x2, vI x3] g d Q :=
  eX12_isStoppedFor (l_isStoppedFor h.1 h.2.1 12 0 (by omega) (by have := h.1.n.2.2.2.2.1; omega) h.2.2)
-- parts
theorem sv_rng (R : rW) (i : Int) : 0 ≤ svF R i ∧ svF R i ≤ 1 := bI_rng
theorem parts_rng {R : rW} (h : RW R) {i : Int} (hi : 0 ≤ i ∧ i < R 3) : 1 ≤ partsF R i ∧ partsF R i ≤ 7 := by
  have hd := h.dl hi
  unfold DLW at hd
  have := sv_rng R i
  unfold partsF
  omega
theorem plen_rng {R : rW} (h : RW R) {i q : Int} (hi : 0 ≤ i ∧ i < R 3) (hq : 0 ≤ q ∧ q < partsF R i) : 1 ≤ plenF R i q ∧ plenF R i q ≤ 200 := by
  have hd := h.dl hi
  unfold DLW at hd
  obtain ⟨-, -, -, h4, -, h6, -, -, -, h10, -, h12⟩ := hd
  unfold partsF at hq
  unfold plenF
  rcases iT_or (p := q = 0) (R (142 + 16 * i)) (iT (q - 1 - svF R i < 0) (R (144 + 16 * i)) (R (150 + 16 * i + (q - 1 - svF R i)))) with ⟨_, e⟩ | ⟨hq0, e⟩
  · rw [e]; exact h4
  · rw [e]
    have hs := bI_or (0 < R (144 + 16 * i))
    rcases iT_or (p := q - 1 - svF R i < 0) (R (144 + 16 * i)) (R (150 + 16 * i + (q - 1 - svF R i))) with ⟨hc, e2⟩ | ⟨hc, e2⟩
    · rw [e2]
      unfold svF at hc
      rcases hs with ⟨a, b⟩ | ⟨a, b⟩ <;> rw [b] at hc <;> omega
    · rw [e2]
      have := h12 (q - 1 - svF R i) ⟨by omega, by omega⟩
      omega
theorem sv_eq {R : rW} {i : Int} : bI (¬ (R (144 + 16 * i) ≤ 0)) = svF R i := bI_cg ⟨fun q => by omega, fun q => by omega⟩
theorem f_parts {x1 : Int} {g : mG} {d : mD} {Q : mQ} (h : RW (d 66) ∧ (0 ≤ x1 ∧ x1 < d 66 3) ∧ Q (.inl (partsF (d 66) x1)) g d) : MM mX12_parts [vR 65, vI x1] g d Q := by
  have h3 := h.1.n.2.2.2.1
  have hp := parts_rng h.1 h.2.1
  have hs := sv_rng (d 66) x1
  refine eX12_parts ?_
  rw [sv_eq]
  exact ⟨by omega, ik (by omega), ik (by unfold partsF at hp; omega), h.2.2⟩
theorem f_partLength {x1 x2 : Int} {g : mG} {d : mD} {Q : mQ} (h : RW (d 66) ∧ (0 ≤ x1 ∧ x1 < d 66 3) ∧ (0 ≤ x2 ∧ x2 < partsF (d 66) x1) ∧ Q (.inl (plenF (d 66) x1 x2)) g d) : MM mX12_partLength [vR 65, vI x1, vI x2] g d Q := by
  have h3 := h.1.n.2.2.2.1
  have hp := parts_rng h.1 h.2.1
  have hs := sv_rng (d 66) x1
  have hd := h.1.dl h.2.1
  unfold DLW at hd
  obtain ⟨hR, h1, h2, hq⟩ := h
  unfold partsF at h2 hp
  refine eX12_partLength ?_
  rw [sv_eq]
  refine ⟨ik (by omega), by omega, ik (by omega), fun _ _ => ik (by omega), fun _ _ => by omega, ?_⟩
  have e : iT (x2 = 0) (d 66 (142 + 16 * x1)) (iT (0 ≤ (x2 - 1) - svF (d 66) x1) (d 66 (139 + 16 * x1 + (11 + ((x2 - 1) - svF (d 66) x1)))) (d 66 (144 + 16 * x1))) = plenF (d 66) x1 x2 := by
    unfold plenF
    rw [show 139 + 16 * x1 + (11 + ((x2 - 1) - svF (d 66) x1)) = 150 + 16 * x1 + (x2 - 1 - svF (d 66) x1) by omega]
    by_cases hc : 0 ≤ (x2 - 1) - svF (d 66) x1
    · rw [iT_t hc, iT_f (p := x2 - 1 - svF (d 66) x1 < 0) (by omega)]
    · rw [iT_f hc, iT_t (p := x2 - 1 - svF (d 66) x1 < 0) (by omega)]
  rw [e]
  exact hq
-- what is granted
theorem gr_rng {R : rW} (h : RW R) {i : Int} (hi : 0 ≤ i ∧ i < R 3) : ∀ n : Nat, (n : Int) ≤ R (146 + 16 * i) → n ≤ grN R i n ∧ grN R i n ≤ 100 * n := by
  have hd := h.dl hi
  unfold DLW at hd
  obtain ⟨-, -, -, -, -, -, -, -, -, h10, -, h12⟩ := hd
  intro n
  induction n with
  | zero => intro _; exact ⟨by simp [grN], by simp [grN]⟩
  | succ n ih =>
    intro hn
    have := ih (by omega)
    have h2 := h12 n (by omega)
    have e : grN R i (n + 1) = grN R i n + R (150 + 16 * i + n) := rfl
    omega
theorem l_grantedOf {i : Int} {g : mG} {d : mD} {Q : mQ} (hR : RW (d 66)) (hi : 0 ≤ i ∧ i < d 66 3) (h : Q (.inl (grF (d 66) i)) g d) : ∀ m k : Nat, (k : Int) + m = d 66 (146 + 16 * i) → pX12_grantedOf_1 i (grN (d 66) i k) k g d Q := by
  have h3 := hR.n.2.2.2.1
  have hd := hR.dl hi
  unfold DLW at hd
  obtain ⟨-, -, -, -, -, -, -, h8, h9, h10, -, h12⟩ := hd
  intro m
  induction m with
  | zero =>
    intro k hk
    refine aX12_grantedOf_1 ⟨by omega, fun c => ?_, fun c => absurd (by omega) c⟩
    have e : grF (d 66) i = grN (d 66) i k := by
      unfold grF
      rw [show (d 66 (146 + 16 * i)).toNat = k by omega]
    rw [e] at h
    exact h
  | succ m ih =>
    intro k hk
    have hg := gr_rng hR hi (k + 1) (by omega)
    have e : grN (d 66) i (k + 1) = grN (d 66) i k + d 66 (150 + 16 * i + k) := rfl
    refine aX12_grantedOf_1 ⟨by omega, fun c => absurd c (by omega), fun c => ⟨ik (by omega), by omega, ik (by omega), ik (by omega), ?_⟩⟩
    have t := ih (k + 1) (by omega)
    rw [e] at t
    exact t
theorem f_grantedOf {x1 : Int} {g : mG} {d : mD} {Q : mQ} (h : RW (d 66) ∧ (0 ≤ x1 ∧ x1 < d 66 3) ∧ Q (.inl (grF (d 66) x1)) g d) : MM mX12_grantedOf [vR 65, vI x1] g d Q := by
  have hd := h.1.dl h.2.1
  unfold DLW at hd
  exact eX12_grantedOf (l_grantedOf h.1 h.2.1 h.2.2 (d 66 (146 + 16 * x1)).toNat 0 (by omega))
-- stays and claims are put down
theorem f_order {x1 x2 : Int} {g : mG} {d : mD} {Q : mQ} (h : RW (d 66) ∧ d 66 4 < 12 ∧ Q (.inl (d 66 4)) g (ud (ud (ud (ud (ud d 66 (619 + 4 * (d 66 4)) x1) 66 (620 + 4 * (d 66 4)) x2) 66 (621 + 4 * (d 66 4)) (d 66 0)) 66 (622 + 4 * (d 66 4)) (-1)) 66 4 ((d 66 4) + 1))) : MM mX12_order [vR 65, vI x1, vI x2] g d Q := by
  have h4 := h.1.n.2.2.2.2.1
  obtain ⟨-, h5, h6⟩ := h
  refine eX12_order ⟨ik (by omega), ik (by omega), by omega, ik (by omega), by omega, ik (by omega), by omega, by omega, by omega, ik (by omega), by omega, by omega, by omega, by omega, by omega, ik (by omega), ik (by omega), ?_⟩
  rw [show (d 66 4 + 1) - 1 = d 66 4 by omega]
  exact h6
theorem f_claim {x1 x2 x3 : Int} {g : mG} {d : mD} {Q : mQ} (h : RW (d 66) ∧ d 66 6 < 20 ∧ Q (.inl (d 66 6)) g (ud (ud (ud (ud (ud d 66 (707 + 4 * (d 66 6)) x1) 66 (708 + 4 * (d 66 6)) x2) 66 (709 + 4 * (d 66 6)) (d 66 0)) 66 (710 + 4 * (d 66 6)) x3) 66 6 ((d 66 6) + 1))) : MM mX12_claim [vR 65, vI x1, vI x2, vI x3] g d Q := by
  have h4 := h.1.n.2.2.2.2.2.2
  obtain ⟨-, h5, h6⟩ := h
  refine eX12_claim ⟨ik (by omega), ik (by omega), by omega, ik (by omega), by omega, ik (by omega), by omega, by omega, by omega, ik (by omega), by omega, by omega, by omega, by omega, by omega, ik (by omega), ik (by omega), ?_⟩
  rw [show (d 66 6 + 1) - 1 = d 66 6 by omega]
  exact h6
-- names
theorem l_named2 {p : Int} {g : mG} {d : mD} {Q : mQ} (hp : 0 ≤ p ∧ p < 8) (hl : d 65 13 ≤ 8) (h1 : nmd (d 66) (d 71) p (d 65 13) → Q (.inl p) g d) (h2 : ¬ nmd (d 66) (d 71) p (d 65 13) → pX12_named_1 (p + 1) g d Q) : ∀ (m : Nat) (k : Int), 0 ≤ k → k + m = d 65 13 → pX12_named_2 p (bI (d 66 (7 + 9 * p) = d 65 13 ∧ ∀ j, 0 ≤ j ∧ j < k → d 66 (8 + 9 * p + j) = d 71 j)) k g d Q := by
  intro m
  induction m with
  | zero =>
    intro k hk hm
    have hk2 : k = d 65 13 := by omega
    subst hk2
    refine aX12_named_2 ⟨fun c => ⟨fun c1 => ⟨ik (by omega), h2 (bI_0.mp c1)⟩, fun c1 => h1 (bI_n0.mp c1)⟩, fun c => absurd (by omega) c⟩
  | succ m ih =>
    intro k hk hm
    refine aX12_named_2 ⟨fun c => absurd c (by omega), fun c => ⟨fun c1 => ⟨fun _ => ⟨ik (by omega), h2 (fun q => bI_0.mp c1 ⟨q.1, fun j hj => q.2 j (by omega)⟩)⟩, fun c2 => absurd c1 c2⟩, fun c1 => ⟨ik (by omega), ik (by omega), ik (by omega), ik (by omega), by omega, by omega, ik (by omega), ?_⟩⟩⟩
    have hP := bI_n0.mp c1
    have t := ih (k + 1) (by omega) (by omega)
    have e : (d 66 (7 + 9 * p) = d 65 13 ∧ ∀ j, 0 ≤ j ∧ j < k + 1 → d 66 (8 + 9 * p + j) = d 71 j) ↔ d 66 (8 + 9 * p + k) = d 71 k := by
      refine ⟨fun q => q.2 k (by omega), fun q => ⟨hP.1, fun j hj => ?_⟩⟩
      by_cases hjk : j = k
      · rw [hjk]; exact q
      · exact hP.2 j (by omega)
    rw [bI_cg e] at t
    exact t
theorem l_named {g : mG} {d : mD} {Q : mQ} (hR : RWn (d 66)) (hl : 0 ≤ d 65 13 ∧ d 65 13 ≤ 8) : ∀ (n : Nat) (p : Int), 0 ≤ p → d 66 1 ≤ p + n → Q (.inl (nmN (d 66) (d 71) (d 65 13) (n + 1) p)) g d → pX12_named_1 p g d Q := by
  have h1 := hR.2.1
  intro n
  induction n with
  | zero =>
    intro p hp hn h
    refine aX12_named_1 ⟨fun c => ?_, fun c => absurd (by omega) c⟩
    rw [show nmN (d 66) (d 71) (d 65 13) (0 + 1) p = -1 from if_pos c] at h
    exact h
  | succ n ih =>
    intro p hp hn h
    refine aX12_named_1 ⟨fun c => ?_, fun c => ⟨ik (by omega), ik (by omega), by omega, ?_⟩⟩
    · rw [show nmN (d 66) (d 71) (d 65 13) (n + 1 + 1) p = -1 from if_pos c] at h
      exact h
    · rw [show nmN (d 66) (d 71) (d 65 13) (n + 1 + 1) p = @ite Int (nmd (d 66) (d 71) p (d 65 13)) (Classical.propDecidable _) p (nmN (d 66) (d 71) (d 65 13) (n + 1) (p + 1)) from if_neg c] at h
      have t := l_named2 (p := p) (g := g) (Q := Q) (by omega) hl.2 (fun q => by rw [if_pos q] at h; exact h) (fun q => by rw [if_neg q] at h; exact ih (p + 1) (by omega) (by omega) h) (d 65 13).toNat 0 (by omega) (by omega)
      rw [bI_cg (q := d 66 (7 + 9 * p) = d 65 13) ⟨fun q => q.1, fun q => ⟨q, fun j hj => absurd hj (by omega)⟩⟩] at t
      exact t
theorem f_named {g : mG} {d : mD} {Q : mQ} (h : RW (d 66) ∧ (0 ≤ d 65 13 ∧ d 65 13 ≤ 8) ∧ Q (.inl (nmF (d 66) (d 71) (d 65 13))) g d) : MM mX12_named [vR 65] g d Q :=
  eX12_named (l_named h.1.n h.2.1 8 0 (by omega) (by have := h.1.n.2.1; omega) h.2.2)
