theorem endF_rng {R : rW} {p r f len ic : Int} (hf : f ≤ 4999) : f + 1 ≤ endF R p r f len ic ∧ endF R p r f len ic ≤ 5000 := by
  unfold endF
  have a := (fd_spec (P := fun x => len ≤ cn (Cc R p r ic) (f + 1) x) (a := f + 1) (by omega)).1
  have b := (fd_spec (P := fun x => court R x ∧ ¬ stopd R p r x) (a := fd (fun x => len ≤ cn (Cc R p r ic) (f + 1) x) (f + 1)) a.2).1
  omega
theorem dueN_s {R : rW} {i q x : Int} {n : Nat} : dueN R i (n + 1) q x = @ite Int (x = 5000) (Classical.propDecidable _) x (dueN R i n (q + 1) (endF R (R (139 + 16 * i)) (R (140 + 16 * i)) x (plenF R i q) (bI (q = 0 ∧ R (143 + 16 * i) = 1)))) := rfl
-- days left
theorem wk_s {R : rW} {i x q c : Int} {n : Nat} : wk R i (n + 1) x q c = if partsF R i ≤ q then 0 else bI (cnts R i x q c) + iT (c + bI (cnts R i x q c) = plenF R i q ∧ court R x ∧ ¬ stopd R (R (139 + 16 * i)) (R (140 + 16 * i)) x) (wk R i n (x + 1) (q + 1) 0) (wk R i n (x + 1) q (c + bI (cnts R i x q c))) := rfl
theorem sumF_rng {R : rW} (h : RW R) {i : Int} (hi : 0 ≤ i ∧ i < R 3) : 1 ≤ sumF R i ∧ sumF R i ≤ 1400 := by
  have hp := parts_rng h hi
  have := sum_rng h hi (partsF R i).toNat (by omega)
  unfold sumF
  omega
-- the class: over the gaps
theorem cn_gap {P : Int → Prop} {a L b z : Int} (h1 : L < b) (ha : a ≤ b) (hL : L ≤ z) (h : ∀ x, a ≤ x → L < x → x < b → x ≤ z → ¬ P x) : cn P a z = cn P a L + cn P b z := by
  have key : ∀ a', L < a' → a ≤ a' → a' ≤ b → cn P a' z = cn P b z := by
    intro a' h2 h3 h4
    by_cases hz : b ≤ z + 1
    · rw [cn_split (P := P) (a := a') (m := b - 1) (b := z) (by omega) (by omega), cn_none (a := a') (b := b - 1) (fun x q1 q2 => h x (by omega) (by omega) (by omega) (by omega)), show b - 1 + 1 = b by omega]
      omega
    · rw [cn_none (a := a') (b := z) (fun x q1 q2 => h x (by omega) (by omega) (by omega) q2), cn_empty (by omega)]
  by_cases hc : a ≤ L + 1
  · rw [cn_split (P := P) (a := a) (m := L) (b := z) hc hL, key (L + 1) (by omega) hc (by omega)]
  · rw [cn_empty (a := a) (b := L) (by omega), key a (by omega) (by omega) ha]
    omega
def gapL (d : mD) (k : Int) : Int := if d 53 4 ≤ k then 4999 else d 54 k - 1
def gapN (d : mD) (k x : Int) : Int := if d 53 4 ≤ k then 5000 else max x (d 55 k + 1)
theorem gapL_e {d : mD} {k : Int} : iT (d 53 4 ≤ k) 4999 ((d 54 k) - 1) = gapL d k := by
  unfold gapL
  split
  · exact iT_t ‹_›
  · exact iT_f ‹_›
theorem gapN_e {d : mD} {k x : Int} : iT (d 53 4 ≤ k) 5000 (max x ((d 55 k) + 1)) = gapN d k x := by
  unfold gapN
  split
  · exact iT_t ‹_›
  · exact iT_f ‹_›
theorem gap_rng {d : mD} {R : rW} {p r k x : Int} (hG : RG d R p r) (hk : 0 ≤ k ∧ k ≤ d 53 4) (hx : 0 ≤ x ∧ x ≤ 5000) : (-1 ≤ gapL d k ∧ gapL d k ≤ 4999) ∧ (x ≤ gapN d k x ∧ gapN d k x ≤ 5000) ∧ gapL d k < gapN d k x := by
  obtain ⟨h1, h2, h3, h4⟩ := hG
  unfold gapL gapN
  split
  · omega
  · have := h2 k (by omega)
    omega
theorem gap_free {d : mD} {R : rW} {p r k x : Int} (hG : RG d R p r) (hk : 0 ≤ k ∧ k ≤ d 53 4) (hj : ∀ j, 0 ≤ j → j < k → d 55 j < x) {y : Int} (hy : 0 ≤ y ∧ x ≤ y ∧ y ≤ gapL d k) : ¬ stopd R p r y := by
  have hr := (gap_rng (x := 0) hG hk (by omega)).1
  obtain ⟨h1, h2, h3, h4⟩ := id hG
  intro q
  obtain ⟨j, hj1, hj2⟩ := (h4 y (by omega)).mp q
  unfold gapL at hy
  split at hy
  · have := hj j hj1.1 (by omega)
    omega
  · rcases (show j < k ∨ j = k ∨ k < j by omega) with h7 | h7 | h7
    · have := hj j hj1.1 h7
      omega
    · subst h7
      omega
    · have := hG.lt (j - k - 1).toNat k hk.1 (by omega)
      rw [show k + 1 + ((j - k - 1).toNat : Int) = j by omega] at this
      have := h2 k (by omega)
      omega
theorem gap_stop {d : mD} {R : rW} {p r k x : Int} (hG : RG d R p r) (hk : 0 ≤ k ∧ k ≤ d 53 4) {y : Int} (hy : 0 ≤ y ∧ x ≤ y ∧ gapL d k < y ∧ y < gapN d k x ∧ y ≤ 4999) : stopd R p r y := by
  obtain ⟨h1, h2, h3, h4⟩ := id hG
  unfold gapL gapN at hy
  split at hy
  · omega
  · exact (h4 y (by omega)).mpr ⟨k, by omega, by omega, by omega⟩
theorem gap_cn {d : mD} {R : rW} {p r k x ic L : Int} (hG : RG d R p r) (hk : 0 ≤ k ∧ k ≤ d 53 4) (hx : 0 ≤ x) (hj : ∀ j, 0 ≤ j → j < k → d 55 j < x) (hL : L ≤ gapL d k) : iT (ic = 0) (max 0 ((L - x) + 1)) (cn (court R) x L) = cn (Cc R p r ic) x L := by
  have hf : ∀ y, x ≤ y → y ≤ L → ¬ stopd R p r y := fun y h1 h2 => gap_free hG hk hj ⟨by omega, h1, by omega⟩
  by_cases hc : ic = 0
  · rw [iT_t hc]
    by_cases hz : L < x
    · rw [cn_empty hz]; omega
    · rw [cn_all (P := Cc R p r ic) (by omega) (fun y h1 h2 => ⟨hf y h1 h2, Or.inl hc⟩)]; omega
  · rw [iT_f hc]
    exact cn_cg (fun y h1 h2 => ⟨fun q => ⟨hf y h1 h2, Or.inr q⟩, fun q => q.2.resolve_left hc⟩)
theorem l_dayOfCount {a1 a2 ic p r : Int} {R : rW} {g : mG} {d : mD} {Q : mQ} (hC : CI d R) (hG : RG d R p r) : ∀ (m : Nat) (k x l : Int), 0 ≤ k → k + m = d 53 4 + 1 → (0 ≤ x ∧ x ≤ 5000) → (1 ≤ l ∧ l ≤ 200) → (k = d 53 4 + 1 → x = 5000) → (∀ j, 0 ≤ j → j < k → j < d 53 4 → d 55 j < x) → Q (.inl (fd (fun y => l ≤ cn (Cc R p r ic) x y) x)) g d → pX10_dayOfCount_1 a1 a2 ic x l k g d Q := by
  obtain ⟨h1, h2, h3, h4⟩ := id hG
  intro m
  induction m with
  | zero =>
    intro k x l hk hm hx hl hz hj h
    rw [fd_here (Or.inr (by omega)), hz (by omega)] at h
    exact aX10_dayOfCount_1 (R := R) ⟨fun _ => h, fun c => absurd (by omega) c⟩
  | succ m ih =>
    intro k x l hk hm hx hl hz hj h
    have hkn : 0 ≤ k ∧ k ≤ d 53 4 := by omega
    have hj' : ∀ j, 0 ≤ j → j < k → d 55 j < x := fun j q1 q2 => hj j q1 q2 (by omega)
    obtain ⟨g1, g2, g3⟩ := gap_rng hG hkn hx
    have e := gap_cn (ic := ic) hG hkn hx.1 hj' (Int.le_refl (gapL d k))
    have hrg : 0 ≤ cn (Cc R p r ic) x (gapL d k) := cn_nn
    have h54 : ¬ (d 53 4 ≤ k) → 0 ≤ d 54 k ∧ d 54 k ≤ d 55 k ∧ d 55 k ≤ 4999 := fun q => h2 k (by omega)
    have hL : ∀ y, x ≤ y → y ≤ gapL d k → (court R y ↔ Cc R p r 1 y) := fun y q1 q2 => ⟨fun q => ⟨gap_free hG hkn hj' ⟨by omega, q1, q2⟩, Or.inr q⟩, fun q => q.2.resolve_left (by omega)⟩
    refine aX10_dayOfCount_1 (R := R) ⟨fun c => absurd c (by omega), fun c => ?_⟩
    rw [gapL_e, gapN_e, e]
    refine ⟨fun q => by omega, fun q => ik (by have := h54 q; omega), fun _ => ik (by omega), fun _ => ik (by omega), fun _ => hC, fun _ => by omega, fun _ => g1, fun c2 => ⟨ik (by omega), fun q => ik (by have := h54 q; omega), ik (by omega), ?_⟩, fun c2 => ?_⟩
    · have ecn : cn (Cc R p r ic) x (gapN d k x - 1) = cn (Cc R p r ic) x (gapL d k) := by
        rw [cn_gap (P := Cc R p r ic) (a := x) (L := gapL d k) (b := gapN d k x) (z := gapN d k x - 1) g3 g2.1 (by omega) (fun y q1 q2 q3 q4 q5 => q5.1 (gap_stop hG hkn ⟨by omega, q1, q2, q3, by omega⟩)), cn_empty (a := gapN d k x) (by omega)]
        omega
      rw [fd_cut g2 (by omega), ecn] at h
      refine ih (k + 1) _ _ (by omega) (by omega) (by omega) (by omega) (fun q => ?_) (fun j q1 q2 q3 => ?_) h
      · unfold gapN
        rw [if_pos (by omega)]
      · by_cases hjk : j = k
        · subst hjk
          unfold gapN
          rw [if_neg (by omega)]
          omega
        · have := hj' j q1 (by omega)
          omega
    · have hge : l ≤ cn (Cc R p r ic) x (gapL d k) := by omega
      have hxL : x ≤ gapL d k := by
        refine Classical.byContradiction fun q => ?_
        rw [cn_empty (by omega)] at hge
        omega
      have hcn := cn_rng (P := Cc R p r ic) (a := x) (b := gapL d k) (by omega)
      have eres : iT (ic = 0) (x + l - 1) (fd (fun x_1 => l ≤ cn (court R) x x_1) x) = fd (fun y => l ≤ cn (Cc R p r ic) x y) x := by
        by_cases hc : ic = 0
        · rw [iT_t hc]
          have hall : ∀ z, z ≤ gapL d k → x ≤ z + 1 → cn (Cc R p r ic) x z = z - x + 1 := fun z hz1 hz2 => cn_all hz2 (fun y q1 q2 => ⟨gap_free hG hkn hj' ⟨by omega, q1, by omega⟩, Or.inl hc⟩)
          refine (fd_eq ⟨by omega, by omega⟩ (fun y q1 q2 q3 => ?_) (fun _ => ?_)).symm
          · rw [hall y (by omega) (by omega)] at q3
            omega
          · rw [hall _ (by omega) (by omega)]
            omega
        · rw [iT_f hc]
          have hcg : ∀ z, z ≤ gapL d k → cn (court R) x z = cn (Cc R p r ic) x z := fun z hz1 => cn_cg (fun y q1 q2 => ⟨fun q => ⟨gap_free hG hkn hj' ⟨by omega, q1, by omega⟩, Or.inr q⟩, fun q => q.2.resolve_left hc⟩)
          obtain ⟨s1, s2, s3⟩ := fd_spec (P := fun y => l ≤ cn (Cc R p r ic) x y) (a := x) hx.2
          have sL : fd (fun y => l ≤ cn (Cc R p r ic) x y) x ≤ gapL d k := Int.not_lt.mp (fun q => s2 _ hxL q hge)
          refine fd_eq s1 (fun y q1 q2 q3 => s2 y q1 q2 ?_) (fun q => ?_)
          · rw [hcg y (by omega)] at q3
            exact q3
          · show l ≤ cn (court R) x _
            rw [hcg _ sL]
            exact s3 q
      rw [eres]
      exact ⟨fun _ => ik (by omega), fun _ => ik (by omega), fun _ => hx, fun _ => hl, h⟩
theorem f_dayOfCount {x1 x2 x3 p r : Int} {R : rW} {g : mG} {d : mD} {Q : mQ} (h : CI d R ∧ RG d R p r ∧ (0 ≤ x1 ∧ x1 ≤ 5000) ∧ (1 ≤ x2 ∧ x2 ≤ 200) ∧ Q (.inl (fd (fun x => x2 ≤ cn (Cc R p r x3) x1 x) x1)) g d) : MM mX10_dayOfCount [vR 53, vI x1, vI x2, vI x3] g d Q := by
  obtain ⟨hC, hG, hx, hl, hq⟩ := h
  exact eX10_dayOfCount (l_dayOfCount hC hG (d 53 4 + 1).toNat 0 x1 x2 (by omega) (by have := hG.1; omega) hx hl (by have := hG.1; omega) (fun j q1 q2 => absurd q1 (by omega)) hq)
theorem l_countFree {a1 a2 ic p r : Int} {R : rW} {g : mG} {d : mD} {Q : mQ} (hC : CI d R) (hG : RG d R p r) (h2' : 0 ≤ a2 ∧ a2 ≤ 4999) : ∀ (m : Nat) (acc k x : Int), 0 ≤ k → k + m = d 53 4 + 1 → (0 ≤ x ∧ x ≤ 5000) → (k = d 53 4 + 1 → x = 5000) → (0 ≤ acc ∧ acc ≤ x) → (∀ j, 0 ≤ j → j < k → j < d 53 4 → d 55 j < x) → Q (.inl (acc + cn (Cc R p r ic) x a2)) g d → pX10_countFree_1 a1 a2 ic acc x k g d Q := by
  obtain ⟨h1, h2, h3, h4⟩ := id hG
  intro m
  induction m with
  | zero =>
    intro acc k x hk hm hx hz ha hj h
    rw [cn_empty (by have := hz (by omega); omega), Int.add_zero] at h
    exact aX10_countFree_1 (R := R) ⟨fun _ => h, fun c => absurd (by omega) c⟩
  | succ m ih =>
    intro acc k x hk hm hx hz ha hj h
    have hkn : 0 ≤ k ∧ k ≤ d 53 4 := by omega
    have hj' : ∀ j, 0 ≤ j → j < k → d 55 j < x := fun j q1 q2 => hj j q1 q2 (by omega)
    obtain ⟨g1, g2, g3⟩ := gap_rng hG hkn hx
    have h54 : ¬ (d 53 4 ≤ k) → 0 ≤ d 54 k ∧ d 54 k ≤ d 55 k ∧ d 55 k ≤ 4999 := fun q => h2 k (by omega)
    refine aX10_countFree_1 (R := R) ⟨fun c => absurd c (by omega), fun c => ?_⟩
    rw [gapL_e, gapN_e, gap_cn (L := min a2 (gapL d k)) (ic := ic) hG hkn hx.1 hj' (by omega)]
    have hrg : 0 ≤ cn (Cc R p r ic) x (min a2 (gapL d k)) ∧ cn (Cc R p r ic) x (min a2 (gapL d k)) + x ≤ gapN d k x := by
      refine ⟨cn_nn, ?_⟩
      by_cases hq : x ≤ min a2 (gapL d k) + 1
      · have := (cn_rng (P := Cc R p r ic) hq).2
        omega
      · rw [cn_empty (by omega)]
        omega
    refine ⟨fun q => by omega, fun q => ik (by have := h54 q; omega), fun _ => ik (by omega), fun _ => ik (by omega), fun _ => hC, fun _ => by omega, fun _ => by omega, ik (by omega), fun q => ik (by have := h54 q; omega), ik (by omega), ?_⟩
    rw [cn_gap (P := Cc R p r ic) (a := x) (L := min a2 (gapL d k)) (b := gapN d k x) (z := a2) (by omega) g2.1 (by omega) (fun y q1 q2 q3 q4 q5 => q5.1 (gap_stop hG hkn ⟨by omega, q1, by omega, q3, by omega⟩)), ← Int.add_assoc] at h
    refine ih _ (k + 1) _ (by omega) (by omega) (by omega) (fun q => ?_) (by omega) (fun j q1 q2 q3 => ?_) h
    · unfold gapN
      rw [if_pos (by omega)]
    · by_cases hjk : j = k
      · subst hjk
        unfold gapN
        rw [if_neg (by omega)]
        omega
      · have := hj' j q1 (by omega)
        omega
theorem f_countFree {x1 x2 x3 p r : Int} {R : rW} {g : mG} {d : mD} {Q : mQ} (h : CI d R ∧ RG d R p r ∧ (0 ≤ x1 ∧ x1 ≤ 5000) ∧ (0 ≤ x2 ∧ x2 ≤ 4999) ∧ Q (.inl (cn (Cc R p r x3) x1 x2)) g d) : MM mX10_countFree [vR 53, vI x1, vI x2, vI x3] g d Q := by
  obtain ⟨hC, hG, hx, hl, hq⟩ := h
  refine eX10_countFree (l_countFree hC hG hl (d 53 4 + 1).toNat 0 0 x1 (by omega) (by have := hG.1; omega) hx (by have := hG.1; omega) (by omega) (fun j q1 q2 => absurd q1 (by omega)) ?_)
  rw [Int.zero_add]
  exact hq
-- counting back
theorem l_countBack {a1 a2 a3 : Int} {R : rW} {g : mG} {d : mD} {Q : mQ} (hC : CI d R) : ∀ (m : Nat) (x : Int), -1 ≤ x → x + 1 ≤ m → Q (.inl (bd (court R) x)) g d → x ≤ 4999 → pX10_countBack_1 a1 a2 a3 x g d Q := by
  intro m
  induction m with
  | zero =>
    intro x hx hm h hx2
    rw [bd_here (Or.inr (by omega))] at h
    exact aX10_countBack_1 (R := R) ⟨fun _ => hC, fun c => absurd (by omega) c, fun c => absurd (by omega) c.1, fun _ => h⟩
  | succ m ih =>
    intro x hx hm h hx2
    refine aX10_countBack_1 (R := R) ⟨fun _ => hC, fun c => by omega, fun c => ⟨ik (by omega), ?_⟩, fun c => ?_⟩
    · rw [bd_step c.2 (by omega)] at h
      exact ih (x + (-1)) (by omega) (by omega) h (by omega)
    · rw [bd_here] at h
      · exact h
      · by_cases hz : x ≤ -1
        · exact Or.inr hz
        · exact Or.inl (Classical.byContradiction fun q => c ⟨by omega, q⟩)
theorem f_countBack {x1 x2 x3 : Int} {R : rW} {g : mG} {d : mD} {Q : mQ} (h : CI d R ∧ (0 ≤ x1 ∧ x1 ≤ 4999) ∧ (1 ≤ x2 ∧ x2 ≤ 200) ∧ Q (.inl (iT (x3 = 0 ∧ x1 - x2 < 0) (x1 - x2) (bkF R x1 x2 x3))) g d) : MM mX10_countBack [vR 53, vI x1, vI x2, vI x3] g d Q := by
  obtain ⟨hC, hx, hl, hq⟩ := h
  refine eX10_countBack (R := R) ⟨fun _ => ik (by omega), fun _ => ik (by omega), fun _ => hC, fun _ => by omega, fun _ => hl, ?_⟩
  by_cases hc : x3 = 0
  · rw [iT_t hc]
    by_cases hn : x1 - x2 < 0
    · rw [iT_t ⟨hc, hn⟩] at hq
      exact aX10_countBack_1 (R := R) ⟨fun _ => hC, fun c => absurd hn c, fun c => absurd hn c.1, fun _ => hq⟩
    · rw [iT_f (fun q => hn q.2)] at hq
      refine l_countBack hC 5000 _ (by omega) (by omega) ?_ (by omega)
      have e : bd (fun x => x2 ≤ cn (fun y => x3 = 0 ∨ court R y) x (x1 - 1)) (x1 - 1) = x1 - x2 := by
        have hall : ∀ z, z ≤ x1 → cn (fun y => x3 = 0 ∨ court R y) z (x1 - 1) = x1 - z := fun z hz => by
          rw [cn_all (by omega) (fun y _ _ => Or.inl hc)]
          omega
        refine bd_eq (by omega) (fun z q1 q2 q3 => ?_) (fun _ => ?_)
        · rw [hall z (by omega)] at q3
          omega
        · show x2 ≤ cn _ _ _
          rw [hall _ (by omega)]
          omega
      unfold bkF at hq
      rw [e] at hq
      exact hq
  · rw [iT_f (p := x3 = 0) hc]
    rw [iT_f (fun q => hc q.1)] at hq
    have hb := (bd_spec (P := fun x => x2 ≤ cn (court R) x (x1 - 1)) (a := x1 - 1) (by omega)).1
    refine l_countBack hC 5000 _ (by omega) (by omega) ?_ (by omega)
    unfold bkF at hq
    have e : bd (fun x => x2 ≤ cn (fun y => x3 = 0 ∨ court R y) x (x1 - 1)) (x1 - 1) = bd (fun x => x2 ≤ cn (court R) x (x1 - 1)) (x1 - 1) := by
      refine bd_cg (by omega) (fun x _ _ => ?_)
      rw [cn_cg (Q := court R) (fun y _ _ => ⟨fun q => q.resolve_left hc, Or.inr⟩)]
    rw [e] at hq
    exact hq
