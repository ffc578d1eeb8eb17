-- a stay of everything, put under and taken back; the law
section
variable {R : rW} {u : Int} {H : Int → rW} {sc fg : Int → Int} {n : Int} {Q : mQ}
theorem KLS.rows {g : mG} {d d' : mD} (h : KLS g d R u H sc fg n) (hd : ∀ b, b ≠ SCR → b ≠ FGN → d' b = d b) : KLS g d' R u H (d' SCR) (d' FGN) n := by
  obtain ⟨hS, e1, e2, e3, e4, e5⟩ := h
  have k : ∀ b j : Int, b < 1000 → d' b j = d b j := fun b j q => by rw [hd b (by show b ≠ 100000; omega) (by show b ≠ 100001; omega)]
  refine ⟨hS.fr (hS.1.fr (fun b j q1 q2 => k b j (by omega))) (fun b j q1 q2 => k b j (by omega)) (k 0 5 (by decide)) (k 0 6 (by decide)), rfl, rfl, (k 1 1 (by decide)).trans e3, e4, fun j q1 q2 => ?_⟩
  rw [k 2 j (by decide)]
  exact e5 j q1 q2
theorem push_prev {K : Int → rW} {X : rW} {i : Int} (hu : 0 ≤ u ∧ u ≤ 8) (hi : 1 ≤ i ∧ i ≤ u) : hPush u X K (min 8 (u + 1) - 1 - i) = K (u - i) := by
  unfold hPush
  by_cases e : u = 8
  · rw [if_pos e, if_pos (by omega), show min 8 (u + 1) - 1 - i + 1 = u - i by omega]
  · rw [if_neg e, if_pos (by omega), show min 8 (u + 1) - 1 - i = u - i by omega]
-- the days left are written down
theorem l_stA {g : mG} {x1 x2 x3 q : Int} (hR : RW R) (hq : 0 ≤ q) (s3 : sc (-3) = 31) (s2 : sc (-2) = q) {K KS : Nat} (hK : ∀ (bc bs : Nat) (x5 : Int) (d' : mD) (fg' : Int → Int), K ≤ bc ∧ KS ≤ bs → KLS g d' R u H sc fg' n → (∀ j, 0 ≤ j → j < R 3 → fg' j = leftF R j) → pL_isStayed_3 bc bs x1 x2 x3 q x5 g d' Q) : ∀ (m bc bs : Nat) (x5 : Int) (d : mD) (fg : Int → Int), KLS g d R u H sc fg n → 0 ≤ x5 → x5 + m = R 3 → 3 * (m + 1) + K ≤ bc ∧ 18 * (m + 1) + KS ≤ bs → (∀ j, 0 ≤ j → j < x5 → fg j = leftF R j) → pL_isStayed_2 bc bs x1 x2 x3 q x5 g d Q := by
  have h30 := hR.n.2.2.2.1
  intro m
  induction m with
  | zero =>
    intro bc bs x5 d fg hS hx hm hb hf
    refine aL_isStayed_2 (by omega) (l_deadlines hS (fun d1 hS1 => ?_))
    dsimp only
    exact ⟨fun _ => hK _ _ _ _ _ (by omega) hS1 (fun j q1 q2 => hf j q1 (by omega)), fun c => absurd (by omega) c⟩
  | succ m ih =>
    intro bc bs x5 d fg hS hx hm hb hf
    refine aL_isStayed_2 (by omega) (l_deadlines hS (fun d1 hS1 => ?_))
    dsimp only
    refine ⟨fun c => absurd c (by omega), fun _ => a_left hS1 (fun d2 hS2 => ?_)⟩
    dsimp only
    rw [hS2.2.1]
    refine ⟨⟨s3, s2, hq⟩, by omega, ik (by omega), ?_⟩
    have hS3 := hS2.rows (d' := ud d2 FGN x5 (aV (r_left R x5))) (fun b _ q2 => ud_row q2)
    rw [ud_row (show SCR ≠ FGN by decide), hS2.2.1] at hS3
    refine ih _ _ _ _ _ hS3 (by omega) (by omega) (by omega) (fun j q1 q2 => ?_)
    by_cases e : j = x5
    · rw [e, ud_same]
      exact av_left (by omega)
    · rw [ud_ne (fun z => e z.2), hS2.2.2.1]
      exact hf j q1 (by omega)
-- the days left are looked at once more
theorem l_stC {g : mG} {x1 x2 x3 q x5 x6 : Int} (hR : RW R) (hq : 0 ≤ q) (h5 : 0 ≤ x5 ∧ x5 ≤ 1500) (s3 : sc (-3) = 31) (s2 : sc (-2) = q) (hl : ∀ j, 0 ≤ j → j < R 3 → leftF R j = fg j) (hs : ∀ j, 0 ≤ j → j < R 3 → stopd R (R (139 + 16 * j)) (R (140 + 16 * j)) (x5 + 1)) {K KS : Nat} (hK : ∀ (bc bs : Nat) (x8 : Int) (d' : mD), K ≤ bc ∧ KS ≤ bs → KLS g d' R u H sc fg n → pL_isStayed_6 bc bs x1 x2 x3 q x5 x6 1 x8 g d' Q) : ∀ (m bc bs : Nat) (x8 : Int) (d : mD), KLS g d R u H sc fg n → 0 ≤ x8 → x8 + m = R 3 → 6 * (m + 1) + K ≤ bc ∧ 36 * (m + 1) + KS ≤ bs → pL_isStayed_5 bc bs x1 x2 x3 q x5 x6 1 x8 g d Q := by
  have h30 := hR.n.2.2.2.1
  intro m
  induction m with
  | zero =>
    intro bc bs x8 d hS hx hm hb
    refine aL_isStayed_5 (by omega) (l_deadlines hS (fun d1 hS1 => ?_))
    dsimp only
    exact ⟨fun _ => hK _ _ _ _ (by omega) hS1, fun c => absurd (by omega) c⟩
  | succ m ih =>
    intro bc bs x8 d hS hx hm hb
    refine aL_isStayed_5 (by omega) (l_deadlines hS (fun d1 hS1 => ?_))
    dsimp only
    refine ⟨fun c => absurd c (by omega), fun _ => ⟨fun c => absurd c (by decide), fun _ => a_left hS1 (fun d2 hS2 => ?_)⟩⟩
    dsimp only
    rw [hS2.2.1, hS2.2.2.1, av_left (by omega : 0 ≤ x8 ∧ x8 < R 3), hl x8 hx (by omega)]
    refine ⟨⟨s3, s2, hq⟩, by omega, fun _ => ⟨ik (by omega), a_isStopped hS2 (fun d3 hS3 => ?_)⟩, fun c => absurd rfl c⟩
    dsimp only
    have e1 : aV (r_isStopped R x8 (x5 + 1)) = 1 := by
      unfold r_isStopped
      rw [iO_t (by omega), iO_t (by omega), bI_t (hs x8 hx (by omega))]
      rfl
    rw [e1, bI_t rfl]
    exact aL_isStayed_7 ⟨ik (by omega), ih _ _ _ _ hS3 (by omega) (by omega) (by omega)⟩
theorem l_stF {g : mG} {d : mD} {bc bs : Nat} {x1 x3 x4 x5 x6 x7 x8 : Int} (hb : 300 ≤ bc ∧ 1800 ≤ bs) (hS : KLS g d R u H sc fg n) (h : ∀ d', KLS g d' R u H sc fg n → Q (.inl 1) g d') : pL_isStayed_9 bc bs x1 (prF R) x3 x4 x5 x6 x7 x8 1 g d Q := by
  refine aL_isStayed_9 hb ⟨fun c => absurd c (by decide), fun _ => f_print hS (fun d1 hS1 => ?_)⟩
  dsimp only
  rw [bI_t rfl]
  exact h d1 hS1
/-- from the second stage on, under the stay -/
theorem l_stB {g : mG} {d : mD} {R1 : rW} {bc bs : Nat} {x1 x5 q : Int} (hR : RW R) (e1 : R1 = syR R (-1) 255) (hu : 0 ≤ u ∧ u ≤ 8) (hx : 1 ≤ x1 ∧ x1 ≤ 40) (hq : 0 ≤ q) (s3 : sc (-3) = 31) (s2 : sc (-2) = q) (hb : 900 ≤ bc ∧ 68000 ≤ bs) (hS : KLS g d R1 (min 8 (u + 1)) (hPush u R H) sc fg n) (hl : ∀ j, 0 ≤ j → j < R1 3 → fg j = leftF R1 j) (h : ∀ g' d' u' H' fg', KLS g' d' R u' H' sc fg' n → Q (.inl 1) g' d') : pL_isStayed_3 bc bs x1 (prF R) (R 4) q x5 g d Q := by
  have hR1 := hS.w
  have h4 := hR.n.2.2.2.2.1
  have h30 := hR1.n.2.2.2.1
  have h00 := hR1.n.1
  have n0 : R1 0 = R 0 := by rw [e1]; exact syR_e h4.1 (by omega)
  have n4 : R1 4 = R 4 + 1 := by rw [e1]; unfold syR; rw [up_s]
  have hst : ∀ p r x, 0 ≤ r ∧ r < 8 → R1 0 < x → stopd R1 p r x := fun p r x hr hx => by rw [e1]; exact stop_all hR hr (by omega)
  have hrl : ∀ j, 0 ≤ j → j < R1 3 → 0 ≤ R1 (140 + 16 * j) ∧ R1 (140 + 16 * j) < 8 := fun j q1 q2 => by
    have hd := hR1.dl ⟨q1, q2⟩
    unfold DLW at hd
    exact hd.2.1
  refine aL_isStayed_3 (by omega) (l_today hS (fun d1 hS1 => ?_))
  dsimp only
  have est : st_advance R1 x1 = sO (R1 0 + x1 ≤ 1500) (R1 0 + x1, up R1 0 (R1 0 + x1)) (-3, R1) := by
    unfold st_advance
    rw [sO_t (by omega)]
  refine d_advance hS1 (fun z g2 d2 hS2 => ?_) (fun z g2 d2 hS2 => ?_)
  · -- the days don't pass
    have hc : ¬ (R1 0 + x1 ≤ 1500) := fun c => by
      rw [est, sO_t c] at z
      have z' : R1 0 + x1 < 0 := z
      omega
    dsimp only
    rw [est, sO_f hc]
    show iI (R1 0 + x1) ∧ _
    refine ⟨ik (by omega), fun _ => aL_isStayed_4 ?_, fun c => absurd (Or.inr ⟨(show (-2000 : Int) + -3 = -2003 by decide), hc⟩) c⟩
    refine l_stC hR1 hq (by omega) s3 s2 (fun j q1 q2 => (hl j q1 q2).symm) (fun j q1 q2 => hst _ _ _ (hrl j q1 q2) (by omega)) (K := 500) (KS := 30000) (fun bc' bs' x8 d3 hb3 hS3 => ?_) (R1 3).toNat _ _ 0 d2 hS2 (by decide) (by omega) (by omega)
    refine aL_isStayed_6 (by omega) ⟨fun c => absurd c (by decide), fun _ => ⟨fun _ => ?_, fun c => absurd (show (-2000 : Int) + -3 < 0 by decide) c⟩⟩
    refine aL_isStayed_8 (by omega) ⟨fun c => absurd c (by decide), fun _ => d_undo hS3 (by omega) (fun g4 d4 hS4 => ?_)⟩
    rw [push_top hu] at hS4
    dsimp only
    refine ⟨fun c => absurd c (by omega), fun _ => ⟨fun _ => ?_, fun c => absurd (by decide) c⟩⟩
    exact l_stF (by omega) hS4 (fun d5 hS5 => h _ _ _ _ _ hS5)
  · -- the days pass
    have hc : R1 0 + x1 ≤ 1500 := Classical.byContradiction fun c => by
      rw [est, sO_f c] at z
      exact absurd z (show ¬ (0 : Int) ≤ -3 by decide)
    rw [est, sO_t hc] at hS2
    dsimp only at hS2
    dsimp only
    rw [est, sO_t hc]
    show iI (R1 0 + x1) ∧ _
    refine ⟨ik (by omega), fun _ => aL_isStayed_4 ?_, fun c => absurd (Or.inl rfl) c⟩
    have hR2 := hS2.w
    have m3 : up R1 0 (R1 0 + x1) 3 = R1 3 := up_n (by decide)
    have m4 : up R1 0 (R1 0 + x1) 4 = R1 4 := up_n (by decide)
    have m0 : up R1 0 (R1 0 + x1) 0 = R1 0 + x1 := up_s
    have hu1 : 0 ≤ min 8 (u + 1) ∧ min 8 (u + 1) ≤ 8 := by omega
    have hu2 : 0 ≤ min 8 (min 8 (u + 1) + 1) ∧ min 8 (min 8 (u + 1) + 1) ≤ 8 := by omega
    refine l_stC hR2 hq (by omega) s3 s2 (fun j q1 q2 => ?_) (fun j q1 q2 => ?_) (K := 600) (KS := 58000) (fun bc' bs' x8 d3 hb3 hS3 => ?_) (R1 3).toNat _ _ 0 d2 hS2 (by decide) (by rw [m3]; omega) (by omega)
    · rw [m3] at q2
      rw [left_stay hR1 (by omega) ⟨q1, q2⟩ (fun x hx => hst _ _ _ (hrl j q1 q2) hx)]
      exact (hl j q1 q2).symm
    · rw [m3] at q2
      rw [up_n (show ¬ (139 + 16 * j = 0) by omega), up_n (show ¬ (140 + 16 * j = 0) by omega)]
      exact (stopd_up (by omega)).2 (hst _ _ _ (hrl j q1 q2) (by omega))
    · refine aL_isStayed_6 (by omega) ⟨fun c => absurd c (by decide), fun _ => ⟨fun c => absurd c (by omega), fun _ => ?_⟩⟩
      have l1 : up R1 0 (R1 0 + x1) (622 + 4 * R 4) = -1 := by
        rw [up_n (by omega), e1]
        unfold syR
        rw [up_n (by omega), up_s]
      have l2 : up R1 0 (R1 0 + x1) (621 + 4 * R 4) = R 0 := by
        rw [up_n (by omega), e1]
        unfold syR
        rw [up_n (by omega), up_n (by omega), up_s]
      have el : st_lift (up R1 0 (R1 0 + x1)) (R 4) = (x1, up (up R1 0 (R1 0 + x1)) (622 + 4 * R 4) (R1 0 + x1)) := by
        unfold st_lift
        rw [m4, m0, l1, l2, sO_t (by omega), sO_t rfl, show R1 0 + x1 - R 0 = x1 by omega]
      refine d_lift hS3 (fun z2 g4 d4 hS4 => absurd z2 (by rw [el]; show ¬ x1 < 0; omega)) (fun z2 g4 d4 hS4 => ?_)
      rw [el] at hS4
      dsimp only at hS4
      dsimp only
      rw [el]
      refine ⟨fun _ => ?_, fun c => absurd rfl c⟩
      have el2 : st_lift (up (up R1 0 (R1 0 + x1)) (622 + 4 * R 4) (R1 0 + x1)) (R 4) = (-3, up (up R1 0 (R1 0 + x1)) (622 + 4 * R 4) (R1 0 + x1)) := by
        unfold st_lift
        rw [up_n (show ¬ ((4 : Int) = 622 + 4 * R 4) by omega), m4, up_s, sO_t (by omega), sO_f (by omega)]
      refine d_lift hS4 (fun z3 g5 d5 hS5 => ?_) (fun z3 g5 d5 hS5 => absurd z3 (by rw [el2]; show ¬ (0 : Int) ≤ -3; decide))
      dsimp only
      rw [el2]
      refine ⟨fun _ => ?_, fun c => absurd rfl c⟩
      refine aL_isStayed_8 (by omega) ⟨fun c => absurd c (by decide), fun _ => d_undo hS5 (by omega) (fun g6 d6 hS6 => ?_)⟩
      rw [push_top hu2] at hS6
      dsimp only
      refine ⟨fun c => absurd c (by omega), fun _ => ⟨fun c => absurd c (by omega), fun _ => d_undo hS6 (by omega) (fun g7 d7 hS7 => ?_)⟩⟩
      have p1 : hPush (min 8 (min 8 (u + 1) + 1)) (up R1 0 (R1 0 + x1)) (hPush (min 8 (u + 1)) R1 (hPush u R H)) (min 8 (min 8 (min 8 (u + 1) + 1) + 1) - 1 - 1) = R1 := by
        rw [push_prev hu2 (by omega), push_top hu1]
      rw [p1] at hS7
      dsimp only
      refine ⟨fun c => absurd c (by omega), fun _ => d_undo hS7 (by omega) (fun g8 d8 hS8 => ?_)⟩
      have p2 : hPush (min 8 (min 8 (u + 1) + 1)) (up R1 0 (R1 0 + x1)) (hPush (min 8 (u + 1)) R1 (hPush u R H)) (min 8 (min 8 (min 8 (u + 1) + 1) + 1) - 1 - 1 - 1) = R := by
        rw [show min 8 (min 8 (min 8 (u + 1) + 1) + 1) - 1 - 1 - 1 = min 8 (min 8 (min 8 (u + 1) + 1) + 1) - 1 - 2 by omega, push_prev hu2 (by omega), show min 8 (min 8 (u + 1) + 1) - 2 = min 8 (min 8 (u + 1) + 1) - 1 - 1 by omega, push_prev hu1 (by omega), push_top hu]
      rw [p2] at hS8
      dsimp only
      refine ⟨fun c => absurd c (by omega), fun _ => ?_⟩
      exact l_stF (by omega) hS8 (fun d9 hS9 => h _ _ _ _ _ hS9)
theorem f_isStayed {g : mG} {d : mD} {x1 : Int} (hS : KLS g d R u H sc fg n) (h3 : sc (-3) = 0) (hx : 1 ≤ x1 ∧ x1 ≤ 40) (h : ∀ g' d' u' H' fg', KLS g' d' R u' H' sc fg' n → Q (.inl 1) g' d') : MM mL_isStayed [vR 0, vI x1] g d Q := by
  have hR := hS.w
  have h4 := hR.n.2.2.2.2.1
  have est : st_stay R (-1) 255 = sO (R 4 < 12) (R 4, syR R (-1) 255) (-3, R) := by
    unfold st_stay
    rw [sO_t (by decide)]
  refine eL_isStayed (f_print hS (fun d1 hS1 => ?_))
  dsimp only
  refine d_stayAll hS1 (fun z g2 d2 hS2 => ?_) (fun z g2 d2 hS2 => ?_)
  · have hc : ¬ (R 4 < 12) := fun c => by
      rw [est, sO_t c] at z
      have z' : R 4 < 0 := z
      omega
    dsimp only
    rw [est, sO_f hc]
    refine ⟨fun c => absurd c (show ¬ (0 : Int) ≤ -2000 + -3 by decide), fun _ => ⟨fun _ => f_print hS2 (fun d3 hS3 => ?_), fun c => absurd (show (-2000 + -3 : Int) = -2003 by decide) c⟩⟩
    dsimp only
    rw [bI_t rfl]
    exact h _ _ _ _ _ hS3
  · have hc : R 4 < 12 := Classical.byContradiction fun c => by
      rw [est, sO_f c] at z
      exact absurd z (show ¬ (0 : Int) ≤ -3 by decide)
    rw [est, sO_t hc] at hS2
    dsimp only at hS2
    dsimp only
    rw [est, sO_t hc, hS2.2.1]
    refine ⟨fun _ => ⟨h3, fun q hq => ?_⟩, fun c => absurd h4.1 c⟩
    have hS3 := hS2.rows (d' := upF (upS d2 (nF sc q))) (fun b q1 q2 => (upF_ne q2).trans (upS_ne q1))
    rw [upF_ne (show SCR ≠ FGN by decide), upS_S] at hS3
    refine aL_isStayed_1 (l_stA hS3.w hq (show nF sc q (-3) = 31 from rfl) (show nF sc q (-2) = q from rfl) (K := 900) (KS := 68000) (fun bc bs x5 d4 fg4 hb4 hS4 hf4 => ?_) (syR R (-1) 255 3).toNat _ _ 0 _ _ hS3 (by decide) (by have := hS3.w.n.2.2.2.1; omega) (by have := hS3.w.n.2.2.2.1; omega) (fun j q1 q2 => by omega))
    refine l_stB hR rfl hS.ur hx hq (show nF sc q (-3) = 31 from rfl) (show nF sc q (-2) = q from rfl) hb4 hS4 hf4 (fun g' d' u' H' fg' hS5 => ?_)
    have hS6 := hS5.rows (d' := upS d' sc) (fun b q1 _ => upS_ne q1)
    rw [upS_S] at hS6
    exact h _ _ _ _ _ hS6
end
