-- the law's own methods
section
variable {R : rW} {u : Int} {H : Int → rW} {sc fg : Int → Int} {n : Int} {Q : mQ}
-- lay
theorem l_lay4 (h0 : 0 ≤ sc (-1)) : ∀ (m bc bs : Nat) (x2 x3 : Int) (g : mG) (d : mD) (R : rW) (u : Int) (H : Int → rW), KLS g d R u H sc fg 0 → 0 ≤ x3 → x3 + m = 5 → 48 * (m + 1) ≤ bc ∧ 8234 * (m + 1) ≤ bs → (∀ g' d' R' u' H', KLS g' d' R' u' H' sc fg 0 → Q (.inl 0) g' d') → pL_lay_4 bc bs x2 x3 g d Q := by
  intro m
  induction m with
  | zero =>
    intro bc bs x2 x3 g d R u H hS hx hm hb h
    refine aL_lay_4 (by omega) (l_pick hS h0 (by decide) (by decide) (fun v a b => ?_))
    dsimp only
    exact ⟨fun _ => h _ _ _ _ _ hS, fun c => absurd (by omega) c⟩
  | succ m ih =>
    intro bc bs x2 x3 g d R u H hS hx hm hb h
    refine aL_lay_4 (by omega) (l_pick hS h0 (by decide) (by decide) (fun v a b => ?_))
    dsimp only
    refine ⟨fun _ => h _ _ _ _ _ hS, fun c => ⟨ik (by omega), l_pick hS h0 (by omega) (by decide) (fun v1 _ _ => ?_)⟩⟩
    dsimp only
    refine ⟨ik (by omega), l_pick hS h0 (by omega) (by decide) (fun v2 _ _ => ?_)⟩
    dsimp only
    refine ⟨ik (by omega), l_pick hS h0 (by omega) (by decide) (fun v3 _ _ => ?_)⟩
    dsimp only
    refine f_way (fun v4 => ?_)
    dsimp only
    refine d_serve hS (fun _ g' d' hS' => ?_) (fun _ g' d' hS' => ?_)
    · exact ⟨ik (by omega), ih _ _ _ _ _ _ _ _ _ hS' (by omega) (by omega) (by omega) h⟩
    · exact ⟨ik (by omega), ih _ _ _ _ _ _ _ _ _ hS' (by omega) (by omega) (by omega) h⟩
theorem l_lay3 (h0 : 0 ≤ sc (-1)) : ∀ (m bc bs : Nat) (x2 x3 : Int) (g : mG) (d : mD) (R : rW) (u : Int) (H : Int → rW), KLS g d R u H sc fg 0 → 0 ≤ x3 → x3 + m = 8 → 48 * (m + 7) ≤ bc ∧ 8234 * (m + 7) ≤ bs → (∀ g' d' R' u' H', KLS g' d' R' u' H' sc fg 0 → Q (.inl 0) g' d') → pL_lay_3 bc bs x2 x3 g d Q := by
  intro m
  induction m with
  | zero =>
    intro bc bs x2 x3 g d R u H hS hx hm hb h
    refine aL_lay_3 (by omega) (l_pick hS h0 (by decide) (by decide) (fun v a b => ?_))
    dsimp only
    exact ⟨fun _ => l_lay4 h0 5 _ _ _ 0 _ _ _ _ _ hS (by decide) (by decide) (by omega) h, fun c => absurd (by omega) c⟩
  | succ m ih =>
    intro bc bs x2 x3 g d R u H hS hx hm hb h
    refine aL_lay_3 (by omega) (l_pick hS h0 (by decide) (by decide) (fun v a b => ?_))
    dsimp only
    refine ⟨fun _ => l_lay4 h0 5 _ _ _ 0 _ _ _ _ _ hS (by decide) (by decide) (by omega) h, fun c => ⟨ik (by omega), l_pick hS h0 (by omega) (by decide) (fun v1 _ _ => ?_)⟩⟩
    dsimp only
    refine d_addHoliday hS (fun _ g' d' hS' => ?_) (fun _ g' d' hS' => ?_)
    · exact ⟨ik (by omega), ih _ _ _ _ _ _ _ _ _ hS' (by omega) (by omega) (by omega) h⟩
    · exact ⟨ik (by omega), ih _ _ _ _ _ _ _ _ _ hS' (by omega) (by omega) (by omega) h⟩
theorem l_lay2 (h0 : 0 ≤ sc (-1)) : ∀ (m bc bs : Nat) (x2 x3 : Int) (g : mG) (d : mD) (R : rW) (u : Int) (H : Int → rW), KLS g d R u H sc fg 0 → 0 ≤ x3 → x3 + m = 3 → 48 * (m + 16) ≤ bc ∧ 8234 * (m + 16) ≤ bs → (∀ g' d' R' u' H', KLS g' d' R' u' H' sc fg 0 → Q (.inl 0) g' d') → pL_lay_2 bc bs x2 x3 g d Q := by
  have ex : ∀ (bc bs : Nat) (x2 : Int) (g : mG) (d : mD) (R : rW) (u : Int) (H : Int → rW) (K : Nat → mG → mD → Prop), KLS g d R u H sc fg 0 → 48 * 16 ≤ bc ∧ 8234 * 16 ≤ bs → (∀ g' d' R' u' H', KLS g' d' R' u' H' sc fg 0 → Q (.inl 0) g' d') → MM mL_pick [(5, 0), vI 2, vI 4] g d (fun o g28 d29 => match o with | .inl v27 => MM mL_way [vI v27] g28 d29 (fun o g32 d33 => match o with | .inl v31 => MM mL_pick [(5, 0), vI 3, vI 31] g32 d33 (fun o g36 d37 => match o with | .inl v35 => MM mL_deed [vR 0, vI 4, vI v31, vI v35, vI 0] g36 d37 (fun o g40 d41 => match o with | .inl v39 => pL_lay_3 (bc - 48) (bs - 8234) (wI (x2 + v39)) 0 g40 d41 Q | .inr k => K k g40 d41) | .inr k => K k g36 d37) | .inr k => K k g32 d33) | .inr k => K k g28 d29) := by
    intro bc bs x2 g d R u H K hS hb h
    refine l_pick hS h0 (by decide) (by decide) (fun v1 _ _ => ?_)
    dsimp only
    refine f_way (fun v2 => ?_)
    dsimp only
    refine l_pick hS h0 (by decide) (by decide) (fun v3 _ _ => ?_)
    dsimp only
    refine d_setServiceDays hS (fun _ g' d' hS' => ?_) (fun _ g' d' hS' => ?_)
    · exact l_lay3 h0 8 _ _ _ 0 _ _ _ _ _ hS' (by decide) (by decide) (by omega) h
    · exact l_lay3 h0 8 _ _ _ 0 _ _ _ _ _ hS' (by decide) (by decide) (by omega) h
  intro m
  induction m with
  | zero =>
    intro bc bs x2 x3 g d R u H hS hx hm hb h
    refine aL_lay_2 (by omega) (l_pick hS h0 (by decide) (by decide) (fun v a b => ?_))
    dsimp only
    exact ⟨fun _ => ex _ _ _ _ _ _ _ _ (fun k g d => Q (.inr k) g d) hS (by omega) h, fun c => absurd (by omega) c⟩
  | succ m ih =>
    intro bc bs x2 x3 g d R u H hS hx hm hb h
    refine aL_lay_2 (by omega) (l_pick hS h0 (by decide) (by decide) (fun v a b => ?_))
    dsimp only
    refine ⟨fun _ => ex _ _ _ _ _ _ _ _ (fun k g d => Q (.inr k) g d) hS (by omega) h, fun c => ⟨ik (by omega), l_pick hS h0 (by omega) (by decide) (fun v1 _ _ => ?_)⟩⟩
    dsimp only
    refine ⟨ik (by omega), ik (by omega), l_pick hS h0 (by omega) (by decide) (fun v2 _ _ => ?_)⟩
    dsimp only
    have hp : 0 < iT (v2 = 0) 200 20 ∧ iT (v2 = 0) 200 20 ≤ 200 := by rcases iT_or (p := v2 = 0) 200 20 with ⟨_, e⟩ | ⟨_, e⟩ <;> omega
    refine l_pick hS h0 (by omega) hp.1 (fun v3 _ _ => ?_)
    dsimp only
    refine ⟨ik (by omega), ik (by omega), l_pick hS h0 (by omega) (by decide) (fun v4 _ _ => ?_)⟩
    dsimp only
    refine d_setRule hS (fun _ g' d' hS' => ?_) (fun _ g' d' hS' => ?_)
    · exact ⟨ik (by omega), ih _ _ _ _ _ _ _ _ _ hS' (by omega) (by omega) (by omega) h⟩
    · exact ⟨ik (by omega), ih _ _ _ _ _ _ _ _ _ hS' (by omega) (by omega) (by omega) h⟩
theorem l_lay1 (h0 : 0 ≤ sc (-1)) : ∀ (m bc bs : Nat) (x2 x3 : Int) (g : mG) (d : mD) (R : rW) (u : Int) (H : Int → rW), KLS g d R u H sc fg 0 → 0 ≤ x3 → x3 + m = 3 → 96 * m + 1056 ≤ bc ∧ 16468 * m + 181148 ≤ bs → (∀ g' d' R' u' H', KLS g' d' R' u' H' sc fg 0 → Q (.inl 0) g' d') → pL_lay_1 bc bs x2 x3 g d Q := by
  intro m
  induction m with
  | zero =>
    intro bc bs x2 x3 g d R u H hS hx hm hb h
    refine aL_lay_1 (by omega) (l_pick hS h0 (by decide) (by decide) (fun v a b => ?_))
    dsimp only
    exact ⟨ik (by omega), fun _ => l_lay2 h0 3 _ _ _ 0 _ _ _ _ _ hS (by decide) (by decide) (by omega) h, fun c => absurd (by omega) c⟩
  | succ m ih =>
    intro bc bs x2 x3 g d R u H hS hx hm hb h
    refine aL_lay_1 (by omega) (l_pick hS h0 (by decide) (by decide) (fun v a b => ?_))
    dsimp only
    refine ⟨ik (by omega), fun _ => l_lay2 h0 3 _ _ _ 0 _ _ _ _ _ hS (by decide) (by decide) (by omega) h, fun c => ⟨ik (by omega), d_type (by decide) hS (fun d1 hS1 => ?_)⟩⟩
    dsimp only
    refine d_addParty hS1 (fun g' d' R' u' H' v hS' => ?_)
    exact ⟨ik (by omega), ih _ _ _ _ _ _ _ _ _ hS' (by omega) (by omega) (by omega) h⟩
theorem f_lay {g : mG} {d : mD} (h0 : 0 ≤ sc (-1)) (hS : KLS g d R u H sc fg 0) (h : ∀ g' d' R' u' H', KLS g' d' R' u' H' sc fg 0 → Q (.inl 0) g' d') : MM mL_lay [vR 0, (5, 0)] g d Q :=
  eL_lay (l_lay1 h0 3 _ _ _ 0 _ _ _ _ _ hS (by decide) (by decide) (by decide) h)
-- what is answered
theorem av_due {x : Int} (hR : RW R) (hx : 0 ≤ x ∧ x < R 3) : (aV (r_due R x) = -2005 ∧ dueF R x = 5000) ∨ ((1 ≤ aV (r_due R x) ∧ aV (r_due R x) ≤ 4999) ∧ aV (r_due R x) = dueF R x) := by
  unfold r_due
  rw [iO_t hx]
  rcases due_ok hR hx with h | ⟨h, -, -⟩
  · rw [iO_t h]
    exact Or.inl ⟨rfl, h⟩
  · rw [iO_f (show ¬ dueF R x = 5000 by omega)]
    exact Or.inr ⟨h, rfl⟩
theorem av_due_out {x : Int} (hx : ¬ (0 ≤ x ∧ x < R 3)) : aV (r_due R x) = -2001 := by
  unfold r_due
  rw [iO_f hx]
  rfl
theorem av_left {x : Int} (hx : 0 ≤ x ∧ x < R 3) : aV (r_left R x) = leftF R x := by
  unfold r_left
  rw [iO_t hx]
  rfl
theorem av_left_out {x : Int} (hx : ¬ (0 ≤ x ∧ x < R 3)) : aV (r_left R x) = -2001 := by
  unfold r_left
  rw [iO_f hx]
  rfl
-- areDeadlines
theorem l_dls {g : mG} (hR : RW R) : ∀ (m bc bs : Nat) (x2 : Int) (d : mD), KLS g d R u H sc fg n → 0 ≤ x2 → x2 + m = R 3 → 18 * (m + 1) ≤ bc ∧ 108 * (m + 1) ≤ bs → (∀ d', KLS g d' R u H sc fg n → Q (.inl 1) g d') → pL_areDeadlines_1 bc bs 1 x2 g d Q := by
  have h30 := hR.n.2.2.2.1
  intro m
  induction m with
  | zero =>
    intro bc bs x2 d hS hx hm hb h
    refine aL_areDeadlines_1 (by omega) (l_deadlines hS (fun d1 hS1 => ?_))
    dsimp only
    refine ⟨fun c => absurd c.1 (by omega), fun _ => ?_⟩
    refine aL_areDeadlines_3 (by omega) ⟨fun c => absurd c (by decide), fun _ => l_deadlines hS1 (fun d2 hS2 => ?_)⟩
    dsimp only
    refine a_due hS2 (fun d3 hS3 => ?_)
    dsimp only
    rw [av_due_out (R := R) (x := R 3) (by omega)]
    refine ⟨fun _ => a_leftM hS3 (fun d4 hS4 => ?_), fun c => absurd rfl c⟩
    dsimp only
    rw [av_left_out (R := R) (x := -1) (by omega), bI_t rfl]
    exact aL_areDeadlines_5 ⟨by decide, h d4 hS4⟩
  | succ m ih =>
    intro bc bs x2 d hS hx hm hb h
    have hx2 : 0 ≤ x2 ∧ x2 < R 3 := by omega
    have hl := av_left (R := R) hx2
    have hn := left_nn hR hx2
    have hd := av_due hR hx2
    have hok := due_ok hR hx2
    refine aL_areDeadlines_1 (by omega) (l_deadlines hS (fun d1 hS1 => ?_))
    dsimp only
    refine ⟨fun _ => a_due hS1 (fun d2 hS2 => ?_), fun c => absurd ⟨by omega, by decide⟩ c⟩
    dsimp only
    refine a_left hS2 (fun d3 hS3 => ?_)
    dsimp only
    refine a_dueM hS3 (fun d4 hS4 => ?_)
    dsimp only
    refine ⟨fun _ => a_leftM hS4 (fun d5 hS5 => ?_), fun c => absurd rfl c⟩
    dsimp only
    refine ⟨fun _ => ?_, fun c => absurd ⟨rfl, by omega, by omega⟩ c⟩
    refine aL_areDeadlines_2 (by omega) ⟨fun c => absurd c (by decide), fun _ => ⟨fun c => ?_, fun c => ?_⟩⟩
    · exact aL_areDeadlines_4 ⟨ik (by omega), ih _ _ (x2 + 1) d5 hS5 (by omega) (by omega) (by omega) h⟩
    · rcases hd with ⟨q1, q2⟩ | ⟨q1, q2⟩
      · omega
      · rw [q2] at q1 ⊢
        rcases hok with k | ⟨-, k2, k3⟩
        · omega
        · refine a_isCourtDay hS5 (fun d6 hS6 => ?_)
          dsimp only
          have e1 : aV (r_isCourtDay R (dueF R x2)) = 1 := by
            unfold r_isCourtDay
            rw [iO_t (by omega), bI_t k2]
            rfl
          rw [e1]
          refine ⟨fun _ => a_isStopped hS6 (fun d7 hS7 => ?_), fun c => absurd rfl c⟩
          dsimp only
          have e2 : aV (r_isStopped R x2 (dueF R x2)) = 0 := by
            unfold r_isStopped
            rw [iO_t hx2, iO_t (by omega), bI_f k3]
            rfl
          rw [e2]
          refine ⟨fun _ => l_today hS7 (fun d8 hS8 => ?_), fun c => absurd rfl c⟩
          dsimp only
          refine ⟨fun _ => aL_areDeadlines_4 ⟨ik (by omega), ih _ _ (x2 + 1) d8 hS8 (by omega) (by omega) (by omega) h⟩, fun c => absurd ?_ c⟩
          by_cases z : R 0 < dueF R x2
          · exact Or.inl z
          · exact Or.inr (by rw [hl]; exact due_left hR hx2 (by omega))
theorem f_areDeadlines {g : mG} {d : mD} (hS : KLS g d R u H sc fg n) (h : ∀ d', KLS g d' R u H sc fg n → Q (.inl 1) g d') : MM mL_areDeadlines [vR 0] g d Q := by
  have h30 := hS.w.n.2.2.2.1
  exact eL_areDeadlines (l_dls hS.w (R 3).toNat _ _ 0 d hS (by decide) (by omega) (by omega) h)
-- isOrdered
theorem od_place {i : Int} (hR : RW R) (hi : 0 ≤ i ∧ i < R 3) (oi : opn R i) : iT (aV (r_due R i) = -2005) 5000 (aV (r_due R i)) = odF R i := by
  rw [odF_o oi]
  rcases av_due hR hi with ⟨h1, h2⟩ | ⟨h1, h2⟩
  · rw [iT_t h1, h2]
  · rw [iT_f (by omega), h2]
theorem l_ord {g : mG} (hR : RW R) : ∀ (m bc bs : Nat) (x1 x3 : Int) (d : mD), KLS g d R u H sc fg n → 0 ≤ x3 → x3 + m = R 3 → 9 * (m + 1) ≤ bc ∧ 54 * (m + 1) ≤ bs → (∀ i, 0 ≤ i → i < R 3 → opn R i → rkF R i = x3 → x1 ≤ odF R i) → (∀ d', KLS g d' R u H sc fg n → Q (.inl 1) g d') → pL_isOrdered_1 bc bs x1 (min x3 (ovN R)) x3 (aV (r_openAt R x3)) 1 g d Q := by
  have h30 := hR.n.2.2.2.1
  have hov := @ov_rng R
  have fin : ∀ (bc bs : Nat) (x1 x3 : Int) (d : mD), KLS g d R u H sc fg n → 0 ≤ x3 → (∀ d', KLS g d' R u H sc fg n → Q (.inl 1) g d') → (∀ j, 0 ≤ j → j < R 3 → ¬ (opn R j ∧ rkF R j = x3)) → pL_isOrdered_3 bc bs x1 (min x3 (ovN R)) x3 (-2005) 1 g d Q := by
    intro bc bs x1 x3 d hS hx h hn
    have he := ov_end h30.1 hx hn
    refine aL_isOrdered_3 ⟨fun _ => l_overdue hS (fun d1 hS1 => ?_), fun c => absurd ⟨by decide, rfl⟩ c⟩
    dsimp only
    rw [bI_t (show min x3 (ovN R) = ovN R by omega)]
    exact aL_isOrdered_4 ⟨by decide, h d1 hS1⟩
  intro m
  induction m with
  | zero =>
    intro bc bs x1 x3 d hS hx hm hb hi h
    rcases openAt_spec (R := R) h30.1 x3 with ⟨j, q1, q2, q3, q4⟩ | ⟨q1, q2⟩
    · have := rk_last q1 q2
      omega
    · rw [q2]
      show pL_isOrdered_1 bc bs x1 (min x3 (ovN R)) x3 (-2005) 1 g d Q
      refine aL_isOrdered_1 (by omega) ⟨fun c => absurd c.1 (by decide), fun _ => ?_⟩
      exact fin _ _ _ _ _ hS hx h q1
  | succ m ih =>
    intro bc bs x1 x3 d hS hx hm hb hi h
    rcases openAt_spec (R := R) h30.1 x3 with ⟨j, q1, q2, q3, q4⟩ | ⟨q1, q2⟩
    · rw [q4]
      show pL_isOrdered_1 bc bs x1 (min x3 (ovN R)) x3 j 1 g d Q
      refine aL_isOrdered_1 (by omega) ⟨fun _ => a_due hS (fun d1 hS1 => ?_), fun c => absurd ⟨by omega, by decide⟩ c⟩
      dsimp only
      rw [od_place hR q1 q2]
      have hod := hi j q1.1 q1.2 q2 q3
      refine ⟨fun c => absurd c (by omega), fun _ => a_status hS1 (fun d2 hS2 => ?_)⟩
      dsimp only
      have es : aV (r_status R j) = 111 := by
        unfold r_status
        rw [iO_t q1]
        exact q2
      rw [es, bI_t rfl]
      refine aL_isOrdered_2 (by omega) (l_today hS2 (fun d3 hS3 => ?_))
      dsimp only
      have hp := past_iff q1 q2
      have hb0 := @bI_rng (¬ (R 0 ≤ odF R j))
      have hmin : min x3 (ovN R) + bI (¬ (R 0 ≤ odF R j)) = min (x3 + 1) (ovN R) := by
        by_cases c : R 0 ≤ odF R j
        · rw [bI_f (fun z => z c)]
          have : ¬ (rkF R j < ovN R) := fun z => by have := hp.2 z; omega
          omega
        · rw [bI_t c]
          have : rkF R j < ovN R := hp.1 (by omega)
          omega
      rw [hmin]
      refine ⟨ik (by omega), ik (by omega), a_openAt hS3 (fun d4 hS4 => ?_)⟩
      dsimp only
      exact ih _ _ _ _ _ hS4 (by omega) (by omega) (by omega) (fun i i1 i2 i3 i4 => od_next i3 q2 (by omega)) h
    · rw [q2]
      show pL_isOrdered_1 bc bs x1 (min x3 (ovN R)) x3 (-2005) 1 g d Q
      refine aL_isOrdered_1 (by omega) ⟨fun c => absurd c.1 (by decide), fun _ => ?_⟩
      exact fin _ _ _ _ _ hS hx h q1
theorem f_isOrdered {g : mG} {d : mD} (hS : KLS g d R u H sc fg n) (h : ∀ d', KLS g d' R u H sc fg n → Q (.inl 1) g d') : MM mL_isOrdered [vR 0] g d Q := by
  have hR := hS.w
  have h30 := hR.n.2.2.2.1
  have hov := @ov_rng R
  refine eL_isOrdered (a_openAt hS (fun d1 hS1 => ?_))
  dsimp only
  have t := l_ord (Q := Q) hR (R 3).toNat 297 1782 (-1) 0 d1 hS1 (by decide) (by omega) (by omega) (fun i i1 i2 i3 i4 => by have := odF_rng hR ⟨i1, i2⟩; omega) h
  rw [show min 0 (ovN R) = 0 by omega] at t
  exact t
-- areRanges
theorem f_areRanges {g : mG} {d : mD} {x2 : Int} (hS : KLS g d R u H sc fg n) (h0 : 0 ≤ sc (-1)) (h2 : 0 ≤ x2 ∧ x2 ≤ 100000) (h : ∀ d', KLS g d' R u H sc fg n → Q (.inl 1) g d') : MM mL_areRanges [vR 0, (5, 0), vI x2] g d Q := by
  have hR := hS.w
  have h30 := hR.n.2.2.2.1
  refine eL_areRanges ⟨ik (by omega), l_pick hS h0 (by omega) (by decide) (fun v1 _ _ => ?_)⟩
  dsimp only
  have hp1 : 0 < iT (v1 = 0) 60 5000 ∧ iT (v1 = 0) 60 5000 ≤ 5000 := by rcases iT_or (p := v1 = 0) 60 5000 with ⟨_, e⟩ | ⟨_, e⟩ <;> omega
  refine l_pick hS h0 (by omega) hp1.1 (fun f f1 f2 => ?_)
  dsimp only
  refine ⟨ik (by omega), ik (by omega), l_pick hS h0 (by omega) (by decide) (fun v2 _ _ => ?_)⟩
  dsimp only
  have hp2 : 0 < iT (v2 = 0) 30 5000 ∧ iT (v2 = 0) 30 5000 ≤ 5000 := by rcases iT_or (p := v2 = 0) 30 5000 with ⟨_, e⟩ | ⟨_, e⟩ <;> omega
  refine l_pick hS h0 (by omega) hp2.1 (fun w w1 w2 => ?_)
  dsimp only
  refine ⟨ik (by omega), ik (by omega), l_pick hS h0 (by omega) (by decide) (fun r r1 r2 => ?_)⟩
  dsimp only
  refine ⟨ik (by omega), l_deadlines hS (fun d1 hS1 => ?_)⟩
  dsimp only
  refine ⟨ik (by omega), l_pick hS1 h0 (by omega) (by omega) (fun dl _ _ => ?_)⟩
  dsimp only
  refine a_courtDays hS1 (fun d2 hS2 => ?_)
  dsimp only
  refine a_courtDaysM hS2 (fun d3 hS3 => ?_)
  dsimp only
  refine ⟨fun _ _ _ => ik (by omega), fun _ _ _ => ik (by omega), ?_⟩
  have hc : (¬ f + w ≤ 4999 ∧ aV (r_courtDays R f (f + w)) = -2002) ∨ (f + w ≤ 4999 ∧ 0 ≤ aV (r_courtDays R f (f + w)) ∧ aV (r_courtDays R f (f + w)) ≤ w + 1) := by
    unfold r_courtDays
    by_cases c : f + w ≤ 4999
    · rw [iO_t (by omega)]
      have := cn_rng (P := court R) (a := f) (b := f + w) (by omega)
      exact Or.inr ⟨c, this.1, by show cn (court R) f (f + w) ≤ w + 1; omega⟩
    · rw [iO_f (by omega)]
      exact Or.inl ⟨c, rfl⟩
  refine ⟨fun _ => ?_, fun c => absurd ⟨rfl, by omega⟩ c⟩
  refine aL_areRanges_1 (by omega) (a_stopped hS3 (fun d4 hS4 => ?_))
  dsimp only
  refine a_stoppedM hS4 (fun d5 hS5 => ?_)
  dsimp only
  rw [bI_t rfl]
  refine aL_areRanges_2 (by omega) (a_back hS5 (fun d6 hS6 => ?_))
  dsimp only
  have hbk : aV (r_lastDayBefore R r f) = -2005 ∨ (0 ≤ aV (r_lastDayBefore R r f) ∧ aV (r_lastDayBefore R r f) < f ∧ court R (aV (r_lastDayBefore R r f))) := by
    unfold r_lastDayBefore
    rw [iO_t (by omega), iO_t (by omega)]
    by_cases c : 0 ≤ bkF R f (R (119 + 2 * r)) (R (120 + 2 * r))
    · rw [iO_t c]
      have := bkF_ok f1 c
      exact Or.inr ⟨c, this.1, this.2⟩
    · rw [iO_f c]
      exact Or.inl rfl
  have go : ∀ (bc bs : Nat) (x6 x7 x8 x9 : Int) (d' : mD), KLS g d' R u H sc fg n → 9 ≤ bc ∧ 54 ≤ bs → pL_areRanges_3 bc bs x2 f (f + w) r x6 x7 x8 x9 1 g d' Q := by
    intro bc bs x6 x7 x8 x9 d' hS' hb
    refine aL_areRanges_3 hb ⟨fun c => absurd c (by decide), fun _ => ⟨ik (by omega), a_courtDays hS' (fun d7 hS7 => ?_)⟩⟩
    dsimp only
    have e1 : aV (r_courtDays R (f + w) (f - 1)) = -2002 := by
      unfold r_courtDays
      rw [iO_f (by omega)]
      rfl
    rw [e1]
    refine ⟨fun _ => a_back hS7 (fun d8 hS8 => ?_), fun c => absurd rfl c⟩
    dsimp only
    have e2 : aV (r_lastDayBefore R 8 f) = -2001 := by
      unfold r_lastDayBefore
      rw [iO_f (by omega)]
      rfl
    rw [e2]
    refine ⟨fun _ => a_backM hS8 (fun d9 hS9 => ?_), fun c => absurd rfl c⟩
    dsimp only
    have e3 : aV (r_lastDayBefore R r 5000) = -2002 := by
      unfold r_lastDayBefore
      rw [iO_t (by omega), iO_f (by omega)]
      rfl
    rw [e3, bI_t rfl]
    exact aL_areRanges_4 ⟨by decide, h d9 hS9⟩
  refine ⟨fun c => absurd c (by decide), fun _ => a_backM hS6 (fun d7 hS7 => ?_)⟩
  dsimp only
  refine ⟨fun _ => ⟨fun c => go _ _ _ _ _ _ _ hS7 (by omega), fun c => ⟨fun _ => ?_, fun c2 => absurd ⟨by omega, by omega⟩ c2⟩⟩, fun c => absurd rfl c⟩
  rcases hbk with q | ⟨q1, q2, q3⟩
  · exact absurd q c
  · refine a_isCourtDay hS7 (fun d8 hS8 => ?_)
    dsimp only
    have e1 : aV (r_isCourtDay R (aV (r_lastDayBefore R r f))) = 1 := by
      unfold r_isCourtDay
      rw [iO_t (by omega), bI_t q3]
      rfl
    rw [e1]
    exact ⟨fun _ => go _ _ _ _ _ _ _ hS8 (by omega), fun c => absurd rfl c⟩
-- isConduct
theorem av_same {x y : Int} (hR : RW R) : aV (r_same R x y) = aV (r_same R y x) := by
  unfold r_same
  by_cases c : (0 ≤ x ∧ x < R 5) ∧ (0 ≤ y ∧ y < R 5)
  · rw [iO_t c, iO_t ⟨c.2, c.1⟩, bI_cg ⟨fun q => conn_sy hR c.1 q, fun q => conn_sy hR c.2 q⟩]
  · rw [iO_f c, iO_f (fun q => c ⟨q.2, q.1⟩)]
theorem av_self {x : Int} : ¬ aV (r_same R x x) = 0 := by
  unfold r_same
  by_cases c : (0 ≤ x ∧ x < R 5) ∧ (0 ≤ x ∧ x < R 5)
  · rw [iO_t c, bI_t conn_rf]
    exact (by decide : ¬ ((1 : Int) = 0))
  · rw [iO_f c]
    exact (by decide : ¬ ((-2001 : Int) = 0))
theorem l_cond {g : mG} (hR : RW R) : ∀ (m bc bs : Nat) (x2 : Int) (d : mD), KLS g d R u H sc fg n → 0 ≤ x2 → x2 + m = 36 → 9 * (m + 1) ≤ bc ∧ 54 * (m + 1) ≤ bs → (∀ d', KLS g d' R u H sc fg n → Q (.inl 1) g d') → pL_isConduct_1 bc bs 1 x2 g d Q := by
  intro m
  induction m with
  | zero =>
    intro bc bs x2 d hS hx hm hb h
    exact aL_isConduct_1 (by omega) ⟨fun c => absurd c.1 (by omega), fun _ => aL_isConduct_3 ⟨by decide, h d hS⟩⟩
  | succ m ih =>
    intro bc bs x2 d hS hx hm hb h
    refine aL_isConduct_1 (by omega) ⟨fun _ => ⟨hx, a_same hS (fun d1 hS1 => ?_)⟩, fun c => absurd ⟨by omega, by decide⟩ c⟩
    dsimp only
    refine a_sameS hS1 (fun d2 hS2 => ?_)
    dsimp only
    refine ⟨fun _ => a_same hS2 (fun d3 hS3 => ?_), fun c => absurd rfl c⟩
    dsimp only
    refine ⟨fun _ => aL_isConduct_2 ⟨ik (by omega), ih _ _ (x2 + 1) d3 hS3 (by omega) (by omega) (by omega) h⟩, fun c => absurd ⟨av_same hR, ?_⟩ c⟩
    by_cases e : x2 / 6 = x2 % 6
    · rw [e]
      exact Or.inr av_self
    · exact Or.inl e
theorem f_isConduct {g : mG} {d : mD} (hS : KLS g d R u H sc fg n) (h : ∀ d', KLS g d' R u H sc fg n → Q (.inl 1) g d') : MM mL_isConduct [vR 0] g d Q :=
  eL_isConduct (l_cond hS.w 36 333 1998 0 d hS (by decide) (by decide) (by omega) h)
-- print
noncomputable def prN (R : rW) : Nat → Int → Int → Int
  | 0, _, x => wI (wI (31 * x) + sfN R)
  | m + 1, k, x => prN R m (k + 1) (wI (wI (31 * wI (wI (31 * wI (wI (31 * x) + aV (r_due R k))) + aV (r_left R k))) + aV (r_status R k)))
noncomputable def prF (R : rW) : Int := prN R (R 3).toNat 0 (R 0)
theorem l_print {g : mG} (hR : RW R) : ∀ (m bc bs : Nat) (x1 x2 : Int) (d : mD), KLS g d R u H sc fg n → 0 ≤ x2 → x2 + m = R 3 → 9 * (m + 1) ≤ bc ∧ 54 * (m + 1) ≤ bs → (∀ d', KLS g d' R u H sc fg n → Q (.inl (prN R m x2 x1)) g d') → pL_print_1 bc bs x1 x2 g d Q := by
  have h30 := hR.n.2.2.2.1
  intro m
  induction m with
  | zero =>
    intro bc bs x1 x2 d hS hx hm hb h
    refine aL_print_1 (by omega) (l_deadlines hS (fun d1 hS1 => ?_))
    dsimp only
    refine ⟨fun _ => l_staysInForce hS1 (fun d2 hS2 => ?_), fun c => absurd (by omega) c⟩
    exact h d2 hS2
  | succ m ih =>
    intro bc bs x1 x2 d hS hx hm hb h
    refine aL_print_1 (by omega) (l_deadlines hS (fun d1 hS1 => ?_))
    dsimp only
    refine ⟨fun c => absurd c (by omega), fun _ => a_due hS1 (fun d2 hS2 => ?_)⟩
    dsimp only
    refine a_left hS2 (fun d3 hS3 => ?_)
    dsimp only
    refine a_status hS3 (fun d4 hS4 => ?_)
    dsimp only
    exact ⟨ik (by omega), ih _ _ _ (x2 + 1) d4 hS4 (by omega) (by omega) (by omega) h⟩
theorem f_print {g : mG} {d : mD} (hS : KLS g d R u H sc fg n) (h : ∀ d', KLS g d' R u H sc fg n → Q (.inl (prF R)) g d') : MM mL_print [vR 0] g d Q := by
  have h30 := hS.w.n.2.2.2.1
  refine eL_print (l_today hS (fun d1 hS1 => ?_))
  dsimp only
  exact l_print hS.w (R 3).toNat 300 1800 _ 0 d1 hS1 (by decide) (by omega) (by omega) h
-- isUndone
theorem push_top {K : Int → rW} (hu : 0 ≤ u ∧ u ≤ 8) : hPush u R K (min 8 (u + 1) - 1) = R := by
  unfold hPush
  by_cases e : u = 8
  · rw [if_pos e, if_neg (by omega)]
  · rw [if_neg e, if_neg (by omega)]
theorem f_isUndone {g : mG} {d : mD} {x2 : Int} (hS : KLS g d R u H sc fg n) (h0 : 0 ≤ sc (-1)) (h2 : 0 ≤ x2 ∧ x2 ≤ 100000) (h : ∀ g' d' u' H', KLS g' d' R u' H' sc fg n → Q (.inl 1) g' d') : MM mL_isUndone [vR 0, (5, 0), vI x2, vI (prF R)] g d Q := by
  have hu := hS.ur
  refine eL_isUndone (f_any hS h0 h2 (fun v z g' d' hS' => ?_) (fun v z g' d' R' hS' => ?_))
  · refine ⟨fun c => absurd c (by omega), fun _ => f_print hS' (fun d1 hS1 => ?_)⟩
    dsimp only
    rw [bI_t rfl]
    exact h _ _ _ _ hS1
  · refine ⟨fun _ => d_undo hS' (by omega) (fun g1 d1 hS1 => ?_), fun c => absurd z c⟩
    rw [push_top hu] at hS1
    refine ⟨fun c => absurd c (by omega), fun _ => f_print hS1 (fun d2 hS2 => ?_)⟩
    dsimp only
    rw [bI_t rfl]
    exact h _ _ _ _ hS2
end
