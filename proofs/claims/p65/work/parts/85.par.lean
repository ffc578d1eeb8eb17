-- parties
theorem psN_lt {T : rW} {n : Int} : ∀ (m : Nat) (c p : Int), 0 ≤ c → p = psN T n c.toNat → (∀ k, 0 ≤ k → k < c → psN T n k.toNat < n) → ∀ k, 0 ≤ k → k < rdN T n m p c → psN T n k.toNat < n := by
  intro m
  induction m with
  | zero => intro c p _ _ h k q1 q2; exact h k q1 q2
  | succ m ih =>
    intro c p hc hp h k q1 q2
    rw [rdN_s] at q2
    by_cases c1 : n ≤ p
    · rw [iT_t c1] at q2; exact h k q1 q2
    · rw [iT_f c1] at q2
      by_cases c2 : 8 ≤ c ∨ bdP T n p
      · rw [iT_t c2] at q2; omega
      · rw [iT_f c2] at q2
        refine ih (c + 1) _ (by omega) (by rw [psN_s hc, ← hp]) (fun k' q3 q4 => ?_) k q1 q2
        by_cases c3 : k' = c
        · subst c3; omega
        · exact h k' q3 (by omega)
theorem psN_nn {T : rW} {n : Int} : ∀ (k : Nat), 0 ≤ psN T n k := by
  intro k
  induction k with
  | zero => exact Int.le_refl _
  | succ k ih =>
    show 0 ≤ psN T n k + wdF T n (psN T n k)
    have : 1 ≤ wdF T n (psN T n k) := by
      unfold wdF
      rcases iT_or (p := prP T n (psN T n k)) 2 1 with ⟨_, b⟩ | ⟨_, b⟩ <;> omega
    omega
theorem cdP_rng {T : rW} {n k : Int} (hT : ∀ j, 0 ≤ j → j < n → 0 ≤ T j ∧ T j ≤ 65535) (hk : 0 ≤ k ∧ k < rdF T n) : 0 ≤ cdP T n k ∧ cdP T n k ≤ 1114111 := by
  have hl := psN_lt (T := T) (n := n) 61 0 0 (Int.le_refl _) rfl (fun k q1 q2 => by omega) k hk.1 hk.2
  have hp := hT _ (psN_nn (T := T) (n := n) k.toNat) hl
  unfold cdP cpF
  by_cases c : prP T n (psN T n k.toNat)
  · rw [iT_t c]
    obtain ⟨c1, c2, c3⟩ := c
    omega
  · rw [iT_f c]; omega
theorem nmN_cg {R : rW} {N N' : Int → Int} {L : Int} (h : ∀ k, 0 ≤ k → k < L → N k = N' k) : ∀ (m : Nat) (p : Int), nmN R N L m p = nmN R N' L m p := by
  intro m
  induction m with
  | zero => intro p; rfl
  | succ m ih =>
    intro p
    have e : nmd R N p L ↔ nmd R N' p L := by
      unfold nmd
      refine and_congr_right fun _ => ⟨fun q k hk => ?_, fun q k hk => ?_⟩
      · rw [← h k hk.1 hk.2]; exact q k hk
      · rw [h k hk.1 hk.2]; exact q k hk
    unfold nmN
    rw [ih, propext e]
theorem nmF_cg {R : rW} {N N' : Int → Int} {L : Int} (h : ∀ k, 0 ≤ k → k < L → N k = N' k) : nmF R N L = nmF R N' L := nmN_cg h 9 0
def apR (R : rW) (N : Int → Int) (L : Int) : rW := fun j => if j = 1 then R 1 + 1 else if j = 7 + 9 * R 1 then L else if 8 + 9 * R 1 ≤ j ∧ j < 8 + 9 * R 1 + L then N (j - (8 + 9 * R 1)) else R j
theorem apR_1 {R : rW} {N : Int → Int} {L : Int} : apR R N L 1 = R 1 + 1 := if_pos rfl
theorem apR_L {R : rW} {N : Int → Int} {L : Int} (h : 0 ≤ R 1) : apR R N L (7 + 9 * R 1) = L := by
  unfold apR; rw [if_neg (by omega), if_pos rfl]
theorem apR_k {R : rW} {N : Int → Int} {L k : Int} (h : 0 ≤ R 1) (hk : 0 ≤ k ∧ k < L) : apR R N L (8 + 9 * R 1 + k) = N k := by
  unfold apR; rw [if_neg (by omega), if_neg (by omega), if_pos (by omega), show 8 + 9 * R 1 + k - (8 + 9 * R 1) = k by omega]
theorem apR_ne {R : rW} {N : Int → Int} {L j : Int} (h : ¬ j = 1) (h2 : ¬ (7 + 9 * R 1 ≤ j ∧ j < 8 + 9 * R 1 + L)) (hL : 0 ≤ L) : apR R N L j = R j := by
  unfold apR; rw [if_neg h, if_neg (by omega), if_neg (by omega)]
noncomputable def st_addParty (R : rW) (N : Int → Int) (L : Int) : Int × rW := sO (L = 0) (-2, R) (sO (R 1 < 8 ∧ nmF R N L = -1) (R 1, apR R N L) (-3, R))
theorem w_addParty {R : rW} {N : Int → Int} {L : Int} (hR : RW R) (h1 : R 1 < 8) (hL : 1 ≤ L ∧ L ≤ 8) (hN : ∀ k, 0 ≤ k → k < L → 0 ≤ N k ∧ N k ≤ 1114111) : RW (apR R N L) := by
  have n1 := hR.n.2.1
  refine hR.gpar (fun j q => apR_ne (by omega) (by omega) (by omega)) (by rw [apR_1]; omega) (fun p hp => ?_)
  rw [apR_1] at hp
  by_cases c : p = R 1
  · subst c
    rw [apR_L n1.1]
    exact ⟨hL, fun k hk => by rw [apR_k n1.1 hk]; exact hN k hk.1 hk.2⟩
  · have h := hR.p p (by omega)
    rw [apR_ne (j := 7 + 9 * p) (by omega) (by omega) (by omega)]
    exact ⟨h.1, fun k hk => by rw [apR_ne (by omega) (by omega) (by omega)]; exact h.2 k hk⟩
def FrP (d d' : mD) : Prop := ∀ b j : Int, ¬ (5 ≤ b ∧ b ≤ 59) → ¬ (b = 1 ∧ j = 1) → d' b j = d b j
theorem t_addParty {R : rW} {g : mG} {d : mD} {Q : mQ} (hC : CI d R) (hn : 0 ≤ d 1 1 ∧ d 1 1 ≤ 60) (hT : ∀ j, 0 ≤ j → j < d 1 1 → 0 ≤ d 2 j ∧ d 2 j ≤ 65535) (h : ∀ d', FrP d d' → d' 1 1 = 0 → CI d' (st_addParty R (cdP (d 2) (d 1 1)) (rdF (d 2) (d 1 1))).2 → Q (.inl (st_addParty R (cdP (d 2) (d 1 1)) (rdF (d 2) (d 1 1))).1) g d') : MM mX11_tryAddParty [vR 0] g d Q := by
  have hR := hC.w
  have n1 := hR.n.2.1
  refine eX11_tryAddParty (R := R) (q_readName hn hT fun d4 hf hL hN => ?_)
  have hcd := fun k (q1 : 0 ≤ k) (q2 : k < rdF (d 2) (d 1 1)) => cdP_rng (n := d 1 1) hT ⟨q1, q2⟩
  generalize rdF (d 2) (d 1 1) = L at *
  generalize cdP (d 2) (d 1 1) = N at *
  have fr0 : FrP d (ud d4 1 1 0) := fun b j q1 q2 => by rw [ud_ne (by omega)]; exact hf b j (by omega)
  have hC4 : CI (ud d4 1 1 0) R := hC.fr (fun b j q1 q2 => by rw [ud_ne (by omega)]; exact hf b j (by omega))
  have e1 : d4 7 2 = R 1 := (hf 7 2 (by decide)).trans hC.par.1
  have hnm : nmF R (d4 5) L = nmF R N L := nmF_cg hN
  dsimp only
  rw [e1, hnm]
  refine ⟨fun c => ?_, fun c => ⟨fun _ => hC4, fun _ => hL, fun c2 => ?_, fun c2 => ⟨fun c3 => ⟨ik (by omega), by omega, by omega, ik (by omega), ik (by omega), ?_⟩, fun c3 => absurd c3 (by omega)⟩⟩⟩
  · have hs : st_addParty R N L = (-2, R) := sO_t c
    rw [hs] at h
    exact h _ fr0 (ud_same _ _ _ _) hC4
  · have hs : st_addParty R N L = (-3, R) := by
      unfold st_addParty
      rw [sO_f c, sO_f (by omega)]
    rw [hs] at h
    exact h _ fr0 (ud_same _ _ _ _) hC4
  · have hs : st_addParty R N L = (R 1, apR R N L) := by
      unfold st_addParty
      rw [sO_f c, sO_t (by omega)]
    rw [hs] at h
    dsimp only at h
    rw [show R 1 + 1 - 1 = R 1 by omega]
    have hcp : ∀ b j : Int, b ≠ 8 → cpy (ud d4 1 1 0) 5 8 0 (R 1 * 8) 8 b j = ud d4 1 1 0 b j := fun b j q => by rw [cpy_row q]
    have hcp8 : ∀ j : Int, cpy (ud d4 1 1 0) 5 8 0 (R 1 * 8) 8 8 j = if R 1 * 8 ≤ j ∧ j < R 1 * 8 + 8 then d4 5 (j - R 1 * 8) else d4 8 j := fun j => by
      unfold cpy
      by_cases c5 : R 1 * 8 ≤ j ∧ j < R 1 * 8 + 8
      · rw [if_pos ⟨rfl, c5.1, c5.2⟩, if_pos c5, ud_ne (by omega), Int.zero_add]
      · rw [if_neg (fun z => c5 ⟨z.2.1, z.2.2⟩), if_neg c5, ud_ne (by omega)]
    refine h _ (fun b j q1 q2 => ?_) ?_ (hC.gpar (w_addParty hR (by omega) (by omega) hcd) (fun j q => apR_ne (by omega) (by omega) (by omega)) (fun k j q1 q2 q3 => ?_) ⟨?_, fun p hp => ?_⟩)
    · rw [ud_ne (by omega), ud_ne (by omega), hcp b j (by omega)]
      exact fr0 b j q1 q2
    · rw [ud_ne (by omega), ud_ne (by omega), hcp 1 1 (by omega), ud_same]
    · rw [ud_ne (by omega), ud_ne (by omega), hcp k j (by omega), ud_ne (by omega)]
      exact hf k j (by omega)
    · rw [ud_same, apR_1]
    · rw [apR_1] at hp
      by_cases c5 : p = R 1
      · subst c5
        rw [apR_L n1.1]
        refine ⟨by rw [ud_ne (by omega), ud_same], fun k hk => ?_⟩
        rw [ud_ne (by omega), ud_ne (by omega), hcp8, if_pos (by omega), apR_k n1.1 hk, show R 1 * 8 + k - R 1 * 8 = k by omega]
        exact hN k hk.1 hk.2
      · obtain ⟨a1, a2⟩ := hC.par.2 p (by omega)
        have hl := (hR.p p (by omega)).1
        rw [apR_ne (j := 7 + 9 * p) (by omega) (by omega) (by omega)]
        refine ⟨?_, fun k hk => ?_⟩
        · rw [ud_ne (by omega), ud_ne (by omega), hcp 9 p (by omega), ud_ne (by omega), hf 9 p (by omega)]
          exact a1
        · rw [ud_ne (by omega), ud_ne (by omega), hcp8, if_neg (by omega), apR_ne (by omega) (by omega) (by omega), hf 8 _ (by omega)]
          exact a2 k hk
