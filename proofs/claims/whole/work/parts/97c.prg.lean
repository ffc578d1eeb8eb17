-- the class reads a program
def FrO (d d' : mD) : Prop := ∀ b j : Int, ¬ (b = 60 ∧ (j = 4 ∨ j = 5)) → ¬ (61 ≤ b ∧ b ≤ 64) → d' b j = d b j
theorem FrPc.o {c : Int} {d d' : mD} (h : FrPc c d d') : FrO d d' := fun b j q q2 => h b j q (fun z => q2 z.2)
theorem FrO.tr {d d' d'' : mD} (h : FrO d d') (h2 : FrO d' d'') : FrO d d'' := fun b j q q2 => (h2 b j q q2).trans (h b j q q2)
theorem CmC.fr {d d' : mD} {T : rW} {n k p : Int} (h : CmC d T n k p) (hf : ∀ b, 61 ≤ b → b ≤ 64 → d' b k = d b k) : CmC d' T n k p := by
  obtain ⟨h1, h2, h3, h4⟩ := h
  exact ⟨(hf 61 (by decide) (by decide)).trans h1, (hf 62 (by decide) (by decide)).trans h2, fun z => (hf 63 (by decide) (by decide)).trans (h3 z), fun z => (hf 64 (by decide) (by decide)).trans (h4 z)⟩
theorem q_parse {T : rW} {n : Int} {g : mG} {d : mD} {Q : mQ} (hn : 0 ≤ n ∧ n ≤ 60) (hT : ∀ j, 0 ≤ j → j < n → 0 ≤ T j ∧ T j ≤ 65535) (e2 : d 2 = T) (e1 : d 1 1 = n) (he : ∀ d', FrO d d' → ¬ pgOk T n → Q (.inl (pgF T n).1.1) g d') (hv : ∀ d', FrO d d' → pgOk T n → d' 60 4 = (pgF T n).2 → (1 ≤ (pgF T n).2 ∧ (pgF T n).2 ≤ 15) → (∀ k, 0 ≤ k → k < (pgF T n).2 → CmC d' T n k (psP T n k.toNat)) → Q (.inl (-1)) g d') : MM mX6_parse [vR 60, vR 1] g d Q := by
  have hl : ∀ (m : Nat) (c p : Int) (d' : mD), 0 ≤ c → (0 ≤ p ∧ p ≤ n) → 4 * c ≤ p → n < p + 4 * m + 4 → p = psP T n c.toNat → FrO d d' → d' 60 5 = (cmS T n p).1 → ((cmS T n p).2 = 0 → d' 60 4 = c + 1 ∧ CmC d' T n c p) → (∀ k, 0 ≤ k → k < c → CmC d' T n k (psP T n k.toNat)) → pgN T n m p c = pgF T n → pX6_parse_1 (bI ((cmS T n p).2 = 0)) (c + 1) g d' Q := by
    intro m
    induction m with
    | zero =>
      intro c p d' hc hp h4 hm hps hf f5 hkc hk hN
      have ok := cmS_ok (T := T) hp
      obtain ⟨w1, w2⟩ := ok.1
      have hN' : (cmS T n p, c + 1) = pgF T n := hN
      have f1 : d' 1 1 = n := (hf 1 1 (by omega) (by omega)).trans e1
      refine aX6_parse_1 ⟨fun z => ?_, fun z => ?_⟩
      · have z1 : (cmS T n p).2 = 0 := bI_n0.1 z.1
        have z2 := z.2.1
        rw [f1, f5] at z2
        have := ok.2 z1
        omega
      · rw [f1, f5] at z ⊢
        by_cases z1 : (cmS T n p).2 = 0
        · have h3 := ok.2 z1
          have hge : n ≤ (cmS T n p).1 := by omega
          have hpk : pgOk T n := by unfold pgOk; rw [← hN']; exact ⟨z1, hge⟩
          rw [bI_t z1, iT_f (by decide), iT_t (by omega)]
          refine hv d' hf hpk ?_ ?_ (fun k q1 q2 => ?_)
          · rw [← hN']; exact (hkc z1).1
          · rw [← hN']; exact ⟨by show 1 ≤ c + 1; omega, by show c + 1 ≤ 15; omega⟩
          · rw [← hN'] at q2
            have q2' : k < c + 1 := q2
            by_cases ck : k = c
            · subst ck; rw [← hps]; exact (hkc z1).2
            · exact hk k q1 (by omega)
        · have hpk : ¬ pgOk T n := by unfold pgOk; rw [← hN']; exact fun y => z1 y.1
          rw [bI_f z1, iT_t rfl]
          have := he d' hf hpk
          rwa [← hN'] at this
    | succ m ih =>
      intro c p d' hc hp h4 hm hps hf f5 hkc hk hN
      have ok := cmS_ok (T := T) hp
      obtain ⟨w1, w2⟩ := ok.1
      have f1 : d' 1 1 = n := (hf 1 1 (by omega) (by omega)).trans e1
      have f2 : d' 2 = T := (funext fun j => hf 2 j (by omega) (by omega)).trans e2
      refine aX6_parse_1 ⟨fun z => ?_, fun z => ?_⟩
      · have z1 : (cmS T n p).2 = 0 := bI_n0.1 z.1
        have z2 := z.2.1
        have h3 := ok.2 z1
        rw [f1, f5] at z2
        obtain ⟨g1, g2⟩ := q_sign (T := T) hn hT w1.1
        rw [f2, f1, f5]
        refine ⟨g1, g2, fun y => ⟨ik (by omega), ?_⟩, fun y => ?_⟩
        · have y' : sgF T n (cmS T n p).1 = 59 := y
          rw [pgN_s, if_pos ⟨z1, y'⟩] at hN
          refine q_readCommand (T := T) (n := n) (p := (cmS T n p).1 + 1) (c := c + 1) hn hT (by omega) ⟨by rw [ud_row (by decide)]; exact f2, by rw [ud_ne (by omega)]; exact f1, ud_same _ _ _ _⟩ (by rw [ud_ne (by omega)]; exact (hkc z1).1) (by omega) (fun d2 fp h52 hd2 => ?_)
          refine ⟨ik (by omega), ?_⟩
          show pX6_parse_1 (bI (¬ (bI ((cmS T n ((cmS T n p).1 + 1)).2 = 0) = 0))) (c + 1 + 1) g d2 Q
          rw [bI_cg bI_n0]
          have f72 : ∀ b k, 61 ≤ b → b ≤ 64 → k < c + 1 → d2 b k = d' b k := fun b k q1 q2 q3 => (fp b k (by omega) (by omega)).trans (ud_ne (by omega))
          refine ih (c + 1) _ d2 (by omega) (by omega) (by omega) (by omega) (by rw [show (c + 1).toNat = c.toNat + 1 by omega, hps]; rfl) (hf.tr (fun b j q1 q2 => (fp.o b j q1 q2).trans (ud_ne (by omega)))) h52 hd2 (fun k q1 q2 => ?_) hN
          by_cases ck : k = c
          · subst ck
            rw [← hps]
            exact (hkc z1).2.fr (fun b q3 q4 => f72 b k q3 q4 (by omega))
          · exact (hk k q1 (by omega)).fr (fun b q3 q4 => f72 b k q3 q4 (by omega))
        · have y' : ¬ sgF T n (cmS T n p).1 = 59 := y
          have hN' : (cmS T n p, c + 1) = pgF T n := (pgN_stop (fun q => y' q.2)).symm.trans hN
          have hpk : ¬ pgOk T n := by unfold pgOk; rw [← hN']; exact fun q => z2 q.2
          refine ⟨ik (by omega), ?_⟩
          refine aX6_parse_1 ⟨fun q => absurd rfl q.1, fun _ => ?_⟩
          rw [iT_t rfl, f5]
          have := he d' hf hpk
          rwa [← hN'] at this
      · rw [f1, f5] at z ⊢
        by_cases z1 : (cmS T n p).2 = 0
        · have h3 := ok.2 z1
          have hge : n ≤ (cmS T n p).1 := by
            rcases Int.lt_or_le (cmS T n p).1 n with a | a
            · exact absurd ⟨bI_n0.2 z1, by omega, by omega⟩ z
            · exact a
          have hN' : (cmS T n p, c + 1) = pgF T n := (pgN_stop (fun q => by
            have q2 := q.2
            rw [sgF_out hge w1.1] at q2
            exact absurd q2 (by decide))).symm.trans hN
          have hpk : pgOk T n := by unfold pgOk; rw [← hN']; exact ⟨z1, hge⟩
          rw [bI_t z1, iT_f (by decide), iT_t (by omega)]
          refine hv d' hf hpk ?_ ?_ (fun k q1 q2 => ?_)
          · rw [← hN']; exact (hkc z1).1
          · rw [← hN']; exact ⟨by show 1 ≤ c + 1; omega, by show c + 1 ≤ 15; omega⟩
          · rw [← hN'] at q2
            have q2' : k < c + 1 := q2
            by_cases ck : k = c
            · subst ck; rw [← hps]; exact (hkc z1).2
            · exact hk k q1 (by omega)
        · have hN' : (cmS T n p, c + 1) = pgF T n := (pgN_stop (fun q => z1 q.1)).symm.trans hN
          have hpk : ¬ pgOk T n := by unfold pgOk; rw [← hN']; exact fun y => z1 y.1
          rw [bI_f z1, iT_t rfl]
          have := he d' hf hpk
          rwa [← hN'] at this
  refine eX6_parse ?_
  refine q_readCommand (T := T) (n := n) (p := 0) (c := 0) hn hT (by omega) ⟨by rw [ud_row (by decide), ud_row (by decide)]; exact e2, by rw [ud_ne (by omega), ud_ne (by omega)]; exact e1, ud_same _ _ _ _⟩ (by rw [ud_ne (by omega), ud_same]) (by decide) (fun d2 fp h52 hd2 => ?_)
  show pX6_parse_1 (bI ((cmS T n 0).2 = 0)) 1 g d2 Q
  exact hl 60 0 0 d2 (Int.le_refl _) (by omega) (by decide) (by omega) rfl (fun b j q1 q2 => (fp.o b j q1 q2).trans (by rw [ud_ne (by omega), ud_ne (by omega)])) h52 hd2 (fun k q1 q2 => by omega) rfl
