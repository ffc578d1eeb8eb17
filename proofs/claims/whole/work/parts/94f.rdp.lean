-- a program, reference
noncomputable def psP (T : rW) (n : Int) : Nat → Int
  | 0 => 0
  | k + 1 => (cmS T n (psP T n k)).1 + 1
noncomputable def pgN (T : rW) (n : Int) : Nat → Int → Int → Ps × Int
  | 0, p, c => (cmS T n p, c + 1)
  | f + 1, p, c => @ite _ ((cmS T n p).2 = 0 ∧ sgF T n (cmS T n p).1 = 59) (Classical.propDecidable _) (pgN T n f ((cmS T n p).1 + 1) (c + 1)) (cmS T n p, c + 1)
noncomputable def pgF (T : rW) (n : Int) : Ps × Int := pgN T n 60 0 0
theorem pgN_s {T : rW} {n p c : Int} {f : Nat} : pgN T n (f + 1) p c = @ite _ ((cmS T n p).2 = 0 ∧ sgF T n (cmS T n p).1 = 59) (Classical.propDecidable _) (pgN T n f ((cmS T n p).1 + 1) (c + 1)) (cmS T n p, c + 1) := rfl
theorem pgN_stop {T : rW} {n p c : Int} {f : Nat} (h : ¬ ((cmS T n p).2 = 0 ∧ sgF T n (cmS T n p).1 = 59)) : pgN T n f p c = (cmS T n p, c + 1) := by
  cases f with
  | zero => rfl
  | succ f => rw [pgN_s, if_neg h]
def pgOk (T : rW) (n : Int) : Prop := (pgF T n).1.2 = 0 ∧ n ≤ (pgF T n).1.1
def CmD (d : mD) (T : rW) (n k p : Int) : Prop := d 72 (4 * k) = ltF (vb T n p) ∧ d 72 (4 * k + 1) = vlA T n (vb T n p) (wS T n (vb T n p) p).1 ∧ (vb T n p = 0 ∨ vb T n p = 4 → d 72 (4 * k + 2) = vlB T n (vb T n p) (wS T n (vb T n p) p).1) ∧ (vb T n p = 0 → d 72 (4 * k + 3) = sgF T n (sv2 T n (wS T n (vb T n p) p).1).1)
theorem CmD.fr {d d' : mD} {T : rW} {n k p : Int} (h : CmD d T n k p) (hf : ∀ j, 4 * k ≤ j → j < 4 * k + 4 → d' 72 j = d 72 j) : CmD d' T n k p := by
  obtain ⟨h1, h2, h3, h4⟩ := h
  exact ⟨(hf _ (by omega) (by omega)).trans h1, (hf _ (by omega) (by omega)).trans h2, fun z => (hf _ (by omega) (by omega)).trans (h3 z), fun z => (hf _ (by omega) (by omega)).trans (h4 z)⟩
def FrG (d d' : mD) : Prop := ∀ b j : Int, ¬ (b = 65 ∧ (j = 15 ∨ j = 17 ∨ j = 18)) → b ≠ 72 → d' b j = d b j
theorem FrG.tr {d d' d'' : mD} (h : FrG d d') (h2 : FrG d' d'') : FrG d d'' := fun b j q q2 => (h2 b j q q2).trans (h b j q q2)
theorem m_readProgram {T : rW} {n : Int} {g : mG} {d : mD} {Q : mQ} (hn : 0 ≤ n ∧ n ≤ 60) (e69 : d 69 = T) (e7 : d 65 7 = n) (h : ∀ d', FrG d d' → d' 65 17 = (pgF T n).1.1 → (pgOk T n → d' 65 15 = (pgF T n).2 ∧ (1 ≤ (pgF T n).2 ∧ (pgF T n).2 ≤ 15) ∧ ∀ k, 0 ≤ k → k < (pgF T n).2 → CmD d' T n k (psP T n k.toNat)) → Q (.inl (bI (pgOk T n))) g d') : MM mX12_readProgram [vR 65] g d Q := by
  have hl : ∀ (m : Nat) (c p : Int) (d' : mD), 0 ≤ c → (0 ≤ p ∧ p ≤ n) → 4 * c ≤ p → n < p + 4 * m + 4 → p = psP T n c.toNat → FrG d d' → PS d' T n (cmS T n p) → d' 65 15 = c + 1 → (∀ k, 0 ≤ k → k < c → CmD d' T n k (psP T n k.toNat)) → ((cmS T n p).2 = 0 → CmD d' T n c p) → pgN T n m p c = pgF T n → pX12_readProgram_1 g d' Q := by
    intro m
    induction m with
    | zero =>
      intro c p d' hc hp h4 hm hps hf p1 h15 hk hkc he
      have ok := cmS_ok (T := T) hp
      have hno : ¬ ((cmS T n p).2 = 0 ∧ sgF T n (cmS T n p).1 = 59) := fun z => by
        have := ok.2 z.1
        have z2 := z.2
        rw [sgF_out (by omega) ok.1.1.1] at z2
        exact absurd z2 (by decide)
      obtain ⟨a69, a7, a17, a18⟩ := p1
      obtain ⟨w1, w2⟩ := ok.1
      have he' : (cmS T n p, c + 1) = pgF T n := he
      refine aX12_readProgram_1 ?_
      rw [a69, a7, a17, a18]
      have hq : (((cmS T n p).2 = 0) ∧ ((¬ (n ≤ (cmS T n p).1)) ∧ (T (cmS T n p).1 = 59))) ↔ ((cmS T n p).2 = 0 ∧ sgF T n (cmS T n p).1 = 59) := by
        by_cases z : n ≤ (cmS T n p).1
        · rw [sgF_out z w1.1]; omega
        · rw [sgF_in ⟨w1.1, by omega⟩]; omega
      rw [hq]
      refine ⟨fun _ _ => by omega, fun z => absurd z hno, fun _ => ?_⟩
      have hok : (¬ ((¬ ((cmS T n p).2 = 0)) ∨ (¬ (n ≤ (cmS T n p).1)))) ↔ pgOk T n := by
        unfold pgOk; rw [← he']; dsimp only; omega
      rw [bI_cg hok]
      refine h _ (fun b j q1 q2 => by rw [ud_ne (by omega)]; exact hf b j q1 q2) (by rw [ud_ne (by omega), a17, ← he']) (fun z => ?_)
      have z' := hok.2 z
      rw [← he']
      refine ⟨by rw [ud_ne (by omega)]; exact h15, ⟨by show 1 ≤ c + 1; omega, by show c + 1 ≤ 15; have := ok.2 (by omega); omega⟩, fun k q1 q2 => ?_⟩
      have q2' : k < c + 1 := q2
      by_cases ck : k = c
      · subst ck
        rw [← hps]
        exact (hkc (by omega)).fr (fun j _ _ => by rw [ud_ne (by omega)])
      · exact (hk k q1 (by omega)).fr (fun j _ _ => by rw [ud_ne (by omega)])
    | succ m ih =>
      intro c p d' hc hp h4 hm hps hf p1 h15 hk hkc he
      have ok := cmS_ok (T := T) hp
      have p1' := p1
      obtain ⟨a69, a7, a17, a18⟩ := p1
      obtain ⟨w1, w2⟩ := ok.1
      refine aX12_readProgram_1 ?_
      rw [a69, a7, a17, a18]
      have hq : (((cmS T n p).2 = 0) ∧ ((¬ (n ≤ (cmS T n p).1)) ∧ (T (cmS T n p).1 = 59))) ↔ ((cmS T n p).2 = 0 ∧ sgF T n (cmS T n p).1 = 59) := by
        by_cases z : n ≤ (cmS T n p).1
        · rw [sgF_out z w1.1]; omega
        · rw [sgF_in ⟨w1.1, by omega⟩]; omega
      rw [hq]
      refine ⟨fun _ _ => by omega, fun z => ⟨ik (by omega), ?_⟩, fun z => ?_⟩
      · have hlt : (cmS T n p).1 < n := by
          rcases Int.lt_or_le (cmS T n p).1 n with a | a
          · exact a
          · have z2 := z.2
            rw [sgF_out a w1.1] at z2
            exact absurd z2 (by decide)
        have h3 := ok.2 z.1
        rw [pgN_s, if_pos z] at he
        refine m_command (T := T) (n := n) (p := (cmS T n p).1 + 1) (c := c + 1) hn (by omega) (by omega) (by rw [ud_ne (by omega)]; exact h15) ⟨by rw [ud_row (by decide)]; exact a69, by rw [ud_ne (by omega)]; exact a7, ud_same _ _ _ _, by rw [ud_ne (by omega)]; exact a18.trans z.1⟩ (fun d2 f2 p2 h152 hd2 => ?_)
        show pX12_readProgram_1 g d2 Q
        have f72 : ∀ j, j < 4 * (c + 1) → d2 72 j = d' 72 j := fun j q => (f2 72 j (by omega) (by omega)).trans (ud_ne (by omega))
        refine ih (c + 1) _ d2 (by omega) (by omega) (by omega) (by omega) (by rw [show (c + 1).toNat = c.toNat + 1 by omega, hps]; rfl) (hf.tr (fun b j q1 q2 => (f2 b j (by omega) (by omega)).trans (ud_ne (by omega)))) p2 h152 (fun k q1 q2 => ?_) (fun y => hd2 y) he
        by_cases ck : k = c
        · subst ck
          rw [← hps]
          exact (hkc z.1).fr (fun j q3 q4 => f72 j (by omega))
        · exact (hk k q1 (by omega)).fr (fun j q3 q4 => f72 j (by omega))
      · have he' : (cmS T n p, c + 1) = pgF T n := (pgN_stop z).symm.trans he
        have hok : (¬ ((¬ ((cmS T n p).2 = 0)) ∨ (¬ (n ≤ (cmS T n p).1)))) ↔ pgOk T n := by
          unfold pgOk; rw [← he']; dsimp only; omega
        rw [bI_cg hok]
        refine h _ (fun b j q1 q2 => by rw [ud_ne (by omega)]; exact hf b j q1 q2) (by rw [ud_ne (by omega), a17, ← he']) (fun z => ?_)
        have z' := hok.2 z
        rw [← he']
        refine ⟨by rw [ud_ne (by omega)]; exact h15, ⟨by show 1 ≤ c + 1; omega, by show c + 1 ≤ 15; have := ok.2 (by omega); omega⟩, fun k q1 q2 => ?_⟩
        have q2' : k < c + 1 := q2
        by_cases ck : k = c
        · subst ck
          rw [← hps]
          exact (hkc (by omega)).fr (fun j _ _ => by rw [ud_ne (by omega)])
        · exact (hk k q1 (by omega)).fr (fun j _ _ => by rw [ud_ne (by omega)])
  refine eX12_readProgram ?_
  refine m_command (T := T) (n := n) (p := 0) (c := 0) hn (by omega) (by decide) (ud_same _ _ _ _) ⟨?_, ?_, ?_, ?_⟩ (fun d2 f2 p2 h152 hd2 => ?_)
  · rw [ud_row (by decide), ud_row (by decide), ud_row (by decide)]; exact e69
  · rw [ud_ne (by omega), ud_ne (by omega), ud_ne (by omega)]; exact e7
  · rw [ud_ne (by omega), ud_ne (by omega), ud_same]
  · rw [ud_ne (by omega), ud_same]
  · show pX12_readProgram_1 g d2 Q
    exact hl 60 0 0 d2 (by decide) (by omega) (by decide) (by omega) rfl (fun b j q1 q2 => (f2 b j (by omega) (by omega)).trans (by rw [ud_ne (by omega), ud_ne (by omega), ud_ne (by omega)])) p2 h152 (fun k q1 q2 => by omega) (fun y => hd2 y) rfl
