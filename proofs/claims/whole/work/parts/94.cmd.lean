-- one command, reference
noncomputable def vb (T : rW) (n p : Int) : Int := if sgF T n p = 115 ∧ sgF T n (p + 1) = 116 then 2 else if sgF T n p = 115 then 0 else if sgF T n p = 100 then 1 else if sgF T n p = 108 then 3 else if sgF T n p = 109 then 4 else if sgF T n p = 102 then 5 else 6
noncomputable def wW (T : rW) (n v p : Int) : Ps := if v = 2 then tkW T n 115 116 97 121 0 0 (p, 0) else if v = 0 then tkW T n 115 101 114 118 101 0 (p, 0) else if v = 1 then tkW T n 100 97 121 0 0 0 (p, 0) else if v = 3 then tkW T n 108 105 102 116 0 0 (p, 0) else if v = 4 then tkW T n 109 111 114 101 0 0 (p, 0) else if v = 5 then tkW T n 102 105 108 101 0 0 (p, 0) else tk T n 121 (tkW T n 104 111 108 105 100 97 (p, 0))
noncomputable def wS (T : rW) (n v p : Int) : Ps := if v = 1 then wW T n v p else tk T n 32 (wW T n v p)
noncomputable def cmS (T : rW) (n p : Int) : Ps := if (wS T n (vb T n p) p).2 = 0 then vlS T n (vb T n p) (wS T n (vb T n p) p).1 else ((wS T n (vb T n p) p).1, 1)
def ltF (v : Int) : Int := if v = 0 then 118 else if v = 1 then 100 else if v = 2 then 115 else if v = 3 then 108 else if v = 4 then 109 else if v = 5 then 102 else 104
def FrC (c : Int) (d d' : mD) : Prop := ∀ b j : Int, ¬ (b = 65 ∧ (j = 15 ∨ j = 17 ∨ j = 18)) → ¬ (b = 72 ∧ 4 * c ≤ j ∧ j < 4 * c + 4) → d' b j = d b j
theorem FrC.a {c : Int} {d d' : mD} (h : FrA d d') : FrC c d d' := fun b j q _ => h b j (by omega)
theorem FrC.tr {c : Int} {d d' d'' : mD} (h : FrC c d d') (h2 : FrC c d' d'') : FrC c d d'' := fun b j q q2 => (h2 b j q q2).trans (h b j q q2)
theorem PS.fc {c : Int} {d d' : mD} {T : rW} {n : Int} {s : Ps} (h : PS d T n s) (hf : ∀ b j : Int, b ≠ 72 → ¬ (b = 65 ∧ j = 15) → d' b j = d b j) : PS d' T n s :=
  ⟨(funext fun j => hf 69 j (by omega) (by omega)).trans h.1, (hf 65 7 (by omega) (by omega)).trans h.2.1, (hf 65 17 (by omega) (by omega)).trans h.2.2.1, (hf 65 18 (by omega) (by omega)).trans h.2.2.2⟩
theorem dg_eta {T : rW} {n : Int} {k : Nat} {s : Ps} (h : s.2 = 0) : dgF T n k s = dgF T n k (s.1, 0) := by
  rw [← h]
-- the post of a command
def CmQ (T : rW) (n p c : Int) (g : mG) (d : mD) (Q : mQ) : Prop := ∀ d', FrC c d d' → PS d' T n (cmS T n p) → d' 65 15 = c + 1 → ((cmS T n p).2 = 0 → d' 72 (4 * c) = ltF (vb T n p) ∧ d' 72 (4 * c + 1) = vlA T n (vb T n p) (wS T n (vb T n p) p).1 ∧ (vb T n p = 0 ∨ vb T n p = 4 → d' 72 (4 * c + 2) = vlB T n (vb T n p) (wS T n (vb T n p) p).1) ∧ (vb T n p = 0 → d' 72 (4 * c + 3) = sgF T n (sv2 T n (wS T n (vb T n p) p).1).1)) → Q (.inl 0) g d'
theorem c_one {T : rW} {n p c v L : Int} {s : Ps} {g : mG} {d d1 : mD} {Q : mQ} (hn : n ≤ 60) (hc : 0 ≤ c ∧ c < 30) (h15 : d 65 15 = c) (hv : vb T n p = v) (hw : wW T n v p = s) (hv0 : ¬ v = 0) (hv1 : ¬ v = 1) (hv4 : ¬ v = 4) (hL : ltF v = L) (hs : sOk n s) (f1 : FrA d d1) (p1 : PS d1 T n s) (h : CmQ T n p c g d Q) :
    (0 ≤ 4 * c ∧ 4 * c < 120) ∧ ((iI ((4 * c) + 1)) ∧ (MM mX12_argument [vR 65, vI 4] g (ud d1 72 (4 * c) L) (fun o g25 d26 => match o with | .inl v24 => (0 ≤ (4 * c) + 1 ∧ (4 * c) + 1 < 120) ∧ ((iI ((d26 65 15) + 1)) ∧ (Q (.inl 0) g25 (ud (ud d26 72 ((4 * c) + 1) v24) 65 15 ((d26 65 15) + 1)))) | .inr k => Q (.inr k) g25 d26))) := by
  refine ⟨by omega, ik (by omega), ?_⟩
  refine m_argument (k := 4) (by decide) hn hs (p1.fc (c := c) (fun b j q1 q2 => ud_ne (by omega))) fun d2 f2 p2 => ?_
  have e15 : d2 65 15 = c := (f2 65 15 (by omega)).trans ((ud_ne (by omega)).trans ((f1 65 15 (by omega)).trans h15))
  dsimp only
  rw [e15]
  refine ⟨by omega, ik (by omega), ?_⟩
  have eW : wS T n v p = tk T n 32 s := by unfold wS; rw [if_neg hv1, hw]
  have eC : cmS T n p = (arF T n 4 s).2 := by
    unfold cmS arF
    rw [hv, eW]
    by_cases z : (tk T n 32 s).2 = 0
    · rw [if_pos z]
      unfold vlS
      rw [if_neg hv0, if_neg hv1, if_neg hv4, ← dg_eta z]
    · rw [if_neg z, dgF_w1 z]
  have eA : (cmS T n p).2 = 0 → vlA T n v (wS T n v p).1 = (arF T n 4 s).1 := fun z => by
    have z2 : (tk T n 32 s).2 = 0 := Classical.byContradiction fun y => by
      rw [eC] at z
      unfold arF at z
      rw [dgF_w1 y] at z
      exact absurd z (by decide : ¬ ((1 : Int) = 0))
    unfold vlA arF
    rw [if_neg hv0, if_neg hv1, eW, ← dg_eta z2]
  refine h _ (fun b j q1 q2 => ?_) ?_ (ud_same _ _ _ _) (fun z => ⟨?_, ?_, fun y => absurd y (by omega), fun y => absurd y (by omega)⟩)
  · rw [ud_ne (by omega), ud_ne (by omega), f2 b j (by omega), ud_ne (by omega)]
    exact f1 b j (by omega)
  · rw [eC]
    exact p2.fc (c := c) (fun b j q1 q2 => by rw [ud_ne (by omega), ud_ne (by omega)])
  · rw [ud_ne (by omega), ud_ne (by omega), f2 _ _ (by omega), ud_same, hv, hL]
  · rw [ud_ne (by omega), ud_same, hv, eA z]
