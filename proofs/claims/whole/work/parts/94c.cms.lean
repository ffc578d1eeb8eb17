-- serve, reference
theorem wayF_0 : wayF 0 = -1 := by
  unfold wayF
  rw [iT_f (by decide), iT_f (by decide), iT_f (by decide), iT_f (by decide)]
theorem c_srv {T : rW} {n p c : Int} {s : Ps} {g : mG} {d d1 : mD} {Q : mQ} (hn : n ≤ 60) (hc : 0 ≤ c ∧ c < 30) (h15 : d 65 15 = c) (hv : vb T n p = 0) (hw : wW T n 0 p = s) (hs : sOk n s) (f1 : FrA d d1) (p1 : PS d1 T n s) (h : CmQ T n p c g d Q) :
    (0 ≤ 4 * c ∧ 4 * c < 120) ∧ ((iI ((4 * c) + 1)) ∧ (MM mX12_argument [vR 65, vI 1] g (ud d1 72 (4 * c) 118) (fun o g44 d45 => match o with | .inl v43 => (0 ≤ (4 * c) + 1 ∧ (4 * c) + 1 < 120) ∧ ((iI ((4 * c) + 2)) ∧ (MM mX12_argument [vR 65, vI 1] g44 (ud d45 72 ((4 * c) + 1) v43) (fun o g50 d51 => match o with | .inl v49 => (0 ≤ (4 * c) + 2 ∧ (4 * c) + 2 < 120) ∧ (MM mX12_take [vR 65, vI 32] g50 (ud d51 72 ((4 * c) + 2) v49) (fun o g55 d56 => match o with | .inl v54 => ((d56 65 18 = 0) → (¬ (d56 65 7 ≤ d56 65 17)) → 0 ≤ d56 65 17 ∧ d56 65 17 < 60) ∧ ((iI ((4 * c) + 3)) ∧ (((¬ ((¬ (d56 65 18 = 0)) ∨ ((d56 65 7 ≤ d56 65 17) ∨ (wayF (d56 69 (d56 65 17)) = (-1))))) → 0 ≤ d56 65 17 ∧ d56 65 17 < 60) ∧ ((0 ≤ (4 * c) + 3 ∧ (4 * c) + 3 < 120) ∧ ((iI ((d56 65 17) + (bI (¬ ((¬ (d56 65 18 = 0)) ∨ ((d56 65 7 ≤ d56 65 17) ∨ (wayF (d56 69 (d56 65 17)) = (-1)))))))) ∧ ((iI ((d56 65 15) + 1)) ∧ (Q (.inl 0) g55 (ud (ud (ud (ud d56 65 18 (bI ((¬ (d56 65 18 = 0)) ∨ ((d56 65 7 ≤ d56 65 17) ∨ (wayF (d56 69 (d56 65 17)) = (-1)))))) 72 ((4 * c) + 3) (iT ((¬ (d56 65 18 = 0)) ∨ ((d56 65 7 ≤ d56 65 17) ∨ (wayF (d56 69 (d56 65 17)) = (-1)))) 0 (d56 69 (d56 65 17)))) 65 17 ((d56 65 17) + (bI (¬ ((¬ (d56 65 18 = 0)) ∨ ((d56 65 7 ≤ d56 65 17) ∨ (wayF (d56 69 (d56 65 17)) = (-1)))))))) 65 15 ((d56 65 15) + 1)))))))) | .inr k => Q (.inr k) g55 d56)) | .inr k => Q (.inr k) g50 d51))) | .inr k => Q (.inr k) g44 d45))) := by
  refine ⟨by omega, ik (by omega), ?_⟩
  refine m_argument (k := 1) (by decide) hn hs (p1.fc (c := c) (fun b j q1 q2 => ud_ne (by omega))) fun d2 f2 p2 => ?_
  dsimp only
  refine ⟨by omega, ik (by omega), ?_⟩
  have hs2 := arF_ok (T := T) (k := 1) (by decide) hs
  refine m_argument (k := 1) (by decide) hn hs2 (p2.fc (c := c) (fun b j q1 q2 => ud_ne (by omega))) fun d3 f3 p3 => ?_
  dsimp only
  refine ⟨by omega, ?_⟩
  have hs3 := arF_ok (T := T) (k := 1) (by decide) hs2
  refine m_take hn hs3 (p3.fc (c := c) (fun b j q1 q2 => ud_ne (by omega))) (by decide) fun d4 f4 p4 => ?_
  have hs4 : sOk n (tk T n 32 (arF T n 1 (arF T n 1 s).2).2) := tk_ok hs3 (by decide)
  have e15 : d4 65 15 = c := (f4 65 15 (by omega)).trans ((ud_ne (by omega)).trans ((f3 65 15 (by omega)).trans ((ud_ne (by omega)).trans ((f2 65 15 (by omega)).trans ((ud_ne (by omega)).trans ((f1 65 15 (by omega)).trans h15))))))
  have eW : wS T n 0 p = tk T n 32 s := by unfold wS; rw [if_neg (by decide), hw]
  have e1 : (tk T n 32 s).2 = 0 → arF T n 1 s = dgF T n 1 ((wS T n 0 p).1, 0) := fun z => by unfold arF; rw [eW, ← dg_eta z]
  have e2 : (tk T n 32 s).2 = 0 → arF T n 1 (arF T n 1 s).2 = dgF T n 1 (sv1 T n (wS T n 0 p).1) := fun z => by
    rw [e1 z]; rfl
  have e3 : (tk T n 32 s).2 = 0 → tk T n 32 (arF T n 1 (arF T n 1 s).2).2 = sv2 T n (wS T n 0 p).1 := fun z => by
    rw [e2 z]; rfl
  have e4 : ¬ (tk T n 32 s).2 = 0 → tk T n 32 (arF T n 1 (arF T n 1 s).2).2 = ((tk T n 32 s).1, 1) := fun z => by
    rw [arF_w z]
    dsimp only
    rw [arF_w2 (s := ((tk T n 32 s).1, 1)) (by decide : ¬ ((1 : Int) = 0))]
    exact tk_w (by decide : ¬ ((1 : Int) = 0))
  have eC : cmS T n p = wyF T n (tk T n 32 (arF T n 1 (arF T n 1 s).2).2) := by
    unfold cmS
    rw [hv]
    by_cases z : (tk T n 32 s).2 = 0
    · rw [if_pos (by rw [eW]; exact z), e3 z]
      unfold vlS
      rw [if_pos rfl]; rfl
    · rw [if_neg (by rw [eW]; exact z), e4 z, eW]
      exact (wyF_f (T := T) (n := n) (s := ((tk T n 32 s).1, 1)) (fun y => absurd y.1 (by decide : ¬ ((1 : Int) = 0)))).symm
  have ez : (cmS T n p).2 = 0 → (tk T n 32 s).2 = 0 := fun z => Classical.byContradiction fun y => by
    rw [eC, e4 y, wyF_f (s := ((tk T n 32 s).1, 1)) (fun y => absurd y.1 (by decide : ¬ ((1 : Int) = 0)))] at z
    exact absurd z (by decide : ¬ ((1 : Int) = 0))
  have g72 : ∀ j, d4 72 j = ud (ud (ud d1 72 (4 * c) 118) 72 (4 * c + 1) (arF T n 1 s).1) 72 (4 * c + 2) (arF T n 1 (arF T n 1 s).2).1 72 j := fun j => by
    rw [f4 72 j (by omega)]
    by_cases y : j = 4 * c + 2
    · subst y; rw [ud_same, ud_same]
    · rw [ud_ne (by omega), ud_ne (a := 72) (i := 4 * c + 2) (by omega), f3 72 j (by omega)]
      by_cases y1 : j = 4 * c + 1
      · subst y1; rw [ud_same, ud_same]
      · rw [ud_ne (by omega), ud_ne (a := 72) (i := 4 * c + 1) (by omega), f2 72 j (by omega)]
  generalize tk T n 32 (arF T n 1 (arF T n 1 s).2).2 = w at *
  have p4' := p4
  obtain ⟨a69, a7, a17, a18⟩ := p4'
  obtain ⟨w1, w2⟩ := id hs4
  dsimp only
  rw [a69, a7, a17, a18, e15]
  have hq : (¬ ((¬ (w.2 = 0)) ∨ ((n ≤ w.1) ∨ (wayF (T w.1) = (-1))))) ↔ (w.2 = 0 ∧ ¬ wayF (sgF T n w.1) = -1) := by
    by_cases z : n ≤ w.1
    · rw [sgF_out z w1.1, wayF_0]; omega
    · rw [sgF_in ⟨w1.1, by omega⟩]; omega
  have hr := @bI_rng (¬ ((¬ (w.2 = 0)) ∨ ((n ≤ w.1) ∨ (wayF (T w.1) = (-1)))))
  refine ⟨fun _ _ => by omega, ik (by omega), fun _ => by omega, by omega, ik (by omega), ik (by omega), ?_⟩
  refine h _ (fun b j q1 q2 => ?_) ?_ (ud_same _ _ _ _) (fun z => ?_)
  · rw [ud_ne (by omega), ud_ne (by omega), ud_ne (by omega), ud_ne (by omega), f4 b j (by omega), ud_ne (by omega), f3 b j (by omega), ud_ne (by omega), f2 b j (by omega), ud_ne (by omega)]
    exact f1 b j (by omega)
  · rw [eC]
    refine ⟨?_, ?_, ?_, ?_⟩
    · rw [ud_row (by decide), ud_row (by decide), ud_row (by decide), ud_row (by decide)]; exact a69
    · rw [ud_ne (by omega), ud_ne (by omega), ud_ne (by omega), ud_ne (by omega)]; exact a7
    · rw [ud_ne (by omega), ud_same]
      by_cases z : w.2 = 0 ∧ ¬ wayF (sgF T n w.1) = -1
      · rw [wyF_t z, bI_t (hq.2 z)]
      · rw [wyF_f z, bI_f (fun y => z (hq.1 y)), Int.add_zero]
    · rw [ud_ne (by omega), ud_ne (by omega), ud_ne (by omega), ud_same]
      by_cases z : w.2 = 0 ∧ ¬ wayF (sgF T n w.1) = -1
      · rw [wyF_t z, bI_f (hq.2 z)]
      · rw [wyF_f z, bI_t (Classical.not_not.mp (fun y => z (hq.1 y)))]
  · have zz := ez z
    have zw : w.2 = 0 ∧ ¬ wayF (sgF T n w.1) = -1 := Classical.byContradiction fun y => by
      rw [eC, wyF_f y] at z
      exact absurd z (by decide : ¬ ((1 : Int) = 0))
    have zn : ¬ n ≤ w.1 := fun y => zw.2 (by rw [sgF_out y w1.1]; exact wayF_0)
    rw [hv]
    refine ⟨?_, ?_, fun _ => ?_, fun _ => ?_⟩
    · rw [ud_ne (by omega), ud_ne (by omega), ud_ne (by omega), ud_ne (by omega), g72, ud_ne (by omega), ud_ne (by omega), ud_same]; rfl
    · rw [ud_ne (by omega), ud_ne (by omega), ud_ne (by omega), ud_ne (by omega), g72, ud_ne (by omega), ud_same, e1 zz]
      unfold vlA
      rw [if_pos rfl]
    · rw [ud_ne (by omega), ud_ne (by omega), ud_ne (by omega), ud_ne (by omega), g72, ud_same, e2 zz]
      unfold vlB
      rw [if_pos rfl]
    · rw [ud_ne (by omega), ud_ne (by omega), ud_same, iT_f (hq.2 zw), ← e3 zz, sgF_in ⟨w1.1, by omega⟩]
