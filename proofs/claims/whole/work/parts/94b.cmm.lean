-- more and day, reference
theorem arF_ok {T : rW} {n : Int} {k : Nat} {s : Ps} (hk : k ≤ 4) (h : sOk n s) : sOk n (arF T n k s).2 := (dgF_rng hk (tk_ok h (by decide))).2
theorem arF_w {T : rW} {n : Int} {k : Nat} {s : Ps} (h : ¬ (tk T n 32 s).2 = 0) : arF T n k s = (0, ((tk T n 32 s).1, 1)) := dgF_w1 h
theorem arF_w2 {T : rW} {n : Int} {k : Nat} {s : Ps} (h : ¬ s.2 = 0) : arF T n k s = (0, (s.1, 1)) := by
  unfold arF
  rw [tk_w h]
  exact dgF_w1 (by decide : ¬ ((1 : Int) = 0))
theorem c_more {T : rW} {n p c : Int} {s : Ps} {g : mG} {d d1 : mD} {Q : mQ} (hn : n ≤ 60) (hc : 0 ≤ c ∧ c < 30) (h15 : d 65 15 = c) (hv : vb T n p = 4) (hw : wW T n 4 p = s) (hs : sOk n s) (f1 : FrA d d1) (p1 : PS d1 T n s) (h : CmQ T n p c g d Q) :
    (0 ≤ 4 * c ∧ 4 * c < 120) ∧ ((iI ((4 * c) + 1)) ∧ (MM mX12_argument [vR 65, vI 4] g (ud d1 72 (4 * c) 109) (fun o g122 d123 => match o with | .inl v121 => (0 ≤ (4 * c) + 1 ∧ (4 * c) + 1 < 120) ∧ ((iI ((4 * c) + 2)) ∧ (MM mX12_argument [vR 65, vI 4] g122 (ud d123 72 ((4 * c) + 1) v121) (fun o g128 d129 => match o with | .inl v127 => (0 ≤ (4 * c) + 2 ∧ (4 * c) + 2 < 120) ∧ ((iI ((d129 65 15) + 1)) ∧ (Q (.inl 0) g128 (ud (ud d129 72 ((4 * c) + 2) v127) 65 15 ((d129 65 15) + 1)))) | .inr k => Q (.inr k) g128 d129))) | .inr k => Q (.inr k) g122 d123))) := by
  refine ⟨by omega, ik (by omega), ?_⟩
  refine m_argument (k := 4) (by decide) hn hs (p1.fc (c := c) (fun b j q1 q2 => ud_ne (by omega))) fun d2 f2 p2 => ?_
  dsimp only
  refine ⟨by omega, ik (by omega), ?_⟩
  refine m_argument (k := 4) (by decide) hn (arF_ok (by decide) hs) (p2.fc (c := c) (fun b j q1 q2 => ud_ne (by omega))) fun d3 f3 p3 => ?_
  have e15 : d3 65 15 = c := (f3 65 15 (by omega)).trans ((ud_ne (by omega)).trans ((f2 65 15 (by omega)).trans ((ud_ne (by omega)).trans ((f1 65 15 (by omega)).trans h15))))
  dsimp only
  rw [e15]
  refine ⟨by omega, ik (by omega), ?_⟩
  have eW : wS T n 4 p = tk T n 32 s := by unfold wS; rw [if_neg (by decide), hw]
  have e1 : (tk T n 32 s).2 = 0 → arF T n 4 s = dgF T n 4 ((wS T n 4 p).1, 0) := fun z => by unfold arF; rw [eW, ← dg_eta z]
  have e2 : (tk T n 32 s).2 = 0 → arF T n 4 (arF T n 4 s).2 = dgF T n 4 (mr1 T n (wS T n 4 p).1) := fun z => by
    rw [e1 z]; rfl
  have eC : cmS T n p = (arF T n 4 (arF T n 4 s).2).2 := by
    unfold cmS
    rw [hv]
    by_cases z : (tk T n 32 s).2 = 0
    · rw [if_pos (by rw [eW]; exact z), e2 z]
      unfold vlS
      rw [if_neg (by decide), if_neg (by decide), if_pos rfl]
    · rw [if_neg (by rw [eW]; exact z), arF_w z, eW]
      exact (congrArg Prod.snd (arF_w2 (T := T) (n := n) (k := 4) (s := ((tk T n 32 s).1, 1)) (by decide : ¬ ((1 : Int) = 0)))).symm
  have ez : (cmS T n p).2 = 0 → (tk T n 32 s).2 = 0 := fun z => Classical.byContradiction fun y => by
    rw [eC, arF_w y] at z
    have e9 := congrArg (fun q => q.2.2) (arF_w2 (T := T) (n := n) (k := 4) (s := ((tk T n 32 s).1, 1)) (by decide : ¬ ((1 : Int) = 0)))
    exact absurd (e9.symm.trans z) (by decide : ¬ ((1 : Int) = 0))
  refine h _ (fun b j q1 q2 => ?_) ?_ (ud_same _ _ _ _) (fun z => ⟨?_, ?_, fun _ => ?_, fun y => absurd (y.symm.trans hv) (by decide)⟩)
  · rw [ud_ne (by omega), ud_ne (by omega), f3 b j (by omega), ud_ne (by omega), f2 b j (by omega), ud_ne (by omega)]
    exact f1 b j (by omega)
  · rw [eC]
    exact p3.fc (c := c) (fun b j q1 q2 => by rw [ud_ne (by omega), ud_ne (by omega)])
  · rw [ud_ne (by omega), ud_ne (by omega), f3 _ _ (by omega), ud_ne (by omega), f2 _ _ (by omega), ud_same, hv]; rfl
  · rw [ud_ne (by omega), ud_ne (by omega), f3 _ _ (by omega), ud_same, hv, e1 (ez z)]
    unfold vlA
    rw [if_neg (by decide), if_neg (by decide)]
  · rw [ud_ne (by omega), ud_same, hv, e2 (ez z)]
    unfold vlB
    rw [if_neg (by decide)]
theorem c_day {T : rW} {n p c : Int} {s : Ps} {g : mG} {d d1 : mD} {Q : mQ} (hn : n ≤ 60) (hc : 0 ≤ c ∧ c < 30) (h15 : d 65 15 = c) (hv : vb T n p = 1) (hw : wW T n 1 p = s) (hs : sOk n s) (f1 : FrA d d1) (p1 : PS d1 T n s) (h : CmQ T n p c g d Q) :
    (0 ≤ 4 * c ∧ 4 * c < 120) ∧ ((iI ((4 * c) + 1)) ∧ (((d1 65 (18 : Int) = 0) → (¬ (d1 65 7 ≤ d1 65 17)) → 0 ≤ d1 65 17 ∧ d1 65 (17 : Int) < 60) ∧ ((((d1 65 (18 : Int) = 0) ∧ ((¬ (d1 65 7 ≤ d1 65 17)) ∧ (d1 69 (d1 65 17) = 32))) → MM mX12_argument [vR 65, vI 4] g (ud d1 72 (4 * c) 100) (fun o g87 d88 => match o with | .inl v86 => (0 ≤ (4 * c) + 1 ∧ (4 * c) + 1 < 120) ∧ ((iI ((d88 65 15) + 1)) ∧ (Q (.inl 0) g87 (ud (ud d88 72 ((4 * c) + 1) v86) 65 15 ((d88 65 15) + 1)))) | .inr k => Q (.inr k) g87 d88)) ∧ ((¬ ((d1 65 (18 : Int) = 0) ∧ ((¬ (d1 65 7 ≤ d1 65 17)) ∧ (d1 69 (d1 65 17) = 32)))) → (0 ≤ (4 * c) + 1 ∧ (4 * c) + 1 < 120) ∧ ((iI ((d1 65 15) + 1)) ∧ (Q (.inl 0) g (ud (ud (ud d1 72 (4 * c) 100) 72 ((4 * c) + 1) 1) 65 15 ((d1 65 15) + 1)))))))) := by
  have p1' := p1
  obtain ⟨e69, e7, e17, e18⟩ := p1'
  have e15 : d1 65 15 = c := (f1 65 15 (by omega)).trans h15
  obtain ⟨hs1, hs2⟩ := id hs
  rw [e69, e7, e17, e18, e15]
  have hq : ((s.2 = 0) ∧ ((¬ (n ≤ s.1)) ∧ (T s.1 = 32))) ↔ (s.2 = 0 ∧ sgF T n s.1 = 32) := by
    by_cases z : n ≤ s.1
    · rw [sgF_out z hs1.1]; omega
    · rw [sgF_in ⟨hs1.1, by omega⟩]; omega
  rw [hq]
  have eW : wS T n 1 p = s := by unfold wS; rw [if_pos rfl, hw]
  refine ⟨by omega, ik (by omega), fun _ _ => by omega, fun z => ?_, fun z => ⟨by omega, ik (by omega), ?_⟩⟩
  · refine m_argument (k := 4) (by decide) hn hs (p1.fc (c := c) (fun b j q1 q2 => ud_ne (by omega))) fun d2 f2 p2 => ?_
    have e15' : d2 65 15 = c := (f2 65 15 (by omega)).trans ((ud_ne (by omega)).trans e15)
    dsimp only
    rw [e15']
    refine ⟨by omega, ik (by omega), ?_⟩
    have et : tk T n 32 s = (s.1 + 1, 0) := tk_t z
    have ea : arF T n 4 s = dgF T n 4 (s.1 + 1, 0) := by unfold arF; rw [et]
    have eC : cmS T n p = (arF T n 4 s).2 := by
      unfold cmS
      rw [hv, eW, if_pos z.1, ea]
      unfold vlS dyS
      rw [if_neg (by decide), if_pos rfl, if_pos z.2]
    refine h _ (fun b j q1 q2 => ?_) ?_ (ud_same _ _ _ _) (fun y => ⟨?_, ?_, fun y => absurd y (by omega), fun y => absurd y (by omega)⟩)
    · rw [ud_ne (by omega), ud_ne (by omega), f2 b j (by omega), ud_ne (by omega)]
      exact f1 b j (by omega)
    · rw [eC]
      exact p2.fc (c := c) (fun b j q1 q2 => by rw [ud_ne (by omega), ud_ne (by omega)])
    · rw [ud_ne (by omega), ud_ne (by omega), f2 _ _ (by omega), ud_same, hv]; rfl
    · rw [ud_ne (by omega), ud_same, hv, eW, ea]
      unfold vlA dyA
      rw [if_neg (by decide), if_pos rfl, if_pos z.2]
  · have eC : cmS T n p = s := by
      unfold cmS
      rw [hv, eW]
      by_cases y : s.2 = 0
      · rw [if_pos y]
        unfold vlS dyS
        rw [if_neg (by decide), if_pos rfl, if_neg (fun x => z ⟨y, x⟩), ← y]
      · rw [if_neg y, show (1 : Int) = s.2 by omega]
    refine h _ (fun b j q1 q2 => ?_) ?_ (ud_same _ _ _ _) (fun y => ⟨?_, ?_, fun y => absurd y (by omega), fun y => absurd y (by omega)⟩)
    · rw [ud_ne (by omega), ud_ne (by omega), ud_ne (by omega)]
      exact f1 b j (by omega)
    · rw [eC]
      exact p1.fc (c := c) (fun b j q1 q2 => by rw [ud_ne (by omega), ud_ne (by omega), ud_ne (by omega)])
    · rw [ud_ne (by omega), ud_ne (by omega), ud_same, hv]; rfl
    · rw [ud_ne (by omega), ud_same, hv, eW]
      rw [eC] at y
      unfold vlA dyA
      rw [if_neg (by decide), if_pos rfl, if_neg (fun x => z ⟨y, x⟩)]
