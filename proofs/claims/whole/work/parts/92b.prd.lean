-- the parser of the class: what follows the word
theorem tk_w {T : rW} {n c : Int} {s : Ps} (h : ¬ s.2 = 0) : tk T n c s = (s.1, 1) := tk_f (fun q => h q.1)
theorem dgF_w1 {T : rW} {n : Int} {k : Nat} {s : Ps} (h : ¬ s.2 = 0) : dgF T n k s = (0, (s.1, 1)) := if_neg (fun q => h q.1)
noncomputable def wyF (T : rW) (n : Int) (s : Ps) : Ps := @ite _ (s.2 = 0 ∧ ¬ wayF (sgF T n s.1) = -1) (Classical.propDecidable _) (s.1 + 1, 0) (s.1, 1)
theorem wyF_t {T : rW} {n : Int} {s : Ps} (h : s.2 = 0 ∧ ¬ wayF (sgF T n s.1) = -1) : wyF T n s = (s.1 + 1, 0) := if_pos h
theorem wyF_f {T : rW} {n : Int} {s : Ps} (h : ¬ (s.2 = 0 ∧ ¬ wayF (sgF T n s.1) = -1)) : wyF T n s = (s.1, 1) := if_neg h
noncomputable def sv1 (T : rW) (n p : Int) : Ps := tk T n 32 (dgF T n 1 (p, 0)).2
noncomputable def sv2 (T : rW) (n p : Int) : Ps := tk T n 32 (dgF T n 1 (sv1 T n p)).2
noncomputable def svS (T : rW) (n p : Int) : Ps := wyF T n (sv2 T n p)
theorem q_readWay {n p c : Int} {T : rW} {g : mG} {d : mD} {Q : mQ} (hn : 0 ≤ n ∧ n ≤ 60) (hT : ∀ j, 0 ≤ j → j < n → 0 ≤ T j ∧ T j ≤ 65535) (hp0 : 0 ≤ p ∧ p ≤ n) (hp : PC d T n p) (hc : d 60 4 = c) (hc2 : 0 ≤ c ∧ c < 16) (h : ∀ d', FrQ c d d' → (∀ j, d' 62 j = d 62 j) → (∀ j, d' 63 j = d 63 j) → d' 60 5 = (wyF T n (p, 0)).1 → ((wyF T n (p, 0)).2 = 0 → d' 64 c = sgF T n p) → Q (.inl (bI ((wyF T n (p, 0)).2 = 0))) g d') : MM mX6_readWay [vR 60, vR 1] g d Q := by
  have hp' := hp
  obtain ⟨f2, f1, f5⟩ := hp'
  refine eX6_readWay ?_
  rw [f2, f1, f5]
  obtain ⟨g1, g2⟩ := q_sign (T := T) hn hT hp0.1
  refine ⟨g1, g2, ?_⟩
  show MM mX7_placeOfWay [vI (sgF T n p)] g d _
  refine f_placeOfWay ⟨fun z => ?_, fun z => ?_⟩
  · have e : wyF T n (p, 0) = (p, 1) := wyF_f (fun y => y.2 z)
    rw [e] at h
    have := h d FrQ.rf (fun _ => rfl) (fun _ => rfl) f5 (fun y => absurd y (by decide : ¬ ((1 : Int) = 0)))
    rwa [bI_f (by decide : ¬ ((1 : Int) = 0))] at this
  · have e : wyF T n (p, 0) = (p + 1, 0) := wyF_t ⟨rfl, z⟩
    rw [e] at h
    rw [hc, f5]
    refine ⟨hc2, ik (by omega), ?_⟩
    have := h (ud (ud d 64 c (sgF T n p)) 60 5 (p + 1)) (fun b j y1 y2 => by rw [ud_ne (by omega), ud_ne (by omega)]) (fun j => by rw [ud_ne (by omega), ud_ne (by omega)]) (fun j => by rw [ud_ne (by omega), ud_ne (by omega)]) (ud_same _ _ _ _) (fun _ => by rw [ud_ne (by omega), ud_same])
    rwa [bI_t rfl] at this
theorem q_readServe {n p c : Int} {T : rW} {g : mG} {d : mD} {Q : mQ} (hn : 0 ≤ n ∧ n ≤ 60) (hT : ∀ j, 0 ≤ j → j < n → 0 ≤ T j ∧ T j ≤ 65535) (hp0 : 0 ≤ p ∧ p ≤ n) (hp : PC d T n p) (hc : d 60 4 = c) (hc2 : 0 ≤ c ∧ c < 16) (h : ∀ d', FrQ c d d' → d' 60 5 = (svS T n p).1 → ((svS T n p).2 = 0 → d' 62 c = (dgF T n 1 (p, 0)).1 ∧ d' 63 c = (dgF T n 1 (sv1 T n p)).1 ∧ d' 64 c = sgF T n (sv2 T n p).1) → Q (.inl (bI ((svS T n p).2 = 0))) g d') : MM mX6_readServe [vR 60, vR 1] g d Q := by
  refine eX6_readServe (q_readFirst (k := 1) (by decide) hn hT hp0 hp hc hc2 fun d1 f1 a63 a64 h5 hv => ?_)
  have hr1 := (dgF_rng (T := T) (n := n) (k := 1) (s := (p, 0)) (by decide) ⟨hp0, Or.inl rfl⟩).2
  have P1 : PC d1 T n (dgF T n 1 (p, 0)).2.1 := hp.fq f1 h5
  have b2 := P1.1
  have b1 := P1.2.1
  obtain ⟨g1, g2⟩ := q_sign (T := T) hn hT hr1.1.1
  dsimp only
  rw [b2, b1, h5]
  have fail1 : ¬ ((dgF T n 1 (p, 0)).2.2 = 0 ∧ sgF T n (dgF T n 1 (p, 0)).2.1 = 32) → Q (.inl 0) g d1 := fun z => by
    have e1 : sv1 T n p = ((dgF T n 1 (p, 0)).2.1, 1) := tk_f z
    have e2 : sv2 T n p = ((dgF T n 1 (p, 0)).2.1, 1) := by
      unfold sv2
      rw [e1, dgF_w1 (by decide : ¬ ((1 : Int) = 0)), tk_w (by decide : ¬ ((1 : Int) = 0))]
    have e3 : svS T n p = ((dgF T n 1 (p, 0)).2.1, 1) := by
      unfold svS
      rw [e2]
      exact wyF_f (fun y => absurd y.1 (by decide : ¬ ((1 : Int) = 0)))
    rw [e3] at h
    have := h d1 f1 h5 (fun y => absurd y (by decide : ¬ ((1 : Int) = 0)))
    rwa [bI_f (by decide : ¬ ((1 : Int) = 0))] at this
  refine ⟨fun z => fail1 (fun y => (bI_0.1 z) y.1), fun z => ⟨g1, g2, fun c32 => ⟨ik (by have h1 := hr1.1.1; have h2 := hr1.1.2; omega), ?_⟩, fun c32 => fail1 (fun y => c32 y.2)⟩⟩
  have w1 : (dgF T n 1 (p, 0)).2.2 = 0 := bI_n0.1 z
  have c32' : sgF T n (dgF T n 1 (p, 0)).2.1 = 32 := c32
  have e1 : sv1 T n p = ((dgF T n 1 (p, 0)).2.1 + 1, 0) := tk_t ⟨w1, c32'⟩
  have hs1 : sOk n (sv1 T n p) := tk_ok hr1 (by decide)
  have hq := hs1.1
  rw [e1] at hq
  have P2 : PC (ud d1 60 5 ((dgF T n 1 (p, 0)).2.1 + 1)) T n ((dgF T n 1 (p, 0)).2.1 + 1) := P1.fq (c := c) (FrB.q (fun b j y => ud_ne y)) (ud_same _ _ _ _)
  have c2 : ud d1 60 5 ((dgF T n 1 (p, 0)).2.1 + 1) 60 4 = c := by rw [ud_ne (by omega), f1 60 4 (by omega) (by omega)]; exact hc
  refine q_readSecond (k := 1) (by decide) hn hT hq P2 c2 hc2 fun d2 f2 a62 a64' h52 hv2 => ?_
  have hr2 := (dgF_rng (T := T) (n := n) (k := 1) (s := ((dgF T n 1 (p, 0)).2.1 + 1, 0)) (by decide) ⟨hq, Or.inl rfl⟩).2
  have P3 : PC d2 T n (dgF T n 1 ((dgF T n 1 (p, 0)).2.1 + 1, 0)).2.1 := P2.fq f2 h52
  have b2' := P3.1
  have b1' := P3.2.1
  obtain ⟨g1', g2'⟩ := q_sign (T := T) hn hT hr2.1.1
  have f02 : FrQ c d d2 := (f1.tr (FrB.q (fun b j y => ud_ne y))).tr f2
  dsimp only
  rw [b2', b1', h52]
  have e2u : sv2 T n p = tk T n 32 (dgF T n 1 ((dgF T n 1 (p, 0)).2.1 + 1, 0)).2 := by unfold sv2; rw [e1]
  have fail2 : ¬ ((dgF T n 1 ((dgF T n 1 (p, 0)).2.1 + 1, 0)).2.2 = 0 ∧ sgF T n (dgF T n 1 ((dgF T n 1 (p, 0)).2.1 + 1, 0)).2.1 = 32) → Q (.inl 0) g d2 := fun z => by
    have e2 : sv2 T n p = ((dgF T n 1 ((dgF T n 1 (p, 0)).2.1 + 1, 0)).2.1, 1) := by rw [e2u]; exact tk_f z
    have e3 : svS T n p = ((dgF T n 1 ((dgF T n 1 (p, 0)).2.1 + 1, 0)).2.1, 1) := by
      unfold svS
      rw [e2]
      exact wyF_f (fun y => absurd y.1 (by decide : ¬ ((1 : Int) = 0)))
    rw [e3] at h
    have := h d2 f02 h52 (fun y => absurd y (by decide : ¬ ((1 : Int) = 0)))
    rwa [bI_f (by decide : ¬ ((1 : Int) = 0))] at this
  refine ⟨fun z => fail2 (fun y => (bI_0.1 z) y.1), fun z => ⟨g1', g2', fun c32b => ⟨ik (by have h1 := hr2.1.1; have h2 := hr2.1.2; dsimp only at h1 h2 ⊢; omega), ?_⟩, fun c32b => fail2 (fun y => c32b y.2)⟩⟩
  have w2 : (dgF T n 1 ((dgF T n 1 (p, 0)).2.1 + 1, 0)).2.2 = 0 := bI_n0.1 z
  have e2 : sv2 T n p = ((dgF T n 1 ((dgF T n 1 (p, 0)).2.1 + 1, 0)).2.1 + 1, 0) := by rw [e2u]; exact tk_t ⟨w2, c32b⟩
  have hs2 : sOk n (sv2 T n p) := by rw [e2u]; exact tk_ok hr2 (by decide)
  have hq2 := hs2.1
  rw [e2] at hq2
  have P4 : PC (ud d2 60 5 ((dgF T n 1 ((dgF T n 1 (p, 0)).2.1 + 1, 0)).2.1 + 1)) T n ((dgF T n 1 ((dgF T n 1 (p, 0)).2.1 + 1, 0)).2.1 + 1) := P3.fq (c := c) (FrB.q (fun b j y => ud_ne y)) (ud_same _ _ _ _)
  have c4 : ud d2 60 5 ((dgF T n 1 ((dgF T n 1 (p, 0)).2.1 + 1, 0)).2.1 + 1) 60 4 = c := by rw [ud_ne (by omega), f02 60 4 (by omega) (by omega)]; exact hc
  refine q_readWay hn hT hq2 P4 c4 hc2 fun d3 f3 t62 t63 h53 hv3 => ?_
  dsimp only
  rw [bI_cg bI_n0]
  have e3 : svS T n p = wyF T n ((dgF T n 1 ((dgF T n 1 (p, 0)).2.1 + 1, 0)).2.1 + 1, 0) := by unfold svS; rw [e2]
  rw [← e3] at h53 hv3 ⊢
  refine h d3 ((f02.tr (FrB.q (fun b j y => ud_ne y))).tr f3) h53 (fun y => ⟨?_, ?_, ?_⟩)
  · rw [t62, ud_ne (by omega), a62, ud_ne (by omega)]; exact hv w1
  · rw [t63, ud_ne (by omega), e1]; exact hv2 w2
  · rw [e2]; exact hv3 y
