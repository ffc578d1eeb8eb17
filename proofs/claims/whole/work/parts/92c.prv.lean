-- the parser of the class: the values of a command
noncomputable def dyS (T : rW) (n p : Int) : Ps := if sgF T n p = 32 then (dgF T n 4 (p + 1, 0)).2 else (p, 0)
noncomputable def dyA (T : rW) (n p : Int) : Int := if sgF T n p = 32 then (dgF T n 4 (p + 1, 0)).1 else 1
noncomputable def mr1 (T : rW) (n p : Int) : Ps := tk T n 32 (dgF T n 4 (p, 0)).2
noncomputable def vlS (T : rW) (n v p : Int) : Ps := if v = 0 then svS T n p else if v = 1 then dyS T n p else if v = 4 then (dgF T n 4 (mr1 T n p)).2 else (dgF T n 4 (p, 0)).2
noncomputable def vlA (T : rW) (n v p : Int) : Int := if v = 0 then (dgF T n 1 (p, 0)).1 else if v = 1 then dyA T n p else (dgF T n 4 (p, 0)).1
noncomputable def vlB (T : rW) (n v p : Int) : Int := if v = 0 then (dgF T n 1 (sv1 T n p)).1 else (dgF T n 4 (mr1 T n p)).1
theorem q_readDays {n p c : Int} {T : rW} {g : mG} {d : mD} {Q : mQ} (hn : 0 ≤ n ∧ n ≤ 60) (hT : ∀ j, 0 ≤ j → j < n → 0 ≤ T j ∧ T j ≤ 65535) (hp0 : 0 ≤ p ∧ p ≤ n) (hp : PC d T n p) (hc : d 60 4 = c) (hc2 : 0 ≤ c ∧ c < 16) (h : ∀ d', FrQ c d d' → d' 60 5 = (dyS T n p).1 → ((dyS T n p).2 = 0 → d' 62 c = dyA T n p) → Q (.inl (bI ((dyS T n p).2 = 0))) g d') : MM mX6_readDays [vR 60, vR 1] g d Q := by
  have hp' := hp
  obtain ⟨f2, f1, f5⟩ := hp'
  refine eX6_readDays ?_
  rw [f2, f1, f5, hc]
  obtain ⟨g1, g2⟩ := q_sign (T := T) hn hT hp0.1
  refine ⟨hc2, g1, g2, fun z => ⟨fun _ => ⟨ik (by omega), ?_⟩, fun y => absurd z y⟩, fun z => ?_⟩
  · have z' : sgF T n p = 32 := z
    have hlt : p < n := by
      rcases Int.lt_or_le p n with a | a
      · exact a
      · rw [sgF_out a hp0.1] at z'; omega
    have eS : dyS T n p = (dgF T n 4 (p + 1, 0)).2 := if_pos z'
    have eA : dyA T n p = (dgF T n 4 (p + 1, 0)).1 := if_pos z'
    rw [eS, eA] at h
    have fq : FrQ c d (ud (ud d 62 c 1) 60 5 (p + 1)) := fun b j y1 y2 => by rw [ud_ne (by omega), ud_ne (by omega)]
    refine q_readFirst (k := 4) (by decide) hn hT (p := p + 1) (by omega) (hp.fq fq (ud_same _ _ _ _)) (by rw [ud_ne (by omega), ud_ne (by omega)]; exact hc) hc2 fun d1 q1 a63 a64 h5 hv => ?_
    have hh := h d1 (fq.tr q1) h5 hv
    dsimp only
    refine ⟨fun y => ?_, fun y => ?_⟩
    · rwa [y] at hh
    · rwa [bI_t (bI_n0.1 y)] at hh
  · have z' : ¬ sgF T n p = 32 := z
    have eS : dyS T n p = (p, 0) := if_neg z'
    have eA : dyA T n p = 1 := if_neg z'
    rw [eS, eA] at h
    have := h (ud d 62 c 1) (fun b j y1 y2 => by rw [ud_ne (by omega)]) (by rw [ud_ne (by omega)]; exact f5) (fun _ => ud_same _ _ _ _)
    rwa [bI_t rfl] at this
theorem q_readValues {n p c v : Int} {T : rW} {g : mG} {d : mD} {Q : mQ} (hn : 0 ≤ n ∧ n ≤ 60) (hT : ∀ j, 0 ≤ j → j < n → 0 ≤ T j ∧ T j ≤ 65535) (hp0 : 0 ≤ p ∧ p ≤ n) (hp : PC d T n p) (hc : d 60 4 = c) (hc2 : 0 ≤ c ∧ c < 16) (h : ∀ d', FrQ c d d' → d' 60 5 = (vlS T n v p).1 → ((vlS T n v p).2 = 0 → d' 62 c = vlA T n v p ∧ (v = 0 ∨ v = 4 → d' 63 c = vlB T n v p) ∧ (v = 0 → d' 64 c = sgF T n (sv2 T n p).1)) → Q (.inl (bI ((vlS T n v p).2 = 0))) g d') : MM mX6_readValues [vR 60, vR 1, vI v] g d Q := by
  have one : ¬ v = 0 → ¬ v = 1 → ¬ v = 4 → MM mX6_readFirst [vR 60, vR 1, vI 4] g d (fun o g16 d17 => match o with | .inl v15 => (0 ≤ v15 ∧ v15 ≤ 1) ∧ (Q (.inl v15) g16 d17) | .inr k => Q (.inr k) g16 d17) := fun h0 h1 h4 => by
    have eS : vlS T n v p = (dgF T n 4 (p, 0)).2 := by unfold vlS; rw [if_neg h0, if_neg h1, if_neg h4]
    have eA : vlA T n v p = (dgF T n 4 (p, 0)).1 := by unfold vlA; rw [if_neg h0, if_neg h1]
    rw [eS, eA] at h
    exact q_readFirst (k := 4) (by decide) hn hT hp0 hp hc hc2 fun d1 q1 a63 a64 h5 hv => ⟨bI_rng, h d1 q1 h5 (fun y => ⟨hv y, fun z => absurd z (by omega), fun z => absurd z h0⟩)⟩
  refine eX6_readValues ⟨fun h0 => ?_, fun h0 => ⟨fun h1 => ?_, fun h1 => ⟨fun h2 => one h0 h1 (by omega), fun h2 => ⟨fun h3 => one h0 h1 (by omega), fun h3 => ⟨fun h4 => ?_, fun h4 => one h0 h1 h4⟩⟩⟩⟩⟩
  · have eS : vlS T n v p = svS T n p := if_pos h0
    have eA : vlA T n v p = (dgF T n 1 (p, 0)).1 := if_pos h0
    have eB : vlB T n v p = (dgF T n 1 (sv1 T n p)).1 := if_pos h0
    rw [eS, eA, eB] at h
    exact q_readServe hn hT hp0 hp hc hc2 fun d1 q1 h5 hv => ⟨bI_rng, h d1 q1 h5 (fun y => ⟨(hv y).1, fun _ => (hv y).2.1, fun _ => (hv y).2.2⟩)⟩
  · have eS : vlS T n v p = dyS T n p := by unfold vlS; rw [if_neg h0, if_pos h1]
    have eA : vlA T n v p = dyA T n p := by unfold vlA; rw [if_neg h0, if_pos h1]
    rw [eS, eA] at h
    exact q_readDays hn hT hp0 hp hc hc2 fun d1 q1 h5 hv => ⟨bI_rng, h d1 q1 h5 (fun y => ⟨hv y, fun z => absurd z (by omega), fun z => absurd z h0⟩)⟩
  · have eS : vlS T n v p = (dgF T n 4 (mr1 T n p)).2 := by unfold vlS; rw [if_neg h0, if_neg h1, if_pos h4]
    have eA : vlA T n v p = (dgF T n 4 (p, 0)).1 := by unfold vlA; rw [if_neg h0, if_neg h1]
    have eB : vlB T n v p = (dgF T n 4 (mr1 T n p)).1 := if_neg h0
    rw [eS, eA, eB] at h
    refine q_readFirst (k := 4) (by decide) hn hT hp0 hp hc hc2 fun d1 f1 a63 a64 h5 hv => ?_
    have hr1 := (dgF_rng (T := T) (n := n) (k := 4) (s := (p, 0)) (by decide) ⟨hp0, Or.inl rfl⟩).2
    have P1 : PC d1 T n (dgF T n 4 (p, 0)).2.1 := hp.fq f1 h5
    have b2 := P1.1
    have b1 := P1.2.1
    obtain ⟨g1, g2⟩ := q_sign (T := T) hn hT hr1.1.1
    dsimp only
    rw [b2, b1, h5]
    have fail1 : ¬ ((dgF T n 4 (p, 0)).2.2 = 0 ∧ sgF T n (dgF T n 4 (p, 0)).2.1 = 32) → Q (.inl 0) g d1 := fun z => by
      have e1 : mr1 T n p = ((dgF T n 4 (p, 0)).2.1, 1) := tk_f z
      have e3 : dgF T n 4 (mr1 T n p) = (0, ((dgF T n 4 (p, 0)).2.1, 1)) := by
        rw [e1]
        exact dgF_w1 (by decide : ¬ ((1 : Int) = 0))
      rw [e3] at h
      have := h d1 f1 h5 (fun y => absurd y (by decide : ¬ ((1 : Int) = 0)))
      rwa [bI_f (by decide : ¬ ((1 : Int) = 0))] at this
    refine ⟨fun z => fail1 (fun y => (bI_0.1 z) y.1), fun z => ⟨g1, g2, fun c32 => ⟨ik (by have h1 := hr1.1.1; have h2 := hr1.1.2; omega), ?_⟩, fun c32 => fail1 (fun y => c32 y.2)⟩⟩
    have w1 : (dgF T n 4 (p, 0)).2.2 = 0 := bI_n0.1 z
    have c32' : sgF T n (dgF T n 4 (p, 0)).2.1 = 32 := c32
    have e1 : mr1 T n p = ((dgF T n 4 (p, 0)).2.1 + 1, 0) := tk_t ⟨w1, c32'⟩
    have hs1 : sOk n (mr1 T n p) := tk_ok hr1 (by decide)
    have hq := hs1.1
    rw [e1] at hq h
    have P2 : PC (ud d1 60 5 ((dgF T n 4 (p, 0)).2.1 + 1)) T n ((dgF T n 4 (p, 0)).2.1 + 1) := P1.fq (c := c) (FrB.q (fun b j y => ud_ne y)) (ud_same _ _ _ _)
    have c2 : ud d1 60 5 ((dgF T n 4 (p, 0)).2.1 + 1) 60 4 = c := by rw [ud_ne (by omega), f1 60 4 (by omega) (by omega)]; exact hc
    refine q_readSecond (k := 4) (by decide) hn hT hq P2 c2 hc2 fun d2 f2 a62 a64' h52 hv2 => ?_
    dsimp only
    rw [bI_cg bI_n0]
    have hh := h d2 ((f1.tr (FrB.q (fun b j y => ud_ne y))).tr f2) h52 (fun y => ⟨by rw [a62, ud_ne (by omega)]; exact hv w1, fun _ => hv2 y, fun z => absurd z h0⟩)
    first
      | exact hh
      | exact ⟨bI_rng, hh⟩
