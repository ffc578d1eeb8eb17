-- a program on both sides
theorem pgN_ok {T : rW} {n : Int} : ∀ (m : Nat) (p c : Int), 0 ≤ p ∧ p ≤ n → sOk n (pgN T n m p c).1 := by
  intro m
  induction m with
  | zero => intro p c hp; exact (cmS_ok hp).1
  | succ m ih =>
    intro p c hp
    have ok := (cmS_ok (T := T) hp).1
    rw [pgN_s]
    by_cases z : (cmS T n p).2 = 0 ∧ sgF T n (cmS T n p).1 = 59
    · rw [if_pos z]
      have hlt : (cmS T n p).1 < n := by
        rcases Int.lt_or_le (cmS T n p).1 n with a | a
        · exact a
        · have z2 := z.2
          rw [sgF_out a ok.1.1] at z2
          exact absurd z2 (by decide)
      have h0 := ok.1
      exact ih _ _ (by omega)
    · rw [if_neg z]
      exact ok
theorem o_run : Op mL_run [vR 0, vR 74] mX12_run [vR 65] := op_i fun g d R u H n T l e f h1 h2 h3 => by
  have hC := h1.1.1
  have e66 : d 66 = R := h2.1.1
  have e3 : d 65 3 = u := h2.1.2.1
  have e2 : d 2 = T := h1.2.1
  have e1 : d 1 1 = n := h1.2.2.1
  have hn60 := h3.1
  have hT : ∀ j, 0 ≤ j → j < n → 0 ≤ T j ∧ T j ≤ 65535 := fun j _ _ => h3.2.1 j
  obtain ⟨c, hP, hn, hu6, hu, hsl⟩ := id h1.1.2
  refine wr_run (eX11_run (q_parse hn60 hT e2 e1 (fun d4 f4 hno => ?_) (fun d4 f4 hok h604 hcnt hcm => ?_)))
  · -- not a program
    dsimp only
    have hp := (pgN_ok (T := T) (n := n) 60 0 0 (by omega)).1.1
    have hp' : 0 ≤ (pgF T n).1.1 := hp
    refine ⟨fun z => absurd z (by omega), fun _ => ?_⟩
    refine ⟨by decide, 1, rfl, fun Q2 h => ?_⟩
    have fc : ∀ b j : Int, ¬ (60 ≤ b ∧ b ≤ 64) → ¬ (b = 1 ∧ j = 1) → ¬ (b = 0 ∧ j = 11) → ud (ud d4 1 1 0) 0 11 (pgF T n).1.1 b j = d b j := fun b j q1 q2 q3 => by
      rw [ud_ne (by omega), ud_ne (by omega)]; exact f4 b j (by omega) (by omega)
    have hmh := h2.fr (d' := ud (ud d4 1 1 0) 0 11 (pgF T n).1.1) (fun b j q => fc b j (by omega) (by omega) (by omega))
    obtain ⟨⟨b1, b2, b3⟩, b4, b5, b6, b7, b8, b9⟩ := hmh
    refine m_run (T := T) (n := n) hn60 b4 b5 hT (by rw [b1]; exact hC.w) (by rw [b2]; exact hu) b9 (fun _ d2 f2 r66 r4 r5 r7 r10 r11 => ?_) (fun z => absurd z hno) (fun z => absurd z hno)
    have f22 : ∀ b j : Int, b ≠ 66 → b ≠ 67 → b ≠ 72 → ¬ (b = 65 ∧ (j = 4 ∨ j = 5 ∨ j = 7 ∨ j = 10 ∨ j = 11 ∨ j = 15 ∨ j = 17 ∨ j = 18)) → d2 b j = ud (ud d4 1 1 0) 0 11 (pgF T n).1.1 b j := f2
    have fcc : ∀ b j : Int, ¬ (60 ≤ b ∧ b ≤ 72) → ¬ (b = 1 ∧ j = 1) → ¬ (b = 0 ∧ j = 11) → d2 b j = d b j := fun b j q1 q2 q3 => (f22 b j (by omega) (by omega) (by omega) (by omega)).trans (fc b j (by omega) q2 q3)
    obtain ⟨a1, a2, a3, a4, a5, a6⟩ := h1
    refine h 0 d2 ⟨R, u, H, 0, T, l, (pgF T n).1.1, f, ⟨a1.fr (hC.fr (fun b j y1 y2 => fcc b j (by omega) (by omega) (by omega))) (fun b j y1 y2 => fcc b j (by omega) (by omega) (by omega)) (fcc 0 5 (by omega) (by omega) (by omega)) (fcc 0 6 (by omega) (by omega) (by omega)), (funext fun j => fcc 2 j (by omega) (by omega) (by omega)).trans a2, ?_, a4.frr (fcc 3 1 (by omega) (by omega) (by omega)) (fun j => fcc 4 j (by omega) (by omega) (by omega)), ?_, (fcc 0 12 (by omega) (by omega) (by omega)).trans a6⟩, ⟨⟨r66.trans b1, (f22 65 3 (by omega) (by omega) (by omega) (by omega)).trans b2, fun i q1 q2 x y1 y2 => (f22 68 _ (by omega) (by omega) (by omega) (by omega)).trans (b3 i q1 q2 x y1 y2)⟩, (funext fun j => f22 69 j (by omega) (by omega) (by omega) (by omega)).trans b4, r7, b6.frr (f22 65 9 (by omega) (by omega) (by omega) (by omega)) (fun j => f22 70 j (by omega) (by omega) (by omega) (by omega)), r10, r11.trans b8, r4⟩, ⟨⟨Int.le_refl _, by decide⟩, h3.2⟩⟩ ?_ r5 (fun z => absurd z (by decide))
    · rw [f22 1 1 (by omega) (by omega) (by omega) (by omega), ud_ne (by omega), ud_same]
    · rw [f22 0 11 (by omega) (by omega) (by omega) (by omega), ud_same]
    · exact funext fun j => fcc SCR j (by decide) (fun q => absurd q.1 (by decide)) (fun q => absurd q.1 (by decide))
  · -- a program
    dsimp only
    refine ⟨fun _ => ?_, fun z => absurd rfl z⟩
    have f0 : ∀ b j : Int, ¬ (60 ≤ b ∧ b ≤ 64) → ¬ (b = 1 ∧ j = 1) → ud d4 1 1 0 b j = d b j := fun b j q1 q2 => by
      rw [ud_ne (by omega)]; exact f4 b j (by omega) (by omega)
    have hC0 : CI (ud d4 1 1 0) R := hC.fr (fun b j y1 y2 => f0 b j (by omega) (by omega))
    have e05 : ud d4 1 1 0 0 5 = d 0 5 := f0 0 5 (by omega) (by omega)
    refine q_setAside (np := d 0 5) (A := 76 + 46 * d 0 5) hP e05 ⟨hn.1, hn.2.1, hn.2.2⟩ rfl hC0 (fun c' g3 d3 hP' q1 q2 f3 hC3 => ?_)
    dsimp only
    have f30 : ∀ b j : Int, ¬ (60 ≤ b ∧ b ≤ 64) → ¬ (b = 1 ∧ j = 1) → ¬ (76 + 46 * d 0 5 ≤ b ∧ b < 122 + 46 * d 0 5) → d3 b j = d b j := fun b j y1 y2 y3 => (f3 b j (by omega)).trans (f0 b j y1 y2)
    have f34 : ∀ b j : Int, b < 76 → ¬ (b = 1 ∧ j = 1) → d3 b j = d4 b j := fun b j y1 y2 => (f3 b j (by omega)).trans (ud_ne (by omega))
    have e311 : d3 1 1 = 0 := (f3 1 1 (by omega)).trans (ud_same _ _ _ _)
    have hCd3 : CI d3 R := hC.fr (fun b j y1 y2 => f30 b j (by omega) (by omega) (by omega))
    -- what stays, whatever the commands do to the docket
    have stay : ∀ d5 : mD, FrT d3 d5 → (∀ j, 0 ≤ j → j < u → SlotS d5 c' ((d 0 5 + 9 - u + j) % 9) (H j)) ∧ SlotS d5 c' (d 0 5) R := fun d5 f5 => by
      refine ⟨fun j y1 y2 => ?_, ⟨q1, CI.sh (d := d3) (k := 76 + 46 * d 0 5 - 6) hC3 (fun b j hb => ?_)⟩⟩
      · have hs1 := hsl j y1 y2
        have hk := hs1.1
        refine hs1.fr ⟨by omega, hP.1.2⟩ (fun b i z1 z2 => ?_) q2
        rw [f5 b i (by omega)]
        exact f30 b i (by omega) (by omega) (by omega)
      · have := inC_e hb
        rw [show 70 + 46 * d 0 5 = 76 + 46 * d 0 5 - 6 by omega]
        exact f5 _ _ (by omega)
    refine t_run1 (T := T) (n := n) (R := R) hCd3 ((f34 60 4 (by omega) (by omega)).trans h604) hcnt (fun k y1 y2 => (hcm k y1 y2).fr (fun b z1 z2 => f34 b k (by omega) (by omega))) (fun d5 f5 hfail => ?_) (fun d5 f5 hdone hC5 => ?_)
    · -- a command failed
      have e55 : d5 0 5 = d 0 5 := (f5 0 5 (by omega)).trans (f30 0 5 (by omega) (by omega) (by omega))
      obtain ⟨hst1, hst2⟩ := stay d5 f5
      refine q_takeBack (c := c') (np := d 0 5) (A := 76 + 46 * d 0 5) (R := R) hP' e55 ⟨hn.1, q1⟩ rfl (by rw [show 76 + 46 * d 0 5 - 6 = 70 + 46 * d 0 5 by omega]; exact hst2.2) (fun d6 f6 hC6 => ?_)
      dsimp only
      refine ⟨by decide, 2, rfl, fun Q2 h => ?_⟩
      have f60 : ∀ b j : Int, ¬ (6 ≤ b ∧ b ≤ 64) → ¬ (b = 1 ∧ j = 1) → ¬ (76 ≤ b ∧ b < 490) → ¬ (b = 0 ∧ j = 12) → ud d6 0 12 (rnF T n R).1 b j = d b j := fun b j y1 y2 y3 y4 => by
        rw [ud_ne (by omega), f6 b j (by omega), f5 b j (by omega)]; exact f30 b j (by omega) y2 (by omega)
      have hmh := h2.fr (d' := ud d6 0 12 (rnF T n R).1) (fun b j q => f60 b j (by omega) (by omega) (by omega) (by omega))
      obtain ⟨⟨b1, b2, b3⟩, b4, b5, b6, b7, b8, b9⟩ := hmh
      refine m_run (T := T) (n := n) hn60 b4 b5 hT (by rw [b1]; exact hC.w) (by rw [b2]; exact hu) b9 (fun z => absurd hok z) (fun _ _ d2 f2 r66 r4 r5 r7 r10 r11 => ?_) (fun _ z => absurd z (by rw [b1]; omega))
      rw [b1] at r66 r11
      have f22 : ∀ b j : Int, b ≠ 66 → b ≠ 67 → b ≠ 72 → ¬ (b = 65 ∧ (j = 4 ∨ j = 5 ∨ j = 7 ∨ j = 10 ∨ j = 11 ∨ j = 15 ∨ j = 17 ∨ j = 18)) → d2 b j = ud d6 0 12 (rnF T n R).1 b j := f2
      have fcc : ∀ b j : Int, ¬ (6 ≤ b ∧ b ≤ 72) → ¬ (b = 1 ∧ j = 1) → ¬ (76 ≤ b ∧ b < 490) → ¬ (b = 0 ∧ j = 12) → d2 b j = d b j := fun b j y1 y2 y3 y4 => (f22 b j (by omega) (by omega) (by omega) (by omega)).trans (f60 b j (by omega) y2 y3 y4)
      have f26 : ∀ b j : Int, ¬ (65 ≤ b ∧ b ≤ 72) → b ≠ 0 → d2 b j = d6 b j := fun b j y1 y2 => (f22 b j (by omega) (by omega) (by omega) (by omega)).trans (ud_ne (by omega))
      have e25 : d2 0 5 = d 0 5 := fcc 0 5 (by omega) (by omega) (by omega) (by omega)
      obtain ⟨a1, a2, a3, a4, a5, a6⟩ := h1
      refine h 0 d2 ⟨d2 66, u, H, 0, T, l, e, (rnF T n R).1, ⟨⟨(hC6.fr (d' := d2) (fun b j y1 y2 => f26 b j (by omega) (by omega))).on r66, c', hP', by rw [e25]; exact ⟨hn.1, hn.2.1, by omega⟩, (fcc 0 6 (by omega) (by omega) (by omega) (by omega)).trans hu6, hu, ?_⟩, (funext fun j => fcc 2 j (by omega) (by omega) (by omega) (by omega)).trans a2, ?_, a4.frr (fcc 3 1 (by omega) (by omega) (by omega) (by omega)) (fun j => fcc 4 j (by omega) (by omega) (by omega) (by omega)), (fcc 0 11 (by omega) (by omega) (by omega) (by omega)).trans a5, ?_⟩, ⟨⟨rfl, (f22 65 3 (by omega) (by omega) (by omega) (by omega)).trans b2, fun i y1 y2 x z1 z2 => (f22 68 _ (by omega) (by omega) (by omega) (by omega)).trans (b3 i y1 y2 x z1 z2)⟩, (funext fun j => f22 69 j (by omega) (by omega) (by omega) (by omega)).trans b4, r7, b6.frr (f22 65 9 (by omega) (by omega) (by omega) (by omega)) (fun j => f22 70 j (by omega) (by omega) (by omega) (by omega)), r10.trans b7, r11, r4⟩, ⟨⟨Int.le_refl _, by decide⟩, h3.2⟩⟩ ?_ r5 (fun z => absurd z (by decide))
      · rw [e25]
        intro j y1 y2
        have hs := hst1 j y1 y2
        have hk := hs.1
        exact hs.fr ⟨by omega, hP'.1.2⟩ (fun b i z1 z2 => (f26 b i (by omega) (by omega)).trans (f6 b i (by omega))) (Int.le_refl _)
      · rw [f26 1 1 (by omega) (by omega), f6 1 1 (by omega), f5 1 1 (by omega)]; exact e311
      · rw [f22 0 12 (by omega) (by omega) (by omega) (by omega), ud_same]
      · exact funext fun j => fcc SCR j (by decide) (fun q => absurd q.1 (by decide)) (by decide) (fun q => absurd q.1 (by decide))
    · -- all went through
      have e55 : d5 0 5 = d 0 5 := (f5 0 5 (by omega)).trans (f30 0 5 (by omega) (by omega) (by omega))
      have e56 : d5 0 6 = u := ((f5 0 6 (by omega)).trans (f30 0 6 (by omega) (by omega) (by omega))).trans hu6
      obtain ⟨hst1, hst2⟩ := stay d5 f5
      refine s_settle (l := []) (fun z => absurd z (by omega)) ⟨by omega, by omega⟩ ⟨by omega, by omega⟩ (fun z => absurd z (by omega)) (fun _ => ?_)
      rw [e55, e56]
      dsimp only
      refine ⟨0, rfl, fun Q2 h => ?_⟩
      have f60 : ∀ b j : Int, ¬ (6 ≤ b ∧ b ≤ 64) → ¬ (b = 1 ∧ j = 1) → ¬ (76 ≤ b ∧ b < 490) → ¬ (b = 0 ∧ (j = 5 ∨ j = 6)) → b ≠ 74 → ud (ud (ud d5 0 5 (iT (d 0 5 = 8) 0 (d 0 5 + 1))) 0 6 (min 8 (u + 1))) 74 0 (pgF T n).2 b j = d b j := fun b j y1 y2 y3 y4 y5 => by
        rw [ud_ne (by omega), ud_ne (by omega), ud_ne (by omega), f5 b j (by omega)]; exact f30 b j (by omega) y2 (by omega)
      have e68 : ∀ b j : Int, b ≠ 0 → b ≠ 74 → ud (ud (ud d5 0 5 (iT (d 0 5 = 8) 0 (d 0 5 + 1))) 0 6 (min 8 (u + 1))) 74 0 (pgF T n).2 b j = d5 b j := fun b j y1 y2 => by rw [ud_ne (by omega), ud_ne (by omega), ud_ne (by omega)]
      have e605 : ud (ud (ud d5 0 5 (iT (d 0 5 = 8) 0 (d 0 5 + 1))) 0 6 (min 8 (u + 1))) 74 0 (pgF T n).2 0 5 = iT (d 0 5 = 8) 0 (d 0 5 + 1) := by rw [ud_ne (by omega), ud_ne (by omega), ud_same]
      have e606 : ud (ud (ud d5 0 5 (iT (d 0 5 = 8) 0 (d 0 5 + 1))) 0 6 (min 8 (u + 1))) 74 0 (pgF T n).2 0 6 = min 8 (u + 1) := by rw [ud_ne (by omega), ud_same]
      have e674 : ud (ud (ud d5 0 5 (iT (d 0 5 = 8) 0 (d 0 5 + 1))) 0 6 (min 8 (u + 1))) 74 0 (pgF T n).2 74 0 = (pgF T n).2 := ud_same _ _ _ _
      generalize ud (ud (ud d5 0 5 (iT (d 0 5 = 8) 0 (d 0 5 + 1))) 0 6 (min 8 (u + 1))) 74 0 (pgF T n).2 = d6 at f60 e68 e605 e606 e674 ⊢
      have hmh := h2.fr (d' := d6) (fun b j q => f60 b j (by omega) (by omega) (by omega) (by omega) (by omega))
      obtain ⟨⟨b1, b2, b3⟩, b4, b5, b6, b7, b8, b9⟩ := hmh
      refine m_run (T := T) (n := n) hn60 b4 b5 hT (by rw [b1]; exact hC.w) (by rw [b2]; exact hu) b9 (fun z => absurd hok z) (fun _ z => absurd z (by rw [b1]; omega)) (fun _ _ d2 d7 f7 r67 r66 r4 r5 r7 r10 r11 ed2 => ?_)
      rw [b1] at r66 r67
      rw [b2] at ed2
      have f77 : ∀ b j : Int, b ≠ 66 → b ≠ 67 → b ≠ 72 → ¬ (b = 65 ∧ (j = 4 ∨ j = 5 ∨ j = 7 ∨ j = 10 ∨ j = 11 ∨ j = 15 ∨ j = 17 ∨ j = 18)) → d7 b j = d6 b j := f7
      have g2 : ∀ b j : Int, b ≠ 68 → ¬ (b = 65 ∧ j = 3) → d2 b j = d7 b j := fun b j y1 y2 => by rw [ed2]; exact mRemR_fr (by omega)
      have f26 : ∀ b j : Int, ¬ (65 ≤ b ∧ b ≤ 72) → d2 b j = d6 b j := fun b j y1 => (g2 b j (by omega) (by omega)).trans (f77 b j (by omega) (by omega) (by omega) (by omega))
      have fcc : ∀ b j : Int, ¬ (6 ≤ b ∧ b ≤ 72) → ¬ (b = 1 ∧ j = 1) → ¬ (76 ≤ b ∧ b < 490) → ¬ (b = 0 ∧ (j = 5 ∨ j = 6)) → b ≠ 74 → d2 b j = d b j := fun b j y1 y2 y3 y4 y5 => (f26 b j (by omega)).trans (f60 b j (by omega) y2 y3 y4 y5)
      have e25 : d2 0 5 = iT (d 0 5 = 8) 0 (d 0 5 + 1) := (f26 0 5 (by omega)).trans e605
      obtain ⟨a1, a2, a3, a4, a5, a6⟩ := h1
      have hnp : 0 ≤ iT (d 0 5 = 8) 0 (d 0 5 + 1) ∧ iT (d 0 5 = 8) 0 (d 0 5 + 1) ≤ 8 ∧ iT (d 0 5 = 8) 0 (d 0 5 + 1) ≤ c' := by
        by_cases c8 : d 0 5 = 8
        · rw [iT_t c8]; omega
        · rw [iT_f c8]; omega
      refine h _ d2 ⟨(rnF T n R).2, min 8 (u + 1), hPush u R H, 0, T, l, e, f, ⟨⟨hC5.fr (fun b j y1 y2 => (f26 b j (by omega)).trans (e68 b j (by omega) (by omega))), c', hP', by rw [e25]; exact hnp, (f26 0 6 (by omega)).trans e606, by omega, ?_⟩, (funext fun j => fcc 2 j (by omega) (by omega) (by omega) (by omega) (by omega)).trans a2, ?_, a4.frr (fcc 3 1 (by omega) (by omega) (by omega) (by omega) (by omega)) (fun j => fcc 4 j (by omega) (by omega) (by omega) (by omega) (by omega)), (fcc 0 11 (by omega) (by omega) (by omega) (by omega) (by omega)).trans a5, (fcc 0 12 (by omega) (by omega) (by omega) (by omega) (by omega)).trans a6⟩, ⟨⟨?_, ?_, fun i y1 y2 x z1 z2 => ?_⟩, ?_, ?_, ?_, ?_, ?_, ?_⟩, ⟨⟨Int.le_refl _, by decide⟩, h3.2⟩⟩ ?_ ?_ (fun _ => ?_)
      · rw [e25]
        intro j y1 y2
        have hr := ring_push (S := fun k R' => SlotS d5 c' k R') (H' := hPush u R H) ⟨hn.1, hn.2.1⟩ hu rfl rfl hst1 hst2 hPush_ok.1 hPush_ok.2 j y1 y2
        have hk9 := hr.1
        exact hr.fr ⟨by omega, hP'.1.2⟩ (fun b i z1 z2 => (f26 b i (by omega)).trans (e68 b i (by omega) (by omega))) (Int.le_refl _)
      · rw [f26 1 1 (by omega), e68 1 1 (by omega) (by omega), f5 1 1 (by omega)]; exact e311
      · exact (funext fun j => g2 66 j (by omega) (by omega)).trans r66
      · rw [ed2]
        unfold mRemR
        rw [if_neg (by decide), if_pos ⟨rfl, rfl⟩]
        by_cases c8 : u = 8
        · rw [if_pos c8]; omega
        · rw [if_neg c8]; omega
      · rw [ed2]
        unfold mRemR hPush
        rw [if_pos rfl]
        have fh : ∀ t, d7 68 t = d6 68 t := fun t => f77 68 t (by omega) (by omega) (by omega) (by omega)
        by_cases c8 : u = 8
        · rw [if_pos c8, if_pos c8]
          by_cases ci : i < 7
          · rw [if_pos ci, if_pos ⟨by omega, by omega⟩, fh, show 787 * i + x + 787 = 787 * (i + 1) + x by omega]
            exact b3 (i + 1) (by omega) (by omega) x z1 z2
          · rw [if_neg ci, if_neg (by omega), if_pos ⟨by omega, by omega⟩, show 787 * i + x - 5509 = x by omega]
            exact r67 x z1 (by omega)
        · rw [if_neg c8, if_neg c8]
          by_cases ci : i < u
          · rw [if_pos ci, if_neg (by omega), fh]
            exact b3 i y1 ci x z1 z2
          · have ei : i = u := by omega
            subst ei
            rw [if_neg ci, if_pos ⟨by omega, by omega⟩, show 787 * i + x - i * 787 = x by omega]
            exact r67 x z1 (by omega)
      · exact ((funext fun j => g2 69 j (by omega) (by omega)).trans (funext fun j => f77 69 j (by omega) (by omega) (by omega) (by omega))).trans b4
      · exact (g2 65 7 (by omega) (by omega)).trans r7
      · exact b6.frr ((g2 65 9 (by omega) (by omega)).trans (f77 65 9 (by omega) (by omega) (by omega) (by omega))) (fun j => (g2 70 j (by omega) (by omega)).trans (f77 70 j (by omega) (by omega) (by omega) (by omega)))
      · exact ((g2 65 10 (by omega) (by omega)).trans r10).trans b7
      · exact ((g2 65 11 (by omega) (by omega)).trans r11).trans b8
      · exact (g2 65 4 (by omega) (by omega)).trans r4
      · exact funext fun j => fcc SCR j (by decide) (fun q => absurd q.1 (by decide)) (by decide) (fun q => absurd q.1 (by decide)) (by decide)
      · exact (g2 65 5 (by omega) (by omega)).trans r5
      · rw [f26 74 0 (by omega)]; exact e674.symm
