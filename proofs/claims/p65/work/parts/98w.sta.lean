-- the law's start
abbrev mL0 : mM := (yL_law, cL_law, 7, RL, (some .boolean), (2048, 94400, 600390, 7290680), 0, [])
theorem mw_up {bc bs pc : Nat} {L : List (Nat × mV)} {S : List mV} {g : mG} {d : mD} {Q : mQ} (h : 65 ≤ g.1) (k0 : MW mL_law bc bs pc L S g d Q) : MW mL0 bc bs pc L S g d Q := by
  intro p l e s m args below meth c H locs cells slots X φ E ls hC hS hR hE hL hO hl hw hc hs
  exact k0 p l e s m args below meth c H locs cells slots X φ E ls hC hS hR hE hL hO hl (show (65 : Int) ≤ g.1 from h) hc hs
def nl1 : List (Int × Int × Int) := [(1, 0, 2), (0, 0, 1), (3, 0, 4), (0, 1, 3), (0, 2, 5), (7, 0, 8), (7, 1, 9), (6, 0, 7), (10, 1, 11), (6, 1, 10), (12, 0, 13), (12, 1, 14), (12, 2, 15), (6, 2, 12), (16, 0, 17), (16, 1, 18), (16, 2, 19), (16, 3, 20), (16, 4, 21), (16, 5, 22), (16, 6, 23), (16, 7, 24), (16, 8, 25), (16, 9, 26), (16, 10, 27), (6, 3, 16), (28, 0, 29), (28, 1, 30), (28, 2, 31), (28, 3, 32), (6, 4, 28), (34, 0, 35), (34, 1, 36), (34, 2, 37), (34, 3, 38), (34, 4, 39), (34, 5, 40), (34, 6, 41), (34, 7, 42), (34, 8, 43), (34, 9, 44), (34, 10, 45), (33, 0, 34), (33, 1, 46), (33, 2, 47), (33, 3, 48), (33, 4, 49), (33, 5, 50), (33, 6, 51), (6, 5, 33), (0, 3, 6), (0, 4, 52), (53, 2, 54), (53, 3, 55), (53, 0, 10), (53, 1, 28), (0, 7, 53), (56, 2, 57), (56, 3, 58), (56, 0, 10), (56, 1, 28), (0, 8, 56), (0, 9, 59), (60, 0, 61), (60, 1, 62), (60, 2, 63), (60, 3, 64), (0, 10, 60)]
theorem nl_all : ∀ q ∈ SPl, q ∈ nl1 := by decide +kernel
theorem nl_52 : ∀ q ∈ nl1, ¬ q.1 = 52 := by decide +kernel
theorem st_GP {r r1 : mR} (k1 : NR 0 nl1 r r1) : GP 65 r1 := by
  refine ⟨fun q hq _ => ?_, fun k h1 h2 => absurd h2 (by omega)⟩
  have e1 := k1.2 q (nl_all q hq)
  rw [Int.zero_add, Int.zero_add] at e1
  exact e1
theorem st_PD {r1 : mR} (k1 : NR 0 nl1 (fun _ _ => -1) r1) : PD (65, 65, r1) 0 := by
  refine ⟨⟨by decide, by decide⟩, rfl, rfl, fun i q1 q2 => ?_⟩
  show r1 52 i = _
  rw [k1.1 52 i (fun q hq z => nl_52 q hq (by omega)), iT_f (by omega)]
/-- the row of a new clock -/
def R00 : rW := fun j => if 119 ≤ j ∧ j < 135 then (if (j - 119) % 2 = 0 then 10 + 5 * (j - 119) else (j - 120) / 2 % 2) else if j = 136 then 1 else if j = 137 then 3 else if j = 138 then 14 else 0
theorem R00_l {r : Int} (h : 0 ≤ r ∧ r < 8) : R00 (119 + 2 * r) = 10 + 10 * r := by
  unfold R00
  rw [if_pos (by omega), if_pos (by omega)]
  omega
theorem R00_c {r : Int} (h : 0 ≤ r ∧ r < 8) : R00 (120 + 2 * r) = r % 2 := by
  unfold R00
  rw [if_pos (by omega), if_neg (by omega)]
  omega
theorem R00_0 : R00 0 = 0 := by decide +kernel
theorem R00_1 : R00 1 = 0 := by decide +kernel
theorem R00_2 : R00 2 = 0 := by decide +kernel
theorem R00_3 : R00 3 = 0 := by decide +kernel
theorem R00_4 : R00 4 = 0 := by decide +kernel
theorem R00_5 : R00 5 = 0 := by decide +kernel
theorem R00_6 : R00 6 = 0 := by decide +kernel
theorem R00_w : R00 135 = 0 ∧ R00 136 = 1 ∧ R00 137 = 3 ∧ R00 138 = 14 := by decide +kernel
theorem R00_rw : RW R00 := by
  have e0 := R00_0
  have e1 := R00_1
  have e2 := R00_2
  have e3 := R00_3
  have e4 := R00_4
  have e5 := R00_5
  have e6 := R00_6
  refine ⟨⟨by omega, by omega, by omega, by omega, by omega, by omega, by omega⟩, fun p q => absurd q (by omega), ⟨fun k q => absurd q (by omega), fun j k q1 q2 q3 => absurd q3 (by omega)⟩, ⟨fun r q => ?_, fun w q => ?_⟩, fun i q => absurd q (by omega), ⟨fun k q => absurd q (by omega), fun k q => absurd q (by omega)⟩, ⟨fun k q => absurd q (by omega), fun j k q => absurd q (by omega)⟩, fun c q => absurd q (by omega)⟩
  · have h1 := R00_l q
    have h2 := R00_c q
    omega
  · obtain ⟨w0, w1, w2, w3⟩ := R00_w
    rcases (show w = 0 ∨ w = 1 ∨ w = 2 ∨ w = 3 by omega) with rfl | rfl | rfl | rfl
    · rw [show (135 : Int) + 0 = 135 by decide, w0]; decide
    · rw [show (135 : Int) + 1 = 136 by decide, w1]; decide
    · rw [show (135 : Int) + 2 = 137 by decide, w2]; decide
    · rw [show (135 : Int) + 3 = 138 by decide, w3]; decide
/-- the cells when all is made -/
def Z0 (d : mD) : Prop := (∀ b j : Int, b ≠ SCR → ¬ (13 ≤ b ∧ b ≤ 15) → ¬ (b = 0 ∧ (j = 11 ∨ j = 12)) → d b j = 0) ∧ (∀ j, 0 ≤ j → j < 8 → d 13 j = 10 + 10 * j ∧ d 14 j = j % 2) ∧ d 15 0 = 0 ∧ d 15 1 = 1 ∧ d 15 2 = 3 ∧ d 15 3 = 14
theorem Z0.s {d : mD} (h : Z0 d) {b j : Int} (h1 : b ≠ SCR ∧ ¬ (13 ≤ b ∧ b ≤ 15) ∧ ¬ (b = 0 ∧ (j = 11 ∨ j = 12))) : d b j = 0 := h.1 b j h1.1 h1.2.1 h1.2.2
theorem Z0.ci {d : mD} (h : Z0 d) : CI d R00 := by
  have e0 := R00_0
  have e1 := R00_1
  have e2 := R00_2
  have e3 := R00_3
  have e4 := R00_4
  have e5 := R00_5
  have e6 := R00_6
  refine ⟨R00_rw, ⟨(h.s (by decide)).trans e0.symm, (h.s (by decide)).trans e2.symm, fun k q => absurd q (by omega)⟩, ⟨(h.s (by decide)).trans e1.symm, fun k q => absurd q (by omega)⟩, ⟨fun r q => ?_, fun w q => ?_⟩, ⟨(h.s (by decide)).trans e3.symm, fun k q => absurd q (by omega)⟩, ⟨(h.s (by decide)).trans e4.symm, fun k q => absurd q (by omega)⟩, ⟨(h.s (by decide)).trans e5.symm, fun k q => absurd q (by omega), fun k q => absurd q (by omega), fun a b q => absurd q (by omega)⟩, ⟨(h.s (by decide)).trans e6.symm, fun k q => absurd q (by omega)⟩⟩
  · have h1 := h.2.1 r q.1 q.2
    have h2 := R00_l q
    have h3 := R00_c q
    exact ⟨h1.1.trans h2.symm, h1.2.trans h3.symm⟩
  · obtain ⟨w0, w1, w2, w3⟩ := R00_w
    obtain ⟨_, v0, v1, v2, v3⟩ := h.2
    rcases (show w = 0 ∨ w = 1 ∨ w = 2 ∨ w = 3 by omega) with rfl | rfl | rfl | rfl
    · rw [show (135 : Int) + 0 = 135 by decide, w0, v0]
    · rw [show (135 : Int) + 1 = 136 by decide, w1, v1]
    · rw [show (135 : Int) + 2 = 137 by decide, w2, v2]
    · rw [show (135 : Int) + 3 = 138 by decide, w3, v3]
theorem Z0.ls {d : mD} {r1 : mR} (h : Z0 d) (k1 : NR 0 nl1 (fun _ _ => -1) r1) : KLS (65, 65, r1) d R00 0 (fun _ => R00) (d SCR) (d FGN) 0 := by
  refine ⟨⟨h.ci, 0, st_PD k1, ⟨?_, ?_, ?_⟩, h.s (by decide), by decide, fun j q1 q2 => absurd q2 (by omega)⟩, rfl, rfl, h.s (by decide), by decide, fun j q1 q2 => absurd q2 (by omega)⟩
  · rw [h.s (by decide)]; decide
  · rw [h.s (by decide)]; decide
  · rw [h.s (by decide)]; decide
theorem law_start {d : mD} {Q : mQ} (hQ : ∀ g d, Q (.inl 1) g d) (h0 : ∀ b j : Int, b ≠ SCR → d b j = 0) (hX : 0 ≤ d SCR (-1) ∧ d SCR (-3) = 0) : MW mL0 600390 7290680 0 [(0, (5, 0))] [] (0, 0, fun _ _ => -1) d Q := by
  refine mw_newO (a' := 1) (pc' := 3) dL_law_0 rfl fn_RL_16 (by decide +kernel) ⟨by decide, by decide, by decide⟩ ⟨by decide, by decide⟩ ?_
  show MW mL0 600389 7290667 3 [(0, (5, 0))] [vR 0] (0, 1, fun _ _ => -1) d Q
  refine mw_dup (pc' := 4) dL_law_3 rfl rfl ?_
  refine mw_callI (M' := mX11_init) (A := []) (A' := [vR 0]) (S := [vR 0]) (a := 0) (pc' := 7) dL_law_4 rfl cl_RL_249 cm_X11_init ci_X11_init rfl rfl ⟨by decide, by decide, by decide, by decide, by decide⟩ rfl rfl rfl ⟨by decide, by decide⟩ (Nat.le_of_ble_eq_true rfl) (i_X11 (by decide) fun r1 k1 d1 f1 e1 => ?_)
  have k1 : NR 0 nl1 (fun _ _ => -1) r1 := k1
  show MW mL0 600325 7279629 7 [(0, (5, 0))] [vR 0] (0, 65, r1) (ud (ud d1 0 11 (-1)) 0 12 (-1)) Q
  refine mw_astore_n (pc' := 8) (L' := [(0, (5, 0)), (1, vR 0)]) dL_law_7 rfl rfl (by simp) (by decide) rfl ?_
  refine mw_whole (pc' := 0) (nc := 65) ⟨show (0 : Int) ≤ 65 by decide, Int.le_refl 65⟩ (st_GP k1) ?_
  refine mw_up (Int.le_refl 65) ?_
  have ex : (ud (ud d1 0 11 (-1)) 0 12 (-1)) SCR = d SCR := funext fun j => by
    rw [ud_ne (fun z => absurd z.1 (by decide)), ud_ne (fun z => absurd z.1 (by decide)), f1 SCR j (by decide)]
  have z0 : Z0 (ud (ud d1 0 11 (-1)) 0 12 (-1)) := by
    have a1 : ∀ b j : Int, ¬ (b = 0 ∧ (j = 11 ∨ j = 12)) → (ud (ud d1 0 11 (-1)) 0 12 (-1)) b j = d1 b j := fun b j q => by
      rw [ud_ne (by omega), ud_ne (by omega)]
    refine ⟨fun b j q1 q2 q3 => ?_, fun j q1 q2 => ?_, ?_, ?_, ?_, ?_⟩
    · rw [a1 b j q3, f1 b j q2, h0 b j q1]
    · rw [a1 13 j (by omega), a1 14 j (by omega)]
      exact e1.1 j q1 q2
    · rw [a1 15 0 (by decide)]; exact e1.2.1
    · rw [a1 15 1 (by decide)]; exact e1.2.2.1
    · rw [a1 15 2 (by decide)]; exact e1.2.2.2.1
    · rw [a1 15 3 (by decide)]; exact e1.2.2.2.2
  refine f_law (sc := (ud (ud d1 0 11 (-1)) 0 12 (-1)) SCR) ?_ ?_ (by decide) (z0.ls k1) hQ
  · rw [ex]; exact hX.1
  · rw [ex]; exact hX.2
