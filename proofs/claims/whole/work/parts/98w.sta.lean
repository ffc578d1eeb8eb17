-- the law's start
abbrev mL0 : mM := (yL_law, cL_law, 9, RL, (some .boolean), (2048, 94400, 603072, 7211114), 0, [])
theorem mw_up {bc bs pc : Nat} {L : List (Nat × mV)} {S : List mV} {g : mG} {d : mD} {Q : mQ} (h : 76 ≤ g.1) (k0 : MW mL_law bc bs pc L S g d Q) : MW mL0 bc bs pc L S g d Q := by
  intro p l e s m args below meth c H locs cells slots X φ E ls hC hS hR hE hL hO hl hw hc hs
  exact k0 p l e s m args below meth c H locs cells slots X φ E ls hC hS hR hE hL hO hl (show (76 : Int) ≤ g.1 from h) hc hs
theorem ac_D : Cond.arrayClass .double ∈ BIG := goodW 2147 (by decide +kernel) rfl
theorem mw_newDO {M : mM} {bc bs : Nat} {pc pc' : Nat} {L : List (Nat × mV)} {S : List mV} {a a' n1 n : Int} {r : mR} {d : mD} {Q : mQ} (hd : decode (mC M) pc = .ok (.newarray .double, 2)) (hp : pc + 2 = pc') (hk : LK a = 104) (hln : LN a = n) (hc : (0 ≤ n ∧ n ≤ 10000) ∧ 1 ≤ bc ∧ n.toNat ≤ bs) (ha : a < 490 ∧ a + 1 = a') (k0 : MW M (bc - 1) (bs - n.toNat) pc' L (vR a :: S) (n1, a', r) d Q) : MW M bc bs pc L (vI n :: S) (n1, a, r) d Q := by
  obtain ⟨ha1, rfl⟩ := ha
  exact mw_newD hd hp ac_D hk hln hc.1 ha1 hc.2.1 hc.2.2 k0
def nl1 : List (Int × Int × Int) := [(1, 0, 2), (0, 0, 1), (3, 0, 4), (0, 1, 3), (0, 2, 5), (7, 0, 8), (7, 1, 9), (6, 0, 7), (10, 1, 11), (6, 1, 10), (12, 0, 13), (12, 1, 14), (12, 2, 15), (6, 2, 12), (16, 0, 17), (16, 1, 18), (16, 2, 19), (16, 3, 20), (16, 4, 21), (16, 5, 22), (16, 6, 23), (16, 7, 24), (16, 8, 25), (16, 9, 26), (16, 10, 27), (6, 3, 16), (28, 0, 29), (28, 1, 30), (28, 2, 31), (28, 3, 32), (6, 4, 28), (34, 0, 35), (34, 1, 36), (34, 2, 37), (34, 3, 38), (34, 4, 39), (34, 5, 40), (34, 6, 41), (34, 7, 42), (34, 8, 43), (34, 9, 44), (34, 10, 45), (33, 0, 34), (33, 1, 46), (33, 2, 47), (33, 3, 48), (33, 4, 49), (33, 5, 50), (33, 6, 51), (6, 5, 33), (0, 3, 6), (0, 4, 52), (53, 2, 54), (53, 3, 55), (53, 0, 10), (53, 1, 28), (0, 7, 53), (56, 2, 57), (56, 3, 58), (56, 0, 10), (56, 1, 28), (0, 8, 56), (0, 9, 59), (60, 0, 61), (60, 1, 62), (60, 2, 63), (60, 3, 64), (0, 10, 60)]
def nl2 : List (Int × Int × Int) := [(65, 0, 66), (65, 1, 67), (65, 2, 68), (65, 6, 69), (65, 8, 70), (65, 12, 71), (65, 14, 72), (65, 16, 73)]
theorem nl_all : ∀ q ∈ SPl, q ∈ nl1 ∨ q ∈ nl2 := by decide +kernel
theorem nl_dis : ∀ q ∈ nl1, ∀ q' ∈ nl2, ¬ (q.1 = q'.1 ∧ q.2.1 = q'.2.1) := by decide +kernel
theorem nl_52 : (∀ q ∈ nl1, ¬ q.1 = 52) ∧ ∀ q ∈ nl2, ¬ q.1 = 52 := by decide +kernel
theorem st_GP {r r1 r2 : mR} (k1 : NR 0 nl1 r r1) (k2 : NR 0 nl2 r1 r2) : GP 76 r2 := by
  refine ⟨fun q hq _ => ?_, fun k h1 h2 => absurd h2 (by omega)⟩
  rcases nl_all q hq with h | h
  · have e1 := k1.2 q h
    rw [Int.zero_add, Int.zero_add] at e1
    rw [k2.1 q.1 q.2.1 (fun q' hq' z => nl_dis q h q' hq' ⟨by omega, z.2⟩)]
    exact e1
  · have e1 := k2.2 q h
    rw [Int.zero_add, Int.zero_add] at e1
    exact e1
theorem st_PD {r1 r2 : mR} (k1 : NR 0 nl1 (fun _ _ => -1) r1) (k2 : NR 0 nl2 r1 r2) : PD (76, 76, r2) 0 := by
  refine ⟨⟨by decide, by decide⟩, rfl, rfl, fun i q1 q2 => ?_⟩
  show r2 52 i = _
  rw [k2.1 52 i (fun q hq z => nl_52.2 q hq (by omega)), k1.1 52 i (fun q hq z => nl_52.1 q hq (by omega)), iT_f (by omega)]
/-- the cells when all is made -/
def Z0 (d : mD) : Prop := (∀ b j : Int, b ≠ SCR → ¬ (13 ≤ b ∧ b ≤ 15) → ¬ (b = 66 ∧ 119 ≤ j ∧ j < 139) → ¬ (b = 0 ∧ (j = 11 ∨ j = 12)) → ¬ (b = 65 ∧ (j = 10 ∨ j = 11)) → d b j = 0) ∧ (d 0 11 = -1 ∧ d 0 12 = -1 ∧ d 65 10 = -1 ∧ d 65 11 = -1) ∧ ((∀ j, 0 ≤ j → j < 8 → d 13 j = 10 + 10 * j ∧ d 14 j = j % 2) ∧ d 15 0 = 0 ∧ d 15 1 = 1 ∧ d 15 2 = 3 ∧ d 15 3 = 14) ∧ (∀ j, 0 ≤ j → j < 8 → d 66 (119 + 2 * j) = 10 + 10 * j ∧ d 66 (119 + 2 * j + 1) = j % 2) ∧ d 66 135 = 0 ∧ d 66 136 = 1 ∧ d 66 137 = 3 ∧ d 66 138 = 14
theorem Z0.s {d : mD} (h : Z0 d) {b j : Int} (h1 : b ≠ SCR ∧ ¬ (13 ≤ b ∧ b ≤ 15) ∧ b ≠ 66 ∧ b ≠ 65 ∧ (b ≠ 0 ∨ (j ≠ 11 ∧ j ≠ 12))) : d b j = 0 := h.1 b j h1.1 h1.2.1 (fun z => h1.2.2.1 z.1) (fun z => by omega) (fun z => h1.2.2.2.1 z.1)
theorem Z0.r {d : mD} (h : Z0 d) {j : Int} (h1 : ¬ (119 ≤ j ∧ j < 139)) : d 66 j = 0 := h.1 66 j (by decide) (by decide) (fun z => h1 z.2) (fun z => absurd z.1 (by decide)) (fun z => absurd z.1 (by decide))
theorem Z0.rw {d : mD} (h : Z0 d) : RW (d 66) := by
  have e1 : d 66 1 = 0 := h.r (by decide)
  have e2 : d 66 2 = 0 := h.r (by decide)
  have e3 : d 66 3 = 0 := h.r (by decide)
  have e4 : d 66 4 = 0 := h.r (by decide)
  have e5 : d 66 5 = 0 := h.r (by decide)
  have e6 : d 66 6 = 0 := h.r (by decide)
  have e0 : d 66 0 = 0 := h.r (by decide)
  refine ⟨⟨by omega, by omega, by omega, by omega, by omega, by omega, by omega⟩, fun p q => absurd q (by omega), ⟨fun k q => absurd q (by omega), fun j k q1 q2 q3 => absurd q3 (by omega)⟩, ⟨fun r q => ?_, fun w q => ?_⟩, fun i q => absurd q (by omega), ⟨fun k q => absurd q (by omega), fun k q => absurd q (by omega)⟩, ⟨fun k q => absurd q (by omega), fun j k q => absurd q (by omega)⟩, fun c q => absurd q (by omega)⟩
  · have := h.2.2.2.1 r q.1 q.2
    rw [show 119 + 2 * r + 1 = 120 + 2 * r by omega] at this
    omega
  · obtain ⟨w0, w1, w2, w3⟩ := h.2.2.2.2
    rcases (show w = 0 ∨ w = 1 ∨ w = 2 ∨ w = 3 by omega) with rfl | rfl | rfl | rfl
    · rw [show (135 : Int) + 0 = 135 by decide, w0]; decide
    · rw [show (135 : Int) + 1 = 136 by decide, w1]; decide
    · rw [show (135 : Int) + 2 = 137 by decide, w2]; decide
    · rw [show (135 : Int) + 3 = 138 by decide, w3]; decide
theorem Z0.ci {d : mD} (h : Z0 d) : CI d (d 66) := by
  have e1 : d 66 1 = 0 := h.r (by decide)
  have e2 : d 66 2 = 0 := h.r (by decide)
  have e3 : d 66 3 = 0 := h.r (by decide)
  have e4 : d 66 4 = 0 := h.r (by decide)
  have e5 : d 66 5 = 0 := h.r (by decide)
  have e6 : d 66 6 = 0 := h.r (by decide)
  have e0 : d 66 0 = 0 := h.r (by decide)
  refine ⟨h.rw, ⟨(h.s (by decide)).trans e0.symm, (h.s (by decide)).trans e2.symm, fun k q => absurd q (by omega)⟩, ⟨(h.s (by decide)).trans e1.symm, fun k q => absurd q (by omega)⟩, ⟨fun r q => ?_, fun w q => ?_⟩, ⟨(h.s (by decide)).trans e3.symm, fun k q => absurd q (by omega)⟩, ⟨(h.s (by decide)).trans e4.symm, fun k q => absurd q (by omega)⟩, ⟨(h.s (by decide)).trans e5.symm, fun k q => absurd q (by omega), fun k q => absurd q (by omega), fun a b q => absurd q (by omega)⟩, ⟨(h.s (by decide)).trans e6.symm, fun k q => absurd q (by omega)⟩⟩
  · have h1 := h.2.2.1.1 r q.1 q.2
    have h2 := h.2.2.2.1 r q.1 q.2
    rw [show 119 + 2 * r + 1 = 120 + 2 * r by omega] at h2
    exact ⟨h1.1.trans h2.1.symm, h1.2.trans h2.2.symm⟩
  · obtain ⟨w0, w1, w2, w3⟩ := h.2.2.2.2
    obtain ⟨_, v0, v1, v2, v3⟩ := h.2.2.1
    rcases (show w = 0 ∨ w = 1 ∨ w = 2 ∨ w = 3 by omega) with rfl | rfl | rfl | rfl
    · rw [show (135 : Int) + 0 = 135 by decide, w0, v0]
    · rw [show (135 : Int) + 1 = 136 by decide, w1, v1]
    · rw [show (135 : Int) + 2 = 137 by decide, w2, v2]
    · rw [show (135 : Int) + 3 = 138 by decide, w3, v3]
theorem Z0.m {d : mD} (h : Z0 d) {j : Int} (h1 : j ≠ 10 ∧ j ≠ 11) : d 65 j = 0 := h.1 65 j (by decide) (by decide) (fun z => absurd z.1 (by decide)) (fun z => absurd z.1 (by decide)) (fun z => by omega)
theorem Z0.inv {d : mD} {r1 r2 : mR} (h : Z0 d) (k1 : NR 0 nl1 (fun _ _ => -1) r1) (k2 : NR 0 nl2 r1 r2) : INV (76, 76, r2) d := by
  refine ⟨d 66, 0, fun _ => d 66, 0, d 2, (0, fun _ => 0), -1, -1, ⟨⟨h.ci, 0, st_PD k1 k2, ⟨?_, ?_, ?_⟩, h.s (by decide), by decide, fun j q1 q2 => absurd q2 (by omega)⟩, rfl, h.s (by decide), ⟨⟨Int.le_refl 0, fun j q1 q2 => absurd q2 (Int.not_lt.mpr q1)⟩, h.s (by decide), fun j q1 q2 => absurd q2 (Int.not_lt.mpr q1)⟩, h.2.1.1, h.2.1.2.1⟩, ⟨⟨rfl, h.m (by decide), fun i q1 q2 => absurd q2 (by omega)⟩, funext fun j => (h.s ⟨by decide, by decide, by decide, by decide, Or.inl (by decide)⟩).trans (h.s ⟨by decide, by decide, by decide, by decide, Or.inl (by decide)⟩).symm, h.m (by decide), ⟨⟨Int.le_refl 0, fun j q1 q2 => absurd q2 (Int.not_lt.mpr q1)⟩, h.m (by decide), fun j q1 q2 => absurd q2 (Int.not_lt.mpr q1)⟩, h.2.1.2.2.1, h.2.1.2.2.2, h.m (by decide)⟩, ⟨by decide, fun j => ?_, by decide⟩⟩
  · rw [h.s (by decide)]; decide
  · rw [h.s (by decide)]; decide
  · rw [h.s (by decide)]; decide
  · rw [h.s ⟨by decide, by decide, by decide, by decide, Or.inl (by decide)⟩]; decide
theorem law_start {d : mD} {Q : mQ} (hQ : ∀ g d, Q (.inl 1) g d) (h0 : ∀ b j : Int, b ≠ SCR → d b j = 0) (hX : 0 ≤ d SCR (-1) ∧ d SCR (-1) ≤ 2048) : MW mL0 603072 7211114 0 [(0, (5, 0))] [] (0, 0, fun _ _ => -1) d Q := by
  refine mw_newO (a' := 1) (pc' := 3) dL_law_0 rfl fn_RL_8 (by decide +kernel) ⟨by decide, by decide, by decide⟩ ⟨by decide, by decide⟩ ?_
  show MW mL0 603071 7211101 3 [(0, (5, 0))] [vR 0] (0, 1, fun _ _ => -1) d Q
  refine mw_dup (pc' := 4) dL_law_3 rfl rfl ?_
  refine mw_callI (M' := mX11_init) (A := []) (A' := [vR 0]) (S := [vR 0]) (a := 0) (pc' := 7) dL_law_4 rfl cl_RL_201 cm_X11_init ci_X11_init rfl rfl ⟨by decide, by decide, by decide, by decide, by decide⟩ rfl rfl rfl ⟨by decide, by decide⟩ (Nat.le_of_ble_eq_true rfl) (i_X11 (by decide) fun r1 k1 d1 f1 e1 => ?_)
  have k1 : NR 0 nl1 (fun _ _ => -1) r1 := k1
  show MW mL0 603007 7200063 7 [(0, (5, 0))] [vR 0] (0, 65, r1) (ud (ud d1 0 11 (-1)) 0 12 (-1)) Q
  refine mw_astore_n (pc' := 8) (L' := [(0, (5, 0)), (1, vR 0)]) dL_law_7 rfl rfl (by simp) (by decide) rfl ?_
  refine mw_newO (a' := 66) (pc' := 11) dL_law_8 rfl fn_RL_202 (by decide +kernel) ⟨by decide, by decide, by decide⟩ ⟨by decide, by decide⟩ ?_
  show MW mL0 603006 7200044 11 [(0, (5, 0)), (1, vR 0)] [vR 65] (0, 66, r1) (ud (ud d1 0 11 (-1)) 0 12 (-1)) Q
  refine mw_dup (pc' := 12) dL_law_11 rfl rfl ?_
  refine mw_callI (M' := mX12_init) (A := []) (A' := [vR 65]) (S := [vR 65]) (a := 65) (pc' := 15) dL_law_12 rfl cl_RL_204 cm_X12_init ci_X12_init rfl rfl ⟨by decide, by decide, by decide, by decide, by decide⟩ rfl rfl rfl ⟨by decide, by show (65 : Int) < 66; decide⟩ (Nat.le_of_ble_eq_true rfl) (i_X12 (by decide) fun r2 k2 d2 f2 e2 e3 e4 => ?_)
  have k2 : NR 0 nl2 r1 r2 := k2
  show MW mL0 602998 7144044 15 [(0, (5, 0)), (1, vR 0)] [vR 65] (0, 74, r2) d2 Q
  refine mw_astore_n (pc' := 16) (L' := [(0, (5, 0)), (1, vR 0), (2, vR 65)]) dL_law_15 rfl rfl (by simp) (by decide) rfl ?_
  refine mw_iconst (pc' := 17) dL_law_16 rfl ⟨by decide, by decide⟩ ?_
  refine mw_newJO (a' := 75) (pc' := 19) dL_law_17 rfl (by decide +kernel) (by decide +kernel) ⟨⟨by decide, by decide⟩, by decide, by decide⟩ ⟨by decide, by decide⟩ ?_
  show MW mL0 602997 7144043 19 [(0, (5, 0)), (1, vR 0), (2, vR 65)] [vR 74] (0, 75, r2) d2 Q
  refine mw_astore_n (pc' := 20) (L' := [(0, (5, 0)), (1, vR 0), (2, vR 65), (3, vR 74)]) dL_law_19 rfl rfl (by simp) (by decide) rfl ?_
  refine mw_iconst (pc' := 21) dL_law_20 rfl ⟨by decide, by decide⟩ ?_
  refine mw_newDO (a' := 76) (pc' := 23) dL_law_21 rfl (by decide +kernel) (by decide +kernel) ⟨⟨by decide, by decide⟩, by decide, by decide⟩ ⟨by decide, by decide⟩ ?_
  show MW mL0 602996 7144042 23 [(0, (5, 0)), (1, vR 0), (2, vR 65), (3, vR 74)] [vR 75] (0, 76, r2) d2 Q
  refine mw_astore (pc' := 25) (L' := [(0, (5, 0)), (1, vR 0), (2, vR 65), (3, vR 74), (4, vR 75)]) dL_law_23 rfl (by simp) (by decide) rfl ?_
  refine mw_iconst (pc' := 26) dL_law_25 rfl ⟨by decide, by decide⟩ ?_
  refine mw_istore (pc' := 28) (L' := [(0, (5, 0)), (1, vR 0), (2, vR 65), (3, vR 74), (4, vR 75), (5, vI 0)]) dL_law_26 rfl (by decide) rfl ?_
  refine mw_whole (pc' := 0) (nc := 76) ⟨show (0 : Int) ≤ 76 by decide, Int.le_refl 76⟩ (st_GP k1 k2) ?_
  refine mw_up (Int.le_refl 76) ?_
  have ex : d2 SCR = d SCR := funext fun j => by
    rw [f2 SCR j (fun z => absurd z.1 (by decide)), ud_ne (fun z => absurd z.1 (by decide)), ud_ne (fun z => absurd z.1 (by decide)), ud_ne (fun z => absurd z.1 (by decide)), ud_ne (fun z => absurd z.1 (by decide)), f1 SCR j (by decide)]
  have z0 : Z0 d2 := by
    have a1 : ∀ b j : Int, ¬ (b = 66 ∧ 119 ≤ j ∧ j < 139) → ¬ (b = 65 ∧ (j = 10 ∨ j = 11)) → ¬ (b = 0 ∧ (j = 11 ∨ j = 12)) → d2 b j = d1 b j := fun b j q1 q2 q3 => by
      rw [f2 b j q1, ud_ne (by omega), ud_ne (by omega), ud_ne (by omega), ud_ne (by omega)]
    refine ⟨fun b j q1 q2 q3 q4 q5 => ?_, ⟨?_, ?_, ?_, ?_⟩, ⟨fun j q1 q2 => ?_, ?_, ?_, ?_, ?_⟩, e2, ?_, e4⟩
    · rw [a1 b j q3 q5 q4, f1 b j q2, h0 b j q1]
    · rw [f2 0 11 (by decide), ud_ne (by decide), ud_ne (by decide), ud_ne (by decide), ud_same]
    · rw [f2 0 12 (by decide), ud_ne (by decide), ud_ne (by decide), ud_same]
    · rw [f2 65 10 (by decide), ud_ne (by decide), ud_same]
    · rw [f2 65 11 (by decide), ud_same]
    · rw [a1 13 j (by omega) (by omega) (by omega), a1 14 j (by omega) (by omega) (by omega)]
      exact e1.1 j q1 q2
    · rw [a1 15 0 (by decide) (by decide) (by decide)]; exact e1.2.1
    · rw [a1 15 1 (by decide) (by decide) (by decide)]; exact e1.2.2.1
    · rw [a1 15 2 (by decide) (by decide) (by decide)]; exact e1.2.2.2.1
    · rw [a1 15 3 (by decide) (by decide) (by decide)]; exact e1.2.2.2.2
    · rw [e3, ud_ne (by decide), ud_ne (by decide), f1 66 135 (by decide), h0 66 135 (by decide)]
  refine law_loop hQ 512 0 602996 7144042 (76, 76, r2) d2 (z0.inv k1 k2) (by decide) ?_ ?_ ?_ (by decide) (by decide) (by decide)
  · rw [ex]; exact hX.1
  · rw [ex]; exact hX.2
  · rw [ex]; omega
