-- service
def svR (R : rW) (x y w : Int) : rW := fun j => if j = 3 then R 3 + 1 else if 139 + 16 * R 3 ≤ j ∧ j ≤ 154 + 16 * R 3 then (if j = 139 + 16 * R 3 then x else if j = 140 + 16 * R 3 then y else if j = 141 + 16 * R 3 then R 0 else if j = 142 + 16 * R 3 then R (119 + 2 * y) else if j = 143 + 16 * R 3 then R (120 + 2 * y) else if j = 144 + 16 * R 3 then R (135 + w) else if j = 145 + 16 * R 3 then 111 else 0) else R j
theorem svR_ne {R : rW} {x y w j : Int} (h : ¬ j = 3) (h2 : ¬ (139 + 16 * R 3 ≤ j ∧ j ≤ 154 + 16 * R 3)) : svR R x y w j = R j := by
  unfold svR
  rw [if_neg h, if_neg h2]
theorem svR_3 {R : rW} {x y w : Int} : svR R x y w 3 = R 3 + 1 := if_pos rfl
theorem svR_b {R : rW} {x y w j : Int} (h3 : 0 ≤ R 3) (h2 : 139 + 16 * R 3 ≤ j ∧ j ≤ 154 + 16 * R 3) : svR R x y w j = (if j = 139 + 16 * R 3 then x else if j = 140 + 16 * R 3 then y else if j = 141 + 16 * R 3 then R 0 else if j = 142 + 16 * R 3 then R (119 + 2 * y) else if j = 143 + 16 * R 3 then R (120 + 2 * y) else if j = 144 + 16 * R 3 then R (135 + w) else if j = 145 + 16 * R 3 then 111 else 0) := by
  unfold svR
  rw [if_neg (by omega), if_pos h2]
theorem svR_v {R : rW} {x y w : Int} (h3 : 0 ≤ R 3) : svR R x y w (139 + 16 * R 3) = x ∧ svR R x y w (140 + 16 * R 3) = y ∧ svR R x y w (141 + 16 * R 3) = R 0 ∧ svR R x y w (142 + 16 * R 3) = R (119 + 2 * y) ∧ svR R x y w (143 + 16 * R 3) = R (120 + 2 * y) ∧ svR R x y w (144 + 16 * R 3) = R (135 + w) ∧ svR R x y w (145 + 16 * R 3) = 111 ∧ svR R x y w (146 + 16 * R 3) = 0 ∧ svR R x y w (147 + 16 * R 3) = 0 ∧ svR R x y w (148 + 16 * R 3) = 0 ∧ svR R x y w (149 + 16 * R 3) = 0 := by
  refine ⟨?_, ?_, ?_, ?_, ?_, ?_, ?_, ?_, ?_, ?_, ?_⟩ <;> rw [svR_b h3 (by omega)]
  · rw [if_pos rfl]
  · rw [if_neg (by omega), if_pos rfl]
  · rw [if_neg (by omega), if_neg (by omega), if_pos rfl]
  · rw [if_neg (by omega), if_neg (by omega), if_neg (by omega), if_pos rfl]
  · rw [if_neg (by omega), if_neg (by omega), if_neg (by omega), if_neg (by omega), if_pos rfl]
  · rw [if_neg (by omega), if_neg (by omega), if_neg (by omega), if_neg (by omega), if_neg (by omega), if_pos rfl]
  · rw [if_neg (by omega), if_neg (by omega), if_neg (by omega), if_neg (by omega), if_neg (by omega), if_neg (by omega), if_pos rfl]
  · rw [if_neg (by omega), if_neg (by omega), if_neg (by omega), if_neg (by omega), if_neg (by omega), if_neg (by omega), if_neg (by omega)]
  · rw [if_neg (by omega), if_neg (by omega), if_neg (by omega), if_neg (by omega), if_neg (by omega), if_neg (by omega), if_neg (by omega)]
  · rw [if_neg (by omega), if_neg (by omega), if_neg (by omega), if_neg (by omega), if_neg (by omega), if_neg (by omega), if_neg (by omega)]
  · rw [if_neg (by omega), if_neg (by omega), if_neg (by omega), if_neg (by omega), if_neg (by omega), if_neg (by omega), if_neg (by omega)]
noncomputable def st_serve (R : rW) (x y c : Int) : Int × rW := sO ((0 ≤ x ∧ x < R 1) ∧ (0 ≤ y ∧ y < 8)) (sO (wayF c = -1) (-2, R) (sO (R 3 < 30) (R 3, svR R x y (wayF c)) (-3, R))) (-1, R)
theorem w_serve {R : rW} {x y w : Int} (hR : RW R) (hx : 0 ≤ x ∧ x < R 1) (hy : 0 ≤ y ∧ y < 8) (hw : 0 ≤ w ∧ w < 4) (h : R 3 < 30) : RW (svR R x y w) := by
  have n3 := hR.n.2.2.2.1
  have n0 := hR.n.1
  have hr := hR.r.1 y hy
  have hs := hR.r.2 w hw
  obtain ⟨s0, s1, s2, s3, s4, s5, s6, s7, s8, s9, s10⟩ := svR_v (R := R) (x := x) (y := y) (w := w) n3.1
  have e0 : svR R x y w 0 = R 0 := svR_ne (by omega) (by omega)
  have e1 : svR R x y w 1 = R 1 := svR_ne (by omega) (by omega)
  refine hR.gdls (fun j q => svR_ne (by omega) (by omega)) (by rw [svR_3]; omega) (fun i hi => ?_)
  rw [svR_3] at hi
  by_cases c : i = R 3
  · subst c
    unfold DLW
    rw [s0, s1, s2, s3, s4, s5, s6, s7, s8, s9, s10, e0, e1]
    exact ⟨hx, hy, by omega, hr.1, hr.2, hs, Or.inl rfl, by omega, by omega, by omega, by omega, fun k hk => by omega⟩
  · exact (hR.dl (i := i) (by omega)).cg (by omega) (by omega) (fun j q1 q2 => svR_ne (by omega) (by omega))
theorem c_serve {d d' : mD} {R : rW} {x y w : Int} (hC : CI d R) (hx : 0 ≤ x ∧ x < R 1) (hy : 0 ≤ y ∧ y < 8) (hw : 0 ≤ w ∧ w < 4) (h : R 3 < 30)
    (q : ∀ k j : Int, ¬ (16 ≤ k ∧ k ≤ 27) → d' k j = d k j) (q2 : ∀ k j : Int, 17 ≤ k → k ≤ 27 → k ≠ 22 → j ≠ R 3 → d' k j = d k j) (q3 : ∀ j, ¬ (R 3 * 7 ≤ j ∧ j < R 3 * 7 + 7) → d' 22 j = d 22 j)
    (a16 : d' 16 11 = R 3 + 1) (a17 : d' 17 (R 3) = x) (a18 : d' 18 (R 3) = y) (a19 : d' 19 (R 3) = R 0) (a20 : d' 20 (R 3) = R (120 + 2 * y)) (a21 : d' 21 (R 3) = 1 + bI (0 < R (135 + w))) (a22 : d' 22 (R 3 * 7 + 0) = R (119 + 2 * y)) (b22 : 0 < R (135 + w) → d' 22 (R 3 * 7 + 1) = R (135 + w)) (a23 : d' 23 (R 3) = 0) (a24 : d' 24 (R 3) = 0) (a25 : d' 25 (R 3) = 0) (a26 : d' 26 (R 3) = 0) (a27 : d' 27 (R 3) = 111) : CI d' (svR R x y w) := by
  have hR := hC.w
  have n3 := hR.n.2.2.2.1
  obtain ⟨s0, s1, s2, s3, s4, s5, s6, s7, s8, s9, s10⟩ := svR_v (R := R) (x := x) (y := y) (w := w) n3.1
  refine hC.gdls (w_serve hR hx hy hw h) (fun j q => svR_ne (by omega) (by omega)) (fun k j _ _ p => q k j p) ⟨by rw [a16, svR_3], fun i hi => ?_⟩
  rw [svR_3] at hi
  by_cases c : i = R 3
  · subst c
    have ep : partsF (svR R x y w) (R 3) = 1 + bI (0 < R (135 + w)) := by
      unfold partsF svF
      rw [s5, s7, Int.add_zero]
    have eg : grF (svR R x y w) (R 3) = 0 := by
      unfold grF
      rw [s7]; rfl
    unfold DLS
    rw [ep, eg, s0, s1, s2, s4, s6, s8, s9, s10, a17, a18, a19, a20, a21, a23, a24, a25, a26, a27]
    refine ⟨rfl, rfl, rfl, rfl, rfl, fun k hk => ?_, rfl, rfl, rfl, rfl, rfl⟩
    unfold plenF svF
    rw [s3, s5]
    by_cases ck : k = 0
    · subst ck; rw [a22, iT_t rfl]
    · rcases bI_or (0 < R (135 + w)) with ⟨a, b⟩ | ⟨a, b⟩
      · have : k = 1 := by omega
        subst this
        rw [b22 a, iT_f ck, b, iT_t (by decide)]
      · omega
  · exact (hC.dl.2 i (by omega)).cq (hR.dl (i := i) (by omega)) (fun k p1 p2 p3 => q2 k i p1 p2 p3 c) (fun t p1 p2 => q3 _ (by omega)) (fun j p1 p2 => svR_ne (by omega) (by omega))
theorem t_serve {x y z : Int} {R : rW} {g : mG} {d : mD} {Q : mQ} (hC : CI d R) (h : HT (st_serve R x y z) d g Q) : MM mX11_tryServe [vR 0, vI x, vI y, vI z] g d Q := by
  have hR := hC.w
  have n3 := hR.n.2.2.2.1
  have e1 := hC.par.1
  have e3 := hC.dl.1
  have e0 := hC.cal.1
  have hw := way_rng z
  refine eX11_tryServe ⟨fun c => h.e hC (sO_f (by omega)), fun c => f_placeOfWay ⟨fun c2 => h.e hC ?_, fun c2 => ⟨fun c3 => ⟨fun _ => ?_, fun c4 => absurd c3 c4⟩, fun c3 => h.e hC ?_⟩⟩⟩
  · unfold st_serve
    rw [sO_t (by omega), sO_t c2]
  · have hr := hC.rul.1 y (by omega)
    have hs := hC.rul.2 (wayF z) (by omega)
    have hb := (hR.r.1 y (by omega)).2
    rw [e3] at c3
    rw [e3, e0, hr.1, hr.2, hs, ud_same, ud_same]
    refine ⟨by omega, by omega, by omega, ik (by omega), by omega, by decide, by omega, fun c5 => ?_, fun c5 => ⟨by decide, ?_⟩⟩
    · refine h.v (R := svR R x y (wayF z)) ?_ (fun b j q => by repeat rw [ud_ne (by omega)]) ?_
      · unfold st_serve
        rw [sO_t (by omega), sO_f c2, sO_t c3]
      · have hb0 : bI (0 < R (135 + wayF z)) = 0 := bI_f (by omega)
        refine c_serve hC (by omega) (by omega) (by omega) c3 (fun k j q => by repeat rw [ud_ne (by omega)]) (fun k j q1 q2 q3 q4 => by repeat rw [ud_ne (by omega)]) (fun j q => by repeat rw [ud_ne (by omega)]) ?_ ?_ ?_ ?_ ?_ ?_ ?_ (fun q => absurd q (by omega)) ?_ ?_ ?_ ?_ ?_
        · repeat rw [ud_ne (by omega)]
          rw [ud_same]
        · repeat rw [ud_ne (by omega)]
          rw [ud_same]
        · repeat rw [ud_ne (by omega)]
          rw [ud_same]
        · repeat rw [ud_ne (by omega)]
          rw [ud_same]
        · repeat rw [ud_ne (by omega)]
          rw [ud_same]
        · rw [ud_same, hb0]; rfl
        · repeat rw [ud_ne (by omega)]
          rw [ud_same]
        · repeat rw [ud_ne (by omega)]
          rw [ud_same]
        · repeat rw [ud_ne (by omega)]
          rw [ud_same]
        · repeat rw [ud_ne (by omega)]
          rw [ud_same]
        · repeat rw [ud_ne (by omega)]
          rw [ud_same]
        · repeat rw [ud_ne (by omega)]
          rw [ud_same]
    · refine h.v (R := svR R x y (wayF z)) ?_ (fun b j q => by repeat rw [ud_ne (by omega)]) ?_
      · unfold st_serve
        rw [sO_t (by omega), sO_f c2, sO_t c3]
      · have hb0 : bI (0 < R (135 + wayF z)) = 1 := bI_t (by omega)
        refine c_serve hC (by omega) (by omega) (by omega) c3 (fun k j q => by repeat rw [ud_ne (by omega)]) (fun k j q1 q2 q3 q4 => by repeat rw [ud_ne (by omega)]) (fun j q => by repeat rw [ud_ne (by omega)]) ?_ ?_ ?_ ?_ ?_ ?_ ?_ (fun _ => ?_) ?_ ?_ ?_ ?_ ?_
        · repeat rw [ud_ne (by omega)]
          rw [ud_same]
        · repeat rw [ud_ne (by omega)]
          rw [ud_same]
        · repeat rw [ud_ne (by omega)]
          rw [ud_same]
        · repeat rw [ud_ne (by omega)]
          rw [ud_same]
        · repeat rw [ud_ne (by omega)]
          rw [ud_same]
        · rw [ud_same, hb0]; rfl
        · repeat rw [ud_ne (by omega)]
          rw [ud_same]
        · rw [ud_ne (by omega)]
          exact ud_same _ _ _ _
        · repeat rw [ud_ne (by omega)]
          rw [ud_same]
        · repeat rw [ud_ne (by omega)]
          rw [ud_same]
        · repeat rw [ud_ne (by omega)]
          rw [ud_same]
        · repeat rw [ud_ne (by omega)]
          rw [ud_same]
        · repeat rw [ud_ne (by omega)]
          rw [ud_same]
  · unfold st_serve
    rw [sO_t (by omega), sO_f c2, sO_f (by omega)]
