-- rows that agree in parts
def eqOn (R R' : rW) (a b : Int) : Prop := ∀ j, a ≤ j → j ≤ b → R' j = R j
theorem eqOn.p1 {R : rW} {i v a b : Int} (h : ¬ (a ≤ i ∧ i ≤ b)) : eqOn R (up R i v) a b := fun j h1 h2 => up_n (by omega)
theorem eqOn.rf {R : rW} {a b : Int} : eqOn R R a b := fun _ _ _ => rfl
theorem eqOn.tr {R R' R'' : rW} {a b : Int} (h : eqOn R R' a b) (h2 : eqOn R' R'' a b) : eqOn R R'' a b := fun j q1 q2 => (h2 j q1 q2).trans (h j q1 q2)
theorem RWp.cg {R R' : rW} (e1 : R' 1 = R 1) (hb : R 1 ≤ 8) (e : eqOn R R' 7 78) (h : RWp R) : RWp R' := by
  intro p hp
  rw [e1] at hp
  obtain ⟨h1, h2⟩ := h p hp
  have a := e (7 + 9 * p) (by omega) (by omega)
  refine ⟨by omega, fun k hk => ?_⟩
  have b := e (8 + 9 * p + k) (by omega) (by omega)
  have := h2 k (by omega)
  omega
theorem RWh.cg {R R' : rW} (e1 : R' 2 = R 2) (hb : R 2 ≤ 40) (e : eqOn R R' 79 118) (h : RWh R) : RWh R' := by
  refine ⟨fun k hk => ?_, fun j k q1 q2 q3 => ?_⟩
  · have := h.1 k (by omega)
    have := e (79 + k) (by omega) (by omega)
    omega
  · have := h.2 j k q1 q2 (by omega)
    have := e (79 + k) (by omega) (by omega)
    have := e (79 + j) (by omega) (by omega)
    omega
theorem RWr.cg {R R' : rW} (e : eqOn R R' 119 138) (h : RWr R) : RWr R' := by
  refine ⟨fun r hr => ?_, fun w hw => ?_⟩
  · have := h.1 r hr
    have := e (119 + 2 * r) (by omega) (by omega)
    have := e (120 + 2 * r) (by omega) (by omega)
    omega
  · have := h.2 w hw
    have := e (135 + w) (by omega) (by omega)
    omega
theorem DLW.cg {R R' : rW} {i : Int} (e0 : R 0 ≤ R' 0) (e1 : R 1 ≤ R' 1) (e : eqOn R R' (139 + 16 * i) (154 + 16 * i)) (h : DLW R i) : DLW R' i := by
  obtain ⟨a1, a2, a3, a4, a5, a6, a7, a8, a9, a10, a11, a12⟩ := h
  have b1 := e (139 + 16 * i) (by omega) (by omega)
  have b2 := e (140 + 16 * i) (by omega) (by omega)
  have b3 := e (141 + 16 * i) (by omega) (by omega)
  have b4 := e (142 + 16 * i) (by omega) (by omega)
  have b5 := e (143 + 16 * i) (by omega) (by omega)
  have b6 := e (144 + 16 * i) (by omega) (by omega)
  have b7 := e (145 + 16 * i) (by omega) (by omega)
  have b8 := e (146 + 16 * i) (by omega) (by omega)
  have b9 := e (147 + 16 * i) (by omega) (by omega)
  have b10 := e (148 + 16 * i) (by omega) (by omega)
  have b11 := e (149 + 16 * i) (by omega) (by omega)
  refine ⟨by omega, by omega, by omega, by omega, by omega, by omega, by rw [b7]; exact a7, by omega, by omega, by omega, by omega, fun k hk => ?_⟩
  have := a12 k (by omega)
  have := e (150 + 16 * i + k) (by omega) (by omega)
  omega
theorem RWd.cg {R R' : rW} (e0 : R 0 ≤ R' 0) (e1 : R 1 ≤ R' 1) (e3 : R' 3 = R 3) (e : eqOn R R' 139 618) (hb : R 3 ≤ 30) (h : RWd R) : RWd R' := fun i hi =>
  (h i (by omega)).cg e0 e1 (fun j q1 q2 => e j (by omega) (by omega))
theorem RWs.cg {R R' : rW} (e0 : R 0 ≤ R' 0) (e1 : R 1 ≤ R' 1) (e4 : R' 4 = R 4) (e : eqOn R R' 619 666) (hb : R 4 ≤ 12) (h : RWs R) : RWs R' := by
  refine ⟨fun k hk => ?_, fun k hk => ?_⟩
  · obtain ⟨a1, a2, a3, a4⟩ := h.1 k (by omega)
    have b1 := e (619 + 4 * k) (by omega) (by omega)
    have b2 := e (620 + 4 * k) (by omega) (by omega)
    have b3 := e (621 + 4 * k) (by omega) (by omega)
    have b4 := e (622 + 4 * k) (by omega) (by omega)
    exact ⟨by omega, by omega, by omega, by omega⟩
  · have := h.2 k (by omega)
    have b1 := e (621 + 4 * k) (by omega) (by omega)
    have b2 := e (625 + 4 * k) (by omega) (by omega)
    omega
theorem OCW.cg {R R' : rW} {o : Int} (e0 : R 0 ≤ R' 0) (e : eqOn R R' (667 + 5 * o) (671 + 5 * o)) (h : OCW R o) : OCW R' o := by
  obtain ⟨a1, a2, a3, a4, a5⟩ := h
  have b1 := e (667 + 5 * o) (by omega) (by omega)
  have b2 := e (668 + 5 * o) (by omega) (by omega)
  have b3 := e (669 + 5 * o) (by omega) (by omega)
  have b4 := e (670 + 5 * o) (by omega) (by omega)
  have b5 := e (671 + 5 * o) (by omega) (by omega)
  exact ⟨by omega, by omega, by omega, by omega, by omega⟩
theorem RWo.cg {R R' : rW} (e0 : R 0 ≤ R' 0) (e5 : R' 5 = R 5) (e : eqOn R R' 667 706) (hb : R 5 ≤ 8) (h : RWo R) : RWo R' := by
  refine ⟨fun o ho => (h.1 o (by omega)).cg e0 (fun j q1 q2 => e j (by omega) (by omega)), fun j k q1 q2 q3 => ?_⟩
  rw [e (671 + 5 * j) (by omega) (by omega)] at q3
  obtain ⟨r1, r2, r3⟩ := h.2 j k (by omega) q2 q3
  exact ⟨by omega, r2, by rw [e (671 + 5 * k) (by omega) (by omega)]; exact r3⟩
theorem RWc.cg {R R' : rW} (e0 : R 0 ≤ R' 0) (e1 : R 1 ≤ R' 1) (e5 : R 5 ≤ R' 5) (e6 : R' 6 = R 6) (e : eqOn R R' 707 786) (hb : R 6 ≤ 20) (h : RWc R) : RWc R' := by
  intro c hc
  obtain ⟨a1, a2, a3, a4⟩ := h c (by omega)
  have b1 := e (707 + 4 * c) (by omega) (by omega)
  have b2 := e (708 + 4 * c) (by omega) (by omega)
  have b3 := e (709 + 4 * c) (by omega) (by omega)
  have b4 := e (710 + 4 * c) (by omega) (by omega)
  exact ⟨by omega, by omega, by omega, by omega⟩
-- cells and rows that agree in parts
def eqB (d d' : mD) (a b : Int) : Prop := ∀ k j, a ≤ k → k ≤ b → d' k j = d k j
theorem eqB.u1 {d : mD} {k i v a b : Int} (h : ¬ (a ≤ k ∧ k ≤ b)) : eqB d (ud d k i v) a b := fun k' j h1 h2 => ud_ne (by omega)
theorem eqB.rf {d : mD} {a b : Int} : eqB d d a b := fun _ _ _ _ => rfl
theorem eqB.tr {d d' d'' : mD} {a b : Int} (h : eqB d d' a b) (h2 : eqB d' d'' a b) : eqB d d'' a b := fun k j q1 q2 => (h2 k j q1 q2).trans (h k j q1 q2)
theorem SCal.cg {d d' : mD} {R R' : rW} (hb : R 2 ≤ 40) (q : eqB d d' 10 11) (e : eqOn R R' 79 118) (e0 : R' 0 = R 0) (e2 : R' 2 = R 2) (h : SCal d R) : SCal d' R' := by
  refine ⟨by rw [q 10 0 (by decide) (by decide), e0]; exact h.1, by rw [q 10 2 (by decide) (by decide), e2]; exact h.2.1, fun k hk => ?_⟩
  rw [q 11 k (by decide) (by decide), e (79 + k) (by omega) (by omega)]
  exact h.2.2 k (by omega)
theorem SPar.cg {d d' : mD} {R R' : rW} (hR : RW R) (q : eqB d d' 7 9) (e : eqOn R R' 7 78) (e1 : R' 1 = R 1) (h : SPar d R) : SPar d' R' := by
  have hb := hR.n.2.1
  refine ⟨by rw [q 7 2 (by decide) (by decide), e1]; exact h.1, fun p hp => ?_⟩
  rw [e1] at hp
  have hn := (hR.p p hp).1
  obtain ⟨h1, h2⟩ := h.2 p hp
  rw [q 9 p (by decide) (by decide), e (7 + 9 * p) (by omega) (by omega)]
  refine ⟨h1, fun k hk => ?_⟩
  rw [q 8 _ (by decide) (by decide), e (8 + 9 * p + k) (by omega) (by omega)]
  exact h2 k hk
theorem SRul.cg {d d' : mD} {R R' : rW} (q : eqB d d' 13 15) (e : eqOn R R' 119 138) (h : SRul d R) : SRul d' R' := by
  refine ⟨fun r hr => ?_, fun w hw => ?_⟩
  · rw [q 13 r (by decide) (by decide), q 14 r (by decide) (by decide), e (119 + 2 * r) (by omega) (by omega), e (120 + 2 * r) (by omega) (by omega)]
    exact h.1 r hr
  · rw [q 15 w (by decide) (by decide), e (135 + w) (by omega) (by omega)]
    exact h.2 w hw
theorem grN_cg {R R' : rW} {i : Int} : ∀ (n : Nat), eqOn R R' (150 + 16 * i) (149 + 16 * i + n) → grN R' i n = grN R i n := by
  intro n
  induction n with
  | zero => intro _; rfl
  | succ n ih =>
    intro e
    show grN R' i n + R' (150 + 16 * i + n) = grN R i n + R (150 + 16 * i + n)
    rw [ih (fun j q1 q2 => e j q1 (by omega)), e (150 + 16 * i + n) (by omega) (by omega)]
theorem grF_cg {R R' : rW} {i : Int} (h : DLW R i) (e : eqOn R R' (139 + 16 * i) (154 + 16 * i)) : grF R' i = grF R i := by
  obtain ⟨a1, a2, a3, a4, a5, a6, a7, a8, a9, a10, a11, a12⟩ := h
  unfold grF
  rw [e (146 + 16 * i) (by omega) (by omega)]
  exact grN_cg _ (fun j q1 q2 => e j (by omega) (by omega))
theorem svF_cg {R R' : rW} {i : Int} (e : eqOn R R' (139 + 16 * i) (154 + 16 * i)) : svF R' i = svF R i := by
  unfold svF
  rw [e (144 + 16 * i) (by omega) (by omega)]
theorem partsF_cg {R R' : rW} {i : Int} (e : eqOn R R' (139 + 16 * i) (154 + 16 * i)) : partsF R' i = partsF R i := by
  unfold partsF
  rw [svF_cg e, e (146 + 16 * i) (by omega) (by omega)]
theorem plenF_cg {R R' : rW} {i q : Int} (h : DLW R i) (e : eqOn R R' (139 + 16 * i) (154 + 16 * i)) (hq : q < partsF R i) : plenF R' i q = plenF R i q := by
  obtain ⟨a1, a2, a3, a4, a5, a6, a7, a8, a9, a10, a11, a12⟩ := h
  unfold partsF at hq
  unfold plenF
  rw [svF_cg e, e (142 + 16 * i) (by omega) (by omega), e (144 + 16 * i) (by omega) (by omega)]
  by_cases c : q - 1 - svF R i < 0
  · rw [iT_t c, iT_t c]
  · rw [e (150 + 16 * i + (q - 1 - svF R i)) (by omega) (by omega)]
theorem DLS.cg {d d' : mD} {R R' : rW} {i : Int} (hw : DLW R i) (q : eqB d d' 17 27) (e : eqOn R R' (139 + 16 * i) (154 + 16 * i)) (h : DLS d R i) : DLS d' R' i := by
  obtain ⟨a1, a2, a3, a4, a5, a6, a7, a8, a9, a10, a11⟩ := h
  unfold DLS
  rw [q 17 i (by decide) (by decide), q 18 i (by decide) (by decide), q 19 i (by decide) (by decide), q 20 i (by decide) (by decide), q 21 i (by decide) (by decide), q 23 i (by decide) (by decide), q 24 i (by decide) (by decide), q 25 i (by decide) (by decide), q 26 i (by decide) (by decide), q 27 i (by decide) (by decide)]
  rw [e (139 + 16 * i) (by omega) (by omega), e (140 + 16 * i) (by omega) (by omega), e (141 + 16 * i) (by omega) (by omega), e (143 + 16 * i) (by omega) (by omega), e (145 + 16 * i) (by omega) (by omega), e (147 + 16 * i) (by omega) (by omega), e (148 + 16 * i) (by omega) (by omega), e (149 + 16 * i) (by omega) (by omega), partsF_cg e, grF_cg hw e]
  refine ⟨a1, a2, a3, a4, a5, fun k hk => ?_, a7, a8, a9, a10, a11⟩
  rw [q 22 _ (by decide) (by decide), plenF_cg hw e hk.2]
  exact a6 k hk
theorem SDl.cg {d d' : mD} {R R' : rW} (hR : RW R) (q : eqB d d' 16 27) (e : eqOn R R' 139 618) (e3 : R' 3 = R 3) (h : SDl d R) : SDl d' R' := by
  have hb := hR.n.2.2.2.1
  refine ⟨by rw [q 16 11 (by decide) (by decide), e3]; exact h.1, fun i hi => ?_⟩
  rw [e3] at hi
  exact (h.2 i hi).cg (hR.dl hi) (fun k j q1 q2 => q k j (by omega) q2) (fun j q1 q2 => e j (by omega) (by omega))
theorem SSt.cg {d d' : mD} {R R' : rW} (hb : R 4 ≤ 12) (q : eqB d d' 28 32) (e : eqOn R R' 619 666) (e4 : R' 4 = R 4) (h : SSt d R) : SSt d' R' := by
  refine ⟨by rw [q 28 4 (by decide) (by decide), e4]; exact h.1, fun k hk => ?_⟩
  rw [e4] at hk
  rw [q 29 k (by decide) (by decide), q 30 k (by decide) (by decide), q 31 k (by decide) (by decide), q 32 k (by decide) (by decide), e (619 + 4 * k) (by omega) (by omega), e (620 + 4 * k) (by omega) (by omega), e (621 + 4 * k) (by omega) (by omega), e (622 + 4 * k) (by omega) (by omega)]
  exact h.2 k hk
theorem connN_cg {R R' : rW} (hb : R 5 ≤ 8) (e5 : R' 5 = R 5) (e : ∀ o, 0 ≤ o → o < R 5 → R' (671 + 5 * o) = R (671 + 5 * o)) : ∀ (n : Nat) (a b : Int), 0 ≤ a → a < R 5 → (connN R' n a b ↔ connN R n a b) := by
  intro n
  induction n with
  | zero => intro a b _ _; exact Iff.rfl
  | succ n ih =>
    intro a b h1 h2
    show (a = b ∨ ∃ c, 0 ≤ c ∧ c < R' 5 ∧ bitp (R' (671 + 5 * a)) c ∧ connN R' n c b) ↔ (a = b ∨ ∃ c, 0 ≤ c ∧ c < R 5 ∧ bitp (R (671 + 5 * a)) c ∧ connN R n c b)
    rw [e5, e a h1 h2]
    constructor
    · rintro (x | ⟨c, c1, c2, c3, c4⟩)
      · exact Or.inl x
      · exact Or.inr ⟨c, c1, c2, c3, (ih c b c1 c2).1 c4⟩
    · rintro (x | ⟨c, c1, c2, c3, c4⟩)
      · exact Or.inl x
      · exact Or.inr ⟨c, c1, c2, c3, (ih c b c1 c2).2 c4⟩
theorem conn_cg {R R' : rW} (hb : R 5 ≤ 8) (e5 : R' 5 = R 5) (e : ∀ o, 0 ≤ o → o < R 5 → R' (671 + 5 * o) = R (671 + 5 * o)) {a b : Int} (h1 : 0 ≤ a) (h2 : a < R 5) : conn R' a b ↔ conn R a b :=
  ⟨fun ⟨n, h⟩ => ⟨n, (connN_cg hb e5 e n a b h1 h2).1 h⟩, fun ⟨n, h⟩ => ⟨n, (connN_cg hb e5 e n a b h1 h2).2 h⟩⟩
theorem SOc.cg {d d' : mD} {R R' : rW} (hb : R 5 ≤ 8) (q : eqB d d' 34 47) (e : eqOn R R' 667 706) (e5 : R' 5 = R 5) (h : SOc d R) : SOc d' R' := by
  obtain ⟨h1, h2, h3, h4⟩ := h
  have el : ∀ o, 0 ≤ o → o < R 5 → R' (671 + 5 * o) = R (671 + 5 * o) := fun o q1 q2 => e _ (by omega) (by omega)
  refine ⟨by rw [q 34 11 (by decide) (by decide), e5]; exact h1, fun o ho => ?_, fun o ho => ?_, fun a b ha hb2 => ?_⟩
  · rw [e5] at ho
    rw [q 35 o (by decide) (by decide), q 36 o (by decide) (by decide), q 37 o (by decide) (by decide), q 38 o (by decide) (by decide), q 39 o (by decide) (by decide), q 40 _ (by decide) (by decide), q 46 o (by decide) (by decide), e (667 + 5 * o) (by omega) (by omega), e (668 + 5 * o) (by omega) (by omega), e (669 + 5 * o) (by omega) (by omega), e (670 + 5 * o) (by omega) (by omega), e (671 + 5 * o) (by omega) (by omega)]
    exact h2 o ho
  · rw [e5] at ho
    rw [q 47 o (by decide) (by decide), conn_cg hb e5 el ho.1 ho.2]
    exact h3 o ho
  · rw [e5] at ha hb2
    rw [q 47 a (by decide) (by decide), q 47 b (by decide) (by decide), conn_cg hb e5 el ha.1 ha.2]
    exact h4 a b ha hb2
theorem SCm.cg {d d' : mD} {R R' : rW} (hb : R 6 ≤ 20) (q : eqB d d' 48 51) (q33 : d' 33 7 = d 33 7) (e : eqOn R R' 707 786) (e6 : R' 6 = R 6) (h : SCm d R) : SCm d' R' := by
  refine ⟨by rw [q33, e6]; exact h.1, fun c hc => ?_⟩
  rw [e6] at hc
  rw [q 48 c (by decide) (by decide), q 49 c (by decide) (by decide), q 50 c (by decide) (by decide), q 51 c (by decide) (by decide), e (707 + 4 * c) (by omega) (by omega), e (708 + 4 * c) (by omega) (by omega), e (709 + 4 * c) (by omega) (by omega), e (710 + 4 * c) (by omega) (by omega)]
  exact h.2 c hc
