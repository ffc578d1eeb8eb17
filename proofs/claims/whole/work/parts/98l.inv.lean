-- both sides together
def CHh (g : mG) (d : mD) (R : rW) (u : Int) (H : Int → rW) (n : Int) (T : rW) (l : Ln) (e f : Int) : Prop := CS g d R u H ∧ d 2 = T ∧ d 1 1 = n ∧ LnC d l ∧ d 0 11 = e ∧ d 0 12 = f
def MHh (d : mD) (R : rW) (u : Int) (H : Int → rW) (n : Int) (T : rW) (l : Ln) (e f : Int) : Prop := (d 66 = R ∧ d 65 3 = u ∧ ∀ i, 0 ≤ i → i < u → ∀ x, 0 ≤ x → x < 787 → d 68 (787 * i + x) = H i x) ∧ d 69 = T ∧ d 65 7 = n ∧ LnM d l ∧ d 65 10 = e ∧ d 65 11 = f ∧ d 65 4 = 0
def SD (n : Int) (T : rW) (l : Ln) : Prop := (0 ≤ n ∧ n ≤ 60) ∧ (∀ j, 0 ≤ T j ∧ T j ≤ 65535) ∧ l.1 ≤ 60
def INV (g : mG) (d : mD) : Prop := ∃ (R : rW) (u : Int) (H : Int → rW) (n : Int) (T : rW) (l : Ln) (e f : Int), CHh g d R u H n T l e f ∧ MHh d R u H n T l e f ∧ SD n T l
theorem LnC.frr {d d' : mD} {l : Ln} (h : LnC d l) (e1 : d' 3 1 = d 3 1) (e2 : ∀ j, d' 4 j = d 4 j) : LnC d' l := ⟨h.1, e1.trans h.2.1, fun j q1 q2 => (e2 j).trans (h.2.2 j q1 q2)⟩
theorem LnM.frr {d d' : mD} {l : Ln} (h : LnM d l) (e1 : d' 65 9 = d 65 9) (e2 : ∀ j, d' 70 j = d 70 j) : LnM d' l := ⟨h.1, e1.trans h.2.1, fun j q1 q2 => (e2 j).trans (h.2.2 j q1 q2)⟩
/-- the class's half does not look at the model, nor at the cells of its marks and counts -/
def FrCh (d d' : mD) : Prop := ∀ b j : Int, ((0 ≤ b ∧ b ≤ 4) ∨ (6 ≤ b ∧ b ≤ 52) ∨ (76 ≤ b ∧ b < 490)) → d' b j = d b j
def FrMh (d d' : mD) : Prop := ∀ b j : Int, (b = 65 ∧ (j = 3 ∨ j = 4 ∨ j = 7 ∨ j = 9 ∨ j = 10 ∨ j = 11)) ∨ b = 66 ∨ b = 68 ∨ b = 69 ∨ b = 70 → d' b j = d b j
theorem CHh.fr {g : mG} {d d' : mD} {R : rW} {u : Int} {H : Int → rW} {n : Int} {T : rW} {l : Ln} {e f : Int} (h : CHh g d R u H n T l e f) (hf : FrCh d d') : CHh g d' R u H n T l e f := by
  obtain ⟨h1, h2, h3, h4, h5, h6⟩ := h
  exact ⟨h1.fr (h1.1.fr (fun b j y1 y2 => hf b j (by omega))) (fun b j y1 y2 => hf b j (by omega)) (hf 0 5 (by omega)) (hf 0 6 (by omega)), (funext fun j => hf 2 j (by omega)).trans h2, (hf 1 1 (by omega)).trans h3, h4.frr (hf 3 1 (by omega)) (fun j => hf 4 j (by omega)), (hf 0 11 (by omega)).trans h5, (hf 0 12 (by omega)).trans h6⟩
theorem MHh.fr {d d' : mD} {R : rW} {u : Int} {H : Int → rW} {n : Int} {T : rW} {l : Ln} {e f : Int} (h : MHh d R u H n T l e f) (hf : FrMh d d') : MHh d' R u H n T l e f := by
  obtain ⟨⟨h1, h2, h3⟩, h4, h5, h6, h7, h8, h9⟩ := h
  exact ⟨⟨(funext fun j => hf 66 j (by omega)).trans h1, (hf 65 3 (by omega)).trans h2, fun i q1 q2 x y1 y2 => (hf 68 _ (by omega)).trans (h3 i q1 q2 x y1 y2)⟩, (funext fun j => hf 69 j (by omega)).trans h4, (hf 65 7 (by omega)).trans h5, h6.frr (hf 65 9 (by omega)) (fun j => hf 70 j (by omega)), (hf 65 10 (by omega)).trans h7, (hf 65 11 (by omega)).trans h8, (hf 65 4 (by omega)).trans h9⟩
theorem CS.on {g : mG} {d : mD} {R R' : rW} {u : Int} {H H' : Int → rW} (h : CS g d R u H) (hR : eqOn R R' 0 786) (hH : ∀ i, 0 ≤ i → i < u → eqOn (H i) (H' i) 0 786) : CS g d R' u H' := by
  obtain ⟨hC, c, hP, hn, hu, hu8, hs⟩ := h
  exact ⟨hC.on hR, c, hP, hn, hu, hu8, fun j q1 q2 => ⟨(hs j q1 q2).1, (hs j q1 q2).2.on (hH j q1 q2)⟩⟩
/-- a call of the wrapper, then the same call of the model: the same end -/
def Op (Mw : mM) (Aw : List mV) (Mm : mM) (Am : List mV) : Prop := ∀ (g : mG) (d : mD), INV g d → MM Mw Aw g d (fun o g1 d1 => ∃ k, o = .inl k ∧ ∀ Q2 : mQ, (∀ (b : Int) (d2 : mD), INV g1 d2 → d2 SCR = d SCR → d2 65 5 = k → (k = 0 → b = d2 74 0) → Q2 (.inl b) g1 d2) → MM Mm Am g1 d1 Q2)
def OpD (Mw : mM) (Aw : List mV) (Mm : mM) (Am : List mV) : Prop := ∀ (g : mG) (d : mD), INV g d → MM Mw Aw g d (fun o g1 d1 => ∃ k, o = .inl k ∧ ∀ Q2 : mQ, (∀ (b : Int) (d2 : mD), INV g1 d2 → d2 SCR = d SCR → d2 65 5 = k → (k = 0 → b = d2 75 0) → Q2 (.inl b) g1 d2) → MM Mm Am g1 d1 Q2)
def OpV (V : Int → Prop) (Mw : mM) (Aw : List mV) (Mm : mM) (Am : List mV) : Prop := ∀ (g : mG) (d : mD), INV g d → MM Mw Aw g d (fun o g1 d1 => ∃ k, o = .inl k ∧ ∀ Q2 : mQ, (∀ (b : Int) (d2 : mD), INV g1 d2 → d2 SCR = d SCR → d2 65 5 = k → (k = 0 → b = d2 74 0 ∧ V b) → Q2 (.inl b) g1 d2) → MM Mm Am g1 d1 Q2)
abbrev OpB := OpV (fun v => v = 0 ∨ v = 1)
theorem OpV.op {V : Int → Prop} {Mw Mm : mM} {Aw Am : List mV} (h : OpV V Mw Aw Mm Am) : Op Mw Aw Mm Am := fun g d hI => MM.mono (fun o g1 d1 hh => by
  obtain ⟨k, ho, hk⟩ := hh
  exact ⟨k, ho, fun Q2 h2 => hk Q2 (fun b d2 a1 a2 a3 a4 => h2 b d2 a1 a2 a3 (fun z => (a4 z).1))⟩) (h g d hI)
def Op0 (Mc : mM) (Ac : List mV) (Mm : mM) (Am : List mV) : Prop := ∀ (g : mG) (d : mD), INV g d → MM Mc Ac g d (fun o g1 d1 => ∃ k, o = .inl k ∧ ∀ Q2 : mQ, (∀ (b : Int) (d2 : mD), INV g1 d2 → d2 SCR = d SCR → b = k → Q2 (.inl b) g1 d2) → MM Mm Am g1 d1 Q2)
def RinS (ks : List Nat) (r : mO) : Prop := ∀ k, r = .inr k → k ∈ ks
theorem RinS.v {ks : List Nat} {w : Int} : RinS ks (.inl w) := fun k h => by cases h
theorem RinS.e {ks : List Nat} {k : Nat} (h : k ∈ ks) : RinS ks (.inr k) := fun k' h' => by cases h'; exact h
theorem RinS.i {ks : List Nat} {p : Prop} {a b : mO} (ha : RinS ks a) (hb : RinS ks b) : RinS ks (iO p a b) := by
  by_cases c : p
  · rw [iO_t c]; exact ha
  · rw [iO_f c]; exact hb
theorem ix_pos {k : Nat} : ∀ (ks : List Nat), 1 ≤ ix k ks := by
  intro ks
  induction ks with
  | nil => exact Int.le_refl 1
  | cons x l ih =>
    show 1 ≤ (if x = k then (1 : Int) else ix k l + 1)
    split <;> omega
theorem FrS.ch {d d1 : mD} (h : FrS d d1) (a v : Int) (ha : a = 74 ∨ a = 75) : FrCh d (ud d1 a 0 v) := fun b j q => by
  rw [ud_ne (by omega)]
  exact h b j (by omega) (by omega)
theorem FrN.mh {d d1 : mD} (h : FrN d d1) : FrMh d d1 := fun b j q => h b j (by omega) (by omega)
theorem FrN.ch {d d1 : mD} (h : FrN d d1) : FrCh d d1 := fun b j q => h b j (by omega) (by omega)
theorem FrCh.tr {d d' d'' : mD} (h : FrCh d d') (h2 : FrCh d' d'') : FrCh d d'' := fun b j q => (h2 b j q).trans (h b j q)
theorem FrMh.tr {d d' d'' : mD} (h : FrMh d d') (h2 : FrMh d' d'') : FrMh d d'' := fun b j q => (h2 b j q).trans (h b j q)
theorem FrS.mh {d d1 : mD} (h : FrS d d1) (a v : Int) (ha : a = 74 ∨ a = 75) : FrMh d (ud d1 a 0 v) := fun b j q => by
  rw [ud_ne (by omega)]
  exact h b j (by omega) (by omega)
theorem FrS.mh0 {d d1 : mD} (h : FrS d d1) : FrMh d d1 := fun b j q => h b j (by omega) (by omega)
theorem FrS.ch0 {d d1 : mD} (h : FrS d d1) : FrCh d d1 := fun b j q => h b j (by omega) (by omega)
theorem INV.fr {g : mG} {d d' : mD} (h : INV g d) (hc : FrCh d d') (hm : FrMh d d') : INV g d' := by
  obtain ⟨R, u, H, n, T, l, e, f, h1, h2, h3⟩ := h
  exact ⟨R, u, H, n, T, l, e, f, h1.fr hc, h2.fr hm, h3⟩
theorem scr_S {d d1 : mD} (h : FrS d d1) : d1 SCR = d SCR := funext fun j => h SCR j (by decide) (by decide)
theorem scr_N {d d1 : mD} (h : FrN d d1) : d1 SCR = d SCR := funext fun j => h SCR j (fun q => absurd q.1 (by decide)) (by decide)
/-- questions -/
theorem op_q0 {a : Int} {Mw Mc Mm : mM} {Aw Ac Am : List mV} {ks : List Nat} {r : rW → mO} (ha : a = 74 ∨ a = 75) (hw : ∀ (g : mG) (d : mD) (Q : mQ), (∀ w, r (d 66) = .inl w → True) → MM Mc Ac g d (fun o g' d' => match o with | .inl v => Q (.inl 0) g' (ud d' a 0 v) | .inr k => LX ks k Q g' d') → MM Mw Aw g d Q)
    (hq : ∀ (g : mG) (d : mD) (R : rW) (Q : mQ), CI d R → HQ (r R) d g Q → MM Mc Ac g d Q) (hm : ∀ (g : mG) (d : mD) (Q : mQ), RW (d 66) → HN ks (r (d 66)) d g Q → MM Mm Am g d Q) (hks : ∀ R, RinS ks (r R)) :
    ∀ (g : mG) (d : mD), INV g d → MM Mw Aw g d (fun o g1 d1 => ∃ k, o = .inl k ∧ ∀ Q2 : mQ, (∀ (b : Int) (d2 : mD), INV g1 d2 → d2 SCR = d SCR → d2 65 5 = k → (k = 0 → b = d2 a 0) → Q2 (.inl b) g1 d2) → MM Mm Am g1 d1 Q2) := by
  intro g d hI
  obtain ⟨R, u, H, n, T, l, e, f, h1, h2, h3⟩ := id hI
  have hC := h1.1.1
  have e66 : d 66 = R := h2.1.1
  refine hw g d _ (fun _ _ => trivial) (hq g d R _ hC (fun d1 f1 => ?_))
  cases hr : r R with
  | inl w =>
    dsimp only
    refine ⟨0, rfl, fun Q2 h => ?_⟩
    have em : (ud d1 a 0 w) 66 = R := by
      rw [ud_row (by omega)]
      exact (funext fun j => f1 66 j (by decide) (by decide)).trans e66
    refine hm g _ Q2 (by rw [em]; exact hC.w) (fun v d2 f2 h5 hv => ?_)
    rw [em, hr] at h5 hv
    refine h v d2 (hI.fr ((f1.ch a w ha).tr f2.ch) ((f1.mh a w ha).tr f2.mh)) ?_ h5 (fun _ => ?_)
    · rw [scr_N f2]
      have : (ud d1 a 0 w) SCR = d1 SCR := ud_row (by rcases ha with rfl | rfl <;> decide)
      rw [this]
      exact scr_S f1
    · rw [hv w rfl, f2 a 0 (by omega) (by omega), ud_same]
  | inr k =>
    dsimp only
    refine ⟨hks R k hr, ix k ks, rfl, fun Q2 h => ?_⟩
    have em : d1 66 = R := (funext fun j => f1 66 j (by decide) (by decide)).trans e66
    refine hm g _ Q2 (by rw [em]; exact hC.w) (fun v d2 f2 h5 hv => ?_)
    rw [em, hr] at h5
    exact h v d2 (hI.fr (f1.ch0.tr f2.ch) (f1.mh0.tr f2.mh)) ((scr_N f2).trans (scr_S f1)) h5 (fun z => by have := ix_pos (k := k) ks; omega)
theorem op_q {Mw Mc Mm : mM} {Aw Ac Am : List mV} {ks : List Nat} {r : rW → mO} (hw : ∀ (g : mG) (d : mD) (Q : mQ), MM Mc Ac g d (fun o g' d' => match o with | .inl v => Q (.inl 0) g' (ud d' 74 0 v) | .inr k => LX ks k Q g' d') → MM Mw Aw g d Q)
    (hq : ∀ (g : mG) (d : mD) (R : rW) (Q : mQ), CI d R → HQ (r R) d g Q → MM Mc Ac g d Q) (hm : ∀ (g : mG) (d : mD) (Q : mQ), RW (d 66) → HN ks (r (d 66)) d g Q → MM Mm Am g d Q) (hks : ∀ R, RinS ks (r R)) : Op Mw Aw Mm Am :=
  op_q0 (Or.inl rfl) (fun g d Q _ h => hw g d Q h) hq hm hks
theorem op_qd {Mw Mc Mm : mM} {Aw Ac Am : List mV} {ks : List Nat} {r : rW → mO} (hw : ∀ (g : mG) (d : mD) (Q : mQ), MM Mc Ac g d (fun o g' d' => match o with | .inl v => Q (.inl 0) g' (ud d' 75 0 v) | .inr k => LX ks k Q g' d') → MM Mw Aw g d Q)
    (hq : ∀ (g : mG) (d : mD) (R : rW) (Q : mQ), CI d R → HQ (r R) d g Q → MM Mc Ac g d Q) (hm : ∀ (g : mG) (d : mD) (Q : mQ), RW (d 66) → HN ks (r (d 66)) d g Q → MM Mm Am g d Q) (hks : ∀ R, RinS ks (r R)) : OpD Mw Aw Mm Am :=
  op_q0 (Or.inr rfl) (fun g d Q _ h => hw g d Q h) hq hm hks
/-- questions of yes or no -/
theorem op_qb {Mw Mc Mm : mM} {Aw Ac Am : List mV} {ks : List Nat} {r : rW → mO} (hb : ∀ R w, RW R → r R = .inl w → w = 0 ∨ w = 1) (hw : ∀ (g : mG) (d : mD) (Q : mQ), MM Mc Ac g d (fun o g' d' => match o with | .inl v => (v = 0 → Q (.inl 0) g' (ud d' 74 0 0)) ∧ (¬ v = 0 → Q (.inl 0) g' (ud d' 74 0 1)) | .inr k => LX ks k Q g' d') → MM Mw Aw g d Q)
    (hq : ∀ (g : mG) (d : mD) (R : rW) (Q : mQ), CI d R → HQ (r R) d g Q → MM Mc Ac g d Q) (hm : ∀ (g : mG) (d : mD) (Q : mQ), RW (d 66) → HN ks (r (d 66)) d g Q → MM Mm Am g d Q) (hks : ∀ R, RinS ks (r R)) : OpB Mw Aw Mm Am := by
  intro g d hI
  obtain ⟨R, u, H, n, T, l, e, f, h1, h2, h3⟩ := id hI
  have hC := h1.1.1
  have e66 : d 66 = R := h2.1.1
  refine hw g d _ (hq g d R _ hC (fun d1 f1 => ?_))
  cases hr : r R with
  | inl w =>
    dsimp only
    have key : ∀ Q2 : mQ, (∀ (b : Int) (d2 : mD), INV g d2 → d2 SCR = d SCR → d2 65 5 = 0 → ((0 : Int) = 0 → b = d2 74 0 ∧ (b = 0 ∨ b = 1)) → Q2 (.inl b) g d2) → MM Mm Am g (ud d1 74 0 w) Q2 := fun Q2 h => by
      have em : (ud d1 74 0 w) 66 = R := by
        rw [ud_row (by omega)]
        exact (funext fun j => f1 66 j (by decide) (by decide)).trans e66
      refine hm g _ Q2 (by rw [em]; exact hC.w) (fun v d2 f2 h5 hv => ?_)
      rw [em, hr] at h5 hv
      refine h v d2 (hI.fr ((f1.ch 74 w (Or.inl rfl)).tr f2.ch) ((f1.mh 74 w (Or.inl rfl)).tr f2.mh)) ?_ h5 (fun _ => ?_)
      · rw [scr_N f2]
        have : (ud d1 74 0 w) SCR = d1 SCR := ud_row (by decide)
        rw [this]
        exact scr_S f1
      · rw [hv w rfl, f2 74 0 (by omega) (by omega), ud_same]
        exact ⟨rfl, hb R w hC.w hr⟩
    rcases hb R w hC.w hr with rfl | rfl
    · exact ⟨fun _ => ⟨0, rfl, key⟩, fun z => absurd rfl z⟩
    · exact ⟨fun z => absurd z (by decide), fun _ => ⟨0, rfl, key⟩⟩
  | inr k =>
    dsimp only
    refine ⟨hks R k hr, ix k ks, rfl, fun Q2 h => ?_⟩
    have em : d1 66 = R := (funext fun j => f1 66 j (by decide) (by decide)).trans e66
    refine hm g _ Q2 (by rw [em]; exact hC.w) (fun v d2 f2 h5 hv => ?_)
    rw [em, hr] at h5
    exact h v d2 (hI.fr (f1.ch0.tr f2.ch) (f1.mh0.tr f2.mh)) ((scr_N f2).trans (scr_S f1)) h5 (fun z => by have := ix_pos (k := k) ks; omega)
/-- questions that never throw -/
theorem op_00 {Mc Mm : mM} {Ac Am : List mV} {r : rW → Int} (hq : ∀ (g : mG) (d : mD) (R : rW) (Q : mQ), CI d R → HQ (.inl (r R)) d g Q → MM Mc Ac g d Q) (hm : ∀ (g : mG) (d : mD) (Q : mQ), RW (d 66) → HN [] (.inl (r (d 66))) d g Q → MM Mm Am g d Q) : Op0 Mc Ac Mm Am := by
  intro g d hI
  obtain ⟨R, u, H, n, T, l, e, f, h1, h2, h3⟩ := id hI
  have hC := h1.1.1
  have e66 : d 66 = R := h2.1.1
  refine hq g d R _ hC (fun d1 f1 => ⟨r R, rfl, fun Q2 h => ?_⟩)
  have em : d1 66 = R := (funext fun j => f1 66 j (by decide) (by decide)).trans e66
  refine hm g _ Q2 (by rw [em]; exact hC.w) (fun v d2 f2 h5 hv => ?_)
  rw [em] at hv
  exact h v d2 (hI.fr (f1.ch0.tr f2.ch) (f1.mh0.tr f2.mh)) ((scr_N f2).trans (scr_S f1)) (hv _ rfl)
