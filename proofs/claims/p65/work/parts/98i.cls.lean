-- the class's whole state, and what a change does to it
def SlotS (d : mD) (c k : Int) (R : rW) : Prop := k < c ∧ CI (shD d (59 + 46 * k)) R
def CS (g : mG) (d : mD) (R : rW) (u : Int) (H : Int → rW) : Prop := CI d R ∧ ∃ c, PD g c ∧ (0 ≤ d 0 5 ∧ d 0 5 ≤ 8 ∧ d 0 5 ≤ c) ∧ d 0 6 = u ∧ (0 ≤ u ∧ u ≤ 8) ∧ ∀ j, 0 ≤ j → j < u → SlotS d c ((d 0 5 + 9 - u + j) % 9) (H j)
theorem SlotS.fr {d d' : mD} {c k : Int} {R : rW} (h : SlotS d c k R) (hk : 0 ≤ k ∧ c ≤ 9) (hf : ∀ b j : Int, 65 + 46 * k ≤ b → b < 111 + 46 * k → d' b j = d b j) {c' : Int} (hc : c ≤ c') : SlotS d' c' k R := by
  obtain ⟨h1, h2⟩ := h
  refine ⟨by omega, CI.sh h2 (fun b j hb => ?_)⟩
  have := inC_e hb
  exact hf _ _ (by omega) (by omega)
theorem CS.fr {g : mG} {d d' : mD} {R R' : rW} {u : Int} {H : Int → rW} (h : CS g d R u H) (hC : CI d' R') (hf : ∀ b j : Int, 65 ≤ b → b < 479 → d' b j = d b j) (e5 : d' 0 5 = d 0 5) (e6 : d' 0 6 = d 0 6) : CS g d' R' u H := by
  obtain ⟨-, c, hP, hn, hu, hu8, hs⟩ := h
  refine ⟨hC, c, hP, by rw [e5]; exact hn, by rw [e6]; exact hu, hu8, fun j q1 q2 => ?_⟩
  rw [e5]
  have := hs j q1 q2
  have h1 := this.1
  exact this.fr ⟨by omega, hP.1.2⟩ (fun b j y1 y2 => hf b j (by omega) (by have := hP.1.2; omega)) (Int.le_refl _)
def exF (c : Int) : Nat := if c = -5 then 4 else if c = -4 then 5 else if c = -3 then 1 else if c = -2 then 2 else 3
def OkS (l : List Int) (R : rW) (s : Int × rW) : Prop := s.1 < 0 → s.2 = R ∧ s.1 ∈ l
theorem OkS.i {l : List Int} {R : rW} {p : Prop} {a b : Int × rW} (ha : p → OkS l R a) (hb : ¬ p → OkS l R b) : OkS l R (sO p a b) := by
  by_cases h : p
  · rw [sO_t h]; exact ha h
  · rw [sO_f h]; exact hb h
theorem OkS.e {l : List Int} {R : rW} {c : Int} (h : c ∈ l) : OkS l R (c, R) := fun _ => ⟨rfl, h⟩
theorem OkS.v {l : List Int} {R R' : rW} {v : Int} (h : 0 ≤ v) : OkS l R (v, R') := fun z => absurd z (by show ¬ v < 0; omega)
/-- what may be another after a change: the docket, its past, the counters of the past -/
def FrY (d d' : mD) : Prop := ∀ b j : Int, ¬ (5 ≤ b ∧ b ≤ 59) → ¬ (65 ≤ b ∧ b < 479) → ¬ (b = 0 ∧ (j = 5 ∨ j = 6)) → ¬ (b = 1 ∧ j = 1) → d' b j = d b j
def HPush (u : Int) (R : rW) (H H' : Int → rW) : Prop := (u = 8 → (∀ j, 0 ≤ j → j < 7 → H' j = H (j + 1)) ∧ H' 7 = R) ∧ (¬ u = 8 → (∀ j, 0 ≤ j → j < u → H' j = H j) ∧ H' u = R)
noncomputable def hPush (u : Int) (R : rW) (H : Int → rW) : Int → rW := fun j => if u = 8 then (if j < 7 then H (j + 1) else R) else (if j < u then H j else R)
theorem hPush_ok {u : Int} {R : rW} {H : Int → rW} : HPush u R H (hPush u R H) := by
  refine ⟨fun c => ⟨fun j q1 q2 => ?_, ?_⟩, fun c => ⟨fun j q1 q2 => ?_, ?_⟩⟩
  · unfold hPush; rw [if_pos c, if_pos q2]
  · unfold hPush; rw [if_pos c, if_neg (by decide)]
  · unfold hPush; rw [if_neg c, if_pos q2]
  · unfold hPush; rw [if_neg c, if_neg (by omega)]
theorem s_settle {s : Int} {g : mG} {d : mD} {Q : mQ} {l : List Int} (hl : s < 0 → -5 ≤ s) (h5 : 0 ≤ d 0 5 ∧ d 0 5 ≤ 8) (h6 : 0 ≤ d 0 6 ∧ d 0 6 ≤ 8) (he : s < 0 → Q (.inr (exF s)) g d) (hv : 0 ≤ s → Q (.inl s) g (ud (ud d 0 5 (iT (d 0 5 = 8) 0 (d 0 5 + 1))) 0 6 (min 8 (d 0 6 + 1)))) : MM mX11_settle [vR 0, vI s] g d Q := by
  refine eX11_settle ⟨fun c => ?_, fun c5 => ⟨fun c => ?_, fun c4 => ⟨fun c => ?_, fun c3 => ⟨fun c => ?_, fun c2 => ⟨fun c => ?_, fun c1 => ⟨fun _ => ik (by omega), ik (by omega), hv (by omega)⟩⟩⟩⟩⟩⟩
  · have := he (by omega); rw [c] at this; exact this
  · have := he (by omega); rw [c] at this; exact this
  · have := he (by omega); rw [c] at this; exact this
  · have := he (by omega); rw [c] at this; exact this
  · have := he (by omega); rw [c] at this; exact this
/-- a change of the class: setting aside, trying, settling -/
theorem z_change {M' : mM} {A : List mV} {s : Int × rW} {R : rW} {u n' : Int} {H : Int → rW} {l : List Int} {g : mG} {d : mD} {K : mQ} {X1 X2 : Nat → mG → mD → Prop} (hS : CS g d R u H) (hl : ∀ c ∈ l, -5 ≤ c) (hs : OkS l R s)
    (ht : ∀ (g3 : mG) (d3 : mD) (Q3 : mQ), CI d3 R → (∀ b j : Int, ¬ (65 ≤ b ∧ b < 479) → d3 b j = d b j) → (∀ d', FrP d3 d' → d' 1 1 = n' → CI d' s.2 → Q3 (.inl s.1) g3 d') → MM M' A g3 d3 Q3)
    (he : s.1 < 0 → s.1 ∈ l → ∀ g' d', FrY d d' → d' 1 1 = n' → CS g' d' R u H → K (.inr (exF s.1)) g' d')
    (hv : 0 ≤ s.1 → ∀ g' d', FrY d d' → d' 1 1 = n' → CS g' d' s.2 (min 8 (u + 1)) (hPush u R H) → K (.inl s.1) g' d') :
    MM mX11_setAside [vR 0] g d (fun o g3 d4 => match o with | .inl _ => MM M' A g3 d4 (fun o g7 d8 => match o with | .inl v6 => MM mX11_settle [vR 0, vI v6] g7 d8 K | .inr k => X2 k g7 d8) | .inr k => X1 k g3 d4) := by
  obtain ⟨hC, c, hP, hn, hu, hu8, hslot⟩ := hS
  refine q_setAside (A := 65 + 46 * d 0 5) hP rfl ⟨hn.1, hn.2.1, hn.2.2⟩ rfl hC (fun c' g' d3 hP' q1 q2 f3 hC3 => ?_)
  dsimp only
  have f3' : ∀ b j : Int, ¬ (65 ≤ b ∧ b < 479) → d3 b j = d b j := fun b j y => f3 b j (by omega)
  refine ht g' d3 _ (hC.fr (fun b j y1 y2 => f3' b j (by omega))) f3' (fun d4 f4 en hC4 => ?_)
  dsimp only
  have fp : ∀ b j : Int, 65 ≤ b → d4 b j = d3 b j := fun b j y => f4 b j (by omega) (by omega)
  have e5 : d4 0 5 = d 0 5 := (f4 0 5 (by omega) (by omega)).trans (f3' 0 5 (by omega))
  have e6 : d4 0 6 = u := ((f4 0 6 (by omega) (by omega)).trans (f3' 0 6 (by omega))).trans hu
  have fy : FrY d d4 := fun b j y1 y2 y3 y4 => (f4 b j y1 y4).trans (f3' b j y2)
  have hold : ∀ j, 0 ≤ j → j < u → SlotS d4 c' ((d 0 5 + 9 - u + j) % 9) (H j) := fun j y1 y2 => by
    have hs1 := hslot j y1 y2
    have hk := hs1.1
    refine hs1.fr ⟨by omega, hP.1.2⟩ (fun b i z1 z2 => ?_) q2
    rw [fp b i (by omega)]
    exact f3 b i (by omega)
  have hnew : SlotS d4 c' (d 0 5) R := ⟨q1, by
    refine CI.sh (d := d3) (k := 65 + 46 * d 0 5 - 6) hC3 (fun b j hb => ?_)
    have := inC_e hb
    rw [show 59 + 46 * d 0 5 = 65 + 46 * d 0 5 - 6 by omega]
    exact fp _ _ (by omega)⟩
  refine s_settle (l := l) (fun z => hl _ (hs z).2) ⟨by omega, by omega⟩ ⟨by omega, by omega⟩ (fun z => ?_) (fun z => ?_)
  · obtain ⟨z1, z2⟩ := hs z
    rw [z1] at hC4
    exact he z z2 g' d4 fy en ⟨hC4, c', hP', by rw [e5]; exact ⟨hn.1, hn.2.1, by omega⟩, e6, hu8, by rw [e5]; exact hold⟩
  · rw [e5, e6]
    refine hv z g' _ (fun b j y1 y2 y3 y4 => ?_) (by rw [ud_ne (by omega), ud_ne (by omega)]; exact en) ⟨?_, c', hP', ?_, ud_same _ _ _ _, by omega, ?_⟩
    · rw [ud_ne (by omega), ud_ne (by omega)]
      exact fy b j y1 y2 y3 y4
    · exact hC4.fr (fun b j y1 y2 => by rw [ud_ne (by omega), ud_ne (by omega)])
    · rw [ud_ne (by omega), ud_same]
      by_cases c8 : d 0 5 = 8
      · rw [iT_t c8]; omega
      · rw [iT_f c8]; omega
    · rw [ud_ne (by omega : ¬ ((0 : Int) = 0 ∧ (5 : Int) = 6)), ud_same]
      intro j y1 y2
      have hr := ring_push (S := fun k R' => SlotS d4 c' k R') (H' := hPush u R H) ⟨hn.1, hn.2.1⟩ hu8 rfl rfl hold hnew hPush_ok.1 hPush_ok.2 j y1 y2
      have hk9 := hr.1
      exact hr.fr ⟨by omega, hP'.1.2⟩ (fun b i z1 z2 => by rw [ud_ne (by omega), ud_ne (by omega)]) (Int.le_refl _)
