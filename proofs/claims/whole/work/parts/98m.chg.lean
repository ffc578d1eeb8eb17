-- changes, both sides
theorem mh_chg {d d' : mD} {R R' : rW} {u : Int} {H : Int → rW} {n : Int} {T : rW} {l : Ln} {e f : Int} (h : MHh d R u H n T l e f) (hu : 0 ≤ u ∧ u ≤ 8) (e66 : d' 66 = R') (hf : ∀ b j : Int, b ≠ 66 → ¬ (b = 71 ∨ (b = 65 ∧ (j = 7 ∨ j = 13))) → d' b j = mChg (ud d 65 5 0) b j) {n' : Int} (e7 : d' 65 7 = n') : MHh d' R' (min 8 (u + 1)) (hPush u R H) n' T l e f := by
  obtain ⟨⟨h1, h2, h3⟩, h4, h5, h6, h7, h8, h9⟩ := h
  have hx : mChg (ud d 65 5 0) = mRemR u R (ud d 65 5 0) := by
    unfold mChg
    rw [if_pos (by rw [ud_ne (by omega)]; exact h9), ud_ne (by omega), h2, ud_row (by decide), h1]
  have hg : ∀ b j : Int, b ≠ 66 → ¬ (b = 68 ∨ b = 71 ∨ (b = 65 ∧ (j = 3 ∨ j = 5 ∨ j = 7 ∨ j = 13))) → d' b j = d b j := fun b j q1 q2 => by
    rw [hf b j q1 (by omega), hx, mRemR_fr (by omega), ud_ne (by omega)]
  refine ⟨⟨e66, ?_, fun i q1 q2 x y1 y2 => ?_⟩, (funext fun j => hg 69 j (by decide) (by omega)).trans h4, e7, h6.frr (hg 65 9 (by decide) (by omega)) (fun j => hg 70 j (by decide) (by omega)), (hg 65 10 (by decide) (by omega)).trans h7, (hg 65 11 (by decide) (by omega)).trans h8, (hg 65 4 (by decide) (by omega)).trans h9⟩
  · rw [hf 65 3 (by decide) (by omega), hx]
    unfold mRemR
    rw [if_neg (by decide), if_pos ⟨rfl, rfl⟩]
    by_cases c : u = 8
    · rw [if_pos c]; omega
    · rw [if_neg c]; omega
  · rw [hf 68 _ (by decide) (by omega), hx]
    unfold mRemR hPush
    rw [if_pos rfl]
    by_cases c : u = 8
    · rw [if_pos c, if_pos c]
      by_cases ci : i < 7
      · rw [if_pos ci, if_pos ⟨by omega, by omega⟩, ud_ne (by omega), show 787 * i + x + 787 = 787 * (i + 1) + x by omega]
        exact h3 (i + 1) (by omega) (by omega) x y1 y2
      · rw [if_neg ci, if_neg (by omega), if_pos ⟨by omega, by omega⟩, show 787 * i + x - 5509 = x by omega]
    · rw [if_neg c, if_neg c]
      by_cases ci : i < u
      · rw [if_pos ci, if_neg (by omega), ud_ne (by omega)]
        exact h3 i q1 ci x y1 y2
      · have ei : i = u := by omega
        subst ei
        rw [if_neg ci, if_pos ⟨by omega, by omega⟩, show 787 * i + x - i * 787 = x by omega]
theorem exF_ix {c : Int} : ∀ (l : List Int), (∀ x ∈ l, -5 ≤ x ∧ x < 0) → c ∈ l → cx l c = ix (exF c) (l.map exF) := by
  intro l
  induction l with
  | nil => intro _ h; cases h
  | cons x l ih =>
    intro hl hc
    have hx := hl x List.mem_cons_self
    have hcr := hl c hc
    show (if x = c then (1 : Int) else cx l c + 1) = (if exF x = exF c then (1 : Int) else ix (exF c) (l.map exF) + 1)
    by_cases e : x = c
    · subst e
      rw [if_pos rfl, if_pos rfl]
    · have hn : ¬ exF x = exF c := by
        unfold exF
        rcases (show x = -5 ∨ x = -4 ∨ x = -3 ∨ x = -2 ∨ x = -1 by omega) with h | h | h | h | h <;> rcases (show c = -5 ∨ c = -4 ∨ c = -3 ∨ c = -2 ∨ c = -1 by omega) with h' | h' | h' | h' | h' <;> subst h <;> subst h' <;> first | exact absurd rfl e | decide
      rw [if_neg e, if_neg hn]
      rcases List.mem_cons.mp hc with h | h
      · exact absurd h.symm e
      · rw [ih (fun y hy => hl y (List.mem_cons_of_mem _ hy)) h]
theorem scr_Y {d d1 : mD} (h : FrY d d1) : d1 SCR = d SCR := funext fun j => h SCR j (by decide) (by decide) (fun q => absurd q.1 (by decide)) (fun q => absurd q.1 (by decide))
theorem FrY.mh {d d' : mD} (h : FrY d d') : FrMh d d' := fun b j q => h b j (by omega) (by omega) (by omega) (by omega)
theorem ch_of {g g' : mG} {d d' : mD} {R R' : rW} {u u' : Int} {H H' : Int → rW} {n : Int} {T : rW} {l : Ln} {e f : Int} (h : CHh g d R u H n T l e f) (hf : FrY d d') (hS : CS g' d' R' u' H') {n' : Int} (hn : d' 1 1 = n') : CHh g' d' R' u' H' n' T l e f := by
  obtain ⟨h1, h2, h3, h5, h6, h7⟩ := h
  exact ⟨hS, (funext fun j => hf 2 j (by omega) (by omega) (by omega) (by omega)).trans h2, hn, h5.frr (hf 3 1 (by omega) (by omega) (by omega) (by omega)) (fun j => hf 4 j (by omega) (by omega) (by omega) (by omega)), (hf 0 11 (by omega) (by omega) (by omega) (by omega)).trans h6, (hf 0 12 (by omega) (by omega) (by omega) (by omega)).trans h7⟩
/-- a change: class (set aside, try, settle) and model -/
theorem op_c {Mw Mt Mm : mM} {Aw At Am : List mV} {l : List Int} {s : rW → Int × rW} {V : Int → Prop} (hl : ∀ x ∈ l, -5 ≤ x ∧ x < 0) (hs : ∀ R, RW R → OkS l R (s R)) (hV : ∀ R, RW R → 0 ≤ (s R).1 → V (s R).1)
    (hw : ∀ (g : mG) (d : mD) (Q : mQ), (∀ (K : mQ) (X1 X2 : Nat → mG → mD → Prop), (∀ v g' d', V v → Q (.inl 0) g' (ud d' 74 0 v) → K (.inl v) g' d') → (∀ k g' d', LX (l.map exF) k Q g' d' → K (.inr k) g' d') → MM mX11_setAside [vR 0] g d (fun o g3 d4 => match o with | .inl _ => MM Mt At g3 d4 (fun o g7 d8 => match o with | .inl v6 => MM mX11_settle [vR 0, vI v6] g7 d8 K | .inr k => X2 k g7 d8) | .inr k => X1 k g3 d4)) → MM Mw Aw g d Q)
    (ht : ∀ (R : rW) (g : mG) (d : mD) (Q : mQ), CI d R → HT (s R) d g Q → MM Mt At g d Q) (hm : ∀ (g : mG) (d : mD) (Q : mQ), RW (d 66) → 0 ≤ d 65 3 ∧ d 65 3 ≤ 8 → HK l (s (d 66)) d g Q → MM Mm Am g d Q) : OpV V Mw Aw Mm Am := by
  intro g d hI
  obtain ⟨R, u, H, n, T, ln, e, f, h1, h2, h3⟩ := id hI
  have hC := h1.1.1
  have hu := h1.1.2.choose_spec.2.2.2.1
  have e66 : d 66 = R := h2.1.1
  have e3 : d 65 3 = u := h2.1.2.1
  refine hw g d _ (fun K X1 X2 k1 k2 => z_change (l := l) (s := s R) (n' := n) h1.1 (fun c hc => (hl c hc).1) (hs R hC.w) (fun g3 d3 Q3 hC3 f03 hq => ht R g3 d3 Q3 hC3 (fun d' f' hC' => hq d' (fun b j q1 q2 => f' b j (by omega)) (((f' 1 1 (by omega)).trans (f03 1 1 (by omega))).trans h1.2.2.1) hC')) (fun z zl g' d' fy en hS => k2 _ g' d' ?_) (fun z g' d' fy en hS => k1 _ g' d' (hV R hC.w z) ?_))
  · refine ⟨List.mem_map.mpr ⟨_, zl, rfl⟩, ix (exF (s R).1) (l.map exF), rfl, fun Q2 h => ?_⟩
    have hmh := h2.fr fy.mh
    have em : d' 66 = R := hmh.1.1
    refine hm g' d' Q2 (by rw [em]; exact hC.w) (by rw [hmh.1.2.1]; exact hu) ⟨fun _ v d2 f2 h5 => ?_, fun z2 => absurd z2 (by rw [em]; omega)⟩
    rw [em, exF_ix l hl zl] at h5
    refine h v d2 ⟨R, u, H, n, T, ln, e, f, (ch_of h1 fy hS en).fr (fun b j q => f2 b j (by omega)), hmh.fr (fun b j q => f2 b j (by omega)), h3⟩ ?_ h5 (fun z3 => by have := ix_pos (k := exF (s R).1) (l.map exF); omega)
    exact funext fun j => (f2 SCR j (fun q => absurd q.1 (by decide))).trans (congrFun (scr_Y fy) j)
  · refine ⟨0, rfl, fun Q2 h => ?_⟩
    have hmh := (h2.fr fy.mh).fr (d' := ud d' 74 0 (s R).1) (fun b j q => ud_ne (by omega))
    have em : (ud d' 74 0 (s R).1) 66 = R := hmh.1.1
    refine hm g' _ Q2 (by rw [em]; exact hC.w) (by rw [hmh.1.2.1]; exact hu) ⟨fun z2 => absurd z2 (by rw [em]; omega), fun _ d2 e2 f2 => ?_⟩
    rw [em] at e2 ⊢
    have fm : ∀ b j : Int, ¬ (65 ≤ b ∧ b ≤ 73) → d2 b j = ud d' 74 0 (s R).1 b j := fun b j q => by
      rw [f2 b j (by omega), mChg_fr (by omega), ud_ne (by omega)]
    refine h _ d2 ⟨(s R).2, min 8 (u + 1), hPush u R H, n, T, ln, e, f, ((ch_of h1 fy hS en).fr (d' := ud d' 74 0 (s R).1) (fun b j q => ud_ne (by omega))).fr (fun b j q => fm b j (by omega)), mh_chg hmh hu e2 (fun b j q _ => f2 b j q) ?_, h3⟩ ?_ ?_ (fun _ => ?_)
    · rw [f2 65 7 (by decide), mChg_fr (by omega), ud_ne (by omega)]
      exact hmh.2.2.1
    · refine funext fun j => (fm SCR j (by decide)).trans ?_
      rw [ud_row (by decide)]
      exact congrFun (scr_Y fy) j
    · rw [f2 65 5 (by decide), mChg_fr (by omega), ud_same]
    · rw [fm 74 0 (by omega), ud_same]
      exact ⟨rfl, hV R hC.w z⟩
