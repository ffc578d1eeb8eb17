theorem rv_R {X : hX} {φ : Nat → Nat} {a : Int} (h : 0 ≤ a) : rv X φ (vR a) = .ref (φ a.toNat) := if_neg (by show ¬ a < 0; omega)
theorem rv_N {X : hX} {φ : Nat → Nat} {a : Int} (h : a < 0) : rv X φ (vR a) = .null := if_pos h
theorem wM_get {X : hX} {φ : Nat → Nat} {g : mG} {d : mD} {a : Int} (h : 0 ≤ a ∧ a < g.2.1) : (wM X φ g d)[a.toNat]? = some (φ a.toNat, wE X φ g d a) := by
  have h1 : a.toNat < g.2.1.toNat := by omega
  have h2 : ((a.toNat : Nat) : Int) = a := Int.toNat_of_nonneg h.1
  unfold wM
  rw [List.getElem?_map, List.getElem?_range h1]
  show some (φ a.toNat, wE X φ g d ((a.toNat : Nat) : Int)) = _
  rw [h2]
theorem wM_len {X : hX} {φ : Nat → Nat} {g : mG} {d : mD} : (wM X φ g d).length = g.2.1.toNat := by simp [wM]
theorem wL_get {X : hX} {φ : Nat → Nat} {g : mG} {d : mD} {a : Int} (h : 0 ≤ a ∧ a < g.2.1) : (wL X φ g d)[a.toNat]? = some (φ a.toNat, wE X φ g d a) := by
  unfold wL
  rw [List.getElem?_append_left (by rw [wM_len]; omega)]
  exact wM_get h
theorem wE_same {X : hX} {φ : Nat → Nat} {g g' : mG} {d d' : mD} {b : Int} (h : d' b = d b) (hr : g'.2.2 b = g.2.2 b) : wE X φ g' d' b = wE X φ g d b := by
  unfold wE
  have : fvl X φ g' d' b = fvl X φ g d b := by
    funext j
    unfold fvl
    rw [h, hr]
  rw [this, h, hr]
theorem wM_set {X : hX} {φ : Nat → Nat} {g g' : mG} {d d' : mD} {a : Int} {e : va_E} (ha : 0 ≤ a ∧ a < g.2.1) (hn : g'.2.1 = g.2.1) (he : e = wE X φ g' d' a) (ho : ∀ b, b ≠ a → d' b = d b ∧ g'.2.2 b = g.2.2 b) : (wM X φ g d).set a.toNat (φ a.toNat, e) = wM X φ g' d' := by
  apply List.ext_getElem?
  intro i
  rw [List.getElem?_set]
  by_cases hi : a.toNat = i
  · subst hi
    have h1 : a.toNat < (wM X φ g d).length := by rw [wM_len]; omega
    rw [if_pos rfl, if_pos h1, wM_get (g := g') (by rw [hn]; exact ha), he]
  · rw [if_neg hi]
    unfold wM
    rw [hn, List.getElem?_map, List.getElem?_map]
    by_cases hl : i < g.2.1.toNat
    · rw [List.getElem?_range hl]
      have hb : ((i : Nat) : Int) ≠ a := fun q => hi (by omega)
      obtain ⟨o1, o2⟩ := ho _ hb
      show some (φ i, wE X φ g d (i : Int)) = some (φ i, wE X φ g' d' (i : Int))
      rw [wE_same o1 o2]
    · rw [List.getElem?_eq_none (by rw [List.length_range]; omega)]
      rfl
theorem wL_set {X : hX} {φ : Nat → Nat} {g g' : mG} {d d' : mD} {a : Int} {e : va_E} (hF : ¬ FGN < g.2.1) (ha : 0 ≤ a ∧ a < g.2.1) (hn : g'.2.1 = g.2.1) (he : e = wE X φ g' d' a) (ho : ∀ b, b ≠ a → d' b = d b ∧ g'.2.2 b = g.2.2 b) : (wL X φ g d).set a.toNat (φ a.toNat, e) = wL X φ g' d' := by
  unfold wL
  rw [List.set_append_left _ _ (by rw [wM_len]; omega), wM_set ha hn he ho]
  unfold fgL
  rw [(ho FGN (fun q => hF (Int.lt_of_le_of_lt (Int.le_of_eq q) ha.2))).1]
def ud (d : mD) (a i v : Int) : mD := fun b j => if b = a ∧ j = i then v else d b j
theorem ud_same (d : mD) (a i v : Int) : ud d a i v a i = v := if_pos ⟨rfl, rfl⟩
theorem ud_ne {d : mD} {a i v b j : Int} (h : ¬ (b = a ∧ j = i)) : ud d a i v b j = d b j := if_neg h
theorem ud_row {d : mD} {a i v b : Int} (h : b ≠ a) : ud d a i v b = d b := by
  funext j
  exact ud_ne (fun q => h q.1)
theorem LK_SCR : LK SCR = 200 := by decide +kernel
theorem not_scr {g : mG} {d : mD} {a : Int} (hT : TY g d) (ha : a < g.2.1) : a ≠ SCR := by
  have h := hT.2.2.1
  intro e
  rw [e] at ha
  have : SCR = 100000 := rfl
  omega
theorem not_fgn {g : mG} {d : mD} (hT : TY g d) : ¬ FGN < g.2.1 := fun q => absurd (Int.lt_of_lt_of_le q hT.2.2.1) (by decide)
theorem TY_put {g : mG} {d : mD} {a i v : Int} (hT : TY g d) (ha : 0 ≤ a ∧ a < g.2.1) (hv : okR (RC a i) v) : TY g (ud d a i v) := by
  obtain ⟨h1, h2, h3, h4, h5, h6, h7, h8⟩ := hT
  refine ⟨h1, h2, h3, fun b j => ?_, fun b j hb hs => ?_, h6, h7, h8⟩
  · by_cases h : b = a ∧ j = i
    · rw [h.1, h.2, ud_same]; exact hv
    · rw [ud_ne h]; exact h4 b j
  · rw [ud_ne (fun q => by omega)]; exact h5 b j hb hs
theorem RP_put {X : hX} {φ : Nat → Nat} {g : mG} {d : mD} {H H1 : Heap} {a i v : Int} {e : va_E} (hR : RP X φ g d H) (ha : 0 ≤ a ∧ a < g.2.1) (he : e = wE X φ g (ud d a i v) a) (hv : okR (RC a i) v)
    (hP : va_P (xD X) mCls ((wL X φ g d).set a.toNat (φ a.toNat, e)) H1) (hD : va_D (fun q => xB X ≤ q) ((wL X φ g d).set a.toNat (φ a.toNat, e))) : RP X φ g (ud d a i v) H1 := by
  obtain ⟨-, -, hT, hs⟩ := hR
  have e1 := wL_set (X := X) (φ := φ) (g := g) (g' := g) (d := d) (d' := ud d a i v) (not_fgn hT) ha rfl he (fun b hb => ⟨ud_row hb, rfl⟩)
  rw [e1] at hP hD
  exact ⟨hP, hD, TY_put hT ha hv, (ud_row (Ne.symm (not_scr hT ha.2))).trans hs⟩
theorem RP.gs {X : hX} {φ : Nat → Nat} {g : mG} {d : mD} {H : Heap} (h : RP X φ g d H) {a : Int} (ha : 0 ≤ a ∧ a < g.2.1) (j : Int) : okR (RC a j) (d a j) := h.2.2.1.2.2.2.1 a j
theorem RC_arr {a j : Int} {k : Nat} (h : LK a = k) (hk : ¬ k < 100) (h2 : k < 200 ∨ j ≠ -2 := by omega) : RC a j = RCk k := by
  unfold RC
  rw [if_neg, h, if_neg hk]
  rintro ⟨q1, q2⟩
  have h3 : LK a = 200 := by rw [q1]; exact LK_SCR
  omega
theorem iI_c {x : Int} (h : 0 ≤ x ∧ x ≤ 65535) : iI x := ⟨by omega, by omega⟩
theorem iI_k {x : Int} (h : 0 ≤ x ∧ x ≤ 10000) : iI x := ⟨by omega, by omega⟩
theorem iI_z {x : Int} (h : 0 ≤ x ∧ x ≤ 1) : iI x := ⟨by omega, by omega⟩
theorem wE_i {X : hX} {φ : Nat → Nat} {g : mG} {d : mD} {a : Int} {k : Nat} (h : LK a = k) (hk : 100 ≤ k ∧ k < 103) : wE X φ g d a = .inl (xA X k, (LN a).toNat, .inl (fun k => Int32.ofInt (d a k))) := by
  unfold wE
  rw [h, if_neg (by omega), if_pos hk.2]
theorem wE_l {X : hX} {φ : Nat → Nat} {g : mG} {d : mD} {a : Int} (h : LK a = 103) : wE X φ g d a = .inl (xA X 103, (LN a).toNat, .inr (.inl (fun k => Int64.ofInt (d a k)))) := by
  unfold wE
  rw [h, if_neg (by omega), if_neg (by omega), if_pos rfl]
theorem wE_d {X : hX} {φ : Nat → Nat} {g : mG} {d : mD} {a : Int} (h : LK a = 104) : wE X φ g d a = .inl (xA X 104, (LN a).toNat, .inr (.inr (.inr (.inl (fun k => UInt64.ofNat (d a k).toNat))))) := by
  unfold wE
  rw [h, if_neg (by omega), if_neg (by omega), if_neg (by omega), if_pos rfl]
theorem wE_q {X : hX} {φ : Nat → Nat} {g : mG} {d : mD} {a : Int} (h : LK a = 105) : wE X φ g d a = .inl (xA X 105, (LN a).toNat, .inr (.inr (.inr (.inr (fun k => if g.2.2 a k < 0 then none else some (φ (g.2.2 a k).toNat)))))) := by
  unfold wE
  rw [h, if_neg (by omega), if_neg (by omega), if_neg (by omega), if_neg (by omega)]
theorem wE_o {X : hX} {φ : Nat → Nat} {g : mG} {d : mD} {a : Int} (h : LK a < 100) : wE X φ g d a = .inr (LK a, (List.range (NF (LK a))).map (fvl X φ g d a)) := by
  unfold wE
  rw [if_pos h]
theorem n_i {i : Int} (h : 0 ≤ i) : ((i.toNat : Nat) : Int) = i := Int.toNat_of_nonneg h
theorem upd_ud {d : mD} {a i v : Int} (h : 0 ≤ i) : upd (fun k => Int32.ofInt (d a (k : Int))) i.toNat (Int32.ofInt v) = fun k : Nat => Int32.ofInt (ud d a i v a (k : Int)) := by
  funext k
  unfold upd ud
  by_cases hk : k = i.toNat
  · subst hk
    rw [if_pos rfl, if_pos ⟨rfl, n_i h⟩]
  · rw [if_neg hk, if_neg (by omega)]
theorem nar_c {v : Int} (h : 0 ≤ v ∧ v ≤ 65535) : vp_nar .char (Int32.ofInt v) = Int32.ofInt v := by
  rw [vp_nar_char]
  obtain ⟨n, rfl⟩ := Int.eq_ofNat_of_zero_le h.1
  have hn : n < 65536 := by omega
  apply Int32.toBitVec_inj.mp
  show ((BitVec.ofInt 32 (n : Int)).setWidth 16).setWidth 32 = BitVec.ofInt 32 (n : Int)
  apply BitVec.eq_of_toNat_eq
  rw [BitVec.toNat_setWidth, BitVec.toNat_setWidth, BitVec.toNat_ofInt]
  omega
theorem nar_z {v : Int} (h : 0 ≤ v ∧ v ≤ 1) : vp_nar .boolean (Int32.ofInt v) = Int32.ofInt v := by
  rcases (show v = 0 ∨ v = 1 by omega) with rfl | rfl <;> rfl
theorem mw_iald {M : mM} {bc bs : Nat} {pc pc' : Nat} {L : List (Nat × mV)} {S : List mV} {g : mG} {d : mD} {Q : mQ} {a i : Int} (hd : decode (mC M) pc = .ok (.iaload, 1)) (hp : pc + 1 = pc') (hk : LK a = 100) (ha : 0 ≤ a ∧ a < mW M) (hi : 0 ≤ i ∧ i < LN a) (k0 : MW M bc bs pc' L (vI (d a i) :: S) g d Q) : MW M bc bs pc L (vI i :: vR a :: S) g d Q := by
  intro p l e s m args below meth c H locs cells slots X φ E ls hC hS hR hE hL hO hl hw hc hs
  obtain ⟨hx, hb, hml, hown, hts, hK, hT, hr, hlk, hnm, htb, hfl⟩ := id hC
  obtain ⟨hP, hD, hTY, hsc⟩ := id hR
  subst hp
  have ha1 : 0 ≤ a ∧ a < g.2.1 := ⟨ha.1, by have := hTY.2.1; omega⟩
  obtain ⟨hin, hix⟩ := i_idx hi hO.1
  have h9 := hR.gs ha1 i
  rw [RC_arr hk (by omega)] at h9
  have h0 := k0 p l e s m args below meth c H locs cells slots X φ E ls hC hS hR hE hL ⟨h9, hO.2.2⟩ hl hw hc hs
  rw [List.map_cons, List.map_cons, rv_R ha.1]
  refine va_iald hx hb hK hP a.toNat 0 ((wL_get ha1).trans (by rw [wE_i hk (by omega)])) rfl hin hd ?_
  rw [hix]
  show W _ _ _ _ _ _ _ _ _ _ _ _ _ _ _ (F0 m _ ls (.int (Int32.ofInt (d a ((i.toNat : Nat) : Int))) :: _))
  rw [n_i hi.1]
  exact h0
theorem mw_cald {M : mM} {bc bs : Nat} {pc pc' : Nat} {L : List (Nat × mV)} {S : List mV} {g : mG} {d : mD} {Q : mQ} {a i : Int} (hd : decode (mC M) pc = .ok (.caload, 1)) (hp : pc + 1 = pc') (hk : LK a = 101) (ha : 0 ≤ a ∧ a < mW M) (hi : 0 ≤ i ∧ i < LN a) (k0 : MW M bc bs pc' L (vI (d a i) :: S) g d Q) : MW M bc bs pc L (vI i :: vR a :: S) g d Q := by
  intro p l e s m args below meth c H locs cells slots X φ E ls hC hS hR hE hL hO hl hw hc hs
  obtain ⟨hx, hb, hml, hown, hts, hK, hT, hr, hlk, hnm, htb, hfl⟩ := id hC
  obtain ⟨hP, hD, hTY, hsc⟩ := id hR
  subst hp
  have ha1 : 0 ≤ a ∧ a < g.2.1 := ⟨ha.1, by have := hTY.2.1; omega⟩
  obtain ⟨hin, hix⟩ := i_idx hi hO.1
  have h9 := hR.gs ha1 i
  rw [RC_arr hk (by omega)] at h9
  have h0 := k0 p l e s m args below meth c H locs cells slots X φ E ls hC hS hR hE hL ⟨iI_c h9, hO.2.2⟩ hl hw hc hs
  rw [List.map_cons, List.map_cons, rv_R ha.1]
  refine va_cald hx hb hK hP a.toNat 1 ((wL_get ha1).trans (by rw [wE_i hk (by omega)])) rfl hin hd ?_
  rw [hix]
  show W _ _ _ _ _ _ _ _ _ _ _ _ _ _ _ (F0 m _ ls (.int (Int32.ofInt (d a ((i.toNat : Nat) : Int))) :: _))
  rw [n_i hi.1]
  exact h0
theorem mw_zald {M : mM} {bc bs : Nat} {pc pc' : Nat} {L : List (Nat × mV)} {S : List mV} {g : mG} {d : mD} {Q : mQ} {a i : Int} (hd : decode (mC M) pc = .ok (.baload, 1)) (hp : pc + 1 = pc') (hk : LK a = 102) (ha : 0 ≤ a ∧ a < mW M) (hi : 0 ≤ i ∧ i < LN a) (k0 : MW M bc bs pc' L (vI (d a i) :: S) g d Q) : MW M bc bs pc L (vI i :: vR a :: S) g d Q := by
  intro p l e s m args below meth c H locs cells slots X φ E ls hC hS hR hE hL hO hl hw hc hs
  obtain ⟨hx, hb, hml, hown, hts, hK, hT, hr, hlk, hnm, htb, hfl⟩ := id hC
  obtain ⟨hP, hD, hTY, hsc⟩ := id hR
  subst hp
  have ha1 : 0 ≤ a ∧ a < g.2.1 := ⟨ha.1, by have := hTY.2.1; omega⟩
  obtain ⟨hin, hix⟩ := i_idx hi hO.1
  have h9 := hR.gs ha1 i
  rw [RC_arr hk (by omega)] at h9
  have h0 := k0 p l e s m args below meth c H locs cells slots X φ E ls hC hS hR hE hL ⟨iI_z h9, hO.2.2⟩ hl hw hc hs
  rw [List.map_cons, List.map_cons, rv_R ha.1]
  refine va_zald hx hb hK hP a.toNat 2 ((wL_get ha1).trans (by rw [wE_i hk (by omega)])) rfl hin hd ?_
  rw [hix]
  show W _ _ _ _ _ _ _ _ _ _ _ _ _ _ _ (F0 m _ ls (.int (Int32.ofInt (d a ((i.toNat : Nat) : Int))) :: _))
  rw [n_i hi.1]
  exact h0
theorem mw_lald {M : mM} {bc bs : Nat} {pc pc' : Nat} {L : List (Nat × mV)} {S : List mV} {g : mG} {d : mD} {Q : mQ} {a i : Int} (hd : decode (mC M) pc = .ok (.laload, 1)) (hp : pc + 1 = pc') (hk : LK a = 103) (ha : 0 ≤ a ∧ a < mW M) (hi : 0 ≤ i ∧ i < LN a) (k0 : MW M bc bs pc' L (vL (d a i) :: S) g d Q) : MW M bc bs pc L (vI i :: vR a :: S) g d Q := by
  intro p l e s m args below meth c H locs cells slots X φ E ls hC hS hR hE hL hO hl hw hc hs
  obtain ⟨hx, hb, hml, hown, hts, hK, hT, hr, hlk, hnm, htb, hfl⟩ := id hC
  obtain ⟨hP, hD, hTY, hsc⟩ := id hR
  subst hp
  have ha1 : 0 ≤ a ∧ a < g.2.1 := ⟨ha.1, by have := hTY.2.1; omega⟩
  obtain ⟨hin, hix⟩ := i_idx hi hO.1
  have h9 := hR.gs ha1 i
  rw [RC_arr hk (by omega)] at h9
  have h0 := k0 p l e s m args below meth c H locs cells slots X φ E ls hC hS hR hE hL ⟨h9, hO.2.2⟩ hl hw hc hs
  rw [List.map_cons, List.map_cons, rv_R ha.1]
  refine va_lald hx hb hK hP a.toNat 3 ((wL_get ha1).trans (by rw [wE_l hk])) rfl hin hd ?_
  rw [hix]
  show W _ _ _ _ _ _ _ _ _ _ _ _ _ _ _ (F0 m _ ls (.long (Int64.ofInt (d a ((i.toNat : Nat) : Int))) :: _))
  rw [n_i hi.1]
  exact h0
theorem mw_aald {M : mM} {bc bs : Nat} {pc pc' : Nat} {L : List (Nat × mV)} {S : List mV} {g : mG} {d : mD} {Q : mQ} {a i : Int} (hd : decode (mC M) pc = .ok (.aaload, 1)) (hp : pc + 1 = pc') (hk : LK a = 105) (ha : 0 ≤ a ∧ a < mW M) (hi : 0 ≤ i ∧ i < LN a) (k0 : MW M bc bs pc' L (vR (g.2.2 a i) :: S) g d Q) : MW M bc bs pc L (vI i :: vR a :: S) g d Q := by
  intro p l e s m args below meth c H locs cells slots X φ E ls hC hS hR hE hL hO hl hw hc hs
  obtain ⟨hx, hb, hml, hown, hts, hK, hT, hr, hlk, hnm, htb, hfl⟩ := id hC
  obtain ⟨hP, hD, hTY, hsc⟩ := id hR
  subst hp
  have ha1 : 0 ≤ a ∧ a < g.2.1 := ⟨ha.1, by have := hTY.2.1; omega⟩
  obtain ⟨hin, hix⟩ := i_idx hi hO.1
  have h0 := k0 p l e s m args below meth c H locs cells slots X φ E ls hC hS hR hE hL ⟨(hTY.2.2.2.2.2.2.1 a i).2, hO.2.2⟩ hl hw hc hs
  rw [List.map_cons, List.map_cons, rv_R ha.1]
  refine va_aldq hx hb hK hP a.toNat 5 ((wL_get ha1).trans (by rw [wE_q hk])) rfl hin hd ?_
  rw [hix]
  show W _ _ _ _ _ _ _ _ _ _ _ _ _ _ _ (F0 m _ ls (va_rf (if g.2.2 a ((i.toNat : Nat) : Int) < 0 then none else some (φ (g.2.2 a ((i.toNat : Nat) : Int)).toNat)) :: _))
  rw [n_i hi.1]
  have e : va_rf (if g.2.2 a i < 0 then none else some (φ (g.2.2 a i).toNat)) = rv X φ (vR (g.2.2 a i)) := by
    show _ = (if g.2.2 a i < 0 then Value.null else .ref (φ (g.2.2 a i).toNat))
    split <;> rfl
  rw [e]
  exact h0
theorem mw_iast {M : mM} {bc bs : Nat} {pc pc' : Nat} {L : List (Nat × mV)} {S : List mV} {g : mG} {d : mD} {Q : mQ} {a i v : Int} (hd : decode (mC M) pc = .ok (.iastore, 1)) (hp : pc + 1 = pc') (hk : LK a = 100) (ha : 0 ≤ a ∧ a < mW M) (hi : 0 ≤ i ∧ i < LN a) (k0 : MW M bc bs pc' L S g (ud d a i v) Q) : MW M bc bs pc L (vI v :: vI i :: vR a :: S) g d Q := by
  intro p l e s m args below meth c H locs cells slots X φ E ls hC hS hR hE hL hO hl hw hc hs
  obtain ⟨hx, hb, hml, hown, hts, hK, hT, hr, hlk, hnm, htb, hfl⟩ := id hC
  obtain ⟨hP, hD, hTY, hsc⟩ := id hR
  subst hp
  have ha1 : 0 ≤ a ∧ a < g.2.1 := ⟨ha.1, by have := hTY.2.1; omega⟩
  obtain ⟨hin, hix⟩ := i_idx hi hO.2.1
  rw [List.map_cons, List.map_cons, List.map_cons, rv_R ha.1]
  refine va_iast hx hb hK hP hD hS a.toNat 0 ((wL_get ha1).trans (by rw [wE_i hk (by omega)])) rfl hin hd (fun H1 locs1 hP1 hD1 hS1 => ?_)
  rw [hix] at hP1 hD1
  rw [upd_ud hi.1] at hP1 hD1
  have hR1 := RP_put (i := i) (v := v) hR ha1 ((wE_i hk (by omega)).symm) (by rw [RC_arr hk (by omega)]; exact hO.1) hP1 hD1
  exact k0 p l e s m args below meth c H1 locs1 cells slots X φ E ls hC hS1 hR1 hE hL hO.2.2.2 hl hw hc hs
theorem mw_cast {M : mM} {bc bs : Nat} {pc pc' : Nat} {L : List (Nat × mV)} {S : List mV} {g : mG} {d : mD} {Q : mQ} {a i v : Int} (hd : decode (mC M) pc = .ok (.castore, 1)) (hp : pc + 1 = pc') (hk : LK a = 101) (ha : 0 ≤ a ∧ a < mW M) (hi : 0 ≤ i ∧ i < LN a) (hv : 0 ≤ v ∧ v ≤ 65535) (k0 : MW M bc bs pc' L S g (ud d a i v) Q) : MW M bc bs pc L (vI v :: vI i :: vR a :: S) g d Q := by
  intro p l e s m args below meth c H locs cells slots X φ E ls hC hS hR hE hL hO hl hw hc hs
  obtain ⟨hx, hb, hml, hown, hts, hK, hT, hr, hlk, hnm, htb, hfl⟩ := id hC
  obtain ⟨hP, hD, hTY, hsc⟩ := id hR
  subst hp
  have ha1 : 0 ≤ a ∧ a < g.2.1 := ⟨ha.1, by have := hTY.2.1; omega⟩
  obtain ⟨hin, hix⟩ := i_idx hi hO.2.1
  rw [List.map_cons, List.map_cons, List.map_cons, rv_R ha.1]
  refine va_cast hx hb hK hP hD hS a.toNat 1 ((wL_get ha1).trans (by rw [wE_i hk (by omega)])) rfl hin hd (fun H1 locs1 hP1 hD1 hS1 => ?_)
  rw [hix] at hP1 hD1
  rw [nar_c hv] at hP1 hD1
  rw [upd_ud hi.1] at hP1 hD1
  have hR1 := RP_put (i := i) (v := v) hR ha1 ((wE_i hk (by omega)).symm) (by rw [RC_arr hk (by omega)]; exact hv) hP1 hD1
  exact k0 p l e s m args below meth c H1 locs1 cells slots X φ E ls hC hS1 hR1 hE hL hO.2.2.2 hl hw hc hs
theorem mw_zast {M : mM} {bc bs : Nat} {pc pc' : Nat} {L : List (Nat × mV)} {S : List mV} {g : mG} {d : mD} {Q : mQ} {a i v : Int} (hd : decode (mC M) pc = .ok (.bastore, 1)) (hp : pc + 1 = pc') (hk : LK a = 102) (ha : 0 ≤ a ∧ a < mW M) (hi : 0 ≤ i ∧ i < LN a) (hv : 0 ≤ v ∧ v ≤ 1) (k0 : MW M bc bs pc' L S g (ud d a i v) Q) : MW M bc bs pc L (vI v :: vI i :: vR a :: S) g d Q := by
  intro p l e s m args below meth c H locs cells slots X φ E ls hC hS hR hE hL hO hl hw hc hs
  obtain ⟨hx, hb, hml, hown, hts, hK, hT, hr, hlk, hnm, htb, hfl⟩ := id hC
  obtain ⟨hP, hD, hTY, hsc⟩ := id hR
  subst hp
  have ha1 : 0 ≤ a ∧ a < g.2.1 := ⟨ha.1, by have := hTY.2.1; omega⟩
  obtain ⟨hin, hix⟩ := i_idx hi hO.2.1
  rw [List.map_cons, List.map_cons, List.map_cons, rv_R ha.1]
  refine va_zast hx hb hK hP hD hS a.toNat 2 ((wL_get ha1).trans (by rw [wE_i hk (by omega)])) rfl hin hd (fun H1 locs1 hP1 hD1 hS1 => ?_)
  rw [hix] at hP1 hD1
  rw [nar_z hv] at hP1 hD1
  rw [upd_ud hi.1] at hP1 hD1
  have hR1 := RP_put (i := i) (v := v) hR ha1 ((wE_i hk (by omega)).symm) (by rw [RC_arr hk (by omega)]; exact hv) hP1 hD1
  exact k0 p l e s m args below meth c H1 locs1 cells slots X φ E ls hC hS1 hR1 hE hL hO.2.2.2 hl hw hc hs
theorem mw_last {M : mM} {bc bs : Nat} {pc pc' : Nat} {L : List (Nat × mV)} {S : List mV} {g : mG} {d : mD} {Q : mQ} {a i v : Int} (hd : decode (mC M) pc = .ok (.lastore, 1)) (hp : pc + 1 = pc') (hk : LK a = 103) (ha : 0 ≤ a ∧ a < mW M) (hi : 0 ≤ i ∧ i < LN a) (k0 : MW M bc bs pc' L S g (ud d a i v) Q) : MW M bc bs pc L (vL v :: vI i :: vR a :: S) g d Q := by
  intro p l e s m args below meth c H locs cells slots X φ E ls hC hS hR hE hL hO hl hw hc hs
  obtain ⟨hx, hb, hml, hown, hts, hK, hT, hr, hlk, hnm, htb, hfl⟩ := id hC
  obtain ⟨hP, hD, hTY, hsc⟩ := id hR
  subst hp
  have ha1 : 0 ≤ a ∧ a < g.2.1 := ⟨ha.1, by have := hTY.2.1; omega⟩
  obtain ⟨hin, hix⟩ := i_idx hi hO.2.1
  rw [List.map_cons, List.map_cons, List.map_cons, rv_R ha.1]
  refine va_last hx hb hK hP hD hS a.toNat 3 ((wL_get ha1).trans (by rw [wE_l hk])) rfl hin hd (fun H1 locs1 hP1 hD1 hS1 => ?_)
  rw [hix] at hP1 hD1
  have hu : vp_updL (fun k => Int64.ofInt (d a (k : Int))) i.toNat (Int64.ofInt v) = fun k : Nat => Int64.ofInt (ud d a i v a (k : Int)) := by
    funext k
    unfold vp_updL ud
    by_cases hk : k = i.toNat
    · subst hk
      rw [if_pos rfl, if_pos ⟨rfl, n_i hi.1⟩]
    · rw [if_neg hk, if_neg (by omega)]
  rw [hu] at hP1 hD1
  have hR1 := RP_put (i := i) (v := v) hR ha1 ((wE_l hk).symm) (by rw [RC_arr hk (by omega)]; exact hO.1) hP1 hD1
  exact k0 p l e s m args below meth c H1 locs1 cells slots X φ E ls hC hS1 hR1 hE hL hO.2.2.2 hl hw hc hs
theorem mw_alen {M : mM} {bc bs : Nat} {pc pc' : Nat} {L : List (Nat × mV)} {S : List mV} {g : mG} {d : mD} {Q : mQ} {a : Int} (hd : decode (mC M) pc = .ok (.arraylength, 1)) (hp : pc + 1 = pc') (hk : 100 ≤ LK a ∧ LK a < 106) (ha : 0 ≤ a ∧ a < mW M) (hn : 0 ≤ LN a ∧ LN a ≤ 10000) (k0 : MW M bc bs pc' L (vI (LN a) :: S) g d Q) : MW M bc bs pc L (vR a :: S) g d Q := by
  intro p l e s m args below meth c H locs cells slots X φ E ls hC hS hR hE hL hO hl hw hc hs
  obtain ⟨hx, hb, hml, hown, hts, hK, hT, hr, hlk, hnm, htb, hfl⟩ := id hC
  obtain ⟨hP, hD, hTY, hsc⟩ := id hR
  subst hp
  have ha1 : 0 ≤ a ∧ a < g.2.1 := ⟨ha.1, by have := hTY.2.1; omega⟩
  have h0 := k0 p l e s m args below meth c H locs cells slots X φ E ls hC hS hR hE hL ⟨iI_k hn, hO.2⟩ hl hw hc hs
  rw [List.map_cons, rv_R ha.1]
  have hv : Int32.ofNat (LN a).toNat = Int32.ofInt (LN a) := by
    rw [← Int32.ofInt_eq_ofNat, n_i hn.1]
  have key : ∀ (t : Nat) (cA : ClassId) (x : vp_A) (ty : FieldType), (wE X φ g d a = .inl (cA, x)) → x.1 = (LN a).toNat → (TYS X)[t]? = some (cA, ty) → _ := fun t cA x ty h1 h2 h3 => va_alen (v := Int32.ofInt (LN a)) hx hb hK hP a.toNat t ((wL_get ha1).trans (by rw [h1])) h3 (by rw [h2]; exact hv) hd h0
  by_cases h3 : LK a < 103
  · rcases (show LK a = 100 ∨ LK a = 101 ∨ LK a = 102 by omega) with h | h | h
    · exact key 0 _ _ _ (wE_i h (by omega)) rfl rfl
    · exact key 1 _ _ _ (wE_i h (by omega)) rfl rfl
    · exact key 2 _ _ _ (wE_i h (by omega)) rfl rfl
  · rcases (show LK a = 103 ∨ LK a = 104 ∨ LK a = 105 by omega) with h | h | h
    · exact key 3 _ _ _ (wE_l h) rfl rfl
    · exact key 4 _ _ _ (wE_d h) rfl rfl
    · exact key 5 _ _ _ (wE_q h) rfl rfl
