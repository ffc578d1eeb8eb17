def ur (r : mR) (a j v : Int) : mR := fun b i => if b = a ∧ i = j then v else r b i
theorem ur_same (r : mR) (a j v : Int) : ur r a j v a j = v := if_pos ⟨rfl, rfl⟩
theorem ur_ne {r : mR} {a j v b i : Int} (h : ¬ (b = a ∧ i = j)) : ur r a j v b i = r b i := if_neg h
def gR (g : mG) (a j v : Int) : mG := (g.1, g.2.1, ur g.2.2 a j v)
theorem SPd_lt : ∀ q ∈ SPd, 0 ≤ q.1 ∧ q.1 < 46 := by decide +kernel
theorem TY_ref {g : mG} {d : mD} {a j v : Int} (hT : TY g d) (ha : a < g.2.1) (hv : -1 ≤ v ∧ v < g.2.1) (hg : GP g.1 (ur g.2.2 a j v)) : TY (gR g a j v) d := by
  obtain ⟨h1, h2, h3, h4, h5, h6, h7, h8⟩ := hT
  refine ⟨h1, h2, h3, h4, h5, fun b i hb => ?_, fun b i => ?_, hg⟩
  · show ur g.2.2 a j v b i = -1
    rw [ur_ne (fun q => by have : g.2.1 ≤ b := hb; omega)]
    exact h6 b i hb
  · show -1 ≤ ur g.2.2 a j v b i ∧ ur g.2.2 a j v b i < g.2.1
    by_cases h : b = a ∧ i = j
    · rw [h.1, h.2, ur_same]; exact hv
    · rw [ur_ne h]; exact h7 b i
theorem GP_new {nc : Int} {r : mR} {a j v : Int} (h : GP nc r) (ha : nc ≤ a) : GP nc (ur r a j v) := by
  refine ⟨fun q hq hl => ?_, fun k hk hl q hq => ?_⟩
  · rw [ur_ne (fun z => by omega)]
    exact h.1 q hq hl
  · have := (SPd_lt q hq).2
    rw [ur_ne (fun z => by omega)]
    exact h.2 k hk hl q hq
theorem GP_arr {nc : Int} {r : mR} {a j v : Int} (h : GP nc r) (ha : a < 65) (hne : ∀ q ∈ SPl, q.1 ≠ a) : GP nc (ur r a j v) := by
  refine ⟨fun q hq hl => ?_, fun k hk hl q hq => ?_⟩
  · rw [ur_ne (fun z => hne q hq z.1)]
    exact h.1 q hq hl
  · have := (SPd_lt q hq).1
    rw [ur_ne (fun z => by omega)]
    exact h.2 k hk hl q hq
theorem RP_ref {X : hX} {φ : Nat → Nat} {g : mG} {d : mD} {H H1 : Heap} {a j v : Int} {e : va_E} (hR : RP X φ g d H) (ha : 0 ≤ a ∧ a < g.2.1) (he : e = wE X φ (gR g a j v) d a) (hv : -1 ≤ v ∧ v < g.2.1) (hg : GP g.1 (ur g.2.2 a j v))
    (hP : va_P (xD X) mCls ((wL X φ g d).set a.toNat (φ a.toNat, e)) H1) (hD : va_D (fun q => xB X ≤ q) ((wL X φ g d).set a.toNat (φ a.toNat, e))) : RP X φ (gR g a j v) d H1 := by
  obtain ⟨-, -, hT, hs⟩ := hR
  have e1 := wL_set (X := X) (φ := φ) (g := g) (g' := gR g a j v) (d := d) (d' := d) (not_fgn hT) ha rfl he (fun b hb => ⟨rfl, funext fun i => ur_ne (fun z => hb z.1)⟩)
  rw [e1] at hP hD
  exact ⟨hP, hD, TY_ref hT ha.2 hv hg, hs⟩
theorem wE_ref {X : hX} {φ : Nat → Nat} {g : mG} {d : mD} {a v : Int} {j : Nat} (hk : LK a < 100) (hrc : RC a j = 9) : (.inr (LK a, ((List.range (NF (LK a))).map (fvl X φ g d a)).set j (rv X φ (1, v))) : va_E) = wE X φ (gR g a j v) d a := by
  rw [wE_o hk]
  congr 2
  apply List.ext_getElem?
  intro i
  rw [List.getElem?_set, fvl_len]
  by_cases hi : j = i
  · subst hi
    rw [if_pos rfl]
    split
    · rename_i h
      rw [fvl_get h]
      unfold fvl
      rw [if_pos hrc]
      show _ = some (rv X φ (1, ur g.2.2 a j v a j))
      rw [ur_same]
    · rename_i h
      rw [List.getElem?_eq_none (by rw [fvl_len]; omega)]
  · rw [if_neg hi]
    by_cases h : i < NF (LK a)
    · rw [fvl_get h, fvl_get h]
      unfold fvl
      show _ = some (if _ then rv X φ (1, ur g.2.2 a j v a i) else _)
      rw [ur_ne (fun q => hi (by omega))]
    · rw [List.getElem?_eq_none (by rw [fvl_len]; omega), List.getElem?_eq_none (by rw [fvl_len]; omega)]
theorem mw_putR {M : mM} {bc bs : Nat} {pc pc' : Nat} {L : List (Nat × mV)} {S : List mV} {g : mG} {d : mD} {Q : mQ} {a ji v : Int} {idx j : Nat} {ty : FieldType} (hd : decode (mC M) pc = .ok (.putfield idx, 3)) (hp : pc + 3 = pc') (hf : FP (mOw M) idx (LK a) j ty true) (hk : LK a < 100) (hj : (j : Int) = ji) (hrc : RC a ji = 9) (hdc : (mCls[LK a]?).map (fun q => q.1) = some (mOw M)) (hin : (mY M).name = "<init>") (hty : (∃ n, ty = .object n) ∨ ∃ t, ty = .array t) (hv : 0 ≤ v) (ha : 0 ≤ a ∧ a < g.2.1) (hnc : g.1 ≤ a) (hlk0 : ∀ (C : String) (T : u_T) (N : Nat), mCls[LK a]? = some (C, T, N) → Cond.fieldLink (mOw M) idx C (T j).2.1 (T j).2.2.1 ∈ BIG) (k0 : MW M bc bs pc' L S (gR g a ji v) d Q) : MW M bc bs pc L (vR v :: vR a :: S) g d Q := by
  intro p l e s m args below meth c H locs cells slots X φ E ls hC hS hR hE hL hO hl hw hc hs
  obtain ⟨hx, hb, hml, hown, hts, hK, hT, hr, hlk, hnm, htb, hfl⟩ := id hC
  obtain ⟨hP, hD, hTY, hsc⟩ := id hR
  subst hp
  subst hj
  obtain ⟨⟨C, T, N, h1, h2, h3, h4, h5, h6⟩, C', T', N', tf, g1, g2, g3, g4, g5⟩ := hf
  cases h1.symm.trans g1
  rw [h1] at hdc
  have hdc1 : C = mOw M := Option.some.inj hdc
  rw [List.map_cons, List.map_cons, rv_R ha.1]
  have he : (wL X φ g d)[a.toNat]? = some (φ a.toNat, .inr (LK a, (List.range (NF (LK a))).map (fvl X φ g d a))) := (wL_get ha).trans (by rw [wE_o hk])
  have hvr : rv X φ (vR v) = .ref (φ v.toNat) := rv_R hv
  have hn1 : narrow ty (rv X φ (vR v)) = rv X φ (vR v) := by rw [hvr]; rcases hty with ⟨n, rfl⟩ | ⟨t, rfl⟩ <;> rfl
  have hf1 : fits ty (rv X φ (vR v)) = true := by rw [hvr]; rcases hty with ⟨n, rfl⟩ | ⟨t, rfl⟩ <;> rfl
  have kk : ∀ (H1 : Heap) (locs1 : List Loc), va_P (xD X) mCls ((wL X φ g d).set a.toNat (φ a.toNat, .inr (LK a, ((List.range (NF (LK a))).map (fvl X φ g d a)).set j (rv X φ (vR v))))) H1 → va_D (xA0 X) ((wL X φ g d).set a.toNat (φ a.toNat, .inr (LK a, ((List.range (NF (LK a))).map (fvl X φ g d a)).set j (rv X φ (vR v))))) → va_S (xA0 X) s.heap H1 locs1 → _ := fun H1 locs1 hP1 hD1 hS1 => k0 p l e s m args below meth c H1 locs1 cells slots X φ E ls hC hS1 (RP_ref (j := j) (v := v) hR ha (wE_ref hk hrc) ⟨by omega, hO.1⟩ (GP_new hTY.2.2.2.2.2.2.2 hnc) hP1 hD1) hE hL hO.2.2 hl hw hc hs
  exact va_putF hx hb hts h4 tf g2 g3 hown hK hP hD hS a.toNat he h1 j h2 (hts _ (hlk0 C T N h1)) (fun x h => by rw [h5] at h; exact h) g4 (hnm.trans hin) (h5.trans hdc1) g5 hn1 hf1 (by rw [fvl_len]; omega) hd kk
theorem mw_aast {M : mM} {bc bs : Nat} {pc pc' : Nat} {L : List (Nat × mV)} {S : List mV} {g : mG} {d : mD} {Q : mQ} {a i v : Int} (hd : decode (mC M) pc = .ok (.aastore, 1)) (hp : pc + 1 = pc') (hk : LK a = 105) (ha : 0 ≤ a ∧ a < mW M) (ha7 : a < 65) (hi : 0 ≤ i ∧ i < LN a) (hv : 0 ≤ v ∧ LK v = 3) (hne : ∀ q ∈ SPl, q.1 ≠ a) (k0 : MW M bc bs pc' L S (gR g a i v) d Q) : MW M bc bs pc L (vR v :: vI i :: vR a :: S) g d Q := by
  intro p l e s m args below meth c H locs cells slots X φ E ls hC hS hR hE hL hO hl hw hc hs
  obtain ⟨hx, hb, hml, hown, hts, hK, hT, hr, hlk, hnm, htb, hfl⟩ := id hC
  obtain ⟨hP, hD, hTY, hsc⟩ := id hR
  subst hp
  have ha1 : 0 ≤ a ∧ a < g.2.1 := ⟨ha.1, by have := hTY.2.1; omega⟩
  obtain ⟨hin, hix⟩ := i_idx hi hO.2.1
  rw [List.map_cons, List.map_cons, List.map_cons, rv_R ha.1, rv_R hv.1]
  refine va_astq (ci := 3) (r := (RX3, TX3, 6)) hx hb hK hP hD hS a.toNat 5 v.toNat ((wL_get ha1).trans (by rw [wE_q hk])) rfl ((wL_get ⟨hv.1, hO.1⟩).trans (by rw [wE_o (by rw [hv.2]; decide), hv.2])) rfl hin hd (fun H1 locs1 hP1 hD1 hS1 => ?_)
  rw [hix] at hP1 hD1
  have hu : va_up (fun k : Nat => if g.2.2 a k < 0 then none else some (φ (g.2.2 a k).toNat)) i.toNat (some (φ v.toNat)) = fun k : Nat => if ur g.2.2 a i v a k < 0 then none else some (φ (ur g.2.2 a i v a k).toNat) := by
    funext k
    unfold va_up
    by_cases hk : k = i.toNat
    · subst hk
      have e9 : ur g.2.2 a i v a ((i.toNat : Nat) : Int) = v := by rw [n_i hi.1]; exact ur_same _ _ _ _
      rw [if_pos rfl, e9, if_neg (by omega)]
    · have e9 : ur g.2.2 a i v a (k : Int) = g.2.2 a k := ur_ne (fun z => hk (by omega))
      rw [if_neg hk, e9]
  rw [hu] at hP1 hD1
  have hR1 := RP_ref (j := i) (v := v) hR ha1 ((wE_q (g := gR g a i v) hk).symm) ⟨by omega, hO.1⟩ (GP_arr hTY.2.2.2.2.2.2.2 ha7 hne) hP1 hD1
  exact k0 p l e s m args below meth c H1 locs1 cells slots X φ E ls hC hS1 hR1 hE hL hO.2.2.2 hl hw hc hs
theorem mw_whole {M : mM} {bc bs : Nat} {pc pc' : Nat} {L : List (Nat × mV)} {S : List mV} {g : mG} {d : mD} {Q : mQ} {nc : Int} (h1 : g.1 ≤ nc ∧ nc ≤ g.2.1) (hg : GP nc g.2.2) (k0 : MW M bc bs pc L S (nc, g.2.1, g.2.2) d Q) : MW M bc bs pc L S g d Q := by
  intro p l e s m args below meth c H locs cells slots X φ E ls hC hS hR hE hL hO hl hw hc hs
  obtain ⟨hx, hb, hml, hown, hts, hK, hT, hr, hlk, hnm, htb, hfl⟩ := id hC
  obtain ⟨hP, hD, hTY, hsc⟩ := id hR
  refine k0 p l e s m args below meth c H locs cells slots X φ E ls hC hS ⟨hP, hD, ⟨Int.le_trans hTY.1 h1.1, h1.2, hTY.2.2.1, hTY.2.2.2.1, hTY.2.2.2.2.1, hTY.2.2.2.2.2.1, hTY.2.2.2.2.2.2.1, hg⟩, hsc⟩ ⟨hE.1, hE.2.1, Int.le_trans hE.2.2 h1.1⟩ hL hO hl (Int.le_trans hw h1.1) hc hs
theorem i_max {a b : Int} (ha : iI a) (hb : iI b) : (if Int32.ofInt a < Int32.ofInt b then Int32.ofInt b else Int32.ofInt a) = Int32.ofInt (max a b) ∧ iI (max a b) := by
  have hh := i_lt ha hb
  refine ⟨?_, by unfold iI at *; omega⟩
  by_cases h : a < b
  · rw [if_pos (hh.mpr h)]
    congr 1
    omega
  · rw [if_neg (fun q => h (hh.mp q))]
    congr 1
    omega
theorem mw_max {M : mM} {bc bs : Nat} {pc pc' : Nat} {L : List (Nat × mV)} {S : List mV} {g : mG} {d : mD} {Q : mQ} {a b : Int} {idx : Nat} (hd : decode (mC M) pc = .ok (.invokestatic idx, 3)) (hp : pc + 3 = pc') (hl0 : Cond.methodLink (mOw M) idx Lib.Math.max.name ∈ BIG) (hst : Cond.static Lib.Math.max.name ∈ BIG) (hini : Cond.initialized "java/lang/Math" ∈ BIG) (hco : Cond.code Lib.Math.max.name Lib.Math.max.code 2 (some .int) ∈ BIG) (hfr : 1 ≤ mFr M) (hlo : 100 ≤ mLo M) (hcat : (S.map catV).sum ≤ 8) (k0 : MW M bc bs pc' L (vI (max a b) :: S) g d Q) : MW M bc bs pc L (vI b :: vI a :: S) g d Q := by
  intro p l e s m args below meth c H locs cells slots X φ E ls hC hS hR hE hL hO hl hw hc hs
  obtain ⟨hx, hb, hml, hown, hts, hK, hT, hr, hlk, hnm, htb, hfl⟩ := id hC
  obtain ⟨hP, hD, hTY, hsc⟩ := id hR
  subst hp
  have hcat2 : ((S.map (rv X φ)).map fun v => v.category).sum ≤ 8 := by
    rw [List.map_map, show ((fun v : Value => v.category) ∘ rv X φ) = catV from funext fun v => cat_rv X φ v]
    exact hcat
  obtain ⟨e1, e2⟩ := i_max (a := a) (b := b) hO.2.1 hO.1
  have h0 := k0 p l e s m args below meth c H locs cells slots X φ E ls hC hS hR hE hL ⟨e2, hO.2.2⟩ hl hw hc hs
  refine va_mmax (x := Int32.ofInt a) (y := Int32.ofInt b) hx hb (hml.trans hl.1.symm) hown (hts _ hl0) (hts _ hst) (hts _ hini) (hts _ hco) hfr (by show _ ≤ mLo M; omega) (by show _ ≤ mCe M; omega) (by show _ ≤ mSl M; omega) hd ?_
  rw [e1]
  exact h0
theorem i_min {a b : Int} (ha : iI a) (hb : iI b) : (if Int32.ofInt b < Int32.ofInt a then Int32.ofInt b else Int32.ofInt a) = Int32.ofInt (min a b) ∧ iI (min a b) := by
  have hh := i_lt hb ha
  refine ⟨?_, by unfold iI at *; omega⟩
  by_cases h : b < a
  · rw [if_pos (hh.mpr h)]
    congr 1
    omega
  · rw [if_neg (fun q => h (hh.mp q))]
    congr 1
    omega
theorem mw_min {M : mM} {bc bs : Nat} {pc pc' : Nat} {L : List (Nat × mV)} {S : List mV} {g : mG} {d : mD} {Q : mQ} {a b : Int} {idx : Nat} (hd : decode (mC M) pc = .ok (.invokestatic idx, 3)) (hp : pc + 3 = pc') (hl0 : Cond.methodLink (mOw M) idx Lib.Math.min.name ∈ BIG) (hst : Cond.static Lib.Math.min.name ∈ BIG) (hini : Cond.initialized "java/lang/Math" ∈ BIG) (hco : Cond.code Lib.Math.min.name Lib.Math.min.code 2 (some .int) ∈ BIG) (hfr : 1 ≤ mFr M) (hlo : 100 ≤ mLo M) (hcat : (S.map catV).sum ≤ 8) (k0 : MW M bc bs pc' L (vI (min a b) :: S) g d Q) : MW M bc bs pc L (vI b :: vI a :: S) g d Q := by
  intro p l e s m args below meth c H locs cells slots X φ E ls hC hS hR hE hL hO hl hw hc hs
  obtain ⟨hx, hb, hml, hown, hts, hK, hT, hr, hlk, hnm, htb, hfl⟩ := id hC
  obtain ⟨hP, hD, hTY, hsc⟩ := id hR
  subst hp
  have hcat2 : ((S.map (rv X φ)).map fun v => v.category).sum ≤ 8 := by
    rw [List.map_map, show ((fun v : Value => v.category) ∘ rv X φ) = catV from funext fun v => cat_rv X φ v]
    exact hcat
  obtain ⟨e1, e2⟩ := i_min (a := a) (b := b) hO.2.1 hO.1
  have h0 := k0 p l e s m args below meth c H locs cells slots X φ E ls hC hS hR hE hL ⟨e2, hO.2.2⟩ hl hw hc hs
  refine va_mmin (x := Int32.ofInt a) (y := Int32.ofInt b) hx hb (hml.trans hl.1.symm) hown (hts _ hl0) (hts _ hst) (hts _ hini) (hts _ hco) hfr (by show _ ≤ mLo M; omega) (by show _ ≤ mCe M; omega) (by show _ ≤ mSl M; omega) hd ?_
  rw [e1]
  exact h0
theorem mw_xlen {M : mM} {bc bs : Nat} {pc pc' : Nat} {L : List (Nat × mV)} {S : List mV} {g : mG} {d : mD} {Q : mQ} (hd : decode (mC M) pc = .ok (.arraylength, 1)) (hp : pc + 1 = pc') (h0 : 0 ≤ d SCR (-1)) (k0 : MW M bc bs pc' L (vI (d SCR (-1)) :: S) g d Q) : MW M bc bs pc L ((5, 0) :: S) g d Q := by
  intro p l e s m args below meth c H locs cells slots X φ E ls hC hS hR hE hL hO hl hw hc hs
  obtain ⟨hx, hb, hml, hown, hts, hK, hT, hr, hlk, hnm, htb, hfl⟩ := id hC
  obtain ⟨hP, hD, hTY, hsc⟩ := id hR
  subst hp
  have hi := hTY.2.2.2.1 SCR (-1)
  rw [RC_arr (j := -1) LK_SCR (by decide)] at hi
  have h1 := k0 p l e s m args below meth c H locs cells slots X φ E ls hC hS hR hE hL ⟨hi, hO.2⟩ hl hw hc hs
  rw [List.map_cons] at h1 ⊢
  refine va_slen hx hb hT.2.2.2.2.2.1 (Nat.lt_of_lt_of_le hT.2.2.2.2.2.2.1 hT.2.2.2.2.2.2.2.1) (Nat.not_le.mpr hT.2.2.2.2.2.2.1) hS hd ?_
  rw [← hsc, ← Int32.ofInt_eq_ofNat, n_i h0]
  exact h1
theorem mw_xld {M : mM} {bc bs : Nat} {pc pc' : Nat} {L : List (Nat × mV)} {S : List mV} {g : mG} {d : mD} {Q : mQ} {i : Int} (hd : decode (mC M) pc = .ok (.iaload, 1)) (hp : pc + 1 = pc') (hi0 : 0 ≤ i ∧ i < d SCR (-1)) (k0 : MW M bc bs pc' L (vI (d SCR i) :: S) g d Q) : MW M bc bs pc L (vI i :: (5, 0) :: S) g d Q := by
  intro p l e s m args below meth c H locs cells slots X φ E ls hC hS hR hE hL hO hl hw hc hs
  obtain ⟨hx, hb, hml, hown, hts, hK, hT, hr, hlk, hnm, htb, hfl⟩ := id hC
  obtain ⟨hP, hD, hTY, hsc⟩ := id hR
  subst hp
  have hi := hTY.2.2.2.1 SCR i
  rw [RC_arr (j := i) LK_SCR (by decide)] at hi
  have h1 := k0 p l e s m args below meth c H locs cells slots X φ E ls hC hS hR hE hL ⟨hi, hO.2.2⟩ hl hw hc hs
  obtain ⟨hin, hix⟩ := i_idx hi0 hO.1
  rw [List.map_cons] at h1
  rw [List.map_cons, List.map_cons]
  rw [hsc] at hin
  refine va_sld hx hb hT.2.2.2.2.2.1 (Nat.lt_of_lt_of_le hT.2.2.2.2.2.2.1 hT.2.2.2.2.2.2.2.1) (Nat.not_le.mpr hT.2.2.2.2.2.2.1) hS hin hd ?_
  rw [hix, ← hsc, n_i hi0.1]
  exact h1
def cpy (d : mD) (a b sp dp n : Int) : mD := fun x j => if x = b ∧ dp ≤ j ∧ j < dp + n then d a (sp + (j - dp)) else d x j
theorem cpy_row {d : mD} {a b sp dp n x : Int} (h : x ≠ b) : cpy d a b sp dp n x = d x := by
  funext j
  exact if_neg (fun q => h q.1)
theorem fits_ok {k : Nat} {x : Int} (hk : 100 ≤ k ∧ k < 103) (h : okR (RCk k) x) : fits (if k = 100 then .int else if k = 101 then .char else .boolean) (.int (Int32.ofInt x)) = true := by
  rcases (show k = 100 ∨ k = 101 ∨ k = 102 by omega) with rfl | rfl | rfl
  · rfl
  · have h1 := nar_ret (ty := .char) (Or.inr (Or.inr ⟨rfl, h.1, h.2⟩))
    show fits .char (.int (Int32.ofInt x)) = true
    have h2 : fits .char (narrow .char (.int (Int32.ofInt x))) = true := fits_narrow_char _
    rw [h1] at h2
    exact h2
  · rcases (show x = 0 ∨ x = 1 by have := h.1; have := h.2; omega) with rfl | rfl <;> rfl
theorem mw_copy {M : mM} {bc bs : Nat} {pc pc' : Nat} {L : List (Nat × mV)} {S : List mV} {g : mG} {d : mD} {Q : mQ} {a b sp dp n : Int} {idx k : Nat} (hd : decode (mC M) pc = .ok (.invokestatic idx, 3)) (hp : pc + 3 = pc') (hl0 : Cond.methodLink (mOw M) idx arraycopyName ∈ BIG) (hna : Cond.native arraycopyName ∈ BIG) (hst : Cond.static arraycopyName ∈ BIG) (hini : Cond.initialized "java/lang/System" ∈ BIG) (hk : 100 ≤ k ∧ k < 103) (hka : LK a = k) (hkb : LK b = k) (ha : 0 ≤ a ∧ a < g.2.1) (hbb : 0 ≤ b ∧ b < g.2.1) (h1 : 0 ≤ sp ∧ 0 ≤ n ∧ sp + n ≤ LN a) (h2 : 0 ≤ dp ∧ dp + n ≤ LN b) (hfr : 1 ≤ mFr M) (hlo : 100 ≤ mLo M) (hcat : (S.map catV).sum ≤ 8) (k0 : MW M bc bs pc' L S g (cpy d a b sp dp n) Q) : MW M bc bs pc L (vI n :: vI dp :: vR b :: vI sp :: vR a :: S) g d Q := by
  intro p l e s m args below meth c H locs cells slots X φ E ls hC hS hR hE hL hO hl hw hc hs
  obtain ⟨hx, hb, hml, hown, hts, hK, hT, hr, hlk, hnm, htb, hfl⟩ := id hC
  obtain ⟨hP, hD, hTY, hsc⟩ := id hR
  subst hp
  have hcat2 : ((S.map (rv X φ)).map fun v => v.category).sum ≤ 8 := by
    rw [List.map_map, show ((fun v : Value => v.category) ∘ rv X φ) = catV from funext fun v => cat_rv X φ v]
    exact hcat
  have on : iI n := hO.1
  have od : iI dp := hO.2.1
  have os : iI sp := hO.2.2.2.1
  have ne : ∀ z : Int, iI z → 0 ≤ z → ¬ Int32.ofInt z < 0 := fun z hz h0 h => by
    have h9 : z < 0 := (i_lt hz i_0).mp h
    omega
  have tn : ∀ z : Int, iI z → (Int32.ofInt z).toNatClampNeg = z.toNat := fun z hz => by show (Int32.ofInt z).toInt.toNat = _; rw [i_ok hz]
  have hty : (TYS X)[k - 100]? = some (xA X k, if k = 100 then .int else if k = 101 then .char else .boolean) := by
    rcases (show k = 100 ∨ k = 101 ∨ k = 102 by omega) with rfl | rfl | rfl <;> rfl
  have hnw : nativeFrameWords "java/lang/System" "arraycopy" 5 + 11 ≤ 40 := by decide +kernel
  rw [List.map_cons, List.map_cons, List.map_cons, List.map_cons, List.map_cons, rv_R ha.1, rv_R hbb.1]
  refine va_copyi (ty := if k = 100 then .int else if k = 101 then .char else .boolean) hx hb (hml.trans hl.1.symm) hown (hts _ hl0) (hts _ hna) (hts _ hst) (hts _ hini) hK hP hD hS a.toNat b.toNat (k - 100) (k - 100) ((wL_get ha).trans (by rw [wE_i hka hk])) ((wL_get hbb).trans (by rw [wE_i hkb hk])) hty hty (by rcases (show k = 100 ∨ k = 101 ∨ k = 102 by omega) with rfl | rfl | rfl <;> rfl) (ne sp os h1.1) (ne dp od h2.1) (ne n on h1.2.1) (by rw [tn sp os, tn n on]; omega) (by rw [tn dp od, tn n on]; omega) (fun i hi => ?_) hfr (by show _ ≤ mLo M; omega) hd (fun H1 locs1 hP1 hD1 hS1 => ?_)
  · have h9 := hR.gs ha ((((Int32.ofInt sp).toNatClampNeg + i : Nat)) : Int)
    rw [RC_arr hka (by omega)] at h9
    exact fits_ok hk h9
  · rw [tn sp os, tn dp od, tn n on] at hP1 hD1
    have hu : va_cpy (fun k : Nat => Int32.ofInt (d a k)) (fun k : Nat => Int32.ofInt (d b k)) sp.toNat dp.toNat n.toNat = fun k : Nat => Int32.ofInt (cpy d a b sp dp n b k) := by
      funext k
      unfold va_cpy cpy
      by_cases hk : dp.toNat ≤ k ∧ k < dp.toNat + n.toNat
      · have e9 : (((sp.toNat + (k - dp.toNat) : Nat)) : Int) = sp + ((k : Int) - dp) := by omega
        rw [if_pos hk, if_pos ⟨rfl, by omega, by omega⟩]
        show Int32.ofInt (d a (((sp.toNat + (k - dp.toNat) : Nat)) : Int)) = _
        rw [e9]
      · rw [if_neg hk, if_neg (by omega)]
    rw [hu] at hP1 hD1
    have he : (.inl (xA X k, (LN b).toNat, .inl (fun k : Nat => Int32.ofInt (cpy d a b sp dp n b k))) : va_E) = wE X φ g (cpy d a b sp dp n) b := (wE_i hkb hk).symm
    have e1 := wL_set (X := X) (φ := φ) (g := g) (g' := g) (d := d) (d' := cpy d a b sp dp n) (not_fgn hTY) hbb rfl he (fun x hx => ⟨cpy_row hx, rfl⟩)
    rw [e1] at hP1 hD1
    have hT1 : TY g (cpy d a b sp dp n) := by
      obtain ⟨t1, t2, t3, t4, t5, t6, t7, t8⟩ := hTY
      refine ⟨t1, t2, t3, fun x j => ?_, fun x j hx hs => ?_, t6, t7, t8⟩
      · unfold cpy
        split
        · rename_i h
          rw [h.1, RC_arr hkb (by omega), ← RC_arr (j := sp + (j - dp)) hka (by omega)]
          exact t4 a _
        · exact t4 x j
      · rw [cpy_row (by omega)]
        exact t5 x j hx hs
    have hR1 : RP X φ g (cpy d a b sp dp n) H1 := ⟨hP1, hD1, hT1, (cpy_row (Ne.symm (not_scr hTY hbb.2))).trans hsc⟩
    exact k0 p l e s m args below meth c H1 locs1 cells slots X φ E ls hC hS1 hR1 hE hL hO.2.2.2.2.2 hl hw hc hs
