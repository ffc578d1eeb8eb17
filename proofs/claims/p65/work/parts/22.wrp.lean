-- int arithmetic with the wrap-around
def wI (a : Int) : Int := (Int32.ofInt a).toInt
theorem iI_32 (z : Int32) : iI z.toInt := ⟨Int32.le_toInt z, by have := Int32.toInt_lt z; omega⟩
theorem iI_wI (a : Int) : iI (wI a) := iI_32 _
theorem of_wI (a : Int) : Int32.ofInt (wI a) = Int32.ofInt a := Int32.ofInt_toInt _
theorem mw_iaddW {M : mM} {bc bs : Nat} {pc pc' : Nat} {L : List (Nat × mV)} {S : List mV} {g : mG} {d : mD} {Q : mQ} {a b : Int} (hd : decode (mC M) pc = .ok (.iadd, 1)) (hp : pc + 1 = pc') (k0 : MW M bc bs pc' L (vI (wI (a + b)) :: S) g d Q) : MW M bc bs pc L (vI b :: vI a :: S) g d Q := by
  intro p l e s m args below meth c H locs cells slots X φ E ls hC hS hR hE hL hO hl hw hc hs
  obtain ⟨hx, hb, hml, hown, hts, hK, hT, hr, hlk, hnm, htb, hfl⟩ := id hC
  subst hp
  have h0 := k0 p l e s m args below meth c H locs cells slots X φ E ls hC hS hR hE hL ⟨iI_wI _, hO.2.2⟩ hl hw hc hs
  refine lv_iadd hx hb hd ?_
  rw [← Int32.ofInt_add, ← of_wI]
  exact h0
theorem mw_imulW {M : mM} {bc bs : Nat} {pc pc' : Nat} {L : List (Nat × mV)} {S : List mV} {g : mG} {d : mD} {Q : mQ} {a b : Int} (hd : decode (mC M) pc = .ok (.imul, 1)) (hp : pc + 1 = pc') (k0 : MW M bc bs pc' L (vI (wI (a * b)) :: S) g d Q) : MW M bc bs pc L (vI b :: vI a :: S) g d Q := by
  intro p l e s m args below meth c H locs cells slots X φ E ls hC hS hR hE hL hO hl hw hc hs
  obtain ⟨hx, hb, hml, hown, hts, hK, hT, hr, hlk, hnm, htb, hfl⟩ := id hC
  subst hp
  have h0 := k0 p l e s m args below meth c H locs cells slots X φ E ls hC hS hR hE hL ⟨iI_wI _, hO.2.2⟩ hl hw hc hs
  refine lv_imul hx hb hd ?_
  rw [← Int32.ofInt_mul, ← of_wI]
  exact h0
def xrI (a b : Int) : Int := (Int32.ofInt a ^^^ Int32.ofInt b).toInt
theorem mw_ixor {M : mM} {bc bs : Nat} {pc pc' : Nat} {L : List (Nat × mV)} {S : List mV} {g : mG} {d : mD} {Q : mQ} {a b : Int} (hd : decode (mC M) pc = .ok (.ixor, 1)) (hp : pc + 1 = pc') (k0 : MW M bc bs pc' L (vI (xrI a b) :: S) g d Q) : MW M bc bs pc L (vI b :: vI a :: S) g d Q := by
  intro p l e s m args below meth c H locs cells slots X φ E ls hC hS hR hE hL hO hl hw hc hs
  obtain ⟨hx, hb, hml, hown, hts, hK, hT, hr, hlk, hnm, htb, hfl⟩ := id hC
  subst hp
  have h0 := k0 p l e s m args below meth c H locs cells slots X φ E ls hC hS hR hE hL ⟨iI_32 _, hO.2.2⟩ hl hw hc hs
  refine lv_ixor hx hb hd ?_
  have e1 : Int32.ofInt (xrI a b) = Int32.ofInt a ^^^ Int32.ofInt b := Int32.ofInt_toInt _
  rw [← e1]
  exact h0
def usI (a b : Int) : Int := ((Int32.ofInt a).toUInt32 >>> ((Int32.ofInt b).toUInt32 &&& Int32.toUInt32 31)).toInt32.toInt
theorem mw_iushr {M : mM} {bc bs : Nat} {pc pc' : Nat} {L : List (Nat × mV)} {S : List mV} {g : mG} {d : mD} {Q : mQ} {a b : Int} (hd : decode (mC M) pc = .ok (.iushr, 1)) (hp : pc + 1 = pc') (k0 : MW M bc bs pc' L (vI (usI a b) :: S) g d Q) : MW M bc bs pc L (vI b :: vI a :: S) g d Q := by
  intro p l e s m args below meth c H locs cells slots X φ E ls hC hS hR hE hL hO hl hw hc hs
  obtain ⟨hx, hb, hml, hown, hts, hK, hT, hr, hlk, hnm, htb, hfl⟩ := id hC
  subst hp
  have h0 := k0 p l e s m args below meth c H locs cells slots X φ E ls hC hS hR hE hL ⟨iI_32 _, hO.2.2⟩ hl hw hc hs
  refine lv_iushr (v := Int32.ofInt (usI a b)) hx hb hd ?_ h0
  exact (Int32.ofInt_toInt _).symm
theorem us8 (a : Int) : 0 ≤ usI a 8 ∧ usI a 8 < 16777216 := by
  have e1 : (Int32.ofInt 8).toUInt32 &&& Int32.toUInt32 31 = 8 := by decide
  unfold usI
  rw [e1]
  generalize (Int32.ofInt a).toUInt32 = u
  have h1 : (u >>> 8).toNat < 16777216 := by
    rw [UInt32.toNat_shiftRight]
    have h2 : u.toNat < 4294967296 := u.toNat_lt
    show u.toNat >>> 8 < 16777216
    rw [Nat.shiftRight_eq_div_pow]
    omega
  have h3 : (u >>> 8).toInt32.toInt = ((u >>> 8).toNat : Int) := by
    show (u >>> 8).toBitVec.toInt = _
    rw [BitVec.toInt_eq_toNat_cond, if_pos (by show 2 * (u >>> 8).toNat < 4294967296; omega)]
    rfl
  rw [h3]
  omega
-- the law's own array
def xSet (X : hX) (c : Int → Int) : hX := (xB X, xD X, xA X, xK X, xV X, xS X, c)
theorem ST_set {X : hX} {c : Int → Int} {s : State} {H : Heap} (h1 : c (-1) = xC X (-1)) (h2 : ∀ j : Nat, c (j : Int) = xC X (j : Int)) (h : ST X s H) : ST (xSet X c) s H := by
  obtain ⟨k1, k2, k3, k4, k5, k6, k7⟩ := h
  refine ⟨k1, k2, k3, k4, k5, ?_, k7⟩
  show va_X (xS X) (c (-1)).toNat (fun j => Int32.ofInt (c (j : Int))) s H
  rw [h1, show (fun j : Nat => Int32.ofInt (c (j : Int))) = fun j : Nat => Int32.ofInt (xC X (j : Int)) from funext fun j => by rw [h2 j]]
  exact k6
/-- the script's row put as it was -/
def upS (d : mD) (s : Int → Int) : mD := fun b j => if b = SCR then s j else d b j
theorem upS_ne {d : mD} {s : Int → Int} {b : Int} (h : b ≠ SCR) : upS d s b = d b := funext fun j => if_neg h
theorem upS_S {d : mD} {s : Int → Int} : upS d s SCR = s := funext fun j => if_pos rfl
theorem upS_2 {d : mD} {s s' : Int → Int} : upS (upS d s) s' = upS d s' := by
  funext b j
  unfold upS
  by_cases h : b = SCR
  · rw [if_pos h, if_pos h]
  · rw [if_neg h, if_neg h, if_neg h]
def QF (s : Int → Int) (Q : mQ) : mQ := fun o g d => Q o g (upS d s)
theorem TY_upS {g : mG} {d : mD} {s : Int → Int} (hT : TY g d) (hs : ∀ j, okR (RC SCR j) (s j)) : TY g (upS d s) := by
  obtain ⟨h1, h2, h3, h4, h5, h6, h7, h8⟩ := hT
  refine ⟨h1, h2, h3, fun a j => ?_, fun a j ha hs' => ?_, h6, h7, h8⟩
  · by_cases e : a = SCR
    · rw [e, upS_S]; exact hs j
    · rw [upS_ne e]; exact h4 a j
  · rw [upS_ne hs'.1]; exact h5 a j ha hs'
theorem wM_set2 {X : hX} {c : Int → Int} {φ : Nat → Nat} {g : mG} {d d' : mD} (hg : g.2.1 ≤ 479) (hd : ∀ b, b ≠ SCR → b ≠ FGN → d' b = d b) : wM (xSet X c) φ g d' = wM X φ g d := by
  unfold wM
  apply List.map_congr_left
  intro k hk
  have hk1 : k < g.2.1.toNat := List.mem_range.mp hk
  have e1 : d' (k : Int) = d (k : Int) := hd _ (by show (k : Int) ≠ 100000; omega) (by show (k : Int) ≠ 100001; omega)
  show (φ k, wE (xSet X c) φ g d' (k : Int)) = (φ k, wE X φ g d (k : Int))
  have e2 : wE (xSet X c) φ g d' (k : Int) = wE X φ g d' (k : Int) := rfl
  rw [e2, wE_same e1 rfl]
/-- back from a state with the array to the one without -/
theorem RP_back {X : hX} {c : Int → Int} {φ : Nat → Nat} {g : mG} {d : mD} {H : Heap} (h : RP (xSet X c) φ g d H) (h3 : ¬ xC X (-3) = 31) (hs : ∀ j, okR (RC SCR j) (xC X j)) : RP X φ g (upS d (xC X)) H := by
  obtain ⟨hP, hD, hT, hsc⟩ := h
  have e1 : wM (xSet X c) φ g d = wM X φ g (upS d (xC X)) := wM_set2 hT.2.2.1 (fun b hb _ => (upS_ne hb).symm)
  have e2 : wL X φ g (upS d (xC X)) = wM X φ g (upS d (xC X)) := by
    unfold wL fgL
    rw [if_neg h3, List.append_nil]
  have e3 : wL (xSet X c) φ g d = wM X φ g (upS d (xC X)) ++ fgL (xSet X c) d := by
    unfold wL
    rw [e1]
  rw [e3] at hP hD
  have hP2 : va_P (xD X) mCls (wM X φ g (upS d (xC X)) ++ fgL (xSet X c) d) H := hP
  have hD2 : va_D (fun q => xB X ≤ q) (wM X φ g (upS d (xC X)) ++ fgL (xSet X c) d) := hD
  refine ⟨?_, ?_, TY_upS hT hs, upS_S⟩
  · rw [e2]
    exact vaP_iff.mpr fun q hq => vaP_iff.mp hP2 q (List.mem_append_left _ hq)
  · rw [e2]
    rw [vaD_iff] at hD2 ⊢
    rw [List.map_append] at hD2
    exact ⟨(List.nodup_append.mp hD2.1).1, fun q hq => hD2.2 q (List.mem_append_left _ hq)⟩
/-- a run with the array is, looked at without it, a run -/
theorem mw_X {M : mM} {X : hX} {c : Int → Int} {E : hE} {Q : mQ} {below : List Frame} {args : Array Value} {s T : State} (h3 : ¬ xC X (-3) = 31) (hs : ∀ j, okR (RC SCR j) (xC X j)) (h : vx_MQ below (QcO (xSet X c) E M (QF (xC X) Q)) (XcO (xSet X c) E (QF (xC X) Q)) args s (mCe M) (mSl M) (xA0 (xSet X c)) T) : vx_MQ below (QcO X E M Q) (XcO X E Q) args s (mCe M) (mSl M) (xA0 X) T := by
  obtain ⟨o, h1, h2, h4⟩ := h
  refine ⟨o, h1, h2, ?_⟩
  rcases h4 with ⟨⟨⟨v, g', d', φ', q, q2, q3, q4, q5⟩, qF⟩, qL⟩ | ⟨z, hz, E', ce, L, ⟨⟨k, g', d', φ', q, q2, q3, q4⟩, qF⟩, qr⟩
  · exact Or.inl ⟨⟨⟨v, g', _, φ', q, q2, q3, RP_back q4 h3 hs, q5⟩, qF⟩, qL⟩
  · exact Or.inr ⟨z, hz, E', ce, L, ⟨⟨k, g', _, φ', q, q2, q3, RP_back q4 h3 hs⟩, qF⟩, qr⟩
/-- the script's row where the array is made at q -/
def nF (s : Int → Int) (q : Int) : Int → Int := fun j => if j = -3 then 31 else if j = -2 then q else s j
def upF (d : mD) : mD := fun b j => if b = FGN then 0 else d b j
theorem upF_ne {d : mD} {b : Int} (h : b ≠ FGN) : upF d b = d b := funext fun j => if_neg h
theorem upF_F {d : mD} : upF d FGN = fun _ => 0 := funext fun j => if_pos rfl
theorem TY_upF {g : mG} {d : mD} (hT : TY g d) : TY g (upF d) := by
  obtain ⟨h1, h2, h3, h4, h5, h6, h7, h8⟩ := hT
  refine ⟨h1, h2, h3, fun a j => ?_, fun a j ha hs' => ?_, h6, h7, h8⟩
  · by_cases e : a = FGN
    · rw [e, upF_F]
      have : RC FGN j = 0 := by
        unfold RC
        rw [if_neg (fun q => absurd q.1 (by decide)), if_neg (show ¬ LK FGN < 100 by decide +kernel)]
        rfl
      rw [this]
      exact i_0
    · rw [upF_ne e]; exact h4 a j
  · rw [upF_ne hs'.2]; exact h5 a j ha hs'
theorem LK_FGN : LK FGN = 200 := by decide +kernel
theorem mw_newF {M : mM} {bc bs : Nat} {pc pc' : Nat} {L : List (Nat × mV)} {S : List mV} {g : mG} {d : mD} {Q : mQ} (hd : decode (mC M) pc = .ok (.newarray .int, 2)) (hp : pc + 2 = pc') (harr : Cond.arrayClass .int ∈ BIG) (h3 : d SCR (-3) = 0) (hb1 : 1 ≤ bc) (hb2 : 31 ≤ bs) (k0 : ∀ q : Int, 0 ≤ q → MW M (bc - 1) (bs - 31) pc' L ((7, q) :: S) g (upF (upS d (nF (d SCR) q))) (QF (d SCR) Q)) : MW M bc bs pc L (vI 31 :: S) g d Q := by
  intro p l e s m args below meth c H locs cells slots X φ E ls hC hS hR hE hL hO hl hw hc hs
  obtain ⟨hx, hb, hml, hown, hts, hK, hT, hr, hlk, hnm, htb, hfl⟩ := id hC
  obtain ⟨hP, hD, hTY, hsc⟩ := id hR
  subst hp
  have x3 : ¬ xC X (-3) = 31 := by rw [← hsc, h3]; decide
  have xok : ∀ j, okR (RC SCR j) (xC X j) := fun j => by rw [← hsc]; exact hTY.2.2.2.1 SCR j
  have hin : ¬ Int32.ofInt 31 < 0 := by decide
  refine va_newa (atype := .int) (ty := .int) (N' := 31) (a0 := (31, .inl (fun _ => 0))) hx hb (hts _ harr) rfl hK hP hD hS (A0_new hT) (fun cA => rfl) hin rfl (by decide) (by show _ ≤ mCe M; omega) (by show _ ≤ mSl M; omega) hd (fun q cA H1 hK1 hP1 hD1 hS1 => ?_)
  have hcA : cA = xA X 100 := by
    have g1 := kA_of hK (t := 0) (cA := xA X 100) (ty := .int) rfl (fun C h => by cases h)
    have g2 := (hK1.2 (TYS X).length (cA, .int) (by rw [List.getElem?_append_right (Nat.le_refl _), Nat.sub_self]; rfl)).2
    exact Option.some.inj (g2.symm.trans g1)
  have n1 : nF (xC X) (q : Int) (-1) = xC X (-1) := by
    unfold nF
    rw [if_neg (by decide), if_neg (by decide)]
  have n2 : ∀ j : Nat, nF (xC X) (q : Int) (j : Int) = xC X (j : Int) := fun j => by
    unfold nF
    rw [if_neg (by omega), if_neg (by omega)]
  have hT2 : ST (xSet X (nF (xC X) (q : Int))) s s.heap := ST_set n1 n2 hT
  have hC2 : HC M (xSet X (nF (xC X) (q : Int))) p l s m args meth c := ⟨hx, hb, hml, hown, hts, hK, hT2, hr, hlk, hnm, htb, hfl⟩
  have eL : wL (xSet X (nF (xC X) (q : Int))) φ g (upF (upS d (nF (xC X) (q : Int)))) = wL X φ g d ++ [(q, .inl (cA, 31, .inl (fun _ => 0)))] := by
    have e1 : wM (xSet X (nF (xC X) (q : Int))) φ g (upF (upS d (nF (xC X) (q : Int)))) = wM X φ g d := wM_set2 hTY.2.2.1 (fun b hb hb2 => (upF_ne hb2).trans (upS_ne hb))
    have e2 : fgL X d = [] := if_neg x3
    have e3 : fgL (xSet X (nF (xC X) (q : Int))) (upF (upS d (nF (xC X) (q : Int)))) = [(q, .inl (cA, 31, .inl (fun _ => 0)))] := by
      unfold fgL
      have a3 : xC (xSet X (nF (xC X) (q : Int))) (-3) = 31 := by
        show nF (xC X) (q : Int) (-3) = 31
        unfold nF
        exact if_pos rfl
      have a2 : xC (xSet X (nF (xC X) (q : Int))) (-2) = (q : Int) := rfl
      rw [if_pos a3, a2, upF_F, hcA]
      rfl
    unfold wL at e1 ⊢
    rw [e1, e2, e3, List.append_nil]
  have hR2 : RP (xSet X (nF (xC X) (q : Int))) φ g (upF (upS d (nF (xC X) (q : Int)))) H1 := by
    refine ⟨?_, ?_, TY_upF (TY_upS hTY (fun j => ?_)), (upF_ne (by decide)).trans upS_S⟩
    · rw [eL]; exact hP1
    · rw [eL]; exact hD1
    · unfold nF
      by_cases j3 : j = -3
      · rw [if_pos j3, j3, RC_arr (j := -3) LK_SCR (by decide)]
        exact ⟨by decide, by decide⟩
      · rw [if_neg j3]
        by_cases j2 : j = -2
        · rw [if_pos j2, j2, show RC SCR (-2) = 9 by decide +kernel]
          exact trivial
        · rw [if_neg j2]
          exact xok j
  have k1 := k0 (q : Int) (by omega)
  rw [hsc] at k1
  have h1 := k1 p l e s m args below meth c H1 locs (cells + 1) (slots + 31) (xSet X (nF (xC X) (q : Int))) φ E ls hC2 hS1 hR2 hE hL ⟨trivial, hO.2⟩ hl hw (by omega) (by omega)
  have e9 : ((7, (q : Int)) :: S).map (rv (xSet X (nF (xC X) (q : Int))) φ) = .ref q :: S.map (rv X φ) := by
    rw [List.map_cons]
    have e8 : rv (xSet X (nF (xC X) (q : Int))) φ (7, (q : Int)) = .ref q := (if_neg (by omega) : (if (q : Int) < 0 then Value.null else Value.ref (q : Int).toNat) = Value.ref (q : Int).toNat)
    rw [e8]
    rfl
  rw [e9] at h1
  intro T hT9 X9
  obtain ⟨t2, a1, b1⟩ := h1 T hT9 X9
  exact ⟨t2, a1, mw_X x3 xok b1⟩
theorem fgL_get {X : hX} {φ : Nat → Nat} {g : mG} {d : mD} (h3 : xC X (-3) = 31) : (wL X φ g d)[(wM X φ g d).length]? = some ((xC X (-2)).toNat, .inl (xA X 100, 31, .inl (fun k => Int32.ofInt (d FGN k)))) := by
  unfold wL fgL
  rw [if_pos h3, List.getElem?_append_right (Nat.le_refl _), Nat.sub_self]
  rfl
theorem ok_fgn {g : mG} {d : mD} (hT : TY g d) (i : Int) : iI (d FGN i) := by
  have h := hT.2.2.2.1 FGN i
  have e : RC FGN i = 0 := by
    unfold RC
    rw [if_neg (fun q => absurd q.1 (by decide)), if_neg (show ¬ LK FGN < 100 by decide +kernel), LK_FGN]
    rfl
  rw [e] at h
  exact h
theorem mw_ialdF {M : mM} {bc bs : Nat} {pc pc' : Nat} {L : List (Nat × mV)} {S : List mV} {g : mG} {d : mD} {Q : mQ} {i q : Int} (hd : decode (mC M) pc = .ok (.iaload, 1)) (hp : pc + 1 = pc') (h3 : d SCR (-3) = 31 ∧ d SCR (-2) = q ∧ 0 ≤ q) (hi : 0 ≤ i ∧ i < 31) (k0 : MW M bc bs pc' L (vI (d FGN i) :: S) g d Q) : MW M bc bs pc L (vI i :: (7, q) :: S) g d Q := by
  intro p l e s m args below meth c H locs cells slots X φ E ls hC hS hR hE hL hO hl hw hc hs
  obtain ⟨hx, hb, hml, hown, hts, hK, hT, hr, hlk, hnm, htb, hfl⟩ := id hC
  obtain ⟨hP, hD, hTY, hsc⟩ := id hR
  subst hp
  have x3 : xC X (-3) = 31 := by rw [← hsc]; exact h3.1
  have x2 : xC X (-2) = q := by rw [← hsc]; exact h3.2.1
  obtain ⟨hin, hix⟩ := i_idx (n := 31) hi hO.1
  have h1 := k0 p l e s m args below meth c H locs cells slots X φ E ls hC hS hR hE hL ⟨ok_fgn hTY i, hO.2.2⟩ hl hw hc hs
  have e8 : rv X φ (7, q) = .ref (xC X (-2)).toNat := by
    rw [x2]
    exact (if_neg (by omega) : (if q < 0 then Value.null else Value.ref q.toNat) = Value.ref q.toNat)
  rw [List.map_cons, List.map_cons, e8]
  refine va_iald hx hb hK hP (wM X φ g d).length 0 (fgL_get x3) rfl hin hd ?_
  rw [hix, n_i hi.1]
  exact h1
theorem TY_fgn {g : mG} {d : mD} {i v : Int} (hT : TY g d) (hv : iI v) : TY g (ud d FGN i v) := by
  obtain ⟨h1, h2, h3, h4, h5, h6, h7, h8⟩ := hT
  refine ⟨h1, h2, h3, fun a j => ?_, fun a j ha hs' => ?_, h6, h7, h8⟩
  · by_cases e : a = FGN ∧ j = i
    · have e2 : RC FGN i = 0 := by
        unfold RC
        rw [if_neg (fun q => absurd q.1 (by decide)), if_neg (show ¬ LK FGN < 100 by decide +kernel), LK_FGN]
        rfl
      rw [e.1, e.2, ud_same, e2]
      exact hv
    · rw [ud_ne e]; exact h4 a j
  · rw [ud_ne (fun q => hs'.2 q.1)]; exact h5 a j ha hs'
theorem mw_iastF {M : mM} {bc bs : Nat} {pc pc' : Nat} {L : List (Nat × mV)} {S : List mV} {g : mG} {d : mD} {Q : mQ} {i q v : Int} (hd : decode (mC M) pc = .ok (.iastore, 1)) (hp : pc + 1 = pc') (h3 : d SCR (-3) = 31 ∧ d SCR (-2) = q ∧ 0 ≤ q) (hi : 0 ≤ i ∧ i < 31) (k0 : MW M bc bs pc' L S g (ud d FGN i v) Q) : MW M bc bs pc L (vI v :: vI i :: (7, q) :: S) g d Q := by
  intro p l e s m args below meth c H locs cells slots X φ E ls hC hS hR hE hL hO hl hw hc hs
  obtain ⟨hx, hb, hml, hown, hts, hK, hT, hr, hlk, hnm, htb, hfl⟩ := id hC
  obtain ⟨hP, hD, hTY, hsc⟩ := id hR
  subst hp
  have x3 : xC X (-3) = 31 := by rw [← hsc]; exact h3.1
  have x2 : xC X (-2) = q := by rw [← hsc]; exact h3.2.1
  obtain ⟨hin, hix⟩ := i_idx (n := 31) hi hO.2.1
  have e8 : rv X φ (7, q) = .ref (xC X (-2)).toNat := by
    rw [x2]
    exact (if_neg (by omega) : (if q < 0 then Value.null else Value.ref q.toNat) = Value.ref q.toNat)
  rw [List.map_cons, List.map_cons, List.map_cons, e8]
  refine va_iast hx hb hK hP hD hS (wM X φ g d).length 0 (fgL_get x3) rfl hin hd (fun H1 locs1 hP1 hD1 hS1 => ?_)
  rw [hix] at hP1 hD1
  rw [upd_ud hi.1] at hP1 hD1
  have eM : wM X φ g (ud d FGN i v) = wM X φ g d := wM_set2 (c := xC X) (X := X) hTY.2.2.1 (fun b _ hb2 => ud_row hb2)
  have eL : (wL X φ g d).set (wM X φ g d).length ((xC X (-2)).toNat, .inl (xA X 100, 31, .inl (fun k : Nat => Int32.ofInt (ud d FGN i v FGN (k : Int))))) = wL X φ g (ud d FGN i v) := by
    unfold wL
    rw [eM]
    unfold fgL
    rw [if_pos x3, if_pos x3, List.set_append_right _ _ (Nat.le_refl _), Nat.sub_self]
    rfl
  rw [eL] at hP1 hD1
  have hR1 : RP X φ g (ud d FGN i v) H1 := ⟨hP1, hD1, TY_fgn hTY hO.1, (ud_row (by decide)).trans hsc⟩
  exact k0 p l e s m args below meth c H1 locs1 cells slots X φ E ls hC hS1 hR1 hE hL hO.2.2.2 hl hw hc hs
