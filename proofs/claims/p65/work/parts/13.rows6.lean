theorem nar_ret {ty : FieldType} {v : Int} (hn : ty = .int ∨ (ty = .boolean ∧ 0 ≤ v ∧ v ≤ 1) ∨ (ty = .char ∧ 0 ≤ v ∧ v ≤ 65535)) : narrow ty (.int (Int32.ofInt v)) = .int (Int32.ofInt v) := by
  rcases hn with rfl | ⟨rfl, h1, h2⟩ | ⟨rfl, h1, h2⟩
  · rfl
  · rcases (show v = 0 ∨ v = 1 by omega) with rfl | rfl <;> rfl
  · have h := nar_c ⟨h1, h2⟩
    rw [vp_nar_char] at h
    show Value.int ((Int32.ofInt v).toUInt32.toUInt16.toUInt32.toInt32) = _
    rw [h]
theorem mw_iret {M : mM} {bc bs : Nat} {pc pc' : Nat} {L : List (Nat × mV)} {S : List mV} {g : mG} {d : mD} {Q : mQ} {v : Int} {ty : FieldType} (hd : decode (mC M) pc = .ok (.ireturn, 1)) (hrt : mRt M = some ty) (hn : ty = .int ∨ (ty = .boolean ∧ 0 ≤ v ∧ v ≤ 1) ∨ (ty = .char ∧ 0 ≤ v ∧ v ≤ 65535)) (q : Q (.inl v) g d) : MW M bc bs pc L [vI v] g d Q := by
  intro p l e s m args below meth c H locs cells slots X φ E ls hC hS hR hE hL hO hl hw hc hs
  obtain ⟨hx, hb, hml, hown, hts, hK, hT, hr, hlk, hnm, htb, hfl⟩ := id hC
  have hg : rtg (mRt M) = 0 := by
    rw [hrt]
    rcases hn with rfl | ⟨rfl, -⟩ | ⟨rfl, -⟩ <;> rfl
  have e1 : rvo (mRt M) X φ v = some (.int (Int32.ofInt v)) := by
    unfold rvo
    rw [hg]
    rfl
  have e2 : okv g.2.1 (rtg (mRt M), v) := by rw [hg]; exact hO.1
  exact vx_ret (W.widen (k := mCe M) (n := mSl M) (by omega) (by omega) (W.zret hx hb (hr.trans hrt) (nar_ret hn) (fun t ht hW => ⟨⟨v, g, d, φ, q, by rw [e1], hE, by rw [ht]; exact hR, e2⟩, vaF_of hS ht⟩) hS.2.2 hd hlk))
theorem mw_vret {M : mM} {bc bs : Nat} {pc pc' : Nat} {L : List (Nat × mV)} {S : List mV} {g : mG} {d : mD} {Q : mQ} (hd : decode (mC M) pc = .ok (.return_, 1)) (hrt : mRt M = none) (q : Q (.inl 0) g d) : MW M bc bs pc L [] g d Q := by
  intro p l e s m args below meth c H locs cells slots X φ E ls hC hS hR hE hL hO hl hw hc hs
  obtain ⟨hx, hb, hml, hown, hts, hK, hT, hr, hlk, hnm, htb, hfl⟩ := id hC
  have e1 : rvo (mRt M) X φ 0 = none := by rw [hrt]; rfl
  have e2 : okv g.2.1 (rtg (mRt M), 0) := by rw [hrt]; exact ⟨by decide, by decide⟩
  exact vx_ret (W.widen (k := mCe M) (n := mSl M) (by omega) (by omega) (W.vret hx hb (hr.trans hrt) (fun t ht hW => ⟨⟨0, g, d, φ, q, by rw [e1], hE, by rw [ht]; exact hR, e2⟩, vaF_of hS ht⟩) hS.2.2 hd hlk))
theorem mw_dret {M : mM} {bc bs : Nat} {pc pc' : Nat} {L : List (Nat × mV)} {S : List mV} {g : mG} {d : mD} {Q : mQ} {v : Int} (hd : decode (mC M) pc = .ok (.dreturn, 1)) (hrt : mRt M = some .double) (q : Q (.inl v) g d) : MW M bc bs pc L [vD v] g d Q := by
  intro p l e s m args below meth c H locs cells slots X φ E ls hC hS hR hE hL hO hl hw hc hs
  obtain ⟨hx, hb, hml, hown, hts, hK, hT, hr, hlk, hnm, htb, hfl⟩ := id hC
  have e1 : rvo (mRt M) X φ v = some (.double (UInt64.ofNat v.toNat)) := by rw [hrt]; rfl
  have e2 : okv g.2.1 (rtg (mRt M), v) := by rw [hrt]; exact hO.1
  exact vx_ret (W.widen (k := mCe M) (n := mSl M) (by omega) (by omega) (W.dret hx hb (hr.trans hrt) (fun t ht hW => ⟨⟨v, g, d, φ, q, by rw [e1], hE, by rw [ht]; exact hR, e2⟩, vaF_of hS ht⟩) hS.2.2 hd hlk))
theorem mw_aret {M : mM} {bc bs : Nat} {pc pc' : Nat} {L : List (Nat × mV)} {S : List mV} {g : mG} {d : mD} {Q : mQ} {v : Int} {n : String} {tg : Nat} (hd : decode (mC M) pc = .ok (.areturn, 1)) (hrt : mRt M = some (.object n)) (htg : rtg (some (.object n)) = tg) (h6 : tg = 1 ∨ tg = 6) (q : Q (.inl v) g d) : MW M bc bs pc L [(tg, v)] g d Q := by
  intro p l e s m args below meth c H locs cells slots X φ E ls hC hS hR hE hL hO hl hw hc hs
  obtain ⟨hx, hb, hml, hown, hts, hK, hT, hr, hlk, hnm, htb, hfl⟩ := id hC
  subst htg
  have e1 : rvo (mRt M) X φ v = some (rv X φ (rtg (some (.object n)), v)) := by
    rw [hrt]
    unfold rvo
    rw [if_neg (by omega)]
  have e2 : okv g.2.1 (rtg (mRt M), v) := by rw [hrt]; exact hO.1
  have hv : rv X φ (rtg (some (.object n)), v) = .null ∨ ∃ a : Nat, rv X φ (rtg (some (.object n)), v) = .ref a := rv_ref (by show rtg (some (.object n)) = 1 ∨ rtg (some (.object n)) = 5 ∨ rtg (some (.object n)) = 6 ∨ rtg (some (.object n)) = 7 ∨ rtg (some (.object n)) = 8; omega)
  exact vx_ret (W.widen (k := mCe M) (n := mSl M) (by omega) (by omega) (W.aret hx hb (hr.trans hrt) (Or.inl ⟨_, rfl⟩) hv (fun t ht hW => ⟨⟨v, g, d, φ, q, by rw [e1], hE, by rw [ht]; exact hR, e2⟩, vaF_of hS ht⟩) hS.2.2 hd hlk))
def NMS : List String := ["java/lang/RuntimeException", "java/lang/Exception"]
theorem mw_throw {M : mM} {bc bs : Nat} {pc pc' : Nat} {L : List (Nat × mV)} {S : List mV} {g : mG} {d : mD} {Q : mQ} {k ik is ic i : Nat} {text : String} (d0 : decode (mC M) pc = .ok (.new ik, 3)) (d3 : decode (mC M) (pc + 3) = .ok (.dup, 1)) (d4 : decode (mC M) (pc + 4) = .ok (.ldc is, 2)) (d6 : decode (mC M) (pc + 6) = .ok (.invokespecial ic, 3)) (d9 : decode (mC M) (pc + 9) = .ok (.athrow, 1)) (hfc : Bundle.fit (XN k) = true) (hfn : ∀ n ∈ NMS, Bundle.fit n = true) (hk : Cond.classLink (mOw M) ik (XN k) ∈ BIG) (hini : Cond.initialized (XN k) ∈ BIG) (hst : STl[i]? = some (mOw M, is, text)) (hat : ∀ w ∈ vx_atS (mOw M) ic (XN k) NMS, w ∈ BIG ∨ w ∈ NW) (hgood : ∀ w ∈ Cond.classLink (mOw M) ik (XN k) :: Cond.initialized (XN k) :: vx_atS (mOw M) ic (XN k) NMS, vx_ot w = true) (hH : mH M = []) (hfr : 5 < mFr M) (hlo : 100 ≤ mLo M) (hb1 : 1 ≤ bc) (hb6 : 6 ≤ bs) (hcat : (S.map catV).sum ≤ 8) (q : Q (.inr k) g d) : MW M bc bs pc L S g d Q := by
  intro p l e s m args below meth c H locs cells slots X φ E ls hC hS hR hE hL hO hl hw hc hs
  obtain ⟨hx, hb, hml, hown, hts, hK, hT, hr, hlk, hnm, htb, hfl⟩ := id hC
  have hcat2 : ((S.map (rv X φ)).map fun v => v.category).sum ≤ 8 := by
    rw [List.map_map, show ((fun v : Value => v.category) ∘ rv X φ) = catV from funext fun v => cat_rv X φ v]
    exact hcat
  exact vx_throwS (A := xA0 X) (names := NMS) hx hb hfl hown hfc hfn (hts _ hk) (hts _ hini) (hT.2.2.2.2.1 i _ hst) (fun w hw => (hat w hw).elim (hts _) (fun h => hT.nw h)) hgood hT.1 hT.2.1 hS (hl.1.trans hml.symm) d0 d3 d4 d6 d9 (fun x hx9 => by rw [htb, hH] at hx9; cases hx9) hfr (by show _ ≤ mLo M; have : NMS.length = 2 := rfl; omega) (by show _ ≤ mCe M; omega) (by show _ ≤ mSl M; omega) hlk
    (fun t hA hz hq => ⟨⟨k, g, d, φ, q, rfl, hE, hR.keep hq⟩, Nat.le_trans hS.1 hz, fun z h1 h2 => by rw [hq z (Nat.lt_of_lt_of_le h1 hS.1)]; exact hS.2.1 z h1 h2⟩) hS.2.2 (by omega) (by omega)
theorem mw_throwW {M : mM} {bc bs : Nat} {pc pc' : Nat} {L : List (Nat × mV)} {S : List mV} {g : mG} {d : mD} {Q : mQ} {k ik is ic i : Nat} {text : String} (d0 : decode (mC M) pc = .ok (.new ik, 3)) (d3 : decode (mC M) (pc + 3) = .ok (.dup, 1)) (d4 : decode (mC M) (pc + 4) = .ok (.ldc_w is, 3)) (d6 : decode (mC M) (pc + 7) = .ok (.invokespecial ic, 3)) (d9 : decode (mC M) (pc + 10) = .ok (.athrow, 1)) (hfc : Bundle.fit (XN k) = true) (hfn : ∀ n ∈ NMS, Bundle.fit n = true) (hk : Cond.classLink (mOw M) ik (XN k) ∈ BIG) (hini : Cond.initialized (XN k) ∈ BIG) (hst : STl[i]? = some (mOw M, is, text)) (hat : ∀ w ∈ vx_atS (mOw M) ic (XN k) NMS, w ∈ BIG ∨ w ∈ NW) (hgood : ∀ w ∈ Cond.classLink (mOw M) ik (XN k) :: Cond.initialized (XN k) :: vx_atS (mOw M) ic (XN k) NMS, vx_ot w = true) (hH : mH M = []) (hfr : 5 < mFr M) (hlo : 100 ≤ mLo M) (hb1 : 1 ≤ bc) (hb6 : 6 ≤ bs) (hcat : (S.map catV).sum ≤ 8) (q : Q (.inr k) g d) : MW M bc bs pc L S g d Q := by
  intro p l e s m args below meth c H locs cells slots X φ E ls hC hS hR hE hL hO hl hw hc hs
  obtain ⟨hx, hb, hml, hown, hts, hK, hT, hr, hlk, hnm, htb, hfl⟩ := id hC
  have hcat2 : ((S.map (rv X φ)).map fun v => v.category).sum ≤ 8 := by
    rw [List.map_map, show ((fun v : Value => v.category) ∘ rv X φ) = catV from funext fun v => cat_rv X φ v]
    exact hcat
  exact vx_throwSW (A := xA0 X) (names := NMS) hx hb hfl hown hfc hfn (hts _ hk) (hts _ hini) (hT.2.2.2.2.1 i _ hst) (fun w hw => (hat w hw).elim (hts _) (fun h => hT.nw h)) hgood hT.1 hT.2.1 hS (hl.1.trans hml.symm) d0 d3 d4 d6 d9 (fun x hx9 => by rw [htb, hH] at hx9; cases hx9) hfr (by show _ ≤ mLo M; have : NMS.length = 2 := rfl; omega) (by show _ ≤ mCe M; omega) (by show _ ≤ mSl M; omega) hlk
    (fun t hA hz hq => ⟨⟨k, g, d, φ, q, rfl, hE, hR.keep hq⟩, Nat.le_trans hS.1 hz, fun z h1 h2 => by rw [hq z (Nat.lt_of_lt_of_le h1 hS.1)]; exact hS.2.1 z h1 h2⟩) hS.2.2 (by omega) (by omega)
