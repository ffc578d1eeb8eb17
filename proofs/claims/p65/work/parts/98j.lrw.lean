-- calls of a method with handlers
def CMX (M' : mM) (n : Nat) : Prop := mHd M' ∈ BIG ∧ Cond.initialized (mY M').cls ∈ BIG ∧ ((mY M').cls ≠ "java/lang/invoke/MethodHandle" ∧ (mY M').cls ≠ "java/lang/invoke/VarHandle") ∧ (parseMethodDescriptor (mY M').desc).map (fun d => d.parameters.length) = some n ∧ mHd M' = .codeWith (mY M') (mC M') (mN M') (mRt M') (mH M')
theorem mw_callSX {M M' : mM} {bc bs : Nat} {pc pc' : Nat} {L : List (Nat × mV)} {S S' A : List mV} {g : mG} {d : mD} {Q : mQ} {idx n : Nat} (hd : decode (mC M) pc = .ok (.invokestatic idx, 3)) (hp : pc + 3 = pc') (hl0 : Cond.methodLink (mOw M) idx (mY M') ∈ BIG) (hm : CMX M' n) (hv : Cond.static (mY M') ∈ BIG) (hr0 : CR M M' bc bs) (hn : A.length = n) (hS' : S' = A.reverse ++ S) (hcat : (S.map catV).sum ≤ 8)
    (k0 : MM M' A g d (cQ M M' bc bs pc' L S Q pc)) : MW M bc bs pc L S' g d Q := by
  intro p l e s m args below meth c H locs cells slots X φ E ls hC hS hR hE hL hO hl hw hc hs
  obtain ⟨hx, hb, hml, hown, hts, hK, hT, hr, hlk, hnm, htb, hfl⟩ := id hC
  subst hp hS'
  have hO1 : oks g.2.1 S ∧ oks g.2.1 A := by
    have h1 := oks_all hO
    exact ⟨oks_of fun v hv => h1 v (List.mem_append_right _ hv), oks_of fun v hv => h1 v (List.mem_append_left _ (List.mem_reverse.mpr hv))⟩
  have hM := k0 l X φ hfl
  have hcat2 : ((S.map (rv X φ)).map fun v => v.category).sum ≤ 8 := by
    rw [List.map_map, show ((fun v : Value => v.category) ∘ rv X φ) = catV from funext fun v => cat_rv X φ v]
    exact hcat
  have hst : (A.reverse ++ S).map (rv X φ) = (A.map (rv X φ)).reverse ++ S.map (rv X φ) := by
    rw [List.map_append, List.map_reverse]
  have hpre : PreS s H (va_Pc (A.map (rv X φ)) (PB M' X φ A g d)) (A.map (rv X φ)) :=
    ⟨PB_blind, fun U hU hW => ⟨rfl, PB_at hK hT hS hR (Int.le_trans hr0.2.2.2.2 hw) hO1.2 hU hW⟩⟩
  refine w_back hC hS hR hE hL hO1.1 hl hw hc hs hr0.2.2.1 hr0.2.2.2.1 (a := (A.map (rv X φ)).toArray) (Q' := cQ M M' bc bs (pc + 3) L S Q pc) ?_ (fun v g' d' h => h) (fun k g' d' h => h)
  obtain ⟨h1, h2, h3, h4, h5⟩ := hm
  have hcw : Cond.codeWith (mY M') (mC M') (mN M') (mRt M') (mH M') ∈ mWs M' := by rw [← h5]; exact List.mem_cons_self
  exact vx_runSX (hh := mH M') (Ts := BIG) ⟨hx, hb, hml, hown, hts⟩ hM ⟨⟨rfl, rfl, hr0.1, hr0.2.1, pay_in hts (BIG_in (mWs_in h1)), hcw⟩, hts _ (mWs_in h1 _ hcw), hts _ h2, h3, par_n h4, hts _ hl0, hts _ hv⟩ hpre rfl (by rw [List.length_map]; exact hn) hl.1 hst (lv_room hcat2) hd ⟨by have := hr0.2.2.1; show _ ≤ mCe M; omega, by have := hr0.2.2.2.1; show _ ≤ mSl M; omega⟩
/-- what a wrapper answers where the class throws: the place of the exception in its list -/
def LX (ks : List Nat) (k : Nat) (Q : mQ) (g : mG) (d : mD) : Prop := k ∈ ks ∧ Q (.inl (ix k ks)) g d
theorem ka_1 : Cond.castable (XN 1) (XN 1) ∈ NW := goodN 733 (by decide +kernel) rfl
theorem kc_1 : Cond.classLink RL 103 (XN 1) ∈ BIG := goodW 643 (by decide +kernel) rfl
theorem ka_2 : Cond.castable (XN 2) (XN 2) ∈ NW := goodN 717 (by decide +kernel) rfl
theorem kc_2 : Cond.classLink RL 101 (XN 2) ∈ BIG := goodW 642 (by decide +kernel) rfl
theorem ka_3 : Cond.castable (XN 3) (XN 3) ∈ NW := goodN 704 (by decide +kernel) rfl
theorem kc_3 : Cond.classLink RL 99 (XN 3) ∈ BIG := goodW 563 (by decide +kernel) rfl
theorem ka_4 : Cond.castable (XN 4) (XN 4) ∈ NW := goodN 765 (by decide +kernel) rfl
theorem kc_4 : Cond.classLink RL 107 (XN 4) ∈ BIG := goodW 645 (by decide +kernel) rfl
theorem ka_5 : Cond.castable (XN 5) (XN 5) ∈ NW := goodN 749 (by decide +kernel) rfl
theorem kc_5 : Cond.classLink RL 105 (XN 5) ∈ BIG := goodW 644 (by decide +kernel) rfl
