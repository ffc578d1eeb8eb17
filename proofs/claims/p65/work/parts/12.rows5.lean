def cQ (M M' : mM) (bc bs pc' : Nat) (L : List (Nat × mV)) (S : List mV) (Q : mQ) (pc : Nat) : mQ := fun o g d => match o with
  | .inl v => MW M (bc - mCe M') (bs - mSl M') pc' L (rps (mRt M') v S) g d Q
  | .inr k => MX M (bc - mCe M') (bs - mSl M') pc L k g d Q
def CV (M' : mM) : Prop := Cond.instanceMethod (mY M') ∈ BIG ∧ Cond.selects (mY M').cls (mY M') (mY M') ∈ BIG
theorem mrecv_of {M : mM} {X : hX} {φ : Nat → Nat} {g : mG} {d : mD} {H : Heap} {s : State} {a : Int} {C : String} (hK : KX X s) (hR : RP X φ g d H) (ha : 0 ≤ a ∧ a < g.2.1) (hk : LK a < 100) (hcl : (mCls[LK a]?).map (fun q => q.1) = some C) : ∃ cellB : Cell, H[φ a.toNat]? = some cellB ∧ cellB.vm.isStatics = false ∧ s.vm.findClass C = some cellB.cls := by
  cases h : mCls[LK a]? with
  | none => rw [h] at hcl; cases hcl
  | some q =>
    rw [h] at hcl
    cases hcl
    exact va_recv hK hR.1 h ((wL_get ha).trans (by rw [wE_o hk]))
/-- a call of a method of an object -/
theorem mw_callV {M M' : mM} {bc bs : Nat} {pc pc' : Nat} {L : List (Nat × mV)} {S S' A A' : List mV} {g : mG} {d : mD} {Q : mQ} {idx n : Nat} {a : Int} (hd : decode (mC M) pc = .ok (.invokevirtual idx, 3)) (hp : pc + 3 = pc') (hl0 : CL (mOw M) idx M') (hm : CM M' n) (hv : CV M') (hr0 : CR M M' bc bs) (hA' : A' = vR a :: A) (hn : A.length = n) (hS' : S' = A.reverse ++ vR a :: S) (ha : 0 ≤ a ∧ a < g.2.1) (hk : LK a < 100) (hcl : (mCls[LK a]?).map (fun q => q.1) = some (mY M').cls) (hcat : (S.map catV).sum ≤ 8)
    (k0 : MM M' A' g d (cQ M M' bc bs pc' L S Q pc)) : MW M bc bs pc L S' g d Q := by
  intro p l e s m args below meth c H locs cells slots X φ E ls hC hS hR hE hL hO hl hw hc hs
  obtain ⟨hx, hb, hml, hown, hts, hK, hT, hr, hlk, hnm, htb, hfl⟩ := id hC
  subst hp hS' hA'
  have hO1 : oks g.2.1 S ∧ oks g.2.1 (vR a :: A) := by
    have h1 := oks_all hO
    exact ⟨oks_of fun v hv => h1 v (List.mem_append_right _ (List.mem_cons_of_mem _ hv)), oks_of fun v hv => h1 v (by
      rcases List.mem_cons.mp hv with rfl | hv
      · exact List.mem_append_right _ List.mem_cons_self
      · exact List.mem_append_left _ (List.mem_reverse.mpr hv))⟩
  have hM := k0 l X φ hfl
  have hcat2 : ((S.map (rv X φ)).map fun v => v.category).sum ≤ 8 := by
    rw [List.map_map, show ((fun v : Value => v.category) ∘ rv X φ) = catV from funext fun v => cat_rv X φ v]
    exact hcat
  have hst : (A.reverse ++ vR a :: S).map (rv X φ) = (A.map (rv X φ)).reverse ++ .ref (φ a.toNat) :: S.map (rv X φ) := by
    rw [List.map_append, List.map_reverse, List.map_cons, rv_R ha.1]
  have hpre : PreV s H (mY M').cls (φ a.toNat) (va_Pc ((vR a :: A).map (rv X φ)) (PB M' X φ (vR a :: A) g d)) (A.map (rv X φ)) :=
    ⟨PB_blind, mrecv_of (M := M) hK hR ha hk hcl, fun U hU hW => ⟨by rw [List.map_cons, rv_R ha.1], PB_at hK hT hS hR (Int.le_trans hr0.2.2.2.2 hw) hO1.2 hU hW⟩⟩
  refine w_back hC hS hR hE hL hO1.1 hl hw hc hs hr0.2.2.1 hr0.2.2.2.1 (a := (Value.ref (φ a.toNat) :: A.map (rv X φ)).toArray) (Q' := cQ M M' bc bs (pc + 3) L S Q pc) ?_ (fun v g' d' h => h) (fun k g' d' h => h)
  rcases hl0 with hl0 | ⟨host, hl0⟩
  · exact vx_runV (Ts := BIG) ⟨hx, hb, hml, hown, hts⟩ hM ⟨cb_of hts hl0 hm hr0, hts _ hv.1, hts _ hv.2⟩ hpre rfl (by rw [List.length_map]; exact hn) hl.1 hst (lv_room hcat2) hd ⟨by have := hr0.2.2.1; show _ ≤ mCe M; omega, by have := hr0.2.2.2.1; show _ ≤ mSl M; omega⟩
  · exact vx_runVN (Ts := BIG) ⟨hx, hb, hml, hown, hts⟩ hM ⟨cn_of hT hts hl0 hm hr0, hts _ hv.1, hts _ hv.2⟩ hpre rfl (by rw [List.length_map]; exact hn) hl.1 hst (lv_room hcat2) hd ⟨by have := hr0.2.2.1; show _ ≤ mCe M; omega, by have := hr0.2.2.2.1; show _ ≤ mSl M; omega⟩
/-- a call of a constructor -/
theorem mw_callI {M M' : mM} {bc bs : Nat} {pc pc' : Nat} {L : List (Nat × mV)} {S S' A A' : List mV} {g : mG} {d : mD} {Q : mQ} {idx n : Nat} {a : Int} (hd : decode (mC M) pc = .ok (.invokespecial idx, 3)) (hp : pc + 3 = pc') (hl0 : CL (mOw M) idx M') (hm : CM M' n) (hv : Cond.instanceMethod (mY M') ∈ BIG) (hin : (mY M').name = "<init>") (hrt : mRt M' = none) (hr0 : CR M M' bc bs) (hA' : A' = vR a :: A) (hn : A.length = n) (hS' : S' = A.reverse ++ vR a :: S) (ha : 0 ≤ a ∧ a < g.2.1) (hcat : (S.map catV).sum ≤ 8)
    (k0 : MM M' A' g d (cQ M M' bc bs pc' L S Q pc)) : MW M bc bs pc L S' g d Q := by
  intro p l e s m args below meth c H locs cells slots X φ E ls hC hS hR hE hL hO hl hw hc hs
  obtain ⟨hx, hb, hml, hown, hts, hK, hT, hr, hlk, hnm, htb, hfl⟩ := id hC
  subst hp hS' hA'
  have hO1 : oks g.2.1 S ∧ oks g.2.1 (vR a :: A) := by
    have h1 := oks_all hO
    exact ⟨oks_of fun v hv => h1 v (List.mem_append_right _ (List.mem_cons_of_mem _ hv)), oks_of fun v hv => h1 v (by
      rcases List.mem_cons.mp hv with rfl | hv
      · exact List.mem_append_right _ List.mem_cons_self
      · exact List.mem_append_left _ (List.mem_reverse.mpr hv))⟩
  have hM := k0 l X φ hfl
  have hcat2 : ((S.map (rv X φ)).map fun v => v.category).sum ≤ 8 := by
    rw [List.map_map, show ((fun v : Value => v.category) ∘ rv X φ) = catV from funext fun v => cat_rv X φ v]
    exact hcat
  have hst : (A.reverse ++ vR a :: S).map (rv X φ) = (A.map (rv X φ)).reverse ++ .ref (φ a.toNat) :: S.map (rv X φ) := by
    rw [List.map_append, List.map_reverse, List.map_cons, rv_R ha.1]
  have hpre : PreS s H (va_Pc ((vR a :: A).map (rv X φ)) (PB M' X φ (vR a :: A) g d)) (.ref (φ a.toNat) :: A.map (rv X φ)) :=
    ⟨PB_blind, fun U hU hW => ⟨by rw [List.map_cons, rv_R ha.1], PB_at hK hT hS hR (Int.le_trans hr0.2.2.2.2 hw) hO1.2 hU hW⟩⟩
  refine w_back hC hS hR hE hL hO1.1 hl hw hc hs hr0.2.2.1 hr0.2.2.2.1 (a := (Value.ref (φ a.toNat) :: A.map (rv X φ)).toArray) (Q' := cQ M M' bc bs (pc + 3) L S Q pc) ?_ (fun v g' d' h => h) (fun k g' d' h => h)
  rcases hl0 with hl0 | ⟨host, hl0⟩
  · have cb := cb_of hts hl0 hm hr0
    rw [hrt] at cb
    exact vx_runI (Ts := BIG) ⟨hx, hb, hml, hown, hts⟩ hM ⟨cb, hin, hts _ hv⟩ hpre rfl (by rw [List.length_map]; exact hn) hl.1 hst (lv_room hcat2) hd ⟨by have := hr0.2.2.1; show _ ≤ mCe M; omega, by have := hr0.2.2.2.1; show _ ≤ mSl M; omega⟩
  · have cb := cn_of hT hts hl0 hm hr0
    rw [hrt] at cb
    exact vx_runIN (Ts := BIG) ⟨hx, hb, hml, hown, hts⟩ hM ⟨cb, hin, hts _ hv⟩ hpre rfl (by rw [List.length_map]; exact hn) hl.1 hst (lv_room hcat2) hd ⟨by have := hr0.2.2.1; show _ ≤ mCe M; omega, by have := hr0.2.2.2.1; show _ ≤ mSl M; omega⟩
/-- a static call -/
theorem mw_callS {M M' : mM} {bc bs : Nat} {pc pc' : Nat} {L : List (Nat × mV)} {S S' A : List mV} {g : mG} {d : mD} {Q : mQ} {idx n : Nat} (hd : decode (mC M) pc = .ok (.invokestatic idx, 3)) (hp : pc + 3 = pc') (hl0 : CL (mOw M) idx M') (hm : CM M' n) (hv : Cond.static (mY M') ∈ BIG) (hr0 : CR M M' bc bs) (hn : A.length = n) (hS' : S' = A.reverse ++ S) (hcat : (S.map catV).sum ≤ 8)
    (k0 : MM M' A g d (cQ M M' bc bs pc' L S Q pc)) : MW M bc bs pc L S' g d Q := by
  intro p l e s m args below meth c H locs cells slots X φ E ls hC hS hR hE hL hO hl hw hc hs
  obtain ⟨hx, hb, hml, hown, hts, hK, hT, hr, hlk, hnm, htb, hfl⟩ := id hC
  subst hp hS'
  have hO1 : oks g.2.1 S ∧ oks g.2.1 A := by
    have h1 := oks_all hO
    exact ⟨oks_of fun v hv => h1 v (List.mem_append_right _ hv), oks_of fun v hv => h1 v (List.mem_append_left _ (List.mem_reverse.mpr hv))⟩
  have hM := k0 l X φ hfl
  have hcat2 : ((S.map (rv X φ)).map fun v => v.category).sum ≤ 8 := by
    rw [List.map_map, show ((fun v : Value => v.category) ∘ rv X φ) = catV from funext fun v => cat_rv X φ v]
    exact hcat
  have hst : (A.reverse ++ S).map (rv X φ) = (A.map (rv X φ)).reverse ++ S.map (rv X φ) := by
    rw [List.map_append, List.map_reverse]
  have hpre : PreS s H (va_Pc (A.map (rv X φ)) (PB M' X φ A g d)) (A.map (rv X φ)) :=
    ⟨PB_blind, fun U hU hW => ⟨rfl, PB_at hK hT hS hR (Int.le_trans hr0.2.2.2.2 hw) hO1.2 hU hW⟩⟩
  refine w_back hC hS hR hE hL hO1.1 hl hw hc hs hr0.2.2.1 hr0.2.2.2.1 (a := (A.map (rv X φ)).toArray) (Q' := cQ M M' bc bs (pc + 3) L S Q pc) ?_ (fun v g' d' h => h) (fun k g' d' h => h)
  rcases hl0 with hl0 | ⟨host, hl0⟩
  · exact vx_runS (Ts := BIG) ⟨hx, hb, hml, hown, hts⟩ hM ⟨cb_of hts hl0 hm hr0, hts _ hv⟩ hpre rfl (by rw [List.length_map]; exact hn) hl.1 hst (lv_room hcat2) hd ⟨by have := hr0.2.2.1; show _ ≤ mCe M; omega, by have := hr0.2.2.2.1; show _ ≤ mSl M; omega⟩
  · exact vx_runSN (Ts := BIG) ⟨hx, hb, hml, hown, hts⟩ hM ⟨cn_of hT hts hl0 hm hr0, hts _ hv, trivial⟩ hpre rfl (by rw [List.length_map]; exact hn) hl.1 hst (lv_room hcat2) hd ⟨by have := hr0.2.2.1; show _ ≤ mCe M; omega, by have := hr0.2.2.2.1; show _ ≤ mSl M; omega⟩
