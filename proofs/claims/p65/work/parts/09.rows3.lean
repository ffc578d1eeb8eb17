def FG (own : String) (idx ci j : Nat) : Prop := ∃ (C : String) (T : u_T) (N : Nat), mCls[ci]? = some (C, T, N) ∧ j < N ∧ N = NF ci ∧ (∀ w ∈ u_ws C T N, w ∈ BIG) ∧ (T j).1 = C ∧ (Cond.fieldLink own idx C (T j).2.1 (T j).2.2.1 ∈ BIG ∨ ∃ host, Cond.fieldLinkNest own idx C (T j).2.1 (T j).2.2.1 host ∈ NW)
def FP (own : String) (idx ci j : Nat) (ty : FieldType) (fin : Bool) : Prop := FG own idx ci j ∧ ∃ (C : String) (T : u_T) (N : Nat) (tf : Nat → FieldType), mCls[ci]? = some (C, T, N) ∧ (∀ k, k < N → parseFieldDescriptor (T k).2.2.1 = some (tf k)) ∧ (∀ a, a < N → ∀ b, b < N → a ≠ b → (T a).2.1 ≠ (T b).2.1) ∧ (T j).2.2.2 = fin ∧ parseFieldDescriptor (T j).2.2.1 = some ty
theorem fvl_get {X : hX} {φ : Nat → Nat} {g : mG} {d : mD} {a : Int} {n j : Nat} (h : j < n) : ((List.range n).map (fvl X φ g d a))[j]? = some (fvl X φ g d a j) := by
  rw [List.getElem?_map, List.getElem?_range h]
  rfl
theorem fvl_len {X : hX} {φ : Nat → Nat} {g : mG} {d : mD} {a : Int} {n : Nat} : ((List.range n).map (fvl X φ g d a)).length = n := by simp
theorem iI_rc {c : Nat} {x : Int} (h : okR c x) (hc : c = 0 ∨ c = 2) : iI x := by
  rcases hc with rfl | rfl
  · exact h
  · exact iI_z h
/-- any field is read -/
theorem w_getf {M : mM} {p : Program} {l : Launch} {e : Env} {s : State} {m : MethodId} {args : Array Value} {below : List Frame} {meth : Method} {c : Code} {H : Heap} {locs : List Loc} {cells slots : Nat} {X : hX} {φ : Nat → Nat} {g : mG} {d : mD} {ls : Array Slot} {Q : State → Prop} {R : Room} {rest : List Value} {pc idx ci j : Nat} {a : Int}
    (hC : HC M X p l s m args meth c) (hR : RP X φ g d H) (hf : FG (mOw M) idx ci j) (hk : LK a = ci) (hci : ci < 100) (ha : 0 ≤ a ∧ a < g.2.1) (hd : decode (mC M) pc = .ok (.getfield idx, 3))
    (k : W p l e R s m args below meth c H locs cells slots Q (F0 m (pc + 3) ls (fvl X φ g d a j :: rest))) : W p l e R s m args below meth c H locs cells slots Q (F0 m pc ls (.ref (φ a.toNat) :: rest)) := by
  obtain ⟨hx, hb, hml, hown, hts, hK, hT, hr, hlk, hnm, htb, hfl⟩ := id hC
  obtain ⟨hP, hD, hTY, hsc⟩ := id hR
  obtain ⟨C, T, N, h1, h2, h3, h4, h5, h6⟩ := hf
  subst hk
  have he : (wL X φ g d)[a.toNat]? = some (φ a.toNat, .inr (LK a, (List.range (NF (LK a))).map (fvl X φ g d a))) := (wL_get ha).trans (by rw [wE_o hci])
  have hv : ((List.range (NF (LK a))).map (fvl X φ g d a))[j]? = some (fvl X φ g d a j) := fvl_get (by omega)
  rcases h6 with h6 | ⟨host, h6⟩
  · exact va_get hx hb hts h4 hown hK hP a.toNat he h1 j h2 (hts _ h6) (fun x h => by rw [h5] at h; exact h) hv hd k
  · exact va_getN hx hb hts h4 hown hK hP a.toNat he h1 j h2 (hT.nw h6) (fun x h => by rw [h5] at h; exact h) hv hd k
def FI (own : String) (idx : Nat) (a : Int) (j : Nat) : Prop := FG own idx (LK a) j ∧ LK a < 100 ∧ (RC a j = 0 ∨ RC a j = 2) ∧ 0 ≤ a
def FR (own : String) (idx : Nat) (a : Int) (j : Nat) : Prop := FG own idx (LK a) j ∧ LK a < 100 ∧ RC a j = 9 ∧ 0 ≤ a
theorem wE_put {X : hX} {φ : Nat → Nat} {g : mG} {d : mD} {a v : Int} {j : Nat} (hk : LK a < 100) (hrc : RC a j ≠ 9) : (.inr (LK a, ((List.range (NF (LK a))).map (fvl X φ g d a)).set j (.int (Int32.ofInt v))) : va_E) = wE X φ g (ud d a j v) a := by
  rw [wE_o hk]
  congr 2
  apply List.ext_getElem?
  intro i
  rw [List.getElem?_set, fvl_len]
  by_cases hi : j = i
  · subst hi
    rw [if_pos rfl]
    split
    · rename_i h
      rw [fvl_get h]
      unfold fvl
      rw [if_neg hrc, ud_same]
    · rename_i h
      rw [List.getElem?_eq_none (by rw [fvl_len]; omega)]
  · rw [if_neg hi]
    by_cases h : i < NF (LK a)
    · rw [fvl_get h, fvl_get h]
      unfold fvl
      rw [ud_ne (fun q => hi (by omega))]
    · rw [List.getElem?_eq_none (by rw [fvl_len]; omega), List.getElem?_eq_none (by rw [fvl_len]; omega)]
theorem nar_ok {ty : FieldType} {c : Nat} {v : Int} (h : okR c v) (hty : (ty = .int ∧ c = 0) ∨ (ty = .boolean ∧ c = 2)) : narrow ty (.int (Int32.ofInt v)) = .int (Int32.ofInt v) ∧ fits ty (.int (Int32.ofInt v)) = true := by
  rcases hty with ⟨rfl, rfl⟩ | ⟨rfl, rfl⟩
  · exact ⟨rfl, rfl⟩
  · rcases (show v = 0 ∨ v = 1 by have := h.1; have := h.2; omega) with rfl | rfl <;> exact ⟨rfl, rfl⟩
theorem mw_getI {M : mM} {bc bs : Nat} {pc pc' : Nat} {L : List (Nat × mV)} {S : List mV} {g : mG} {d : mD} {Q : mQ} {a ji : Int} {idx j : Nat} (hd : decode (mC M) pc = .ok (.getfield idx, 3)) (hp : pc + 3 = pc') (hf : FI (mOw M) idx a j) (hj : (j : Int) = ji) (ha : 0 ≤ a ∧ a < mW M) (k0 : MW M bc bs pc' L (vI (d a ji) :: S) g d Q) : MW M bc bs pc L (vR a :: S) g d Q := by
  intro p l e s m args below meth c H locs cells slots X φ E ls hC hS hR hE hL hO hl hw hc hs
  obtain ⟨hx, hb, hml, hown, hts, hK, hT, hr, hlk, hnm, htb, hfl⟩ := id hC
  obtain ⟨hP, hD, hTY, hsc⟩ := id hR
  subst hp
  subst hj
  have ha1 : 0 ≤ a ∧ a < g.2.1 := ⟨ha.1, by have := hTY.2.1; omega⟩
  have h9 := iI_rc (hR.gs ha1 j) hf.2.2.1
  have h0 := k0 p l e s m args below meth c H locs cells slots X φ E ls hC hS hR hE hL ⟨h9, hO.2⟩ hl hw hc hs
  rw [List.map_cons, rv_R ha.1]
  refine w_getf hC hR hf.1 rfl hf.2.1 ha1 hd ?_
  unfold fvl
  rw [if_neg (by rcases hf.2.2.1 with h | h <;> rw [h] <;> decide)]
  exact h0
theorem mw_getR {M : mM} {bc bs : Nat} {pc pc' : Nat} {L : List (Nat × mV)} {S : List mV} {g : mG} {d : mD} {Q : mQ} {a ji : Int} {idx j : Nat} (hd : decode (mC M) pc = .ok (.getfield idx, 3)) (hp : pc + 3 = pc') (hf : FR (mOw M) idx a j) (hj : (j : Int) = ji) (ha : 0 ≤ a ∧ a < g.2.1) (k0 : MW M bc bs pc' L (vR (g.2.2 a ji) :: S) g d Q) : MW M bc bs pc L (vR a :: S) g d Q := by
  intro p l e s m args below meth c H locs cells slots X φ E ls hC hS hR hE hL hO hl hw hc hs
  obtain ⟨hx, hb, hml, hown, hts, hK, hT, hr, hlk, hnm, htb, hfl⟩ := id hC
  obtain ⟨hP, hD, hTY, hsc⟩ := id hR
  subst hp
  subst hj
  have h0 := k0 p l e s m args below meth c H locs cells slots X φ E ls hC hS hR hE hL ⟨(hTY.2.2.2.2.2.2.1 a j).2, hO.2⟩ hl hw hc hs
  rw [List.map_cons, rv_R ha.1]
  refine w_getf hC hR hf.1 rfl hf.2.1 ha hd ?_
  unfold fvl
  rw [if_pos hf.2.2.1]
  exact h0
theorem mw_getP {M : mM} {bc bs : Nat} {pc pc' : Nat} {L : List (Nat × mV)} {S : List mV} {g : mG} {d : mD} {Q : mQ} {a ji v : Int} {idx j : Nat} (hd : decode (mC M) pc = .ok (.getfield idx, 3)) (hp : pc + 3 = pc') (hf : FR (mOw M) idx a j) (hj : (j : Int) = ji) (hsp : (a, ji, v) ∈ SPl) (ha : 0 ≤ a ∧ a < mW M) (k0 : MW M bc bs pc' L (vR v :: S) g d Q) : MW M bc bs pc L (vR a :: S) g d Q := by
  intro p l e s m args below meth c H locs cells slots X φ E ls hC hS hR hE hL hO hl hw hc hs
  obtain ⟨hx, hb, hml, hown, hts, hK, hT, hr, hlk, hnm, htb, hfl⟩ := id hC
  obtain ⟨hP, hD, hTY, hsc⟩ := id hR
  subst hp
  subst hj
  have ha1 : 0 ≤ a ∧ a < g.2.1 := ⟨ha.1, by have := hTY.2.1; omega⟩
  have hv : g.2.2 a j = v := hTY.2.2.2.2.2.2.2.1 _ hsp (by show a < g.1; omega)
  have h0 := k0 p l e s m args below meth c H locs cells slots X φ E ls hC hS hR hE hL ⟨(by rw [← hv]; exact (hTY.2.2.2.2.2.2.1 a j).2), hO.2⟩ hl hw hc hs
  rw [List.map_cons, rv_R ha.1]
  refine w_getf hC hR hf.1 rfl hf.2.1 ha1 hd ?_
  unfold fvl
  rw [if_pos hf.2.2.1, hv]
  exact h0
theorem mw_putI {M : mM} {bc bs : Nat} {pc pc' : Nat} {L : List (Nat × mV)} {S : List mV} {g : mG} {d : mD} {Q : mQ} {a ji v : Int} {idx j : Nat} {ty : FieldType} (hd : decode (mC M) pc = .ok (.putfield idx, 3)) (hp : pc + 3 = pc') (hf : FP (mOw M) idx (LK a) j ty false) (hk : LK a < 100) (hj : (j : Int) = ji) (hty : (ty = .int ∧ RC a ji = 0) ∨ (ty = .boolean ∧ RC a ji = 2)) (hv : okR (RC a ji) v ∨ ty = .int) (ha : 0 ≤ a ∧ a < g.2.1) (k0 : MW M bc bs pc' L S g (ud d a ji v) Q) : MW M bc bs pc L (vI v :: vR a :: S) g d Q := by
  intro p l e s m args below meth c H locs cells slots X φ E ls hC hS hR hE hL hO hl hw hc hs
  obtain ⟨hx, hb, hml, hown, hts, hK, hT, hr, hlk, hnm, htb, hfl⟩ := id hC
  obtain ⟨hP, hD, hTY, hsc⟩ := id hR
  subst hp
  subst hj
  have hvo : okR (RC a j) v := by
    rcases hv with h | h
    · exact h
    · rcases hty with h2 | h2
      · rw [h2.2]; exact hO.1
      · rw [h] at h2; cases h2.1
  obtain ⟨hn1, hf1⟩ := nar_ok hvo hty
  obtain ⟨⟨C, T, N, h1, h2, h3, h4, h5, h6⟩, C', T', N', tf, g1, g2, g3, g4, g5⟩ := hf
  cases h1.symm.trans g1
  rw [List.map_cons, List.map_cons, rv_R ha.1]
  have he : (wL X φ g d)[a.toNat]? = some (φ a.toNat, .inr (LK a, (List.range (NF (LK a))).map (fvl X φ g d a))) := (wL_get ha).trans (by rw [wE_o hk])
  have hrc : RC a j ≠ 9 := by rcases hty with h | h <;> rw [h.2] <;> decide
  have kk : ∀ (H1 : Heap) (locs1 : List Loc), va_P (xD X) mCls ((wL X φ g d).set a.toNat (φ a.toNat, .inr (LK a, ((List.range (NF (LK a))).map (fvl X φ g d a)).set j (.int (Int32.ofInt v))))) H1 → va_D (xA0 X) ((wL X φ g d).set a.toNat (φ a.toNat, .inr (LK a, ((List.range (NF (LK a))).map (fvl X φ g d a)).set j (.int (Int32.ofInt v))))) → va_S (xA0 X) s.heap H1 locs1 → _ := fun H1 locs1 hP1 hD1 hS1 => k0 p l e s m args below meth c H1 locs1 cells slots X φ E ls hC hS1 (RP_put (i := j) (v := v) hR ha (wE_put hk hrc) hvo hP1 hD1) hE hL hO.2.2 hl hw hc hs
  rcases h6 with h6 | ⟨host, h6⟩
  · exact va_put hx hb hts h4 tf g2 g3 hown hK hP hD hS a.toNat he h1 j h2 (hts _ h6) (fun x h => by rw [h5] at h; exact h) g4 g5 hn1 hf1 (by rw [fvl_len]; omega) hd kk
  · exact va_putN hx hb hts h4 tf g2 g3 hown hK hP hD hS a.toNat he h1 j h2 (hT.nw h6) (fun x h => by rw [h5] at h; exact h) g4 g5 hn1 hf1 (by rw [fvl_len]; omega) hd kk
