theorem mw_iload_n {M : mM} {bc bs : Nat} {pc pc' : Nat} {L : List (Nat × mV)} {S : List mV} {g : mG} {d : mD} {Q : mQ} {k : Fin 4} {i : Nat} {x : Int} (hd : decode (mC M) pc = .ok (.iload_n k, 1)) (hp : pc + 1 = pc') (hi : (k : Nat) = i) (hg : lget i L = some (vI x)) (k0 : MW M bc bs pc' L (vI x :: S) g d Q) : MW M bc bs pc L S g d Q := by
  intro p l e s m args below meth c H locs cells slots X φ E ls hC hS hR hE hL hO hl hw hc hs
  obtain ⟨hx, hb, hml, hown, hts, hK, hT, hr, hlk, hnm, htb, hfl⟩ := id hC
  subst hp
  exact lv_iload_n hx hb hd hi (lget_at hl hg) (k0 p l e s m args below meth c H locs cells slots X φ E ls hC hS hR hE hL ⟨okl_mem hL (lget_mem hg), hO⟩ hl hw hc hs)
theorem mw_iload {M : mM} {bc bs : Nat} {pc pc' : Nat} {L : List (Nat × mV)} {S : List mV} {g : mG} {d : mD} {Q : mQ} {i : Nat} {x : Int} (hd : decode (mC M) pc = .ok (.iload i, 2)) (hp : pc + 2 = pc') (hg : lget i L = some (vI x)) (k0 : MW M bc bs pc' L (vI x :: S) g d Q) : MW M bc bs pc L S g d Q := by
  intro p l e s m args below meth c H locs cells slots X φ E ls hC hS hR hE hL hO hl hw hc hs
  obtain ⟨hx, hb, hml, hown, hts, hK, hT, hr, hlk, hnm, htb, hfl⟩ := id hC
  subst hp
  exact lv_iload hx hb hd (lget_at hl hg) (k0 p l e s m args below meth c H locs cells slots X φ E ls hC hS hR hE hL ⟨okl_mem hL (lget_mem hg), hO⟩ hl hw hc hs)
theorem mw_dload {M : mM} {bc bs : Nat} {pc pc' : Nat} {L : List (Nat × mV)} {S : List mV} {g : mG} {d : mD} {Q : mQ} {i : Nat} {x : Int} (hd : decode (mC M) pc = .ok (.dload i, 2)) (hp : pc + 2 = pc') (hg : lget i L = some (vD x)) (k0 : MW M bc bs pc' L (vD x :: S) g d Q) : MW M bc bs pc L S g d Q := by
  intro p l e s m args below meth c H locs cells slots X φ E ls hC hS hR hE hL hO hl hw hc hs
  obtain ⟨hx, hb, hml, hown, hts, hK, hT, hr, hlk, hnm, htb, hfl⟩ := id hC
  subst hp
  exact lv_dload hx hb hd (lget_at hl hg) (k0 p l e s m args below meth c H locs cells slots X φ E ls hC hS hR hE hL ⟨okl_mem hL (lget_mem hg), hO⟩ hl hw hc hs)
theorem rv_ref {X : hX} {φ : Nat → Nat} {v : mV} (h : v.1 = 1 ∨ v.1 = 5 ∨ v.1 = 6 ∨ v.1 = 7 ∨ v.1 = 8) : rv X φ v = .null ∨ ∃ a : Nat, rv X φ v = .ref a := by
  obtain ⟨t, x⟩ := v
  have h1 : t = 1 ∨ t = 5 ∨ t = 6 ∨ t = 7 ∨ t = 8 := h
  rcases h1 with rfl | rfl | rfl | rfl | rfl
  · show (if x < 0 then Value.null else .ref (φ x.toNat)) = .null ∨ ∃ a : Nat, (if x < 0 then Value.null else .ref (φ x.toNat)) = .ref a
    split
    · exact Or.inl rfl
    · exact Or.inr ⟨_, rfl⟩
  · exact Or.inr ⟨_, rfl⟩
  · exact Or.inr ⟨_, rfl⟩
  · show (if x < 0 then Value.null else .ref x.toNat) = .null ∨ ∃ a : Nat, (if x < 0 then Value.null else .ref x.toNat) = .ref a
    split
    · exact Or.inl rfl
    · exact Or.inr ⟨_, rfl⟩
  · exact Or.inr ⟨_, rfl⟩
theorem mw_aload_n {M : mM} {bc bs : Nat} {pc pc' : Nat} {L : List (Nat × mV)} {S : List mV} {g : mG} {d : mD} {Q : mQ} {k : Fin 4} {i : Nat} {v : mV} (hd : decode (mC M) pc = .ok (.aload_n k, 1)) (hp : pc + 1 = pc') (hi : (k : Nat) = i) (hv : v.1 = 1 ∨ v.1 = 5 ∨ v.1 = 6 ∨ v.1 = 7 ∨ v.1 = 8) (hg : lget i L = some v) (k0 : MW M bc bs pc' L (v :: S) g d Q) : MW M bc bs pc L S g d Q := by
  intro p l e s m args below meth c H locs cells slots X φ E ls hC hS hR hE hL hO hl hw hc hs
  obtain ⟨hx, hb, hml, hown, hts, hK, hT, hr, hlk, hnm, htb, hfl⟩ := id hC
  subst hp
  have h0 := k0 p l e s m args below meth c H locs cells slots X φ E ls hC hS hR hE hL ⟨okl_mem hL (lget_mem hg), hO⟩ hl hw hc hs
  have h1 := lget_at hl hg
  rcases rv_ref (X := X) (φ := φ) hv with h | ⟨a, h⟩
  · rw [h] at h1
    refine lv_aload_nN hx hb hd hi h1 ?_
    rw [List.map_cons, h] at h0
    exact h0
  · rw [h] at h1
    refine lv_aload_n hx hb hd hi h1 ?_
    rw [List.map_cons, h] at h0
    exact h0
theorem mw_aload {M : mM} {bc bs : Nat} {pc pc' : Nat} {L : List (Nat × mV)} {S : List mV} {g : mG} {d : mD} {Q : mQ} {i : Nat} {v : mV} (hd : decode (mC M) pc = .ok (.aload i, 2)) (hp : pc + 2 = pc') (hv : v.1 = 1 ∨ v.1 = 5 ∨ v.1 = 6 ∨ v.1 = 7 ∨ v.1 = 8) (hg : lget i L = some v) (k0 : MW M bc bs pc' L (v :: S) g d Q) : MW M bc bs pc L S g d Q := by
  intro p l e s m args below meth c H locs cells slots X φ E ls hC hS hR hE hL hO hl hw hc hs
  obtain ⟨hx, hb, hml, hown, hts, hK, hT, hr, hlk, hnm, htb, hfl⟩ := id hC
  subst hp
  have h0 := k0 p l e s m args below meth c H locs cells slots X φ E ls hC hS hR hE hL ⟨okl_mem hL (lget_mem hg), hO⟩ hl hw hc hs
  have h1 := lget_at hl hg
  rcases rv_ref (X := X) (φ := φ) hv with h | ⟨a, h⟩
  · rw [h] at h1
    refine lv_aloadN hx hb hd h1 ?_
    rw [List.map_cons, h] at h0
    exact h0
  · rw [h] at h1
    refine lv_aload hx hb hd h1 ?_
    rw [List.map_cons, h] at h0
    exact h0
theorem mw_istore_n {M : mM} {bc bs : Nat} {pc pc' : Nat} {L : List (Nat × mV)} {S : List mV} {g : mG} {d : mD} {Q : mQ} {k : Fin 4} {i : Nat} {x : Int} {L' : List (Nat × mV)} (hd : decode (mC M) pc = .ok (.istore_n k, 1)) (hp : pc + 1 = pc') (hi : (k : Nat) = i) (hn : i < mN M) (hL' : lput i (vI x) L = L') (k0 : MW M bc bs pc' L' S g d Q) : MW M bc bs pc L (vI x :: S) g d Q := by
  intro p l e s m args below meth c H locs cells slots X φ E ls hC hS hR hE hL hO hl hw hc hs
  obtain ⟨hx, hb, hml, hown, hts, hK, hT, hr, hlk, hnm, htb, hfl⟩ := id hC
  subst hp
  subst hL'
  exact lv_istore_n hx hb hd hi hl hn rfl (fun ls' hl' => k0 p l e s m args below meth c H locs cells slots X φ E ls' hC hS hR hE (okl_put hL hO.1) hO.2 (lput_has (v := vI x) hl') hw hc hs)
theorem mw_istore {M : mM} {bc bs : Nat} {pc pc' : Nat} {L : List (Nat × mV)} {S : List mV} {g : mG} {d : mD} {Q : mQ} {i : Nat} {x : Int} {L' : List (Nat × mV)} (hd : decode (mC M) pc = .ok (.istore i, 2)) (hp : pc + 2 = pc') (hn : i < mN M) (hL' : lput i (vI x) L = L') (k0 : MW M bc bs pc' L' S g d Q) : MW M bc bs pc L (vI x :: S) g d Q := by
  intro p l e s m args below meth c H locs cells slots X φ E ls hC hS hR hE hL hO hl hw hc hs
  obtain ⟨hx, hb, hml, hown, hts, hK, hT, hr, hlk, hnm, htb, hfl⟩ := id hC
  subst hp
  subst hL'
  exact lv_istore hx hb hd hl hn rfl (fun ls' hl' => k0 p l e s m args below meth c H locs cells slots X φ E ls' hC hS hR hE (okl_put hL hO.1) hO.2 (lput_has (v := vI x) hl') hw hc hs)
theorem mw_astore_n {M : mM} {bc bs : Nat} {pc pc' : Nat} {L : List (Nat × mV)} {S : List mV} {g : mG} {d : mD} {Q : mQ} {k : Fin 4} {i : Nat} {v : mV} {L' : List (Nat × mV)} (hd : decode (mC M) pc = .ok (.astore_n k, 1)) (hp : pc + 1 = pc') (hi : (k : Nat) = i) (hv : v.1 = 1 ∨ v.1 = 5 ∨ v.1 = 6 ∨ v.1 = 7 ∨ v.1 = 8) (hn : i < mN M) (hL' : lput i v L = L') (k0 : MW M bc bs pc' L' S g d Q) : MW M bc bs pc L (v :: S) g d Q := by
  intro p l e s m args below meth c H locs cells slots X φ E ls hC hS hR hE hL hO hl hw hc hs
  obtain ⟨hx, hb, hml, hown, hts, hK, hT, hr, hlk, hnm, htb, hfl⟩ := id hC
  subst hp
  subst hL'
  have kk : ∀ ls' : Array Slot, lv_has ls' (mN M) ((i, rv X φ v) :: (rvl X φ L).filter (fun q => !(q.1 == i) && !(q.1 + 1 == i && q.2.category == 2))) → _ := fun ls' hl' => k0 p l e s m args below meth c H locs cells slots X φ E ls' hC hS hR hE (okl_put hL hO.1) hO.2 (lput_has (v := v) hl') hw hc hs
  rw [List.map_cons]
  rcases rv_ref (X := X) (φ := φ) hv with h | ⟨a, h⟩
  · rw [h] at kk ⊢
    exact lv_astore_nN hx hb hd hi hl hn rfl kk
  · rw [h] at kk ⊢
    exact lv_astore_n hx hb hd hi hl hn rfl kk
theorem mw_astore {M : mM} {bc bs : Nat} {pc pc' : Nat} {L : List (Nat × mV)} {S : List mV} {g : mG} {d : mD} {Q : mQ} {i : Nat} {v : mV} {L' : List (Nat × mV)} (hd : decode (mC M) pc = .ok (.astore i, 2)) (hp : pc + 2 = pc') (hv : v.1 = 1 ∨ v.1 = 5 ∨ v.1 = 6 ∨ v.1 = 7 ∨ v.1 = 8) (hn : i < mN M) (hL' : lput i v L = L') (k0 : MW M bc bs pc' L' S g d Q) : MW M bc bs pc L (v :: S) g d Q := by
  intro p l e s m args below meth c H locs cells slots X φ E ls hC hS hR hE hL hO hl hw hc hs
  obtain ⟨hx, hb, hml, hown, hts, hK, hT, hr, hlk, hnm, htb, hfl⟩ := id hC
  subst hp
  subst hL'
  have kk : ∀ ls' : Array Slot, lv_has ls' (mN M) ((i, rv X φ v) :: (rvl X φ L).filter (fun q => !(q.1 == i) && !(q.1 + 1 == i && q.2.category == 2))) → _ := fun ls' hl' => k0 p l e s m args below meth c H locs cells slots X φ E ls' hC hS hR hE (okl_put hL hO.1) hO.2 (lput_has (v := v) hl') hw hc hs
  rw [List.map_cons]
  rcases rv_ref (X := X) (φ := φ) hv with h | ⟨a, h⟩
  · rw [h] at kk ⊢
    exact lv_astoreN hx hb hd hl hn rfl kk
  · rw [h] at kk ⊢
    exact lv_astore hx hb hd hl hn rfl kk
theorem mw_iinc {M : mM} {bc bs : Nat} {pc pc' : Nat} {L : List (Nat × mV)} {S : List mV} {g : mG} {d : mD} {Q : mQ} {i : Nat} {n x : Int} {L' : List (Nat × mV)} (hd : decode (mC M) pc = .ok (.iinc i n, 3)) (hp : pc + 3 = pc') (hg : lget i L = some (vI x)) (hn : i < mN M) (hi : iI (x + n)) (hL' : lput i (vI (x + n)) L = L') (k0 : MW M bc bs pc' L' S g d Q) : MW M bc bs pc L S g d Q := by
  intro p l e s m args below meth c H locs cells slots X φ E ls hC hS hR hE hL hO hl hw hc hs
  obtain ⟨hx, hb, hml, hown, hts, hK, hT, hr, hlk, hnm, htb, hfl⟩ := id hC
  subst hp
  subst hL'
  obtain ⟨k, hk⟩ := List.getElem?_of_mem (List.mem_map.mpr ⟨(i, vI x), lget_mem hg, rfl⟩ : (i, rv X φ (vI x)) ∈ rvl X φ L)
  exact lv_iinc (v := Int32.ofInt (x + n)) hx hb hd hl hk (Int32.ofInt_add x n).symm hn rfl (fun ls' hl' => k0 p l e s m args below meth c H locs cells slots X φ E ls' hC hS hR hE (okl_put hL hi) hO (lput_has (v := vI (x + n)) hl') hw hc hs)
theorem mw_iconst {M : mM} {bc bs : Nat} {pc pc' : Nat} {L : List (Nat × mV)} {S : List mV} {g : mG} {d : mD} {Q : mQ} {n : Int} (hd : decode (mC M) pc = .ok (.iconst n, 1)) (hp : pc + 1 = pc') (hi : iI n) (k0 : MW M bc bs pc' L (vI n :: S) g d Q) : MW M bc bs pc L S g d Q := by
  intro p l e s m args below meth c H locs cells slots X φ E ls hC hS hR hE hL hO hl hw hc hs
  obtain ⟨hx, hb, hml, hown, hts, hK, hT, hr, hlk, hnm, htb, hfl⟩ := id hC
  subst hp
  exact lv_iconst hx hb hd rfl (k0 p l e s m args below meth c H locs cells slots X φ E ls hC hS hR hE hL ⟨hi, hO⟩ hl hw hc hs)
theorem iI_of8 {n : Int} (h : -128 ≤ n ∧ n ≤ 127) : iI n := ⟨by omega, by omega⟩
theorem iI_of16 {n : Int} (h : -32768 ≤ n ∧ n ≤ 32767) : iI n := ⟨by omega, by omega⟩
theorem bi_8 {n : Int} (h : -128 ≤ n ∧ n ≤ 127) : (Int8.ofInt n).toInt32 = Int32.ofInt n := by
  apply Int32.toInt_inj.mp
  rw [Int8.toInt_toInt32, Int8.toInt_ofInt_of_le h.1 (by omega), Int32.toInt_ofInt_of_le (by omega) (by omega)]
theorem bi_16 {n : Int} (h : -32768 ≤ n ∧ n ≤ 32767) : (Int16.ofInt n).toInt32 = Int32.ofInt n := by
  apply Int32.toInt_inj.mp
  rw [Int16.toInt_toInt32, Int16.toInt_ofInt_of_le h.1 (by omega), Int32.toInt_ofInt_of_le (by omega) (by omega)]
theorem mw_bipush {M : mM} {bc bs : Nat} {pc pc' : Nat} {L : List (Nat × mV)} {S : List mV} {g : mG} {d : mD} {Q : mQ} {n : Int} (hd : decode (mC M) pc = .ok (.bipush n, 2)) (hp : pc + 2 = pc') (hi : -128 ≤ n ∧ n ≤ 127) (k0 : MW M bc bs pc' L (vI n :: S) g d Q) : MW M bc bs pc L S g d Q := by
  intro p l e s m args below meth c H locs cells slots X φ E ls hC hS hR hE hL hO hl hw hc hs
  obtain ⟨hx, hb, hml, hown, hts, hK, hT, hr, hlk, hnm, htb, hfl⟩ := id hC
  subst hp
  exact lv_bipush hx hb hd (bi_8 hi) (k0 p l e s m args below meth c H locs cells slots X φ E ls hC hS hR hE hL ⟨iI_of8 hi, hO⟩ hl hw hc hs)
theorem mw_sipush {M : mM} {bc bs : Nat} {pc pc' : Nat} {L : List (Nat × mV)} {S : List mV} {g : mG} {d : mD} {Q : mQ} {n : Int} (hd : decode (mC M) pc = .ok (.sipush n, 3)) (hp : pc + 3 = pc') (hi : -32768 ≤ n ∧ n ≤ 32767) (k0 : MW M bc bs pc' L (vI n :: S) g d Q) : MW M bc bs pc L S g d Q := by
  intro p l e s m args below meth c H locs cells slots X φ E ls hC hS hR hE hL hO hl hw hc hs
  obtain ⟨hx, hb, hml, hown, hts, hK, hT, hr, hlk, hnm, htb, hfl⟩ := id hC
  subst hp
  exact lv_sipush hx hb hd (bi_16 hi) (k0 p l e s m args below meth c H locs cells slots X φ E ls hC hS hR hE hL ⟨iI_of16 hi, hO⟩ hl hw hc hs)
theorem mw_ldc {M : mM} {bc bs : Nat} {pc pc' : Nat} {L : List (Nat × mV)} {S : List mV} {g : mG} {d : mD} {Q : mQ} {i : Nat} {n : Int} (hd : decode (mC M) pc = .ok (.ldc i, 2)) (hp : pc + 2 = pc') (hk : Cond.constant (mOw M) i (Int32.ofInt n) ∈ BIG) (hi : iI n) (k0 : MW M bc bs pc' L (vI n :: S) g d Q) : MW M bc bs pc L S g d Q := by
  intro p l e s m args below meth c H locs cells slots X φ E ls hC hS hR hE hL hO hl hw hc hs
  obtain ⟨hx, hb, hml, hown, hts, hK, hT, hr, hlk, hnm, htb, hfl⟩ := id hC
  subst hp
  exact lv_ldc hx hb hown (hts _ hk) hd (k0 p l e s m args below meth c H locs cells slots X φ E ls hC hS hR hE hL ⟨hi, hO⟩ hl hw hc hs)
theorem mw_ldc2 {M : mM} {bc bs : Nat} {pc pc' : Nat} {L : List (Nat × mV)} {S : List mV} {g : mG} {d : mD} {Q : mQ} {i : Nat} {n : Int} (hd : decode (mC M) pc = .ok (.ldc2_w i, 3)) (hp : pc + 3 = pc') (hk : Cond.constantLong (mOw M) i (Int64.ofInt n) ∈ BIG) (hi : iL n) (k0 : MW M bc bs pc' L (vL n :: S) g d Q) : MW M bc bs pc L S g d Q := by
  intro p l e s m args below meth c H locs cells slots X φ E ls hC hS hR hE hL hO hl hw hc hs
  obtain ⟨hx, hb, hml, hown, hts, hK, hT, hr, hlk, hnm, htb, hfl⟩ := id hC
  subst hp
  exact lv_ldc2 hx hb hown (hts _ hk) hd (k0 p l e s m args below meth c H locs cells slots X φ E ls hC hS hR hE hL ⟨hi, hO⟩ hl hw hc hs)
theorem mw_lconst0 {M : mM} {bc bs : Nat} {pc pc' : Nat} {L : List (Nat × mV)} {S : List mV} {g : mG} {d : mD} {Q : mQ} (hd : decode (mC M) pc = .ok (.lconst 0, 1)) (hp : pc + 1 = pc') (k0 : MW M bc bs pc' L (vL 0 :: S) g d Q) : MW M bc bs pc L S g d Q := by
  intro p l e s m args below meth c H locs cells slots X φ E ls hC hS hR hE hL hO hl hw hc hs
  obtain ⟨hx, hb, hml, hown, hts, hK, hT, hr, hlk, hnm, htb, hfl⟩ := id hC
  subst hp
  exact lv_lconst hx hb hd rfl (k0 p l e s m args below meth c H locs cells slots X φ E ls hC hS hR hE hL ⟨(⟨by decide, by decide⟩ : iL _), hO⟩ hl hw hc hs)
theorem mw_lconst1 {M : mM} {bc bs : Nat} {pc pc' : Nat} {L : List (Nat × mV)} {S : List mV} {g : mG} {d : mD} {Q : mQ} (hd : decode (mC M) pc = .ok (.lconst 1, 1)) (hp : pc + 1 = pc') (k0 : MW M bc bs pc' L (vL 1 :: S) g d Q) : MW M bc bs pc L S g d Q := by
  intro p l e s m args below meth c H locs cells slots X φ E ls hC hS hR hE hL hO hl hw hc hs
  obtain ⟨hx, hb, hml, hown, hts, hK, hT, hr, hlk, hnm, htb, hfl⟩ := id hC
  subst hp
  exact lv_lconst hx hb hd rfl (k0 p l e s m args below meth c H locs cells slots X φ E ls hC hS hR hE hL ⟨(⟨by decide, by decide⟩ : iL _), hO⟩ hl hw hc hs)
theorem mw_iadd {M : mM} {bc bs : Nat} {pc pc' : Nat} {L : List (Nat × mV)} {S : List mV} {g : mG} {d : mD} {Q : mQ} {a b : Int} (hd : decode (mC M) pc = .ok (.iadd, 1)) (hp : pc + 1 = pc') (hi : iI (a + b)) (k0 : MW M bc bs pc' L (vI (a + b) :: S) g d Q) : MW M bc bs pc L (vI b :: vI a :: S) g d Q := by
  intro p l e s m args below meth c H locs cells slots X φ E ls hC hS hR hE hL hO hl hw hc hs
  obtain ⟨hx, hb, hml, hown, hts, hK, hT, hr, hlk, hnm, htb, hfl⟩ := id hC
  subst hp
  have h0 := k0 p l e s m args below meth c H locs cells slots X φ E ls hC hS hR hE hL ⟨hi, hO.2.2⟩ hl hw hc hs
  refine lv_iadd hx hb hd ?_
  rw [← Int32.ofInt_add]
  exact h0
theorem mw_isub {M : mM} {bc bs : Nat} {pc pc' : Nat} {L : List (Nat × mV)} {S : List mV} {g : mG} {d : mD} {Q : mQ} {a b : Int} (hd : decode (mC M) pc = .ok (.isub, 1)) (hp : pc + 1 = pc') (hi : iI (a - b)) (k0 : MW M bc bs pc' L (vI (a - b) :: S) g d Q) : MW M bc bs pc L (vI b :: vI a :: S) g d Q := by
  intro p l e s m args below meth c H locs cells slots X φ E ls hC hS hR hE hL hO hl hw hc hs
  obtain ⟨hx, hb, hml, hown, hts, hK, hT, hr, hlk, hnm, htb, hfl⟩ := id hC
  subst hp
  have h0 := k0 p l e s m args below meth c H locs cells slots X φ E ls hC hS hR hE hL ⟨hi, hO.2.2⟩ hl hw hc hs
  refine lv_isub hx hb hd ?_
  rw [← Int32.ofInt_sub]
  exact h0
theorem mw_imul {M : mM} {bc bs : Nat} {pc pc' : Nat} {L : List (Nat × mV)} {S : List mV} {g : mG} {d : mD} {Q : mQ} {a b : Int} (hd : decode (mC M) pc = .ok (.imul, 1)) (hp : pc + 1 = pc') (hi : iI (a * b)) (k0 : MW M bc bs pc' L (vI (a * b) :: S) g d Q) : MW M bc bs pc L (vI b :: vI a :: S) g d Q := by
  intro p l e s m args below meth c H locs cells slots X φ E ls hC hS hR hE hL hO hl hw hc hs
  obtain ⟨hx, hb, hml, hown, hts, hK, hT, hr, hlk, hnm, htb, hfl⟩ := id hC
  subst hp
  have h0 := k0 p l e s m args below meth c H locs cells slots X φ E ls hC hS hR hE hL ⟨hi, hO.2.2⟩ hl hw hc hs
  refine lv_imul hx hb hd ?_
  rw [← Int32.ofInt_mul]
  exact h0
theorem mw_dup {M : mM} {bc bs : Nat} {pc pc' : Nat} {L : List (Nat × mV)} {S : List mV} {g : mG} {d : mD} {Q : mQ} {v : mV} (hd : decode (mC M) pc = .ok (.dup, 1)) (hp : pc + 1 = pc') (hv : catV v = 1) (k0 : MW M bc bs pc' L (v :: v :: S) g d Q) : MW M bc bs pc L (v :: S) g d Q := by
  intro p l e s m args below meth c H locs cells slots X φ E ls hC hS hR hE hL hO hl hw hc hs
  obtain ⟨hx, hb, hml, hown, hts, hK, hT, hr, hlk, hnm, htb, hfl⟩ := id hC
  subst hp
  exact lv_dup hx hb hd ((cat_rv X φ v).trans hv) (k0 p l e s m args below meth c H locs cells slots X φ E ls hC hS hR hE hL ⟨hO.1, hO⟩ hl hw hc hs)
theorem mw_dup2 {M : mM} {bc bs : Nat} {pc pc' : Nat} {L : List (Nat × mV)} {S : List mV} {g : mG} {d : mD} {Q : mQ} {v w : mV} (hd : decode (mC M) pc = .ok (.dup2, 1)) (hp : pc + 1 = pc') (hv : catV v = 1) (hw0 : catV w = 1) (k0 : MW M bc bs pc' L (v :: w :: v :: w :: S) g d Q) : MW M bc bs pc L (v :: w :: S) g d Q := by
  intro p l e s m args below meth c H locs cells slots X φ E ls hC hS hR hE hL hO hl hw hc hs
  obtain ⟨hx, hb, hml, hown, hts, hK, hT, hr, hlk, hnm, htb, hfl⟩ := id hC
  subst hp
  exact lv_dup2_11 hx hb hd ((cat_rv X φ v).trans hv) ((cat_rv X φ w).trans hw0) (k0 p l e s m args below meth c H locs cells slots X φ E ls hC hS hR hE hL ⟨hO.1, hO.2.1, hO⟩ hl hw hc hs)
theorem mw_pop {M : mM} {bc bs : Nat} {pc pc' : Nat} {L : List (Nat × mV)} {S : List mV} {g : mG} {d : mD} {Q : mQ} {v : mV} (hd : decode (mC M) pc = .ok (.pop, 1)) (hp : pc + 1 = pc') (hv : catV v = 1) (k0 : MW M bc bs pc' L S g d Q) : MW M bc bs pc L (v :: S) g d Q := by
  intro p l e s m args below meth c H locs cells slots X φ E ls hC hS hR hE hL hO hl hw hc hs
  obtain ⟨hx, hb, hml, hown, hts, hK, hT, hr, hlk, hnm, htb, hfl⟩ := id hC
  subst hp
  exact lv_pop hx hb hd ((cat_rv X φ v).trans hv) (k0 p l e s m args below meth c H locs cells slots X φ E ls hC hS hR hE hL hO.2 hl hw hc hs)
theorem mw_icmp_eq {M : mM} {bc bs : Nat} {pc pc' : Nat} {L : List (Nat × mV)} {S : List mV} {g : mG} {d : mD} {Q : mQ} {a b off : Int} {tgt : Nat} (hd : decode (mC M) pc = .ok (.if_icmp .eq off, 3)) (hp : pc + 3 = pc') (ht : (pc : Int) + off = (tgt : Int)) (kt : a = b → MW M bc bs tgt L S g d Q) (kf : ¬ (a = b) → MW M bc bs pc' L S g d Q) : MW M bc bs pc L (vI b :: vI a :: S) g d Q := by
  intro p l e s m args below meth c H locs cells slots X φ E ls hC hS hR hE hL hO hl hw hc hs
  obtain ⟨hx, hb, hml, hown, hts, hK, hT, hr, hlk, hnm, htb, hfl⟩ := id hC
  subst hp
  exact lv_icmp_eq hx hb hd ht (fun h => (kt ((i_eq hO.2.1 hO.1).mp h)) p l e s m args below meth c H locs cells slots X φ E ls hC hS hR hE hL hO.2.2 hl hw hc hs) (fun h => (kf (fun q => h ((i_eq hO.2.1 hO.1).mpr q))) p l e s m args below meth c H locs cells slots X φ E ls hC hS hR hE hL hO.2.2 hl hw hc hs)
theorem mw_icmp_ne {M : mM} {bc bs : Nat} {pc pc' : Nat} {L : List (Nat × mV)} {S : List mV} {g : mG} {d : mD} {Q : mQ} {a b off : Int} {tgt : Nat} (hd : decode (mC M) pc = .ok (.if_icmp .ne off, 3)) (hp : pc + 3 = pc') (ht : (pc : Int) + off = (tgt : Int)) (kt : ¬ a = b → MW M bc bs tgt L S g d Q) (kf : a = b → MW M bc bs pc' L S g d Q) : MW M bc bs pc L (vI b :: vI a :: S) g d Q := by
  intro p l e s m args below meth c H locs cells slots X φ E ls hC hS hR hE hL hO hl hw hc hs
  obtain ⟨hx, hb, hml, hown, hts, hK, hT, hr, hlk, hnm, htb, hfl⟩ := id hC
  subst hp
  exact lv_icmp_ne hx hb hd ht (fun h => (kt (fun q => h ((i_eq hO.2.1 hO.1).mpr q))) p l e s m args below meth c H locs cells slots X φ E ls hC hS hR hE hL hO.2.2 hl hw hc hs) (fun h => (kf ((i_eq hO.2.1 hO.1).mp h)) p l e s m args below meth c H locs cells slots X φ E ls hC hS hR hE hL hO.2.2 hl hw hc hs)
theorem mw_icmp_lt {M : mM} {bc bs : Nat} {pc pc' : Nat} {L : List (Nat × mV)} {S : List mV} {g : mG} {d : mD} {Q : mQ} {a b off : Int} {tgt : Nat} (hd : decode (mC M) pc = .ok (.if_icmp .lt off, 3)) (hp : pc + 3 = pc') (ht : (pc : Int) + off = (tgt : Int)) (kt : a < b → MW M bc bs tgt L S g d Q) (kf : ¬ (a < b) → MW M bc bs pc' L S g d Q) : MW M bc bs pc L (vI b :: vI a :: S) g d Q := by
  intro p l e s m args below meth c H locs cells slots X φ E ls hC hS hR hE hL hO hl hw hc hs
  obtain ⟨hx, hb, hml, hown, hts, hK, hT, hr, hlk, hnm, htb, hfl⟩ := id hC
  subst hp
  exact lv_icmp_lt hx hb hd ht (fun h => (kt ((i_lt hO.2.1 hO.1).mp h)) p l e s m args below meth c H locs cells slots X φ E ls hC hS hR hE hL hO.2.2 hl hw hc hs) (fun h => (kf (fun q => h ((i_lt hO.2.1 hO.1).mpr q))) p l e s m args below meth c H locs cells slots X φ E ls hC hS hR hE hL hO.2.2 hl hw hc hs)
theorem mw_icmp_ge {M : mM} {bc bs : Nat} {pc pc' : Nat} {L : List (Nat × mV)} {S : List mV} {g : mG} {d : mD} {Q : mQ} {a b off : Int} {tgt : Nat} (hd : decode (mC M) pc = .ok (.if_icmp .ge off, 3)) (hp : pc + 3 = pc') (ht : (pc : Int) + off = (tgt : Int)) (kt : b ≤ a → MW M bc bs tgt L S g d Q) (kf : ¬ (b ≤ a) → MW M bc bs pc' L S g d Q) : MW M bc bs pc L (vI b :: vI a :: S) g d Q := by
  intro p l e s m args below meth c H locs cells slots X φ E ls hC hS hR hE hL hO hl hw hc hs
  obtain ⟨hx, hb, hml, hown, hts, hK, hT, hr, hlk, hnm, htb, hfl⟩ := id hC
  subst hp
  exact lv_icmp_ge hx hb hd ht (fun h => (kt ((i_le hO.1 hO.2.1).mp h)) p l e s m args below meth c H locs cells slots X φ E ls hC hS hR hE hL hO.2.2 hl hw hc hs) (fun h => (kf (fun q => h ((i_le hO.1 hO.2.1).mpr q))) p l e s m args below meth c H locs cells slots X φ E ls hC hS hR hE hL hO.2.2 hl hw hc hs)
theorem mw_icmp_gt {M : mM} {bc bs : Nat} {pc pc' : Nat} {L : List (Nat × mV)} {S : List mV} {g : mG} {d : mD} {Q : mQ} {a b off : Int} {tgt : Nat} (hd : decode (mC M) pc = .ok (.if_icmp .gt off, 3)) (hp : pc + 3 = pc') (ht : (pc : Int) + off = (tgt : Int)) (kt : b < a → MW M bc bs tgt L S g d Q) (kf : ¬ (b < a) → MW M bc bs pc' L S g d Q) : MW M bc bs pc L (vI b :: vI a :: S) g d Q := by
  intro p l e s m args below meth c H locs cells slots X φ E ls hC hS hR hE hL hO hl hw hc hs
  obtain ⟨hx, hb, hml, hown, hts, hK, hT, hr, hlk, hnm, htb, hfl⟩ := id hC
  subst hp
  exact lv_icmp_gt hx hb hd ht (fun h => (kt ((i_lt hO.1 hO.2.1).mp h)) p l e s m args below meth c H locs cells slots X φ E ls hC hS hR hE hL hO.2.2 hl hw hc hs) (fun h => (kf (fun q => h ((i_lt hO.1 hO.2.1).mpr q))) p l e s m args below meth c H locs cells slots X φ E ls hC hS hR hE hL hO.2.2 hl hw hc hs)
theorem mw_icmp_le {M : mM} {bc bs : Nat} {pc pc' : Nat} {L : List (Nat × mV)} {S : List mV} {g : mG} {d : mD} {Q : mQ} {a b off : Int} {tgt : Nat} (hd : decode (mC M) pc = .ok (.if_icmp .le off, 3)) (hp : pc + 3 = pc') (ht : (pc : Int) + off = (tgt : Int)) (kt : a ≤ b → MW M bc bs tgt L S g d Q) (kf : ¬ (a ≤ b) → MW M bc bs pc' L S g d Q) : MW M bc bs pc L (vI b :: vI a :: S) g d Q := by
  intro p l e s m args below meth c H locs cells slots X φ E ls hC hS hR hE hL hO hl hw hc hs
  obtain ⟨hx, hb, hml, hown, hts, hK, hT, hr, hlk, hnm, htb, hfl⟩ := id hC
  subst hp
  exact lv_icmp_le hx hb hd ht (fun h => (kt ((i_le hO.2.1 hO.1).mp h)) p l e s m args below meth c H locs cells slots X φ E ls hC hS hR hE hL hO.2.2 hl hw hc hs) (fun h => (kf (fun q => h ((i_le hO.2.1 hO.1).mpr q))) p l e s m args below meth c H locs cells slots X φ E ls hC hS hR hE hL hO.2.2 hl hw hc hs)
theorem mw_if_eq {M : mM} {bc bs : Nat} {pc pc' : Nat} {L : List (Nat × mV)} {S : List mV} {g : mG} {d : mD} {Q : mQ} {a off : Int} {tgt : Nat} (hd : decode (mC M) pc = .ok (.ifCond .eq off, 3)) (hp : pc + 3 = pc') (ht : (pc : Int) + off = (tgt : Int)) (kt : a = 0 → MW M bc bs tgt L S g d Q) (kf : ¬ (a = 0) → MW M bc bs pc' L S g d Q) : MW M bc bs pc L (vI a :: S) g d Q := by
  intro p l e s m args below meth c H locs cells slots X φ E ls hC hS hR hE hL hO hl hw hc hs
  obtain ⟨hx, hb, hml, hown, hts, hK, hT, hr, hlk, hnm, htb, hfl⟩ := id hC
  subst hp
  exact lv_if_eq hx hb hd ht (fun h => (kt ((i_eq hO.1 i_0).mp h)) p l e s m args below meth c H locs cells slots X φ E ls hC hS hR hE hL hO.2 hl hw hc hs) (fun h => (kf (fun q => h ((i_eq hO.1 i_0).mpr q))) p l e s m args below meth c H locs cells slots X φ E ls hC hS hR hE hL hO.2 hl hw hc hs)
theorem mw_if_ne {M : mM} {bc bs : Nat} {pc pc' : Nat} {L : List (Nat × mV)} {S : List mV} {g : mG} {d : mD} {Q : mQ} {a off : Int} {tgt : Nat} (hd : decode (mC M) pc = .ok (.ifCond .ne off, 3)) (hp : pc + 3 = pc') (ht : (pc : Int) + off = (tgt : Int)) (kt : ¬ a = 0 → MW M bc bs tgt L S g d Q) (kf : a = 0 → MW M bc bs pc' L S g d Q) : MW M bc bs pc L (vI a :: S) g d Q := by
  intro p l e s m args below meth c H locs cells slots X φ E ls hC hS hR hE hL hO hl hw hc hs
  obtain ⟨hx, hb, hml, hown, hts, hK, hT, hr, hlk, hnm, htb, hfl⟩ := id hC
  subst hp
  exact lv_if_ne hx hb hd ht (fun h => (kt (fun q => h ((i_eq hO.1 i_0).mpr q))) p l e s m args below meth c H locs cells slots X φ E ls hC hS hR hE hL hO.2 hl hw hc hs) (fun h => (kf ((i_eq hO.1 i_0).mp h)) p l e s m args below meth c H locs cells slots X φ E ls hC hS hR hE hL hO.2 hl hw hc hs)
theorem mw_if_lt {M : mM} {bc bs : Nat} {pc pc' : Nat} {L : List (Nat × mV)} {S : List mV} {g : mG} {d : mD} {Q : mQ} {a off : Int} {tgt : Nat} (hd : decode (mC M) pc = .ok (.ifCond .lt off, 3)) (hp : pc + 3 = pc') (ht : (pc : Int) + off = (tgt : Int)) (kt : a < 0 → MW M bc bs tgt L S g d Q) (kf : ¬ (a < 0) → MW M bc bs pc' L S g d Q) : MW M bc bs pc L (vI a :: S) g d Q := by
  intro p l e s m args below meth c H locs cells slots X φ E ls hC hS hR hE hL hO hl hw hc hs
  obtain ⟨hx, hb, hml, hown, hts, hK, hT, hr, hlk, hnm, htb, hfl⟩ := id hC
  subst hp
  exact lv_if_lt hx hb hd ht (fun h => (kt ((i_lt hO.1 i_0).mp h)) p l e s m args below meth c H locs cells slots X φ E ls hC hS hR hE hL hO.2 hl hw hc hs) (fun h => (kf (fun q => h ((i_lt hO.1 i_0).mpr q))) p l e s m args below meth c H locs cells slots X φ E ls hC hS hR hE hL hO.2 hl hw hc hs)
theorem mw_if_ge {M : mM} {bc bs : Nat} {pc pc' : Nat} {L : List (Nat × mV)} {S : List mV} {g : mG} {d : mD} {Q : mQ} {a off : Int} {tgt : Nat} (hd : decode (mC M) pc = .ok (.ifCond .ge off, 3)) (hp : pc + 3 = pc') (ht : (pc : Int) + off = (tgt : Int)) (kt : 0 ≤ a → MW M bc bs tgt L S g d Q) (kf : ¬ (0 ≤ a) → MW M bc bs pc' L S g d Q) : MW M bc bs pc L (vI a :: S) g d Q := by
  intro p l e s m args below meth c H locs cells slots X φ E ls hC hS hR hE hL hO hl hw hc hs
  obtain ⟨hx, hb, hml, hown, hts, hK, hT, hr, hlk, hnm, htb, hfl⟩ := id hC
  subst hp
  exact lv_if_ge hx hb hd ht (fun h => (kt ((i_le i_0 hO.1).mp h)) p l e s m args below meth c H locs cells slots X φ E ls hC hS hR hE hL hO.2 hl hw hc hs) (fun h => (kf (fun q => h ((i_le i_0 hO.1).mpr q))) p l e s m args below meth c H locs cells slots X φ E ls hC hS hR hE hL hO.2 hl hw hc hs)
theorem mw_if_gt {M : mM} {bc bs : Nat} {pc pc' : Nat} {L : List (Nat × mV)} {S : List mV} {g : mG} {d : mD} {Q : mQ} {a off : Int} {tgt : Nat} (hd : decode (mC M) pc = .ok (.ifCond .gt off, 3)) (hp : pc + 3 = pc') (ht : (pc : Int) + off = (tgt : Int)) (kt : 0 < a → MW M bc bs tgt L S g d Q) (kf : ¬ (0 < a) → MW M bc bs pc' L S g d Q) : MW M bc bs pc L (vI a :: S) g d Q := by
  intro p l e s m args below meth c H locs cells slots X φ E ls hC hS hR hE hL hO hl hw hc hs
  obtain ⟨hx, hb, hml, hown, hts, hK, hT, hr, hlk, hnm, htb, hfl⟩ := id hC
  subst hp
  exact lv_if_gt hx hb hd ht (fun h => (kt ((i_lt i_0 hO.1).mp h)) p l e s m args below meth c H locs cells slots X φ E ls hC hS hR hE hL hO.2 hl hw hc hs) (fun h => (kf (fun q => h ((i_lt i_0 hO.1).mpr q))) p l e s m args below meth c H locs cells slots X φ E ls hC hS hR hE hL hO.2 hl hw hc hs)
theorem mw_if_le {M : mM} {bc bs : Nat} {pc pc' : Nat} {L : List (Nat × mV)} {S : List mV} {g : mG} {d : mD} {Q : mQ} {a off : Int} {tgt : Nat} (hd : decode (mC M) pc = .ok (.ifCond .le off, 3)) (hp : pc + 3 = pc') (ht : (pc : Int) + off = (tgt : Int)) (kt : a ≤ 0 → MW M bc bs tgt L S g d Q) (kf : ¬ (a ≤ 0) → MW M bc bs pc' L S g d Q) : MW M bc bs pc L (vI a :: S) g d Q := by
  intro p l e s m args below meth c H locs cells slots X φ E ls hC hS hR hE hL hO hl hw hc hs
  obtain ⟨hx, hb, hml, hown, hts, hK, hT, hr, hlk, hnm, htb, hfl⟩ := id hC
  subst hp
  exact lv_if_le hx hb hd ht (fun h => (kt ((i_le hO.1 i_0).mp h)) p l e s m args below meth c H locs cells slots X φ E ls hC hS hR hE hL hO.2 hl hw hc hs) (fun h => (kf (fun q => h ((i_le hO.1 i_0).mpr q))) p l e s m args below meth c H locs cells slots X φ E ls hC hS hR hE hL hO.2 hl hw hc hs)
theorem mw_goto {M : mM} {bc bs : Nat} {pc pc' : Nat} {L : List (Nat × mV)} {S : List mV} {g : mG} {d : mD} {Q : mQ} {off : Int} {tgt : Nat} (hd : decode (mC M) pc = .ok (.goto off, 3)) (ht : (pc : Int) + off = (tgt : Int)) (k0 : MW M bc bs tgt L S g d Q) : MW M bc bs pc L S g d Q := by
  intro p l e s m args below meth c H locs cells slots X φ E ls hC hS hR hE hL hO hl hw hc hs
  exact lv_goto hC.1 hC.2.1 hd ht (k0 p l e s m args below meth c H locs cells slots X φ E ls hC hS hR hE hL hO hl hw hc hs)
theorem mw_loc {M : mM} {bc bs : Nat} {pc pc' : Nat} {L : List (Nat × mV)} {S : List mV} {g : mG} {d : mD} {Q : mQ} {L' : List (Nat × mV)} (ks : List Nat) (h : lpk L ks = L') (k0 : MW M bc bs pc L' S g d Q) : MW M bc bs pc L S g d Q := by
  intro p l e s m args below meth c H locs cells slots X φ E ls hC hS hR hE hL hO hl hw hc hs
  subst h
  have hsub : ∀ q ∈ lpk L ks, q ∈ L := fun q hq => by
    obtain ⟨k, -, hk⟩ := List.mem_filterMap.mp hq
    exact List.mem_of_getElem? hk
  exact k0 p l e s m args below meth c H locs cells slots X φ E ls hC hS hR hE (okl_of fun q hq => okl_mem hL (hsub q hq)) hO ⟨hl.1, hl.2.1, fun q hq => by obtain ⟨z, hz, rfl⟩ := List.mem_map.mp hq; exact hl.2.2 _ (List.mem_map.mpr ⟨z, hsub z hz, rfl⟩)⟩ hw hc hs
