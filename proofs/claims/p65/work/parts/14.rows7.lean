def gN (g : mG) : mG := (g.1, g.2.1 + 1, g.2.2)
def xN (φ : Nat → Nat) (n : Int) (q : Nat) : Nat → Nat := fun k => if k = n.toNat then q else φ k
theorem xN_xt {φ : Nat → Nat} {n : Int} {q : Nat} : xt φ (xN φ n q) n := fun k hk => if_neg (by omega)
theorem wE_ext {X : hX} {φ φ' : Nat → Nat} {n : Int} (h : xt φ φ' n) {g g' : mG} {d : mD} {a : Int} (hg : g'.2.2 = g.2.2) (hr : ∀ a j, g.2.2 a j < n) : wE X φ' g' d a = wE X φ g d a := by
  unfold wE
  have e1 : fvl X φ' g' d a = fvl X φ g d a := by
    funext j
    unfold fvl
    rw [hg, xt_val h X (v := (1, g.2.2 a j)) (hr a j)]
  have e2 : (fun k : Nat => if g'.2.2 a k < 0 then none else some (φ' (g'.2.2 a k).toNat)) = fun k : Nat => if g.2.2 a k < 0 then none else some (φ (g.2.2 a k).toNat) := by
    funext k
    rw [hg]
    by_cases h0 : g.2.2 a k < 0
    · rw [if_pos h0, if_pos h0]
    · rw [if_neg h0, if_neg h0, h _ (by have := hr a k; omega)]
  rw [e1, e2]
theorem wM_new {X : hX} {φ : Nat → Nat} {g : mG} {d : mD} {q : Nat} {e : va_E} (hn : 0 ≤ g.2.1) (hr : ∀ a j, g.2.2 a j < g.2.1) (he : e = wE X (xN φ g.2.1 q) (gN g) d g.2.1) : wM X φ g d ++ [(q, e)] = wM X (xN φ g.2.1 q) (gN g) d := by
  have e0 : (gN g).2.1.toNat = g.2.1.toNat + 1 := by show (g.2.1 + 1).toNat = _; omega
  unfold wM
  rw [e0, List.range_succ, List.map_append]
  congr 1
  · apply List.map_congr_left
    intro k hk
    have hk1 : k < g.2.1.toNat := List.mem_range.mp hk
    rw [wE_ext (φ := φ) (φ' := xN φ g.2.1 q) (n := g.2.1) xN_xt (g := g) (g' := gN g) rfl hr]
    show (φ k, _) = (xN φ g.2.1 q k, _)
    rw [show xN φ g.2.1 q k = φ k from if_neg (by omega)]
  · show [(q, e)] = [(xN φ g.2.1 q g.2.1.toNat, wE X (xN φ g.2.1 q) (gN g) d ((g.2.1.toNat : Nat) : Int))]
    rw [n_i hn, he, show xN φ g.2.1 q g.2.1.toNat = q from if_pos rfl]
theorem TY_new {g : mG} {d : mD} (hT : TY g d) (hn : g.2.1 < 479) : TY (gN g) d := by
  obtain ⟨h1, h2, h3, h4, h5, h6, h7, h8⟩ := hT
  refine ⟨h1, ?_, ?_, h4, fun a j ha hs => h5 a j ?_ hs, fun a j ha => h6 a j ?_, fun a j => ⟨(h7 a j).1, ?_⟩, h8⟩
  · show g.1 ≤ g.2.1 + 1; omega
  · show g.2.1 + 1 ≤ 479; omega
  · have : g.2.1 + 1 ≤ a := ha; omega
  · have : g.2.1 + 1 ≤ a := ha; omega
  · have := (h7 a j).2; show g.2.2 a j < g.2.1 + 1; omega
theorem vaP_iff {D : va_G} {cl : List vw_C} {ws : va_W} {H : Heap} : va_P D cl ws H ↔ ∀ q ∈ ws, va_at D cl q H := by
  constructor
  · intro h q hq
    obtain ⟨k, hk⟩ := List.getElem?_of_mem hq
    exact h k q hk
  · intro h k q hk
    exact h q (List.mem_of_getElem? hk)
theorem vaP_perm {D : va_G} {cl : List vw_C} {ws ws' : va_W} {H : Heap} (e : List.Perm ws ws') (h : va_P D cl ws H) : va_P D cl ws' H := vaP_iff.mpr fun q hq => vaP_iff.mp h q (e.mem_iff.mpr hq)
theorem vaD_iff {A : Nat → Prop} {ws : va_W} : va_D A ws ↔ (ws.map (fun q => q.1)).Nodup ∧ ∀ q ∈ ws, A q.1 := by
  constructor
  · intro h
    refine ⟨?_, fun q hq => ?_⟩
    · rw [List.nodup_iff_pairwise_ne, List.pairwise_iff_getElem]
      intro i j hi hj hij heq
      rw [List.getElem_map, List.getElem_map] at heq
      rw [List.length_map] at hi hj
      have := h.1 i j ws[i] ws[j] (List.getElem?_eq_getElem hi) (List.getElem?_eq_getElem hj) heq
      omega
    · obtain ⟨k, hk⟩ := List.getElem?_of_mem hq
      exact h.2 k q hk
  · intro h
    refine ⟨fun i j p q hp hq e => ?_, fun k q hk => h.2 q (List.mem_of_getElem? hk)⟩
    obtain ⟨hi, ei⟩ := List.getElem?_eq_some_iff.mp hp
    obtain ⟨hj, ej⟩ := List.getElem?_eq_some_iff.mp hq
    have h1 := h.1
    rw [List.nodup_iff_pairwise_ne, List.pairwise_iff_getElem] at h1
    rcases Nat.lt_trichotomy i j with c | c | c
    · exact absurd (by rw [List.getElem_map, List.getElem_map, ei, ej]; exact e) (h1 i j (by rw [List.length_map]; exact hi) (by rw [List.length_map]; exact hj) c)
    · exact c
    · exact absurd (by rw [List.getElem_map, List.getElem_map, ei, ej]; exact e.symm) (h1 j i (by rw [List.length_map]; exact hj) (by rw [List.length_map]; exact hi) c)
theorem vaD_perm {A : Nat → Prop} {ws ws' : va_W} (e : List.Perm ws ws') (h : va_D A ws) : va_D A ws' := by
  rw [vaD_iff] at h ⊢
  exact ⟨(List.Perm.nodup_iff (e.map _)).mp h.1, fun q hq => h.2 q (e.mem_iff.mpr hq)⟩
theorem RP_new {X : hX} {φ : Nat → Nat} {g : mG} {d : mD} {H H1 : Heap} {q : Nat} {e : va_E} (hR : RP X φ g d H) (hn : g.2.1 < 479) (he : e = wE X (xN φ g.2.1 q) (gN g) d g.2.1) (hP : va_P (xD X) mCls (wL X φ g d ++ [(q, e)]) H1) (hD : va_D (fun q => xB X ≤ q) (wL X φ g d ++ [(q, e)])) : RP X (xN φ g.2.1 q) (gN g) d H1 := by
  obtain ⟨-, -, hT, hs⟩ := hR
  have h0 : 0 ≤ g.2.1 := Int.le_trans hT.1 hT.2.1
  have e0 : List.Perm (wL X φ g d ++ [(q, e)]) (wL X (xN φ g.2.1 q) (gN g) d) := by
    unfold wL
    rw [← wM_new h0 (fun a j => (hT.2.2.2.2.2.2.1 a j).2) he, List.append_assoc, List.append_assoc]
    exact List.Perm.append_left _ List.perm_append_comm
  exact ⟨vaP_perm e0 hP, vaD_perm e0 hD, TY_new hT hn, hs⟩
theorem A0_new {X : hX} {s : State} (h : ST X s s.heap) : ∀ q, s.heap.size ≤ q → xA0 X q := fun q hq => Nat.le_trans h.2.2.2.2.2.2.2.1 hq
def FN (own : String) (idx ci : Nat) : Prop := ∃ (C : String) (T : u_T) (N : Nat) (tf : Nat → FieldType), mCls[ci]? = some (C, T, N) ∧ N = NF ci ∧ (∀ w ∈ u_ws C T N, w ∈ BIG) ∧ (∀ k, k < N → parseFieldDescriptor (T k).2.2.1 = some (tf k)) ∧ (∀ k, k < N → defaultValue (tf k) = if (FTl.getD ci []).getD k 0 = 9 then .null else .int 0) ∧ Cond.classLink own idx C ∈ BIG ∧ Cond.instantiable C N ∈ BIG ∧ Cond.initialized C ∈ BIG
theorem new_val {X : hX} {φ : Nat → Nat} {g : mG} {d : mD} {j ci : Nat} (hT : TY g d) (hk : LK g.2.1 = ci) (hci : ci < 100) : fvl X φ (gN g) d g.2.1 j = if (FTl.getD ci []).getD j 0 = 9 then .null else .int 0 := by
  have h5 := hT.2.2.2.2.1 g.2.1 j (Int.le_refl _) ⟨fun e => by have := hT.2.2.1; rw [e] at this; exact absurd this (by decide), fun e => by have := hT.2.2.1; rw [e] at this; exact absurd this (by decide)⟩
  have h6 := hT.2.2.2.2.2.1 g.2.1 j (Int.le_refl _)
  have hrc : RC g.2.1 j = (FTl.getD ci []).getD j 0 := by
    unfold RC
    rw [if_neg (fun q => absurd (Int.le_trans (show (0 : Int) ≤ (j : Int) by omega) (Int.le_of_eq q.2)) (by decide)), hk, if_pos hci]
    rfl
  unfold fvl
  rw [hrc]
  show (if _ then rv X φ (1, g.2.2 g.2.1 j) else _) = _
  rw [h5, h6]
  rfl
theorem mw_new {M : mM} {bc bs : Nat} {pc pc' : Nat} {L : List (Nat × mV)} {S : List mV} {g : mG} {d : mD} {Q : mQ} {idx ci : Nat} (hd : decode (mC M) pc = .ok (.new idx, 3)) (hp : pc + 3 = pc') (hf : FN (mOw M) idx ci) (hk : LK g.2.1 = ci) (hci : ci < 100) (hn : g.2.1 < 479) (hb1 : 1 ≤ bc) (hb2 : NF ci ≤ bs) (k0 : MW M (bc - 1) (bs - NF ci) pc' L (vR g.2.1 :: S) (gN g) d Q) : MW M bc bs pc L S g d Q := by
  intro p l e s m args below meth c H locs cells slots X φ E ls hC hS hR hE hL hO hl hw hc hs
  obtain ⟨hx, hb, hml, hown, hts, hK, hT, hr, hlk, hnm, htb, hfl⟩ := id hC
  obtain ⟨hP, hD, hTY, hsc⟩ := id hR
  subst hp
  obtain ⟨C, T, N, tf, f1, f2, f3, f4, f5, f6, f7, f8⟩ := hf
  subst f2
  have h0 : 0 ≤ g.2.1 := Int.le_trans hTY.1 hTY.2.1
  refine va_new (ci := ci) (fs := (List.range (NF ci)).map (fvl X φ (gN g) d g.2.1)) hx hb hts f3 tf f4 hown (hts _ f6) (hts _ f7) (hts _ f8) hK hP hD hS (A0_new hT) f1 (fun j hj => ?_) (by show _ ≤ mCe M; omega) (by show _ ≤ mSl M; omega) hd (fun q H1 hP1 hD1 hS1 => ?_)
  · rw [f5 j hj]
    show _ = ((List.range (NF ci)).map (fvl X φ (gN g) d g.2.1)).getD j .null
    rw [show ((List.range (NF ci)).map (fvl X φ (gN g) d g.2.1)).getD j .null = fvl X φ (gN g) d g.2.1 j from by rw [List.getD_eq_getElem?_getD, fvl_get hj]; rfl, new_val hTY hk hci]
  · have he : (.inr (ci, (List.range (NF ci)).map (fvl X φ (gN g) d g.2.1)) : va_E) = wE X (xN φ g.2.1 q) (gN g) d g.2.1 := by
      rw [wE_ext (φ := φ) (φ' := xN φ g.2.1 q) (n := g.2.1) xN_xt (g := gN g) (g' := gN g) rfl (fun a j => (hTY.2.2.2.2.2.2.1 a j).2), wE_o (by rw [hk]; exact hci), hk]
    have hR1 := RP_new hR hn he hP1 hD1
    have h1 := k0 p l e s m args below meth c H1 locs (cells + 1) (slots + NF ci) X (xN φ g.2.1 q) E ls hC hS1 hR1 ⟨xt.tr hE.1 xN_xt hE.2.1, by have := hE.2.1; show _ ≤ g.2.1 + 1; omega, hE.2.2⟩ (okl_mono (by show _ ≤ g.2.1 + 1; omega) hL) ⟨by show g.2.1 < g.2.1 + 1; omega, oks_mono (by show _ ≤ g.2.1 + 1; omega) hO⟩ (by rw [rvl_xt (φ' := xN φ g.2.1 q) xN_xt hL]; exact hl) hw (by omega) (by omega)
    rw [List.map_cons, rv_R h0, show xN φ g.2.1 q g.2.1.toNat = q from if_pos rfl, map_xt (φ' := xN φ g.2.1 q) xN_xt hO] at h1
    exact h1
theorem kA_of {X : hX} {s : State} (hK : KX X s) {t : Nat} {cA : ClassId} {ty : FieldType} (ht : (TYS X)[t]? = some (cA, ty)) (hty : ∀ C, ty ≠ .object C) : s.vm.findClass ("[" ++ ty.toString) = some cA := by
  have h := (hK.2 t _ ht).2
  cases ty with
  | object C => exact absurd rfl (hty C)
  | _ => exact h
theorem zero_row {g : mG} {d : mD} (hT : TY g d) : d g.2.1 = fun _ => 0 := by
  funext j
  exact hT.2.2.2.2.1 g.2.1 j (Int.le_refl _) ⟨fun e => by have := hT.2.2.1; rw [e] at this; exact absurd this (by decide), fun e => by have := hT.2.2.1; rw [e] at this; exact absurd this (by decide)⟩
theorem mw_newI {M : mM} {bc bs : Nat} {pc pc' : Nat} {L : List (Nat × mV)} {S : List mV} {g : mG} {d : mD} {Q : mQ} {n : Int} (hd : decode (mC M) pc = .ok (.newarray .int, 2)) (hp : pc + 2 = pc') (harr : Cond.arrayClass .int ∈ BIG) (hk : LK g.2.1 = 100) (hln : LN g.2.1 = n) (h0n : 0 ≤ n ∧ n ≤ 10000) (hn : g.2.1 < 479) (hb1 : 1 ≤ bc) (hb2 : n.toNat ≤ bs) (k0 : MW M (bc - 1) (bs - n.toNat) pc' L (vR g.2.1 :: S) (gN g) d Q) : MW M bc bs pc L (vI n :: S) g d Q := by
  intro p l e s m args below meth c H locs cells slots X φ E ls hC hS hR hE hL hO hl hw hc hs
  obtain ⟨hx, hb, hml, hown, hts, hK, hT, hr, hlk, hnm, htb, hfl⟩ := id hC
  obtain ⟨hP, hD, hTY, hsc⟩ := id hR
  subst hp
  have h0 : 0 ≤ g.2.1 := Int.le_trans hTY.1 hTY.2.1
  have hin : ¬ Int32.ofInt n < 0 := fun h => by
    have h9 : n < 0 := (i_lt hO.1 i_0).mp h
    omega
  refine va_newa (atype := .int) (ty := .int) (N' := n.toNat) (a0 := (n.toNat, .inl (fun _ => 0))) hx hb (hts _ harr) rfl hK hP hD hS (A0_new hT) (fun cA => rfl) hin (by show (Int32.ofInt n).toInt.toNat = _; rw [i_ok hO.1]) (Nat.le_trans (Nat.mul_le_mul_right _ (show n.toNat ≤ 10000 by omega)) (by decide)) (by show _ ≤ mCe M; omega) (by show _ ≤ mSl M; omega) hd (fun q cA H1 hK1 hP1 hD1 hS1 => ?_)
  have hcA : cA = xA X 100 := by
    have g1 := kA_of hK (t := 0) (cA := xA X 100) (ty := .int) rfl (fun C h => by cases h)
    have g2 := (hK1.2 (TYS X).length (cA, .int) (by rw [List.getElem?_append_right (Nat.le_refl _), Nat.sub_self]; rfl)).2
    exact Option.some.inj (g2.symm.trans g1)
  have he : (.inl (cA, n.toNat, .inl (fun _ => 0)) : va_E) = wE X (xN φ g.2.1 q) (gN g) d g.2.1 := by
    rw [wE_ext (φ := φ) (φ' := xN φ g.2.1 q) (n := g.2.1) xN_xt (g := gN g) (g' := gN g) rfl (fun a j => (hTY.2.2.2.2.2.2.1 a j).2), wE_i hk (by omega), hcA, hln, zero_row hTY]
    rfl
  have hR1 := RP_new hR hn he hP1 hD1
  have h1 := k0 p l e s m args below meth c H1 locs (cells + 1) (slots + n.toNat) X (xN φ g.2.1 q) E ls hC hS1 hR1 ⟨xt.tr hE.1 xN_xt hE.2.1, by have := hE.2.1; show _ ≤ g.2.1 + 1; omega, hE.2.2⟩ (okl_mono (by show _ ≤ g.2.1 + 1; omega) hL) ⟨by show g.2.1 < g.2.1 + 1; omega, oks_mono (by show _ ≤ g.2.1 + 1; omega) hO.2⟩ (by rw [rvl_xt (φ' := xN φ g.2.1 q) xN_xt hL]; exact hl) hw (by omega) (by omega)
  rw [List.map_cons, rv_R h0, show xN φ g.2.1 q g.2.1.toNat = q from if_pos rfl, map_xt (φ' := xN φ g.2.1 q) xN_xt hO.2] at h1
  exact h1
theorem mw_newC {M : mM} {bc bs : Nat} {pc pc' : Nat} {L : List (Nat × mV)} {S : List mV} {g : mG} {d : mD} {Q : mQ} {n : Int} (hd : decode (mC M) pc = .ok (.newarray .char, 2)) (hp : pc + 2 = pc') (harr : Cond.arrayClass .char ∈ BIG) (hk : LK g.2.1 = 101) (hln : LN g.2.1 = n) (h0n : 0 ≤ n ∧ n ≤ 10000) (hn : g.2.1 < 479) (hb1 : 1 ≤ bc) (hb2 : n.toNat ≤ bs) (k0 : MW M (bc - 1) (bs - n.toNat) pc' L (vR g.2.1 :: S) (gN g) d Q) : MW M bc bs pc L (vI n :: S) g d Q := by
  intro p l e s m args below meth c H locs cells slots X φ E ls hC hS hR hE hL hO hl hw hc hs
  obtain ⟨hx, hb, hml, hown, hts, hK, hT, hr, hlk, hnm, htb, hfl⟩ := id hC
  obtain ⟨hP, hD, hTY, hsc⟩ := id hR
  subst hp
  have h0 : 0 ≤ g.2.1 := Int.le_trans hTY.1 hTY.2.1
  have hin : ¬ Int32.ofInt n < 0 := fun h => by
    have h9 : n < 0 := (i_lt hO.1 i_0).mp h
    omega
  refine va_newa (atype := .char) (ty := .char) (N' := n.toNat) (a0 := (n.toNat, .inl (fun _ => 0))) hx hb (hts _ harr) rfl hK hP hD hS (A0_new hT) (fun cA => rfl) hin (by show (Int32.ofInt n).toInt.toNat = _; rw [i_ok hO.1]) (Nat.le_trans (Nat.mul_le_mul_right _ (show n.toNat ≤ 10000 by omega)) (by decide)) (by show _ ≤ mCe M; omega) (by show _ ≤ mSl M; omega) hd (fun q cA H1 hK1 hP1 hD1 hS1 => ?_)
  have hcA : cA = xA X 101 := by
    have g1 := kA_of hK (t := 1) (cA := xA X 101) (ty := .char) rfl (fun C h => by cases h)
    have g2 := (hK1.2 (TYS X).length (cA, .char) (by rw [List.getElem?_append_right (Nat.le_refl _), Nat.sub_self]; rfl)).2
    exact Option.some.inj (g2.symm.trans g1)
  have he : (.inl (cA, n.toNat, .inl (fun _ => 0)) : va_E) = wE X (xN φ g.2.1 q) (gN g) d g.2.1 := by
    rw [wE_ext (φ := φ) (φ' := xN φ g.2.1 q) (n := g.2.1) xN_xt (g := gN g) (g' := gN g) rfl (fun a j => (hTY.2.2.2.2.2.2.1 a j).2), wE_i hk (by omega), hcA, hln, zero_row hTY]
    rfl
  have hR1 := RP_new hR hn he hP1 hD1
  have h1 := k0 p l e s m args below meth c H1 locs (cells + 1) (slots + n.toNat) X (xN φ g.2.1 q) E ls hC hS1 hR1 ⟨xt.tr hE.1 xN_xt hE.2.1, by have := hE.2.1; show _ ≤ g.2.1 + 1; omega, hE.2.2⟩ (okl_mono (by show _ ≤ g.2.1 + 1; omega) hL) ⟨by show g.2.1 < g.2.1 + 1; omega, oks_mono (by show _ ≤ g.2.1 + 1; omega) hO.2⟩ (by rw [rvl_xt (φ' := xN φ g.2.1 q) xN_xt hL]; exact hl) hw (by omega) (by omega)
  rw [List.map_cons, rv_R h0, show xN φ g.2.1 q g.2.1.toNat = q from if_pos rfl, map_xt (φ' := xN φ g.2.1 q) xN_xt hO.2] at h1
  exact h1
theorem mw_newZ {M : mM} {bc bs : Nat} {pc pc' : Nat} {L : List (Nat × mV)} {S : List mV} {g : mG} {d : mD} {Q : mQ} {n : Int} (hd : decode (mC M) pc = .ok (.newarray .boolean, 2)) (hp : pc + 2 = pc') (harr : Cond.arrayClass .boolean ∈ BIG) (hk : LK g.2.1 = 102) (hln : LN g.2.1 = n) (h0n : 0 ≤ n ∧ n ≤ 10000) (hn : g.2.1 < 479) (hb1 : 1 ≤ bc) (hb2 : n.toNat ≤ bs) (k0 : MW M (bc - 1) (bs - n.toNat) pc' L (vR g.2.1 :: S) (gN g) d Q) : MW M bc bs pc L (vI n :: S) g d Q := by
  intro p l e s m args below meth c H locs cells slots X φ E ls hC hS hR hE hL hO hl hw hc hs
  obtain ⟨hx, hb, hml, hown, hts, hK, hT, hr, hlk, hnm, htb, hfl⟩ := id hC
  obtain ⟨hP, hD, hTY, hsc⟩ := id hR
  subst hp
  have h0 : 0 ≤ g.2.1 := Int.le_trans hTY.1 hTY.2.1
  have hin : ¬ Int32.ofInt n < 0 := fun h => by
    have h9 : n < 0 := (i_lt hO.1 i_0).mp h
    omega
  refine va_newa (atype := .boolean) (ty := .boolean) (N' := n.toNat) (a0 := (n.toNat, .inl (fun _ => 0))) hx hb (hts _ harr) rfl hK hP hD hS (A0_new hT) (fun cA => rfl) hin (by show (Int32.ofInt n).toInt.toNat = _; rw [i_ok hO.1]) (Nat.le_trans (Nat.mul_le_mul_right _ (show n.toNat ≤ 10000 by omega)) (by decide)) (by show _ ≤ mCe M; omega) (by show _ ≤ mSl M; omega) hd (fun q cA H1 hK1 hP1 hD1 hS1 => ?_)
  have hcA : cA = xA X 102 := by
    have g1 := kA_of hK (t := 2) (cA := xA X 102) (ty := .boolean) rfl (fun C h => by cases h)
    have g2 := (hK1.2 (TYS X).length (cA, .boolean) (by rw [List.getElem?_append_right (Nat.le_refl _), Nat.sub_self]; rfl)).2
    exact Option.some.inj (g2.symm.trans g1)
  have he : (.inl (cA, n.toNat, .inl (fun _ => 0)) : va_E) = wE X (xN φ g.2.1 q) (gN g) d g.2.1 := by
    rw [wE_ext (φ := φ) (φ' := xN φ g.2.1 q) (n := g.2.1) xN_xt (g := gN g) (g' := gN g) rfl (fun a j => (hTY.2.2.2.2.2.2.1 a j).2), wE_i hk (by omega), hcA, hln, zero_row hTY]
    rfl
  have hR1 := RP_new hR hn he hP1 hD1
  have h1 := k0 p l e s m args below meth c H1 locs (cells + 1) (slots + n.toNat) X (xN φ g.2.1 q) E ls hC hS1 hR1 ⟨xt.tr hE.1 xN_xt hE.2.1, by have := hE.2.1; show _ ≤ g.2.1 + 1; omega, hE.2.2⟩ (okl_mono (by show _ ≤ g.2.1 + 1; omega) hL) ⟨by show g.2.1 < g.2.1 + 1; omega, oks_mono (by show _ ≤ g.2.1 + 1; omega) hO.2⟩ (by rw [rvl_xt (φ' := xN φ g.2.1 q) xN_xt hL]; exact hl) hw (by omega) (by omega)
  rw [List.map_cons, rv_R h0, show xN φ g.2.1 q g.2.1.toNat = q from if_pos rfl, map_xt (φ' := xN φ g.2.1 q) xN_xt hO.2] at h1
  exact h1
theorem mw_newJ {M : mM} {bc bs : Nat} {pc pc' : Nat} {L : List (Nat × mV)} {S : List mV} {g : mG} {d : mD} {Q : mQ} {n : Int} (hd : decode (mC M) pc = .ok (.newarray .long, 2)) (hp : pc + 2 = pc') (harr : Cond.arrayClass .long ∈ BIG) (hk : LK g.2.1 = 103) (hln : LN g.2.1 = n) (h0n : 0 ≤ n ∧ n ≤ 10000) (hn : g.2.1 < 479) (hb1 : 1 ≤ bc) (hb2 : n.toNat ≤ bs) (k0 : MW M (bc - 1) (bs - n.toNat) pc' L (vR g.2.1 :: S) (gN g) d Q) : MW M bc bs pc L (vI n :: S) g d Q := by
  intro p l e s m args below meth c H locs cells slots X φ E ls hC hS hR hE hL hO hl hw hc hs
  obtain ⟨hx, hb, hml, hown, hts, hK, hT, hr, hlk, hnm, htb, hfl⟩ := id hC
  obtain ⟨hP, hD, hTY, hsc⟩ := id hR
  subst hp
  have h0 : 0 ≤ g.2.1 := Int.le_trans hTY.1 hTY.2.1
  have hin : ¬ Int32.ofInt n < 0 := fun h => by
    have h9 : n < 0 := (i_lt hO.1 i_0).mp h
    omega
  refine va_newa (atype := .long) (ty := .long) (N' := n.toNat) (a0 := (n.toNat, .inr (.inl (fun _ => 0)))) hx hb (hts _ harr) rfl hK hP hD hS (A0_new hT) (fun cA => rfl) hin (by show (Int32.ofInt n).toInt.toNat = _; rw [i_ok hO.1]) (Nat.le_trans (Nat.mul_le_mul_right _ (show n.toNat ≤ 10000 by omega)) (by decide)) (by show _ ≤ mCe M; omega) (by show _ ≤ mSl M; omega) hd (fun q cA H1 hK1 hP1 hD1 hS1 => ?_)
  have hcA : cA = xA X 103 := by
    have g1 := kA_of hK (t := 3) (cA := xA X 103) (ty := .long) rfl (fun C h => by cases h)
    have g2 := (hK1.2 (TYS X).length (cA, .long) (by rw [List.getElem?_append_right (Nat.le_refl _), Nat.sub_self]; rfl)).2
    exact Option.some.inj (g2.symm.trans g1)
  have he : (.inl (cA, n.toNat, .inr (.inl (fun _ => 0))) : va_E) = wE X (xN φ g.2.1 q) (gN g) d g.2.1 := by
    rw [wE_ext (φ := φ) (φ' := xN φ g.2.1 q) (n := g.2.1) xN_xt (g := gN g) (g' := gN g) rfl (fun a j => (hTY.2.2.2.2.2.2.1 a j).2), wE_l hk, hcA, hln, zero_row hTY]
    rfl
  have hR1 := RP_new hR hn he hP1 hD1
  have h1 := k0 p l e s m args below meth c H1 locs (cells + 1) (slots + n.toNat) X (xN φ g.2.1 q) E ls hC hS1 hR1 ⟨xt.tr hE.1 xN_xt hE.2.1, by have := hE.2.1; show _ ≤ g.2.1 + 1; omega, hE.2.2⟩ (okl_mono (by show _ ≤ g.2.1 + 1; omega) hL) ⟨by show g.2.1 < g.2.1 + 1; omega, oks_mono (by show _ ≤ g.2.1 + 1; omega) hO.2⟩ (by rw [rvl_xt (φ' := xN φ g.2.1 q) xN_xt hL]; exact hl) hw (by omega) (by omega)
  rw [List.map_cons, rv_R h0, show xN φ g.2.1 q g.2.1.toNat = q from if_pos rfl, map_xt (φ' := xN φ g.2.1 q) xN_xt hO.2] at h1
  exact h1
theorem mw_newQ {M : mM} {bc bs : Nat} {pc pc' : Nat} {L : List (Nat × mV)} {S : List mV} {g : mG} {d : mD} {Q : mQ} {n : Int} {idx : Nat} (hd : decode (mC M) pc = .ok (.anewarray idx, 3)) (hp : pc + 3 = pc') (hcl : Cond.classLink (mOw M) idx "TollClock$Docket" ∈ BIG) (hk : LK g.2.1 = 105) (hln : LN g.2.1 = n) (h0n : 0 ≤ n ∧ n ≤ 10000) (hn : g.2.1 < 479) (hb1 : 1 ≤ bc) (hb2 : n.toNat ≤ bs) (k0 : MW M (bc - 1) (bs - n.toNat) pc' L (vR g.2.1 :: S) (gN g) d Q) : MW M bc bs pc L (vI n :: S) g d Q := by
  intro p l e s m args below meth c H locs cells slots X φ E ls hC hS hR hE hL hO hl hw hc hs
  obtain ⟨hx, hb, hml, hown, hts, hK, hT, hr, hlk, hnm, htb, hfl⟩ := id hC
  obtain ⟨hP, hD, hTY, hsc⟩ := id hR
  subst hp
  have h0 : 0 ≤ g.2.1 := Int.le_trans hTY.1 hTY.2.1
  have hin : ¬ Int32.ofInt n < 0 := fun h => by
    have h9 : n < 0 := (i_lt hO.1 i_0).mp h
    omega
  refine va_newq (C := "TollClock$Docket") (N' := n.toNat) hx hb hown (hts _ hcl) hT.2.2.2.2.2.2.2.2.2.1 hK hP hD hS (A0_new hT) hin (by show (Int32.ofInt n).toInt.toNat = _; rw [i_ok hO.1]) (Nat.le_trans (Nat.mul_le_mul_right _ (show n.toNat ≤ 10000 by omega)) (by decide)) (by show _ ≤ mCe M; omega) (by show _ ≤ mSl M; omega) hd (fun q cA H1 hK1 hP1 hD1 hS1 => ?_)
  have hcA : cA = xA X 105 := by
    obtain ⟨_, _, _, _, _, g1⟩ := (hK.2 5 (xA X 105, .object "TollClock$Docket") rfl).2
    obtain ⟨_, _, _, _, _, g2⟩ := (hK1.2 (TYS X).length (cA, .object "TollClock$Docket") (by rw [List.getElem?_append_right (Nat.le_refl _), Nat.sub_self]; rfl)).2
    exact Option.some.inj (g2.symm.trans g1)
  have hz : g.2.2 g.2.1 = fun _ => -1 := by
    funext j
    exact hTY.2.2.2.2.2.1 g.2.1 j (Int.le_refl _)
  have he : (.inl (cA, n.toNat, .inr (.inr (.inr (.inr (fun _ => none))))) : va_E) = wE X (xN φ g.2.1 q) (gN g) d g.2.1 := by
    rw [wE_ext (φ := φ) (φ' := xN φ g.2.1 q) (n := g.2.1) xN_xt (g := gN g) (g' := gN g) rfl (fun a j => (hTY.2.2.2.2.2.2.1 a j).2), wE_q hk, hcA, hln]
    show _ = (.inl (_, _, .inr (.inr (.inr (.inr (fun k : Nat => if g.2.2 g.2.1 k < 0 then none else some (φ (g.2.2 g.2.1 k).toNat)))))) : va_E)
    rw [hz]
    rfl
  have hR1 := RP_new hR hn he hP1 hD1
  have h1 := k0 p l e s m args below meth c H1 locs (cells + 1) (slots + n.toNat) X (xN φ g.2.1 q) E ls hC hS1 hR1 ⟨xt.tr hE.1 xN_xt hE.2.1, by have := hE.2.1; show _ ≤ g.2.1 + 1; omega, hE.2.2⟩ (okl_mono (by show _ ≤ g.2.1 + 1; omega) hL) ⟨by show g.2.1 < g.2.1 + 1; omega, oks_mono (by show _ ≤ g.2.1 + 1; omega) hO.2⟩ (by rw [rvl_xt (φ' := xN φ g.2.1 q) xN_xt hL]; exact hl) hw (by omega) (by omega)
  rw [List.map_cons, rv_R h0, show xN φ g.2.1 q g.2.1.toNat = q from if_pos rfl, map_xt (φ' := xN φ g.2.1 q) xN_xt hO.2] at h1
  exact h1
