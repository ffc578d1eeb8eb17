-- rows for constructors
theorem mw_iastG {M : mM} {bc bs : Nat} {pc pc' : Nat} {L : List (Nat × mV)} {S : List mV} {g : mG} {d : mD} {Q : mQ} {a i v : Int} (hd : decode (mC M) pc = .ok (.iastore, 1)) (hp : pc + 1 = pc') (hk : LK a = 100) (ha1 : 0 ≤ a ∧ a < g.2.1) (hi : 0 ≤ i ∧ i < LN a) (k0 : MW M bc bs pc' L S g (ud d a i v) Q) : MW M bc bs pc L (vI v :: vI i :: vR a :: S) g d Q := by
  intro p l e s m args below meth c H locs cells slots X φ E ls hC hS hR hE hL hO hl hw hc hs
  obtain ⟨hx, hb, hml, hown, hts, hK, hT, hr, hlk, hnm, htb, hfl⟩ := id hC
  obtain ⟨hP, hD, hTY, hsc⟩ := id hR
  subst hp
  obtain ⟨hin, hix⟩ := i_idx hi hO.2.1
  rw [List.map_cons, List.map_cons, List.map_cons, rv_R ha1.1]
  refine va_iast hx hb hK hP hD hS a.toNat 0 ((wL_get ha1).trans (by rw [wE_i hk (by omega)])) rfl hin hd (fun H1 locs1 hP1 hD1 hS1 => ?_)
  rw [hix] at hP1 hD1
  rw [upd_ud hi.1] at hP1 hD1
  have hR1 := RP_put (i := i) (v := v) hR ha1 ((wE_i hk (by omega)).symm) (by rw [RC_arr hk (by omega)]; exact hO.1) hP1 hD1
  exact k0 p l e s m args below meth c H1 locs1 cells slots X φ E ls hC hS1 hR1 hE hL hO.2.2.2 hl hw hc hs
theorem mw_zastG {M : mM} {bc bs : Nat} {pc pc' : Nat} {L : List (Nat × mV)} {S : List mV} {g : mG} {d : mD} {Q : mQ} {a i v : Int} (hd : decode (mC M) pc = .ok (.bastore, 1)) (hp : pc + 1 = pc') (hk : LK a = 102) (ha1 : 0 ≤ a ∧ a < g.2.1) (hi : 0 ≤ i ∧ i < LN a) (hv : 0 ≤ v ∧ v ≤ 1) (k0 : MW M bc bs pc' L S g (ud d a i v) Q) : MW M bc bs pc L (vI v :: vI i :: vR a :: S) g d Q := by
  intro p l e s m args below meth c H locs cells slots X φ E ls hC hS hR hE hL hO hl hw hc hs
  obtain ⟨hx, hb, hml, hown, hts, hK, hT, hr, hlk, hnm, htb, hfl⟩ := id hC
  obtain ⟨hP, hD, hTY, hsc⟩ := id hR
  subst hp
  obtain ⟨hin, hix⟩ := i_idx hi hO.2.1
  rw [List.map_cons, List.map_cons, List.map_cons, rv_R ha1.1]
  refine va_zast hx hb hK hP hD hS a.toNat 2 ((wL_get ha1).trans (by rw [wE_i hk (by omega)])) rfl hin hd (fun H1 locs1 hP1 hD1 hS1 => ?_)
  rw [hix] at hP1 hD1
  rw [nar_z hv] at hP1 hD1
  rw [upd_ud hi.1] at hP1 hD1
  have hR1 := RP_put (i := i) (v := v) hR ha1 ((wE_i hk (by omega)).symm) (by rw [RC_arr hk (by omega)]; exact hv) hP1 hD1
  exact k0 p l e s m args below meth c H1 locs1 cells slots X φ E ls hC hS1 hR1 hE hL hO.2.2.2 hl hw hc hs
theorem isD.lim {A : Int} (h : isD A) : 6 ≤ A ∧ A + 46 ≤ 479 := by
  rcases h with rfl | ⟨k, h1, h2, rfl⟩
  · decide
  · omega
theorem mw_newO {M : mM} {bc bs : Nat} {pc pc' : Nat} {L : List (Nat × mV)} {S : List mV} {a a' n1 : Int} {r : mR} {d : mD} {Q : mQ} {idx ci : Nat} (hd : decode (mC M) pc = .ok (.new idx, 3)) (hp : pc + 3 = pc') (hf : FN (mOw M) idx ci) (hk : LK a = ci) (hc : ci < 100 ∧ 1 ≤ bc ∧ NF ci ≤ bs) (ha : a < 479 ∧ a + 1 = a') (k0 : MW M (bc - 1) (bs - NF ci) pc' L (vR a :: S) (n1, a', r) d Q) : MW M bc bs pc L S (n1, a, r) d Q := by
  obtain ⟨ha1, rfl⟩ := ha
  exact mw_new hd hp hf hk hc.1 ha1 hc.2.1 hc.2.2 k0
theorem ac_I : Cond.arrayClass .int ∈ BIG := bw_77
theorem ac_C : Cond.arrayClass .char ∈ BIG := bw_51
theorem ac_Z : Cond.arrayClass .boolean ∈ BIG := bw_119
theorem ac_J : Cond.arrayClass .long ∈ BIG := goodW 320 (by decide +kernel) rfl
theorem mw_newIO {M : mM} {bc bs : Nat} {pc pc' : Nat} {L : List (Nat × mV)} {S : List mV} {a a' n1 n : Int} {r : mR} {d : mD} {Q : mQ} (hd : decode (mC M) pc = .ok (.newarray .int, 2)) (hp : pc + 2 = pc') (hk : LK a = 100) (hln : LN a = n) (hc : (0 ≤ n ∧ n ≤ 10000) ∧ 1 ≤ bc ∧ n.toNat ≤ bs) (ha : a < 479 ∧ a + 1 = a') (k0 : MW M (bc - 1) (bs - n.toNat) pc' L (vR a :: S) (n1, a', r) d Q) : MW M bc bs pc L (vI n :: S) (n1, a, r) d Q := by
  obtain ⟨ha1, rfl⟩ := ha
  exact mw_newI hd hp ac_I hk hln hc.1 ha1 hc.2.1 hc.2.2 k0
theorem mw_newCO {M : mM} {bc bs : Nat} {pc pc' : Nat} {L : List (Nat × mV)} {S : List mV} {a a' n1 n : Int} {r : mR} {d : mD} {Q : mQ} (hd : decode (mC M) pc = .ok (.newarray .char, 2)) (hp : pc + 2 = pc') (hk : LK a = 101) (hln : LN a = n) (hc : (0 ≤ n ∧ n ≤ 10000) ∧ 1 ≤ bc ∧ n.toNat ≤ bs) (ha : a < 479 ∧ a + 1 = a') (k0 : MW M (bc - 1) (bs - n.toNat) pc' L (vR a :: S) (n1, a', r) d Q) : MW M bc bs pc L (vI n :: S) (n1, a, r) d Q := by
  obtain ⟨ha1, rfl⟩ := ha
  exact mw_newC hd hp ac_C hk hln hc.1 ha1 hc.2.1 hc.2.2 k0
theorem mw_newZO {M : mM} {bc bs : Nat} {pc pc' : Nat} {L : List (Nat × mV)} {S : List mV} {a a' n1 n : Int} {r : mR} {d : mD} {Q : mQ} (hd : decode (mC M) pc = .ok (.newarray .boolean, 2)) (hp : pc + 2 = pc') (hk : LK a = 102) (hln : LN a = n) (hc : (0 ≤ n ∧ n ≤ 10000) ∧ 1 ≤ bc ∧ n.toNat ≤ bs) (ha : a < 479 ∧ a + 1 = a') (k0 : MW M (bc - 1) (bs - n.toNat) pc' L (vR a :: S) (n1, a', r) d Q) : MW M bc bs pc L (vI n :: S) (n1, a, r) d Q := by
  obtain ⟨ha1, rfl⟩ := ha
  exact mw_newZ hd hp ac_Z hk hln hc.1 ha1 hc.2.1 hc.2.2 k0
theorem mw_newJO {M : mM} {bc bs : Nat} {pc pc' : Nat} {L : List (Nat × mV)} {S : List mV} {a a' n1 n : Int} {r : mR} {d : mD} {Q : mQ} (hd : decode (mC M) pc = .ok (.newarray .long, 2)) (hp : pc + 2 = pc') (hk : LK a = 103) (hln : LN a = n) (hc : (0 ≤ n ∧ n ≤ 10000) ∧ 1 ≤ bc ∧ n.toNat ≤ bs) (ha : a < 479 ∧ a + 1 = a') (k0 : MW M (bc - 1) (bs - n.toNat) pc' L (vR a :: S) (n1, a', r) d Q) : MW M bc bs pc L (vI n :: S) (n1, a, r) d Q := by
  obtain ⟨ha1, rfl⟩ := ha
  exact mw_newJ hd hp ac_J hk hln hc.1 ha1 hc.2.1 hc.2.2 k0
theorem mw_newQO {M : mM} {bc bs : Nat} {pc pc' : Nat} {L : List (Nat × mV)} {S : List mV} {a a' n1 n : Int} {r : mR} {d : mD} {Q : mQ} {idx : Nat} (hd : decode (mC M) pc = .ok (.anewarray idx, 3)) (hp : pc + 3 = pc') (hcl : Cond.classLink (mOw M) idx "TollClock$Docket" ∈ BIG) (hk : LK a = 105) (hln : LN a = n) (hc : (0 ≤ n ∧ n ≤ 10000) ∧ 1 ≤ bc ∧ n.toNat ≤ bs) (ha : a < 479 ∧ a + 1 = a') (k0 : MW M (bc - 1) (bs - n.toNat) pc' L (vR a :: S) (n1, a', r) d Q) : MW M bc bs pc L (vI n :: S) (n1, a, r) d Q := by
  obtain ⟨ha1, rfl⟩ := ha
  exact mw_newQ hd hp hcl hk hln hc.1 ha1 hc.2.1 hc.2.2 k0
theorem mw_putO {M : mM} {bc bs : Nat} {pc pc' : Nat} {L : List (Nat × mV)} {S : List mV} {a v n1 n2 ji : Int} {r : mR} {d : mD} {Q : mQ} {idx ci j : Nat} {ty : FieldType} (hd : decode (mC M) pc = .ok (.putfield idx, 3)) (hp : pc + 3 = pc') (hk : LK a = ci) (hf : FP (mOw M) idx ci j ty true) (hj : (j : Int) = ji) (hty : (∃ n, ty = .object n) ∨ ∃ t, ty = .array t) (hin : (mY M).name = "<init>") (hl : ∀ (C : String) (T : u_T) (N : Nat), mCls[ci]? = some (C, T, N) → Cond.fieldLink (mOw M) idx C (T j).2.1 (T j).2.2.1 ∈ BIG) (hc : ci < 100 ∧ (FTl.getD ci []).getD j 0 = 9 ∧ (mCls[ci]?).map (fun q => q.1) = some (mOw M)) (ha : (0 ≤ v ∧ 0 ≤ a) ∧ a < n2 ∧ n1 ≤ a) (k0 : MW M bc bs pc' L S (n1, n2, ur r a ji v) d Q) : MW M bc bs pc L (vR v :: vR a :: S) (n1, n2, r) d Q := by
  obtain ⟨hci, h9, hcl⟩ := hc
  subst hj
  exact mw_putR hd hp (by rw [hk]; exact hf) (by omega) rfl ((RC_c hk hci).trans h9) (by rw [hk]; exact hcl) hin hty ha.1.1 ⟨ha.1.2, ha.2.1⟩ ha.2.2 (by rw [hk]; exact hl) k0
theorem mw_getO {M : mM} {bc bs : Nat} {pc pc' : Nat} {L : List (Nat × mV)} {S : List mV} {a v n1 n2 ji : Int} {r : mR} {d : mD} {Q : mQ} {idx ci j : Nat} (hd : decode (mC M) pc = .ok (.getfield idx, 3)) (hp : pc + 3 = pc') (hk : LK a = ci) (hf : FG (mOw M) idx ci j) (hj : (j : Int) = ji) (hc : ci < 100 ∧ (FTl.getD ci []).getD j 0 = 9) (ha : 0 ≤ a ∧ a < n2) (hv : r a ji = v) (k0 : MW M bc bs pc' L (vR v :: S) (n1, n2, r) d Q) : MW M bc bs pc L (vR a :: S) (n1, n2, r) d Q := by
  subst hv hj
  exact mw_getR hd hp ⟨by rw [hk]; exact hf, by omega, (RC_c hk hc.1).trans hc.2, ha.1⟩ rfl ha k0
theorem mw_putIO {M : mM} {bc bs : Nat} {pc pc' : Nat} {L : List (Nat × mV)} {S : List mV} {a ji x : Int} {g : mG} {d : mD} {Q : mQ} {idx ci j : Nat} (hd : decode (mC M) pc = .ok (.putfield idx, 3)) (hp : pc + 3 = pc') (hk : LK a = ci) (hf : FP (mOw M) idx ci j .int false) (hj : (j : Int) = ji) (hc : ci < 100 ∧ (FTl.getD ci []).getD j 0 = 0) (ha : 0 ≤ a ∧ a < g.2.1) (k0 : MW M bc bs pc' L S g (ud d a ji x) Q) : MW M bc bs pc L (vI x :: vR a :: S) g d Q := by
  subst hj
  exact mw_putI hd hp (by rw [hk]; exact hf) (by omega) rfl (Or.inl ⟨rfl, (RC_c hk hc.1).trans hc.2⟩) (Or.inr rfl) ha k0
theorem oi_na : Cond.instanceMethod Lib.objectInit ∈ BIG ∧ Cond.code Lib.objectInit ⟨#[0xb1]⟩ 1 none ∈ BIG := ⟨goodW 34 (by decide +kernel) rfl, goodW 35 (by decide +kernel) rfl⟩
-- which references have been written
def NR (A : Int) (l : List (Int × Int × Int)) (r r' : mR) : Prop := (∀ a j : Int, (∀ q ∈ l, ¬ (a = A + q.1 ∧ j = q.2.1)) → r' a j = r a j) ∧ ∀ q ∈ l, r' (A + q.1) q.2.1 = A + q.2.2
theorem NR.on {A o j v : Int} {r : mR} : NR A [(o, j, v)] r (ur r (A + o) j (A + v)) := by
  refine ⟨fun a i h => ?_, fun q hq => ?_⟩
  · exact ur_ne (h (o, j, v) List.mem_cons_self)
  · rcases List.mem_cons.mp hq with rfl | hq
    · exact if_pos ⟨rfl, rfl⟩
    · cases hq
theorem NR.o0 {a j v : Int} {r : mR} : NR 0 [(a, j, v)] r (ur r a j v) := by
  have h := @NR.on 0 a j v r
  rwa [Int.zero_add, Int.zero_add] at h
theorem NR.tr {A : Int} {l1 l2 : List (Int × Int × Int)} {r r1 r2 : mR} (h1 : NR A l1 r r1) (h2 : NR A l2 r1 r2) (hk : ∀ q ∈ l1, ∀ q' ∈ l2, ¬ (q.1 = q'.1 ∧ q.2.1 = q'.2.1)) : NR A (l1 ++ l2) r r2 := by
  refine ⟨fun a j h => ?_, fun q hq => ?_⟩
  · rw [h2.1 a j (fun q hq => h q (List.mem_append_right _ hq)), h1.1 a j (fun q hq => h q (List.mem_append_left _ hq))]
  · rcases List.mem_append.mp hq with hq | hq
    · rw [h2.1 _ _ (fun q' hq' z => hk q hq q' hq' ⟨by omega, z.2⟩)]
      exact h1.2 q hq
    · exact h2.2 q hq
theorem NR.v0 {l : List (Int × Int × Int)} {r r' : mR} (h : NR 0 l r r') : ∀ q ∈ l, r' q.1 q.2.1 = q.2.2 := fun q hq => by
  have := h.2 q hq
  rwa [Int.zero_add, Int.zero_add] at this
theorem NR.sh {A : Int} {l : List (Int × Int × Int)} {r r' : mR} (h : NR A l r r') : NR 0 (l.map (fun q => (A + q.1, q.2.1, A + q.2.2))) r r' := by
  refine ⟨fun a j k => h.1 a j (fun q hq z => k _ (List.mem_map.mpr ⟨q, hq, rfl⟩) ⟨by rw [Int.zero_add]; exact z.1, z.2⟩), fun q hq => ?_⟩
  obtain ⟨z, hz, rfl⟩ := List.mem_map.mp hq
  rw [Int.zero_add, Int.zero_add]
  exact h.2 z hz
theorem i_X5 {A : Int} {n1 : Int} {r : mR} {d : mD} {Q : mQ} (hD : isD A) (hn : n1 ≤ A) (h : ∀ r', NR A [(1, 0, 2), (1, 1, 3)] r r' → Q (.inl 0) (n1, (A + 4), r') d) : MM mX5_init [vR (A + 1)] (n1, (A + 2), r) d Q := by
  refine MM_of (by decide) rfl (by simp [catV]) (Nat.le_of_ble_eq_true rfl) ?_
  show MW mX5_init 2 430 0 [(0, vR (A + 1))] [] (n1, (A + 2), r) d Q
  have hA := hD.lim
  refine mw_aload_n (v := vR (A + 1)) (pc' := 1) dX5_init_0 rfl rfl (Or.inl rfl) rfl ?_
  refine mw_objinit (pc' := 4) dX5_init_1 rfl (goodW 63 (by decide +kernel) rfl) oi_na.1 oi_na.2 (by omega) (by decide) (by decide) (Nat.le_of_ble_eq_true rfl) ?_
  refine mw_aload_n (v := vR (A + 1)) (pc' := 5) dX5_init_4 rfl rfl (Or.inl rfl) rfl ?_
  refine mw_bipush (pc' := 7) dX5_init_5 rfl ⟨by decide, by decide⟩ ?_
  refine mw_newIO (a' := (A + 3)) (pc' := 9) dX5_init_7 rfl ((hD.lk (o := 2) (by decide)).1.trans (by decide +kernel)) ((hD.lk (o := 2) (by decide)).2.trans (by decide +kernel)) ⟨⟨by decide, by decide⟩, by decide, by decide⟩ ⟨by omega, by omega⟩ ?_
  show MW mX5_init 1 366 9 [(0, vR (A + 1))] [vR (A + 2), vR (A + 1)] (n1, (A + 3), r) d Q
  refine mw_putO (ji := 0) (pc' := 12) dX5_init_9 rfl ((hD.lk (o := 1) (by decide)).1.trans (by decide +kernel)) fp_RX5_9 rfl (Or.inr ⟨_, rfl⟩) rfl (fun C T N e => by cases e; exact bw_64) ⟨by decide, by decide +kernel, by decide +kernel⟩ ⟨⟨by omega, by omega⟩, by omega, by omega⟩ ?_
  have K1 : NR A [(1, 0, 2)] r (ur r (A + 1) 0 (A + 2)) := NR.on
  generalize (ur r (A + 1) 0 (A + 2)) = r1 at K1 ⊢
  refine mw_aload_n (v := vR (A + 1)) (pc' := 13) dX5_init_12 rfl rfl (Or.inl rfl) rfl ?_
  refine mw_bipush (pc' := 15) dX5_init_13 rfl ⟨by decide, by decide⟩ ?_
  refine mw_newIO (a' := (A + 4)) (pc' := 17) dX5_init_15 rfl ((hD.lk (o := 3) (by decide)).1.trans (by decide +kernel)) ((hD.lk (o := 3) (by decide)).2.trans (by decide +kernel)) ⟨⟨by decide, by decide⟩, by decide, by decide⟩ ⟨by omega, by omega⟩ ?_
  show MW mX5_init 0 358 17 [(0, vR (A + 1))] [vR (A + 3), vR (A + 1)] (n1, (A + 4), r1) d Q
  refine mw_putO (ji := 1) (pc' := 20) dX5_init_17 rfl ((hD.lk (o := 1) (by decide)).1.trans (by decide +kernel)) fp_RX5_15 rfl (Or.inr ⟨_, rfl⟩) rfl (fun C T N e => by cases e; exact bw_66) ⟨by decide, by decide +kernel, by decide +kernel⟩ ⟨⟨by omega, by omega⟩, by omega, by omega⟩ ?_
  have K2 : NR A [(1, 0, 2), (1, 1, 3)] r (ur r1 (A + 1) 1 (A + 3)) := NR.tr K1 NR.on (by decide +kernel)
  generalize (ur r1 (A + 1) 1 (A + 3)) = r2 at K2 ⊢
  exact mw_vret (pc' := 0) (S := []) dX5_init_20 rfl (h _ K2)
theorem i_X0 {A : Int} {n1 : Int} {r : mR} {d : mD} {Q : mQ} (hD : isD A) (hn : n1 ≤ A) (h : ∀ r', NR A [(4, 1, 5)] r r' → Q (.inl 0) (n1, (A + 6), r') d) : MM mX0_init [vR (A + 4)] (n1, (A + 5), r) d Q := by
  refine MM_of (by decide) rfl (by simp [catV]) (Nat.le_of_ble_eq_true rfl) ?_
  show MW mX0_init 1 215 0 [(0, vR (A + 4))] [] (n1, (A + 5), r) d Q
  have hA := hD.lim
  refine mw_aload_n (v := vR (A + 4)) (pc' := 1) dX0_init_0 rfl rfl (Or.inl rfl) rfl ?_
  refine mw_objinit (pc' := 4) dX0_init_1 rfl (goodW 83 (by decide +kernel) rfl) oi_na.1 oi_na.2 (by omega) (by decide) (by decide) (Nat.le_of_ble_eq_true rfl) ?_
  refine mw_aload_n (v := vR (A + 4)) (pc' := 5) dX0_init_4 rfl rfl (Or.inl rfl) rfl ?_
  refine mw_bipush (pc' := 7) dX0_init_5 rfl ⟨by decide, by decide⟩ ?_
  refine mw_newIO (a' := (A + 6)) (pc' := 9) dX0_init_7 rfl ((hD.lk (o := 5) (by decide)).1.trans (by decide +kernel)) ((hD.lk (o := 5) (by decide)).2.trans (by decide +kernel)) ⟨⟨by decide, by decide⟩, by decide, by decide⟩ ⟨by omega, by omega⟩ ?_
  show MW mX0_init 0 175 9 [(0, vR (A + 4))] [vR (A + 5), vR (A + 4)] (n1, (A + 6), r) d Q
  refine mw_putO (ji := 1) (pc' := 12) dX0_init_9 rfl ((hD.lk (o := 4) (by decide)).1.trans (by decide +kernel)) fp_RX0_9 rfl (Or.inr ⟨_, rfl⟩) rfl (fun C T N e => by cases e; exact bw_86) ⟨by decide, by decide +kernel, by decide +kernel⟩ ⟨⟨by omega, by omega⟩, by omega, by omega⟩ ?_
  have K1 : NR A [(4, 1, 5)] r (ur r (A + 4) 1 (A + 5)) := NR.on
  generalize (ur r (A + 4) 1 (A + 5)) = r1 at K1 ⊢
  exact mw_vret (pc' := 0) (S := []) dX0_init_12 rfl (h _ K1)
theorem l_X7 {A : Int} {n1 : Int} {r : mR} {Q : mQ} (hD : isD A) (K : NR A [(6, 0, 7), (6, 1, 8), (6, 2, 9)] r r) : ∀ (m : Nat) (k : Int) (d : mD), k + m = 8 → 0 ≤ k → (∀ d', (∀ b j : Int, ¬ (A + 7 ≤ b ∧ b ≤ A + 8 ∧ k ≤ j ∧ j < 8) → d' b j = d b j) → (∀ j, k ≤ j → j < 8 → d' (A + 7) j = 10 + 10 * j ∧ d' (A + 8) j = j % 2) → Q (.inl 0) (n1, A + 10, r) d') → MW mX7_init 0 625 46 [(0, vR (A + 6)), (1, vI k)] [] (n1, A + 10, r) d Q := by
  have hA := hD.lim
  have h7 : LK (A + 7) = 100 := (hD.lk (o := 7) (by decide)).1.trans (by decide +kernel)
  have h8 : LK (A + 8) = 102 := (hD.lk (o := 8) (by decide)).1.trans (by decide +kernel)
  have e7 : LN (A + 7) = 8 := (hD.lk (o := 7) (by decide)).2.trans (by decide +kernel)
  have e8 : LN (A + 8) = 8 := (hD.lk (o := 8) (by decide)).2.trans (by decide +kernel)
  have h6 : LK (A + 6) = 7 := (hD.lk (o := 6) (by decide)).1.trans (by decide +kernel)
  intro m
  induction m with
  | zero =>
    intro k d hk hk0 h
    refine mw_iload_n (pc' := 47) dX7_init_46 rfl rfl rfl ?_
    refine mw_bipush (pc' := 49) dX7_init_47 rfl ⟨by decide, by decide⟩ ?_
    refine mw_icmp_ge (tgt := 89) (pc' := 52) dX7_init_49 rfl (by decide) (fun c => ?_) (fun c => absurd (by omega) c)
    exact mw_vret (pc' := 0) (S := []) dX7_init_89 rfl (h d (fun _ _ _ => rfl) (fun j q1 q2 => by omega))
  | succ m ih =>
    intro k d hk hk0 h
    refine mw_iload_n (pc' := 47) dX7_init_46 rfl rfl rfl ?_
    refine mw_bipush (pc' := 49) dX7_init_47 rfl ⟨by decide, by decide⟩ ?_
    refine mw_icmp_ge (tgt := 89) (pc' := 52) dX7_init_49 rfl (by decide) (fun c => absurd c (by omega)) (fun c => ?_)
    refine mw_aload_n (v := vR (A + 6)) (pc' := 53) dX7_init_52 rfl rfl (Or.inl rfl) rfl ?_
    refine mw_getO (v := A + 7) (ji := 0) (pc' := 56) dX7_init_53 rfl h6 fg_RX7_9 rfl ⟨by decide, by decide +kernel⟩ ⟨by omega, by omega⟩ (K.2 (6, 0, 7) (by decide)) ?_
    refine mw_iload_n (pc' := 57) dX7_init_56 rfl rfl rfl ?_
    refine mw_bipush (pc' := 59) dX7_init_57 rfl ⟨by decide, by decide⟩ ?_
    refine mw_bipush (pc' := 61) dX7_init_59 rfl ⟨by decide, by decide⟩ ?_
    refine mw_iload_n (pc' := 62) dX7_init_61 rfl rfl rfl ?_
    refine mw_imul (pc' := 63) dX7_init_62 rfl (ik (by omega)) ?_
    refine mw_iadd (pc' := 64) dX7_init_63 rfl (ik (by omega)) ?_
    refine mw_iastG (pc' := 65) dX7_init_64 rfl h7 ⟨by omega, by show A + 7 < A + 10; omega⟩ (by rw [e7]; omega) ?_
    refine mw_aload_n (v := vR (A + 6)) (pc' := 66) dX7_init_65 rfl rfl (Or.inl rfl) rfl ?_
    refine mw_getO (v := A + 8) (ji := 1) (pc' := 69) dX7_init_66 rfl h6 fg_RX7_15 rfl ⟨by decide, by decide +kernel⟩ ⟨by omega, by omega⟩ (K.2 (6, 1, 8) (by decide)) ?_
    refine mw_iload_n (pc' := 70) dX7_init_69 rfl rfl rfl ?_
    have key : ∀ v : Int, v = k % 2 → MW mX7_init 0 625 82 [(0, vR (A + 6)), (1, vI k)] [vI v, vI k, vR (A + 8)] (n1, A + 10, r) (ud d (A + 7) k (10 + 10 * k)) Q := fun v hv => by
      refine mw_zastG (pc' := 83) dX7_init_82 rfl h8 ⟨by omega, by show A + 8 < A + 10; omega⟩ (by rw [e8]; omega) (by omega) ?_
      refine mw_iinc (pc' := 86) (L' := [(0, vR (A + 6)), (1, vI (k + 1))]) dX7_init_83 rfl rfl (by decide) (ik (by omega)) rfl ?_
      refine mw_goto (pc' := 0) (tgt := 46) dX7_init_86 (by decide) ?_
      refine ih (k + 1) _ (by omega) (by omega) (fun d' f1 f2 => h d' (fun b j q => ?_) (fun j q1 q2 => ?_))
      · rw [f1 b j (by omega), ud_ne (by omega), ud_ne (by omega)]
      · by_cases ej : j = k
        · subst ej
          rw [f1 (A + 7) j (by omega), f1 (A + 8) j (by omega), ud_same, ud_ne (by omega), ud_same]
          exact ⟨rfl, hv⟩
        · exact f2 j (by omega) q2
    refine mw_iload_n (pc' := 71) dX7_init_70 rfl rfl rfl ?_
    refine mw_iconst (pc' := 72) dX7_init_71 rfl ⟨by decide, by decide⟩ ?_
    refine mw_irem (pc' := 73) dX7_init_72 rfl (by omega) (by decide) ?_
    refine mw_iconst (pc' := 74) dX7_init_73 rfl ⟨by decide, by decide⟩ ?_
    refine mw_icmp_ne (tgt := 81) (pc' := 77) dX7_init_74 rfl (by decide) (fun c2 => ?_) (fun c2 => ?_)
    · refine mw_iconst (pc' := 82) dX7_init_81 rfl ⟨by decide, by decide⟩ ?_
      exact key 0 (by omega)
    · refine mw_iconst (pc' := 78) dX7_init_77 rfl ⟨by decide, by decide⟩ ?_
      refine mw_goto (pc' := 0) (tgt := 82) dX7_init_78 (by decide) ?_
      exact key 1 (by omega)
theorem i_X7 {A : Int} {n1 : Int} {r : mR} {d : mD} {Q : mQ} (hD : isD A) (hn : n1 ≤ A) (h : ∀ r', NR A [(6, 0, 7), (6, 1, 8), (6, 2, 9)] r r' → ∀ d', (∀ b j : Int, ¬ (A + 7 ≤ b ∧ b ≤ A + 9) → d' b j = d b j) → ((∀ j, 0 ≤ j → j < 8 → d' (A + 7) j = 10 + 10 * j ∧ d' (A + 8) j = j % 2) ∧ d' (A + 9) 0 = 0 ∧ d' (A + 9) 1 = 1 ∧ d' (A + 9) 2 = 3 ∧ d' (A + 9) 3 = 14) → Q (.inl 0) (n1, (A + 10), r') d') : MM mX7_init [vR (A + 6)] (n1, (A + 7), r) d Q := by
  refine MM_of (by decide) rfl (by simp [catV]) (Nat.le_of_ble_eq_true rfl) ?_
  show MW mX7_init 3 645 0 [(0, vR (A + 6))] [] (n1, (A + 7), r) d Q
  have hA := hD.lim
  refine mw_aload_n (v := vR (A + 6)) (pc' := 1) dX7_init_0 rfl rfl (Or.inl rfl) rfl ?_
  refine mw_objinit (pc' := 4) dX7_init_1 rfl (goodW 103 (by decide +kernel) rfl) oi_na.1 oi_na.2 (by omega) (by decide) (by decide) (Nat.le_of_ble_eq_true rfl) ?_
  refine mw_aload_n (v := vR (A + 6)) (pc' := 5) dX7_init_4 rfl rfl (Or.inl rfl) rfl ?_
  refine mw_bipush (pc' := 7) dX7_init_5 rfl ⟨by decide, by decide⟩ ?_
  refine mw_newIO (a' := (A + 8)) (pc' := 9) dX7_init_7 rfl ((hD.lk (o := 7) (by decide)).1.trans (by decide +kernel)) ((hD.lk (o := 7) (by decide)).2.trans (by decide +kernel)) ⟨⟨by decide, by decide⟩, by decide, by decide⟩ ⟨by omega, by omega⟩ ?_
  show MW mX7_init 2 637 9 [(0, vR (A + 6))] [vR (A + 7), vR (A + 6)] (n1, (A + 8), r) d Q
  refine mw_putO (ji := 0) (pc' := 12) dX7_init_9 rfl ((hD.lk (o := 6) (by decide)).1.trans (by decide +kernel)) fp_RX7_9 rfl (Or.inr ⟨_, rfl⟩) rfl (fun C T N e => by cases e; exact bw_104) ⟨by decide, by decide +kernel, by decide +kernel⟩ ⟨⟨by omega, by omega⟩, by omega, by omega⟩ ?_
  have K1 : NR A [(6, 0, 7)] r (ur r (A + 6) 0 (A + 7)) := NR.on
  generalize (ur r (A + 6) 0 (A + 7)) = r1 at K1 ⊢
  refine mw_aload_n (v := vR (A + 6)) (pc' := 13) dX7_init_12 rfl rfl (Or.inl rfl) rfl ?_
  refine mw_bipush (pc' := 15) dX7_init_13 rfl ⟨by decide, by decide⟩ ?_
  refine mw_newZO (a' := (A + 9)) (pc' := 17) dX7_init_15 rfl ((hD.lk (o := 8) (by decide)).1.trans (by decide +kernel)) ((hD.lk (o := 8) (by decide)).2.trans (by decide +kernel)) ⟨⟨by decide, by decide⟩, by decide, by decide⟩ ⟨by omega, by omega⟩ ?_
  show MW mX7_init 1 629 17 [(0, vR (A + 6))] [vR (A + 8), vR (A + 6)] (n1, (A + 9), r1) d Q
  refine mw_putO (ji := 1) (pc' := 20) dX7_init_17 rfl ((hD.lk (o := 6) (by decide)).1.trans (by decide +kernel)) fp_RX7_15 rfl (Or.inr ⟨_, rfl⟩) rfl (fun C T N e => by cases e; exact bw_107) ⟨by decide, by decide +kernel, by decide +kernel⟩ ⟨⟨by omega, by omega⟩, by omega, by omega⟩ ?_
  have K2 : NR A [(6, 0, 7), (6, 1, 8)] r (ur r1 (A + 6) 1 (A + 8)) := NR.tr K1 NR.on (by decide +kernel)
  generalize (ur r1 (A + 6) 1 (A + 8)) = r2 at K2 ⊢
  refine mw_aload_n (v := vR (A + 6)) (pc' := 21) dX7_init_20 rfl rfl (Or.inl rfl) rfl ?_
  refine mw_iconst (pc' := 22) dX7_init_21 rfl ⟨by decide, by decide⟩ ?_
  refine mw_newIO (a' := (A + 10)) (pc' := 24) dX7_init_22 rfl ((hD.lk (o := 9) (by decide)).1.trans (by decide +kernel)) ((hD.lk (o := 9) (by decide)).2.trans (by decide +kernel)) ⟨⟨by decide, by decide⟩, by decide, by decide⟩ ⟨by omega, by omega⟩ ?_
  show MW mX7_init 0 625 24 [(0, vR (A + 6))] [vR (A + 9), vR (A + 6)] (n1, (A + 10), r2) d Q
  refine mw_dup (pc' := 25) dX7_init_24 rfl rfl ?_
  refine mw_iconst (pc' := 26) dX7_init_25 rfl ⟨by decide, by decide⟩ ?_
  refine mw_iconst (pc' := 27) dX7_init_26 rfl ⟨by decide, by decide⟩ ?_
  refine mw_iastG (pc' := 28) dX7_init_27 rfl ((hD.lk (o := 9) (by decide)).1.trans (by decide +kernel)) ⟨by omega, by show A + 9 < A + 10; omega⟩ (by rw [show LN (A + 9) = 4 from ((hD.lk (o := 9) (by decide)).2.trans (by decide +kernel))]; exact ⟨by decide, by decide⟩) ?_
  refine mw_dup (pc' := 29) dX7_init_28 rfl rfl ?_
  refine mw_iconst (pc' := 30) dX7_init_29 rfl ⟨by decide, by decide⟩ ?_
  refine mw_iconst (pc' := 31) dX7_init_30 rfl ⟨by decide, by decide⟩ ?_
  refine mw_iastG (pc' := 32) dX7_init_31 rfl ((hD.lk (o := 9) (by decide)).1.trans (by decide +kernel)) ⟨by omega, by show A + 9 < A + 10; omega⟩ (by rw [show LN (A + 9) = 4 from ((hD.lk (o := 9) (by decide)).2.trans (by decide +kernel))]; exact ⟨by decide, by decide⟩) ?_
  refine mw_dup (pc' := 33) dX7_init_32 rfl rfl ?_
  refine mw_iconst (pc' := 34) dX7_init_33 rfl ⟨by decide, by decide⟩ ?_
  refine mw_iconst (pc' := 35) dX7_init_34 rfl ⟨by decide, by decide⟩ ?_
  refine mw_iastG (pc' := 36) dX7_init_35 rfl ((hD.lk (o := 9) (by decide)).1.trans (by decide +kernel)) ⟨by omega, by show A + 9 < A + 10; omega⟩ (by rw [show LN (A + 9) = 4 from ((hD.lk (o := 9) (by decide)).2.trans (by decide +kernel))]; exact ⟨by decide, by decide⟩) ?_
  refine mw_dup (pc' := 37) dX7_init_36 rfl rfl ?_
  refine mw_iconst (pc' := 38) dX7_init_37 rfl ⟨by decide, by decide⟩ ?_
  refine mw_bipush (pc' := 40) dX7_init_38 rfl ⟨by decide, by decide⟩ ?_
  refine mw_iastG (pc' := 41) dX7_init_40 rfl ((hD.lk (o := 9) (by decide)).1.trans (by decide +kernel)) ⟨by omega, by show A + 9 < A + 10; omega⟩ (by rw [show LN (A + 9) = 4 from ((hD.lk (o := 9) (by decide)).2.trans (by decide +kernel))]; exact ⟨by decide, by decide⟩) ?_
  refine mw_putO (ji := 2) (pc' := 44) dX7_init_41 rfl ((hD.lk (o := 6) (by decide)).1.trans (by decide +kernel)) fp_RX7_19 rfl (Or.inr ⟨_, rfl⟩) rfl (fun C T N e => by cases e; exact bw_110) ⟨by decide, by decide +kernel, by decide +kernel⟩ ⟨⟨by omega, by omega⟩, by omega, by omega⟩ ?_
  have K3 : NR A [(6, 0, 7), (6, 1, 8), (6, 2, 9)] r (ur r2 (A + 6) 2 (A + 9)) := NR.tr K2 NR.on (by decide +kernel)
  generalize (ur r2 (A + 6) 2 (A + 9)) = r3 at K3 ⊢
  refine mw_iconst (pc' := 45) dX7_init_44 rfl ⟨by decide, by decide⟩ ?_
  refine mw_istore_n (pc' := 46) (L' := [(0, vR (A + 6)), (1, vI 0)]) dX7_init_45 rfl rfl (by decide) rfl ?_
  refine l_X7 hD ⟨fun _ _ _ => rfl, K3.2⟩ 8 0 _ rfl (Int.le_refl _) (fun d' f1 f2 => h _ K3 d' (fun b j q => ?_) ⟨f2, ?_, ?_, ?_, ?_⟩)
  · rw [f1 b j (by omega), ud_ne (by omega), ud_ne (by omega), ud_ne (by omega), ud_ne (by omega)]
  · rw [f1 _ _ (by omega), ud_ne (by omega), ud_ne (by omega), ud_ne (by omega), ud_same]
  · rw [f1 _ _ (by omega), ud_ne (by omega), ud_ne (by omega), ud_same]
  · rw [f1 _ _ (by omega), ud_ne (by omega), ud_same]
  · rw [f1 _ _ (by omega), ud_same]
theorem i_X2d {A : Int} {n1 : Int} {r : mR} {d : mD} {Q : mQ} (hD : isD A) (hn : n1 ≤ A) (h : ∀ r', NR A [(10, 0, 11), (10, 1, 12), (10, 2, 13), (10, 3, 14), (10, 4, 15), (10, 5, 16), (10, 6, 17), (10, 7, 18), (10, 8, 19), (10, 9, 20), (10, 10, 21)] r r' → Q (.inl 0) (n1, (A + 22), r') d) : MM mX2_init [vR (A + 10)] (n1, (A + 11), r) d Q := by
  refine MM_of (by decide) rfl (by simp [catV]) (Nat.le_of_ble_eq_true rfl) ?_
  show MW mX2_init 11 2365 0 [(0, vR (A + 10))] [] (n1, (A + 11), r) d Q
  have hA := hD.lim
  refine mw_aload_n (v := vR (A + 10)) (pc' := 1) dX2_init_0 rfl rfl (Or.inl rfl) rfl ?_
  refine mw_objinit (pc' := 4) dX2_init_1 rfl (goodW 125 (by decide +kernel) rfl) oi_na.1 oi_na.2 (by omega) (by decide) (by decide) (Nat.le_of_ble_eq_true rfl) ?_
  refine mw_aload_n (v := vR (A + 10)) (pc' := 5) dX2_init_4 rfl rfl (Or.inl rfl) rfl ?_
  refine mw_bipush (pc' := 7) dX2_init_5 rfl ⟨by decide, by decide⟩ ?_
  refine mw_newIO (a' := (A + 12)) (pc' := 9) dX2_init_7 rfl ((hD.lk (o := 11) (by decide)).1.trans (by decide +kernel)) ((hD.lk (o := 11) (by decide)).2.trans (by decide +kernel)) ⟨⟨by decide, by decide⟩, by decide, by decide⟩ ⟨by omega, by omega⟩ ?_
  show MW mX2_init 10 2335 9 [(0, vR (A + 10))] [vR (A + 11), vR (A + 10)] (n1, (A + 12), r) d Q
  refine mw_putO (ji := 0) (pc' := 12) dX2_init_9 rfl ((hD.lk (o := 10) (by decide)).1.trans (by decide +kernel)) fp_RX2_9 rfl (Or.inr ⟨_, rfl⟩) rfl (fun C T N e => by cases e; exact bw_126) ⟨by decide, by decide +kernel, by decide +kernel⟩ ⟨⟨by omega, by omega⟩, by omega, by omega⟩ ?_
  have K1 : NR A [(10, 0, 11)] r (ur r (A + 10) 0 (A + 11)) := NR.on
  generalize (ur r (A + 10) 0 (A + 11)) = r1 at K1 ⊢
  refine mw_aload_n (v := vR (A + 10)) (pc' := 13) dX2_init_12 rfl rfl (Or.inl rfl) rfl ?_
  refine mw_bipush (pc' := 15) dX2_init_13 rfl ⟨by decide, by decide⟩ ?_
  refine mw_newIO (a' := (A + 13)) (pc' := 17) dX2_init_15 rfl ((hD.lk (o := 12) (by decide)).1.trans (by decide +kernel)) ((hD.lk (o := 12) (by decide)).2.trans (by decide +kernel)) ⟨⟨by decide, by decide⟩, by decide, by decide⟩ ⟨by omega, by omega⟩ ?_
  show MW mX2_init 9 2305 17 [(0, vR (A + 10))] [vR (A + 12), vR (A + 10)] (n1, (A + 13), r1) d Q
  refine mw_putO (ji := 1) (pc' := 20) dX2_init_17 rfl ((hD.lk (o := 10) (by decide)).1.trans (by decide +kernel)) fp_RX2_15 rfl (Or.inr ⟨_, rfl⟩) rfl (fun C T N e => by cases e; exact bw_130) ⟨by decide, by decide +kernel, by decide +kernel⟩ ⟨⟨by omega, by omega⟩, by omega, by omega⟩ ?_
  have K2 : NR A [(10, 0, 11), (10, 1, 12)] r (ur r1 (A + 10) 1 (A + 12)) := NR.tr K1 NR.on (by decide +kernel)
  generalize (ur r1 (A + 10) 1 (A + 12)) = r2 at K2 ⊢
  refine mw_aload_n (v := vR (A + 10)) (pc' := 21) dX2_init_20 rfl rfl (Or.inl rfl) rfl ?_
  refine mw_bipush (pc' := 23) dX2_init_21 rfl ⟨by decide, by decide⟩ ?_
  refine mw_newIO (a' := (A + 14)) (pc' := 25) dX2_init_23 rfl ((hD.lk (o := 13) (by decide)).1.trans (by decide +kernel)) ((hD.lk (o := 13) (by decide)).2.trans (by decide +kernel)) ⟨⟨by decide, by decide⟩, by decide, by decide⟩ ⟨by omega, by omega⟩ ?_
  show MW mX2_init 8 2275 25 [(0, vR (A + 10))] [vR (A + 13), vR (A + 10)] (n1, (A + 14), r2) d Q
  refine mw_putO (ji := 2) (pc' := 28) dX2_init_25 rfl ((hD.lk (o := 10) (by decide)).1.trans (by decide +kernel)) fp_RX2_18 rfl (Or.inr ⟨_, rfl⟩) rfl (fun C T N e => by cases e; exact bw_133) ⟨by decide, by decide +kernel, by decide +kernel⟩ ⟨⟨by omega, by omega⟩, by omega, by omega⟩ ?_
  have K3 : NR A [(10, 0, 11), (10, 1, 12), (10, 2, 13)] r (ur r2 (A + 10) 2 (A + 13)) := NR.tr K2 NR.on (by decide +kernel)
  generalize (ur r2 (A + 10) 2 (A + 13)) = r3 at K3 ⊢
  refine mw_aload_n (v := vR (A + 10)) (pc' := 29) dX2_init_28 rfl rfl (Or.inl rfl) rfl ?_
  refine mw_bipush (pc' := 31) dX2_init_29 rfl ⟨by decide, by decide⟩ ?_
  refine mw_newZO (a' := (A + 15)) (pc' := 33) dX2_init_31 rfl ((hD.lk (o := 14) (by decide)).1.trans (by decide +kernel)) ((hD.lk (o := 14) (by decide)).2.trans (by decide +kernel)) ⟨⟨by decide, by decide⟩, by decide, by decide⟩ ⟨by omega, by omega⟩ ?_
  show MW mX2_init 7 2245 33 [(0, vR (A + 10))] [vR (A + 14), vR (A + 10)] (n1, (A + 15), r3) d Q
  refine mw_putO (ji := 3) (pc' := 36) dX2_init_33 rfl ((hD.lk (o := 10) (by decide)).1.trans (by decide +kernel)) fp_RX2_21 rfl (Or.inr ⟨_, rfl⟩) rfl (fun C T N e => by cases e; exact bw_136) ⟨by decide, by decide +kernel, by decide +kernel⟩ ⟨⟨by omega, by omega⟩, by omega, by omega⟩ ?_
  have K4 : NR A [(10, 0, 11), (10, 1, 12), (10, 2, 13), (10, 3, 14)] r (ur r3 (A + 10) 3 (A + 14)) := NR.tr K3 NR.on (by decide +kernel)
  generalize (ur r3 (A + 10) 3 (A + 14)) = r4 at K4 ⊢
  refine mw_aload_n (v := vR (A + 10)) (pc' := 37) dX2_init_36 rfl rfl (Or.inl rfl) rfl ?_
  refine mw_bipush (pc' := 39) dX2_init_37 rfl ⟨by decide, by decide⟩ ?_
  refine mw_newIO (a' := (A + 16)) (pc' := 41) dX2_init_39 rfl ((hD.lk (o := 15) (by decide)).1.trans (by decide +kernel)) ((hD.lk (o := 15) (by decide)).2.trans (by decide +kernel)) ⟨⟨by decide, by decide⟩, by decide, by decide⟩ ⟨by omega, by omega⟩ ?_
  show MW mX2_init 6 2215 41 [(0, vR (A + 10))] [vR (A + 15), vR (A + 10)] (n1, (A + 16), r4) d Q
  refine mw_putO (ji := 4) (pc' := 44) dX2_init_41 rfl ((hD.lk (o := 10) (by decide)).1.trans (by decide +kernel)) fp_RX2_25 rfl (Or.inr ⟨_, rfl⟩) rfl (fun C T N e => by cases e; exact bw_137) ⟨by decide, by decide +kernel, by decide +kernel⟩ ⟨⟨by omega, by omega⟩, by omega, by omega⟩ ?_
  have K5 : NR A [(10, 0, 11), (10, 1, 12), (10, 2, 13), (10, 3, 14), (10, 4, 15)] r (ur r4 (A + 10) 4 (A + 15)) := NR.tr K4 NR.on (by decide +kernel)
  generalize (ur r4 (A + 10) 4 (A + 15)) = r5 at K5 ⊢
  refine mw_aload_n (v := vR (A + 10)) (pc' := 45) dX2_init_44 rfl rfl (Or.inl rfl) rfl ?_
  refine mw_sipush (pc' := 48) dX2_init_45 rfl ⟨by decide, by decide⟩ ?_
  refine mw_newIO (a' := (A + 17)) (pc' := 50) dX2_init_48 rfl ((hD.lk (o := 16) (by decide)).1.trans (by decide +kernel)) ((hD.lk (o := 16) (by decide)).2.trans (by decide +kernel)) ⟨⟨by decide, by decide⟩, by decide, by decide⟩ ⟨by omega, by omega⟩ ?_
  show MW mX2_init 5 2005 50 [(0, vR (A + 10))] [vR (A + 16), vR (A + 10)] (n1, (A + 17), r5) d Q
  refine mw_putO (ji := 5) (pc' := 53) dX2_init_50 rfl ((hD.lk (o := 10) (by decide)).1.trans (by decide +kernel)) fp_RX2_28 rfl (Or.inr ⟨_, rfl⟩) rfl (fun C T N e => by cases e; exact bw_140) ⟨by decide, by decide +kernel, by decide +kernel⟩ ⟨⟨by omega, by omega⟩, by omega, by omega⟩ ?_
  have K6 : NR A [(10, 0, 11), (10, 1, 12), (10, 2, 13), (10, 3, 14), (10, 4, 15), (10, 5, 16)] r (ur r5 (A + 10) 5 (A + 16)) := NR.tr K5 NR.on (by decide +kernel)
  generalize (ur r5 (A + 10) 5 (A + 16)) = r6 at K6 ⊢
  refine mw_aload_n (v := vR (A + 10)) (pc' := 54) dX2_init_53 rfl rfl (Or.inl rfl) rfl ?_
  refine mw_bipush (pc' := 56) dX2_init_54 rfl ⟨by decide, by decide⟩ ?_
  refine mw_newIO (a' := (A + 18)) (pc' := 58) dX2_init_56 rfl ((hD.lk (o := 17) (by decide)).1.trans (by decide +kernel)) ((hD.lk (o := 17) (by decide)).2.trans (by decide +kernel)) ⟨⟨by decide, by decide⟩, by decide, by decide⟩ ⟨by omega, by omega⟩ ?_
  show MW mX2_init 4 1975 58 [(0, vR (A + 10))] [vR (A + 17), vR (A + 10)] (n1, (A + 18), r6) d Q
  refine mw_putO (ji := 6) (pc' := 61) dX2_init_58 rfl ((hD.lk (o := 10) (by decide)).1.trans (by decide +kernel)) fp_RX2_31 rfl (Or.inr ⟨_, rfl⟩) rfl (fun C T N e => by cases e; exact bw_141) ⟨by decide, by decide +kernel, by decide +kernel⟩ ⟨⟨by omega, by omega⟩, by omega, by omega⟩ ?_
  have K7 : NR A [(10, 0, 11), (10, 1, 12), (10, 2, 13), (10, 3, 14), (10, 4, 15), (10, 5, 16), (10, 6, 17)] r (ur r6 (A + 10) 6 (A + 17)) := NR.tr K6 NR.on (by decide +kernel)
  generalize (ur r6 (A + 10) 6 (A + 17)) = r7 at K7 ⊢
  refine mw_aload_n (v := vR (A + 10)) (pc' := 62) dX2_init_61 rfl rfl (Or.inl rfl) rfl ?_
  refine mw_bipush (pc' := 64) dX2_init_62 rfl ⟨by decide, by decide⟩ ?_
  refine mw_newIO (a' := (A + 19)) (pc' := 66) dX2_init_64 rfl ((hD.lk (o := 18) (by decide)).1.trans (by decide +kernel)) ((hD.lk (o := 18) (by decide)).2.trans (by decide +kernel)) ⟨⟨by decide, by decide⟩, by decide, by decide⟩ ⟨by omega, by omega⟩ ?_
  show MW mX2_init 3 1945 66 [(0, vR (A + 10))] [vR (A + 18), vR (A + 10)] (n1, (A + 19), r7) d Q
  refine mw_putO (ji := 7) (pc' := 69) dX2_init_66 rfl ((hD.lk (o := 10) (by decide)).1.trans (by decide +kernel)) fp_RX2_34 rfl (Or.inr ⟨_, rfl⟩) rfl (fun C T N e => by cases e; exact bw_143) ⟨by decide, by decide +kernel, by decide +kernel⟩ ⟨⟨by omega, by omega⟩, by omega, by omega⟩ ?_
  have K8 : NR A [(10, 0, 11), (10, 1, 12), (10, 2, 13), (10, 3, 14), (10, 4, 15), (10, 5, 16), (10, 6, 17), (10, 7, 18)] r (ur r7 (A + 10) 7 (A + 18)) := NR.tr K7 NR.on (by decide +kernel)
  generalize (ur r7 (A + 10) 7 (A + 18)) = r8 at K8 ⊢
  refine mw_aload_n (v := vR (A + 10)) (pc' := 70) dX2_init_69 rfl rfl (Or.inl rfl) rfl ?_
  refine mw_bipush (pc' := 72) dX2_init_70 rfl ⟨by decide, by decide⟩ ?_
  refine mw_newIO (a' := (A + 20)) (pc' := 74) dX2_init_72 rfl ((hD.lk (o := 19) (by decide)).1.trans (by decide +kernel)) ((hD.lk (o := 19) (by decide)).2.trans (by decide +kernel)) ⟨⟨by decide, by decide⟩, by decide, by decide⟩ ⟨by omega, by omega⟩ ?_
  show MW mX2_init 2 1915 74 [(0, vR (A + 10))] [vR (A + 19), vR (A + 10)] (n1, (A + 20), r8) d Q
  refine mw_putO (ji := 8) (pc' := 77) dX2_init_74 rfl ((hD.lk (o := 10) (by decide)).1.trans (by decide +kernel)) fp_RX2_37 rfl (Or.inr ⟨_, rfl⟩) rfl (fun C T N e => by cases e; exact bw_145) ⟨by decide, by decide +kernel, by decide +kernel⟩ ⟨⟨by omega, by omega⟩, by omega, by omega⟩ ?_
  have K9 : NR A [(10, 0, 11), (10, 1, 12), (10, 2, 13), (10, 3, 14), (10, 4, 15), (10, 5, 16), (10, 6, 17), (10, 7, 18), (10, 8, 19)] r (ur r8 (A + 10) 8 (A + 19)) := NR.tr K8 NR.on (by decide +kernel)
  generalize (ur r8 (A + 10) 8 (A + 19)) = r9 at K9 ⊢
  refine mw_aload_n (v := vR (A + 10)) (pc' := 78) dX2_init_77 rfl rfl (Or.inl rfl) rfl ?_
  refine mw_bipush (pc' := 80) dX2_init_78 rfl ⟨by decide, by decide⟩ ?_
  refine mw_newIO (a' := (A + 21)) (pc' := 82) dX2_init_80 rfl ((hD.lk (o := 20) (by decide)).1.trans (by decide +kernel)) ((hD.lk (o := 20) (by decide)).2.trans (by decide +kernel)) ⟨⟨by decide, by decide⟩, by decide, by decide⟩ ⟨by omega, by omega⟩ ?_
  show MW mX2_init 1 1885 82 [(0, vR (A + 10))] [vR (A + 20), vR (A + 10)] (n1, (A + 21), r9) d Q
  refine mw_putO (ji := 9) (pc' := 85) dX2_init_82 rfl ((hD.lk (o := 10) (by decide)).1.trans (by decide +kernel)) fp_RX2_40 rfl (Or.inr ⟨_, rfl⟩) rfl (fun C T N e => by cases e; exact bw_147) ⟨by decide, by decide +kernel, by decide +kernel⟩ ⟨⟨by omega, by omega⟩, by omega, by omega⟩ ?_
  have K10 : NR A [(10, 0, 11), (10, 1, 12), (10, 2, 13), (10, 3, 14), (10, 4, 15), (10, 5, 16), (10, 6, 17), (10, 7, 18), (10, 8, 19), (10, 9, 20)] r (ur r9 (A + 10) 9 (A + 20)) := NR.tr K9 NR.on (by decide +kernel)
  generalize (ur r9 (A + 10) 9 (A + 20)) = r10 at K10 ⊢
  refine mw_aload_n (v := vR (A + 10)) (pc' := 86) dX2_init_85 rfl rfl (Or.inl rfl) rfl ?_
  refine mw_bipush (pc' := 88) dX2_init_86 rfl ⟨by decide, by decide⟩ ?_
  refine mw_newCO (a' := (A + 22)) (pc' := 90) dX2_init_88 rfl ((hD.lk (o := 21) (by decide)).1.trans (by decide +kernel)) ((hD.lk (o := 21) (by decide)).2.trans (by decide +kernel)) ⟨⟨by decide, by decide⟩, by decide, by decide⟩ ⟨by omega, by omega⟩ ?_
  show MW mX2_init 0 1855 90 [(0, vR (A + 10))] [vR (A + 21), vR (A + 10)] (n1, (A + 22), r10) d Q
  refine mw_putO (ji := 10) (pc' := 93) dX2_init_90 rfl ((hD.lk (o := 10) (by decide)).1.trans (by decide +kernel)) fp_RX2_43 rfl (Or.inr ⟨_, rfl⟩) rfl (fun C T N e => by cases e; exact bw_149) ⟨by decide, by decide +kernel, by decide +kernel⟩ ⟨⟨by omega, by omega⟩, by omega, by omega⟩ ?_
  have K11 : NR A [(10, 0, 11), (10, 1, 12), (10, 2, 13), (10, 3, 14), (10, 4, 15), (10, 5, 16), (10, 6, 17), (10, 7, 18), (10, 8, 19), (10, 9, 20), (10, 10, 21)] r (ur r10 (A + 10) 10 (A + 21)) := NR.tr K10 NR.on (by decide +kernel)
  generalize (ur r10 (A + 10) 10 (A + 21)) = r11 at K11 ⊢
  exact mw_vret (pc' := 0) (S := []) dX2_init_93 rfl (h _ K11)
theorem i_X8 {A : Int} {n1 : Int} {r : mR} {d : mD} {Q : mQ} (hD : isD A) (hn : n1 ≤ A) (h : ∀ r', NR A [(22, 0, 23), (22, 1, 24), (22, 2, 25), (22, 3, 26)] r r' → Q (.inl 0) (n1, (A + 27), r') d) : MM mX8_init [vR (A + 22)] (n1, (A + 23), r) d Q := by
  refine MM_of (by decide) rfl (by simp [catV]) (Nat.le_of_ble_eq_true rfl) ?_
  show MW mX8_init 4 860 0 [(0, vR (A + 22))] [] (n1, (A + 23), r) d Q
  have hA := hD.lim
  refine mw_aload_n (v := vR (A + 22)) (pc' := 1) dX8_init_0 rfl rfl (Or.inl rfl) rfl ?_
  refine mw_objinit (pc' := 4) dX8_init_1 rfl (goodW 184 (by decide +kernel) rfl) oi_na.1 oi_na.2 (by omega) (by decide) (by decide) (Nat.le_of_ble_eq_true rfl) ?_
  refine mw_aload_n (v := vR (A + 22)) (pc' := 5) dX8_init_4 rfl rfl (Or.inl rfl) rfl ?_
  refine mw_bipush (pc' := 7) dX8_init_5 rfl ⟨by decide, by decide⟩ ?_
  refine mw_newIO (a' := (A + 24)) (pc' := 9) dX8_init_7 rfl ((hD.lk (o := 23) (by decide)).1.trans (by decide +kernel)) ((hD.lk (o := 23) (by decide)).2.trans (by decide +kernel)) ⟨⟨by decide, by decide⟩, by decide, by decide⟩ ⟨by omega, by omega⟩ ?_
  show MW mX8_init 3 848 9 [(0, vR (A + 22))] [vR (A + 23), vR (A + 22)] (n1, (A + 24), r) d Q
  refine mw_putO (ji := 0) (pc' := 12) dX8_init_9 rfl ((hD.lk (o := 22) (by decide)).1.trans (by decide +kernel)) fp_RX8_9 rfl (Or.inr ⟨_, rfl⟩) rfl (fun C T N e => by cases e; exact bw_185) ⟨by decide, by decide +kernel, by decide +kernel⟩ ⟨⟨by omega, by omega⟩, by omega, by omega⟩ ?_
  have K1 : NR A [(22, 0, 23)] r (ur r (A + 22) 0 (A + 23)) := NR.on
  generalize (ur r (A + 22) 0 (A + 23)) = r1 at K1 ⊢
  refine mw_aload_n (v := vR (A + 22)) (pc' := 13) dX8_init_12 rfl rfl (Or.inl rfl) rfl ?_
  refine mw_bipush (pc' := 15) dX8_init_13 rfl ⟨by decide, by decide⟩ ?_
  refine mw_newIO (a' := (A + 25)) (pc' := 17) dX8_init_15 rfl ((hD.lk (o := 24) (by decide)).1.trans (by decide +kernel)) ((hD.lk (o := 24) (by decide)).2.trans (by decide +kernel)) ⟨⟨by decide, by decide⟩, by decide, by decide⟩ ⟨by omega, by omega⟩ ?_
  show MW mX8_init 2 836 17 [(0, vR (A + 22))] [vR (A + 24), vR (A + 22)] (n1, (A + 25), r1) d Q
  refine mw_putO (ji := 1) (pc' := 20) dX8_init_17 rfl ((hD.lk (o := 22) (by decide)).1.trans (by decide +kernel)) fp_RX8_15 rfl (Or.inr ⟨_, rfl⟩) rfl (fun C T N e => by cases e; exact bw_186) ⟨by decide, by decide +kernel, by decide +kernel⟩ ⟨⟨by omega, by omega⟩, by omega, by omega⟩ ?_
  have K2 : NR A [(22, 0, 23), (22, 1, 24)] r (ur r1 (A + 22) 1 (A + 24)) := NR.tr K1 NR.on (by decide +kernel)
  generalize (ur r1 (A + 22) 1 (A + 24)) = r2 at K2 ⊢
  refine mw_aload_n (v := vR (A + 22)) (pc' := 21) dX8_init_20 rfl rfl (Or.inl rfl) rfl ?_
  refine mw_bipush (pc' := 23) dX8_init_21 rfl ⟨by decide, by decide⟩ ?_
  refine mw_newIO (a' := (A + 26)) (pc' := 25) dX8_init_23 rfl ((hD.lk (o := 25) (by decide)).1.trans (by decide +kernel)) ((hD.lk (o := 25) (by decide)).2.trans (by decide +kernel)) ⟨⟨by decide, by decide⟩, by decide, by decide⟩ ⟨by omega, by omega⟩ ?_
  show MW mX8_init 1 824 25 [(0, vR (A + 22))] [vR (A + 25), vR (A + 22)] (n1, (A + 26), r2) d Q
  refine mw_putO (ji := 2) (pc' := 28) dX8_init_25 rfl ((hD.lk (o := 22) (by decide)).1.trans (by decide +kernel)) fp_RX8_18 rfl (Or.inr ⟨_, rfl⟩) rfl (fun C T N e => by cases e; exact bw_187) ⟨by decide, by decide +kernel, by decide +kernel⟩ ⟨⟨by omega, by omega⟩, by omega, by omega⟩ ?_
  have K3 : NR A [(22, 0, 23), (22, 1, 24), (22, 2, 25)] r (ur r2 (A + 22) 2 (A + 25)) := NR.tr K2 NR.on (by decide +kernel)
  generalize (ur r2 (A + 22) 2 (A + 25)) = r3 at K3 ⊢
  refine mw_aload_n (v := vR (A + 22)) (pc' := 29) dX8_init_28 rfl rfl (Or.inl rfl) rfl ?_
  refine mw_bipush (pc' := 31) dX8_init_29 rfl ⟨by decide, by decide⟩ ?_
  refine mw_newIO (a' := (A + 27)) (pc' := 33) dX8_init_31 rfl ((hD.lk (o := 26) (by decide)).1.trans (by decide +kernel)) ((hD.lk (o := 26) (by decide)).2.trans (by decide +kernel)) ⟨⟨by decide, by decide⟩, by decide, by decide⟩ ⟨by omega, by omega⟩ ?_
  show MW mX8_init 0 812 33 [(0, vR (A + 22))] [vR (A + 26), vR (A + 22)] (n1, (A + 27), r3) d Q
  refine mw_putO (ji := 3) (pc' := 36) dX8_init_33 rfl ((hD.lk (o := 22) (by decide)).1.trans (by decide +kernel)) fp_RX8_21 rfl (Or.inr ⟨_, rfl⟩) rfl (fun C T N e => by cases e; exact bw_191) ⟨by decide, by decide +kernel, by decide +kernel⟩ ⟨⟨by omega, by omega⟩, by omega, by omega⟩ ?_
  have K4 : NR A [(22, 0, 23), (22, 1, 24), (22, 2, 25), (22, 3, 26)] r (ur r3 (A + 22) 3 (A + 26)) := NR.tr K3 NR.on (by decide +kernel)
  generalize (ur r3 (A + 22) 3 (A + 26)) = r4 at K4 ⊢
  exact mw_vret (pc' := 0) (S := []) dX8_init_36 rfl (h _ K4)
theorem i_X2p {A : Int} {n1 : Int} {r : mR} {d : mD} {Q : mQ} (hD : isD A) (hn : n1 ≤ A) (h : ∀ r', NR A [(28, 0, 29), (28, 1, 30), (28, 2, 31), (28, 3, 32), (28, 4, 33), (28, 5, 34), (28, 6, 35), (28, 7, 36), (28, 8, 37), (28, 9, 38), (28, 10, 39)] r r' → Q (.inl 0) (n1, (A + 40), r') d) : MM mX2_init [vR (A + 28)] (n1, (A + 29), r) d Q := by
  refine MM_of (by decide) rfl (by simp [catV]) (Nat.le_of_ble_eq_true rfl) ?_
  show MW mX2_init 11 2365 0 [(0, vR (A + 28))] [] (n1, (A + 29), r) d Q
  have hA := hD.lim
  refine mw_aload_n (v := vR (A + 28)) (pc' := 1) dX2_init_0 rfl rfl (Or.inl rfl) rfl ?_
  refine mw_objinit (pc' := 4) dX2_init_1 rfl (goodW 125 (by decide +kernel) rfl) oi_na.1 oi_na.2 (by omega) (by decide) (by decide) (Nat.le_of_ble_eq_true rfl) ?_
  refine mw_aload_n (v := vR (A + 28)) (pc' := 5) dX2_init_4 rfl rfl (Or.inl rfl) rfl ?_
  refine mw_bipush (pc' := 7) dX2_init_5 rfl ⟨by decide, by decide⟩ ?_
  refine mw_newIO (a' := (A + 30)) (pc' := 9) dX2_init_7 rfl ((hD.lk (o := 29) (by decide)).1.trans (by decide +kernel)) ((hD.lk (o := 29) (by decide)).2.trans (by decide +kernel)) ⟨⟨by decide, by decide⟩, by decide, by decide⟩ ⟨by omega, by omega⟩ ?_
  show MW mX2_init 10 2335 9 [(0, vR (A + 28))] [vR (A + 29), vR (A + 28)] (n1, (A + 30), r) d Q
  refine mw_putO (ji := 0) (pc' := 12) dX2_init_9 rfl ((hD.lk (o := 28) (by decide)).1.trans (by decide +kernel)) fp_RX2_9 rfl (Or.inr ⟨_, rfl⟩) rfl (fun C T N e => by cases e; exact bw_126) ⟨by decide, by decide +kernel, by decide +kernel⟩ ⟨⟨by omega, by omega⟩, by omega, by omega⟩ ?_
  have K1 : NR A [(28, 0, 29)] r (ur r (A + 28) 0 (A + 29)) := NR.on
  generalize (ur r (A + 28) 0 (A + 29)) = r1 at K1 ⊢
  refine mw_aload_n (v := vR (A + 28)) (pc' := 13) dX2_init_12 rfl rfl (Or.inl rfl) rfl ?_
  refine mw_bipush (pc' := 15) dX2_init_13 rfl ⟨by decide, by decide⟩ ?_
  refine mw_newIO (a' := (A + 31)) (pc' := 17) dX2_init_15 rfl ((hD.lk (o := 30) (by decide)).1.trans (by decide +kernel)) ((hD.lk (o := 30) (by decide)).2.trans (by decide +kernel)) ⟨⟨by decide, by decide⟩, by decide, by decide⟩ ⟨by omega, by omega⟩ ?_
  show MW mX2_init 9 2305 17 [(0, vR (A + 28))] [vR (A + 30), vR (A + 28)] (n1, (A + 31), r1) d Q
  refine mw_putO (ji := 1) (pc' := 20) dX2_init_17 rfl ((hD.lk (o := 28) (by decide)).1.trans (by decide +kernel)) fp_RX2_15 rfl (Or.inr ⟨_, rfl⟩) rfl (fun C T N e => by cases e; exact bw_130) ⟨by decide, by decide +kernel, by decide +kernel⟩ ⟨⟨by omega, by omega⟩, by omega, by omega⟩ ?_
  have K2 : NR A [(28, 0, 29), (28, 1, 30)] r (ur r1 (A + 28) 1 (A + 30)) := NR.tr K1 NR.on (by decide +kernel)
  generalize (ur r1 (A + 28) 1 (A + 30)) = r2 at K2 ⊢
  refine mw_aload_n (v := vR (A + 28)) (pc' := 21) dX2_init_20 rfl rfl (Or.inl rfl) rfl ?_
  refine mw_bipush (pc' := 23) dX2_init_21 rfl ⟨by decide, by decide⟩ ?_
  refine mw_newIO (a' := (A + 32)) (pc' := 25) dX2_init_23 rfl ((hD.lk (o := 31) (by decide)).1.trans (by decide +kernel)) ((hD.lk (o := 31) (by decide)).2.trans (by decide +kernel)) ⟨⟨by decide, by decide⟩, by decide, by decide⟩ ⟨by omega, by omega⟩ ?_
  show MW mX2_init 8 2275 25 [(0, vR (A + 28))] [vR (A + 31), vR (A + 28)] (n1, (A + 32), r2) d Q
  refine mw_putO (ji := 2) (pc' := 28) dX2_init_25 rfl ((hD.lk (o := 28) (by decide)).1.trans (by decide +kernel)) fp_RX2_18 rfl (Or.inr ⟨_, rfl⟩) rfl (fun C T N e => by cases e; exact bw_133) ⟨by decide, by decide +kernel, by decide +kernel⟩ ⟨⟨by omega, by omega⟩, by omega, by omega⟩ ?_
  have K3 : NR A [(28, 0, 29), (28, 1, 30), (28, 2, 31)] r (ur r2 (A + 28) 2 (A + 31)) := NR.tr K2 NR.on (by decide +kernel)
  generalize (ur r2 (A + 28) 2 (A + 31)) = r3 at K3 ⊢
  refine mw_aload_n (v := vR (A + 28)) (pc' := 29) dX2_init_28 rfl rfl (Or.inl rfl) rfl ?_
  refine mw_bipush (pc' := 31) dX2_init_29 rfl ⟨by decide, by decide⟩ ?_
  refine mw_newZO (a' := (A + 33)) (pc' := 33) dX2_init_31 rfl ((hD.lk (o := 32) (by decide)).1.trans (by decide +kernel)) ((hD.lk (o := 32) (by decide)).2.trans (by decide +kernel)) ⟨⟨by decide, by decide⟩, by decide, by decide⟩ ⟨by omega, by omega⟩ ?_
  show MW mX2_init 7 2245 33 [(0, vR (A + 28))] [vR (A + 32), vR (A + 28)] (n1, (A + 33), r3) d Q
  refine mw_putO (ji := 3) (pc' := 36) dX2_init_33 rfl ((hD.lk (o := 28) (by decide)).1.trans (by decide +kernel)) fp_RX2_21 rfl (Or.inr ⟨_, rfl⟩) rfl (fun C T N e => by cases e; exact bw_136) ⟨by decide, by decide +kernel, by decide +kernel⟩ ⟨⟨by omega, by omega⟩, by omega, by omega⟩ ?_
  have K4 : NR A [(28, 0, 29), (28, 1, 30), (28, 2, 31), (28, 3, 32)] r (ur r3 (A + 28) 3 (A + 32)) := NR.tr K3 NR.on (by decide +kernel)
  generalize (ur r3 (A + 28) 3 (A + 32)) = r4 at K4 ⊢
  refine mw_aload_n (v := vR (A + 28)) (pc' := 37) dX2_init_36 rfl rfl (Or.inl rfl) rfl ?_
  refine mw_bipush (pc' := 39) dX2_init_37 rfl ⟨by decide, by decide⟩ ?_
  refine mw_newIO (a' := (A + 34)) (pc' := 41) dX2_init_39 rfl ((hD.lk (o := 33) (by decide)).1.trans (by decide +kernel)) ((hD.lk (o := 33) (by decide)).2.trans (by decide +kernel)) ⟨⟨by decide, by decide⟩, by decide, by decide⟩ ⟨by omega, by omega⟩ ?_
  show MW mX2_init 6 2215 41 [(0, vR (A + 28))] [vR (A + 33), vR (A + 28)] (n1, (A + 34), r4) d Q
  refine mw_putO (ji := 4) (pc' := 44) dX2_init_41 rfl ((hD.lk (o := 28) (by decide)).1.trans (by decide +kernel)) fp_RX2_25 rfl (Or.inr ⟨_, rfl⟩) rfl (fun C T N e => by cases e; exact bw_137) ⟨by decide, by decide +kernel, by decide +kernel⟩ ⟨⟨by omega, by omega⟩, by omega, by omega⟩ ?_
  have K5 : NR A [(28, 0, 29), (28, 1, 30), (28, 2, 31), (28, 3, 32), (28, 4, 33)] r (ur r4 (A + 28) 4 (A + 33)) := NR.tr K4 NR.on (by decide +kernel)
  generalize (ur r4 (A + 28) 4 (A + 33)) = r5 at K5 ⊢
  refine mw_aload_n (v := vR (A + 28)) (pc' := 45) dX2_init_44 rfl rfl (Or.inl rfl) rfl ?_
  refine mw_sipush (pc' := 48) dX2_init_45 rfl ⟨by decide, by decide⟩ ?_
  refine mw_newIO (a' := (A + 35)) (pc' := 50) dX2_init_48 rfl ((hD.lk (o := 34) (by decide)).1.trans (by decide +kernel)) ((hD.lk (o := 34) (by decide)).2.trans (by decide +kernel)) ⟨⟨by decide, by decide⟩, by decide, by decide⟩ ⟨by omega, by omega⟩ ?_
  show MW mX2_init 5 2005 50 [(0, vR (A + 28))] [vR (A + 34), vR (A + 28)] (n1, (A + 35), r5) d Q
  refine mw_putO (ji := 5) (pc' := 53) dX2_init_50 rfl ((hD.lk (o := 28) (by decide)).1.trans (by decide +kernel)) fp_RX2_28 rfl (Or.inr ⟨_, rfl⟩) rfl (fun C T N e => by cases e; exact bw_140) ⟨by decide, by decide +kernel, by decide +kernel⟩ ⟨⟨by omega, by omega⟩, by omega, by omega⟩ ?_
  have K6 : NR A [(28, 0, 29), (28, 1, 30), (28, 2, 31), (28, 3, 32), (28, 4, 33), (28, 5, 34)] r (ur r5 (A + 28) 5 (A + 34)) := NR.tr K5 NR.on (by decide +kernel)
  generalize (ur r5 (A + 28) 5 (A + 34)) = r6 at K6 ⊢
  refine mw_aload_n (v := vR (A + 28)) (pc' := 54) dX2_init_53 rfl rfl (Or.inl rfl) rfl ?_
  refine mw_bipush (pc' := 56) dX2_init_54 rfl ⟨by decide, by decide⟩ ?_
  refine mw_newIO (a' := (A + 36)) (pc' := 58) dX2_init_56 rfl ((hD.lk (o := 35) (by decide)).1.trans (by decide +kernel)) ((hD.lk (o := 35) (by decide)).2.trans (by decide +kernel)) ⟨⟨by decide, by decide⟩, by decide, by decide⟩ ⟨by omega, by omega⟩ ?_
  show MW mX2_init 4 1975 58 [(0, vR (A + 28))] [vR (A + 35), vR (A + 28)] (n1, (A + 36), r6) d Q
  refine mw_putO (ji := 6) (pc' := 61) dX2_init_58 rfl ((hD.lk (o := 28) (by decide)).1.trans (by decide +kernel)) fp_RX2_31 rfl (Or.inr ⟨_, rfl⟩) rfl (fun C T N e => by cases e; exact bw_141) ⟨by decide, by decide +kernel, by decide +kernel⟩ ⟨⟨by omega, by omega⟩, by omega, by omega⟩ ?_
  have K7 : NR A [(28, 0, 29), (28, 1, 30), (28, 2, 31), (28, 3, 32), (28, 4, 33), (28, 5, 34), (28, 6, 35)] r (ur r6 (A + 28) 6 (A + 35)) := NR.tr K6 NR.on (by decide +kernel)
  generalize (ur r6 (A + 28) 6 (A + 35)) = r7 at K7 ⊢
  refine mw_aload_n (v := vR (A + 28)) (pc' := 62) dX2_init_61 rfl rfl (Or.inl rfl) rfl ?_
  refine mw_bipush (pc' := 64) dX2_init_62 rfl ⟨by decide, by decide⟩ ?_
  refine mw_newIO (a' := (A + 37)) (pc' := 66) dX2_init_64 rfl ((hD.lk (o := 36) (by decide)).1.trans (by decide +kernel)) ((hD.lk (o := 36) (by decide)).2.trans (by decide +kernel)) ⟨⟨by decide, by decide⟩, by decide, by decide⟩ ⟨by omega, by omega⟩ ?_
  show MW mX2_init 3 1945 66 [(0, vR (A + 28))] [vR (A + 36), vR (A + 28)] (n1, (A + 37), r7) d Q
  refine mw_putO (ji := 7) (pc' := 69) dX2_init_66 rfl ((hD.lk (o := 28) (by decide)).1.trans (by decide +kernel)) fp_RX2_34 rfl (Or.inr ⟨_, rfl⟩) rfl (fun C T N e => by cases e; exact bw_143) ⟨by decide, by decide +kernel, by decide +kernel⟩ ⟨⟨by omega, by omega⟩, by omega, by omega⟩ ?_
  have K8 : NR A [(28, 0, 29), (28, 1, 30), (28, 2, 31), (28, 3, 32), (28, 4, 33), (28, 5, 34), (28, 6, 35), (28, 7, 36)] r (ur r7 (A + 28) 7 (A + 36)) := NR.tr K7 NR.on (by decide +kernel)
  generalize (ur r7 (A + 28) 7 (A + 36)) = r8 at K8 ⊢
  refine mw_aload_n (v := vR (A + 28)) (pc' := 70) dX2_init_69 rfl rfl (Or.inl rfl) rfl ?_
  refine mw_bipush (pc' := 72) dX2_init_70 rfl ⟨by decide, by decide⟩ ?_
  refine mw_newIO (a' := (A + 38)) (pc' := 74) dX2_init_72 rfl ((hD.lk (o := 37) (by decide)).1.trans (by decide +kernel)) ((hD.lk (o := 37) (by decide)).2.trans (by decide +kernel)) ⟨⟨by decide, by decide⟩, by decide, by decide⟩ ⟨by omega, by omega⟩ ?_
  show MW mX2_init 2 1915 74 [(0, vR (A + 28))] [vR (A + 37), vR (A + 28)] (n1, (A + 38), r8) d Q
  refine mw_putO (ji := 8) (pc' := 77) dX2_init_74 rfl ((hD.lk (o := 28) (by decide)).1.trans (by decide +kernel)) fp_RX2_37 rfl (Or.inr ⟨_, rfl⟩) rfl (fun C T N e => by cases e; exact bw_145) ⟨by decide, by decide +kernel, by decide +kernel⟩ ⟨⟨by omega, by omega⟩, by omega, by omega⟩ ?_
  have K9 : NR A [(28, 0, 29), (28, 1, 30), (28, 2, 31), (28, 3, 32), (28, 4, 33), (28, 5, 34), (28, 6, 35), (28, 7, 36), (28, 8, 37)] r (ur r8 (A + 28) 8 (A + 37)) := NR.tr K8 NR.on (by decide +kernel)
  generalize (ur r8 (A + 28) 8 (A + 37)) = r9 at K9 ⊢
  refine mw_aload_n (v := vR (A + 28)) (pc' := 78) dX2_init_77 rfl rfl (Or.inl rfl) rfl ?_
  refine mw_bipush (pc' := 80) dX2_init_78 rfl ⟨by decide, by decide⟩ ?_
  refine mw_newIO (a' := (A + 39)) (pc' := 82) dX2_init_80 rfl ((hD.lk (o := 38) (by decide)).1.trans (by decide +kernel)) ((hD.lk (o := 38) (by decide)).2.trans (by decide +kernel)) ⟨⟨by decide, by decide⟩, by decide, by decide⟩ ⟨by omega, by omega⟩ ?_
  show MW mX2_init 1 1885 82 [(0, vR (A + 28))] [vR (A + 38), vR (A + 28)] (n1, (A + 39), r9) d Q
  refine mw_putO (ji := 9) (pc' := 85) dX2_init_82 rfl ((hD.lk (o := 28) (by decide)).1.trans (by decide +kernel)) fp_RX2_40 rfl (Or.inr ⟨_, rfl⟩) rfl (fun C T N e => by cases e; exact bw_147) ⟨by decide, by decide +kernel, by decide +kernel⟩ ⟨⟨by omega, by omega⟩, by omega, by omega⟩ ?_
  have K10 : NR A [(28, 0, 29), (28, 1, 30), (28, 2, 31), (28, 3, 32), (28, 4, 33), (28, 5, 34), (28, 6, 35), (28, 7, 36), (28, 8, 37), (28, 9, 38)] r (ur r9 (A + 28) 9 (A + 38)) := NR.tr K9 NR.on (by decide +kernel)
  generalize (ur r9 (A + 28) 9 (A + 38)) = r10 at K10 ⊢
  refine mw_aload_n (v := vR (A + 28)) (pc' := 86) dX2_init_85 rfl rfl (Or.inl rfl) rfl ?_
  refine mw_bipush (pc' := 88) dX2_init_86 rfl ⟨by decide, by decide⟩ ?_
  refine mw_newCO (a' := (A + 40)) (pc' := 90) dX2_init_88 rfl ((hD.lk (o := 39) (by decide)).1.trans (by decide +kernel)) ((hD.lk (o := 39) (by decide)).2.trans (by decide +kernel)) ⟨⟨by decide, by decide⟩, by decide, by decide⟩ ⟨by omega, by omega⟩ ?_
  show MW mX2_init 0 1855 90 [(0, vR (A + 28))] [vR (A + 39), vR (A + 28)] (n1, (A + 40), r10) d Q
  refine mw_putO (ji := 10) (pc' := 93) dX2_init_90 rfl ((hD.lk (o := 28) (by decide)).1.trans (by decide +kernel)) fp_RX2_43 rfl (Or.inr ⟨_, rfl⟩) rfl (fun C T N e => by cases e; exact bw_149) ⟨by decide, by decide +kernel, by decide +kernel⟩ ⟨⟨by omega, by omega⟩, by omega, by omega⟩ ?_
  have K11 : NR A [(28, 0, 29), (28, 1, 30), (28, 2, 31), (28, 3, 32), (28, 4, 33), (28, 5, 34), (28, 6, 35), (28, 7, 36), (28, 8, 37), (28, 9, 38), (28, 10, 39)] r (ur r10 (A + 28) 10 (A + 39)) := NR.tr K10 NR.on (by decide +kernel)
  generalize (ur r10 (A + 28) 10 (A + 39)) = r11 at K11 ⊢
  exact mw_vret (pc' := 0) (S := []) dX2_init_93 rfl (h _ K11)
theorem i_X1 {A : Int} {n1 : Int} {r : mR} {d : mD} {Q : mQ} (hD : isD A) (hn : n1 ≤ A) (h : ∀ r', NR A [(28, 0, 29), (28, 1, 30), (28, 2, 31), (28, 3, 32), (28, 4, 33), (28, 5, 34), (28, 6, 35), (28, 7, 36), (28, 8, 37), (28, 9, 38), (28, 10, 39), (27, 0, 28), (27, 1, 40), (27, 2, 41), (27, 3, 42), (27, 4, 43), (27, 5, 44), (27, 6, 45)] r r' → Q (.inl 0) (n1, (A + 46), r') d) : MM mX1_init [vR (A + 27)] (n1, (A + 28), r) d Q := by
  refine MM_of (by decide) rfl (by simp [catV]) (Nat.le_of_ble_eq_true rfl) ?_
  show MW mX1_init 18 3667 0 [(0, vR (A + 27))] [] (n1, (A + 28), r) d Q
  have hA := hD.lim
  refine mw_aload_n (v := vR (A + 27)) (pc' := 1) dX1_init_0 rfl rfl (Or.inl rfl) rfl ?_
  refine mw_objinit (pc' := 4) dX1_init_1 rfl (goodW 215 (by decide +kernel) rfl) oi_na.1 oi_na.2 (by omega) (by decide) (by decide) (Nat.le_of_ble_eq_true rfl) ?_
  refine mw_aload_n (v := vR (A + 27)) (pc' := 5) dX1_init_4 rfl rfl (Or.inl rfl) rfl ?_
  refine mw_newO (a' := (A + 29)) (pc' := 8) dX1_init_5 rfl fn_RX1_9 ((hD.lk (o := 28) (by decide)).1.trans (by decide +kernel)) ⟨by decide, by decide, by decide⟩ ⟨by omega, by omega⟩ ?_
  show MW mX1_init 17 3655 8 [(0, vR (A + 27))] [vR (A + 28), vR (A + 27)] (n1, (A + 29), r) d Q
  refine mw_dup (pc' := 9) dX1_init_8 rfl rfl ?_
  refine mw_callI (M' := mX2_init) (A := []) (A' := [vR (A + 28)]) (S := [vR (A + 28), vR (A + 27)]) (a := (A + 28)) (pc' := 12) dX1_init_9 rfl cl_RX1_11 cm_X2_init ci_X2_init rfl rfl ⟨by decide, by decide, by decide, by decide, by decide⟩ rfl rfl rfl ⟨by omega, by show A + 28 < A + 29; omega⟩ (Nat.le_of_ble_eq_true rfl) (i_X2p hD hn fun r11 k9 => ?_)
  show MW mX1_init 6 1290 12 [(0, vR (A + 27))] [vR (A + 28), vR (A + 27)] (n1, (A + 40), r11) d Q
  have K11 : NR A [(28, 0, 29), (28, 1, 30), (28, 2, 31), (28, 3, 32), (28, 4, 33), (28, 5, 34), (28, 6, 35), (28, 7, 36), (28, 8, 37), (28, 9, 38), (28, 10, 39)] r r11 := k9
  refine mw_putO (ji := 0) (pc' := 15) dX1_init_12 rfl ((hD.lk (o := 27) (by decide)).1.trans (by decide +kernel)) fp_RX1_12 rfl (Or.inl ⟨_, rfl⟩) rfl (fun C T N e => by cases e; exact bw_218) ⟨by decide, by decide +kernel, by decide +kernel⟩ ⟨⟨by omega, by omega⟩, by omega, by omega⟩ ?_
  have K12 : NR A [(28, 0, 29), (28, 1, 30), (28, 2, 31), (28, 3, 32), (28, 4, 33), (28, 5, 34), (28, 6, 35), (28, 7, 36), (28, 8, 37), (28, 9, 38), (28, 10, 39), (27, 0, 28)] r (ur r11 (A + 27) 0 (A + 28)) := NR.tr K11 NR.on (by decide +kernel)
  generalize (ur r11 (A + 27) 0 (A + 28)) = r12 at K12 ⊢
  refine mw_aload_n (v := vR (A + 27)) (pc' := 16) dX1_init_15 rfl rfl (Or.inl rfl) rfl ?_
  refine mw_bipush (pc' := 18) dX1_init_16 rfl ⟨by decide, by decide⟩ ?_
  refine mw_newIO (a' := (A + 41)) (pc' := 20) dX1_init_18 rfl ((hD.lk (o := 40) (by decide)).1.trans (by decide +kernel)) ((hD.lk (o := 40) (by decide)).2.trans (by decide +kernel)) ⟨⟨by decide, by decide⟩, by decide, by decide⟩ ⟨by omega, by omega⟩ ?_
  show MW mX1_init 5 1282 20 [(0, vR (A + 27))] [vR (A + 40), vR (A + 27)] (n1, (A + 41), r12) d Q
  refine mw_putO (ji := 1) (pc' := 23) dX1_init_20 rfl ((hD.lk (o := 27) (by decide)).1.trans (by decide +kernel)) fp_RX1_18 rfl (Or.inr ⟨_, rfl⟩) rfl (fun C T N e => by cases e; exact bw_220) ⟨by decide, by decide +kernel, by decide +kernel⟩ ⟨⟨by omega, by omega⟩, by omega, by omega⟩ ?_
  have K13 : NR A [(28, 0, 29), (28, 1, 30), (28, 2, 31), (28, 3, 32), (28, 4, 33), (28, 5, 34), (28, 6, 35), (28, 7, 36), (28, 8, 37), (28, 9, 38), (28, 10, 39), (27, 0, 28), (27, 1, 40)] r (ur r12 (A + 27) 1 (A + 40)) := NR.tr K12 NR.on (by decide +kernel)
  generalize (ur r12 (A + 27) 1 (A + 40)) = r13 at K13 ⊢
  refine mw_aload_n (v := vR (A + 27)) (pc' := 24) dX1_init_23 rfl rfl (Or.inl rfl) rfl ?_
  refine mw_bipush (pc' := 26) dX1_init_24 rfl ⟨by decide, by decide⟩ ?_
  refine mw_newIO (a' := (A + 42)) (pc' := 28) dX1_init_26 rfl ((hD.lk (o := 41) (by decide)).1.trans (by decide +kernel)) ((hD.lk (o := 41) (by decide)).2.trans (by decide +kernel)) ⟨⟨by decide, by decide⟩, by decide, by decide⟩ ⟨by omega, by omega⟩ ?_
  show MW mX1_init 4 1274 28 [(0, vR (A + 27))] [vR (A + 41), vR (A + 27)] (n1, (A + 42), r13) d Q
  refine mw_putO (ji := 2) (pc' := 31) dX1_init_28 rfl ((hD.lk (o := 27) (by decide)).1.trans (by decide +kernel)) fp_RX1_22 rfl (Or.inr ⟨_, rfl⟩) rfl (fun C T N e => by cases e; exact bw_221) ⟨by decide, by decide +kernel, by decide +kernel⟩ ⟨⟨by omega, by omega⟩, by omega, by omega⟩ ?_
  have K14 : NR A [(28, 0, 29), (28, 1, 30), (28, 2, 31), (28, 3, 32), (28, 4, 33), (28, 5, 34), (28, 6, 35), (28, 7, 36), (28, 8, 37), (28, 9, 38), (28, 10, 39), (27, 0, 28), (27, 1, 40), (27, 2, 41)] r (ur r13 (A + 27) 2 (A + 41)) := NR.tr K13 NR.on (by decide +kernel)
  generalize (ur r13 (A + 27) 2 (A + 41)) = r14 at K14 ⊢
  refine mw_aload_n (v := vR (A + 27)) (pc' := 32) dX1_init_31 rfl rfl (Or.inl rfl) rfl ?_
  refine mw_bipush (pc' := 34) dX1_init_32 rfl ⟨by decide, by decide⟩ ?_
  refine mw_newIO (a' := (A + 43)) (pc' := 36) dX1_init_34 rfl ((hD.lk (o := 42) (by decide)).1.trans (by decide +kernel)) ((hD.lk (o := 42) (by decide)).2.trans (by decide +kernel)) ⟨⟨by decide, by decide⟩, by decide, by decide⟩ ⟨by omega, by omega⟩ ?_
  show MW mX1_init 3 1254 36 [(0, vR (A + 27))] [vR (A + 42), vR (A + 27)] (n1, (A + 43), r14) d Q
  refine mw_putO (ji := 3) (pc' := 39) dX1_init_36 rfl ((hD.lk (o := 27) (by decide)).1.trans (by decide +kernel)) fp_RX1_25 rfl (Or.inr ⟨_, rfl⟩) rfl (fun C T N e => by cases e; exact bw_222) ⟨by decide, by decide +kernel, by decide +kernel⟩ ⟨⟨by omega, by omega⟩, by omega, by omega⟩ ?_
  have K15 : NR A [(28, 0, 29), (28, 1, 30), (28, 2, 31), (28, 3, 32), (28, 4, 33), (28, 5, 34), (28, 6, 35), (28, 7, 36), (28, 8, 37), (28, 9, 38), (28, 10, 39), (27, 0, 28), (27, 1, 40), (27, 2, 41), (27, 3, 42)] r (ur r14 (A + 27) 3 (A + 42)) := NR.tr K14 NR.on (by decide +kernel)
  generalize (ur r14 (A + 27) 3 (A + 42)) = r15 at K15 ⊢
  refine mw_aload_n (v := vR (A + 27)) (pc' := 40) dX1_init_39 rfl rfl (Or.inl rfl) rfl ?_
  refine mw_bipush (pc' := 42) dX1_init_40 rfl ⟨by decide, by decide⟩ ?_
  refine mw_newIO (a' := (A + 44)) (pc' := 44) dX1_init_42 rfl ((hD.lk (o := 43) (by decide)).1.trans (by decide +kernel)) ((hD.lk (o := 43) (by decide)).2.trans (by decide +kernel)) ⟨⟨by decide, by decide⟩, by decide, by decide⟩ ⟨by omega, by omega⟩ ?_
  show MW mX1_init 2 1234 44 [(0, vR (A + 27))] [vR (A + 43), vR (A + 27)] (n1, (A + 44), r15) d Q
  refine mw_putO (ji := 4) (pc' := 47) dX1_init_44 rfl ((hD.lk (o := 27) (by decide)).1.trans (by decide +kernel)) fp_RX1_28 rfl (Or.inr ⟨_, rfl⟩) rfl (fun C T N e => by cases e; exact bw_224) ⟨by decide, by decide +kernel, by decide +kernel⟩ ⟨⟨by omega, by omega⟩, by omega, by omega⟩ ?_
  have K16 : NR A [(28, 0, 29), (28, 1, 30), (28, 2, 31), (28, 3, 32), (28, 4, 33), (28, 5, 34), (28, 6, 35), (28, 7, 36), (28, 8, 37), (28, 9, 38), (28, 10, 39), (27, 0, 28), (27, 1, 40), (27, 2, 41), (27, 3, 42), (27, 4, 43)] r (ur r15 (A + 27) 4 (A + 43)) := NR.tr K15 NR.on (by decide +kernel)
  generalize (ur r15 (A + 27) 4 (A + 43)) = r16 at K16 ⊢
  refine mw_aload_n (v := vR (A + 27)) (pc' := 48) dX1_init_47 rfl rfl (Or.inl rfl) rfl ?_
  refine mw_bipush (pc' := 50) dX1_init_48 rfl ⟨by decide, by decide⟩ ?_
  refine mw_newIO (a' := (A + 45)) (pc' := 52) dX1_init_50 rfl ((hD.lk (o := 44) (by decide)).1.trans (by decide +kernel)) ((hD.lk (o := 44) (by decide)).2.trans (by decide +kernel)) ⟨⟨by decide, by decide⟩, by decide, by decide⟩ ⟨by omega, by omega⟩ ?_
  show MW mX1_init 1 1214 52 [(0, vR (A + 27))] [vR (A + 44), vR (A + 27)] (n1, (A + 45), r16) d Q
  refine mw_putO (ji := 5) (pc' := 55) dX1_init_52 rfl ((hD.lk (o := 27) (by decide)).1.trans (by decide +kernel)) fp_RX1_31 rfl (Or.inr ⟨_, rfl⟩) rfl (fun C T N e => by cases e; exact bw_226) ⟨by decide, by decide +kernel, by decide +kernel⟩ ⟨⟨by omega, by omega⟩, by omega, by omega⟩ ?_
  have K17 : NR A [(28, 0, 29), (28, 1, 30), (28, 2, 31), (28, 3, 32), (28, 4, 33), (28, 5, 34), (28, 6, 35), (28, 7, 36), (28, 8, 37), (28, 9, 38), (28, 10, 39), (27, 0, 28), (27, 1, 40), (27, 2, 41), (27, 3, 42), (27, 4, 43), (27, 5, 44)] r (ur r16 (A + 27) 5 (A + 44)) := NR.tr K16 NR.on (by decide +kernel)
  generalize (ur r16 (A + 27) 5 (A + 44)) = r17 at K17 ⊢
  refine mw_aload_n (v := vR (A + 27)) (pc' := 56) dX1_init_55 rfl rfl (Or.inl rfl) rfl ?_
  refine mw_bipush (pc' := 58) dX1_init_56 rfl ⟨by decide, by decide⟩ ?_
  refine mw_newIO (a' := (A + 46)) (pc' := 60) dX1_init_58 rfl ((hD.lk (o := 45) (by decide)).1.trans (by decide +kernel)) ((hD.lk (o := 45) (by decide)).2.trans (by decide +kernel)) ⟨⟨by decide, by decide⟩, by decide, by decide⟩ ⟨by omega, by omega⟩ ?_
  show MW mX1_init 0 1194 60 [(0, vR (A + 27))] [vR (A + 45), vR (A + 27)] (n1, (A + 46), r17) d Q
  refine mw_putO (ji := 6) (pc' := 63) dX1_init_60 rfl ((hD.lk (o := 27) (by decide)).1.trans (by decide +kernel)) fp_RX1_34 rfl (Or.inr ⟨_, rfl⟩) rfl (fun C T N e => by cases e; exact bw_227) ⟨by decide, by decide +kernel, by decide +kernel⟩ ⟨⟨by omega, by omega⟩, by omega, by omega⟩ ?_
  have K18 : NR A [(28, 0, 29), (28, 1, 30), (28, 2, 31), (28, 3, 32), (28, 4, 33), (28, 5, 34), (28, 6, 35), (28, 7, 36), (28, 8, 37), (28, 9, 38), (28, 10, 39), (27, 0, 28), (27, 1, 40), (27, 2, 41), (27, 3, 42), (27, 4, 43), (27, 5, 44), (27, 6, 45)] r (ur r17 (A + 27) 6 (A + 45)) := NR.tr K17 NR.on (by decide +kernel)
  generalize (ur r17 (A + 27) 6 (A + 45)) = r18 at K18 ⊢
  exact mw_vret (pc' := 0) (S := []) dX1_init_63 rfl (h _ K18)
theorem i_X3 {A : Int} {n1 : Int} {r : mR} {d : mD} {Q : mQ} (hD : isD A) (hn : n1 ≤ A) (h : ∀ r', NR A SPd r r' → ∀ d', (∀ b j : Int, ¬ (A + 7 ≤ b ∧ b ≤ A + 9) → d' b j = d b j) → ((∀ j, 0 ≤ j → j < 8 → d' (A + 7) j = 10 + 10 * j ∧ d' (A + 8) j = j % 2) ∧ d' (A + 9) 0 = 0 ∧ d' (A + 9) 1 = 1 ∧ d' (A + 9) 2 = 3 ∧ d' (A + 9) 3 = 14) → Q (.inl 0) (n1, (A + 46), r') d') : MM mX3_init [vR (A + 0)] (n1, (A + 1), r) d Q := by
  refine MM_of (by decide) rfl (by simp [catV]) (Nat.le_of_ble_eq_true rfl) ?_
  show MW mX3_init 45 8216 0 [(0, vR (A + 0))] [] (n1, (A + 1), r) d Q
  have hA := hD.lim
  refine mw_aload_n (v := vR (A + 0)) (pc' := 1) dX3_init_0 rfl rfl (Or.inl rfl) rfl ?_
  refine mw_objinit (pc' := 4) dX3_init_1 rfl (goodW 57 (by decide +kernel) rfl) oi_na.1 oi_na.2 (by omega) (by decide) (by decide) (Nat.le_of_ble_eq_true rfl) ?_
  refine mw_aload_n (v := vR (A + 0)) (pc' := 5) dX3_init_4 rfl rfl (Or.inl rfl) rfl ?_
  refine mw_newO (a' := (A + 2)) (pc' := 8) dX3_init_5 rfl fn_RX3_7 ((hD.lk (o := 1) (by decide)).1.trans (by decide +kernel)) ⟨by decide, by decide, by decide⟩ ⟨by omega, by omega⟩ ?_
  show MW mX3_init 44 8213 8 [(0, vR (A + 0))] [vR (A + 1), vR (A + 0)] (n1, (A + 2), r) d Q
  refine mw_dup (pc' := 9) dX3_init_8 rfl rfl ?_
  refine mw_callI (M' := mX5_init) (A := []) (A' := [vR (A + 1)]) (S := [vR (A + 1), vR (A + 0)]) (a := (A + 1)) (pc' := 12) dX3_init_9 rfl cl_RX3_9 cm_X5_init ci_X5_init rfl rfl ⟨by decide, by decide, by decide, by decide, by decide⟩ rfl rfl rfl ⟨by omega, by show A + 1 < A + 2; omega⟩ (Nat.le_of_ble_eq_true rfl) (i_X5 hD hn fun r2 k9 => ?_)
  show MW mX3_init 42 7783 12 [(0, vR (A + 0))] [vR (A + 1), vR (A + 0)] (n1, (A + 4), r2) d Q
  have K2 : NR A [(1, 0, 2), (1, 1, 3)] r r2 := k9
  refine mw_putO (ji := 0) (pc' := 15) dX3_init_12 rfl ((hD.lk (o := 0) (by decide)).1.trans (by decide +kernel)) fp_RX3_10 rfl (Or.inl ⟨_, rfl⟩) rfl (fun C T N e => by cases e; exact bw_247) ⟨by decide, by decide +kernel, by decide +kernel⟩ ⟨⟨by omega, by omega⟩, by omega, by omega⟩ ?_
  have K3 : NR A [(1, 0, 2), (1, 1, 3), (0, 0, 1)] r (ur r2 (A + 0) 0 (A + 1)) := NR.tr K2 NR.on (by decide +kernel)
  generalize (ur r2 (A + 0) 0 (A + 1)) = r3 at K3 ⊢
  refine mw_aload_n (v := vR (A + 0)) (pc' := 16) dX3_init_15 rfl rfl (Or.inl rfl) rfl ?_
  refine mw_newO (a' := (A + 5)) (pc' := 19) dX3_init_16 rfl fn_RX3_16 ((hD.lk (o := 4) (by decide)).1.trans (by decide +kernel)) ⟨by decide, by decide, by decide⟩ ⟨by omega, by omega⟩ ?_
  show MW mX3_init 41 7780 19 [(0, vR (A + 0))] [vR (A + 4), vR (A + 0)] (n1, (A + 5), r3) d Q
  refine mw_dup (pc' := 20) dX3_init_19 rfl rfl ?_
  refine mw_callI (M' := mX0_init) (A := []) (A' := [vR (A + 4)]) (S := [vR (A + 4), vR (A + 0)]) (a := (A + 4)) (pc' := 23) dX3_init_20 rfl cl_RX3_18 cm_X0_init ci_X0_init rfl rfl ⟨by decide, by decide, by decide, by decide, by decide⟩ rfl rfl rfl ⟨by omega, by show A + 4 < A + 5; omega⟩ (Nat.le_of_ble_eq_true rfl) (i_X0 hD hn fun r4 k20 => ?_)
  show MW mX3_init 40 7565 23 [(0, vR (A + 0))] [vR (A + 4), vR (A + 0)] (n1, (A + 6), r4) d Q
  have K4 : NR A [(1, 0, 2), (1, 1, 3), (0, 0, 1), (4, 1, 5)] r r4 := NR.tr K3 k20 (by decide +kernel)
  refine mw_putO (ji := 1) (pc' := 26) dX3_init_23 rfl ((hD.lk (o := 0) (by decide)).1.trans (by decide +kernel)) fp_RX3_19 rfl (Or.inl ⟨_, rfl⟩) rfl (fun C T N e => by cases e; exact bw_249) ⟨by decide, by decide +kernel, by decide +kernel⟩ ⟨⟨by omega, by omega⟩, by omega, by omega⟩ ?_
  have K5 : NR A [(1, 0, 2), (1, 1, 3), (0, 0, 1), (4, 1, 5), (0, 1, 4)] r (ur r4 (A + 0) 1 (A + 4)) := NR.tr K4 NR.on (by decide +kernel)
  generalize (ur r4 (A + 0) 1 (A + 4)) = r5 at K5 ⊢
  refine mw_aload_n (v := vR (A + 0)) (pc' := 27) dX3_init_26 rfl rfl (Or.inl rfl) rfl ?_
  refine mw_newO (a' := (A + 7)) (pc' := 30) dX3_init_27 rfl fn_RX3_23 ((hD.lk (o := 6) (by decide)).1.trans (by decide +kernel)) ⟨by decide, by decide, by decide⟩ ⟨by omega, by omega⟩ ?_
  show MW mX3_init 39 7562 30 [(0, vR (A + 0))] [vR (A + 6), vR (A + 0)] (n1, (A + 7), r5) d Q
  refine mw_dup (pc' := 31) dX3_init_30 rfl rfl ?_
  refine mw_callI (M' := mX7_init) (A := []) (A' := [vR (A + 6)]) (S := [vR (A + 6), vR (A + 0)]) (a := (A + 6)) (pc' := 34) dX3_init_31 rfl cl_RX3_25 cm_X7_init ci_X7_init rfl rfl ⟨by decide, by decide, by decide, by decide, by decide⟩ rfl rfl rfl ⟨by omega, by show A + 6 < A + 7; omega⟩ (Nat.le_of_ble_eq_true rfl) (i_X7 hD hn fun r8 k31 e31 f31 s31 => ?_)
  show MW mX3_init 36 6917 34 [(0, vR (A + 0))] [vR (A + 6), vR (A + 0)] (n1, (A + 10), r8) e31 Q
  have K8 : NR A [(1, 0, 2), (1, 1, 3), (0, 0, 1), (4, 1, 5), (0, 1, 4), (6, 0, 7), (6, 1, 8), (6, 2, 9)] r r8 := NR.tr K5 k31 (by decide +kernel)
  refine mw_putO (ji := 2) (pc' := 37) dX3_init_34 rfl ((hD.lk (o := 0) (by decide)).1.trans (by decide +kernel)) fp_RX3_26 rfl (Or.inl ⟨_, rfl⟩) rfl (fun C T N e => by cases e; exact bw_251) ⟨by decide, by decide +kernel, by decide +kernel⟩ ⟨⟨by omega, by omega⟩, by omega, by omega⟩ ?_
  have K9 : NR A [(1, 0, 2), (1, 1, 3), (0, 0, 1), (4, 1, 5), (0, 1, 4), (6, 0, 7), (6, 1, 8), (6, 2, 9), (0, 2, 6)] r (ur r8 (A + 0) 2 (A + 6)) := NR.tr K8 NR.on (by decide +kernel)
  generalize (ur r8 (A + 0) 2 (A + 6)) = r9 at K9 ⊢
  refine mw_aload_n (v := vR (A + 0)) (pc' := 38) dX3_init_37 rfl rfl (Or.inl rfl) rfl ?_
  refine mw_newO (a' := (A + 11)) (pc' := 41) dX3_init_38 rfl fn_RX3_30 ((hD.lk (o := 10) (by decide)).1.trans (by decide +kernel)) ⟨by decide, by decide, by decide⟩ ⟨by omega, by omega⟩ ?_
  show MW mX3_init 35 6905 41 [(0, vR (A + 0))] [vR (A + 10), vR (A + 0)] (n1, (A + 11), r9) e31 Q
  refine mw_dup (pc' := 42) dX3_init_41 rfl rfl ?_
  refine mw_callI (M' := mX2_init) (A := []) (A' := [vR (A + 10)]) (S := [vR (A + 10), vR (A + 0)]) (a := (A + 10)) (pc' := 45) dX3_init_42 rfl cl_RX3_32 cm_X2_init ci_X2_init rfl rfl ⟨by decide, by decide, by decide, by decide, by decide⟩ rfl rfl rfl ⟨by omega, by show A + 10 < A + 11; omega⟩ (Nat.le_of_ble_eq_true rfl) (i_X2d hD hn fun r20 k42 => ?_)
  show MW mX3_init 24 4540 45 [(0, vR (A + 0))] [vR (A + 10), vR (A + 0)] (n1, (A + 22), r20) e31 Q
  have K20 : NR A [(1, 0, 2), (1, 1, 3), (0, 0, 1), (4, 1, 5), (0, 1, 4), (6, 0, 7), (6, 1, 8), (6, 2, 9), (0, 2, 6), (10, 0, 11), (10, 1, 12), (10, 2, 13), (10, 3, 14), (10, 4, 15), (10, 5, 16), (10, 6, 17), (10, 7, 18), (10, 8, 19), (10, 9, 20), (10, 10, 21)] r r20 := NR.tr K9 k42 (by decide +kernel)
  refine mw_putO (ji := 3) (pc' := 48) dX3_init_45 rfl ((hD.lk (o := 0) (by decide)).1.trans (by decide +kernel)) fp_RX3_33 rfl (Or.inl ⟨_, rfl⟩) rfl (fun C T N e => by cases e; exact bw_253) ⟨by decide, by decide +kernel, by decide +kernel⟩ ⟨⟨by omega, by omega⟩, by omega, by omega⟩ ?_
  have K21 : NR A [(1, 0, 2), (1, 1, 3), (0, 0, 1), (4, 1, 5), (0, 1, 4), (6, 0, 7), (6, 1, 8), (6, 2, 9), (0, 2, 6), (10, 0, 11), (10, 1, 12), (10, 2, 13), (10, 3, 14), (10, 4, 15), (10, 5, 16), (10, 6, 17), (10, 7, 18), (10, 8, 19), (10, 9, 20), (10, 10, 21), (0, 3, 10)] r (ur r20 (A + 0) 3 (A + 10)) := NR.tr K20 NR.on (by decide +kernel)
  generalize (ur r20 (A + 0) 3 (A + 10)) = r21 at K21 ⊢
  refine mw_aload_n (v := vR (A + 0)) (pc' := 49) dX3_init_48 rfl rfl (Or.inl rfl) rfl ?_
  refine mw_newO (a' := (A + 23)) (pc' := 52) dX3_init_49 rfl fn_RX3_37 ((hD.lk (o := 22) (by decide)).1.trans (by decide +kernel)) ⟨by decide, by decide, by decide⟩ ⟨by omega, by omega⟩ ?_
  show MW mX3_init 23 4535 52 [(0, vR (A + 0))] [vR (A + 22), vR (A + 0)] (n1, (A + 23), r21) e31 Q
  refine mw_dup (pc' := 53) dX3_init_52 rfl rfl ?_
  refine mw_callI (M' := mX8_init) (A := []) (A' := [vR (A + 22)]) (S := [vR (A + 22), vR (A + 0)]) (a := (A + 22)) (pc' := 56) dX3_init_53 rfl cl_RX3_39 cm_X8_init ci_X8_init rfl rfl ⟨by decide, by decide, by decide, by decide, by decide⟩ rfl rfl rfl ⟨by omega, by show A + 22 < A + 23; omega⟩ (Nat.le_of_ble_eq_true rfl) (i_X8 hD hn fun r25 k53 => ?_)
  show MW mX3_init 19 3675 56 [(0, vR (A + 0))] [vR (A + 22), vR (A + 0)] (n1, (A + 27), r25) e31 Q
  have K25 : NR A [(1, 0, 2), (1, 1, 3), (0, 0, 1), (4, 1, 5), (0, 1, 4), (6, 0, 7), (6, 1, 8), (6, 2, 9), (0, 2, 6), (10, 0, 11), (10, 1, 12), (10, 2, 13), (10, 3, 14), (10, 4, 15), (10, 5, 16), (10, 6, 17), (10, 7, 18), (10, 8, 19), (10, 9, 20), (10, 10, 21), (0, 3, 10), (22, 0, 23), (22, 1, 24), (22, 2, 25), (22, 3, 26)] r r25 := NR.tr K21 k53 (by decide +kernel)
  refine mw_putO (ji := 4) (pc' := 59) dX3_init_56 rfl ((hD.lk (o := 0) (by decide)).1.trans (by decide +kernel)) fp_RX3_40 rfl (Or.inl ⟨_, rfl⟩) rfl (fun C T N e => by cases e; exact bw_255) ⟨by decide, by decide +kernel, by decide +kernel⟩ ⟨⟨by omega, by omega⟩, by omega, by omega⟩ ?_
  have K26 : NR A [(1, 0, 2), (1, 1, 3), (0, 0, 1), (4, 1, 5), (0, 1, 4), (6, 0, 7), (6, 1, 8), (6, 2, 9), (0, 2, 6), (10, 0, 11), (10, 1, 12), (10, 2, 13), (10, 3, 14), (10, 4, 15), (10, 5, 16), (10, 6, 17), (10, 7, 18), (10, 8, 19), (10, 9, 20), (10, 10, 21), (0, 3, 10), (22, 0, 23), (22, 1, 24), (22, 2, 25), (22, 3, 26), (0, 4, 22)] r (ur r25 (A + 0) 4 (A + 22)) := NR.tr K25 NR.on (by decide +kernel)
  generalize (ur r25 (A + 0) 4 (A + 22)) = r26 at K26 ⊢
  refine mw_aload_n (v := vR (A + 0)) (pc' := 60) dX3_init_59 rfl rfl (Or.inl rfl) rfl ?_
  refine mw_newO (a' := (A + 28)) (pc' := 63) dX3_init_60 rfl fn_RX3_44 ((hD.lk (o := 27) (by decide)).1.trans (by decide +kernel)) ⟨by decide, by decide, by decide⟩ ⟨by omega, by omega⟩ ?_
  show MW mX3_init 18 3667 63 [(0, vR (A + 0))] [vR (A + 27), vR (A + 0)] (n1, (A + 28), r26) e31 Q
  refine mw_dup (pc' := 64) dX3_init_63 rfl rfl ?_
  refine mw_callI (M' := mX1_init) (A := []) (A' := [vR (A + 27)]) (S := [vR (A + 27), vR (A + 0)]) (a := (A + 27)) (pc' := 67) dX3_init_64 rfl cl_RX3_46 cm_X1_init ci_X1_init rfl rfl ⟨by decide, by decide, by decide, by decide, by decide⟩ rfl rfl rfl ⟨by omega, by show A + 27 < A + 28; omega⟩ (Nat.le_of_ble_eq_true rfl) (i_X1 hD hn fun r44 k64 => ?_)
  show MW mX3_init 0 0 67 [(0, vR (A + 0))] [vR (A + 27), vR (A + 0)] (n1, (A + 46), r44) e31 Q
  have K44 : NR A [(1, 0, 2), (1, 1, 3), (0, 0, 1), (4, 1, 5), (0, 1, 4), (6, 0, 7), (6, 1, 8), (6, 2, 9), (0, 2, 6), (10, 0, 11), (10, 1, 12), (10, 2, 13), (10, 3, 14), (10, 4, 15), (10, 5, 16), (10, 6, 17), (10, 7, 18), (10, 8, 19), (10, 9, 20), (10, 10, 21), (0, 3, 10), (22, 0, 23), (22, 1, 24), (22, 2, 25), (22, 3, 26), (0, 4, 22), (28, 0, 29), (28, 1, 30), (28, 2, 31), (28, 3, 32), (28, 4, 33), (28, 5, 34), (28, 6, 35), (28, 7, 36), (28, 8, 37), (28, 9, 38), (28, 10, 39), (27, 0, 28), (27, 1, 40), (27, 2, 41), (27, 3, 42), (27, 4, 43), (27, 5, 44), (27, 6, 45)] r r44 := NR.tr K26 k64 (by decide +kernel)
  refine mw_putO (ji := 5) (pc' := 70) dX3_init_67 rfl ((hD.lk (o := 0) (by decide)).1.trans (by decide +kernel)) fp_RX3_47 rfl (Or.inl ⟨_, rfl⟩) rfl (fun C T N e => by cases e; exact bw_257) ⟨by decide, by decide +kernel, by decide +kernel⟩ ⟨⟨by omega, by omega⟩, by omega, by omega⟩ ?_
  have K45 : NR A [(1, 0, 2), (1, 1, 3), (0, 0, 1), (4, 1, 5), (0, 1, 4), (6, 0, 7), (6, 1, 8), (6, 2, 9), (0, 2, 6), (10, 0, 11), (10, 1, 12), (10, 2, 13), (10, 3, 14), (10, 4, 15), (10, 5, 16), (10, 6, 17), (10, 7, 18), (10, 8, 19), (10, 9, 20), (10, 10, 21), (0, 3, 10), (22, 0, 23), (22, 1, 24), (22, 2, 25), (22, 3, 26), (0, 4, 22), (28, 0, 29), (28, 1, 30), (28, 2, 31), (28, 3, 32), (28, 4, 33), (28, 5, 34), (28, 6, 35), (28, 7, 36), (28, 8, 37), (28, 9, 38), (28, 10, 39), (27, 0, 28), (27, 1, 40), (27, 2, 41), (27, 3, 42), (27, 4, 43), (27, 5, 44), (27, 6, 45), (0, 5, 27)] r (ur r44 (A + 0) 5 (A + 27)) := NR.tr K44 NR.on (by decide +kernel)
  generalize (ur r44 (A + 0) 5 (A + 27)) = r45 at K45 ⊢
  exact mw_vret (pc' := 0) (S := []) dX3_init_70 rfl (h _ K45 e31 f31 s31)
