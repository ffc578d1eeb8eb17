-- the JDK's own length() and charAt(int) of a String constant
theorem sAt_all : ∀ l ∈ STbyt, ∀ b ∈ l, (0 : Int) ≤ b.toInt ∧ b.toInt ≤ 127 := by decide +kernel
theorem sAt_rng (i k : Int) : 0 ≤ sAt i k ∧ sAt i k ≤ 127 := by
  unfold sAt
  by_cases hi : i.toNat < STbyt.length
  · rw [List.getD_eq_getElem?_getD (l := STbyt), List.getElem?_eq_getElem hi, Option.getD_some]
    by_cases hk : k.toNat < (STbyt[i.toNat]).length
    · rw [List.getD_eq_getElem?_getD, List.getElem?_eq_getElem hk, Option.getD_some]
      exact sAt_all _ (List.getElem_mem hi) _ (List.getElem_mem hk)
    · rw [List.getD_eq_getElem?_getD, List.getElem?_eq_none (by omega), Option.getD_none]
      exact ⟨by decide, by decide⟩
  · rw [List.getD_eq_getElem?_getD (l := STbyt), List.getElem?_eq_none (by omega), Option.getD_none]
    exact ⟨by simp, by simp⟩
theorem sLen_all : ∀ n ∈ STlen, n ≤ 33 := by decide +kernel
theorem sLen_rng (i : Int) : 0 ≤ sLen i ∧ sLen i ≤ 33 := by
  unfold sLen
  by_cases hi : i.toNat < STlen.length
  · rw [List.getD_eq_getElem?_getD, List.getElem?_eq_getElem hi, Option.getD_some]
    have := sLen_all _ (List.getElem_mem hi)
    omega
  · rw [List.getD_eq_getElem?_getD, List.getElem?_eq_none (by omega), Option.getD_none]
    omega
def mJ3_chk : mM := (yJ3_checkIndex_8e157, cJ3_checkIndex_8e157, 3, RJ3, some .int, (1, 40, 0, 0), 0, [])
def mJ0_chk : mM := (yJ0_checkIndex_df160, cJ0_checkIndex_df160, 2, RJ0, none, (2, 70, 0, 0), 0, [])
def mJ1_cha : mM := (yJ1_charAt_3b067, cJ1_charAt_3b067, 2, RJ1, some .char, (3, 100, 0, 0), 0, [])
def mJ0_cod : mM := (yJ0_coder_7d493, cJ0_coder_7d493, 1, RJ0, some .byte, (1, 40, 0, 0), 0, [])
def mJ0_isL : mM := (yJ0_isLatin1_aae02, cJ0_isLatin1_aae02, 1, RJ0, some .boolean, (1, 40, 0, 0), 0, [])
def mJ0_len : mM := (yJ0_length_8abf5, cJ0_length_8abf5, 1, RJ0, some .int, (2, 80, 0, 0), 0, [])
def mJ0_cha : mM := (yJ0_charAt_5068e, cJ0_charAt_5068e, 2, RJ0, some .char, (4, 140, 0, 0), 0, [])
theorem cm_J3_chk : CM mJ3_chk 3 := ⟨goodW 1527 (by decide +kernel) rfl, goodW 28 (by decide +kernel) rfl, ⟨by decide, by decide⟩, by decide +kernel, rfl⟩
theorem cm_J0_chk : CM mJ0_chk 2 := ⟨goodW 1522 (by decide +kernel) rfl, goodW 25 (by decide +kernel) rfl, ⟨by decide, by decide⟩, by decide +kernel, rfl⟩
theorem cm_J1_cha : CM mJ1_cha 2 := ⟨goodW 1519 (by decide +kernel) rfl, goodW 27 (by decide +kernel) rfl, ⟨by decide, by decide⟩, by decide +kernel, rfl⟩
theorem cm_J0_cod : CM mJ0_cod 0 := ⟨goodW 1505 (by decide +kernel) rfl, goodW 25 (by decide +kernel) rfl, ⟨by decide, by decide⟩, by decide +kernel, rfl⟩
theorem cm_J0_isL : CM mJ0_isL 0 := ⟨goodW 1516 (by decide +kernel) rfl, goodW 25 (by decide +kernel) rfl, ⟨by decide, by decide⟩, by decide +kernel, rfl⟩
theorem cm_J0_len : CM mJ0_len 0 := ⟨goodW 1501 (by decide +kernel) rfl, goodW 25 (by decide +kernel) rfl, ⟨by decide, by decide⟩, by decide +kernel, rfl⟩
theorem cm_J0_cha : CM mJ0_cha 1 := ⟨goodW 1512 (by decide +kernel) rfl, goodW 25 (by decide +kernel) rfl, ⟨by decide, by decide⟩, by decide +kernel, rfl⟩
theorem cs_J3_chk : Cond.static (mY mJ3_chk) ∈ BIG := goodW 1526 (by decide +kernel) rfl
theorem cs_J0_chk : Cond.static (mY mJ0_chk) ∈ BIG := goodW 1521 (by decide +kernel) rfl
theorem cs_J1_cha : Cond.static (mY mJ1_cha) ∈ BIG := goodW 1518 (by decide +kernel) rfl
theorem cv_J0_cod : CV mJ0_cod := ⟨goodW 1503 (by decide +kernel) rfl, goodW 1504 (by decide +kernel) rfl⟩
theorem cv_J0_isL : CV mJ0_isL := ⟨goodW 1514 (by decide +kernel) rfl, goodW 1515 (by decide +kernel) rfl⟩
theorem cv_J0_len : CV mJ0_len := ⟨goodW 1499 (by decide +kernel) rfl, goodW 1500 (by decide +kernel) rfl⟩
theorem cv_J0_cha : CV mJ0_cha := ⟨goodW 1510 (by decide +kernel) rfl, goodW 1511 (by decide +kernel) rfl⟩
theorem cl_J0_335 : CL RJ0 335 mJ0_cod := Or.inl (goodW 1502 (by decide +kernel) rfl)
theorem cl_J0_492 : CL RJ0 492 mJ0_isL := Or.inl (goodW 1513 (by decide +kernel) rfl)
theorem cl_J0_495 : CL RJ0 495 mJ1_cha := Or.inl (goodW 1517 (by decide +kernel) rfl)
theorem cl_J1_9 : CL RJ1 9 mJ0_chk := Or.inl (goodW 1520 (by decide +kernel) rfl)
theorem cl_J0_1059 : CL RJ0 1059 mJ3_chk := Or.inl (goodW 1525 (by decide +kernel) rfl)
theorem cl_RX6_61 : Cond.methodLink RX6 61 (mY mJ0_len) ∈ BIG := goodW 1498 (by decide +kernel) rfl
theorem cl_RX6_90 : Cond.methodLink RX6 90 (mY mJ0_cha) ∈ BIG := goodW 1509 (by decide +kernel) rfl
theorem fl_J0_9 : Cond.fieldLink RJ0 9 "java/lang/String" "value" "[B" ∈ BIG := goodW 2172 (by decide +kernel) rfl
theorem fl_J0_15 : Cond.fieldLink RJ0 15 "java/lang/String" "coder" "B" ∈ BIG := goodW 2173 (by decide +kernel) rfl
theorem fl_J0_38 : Cond.fieldLink RJ0 38 "java/lang/String" "COMPACT_STRINGS" "Z" ∈ BIG := goodW 1506 (by decide +kernel) rfl
theorem fl_J0_1053 : Cond.fieldLink RJ0 1053 "jdk/internal/util/Preconditions" "SIOOBE_FORMATTER" "Ljava/util/function/BiFunction;" ∈ BIG := goodW 1523 (by decide +kernel) rfl
theorem mw_sval {M : mM} {bc bs : Nat} {pc pc' : Nat} {L : List (Nat × mV)} {S : List mV} {g : mG} {d : mD} {Q : mQ} {i : Int} {idx : Nat} (hd : decode (mC M) pc = .ok (.getfield idx, 3)) (hp : pc + 3 = pc') (hln : Cond.fieldLink (mOw M) idx "java/lang/String" "value" "[B" ∈ BIG) (k0 : MW M bc bs pc' L ((8, i) :: S) g d Q) : MW M bc bs pc L ((6, i) :: S) g d Q := by
  intro p l e s m args below meth c H locs cells slots X φ E ls hC hS hR hE hL hO hl hw hc hs
  obtain ⟨hx, hb, hml, hown, hts, hK, hT, hr, hlk, hnm, htb, hfl⟩ := id hC
  subst hp
  have hi : 0 ≤ i ∧ i < 33 := hO.1
  have h0 := k0 p l e s m args below meth c H locs cells slots X φ E ls hC hS hR hE hL ⟨hi, hO.2⟩ hl hw hc hs
  rw [List.map_cons] at h0 ⊢
  exact vk_getf hx hb (hT.2.2.2.1.1 i.toNat (by omega)).2.2.1 hS hown (hts _ hln) (fun x hx => hx) hd h0
theorem mw_scod {M : mM} {bc bs : Nat} {pc pc' : Nat} {L : List (Nat × mV)} {S : List mV} {g : mG} {d : mD} {Q : mQ} {i : Int} {idx : Nat} (hd : decode (mC M) pc = .ok (.getfield idx, 3)) (hp : pc + 3 = pc') (hln : Cond.fieldLink (mOw M) idx "java/lang/String" "coder" "B" ∈ BIG) (k0 : MW M bc bs pc' L (vI 0 :: S) g d Q) : MW M bc bs pc L ((6, i) :: S) g d Q := by
  intro p l e s m args below meth c H locs cells slots X φ E ls hC hS hR hE hL hO hl hw hc hs
  obtain ⟨hx, hb, hml, hown, hts, hK, hT, hr, hlk, hnm, htb, hfl⟩ := id hC
  subst hp
  have hi : 0 ≤ i ∧ i < 33 := hO.1
  have h0 := k0 p l e s m args below meth c H locs cells slots X φ E ls hC hS hR hE hL ⟨i_0, hO.2⟩ hl hw hc hs
  rw [List.map_cons] at h0 ⊢
  exact vk_getf hx hb (hT.2.2.2.1.1 i.toNat (by omega)).2.1 hS hown (hts _ hln) (fun x hx => hx) hd h0
theorem mw_scmp {M : mM} {bc bs : Nat} {pc pc' : Nat} {L : List (Nat × mV)} {S : List mV} {g : mG} {d : mD} {Q : mQ} {idx : Nat} (hd : decode (mC M) pc = .ok (.getstatic idx, 3)) (hp : pc + 3 = pc') (hln : Cond.fieldLink (mOw M) idx "java/lang/String" "COMPACT_STRINGS" "Z" ∈ BIG) (k0 : MW M bc bs pc' L (vI 1 :: S) g d Q) : MW M bc bs pc L S g d Q := by
  intro p l e s m args below meth c H locs cells slots X φ E ls hC hS hR hE hL hO hl hw hc hs
  obtain ⟨hx, hb, hml, hown, hts, hK, hT, hr, hlk, hnm, htb, hfl⟩ := id hC
  subst hp
  have h0 := k0 p l e s m args below meth c H locs cells slots X φ E ls hC hS hR hE hL ⟨⟨by decide, by decide⟩, hO⟩ hl hw hc hs
  rw [List.map_cons] at h0
  exact va_gets hx hb hT.2.2.1 hS hown (hts _ hln) (fun x hx => hx) hd h0
theorem okv_7 {n x : Int} : okv n (7, x) := trivial
theorem mw_sfmt {M : mM} {bc bs : Nat} {pc pc' : Nat} {L : List (Nat × mV)} {S : List mV} {g : mG} {d : mD} {Q : mQ} {idx : Nat} (hd : decode (mC M) pc = .ok (.getstatic idx, 3)) (hp : pc + 3 = pc') (hln : Cond.fieldLink (mOw M) idx "jdk/internal/util/Preconditions" "SIOOBE_FORMATTER" "Ljava/util/function/BiFunction;" ∈ BIG) (k0 : ∀ q : Int, MW M bc bs pc' L ((7, q) :: S) g d Q) : MW M bc bs pc L S g d Q := by
  intro p l e s m args below meth c H locs cells slots X φ E ls hC hS hR hE hL hO hl hw hc hs
  obtain ⟨hx, hb, hml, hown, hts, hK, hT, hr, hlk, hnm, htb, hfl⟩ := id hC
  subst hp
  have hz := hT.2.2.2.2.2.2.2.2.2.2.1
  rcases hz with hz | ⟨t, hz⟩
  · have h0 := k0 (-1) p l e s m args below meth c H locs cells slots X φ E ls hC hS hR hE hL ⟨okv_7, hO⟩ hl hw hc hs
    rw [List.map_cons] at h0
    exact va_gets hx hb hz hS hown (hts _ hln) (fun x hx => hx) hd h0
  · have h0 := k0 (t : Int) p l e s m args below meth c H locs cells slots X φ E ls hC hS hR hE hL ⟨trivial, hO⟩ hl hw hc hs
    rw [List.map_cons, show rv X φ (7, (t : Int)) = .ref t from (if_neg (by omega) : (if (t : Int) < 0 then Value.null else Value.ref (t : Int).toNat) = Value.ref (t : Int).toNat)] at h0
    exact va_gets hx hb hz hS hown (hts _ hln) (fun x hx => hx) hd h0
theorem mw_blen {M : mM} {bc bs : Nat} {pc pc' : Nat} {L : List (Nat × mV)} {S : List mV} {g : mG} {d : mD} {Q : mQ} {i : Int} (hd : decode (mC M) pc = .ok (.arraylength, 1)) (hp : pc + 1 = pc') (k0 : MW M bc bs pc' L (vI (sLen i) :: S) g d Q) : MW M bc bs pc L ((8, i) :: S) g d Q := by
  intro p l e s m args below meth c H locs cells slots X φ E ls hC hS hR hE hL hO hl hw hc hs
  obtain ⟨hx, hb, hml, hown, hts, hK, hT, hr, hlk, hnm, htb, hfl⟩ := id hC
  subst hp
  have hi : 0 ≤ i ∧ i < 33 := hO.1
  have hq := sLen_rng i
  have h0 := k0 p l e s m args below meth c H locs cells slots X φ E ls hC hS hR hE hL ⟨(ik (by omega) : iI (sLen i)), hO.2⟩ hl hw hc hs
  rw [List.map_cons] at h0 ⊢
  exact va_tlen hx hb (hT.2.2.2.1.1 i.toNat (by omega)).2.2.2 hS (v := Int32.ofInt (sLen i)) Int32.ofInt_eq_ofNat.symm hd h0
theorem mw_bld {M : mM} {bc bs : Nat} {pc pc' : Nat} {L : List (Nat × mV)} {S : List mV} {g : mG} {d : mD} {Q : mQ} {i k : Int} (hd : decode (mC M) pc = .ok (.baload, 1)) (hp : pc + 1 = pc') (hk : 0 ≤ k ∧ k < sLen i) (k0 : MW M bc bs pc' L (vI (sAt i k) :: S) g d Q) : MW M bc bs pc L (vI k :: (8, i) :: S) g d Q := by
  intro p l e s m args below meth c H locs cells slots X φ E ls hC hS hR hE hL hO hl hw hc hs
  obtain ⟨hx, hb, hml, hown, hts, hK, hT, hr, hlk, hnm, htb, hfl⟩ := id hC
  subst hp
  have hi : 0 ≤ i ∧ i < 33 := hO.2.1
  have hq := sAt_rng i k
  have h0 := k0 p l e s m args below meth c H locs cells slots X φ E ls hC hS hR hE hL ⟨(ik (by omega) : iI (sAt i k)), hO.2.2⟩ hl hw hc hs
  rw [List.map_cons] at h0 ⊢
  rw [List.map_cons]
  have hn : k < ((STlen.getD i.toNat 0 : Nat) : Int) := hk.2
  have hx1 := i_idx (n := ((STlen.getD i.toNat 0 : Nat) : Int)) ⟨hk.1, hn⟩ hO.1
  rw [Int.toNat_natCast] at hx1
  exact va_tb hx hb (hT.2.2.2.1.1 i.toNat (by omega)).2.2.2 hS hx1.1 (v := .int (Int32.ofInt (sAt i k))) (by
    show Value.int ((STbyt.getD i.toNat []).getD (Int32.ofInt k).toNatClampNeg 0) = _
    rw [hx1.2]
    unfold sAt
    rw [Int32.ofInt_toInt]) hd h0
theorem mw_bret {M : mM} {bc bs : Nat} {pc : Nat} {L : List (Nat × mV)} {S : List mV} {g : mG} {d : mD} {Q : mQ} (hd : decode (mC M) pc = .ok (.ireturn, 1)) (hrt : mRt M = some .byte) (q : Q (.inl 0) g d) : MW M bc bs pc L [vI 0] g d Q := by
  intro p l e s m args below meth c H locs cells slots X φ E ls hC hS hR hE hL hO hl hw hc hs
  obtain ⟨hx, hb, hml, hown, hts, hK, hT, hr, hlk, hnm, htb, hfl⟩ := id hC
  have hg : rtg (mRt M) = 0 := by rw [hrt]; rfl
  have e1 : rvo (mRt M) X φ 0 = some (.int (Int32.ofInt 0)) := by
    unfold rvo
    rw [hg]
    rfl
  have e2 : okv g.2.1 (rtg (mRt M), 0) := by rw [hg]; exact hO.1
  exact vx_ret (W.widen (k := mCe M) (n := mSl M) (by omega) (by omega) (W.zret hx hb (hr.trans hrt) (show narrow .byte (.int (Int32.ofInt 0)) = .int (Int32.ofInt 0) by decide) (fun t ht hW => ⟨⟨0, g, d, φ, q, by rw [e1], hE, by rw [ht]; exact hR, e2⟩, vaF_of hS ht⟩) hS.2.2 hd hlk))
/-- a call of a method of a String constant -/
theorem mw_callT {M M' : mM} {bc bs : Nat} {pc pc' : Nat} {L : List (Nat × mV)} {S S' A A' : List mV} {g : mG} {d : mD} {Q : mQ} {idx n : Nat} {i : Int} (hd : decode (mC M) pc = .ok (.invokevirtual idx, 3)) (hp : pc + 3 = pc') (hl0 : Cond.methodLink (mOw M) idx (mY M') ∈ BIG) (hm : CM M' n) (hv : CV M') (hr0 : CR M M' bc bs) (hcl : (mY M').cls = "java/lang/String") (hA' : A' = (6, i) :: A) (hn : A.length = n) (hS' : S' = A.reverse ++ (6, i) :: S) (hcat : (S.map catV).sum ≤ 8)
    (k0 : MM M' A' g d (cQ M M' bc bs pc' L S Q pc)) : MW M bc bs pc L S' g d Q := by
  intro p l e s m args below meth c H locs cells slots X φ E ls hC hS hR hE hL hO hl hw hc hs
  obtain ⟨hx, hb, hml, hown, hts, hK, hT, hr, hlk, hnm, htb, hfl⟩ := id hC
  subst hp hS' hA'
  have hO1 : oks g.2.1 S ∧ oks g.2.1 ((6, i) :: A) := by
    have h1 := oks_all hO
    exact ⟨oks_of fun v hv => h1 v (List.mem_append_right _ (List.mem_cons_of_mem _ hv)), oks_of fun v hv => h1 v (by
      rcases List.mem_cons.mp hv with rfl | hv
      · exact List.mem_append_right _ List.mem_cons_self
      · exact List.mem_append_left _ (List.mem_reverse.mpr hv))⟩
  have hi : 0 ≤ i ∧ i < 33 := hO1.2.1
  have hM := k0 l X φ hfl
  have hcat2 : ((S.map (rv X φ)).map fun v => v.category).sum ≤ 8 := by
    rw [List.map_map, show ((fun v : Value => v.category) ∘ rv X φ) = catV from funext fun v => cat_rv X φ v]
    exact hcat
  have hst : (A.reverse ++ (6, i) :: S).map (rv X φ) = (A.map (rv X φ)).reverse ++ .ref (xK X i.toNat) :: S.map (rv X φ) := by
    rw [List.map_append, List.map_reverse, List.map_cons]
    rfl
  have hpre : PreV s H (mY M').cls (xK X i.toNat) (va_Pc (((6, i) :: A).map (rv X φ)) (PB M' X φ ((6, i) :: A) g d)) (A.map (rv X φ)) :=
    ⟨PB_blind, by rw [hcl]; exact vk_recv hT.2.2.2.1 (by omega) hS, fun U hU hW => ⟨by rw [List.map_cons]; rfl, PB_at hK hT hS hR (Int.le_trans hr0.2.2.2.2 hw) hO1.2 hU hW⟩⟩
  refine w_back hC hS hR hE hL hO1.1 hl hw hc hs hr0.2.2.1 hr0.2.2.2.1 (a := (Value.ref (xK X i.toNat) :: A.map (rv X φ)).toArray) (Q' := cQ M M' bc bs (pc + 3) L S Q pc) ?_ (fun v g' d' h => h) (fun k g' d' h => h)
  exact vx_runV (Ts := BIG) ⟨hx, hb, hml, hown, hts⟩ hM ⟨cb_of hts hl0 hm hr0, hts _ hv.1, hts _ hv.2⟩ hpre rfl (by rw [List.length_map]; exact hn) hl.1 hst (lv_room hcat2) hd ⟨by have := hr0.2.2.1; show _ ≤ mCe M; omega, by have := hr0.2.2.2.1; show _ ≤ mSl M; omega⟩
theorem j3_chk {k n q : Int} {g : mG} {d : mD} {Q : mQ} (hk : 0 ≤ k ∧ k < n) (h : Q (.inl k) g d) : MM mJ3_chk [vI k, vI n, (7, q)] g d Q := by
  refine MM_of (by decide) rfl (by simp [catV]) (Nat.le_of_ble_eq_true rfl) ?_
  show MW mJ3_chk 0 0 0 [(0, vI k), (1, vI n), (2, (7, q))] [] g d Q
  refine mw_iload_n (pc' := 1) dJ3_checkIndex_8e157_0 rfl rfl rfl ?_
  refine mw_if_lt (tgt := 9) (pc' := 4) dJ3_checkIndex_8e157_1 rfl (by decide) (fun c => absurd c (by omega)) (fun _ => ?_)
  refine mw_iload_n (pc' := 5) dJ3_checkIndex_8e157_4 rfl rfl rfl ?_
  refine mw_iload_n (pc' := 6) dJ3_checkIndex_8e157_5 rfl rfl rfl ?_
  refine mw_icmp_lt (tgt := 16) (pc' := 9) dJ3_checkIndex_8e157_6 rfl (by decide) (fun _ => ?_) (fun c => absurd hk.2 c)
  refine mw_iload_n (pc' := 17) dJ3_checkIndex_8e157_16 rfl rfl rfl ?_
  exact mw_iret (pc' := 0) (S := []) dJ3_checkIndex_8e157_17 rfl (Or.inl rfl) h
theorem j0_chk {k n : Int} {g : mG} {d : mD} {Q : mQ} (hk : 0 ≤ k ∧ k < n) (h : Q (.inl 0) g d) : MM mJ0_chk [vI k, vI n] g d Q := by
  refine MM_of (by decide) rfl (by simp [catV]) (Nat.le_of_ble_eq_true rfl) ?_
  show MW mJ0_chk 0 0 0 [(0, vI k), (1, vI n)] [] g d Q
  refine mw_iload_n (pc' := 1) dJ0_checkIndex_df160_0 rfl rfl rfl ?_
  refine mw_iload_n (pc' := 2) dJ0_checkIndex_df160_1 rfl rfl rfl ?_
  refine mw_sfmt (pc' := 5) dJ0_checkIndex_df160_2 rfl fl_J0_1053 (fun q => ?_)
  refine mw_callS (M' := mJ3_chk) (A := [vI k, vI n, (7, q)]) (S := []) (pc' := 8) dJ0_checkIndex_df160_5 rfl cl_J0_1059 cm_J3_chk cs_J3_chk ⟨by decide, by decide, by decide, by decide, by decide⟩ rfl rfl (Nat.le_of_ble_eq_true rfl) (j3_chk hk ?_)
  show MW mJ0_chk 0 0 8 [(0, vI k), (1, vI n)] [vI k] g d Q
  refine mw_pop (pc' := 9) dJ0_checkIndex_df160_8 rfl rfl ?_
  exact mw_vret (pc' := 0) (S := []) dJ0_checkIndex_df160_9 rfl h
theorem j1_cha {i k : Int} {g : mG} {d : mD} {Q : mQ} (hk : 0 ≤ k ∧ k < sLen i) (h : Q (.inl (sAt i k)) g d) : MM mJ1_cha [(8, i), vI k] g d Q := by
  have hq := sAt_rng i k
  refine MM_of (by decide) rfl (by simp [catV]) (Nat.le_of_ble_eq_true rfl) ?_
  show MW mJ1_cha 0 0 0 [(0, (8, i)), (1, vI k)] [] g d Q
  refine mw_iload_n (pc' := 1) dJ1_charAt_3b067_0 rfl rfl rfl ?_
  refine mw_aload_n (v := (8, i)) (pc' := 2) dJ1_charAt_3b067_1 rfl rfl (by simp) rfl ?_
  refine mw_blen (pc' := 3) dJ1_charAt_3b067_2 rfl ?_
  refine mw_callS (M' := mJ0_chk) (A := [vI k, vI (sLen i)]) (S := []) (pc' := 6) dJ1_charAt_3b067_3 rfl cl_J1_9 cm_J0_chk cs_J0_chk ⟨by decide, by decide, by decide, by decide, by decide⟩ rfl rfl (Nat.le_of_ble_eq_true rfl) (j0_chk hk ?_)
  show MW mJ1_cha 0 0 6 [(0, (8, i)), (1, vI k)] [] g d Q
  refine mw_aload_n (v := (8, i)) (pc' := 7) dJ1_charAt_3b067_6 rfl rfl (by simp) rfl ?_
  refine mw_iload_n (pc' := 8) dJ1_charAt_3b067_7 rfl rfl rfl ?_
  refine mw_bld (pc' := 9) dJ1_charAt_3b067_8 rfl hk ?_
  refine mw_sipush (pc' := 12) dJ1_charAt_3b067_9 rfl ⟨by decide, by decide⟩ ?_
  refine mw_imask (n := 256) (k := 8) (n1 := 256) (pc' := 13) dJ1_charAt_3b067_12 rfl (by decide) (by decide) (by decide) (by decide) ?_
  refine mw_i2c (pc' := 14) dJ1_charAt_3b067_13 rfl ?_
  rw [show sAt i k % 256 % 65536 = sAt i k by omega]
  exact mw_iret (pc' := 0) (S := []) dJ1_charAt_3b067_14 rfl (Or.inr (Or.inr ⟨rfl, by omega, by omega⟩)) h
theorem j0_cod {i : Int} {g : mG} {d : mD} {Q : mQ} (h : Q (.inl 0) g d) : MM mJ0_cod [(6, i)] g d Q := by
  refine MM_of (by decide) rfl (by simp [catV]) (Nat.le_of_ble_eq_true rfl) ?_
  show MW mJ0_cod 0 0 0 [(0, (6, i))] [] g d Q
  refine mw_scmp (pc' := 3) dJ0_coder_7d493_0 rfl fl_J0_38 ?_
  refine mw_if_eq (tgt := 13) (pc' := 6) dJ0_coder_7d493_3 rfl (by decide) (fun c => absurd c (by decide)) (fun _ => ?_)
  refine mw_aload_n (v := (6, i)) (pc' := 7) dJ0_coder_7d493_6 rfl rfl (by simp) rfl ?_
  refine mw_scod (pc' := 10) dJ0_coder_7d493_7 rfl fl_J0_15 ?_
  refine mw_goto (pc' := 0) (tgt := 14) dJ0_coder_7d493_10 (by decide) ?_
  exact mw_bret (S := []) dJ0_coder_7d493_14 rfl h
theorem j0_isL {i : Int} {g : mG} {d : mD} {Q : mQ} (h : Q (.inl 1) g d) : MM mJ0_isL [(6, i)] g d Q := by
  refine MM_of (by decide) rfl (by simp [catV]) (Nat.le_of_ble_eq_true rfl) ?_
  show MW mJ0_isL 0 0 0 [(0, (6, i))] [] g d Q
  refine mw_scmp (pc' := 3) dJ0_isLatin1_aae02_0 rfl fl_J0_38 ?_
  refine mw_if_eq (tgt := 17) (pc' := 6) dJ0_isLatin1_aae02_3 rfl (by decide) (fun c => absurd c (by decide)) (fun _ => ?_)
  refine mw_aload_n (v := (6, i)) (pc' := 7) dJ0_isLatin1_aae02_6 rfl rfl (by simp) rfl ?_
  refine mw_scod (pc' := 10) dJ0_isLatin1_aae02_7 rfl fl_J0_15 ?_
  refine mw_if_ne (tgt := 17) (pc' := 13) dJ0_isLatin1_aae02_10 rfl (by decide) (fun c => absurd rfl c) (fun _ => ?_)
  refine mw_iconst (pc' := 14) dJ0_isLatin1_aae02_13 rfl ⟨by decide, by decide⟩ ?_
  refine mw_goto (pc' := 0) (tgt := 18) dJ0_isLatin1_aae02_14 (by decide) ?_
  exact mw_iret (pc' := 0) (S := []) dJ0_isLatin1_aae02_18 rfl (Or.inr (Or.inl ⟨rfl, by decide, by decide⟩)) h
theorem j0_len {i : Int} {g : mG} {d : mD} {Q : mQ} (h : Q (.inl (sLen i)) g d) : MM mJ0_len [(6, i)] g d Q := by
  have hq := sLen_rng i
  refine MM_of (by decide) rfl (by simp [catV]) (Nat.le_of_ble_eq_true rfl) ?_
  show MW mJ0_len 0 0 0 [(0, (6, i))] [] g d Q
  refine mw_aload_n (v := (6, i)) (pc' := 1) dJ0_length_8abf5_0 rfl rfl (by simp) rfl ?_
  refine mw_sval (pc' := 4) dJ0_length_8abf5_1 rfl fl_J0_9 ?_
  refine mw_blen (pc' := 5) dJ0_length_8abf5_4 rfl ?_
  refine mw_aload_n (v := (6, i)) (pc' := 6) dJ0_length_8abf5_5 rfl rfl (by simp) rfl ?_
  refine mw_callT (M' := mJ0_cod) (A := []) (A' := [(6, i)]) (S := [vI (sLen i)]) (i := i) (pc' := 9) dJ0_length_8abf5_6 rfl (goodW 1502 (by decide +kernel) rfl) cm_J0_cod cv_J0_cod ⟨by decide, by decide, by decide, by decide, by decide⟩ rfl rfl rfl rfl (Nat.le_of_ble_eq_true rfl) (j0_cod ?_)
  show MW mJ0_len 0 0 9 [(0, (6, i))] [vI 0, vI (sLen i)] g d Q
  refine mw_ishr (pc' := 10) dJ0_length_8abf5_9 rfl hq.1 ⟨by decide, by decide⟩ ?_
  rw [show sLen i / 2 ^ (0 : Int).toNat = sLen i from Int.ediv_one _]
  exact mw_iret (pc' := 0) (S := []) dJ0_length_8abf5_10 rfl (Or.inl rfl) h
theorem j0_cha {i k : Int} {g : mG} {d : mD} {Q : mQ} (hk : 0 ≤ k ∧ k < sLen i) (h : Q (.inl (sAt i k)) g d) : MM mJ0_cha [(6, i), vI k] g d Q := by
  have hq := sAt_rng i k
  refine MM_of (by decide) rfl (by simp [catV]) (Nat.le_of_ble_eq_true rfl) ?_
  show MW mJ0_cha 0 0 0 [(0, (6, i)), (1, vI k)] [] g d Q
  refine mw_aload_n (v := (6, i)) (pc' := 1) dJ0_charAt_5068e_0 rfl rfl (by simp) rfl ?_
  refine mw_callT (M' := mJ0_isL) (A := []) (A' := [(6, i)]) (S := []) (i := i) (pc' := 4) dJ0_charAt_5068e_1 rfl (goodW 1513 (by decide +kernel) rfl) cm_J0_isL cv_J0_isL ⟨by decide, by decide, by decide, by decide, by decide⟩ rfl rfl rfl rfl (Nat.le_of_ble_eq_true rfl) (j0_isL ?_)
  show MW mJ0_cha 0 0 4 [(0, (6, i)), (1, vI k)] [vI 1] g d Q
  refine mw_if_eq (tgt := 16) (pc' := 7) dJ0_charAt_5068e_4 rfl (by decide) (fun c => absurd c (by decide)) (fun _ => ?_)
  refine mw_aload_n (v := (6, i)) (pc' := 8) dJ0_charAt_5068e_7 rfl rfl (by simp) rfl ?_
  refine mw_sval (pc' := 11) dJ0_charAt_5068e_8 rfl fl_J0_9 ?_
  refine mw_iload_n (pc' := 12) dJ0_charAt_5068e_11 rfl rfl rfl ?_
  refine mw_callS (M' := mJ1_cha) (A := [(8, i), vI k]) (S := []) (pc' := 15) dJ0_charAt_5068e_12 rfl cl_J0_495 cm_J1_cha cs_J1_cha ⟨by decide, by decide, by decide, by decide, by decide⟩ rfl rfl (Nat.le_of_ble_eq_true rfl) (j1_cha hk ?_)
  show MW mJ0_cha 0 0 15 [(0, (6, i)), (1, vI k)] [vI (sAt i k)] g d Q
  exact mw_iret (pc' := 0) (S := []) dJ0_charAt_5068e_15 rfl (Or.inr (Or.inr ⟨rfl, by omega, by omega⟩)) h
