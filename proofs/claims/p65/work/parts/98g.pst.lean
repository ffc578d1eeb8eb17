-- setting the docket aside, taking it back
def PD (g : mG) (c : Int) : Prop := (0 ≤ c ∧ c ≤ 9) ∧ g.1 = 65 + 46 * c ∧ g.2.1 = 65 + 46 * c ∧ ∀ i, 0 ≤ i → i < 9 → g.2.2 52 i = iT (i < c) (65 + 46 * i) (-1)
def FrD (A : Int) (d d' : mD) : Prop := ∀ b j : Int, ¬ (A ≤ b ∧ b < A + 46) → d' b j = d b j
theorem sp_past : ((0, 4, 52) : Int × Int × Int) ∈ SPl := by decide +kernel
theorem fr_past : FR RX11 30 0 4 := ⟨(show LK 0 = 11 by decide +kernel) ▸ fg_RX11_30, by decide +kernel, by decide +kernel, by decide⟩
theorem lk_past : LK 52 = 105 := by decide +kernel
theorem ln_past : LN 52 = 9 := by decide +kernel
theorem SPl_76 : ∀ q ∈ SPl, 0 ≤ q.1 ∧ q.1 < 65 ∧ q.1 ≠ 52 := by decide +kernel
theorem SPd_in : ∀ q ∈ SPd, 0 ≤ q.1 ∧ q.1 < 46 := by decide +kernel
theorem cp_sh {A : Int} {d d' : mD} {R : rW} (hc : CPy A 6 0 45 d d') (h : CI d R) : CI (shD d' (A - 6)) R := by
  refine h.frI (fun b j hb => ?_)
  have h1 := inC_e hb
  show d' (b + (A - 6)) j = d b j
  have := hc.2 (b - 6) j (by omega) (by omega) (by rw [show 6 + (b - 6) = b by omega]; exact hb)
  rw [show A + (b - 6) = b + (A - 6) by omega, show 6 + (b - 6) = b by omega] at this
  exact this
theorem cp_bk {A : Int} {d d' : mD} {R : rW} (hc : CPy 6 A 0 45 d d') (h : CI (shD d (A - 6)) R) : CI d' R := by
  refine h.frI (fun b j hb => ?_)
  have h1 := inC_e hb
  show d' b j = d (b + (A - 6)) j
  have := hc.2 (b - 6) j (by omega) (by omega) (by rw [show 6 + (b - 6) = b by omega]; exact hb)
  rw [show A + (b - 6) = b + (A - 6) by omega, show 6 + (b - 6) = b by omega] at this
  exact this
theorem q_setAside {c np A : Int} {R : rW} {g : mG} {d : mD} {Q : mQ} (hP : PD g c) (hnp : d 0 5 = np) (hn : 0 ≤ np ∧ np ≤ 8 ∧ np ≤ c) (hA : A = 65 + 46 * np) (hC : CI d R) (h : ∀ (c' : Int) (g' : mG) (d' : mD), PD g' c' → np < c' → c ≤ c' → FrD A d d' → CI (shD d' (A - 6)) R → Q (.inl 0) g' d') : MM mX11_setAside [vR 0] g d Q := by
  obtain ⟨hc9, hg1, hg2, hr⟩ := hP
  obtain ⟨n1, n2, r⟩ := g
  dsimp only at hg1 hg2 hr
  have eA := hA
  have hx := hr np hn.1 (by omega)
  refine MM_of (by decide) rfl (by simp [catV]) (Nat.le_of_ble_eq_true rfl) ?_
  show MW mX11_setAside 46 8222 0 [(0, vR 0)] [] (n1, n2, r) d Q
  refine mw_aload_n (v := vR 0) (pc' := 1) dX11_setAside_0 rfl rfl (Or.inl rfl) rfl ?_
  refine mw_getP (v := 52) (pc' := 4) dX11_setAside_1 rfl fr_past rfl sp_past ⟨by decide, by decide⟩ ?_
  refine mw_aload_n (v := vR 0) (pc' := 5) dX11_setAside_4 rfl rfl (Or.inl rfl) rfl ?_
  refine mw_getI (ji := 5) (pc' := 8) dX11_setAside_5 rfl fi_RX11_490_0 rfl ⟨by decide, by decide⟩ ?_
  rw [hnp]
  refine mw_aald (pc' := 9) dX11_setAside_8 rfl lk_past ⟨by decide, by decide⟩ (by rw [ln_past]; omega) ?_
  show MW mX11_setAside 46 8222 9 [(0, vR 0)] [vR (r 52 np)] (n1, n2, r) d Q
  rw [hx]
  -- the end: the docket is copied to A
  have key : ∀ (c' n1' n2' : Int) (r' : mR) (d1 : mD) (bc bs : Nat), PD (n1', n2', r') c' → np < c' → c ≤ c' → FrD A d d1 → MW mX11_setAside bc bs 32 [(0, vR 0), (1, vR A)] [] (n1', n2', r') d1 Q := fun c' n1' n2' r' d1 bc bs hP' q1 q2 f1 => by
    obtain ⟨z1, z2, z3, z4⟩ := id hP'
    dsimp only at z2 z3
    have hDA : DKd (n1', n2', r') A := Or.inr ⟨np, hn.1, hn.2.1, eA, by show 65 + 46 * np + 46 ≤ n1'; omega⟩
    have hD6 : DKd (n1', n2', r') 6 := Or.inl ⟨rfl, by show 52 ≤ n1'; omega⟩
    refine mw_aload_n (v := vR A) (pc' := 33) dX11_setAside_32 rfl rfl (Or.inl rfl) rfl ?_
    refine mw_aload_n (v := vR 0) (pc' := 34) dX11_setAside_33 rfl rfl (Or.inl rfl) rfl ?_
    refine mw_getP (v := 6) (pc' := 37) dX11_setAside_34 rfl fr_RX11_26_0 rfl sp_0_3 ⟨by decide, by decide⟩ ?_
    have e0 : A + 0 = A := Int.add_zero A
    have hlk : LK A = 3 := by
      have := (hDA.lk (o := 0) (by decide)).1
      rw [e0] at this
      exact this.trans (by decide +kernel)
    have hcc := @c_X3 A 6 (n1', n2', r') d1 (cQ mX11_setAside mX3_copy bc bs 40 [(0, vR 0), (1, vR A)] [] Q 37) hDA hD6 (by omega) (fun d2 k2 => by
      show MW mX11_setAside (bc - 0) (bs - 0) 40 [(0, vR 0), (1, vR A)] [] (n1', n2', r') d2 Q
      refine mw_vret (pc' := 0) (S := []) dX11_setAside_40 rfl (h c' _ d2 hP' q1 q2 (fun b j q => (k2.1 b j (by omega)).trans (f1 b j q)) (cp_sh k2 (hC.fr (fun b j y1 y2 => f1 b j (by omega)))))) 
    rw [e0] at hcc
    exact mw_callV (M' := mX3_copy) (A := [vR 6]) (A' := [vR A, vR 6]) (S := []) (a := A) (pc' := 40) dX11_setAside_37 rfl cl_RX11_505 cm_X3_copy cv_X3_copy ⟨by decide, by decide, Nat.zero_le _, Nat.zero_le _, by decide⟩ rfl rfl rfl ⟨by omega, by show A < n2'; omega⟩ (by rw [hlk]; decide) (by rw [hlk]; decide +kernel) (Nat.le_of_ble_eq_true rfl) hcc
  by_cases hlt : np < c
  · rw [iT_t hlt, ← eA]
    refine mw_astore_n (v := vR A) (pc' := 10) (L' := [(0, vR 0), (1, vR A)]) dX11_setAside_9 rfl rfl (Or.inl rfl) (by decide) rfl ?_
    refine mw_aload_n (v := vR A) (pc' := 11) dX11_setAside_10 rfl rfl (Or.inl rfl) rfl ?_
    refine mw_ifnonnull (tgt := 32) (pc' := 14) dX11_setAside_11 rfl (by decide) (fun _ => ?_) (fun z => absurd z (by omega))
    exact key c n1 n2 r d 46 8222 ⟨hc9, hg1, hg2, hr⟩ hlt (Int.le_refl _) (fun _ _ _ => rfl)
  · rw [iT_f hlt]
    have ec : c = np := by omega
    subst ec
    refine mw_astore_n (v := vR (-1)) (pc' := 10) (L' := [(0, vR 0), (1, vR (-1))]) dX11_setAside_9 rfl rfl (Or.inl rfl) (by decide) rfl ?_
    refine mw_aload_n (v := vR (-1)) (pc' := 11) dX11_setAside_10 rfl rfl (Or.inl rfl) rfl ?_
    refine mw_ifnonnull (tgt := 32) (pc' := 14) dX11_setAside_11 rfl (by decide) (fun z => absurd (by decide) z) (fun _ => ?_)
    have hD : isD A := Or.inr ⟨c, hn.1, hn.2.1, eA⟩
    have e2 : n2 = A + 0 := by omega
    have e1 : n1 = A := by omega
    subst e1 e2
    have hlk : LK (n1 + 0) = 3 := (hD.lk (o := 0) (by decide)).1.trans (by decide +kernel)
    refine mw_newO (a' := n1 + 1) (pc' := 17) dX11_setAside_14 rfl fn_RX11_23 hlk ⟨by decide, by decide, by decide⟩ ⟨by omega, by omega⟩ ?_
    show MW mX11_setAside 45 8216 17 [(0, vR 0), (1, vR (-1))] [vR (n1 + 0)] (n1, n1 + 1, r) d Q
    refine mw_dup (pc' := 18) dX11_setAside_17 rfl rfl ?_
    refine mw_top (fun hT => ?_)
    have hGP := hT.1.2.2.2.2.2.2.2
    refine mw_callI (M' := mX3_init) (A := []) (A' := [vR (n1 + 0)]) (S := [vR (n1 + 0)]) (a := n1 + 0) (pc' := 21) dX11_setAside_18 rfl cl_RX11_25 cm_X3_init ci_X3_init rfl rfl ⟨by decide, by decide, by decide, by decide, by decide⟩ rfl rfl rfl ⟨by omega, by show n1 + 0 < n1 + 1; omega⟩ (Nat.le_of_ble_eq_true rfl) (i_X3 hD (Int.le_refl _) fun r1 k1 d1 f1 _ => ?_)
    show MW mX11_setAside 0 0 21 [(0, vR 0), (1, vR (-1))] [vR (n1 + 0)] (n1, n1 + 46, r1) d1 Q
    have e0 : n1 + 0 = n1 := Int.add_zero n1
    rw [e0]
    have hold : ∀ a j : Int, a < n1 → r1 a j = r a j := fun a j q => k1.1 a j (fun z hz y => by
      have := SPd_in z hz
      omega)
    refine mw_whole (pc' := 0) (nc := n1 + 46) ⟨by show n1 ≤ n1 + 46; omega, by show n1 + 46 ≤ n1 + 46; omega⟩ ⟨fun q hq _ => ?_, fun k q1 q2 q hq => ?_⟩ ?_
    · have hq2 := SPl_76 q hq
      refine (hold _ _ (by omega)).trans ?_
      exact hGP.1 q hq (by show q.1 < n1; omega)
    · have hq2 := SPd_in q hq
      by_cases ck : k = c
      · subst ck
        rw [← eA]
        exact k1.2 q hq
      · refine (hold _ _ (by omega)).trans ?_
        exact hGP.2 k q1 (by show 65 + 46 * k + 46 ≤ n1; omega) q hq
    show MW mX11_setAside 0 0 21 [(0, vR 0), (1, vR (-1))] [vR n1] (n1 + 46, n1 + 46, r1) d1 Q
    refine mw_astore_n (v := vR n1) (pc' := 22) (L' := [(0, vR 0), (1, vR n1)]) dX11_setAside_21 rfl rfl (Or.inl rfl) (by decide) rfl ?_
    refine mw_aload_n (v := vR 0) (pc' := 23) dX11_setAside_22 rfl rfl (Or.inl rfl) rfl ?_
    refine mw_getP (v := 52) (pc' := 26) dX11_setAside_23 rfl fr_past rfl sp_past ⟨by decide, by decide⟩ ?_
    refine mw_aload_n (v := vR 0) (pc' := 27) dX11_setAside_26 rfl rfl (Or.inl rfl) rfl ?_
    refine mw_getI (ji := 5) (pc' := 30) dX11_setAside_27 rfl fi_RX11_490_0 rfl ⟨by decide, by decide⟩ ?_
    rw [f1 0 5 (by omega), hnp]
    refine mw_aload_n (v := vR n1) (pc' := 31) dX11_setAside_30 rfl rfl (Or.inl rfl) rfl ?_
    refine mw_aast (pc' := 32) dX11_setAside_31 rfl lk_past ⟨by decide, by decide⟩ (by decide) (by rw [ln_past]; omega) ⟨by omega, by rw [← e0]; exact hlk⟩ (fun q hq => (SPl_76 q hq).2.2) ?_
    show MW mX11_setAside 0 0 32 [(0, vR 0), (1, vR n1)] [] (n1 + 46, n1 + 46, ur r1 52 c n1) d1 Q
    refine key (c + 1) _ _ _ _ 0 0 ⟨by omega, by show n1 + 46 = 65 + 46 * (c + 1); omega, by show n1 + 46 = 65 + 46 * (c + 1); omega, fun i q1 q2 => ?_⟩ (by omega) (by omega) (fun b j q => f1 b j (by omega))
    show ur r1 52 c n1 52 i = _
    by_cases ci : i = c
    · subst ci
      rw [ur_same, iT_t (by omega)]
      exact eA
    · rw [ur_ne (fun z => ci z.2), hold _ _ (by omega), hr i q1 q2]
      by_cases cl : i < c
      · rw [iT_t cl, iT_t (by omega)]
      · rw [iT_f cl, iT_f (by omega)]
theorem q_takeBack {c np A : Int} {R : rW} {g : mG} {d : mD} {Q : mQ} (hP : PD g c) (hnp : d 0 5 = np) (hn : 0 ≤ np ∧ np < c) (hA : A = 65 + 46 * np) (hC : CI (shD d (A - 6)) R) (h : ∀ d', FrD 6 d d' → CI d' R → Q (.inl 0) g d') : MM mX11_takeBack [vR 0] g d Q := by
  obtain ⟨hc9, hg1, hg2, hr⟩ := hP
  have hx := hr np hn.1 (by omega)
  rw [iT_t hn.2, ← hA] at hx
  refine MM_of (by decide) rfl (by simp [catV]) (Nat.le_of_ble_eq_true rfl) ?_
  show MW mX11_takeBack 0 0 0 [(0, vR 0)] [] g d Q
  refine mw_aload_n (v := vR 0) (pc' := 1) dX11_takeBack_0 rfl rfl (Or.inl rfl) rfl ?_
  refine mw_getP (v := 52) (pc' := 4) dX11_takeBack_1 rfl fr_past rfl sp_past ⟨by decide, by decide⟩ ?_
  refine mw_aload_n (v := vR 0) (pc' := 5) dX11_takeBack_4 rfl rfl (Or.inl rfl) rfl ?_
  refine mw_getI (ji := 5) (pc' := 8) dX11_takeBack_5 rfl fi_RX11_490_0 rfl ⟨by decide, by decide⟩ ?_
  rw [hnp]
  refine mw_aald (pc' := 9) dX11_takeBack_8 rfl lk_past ⟨by decide, by decide⟩ (by rw [ln_past]; omega) ?_
  rw [hx]
  have hDA : DKd g A := Or.inr ⟨np, hn.1, by omega, hA, by omega⟩
  have hD6 : DKd g 6 := Or.inl ⟨rfl, by omega⟩
  refine mw_astore_n (v := vR A) (pc' := 10) (L' := [(0, vR 0), (1, vR A)]) dX11_takeBack_9 rfl rfl (Or.inl rfl) (by decide) rfl ?_
  refine mw_aload_n (v := vR A) (pc' := 11) dX11_takeBack_10 rfl rfl (Or.inl rfl) rfl ?_
  refine mw_ifnull (tgt := 22) (pc' := 14) dX11_takeBack_11 rfl (by decide) (fun z => absurd z (by omega)) (fun _ => ?_)
  refine mw_aload_n (v := vR 0) (pc' := 15) dX11_takeBack_14 rfl rfl (Or.inl rfl) rfl ?_
  refine mw_getP (v := 6) (pc' := 18) dX11_takeBack_15 rfl fr_RX11_26_0 rfl sp_0_3 ⟨by decide, by decide⟩ ?_
  refine mw_aload_n (v := vR A) (pc' := 19) dX11_takeBack_18 rfl rfl (Or.inl rfl) rfl ?_
  have hcc := @c_X3 6 A g d (cQ mX11_takeBack mX3_copy 0 0 22 [(0, vR 0), (1, vR A)] [] Q 19) hD6 hDA (by omega) (fun d2 k2 => by
    show MW mX11_takeBack 0 0 22 [(0, vR 0), (1, vR A)] [] g d2 Q
    exact mw_vret (pc' := 0) (S := []) dX11_takeBack_22 rfl (h d2 (fun b j q => k2.1 b j (by omega)) (cp_bk k2 hC)))
  rw [show A + 0 = A from Int.add_zero A] at hcc
  exact mw_callV (M' := mX3_copy) (A := [vR A]) (A' := [vR 6, vR A]) (S := []) (a := 6) (pc' := 22) dX11_takeBack_19 rfl cl_RX11_505 cm_X3_copy cv_X3_copy ⟨by decide, by decide, by decide, by decide, by decide⟩ rfl rfl rfl ⟨by decide, by omega⟩ (by decide +kernel) (by decide +kernel) (Nat.le_of_ble_eq_true rfl) hcc
