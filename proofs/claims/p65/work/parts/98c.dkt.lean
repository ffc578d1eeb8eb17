-- dockets at any place: rows over a symbolic base
def DKd (g : mG) (A : Int) : Prop := (A = 6 ∧ 52 ≤ g.1) ∨ ∃ k : Int, 0 ≤ k ∧ k ≤ 8 ∧ A = 65 + 46 * k ∧ 65 + 46 * k + 46 ≤ g.1
theorem DKd.rng {g : mG} {A : Int} (h : DKd g A) : 6 ≤ A ∧ A + 46 ≤ g.1 := by
  rcases h with ⟨h1, h2⟩ | ⟨k, h1, h2, h3, h4⟩
  · omega
  · omega
def isD (A : Int) : Prop := A = 6 ∨ ∃ k : Int, 0 ≤ k ∧ k ≤ 8 ∧ A = 65 + 46 * k
theorem DKd.isD {g : mG} {A : Int} (h : DKd g A) : isD A := by
  rcases h with ⟨h1, h2⟩ | ⟨k, h1, h2, h3, h4⟩
  · exact Or.inl h1
  · exact Or.inr ⟨k, h1, h2, h3⟩
theorem isD.lk {A o : Int} (h : isD A) (ho : 0 ≤ o ∧ o < 46) : LK (A + o) = LK (6 + o) ∧ LN (A + o) = LN (6 + o) := by
  have e : lIx (A + o) = lIx (6 + o) := by
    rcases h with rfl | ⟨k, h1, h2, rfl⟩
    · rfl
    · unfold lIx
      rw [if_neg (by omega), if_pos (by omega), if_pos (by omega)]
      omega
  unfold LK LN
  rw [e]
  exact ⟨rfl, rfl⟩
theorem DKd.lk {g : mG} {A o : Int} (h : DKd g A) (ho : 0 ≤ o ∧ o < 46) : LK (A + o) = LK (6 + o) ∧ LN (A + o) = LN (6 + o) := h.isD.lk ho
theorem SPd_6 : ∀ q ∈ SPd, ((6 + q.1, q.2.1, 6 + q.2.2) : Int × Int × Int) ∈ SPl ∧ 0 ≤ q.1 ∧ q.1 < 46 := by decide +kernel
theorem DKd.sp {g : mG} {d : mD} {A : Int} (h : DKd g A) (hT : TY g d) : ∀ q ∈ SPd, g.2.2 (A + q.1) q.2.1 = A + q.2.2 := by
  intro q hq
  have hG := hT.2.2.2.2.2.2.2
  rcases h with ⟨rfl, h2⟩ | ⟨k, h1, h2, rfl, h4⟩
  · obtain ⟨h5, h6, h7⟩ := SPd_6 q hq
    exact hG.1 _ h5 (by show 6 + q.1 < g.1; omega)
  · exact hG.2 k h1 h4 q hq
theorem RC_c {a : Int} {ci j : Nat} (hk : LK a = ci) (hci : ci < 100) : RC a (j : Int) = (FTl.getD ci []).getD j 0 := by
  unfold RC
  rw [if_neg (fun q => by have := q.2; omega), hk, if_pos hci, Int.toNat_natCast]
theorem mw_getIG {M : mM} {bc bs : Nat} {pc pc' : Nat} {L : List (Nat × mV)} {S : List mV} {g : mG} {d : mD} {Q : mQ} {a ji : Int} {idx j : Nat} (hd : decode (mC M) pc = .ok (.getfield idx, 3)) (hp : pc + 3 = pc') (hf : FI (mOw M) idx a j) (hj : (j : Int) = ji) (ha1 : 0 ≤ a ∧ a < g.2.1) (k0 : MW M bc bs pc' L (vI (d a ji) :: S) g d Q) : MW M bc bs pc L (vR a :: S) g d Q := by
  intro p l e s m args below meth c H locs cells slots X φ E ls hC hS hR hE hL hO hl hw hc hs
  obtain ⟨hx, hb, hml, hown, hts, hK, hT, hr, hlk, hnm, htb, hfl⟩ := id hC
  obtain ⟨hP, hD, hTY, hsc⟩ := id hR
  subst hp
  subst hj
  have h9 := iI_rc (hR.gs ha1 j) hf.2.2.1
  have h0 := k0 p l e s m args below meth c H locs cells slots X φ E ls hC hS hR hE hL ⟨h9, hO.2⟩ hl hw hc hs
  rw [List.map_cons, rv_R ha1.1]
  refine w_getf hC hR hf.1 rfl hf.2.1 ha1 hd ?_
  unfold fvl
  rw [if_neg (by rcases hf.2.2.1 with h | h <;> rw [h] <;> decide)]
  exact h0
theorem mw_alenG {M : mM} {bc bs : Nat} {pc pc' : Nat} {L : List (Nat × mV)} {S : List mV} {g : mG} {d : mD} {Q : mQ} {a : Int} (hd : decode (mC M) pc = .ok (.arraylength, 1)) (hp : pc + 1 = pc') (hk : 100 ≤ LK a ∧ LK a < 103) (ha1 : 0 ≤ a ∧ a < g.2.1) (hn : 0 ≤ LN a ∧ LN a ≤ 10000) (k0 : MW M bc bs pc' L (vI (LN a) :: S) g d Q) : MW M bc bs pc L (vR a :: S) g d Q := by
  intro p l e s m args below meth c H locs cells slots X φ E ls hC hS hR hE hL hO hl hw hc hs
  obtain ⟨hx, hb, hml, hown, hts, hK, hT, hr, hlk, hnm, htb, hfl⟩ := id hC
  obtain ⟨hP, hD, hTY, hsc⟩ := id hR
  subst hp
  have h0 := k0 p l e s m args below meth c H locs cells slots X φ E ls hC hS hR hE hL ⟨iI_k hn, hO.2⟩ hl hw hc hs
  rw [List.map_cons, rv_R ha1.1]
  have hv : Int32.ofNat (LN a).toNat = Int32.ofInt (LN a) := by
    rw [← Int32.ofInt_eq_ofNat, n_i hn.1]
  have key : ∀ (t : Nat) (cA : ClassId) (x : vp_A) (ty : FieldType), (wE X φ g d a = .inl (cA, x)) → x.1 = (LN a).toNat → (TYS X)[t]? = some (cA, ty) → _ := fun t cA x ty h1 h2 h3 => va_alen (v := Int32.ofInt (LN a)) hx hb hK hP a.toNat t ((wL_get ha1).trans (by rw [h1])) h3 (by rw [h2]; exact hv) hd h0
  rcases (show LK a = 100 ∨ LK a = 101 ∨ LK a = 102 by omega) with h | h | h
  · exact key 0 _ _ _ (wE_i h (by omega)) rfl rfl
  · exact key 1 _ _ _ (wE_i h (by omega)) rfl rfl
  · exact key 2 _ _ _ (wE_i h (by omega)) rfl rfl
theorem mw_getD {M : mM} {bc bs : Nat} {pc pc' : Nat} {L : List (Nat × mV)} {S : List mV} {g : mG} {d : mD} {Q : mQ} {A o v : Int} {idx ci j : Nat} (hd : decode (mC M) pc = .ok (.getfield idx, 3)) (hp : pc + 3 = pc') (hD : DKd g A) (hk : LK (6 + o) = ci) (hf : FG (mOw M) idx ci j) (hc : (0 ≤ o ∧ o < 46) ∧ ci < 100 ∧ (FTl.getD ci []).getD j 0 = 9 ∧ (o, (j : Int), v) ∈ SPd) (k0 : MW M bc bs pc' L (vR (A + v) :: S) g d Q) : MW M bc bs pc L (vR (A + o) :: S) g d Q := by
  obtain ⟨ho, hci, h9, hsp⟩ := hc
  have hk' : LK (A + o) = ci := (hD.lk ho).1.trans hk
  have hr := hD.rng
  refine mw_top (fun hT => ?_)
  have h21 := hT.1.2.1
  refine mw_getR (ji := (j : Int)) hd hp ⟨by rw [hk']; exact hf, by omega, (RC_c hk' hci).trans h9, by omega⟩ rfl ⟨by omega, by omega⟩ ?_
  rw [hD.sp hT.1 _ hsp]
  exact k0
theorem mw_getDI {M : mM} {bc bs : Nat} {pc pc' : Nat} {L : List (Nat × mV)} {S : List mV} {g : mG} {d : mD} {Q : mQ} {A o ji : Int} {idx ci j : Nat} (hd : decode (mC M) pc = .ok (.getfield idx, 3)) (hp : pc + 3 = pc') (hD : DKd g A) (hk : LK (6 + o) = ci) (hf : FG (mOw M) idx ci j) (hj : (j : Int) = ji) (hc : (0 ≤ o ∧ o < 46) ∧ ci < 100 ∧ (FTl.getD ci []).getD j 0 = 0) (k0 : MW M bc bs pc' L (vI (d (A + o) ji) :: S) g d Q) : MW M bc bs pc L (vR (A + o) :: S) g d Q := by
  obtain ⟨ho, hci, h9⟩ := hc
  have hk' : LK (A + o) = ci := (hD.lk ho).1.trans hk
  have hr := hD.rng
  refine mw_top (fun hT => ?_)
  have h21 := hT.1.2.1
  exact mw_getIG hd hp ⟨by rw [hk']; exact hf, by omega, Or.inl ((RC_c hk' hci).trans h9), by omega⟩ hj ⟨by omega, by omega⟩ k0
theorem mw_putDI {M : mM} {bc bs : Nat} {pc pc' : Nat} {L : List (Nat × mV)} {S : List mV} {g : mG} {d : mD} {Q : mQ} {A o ji x : Int} {idx ci j : Nat} (hd : decode (mC M) pc = .ok (.putfield idx, 3)) (hp : pc + 3 = pc') (hD : DKd g A) (hk : LK (6 + o) = ci) (hf : FP (mOw M) idx ci j .int false) (hj : (j : Int) = ji) (hc : (0 ≤ o ∧ o < 46) ∧ ci < 100 ∧ (FTl.getD ci []).getD j 0 = 0) (k0 : MW M bc bs pc' L S g (ud d (A + o) ji x) Q) : MW M bc bs pc L (vI x :: vR (A + o) :: S) g d Q := by
  obtain ⟨ho, hci, h9⟩ := hc
  have hk' : LK (A + o) = ci := (hD.lk ho).1.trans hk
  have hr := hD.rng
  subst hj
  refine mw_top (fun hT => ?_)
  have h21 := hT.1.2.1
  exact mw_putI (ji := (j : Int)) hd hp (by rw [hk']; exact hf) (by omega) rfl (Or.inl ⟨rfl, (RC_c hk' hci).trans h9⟩) (Or.inr rfl) ⟨by omega, by omega⟩ k0
theorem mw_alenD {M : mM} {bc bs : Nat} {pc pc' : Nat} {L : List (Nat × mV)} {S : List mV} {g : mG} {d : mD} {Q : mQ} {A o n : Int} {ck : Nat} (hd : decode (mC M) pc = .ok (.arraylength, 1)) (hp : pc + 1 = pc') (hD : DKd g A) (hk : LK (6 + o) = ck) (hn : LN (6 + o) = n) (hc : (0 ≤ o ∧ o < 46) ∧ (100 ≤ ck ∧ ck < 103) ∧ 0 ≤ n ∧ n ≤ 10000) (k0 : MW M bc bs pc' L (vI n :: S) g d Q) : MW M bc bs pc L (vR (A + o) :: S) g d Q := by
  obtain ⟨ho, hck, h0, h1⟩ := hc
  have hk' : LK (A + o) = ck := (hD.lk ho).1.trans hk
  have hn' : LN (A + o) = n := (hD.lk ho).2.trans hn
  have hr := hD.rng
  refine mw_top (fun hT => ?_)
  have h21 := hT.1.2.1
  refine mw_alenG hd hp (by omega) ⟨by omega, by omega⟩ (by omega) ?_
  rw [hn']
  exact k0
def AWo (own : String) (idx : Nat) : Prop := Cond.methodLink own idx arraycopyName ∈ BIG
theorem aw_na : Cond.native arraycopyName ∈ BIG ∧ Cond.static arraycopyName ∈ BIG ∧ Cond.initialized "java/lang/System" ∈ BIG := ⟨bw_667, bw_666, bw_19⟩
theorem mw_copyD {M : mM} {bc bs : Nat} {pc pc' : Nat} {L : List (Nat × mV)} {S : List mV} {g : mG} {d : mD} {Q : mQ} {A B o n : Int} {idx ck : Nat} (hd : decode (mC M) pc = .ok (.invokestatic idx, 3)) (hp : pc + 3 = pc') (hw : AWo (mOw M) idx) (hA : DKd g A) (hB : DKd g B) (hk : LK (6 + o) = ck) (hn : LN (6 + o) = n) (hc : (0 ≤ o ∧ o < 46) ∧ (100 ≤ ck ∧ ck < 103) ∧ 0 ≤ n) (hr : 1 ≤ mFr M ∧ 100 ≤ mLo M) (hcat : (S.map catV).sum ≤ 8) (k0 : MW M bc bs pc' L S g (cpy d (B + o) (A + o) 0 0 n) Q) : MW M bc bs pc L (vI n :: vI 0 :: vR (A + o) :: vI 0 :: vR (B + o) :: S) g d Q := by
  obtain ⟨ho, hck, h0⟩ := hc
  have hka : LK (A + o) = ck := (hA.lk ho).1.trans hk
  have hkb : LK (B + o) = ck := (hB.lk ho).1.trans hk
  have hna : LN (A + o) = n := (hA.lk ho).2.trans hn
  have hnb : LN (B + o) = n := (hB.lk ho).2.trans hn
  have hra := hA.rng
  have hrb := hB.rng
  refine mw_top (fun hT => ?_)
  have h21 := hT.1.2.1
  exact mw_copy hd hp hw aw_na.1 aw_na.2.1 aw_na.2.2 hck hkb hka ⟨by omega, by omega⟩ ⟨by omega, by omega⟩ ⟨by omega, by omega, by omega⟩ ⟨by omega, by omega⟩ hr.1 hr.2 hcat k0
-- what a copy has done
theorem inC_e {b j : Int} (h : inC b j) : (7 ≤ b ∧ b ≤ 51 ∧ b ≠ 12) ∧ (b = 7 → j = 2) ∧ (b = 10 → j = 0 ∨ j = 2) ∧ (b = 16 → j = 11) ∧ (b = 28 → j = 4) ∧ (b = 33 → j = 7) ∧ (b = 34 → j = 11) := by
  obtain ⟨q, hq⟩ := h
  match q, hq with
  | 0, h => simp only [kC] at h; omega
  | 1, h => simp only [kC] at h; omega
  | 2, h => simp only [kC] at h; omega
  | 3, h => simp only [kC] at h; omega
  | 4, h => simp only [kC] at h; omega
  | 5, h => simp only [kC] at h; omega
  | 6, h => simp only [kC] at h; omega
  | 7, h => simp only [kC] at h; omega
  | 8, h => simp only [kC] at h; omega
  | 9, h => simp only [kC] at h; omega
  | 10, h => simp only [kC] at h; omega
  | 11, h => simp only [kC] at h; omega
  | 12, h => simp only [kC] at h; omega
  | q + 13, h => simp only [kC] at h; omega
theorem inC_a {b j : Int} (h : inC b j) : 0 ≤ j ∧ (b = 8 → j < 64) ∧ ((b = 9 ∨ b = 13 ∨ b = 14 ∨ b = 46 ∨ b = 47) → j < 8) ∧ (b = 11 → j < 40) ∧ (b = 15 → j < 4) ∧ ((b = 22 ∨ b = 40) → j < 210) ∧ ((29 ≤ b ∧ b ≤ 32) → j < 12) ∧ ((48 ≤ b ∧ b ≤ 51) → j < 20) := by
  obtain ⟨q, hq⟩ := h
  match q, hq with
  | 0, h => simp only [kC] at h; omega
  | 1, h => simp only [kC] at h; omega
  | 2, h => simp only [kC] at h; omega
  | 3, h => simp only [kC] at h; omega
  | 4, h => simp only [kC] at h; omega
  | 5, h => simp only [kC] at h; omega
  | 6, h => simp only [kC] at h; omega
  | 7, h => simp only [kC] at h; omega
  | 8, h => simp only [kC] at h; omega
  | 9, h => simp only [kC] at h; omega
  | 10, h => simp only [kC] at h; omega
  | 11, h => simp only [kC] at h; omega
  | 12, h => simp only [kC] at h; omega
  | q + 13, h => simp only [kC] at h; omega
theorem inC_30 {b j : Int} (h : inC b j) : ((17 ≤ b ∧ b ≤ 27 ∧ b ≠ 22) ∨ (35 ≤ b ∧ b ≤ 45 ∧ b ≠ 40)) → j < 30 := by
  obtain ⟨q, hq⟩ := h
  match q, hq with
  | 0, h => simp only [kC] at h; omega
  | 1, h => simp only [kC] at h; omega
  | 2, h => simp only [kC] at h; omega
  | 3, h => simp only [kC] at h; omega
  | 4, h => simp only [kC] at h; omega
  | 5, h => simp only [kC] at h; omega
  | 6, h => simp only [kC] at h; omega
  | 7, h => simp only [kC] at h; omega
  | 8, h => simp only [kC] at h; omega
  | 9, h => simp only [kC] at h; omega
  | 10, h => simp only [kC] at h; omega
  | 11, h => simp only [kC] at h; omega
  | 12, h => simp only [kC] at h; omega
  | q + 13, h => simp only [kC] at h; omega
def CPy (A B l h : Int) (d d' : mD) : Prop := (∀ b j : Int, ¬ (A + l ≤ b ∧ b ≤ A + h) → d' b j = d b j) ∧ ∀ o j : Int, l ≤ o → o ≤ h → inC (6 + o) j → d' (A + o) j = d (B + o) j
theorem CPy.ar {A B o n : Int} {d : mD} (hn : ∀ j, inC (6 + o) j → 0 ≤ j ∧ j < n) : CPy A B o o d (cpy d (B + o) (A + o) 0 0 n) := by
  refine ⟨fun b j hb => ?_, fun o' j h1 h2 hi => ?_⟩
  · rw [cpy_row (by omega)]
  · have e : o' = o := by omega
    subst e
    have hj := hn j hi
    have e2 : cpy d (B + o') (A + o') 0 0 n (A + o') j = d (B + o') (0 + (j - 0)) := if_pos ⟨rfl, by omega, by omega⟩
    rw [e2, show (0 : Int) + (j - 0) = j by omega]
theorem CPy.pt {A B o k : Int} {d : mD} (hn : ∀ j, inC (6 + o) j → j = k) : CPy A B o o d (ud d (A + o) k (d (B + o) k)) := by
  refine ⟨fun b j hb => ud_ne (by omega), fun o' j h1 h2 hi => ?_⟩
  have e : o' = o := by omega
  subst e
  have hj := hn j hi
  subst hj
  exact ud_same _ _ _ _
theorem CPy.tr {A B l1 h1 l2 h2 l h : Int} {d d1 d2 : mD} (k1 : CPy A B l1 h1 d d1) (k2 : CPy A B l2 h2 d1 d2) (hb : 0 ≤ l ∧ h < 46 ∧ l ≤ l1 ∧ h1 ≤ h ∧ l ≤ l2 ∧ h2 ≤ h) (hu : ∀ o j : Int, l ≤ o → o ≤ h → inC (6 + o) j → (l1 ≤ o ∧ o ≤ h1) ∨ (l2 ≤ o ∧ o ≤ h2)) (hap : A + 46 ≤ B ∨ B + 46 ≤ A) : CPy A B l h d d2 := by
  refine ⟨fun b j q => (k2.1 b j (by omega)).trans (k1.1 b j (by omega)), fun o j q1 q2 hi => ?_⟩
  by_cases c : l2 ≤ o ∧ o ≤ h2
  · rw [k2.2 o j c.1 c.2 hi]
    exact k1.1 _ _ (by omega)
  · have c1 : l1 ≤ o ∧ o ≤ h1 := (hu o j q1 q2 hi).resolve_right c
    rw [k2.1 _ _ (by omega)]
    exact k1.2 o j c1.1 c1.2 hi
