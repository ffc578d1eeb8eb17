theorem i_nat {a : Int} (h : 0 ≤ a) : Int32.ofInt a = Int32.ofNat a.toNat := by
  rw [← Int32.ofInt_eq_ofNat, n_i h]
theorem i_div {a b : Int} (ha : iI a) (hb : iI b) (h0 : 0 ≤ a) (h1 : 0 < b) : Int32.ofInt a / Int32.ofInt b = Int32.ofInt (a / b) := by
  have h2 : 0 ≤ a / b := Int.ediv_nonneg h0 (by omega)
  have h3 : a / b ≤ a := Int.ediv_le_self b h0
  apply Int32.toInt_inj.mp
  rw [Int32.toInt_div, i_ok ha, i_ok hb, i_ok ⟨by have := ha.1; omega, by have := ha.2; omega⟩, Int.tdiv_eq_ediv_of_nonneg h0]
  have := ha.2
  rw [Int.bmod_def]
  omega
theorem iI_div {a b : Int} (ha : iI a) (h0 : 0 ≤ a) (h1 : 0 < b) : iI (a / b) := by
  have h2 : 0 ≤ a / b := Int.ediv_nonneg h0 (by omega)
  have h3 : a / b ≤ a := Int.ediv_le_self b h0
  exact ⟨by omega, by have := ha.2; omega⟩
theorem i_rem {a b : Int} (ha : iI a) (hb : iI b) (h0 : 0 ≤ a) (h1 : 0 < b) : Int32.ofInt a - Int32.ofInt a / Int32.ofInt b * Int32.ofInt b = Int32.ofInt (a % b) := by
  rw [i_div ha hb h0 h1, ← Int32.ofInt_mul, ← Int32.ofInt_sub]
  congr 1
  rw [Int.emod_def, Int.mul_comm]
theorem iI_rem {a b : Int} (hb : iI b) (h1 : 0 < b) : iI (a % b) := by
  have h2 : 0 ≤ a % b := Int.emod_nonneg a (by omega)
  have h3 : a % b < b := Int.emod_lt_of_pos a h1
  exact ⟨by omega, by have := hb.2; omega⟩
theorem i_ne0 {b : Int} (hb : iI b) (h : 0 < b) : ¬ Int32.ofInt b = 0 := fun q => by
  have := (i_eq hb i_0).mp q
  omega
/-- and, or of two that are not negative -/
def nAnd (a b : Int) : Int := ((a.toNat &&& b.toNat : Nat) : Int)
def nOr (a b : Int) : Int := ((a.toNat ||| b.toNat : Nat) : Int)
theorem i_bv (n : Nat) : (Int32.ofNat n).toBitVec = BitVec.ofNat 32 n := rfl
theorem i_and {a b : Int} (h0 : 0 ≤ a) (h1 : 0 ≤ b) : Int32.ofInt a &&& Int32.ofInt b = Int32.ofInt (nAnd a b) := by
  rw [i_nat h0, i_nat h1]
  unfold nAnd
  rw [Int32.ofInt_eq_ofNat]
  apply Int32.toBitVec_inj.mp
  rw [Int32.toBitVec_and, i_bv, i_bv, i_bv, BitVec.ofNat_and]
theorem i_or {a b : Int} (h0 : 0 ≤ a) (h1 : 0 ≤ b) : Int32.ofInt a ||| Int32.ofInt b = Int32.ofInt (nOr a b) := by
  rw [i_nat h0, i_nat h1]
  unfold nOr
  rw [Int32.ofInt_eq_ofNat]
  apply Int32.toBitVec_inj.mp
  rw [Int32.toBitVec_or, i_bv, i_bv, i_bv, BitVec.ofNat_or]
theorem iI_and {a b : Int} (ha : iI a) (h0 : 0 ≤ a) (_ : 0 ≤ b) : iI (nAnd a b) := by
  have : a.toNat &&& b.toNat ≤ a.toNat := Nat.and_le_left
  unfold nAnd
  exact ⟨by omega, by have := ha.2; omega⟩
theorem iI_or {a b : Int} (ha : iI a) (hb : iI b) (h0 : 0 ≤ a) (h1 : 0 ≤ b) : iI (nOr a b) := by
  have : a.toNat ||| b.toNat < 2 ^ 31 := Nat.or_lt_two_pow (by have := ha.2; omega) (by have := hb.2; omega)
  unfold nOr
  exact ⟨by omega, by omega⟩
theorem i_mask {a : Int} {k : Nat} (hk : k < 31) : Int32.ofInt a &&& Int32.ofInt ((2 : Int) ^ k - 1) = Int32.ofInt (a % 2 ^ k) := by
  apply Int32.toBitVec_inj.mp
  rw [Int32.toBitVec_and]
  show BitVec.ofInt 32 a &&& BitVec.ofInt 32 ((2 : Int) ^ k - 1) = BitVec.ofInt 32 (a % 2 ^ k)
  have hp : (0 : Int) < 2 ^ k := Int.pow_pos (by omega)
  have hn : (2 : Int) ^ k - 1 = ((2 ^ k - 1 : Nat) : Int) := by
    have := Nat.pos_of_ne_zero (show (2 ^ k : Nat) ≠ 0 from by simp)
    push_cast [Nat.one_le_two_pow]
    rfl
  have hlt : (2 ^ k : Nat) ≤ 2 ^ 32 := Nat.pow_le_pow_right (by omega) (by omega)
  apply BitVec.eq_of_toNat_eq
  rw [BitVec.toNat_and, BitVec.toNat_ofInt, hn, BitVec.toNat_ofInt, BitVec.toNat_ofInt]
  have e1 : (((2 ^ k - 1 : Nat) : Int) % ((2 ^ 32 : Nat) : Int)).toNat = 2 ^ k - 1 := by
    rw [Int.emod_eq_of_lt (by omega) (by have : (2 ^ k - 1 : Nat) < 2 ^ 32 := by omega
                                         exact_mod_cast this)]
    rfl
  rw [e1, Nat.and_two_pow_sub_one_eq_mod]
  have hd : (2 : Int) ^ k ∣ 2 ^ 32 := by exact_mod_cast (Int.natCast_dvd_natCast.mpr (Nat.pow_dvd_pow 2 (show k ≤ 32 by omega)))
  have e2 : (a % 2 ^ 32) % 2 ^ k = a % 2 ^ k := Int.emod_emod_of_dvd a hd
  have h1 : 0 ≤ a % 2 ^ k := Int.emod_nonneg a (by omega)
  have h2 : a % 2 ^ k < 2 ^ k := Int.emod_lt_of_pos a hp
  have h3 : 0 ≤ a % 2 ^ 32 := Int.emod_nonneg a (by decide)
  have h4 : (2 : Int) ^ k ≤ 2 ^ 32 := by exact_mod_cast hlt
  have e3 : (a % 2 ^ k) % ((2 ^ 32 : Nat) : Int) = a % 2 ^ k := Int.emod_eq_of_lt h1 (by show a % 2 ^ k < (2 : Int) ^ 32; omega)
  rw [e3]
  have e4 : (((a % ((2 ^ 32 : Nat) : Int)).toNat % 2 ^ k : Nat) : Int) = a % 2 ^ k := by
    rw [Int.natCast_emod, n_i (show 0 ≤ a % ((2 ^ 32 : Nat) : Int) from h3)]
    show a % 2 ^ 32 % (((2 ^ k : Nat)) : Int) = _
    rw [show (((2 ^ k : Nat)) : Int) = (2 : Int) ^ k from by push_cast; rfl]
    exact e2
  omega
theorem i_shl {a s : Int} (h0 : 0 ≤ a) (hs : 0 ≤ s ∧ s < 31) : Int32.ofInt a <<< (Int32.ofInt s &&& 31) = Int32.ofInt (a * 2 ^ s.toNat) := by
  obtain ⟨k, rfl⟩ := Int.eq_ofNat_of_zero_le hs.1
  have hk : k < 32 := by omega
  have key : ∀ q : Fin 32, (Int32.ofNat q.val &&& 31).toBitVec.smod 32 = BitVec.ofNat 32 q.val := by decide
  have key1 : (Int32.ofInt (k : Int) &&& 31).toBitVec.smod 32 = BitVec.ofNat 32 k := by
    rw [Int32.ofInt_eq_ofNat]
    exact key ⟨k, hk⟩
  apply Int32.toBitVec_inj.mp
  rw [Int32.toBitVec_shiftLeft, key1, BitVec.shiftLeft_eq']
  show (BitVec.ofInt 32 a) <<< (BitVec.ofNat 32 k).toNat = BitVec.ofInt 32 (a * 2 ^ k)
  obtain ⟨n, rfl⟩ := Int.eq_ofNat_of_zero_le h0
  apply BitVec.eq_of_toNat_eq
  rw [BitVec.toNat_shiftLeft, BitVec.toNat_ofInt, BitVec.toNat_ofInt, BitVec.toNat_ofNat, Nat.mod_eq_of_lt (show k < 2 ^ 32 by omega), Nat.shiftLeft_eq]
  have e1 : (((n : Int) % ((2 ^ 32 : Nat) : Int)).toNat) = n % 2 ^ 32 := by omega
  have e2 : ((((n : Int) * 2 ^ k) % ((2 ^ 32 : Nat) : Int)).toNat) = n * 2 ^ k % 2 ^ 32 := by
    have : ((n : Int) * 2 ^ k) = ((n * 2 ^ k : Nat) : Int) := by push_cast; rfl
    rw [this]
    omega
  rw [e1, e2, Nat.mod_mul_mod]
theorem i_shr {a s : Int} (ha : iI a) (h0 : 0 ≤ a) (hs : 0 ≤ s ∧ s < 32) : Int32.ofInt a >>> (Int32.ofInt s &&& 31) = Int32.ofInt (a / 2 ^ s.toNat) := by
  obtain ⟨k, rfl⟩ := Int.eq_ofNat_of_zero_le hs.1
  have hk : k < 32 := by omega
  have key : ∀ q : Fin 32, (Int32.ofNat q.val &&& 31).toBitVec.smod 32 = BitVec.ofNat 32 q.val := by decide
  have key1 : (Int32.ofInt (k : Int) &&& 31).toBitVec.smod 32 = BitVec.ofNat 32 k := by
    rw [Int32.ofInt_eq_ofNat]
    exact key ⟨k, hk⟩
  have hp : (0 : Int) < 2 ^ k := Int.pow_pos (by omega)
  have h2 : iI (a / 2 ^ k) := iI_div ha h0 hp
  apply Int32.toInt_inj.mp
  show ((Int32.ofInt a >>> (Int32.ofInt (k : Int) &&& 31)).toBitVec).toInt = (Int32.ofInt (a / 2 ^ k)).toInt
  rw [Int32.toBitVec_shiftRight, key1, i_ok h2]
  show ((Int32.ofInt a).toBitVec.sshiftRight (BitVec.ofNat 32 k).toNat).toInt = _
  rw [BitVec.toInt_sshiftRight, BitVec.toNat_ofNat, Nat.mod_eq_of_lt (show k < 2 ^ 32 by omega), Int.shiftRight_eq_div_pow]
  have : (Int32.ofInt a).toBitVec.toInt = a := i_ok ha
  rw [this]
  congr 1
theorem l_ok {a : Int} (h : iL a) : (Int64.ofInt a).toInt = a := Int64.toInt_ofInt_of_le h.1 (by have := h.2; omega)
theorem l_i2l {a : Int} (h : iI a) : (Int32.ofInt a).toInt64 = Int64.ofInt a := by
  apply Int64.toInt_inj.mp
  rw [Int32.toInt_toInt64, i_ok h, l_ok ⟨by have := h.1; omega, by have := h.2; omega⟩]
theorem iL_i {a : Int} (h : iI a) : iL a := ⟨by have := h.1; omega, by have := h.2; omega⟩
theorem i_i2c (a : Int) : ((Int32.ofInt a).toUInt32 % 65536).toInt32 = Int32.ofInt (a % 65536) := by
  apply Int32.toBitVec_inj.mp
  show (BitVec.ofInt 32 a) % (65536#32) = BitVec.ofInt 32 (a % 65536)
  apply BitVec.eq_of_toNat_eq
  rw [BitVec.toNat_umod, BitVec.toNat_ofInt, BitVec.toNat_ofInt]
  show (a % ((2 ^ 32 : Nat) : Int)).toNat % 65536 = _
  omega
def lCmp (a b : Int) : Int := if a < b then -1 else if a = b then 0 else 1
theorem l_cmp {a b : Int} (ha : iL a) (hb : iL b) : lg_cmp (Int64.ofInt a) (Int64.ofInt b) = Int32.ofInt (lCmp a b) := by
  unfold lg_cmp lCmp
  simp only [gt_iff_lt, Int64.lt_iff_toInt_lt, ← Int64.toInt_inj, l_ok ha, l_ok hb]
  by_cases h1 : b < a
  · rw [if_pos h1, if_neg (by omega), if_neg (by omega)]
    rfl
  · rw [if_neg h1]
    by_cases h2 : a = b
    · rw [if_pos h2, if_neg (by omega), if_pos h2]
      rfl
    · rw [if_neg h2, if_pos (by omega)]
      rfl
def lOr (a b : Int) : Int := (Int64.ofInt a ||| Int64.ofInt b).toInt
def lAnd (a b : Int) : Int := (Int64.ofInt a &&& Int64.ofInt b).toInt
def lShl (a s : Int) : Int := (Int64.ofInt a <<< ((Int32.ofInt s).toInt64 &&& 63)).toInt
def lShu (a s : Int) : Int := (((Int64.ofInt a).toUInt64 >>> ((Int32.ofInt s).toInt64.toUInt64 &&& Int64.toUInt64 63)).toInt64).toInt
theorem l_of (x : Int64) : Int64.ofInt x.toInt = x := Int64.ofInt_toInt x
theorem iL_of (x : Int64) : iL x.toInt := ⟨Int64.le_toInt x, by have := Int64.toInt_lt x; omega⟩
def fI2 (a : Int) : Int := ((FP.i2d (Int32.ofInt a)).toNat : Int)
def fDiv (a b : Int) : Int := ((FP.ddiv (UInt64.ofNat a.toNat) (UInt64.ofNat b.toNat)).toNat : Int)
def fCmp (op : CmpOp) (a b : Int) : Int := (Op.cmpValue (FP.dcmp (UInt64.ofNat a.toNat) (UInt64.ofNat b.toNat)) op).toInt
theorem f_of (x : UInt64) : UInt64.ofNat ((x.toNat : Int)).toNat = x := by simp
theorem mw_idiv {M : mM} {bc bs : Nat} {pc pc' : Nat} {L : List (Nat × mV)} {S : List mV} {g : mG} {d : mD} {Q : mQ} {a b : Int} (hd : decode (mC M) pc = .ok (.idiv, 1)) (hp : pc + 1 = pc') (p0 : 0 ≤ a) (p1 : 0 < b) (k0 : MW M bc bs pc' L (vI (a / b) :: S) g d Q) : MW M bc bs pc L (vI b :: vI a :: S) g d Q := by
  intro p l e s m args below meth c H locs cells slots X φ E ls hC hS hR hE hL hO hl hw hc hs
  obtain ⟨hx, hb, hml, hown, hts, hK, hT, hr, hlk, hnm, htb, hfl⟩ := id hC
  subst hp
  have h0 := k0 p l e s m args below meth c H locs cells slots X φ E ls hC hS hR hE hL ⟨iI_div hO.2.1 p0 p1, hO.2.2⟩ hl hw hc hs
  refine lv_idiv (x := Int32.ofInt a) (y := Int32.ofInt b) hx hb hd (i_ne0 hO.1 p1) ?_
  rw [i_div hO.2.1 hO.1 p0 p1]
  exact h0
theorem mw_irem {M : mM} {bc bs : Nat} {pc pc' : Nat} {L : List (Nat × mV)} {S : List mV} {g : mG} {d : mD} {Q : mQ} {a b : Int} (hd : decode (mC M) pc = .ok (.irem, 1)) (hp : pc + 1 = pc') (p0 : 0 ≤ a) (p1 : 0 < b) (k0 : MW M bc bs pc' L (vI (a % b) :: S) g d Q) : MW M bc bs pc L (vI b :: vI a :: S) g d Q := by
  intro p l e s m args below meth c H locs cells slots X φ E ls hC hS hR hE hL hO hl hw hc hs
  obtain ⟨hx, hb, hml, hown, hts, hK, hT, hr, hlk, hnm, htb, hfl⟩ := id hC
  subst hp
  have h0 := k0 p l e s m args below meth c H locs cells slots X φ E ls hC hS hR hE hL ⟨iI_rem hO.1 p1, hO.2.2⟩ hl hw hc hs
  refine lv_irem (x := Int32.ofInt a) (y := Int32.ofInt b) hx hb hd (i_ne0 hO.1 p1) ?_
  rw [i_rem hO.2.1 hO.1 p0 p1]
  exact h0
theorem mw_iand {M : mM} {bc bs : Nat} {pc pc' : Nat} {L : List (Nat × mV)} {S : List mV} {g : mG} {d : mD} {Q : mQ} {a b : Int} (hd : decode (mC M) pc = .ok (.iand, 1)) (hp : pc + 1 = pc') (p0 : 0 ≤ a) (p1 : 0 ≤ b) (k0 : MW M bc bs pc' L (vI (nAnd a b) :: S) g d Q) : MW M bc bs pc L (vI b :: vI a :: S) g d Q := by
  intro p l e s m args below meth c H locs cells slots X φ E ls hC hS hR hE hL hO hl hw hc hs
  obtain ⟨hx, hb, hml, hown, hts, hK, hT, hr, hlk, hnm, htb, hfl⟩ := id hC
  subst hp
  have h0 := k0 p l e s m args below meth c H locs cells slots X φ E ls hC hS hR hE hL ⟨iI_and hO.2.1 p0 p1, hO.2.2⟩ hl hw hc hs
  refine lv_iand (x := Int32.ofInt a) (y := Int32.ofInt b) hx hb hd ?_
  rw [i_and p0 p1]
  exact h0
theorem mw_ior {M : mM} {bc bs : Nat} {pc pc' : Nat} {L : List (Nat × mV)} {S : List mV} {g : mG} {d : mD} {Q : mQ} {a b : Int} (hd : decode (mC M) pc = .ok (.ior, 1)) (hp : pc + 1 = pc') (p0 : 0 ≤ a) (p1 : 0 ≤ b) (k0 : MW M bc bs pc' L (vI (nOr a b) :: S) g d Q) : MW M bc bs pc L (vI b :: vI a :: S) g d Q := by
  intro p l e s m args below meth c H locs cells slots X φ E ls hC hS hR hE hL hO hl hw hc hs
  obtain ⟨hx, hb, hml, hown, hts, hK, hT, hr, hlk, hnm, htb, hfl⟩ := id hC
  subst hp
  have h0 := k0 p l e s m args below meth c H locs cells slots X φ E ls hC hS hR hE hL ⟨iI_or hO.2.1 hO.1 p0 p1, hO.2.2⟩ hl hw hc hs
  refine lv_ior (x := Int32.ofInt a) (y := Int32.ofInt b) hx hb hd ?_
  rw [i_or p0 p1]
  exact h0
theorem mw_ishl {M : mM} {bc bs : Nat} {pc pc' : Nat} {L : List (Nat × mV)} {S : List mV} {g : mG} {d : mD} {Q : mQ} {a b : Int} (hd : decode (mC M) pc = .ok (.ishl, 1)) (hp : pc + 1 = pc') (p0 : 0 ≤ a) (hs0 : 0 ≤ b ∧ b < 31) (hi : iI (a * 2 ^ b.toNat)) (k0 : MW M bc bs pc' L (vI (a * 2 ^ b.toNat) :: S) g d Q) : MW M bc bs pc L (vI b :: vI a :: S) g d Q := by
  intro p l e s m args below meth c H locs cells slots X φ E ls hC hS hR hE hL hO hl hw hc hs
  obtain ⟨hx, hb, hml, hown, hts, hK, hT, hr, hlk, hnm, htb, hfl⟩ := id hC
  subst hp
  have h0 := k0 p l e s m args below meth c H locs cells slots X φ E ls hC hS hR hE hL ⟨hi, hO.2.2⟩ hl hw hc hs
  refine lv_ishl (x := Int32.ofInt a) (y := Int32.ofInt b) hx hb hd ?_
  rw [i_shl p0 hs0]
  exact h0
theorem mw_ishr {M : mM} {bc bs : Nat} {pc pc' : Nat} {L : List (Nat × mV)} {S : List mV} {g : mG} {d : mD} {Q : mQ} {a b : Int} (hd : decode (mC M) pc = .ok (.ishr, 1)) (hp : pc + 1 = pc') (p0 : 0 ≤ a) (hs0 : 0 ≤ b ∧ b < 32) (k0 : MW M bc bs pc' L (vI (a / 2 ^ b.toNat) :: S) g d Q) : MW M bc bs pc L (vI b :: vI a :: S) g d Q := by
  intro p l e s m args below meth c H locs cells slots X φ E ls hC hS hR hE hL hO hl hw hc hs
  obtain ⟨hx, hb, hml, hown, hts, hK, hT, hr, hlk, hnm, htb, hfl⟩ := id hC
  subst hp
  have h0 := k0 p l e s m args below meth c H locs cells slots X φ E ls hC hS hR hE hL ⟨iI_div hO.2.1 p0 (Int.pow_pos (by omega)), hO.2.2⟩ hl hw hc hs
  refine lv_ishr (x := Int32.ofInt a) (y := Int32.ofInt b) hx hb hd ?_
  rw [i_shr hO.2.1 p0 hs0]
  exact h0
theorem iI_mask {a : Int} {n k : Nat} (hk : k < 31) (hn : (n : Int) = 2 ^ k) : iI (a % n) := by
  have h : (n : Int) ≤ 2 ^ 31 := by
    rw [hn]
    exact_mod_cast Nat.pow_le_pow_right (n := 2) (by omega) (show k ≤ 31 by omega)
  have hp : (0 : Int) < n := by rw [hn]; exact Int.pow_pos (by omega)
  have h1 := Int.emod_nonneg a (show (n : Int) ≠ 0 by omega)
  have h2 := Int.emod_lt_of_pos a hp
  exact ⟨by omega, by omega⟩
theorem mw_imask {M : mM} {bc bs : Nat} {pc pc' : Nat} {L : List (Nat × mV)} {S : List mV} {g : mG} {d : mD} {Q : mQ} {a mk n1 : Int} {n k : Nat} (hd : decode (mC M) pc = .ok (.iand, 1)) (hp : pc + 1 = pc') (hk : k < 31) (hn : (n : Int) = 2 ^ k) (hm : mk = n - 1) (hn1 : (n : Int) = n1) (k0 : MW M bc bs pc' L (vI (a % n1) :: S) g d Q) : MW M bc bs pc L (vI mk :: vI a :: S) g d Q := by
  intro p l e s m args below meth c H locs cells slots X φ E ls hC hS hR hE hL hO hl hw hc hs
  obtain ⟨hx, hb, hml, hown, hts, hK, hT, hr, hlk, hnm, htb, hfl⟩ := id hC
  subst hp
  subst hn1
  have h0 := k0 p l e s m args below meth c H locs cells slots X φ E ls hC hS hR hE hL ⟨iI_mask hk hn, hO.2.2⟩ hl hw hc hs
  refine lv_iand (x := Int32.ofInt a) (y := Int32.ofInt mk) hx hb hd ?_
  rw [hm, hn, i_mask hk, ← hn]
  exact h0
theorem mw_i2l {M : mM} {bc bs : Nat} {pc pc' : Nat} {L : List (Nat × mV)} {S : List mV} {g : mG} {d : mD} {Q : mQ} {a : Int} (hd : decode (mC M) pc = .ok (.i2l, 1)) (hp : pc + 1 = pc') (k0 : MW M bc bs pc' L (vL a :: S) g d Q) : MW M bc bs pc L (vI a :: S) g d Q := by
  intro p l e s m args below meth c H locs cells slots X φ E ls hC hS hR hE hL hO hl hw hc hs
  obtain ⟨hx, hb, hml, hown, hts, hK, hT, hr, hlk, hnm, htb, hfl⟩ := id hC
  subst hp
  exact lv_i2l hx hb hd (l_i2l hO.1) (k0 p l e s m args below meth c H locs cells slots X φ E ls hC hS hR hE hL ⟨iL_i hO.1, hO.2⟩ hl hw hc hs)
theorem mw_i2c {M : mM} {bc bs : Nat} {pc pc' : Nat} {L : List (Nat × mV)} {S : List mV} {g : mG} {d : mD} {Q : mQ} {a : Int} (hd : decode (mC M) pc = .ok (.i2c, 1)) (hp : pc + 1 = pc') (k0 : MW M bc bs pc' L (vI (a % 65536) :: S) g d Q) : MW M bc bs pc L (vI a :: S) g d Q := by
  intro p l e s m args below meth c H locs cells slots X φ E ls hC hS hR hE hL hO hl hw hc hs
  obtain ⟨hx, hb, hml, hown, hts, hK, hT, hr, hlk, hnm, htb, hfl⟩ := id hC
  subst hp
  exact lv_i2c hx hb hd (i_i2c a) (k0 p l e s m args below meth c H locs cells slots X φ E ls hC hS hR hE hL ⟨iI_rem (b := 65536) ⟨by decide, by decide⟩ (by decide), hO.2⟩ hl hw hc hs)
theorem iI_cmp (a b : Int) : iI (lCmp a b) := by
  unfold lCmp
  split
  · exact ⟨by decide, by decide⟩
  · split <;> exact ⟨by decide, by decide⟩
theorem mw_lcmp {M : mM} {bc bs : Nat} {pc pc' : Nat} {L : List (Nat × mV)} {S : List mV} {g : mG} {d : mD} {Q : mQ} {a b : Int} (hd : decode (mC M) pc = .ok (.lcmp, 1)) (hp : pc + 1 = pc') (k0 : MW M bc bs pc' L (vI (lCmp a b) :: S) g d Q) : MW M bc bs pc L (vL b :: vL a :: S) g d Q := by
  intro p l e s m args below meth c H locs cells slots X φ E ls hC hS hR hE hL hO hl hw hc hs
  obtain ⟨hx, hb, hml, hown, hts, hK, hT, hr, hlk, hnm, htb, hfl⟩ := id hC
  subst hp
  have h0 := k0 p l e s m args below meth c H locs cells slots X φ E ls hC hS hR hE hL ⟨iI_cmp a b, hO.2.2⟩ hl hw hc hs
  refine W.lcmp hx hb hd ?_
  rw [l_cmp hO.2.1 hO.1]
  exact h0
theorem mw_lor {M : mM} {bc bs : Nat} {pc pc' : Nat} {L : List (Nat × mV)} {S : List mV} {g : mG} {d : mD} {Q : mQ} {a b : Int} (hd : decode (mC M) pc = .ok (.lor, 1)) (hp : pc + 1 = pc') (k0 : MW M bc bs pc' L (vL (lOr a b) :: S) g d Q) : MW M bc bs pc L (vL b :: vL a :: S) g d Q := by
  intro p l e s m args below meth c H locs cells slots X φ E ls hC hS hR hE hL hO hl hw hc hs
  obtain ⟨hx, hb, hml, hown, hts, hK, hT, hr, hlk, hnm, htb, hfl⟩ := id hC
  subst hp
  have h0 := k0 p l e s m args below meth c H locs cells slots X φ E ls hC hS hR hE hL ⟨iL_of _, hO.2.2⟩ hl hw hc hs
  refine lv_lor hx hb hd ?_
  rw [List.map_cons] at h0
  rw [show rv X φ (vL (lOr a b)) = .long (Int64.ofInt (lOr a b)) from rfl, show Int64.ofInt (lOr a b) = _ from l_of _] at h0
  exact h0
theorem mw_land {M : mM} {bc bs : Nat} {pc pc' : Nat} {L : List (Nat × mV)} {S : List mV} {g : mG} {d : mD} {Q : mQ} {a b : Int} (hd : decode (mC M) pc = .ok (.land, 1)) (hp : pc + 1 = pc') (k0 : MW M bc bs pc' L (vL (lAnd a b) :: S) g d Q) : MW M bc bs pc L (vL b :: vL a :: S) g d Q := by
  intro p l e s m args below meth c H locs cells slots X φ E ls hC hS hR hE hL hO hl hw hc hs
  obtain ⟨hx, hb, hml, hown, hts, hK, hT, hr, hlk, hnm, htb, hfl⟩ := id hC
  subst hp
  have h0 := k0 p l e s m args below meth c H locs cells slots X φ E ls hC hS hR hE hL ⟨iL_of _, hO.2.2⟩ hl hw hc hs
  refine lv_land hx hb hd ?_
  rw [List.map_cons] at h0
  rw [show rv X φ (vL (lAnd a b)) = .long (Int64.ofInt (lAnd a b)) from rfl, show Int64.ofInt (lAnd a b) = _ from l_of _] at h0
  exact h0
theorem mw_lshl {M : mM} {bc bs : Nat} {pc pc' : Nat} {L : List (Nat × mV)} {S : List mV} {g : mG} {d : mD} {Q : mQ} {a b : Int} (hd : decode (mC M) pc = .ok (.lshl, 1)) (hp : pc + 1 = pc') (k0 : MW M bc bs pc' L (vL (lShl a b) :: S) g d Q) : MW M bc bs pc L (vI b :: vL a :: S) g d Q := by
  intro p l e s m args below meth c H locs cells slots X φ E ls hC hS hR hE hL hO hl hw hc hs
  obtain ⟨hx, hb, hml, hown, hts, hK, hT, hr, hlk, hnm, htb, hfl⟩ := id hC
  subst hp
  have h0 := k0 p l e s m args below meth c H locs cells slots X φ E ls hC hS hR hE hL ⟨iL_of _, hO.2.2⟩ hl hw hc hs
  rw [List.map_cons] at h0
  rw [show rv X φ (vL (lShl a b)) = .long (Int64.ofInt (lShl a b)) from rfl, show Int64.ofInt (lShl a b) = _ from l_of _] at h0
  exact lv_lshl hx hb hd rfl h0
theorem mw_lushr {M : mM} {bc bs : Nat} {pc pc' : Nat} {L : List (Nat × mV)} {S : List mV} {g : mG} {d : mD} {Q : mQ} {a b : Int} (hd : decode (mC M) pc = .ok (.lushr, 1)) (hp : pc + 1 = pc') (k0 : MW M bc bs pc' L (vL (lShu a b) :: S) g d Q) : MW M bc bs pc L (vI b :: vL a :: S) g d Q := by
  intro p l e s m args below meth c H locs cells slots X φ E ls hC hS hR hE hL hO hl hw hc hs
  obtain ⟨hx, hb, hml, hown, hts, hK, hT, hr, hlk, hnm, htb, hfl⟩ := id hC
  subst hp
  have h0 := k0 p l e s m args below meth c H locs cells slots X φ E ls hC hS hR hE hL ⟨iL_of _, hO.2.2⟩ hl hw hc hs
  rw [List.map_cons] at h0
  rw [show rv X φ (vL (lShu a b)) = .long (Int64.ofInt (lShu a b)) from rfl, show Int64.ofInt (lShu a b) = _ from l_of _] at h0
  exact lv_lushr hx hb hd rfl h0
theorem mw_i2d {M : mM} {bc bs : Nat} {pc pc' : Nat} {L : List (Nat × mV)} {S : List mV} {g : mG} {d : mD} {Q : mQ} {a : Int} (hd : decode (mC M) pc = .ok (.i2d, 1)) (hp : pc + 1 = pc') (k0 : MW M bc bs pc' L (vD (fI2 a) :: S) g d Q) : MW M bc bs pc L (vI a :: S) g d Q := by
  intro p l e s m args below meth c H locs cells slots X φ E ls hC hS hR hE hL hO hl hw hc hs
  obtain ⟨hx, hb, hml, hown, hts, hK, hT, hr, hlk, hnm, htb, hfl⟩ := id hC
  subst hp
  have h0 := k0 p l e s m args below meth c H locs cells slots X φ E ls hC hS hR hE hL ⟨Int.natCast_nonneg _, hO.2⟩ hl hw hc hs
  rw [List.map_cons] at h0
  rw [show rv X φ (vD (fI2 a)) = .double (UInt64.ofNat (fI2 a).toNat) from rfl, show UInt64.ofNat (fI2 a).toNat = _ from f_of _] at h0
  exact lv_i2d hx hb hd h0
theorem mw_ddiv {M : mM} {bc bs : Nat} {pc pc' : Nat} {L : List (Nat × mV)} {S : List mV} {g : mG} {d : mD} {Q : mQ} {a b : Int} (hd : decode (mC M) pc = .ok (.ddiv, 1)) (hp : pc + 1 = pc') (hn : vf_n64 (FP.ddiv (UInt64.ofNat a.toNat) (UInt64.ofNat b.toNat))) (k0 : MW M bc bs pc' L (vD (fDiv a b) :: S) g d Q) : MW M bc bs pc L (vD b :: vD a :: S) g d Q := by
  intro p l e s m args below meth c H locs cells slots X φ E ls hC hS hR hE hL hO hl hw hc hs
  obtain ⟨hx, hb, hml, hown, hts, hK, hT, hr, hlk, hnm, htb, hfl⟩ := id hC
  subst hp
  have h0 := k0 p l e s m args below meth c H locs cells slots X φ E ls hC hS hR hE hL ⟨Int.natCast_nonneg _, hO.2.2⟩ hl hw hc hs
  rw [List.map_cons] at h0
  rw [show rv X φ (vD (fDiv a b)) = .double (UInt64.ofNat (fDiv a b).toNat) from rfl, show UInt64.ofNat (fDiv a b).toNat = _ from f_of _] at h0
  exact lv_ddiv hx hb hd hn h0
theorem i_of (x : Int32) : Int32.ofInt x.toInt = x := Int32.ofInt_toInt x
theorem iI_of (x : Int32) : iI x.toInt := ⟨Int32.le_toInt x, by have := Int32.toInt_lt x; omega⟩
theorem mw_dcmp {M : mM} {bc bs : Nat} {pc pc' : Nat} {L : List (Nat × mV)} {S : List mV} {g : mG} {d : mD} {Q : mQ} {a b : Int} {op : CmpOp} (hd : decode (mC M) pc = .ok (.dcmp op, 1)) (hp : pc + 1 = pc') (k0 : MW M bc bs pc' L (vI (fCmp op a b) :: S) g d Q) : MW M bc bs pc L (vD b :: vD a :: S) g d Q := by
  intro p l e s m args below meth c H locs cells slots X φ E ls hC hS hR hE hL hO hl hw hc hs
  obtain ⟨hx, hb, hml, hown, hts, hK, hT, hr, hlk, hnm, htb, hfl⟩ := id hC
  subst hp
  have h0 := k0 p l e s m args below meth c H locs cells slots X φ E ls hC hS hR hE hL ⟨iI_of _, hO.2.2⟩ hl hw hc hs
  rw [List.map_cons] at h0
  rw [show rv X φ (vI (fCmp op a b)) = .int (Int32.ofInt (fCmp op a b)) from rfl, show Int32.ofInt (fCmp op a b) = _ from i_of _] at h0
  exact lv_dcmp hx hb hd h0
theorem mw_dstore {M : mM} {bc bs : Nat} {pc pc' : Nat} {L : List (Nat × mV)} {S : List mV} {g : mG} {d : mD} {Q : mQ} {i : Nat} {x : Int} {L' : List (Nat × mV)} (hd : decode (mC M) pc = .ok (.dstore i, 2)) (hp : pc + 2 = pc') (hn : i + 1 < mN M) (hL' : lput i (vD x) (ldel (i + 1) L) = L') (k0 : MW M bc bs pc' L' S g d Q) : MW M bc bs pc L (vD x :: S) g d Q := by
  intro p l e s m args below meth c H locs cells slots X φ E ls hC hS hR hE hL hO hl hw hc hs
  obtain ⟨hx, hb, hml, hown, hts, hK, hT, hr, hlk, hnm, htb, hfl⟩ := id hC
  subst hp
  subst hL'
  refine lv_dstore hx hb hd hl hn rfl (fun ls' hl' => ?_)
  have hl2 : lv_has ls' (mN M) (rvl X φ (lput i (vD x) (ldel (i + 1) L))) := by
    refine ⟨hl'.1, hl'.2.1, fun q hq => ?_⟩
    obtain ⟨z, hz, rfl⟩ := List.mem_map.mp hq
    rcases lput_mem hz with rfl | ⟨h1, h2, h3⟩
    · exact hl'.2.2 _ List.mem_cons_self
    · obtain ⟨h4, h5, -⟩ := ldel_mem h1
      refine hl'.2.2 _ (List.mem_cons_of_mem _ (List.mem_filter.mpr ⟨List.mem_map.mpr ⟨z, h4, rfl⟩, ?_⟩))
      have e1 : (z.1 == i) = false := by simpa using h2
      have e3 : (z.1 == i + 1) = false := by simpa using h5
      have e2 : (z.1 + 1 == i && (rv X φ z.2).category == 2) = false := by
        rw [cat_rv]
        cases hb : (z.1 + 1 == i && catV z.2 == 2)
        · rfl
        · simp at hb
          exact absurd hb h3
      show (!(z.1 == i) && (!(z.1 == i + 1) && !(z.1 + 1 == i && (rv X φ z.2).category == 2))) = true
      rw [e1, e2, e3]
      rfl
  have hL2 : okl g.2.1 (ldel (i + 1) L) := okl_of fun q hq => okl_mem hL (ldel_mem hq).1
  exact k0 p l e s m args below meth c H locs cells slots X φ E ls' hC hS hR hE (okl_put hL2 hO.1) hO.2 hl2 hw hc hs
theorem mw_ifnull {M : mM} {bc bs : Nat} {pc pc' : Nat} {L : List (Nat × mV)} {S : List mV} {g : mG} {d : mD} {Q : mQ} {a off : Int} {tgt : Nat} (hd : decode (mC M) pc = .ok (.ifnull off, 3)) (hp : pc + 3 = pc') (ht : (pc : Int) + off = (tgt : Int)) (kt : a < 0 → MW M bc bs tgt L S g d Q) (kf : ¬ a < 0 → MW M bc bs pc' L S g d Q) : MW M bc bs pc L (vR a :: S) g d Q := by
  intro p l e s m args below meth c H locs cells slots X φ E ls hC hS hR hE hL hO hl hw hc hs
  obtain ⟨hx, hb, hml, hown, hts, hK, hT, hr, hlk, hnm, htb, hfl⟩ := id hC
  subst hp
  rw [List.map_cons]
  by_cases h : a < 0
  · rw [rv_N h]
    exact lv_ifnullN hx hb hd ht ((kt h) p l e s m args below meth c H locs cells slots X φ E ls hC hS hR hE hL hO.2 hl hw hc hs)
  · rw [rv_R (a := a) (by omega)]
    exact lv_ifnull hx hb hd ((kf h) p l e s m args below meth c H locs cells slots X φ E ls hC hS hR hE hL hO.2 hl hw hc hs)
theorem mw_ifnonnull {M : mM} {bc bs : Nat} {pc pc' : Nat} {L : List (Nat × mV)} {S : List mV} {g : mG} {d : mD} {Q : mQ} {a off : Int} {tgt : Nat} (hd : decode (mC M) pc = .ok (.ifnonnull off, 3)) (hp : pc + 3 = pc') (ht : (pc : Int) + off = (tgt : Int)) (kt : ¬ a < 0 → MW M bc bs tgt L S g d Q) (kf : a < 0 → MW M bc bs pc' L S g d Q) : MW M bc bs pc L (vR a :: S) g d Q := by
  intro p l e s m args below meth c H locs cells slots X φ E ls hC hS hR hE hL hO hl hw hc hs
  obtain ⟨hx, hb, hml, hown, hts, hK, hT, hr, hlk, hnm, htb, hfl⟩ := id hC
  subst hp
  rw [List.map_cons]
  by_cases h : a < 0
  · rw [rv_N h]
    exact lv_ifnonnullN hx hb hd ((kf h) p l e s m args below meth c H locs cells slots X φ E ls hC hS hR hE hL hO.2 hl hw hc hs)
  · rw [rv_R (a := a) (by omega)]
    exact lv_ifnonnull hx hb hd ht ((kt h) p l e s m args below meth c H locs cells slots X φ E ls hC hS hR hE hL hO.2 hl hw hc hs)
theorem mw_tabIn {M : mM} {bc bs : Nat} {pc pc' : Nat} {L : List (Nat × mV)} {S : List mV} {g : mG} {d : mD} {Q : mQ} {a dflt lo hi off : Int} {offs : Array Int} {len tgt : Nat} (hd : decode (mC M) pc = .ok (.tableswitch dflt lo hi offs, len)) (h1 : lo ≤ a ∧ a ≤ hi) (ho : offs[(a - lo).toNat]? = some off) (ht : (pc : Int) + off = (tgt : Int)) (k0 : MW M bc bs tgt L S g d Q) : MW M bc bs pc L (vI a :: S) g d Q := by
  intro p l e s m args below meth c H locs cells slots X φ E ls hC hS hR hE hL hO hl hw hc hs
  obtain ⟨hx, hb, hml, hown, hts, hK, hT, hr, hlk, hnm, htb, hfl⟩ := id hC
  exact lv_tableIn hx hb hd (by rw [i_ok hO.1]; exact Int.not_lt.mpr h1.1) (by rw [i_ok hO.1]; exact Int.not_lt.mpr h1.2) (by rw [i_ok hO.1]; exact ho) ht (k0 p l e s m args below meth c H locs cells slots X φ E ls hC hS hR hE hL hO.2 hl hw hc hs)
theorem mw_tabOut {M : mM} {bc bs : Nat} {pc pc' : Nat} {L : List (Nat × mV)} {S : List mV} {g : mG} {d : mD} {Q : mQ} {a dflt lo hi : Int} {offs : Array Int} {len tgt : Nat} (hd : decode (mC M) pc = .ok (.tableswitch dflt lo hi offs, len)) (h1 : a < lo ∨ hi < a) (ht : (pc : Int) + dflt = (tgt : Int)) (k0 : MW M bc bs tgt L S g d Q) : MW M bc bs pc L (vI a :: S) g d Q := by
  intro p l e s m args below meth c H locs cells slots X φ E ls hC hS hR hE hL hO hl hw hc hs
  obtain ⟨hx, hb, hml, hown, hts, hK, hT, hr, hlk, hnm, htb, hfl⟩ := id hC
  exact lv_tableOut hx hb hd (by rw [i_ok hO.1]; exact h1) ht (k0 p l e s m args below meth c H locs cells slots X φ E ls hC hS hR hE hL hO.2 hl hw hc hs)
theorem mw_look {M : mM} {bc bs : Nat} {pc pc' : Nat} {L : List (Nat × mV)} {S : List mV} {g : mG} {d : mD} {Q : mQ} {a dflt off : Int} {ps : Array (Int × Int)} {len tgt : Nat} (hd : decode (mC M) pc = .ok (.lookupswitch dflt ps, len)) (hs0 : (ps.toList.zip (ps.toList.drop 1)).all (fun (a, next) => a.1 < next.1) = true) (ho : Op.lookupswitch.offset ps.toList dflt a = off) (ht : (pc : Int) + off = (tgt : Int)) (k0 : MW M bc bs tgt L S g d Q) : MW M bc bs pc L (vI a :: S) g d Q := by
  intro p l e s m args below meth c H locs cells slots X φ E ls hC hS hR hE hL hO hl hw hc hs
  obtain ⟨hx, hb, hml, hown, hts, hK, hT, hr, hlk, hnm, htb, hfl⟩ := id hC
  exact lv_lookup hx hb hd hs0 (by rw [i_ok hO.1]; exact ho) ht (k0 p l e s m args below meth c H locs cells slots X φ E ls hC hS hR hE hL hO.2 hl hw hc hs)
