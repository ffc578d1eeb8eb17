-- words of 64 bits
def wbit (v : Int) (j : Nat) : Bool := (Int64.ofInt v).toBitVec.getLsbD j
theorem wbit_or {a b : Int} {j : Nat} : wbit (lOr a b) j = (wbit a j || wbit b j) := by
  unfold wbit lOr
  rw [l_of, Int64.toBitVec_or, BitVec.getLsbD_or]
theorem wbit_m1 {j : Nat} (hj : j < 64) : wbit (-1) j = true := by
  unfold wbit
  rw [show (Int64.ofInt (-1)).toBitVec = BitVec.allOnes 64 by decide, BitVec.getLsbD_allOnes]
  simpa using hj
theorem wbit_0 {j : Nat} : wbit 0 j = false := by
  unfold wbit
  rw [show (Int64.ofInt 0).toBitVec = 0#64 by decide]
  simp
theorem sh_one : ∀ k : Nat, k < 64 → (Int64.ofInt 1 <<< ((Int32.ofInt (k : Int)).toInt64 &&& 63)).toBitVec = BitVec.twoPow 64 k := by decide +kernel
theorem sh_cu : ∀ k : Nat, k < 64 → ((Int32.ofInt (k : Int)).toInt64.toUInt64 &&& Int64.toUInt64 63).toNat = k := by decide +kernel
theorem wbit_shl {s : Int} {j : Nat} (hs : 0 ≤ s ∧ s < 64) : wbit (lShl 1 s) j = decide (s = j) := by
  obtain ⟨k, rfl⟩ := Int.eq_ofNat_of_zero_le hs.1
  have hk : k < 64 := by omega
  unfold wbit lShl
  rw [l_of, sh_one k hk, BitVec.getLsbD_twoPow]
  simp only [hk, decide_true, Bool.true_and]
  apply decide_eq_decide.mpr
  omega
theorem bit_x {w : Int64} {s : UInt64} {j : Nat} (hj : j < 64) (hs : s.toNat = j) : ((w.toUInt64 >>> s).toInt64 &&& 1) = if w.toBitVec.getLsbD j = true then 1 else 0 := by
  have e : (w.toUInt64 >>> s).toInt64.toBitVec = w.toBitVec >>> j := by
    apply BitVec.eq_of_toNat_eq
    show (w.toUInt64 >>> s).toNat = _
    rw [UInt64.toNat_shiftRight, hs, Nat.mod_eq_of_lt hj, BitVec.toNat_ushiftRight]
    rfl
  rw [← Int64.toBitVec_inj, Int64.toBitVec_and, e]
  show w.toBitVec >>> j &&& 1#64 = _
  apply BitVec.eq_of_getLsbD_eq
  intro i hi
  split
  · rename_i h
    show _ = (1#64).getLsbD i
    cases i with
    | zero => simp [h]
    | succ i => simp
  · rename_i h
    show _ = (0#64).getLsbD i
    cases i with
    | zero => simpa using h
    | succ i => simp
theorem wbit_test {v s : Int} (hs : 0 ≤ s ∧ s < 64) : lCmp (lAnd (lShu v s) 1) 1 = 0 ↔ wbit v s.toNat = true := by
  obtain ⟨k, rfl⟩ := Int.eq_ofNat_of_zero_le hs.1
  have hk : k < 64 := by omega
  have e : lAnd (lShu v k) 1 = if wbit v k = true then 1 else 0 := by
    unfold lAnd lShu wbit
    rw [l_of, show Int64.ofInt 1 = 1 by decide, bit_x hk (sh_cu k hk)]
    split <;> decide
  rw [e, Int.toNat_natCast]
  unfold lCmp
  by_cases h : wbit v k = true
  · simp [h]
  · simp [h]
def mkB (f : Int → Int) (x : Int) : Prop := (0 ≤ x ∧ x ≤ 4999) ∧ wbit (f (x / 64)) (x % 64).toNat = true
theorem f_isMarked_h {x1 : Int} {g : mG} {d : mD} {Q : mQ} (h : Q (.inl (bI (mkB (d 57) x1))) g d) : MM mX4_isMarked [vR 57, vI x1] g d Q := by
  refine eX4_isMarked_h ⟨fun q => by omega, fun q => by omega, ?_⟩
  rw [bI_cg (q := mkB (d 57) x1) ⟨fun q => ⟨by omega, (wbit_test (by omega)).mp q.2⟩, fun q => ⟨by have := q.1; omega, (wbit_test (by omega)).mpr q.2⟩⟩]
  exact h
theorem f_isMarked_s {x1 : Int} {g : mG} {d : mD} {Q : mQ} (h : Q (.inl (bI (mkB (d 58) x1))) g d) : MM mX4_isMarked [vR 58, vI x1] g d Q := by
  refine eX4_isMarked_s ⟨fun q => by omega, fun q => by omega, ?_⟩
  rw [bI_cg (q := mkB (d 58) x1) ⟨fun q => ⟨by omega, (wbit_test (by omega)).mp q.2⟩, fun q => ⟨by have := q.1; omega, (wbit_test (by omega)).mpr q.2⟩⟩]
  exact h
-- all words 0, then marks
theorem l_clear_h {g : mG} {d0 : mD} {Q : mQ} (h : ∀ d', (∀ b j, b ≠ 57 → d' b j = d0 b j) → (∀ x, ¬ mkB (d' 57) x) → Q (.inl 0) g d') : ∀ (m : Nat) (k : Int) (d : mD), 0 ≤ k → k + m = 79 → (∀ b j, b ≠ 57 → d b j = d0 b j) → (∀ j, 0 ≤ j → j < k → d 57 j = 0) → pX4_clear_h_1 k g d Q := by
  intro m
  induction m with
  | zero =>
    intro k d hk hm hf hz
    refine aX4_clear_h_1 ⟨fun _ => h d hf (fun x q => ?_), fun c => absurd (by omega) c⟩
    have h1 := q.1
    have h2 := q.2
    rw [hz (x / 64) (by omega) (by omega), wbit_0] at h2
    cases h2
  | succ m ih =>
    intro k d hk hm hf hz
    refine aX4_clear_h_1 ⟨fun c => absurd c (by omega), fun c => ⟨by omega, ik (by omega), ih (k + 1) _ (by omega) (by omega) (fun b j q => ?_) (fun j q1 q2 => ?_)⟩⟩
    · rw [ud_ne (by omega)]
      exact hf b j q
    · by_cases hj : j = k
      · rw [hj, ud_same]
      · rw [ud_ne (by omega)]
        exact hz j q1 (by omega)
theorem f_clear_h {g : mG} {d : mD} {Q : mQ} (h : ∀ d', (∀ b j, b ≠ 57 → d' b j = d b j) → (∀ x, ¬ mkB (d' 57) x) → Q (.inl 0) g d') : MM mX4_clear [vR 57] g d Q :=
  eX4_clear_h (l_clear_h h 79 0 d (by omega) (by omega) (fun _ _ _ => rfl) (fun j q1 q2 => absurd q1 (by omega)))
theorem l_clear_s {g : mG} {d0 : mD} {Q : mQ} (h : ∀ d', (∀ b j, b ≠ 58 → d' b j = d0 b j) → (∀ x, ¬ mkB (d' 58) x) → Q (.inl 0) g d') : ∀ (m : Nat) (k : Int) (d : mD), 0 ≤ k → k + m = 79 → (∀ b j, b ≠ 58 → d b j = d0 b j) → (∀ j, 0 ≤ j → j < k → d 58 j = 0) → pX4_clear_s_1 k g d Q := by
  intro m
  induction m with
  | zero =>
    intro k d hk hm hf hz
    refine aX4_clear_s_1 ⟨fun _ => h d hf (fun x q => ?_), fun c => absurd (by omega) c⟩
    have h1 := q.1
    have h2 := q.2
    rw [hz (x / 64) (by omega) (by omega), wbit_0] at h2
    cases h2
  | succ m ih =>
    intro k d hk hm hf hz
    refine aX4_clear_s_1 ⟨fun c => absurd c (by omega), fun c => ⟨by omega, ik (by omega), ih (k + 1) _ (by omega) (by omega) (fun b j q => ?_) (fun j q1 q2 => ?_)⟩⟩
    · rw [ud_ne (by omega)]
      exact hf b j q
    · by_cases hj : j = k
      · rw [hj, ud_same]
      · rw [ud_ne (by omega)]
        exact hz j q1 (by omega)
theorem f_clear_s {g : mG} {d : mD} {Q : mQ} (h : ∀ d', (∀ b j, b ≠ 58 → d' b j = d b j) → (∀ x, ¬ mkB (d' 58) x) → Q (.inl 0) g d') : MM mX4_clear [vR 58] g d Q :=
  eX4_clear_s (l_clear_s h 79 0 d (by omega) (by omega) (fun _ _ _ => rfl) (fun j q1 q2 => absurd q1 (by omega)))
/-- one step of marking: the words of the days from k on, one day or a whole word -/
theorem mk_step {f f' : Int → Int} {k a w : Int} (hk : 0 ≤ k ∧ k ≤ 4999) (hw : (w = 64 ∧ k % 64 = 0 ∧ a = -1) ∨ (w = 1 ∧ a = lShl 1 (k % 64))) (h1 : f' (k / 64) = lOr (f (k / 64)) a) (h2 : ∀ j, j ≠ k / 64 → f' j = f j) {x : Int} : mkB f' x ↔ mkB f x ∨ ((0 ≤ x ∧ x ≤ 4999) ∧ k ≤ x ∧ x < k + w) := by
  unfold mkB
  by_cases hx : 0 ≤ x ∧ x ≤ 4999
  · by_cases hd : x / 64 = k / 64
    · rw [hd, h1, wbit_or, Bool.or_eq_true]
      rcases hw with ⟨rfl, hk2, rfl⟩ | ⟨rfl, rfl⟩
      · rw [wbit_m1 (by omega)]
        constructor
        · intro _
          exact Or.inr ⟨hx, by omega, by omega⟩
        · intro _
          exact ⟨hx, Or.inr rfl⟩
      · rw [wbit_shl (by omega), decide_eq_true_iff]
        constructor
        · rintro ⟨_, q | q⟩
          · exact Or.inl ⟨hx, q⟩
          · exact Or.inr ⟨hx, by omega, by omega⟩
        · rintro (q | q)
          · exact ⟨hx, Or.inl q.2⟩
          · exact ⟨hx, Or.inr (by omega)⟩
    · rw [h2 _ hd]
      constructor
      · exact Or.inl
      · rintro (q | ⟨_, q1, q2⟩)
        · exact q
        · rcases hw with ⟨rfl, hk2, -⟩ | ⟨rfl, -⟩ <;> omega
  · constructor
    · rintro ⟨q, -⟩; exact absurd q hx
    · rintro (⟨q, -⟩ | ⟨q, -⟩) <;> exact absurd q hx
theorem l_mark_h {a b : Int} {g : mG} {d0 : mD} {Q : mQ} (hab : 0 ≤ a ∧ b ≤ 4999) (h : ∀ d', (∀ b j, b ≠ 57 → d' b j = d0 b j) → (∀ x, mkB (d' 57) x ↔ mkB (d0 57) x ∨ (a ≤ x ∧ x ≤ b)) → Q (.inl 0) g d') : ∀ (m : Nat) (k : Int) (d : mD), a ≤ k → k ≤ b + 1 ∨ k = a → b + 1 ≤ k + m → (∀ b j, b ≠ 57 → d b j = d0 b j) → (∀ x, mkB (d 57) x ↔ mkB (d0 57) x ∨ (a ≤ x ∧ x < k)) → pX4_mark_h_1 a b k g d Q := by
  have fin : ∀ (k : Int) (d : mD), b < k → a ≤ k → k ≤ b + 1 ∨ k = a → (∀ b j, b ≠ 57 → d b j = d0 b j) → (∀ x, mkB (d 57) x ↔ mkB (d0 57) x ∨ (a ≤ x ∧ x < k)) → Q (.inl 0) g d := by
    intro k d h1 h2 h3 hf hs
    refine h d hf (fun x => ?_)
    rw [hs x]
    constructor <;> (rintro (q | q)) <;> first | exact Or.inl q | exact Or.inr (by omega)
  intro m
  induction m with
  | zero =>
    intro k d hk hk2 hm hf hs
    exact aX4_mark_h_1 ⟨fun c => fin k d c hk hk2 hf hs, fun c => absurd (by omega) c⟩
  | succ m ih =>
    intro k d hk hk2 hm hf hs
    refine aX4_mark_h_1 ⟨fun c => fin k d c hk hk2 hf hs, fun c => ?_⟩
    rcases iT_or (p := (k % 64 = 0) ∧ (¬ (b < (k + 64) - 1))) 64 1 with ⟨hp, e⟩ | ⟨hp, e⟩
    · rw [e, iT_t hp]
      refine ⟨by omega, fun _ => ik (by omega), fun _ => ik (by omega), by omega, ik (by omega), ih (k + 64) _ (by omega) (by omega) (by omega) (fun b j q => ?_) (fun x => ?_)⟩
      · rw [ud_ne (by omega)]
        exact hf b j q
      · rw [mk_step (f := d 57) (k := k) (w := 64) (a := -1) (by omega) (Or.inl ⟨rfl, hp.1, rfl⟩) (ud_same _ _ _ _) (fun j q => ud_ne (by omega)), hs x]
        constructor
        · rintro ((q | q) | q)
          · exact Or.inl q
          · exact Or.inr (by omega)
          · exact Or.inr (by omega)
        · rintro (q | q)
          · exact Or.inl (Or.inl q)
          · by_cases hz : x < k
            · exact Or.inl (Or.inr (by omega))
            · exact Or.inr (by omega)
    · rw [e, iT_f hp]
      refine ⟨by omega, fun _ => ik (by omega), fun _ => ik (by omega), by omega, ik (by omega), ih (k + 1) _ (by omega) (by omega) (by omega) (fun b j q => ?_) (fun x => ?_)⟩
      · rw [ud_ne (by omega)]
        exact hf b j q
      · rw [mk_step (f := d 57) (k := k) (w := 1) (a := lShl 1 (k % 64)) (by omega) (Or.inr ⟨rfl, rfl⟩) (ud_same _ _ _ _) (fun j q => ud_ne (by omega)), hs x]
        constructor
        · rintro ((q | q) | q)
          · exact Or.inl q
          · exact Or.inr (by omega)
          · exact Or.inr (by omega)
        · rintro (q | q)
          · exact Or.inl (Or.inl q)
          · by_cases hz : x < k
            · exact Or.inl (Or.inr (by omega))
            · exact Or.inr (by omega)
theorem f_mark_h {a b : Int} {g : mG} {d : mD} {Q : mQ} (hab : 0 ≤ a ∧ a ≤ 5000 ∧ b ≤ 4999 ∧ -1 ≤ b) (h : ∀ d', (∀ b j, b ≠ 57 → d' b j = d b j) → (∀ x, mkB (d' 57) x ↔ mkB (d 57) x ∨ (a ≤ x ∧ x ≤ b)) → Q (.inl 0) g d') : MM mX4_mark [vR 57, vI a, vI b] g d Q :=
  eX4_mark_h ⟨fun c => absurd c (by omega), fun _ => l_mark_h (by omega) h 5001 a d (by omega) (Or.inr rfl) (by omega) (fun _ _ _ => rfl) (fun x => ⟨Or.inl, fun q => q.elim id (fun z => absurd z (by omega))⟩)⟩
theorem l_mark_s {a b : Int} {g : mG} {d0 : mD} {Q : mQ} (hab : 0 ≤ a ∧ b ≤ 4999) (h : ∀ d', (∀ b j, b ≠ 58 → d' b j = d0 b j) → (∀ x, mkB (d' 58) x ↔ mkB (d0 58) x ∨ (a ≤ x ∧ x ≤ b)) → Q (.inl 0) g d') : ∀ (m : Nat) (k : Int) (d : mD), a ≤ k → k ≤ b + 1 ∨ k = a → b + 1 ≤ k + m → (∀ b j, b ≠ 58 → d b j = d0 b j) → (∀ x, mkB (d 58) x ↔ mkB (d0 58) x ∨ (a ≤ x ∧ x < k)) → pX4_mark_s_1 a b k g d Q := by
  have fin : ∀ (k : Int) (d : mD), b < k → a ≤ k → k ≤ b + 1 ∨ k = a → (∀ b j, b ≠ 58 → d b j = d0 b j) → (∀ x, mkB (d 58) x ↔ mkB (d0 58) x ∨ (a ≤ x ∧ x < k)) → Q (.inl 0) g d := by
    intro k d h1 h2 h3 hf hs
    refine h d hf (fun x => ?_)
    rw [hs x]
    constructor <;> (rintro (q | q)) <;> first | exact Or.inl q | exact Or.inr (by omega)
  intro m
  induction m with
  | zero =>
    intro k d hk hk2 hm hf hs
    exact aX4_mark_s_1 ⟨fun c => fin k d c hk hk2 hf hs, fun c => absurd (by omega) c⟩
  | succ m ih =>
    intro k d hk hk2 hm hf hs
    refine aX4_mark_s_1 ⟨fun c => fin k d c hk hk2 hf hs, fun c => ?_⟩
    rcases iT_or (p := (k % 64 = 0) ∧ (¬ (b < (k + 64) - 1))) 64 1 with ⟨hp, e⟩ | ⟨hp, e⟩
    · rw [e, iT_t hp]
      refine ⟨by omega, fun _ => ik (by omega), fun _ => ik (by omega), by omega, ik (by omega), ih (k + 64) _ (by omega) (by omega) (by omega) (fun b j q => ?_) (fun x => ?_)⟩
      · rw [ud_ne (by omega)]
        exact hf b j q
      · rw [mk_step (f := d 58) (k := k) (w := 64) (a := -1) (by omega) (Or.inl ⟨rfl, hp.1, rfl⟩) (ud_same _ _ _ _) (fun j q => ud_ne (by omega)), hs x]
        constructor
        · rintro ((q | q) | q)
          · exact Or.inl q
          · exact Or.inr (by omega)
          · exact Or.inr (by omega)
        · rintro (q | q)
          · exact Or.inl (Or.inl q)
          · by_cases hz : x < k
            · exact Or.inl (Or.inr (by omega))
            · exact Or.inr (by omega)
    · rw [e, iT_f hp]
      refine ⟨by omega, fun _ => ik (by omega), fun _ => ik (by omega), by omega, ik (by omega), ih (k + 1) _ (by omega) (by omega) (by omega) (fun b j q => ?_) (fun x => ?_)⟩
      · rw [ud_ne (by omega)]
        exact hf b j q
      · rw [mk_step (f := d 58) (k := k) (w := 1) (a := lShl 1 (k % 64)) (by omega) (Or.inr ⟨rfl, rfl⟩) (ud_same _ _ _ _) (fun j q => ud_ne (by omega)), hs x]
        constructor
        · rintro ((q | q) | q)
          · exact Or.inl q
          · exact Or.inr (by omega)
          · exact Or.inr (by omega)
        · rintro (q | q)
          · exact Or.inl (Or.inl q)
          · by_cases hz : x < k
            · exact Or.inl (Or.inr (by omega))
            · exact Or.inr (by omega)
theorem f_mark_s {a b : Int} {g : mG} {d : mD} {Q : mQ} (hab : 0 ≤ a ∧ a ≤ 5000 ∧ b ≤ 4999 ∧ -1 ≤ b) (h : ∀ d', (∀ b j, b ≠ 58 → d' b j = d b j) → (∀ x, mkB (d' 58) x ↔ mkB (d 58) x ∨ (a ≤ x ∧ x ≤ b)) → Q (.inl 0) g d') : MM mX4_mark [vR 58, vI a, vI b] g d Q :=
  eX4_mark_s ⟨fun c => absurd c (by omega), fun _ => l_mark_s (by omega) h 5001 a d (by omega) (Or.inr rfl) (by omega) (fun _ _ _ => rfl) (fun x => ⟨Or.inl, fun q => q.elim id (fun z => absurd z (by omega))⟩)⟩
