-- counting
theorem cnN_add (P : Int → Prop) : ∀ (m n : Nat) (a : Int), cnN P (m + n) a = cnN P m a + cnN P n (a + m)
  | 0, n, a => by
    rw [Nat.zero_add, show a + ((0 : Nat) : Int) = a by omega]
    show cnN P n a = 0 + cnN P n a
    omega
  | m + 1, n, a => by
    rw [show m + 1 + n = (m + n) + 1 by omega]
    show bI (P a) + cnN P (m + n) (a + 1) = bI (P a) + cnN P m (a + 1) + cnN P n (a + ((m + 1 : Nat) : Int))
    rw [cnN_add P m n (a + 1), show a + 1 + (m : Int) = a + ((m + 1 : Nat) : Int) by omega]
    omega
theorem cnN_rng (P : Int → Prop) : ∀ (n : Nat) (a : Int), 0 ≤ cnN P n a ∧ cnN P n a ≤ n
  | 0, a => ⟨by show (0 : Int) ≤ 0; omega, by show (0 : Int) ≤ _; omega⟩
  | n + 1, a => by
    have h := cnN_rng P n (a + 1)
    have hb := @bI_rng (P a)
    show 0 ≤ bI (P a) + cnN P n (a + 1) ∧ bI (P a) + cnN P n (a + 1) ≤ ((n + 1 : Nat) : Int)
    omega
theorem cnN_cg {P Q : Int → Prop} : ∀ (n : Nat) (a : Int), (∀ x, a ≤ x → x < a + n → (P x ↔ Q x)) → cnN P n a = cnN Q n a
  | 0, _, _ => rfl
  | n + 1, a, h => by
    show bI (P a) + cnN P n (a + 1) = bI (Q a) + cnN Q n (a + 1)
    rw [bI_cg (h a (by omega) (by omega)), cnN_cg n (a + 1) (fun x h1 h2 => h x (by omega) (by omega))]
theorem cnN_last (P : Int → Prop) (n : Nat) (a : Int) : cnN P (n + 1) a = cnN P n a + bI (P (a + n)) := by
  rw [cnN_add P n 1 a]
  show _ + (bI _ + 0) = _
  omega
theorem cn_rng {P : Int → Prop} {a b : Int} (h : a ≤ b + 1) : 0 ≤ cn P a b ∧ cn P a b ≤ b - a + 1 := by
  have := cnN_rng P (b - a + 1).toNat a
  unfold cn
  omega
theorem cn_nn {P : Int → Prop} {a b : Int} : 0 ≤ cn P a b := (cnN_rng P _ a).1
theorem cn_empty {P : Int → Prop} {a b : Int} (h : b < a) : cn P a b = 0 := by
  unfold cn
  rw [show (b - a + 1).toNat = 0 by omega]
  rfl
theorem cn_cg {P Q : Int → Prop} {a b : Int} (h : ∀ x, a ≤ x → x ≤ b → (P x ↔ Q x)) : cn P a b = cn Q a b :=
  cnN_cg _ _ (fun x h1 h2 => h x h1 (by omega))
theorem cn_split {P : Int → Prop} {a m b : Int} (h1 : a ≤ m + 1) (h2 : m ≤ b) : cn P a b = cn P a m + cn P (m + 1) b := by
  unfold cn
  rw [show (b - a + 1).toNat = (m - a + 1).toNat + (b - (m + 1) + 1).toNat by omega, cnN_add, show a + ((m - a + 1).toNat : Int) = m + 1 by omega]
theorem cn_one {P : Int → Prop} {a : Int} : cn P a a = bI (P a) := by
  unfold cn
  rw [show (a - a + 1).toNat = 1 by omega]
  show bI (P a) + 0 = _
  omega
theorem cn_last {P : Int → Prop} {a b : Int} (h : a ≤ b) : cn P a b = cn P a (b - 1) + bI (P b) := by
  rw [cn_split (m := b - 1) (by omega) (by omega), show b - 1 + 1 = b by omega, cn_one]
theorem cn_first {P : Int → Prop} {a b : Int} (h : a ≤ b) : cn P a b = bI (P a) + cn P (a + 1) b := by
  rw [cn_split (m := a) (by omega) h, cn_one]
theorem cn_mono {P : Int → Prop} {a b c : Int} (h : b ≤ c) : cn P a b ≤ cn P a c := by
  by_cases hb : b < a
  · rw [cn_empty hb]; exact cn_nn
  · rw [cn_split (m := b) (b := c) (by omega) h]
    have := @cn_nn P (b + 1) c
    omega
theorem cn_all {P : Int → Prop} {a b : Int} (h0 : a ≤ b + 1) (h : ∀ x, a ≤ x → x ≤ b → P x) : cn P a b = b - a + 1 := by
  have key : ∀ (n : Nat) (a : Int), (∀ x, a ≤ x → x < a + n → P x) → cnN P n a = n := by
    intro n
    induction n with
    | zero => intro a _; rfl
    | succ n ih =>
      intro a h
      show bI (P a) + cnN P n (a + 1) = _
      rw [bI_t (h a (by omega) (by omega)), ih (a + 1) (fun x h1 h2 => h x (by omega) (by omega))]
      omega
  unfold cn
  rw [key _ a (fun x h1 h2 => h x h1 (by omega))]
  omega
theorem cn_none {P : Int → Prop} {a b : Int} (h : ∀ x, a ≤ x → x ≤ b → ¬ P x) : cn P a b = 0 := by
  have key : ∀ (n : Nat) (a : Int), (∀ x, a ≤ x → x < a + n → ¬ P x) → cnN P n a = 0 := by
    intro n
    induction n with
    | zero => intro a _; rfl
    | succ n ih =>
      intro a h
      show bI (P a) + cnN P n (a + 1) = _
      rw [bI_f (h a (by omega) (by omega)), ih (a + 1) (fun x h1 h2 => h x (by omega) (by omega))]
      omega
  exact key _ a (fun x h1 h2 => h x h1 (by omega))
theorem nuF_eq {P : Int → Prop} {n : Int} : nuF P n = cnN P n.toNat 0 := by
  unfold nuF cn
  rw [show n - 1 - 0 + 1 = n by omega]
theorem cnN_del {P Q : Int → Prop} {z : Int} (h : ∀ x, P x ↔ (Q x ∧ x ≠ z)) : ∀ (n : Nat) (a : Int), cnN P n a = cnN Q n a - bI (a ≤ z ∧ z < a + n ∧ Q z)
  | 0, a => by
    rw [bI_f (p := a ≤ z ∧ z < a + ((0 : Nat) : Int) ∧ Q z) (by omega)]
    rfl
  | n + 1, a => by
    have ih := cnN_del h n (a + 1)
    show bI (P a) + cnN P n (a + 1) = bI (Q a) + cnN Q n (a + 1) - _
    rw [ih]
    by_cases ha : a = z
    · subst ha
      rw [bI_f (p := P a) (fun q => ((h a).mp q).2 rfl), bI_f (p := a + 1 ≤ a ∧ a < a + 1 + n ∧ Q a) (by omega), bI_cg (p := a ≤ a ∧ a < a + ((n + 1 : Nat) : Int) ∧ Q a) (q := Q a) ⟨fun q => q.2.2, fun q => ⟨by omega, by omega, q⟩⟩]
      omega
    · rw [bI_cg (p := P a) (q := Q a) ⟨fun q => ((h a).mp q).1, fun q => (h a).mpr ⟨q, ha⟩⟩, bI_cg (p := a ≤ z ∧ z < a + ((n + 1 : Nat) : Int) ∧ Q z) (q := a + 1 ≤ z ∧ z < a + 1 + n ∧ Q z) ⟨fun q => ⟨by omega, by omega, q.2.2⟩, fun q => ⟨by omega, by omega, q.2.2⟩⟩]
      omega
theorem cn_del {P Q : Int → Prop} {z a b : Int} (h : ∀ x, P x ↔ (Q x ∧ x ≠ z)) : cn P a b = cn Q a b - bI (a ≤ z ∧ z ≤ b ∧ Q z) := by
  unfold cn
  rw [cnN_del h]
  rw [bI_cg (p := a ≤ z ∧ z < a + ((b - a + 1).toNat : Int) ∧ Q z) (q := a ≤ z ∧ z ≤ b ∧ Q z) ⟨fun q => ⟨q.1, by omega, q.2.2⟩, fun q => ⟨q.1, by omega, q.2.2⟩⟩]
-- the first from a on
theorem fdN_s {P : Int → Prop} {n : Nat} {a : Int} : fdN P (n + 1) a = @ite Int (P a) (Classical.propDecidable _) a (fdN P n (a + 1)) := rfl
theorem fd_here {P : Int → Prop} {a : Int} (h : P a ∨ 5000 ≤ a) : fd P a = a := by
  unfold fd
  by_cases h2 : 5000 ≤ a
  · rw [show (5000 - a).toNat = 0 by omega]; rfl
  · rw [show (5000 - a).toNat = (5000 - a).toNat - 1 + 1 by omega, fdN_s, if_pos (h.resolve_right h2)]
theorem fd_step {P : Int → Prop} {a : Int} (h : ¬ P a) (h2 : a < 5000) : fd P a = fd P (a + 1) := by
  unfold fd
  rw [show (5000 - a).toNat = (5000 - (a + 1)).toNat + 1 by omega, fdN_s, if_neg h]
theorem fd_spec {P : Int → Prop} {a : Int} (ha : a ≤ 5000) : (a ≤ fd P a ∧ fd P a ≤ 5000) ∧ (∀ x, a ≤ x → x < fd P a → ¬ P x) ∧ (fd P a < 5000 → P (fd P a)) := by
  have key : ∀ (n : Nat) (a : Int), a + n = 5000 → (a ≤ fd P a ∧ fd P a ≤ 5000) ∧ (∀ x, a ≤ x → x < fd P a → ¬ P x) ∧ (fd P a < 5000 → P (fd P a)) := by
    intro n
    induction n with
    | zero =>
      intro a h
      rw [fd_here (Or.inr (by omega))]
      exact ⟨by omega, fun x h1 h2 => absurd h1 (by omega), fun h1 => absurd h1 (by omega)⟩
    | succ n ih =>
      intro a h
      by_cases hp : P a
      · rw [fd_here (Or.inl hp)]
        exact ⟨by omega, fun x h1 h2 => absurd h1 (by omega), fun _ => hp⟩
      · rw [fd_step hp (by omega)]
        obtain ⟨h1, h2, h3⟩ := ih (a + 1) (by omega)
        refine ⟨by omega, fun x h4 h5 => ?_, h3⟩
        by_cases hx : x = a
        · rw [hx]; exact hp
        · exact h2 x (by omega) h5
  exact key (5000 - a).toNat a (by omega)
theorem fd_eq {P : Int → Prop} {a e : Int} (h1 : a ≤ e ∧ e ≤ 5000) (h2 : ∀ x, a ≤ x → x < e → ¬ P x) (h3 : e < 5000 → P e) : fd P a = e := by
  obtain ⟨q1, q2, q3⟩ := fd_spec (P := P) (a := a) (by omega)
  by_cases hlt : fd P a < e
  · exact absurd (q3 (by omega)) (h2 _ q1.1 hlt)
  · by_cases hgt : e < fd P a
    · exact absurd (h3 (by omega)) (q2 e h1.1 hgt)
    · omega
theorem fd_cg {P Q : Int → Prop} {a : Int} (ha : a ≤ 5000) (h : ∀ x, a ≤ x → x < 5000 → (P x ↔ Q x)) : fd P a = fd Q a := by
  obtain ⟨q1, q2, q3⟩ := fd_spec (P := Q) (a := a) ha
  exact fd_eq q1 (fun x h1 h2 => fun q => q2 x h1 h2 ((h x h1 (by omega)).mp q)) (fun h1 => (h _ q1.1 h1).mpr (q3 h1))
theorem fd_skip {P : Int → Prop} {a b : Int} (h : a ≤ b ∧ b ≤ 5000) (h2 : ∀ x, a ≤ x → x < b → ¬ P x) : fd P a = fd P b := by
  obtain ⟨q1, q2, q3⟩ := fd_spec (P := P) (a := b) h.2
  refine fd_eq ⟨by omega, q1.2⟩ (fun x h3 h4 => ?_) q3
  by_cases hx : x < b
  · exact h2 x h3 hx
  · exact q2 x (by omega) h4
-- the last up to a
theorem bdN_s {P : Int → Prop} {n : Nat} {a : Int} : bdN P (n + 1) a = @ite Int (P a) (Classical.propDecidable _) a (bdN P n (a - 1)) := rfl
theorem bd_here {P : Int → Prop} {a : Int} (h : P a ∨ a ≤ -1) : bd P a = a := by
  unfold bd
  by_cases h2 : a ≤ -1
  · rw [show (a + 1).toNat = 0 by omega]; rfl
  · rw [show (a + 1).toNat = (a + 1).toNat - 1 + 1 by omega, bdN_s, if_pos (h.resolve_right h2)]
theorem bd_step {P : Int → Prop} {a : Int} (h : ¬ P a) (h2 : 0 ≤ a) : bd P a = bd P (a - 1) := by
  unfold bd
  rw [show (a + 1).toNat = (a - 1 + 1).toNat + 1 by omega, bdN_s, if_neg h]
theorem bd_spec {P : Int → Prop} {a : Int} (ha : -1 ≤ a) : (-1 ≤ bd P a ∧ bd P a ≤ a) ∧ (∀ x, bd P a < x → x ≤ a → ¬ P x) ∧ (0 ≤ bd P a → P (bd P a)) := by
  have key : ∀ (n : Nat) (a : Int), a + 1 = n → (-1 ≤ bd P a ∧ bd P a ≤ a) ∧ (∀ x, bd P a < x → x ≤ a → ¬ P x) ∧ (0 ≤ bd P a → P (bd P a)) := by
    intro n
    induction n with
    | zero =>
      intro a h
      rw [bd_here (Or.inr (by omega))]
      exact ⟨by omega, fun x h1 h2 => absurd h1 (by omega), fun h1 => absurd h1 (by omega)⟩
    | succ n ih =>
      intro a h
      by_cases hp : P a
      · rw [bd_here (Or.inl hp)]
        exact ⟨by omega, fun x h1 h2 => absurd h1 (by omega), fun _ => hp⟩
      · rw [bd_step hp (by omega)]
        obtain ⟨h1, h2, h3⟩ := ih (a - 1) (by omega)
        refine ⟨by omega, fun x h4 h5 => ?_, h3⟩
        by_cases hx : x = a
        · rw [hx]; exact hp
        · exact h2 x h4 (by omega)
  exact key (a + 1).toNat a (by omega)
theorem bd_eq {P : Int → Prop} {a e : Int} (h1 : -1 ≤ e ∧ e ≤ a) (h2 : ∀ x, e < x → x ≤ a → ¬ P x) (h3 : 0 ≤ e → P e) : bd P a = e := by
  obtain ⟨q1, q2, q3⟩ := bd_spec (P := P) (a := a) (by omega)
  by_cases hlt : e < bd P a
  · exact absurd (q3 (by omega)) (h2 _ hlt q1.2)
  · by_cases hgt : bd P a < e
    · exact absurd (h3 (by omega)) (q2 e hgt h1.2)
    · omega
-- holidays
theorem hAtN_spec {R : rW} {x : Int} : ∀ (n : Nat) (k : Int), R 2 ≤ k + n → (hAtN R x n k = -1 ∧ ∀ j, k ≤ j → j < R 2 → R (79 + j) ≠ x) ∨ ((k ≤ hAtN R x n k ∧ hAtN R x n k < R 2) ∧ R (79 + hAtN R x n k) = x)
  | 0, k, h => Or.inl ⟨rfl, fun j h1 h2 => absurd h1 (by omega)⟩
  | n + 1, k, h => by
    rw [hAtN_s]
    by_cases h1 : R 2 ≤ k
    · rw [if_pos h1]
      exact Or.inl ⟨rfl, fun j h3 h4 => absurd h3 (by omega)⟩
    · rw [if_neg h1]
      by_cases h2 : R (79 + k) = x
      · rw [if_pos h2]
        exact Or.inr ⟨by omega, h2⟩
      · rw [if_neg h2]
        rcases hAtN_spec (R := R) (x := x) n (k + 1) (by omega) with ⟨a, b⟩ | ⟨a, b⟩
        · refine Or.inl ⟨a, fun j h3 h4 => ?_⟩
          by_cases hj : j = k
          · rw [hj]; exact h2
          · exact b j (by omega) h4
        · exact Or.inr ⟨by omega, b⟩
theorem hAt_spec {R : rW} {x : Int} (h : R 2 ≤ 40) : (hAt R x = -1 ∧ ∀ j, 0 ≤ j → j < R 2 → R (79 + j) ≠ x) ∨ ((0 ≤ hAt R x ∧ hAt R x < R 2) ∧ R (79 + hAt R x) = x) := hAtN_spec 41 0 (by omega)
def crtK (R : rW) (n x : Int) : Prop := x % 7 < 5 ∧ ∀ j, 0 ≤ j → j < n → R (79 + j) ≠ x
theorem court_K {R : rW} {x : Int} (h : R 2 ≤ 40) : court R x ↔ crtK R (R 2) x := by
  unfold court crtK
  rcases hAt_spec (x := x) h with ⟨a, b⟩ | ⟨a, b⟩
  · exact ⟨fun q => ⟨q.1, b⟩, fun q => ⟨q.1, a⟩⟩
  · exact ⟨fun q => absurd q.2 (by omega), fun q => absurd b (q.2 _ a.1 a.2)⟩
-- weeks
theorem wk7 (a : Int) : cnN (fun x => x % 7 < 5) 7 a = 5 := by
  have e : cnN (fun x => x % 7 < 5) 7 a = bI (a % 7 < 5) + (bI ((a + 1) % 7 < 5) + (bI ((a + 1 + 1) % 7 < 5) + (bI ((a + 1 + 1 + 1) % 7 < 5) + (bI ((a + 1 + 1 + 1 + 1) % 7 < 5) + (bI ((a + 1 + 1 + 1 + 1 + 1) % 7 < 5) + (bI ((a + 1 + 1 + 1 + 1 + 1 + 1) % 7 < 5) + 0)))))) := rfl
  have h0 := bI_or (a % 7 < 5)
  have h1 := bI_or ((a + 1) % 7 < 5)
  have h2 := bI_or ((a + 1 + 1) % 7 < 5)
  have h3 := bI_or ((a + 1 + 1 + 1) % 7 < 5)
  have h4 := bI_or ((a + 1 + 1 + 1 + 1) % 7 < 5)
  have h5 := bI_or ((a + 1 + 1 + 1 + 1 + 1) % 7 < 5)
  have h6 := bI_or ((a + 1 + 1 + 1 + 1 + 1 + 1) % 7 < 5)
  rw [e]
  rcases (show a % 7 = 0 ∨ a % 7 = 1 ∨ a % 7 = 2 ∨ a % 7 = 3 ∨ a % 7 = 4 ∨ a % 7 = 5 ∨ a % 7 = 6 by omega) with h | h | h | h | h | h | h <;> omega
theorem wks (w : Nat) (a : Int) : cnN (fun x => x % 7 < 5) (7 * w) a = 5 * w := by
  induction w generalizing a with
  | zero => rfl
  | succ w ih =>
    rw [show 7 * (w + 1) = 7 + 7 * w by omega, cnN_add, wk7, ih]
    omega
