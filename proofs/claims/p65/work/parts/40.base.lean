abbrev rW : Type := Int → Int
noncomputable def bI (p : Prop) : Int := @ite Int p (Classical.propDecidable p) 1 0
noncomputable def iT (p : Prop) (a b : Int) : Int := @ite Int p (Classical.propDecidable p) a b
theorem bI_t {p : Prop} (h : p) : bI p = 1 := if_pos h
theorem bI_f {p : Prop} (h : ¬ p) : bI p = 0 := if_neg h
theorem iT_t {p : Prop} {a b : Int} (h : p) : iT p a b = a := if_pos h
theorem iT_f {p : Prop} {a b : Int} (h : ¬ p) : iT p a b = b := if_neg h
theorem bI_0 {p : Prop} : bI p = 0 ↔ ¬ p := by
  constructor
  · intro h q
    rw [bI_t q] at h
    exact absurd h (by decide)
  · exact bI_f
theorem bI_1 {p : Prop} : bI p = 1 ↔ p := by
  constructor
  · intro h
    refine Classical.byContradiction fun q => ?_
    rw [bI_f q] at h
    exact absurd h (by decide)
  · exact bI_t
theorem bI_n0 {p : Prop} : ¬ (bI p = 0) ↔ p := by
  rw [bI_0]
  exact Classical.not_not
theorem bI_rng {p : Prop} : 0 ≤ bI p ∧ bI p ≤ 1 := by
  by_cases h : p
  · rw [bI_t h]; decide
  · rw [bI_f h]; decide
theorem bI_cg {p q : Prop} (h : p ↔ q) : bI p = bI q := by rw [propext h]
theorem iT_cg {p q : Prop} {a b : Int} (h : p ↔ q) : iT p a b = iT q a b := by rw [propext h]
theorem iT_or {p : Prop} (a b : Int) : (p ∧ iT p a b = a) ∨ (¬ p ∧ iT p a b = b) := by
  by_cases h : p
  · exact Or.inl ⟨h, iT_t h⟩
  · exact Or.inr ⟨h, iT_f h⟩
theorem bI_or (p : Prop) : (p ∧ bI p = 1) ∨ (¬ p ∧ bI p = 0) := by
  by_cases h : p
  · exact Or.inl ⟨h, bI_t h⟩
  · exact Or.inr ⟨h, bI_f h⟩
theorem mw_st {M : mM} {bc bs pc : Nat} {L : List (Nat × mV)} {S : List mV} {g : mG} {d : mD} {Q : mQ} {t : Nat} {a b : Int} (e : a = b) (k0 : MW M bc bs pc L ((t, b) :: S) g d Q) : MW M bc bs pc L ((t, a) :: S) g d Q := by
  rw [e]
  exact k0
theorem mw_dd {M : mM} {bc bs pc : Nat} {L : List (Nat × mV)} {S : List mV} {g : mG} {a b : mD} {Q : mQ} (e : a = b) (k0 : MW M bc bs pc L S g b Q) : MW M bc bs pc L S g a Q := by
  rw [e]
  exact k0
theorem udA {d : mD} {a i v b j x : Int} (h : ¬ b = a) (k : d b j = x) : ud d a i v b j = x := (if_neg (fun q => h q.1)).trans k
theorem udI {d : mD} {a i v b j x : Int} (h : ¬ j = i) (k : d b j = x) : ud d a i v b j = x := (if_neg (fun q => h q.2)).trans k
theorem udS {d : mD} {a i v : Int} : ud d a i v a i = v := if_pos ⟨rfl, rfl⟩
theorem cpA {d : mD} {a b sp dp n c j x : Int} (h : ¬ c = b) (k : d c j = x) : cpy d a b sp dp n c j = x := (if_neg (fun q => h q.1)).trans k
theorem MM.eqd {M : mM} {A : List mV} {g : mG} {d d' : mD} {Q : mQ} (e : d = d') (k : MM M A g d' Q) : MM M A g d Q := e ▸ k
