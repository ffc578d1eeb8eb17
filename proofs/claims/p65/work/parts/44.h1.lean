-- readers
theorem RW.p {R : rW} (h : RW R) : RWp R := h.2.1
theorem RW.hd {R : rW} (h : RW R) : RWh R := h.2.2.1
theorem RW.r {R : rW} (h : RW R) : RWr R := h.2.2.2.1
theorem RW.dl {R : rW} (h : RW R) {i : Int} (hi : 0 ≤ i ∧ i < R 3) : DLW R i := h.2.2.2.2.1 i hi
theorem RW.s {R : rW} (h : RW R) : RWs R := h.2.2.2.2.2.1
theorem RW.o {R : rW} (h : RW R) : RWo R := h.2.2.2.2.2.2.1
theorem RW.c {R : rW} (h : RW R) {c : Int} (hc : 0 ≤ c ∧ c < R 6) : CLW R c := h.2.2.2.2.2.2.2 c hc
theorem CI.w {d : mD} {R : rW} (h : CI d R) : RW R := h.1
theorem CI.cal {d : mD} {R : rW} (h : CI d R) : SCal d R := h.2.1
theorem CI.par {d : mD} {R : rW} (h : CI d R) : SPar d R := h.2.2.1
theorem CI.rul {d : mD} {R : rW} (h : CI d R) : SRul d R := h.2.2.2.1
theorem CI.dl {d : mD} {R : rW} (h : CI d R) : SDl d R := h.2.2.2.2.1
theorem CI.st {d : mD} {R : rW} (h : CI d R) : SSt d R := h.2.2.2.2.2.1
theorem CI.oc {d : mD} {R : rW} (h : CI d R) : SOc d R := h.2.2.2.2.2.2.1
theorem CI.cm {d : mD} {R : rW} (h : CI d R) : SCm d R := h.2.2.2.2.2.2.2
theorem ex_step {P : Int → Prop} {k m : Int} (h : ¬ P k) : (∃ j, k ≤ j ∧ j < m ∧ P j) ↔ ∃ j, k + 1 ≤ j ∧ j < m ∧ P j := by
  constructor
  · rintro ⟨j, a, b, c⟩
    refine ⟨j, ?_, b, c⟩
    have : j ≠ k := fun q => h (q ▸ c)
    omega
  · rintro ⟨j, a, b, c⟩
    exact ⟨j, by omega, b, c⟩
-- the model: court days, stopped days
-- parts
theorem sv_rng (R : rW) (i : Int) : 0 ≤ svF R i ∧ svF R i ≤ 1 := bI_rng
theorem parts_rng {R : rW} (h : RW R) {i : Int} (hi : 0 ≤ i ∧ i < R 3) : 1 ≤ partsF R i ∧ partsF R i ≤ 7 := by
  have hd := h.dl hi
  unfold DLW at hd
  have := sv_rng R i
  unfold partsF
  omega
theorem plen_rng {R : rW} (h : RW R) {i q : Int} (hi : 0 ≤ i ∧ i < R 3) (hq : 0 ≤ q ∧ q < partsF R i) : 1 ≤ plenF R i q ∧ plenF R i q ≤ 200 := by
  have hd := h.dl hi
  unfold DLW at hd
  obtain ⟨-, -, -, h4, -, h6, -, -, -, h10, -, h12⟩ := hd
  unfold partsF at hq
  unfold plenF
  rcases iT_or (p := q = 0) (R (142 + 16 * i)) (iT (q - 1 - svF R i < 0) (R (144 + 16 * i)) (R (150 + 16 * i + (q - 1 - svF R i)))) with ⟨_, e⟩ | ⟨hq0, e⟩
  · rw [e]; exact h4
  · rw [e]
    have hs := bI_or (0 < R (144 + 16 * i))
    rcases iT_or (p := q - 1 - svF R i < 0) (R (144 + 16 * i)) (R (150 + 16 * i + (q - 1 - svF R i))) with ⟨hc, e2⟩ | ⟨hc, e2⟩
    · rw [e2]
      unfold svF at hc
      rcases hs with ⟨a, b⟩ | ⟨a, b⟩ <;> rw [b] at hc <;> omega
    · rw [e2]
      have := h12 (q - 1 - svF R i) ⟨by omega, by omega⟩
      omega
theorem sv_eq {R : rW} {i : Int} : bI (¬ (R (144 + 16 * i) ≤ 0)) = svF R i := bI_cg ⟨fun q => by omega, fun q => by omega⟩
-- what is granted
theorem gr_rng {R : rW} (h : RW R) {i : Int} (hi : 0 ≤ i ∧ i < R 3) : ∀ n : Nat, (n : Int) ≤ R (146 + 16 * i) → n ≤ grN R i n ∧ grN R i n ≤ 100 * n := by
  have hd := h.dl hi
  unfold DLW at hd
  obtain ⟨-, -, -, -, -, -, -, -, -, h10, -, h12⟩ := hd
  intro n
  induction n with
  | zero => intro _; exact ⟨by simp [grN], by simp [grN]⟩
  | succ n ih =>
    intro hn
    have := ih (by omega)
    have h2 := h12 n (by omega)
    have e : grN R i (n + 1) = grN R i n + R (150 + 16 * i + n) := rfl
    omega
-- stays and claims are put down
-- names
