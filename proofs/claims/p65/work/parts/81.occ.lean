-- occurrences
def ocR (R : rW) (x y : Int) : rW := up (up (up (up (up (up R (667 + 5 * R 5) x) (668 + 5 * R 5) y) (669 + 5 * R 5) (R (119 + 2 * y))) (670 + 5 * R 5) (R (120 + 2 * y))) (671 + 5 * R 5) 0) 5 (R 5 + 1)
theorem ocR_ne {R : rW} {x y j : Int} (q : ¬ j = 5) (q2 : ¬ (667 + 5 * R 5 ≤ j ∧ j ≤ 671 + 5 * R 5)) : ocR R x y j = R j := by
  unfold ocR
  repeat rw [up_n (by omega)]
theorem ocR_5 {R : rW} {x y : Int} : ocR R x y 5 = R 5 + 1 := up_s
theorem ocR_a {R : rW} {x y : Int} (h : 0 ≤ R 5) : ocR R x y (667 + 5 * R 5) = x ∧ ocR R x y (668 + 5 * R 5) = y ∧ ocR R x y (669 + 5 * R 5) = R (119 + 2 * y) ∧ ocR R x y (670 + 5 * R 5) = R (120 + 2 * y) ∧ ocR R x y (671 + 5 * R 5) = 0 := by
  unfold ocR
  refine ⟨?_, ?_, ?_, ?_, ?_⟩
  · rw [up_n (by omega), up_n (by omega), up_n (by omega), up_n (by omega), up_n (by omega), up_s]
  · rw [up_n (by omega), up_n (by omega), up_n (by omega), up_n (by omega), up_s]
  · rw [up_n (by omega), up_n (by omega), up_n (by omega), up_s]
  · rw [up_n (by omega), up_n (by omega), up_s]
  · rw [up_n (by omega), up_s]
noncomputable def st_occ (R : rW) (x y : Int) : Int × rW := sO (0 ≤ x ∧ x ≤ R 0) (sO (0 ≤ y ∧ y < 8) (sO (R 5 < 8) (R 5, ocR R x y) (-3, R)) (-1, R)) (-2, R)
theorem w_occ {R : rW} {x y : Int} (hR : RW R) (hx : 0 ≤ x ∧ x ≤ R 0) (hy : 0 ≤ y ∧ y < 8) (h5 : R 5 < 8) : RW (ocR R x y) := by
  have n5 := hR.n.2.2.2.2.2.1
  have hr := hR.r.1 y hy
  obtain ⟨s1, s2, s3, s4, s5⟩ := ocR_a (R := R) (x := x) (y := y) n5.1
  have e0 : ocR R x y 0 = R 0 := ocR_ne (by omega) (by omega)
  refine hR.gocs (fun j q => ocR_ne (by omega) (by omega)) (by rw [ocR_5]; omega) ⟨fun o ho => ?_, fun j k q1 q2 q3 => ?_⟩
  · rw [ocR_5] at ho
    unfold OCW
    rw [e0]
    by_cases c : o = R 5
    · subst c
      rw [s1, s2, s3, s4, s5]
      exact ⟨hx, hy, hr.1, hr.2, by decide⟩
    · rw [ocR_ne (by omega) (by omega), ocR_ne (by omega) (by omega), ocR_ne (by omega) (by omega), ocR_ne (by omega) (by omega), ocR_ne (by omega) (by omega)]
      exact hR.o.1 o (by omega)
  · rw [ocR_5] at q1 ⊢
    by_cases c : j = R 5
    · subst c
      rw [s5] at q3
      exact absurd q3 bitp_0
    · rw [ocR_ne (by omega) (by omega)] at q3
      obtain ⟨r1, r2, r3⟩ := hR.o.2 j k (by omega) q2 q3
      rw [ocR_ne (by omega) (by omega)]
      exact ⟨by omega, r2, r3⟩
theorem connN_occ {R : rW} {x y : Int} (hR : RW R) (h5 : R 5 < 8) : ∀ (n : Nat) (a b : Int), 0 ≤ a → a < R 5 → (connN (ocR R x y) n a b ↔ connN R n a b) := by
  have n5 := hR.n.2.2.2.2.2.1
  intro n
  induction n with
  | zero => intro a b _ _; exact Iff.rfl
  | succ n ih =>
    intro a b h1 h2
    show (a = b ∨ ∃ c, 0 ≤ c ∧ c < ocR R x y 5 ∧ bitp (ocR R x y (671 + 5 * a)) c ∧ connN (ocR R x y) n c b) ↔ (a = b ∨ ∃ c, 0 ≤ c ∧ c < R 5 ∧ bitp (R (671 + 5 * a)) c ∧ connN R n c b)
    rw [ocR_5, ocR_ne (by omega) (by omega)]
    constructor
    · rintro (p | ⟨c, c1, c2, c3, c4⟩)
      · exact Or.inl p
      · have hc := (hR.o.2 a c ⟨h1, h2⟩ ⟨c1, by omega⟩ c3).1
        exact Or.inr ⟨c, c1, hc, c3, (ih c b c1 hc).1 c4⟩
    · rintro (p | ⟨c, c1, c2, c3, c4⟩)
      · exact Or.inl p
      · exact Or.inr ⟨c, c1, by omega, c3, (ih c b c1 c2).2 c4⟩
theorem conn_occ {R : rW} {x y : Int} (hR : RW R) (h5 : R 5 < 8) {a b : Int} (h1 : 0 ≤ a) (h2 : a < R 5) : conn (ocR R x y) a b ↔ conn R a b :=
  ⟨fun ⟨n, h⟩ => ⟨n, (connN_occ hR h5 n a b h1 h2).1 h⟩, fun ⟨n, h⟩ => ⟨n, (connN_occ hR h5 n a b h1 h2).2 h⟩⟩
theorem conn_new {R : rW} {x y b : Int} (hR : RW R) : conn (ocR R x y) (R 5) b ↔ R 5 = b := by
  have n5 := hR.n.2.2.2.2.2.1
  have s5 := (ocR_a (R := R) (x := x) (y := y) n5.1).2.2.2.2
  constructor
  · rintro ⟨n, h⟩
    cases n with
    | zero => exact h
    | succ n =>
      rcases h with p | ⟨c, _, _, c3, _⟩
      · exact p
      · unfold linkd at c3
        rw [s5] at c3
        exact absurd c3 bitp_0
  · intro h; subst h; exact conn_rf
theorem conn_rng {R : rW} : ∀ (n : Nat) (a b : Int), 0 ≤ a → a < R 5 → connN R n a b → 0 ≤ b ∧ b < R 5 := by
  intro n
  induction n with
  | zero => intro a b h1 h2 h; have h' : a = b := h; omega
  | succ n ih =>
    intro a b h1 h2 h
    rcases h with p | ⟨c, c1, c2, _, c4⟩
    · omega
    · exact ih c b c1 c2 c4
theorem c_occ {d d' : mD} {R : rW} {x y : Int} (hC : CI d R) (hx : 0 ≤ x ∧ x ≤ R 0) (hy : 0 ≤ y ∧ y < 8) (h5 : R 5 < 8)
    (q : ∀ k j : Int, ¬ (34 ≤ k ∧ k ≤ 47) → d' k j = d k j) (q2 : ∀ k j : Int, 35 ≤ k → k ≤ 47 → k ≠ 40 → j ≠ R 5 → d' k j = d k j) (q3 : ∀ j, j ≠ R 5 * 7 + 0 → d' 40 j = d 40 j)
    (a34 : d' 34 11 = R 5 + 1) (a35 : d' 35 (R 5) = -1) (a36 : d' 36 (R 5) = y) (a37 : d' 37 (R 5) = x) (a38 : d' 38 (R 5) = R (120 + 2 * y)) (a39 : d' 39 (R 5) = 1) (a40 : d' 40 (R 5 * 7 + 0) = R (119 + 2 * y)) (a46 : d' 46 (R 5) = 0) (a47 : d' 47 (R 5) = R 5) : CI d' (ocR R x y) := by
  have hR := hC.w
  have n5 := hR.n.2.2.2.2.2.1
  obtain ⟨s1, s2, s3, s4, s5⟩ := ocR_a (R := R) (x := x) (y := y) n5.1
  obtain ⟨h1, h2, h3, h4⟩ := hC.oc
  refine hC.gocs (w_occ hR hx hy h5) (fun j q => ocR_ne (by omega) (by omega)) (fun k j _ _ p => q k j p) ⟨by rw [a34, ocR_5], fun o ho => ?_, fun o ho => ?_, fun a b ha hb => ?_⟩
  · rw [ocR_5] at ho
    by_cases c : o = R 5
    · subst c
      rw [s1, s2, s3, s4, s5, a35, a36, a37, a38, a39, a46, show R 5 * 7 = R 5 * 7 + 0 by omega, a40]
      exact ⟨rfl, rfl, rfl, rfl, rfl, rfl, rfl⟩
    · rw [ocR_ne (by omega) (by omega), ocR_ne (by omega) (by omega), ocR_ne (by omega) (by omega), ocR_ne (by omega) (by omega), ocR_ne (by omega) (by omega), q2 35 o (by decide) (by decide) (by decide) c, q2 36 o (by decide) (by decide) (by decide) c, q2 37 o (by decide) (by decide) (by decide) c, q2 38 o (by decide) (by decide) (by decide) c, q2 39 o (by decide) (by decide) (by decide) c, q3 _ (by omega), q2 46 o (by decide) (by decide) (by decide) c]
      exact h2 o (by omega)
  · rw [ocR_5] at ho
    by_cases c : o = R 5
    · subst c
      rw [a47]
      exact ⟨n5.1, Int.le_refl _, conn_rf⟩
    · rw [q2 47 o (by decide) (by decide) (by decide) c, conn_occ hR h5 ho.1 (by omega)]
      exact h3 o (by omega)
  · rw [ocR_5] at ha hb
    by_cases c : a = R 5
    · subst c
      rw [a47, conn_new hR]
      by_cases c2 : b = R 5
      · subst c2; rw [a47]
      · rw [q2 47 b (by decide) (by decide) (by decide) c2]
        have := h3 b (by omega)
        constructor <;> omega
    · rw [q2 47 a (by decide) (by decide) (by decide) c, conn_occ hR h5 ha.1 (by omega)]
      by_cases c2 : b = R 5
      · subst c2
        rw [a47]
        have := h3 a (by omega)
        constructor
        · intro p; omega
        · rintro ⟨n, p⟩
          have := conn_rng n a (R 5) ha.1 (by omega) p
          omega
      · rw [q2 47 b (by decide) (by decide) (by decide) c2]
        exact h4 a b (by omega) (by omega)
theorem t_occ {x y : Int} {R : rW} {g : mG} {d : mD} {Q : mQ} (hC : CI d R) (h : HT (st_occ R x y) d g Q) : MM mX11_tryAddOccurrence [vR 0, vI x, vI y] g d Q := by
  have hR := hC.w
  have n5 := hR.n.2.2.2.2.2.1
  have e0 := hC.cal.1
  have e5 := hC.oc.1
  refine eX11_tryAddOccurrence ⟨fun c => h.e hC (sO_f (by omega)), fun c => ⟨fun c2 => ⟨fun c3 => ⟨fun _ => ⟨fun _ => ?_, fun c4 => absurd c4 (by omega)⟩, fun c4 => absurd c3 c4⟩, fun c3 => h.e hC ?_⟩, fun c2 => h.e hC ?_⟩⟩
  · have hr := hC.rul.1 y (by omega)
    have hb := (hR.r.1 y (by omega)).2
    rw [e5] at c3
    rw [e5, hr.1, hr.2, ud_same]
    refine ⟨by omega, by omega, by omega, ik (by omega), by omega, by decide, by omega, ?_⟩
    refine h.v (R := ocR R x y) ?_ (fun b j q => by repeat rw [ud_ne (by omega)]) ?_
    · unfold st_occ
      rw [sO_t (by omega), sO_t (by omega), sO_t c3]
    · refine c_occ hC (by omega) (by omega) c3 (fun k j q => by repeat rw [ud_ne (by omega)]) (fun k j q1 q2 q3 q4 => by repeat rw [ud_ne (by omega)]) (fun j q => by repeat rw [ud_ne (by omega)]) ?_ ?_ ?_ ?_ ?_ ?_ ?_ ?_ ?_
      · repeat rw [ud_ne (by omega)]
        rw [ud_same]
      · repeat rw [ud_ne (by omega)]
        rw [ud_same]
      · repeat rw [ud_ne (by omega)]
        rw [ud_same]
      · repeat rw [ud_ne (by omega)]
        rw [ud_same]
      · repeat rw [ud_ne (by omega)]
        rw [ud_same]
      · rw [ud_ne (by omega), ud_ne (by omega), ud_same]; rfl
      · repeat rw [ud_ne (by omega)]
        rw [ud_same]
      · repeat rw [ud_ne (by omega)]
        rw [ud_same]
      · rw [ud_same]
  · unfold st_occ
    rw [sO_t (by omega), sO_t (by omega), sO_f (by omega)]
  · unfold st_occ
    rw [sO_t (by omega), sO_f (by omega)]
