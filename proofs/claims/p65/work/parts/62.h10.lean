-- depth first
def VP (R : rW) (a V r : Int) : Prop := 0 ≤ r ∧ (∀ b, 0 ≤ b → bitp V b → bitp r b) ∧ bitp r a ∧ (∀ b, 0 ≤ b → bitp r b → bitp V b ∨ conn R a b) ∧ (∀ x, 0 ≤ x → x < R 5 → bitp r x → ¬ bitp V x → ∀ b, 0 ≤ b → linkd R x b → bitp r b) ∧ ∀ b, 0 ≤ b → bitp r b → b < R 5
theorem l_visit1 {R : rW} {g : mG} {d : mD} (hC : CI d R) {n : Nat} {a V dep : Int} {Q : mQ} (ha : 0 ≤ a ∧ a < R 5) (hnV : ¬ bitp V a) (hdep : 0 ≤ dep ∧ dep ≤ 7) (hcv : dep ≤ cn (bitp V) 0 7)
    (hrec : ∀ (k r : Int) (Q' : mQ), 0 ≤ k ∧ k < R 5 → 0 ≤ r → (∀ b, 0 ≤ b → bitp r b → b < R 5) → ¬ bitp r k → dep + 1 ≤ cn (bitp r) 0 7 → (∀ r', VP R k r r' → Q' (.inl r') g d) → MM (mVis n) [vR 46, vI k, vI r, vI (dep + 1)] g d Q')
    (h : ∀ r, VP R a V r → Q (.inl r) g d) : ∀ (m : Nat) (k r : Int), 0 ≤ k → k + m = 8 → 0 ≤ r → (∀ b, 0 ≤ b → bitp V b → bitp r b) → bitp r a → (∀ b, 0 ≤ b → bitp r b → bitp V b ∨ conn R a b) → (∀ x, 0 ≤ x → x < R 5 → bitp r x → ¬ bitp V x → x ≠ a → ∀ b, 0 ≤ b → linkd R x b → bitp r b) → (∀ j, 0 ≤ j → j < k → linkd R a j → bitp r j) → (∀ b, 0 ≤ b → bitp r b → b < R 5) → pX1_visit_1 n a V dep r k g d Q := by
  have hR := hC.w
  have h5 := hR.n.2.2.2.2.2.1
  have hoa := hR.o.1 a ha
  unfold OCW at hoa
  have e46 : d 46 a = R (671 + 5 * a) := (hC.oc.2.1 a ha).2.2.2.2.2.2
  intro m
  induction m with
  | zero =>
    intro k r hk hm hr i1 i2 i3 i4 i5 i6
    refine aX1_visit_1 ⟨fun _ => h r ⟨hr, i1, i2, i3, fun x h1 h2 h3 h4 b hb hl => ?_, i6⟩, fun c => absurd (by omega) c⟩
    by_cases hx : x = a
    · subst hx
      exact i5 b hb (by have := (link_lt hR ha hb hl).1; omega) hl
    · exact i4 x h1 h2 h3 h4 hx b hb hl
  | succ m ih =>
    intro k r hk hm hr i1 i2 i3 i4 i5 i6
    refine aX1_visit_1 ⟨fun c => absurd c (by omega), fun c => ?_⟩
    rw [e46]
    refine ⟨by omega, by omega, by omega, fun _ => hr, fun c2 => ⟨ik (by omega), ?_⟩, fun c2 => ⟨ik (by omega), ih (k + 1) r (by omega) (by omega) hr i1 i2 i3 i4 (fun j q1 q2 q3 => ?_) i6⟩⟩
    · have hl : linkd R a k := c2.1
      have hk5 := (link_lt hR ha hk hl).1
      have hnk : ¬ bitp r k := fun q => by
        unfold bitp at q
        omega
      have hcr : dep + 1 ≤ cn (bitp r) 0 7 := by
        have := cn_lt (P := bitp V) (Q := bitp r) (a := 0) (b := 7) (z := a) (fun x q1 q2 q3 => i1 x q1 q3) (by omega) i2 hnV
        omega
      refine hrec k r _ ⟨hk, hk5⟩ hr i6 hnk hcr (fun r' hv => ?_)
      obtain ⟨v0, v1, v2, v3, v4, v5⟩ := hv
      refine ⟨ik (by omega), ih (k + 1) r' (by omega) (by omega) v0 (fun b hb q => v1 b hb (i1 b hb q)) (v1 a ha.1 i2) (fun b hb q => ?_) (fun x q1 q2 q3 q4 q5 b hb ql => ?_) (fun j q1 q2 q3 => ?_) v5⟩
      · rcases v3 b hb q with z | z
        · exact i3 b hb z
        · exact Or.inr (conn_tr (conn_link hR ha hk hl) z)
      · by_cases hx : bitp r x
        · exact v1 b hb (i4 x q1 q2 hx q4 q5 b hb ql)
        · exact v4 x q1 q2 q3 hx b hb ql
      · by_cases hj : j = k
        · rw [hj]; exact v2
        · exact v1 j q1 (i5 j q1 (by omega) q3)
    · by_cases hj : j = k
      · subst hj
        have : ¬ (r / 2 ^ j.toNat % 2 = 0) := fun z => c2 ⟨q3, z⟩
        unfold bitp
        omega
      · exact i5 j q1 (by omega) q3
theorem l_visit {R : rW} {g : mG} {d : mD} (hC : CI d R) : ∀ (n : Nat) (a V dep : Int) (Q : mQ), 0 ≤ a ∧ a < R 5 → 0 ≤ V → (∀ b, 0 ≤ b → bitp V b → b < R 5) → ¬ bitp V a → n + dep = 8 → 0 ≤ dep → dep ≤ cn (bitp V) 0 7 → (∀ r, VP R a V r → Q (.inl r) g d) → MM (mVis (n + 1)) [vR 46, vI a, vI V, vI dep] g d Q := by
  have hR := hC.w
  have h5 := hR.n.2.2.2.2.2.1
  have hcnt : ∀ a V : Int, 0 ≤ a ∧ a < R 5 → ¬ bitp V a → cn (bitp V) 0 7 ≤ 7 := by
    intro a V ha hn
    have h1 := cn_lt (P := bitp V) (Q := fun _ => True) (a := 0) (b := 7) (z := a) (fun _ _ _ _ => trivial) (by omega) trivial hn
    have h2 := cn_rng (P := fun _ => True) (a := 0) (b := 7) (by omega)
    omega
  intro n
  induction n with
  | zero =>
    intro a V dep Q ha hV hV5 hn hd hd0 hc h
    have := hcnt a V ha hn
    omega
  | succ n ih =>
    intro a V dep Q ha hV hV5 hn hd hd0 hc h
    have h7 := hcnt a V ha hn
    have hp := pow8 (x := a) (by omega)
    have hor : ∀ b, 0 ≤ b → (bitp (nOr V ((1 : Int) * 2 ^ a.toNat)) b ↔ bitp V b ∨ b = a) := fun b hb => by
      rw [bitp_or hV (by omega), bitp_one ha.1 hb]
    refine eX1_visit ⟨fun _ => ⟨by omega, ik (by omega), hV, by omega, ?_⟩, fun c => absurd (by omega) c⟩
    refine l_visit1 hC ha hn (by omega) hc (fun k r Q' hk hr hr5 hnk hcr hq => ih k r (dep + 1) Q' hk hr hr5 hnk (by omega) (by omega) hcr hq) h 8 0 _ (by omega) (by omega) nOr_nn (fun b hb q => (hor b hb).mpr (Or.inl q)) ((hor a ha.1).mpr (Or.inr rfl)) (fun b hb q => ?_) (fun x q1 q2 q3 q4 q5 b hb ql => ?_) (fun j q1 q2 => absurd q1 (by omega)) (fun b hb q => ?_)
    · rcases (hor b hb).mp q with z | z
      · exact Or.inl z
      · rw [z]; exact Or.inr conn_rf
    · rcases (hor x q1).mp q3 with z | z
      · exact absurd z q4
      · exact absurd z q5
    · rcases (hor b hb).mp q with z | z
      · exact hV5 b hb z
      · omega
theorem f_isReached {x1 x2 : Int} {R : rW} {g : mG} {d : mD} {Q : mQ} (h : CI d R ∧ (0 ≤ x1 ∧ x1 < R 5) ∧ (0 ≤ x2 ∧ x2 < R 5) ∧ Q (.inl (bI (conn R x1 x2))) g d) : MM mX1_isReached [vR 33, vI x1, vI x2] g d Q := by
  obtain ⟨hC, h1, h2, hq⟩ := h
  have hR := hC.w
  have h5 := hR.n.2.2.2.2.2.1
  refine eX1_isReached (l_visit hC 8 x1 0 0 _ h1 (by omega) (fun b _ z => absurd z bitp_0) bitp_0 (by omega) (by omega) cn_nn (fun r hv => ?_))
  obtain ⟨v0, v1, v2, v3, v4, v5⟩ := hv
  refine ⟨v0, by omega, ?_⟩
  have e : (r / 2 ^ x2.toNat % 2 = 1) ↔ conn R x1 x2 := by
    constructor
    · intro z
      rcases v3 x2 h2.1 z with q | q
      · exact absurd q bitp_0
      · exact q
    · rintro ⟨n, hn⟩
      exact clsd_conn (S := bitp r) (fun j b q1 q2 q3 q4 q5 => v4 j q1 q2 q4 bitp_0 b q3 q5) n h1 v2 hn
  rw [bI_cg e]
  exact hq
theorem f_append_b {x1 : Int} {g : mG} {d : mD} {Q : mQ} (h : (0 ≤ d 1 1 ∧ d 1 1 < 60) ∧ (0 ≤ x1 ∧ x1 ≤ 65535) ∧ Q (.inl 0) g (ud (ud d 2 (d 1 1) x1) 1 1 ((d 1 1) + 1))) : MM mX9_append [vR 1, vI x1] g d Q := by
  obtain ⟨h1, h2, h3⟩ := h
  exact eX9_append_b ⟨fun c => absurd c (by omega), fun c => ⟨by omega, h2, ik (by omega), h3⟩⟩
theorem f_append_l {x1 : Int} {g : mG} {d : mD} {Q : mQ} (h : (0 ≤ d 3 1 ∧ d 3 1 < 60) ∧ (0 ≤ x1 ∧ x1 ≤ 65535) ∧ Q (.inl 0) g (ud (ud d 4 (d 3 1) x1) 3 1 ((d 3 1) + 1))) : MM mX9_append [vR 3, vI x1] g d Q := by
  obtain ⟨h1, h2, h3⟩ := h
  exact eX9_append_l ⟨fun c => absurd c (by omega), fun c => ⟨by omega, h2, ik (by omega), h3⟩⟩
