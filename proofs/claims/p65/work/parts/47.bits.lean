-- bits of plain numbers
theorem pow_cast (n : Nat) : (2 : Int) ^ n = ((2 ^ n : Nat) : Int) := by
  rw [Int.natCast_pow]
  rfl
theorem bitp_nat {s k : Int} (hs : 0 ≤ s) : bitp s k ↔ s.toNat.testBit k.toNat = true := by
  rw [Nat.testBit_eq_decide_div_mod_eq, decide_eq_true_iff]
  unfold bitp
  obtain ⟨n, rfl⟩ := Int.eq_ofNat_of_zero_le hs
  rw [pow_cast, Int.toNat_natCast]
  constructor
  · intro h; exact_mod_cast h
  · intro h; exact_mod_cast h
theorem bitp_or {a b k : Int} (ha : 0 ≤ a) (hb : 0 ≤ b) : bitp (nOr a b) k ↔ bitp a k ∨ bitp b k := by
  rw [bitp_nat nOr_nn, bitp_nat ha, bitp_nat hb]
  unfold nOr
  rw [Int.toNat_natCast, Nat.testBit_or, Bool.or_eq_true]
theorem bitp_one {a b : Int} (ha : 0 ≤ a) (hb : 0 ≤ b) : bitp (1 * 2 ^ a.toNat) b ↔ b = a := by
  rw [Int.one_mul, pow_cast, bitp_nat (Int.natCast_nonneg _), Int.toNat_natCast, Nat.testBit_two_pow, decide_eq_true_iff]
  omega
theorem bitp_0 {k : Int} : ¬ bitp 0 k := by
  unfold bitp
  rw [Int.zero_ediv]
  decide
theorem bitp_lt {s k : Int} (hs : 0 ≤ s ∧ s < 256) (hk : 8 ≤ k) : ¬ bitp s k := by
  rw [bitp_nat hs.1, Nat.testBit_lt_two_pow]
  · decide
  · have : (2 : Nat) ^ 8 ≤ 2 ^ k.toNat := Nat.pow_le_pow_right (by decide) (by omega)
    have h2 : (2 : Nat) ^ 8 = 256 := by decide
    omega
theorem cn_sub {P Q : Int → Prop} {a b : Int} (h : ∀ x, a ≤ x → x ≤ b → P x → Q x) : cn P a b ≤ cn Q a b := by
  have key : ∀ (n : Nat) (a : Int), (∀ x, a ≤ x → x < a + n → P x → Q x) → cnN P n a ≤ cnN Q n a := by
    intro n
    induction n with
    | zero => intro a _; exact Int.le_refl _
    | succ n ih =>
      intro a h
      have h1 := ih (a + 1) (fun x h1 h2 => h x (by omega) (by omega))
      have h2 : bI (P a) ≤ bI (Q a) := by
        by_cases hp : P a
        · rw [bI_t hp, bI_t (h a (by omega) (by omega) hp)]; omega
        · rw [bI_f hp]; exact bI_rng.1
      show bI (P a) + cnN P n (a + 1) ≤ bI (Q a) + cnN Q n (a + 1)
      omega
  exact key _ a (fun x h1 h2 => h x h1 (by omega))
theorem cn_lt {P Q : Int → Prop} {a b z : Int} (h : ∀ x, a ≤ x → x ≤ b → P x → Q x) (hz : a ≤ z ∧ z ≤ b) (hq : Q z) (hp : ¬ P z) : cn P a b + 1 ≤ cn Q a b := by
  have h1 := cn_del (P := fun x => Q x ∧ x ≠ z) (Q := Q) (z := z) (a := a) (b := b) (fun x => Iff.rfl)
  rw [bI_t ⟨hz.1, hz.2, hq⟩] at h1
  have h2 := cn_sub (P := P) (Q := fun x => Q x ∧ x ≠ z) (a := a) (b := b) (fun x h3 h4 h5 => ⟨h x h3 h4 h5, fun e => hp (e ▸ h5)⟩)
  omega
-- links
theorem link_lt {R : rW} (hR : RW R) {j b : Int} (hj : 0 ≤ j ∧ j < R 5) (hb : 0 ≤ b) (h : linkd R j b) : b < R 5 ∧ b ≠ j ∧ linkd R b j := by
  have ho := hR.o.1 j hj
  unfold OCW at ho
  by_cases h8 : b < 8
  · exact hR.o.2 j b hj ⟨hb, h8⟩ h
  · exact absurd h (bitp_lt (by omega) (by omega))
def clsd (R : rW) (S : Int → Prop) : Prop := ∀ j b, 0 ≤ j → j < R 5 → 0 ≤ b → S j → linkd R j b → S b
theorem conn_rf {R : rW} {a : Int} : conn R a a := ⟨0, rfl⟩
theorem connN_tr {R : rW} : ∀ (n : Nat) {a b c : Int}, connN R n a b → conn R b c → conn R a c
  | 0, a, b, c, h, h2 => by
    have e : a = b := h
    rw [e]; exact h2
  | n + 1, a, b, c, h, h2 => by
    rcases h with e | ⟨z, hz1, hz2, hl, hn⟩
    · rw [e]; exact h2
    · obtain ⟨m, hm⟩ := connN_tr n hn h2
      exact ⟨m + 1, Or.inr ⟨z, hz1, hz2, hl, hm⟩⟩
theorem conn_tr {R : rW} {a b c : Int} (h : conn R a b) (h2 : conn R b c) : conn R a c := h.elim fun n hn => connN_tr n hn h2
theorem conn_link {R : rW} (hR : RW R) {a b : Int} (ha : 0 ≤ a ∧ a < R 5) (hb : 0 ≤ b) (h : linkd R a b) : conn R a b :=
  ⟨1, Or.inr ⟨b, hb, (link_lt hR ha hb h).1, h, rfl⟩⟩
theorem connN_sy {R : rW} (hR : RW R) : ∀ (n : Nat) {a b : Int}, 0 ≤ a ∧ a < R 5 → connN R n a b → conn R b a
  | 0, a, b, _, h => by
    have e : a = b := h
    rw [e]; exact conn_rf
  | n + 1, a, b, ha, h => by
    rcases h with e | ⟨z, hz1, hz2, hl, hn⟩
    · rw [e]; exact conn_rf
    · exact conn_tr (connN_sy hR n ⟨hz1, hz2⟩ hn) (conn_link hR ⟨hz1, hz2⟩ ha.1 (link_lt hR ha hz1 hl).2.2)
theorem conn_sy {R : rW} (hR : RW R) {a b : Int} (ha : 0 ≤ a ∧ a < R 5) (h : conn R a b) : conn R b a := h.elim fun n hn => connN_sy hR n ha hn
theorem clsd_conn {R : rW} {S : Int → Prop} (h : clsd R S) : ∀ (n : Nat) {a b : Int}, 0 ≤ a ∧ a < R 5 → S a → connN R n a b → S b
  | 0, a, b, _, hs, e => by
    have e' : a = b := e
    rw [← e']; exact hs
  | n + 1, a, b, ha, hs, e => by
    rcases e with e' | ⟨z, hz1, hz2, hl, hn⟩
    · rw [← e']; exact hs
    · exact clsd_conn h n ⟨hz1, hz2⟩ (h a z ha.1 ha.2 hz1 hs hl) hn
theorem conn_clsd {R : rW} (hR : RW R) {a : Int} : clsd R (conn R a) := fun j b hj1 hj2 hb hs hl => conn_tr hs (conn_link hR ⟨hj1, hj2⟩ hb hl)
theorem cdI_spec {R : rW} (hR : RW R) : ∀ (n : Nat) (k s : Int), 0 ≤ k → R 5 ≤ k + n → 0 ≤ s →
    0 ≤ cdI R n k s ∧ (∀ b, 0 ≤ b → bitp s b → bitp (cdI R n k s) b) ∧ (∀ j, k ≤ j → j < R 5 → bitp s j → ∀ b, 0 ≤ b → linkd R j b → bitp (cdI R n k s) b) ∧
    ∀ S : Int → Prop, clsd R S → (∀ b, 0 ≤ b → bitp s b → S b) → ∀ b, 0 ≤ b → bitp (cdI R n k s) b → S b := by
  intro n
  induction n with
  | zero => exact fun k s hk hn hs => ⟨hs, fun b _ h => h, fun j h1 h2 => absurd h1 (by omega), fun S _ h => h⟩
  | succ n ih =>
    intro k s hk hn hs
    by_cases hc : R 5 ≤ k
    · rw [show cdI R (n + 1) k s = s from if_pos hc]
      exact ⟨hs, fun b _ h => h, fun j h1 h2 => absurd h1 (by omega), fun S _ h => h⟩
    · rw [show cdI R (n + 1) k s = cdI R n (k + 1) (nOr s (iT (s / 2 ^ k.toNat % 2 = 1) (R (671 + 5 * k)) 0)) from if_neg hc]
      have ho := hR.o.1 k (by omega)
      unfold OCW at ho
      have ht : ∀ b, bitp (nOr s (iT (s / 2 ^ k.toNat % 2 = 1) (R (671 + 5 * k)) 0)) b ↔ bitp s b ∨ (bitp s k ∧ linkd R k b) := by
        intro b
        rcases iT_or (p := s / 2 ^ k.toNat % 2 = 1) (R (671 + 5 * k)) 0 with ⟨hp, e⟩ | ⟨hp, e⟩
        · rw [e, bitp_or hs (by omega)]
          exact ⟨fun q => q.elim Or.inl (fun z => Or.inr ⟨hp, z⟩), fun q => q.elim Or.inl (fun z => Or.inr z.2)⟩
        · rw [e, bitp_or hs (by omega)]
          exact ⟨fun q => q.elim Or.inl (fun z => absurd z bitp_0), fun q => q.elim Or.inl (fun z => absurd z.1 hp)⟩
      obtain ⟨i0, i1, i2, i3⟩ := ih (k + 1) (nOr s (iT (s / 2 ^ k.toNat % 2 = 1) (R (671 + 5 * k)) 0)) (by omega) (by omega) nOr_nn
      refine ⟨i0, fun b hb h => i1 b hb ((ht b).mpr (Or.inl h)), fun j h1 h2 h3 b hb hl => ?_, fun S hS h b hb hq => i3 S hS (fun b hb h2 => ?_) b hb hq⟩
      · by_cases hj : j = k
        · subst hj
          exact i1 b hb ((ht b).mpr (Or.inr ⟨h3, hl⟩))
        · exact i2 j (by omega) h2 ((ht j).mpr (Or.inl h3)) b hb hl
      · rcases (ht b).mp h2 with h3 | ⟨h3, h4⟩
        · exact h b hb h3
        · exact hS k b hk (by omega) hb (h k hk h3) h4
theorem cdO_spec {R : rW} (hR : RW R) : ∀ (n : Nat) (s : Int), 0 ≤ s →
    0 ≤ cdO R n s ∧ (∀ b, 0 ≤ b → bitp s b → bitp (cdO R n s) b) ∧ (∀ S : Int → Prop, clsd R S → (∀ b, 0 ≤ b → bitp s b → S b) → ∀ b, 0 ≤ b → bitp (cdO R n s) b → S b) ∧
    (clsd R (bitp (cdO R n s)) ∨ cn (bitp s) 0 7 + n ≤ cn (bitp (cdO R n s)) 0 7) := by
  have h5 := hR.n.2.2.2.2.2.1
  intro n
  induction n with
  | zero => exact fun s hs => ⟨hs, fun b _ h => h, fun S _ h => h, Or.inr (by show _ ≤ cn (bitp s) 0 7; omega)⟩
  | succ n ih =>
    intro s hs
    obtain ⟨c0, c1, c2, c3⟩ := cdI_spec hR 9 0 s (by omega) (by omega) hs
    obtain ⟨i0, i1, i2, i3⟩ := ih (cdI R 9 0 s) c0
    refine ⟨i0, fun b hb h => i1 b hb (c1 b hb h), fun S hS h => i2 S hS (c3 S hS h), ?_⟩
    show clsd R (bitp (cdO R n (cdI R 9 0 s))) ∨ cn (bitp s) 0 7 + ((n + 1 : Nat) : Int) ≤ cn (bitp (cdO R n (cdI R 9 0 s))) 0 7
    by_cases hall : ∀ b, 0 ≤ b → b ≤ 7 → bitp (cdI R 9 0 s) b → bitp s b
    · refine Or.inl ?_
      have hcl : clsd R (bitp s) := fun j b hj1 hj2 hb hs2 hl => by
        have := (link_lt hR ⟨hj1, hj2⟩ hb hl).1
        exact hall b hb (by omega) (c2 j hj1 hj2 hs2 b hb hl)
      have hsub : ∀ b, 0 ≤ b → bitp (cdO R n (cdI R 9 0 s)) b → bitp s b := i2 (bitp s) hcl (c3 (bitp s) hcl (fun b _ h => h))
      exact fun j b hj1 hj2 hb hs2 hl => i1 b hb (c1 b hb (hcl j b hj1 hj2 hb (hsub j hj1 hs2) hl))
    · obtain ⟨b, hb⟩ := Classical.not_forall.mp hall
      have hb1 : 0 ≤ b ∧ b ≤ 7 ∧ bitp (cdI R 9 0 s) b ∧ ¬ bitp s b := by
        refine Classical.byContradiction fun q => hb (fun q1 q2 q3 => Classical.byContradiction fun q4 => q ⟨q1, q2, q3, q4⟩)
      have hlt := cn_lt (P := bitp s) (Q := bitp (cdI R 9 0 s)) (a := 0) (b := 7) (z := b) (fun x h1 _ h2 => c1 x h1 h2) ⟨hb1.1, hb1.2.1⟩ hb1.2.2.1 hb1.2.2.2
      rcases i3 with h | h
      · exact Or.inl h
      · exact Or.inr (by omega)
theorem condF_conn {R : rW} (hR : RW R) {a b : Int} (ha : 0 ≤ a ∧ a < R 5) (hb : 0 ≤ b) : bitp (condF R a) b ↔ conn R a b := by
  have h5 := hR.n.2.2.2.2.2.1
  have hp := pow8 (x := a) (by omega)
  obtain ⟨i0, i1, i2, i3⟩ := cdO_spec hR 8 (1 * 2 ^ a.toNat) (by omega)
  have hself : bitp (condF R a) a := i1 a ha.1 ((bitp_one ha.1 ha.1).mpr rfl)
  have hcl : clsd R (bitp (condF R a)) := by
    rcases i3 with h | h
    · exact h
    · have h1 : cn (bitp (1 * 2 ^ a.toNat)) 0 7 ≥ 1 := by
        have := cn_lt (P := fun _ => False) (Q := bitp (1 * 2 ^ a.toNat)) (a := 0) (b := 7) (z := a) (fun x _ _ h => h.elim) (by omega) ((bitp_one ha.1 ha.1).mpr rfl) (fun h => h)
        have := @cn_nn (fun _ => False) 0 7
        omega
      have h2 := cn_rng (P := bitp (cdO R 8 (1 * 2 ^ a.toNat))) (a := 0) (b := 7) (by omega)
      omega
  constructor
  · exact i2 (conn R a) (conn_clsd hR) (fun b hb h => by rw [(bitp_one ha.1 hb).mp h]; exact conn_rf) b hb
  · rintro ⟨n, hn⟩
    exact clsd_conn hcl n ha hself hn
theorem condF_nn {R : rW} (hR : RW R) {a : Int} (ha : 0 ≤ a ∧ a < R 5) : 0 ≤ condF R a := by
  have h5 := hR.n.2.2.2.2.2.1
  have hp := pow8 (x := a) (by omega)
  exact (cdO_spec hR 8 (1 * 2 ^ a.toNat) (by omega)).1
