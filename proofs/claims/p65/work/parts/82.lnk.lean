-- links
def lkR (R : rW) (x y : Int) : rW := up (up R (671 + 5 * x) (nOr (R (671 + 5 * x)) (1 * 2 ^ y.toNat))) (671 + 5 * y) (nOr (R (671 + 5 * y)) (1 * 2 ^ x.toNat))
theorem lkR_ne {R : rW} {x y j : Int} (h : ¬ j = 671 + 5 * x) (h2 : ¬ j = 671 + 5 * y) : lkR R x y j = R j := up2_n h h2
theorem lkR_bit {R : rW} (hR : RW R) {x y a k : Int} (hx : 0 ≤ x ∧ x < R 5) (hy : 0 ≤ y ∧ y < R 5) (hxy : ¬ x = y) (ha : 0 ≤ a ∧ a < R 5) (hk : 0 ≤ k) : bitp (lkR R x y (671 + 5 * a)) k ↔ (bitp (R (671 + 5 * a)) k ∨ (a = x ∧ k = y) ∨ (a = y ∧ k = x)) := by
  have h0 := (hR.o.1 a ha).2.2.2.2
  have p1 : (0 : Int) ≤ 1 * 2 ^ y.toNat := by rw [Int.one_mul]; exact Int.pow_nonneg (by decide)
  have p2 : (0 : Int) ≤ 1 * 2 ^ x.toNat := by rw [Int.one_mul]; exact Int.pow_nonneg (by decide)
  by_cases c : a = y
  · subst c
    unfold lkR
    rw [up_s, bitp_or h0.1 p2, bitp_one hx.1 hk]
    constructor
    · rintro (q | q)
      · exact Or.inl q
      · exact Or.inr (Or.inr ⟨rfl, q⟩)
    · rintro (q | ⟨q, _⟩ | ⟨_, q⟩)
      · exact Or.inl q
      · exact absurd q.symm hxy
      · exact Or.inr q
  · by_cases c2 : a = x
    · subst c2
      unfold lkR
      rw [up_n (by omega), up_s, bitp_or h0.1 p1, bitp_one hy.1 hk]
      constructor
      · rintro (q | q)
        · exact Or.inl q
        · exact Or.inr (Or.inl ⟨rfl, q⟩)
      · rintro (q | ⟨_, q⟩ | ⟨q, _⟩)
        · exact Or.inl q
        · exact Or.inr q
        · exact absurd q hxy
    · rw [lkR_ne (by omega) (by omega)]
      constructor
      · exact Or.inl
      · rintro (q | ⟨q, _⟩ | ⟨q, _⟩)
        · exact q
        · exact absurd q c2
        · exact absurd q c
theorem nOr_lt {a k : Int} (ha : 0 ≤ a ∧ a < 256) (hk : 0 ≤ k ∧ k < 8) : 0 ≤ nOr a (1 * 2 ^ k.toNat) ∧ nOr a (1 * 2 ^ k.toNat) < 256 := by
  refine ⟨nOr_nn, ?_⟩
  have e : ((1 : Int) * 2 ^ k.toNat).toNat = 2 ^ k.toNat := by
    rw [Int.one_mul, show ((2 : Int) ^ k.toNat) = ((2 ^ k.toNat : Nat) : Int) by simp]
    exact Int.toNat_natCast _
  have h1 : a.toNat < 2 ^ 8 := by omega
  have h2 : (2 : Nat) ^ k.toNat < 2 ^ 8 := Nat.pow_lt_pow_right (by decide) (by omega)
  have h3 := Nat.or_lt_two_pow h1 h2
  have h4 : nOr a (1 * 2 ^ k.toNat) = ((a.toNat ||| 2 ^ k.toNat : Nat) : Int) := by
    unfold nOr; rw [e]
  rw [h4]
  omega
theorem w_link {R : rW} (hR : RW R) {x y : Int} (hx : 0 ≤ x ∧ x < R 5) (hy : 0 ≤ y ∧ y < R 5) (hxy : ¬ x = y) : RW (lkR R x y) := by
  have n5 := hR.n.2.2.2.2.2.1
  have e5 : lkR R x y 5 = R 5 := lkR_ne (by omega) (by omega)
  have e0 : lkR R x y 0 = R 0 := lkR_ne (by omega) (by omega)
  refine hR.gocs (fun j q => lkR_ne (by omega) (by omega)) (by rw [e5]; omega) ⟨fun o ho => ?_, fun j k q1 q2 q3 => ?_⟩
  · rw [e5] at ho
    have h := hR.o.1 o ho
    unfold OCW
    rw [e0, lkR_ne (j := 667 + 5 * o) (by omega) (by omega), lkR_ne (j := 668 + 5 * o) (by omega) (by omega), lkR_ne (j := 669 + 5 * o) (by omega) (by omega), lkR_ne (j := 670 + 5 * o) (by omega) (by omega)]
    refine ⟨h.1, h.2.1, h.2.2.1, h.2.2.2.1, ?_⟩
    unfold lkR
    by_cases c : o = y
    · subst c; rw [up_s]; exact nOr_lt h.2.2.2.2 (by omega)
    · rw [up_n (by omega)]
      by_cases c2 : o = x
      · subst c2; rw [up_s]; exact nOr_lt h.2.2.2.2 (by omega)
      · rw [up_n (by omega)]; exact h.2.2.2.2
  · rw [e5] at q1 ⊢
    rcases (lkR_bit hR hx hy hxy q1 q2.1).1 q3 with q | ⟨qa, qb⟩ | ⟨qa, qb⟩
    · obtain ⟨r1, r2, r3⟩ := hR.o.2 j k q1 q2 q
      exact ⟨r1, r2, (lkR_bit hR hx hy hxy ⟨q2.1, r1⟩ q1.1).2 (Or.inl r3)⟩
    · subst qa; subst qb
      exact ⟨hy.2, fun q => hxy q.symm, (lkR_bit hR hx hy hxy hy q1.1).2 (Or.inr (Or.inr ⟨rfl, rfl⟩))⟩
    · subst qa; subst qb
      exact ⟨hx.2, hxy, (lkR_bit hR hx hy hxy hx q1.1).2 (Or.inr (Or.inl ⟨rfl, rfl⟩))⟩
theorem conn_mono {R : rW} (hR : RW R) {x y : Int} (hx : 0 ≤ x ∧ x < R 5) (hy : 0 ≤ y ∧ y < R 5) (hxy : ¬ x = y) : ∀ (n : Nat) (a b : Int), 0 ≤ a ∧ a < R 5 → connN R n a b → connN (lkR R x y) n a b := by
  have e5 : lkR R x y 5 = R 5 := lkR_ne (by omega) (by omega)
  intro n
  induction n with
  | zero => intro a b _ h; exact h
  | succ n ih =>
    intro a b ha h
    rcases h with p | ⟨c, c1, c2, c3, c4⟩
    · exact Or.inl p
    · exact Or.inr ⟨c, c1, by rw [e5]; exact c2, (lkR_bit hR hx hy hxy ha c1).2 (Or.inl c3), ih c b ⟨c1, c2⟩ c4⟩
theorem conn_lk {R : rW} (hR : RW R) {x y : Int} (hx : 0 ≤ x ∧ x < R 5) (hy : 0 ≤ y ∧ y < R 5) (hxy : ¬ x = y) {a b : Int} (ha : 0 ≤ a ∧ a < R 5) (hb : 0 ≤ b ∧ b < R 5) : conn (lkR R x y) a b ↔ (conn R a b ∨ (conn R a x ∧ conn R y b) ∨ (conn R a y ∧ conn R x b)) := by
  have e5 : lkR R x y 5 = R 5 := lkR_ne (by omega) (by omega)
  have hW := w_link hR hx hy hxy
  have mono : ∀ {a b : Int}, 0 ≤ a ∧ a < R 5 → conn R a b → conn (lkR R x y) a b := fun h1 ⟨n, h⟩ => ⟨n, conn_mono hR hx hy hxy n _ _ h1 h⟩
  have lxy : conn (lkR R x y) x y := conn_link hW (by rw [e5]; exact hx) hy.1 ((lkR_bit hR hx hy hxy hx hy.1).2 (Or.inr (Or.inl ⟨rfl, rfl⟩)))
  have lyx : conn (lkR R x y) y x := conn_link hW (by rw [e5]; exact hy) hx.1 ((lkR_bit hR hx hy hxy hy hx.1).2 (Or.inr (Or.inr ⟨rfl, rfl⟩)))
  constructor
  · rintro ⟨n, h⟩
    have key : ∀ (n : Nat) (a : Int), 0 ≤ a ∧ a < R 5 → connN (lkR R x y) n a b → (conn R a b ∨ (conn R a x ∧ conn R y b) ∨ (conn R a y ∧ conn R x b)) := by
      intro n
      induction n with
      | zero => intro a _ h; have h' : a = b := h; subst h'; exact Or.inl conn_rf
      | succ n ih =>
        intro a ha h
        rcases h with p | ⟨c, c1, c2, c3, c4⟩
        · subst p; exact Or.inl conn_rf
        · rw [e5] at c2
          rcases (lkR_bit hR hx hy hxy ha c1).1 c3 with q | ⟨qa, qc⟩ | ⟨qa, qc⟩
          · have hac := conn_link hR ha c1 q
            rcases ih c ⟨c1, c2⟩ c4 with p | ⟨p1, p2⟩ | ⟨p1, p2⟩
            · exact Or.inl (conn_tr hac p)
            · exact Or.inr (Or.inl ⟨conn_tr hac p1, p2⟩)
            · exact Or.inr (Or.inr ⟨conn_tr hac p1, p2⟩)
          · subst qa; subst qc
            rcases ih c ⟨c1, c2⟩ c4 with p | ⟨p1, p2⟩ | ⟨p1, p2⟩
            · exact Or.inr (Or.inl ⟨conn_rf, p⟩)
            · exact Or.inr (Or.inl ⟨conn_rf, p2⟩)
            · exact Or.inl p2
          · subst qa; subst qc
            rcases ih c ⟨c1, c2⟩ c4 with p | ⟨p1, p2⟩ | ⟨p1, p2⟩
            · exact Or.inr (Or.inr ⟨conn_rf, p⟩)
            · exact Or.inl p2
            · exact Or.inr (Or.inr ⟨conn_rf, p2⟩)
    exact key n a ha h
  · rintro (p | ⟨p1, p2⟩ | ⟨p1, p2⟩)
    · exact mono ha p
    · exact conn_tr (mono ha p1) (conn_tr lxy (mono hy p2))
    · exact conn_tr (mono ha p1) (conn_tr lyx (mono hx p2))
-- the groups
def ldr (R : rW) (k : Int) : Prop := ∀ j, 0 ≤ j → j < k → ¬ conn R k j
noncomputable def grpF (R : rW) : Int := cnN (ldr R) (R 5).toNat 0
noncomputable def st_link (R : rW) (x y : Int) : Int × rW := sO ((0 ≤ x ∧ x < R 5) ∧ (0 ≤ y ∧ y < R 5)) (sO (x = y) (-2, R) (sO (bitp (R (671 + 5 * x)) y) (-3, R) (grpF (lkR R x y), lkR R x y))) (-1, R)
theorem ldr_c {d : mD} {R : rW} (hC : CI d R) {k : Int} (hk : 0 ≤ k ∧ k < R 5) : d 47 k = k ↔ ldr R k := by
  obtain ⟨h1, h2, h3, h4⟩ := hC.oc
  have hk3 := h3 k hk
  constructor
  · intro h j hj1 hj2 hc
    have := (h4 k j hk ⟨hj1, by omega⟩).2 hc
    have := h3 j ⟨hj1, by omega⟩
    omega
  · intro h
    by_cases c : d 47 k = k
    · exact c
    · exact absurd hk3.2.2 (h (d 47 k) hk3.1 (by omega))
theorem c_link {d d' : mD} {R : rW} {x y : Int} (hC : CI d R) (hx : 0 ≤ x ∧ x < R 5) (hy : 0 ≤ y ∧ y < R 5) (hxy : ¬ x = y)
    (q : ∀ k j : Int, ¬ (46 ≤ k ∧ k ≤ 47) → d' k j = d k j) (q46 : ∀ o, 0 ≤ o → o < R 5 → d' 46 o = lkR R x y (671 + 5 * o)) (q47 : ∀ o, 0 ≤ o → o < R 5 → d' 47 o = if d 47 o = max (d 47 x) (d 47 y) then min (d 47 x) (d 47 y) else d 47 o) : CI d' (lkR R x y) := by
  have hR := hC.w
  have n5 := hR.n.2.2.2.2.2.1
  have e5 : lkR R x y 5 = R 5 := lkR_ne (by omega) (by omega)
  obtain ⟨h1, h2, h3, h4⟩ := hC.oc
  refine hC.gocs (w_link hR hx hy hxy) (fun j q => lkR_ne (by omega) (by omega)) (fun k j _ _ p => q k j (by omega)) ⟨by rw [q 34 11 (by omega), e5]; exact h1, fun o ho => ?_, fun o ho => ?_, fun a b ha hb => ?_⟩
  · rw [e5] at ho
    obtain ⟨t1, t2, t3, t4, t5, t6, t7⟩ := h2 o ho
    rw [q 35 o (by omega), q 36 o (by omega), q 37 o (by omega), q 38 o (by omega), q 39 o (by omega), q 40 _ (by omega), q46 o ho.1 ho.2, lkR_ne (j := 667 + 5 * o) (by omega) (by omega), lkR_ne (j := 668 + 5 * o) (by omega) (by omega), lkR_ne (j := 669 + 5 * o) (by omega) (by omega), lkR_ne (j := 670 + 5 * o) (by omega) (by omega)]
    exact ⟨t1, t2, t3, t4, t5, t6, rfl⟩
  · rw [e5] at ho
    have ho3 := h3 o ho
    have hx3 := h3 x hx
    have hy3 := h3 y hy
    rw [q47 o ho.1 ho.2]
    split
    · rename_i hg
      refine ⟨by omega, by omega, ?_⟩
      by_cases c : d 47 x ≤ d 47 y
      · rw [show min (d 47 x) (d 47 y) = d 47 x by omega]
        have hoy : conn R o y := (h4 o y ho hy).1 (by omega)
        exact (conn_lk hR hx hy hxy ho ⟨hx3.1, by omega⟩).2 (Or.inr (Or.inr ⟨hoy, hx3.2.2⟩))
      · rw [show min (d 47 x) (d 47 y) = d 47 y by omega]
        have hox : conn R o x := (h4 o x ho hx).1 (by omega)
        exact (conn_lk hR hx hy hxy ho ⟨hy3.1, by omega⟩).2 (Or.inr (Or.inl ⟨hox, hy3.2.2⟩))
    · exact ⟨ho3.1, ho3.2.1, (conn_lk hR hx hy hxy ho ⟨ho3.1, by omega⟩).2 (Or.inl ho3.2.2)⟩
  · rw [e5] at ha hb
    rw [conn_lk hR hx hy hxy ha hb, ← h4 a b ha hb, ← h4 a x ha hx, ← h4 y b hy hb, ← h4 a y ha hy, ← h4 x b hx hb, q47 a ha.1 ha.2, q47 b hb.1 hb.2]
    split <;> split <;> omega
theorem pow8k {k : Int} (hk : 0 ≤ k ∧ k < 8) : 1 ≤ (1 : Int) * 2 ^ k.toNat ∧ (1 : Int) * 2 ^ k.toNat ≤ 256 := by
  rw [Int.one_mul, pow_cast]
  have h1 : 2 ^ k.toNat ≤ 2 ^ 8 := Nat.pow_le_pow_right (by decide) (by omega)
  have h2 := Nat.two_pow_pos k.toNat
  have h3 : 2 ^ 8 = 256 := by decide
  omega
theorem t_linkOcc {x y : Int} {R : rW} {g : mG} {d : mD} {Q : mQ} (hC : CI d R) (h : HT (st_link R x y) d g Q) : MM mX11_tryLinkOccurrences [vR 0, vI x, vI y] g d Q := by
  have hR := hC.w
  have n5 := hR.n.2.2.2.2.2.1
  have e5 := hC.oc.1
  refine eX11_tryLinkOccurrences ⟨fun c => h.e hC (sO_f (by omega)), fun c => ⟨fun c2 => h.e hC ?_, fun c2 => ?_⟩⟩
  · unfold st_link
    rw [sO_t (by omega), sO_t c2]
  · have hx : 0 ≤ x ∧ x < R 5 := by omega
    have hy : 0 ≤ y ∧ y < R 5 := by omega
    have lx := (hC.oc.2.1 x hx).2.2.2.2.2.2
    have ly := (hC.oc.2.1 y hy).2.2.2.2.2.2
    have bx := (hR.o.1 x hx).2.2.2.2
    have byy := (hR.o.1 y hy).2.2.2.2
    have p1 : (0 : Int) ≤ 1 * 2 ^ y.toNat := by rw [Int.one_mul]; exact Int.pow_nonneg (by decide)
    have p2 : (0 : Int) ≤ 1 * 2 ^ x.toNat := by rw [Int.one_mul]; exact Int.pow_nonneg (by decide)
    have pw : ∀ k : Int, 0 ≤ k ∧ k < 8 → iI ((1 : Int) * 2 ^ k.toNat) := fun k hk => by
      have := pow8k hk
      exact ik (by omega)
    refine ⟨by omega, by omega, by omega, fun c3 => h.e hC ?_, fun c3 => ?_⟩
    · unfold st_link
      rw [sO_t ⟨hx, hy⟩, sO_f c2, sO_t (p := bitp (R (671 + 5 * x)) y) (by rw [← lx]; exact c3)]
    · refine eX1_link ⟨by omega, by omega, pw y (by omega), by omega, p1, by omega, by omega, pw x (by omega), by rw [ud_ne (by omega)]; omega, p2, ?_⟩
      have hs : st_link R x y = (grpF (lkR R x y), lkR R x y) := by
        unfold st_link
        rw [sO_t ⟨hx, hy⟩, sO_f c2, sO_f (p := bitp (R (671 + 5 * x)) y) (by rw [← lx]; exact c3)]
      have e5' : lkR R x y 5 = R 5 := lkR_ne (by omega) (by omega)
      have hl : ∀ (m : Nat) (k : Int) (d' : mD), 0 ≤ k → k + m = R 5 → (∀ k' j : Int, ¬ (46 ≤ k' ∧ k' ≤ 47) → d' k' j = d k' j) → (∀ o, 0 ≤ o → o < R 5 → d' 46 o = lkR R x y (671 + 5 * o)) → (∀ o, 0 ≤ o → o < k → d' 47 o = if d 47 o = max (d 47 x) (d 47 y) then min (d 47 x) (d 47 y) else d 47 o) → (∀ o, k ≤ o → d' 47 o = d 47 o) → pX1_link_1 x y (min (d 47 x) (d 47 y)) (max (d 47 x) (d 47 y)) k g d' (fun o g21 d22 => match o with | .inl v20 => (0 ≤ d22 34 11 ∧ d22 34 (11 : Int) ≤ 8) ∧ (Q (.inl (nuF (fun i => d22 47 i = i) (d22 34 11))) g21 d22) | .inr k => Q (.inr k) g21 d22) := by
        intro m
        induction m with
        | zero =>
          intro k d' hk hm f1 f2 f3 f4
          have e34 : d' 34 11 = R 5 := (f1 34 11 (by omega)).trans e5
          refine aX1_link_1 ⟨fun _ => ?_, fun c => absurd (by omega) c⟩
          show (0 ≤ d' 34 11 ∧ d' 34 (11 : Int) ≤ 8) ∧ Q (.inl (nuF (fun i => d' 47 i = i) (d' 34 11))) g d'
          have hC' := c_link hC hx hy c2 f1 f2 (fun o q1 q2 => f3 o q1 (by omega))
          rw [e34]
          refine ⟨by omega, ?_⟩
          rw [nuF_eq, cnN_cg (Q := ldr (lkR R x y)) (R 5).toNat 0 (fun i q1 q2 => ldr_c hC' (by rw [e5']; omega))]
          exact h.v (by rw [hs]; unfold grpF; rw [e5']) (fun b j q => f1 b j (by omega)) hC'
        | succ m ih =>
          intro k d' hk hm f1 f2 f3 f4
          have e34 : d' 34 11 = R 5 := (f1 34 11 (by omega)).trans e5
          have f4k := f4 k (Int.le_refl _)
          refine aX1_link_1 ⟨fun c => absurd c (by omega), fun _ => ⟨by omega, fun c4 => ⟨ik (by omega), ih (k + 1) _ (by omega) (by omega) (fun k' j q => by rw [ud_ne (by omega)]; exact f1 k' j q) (fun o q1 q2 => by rw [ud_ne (by omega)]; exact f2 o q1 q2) (fun o q1 q2 => ?_) (fun o q1 => by rw [ud_ne (by omega)]; exact f4 o (by omega))⟩, fun c4 => ⟨ik (by omega), ih (k + 1) d' (by omega) (by omega) f1 f2 (fun o q1 q2 => ?_) (fun o q1 => f4 o (by omega))⟩⟩⟩
          · by_cases c5 : o = k
            · subst c5
              rw [ud_same, if_pos (by omega)]
            · rw [ud_ne (by omega)]; exact f3 o q1 (by omega)
          · by_cases c5 : o = k
            · subst c5
              rw [if_neg (by omega)]; exact f4k
            · exact f3 o q1 (by omega)
      refine hl (R 5).toNat 0 _ (by omega) (by omega) (fun k' j q => by repeat rw [ud_ne (by omega)]) (fun o q1 q2 => ?_) (fun o q1 q2 => by omega) (fun o q1 => by repeat rw [ud_ne (by omega)])
      have lo := (hC.oc.2.1 o ⟨q1, q2⟩).2.2.2.2.2.2
      unfold lkR
      by_cases c5 : o = y
      · subst c5
        rw [ud_same, up_s, ud_ne (by omega), lo]
      · rw [ud_ne (by omega), up_n (by omega)]
        by_cases c6 : o = x
        · subst c6
          rw [ud_same, up_s, lo]
        · rw [ud_ne (by omega), up_n (by omega), lo]
