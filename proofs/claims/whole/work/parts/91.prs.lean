-- the parser of the reference
noncomputable def sgF (T : rW) (n p : Int) : Int := iT (p < 0) 0 (iT (n ≤ p) 0 (T p))
def dgP (T : rW) (n p : Int) : Prop := 48 ≤ sgF T n p ∧ sgF T n p ≤ 57
theorem sgF_in {T : rW} {n p : Int} (h : 0 ≤ p ∧ p < n) : sgF T n p = T p := by
  unfold sgF; rw [iT_f (by omega), iT_f (by omega)]
theorem sgF_out {T : rW} {n p : Int} (h : n ≤ p) (h0 : 0 ≤ p) : sgF T n p = 0 := by
  unfold sgF; rw [iT_f (by omega), iT_t h]
theorem sgF_rng {T : rW} {n p : Int} (hT : ∀ j, 0 ≤ j → j < n → 0 ≤ T j ∧ T j ≤ 65535) (h0 : 0 ≤ p) : 0 ≤ sgF T n p ∧ sgF T n p ≤ 65535 := by
  by_cases c : n ≤ p
  · rw [sgF_out c h0]; decide
  · rw [sgF_in ⟨h0, by omega⟩]; exact hT p h0 (by omega)
abbrev Ps := Int × Int
def sOk (n : Int) (s : Ps) : Prop := (0 ≤ s.1 ∧ s.1 ≤ n) ∧ (s.2 = 0 ∨ s.2 = 1)
noncomputable def tk (T : rW) (n c : Int) (s : Ps) : Ps := @ite _ (s.2 = 0 ∧ sgF T n s.1 = c) (Classical.propDecidable _) (s.1 + 1, 0) (s.1, 1)
theorem tk_t {T : rW} {n c : Int} {s : Ps} (h : s.2 = 0 ∧ sgF T n s.1 = c) : tk T n c s = (s.1 + 1, 0) := if_pos h
theorem tk_f {T : rW} {n c : Int} {s : Ps} (h : ¬ (s.2 = 0 ∧ sgF T n s.1 = c)) : tk T n c s = (s.1, 1) := if_neg h
theorem tk_ok {T : rW} {n c : Int} {s : Ps} (h : sOk n s) (hc : ¬ c = 0) : sOk n (tk T n c s) := by
  by_cases q : s.2 = 0 ∧ sgF T n s.1 = c
  · rw [tk_t q]
    have : ¬ n ≤ s.1 := fun z => hc (q.2.symm.trans (sgF_out z h.1.1))
    exact ⟨⟨by have := h.1; show 0 ≤ s.1 + 1; omega, by have := h.1; show s.1 + 1 ≤ n; omega⟩, Or.inl rfl⟩
  · rw [tk_f q]; exact ⟨h.1, Or.inr rfl⟩
def PS (d : mD) (T : rW) (n : Int) (s : Ps) : Prop := d 69 = T ∧ d 65 7 = n ∧ d 65 17 = s.1 ∧ d 65 18 = s.2
def FrA (d d' : mD) : Prop := ∀ b j : Int, ¬ (b = 65 ∧ (j = 17 ∨ j = 18)) → d' b j = d b j
theorem FrA.rf {d : mD} : FrA d d := fun _ _ _ => rfl
theorem FrA.tr {d d' d'' : mD} (h : FrA d d') (h2 : FrA d' d'') : FrA d d'' := fun b j q => (h2 b j q).trans (h b j q)
theorem PS.fr {d d' : mD} {T : rW} {n : Int} {s s' : Ps} (h : PS d T n s) (hf : FrA d d') (h17 : d' 65 17 = s'.1) (h18 : d' 65 18 = s'.2) : PS d' T n s' :=
  ⟨(funext fun j => hf 69 j (by omega)).trans h.1, (hf 65 7 (by omega)).trans h.2.1, h17, h18⟩
theorem m_take {c n : Int} {T : rW} {s : Ps} {g : mG} {d : mD} {Q : mQ} (hn : n ≤ 60) (hs : sOk n s) (hp : PS d T n s) (hc : ¬ c = 0) (h : ∀ d', FrA d d' → PS d' T n (tk T n c s) → Q (.inl 0) g d') : MM mX12_take [vR 65, vI c] g d Q := by
  obtain ⟨e69, e7, e17, e18⟩ := hp
  obtain ⟨h1, h2⟩ := hs
  refine eX12_take ?_
  rw [e69, e7, e17, e18]
  have hq : (¬ ((¬ (s.2 = 0)) ∨ (¬ ((s.2 = 0) ∧ ((¬ (n ≤ s.1)) ∧ (T s.1 = c)))))) ↔ (s.2 = 0 ∧ sgF T n s.1 = c) := by
    by_cases z : n ≤ s.1
    · rw [sgF_out z h1.1]; omega
    · rw [sgF_in ⟨h1.1, by omega⟩]; omega
  have hr := @bI_rng (¬ ((¬ (s.2 = 0)) ∨ (¬ ((s.2 = 0) ∧ ((¬ (n ≤ s.1)) ∧ (T s.1 = c))))))
  refine ⟨fun _ _ _ => by omega, ik (by omega), h _ (fun b j q => by rw [ud_ne (by omega), ud_ne (by omega)]) ?_⟩
  refine PS.fr ⟨e69, e7, e17, e18⟩ (fun b j q => by rw [ud_ne (by omega), ud_ne (by omega)]) ?_ ?_
  · rw [ud_same]
    by_cases q : s.2 = 0 ∧ sgF T n s.1 = c
    · rw [tk_t q, bI_t (hq.2 q)]
    · rw [tk_f q, bI_f (fun z => q (hq.1 z)), Int.add_zero]
  · rw [ud_ne (by omega), ud_same]
    by_cases q : s.2 = 0 ∧ sgF T n s.1 = c
    · rw [tk_t q, bI_f (hq.2 q)]
    · rw [tk_f q, bI_t (Classical.not_not.mp (fun z => q (hq.1 z)))]
noncomputable def tkI (T : rW) (n c : Int) (s : Ps) : Ps := if c = 0 then s else tk T n c s
theorem tkI_ok {T : rW} {n c : Int} {s : Ps} (h : sOk n s) : sOk n (tkI T n c s) := by
  unfold tkI
  by_cases c0 : c = 0
  · rw [if_pos c0]; exact h
  · rw [if_neg c0]; exact tk_ok h c0
theorem m_takeIf {c n : Int} {T : rW} {s : Ps} {g : mG} {d : mD} {Q : mQ} (hn : n ≤ 60) (hs : sOk n s) (hp : PS d T n s) (h : ∀ d', FrA d d' → PS d' T n (tkI T n c s) → Q (.inl 0) g d') : MM mX12_takeIf [vR 65, vI c] g d Q := by
  refine eX12_takeIf ⟨fun q => h d FrA.rf ?_, fun q => m_take hn hs hp q fun d' hf hp' => h d' hf ?_⟩
  · unfold tkI; rw [if_pos q]; exact hp
  · unfold tkI; rw [if_neg q]; exact hp'
noncomputable def tkW (T : rW) (n a b c e f k : Int) (s : Ps) : Ps := tkI T n k (tkI T n f (tkI T n e (tk T n c (tk T n b (tk T n a s)))))
theorem tkW_ok {T : rW} {n a b c e f k : Int} {s : Ps} (h : sOk n s) (ha : ¬ a = 0) (hb : ¬ b = 0) (hc : ¬ c = 0) : sOk n (tkW T n a b c e f k s) :=
  tkI_ok (tkI_ok (tkI_ok (tk_ok (tk_ok (tk_ok h ha) hb) hc)))
theorem m_takeWord {a b c e f k n : Int} {T : rW} {s : Ps} {g : mG} {d : mD} {Q : mQ} (hn : n ≤ 60) (hs : sOk n s) (hp : PS d T n s) (ha : ¬ a = 0) (hb : ¬ b = 0) (hc : ¬ c = 0) (h : ∀ d', FrA d d' → PS d' T n (tkW T n a b c e f k s) → Q (.inl 0) g d') : MM mX12_takeWord [vR 65, vI a, vI b, vI c, vI e, vI f, vI k] g d Q := by
  refine eX12_takeWord (m_take hn hs hp ha fun d1 f1 p1 => ?_)
  refine m_take hn (tk_ok hs ha) p1 hb fun d2 f2 p2 => ?_
  refine m_take hn (tk_ok (tk_ok hs ha) hb) p2 hc fun d3 f3 p3 => ?_
  refine m_takeIf hn (tk_ok (tk_ok (tk_ok hs ha) hb) hc) p3 fun d4 f4 p4 => ?_
  refine m_takeIf hn (tkI_ok (tk_ok (tk_ok (tk_ok hs ha) hb) hc)) p4 fun d5 f5 p5 => ?_
  refine m_takeIf hn (tkI_ok (tkI_ok (tk_ok (tk_ok (tk_ok hs ha) hb) hc))) p5 fun d6 f6 p6 => ?_
  exact h d6 (((((f1.tr f2).tr f3).tr f4).tr f5).tr f6) p6
-- numbers
noncomputable def dgN (T : rW) (n : Int) : Nat → Int → Int → Ps
  | 0, v, p => (v, p)
  | m + 1, v, p => @ite _ (dgP T n p) (Classical.propDecidable _) (dgN T n m (10 * v + (sgF T n p - 48)) (p + 1)) (v, p)
theorem dgN_s {T : rW} {n v p : Int} {m : Nat} : dgN T n (m + 1) v p = @ite _ (dgP T n p) (Classical.propDecidable _) (dgN T n m (10 * v + (sgF T n p - 48)) (p + 1)) (v, p) := rfl
noncomputable def dgF (T : rW) (n : Int) (k : Nat) (s : Ps) : Int × Ps := @ite _ (s.2 = 0 ∧ dgP T n s.1) (Classical.propDecidable _) ((dgN T n k 0 s.1).1, ((dgN T n k 0 s.1).2, 0)) (0, (s.1, 1))
theorem dgP_in {T : rW} {n p : Int} (h0 : 0 ≤ p) (h : dgP T n p) : p < n := by
  rcases Int.lt_or_le p n with a | a
  · exact a
  · unfold dgP at h; rw [sgF_out a h0] at h; omega
theorem dgN_rng {T : rW} {n : Int} : ∀ (m : Nat) (v p b : Int), 0 ≤ p ∧ p ≤ n → 0 ≤ v ∧ v ≤ b → 0 ≤ b → (0 ≤ (dgN T n m v p).1 ∧ (dgN T n m v p).1 ≤ (b + 1) * 10 ^ m - 1) ∧ (p ≤ (dgN T n m v p).2 ∧ (dgN T n m v p).2 ≤ n) := by
  intro m
  induction m with
  | zero => intro v p b hp hv hb; refine ⟨⟨hv.1, ?_⟩, Int.le_refl _, hp.2⟩; show v ≤ (b + 1) * 10 ^ 0 - 1; rw [Int.pow_zero, Int.mul_one]; omega
  | succ m ih =>
    intro v p b hp hv hb
    have hpw : (1 : Int) ≤ 10 ^ m := Int.pow_pos (by decide)
    have e : (b + 1) * (10 : Int) ^ (m + 1) = (10 * b + 9 + 1) * 10 ^ m := by
      rw [Int.pow_succ, Int.mul_comm ((10 : Int) ^ m) 10, ← Int.mul_assoc, show (b + 1) * 10 = 10 * b + 9 + 1 by omega]
    rw [dgN_s, e]
    by_cases c : dgP T n p
    · rw [if_pos c]
      have hlt := dgP_in hp.1 c
      have c' := c
      unfold dgP at c'
      have := ih (10 * v + (sgF T n p - 48)) (p + 1) (10 * b + 9) (by omega) (by omega) (by omega)
      exact ⟨this.1, by omega, this.2.2⟩
    · rw [if_neg c]
      refine ⟨⟨hv.1, ?_⟩, Int.le_refl _, hp.2⟩
      have : (10 * b + 9 + 1) * 1 ≤ (10 * b + 9 + 1) * 10 ^ m := Int.mul_le_mul_of_nonneg_left hpw (by omega)
      show v ≤ _
      omega
theorem dgF_rng {T : rW} {n : Int} {k : Nat} {s : Ps} (hk : k ≤ 4) (h : sOk n s) : (0 ≤ (dgF T n k s).1 ∧ (dgF T n k s).1 ≤ 9999) ∧ sOk n (dgF T n k s).2 := by
  unfold dgF
  by_cases c : s.2 = 0 ∧ dgP T n s.1
  · rw [if_pos c]
    have := dgN_rng (T := T) (n := n) k 0 s.1 0 h.1 (by decide) (by decide)
    have hp : (10 : Int) ^ k ≤ 10 ^ 4 := by
      rw [show (10 : Int) ^ k = ((10 ^ k : Nat) : Int) by rw [Int.natCast_pow]; rfl, show (10 : Int) ^ 4 = ((10 ^ 4 : Nat) : Int) from rfl]
      exact Int.ofNat_le.mpr (Nat.pow_le_pow_right (by decide) hk)
    have h4 : (10 : Int) ^ 4 = 10000 := by decide
    have h1 := h.1
    refine ⟨⟨this.1.1, ?_⟩, ⟨?_, Or.inl rfl⟩⟩
    · have := this.1.2; show (dgN T n k 0 s.1).1 ≤ 9999; omega
    · show 0 ≤ (dgN T n k 0 s.1).2 ∧ (dgN T n k 0 s.1).2 ≤ n
      omega
  · rw [if_neg c]
    exact ⟨⟨Int.le_refl _, show (0 : Int) ≤ 9999 by decide⟩, h.1, Or.inr rfl⟩
theorem m_digits {k : Nat} {n : Int} {T : rW} {s : Ps} {g : mG} {d : mD} {Q : mQ} (hk : k ≤ 4) (hn : n ≤ 60) (hs : sOk n s) (hp : PS d T n s) (h : ∀ d', FrA d d' → PS d' T n (dgF T n k s).2 → Q (.inl (dgF T n k s).1) g d') : MM mX12_digits [vR 65, vI k] g d Q := by
  have hp0 := hp
  obtain ⟨e69, e7, e17, e18⟩ := hp
  obtain ⟨h1, h2⟩ := hs
  have hD : ∀ p, 0 ≤ p → (((¬ (n ≤ p)) ∧ ((¬ (T p < 48)) ∧ (¬ (57 < T p)))) ↔ dgP T n p) := fun p hp => by
    unfold dgP
    by_cases z : n ≤ p
    · rw [sgF_out z hp]; omega
    · rw [sgF_in ⟨hp, by omega⟩]; omega
  refine eX12_digits ?_
  rw [e69, e7, e17, e18]
  refine ⟨fun _ _ _ => by omega, ?_⟩
  have hw : (¬ ((¬ (s.2 = 0)) ∨ (¬ ((s.2 = 0) ∧ ((¬ (n ≤ s.1)) ∧ ((¬ (T s.1 < 48)) ∧ (¬ (57 < T s.1)))))))) ↔ (s.2 = 0 ∧ dgP T n s.1) := by
    rw [← hD s.1 h1.1]; omega
  by_cases c : s.2 = 0 ∧ dgP T n s.1
  · have hl : ∀ (m : Nat) (v i p : Int) (d' : mD), 0 ≤ i → i + m = k → 0 ≤ p ∧ p ≤ n → (0 ≤ v ∧ (i ≤ 0 → v ≤ 0) ∧ (i ≤ 1 → v ≤ 9) ∧ (i ≤ 2 → v ≤ 99) ∧ (i ≤ 3 → v ≤ 999) ∧ v ≤ 9999) → FrA d d' → PS d' T n (p, 0) → dgN T n m v p = dgN T n k 0 s.1 → pX12_digits_1 k v i g d' Q := by
      intro m
      induction m with
      | zero =>
        intro v i p d' hi him hp hv hf hps he
        refine aX12_digits_1 ⟨fun z => absurd (by omega) z, fun z => absurd z.1 (by omega), fun _ => ?_⟩
        have ev : (dgF T n k s) = (v, (p, 0)) := by
          unfold dgF
          rw [if_pos c, ← he]; rfl
        rw [ev] at h
        exact h d' hf hps
      | succ m ih =>
        intro v i p d' hi him hp hv hf hps he
        have hps0 := hps
        obtain ⟨f69, f7, f17, f18⟩ := hps
        dsimp only at f17 f18
        refine aX12_digits_1 ?_
        rw [f69, f7, f17, f18]
        have hd := hD p hp.1
        rw [dgN_s] at he
        refine ⟨fun _ _ _ => by omega, fun z => ?_, fun z => ?_⟩
        · have zd : dgP T n p := hd.1 z.2.2
          rw [if_pos zd] at he
          have hlt := dgP_in hp.1 zd
          have zd' := zd
          unfold dgP at zd'
          rw [sgF_in ⟨hp.1, hlt⟩] at zd' he
          rw [show 10 * v + (T p - 48) = 10 * v + T p - 48 by omega] at he
          exact ⟨ik (by omega), by omega, ik (by omega), ik (by omega), ik (by omega), ik (by omega), ih _ (i + 1) (p + 1) _ (by omega) (by omega) (by omega) (by omega) (hf.tr (fun b j q => by rw [ud_ne (by omega)])) (hps0.fr (fun b j q => by rw [ud_ne (by omega)]) (ud_same _ _ _ _) (by rw [ud_ne (by omega)]; exact f18)) he⟩
        · have zd : ¬ dgP T n p := fun y => z ⟨by omega, rfl, hd.2 y⟩
          rw [if_neg zd] at he
          have ev : (dgF T n k s) = (v, (p, 0)) := by
            unfold dgF
            rw [if_pos c, ← he]
          rw [ev] at h
          exact h d' hf hps0
    rw [bI_f (fun z => (hw.2 c) z)]
    exact hl k 0 0 s.1 _ (by omega) (by omega) h1 (by omega) (fun b j q => by rw [ud_ne (by omega)]) (hp0.fr (fun b j q => by rw [ud_ne (by omega)]) (by rw [ud_ne (by omega)]; exact e17) (ud_same _ _ _ _)) rfl
  · rw [bI_t (Classical.not_not.mp (fun z => c (hw.1 z)))]
    have ev : (dgF T n k s) = (0, (s.1, 1)) := if_neg c
    rw [ev] at h
    refine aX12_digits_1 ?_
    rw [ud_same]
    refine ⟨fun _ z => absurd z (by decide), fun z => absurd z.2.1 (by decide), fun _ => h _ (fun b j q => by rw [ud_ne (by omega)]) (hp0.fr (fun b j q => by rw [ud_ne (by omega)]) (by rw [ud_ne (by omega)]; exact e17) (ud_same _ _ _ _))⟩
noncomputable def arF (T : rW) (n : Int) (k : Nat) (s : Ps) : Int × Ps := dgF T n k (tk T n 32 s)
theorem m_argument {k : Nat} {n : Int} {T : rW} {s : Ps} {g : mG} {d : mD} {Q : mQ} (hk : k ≤ 4) (hn : n ≤ 60) (hs : sOk n s) (hp : PS d T n s) (h : ∀ d', FrA d d' → PS d' T n (arF T n k s).2 → Q (.inl (arF T n k s).1) g d') : MM mX12_argument [vR 65, vI k] g d Q :=
  eX12_argument (m_take hn hs hp (by decide) fun d1 f1 p1 => m_digits hk hn (tk_ok hs (by decide)) p1 fun d2 f2 p2 => h d2 (f1.tr f2) p2)
