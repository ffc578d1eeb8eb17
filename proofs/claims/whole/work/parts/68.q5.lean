-- answers, fifth part: the busiest day, the mean
def onD (R : rW) (x : Int) (i : Int) : Prop := opn R i ∧ odF R i = x
noncomputable def ctD (R : rW) (x : Int) : Int := cnN (onD R x) (R 3).toNat 0
def bsP (R : rW) (i b m : Int) : Prop := opn R i ∧ ¬ odF R i = 5000 ∧ (m < ctD R (odF R i) ∨ (ctD R (odF R i) = m ∧ ¬ b ≤ odF R i))
noncomputable def bsN (R : rW) : Nat → Int → Int → Int → mO
  | 0, _, b, m => iO (m = 0) (.inr 4) (.inl b)
  | n + 1, i, b, m => iO (bsP R i b m) (bsN R n (i + 1) (odF R i) (ctD R (odF R i))) (bsN R n (i + 1) b m)
noncomputable def r_busiestDay (R : rW) : mO := bsN R (R 3).toNat 0 (-1) 0
theorem bsN_s {R : rW} {n : Nat} {i b m : Int} : bsN R (n + 1) i b m = iO (bsP R i b m) (bsN R n (i + 1) (odF R i) (ctD R (odF R i))) (bsN R n (i + 1) b m) := rfl
theorem cnN_pos {P : Int → Prop} {z : Int} : ∀ (n : Nat) (a : Int), a ≤ z → z < a + n → P z → 1 ≤ cnN P n a := by
  intro n
  induction n with
  | zero => intro a h1 h2 _; omega
  | succ n ih =>
    intro a h1 h2 h
    have hr := cnN_rng P n (a + 1)
    show 1 ≤ bI (P a) + cnN P n (a + 1)
    by_cases e : a = z
    · subst e; rw [bI_t h]; omega
    · have := ih (a + 1) (by omega) (by omega) h
      have := @bI_rng (P a)
      omega
theorem ctD_pos {R : rW} {i : Int} (hi : 0 ≤ i ∧ i < R 3) (h : opn R i) : 1 ≤ ctD R (odF R i) := cnN_pos _ _ hi.1 (by omega) ⟨h, rfl⟩
theorem ctD_rng {R : rW} {x : Int} : 0 ≤ ctD R x ∧ ctD R x ≤ (R 3).toNat := cnN_rng _ _ _
theorem bsN_0 {R : rW} {b b' : Int} : ∀ (n : Nat) (i : Int), 0 ≤ i → i + n ≤ R 3 → bsN R n i b 0 = bsN R n i b' 0 := by
  intro n
  induction n with
  | zero => intro i _ _; show iO ((0 : Int) = 0) _ _ = iO ((0 : Int) = 0) _ _; rw [iO_t rfl, iO_t rfl]
  | succ n ih =>
    intro i h0 h1
    rw [bsN_s, bsN_s, ih (i + 1) (by omega) (by omega)]
    have e : bsP R i b 0 ↔ bsP R i b' 0 := by
      unfold bsP
      refine and_congr_right fun q => and_congr_right fun _ => ?_
      have := ctD_pos (R := R) (i := i) (by omega) q
      omega
    rw [propext e]
theorem q_countOpenDueOn {R : rW} {x : Int} {g : mG} {d : mD} {Q : mQ} (hC : CI d R) (ho : ∀ j, 0 ≤ j → j < R 3 → d 59 j = odF R j) (h : Q (.inl (ctD R x)) g d) : MM mX11_countOpenDueOn [vR 0, vI x] g d Q := by
  have h3 := hC.w.n.2.2.2.1
  have e3 := hC.dl.1
  have hl : ∀ (m : Nat) (acc k : Int), 0 ≤ k → k + m = R 3 → 0 ≤ acc → acc ≤ k → acc + cnN (onD R x) m k = ctD R x → pX11_countOpenDueOn_1 x acc k g d Q := by
    intro m
    induction m with
    | zero =>
      intro acc k hk hm q1 q2 he
      rw [show ∀ P, acc + cnN P 0 k = acc from fun _ => Int.add_zero _] at he
      rw [he]
      exact aX11_countOpenDueOn_1 ⟨fun _ => h, fun c => absurd (by omega) c⟩
    | succ m ih =>
      intro acc k hk hm q1 q2 he
      rw [show ∀ P, acc + cnN P (m + 1) k = acc + bI (P k) + cnN P m (k + 1) from fun P => (Int.add_assoc _ _ _).symm] at he
      have es : d 27 k = R (145 + 16 * k) := (hC.dl.2 k (by omega)).2.2.2.2.2.2.2.2.2.2
      have ek := ho k (by omega) (by omega)
      have ed : onD R x k ↔ (d 27 k = 111 ∧ d 59 k = x) := by
        rw [ek, es]; exact Iff.rfl
      refine aX11_countOpenDueOn_1 ⟨fun c => absurd c (by omega), fun _ => ⟨by omega, fun c => ⟨ik (by omega), ik (by omega), ?_⟩, fun c => ⟨ik (by omega), ?_⟩⟩⟩
      · rw [bI_t (ed.2 c)] at he
        exact ih _ (k + 1) (by omega) (by omega) (by omega) (by omega) he
      · rw [bI_f (fun q => c (ed.1 q)), Int.add_zero] at he
        exact ih _ (k + 1) (by omega) (by omega) (by omega) (by omega) he
  exact eX11_countOpenDueOn (hl (R 3).toNat 0 0 (by omega) (by omega) (by omega) (by omega) (Int.zero_add _))
theorem q_busiestDay {R : rW} {g : mG} {d : mD} {Q : mQ} (hC : CI d R) (h : HQ (r_busiestDay R) d g Q) : MM mX11_busiestDay [vR 0] g d Q := by
  have h3 := hC.w.n.2.2.2.1
  refine eX11_busiestDay (q_findOpenDues hC fun d' hf ho => ?_)
  have hC' := hC.frS hf
  have e3 := hC'.dl.1
  have hl : ∀ (m : Nat) (b n k : Int), 0 ≤ k → k + m = R 3 → 0 ≤ n → (b = 5000 ↔ n = 0) → bsN R m k b n = r_busiestDay R → pX11_busiestDay_1 b n k g d' Q := by
    intro m
    induction m with
    | zero =>
      intro b n k hk hm hn hb he
      rw [show bsN R 0 k b n = iO (n = 0) (.inr 4) (.inl b) from rfl] at he
      refine aX11_busiestDay_1 ⟨fun _ => ⟨fun c => ?_, fun c => ?_⟩, fun c => absurd (by omega) c⟩
      · rw [iO_t (by omega)] at he
        exact h.s hf he.symm
      · rw [iO_f (by omega)] at he
        exact h.s hf he.symm
    | succ m ih =>
      intro b n k hk hm hn hb he
      have es : d' 27 k = R (145 + 16 * k) := (hC'.dl.2 k (by omega)).2.2.2.2.2.2.2.2.2.2
      have ek := ho k (by omega) (by omega)
      rw [bsN_s] at he
      refine aX11_busiestDay_1 ⟨fun c => absurd c (by omega), fun _ => ⟨by omega, fun c => q_countOpenDueOn hC' ho ?_, fun c => ?_⟩⟩
      · rw [ek] at c ⊢
        have c1 : opn R k := es.symm.trans c.1
        have hp := ctD_pos (R := R) (i := k) (by omega) c1
        have hq := ctD_rng (R := R) (x := odF R k)
        refine ⟨fun c2 => ⟨ik (by omega), ?_⟩, fun c2 => ⟨ik (by omega), ?_⟩⟩
        · rw [iO_t ⟨c1, c.2, by omega⟩] at he
          exact ih _ _ (k + 1) (by omega) (by omega) (by omega) (by omega) he
        · rw [iO_f (fun q => c2 (by have := q.2.2; omega))] at he
          exact ih _ _ (k + 1) (by omega) (by omega) (by omega) hb he
      · rw [iO_f (fun q => c ⟨es.trans q.1, by rw [ek]; exact q.2.1⟩)] at he
        have k1 := ih _ _ (k + 1) (by omega) (by omega) hn hb he
        exact ⟨fun c2 => absurd c2 (by omega), fun _ => ⟨fun _ => ⟨ik (by omega), k1⟩, fun _ => ⟨ik (by omega), k1⟩⟩⟩
  exact hl (R 3).toNat 5000 0 0 (by omega) (by omega) (by omega) (by omega) (bsN_0 _ _ (by omega) (by omega))
theorem m_busiestDay {g : mG} {d : mD} {Q : mQ} (hR : RW (d 66)) (h : HN [4] (r_busiestDay (d 66)) d g Q) : MM mX12_busiestDay [vR 65] g d Q := by
  refine eX12_busiestDay (m_findDues r66 hR fun d' hf ho => ?_)
  have e : d' 66 = d 66 := (funext fun j => hf 66 j (by decide)).trans r66
  have h3 := hR.n.2.2.2.1
  have hl2 : ∀ (m : Nat) (b n i acc k : Int), (0 ≤ i ∧ i < d 66 3) → 0 ≤ k → k + m = d 66 3 → 0 ≤ acc → acc ≤ k → acc + cnN (onD (d 66) (odF (d 66) i)) m k = ctD (d 66) (odF (d 66) i) → (bsP (d 66) i b n → pX12_busiestDay_1 (odF (d 66) i) (ctD (d 66) (odF (d 66) i)) (i + 1) g d' Q) → (¬ bsP (d 66) i b n → pX12_busiestDay_1 b n (i + 1) g d' Q) → pX12_busiestDay_2 b n i acc k g d' Q := by
    intro m
    induction m with
    | zero =>
      intro b n i acc k hi hk hm q1 q2 he k1 k2
      rw [show ∀ P, acc + cnN P 0 k = acc from fun _ => Int.add_zero _] at he
      subst he
      have hd := odF_rng hR hi
      refine aX12_busiestDay_2 ?_
      rw [e, ho i (by omega) (by omega)]
      refine ⟨fun _ => ⟨by omega, fun c => ⟨ik (by omega), k1 ⟨c.1, by omega, c.2.2⟩⟩, fun c => ⟨ik (by omega), k2 fun q => c ⟨q.1, ?_, q.2.2⟩⟩⟩, fun c => absurd (by omega) c⟩
      have := q.2.1
      omega
    | succ m ih =>
      intro b n i acc k hi hk hm q1 q2 he k1 k2
      rw [show ∀ P, acc + cnN P (m + 1) k = acc + bI (P k) + cnN P m (k + 1) from fun P => (Int.add_assoc _ _ _).symm] at he
      have hr := @bI_rng (onD (d 66) (odF (d 66) i) k)
      refine aX12_busiestDay_2 ?_
      rw [e, ho i (by omega) (by omega), ho k (by omega) (by omega)]
      show _ ∧ (_ → _ ∧ (_ ∧ (iI (acc + bI (onD (d 66) (odF (d 66) i) k)) ∧ (iI (k + 1) ∧ pX12_busiestDay_2 b n i (acc + bI (onD (d 66) (odF (d 66) i) k)) (k + 1) g d' Q))))
      exact ⟨fun c => absurd c (by omega), fun _ => ⟨by omega, fun _ => by omega, ik (by omega), ik (by omega), ih b n i _ (k + 1) hi (by omega) (by omega) (by omega) (by omega) he k1 k2⟩⟩
  have hl : ∀ (m : Nat) (b n k : Int), 0 ≤ k → k + m = d 66 3 → bsN (d 66) m k b n = r_busiestDay (d 66) → pX12_busiestDay_1 b n k g d' Q := by
    intro m
    induction m with
    | zero =>
      intro b n k hk hm he
      rw [show bsN (d 66) 0 k b n = iO (n = 0) (.inr 4) (.inl b) from rfl] at he
      refine aX12_busiestDay_1 ?_
      rw [e]
      refine ⟨fun _ => f_failsM (by rw [hf 65 5 (by decide), ud_same]) (by decide) (fun c => ?_) (fun c => ?_), fun c => absurd (by omega) c⟩
      · show Q (.inl (iT ((1 : Int) = 0) b 0)) g _
        rw [iT_f (by decide)]
        rw [iO_t c] at he
        exact h.e2 hf he.symm rfl 0
      · show Q (.inl (iT ((0 : Int) = 0) b 0)) g _
        rw [iT_t rfl]
        rw [iO_f c] at he
        exact h.v2 hf he.symm
    | succ m ih =>
      intro b n k hk hm he
      rw [bsN_s] at he
      refine aX12_busiestDay_1 ?_
      rw [e]
      refine ⟨fun c => absurd c (by omega), fun _ => hl2 (d 66 3).toNat b n k 0 0 (by omega) (by omega) (by omega) (by omega) (by omega) (Int.zero_add _) (fun c => ?_) (fun c => ?_)⟩
      · rw [iO_t c] at he
        exact ih _ _ (k + 1) (by omega) (by omega) he
      · rw [iO_f c] at he
        exact ih _ _ (k + 1) (by omega) (by omega) he
  exact hl (d 66 3).toNat (-1) 0 0 (by omega) (by omega) rfl
