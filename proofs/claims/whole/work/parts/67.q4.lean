-- answers, fourth part: the open deadlines
def opn (R : rW) (i : Int) : Prop := R (145 + 16 * i) = 111
noncomputable def odF (R : rW) (i : Int) : Int := iT (opn R i) (dueF R i) 5000
theorem odF_o {R : rW} {i : Int} (h : opn R i) : odF R i = dueF R i := iT_t h
theorem odF_c {R : rW} {i : Int} (h : ¬ opn R i) : odF R i = 5000 := iT_f h
theorem odF_rng {R : rW} (hR : RW R) {i : Int} (hi : 0 ≤ i ∧ i < R 3) : 0 ≤ odF R i ∧ odF R i ≤ 5000 := by
  by_cases c : opn R i
  · rw [odF_o c]; exact dueF_rng hR hi
  · rw [odF_c c]; decide
theorem q_findOpenDues {R : rW} {g : mG} {d : mD} {Q : mQ} (hC : CI d R) (h : ∀ d', FrS d d' → (∀ j, 0 ≤ j → j < R 3 → d' 59 j = odF R j) → Q (.inl 0) g d') : MM mX11_findOpenDues [vR 0] g d Q := by
  have h3 := hC.w.n.2.2.2.1
  have hl : ∀ (m : Nat) (x : Int) (d' : mD), FrS d d' → 0 ≤ x → x + m = R 3 → (∀ j, 0 ≤ j → j < x → d' 59 j = odF R j) → pX11_findOpenDues_1 x g d' Q := by
    intro m
    induction m with
    | zero =>
      intro x d' hf hx hm ho
      have e3 := (hC.frS hf).dl.1
      exact aX11_findOpenDues_1 (R := R) ⟨fun _ => h d' hf (fun j q1 q2 => ho j q1 (by omega)), fun c => absurd (by omega) c⟩
    | succ m ih =>
      intro x d' hf hx hm ho
      have hC' := hC.frS hf
      have e3 := hC'.dl.1
      have es := (hC'.dl.2 x (by omega)).2.2.2.2.2.2.2.2.2.2
      refine aX11_findOpenDues_1 (R := R) ⟨fun c => absurd c (by omega), fun _ => ⟨by omega, fun c => ⟨hC', by omega, fun d'' hf2 => ⟨ik (by omega), ih (x + 1) _ ?_ (by omega) (by omega) ?_⟩⟩, fun c => ⟨ik (by omega), ih (x + 1) _ ?_ (by omega) (by omega) ?_⟩⟩⟩
      · intro b j q1 q2
        rw [ud_ne (by omega)]
        exact (hf.tr (FrS.w hf2)) b j q1 q2
      · intro j q1 q2
        by_cases e : j = x
        · subst e
          rw [ud_same, odF_o (by unfold opn; omega)]
        · rw [ud_ne (by omega), hf2 (by omega)]
          exact ho j q1 (by omega)
      · intro b j q1 q2
        rw [ud_ne (by omega)]
        exact hf b j q1 q2
      · intro j q1 q2
        by_cases e : j = x
        · subst e
          rw [ud_same, odF_c (by unfold opn; omega)]
        · rw [ud_ne (by omega)]
          exact ho j q1 (by omega)
  exact eX11_findOpenDues (hl (R 3).toNat 0 d FrS.rf (by omega) (by omega) (fun j q1 q2 => by omega))
theorem m_findDues {R : rW} {g : mG} {d : mD} {Q : mQ} (e66 : d 66 = R) (hR : RW R) (h : ∀ d', (∀ b j : Int, b ≠ 73 → d' b j = d b j) → (∀ j, 0 ≤ j → j < R 3 → d' 73 j = odF R j) → Q (.inl 0) g d') : MM mX12_findDues [vR 65] g d Q := by
  have h3 := hR.n.2.2.2.1
  have hl : ∀ (m : Nat) (x : Int) (d' : mD), (∀ b j : Int, b ≠ 73 → d' b j = d b j) → 0 ≤ x → x + m = R 3 → (∀ j, 0 ≤ j → j < x → d' 73 j = odF R j) → pX12_findDues_1 x g d' Q := by
    intro m
    induction m with
    | zero =>
      intro x d' hf hx hm ho
      have e : d' 66 = R := (funext fun j => hf 66 j (by decide)).trans e66
      exact aX12_findDues_1 ⟨fun _ => h d' hf (fun j q1 q2 => ho j q1 (by omega)), fun c => absurd (by rw [e]; omega) c⟩
    | succ m ih =>
      intro x d' hf hx hm ho
      have e : d' 66 = R := (funext fun j => hf 66 j (by decide)).trans e66
      refine aX12_findDues_1 ?_
      rw [e]
      refine ⟨fun c => absurd c (by omega), fun _ => ⟨by omega, fun _ => hR, fun _ => by omega, ik (by omega), ih (x + 1) _ ?_ (by omega) (by omega) ?_⟩⟩
      · intro b j q1
        rw [ud_ne (by omega)]
        exact hf b j q1
      · intro j q1 q2
        by_cases ej : j = x
        · subst ej
          rw [ud_same]
          by_cases c : R (145 + 16 * j) = 111
          · rw [iT_t c, odF_o c]
            unfold dueM
            by_cases c2 : dueF R j = 5000
            · rw [iT_t ((noD_1 (dueF_rng hR (by omega)).1).2 c2), c2]
            · rw [iT_f (fun q => c2 ((noD_1 (dueF_rng hR (by omega)).1).1 q)), noD_n c2]
          · rw [iT_f c, odF_c c, iT_t rfl]
        · rw [ud_ne (by omega)]
          exact ho j q1 (by omega)
  exact eX12_findDues (hl (R 3).toNat 0 d (fun _ _ _ => rfl) (by omega) (by omega) (fun j q1 q2 => by omega))
theorem FrN.e {d d' d'' : mD} (h : ∀ b j : Int, b ≠ 73 → d' b j = ud d 65 5 0 b j) (h2 : d'' = d') : FrN d d'' := fun b j q1 q2 => by rw [h2, h b j q2, ud_ne (by omega)]
-- the answers of a loop, with a code in 65.5 that is still 0
theorem HN.v2 {l : List Nat} {r : mO} {d d' : mD} {g : mG} {Q : mQ} (h : HN l r d g Q) (hf : ∀ b j : Int, b ≠ 73 → d' b j = ud d 65 5 0 b j) {w : Int} (hr : r = .inl w) : Q (.inl w) g d' := by
  refine h w d' (FrN.e hf rfl) ?_ (fun w' hw => ?_)
  · rw [hf 65 5 (by decide), ud_same, hr]; rfl
  · rw [hr] at hw; cases hw; rfl
theorem HN.e2 {l : List Nat} {r : mO} {d d' : mD} {g : mG} {Q : mQ} (h : HN l r d g Q) (hf : ∀ b j : Int, b ≠ 73 → d' b j = ud d 65 5 0 b j) {e : Nat} {k : Int} (hr : r = .inr e) (hk : ix e l = k) (v : Int) : Q (.inl v) g (ud d' 65 5 k) := by
  refine h v _ (fun b j q1 q2 => ?_) ?_ (fun w hw => ?_)
  · rw [ud_ne (by omega), hf b j q2, ud_ne (by omega)]
  · rw [ud_same, hr]; exact hk.symm
  · rw [hr] at hw; cases hw
-- the place in the order
def bef (R : rW) (i j : Int) : Prop := opn R j ∧ (odF R j < odF R i ∨ (odF R j = odF R i ∧ ¬ i ≤ j))
noncomputable def rkF (R : rW) (i : Int) : Int := cnN (bef R i) (R 3).toNat 0
noncomputable def oaN (R : rW) (x : Int) : Nat → Int → mO
  | 0, _ => .inr 4
  | n + 1, i => iO (opn R i ∧ rkF R i = x) (.inl i) (oaN R x n (i + 1))
noncomputable def r_openAt (R : rW) (x : Int) : mO := oaN R x (R 3).toNat 0
theorem q_countOpenAhead {R : rW} {x : Int} {g : mG} {d : mD} {Q : mQ} (hC : CI d R) (hx : 0 ≤ x ∧ x < R 3) (ho : ∀ j, 0 ≤ j → j < R 3 → d 59 j = odF R j) (h : Q (.inl (rkF R x)) g d) : MM mX11_countOpenAhead [vR 0, vI x] g d Q := by
  have h3 := hC.w.n.2.2.2.1
  have e3 := hC.dl.1
  have hl : ∀ (m : Nat) (acc k : Int), 0 ≤ k → k + m = R 3 → 0 ≤ acc → acc ≤ k → acc + cnN (bef R x) m k = rkF R x → pX11_countOpenAhead_1 x acc k g d Q := by
    intro m
    induction m with
    | zero =>
      intro acc k hk hm q1 q2 he
      rw [show ∀ P, acc + cnN P 0 k = acc from fun _ => Int.add_zero _] at he
      rw [he]
      exact aX11_countOpenAhead_1 ⟨fun _ => h, fun c => absurd (by omega) c⟩
    | succ m ih =>
      intro acc k hk hm q1 q2 he
      rw [show ∀ P, acc + cnN P (m + 1) k = acc + bI (P k) + cnN P m (k + 1) from fun P => (Int.add_assoc _ _ _).symm] at he
      have es : d 27 k = R (145 + 16 * k) := (hC.dl.2 k (by omega)).2.2.2.2.2.2.2.2.2.2
      have ek := ho k (by omega) (by omega)
      have ex := ho x (by omega) (by omega)
      have ey : bef R x k → bI (bef R x k) = 1 := bI_t
      have en : ¬ bef R x k → bI (bef R x k) = 0 := bI_f
      have ed : bef R x k ↔ (d 27 k = 111 ∧ (d 59 k < d 59 x ∨ (d 59 k = d 59 x ∧ ¬ x ≤ k))) := by
        rw [ek, ex, es]; exact Iff.rfl
      refine aX11_countOpenAhead_1 ⟨fun c => absurd c (by omega), fun _ => ⟨by omega, by omega, fun c => ⟨fun c2 => ⟨ik (by omega), ik (by omega), ?_⟩, fun c2 => ⟨ik (by omega), ?_⟩⟩, fun c => ⟨fun c2 => ⟨ik (by omega), ?_⟩, fun c2 => ⟨ik (by omega), ?_⟩⟩⟩⟩
      · rw [ey (ed.2 ⟨c2, c⟩)] at he
        exact ih _ (k + 1) (by omega) (by omega) (by omega) (by omega) he
      · rw [en (fun q => c2 (ed.1 q).1), Int.add_zero] at he
        exact ih _ (k + 1) (by omega) (by omega) (by omega) (by omega) he
      · rw [en (fun q => c (ed.1 q).2), Int.add_zero] at he
        exact ih _ (k + 1) (by omega) (by omega) (by omega) (by omega) he
      · rw [en (fun q => c (ed.1 q).2), Int.add_zero] at he
        exact ih _ (k + 1) (by omega) (by omega) (by omega) (by omega) he
  exact eX11_countOpenAhead (hl (R 3).toNat 0 0 (by omega) (by omega) (by omega) (by omega) (Int.zero_add _))
theorem q_openAt {R : rW} {x : Int} {g : mG} {d : mD} {Q : mQ} (hC : CI d R) (h : HQ (r_openAt R x) d g Q) : MM mX11_openAt [vR 0, vI x] g d Q := by
  have h3 := hC.w.n.2.2.2.1
  refine eX11_openAt (q_findOpenDues hC fun d' hf ho => ?_)
  have hC' := hC.frS hf
  have e3 := hC'.dl.1
  have hl : ∀ (m : Nat) (k : Int), 0 ≤ k → k + m = R 3 → oaN R x m k = r_openAt R x → pX11_openAt_1 x k g d' Q := by
    intro m
    induction m with
    | zero => intro k hk hm he; exact aX11_openAt_1 ⟨fun _ => h.s hf he.symm, fun c => absurd (by omega) c⟩
    | succ m ih =>
      intro k hk hm he
      have es : d' 27 k = R (145 + 16 * k) := (hC'.dl.2 k (by omega)).2.2.2.2.2.2.2.2.2.2
      rw [show oaN R x (m + 1) k = iO (opn R k ∧ rkF R k = x) (.inl k) (oaN R x m (k + 1)) from rfl] at he
      refine aX11_openAt_1 ⟨fun c => absurd c (by omega), fun _ => ⟨by omega, fun c => q_countOpenAhead hC' (by omega) ho ⟨fun c2 => ?_, fun c2 => ⟨ik (by omega), ?_⟩⟩, fun c => ⟨ik (by omega), ?_⟩⟩⟩
      · rw [iO_t ⟨es.symm.trans c, c2⟩] at he
        exact h.s hf he.symm
      · rw [iO_f (fun q => c2 q.2)] at he
        exact ih (k + 1) (by omega) (by omega) he
      · rw [iO_f (fun q => c (es.trans q.1))] at he
        exact ih (k + 1) (by omega) (by omega) he
  exact hl (R 3).toNat 0 (by omega) (by omega) rfl
theorem m_openAt {x : Int} {g : mG} {d : mD} {Q : mQ} (hR : RW (d 66)) (h : HN [4] (r_openAt (d 66) x) d g Q) : MM mX12_openAt [vR 65, vI x] g d Q := by
  refine eX12_openAt (m_findDues r66 hR fun d' hf ho => ?_)
  have e : d' 66 = d 66 := (funext fun j => hf 66 j (by decide)).trans r66
  have h3 := hR.n.2.2.2.1
  have hl2 : ∀ (m : Nat) (i acc k : Int), (0 ≤ i ∧ i < d 66 3) → 0 ≤ k → k + m = d 66 3 → 0 ≤ acc → acc ≤ k → acc + cnN (bef (d 66) i) m k = rkF (d 66) i → (opn (d 66) i → rkF (d 66) i = x → Q (.inl i) g d') → (¬ (opn (d 66) i ∧ rkF (d 66) i = x) → pX12_openAt_1 x (i + 1) g d' Q) → pX12_openAt_2 x i acc k g d' Q := by
    intro m
    induction m with
    | zero =>
      intro i acc k hi hk hm q1 q2 he k1 k2
      rw [show ∀ P, acc + cnN P 0 k = acc from fun _ => Int.add_zero _] at he
      subst he
      refine aX12_openAt_2 ?_
      rw [e]
      exact ⟨fun _ => ⟨by omega, fun c => k1 c.1 c.2, fun c => ⟨ik (by omega), k2 c⟩⟩, fun c => absurd (by omega) c⟩
    | succ m ih =>
      intro i acc k hi hk hm q1 q2 he k1 k2
      rw [show ∀ P, acc + cnN P (m + 1) k = acc + bI (P k) + cnN P m (k + 1) from fun P => (Int.add_assoc _ _ _).symm] at he
      refine aX12_openAt_2 ?_
      rw [e, ho k (by omega) (by omega), ho i (by omega) (by omega)]
      refine ⟨fun c => absurd c (by omega), fun _ => ⟨by omega, fun _ => by omega, fun _ _ => by omega, fun c => ⟨ik (by omega), ik (by omega), ?_⟩, fun c => ⟨ik (by omega), ik (by omega), ?_⟩⟩⟩
      · rw [show bI (bef (d 66) i k) = 1 from bI_t c] at he
        exact ih i _ (k + 1) hi (by omega) (by omega) (by omega) (by omega) he k1 k2
      · rw [show bI (bef (d 66) i k) = 0 from bI_f c] at he
        exact ih i _ (k + 1) hi (by omega) (by omega) (by omega) (by omega) he k1 k2
  have hl : ∀ (m : Nat) (k : Int), 0 ≤ k → k + m = d 66 3 → oaN (d 66) x m k = r_openAt (d 66) x → pX12_openAt_1 x k g d' Q := by
    intro m
    induction m with
    | zero =>
      intro k hk hm he
      refine aX12_openAt_1 ?_
      rw [e]
      refine ⟨fun _ => f_fails1 (by rw [hf 65 5 (by decide), ud_same]) (by decide) ?_, fun c => absurd (by omega) c⟩
      exact h.e2 hf he.symm rfl 0
    | succ m ih =>
      intro k hk hm he
      rw [show oaN (d 66) x (m + 1) k = iO (opn (d 66) k ∧ rkF (d 66) k = x) (.inl k) (oaN (d 66) x m (k + 1)) from rfl] at he
      refine aX12_openAt_1 ?_
      rw [e]
      refine ⟨fun c => absurd c (by omega), fun _ => hl2 (d 66 3).toNat k 0 0 (by omega) (by omega) (by omega) (by omega) (by omega) (Int.zero_add _) (fun c1 c2 => ?_) (fun c => ?_)⟩
      · rw [iO_t ⟨c1, c2⟩] at he
        exact h.v2 hf he.symm
      · rw [iO_f c] at he
        exact ih (k + 1) (by omega) (by omega) he
  exact hl (d 66 3).toNat 0 (by omega) (by omega) rfl
-- overdue
def ovd (R : rW) (i : Int) : Prop := opn R i ∧ odF R i < R 0
noncomputable def r_overdue (R : rW) : mO := .inl (cnN (ovd R) (R 3).toNat 0)
theorem q_overdue {R : rW} {g : mG} {d : mD} {Q : mQ} (hC : CI d R) (h : HQ (r_overdue R) d g Q) : MM mX11_overdue [vR 0] g d Q := by
  have h3 := hC.w.n.2.2.2.1
  refine eX11_overdue (q_findOpenDues hC fun d' hf ho => ?_)
  have hC' := hC.frS hf
  have e3 := hC'.dl.1
  have e0 := hC'.cal.1
  have hl : ∀ (m : Nat) (acc k : Int), 0 ≤ k → k + m = R 3 → 0 ≤ acc → acc ≤ k → acc + cnN (ovd R) m k = cnN (ovd R) (R 3).toNat 0 → pX11_overdue_1 acc k g d' Q := by
    intro m
    induction m with
    | zero =>
      intro acc k hk hm q1 q2 he
      rw [show ∀ P, acc + cnN P 0 k = acc from fun _ => Int.add_zero _] at he
      rw [he]
      exact aX11_overdue_1 ⟨fun _ => h.s hf rfl, fun c => absurd (by omega) c⟩
    | succ m ih =>
      intro acc k hk hm q1 q2 he
      rw [show ∀ P, acc + cnN P (m + 1) k = acc + bI (P k) + cnN P m (k + 1) from fun P => (Int.add_assoc _ _ _).symm] at he
      have es : d' 27 k = R (145 + 16 * k) := (hC'.dl.2 k (by omega)).2.2.2.2.2.2.2.2.2.2
      have ek := ho k (by omega) (by omega)
      have ed : ovd R k ↔ (d' 27 k = 111 ∧ ¬ d' 10 0 ≤ d' 59 k) := by
        rw [ek, e0, es]; unfold ovd opn; omega
      refine aX11_overdue_1 ⟨fun c => absurd c (by omega), fun _ => ⟨by omega, fun c => ⟨ik (by omega), ik (by omega), ?_⟩, fun c => ⟨ik (by omega), ?_⟩⟩⟩
      · rw [bI_t (ed.2 c)] at he
        exact ih _ (k + 1) (by omega) (by omega) (by omega) (by omega) he
      · rw [bI_f (fun q => c (ed.1 q)), Int.add_zero] at he
        exact ih _ (k + 1) (by omega) (by omega) (by omega) (by omega) he
  exact hl (R 3).toNat 0 0 (by omega) (by omega) (by omega) (by omega) (Int.zero_add _)
theorem m_overdue {g : mG} {d : mD} {Q : mQ} (hR : RW (d 66)) (h : HN [] (r_overdue (d 66)) d g Q) : MM mX12_overdue [vR 65] g d Q := by
  have h3 := hR.n.2.2.2.1
  have h0 := hR.n.1
  have hl : ∀ (m : Nat) (acc k : Int), 0 ≤ k → k + m = d 66 3 → 0 ≤ acc → acc ≤ k → acc + cnN (ovd (d 66)) m k = cnN (ovd (d 66)) (d 66 3).toNat 0 → pX12_overdue_1 acc k g (ud d 65 5 0) Q := by
    intro m
    induction m with
    | zero =>
      intro acc k hk hm q1 q2 he
      rw [show ∀ P, acc + cnN P 0 k = acc from fun _ => Int.add_zero _] at he
      rw [he]
      refine aX12_overdue_1 ?_
      rw [r66]
      exact ⟨fun _ => h.v rfl, fun c => absurd (by omega) c⟩
    | succ m ih =>
      intro acc k hk hm q1 q2 he
      rw [show ∀ P, acc + cnN P (m + 1) k = acc + bI (P k) + cnN P m (k + 1) from fun P => (Int.add_assoc _ _ _).symm] at he
      have hd := dueF_rng hR (i := k) (by omega)
      have hr := @bI_rng (ovd (d 66) k)
      have ed : bI (d 66 (145 + 16 * k) = 111 ∧ ((¬ dueM (d 66) k = -1) ∧ ¬ d 66 0 ≤ dueM (d 66) k)) = bI (ovd (d 66) k) := by
        refine bI_cg ?_
        unfold ovd
        by_cases c : opn (d 66) k
        · rw [odF_o c]
          unfold opn at c
          unfold opn dueM noD
          split <;> omega
        · unfold opn at c ⊢
          omega
      refine aX12_overdue_1 ?_
      rw [r66, ed]
      exact ⟨fun c => absurd c (by omega), fun _ => ⟨by omega, fun _ => hR, fun _ => by omega, ik (by omega), ik (by omega), ih _ (k + 1) (by omega) (by omega) (by omega) (by omega) he⟩⟩
  exact eX12_overdue (hl (d 66 3).toNat 0 0 (by omega) (by omega) (by omega) (by omega) (Int.zero_add _))
