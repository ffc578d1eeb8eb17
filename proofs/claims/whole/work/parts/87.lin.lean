-- lines
abbrev Ln := Int × (Int → Int)
def lOk (l : Ln) : Prop := 0 ≤ l.1 ∧ ∀ j, 0 ≤ j → j < l.1 → 0 ≤ l.2 j ∧ l.2 j ≤ 65535
def LnC (d : mD) (l : Ln) : Prop := lOk l ∧ d 3 1 = l.1 ∧ ∀ j, 0 ≤ j → j < l.1 → d 4 j = l.2 j
def LnM (d : mD) (l : Ln) : Prop := lOk l ∧ d 65 9 = l.1 ∧ ∀ j, 0 ≤ j → j < l.1 → d 70 j = l.2 j
def apL (l : Ln) (c : Int) : Ln := (l.1 + 1, fun j => if j = l.1 then c else l.2 j)
theorem apL_1 {l : Ln} {c : Int} : (apL l c).1 = l.1 + 1 := rfl
theorem lOk.ap {l : Ln} {c : Int} (h : lOk l) (hc : 0 ≤ c ∧ c ≤ 65535) : lOk (apL l c) := by
  refine ⟨by rw [apL_1]; have := h.1; omega, fun j q1 q2 => ?_⟩
  rw [apL_1] at q2
  show 0 ≤ (if j = l.1 then c else l.2 j) ∧ (if j = l.1 then c else l.2 j) ≤ 65535
  by_cases e : j = l.1
  · rw [if_pos e]; exact hc
  · rw [if_neg e]; exact h.2 j q1 (by omega)
theorem LnC.ap {d : mD} {l : Ln} {c n : Int} (h : LnC d l) (hc : 0 ≤ c ∧ c ≤ 65535) (hn : d 3 1 = n) : LnC (ud (ud d 4 n c) 3 1 (n + 1)) (apL l c) := by
  obtain ⟨h0, h1, h2⟩ := h
  have e : n = l.1 := by omega
  subst e
  refine ⟨h0.ap hc, ud_same _ _ _ _, fun j q1 q2 => ?_⟩
  rw [apL_1] at q2
  rw [ud_ne (by omega)]
  show _ = (if j = l.1 then c else l.2 j)
  by_cases e : j = l.1
  · rw [if_pos e, e, ud_same]
  · rw [if_neg e, ud_ne (by omega)]; exact h2 j q1 (by omega)
theorem LnM.ap {d : mD} {l : Ln} {c n : Int} (h : LnM d l) (hc : 0 ≤ c ∧ c ≤ 65535) (hn : d 65 9 = n) : LnM (ud (ud d 70 n c) 65 9 (n + 1)) (apL l c) := by
  obtain ⟨h0, h1, h2⟩ := h
  have e : n = l.1 := by omega
  subst e
  refine ⟨h0.ap hc, ud_same _ _ _ _, fun j q1 q2 => ?_⟩
  rw [apL_1] at q2
  rw [ud_ne (by omega)]
  show _ = (if j = l.1 then c else l.2 j)
  by_cases e : j = l.1
  · rw [if_pos e, e, ud_same]
  · rw [if_neg e, ud_ne (by omega)]; exact h2 j q1 (by omega)
def l00 : Ln := (0, fun _ => 0)
theorem lOk.z : lOk l00 := ⟨Int.le_refl _, fun j q1 (q2 : j < 0) => absurd q1 (by omega)⟩
theorem LnC.z {d : mD} : LnC (ud d 3 1 0) l00 := ⟨lOk.z, ud_same _ _ _ _, fun j q1 (q2 : j < 0) => absurd q1 (by omega)⟩
theorem LnM.z {d : mD} : LnM (ud d 65 9 0) l00 := ⟨lOk.z, ud_same _ _ _ _, fun j q1 (q2 : j < 0) => absurd q1 (by omega)⟩
def FrL (d d' : mD) : Prop := ∀ b j : Int, ¬ (b = 3 ∧ j = 1) → b ≠ 4 → d' b j = d b j
def FrK (d d' : mD) : Prop := ∀ b j : Int, ¬ (b = 65 ∧ j = 9) → b ≠ 70 → d' b j = d b j
theorem FrL.rf {d : mD} : FrL d d := fun _ _ _ _ => rfl
theorem FrK.rf {d : mD} : FrK d d := fun _ _ _ _ => rfl
theorem FrL.tr {d d' d'' : mD} (h : FrL d d') (h2 : FrL d' d'') : FrL d d'' := fun b j q1 q2 => (h2 b j q1 q2).trans (h b j q1 q2)
theorem FrK.tr {d d' d'' : mD} (h : FrK d d') (h2 : FrK d' d'') : FrK d d'' := fun b j q1 q2 => (h2 b j q1 q2).trans (h b j q1 q2)
theorem FrL.ap {d : mD} {n c k : Int} : FrL d (ud (ud d 4 n c) 3 1 k) := fun b j q1 q2 => by rw [ud_ne (by omega), ud_ne (by omega)]
theorem FrK.ap {d : mD} {n c k : Int} : FrK d (ud (ud d 70 n c) 65 9 k) := fun b j q1 q2 => by rw [ud_ne (by omega), ud_ne (by omega)]
theorem FrL.z {d : mD} : FrL d (ud d 3 1 0) := fun b j q1 q2 => by rw [ud_ne (by omega)]
theorem FrK.z {d : mD} : FrK d (ud d 65 9 0) := fun b j q1 q2 => by rw [ud_ne (by omega)]
-- code points
noncomputable def apC (l : Ln) (x : Int) : Ln := if 65536 ≤ x then apL (apL l (55296 + (x - 65536) / 1024)) (56320 + (x - 65536) % 1024) else apL l x
theorem q_appendCodePoint {x : Int} {l : Ln} {g : mG} {d : mD} {Q : mQ} (hl : LnC d l) (hx : 0 ≤ x ∧ x ≤ 1114111) (hn : l.1 + 2 ≤ 60) (h : ∀ d', FrL d d' → LnC d' (apC l x) → Q (.inl 0) g d') : MM mX9_appendCodePoint [vR 3, vI x] g d Q := by
  have h1 := hl.2.1
  have h0 := hl.1.1
  refine eX9_appendCodePoint ?_
  rw [show (2 : Int) ^ (10 : Int).toNat = 1024 from rfl]
  refine ⟨fun c => ⟨ik (by omega), by omega, ik (by omega), fun c2 => absurd c2 (by omega), fun _ => ⟨by omega, by omega, ik (by omega), ik (by omega), fun c2 => absurd c2 (by omega), fun _ => ⟨by omega, by omega, ik (by omega), ?_⟩⟩⟩, fun c => ⟨fun c2 => absurd c2 (by omega), fun _ => ⟨by omega, by omega, ik (by omega), ?_⟩⟩⟩
  · rw [show (55296 + (x - 65536) / 1024) % 65536 = 55296 + (x - 65536) / 1024 by omega, show (56320 + (x - 65536) % 1024) % 65536 = 56320 + (x - 65536) % 1024 by omega]
    refine h _ (FrL.ap.tr FrL.ap) ?_
    unfold apC
    rw [if_pos c]
    exact (hl.ap (by omega) rfl).ap (by omega) (ud_same _ _ _ _)
  · rw [show x % 65536 = x by omega]
    refine h _ FrL.ap ?_
    unfold apC
    rw [if_neg c]
    exact hl.ap (by omega) rfl
theorem apC_1 {l : Ln} {x : Int} : l.1 + 1 ≤ (apC l x).1 ∧ (apC l x).1 ≤ l.1 + 2 := by
  unfold apC
  split
  · rw [apL_1, apL_1]; omega
  · rw [apL_1]; omega
noncomputable def wrN (R : rW) (p : Int) : Nat → Ln → Ln
  | 0, l => l
  | k + 1, l => wrN R p k (apC l (R (8 + 9 * p + k)))
noncomputable def wrF (R : rW) (p : Int) : Ln := wrN R p (R (7 + 9 * p)).toNat l00
theorem q_writeName {x : Int} {R : rW} {g : mG} {d : mD} {Q : mQ} (hC : CI d R) (h1 : (0 ≤ x ∧ x < R 1) → ∀ d', FrL d d' → LnC d' (wrF R x) → Q (.inl (wrF R x).1) g d') (h2 : ¬ (0 ≤ x ∧ x < R 1) → Q (.inr 3) g d) : MM mX11_writeNameReversed [vR 0, vI x] g d Q := by
  have e1 := hC.par.1
  have n1 := hC.w.n.2.1
  refine eX11_writeNameReversed ⟨fun c => ?_, fun c => h2 (by omega)⟩
  have hx : 0 ≤ x ∧ x < R 1 := by omega
  obtain ⟨a1, a2⟩ := hC.par.2 x hx
  have hp := hC.w.p x hx
  have hl : ∀ (k : Nat) (l : Ln) (d' : mD), k ≤ R (7 + 9 * x) → FrL d d' → LnC d' l → l.1 + 2 * k ≤ 16 → wrN R x k l = wrF R x → pX11_writeNameReversed_1 x ((k : Int) - 1) g d' Q := by
    intro k
    induction k with
    | zero =>
      intro l d' hk hf hln hn he
      have he' : l = wrF R x := he
      refine aX11_writeNameReversed_1 ⟨fun _ => ?_, fun c => absurd (by omega) c⟩
      rw [hln.2.1, he']
      exact h1 hx d' hf (he' ▸ hln)
    | succ k ih =>
      intro l d' hk hf hln hn he
      refine aX11_writeNameReversed_1 ⟨fun c => absurd c (by omega), fun _ => ⟨ik (by omega), ik (by omega), by omega, ?_⟩⟩
      rw [hf 8 _ (by omega) (by omega), show x * 8 + (((k + 1 : Nat) : Int) - 1) = x * 8 + k by omega, a2 k (by omega)]
      have hb := hp.2 k (by omega)
      have hs := @apC_1 l (R (8 + 9 * x + k))
      refine q_appendCodePoint hln hb (by omega) (fun d'' hf2 hln2 => ⟨ik (by omega), ?_⟩)
      rw [show ((k + 1 : Nat) : Int) - 1 + (-1) = (k : Int) - 1 by omega]
      exact ih _ d'' (by omega) (hf.tr hf2) hln2 (by omega) he
  rw [a1]
  refine ⟨by omega, ik (by omega), ?_⟩
  have := hl (R (7 + 9 * x)).toNat l00 (ud d 3 1 0) (by omega) FrL.z LnC.z (show (0 : Int) + 2 * ((R (7 + 9 * x)).toNat : Nat) ≤ 16 by omega) rfl
  rwa [show (((R (7 + 9 * x)).toNat : Nat) : Int) = R (7 + 9 * x) by omega] at this
theorem m_writeName {x : Int} {g : mG} {d : mD} {Q : mQ} (hR : RW (d 66)) (h1 : (0 ≤ x ∧ x < d 66 1) → ∀ d', FrK (ud d 65 5 0) d' → LnM d' (wrF (d 66) x) → Q (.inl (wrF (d 66) x).1) g d') (h2 : ¬ (0 ≤ x ∧ x < d 66 1) → Q (.inl 0) g (ud (ud d 65 5 0) 65 5 1)) : MM mX12_writeNameReversed [vR 65, vI x] g d Q := by
  have n1 := hR.n.2.1
  refine eX12_writeNameReversed ⟨ik (by omega), fun c => h2 (by omega), fun c => ⟨ik (by omega), ik (by omega), by omega, ?_⟩⟩
  have hx : 0 ≤ x ∧ x < d 66 1 := by omega
  have hp := hR.p x hx
  have hl : ∀ (k : Nat) (l : Ln) (d' : mD), k ≤ d 66 (7 + 9 * x) → FrK (ud d 65 5 0) d' → LnM d' l → l.1 + 2 * k ≤ 16 → wrN (d 66) x k l = wrF (d 66) x → pX12_writeNameReversed_1 x (k : Int) g d' Q := by
    intro k
    induction k with
    | zero =>
      intro l d' hk hf hln hn he
      have he' : l = wrF (d 66) x := he
      refine aX12_writeNameReversed_1 ⟨fun _ => ?_, fun c => absurd (by omega) c⟩
      rw [hln.2.1, he']
      exact h1 hx d' hf (he' ▸ hln)
    | succ k ih =>
      intro l d' hk hf hln hn he
      have e66 : ∀ j, d' 66 j = d 66 j := fun j => (hf 66 j (by omega) (by omega)).trans (ud_ne (by omega))
      have hb := hp.2 k (by omega)
      have hs := @apC_1 l (d 66 (8 + 9 * x + k))
      have e9 := hln.2.1
      have h0 := hln.1.1
      refine aX12_writeNameReversed_1 ⟨fun c => absurd c (by omega), fun _ => ⟨ik (by omega), ik (by omega), ik (by omega), by omega, ?_⟩⟩
      rw [e66, show 7 + 9 * x + ((k + 1 : Nat) : Int) = 8 + 9 * x + k by omega, show ((k + 1 : Nat) : Int) + (-1) = (k : Int) by omega]
      refine ⟨fun c2 => ⟨by omega, ik (by omega), ik (by omega), ih (apC l (d 66 (8 + 9 * x + k))) _ (by omega) (hf.tr FrK.ap) ?_ (by omega) he⟩, fun c2 => ⟨ik (by omega), by omega, ik (by omega), by omega, ik (by omega), ik (by omega), by omega, ik (by omega), ik (by omega), ih (apC l (d 66 (8 + 9 * x + k))) _ (by omega) ((hf.tr FrK.ap).tr FrK.ap) ?_ (by omega) he⟩⟩
      · unfold apC
        rw [if_neg (by omega)]
        exact hln.ap (by omega) rfl
      · unfold apC
        rw [if_pos (by omega)]
        exact (hln.ap (by omega) rfl).ap (by omega) (ud_same _ _ _ _)
  have := hl (d 66 (7 + 9 * x)).toNat l00 (ud (ud d 65 5 0) 65 9 0) (by omega) FrK.z LnM.z (show (0 : Int) + 2 * ((d 66 (7 + 9 * x)).toNat : Nat) ≤ 16 by omega) rfl
  rwa [show (((d 66 (7 + 9 * x)).toNat : Nat) : Int) = d 66 (7 + 9 * x) by omega] at this
