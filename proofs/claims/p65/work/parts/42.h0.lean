theorem ik {a : Int} (h : -2147483648 ≤ a ∧ a ≤ 2147483647) : iI a := h
def up (R : rW) (i v : Int) : rW := fun j => if j = i then v else R j
theorem up_s {R : rW} {i v : Int} : up R i v i = v := if_pos rfl
theorem up_n {R : rW} {i v j : Int} (h : ¬ j = i) : up R i v j = R j := if_neg h
-- holidays, court days, stays
def hAtN (R : rW) (x : Int) : Nat → Int → Int
  | 0, _ => -1
  | n + 1, k => if R 2 ≤ k then -1 else if R (79 + k) = x then k else hAtN R x n (k + 1)
theorem hAtN_s {R : rW} {x : Int} {n : Nat} {k : Int} : hAtN R x (n + 1) k = if R 2 ≤ k then -1 else if R (79 + k) = x then k else hAtN R x n (k + 1) := rfl
def hAt (R : rW) (x : Int) : Int := hAtN R x 41 0
def court (R : rW) (x : Int) : Prop := x % 7 < 5 ∧ hAt R x = -1
def bitp (v k : Int) : Prop := v / 2 ^ k.toNat % 2 = 1
def hits (R : rW) (p r x k : Int) : Prop := (R (619 + 4 * k) = -1 ∨ R (619 + 4 * k) = p) ∧ R (620 + 4 * k) / 2 ^ r.toNat % 2 = 1 ∧ R (621 + 4 * k) < x ∧ (R (622 + 4 * k) = -1 ∨ x ≤ R (622 + 4 * k))
def stopd (R : rW) (p r x : Int) : Prop := ∃ k, 0 ≤ k ∧ k < R 4 ∧ hits R p r x k
-- the least from a on, up to 5000; how many
noncomputable def fdN (P : Int → Prop) : Nat → Int → Int
  | 0, a => a
  | n + 1, a => @ite Int (P a) (Classical.propDecidable _) a (fdN P n (a + 1))
noncomputable def fd (P : Int → Prop) (a : Int) : Int := fdN P (5000 - a).toNat a
noncomputable def cnN (P : Int → Prop) : Nat → Int → Int
  | 0, _ => 0
  | n + 1, a => bI (P a) + cnN P n (a + 1)
noncomputable def cn (P : Int → Prop) (a b : Int) : Int := cnN P (b - a + 1).toNat a
/-- the days that count for a part -/
def Cc (R : rW) (p r ic : Int) (x : Int) : Prop := ¬ stopd R p r x ∧ (ic = 0 ∨ court R x)
noncomputable def endF (R : rW) (p r f len ic : Int) : Int :=
  fd (fun x => court R x ∧ ¬ stopd R p r x) (fd (fun x => len ≤ cn (Cc R p r ic) (f + 1) x) (f + 1))
def noD (x : Int) : Int := if x = 5000 then -1 else x
noncomputable def endM (R : rW) (p r f len ic : Int) : Int := noD (endF R p r f len ic)
-- deadlines
noncomputable def svF (R : rW) (i : Int) : Int := bI (0 < R (144 + 16 * i))
noncomputable def partsF (R : rW) (i : Int) : Int := 1 + svF R i + R (146 + 16 * i)
noncomputable def plenF (R : rW) (i q : Int) : Int := iT (q = 0) (R (142 + 16 * i)) (iT (q - 1 - svF R i < 0) (R (144 + 16 * i)) (R (150 + 16 * i + (q - 1 - svF R i))))
def grN (R : rW) (i : Int) : Nat → Int
  | 0 => 0
  | n + 1 => grN R i n + R (150 + 16 * i + n)
def grF (R : rW) (i : Int) : Int := grN R i (R (146 + 16 * i)).toNat
noncomputable def dueN (R : rW) (i : Int) : Nat → Int → Int → Int
  | 0, _, x => x
  | n + 1, q, x => @ite Int (x = 5000) (Classical.propDecidable _) x (dueN R i n (q + 1) (endF R (R (139 + 16 * i)) (R (140 + 16 * i)) x (plenF R i q) (bI (q = 0 ∧ R (143 + 16 * i) = 1))))
noncomputable def dueF (R : rW) (i : Int) : Int := dueN R i (partsF R i).toNat 0 (R (141 + 16 * i))
noncomputable def dueM (R : rW) (i : Int) : Int := noD (dueF R i)
noncomputable def sumN (R : rW) (i : Int) : Nat → Int
  | 0 => 0
  | n + 1 => sumN R i n + plenF R i n
noncomputable def sumF (R : rW) (i : Int) : Int := sumN R i (partsF R i).toNat
-- what a row may hold
def RWn (R : rW) : Prop := (0 ≤ R 0 ∧ R 0 ≤ 1500) ∧ (0 ≤ R 1 ∧ R 1 ≤ 8) ∧ (0 ≤ R 2 ∧ R 2 ≤ 40) ∧ (0 ≤ R 3 ∧ R 3 ≤ 30) ∧ (0 ≤ R 4 ∧ R 4 ≤ 12) ∧ (0 ≤ R 5 ∧ R 5 ≤ 8) ∧ (0 ≤ R 6 ∧ R 6 ≤ 20)
def RWp (R : rW) : Prop := ∀ p, 0 ≤ p ∧ p < R 1 → (1 ≤ R (7 + 9 * p) ∧ R (7 + 9 * p) ≤ 8) ∧ ∀ k, 0 ≤ k ∧ k < R (7 + 9 * p) → 0 ≤ R (8 + 9 * p + k) ∧ R (8 + 9 * p + k) ≤ 1114111
def RWh (R : rW) : Prop := (∀ k, 0 ≤ k ∧ k < R 2 → 0 ≤ R (79 + k) ∧ R (79 + k) ≤ 4999) ∧ ∀ j k, 0 ≤ j → j < k → k < R 2 → R (79 + j) ≠ R (79 + k)
def RWr (R : rW) : Prop := (∀ r, 0 ≤ r ∧ r < 8 → (1 ≤ R (119 + 2 * r) ∧ R (119 + 2 * r) ≤ 200) ∧ (R (120 + 2 * r) = 0 ∨ R (120 + 2 * r) = 1)) ∧ ∀ w, 0 ≤ w ∧ w < 4 → 0 ≤ R (135 + w) ∧ R (135 + w) ≤ 30
def stOk (v : Int) : Prop := v = 111 ∨ v = 116 ∨ v = 108 ∨ v = 115
def DLW (R : rW) (i : Int) : Prop := (0 ≤ R (139 + 16 * i) ∧ R (139 + 16 * i) < R 1) ∧ (0 ≤ R (140 + 16 * i) ∧ R (140 + 16 * i) < 8) ∧ (0 ≤ R (141 + 16 * i) ∧ R (141 + 16 * i) ≤ R 0) ∧ (1 ≤ R (142 + 16 * i) ∧ R (142 + 16 * i) ≤ 200) ∧ (R (143 + 16 * i) = 0 ∨ R (143 + 16 * i) = 1) ∧ (0 ≤ R (144 + 16 * i) ∧ R (144 + 16 * i) ≤ 30) ∧ stOk (R (145 + 16 * i)) ∧ (0 ≤ R (147 + 16 * i) ∧ R (147 + 16 * i) ≤ 2) ∧ (0 ≤ R (148 + 16 * i) ∧ R (148 + 16 * i) ≤ 3) ∧ R (146 + 16 * i) = R (147 + 16 * i) + R (148 + 16 * i) ∧ (0 ≤ R (149 + 16 * i) ∧ R (149 + 16 * i) ≤ 28) ∧ ∀ e, 0 ≤ e ∧ e < R (146 + 16 * i) → 1 ≤ R (150 + 16 * i + e) ∧ R (150 + 16 * i + e) ≤ 100
def RWd (R : rW) : Prop := ∀ i, 0 ≤ i ∧ i < R 3 → DLW R i
def STW (R : rW) (k : Int) : Prop := (-1 ≤ R (619 + 4 * k) ∧ R (619 + 4 * k) < R 1) ∧ (1 ≤ R (620 + 4 * k) ∧ R (620 + 4 * k) ≤ 255) ∧ (0 ≤ R (621 + 4 * k) ∧ R (621 + 4 * k) ≤ R 0) ∧ (R (622 + 4 * k) = -1 ∨ (R (621 + 4 * k) ≤ R (622 + 4 * k) ∧ R (622 + 4 * k) ≤ R 0))
def RWs (R : rW) : Prop := (∀ k, 0 ≤ k ∧ k < R 4 → STW R k) ∧ ∀ k, 0 ≤ k ∧ k + 1 < R 4 → R (621 + 4 * k) ≤ R (625 + 4 * k)
def OCW (R : rW) (o : Int) : Prop := (0 ≤ R (667 + 5 * o) ∧ R (667 + 5 * o) ≤ R 0) ∧ (0 ≤ R (668 + 5 * o) ∧ R (668 + 5 * o) < 8) ∧ (1 ≤ R (669 + 5 * o) ∧ R (669 + 5 * o) ≤ 200) ∧ (R (670 + 5 * o) = 0 ∨ R (670 + 5 * o) = 1) ∧ (0 ≤ R (671 + 5 * o) ∧ R (671 + 5 * o) < 256)
def RWo (R : rW) : Prop := (∀ o, 0 ≤ o ∧ o < R 5 → OCW R o) ∧ ∀ j k, 0 ≤ j ∧ j < R 5 → 0 ≤ k ∧ k < 8 → bitp (R (671 + 5 * j)) k → k < R 5 ∧ k ≠ j ∧ bitp (R (671 + 5 * k)) j
def CLW (R : rW) (c : Int) : Prop := (0 ≤ R (707 + 4 * c) ∧ R (707 + 4 * c) < R 1) ∧ (0 ≤ R (708 + 4 * c) ∧ R (708 + 4 * c) < R 5) ∧ (0 ≤ R (709 + 4 * c) ∧ R (709 + 4 * c) ≤ R 0) ∧ (-1 ≤ R (710 + 4 * c) ∧ R (710 + 4 * c) < c)
def RWc (R : rW) : Prop := ∀ c, 0 ≤ c ∧ c < R 6 → CLW R c
def RW (R : rW) : Prop := RWn R ∧ RWp R ∧ RWh R ∧ RWr R ∧ RWd R ∧ RWs R ∧ RWo R ∧ RWc R
theorem RW.n {R : rW} (h : RW R) : RWn R := h.1
-- the class's cells and a row
def SCal (d : mD) (R : rW) : Prop := d 10 0 = R 0 ∧ d 10 2 = R 2 ∧ ∀ k, 0 ≤ k ∧ k < R 2 → d 11 k = R (79 + k)
def SPar (d : mD) (R : rW) : Prop := d 7 2 = R 1 ∧ ∀ p, 0 ≤ p ∧ p < R 1 → d 9 p = R (7 + 9 * p) ∧ ∀ k, 0 ≤ k ∧ k < R (7 + 9 * p) → d 8 (p * 8 + k) = R (8 + 9 * p + k)
def SRul (d : mD) (R : rW) : Prop := (∀ r, 0 ≤ r ∧ r < 8 → d 13 r = R (119 + 2 * r) ∧ d 14 r = R (120 + 2 * r)) ∧ ∀ w, 0 ≤ w ∧ w < 4 → d 15 w = R (135 + w)
def DLS (d : mD) (R : rW) (i : Int) : Prop := d 17 i = R (139 + 16 * i) ∧ d 18 i = R (140 + 16 * i) ∧ d 19 i = R (141 + 16 * i) ∧ d 20 i = R (143 + 16 * i) ∧ d 21 i = partsF R i ∧ (∀ q, 0 ≤ q ∧ q < partsF R i → d 22 (i * 7 + q) = plenF R i q) ∧ d 23 i = R (147 + 16 * i) ∧ d 24 i = R (149 + 16 * i) ∧ d 25 i = R (148 + 16 * i) ∧ d 26 i = grF R i ∧ d 27 i = R (145 + 16 * i)
def SDl (d : mD) (R : rW) : Prop := d 16 11 = R 3 ∧ ∀ i, 0 ≤ i ∧ i < R 3 → DLS d R i
def lastD (v : Int) : Int := if v = -1 then 4999 else v
def SSt (d : mD) (R : rW) : Prop := d 28 4 = R 4 ∧ ∀ k, 0 ≤ k ∧ k < R 4 → d 29 k = R (619 + 4 * k) ∧ d 30 k = R (620 + 4 * k) ∧ d 31 k = R (621 + 4 * k) ∧ d 32 k = lastD (R (622 + 4 * k))
/-- reached along links: from a to b in at most n steps -/
def linkd (R : rW) (a b : Int) : Prop := bitp (R (671 + 5 * a)) b
def connN (R : rW) : Nat → Int → Int → Prop
  | 0, a, b => a = b
  | n + 1, a, b => a = b ∨ ∃ c, 0 ≤ c ∧ c < R 5 ∧ linkd R a c ∧ connN R n c b
def conn (R : rW) (a b : Int) : Prop := ∃ n, connN R n a b
def SOc (d : mD) (R : rW) : Prop := d 34 11 = R 5 ∧ (∀ o, 0 ≤ o ∧ o < R 5 → d 35 o = -1 ∧ d 36 o = R (668 + 5 * o) ∧ d 37 o = R (667 + 5 * o) ∧ d 38 o = R (670 + 5 * o) ∧ d 39 o = 1 ∧ d 40 (o * 7) = R (669 + 5 * o) ∧ d 46 o = R (671 + 5 * o))
  ∧ (∀ o, 0 ≤ o ∧ o < R 5 → 0 ≤ d 47 o ∧ d 47 o ≤ o ∧ conn R o (d 47 o)) ∧ ∀ a b, 0 ≤ a ∧ a < R 5 → 0 ≤ b ∧ b < R 5 → (d 47 a = d 47 b ↔ conn R a b)
def SCm (d : mD) (R : rW) : Prop := d 33 7 = R 6 ∧ ∀ c, 0 ≤ c ∧ c < R 6 → d 48 c = R (707 + 4 * c) ∧ d 49 c = R (708 + 4 * c) ∧ d 50 c = R (709 + 4 * c) ∧ d 51 c = R (710 + 4 * c)
def CI (d : mD) (R : rW) : Prop := RW R ∧ SCal d R ∧ SPar d R ∧ SRul d R ∧ SDl d R ∧ SSt d R ∧ SOc d R ∧ SCm d R
-- the first rows by hand
theorem l_placeOf {x : Int} {g : mG} {d : mD} {Q : mQ} {R : rW} (hR : RWn R) (hS : SCal d R) : ∀ (n : Nat) (k : Int), 0 ≤ k → R 2 ≤ k + n → Q (.inl (hAtN R x (n + 1) k)) g d → pX0_placeOf_1 x k g d Q := by
  have h2 := hR.2.2.1
  obtain ⟨-, hc, hd⟩ := hS
  intro n
  induction n with
  | zero =>
    intro k hk hn h
    rw [hAtN_s, if_pos (by omega)] at h
    exact aX0_placeOf_1 ⟨fun _ => h, fun c => absurd (by omega) c⟩
  | succ n ih =>
    intro k hk hn h
    rw [hAtN_s] at h
    refine aX0_placeOf_1 ⟨fun c => ?_, fun c => ?_⟩
    · rw [if_pos (by omega)] at h
      exact h
    · rw [if_neg (by omega)] at h
      have e := hd k (by omega)
      refine ⟨by omega, fun c2 => ?_, fun c2 => ⟨ik (by omega), ih (k + 1) (by omega) (by omega) ?_⟩⟩
      · rw [if_pos (by omega)] at h
        exact h
      · rw [if_neg (by omega)] at h
        exact h
theorem f_placeOf {x1 : Int} {R : rW} {g : mG} {d : mD} {Q : mQ} (h : CI d R ∧ Q (.inl (hAt R x1)) g d) : MM mX0_placeOf [vR 10, vI x1] g d Q :=
  eX0_placeOf (l_placeOf h.1.1.n h.1.2.1 40 0 (by omega) (by have := h.1.1.n.2.2.1; omega) h.2)
-- more words: names, groups, claims, counting back, days left, what is left untouched
noncomputable def cdI (R : rW) : Nat → Int → Int → Int
  | 0, _, s => s
  | n + 1, k, s => if R 5 ≤ k then s else cdI R n (k + 1) (nOr s (iT (s / 2 ^ k.toNat % 2 = 1) (R (671 + 5 * k)) 0))
noncomputable def cdO (R : rW) : Nat → Int → Int
  | 0, s => s
  | n + 1, s => cdO R n (cdI R 9 0 s)
noncomputable def condF (R : rW) (a : Int) : Int := cdO R 8 (1 * 2 ^ a.toNat)
def nmd (R : rW) (nm : Int → Int) (p len : Int) : Prop := R (7 + 9 * p) = len ∧ ∀ k, 0 ≤ k ∧ k < len → R (8 + 9 * p + k) = nm k
noncomputable def nmN (R : rW) (nm : Int → Int) (len : Int) : Nat → Int → Int
  | 0, _ => -1
  | n + 1, p => if R 1 ≤ p then -1 else @ite Int (nmd R nm p len) (Classical.propDecidable _) p (nmN R nm len n (p + 1))
noncomputable def nmF (R : rW) (nm : Int → Int) (len : Int) : Int := nmN R nm len 9 0
noncomputable def nuF (P : Int → Prop) (n : Int) : Int := cn P 0 (n - 1)
noncomputable def barF (R : rW) (o : Int) : Int := endF R (-1) (R (668 + 5 * o)) (R (667 + 5 * o)) (R (669 + 5 * o)) (bI (R (670 + 5 * o) = 1))
def cnts (R : rW) (i x q c : Int) : Prop := c < plenF R i q ∧ ¬ stopd R (R (139 + 16 * i)) (R (140 + 16 * i)) x ∧ (0 < q ∨ R (143 + 16 * i) = 0 ∨ court R x)
noncomputable def wk (R : rW) (i : Int) : Nat → Int → Int → Int → Int
  | 0, _, _, _ => 0
  | n + 1, x, q, c => if partsF R i ≤ q then 0 else bI (cnts R i x q c) + iT (c + bI (cnts R i x q c) = plenF R i q ∧ court R x ∧ ¬ stopd R (R (139 + 16 * i)) (R (140 + 16 * i)) x) (wk R i n (x + 1) (q + 1) 0) (wk R i n (x + 1) q (c + bI (cnts R i x q c)))
noncomputable def ctF (R : rW) (i : Int) : Int := wk R i (R 0 - R (141 + 16 * i)).toNat (R (141 + 16 * i) + 1) 0 0
noncomputable def leftF (R : rW) (i : Int) : Int := sumF R i - ctF R i
noncomputable def bdN (P : Int → Prop) : Nat → Int → Int
  | 0, a => a
  | n + 1, a => @ite Int (P a) (Classical.propDecidable _) a (bdN P n (a - 1))
noncomputable def bd (P : Int → Prop) (a : Int) : Int := bdN P (a + 1).toNat a
noncomputable def bkF (R : rW) (day len ic : Int) : Int := bd (court R) (bd (fun x => len ≤ cn (fun y => ic = 0 ∨ court R y) x (day - 1)) (day - 1))
noncomputable def effN (R : rW) : Nat → Int → Int
  | 0, c => R (709 + 4 * c)
  | n + 1, c => @ite Int (R (710 + 4 * c) ≠ -1 ∧ conn R (R (708 + 4 * c)) (R (708 + 4 * R (710 + 4 * c)))) (Classical.propDecidable _) (effN R n (R (710 + 4 * c))) (R (709 + 4 * c))
noncomputable def effF (R : rW) (c : Int) : Int := effN R 20 c
def RG (d : mD) (R : rW) (p r : Int) : Prop := (0 ≤ d 53 4 ∧ d 53 4 ≤ 12) ∧ (∀ i, 0 ≤ i ∧ i < d 53 4 → 0 ≤ d 54 i ∧ d 54 i ≤ d 55 i ∧ d 55 i ≤ 4999) ∧ (∀ i, 0 ≤ i ∧ i + 1 < d 53 4 → d 55 i + 1 < d 54 (i + 1)) ∧ ∀ x, 0 ≤ x ∧ x ≤ 4999 → (stopd R p r x ↔ ∃ i, (0 ≤ i ∧ i < d 53 4) ∧ d 54 i ≤ x ∧ x ≤ d 55 i)
def FrW (d d' : mD) : Prop := ∀ {b j : Int}, ¬ (b = 54 ∨ b = 55 ∨ (b = 53 ∧ j = 4)) → d' b j = d b j
def FrM (d d' : mD) : Prop := ∀ {b j : Int}, ¬ (b = 57 ∨ b = 58 ∨ (b = 56 ∧ (j = 4 ∨ j = 5))) → d' b j = d b j
theorem f_addPart_d {x1 x2 : Int} {g : mG} {d : mD} {Q : mQ} (h : (0 ≤ x1 ∧ x1 < 30) ∧ (0 ≤ d 21 x1 ∧ d 21 x1 < 7) ∧ Q (.inl 0) g (ud (ud d 22 (x1 * 7 + d 21 x1) x2) 21 x1 ((d 21 x1) + 1))) : MM mX2_addPart [vR 16, vI x1, vI x2] g d Q := by
  obtain ⟨h1, h2, h3⟩ := h
  exact eX2_addPart_d ⟨h1, fun c => absurd c (by omega), fun c => ⟨ik (by omega), ik (by omega), by omega, ik (by omega), h3⟩⟩
theorem f_addPart_p {x1 x2 : Int} {g : mG} {d : mD} {Q : mQ} (h : (0 ≤ x1 ∧ x1 < 30) ∧ (0 ≤ d 39 x1 ∧ d 39 x1 < 7) ∧ Q (.inl 0) g (ud (ud d 40 (x1 * 7 + d 39 x1) x2) 39 x1 ((d 39 x1) + 1))) : MM mX2_addPart [vR 34, vI x1, vI x2] g d Q := by
  obtain ⟨h1, h2, h3⟩ := h
  exact eX2_addPart_p ⟨h1, fun c => absurd c (by omega), fun c => ⟨ik (by omega), ik (by omega), by omega, ik (by omega), h3⟩⟩
