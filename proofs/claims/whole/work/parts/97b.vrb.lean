-- the class reads the word of a command
noncomputable def cmW (T : rW) (n : Int) : List Int → Int → Int
  | [], _ => 0
  | c :: l, p => if sgF T n p = c then 1 + cmW T n l (p + 1) else 0
theorem cmW_t {T : rW} {n p c : Int} {l : List Int} (h : sgF T n p = c) : cmW T n (c :: l) p = 1 + cmW T n l (p + 1) := if_pos h
theorem cmW_f {T : rW} {n p c : Int} {l : List Int} (h : ¬ sgF T n p = c) : cmW T n (c :: l) p = 0 := if_neg h
theorem cmW_rng {T : rW} {n : Int} : ∀ (l : List Int) (p : Int), 0 ≤ cmW T n l p ∧ cmW T n l p ≤ (l.length : Int) := by
  intro l
  induction l with
  | nil => intro p; exact ⟨Int.le_refl _, Int.le_refl _⟩
  | cons c l ih =>
    intro p
    rw [List.length_cons]
    by_cases h : sgF T n p = c
    · rw [cmW_t h]; have := ih (p + 1); omega
    · rw [cmW_f h]; omega
noncomputable def tkL (T : rW) (n : Int) : List Int → Ps → Ps
  | [], s => s
  | c :: l, s => tkL T n l (tk T n c s)
theorem tkL_w {T : rW} {n p : Int} : ∀ (l : List Int), tkL T n l (p, 1) = (p, 1) := by
  intro l
  induction l with
  | nil => rfl
  | cons c l ih =>
    show tkL T n l (tk T n c (p, 1)) = (p, 1)
    rw [tk_w (by decide : ¬ ((1 : Int) = 0))]
    exact ih
theorem tkL_c {T : rW} {n : Int} : ∀ (l : List Int) (p : Int), tkL T n l (p, 0) = (p + cmW T n l p, if cmW T n l p = (l.length : Int) then 0 else 1) := by
  intro l
  induction l with
  | nil =>
    intro p
    show (p, (0 : Int)) = (p + 0, if (0 : Int) = 0 then 0 else 1)
    rw [if_pos rfl, Int.add_zero]
  | cons c l ih =>
    intro p
    show tkL T n l (tk T n c (p, 0)) = _
    have hr := cmW_rng (T := T) (n := n) l (p + 1)
    by_cases h : sgF T n p = c
    · rw [tk_t ⟨rfl, h⟩, cmW_t h, List.length_cons]
      show tkL T n l (p + 1, 0) = _
      rw [ih (p + 1), show p + 1 + cmW T n l (p + 1) = p + (1 + cmW T n l (p + 1)) by omega]
      by_cases z : cmW T n l (p + 1) = (l.length : Int)
      · rw [if_pos z, if_pos (by omega)]
      · rw [if_neg z, if_neg (by omega)]
    · rw [tk_f (fun q => h q.2), cmW_f h, List.length_cons]
      show tkL T n l (p, 1) = _
      rw [tkL_w, if_neg (by omega), Int.add_zero]
def wl (v : Int) : List Int := if v = 0 then [115, 101, 114, 118, 101, 32] else if v = 1 then [100, 97, 121] else if v = 2 then [115, 116, 97, 121, 32] else if v = 3 then [108, 105, 102, 116, 32] else if v = 4 then [109, 111, 114, 101, 32] else if v = 5 then [102, 105, 108, 101, 32] else [104, 111, 108, 105, 100, 97, 121, 32]
theorem v_cases {v : Int} (h : 0 ≤ v ∧ v ≤ 6) : v = 0 ∨ v = 1 ∨ v = 2 ∨ v = 3 ∨ v = 4 ∨ v = 5 ∨ v = 6 := by omega
theorem wl_len {v : Int} (h : 0 ≤ v ∧ v ≤ 6) : sLen v = ((wl v).length : Int) ∧ (wl v).length ≤ 8 ∧ 3 ≤ (wl v).length := by
  rcases v_cases h with rfl | rfl | rfl | rfl | rfl | rfl | rfl <;> decide
theorem wl_at {v : Int} (h : 0 ≤ v ∧ v ≤ 6) : ∀ j : Nat, j < (wl v).length → sAt v (0 + (j : Int)) = (wl v).getD j 0 := by
  rcases v_cases h with rfl | rfl | rfl | rfl | rfl | rfl | rfl <;> decide
theorem wS_wl {T : rW} {n v p : Int} (h : 0 ≤ v ∧ v ≤ 6) : wS T n v p = tkL T n (wl v) (p, 0) := by
  rcases v_cases h with rfl | rfl | rfl | rfl | rfl | rfl | rfl <;> simp [wS, wW, tkW, tkI, wl, tkL]
theorem wS_c {T : rW} {n v p : Int} (h : 0 ≤ v ∧ v ≤ 6) : wS T n v p = (p + cmW T n (wl v) p, if cmW T n (wl v) p = ((wl v).length : Int) then 0 else 1) := (wS_wl h).trans (tkL_c _ _)
theorem l_common {T : rW} {n p v : Int} {g : mG} {d : mD} {Q : mQ} (hn : 0 ≤ n ∧ n ≤ 60) (hT : ∀ j, 0 ≤ j → j < n → 0 ≤ T j ∧ T j ≤ 65535) (hp0 : 0 ≤ p ∧ p ≤ n) (hp : PC d T n p) : ∀ (l : List Int) (k : Int), 0 ≤ k → sLen v = k + (l.length : Int) → (∀ j : Nat, j < l.length → sAt v (k + (j : Int)) = l.getD j 0) → Q (.inl (k + cmW T n l (p + k))) g d → pX6_countCommon_1 v k g d Q := by
  obtain ⟨f2, f1, f5⟩ := hp
  have hsl := sLen_rng v
  intro l
  induction l with
  | nil =>
    intro k hk hl ha h
    have e : sLen v = k := by rw [hl]; exact Int.add_zero _
    refine aX6_countCommon_1 ?_
    rw [e]
    refine ⟨fun z => absurd (Int.le_refl _) z, fun z => absurd (Int.le_refl _) z, fun z => absurd (Int.le_refl _) z, fun z => absurd (Int.le_refl _) z, fun z => absurd (Int.le_refl _) z.1, fun _ => ?_⟩
    have h2 : Q (.inl (k + 0)) g d := h
    rwa [Int.add_zero] at h2
  | cons c l ih =>
    intro k hk hl ha h
    rw [List.length_cons] at hl
    have e0 : sAt v k = c := by
      have := ha 0 (by rw [List.length_cons]; omega)
      rwa [show k + ((0 : Nat) : Int) = k from Int.add_zero _] at this
    obtain ⟨g1, g2⟩ := q_sign (T := T) (p := p + k) hn hT (by omega)
    refine aX6_countCommon_1 ?_
    rw [f2, f1, f5, e0]
    refine ⟨fun _ => ik (by omega), fun _ => g1, fun _ => g2, fun _ => ⟨hk, by omega⟩, fun z => ⟨ik (by omega), ?_⟩, fun z => ?_⟩
    · have z2 : sgF T n (p + k) = c := z.2
      rw [cmW_t z2] at h
      refine ih (k + 1) (by omega) (by omega) (fun j hj => ?_) ?_
      · have := ha (j + 1) (by rw [List.length_cons]; omega)
        rw [show k + 1 + (j : Int) = k + ((j + 1 : Nat) : Int) by omega, this]
        rfl
      · rw [show p + (k + 1) = p + k + 1 by omega, show k + 1 + cmW T n l (p + k + 1) = k + (1 + cmW T n l (p + k + 1)) by omega]
        exact h
    · have z2 : ¬ sgF T n (p + k) = c := fun y => z ⟨by omega, y⟩
      rw [cmW_f z2, Int.add_zero] at h
      exact h
theorem q_countCommon {T : rW} {n p v : Int} {g : mG} {d : mD} {Q : mQ} (hn : 0 ≤ n ∧ n ≤ 60) (hT : ∀ j, 0 ≤ j → j < n → 0 ≤ T j ∧ T j ≤ 65535) (hp0 : 0 ≤ p ∧ p ≤ n) (hp : PC d T n p) (hv : 0 ≤ v ∧ v ≤ 6) (h : Q (.inl (cmW T n (wl v) p)) g d) : MM mX6_countCommon [vR 60, vR 1, (6, v)] g d Q := by
  have hl := wl_len hv
  refine eX6_countCommon (l_common hn hT hp0 hp (wl v) 0 (Int.le_refl _) (by omega) (wl_at hv) ?_)
  rw [Int.zero_add, Int.add_zero]
  exact h
theorem f_wordOf {v : Int} {g : mG} {d : mD} {Q : mQ} (hv : 0 ≤ v ∧ v ≤ 6) (h : Q (.inl v) g d) : MM mX6_wordOf [vI v] g d Q := by
  refine eX6_wordOf ⟨fun z => ?_, fun _ => ⟨fun z => ?_, fun _ => ⟨fun z => ?_, fun _ => ⟨fun z => ?_, fun _ => ⟨fun z => ?_, fun _ => ⟨fun z => ?_, fun _ => ?_⟩⟩⟩⟩⟩⟩
  · rw [z] at h; exact h
  · rw [z] at h; exact h
  · rw [z] at h; exact h
  · rw [z] at h; exact h
  · rw [z] at h; exact h
  · rw [z] at h; exact h
  · rw [show v = 6 by omega] at h; exact h
theorem cm_no {T : rW} {n p v : Int} (hv : 0 ≤ v ∧ v ≤ 6) (h : ¬ sgF T n p = (wl v).headD 0) : cmW T n (wl v) p = 0 := by
  rcases v_cases hv with rfl | rfl | rfl | rfl | rfl | rfl | rfl <;> exact cmW_f h
theorem vb_x {T : rW} {n p v : Int} (hv : vb T n p = v) : (v = 0 → sgF T n p = 115 ∧ ¬ sgF T n (p + 1) = 116) ∧ (v = 2 → sgF T n p = 115 ∧ sgF T n (p + 1) = 116) ∧ (v = 1 → sgF T n p = 100) ∧ (v = 3 → sgF T n p = 108) ∧ (v = 4 → sgF T n p = 109) ∧ (v = 5 → sgF T n p = 102) ∧ (v = 6 → ¬ sgF T n p = 115 ∧ ¬ sgF T n p = 100 ∧ ¬ sgF T n p = 108 ∧ ¬ sgF T n p = 109 ∧ ¬ sgF T n p = 102) := by
  unfold vb at hv
  split at hv
  · omega
  split at hv
  · omega
  split at hv
  · omega
  split at hv
  · omega
  split at hv
  · omega
  split at hv
  · omega
  · omega
/-- of all words the one that the first signs name has most in common -/
theorem vb_best {T : rW} {n p v i : Int} (hv : vb T n p = v) (hi : 0 ≤ i ∧ i ≤ 6) (hne : ¬ i = v) : cmW T n (wl i) p ≤ cmW T n (wl v) p ∧ ¬ cmW T n (wl i) p = ((wl i).length : Int) := by
  have hr := cmW_rng (T := T) (n := n) (wl v) p
  have hl := wl_len hi
  have hx := vb_x hv
  have hvr : 0 ≤ v ∧ v ≤ 6 := by rw [← hv]; exact vb_rng
  by_cases c : sgF T n p = (wl i).headD 0
  · rcases v_cases hi with rfl | rfl | rfl | rfl | rfl | rfl | rfl
    · have c' : sgF T n p = 115 := c
      have h2 : v = 2 := by omega
      subst h2
      have h3 := (hx.2.1 rfl).2
      have e0 : cmW T n (wl 0) p = 1 := by
        show cmW T n [115, 101, 114, 118, 101, 32] p = 1
        rw [cmW_t c', cmW_f (by omega)]
        rfl
      have e2 : 1 ≤ cmW T n (wl 2) p := by
        have := cmW_rng (T := T) (n := n) [116, 97, 121, 32] (p + 1)
        show 1 ≤ cmW T n [115, 116, 97, 121, 32] p
        rw [cmW_t c']
        omega
      omega
    · have c' : sgF T n p = 100 := c
      omega
    · have c' : sgF T n p = 115 := c
      have h2 : v = 0 := by omega
      subst h2
      have h3 := (hx.1 rfl).2
      have e0 : cmW T n (wl 2) p = 1 := by
        show cmW T n [115, 116, 97, 121, 32] p = 1
        rw [cmW_t c', cmW_f h3]
        rfl
      have e2 : 1 ≤ cmW T n (wl 0) p := by
        have := cmW_rng (T := T) (n := n) [101, 114, 118, 101, 32] (p + 1)
        show 1 ≤ cmW T n [115, 101, 114, 118, 101, 32] p
        rw [cmW_t c']
        omega
      omega
    · have c' : sgF T n p = 108 := c
      omega
    · have c' : sgF T n p = 109 := c
      omega
    · have c' : sgF T n p = 102 := c
      omega
    · have c' : sgF T n p = 104 := c
      omega
  · rw [cm_no hi c]
    omega
theorem q_readVerb {T : rW} {n p v : Int} {g : mG} {d : mD} {Q : mQ} (hn : 0 ≤ n ∧ n ≤ 60) (hT : ∀ j, 0 ≤ j → j < n → 0 ≤ T j ∧ T j ≤ 65535) (hp0 : 0 ≤ p ∧ p ≤ n) (hp : PC d T n p) (hv : vb T n p = v) (h1 : cmW T n (wl v) p = ((wl v).length : Int) → Q (.inl v) g (ud d 60 5 (p + cmW T n (wl v) p))) (h0 : ¬ cmW T n (wl v) p = ((wl v).length : Int) → Q (.inl (-1)) g (ud d 60 5 (p + cmW T n (wl v) p))) : MM mX6_readVerb [vR 60, vR 1] g d Q := by
  have hvr : 0 ≤ v ∧ v ≤ 6 := by rw [← hv]; exact vb_rng
  have hr := cmW_rng (T := T) (n := n) (wl v) p
  have hlv := wl_len hvr
  have f5 := hp.2.2
  have hl : ∀ (m : Nat) (k x2 : Int), k + m = 7 → 0 ≤ k → (0 ≤ x2 ∧ x2 ≤ cmW T n (wl v) p) → (v < k → x2 = cmW T n (wl v) p ∧ ¬ cmW T n (wl v) p = ((wl v).length : Int)) → pX6_readVerb_1 x2 k g d Q := by
    intro m
    induction m with
    | zero =>
      intro k x2 hk hk0 hx hlt
      obtain ⟨e1, e2⟩ := hlt (by omega)
      refine aX6_readVerb_1 ⟨fun _ => ?_, fun z => absurd (by omega) z⟩
      rw [f5, e1]
      exact ⟨ik (by omega), h0 e2⟩
    | succ m ih =>
      intro k x2 hk hk0 hx hlt
      have hkr : 0 ≤ k ∧ k ≤ 6 := by omega
      have hlk := wl_len hkr
      have hrk := cmW_rng (T := T) (n := n) (wl k) p
      refine aX6_readVerb_1 ⟨fun z => absurd z (by omega), fun _ => f_wordOf hkr ?_⟩
      dsimp only
      refine q_countCommon hn hT hp0 hp hkr ?_
      dsimp only
      rw [f5, hlk.1]
      refine ⟨fun z => ?_, fun z => ⟨ik (by omega), ?_⟩⟩
      · have ek : k = v := Classical.byContradiction fun y => (vb_best hv hkr y).2 z
        subst ek
        exact ⟨ik (by omega), h1 z⟩
      · by_cases ek : k = v
        · subst ek
          exact ih (k + 1) _ (by omega) (by omega) (by omega) (fun _ => ⟨by omega, z⟩)
        · have hb := vb_best hv hkr ek
          exact ih (k + 1) _ (by omega) (by omega) (by omega) (fun y => by have := hlt (by omega); exact ⟨by omega, this.2⟩)
  exact eX6_readVerb (hl 7 0 0 rfl (Int.le_refl _) (by omega) (fun y => by omega))
def FrPc (c : Int) (d d' : mD) : Prop := ∀ b j : Int, ¬ (b = 60 ∧ (j = 4 ∨ j = 5)) → ¬ (j = c ∧ 61 ≤ b ∧ b ≤ 64) → d' b j = d b j
theorem q_readCommand {T : rW} {n p c : Int} {g : mG} {d : mD} {Q : mQ} (hn : 0 ≤ n ∧ n ≤ 60) (hT : ∀ j, 0 ≤ j → j < n → 0 ≤ T j ∧ T j ≤ 65535) (hp0 : 0 ≤ p ∧ p ≤ n) (hp : PC d T n p) (hc : d 60 4 = c) (hc2 : 0 ≤ c ∧ c < 16) (h : ∀ d', FrPc c d d' → d' 60 5 = (cmS T n p).1 → ((cmS T n p).2 = 0 → d' 60 4 = c + 1 ∧ CmC d' T n c p) → Q (.inl (bI ((cmS T n p).2 = 0))) g d') : MM mX6_readCommand [vR 60, vR 1] g d Q := by
  have hvr : 0 ≤ vb T n p ∧ vb T n p ≤ 6 := vb_rng
  have eS := wS_c (T := T) (n := n) (p := p) hvr
  have hok := (wS_ok (T := T) (n := n) (v := vb T n p) hp0).1
  refine eX6_readCommand (q_readVerb hn hT hp0 hp rfl (fun z => ?_) (fun z => ?_))
  · rw [if_pos z] at eS
    have e1 : p + cmW T n (wl (vb T n p)) p = (wS T n (vb T n p) p).1 := by rw [eS]
    have e2 : (wS T n (vb T n p) p).2 = 0 := by rw [eS]
    have eC : cmS T n p = vlS T n (vb T n p) (wS T n (vb T n p) p).1 := if_pos e2
    dsimp only
    rw [ud_ne (by omega : ¬ ((60 : Int) = 60 ∧ (4 : Int) = 5)), hc, e1]
    refine ⟨fun y => absurd y (by omega), fun _ => ⟨hc2, ?_⟩⟩
    have P1 : PC (ud (ud d 60 5 (wS T n (vb T n p) p).1) 61 c (vb T n p)) T n (wS T n (vb T n p) p).1 := ⟨by rw [ud_row (by decide), ud_row (by decide)]; exact hp.1, by rw [ud_ne (by omega), ud_ne (by omega)]; exact hp.2.1, by rw [ud_ne (by omega), ud_same]⟩
    refine q_readValues (c := c) hn hT hok.1 P1 (by rw [ud_ne (by omega), ud_ne (by omega)]; exact hc) hc2 (fun d2 f2 h5 hv => ?_)
    dsimp only
    have e4 : d2 60 4 = c := by rw [f2 60 4 (by omega) (by omega), ud_ne (by omega), ud_ne (by omega)]; exact hc
    rw [e4, ← eC]
    refine ⟨ik (by omega), bI_rng, ?_⟩
    rw [← eC] at h5 hv
    refine h _ (fun b j y1 y2 => ?_) ?_ (fun y => ⟨ud_same _ _ _ _, ?_, ?_, fun y2 => ?_, fun y2 => ?_⟩)
    · rw [ud_ne (by omega), f2 b j (by omega) (by omega), ud_ne (by omega), ud_ne (by omega)]
    · rw [ud_ne (by omega)]; exact h5
    · rw [ud_ne (by omega), f2 61 c (by omega) (by omega), ud_same]
    · rw [ud_ne (by omega)]; exact (hv y).1
    · rw [ud_ne (by omega)]; exact (hv y).2.1 y2
    · rw [ud_ne (by omega)]; exact (hv y).2.2 y2
  · rw [if_neg z] at eS
    have e1 : p + cmW T n (wl (vb T n p)) p = (wS T n (vb T n p) p).1 := by rw [eS]
    have e2 : ¬ (wS T n (vb T n p) p).2 = 0 := by rw [eS]; exact (by decide : ¬ ((1 : Int) = 0))
    have eC : cmS T n p = ((wS T n (vb T n p) p).1, 1) := if_neg e2
    dsimp only
    rw [e1]
    refine ⟨fun _ => ?_, fun y => absurd (Or.inl rfl) y⟩
    rw [eC] at h
    have := h (ud d 60 5 (wS T n (vb T n p) p).1) (fun b j y1 y2 => ud_ne (by omega)) (ud_same _ _ _ _) (fun y => absurd y (by decide : ¬ ((1 : Int) = 0)))
    rwa [bI_f (by decide : ¬ ((1 : Int) = 0))] at this
