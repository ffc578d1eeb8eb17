theorem MM.mono {M : mM} {A : List mV} {g : mG} {d : mD} {Q Q' : mQ} (hQ : ∀ o g' d', Q o g' d' → Q' o g' d') (h : MM M A g d Q) : MM M A g d Q' := by
  intro l X φ hfl p e ha hc hk s m args below hf happ hP hK
  obtain ⟨n, o, h1, h2, h3, h4⟩ := h l X φ hfl p e ha hc hk s m args below hf happ hP hK
  refine ⟨n, o, h1, h2, h3, ?_⟩
  rcases h4 with ⟨⟨⟨v, g', d', φ', q, q2⟩, qF⟩, qL⟩ | ⟨z, hz, E, ce, L, ⟨⟨k, g', d', φ', q, q2⟩, qF⟩, qr⟩
  · exact Or.inl ⟨⟨⟨v, g', d', φ', hQ _ _ _ q, q2⟩, qF⟩, qL⟩
  · exact Or.inr ⟨z, hz, E, ce, L, ⟨⟨k, g', d', φ', hQ _ _ _ q, q2⟩, qF⟩, qr⟩
/-- what holds of any cells at any place -/
theorem mw_top {M : mM} {bc bs pc : Nat} {L : List (Nat × mV)} {S : List mV} {g : mG} {d : mD} {Q : mQ} (k0 : TY g d ∧ mW M ≤ g.2.1 → MW M bc bs pc L S g d Q) : MW M bc bs pc L S g d Q := by
  intro p l e s m args below meth c H locs cells slots X φ E ls hC hS hR hE hL hO hl hw hc hs
  exact k0 ⟨hR.2.2.1, Int.le_trans hw hR.2.2.1.2.1⟩ p l e s m args below meth c H locs cells slots X φ E ls hC hS hR hE hL hO hl hw hc hs
theorem mw_oks {M : mM} {bc bs pc : Nat} {L : List (Nat × mV)} {S : List mV} {g : mG} {d : mD} {Q : mQ} (k0 : TY g d ∧ mW M ≤ g.1 ∧ okl g.2.1 L ∧ oks g.2.1 S → MW M bc bs pc L S g d Q) : MW M bc bs pc L S g d Q := by
  intro p l e s m args below meth c H locs cells slots X φ E ls hC hS hR hE hL hO hl hw hc hs
  exact k0 ⟨hR.2.2.1, hw, hL, hO⟩ p l e s m args below meth c H locs cells slots X φ E ls hC hS hR hE hL hO hl hw hc hs
theorem MM.pre {M : mM} {A : List mV} {g : mG} {d : mD} {Q : mQ} (h : TY g d ∧ mW M ≤ g.1 ∧ oks g.2.1 A → MM M A g d Q) : MM M A g d Q := by
  intro l X φ hfl p e ha hc hk s m args below hf happ hP hK
  exact h ⟨hP.2.2.2.1.2.2.1, hP.2.2.2.2.1, hP.2.2.2.2.2⟩ l X φ hfl p e ha hc hk s m args below hf happ hP hK
theorem mw_alenN {M : mM} {bc bs : Nat} {pc pc' : Nat} {L : List (Nat × mV)} {S : List mV} {g : mG} {d : mD} {Q : mQ} {a n : Int} (hd : decode (mC M) pc = .ok (.arraylength, 1)) (hp : pc + 1 = pc') (hk : 100 ≤ LK a ∧ LK a < 106) (ha : 0 ≤ a ∧ a < mW M) (hn : LN a = n) (hn2 : 0 ≤ n ∧ n ≤ 10000) (k0 : MW M bc bs pc' L (vI n :: S) g d Q) : MW M bc bs pc L (vR a :: S) g d Q := by
  subst hn
  exact mw_alen hd hp hk ha hn2 k0
theorem sw_cases (a lo hi : Int) : (a < lo ∨ hi < a) ∨ (lo ≤ a ∧ a ≤ hi) := by omega
theorem mw_dconst0 {M : mM} {bc bs : Nat} {pc pc' : Nat} {L : List (Nat × mV)} {S : List mV} {g : mG} {d : mD} {Q : mQ} (hd : decode (mC M) pc = .ok (.dconst 0, 1)) (hp : pc + 1 = pc') (k0 : MW M bc bs pc' L (vD 0 :: S) g d Q) : MW M bc bs pc L S g d Q := by
  subst hp
  intro p l e s m args below meth c H locs cells slots X φ E ls hC hS hR hE hL hO hl hw hc hs
  exact lv_dconst0 hC.1 hC.2.1 hd (k0 p l e s m args below meth c H locs cells slots X φ E ls hC hS hR hE hL ⟨Int.le_refl _, hO⟩ hl hw hc hs)
