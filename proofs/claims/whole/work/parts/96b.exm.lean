-- a command of a program, reference
theorem m_execute {k v a b w : Int} {g : mG} {d : mD} {Q : mQ} (hR : RW (d 66)) (h3 : 0 ≤ d 65 3 ∧ d 65 3 ≤ 8) (hk : 0 ≤ k ∧ k < 30) (hv : 0 ≤ v ∧ v ≤ 6) (e1 : d 72 (4 * k) = ltF v) (e2 : d 72 (4 * k + 1) = a) (e3 : v = 0 ∨ v = 4 → d 72 (4 * k + 2) = b) (e4 : v = 0 → d 72 (4 * k + 3) = w ∧ 0 ≤ w ∧ w ≤ 65535) (h : HX (stC (d 66) v a b w) d g Q) : MM mX12_execute [vR 65, vI (4 * k)] g d Q := by
  refine eX12_execute ?_
  rw [e1, e2]
  refine ⟨ik (by omega), by omega, by omega, ?_⟩
  have hc : v = 0 ∨ v = 1 ∨ v = 2 ∨ v = 3 ∨ v = 4 ∨ v = 5 ∨ v = 6 := by omega
  rcases hc with c | c | c | c | c | c | c
  · subst c
    have eS : stC (d 66) 0 a b w = st_serve (d 66) a b w := rfl
    rw [eS] at h
    rw [show ltF 0 = 118 from rfl]
    refine ⟨fun z => absurd z (by decide), fun _ => ⟨fun z => absurd z (by decide), fun _ => ⟨fun z => absurd z (by decide), fun _ => ⟨fun z => absurd z (by decide), fun _ => ⟨fun z => absurd z (by decide), fun _ => ⟨fun z => absurd z (by decide), fun _ => ⟨fun z => absurd z (by decide), fun _ => ⟨fun z => absurd z (by decide), fun _ => ⟨fun z => absurd z (by decide), fun _ => ⟨fun z => absurd z (by decide), fun _ => ⟨fun z => absurd z (by decide), fun _ => ⟨fun z => absurd z (by decide), fun _ => ⟨fun z => absurd z (by decide), fun _ => ⟨fun z => absurd z (by decide), fun _ => ⟨fun z => absurd z (by decide), fun _ => ⟨fun z => absurd z (by decide), fun _ => ⟨fun z => absurd z (by decide), fun _ => ⟨fun z => absurd z (by decide), fun _ => ⟨fun _ => ?_, fun z => absurd rfl z⟩⟩⟩⟩⟩⟩⟩⟩⟩⟩⟩⟩⟩⟩⟩⟩⟩⟩⟩
    obtain ⟨ew, w1, w2⟩ := e4 rfl
    rw [e3 (Or.inl rfl), ew, show w % 65536 = w by omega]
    exact ⟨ik (by omega), by omega, ik (by omega), by omega, n_serve hR h3 (h.k [-1, -2, -3] (fun _ _ q => q))⟩
  · subst c
    have eS : stC (d 66) 1 a b w = st_advance (d 66) a := rfl
    rw [eS] at h
    rw [show ltF 1 = 100 from rfl]
    refine ⟨fun _ => ?_, fun z => absurd rfl z⟩
    exact n_advance hR h3 (h.k [-2, -3] (fun _ _ q => q))
  · subst c
    have eS : stC (d 66) 2 a b w = st_stay (d 66) (-1) a := rfl
    rw [eS] at h
    rw [show ltF 2 = 115 from rfl]
    refine ⟨fun z => absurd z (by decide), fun _ => ⟨fun z => absurd z (by decide), fun _ => ⟨fun z => absurd z (by decide), fun _ => ⟨fun z => absurd z (by decide), fun _ => ⟨fun z => absurd z (by decide), fun _ => ⟨fun z => absurd z (by decide), fun _ => ⟨fun z => absurd z (by decide), fun _ => ⟨fun z => absurd z (by decide), fun _ => ⟨fun z => absurd z (by decide), fun _ => ⟨fun z => absurd z (by decide), fun _ => ⟨fun z => absurd z (by decide), fun _ => ⟨fun z => absurd z (by decide), fun _ => ⟨fun z => absurd z (by decide), fun _ => ⟨fun z => absurd z (by decide), fun _ => ⟨fun z => absurd z (by decide), fun _ => ⟨fun _ => ?_, fun z => absurd rfl z⟩⟩⟩⟩⟩⟩⟩⟩⟩⟩⟩⟩⟩⟩⟩⟩
    exact n_stayAll hR h3 (h.k [-2, -3] (fun _ _ q => q))
  · subst c
    have eS : stC (d 66) 3 a b w = st_lift (d 66) a := rfl
    rw [eS] at h
    rw [show ltF 3 = 108 from rfl]
    refine ⟨fun z => absurd z (by decide), fun _ => ⟨fun z => absurd z (by decide), fun _ => ⟨fun z => absurd z (by decide), fun _ => ⟨fun z => absurd z (by decide), fun _ => ⟨fun z => absurd z (by decide), fun _ => ⟨fun z => absurd z (by decide), fun _ => ⟨fun z => absurd z (by decide), fun _ => ⟨fun z => absurd z (by decide), fun _ => ⟨fun _ => ?_, fun z => absurd rfl z⟩⟩⟩⟩⟩⟩⟩⟩⟩
    exact n_lift hR h3 (h.k [-1, -3] (fun _ _ q => q))
  · subst c
    have eS : stC (d 66) 4 a b w = st_consent (d 66) a b := rfl
    rw [eS] at h
    rw [show ltF 4 = 109 from rfl]
    refine ⟨fun z => absurd z (by decide), fun _ => ⟨fun z => absurd z (by decide), fun _ => ⟨fun z => absurd z (by decide), fun _ => ⟨fun z => absurd z (by decide), fun _ => ⟨fun z => absurd z (by decide), fun _ => ⟨fun z => absurd z (by decide), fun _ => ⟨fun z => absurd z (by decide), fun _ => ⟨fun z => absurd z (by decide), fun _ => ⟨fun z => absurd z (by decide), fun _ => ⟨fun _ => ?_, fun z => absurd rfl z⟩⟩⟩⟩⟩⟩⟩⟩⟩⟩
    rw [e3 (Or.inr rfl)]
    exact ⟨ik (by omega), by omega, n_consent hR h3 (h.k [-1, -2, -3, -4] (fun _ _ q => q))⟩
  · subst c
    have eS : stC (d 66) 5 a b w = st_file (d 66) a := rfl
    rw [eS] at h
    rw [show ltF 5 = 102 from rfl]
    refine ⟨fun z => absurd z (by decide), fun _ => ⟨fun z => absurd z (by decide), fun _ => ⟨fun _ => ?_, fun z => absurd rfl z⟩⟩⟩
    exact n_file hR h3 (h.k [-1, -3] (fun _ _ q => q))
  · subst c
    have eS : stC (d 66) 6 a b w = st_addHoliday (d 66) a := rfl
    rw [eS] at h
    rw [show ltF 6 = 104 from rfl]
    refine ⟨fun z => absurd z (by decide), fun _ => ⟨fun z => absurd z (by decide), fun _ => ⟨fun z => absurd z (by decide), fun _ => ⟨fun z => absurd z (by decide), fun _ => ⟨fun _ => ?_, fun z => absurd rfl z⟩⟩⟩⟩⟩
    exact n_addHoliday hR h3 (h.k [-2, -3] (fun _ _ q => q))
