-- service, reference
theorem n_serve {x y z : Int} {g : mG} {d : mD} {Q : mQ} (hR : RW (d 66)) (h3 : 0 ≤ d 65 3 ∧ d 65 3 ≤ 8) (h : HK [-1, -2, -3] (st_serve (d 66) x y z) d g Q) : MM mX12_serve [vR 65, vI x, vI y, vI z] g d Q := by
  have n1 := hR.n.2.1
  have n3 := hR.n.2.2.2.1
  have hw := way_rng z
  refine eX12_serve ⟨ik (by omega), fun c => h.e (sO_f (by omega)) (by decide) (by decide) 0, fun c => ⟨fun c2 => h.e (c := -2) (R := d 66) ?_ (by decide) (by decide) 0, fun c2 => ⟨fun c3 => h.e (c := -3) (R := d 66) ?_ (by decide) (by decide) 0, fun c3 => ⟨h3, ik (by omega), ik (by omega), ?_⟩⟩⟩⟩
  · unfold st_serve
    rw [sO_t (by omega)]
    exact sO_t (p := wayF z = -1) c2
  · have c2' : ¬ wayF z = -1 := c2
    unfold st_serve
    rw [sO_t (by omega), sO_f c2', sO_f (by omega)]
  · have c2' : ¬ wayF z = -1 := c2
    have hl : ∀ (m : Nat) (k : Int) (d' : mD), 0 ≤ k → k + m = 16 → (∀ b j : Int, b ≠ 66 → d' b j = mChg (ud d 65 5 0) b j) → (∀ j, ¬ (139 + 16 * d 66 3 ≤ j ∧ j < 139 + 16 * d 66 3 + k) → d' 66 j = d 66 j) → (∀ j, 139 + 16 * d 66 3 ≤ j → j < 139 + 16 * d 66 3 + k → d' 66 j = 0) → pX12_serve_1 x y z (139 + 16 * d 66 3) k g d' Q := by
      intro m
      induction m with
      | zero =>
        intro k d' hk hm hf h1 h2
        have e3 : d' 66 3 = d 66 3 := h1 3 (by omega)
        have e0 : d' 66 0 = d 66 0 := h1 0 (by omega)
        have ea : d' 66 (119 + 2 * y) = d 66 (119 + 2 * y) := h1 _ (by omega)
        have eb : d' 66 (120 + 2 * y) = d 66 (120 + 2 * y) := h1 _ (by omega)
        have ec : d' 66 (135 + wayF z) = d 66 (135 + wayF z) := h1 _ (by omega)
        refine aX12_serve_1 ⟨fun _ => ?_, fun c => absurd (by omega) c⟩
        show iI (139 + 16 * d 66 3 + 0) ∧ ((0 ≤ 139 + 16 * d 66 3 + 0 ∧ 139 + 16 * d 66 3 + 0 < 787) ∧ (iI (139 + 16 * d 66 3 + 1) ∧ ((0 ≤ 139 + 16 * d 66 3 + 1 ∧ 139 + 16 * d 66 3 + 1 < 787) ∧ (iI (139 + 16 * d 66 3 + 2) ∧ _))))
        refine ⟨ik (by omega), by omega, ik (by omega), by omega, ik (by omega), by omega, by omega, by omega, ik (by omega), ik (by omega), ik (by omega), by omega, by omega, by omega, by omega, by omega, ik (by omega), ik (by omega), by omega, by omega, by omega, by omega, by omega, by omega, ik (by omega), ?_⟩
        show iI (135 + wayF z) ∧ ((0 ≤ 135 + wayF z ∧ 135 + wayF z < 787) ∧ ((¬ (135 + wayF z = 4 + (139 + 16 * d 66 3))) ∧ ((¬ (135 + wayF z = 3 + (139 + 16 * d 66 3))) ∧ ((¬ (135 + wayF z = 2 + (139 + 16 * d 66 3))) ∧ ((¬ (135 + wayF z = 1 + (139 + 16 * d 66 3))) ∧ ((¬ (135 + wayF z = 139 + 16 * d 66 3)) ∧ _))))))
        refine ⟨ik (by omega), by omega, by omega, by omega, by omega, by omega, by omega, by omega, ik (by omega), by omega, by omega, by omega, by omega, by omega, by omega, by omega, by omega, ik (by omega), ik (by omega), ?_⟩
        show Q (.inl (d' 66 3 + 1 - 1)) g (ud (ud (ud (ud (ud (ud (ud (ud d' 66 (139 + 16 * d 66 3) x) 66 (1 + (139 + 16 * d 66 3)) y) 66 (2 + (139 + 16 * d 66 3)) (d' 66 0)) 66 (3 + (139 + 16 * d 66 3)) (d' 66 (119 + 2 * y))) 66 (4 + (139 + 16 * d 66 3)) (d' 66 (120 + 2 * y))) 66 (5 + (139 + 16 * d 66 3)) (d' 66 (135 + wayF z))) 66 (6 + (139 + 16 * d 66 3)) 111) 66 3 (d' 66 3 + 1))
        rw [e3, e0, ea, eb, ec, show d 66 3 + 1 - 1 = d 66 3 by omega]
        refine h.v (R := svR (d 66) x y (wayF z)) ?_ (by omega) ?_ (fun b j q => (show _ = d' b j from ?_).trans (hf b j q))
        · unfold st_serve
          rw [sO_t (by omega), sO_f c2', sO_t (by omega)]
        · rw [ud_up, ud_up, ud_up, ud_up, ud_up, ud_up, ud_up, ud_up]
          funext j
          by_cases q3 : j = 3
          · subst q3; rw [up_s, svR_3]
          · rw [up_n q3]
            by_cases qb : 139 + 16 * d 66 3 ≤ j ∧ j ≤ 154 + 16 * d 66 3
            · rw [svR_b n3.1 qb]
              by_cases q0 : j = 139 + 16 * d 66 3
              · rw [if_pos q0]; subst q0
                rw [up_n (by omega), up_n (by omega), up_n (by omega), up_n (by omega), up_n (by omega), up_n (by omega), up_s]
              rw [if_neg q0]
              by_cases q1 : j = 140 + 16 * d 66 3
              · rw [if_pos q1, show 1 + (139 + 16 * d 66 3) = j by omega]
                rw [up_n (by omega), up_n (by omega), up_n (by omega), up_n (by omega), up_n (by omega), up_s]
              rw [if_neg q1]
              by_cases q2 : j = 141 + 16 * d 66 3
              · rw [if_pos q2, show 2 + (139 + 16 * d 66 3) = j by omega]
                rw [up_n (by omega), up_n (by omega), up_n (by omega), up_n (by omega), up_s]
              rw [if_neg q2]
              by_cases q4 : j = 142 + 16 * d 66 3
              · rw [if_pos q4, show 3 + (139 + 16 * d 66 3) = j by omega]
                rw [up_n (by omega), up_n (by omega), up_n (by omega), up_s]
              rw [if_neg q4]
              by_cases q5 : j = 143 + 16 * d 66 3
              · rw [if_pos q5, show 4 + (139 + 16 * d 66 3) = j by omega]
                rw [up_n (by omega), up_n (by omega), up_s]
              rw [if_neg q5]
              by_cases q6 : j = 144 + 16 * d 66 3
              · rw [if_pos q6, show 5 + (139 + 16 * d 66 3) = j by omega]
                rw [up_n (by omega), up_s]
              rw [if_neg q6]
              by_cases q7 : j = 145 + 16 * d 66 3
              · rw [if_pos q7, show 6 + (139 + 16 * d 66 3) = j by omega, up_s]
              rw [if_neg q7]
              repeat rw [up_n (by omega)]
              exact h2 j (by omega) (by omega)
            · rw [svR_ne q3 qb]
              repeat rw [up_n (by omega)]
              exact h1 j (by omega)
        · repeat rw [ud_ne (by omega)]
      | succ m ih =>
        intro k d' hk hm hf h1 h2
        refine aX12_serve_1 ⟨fun c => absurd c (by omega), fun _ => ⟨ik (by omega), by omega, ik (by omega), ih (k + 1) _ (by omega) (by omega) (fun b j q => by rw [ud_ne (by omega)]; exact hf b j q) (fun j q => by rw [ud_ne (by omega)]; exact h1 j (by omega)) (fun j q1 q2 => ?_)⟩⟩
        by_cases e : j = 139 + 16 * d 66 3 + k
        · subst e; rw [ud_same]
        · rw [ud_ne (by omega)]; exact h2 j q1 (by omega)
    have e66 : mChg (ud d 65 5 0) 66 = d 66 := mChg66
    exact hl 16 0 (mChg (ud d 65 5 0)) (by omega) (by omega) (fun _ _ _ => rfl) (fun j _ => by rw [e66]) (fun j q1 q2 => by omega)
