-- the law
section
variable {sc : Int → Int} {Q : mQ}
theorem l_law4 {g : mG} {d : mD} {R : rW} {u : Int} {H : Int → rW} {fg : Int → Int} {bc bs K KS : Nat} {x3 x4 x5 : Int} (hx : 0 ≤ x3 ∧ x3 < 8) (h0 : 0 ≤ sc (-1)) (h3 : sc (-3) = 0) (hb : K + 2200 ≤ bc ∧ KS + 102000 ≤ bs) (hS : KLS g d R u H sc fg 0) (hK : ∀ (bc bs : Nat) (g : mG) (d : mD) (u' : Int) (H' : Int → rW) (fg' : Int → Int), K ≤ bc ∧ KS ≤ bs → KLS g d R u' H' sc fg' 0 → pL_law_3 bc bs 1 (x3 + 1) g d Q) : pL_law_4 bc bs 1 x3 x4 x5 1 g d Q := by
  have l7 : ∀ (bc bs : Nat) (g : mG) (d : mD) (u : Int) (H : Int → rW) (fg : Int → Int), K + 700 ≤ bc ∧ KS + 21800 ≤ bs → KLS g d R u H sc fg 0 → pL_law_7 bc bs 1 x3 x4 x5 1 g d Q := by
    intro bc bs g d u H fg hb hS
    refine aL_law_7 (by omega) (f_print hS (fun d1 hS1 => ?_))
    dsimp only
    refine ⟨fun c => absurd c (by decide), fun _ => ⟨hx.1, fun _ => ⟨ik (by omega), ik (by omega), f_isUndone hS1 h0 (by omega) (fun g2 d2 u2 H2 hS2 => ?_)⟩, fun _ => ?_⟩⟩
    · dsimp only
      refine ⟨fun c => absurd c (by decide), fun _ => aL_law_12 (aL_law_11 ⟨ik (by omega), hK _ _ _ _ _ _ _ (by omega) hS2⟩)⟩
    · exact aL_law_12 (aL_law_11 ⟨ik (by omega), hK _ _ _ _ _ _ _ (by omega) hS1⟩)
  refine aL_law_4 (by omega) ⟨fun c => absurd c (by decide), fun _ => ⟨ik (by omega), ik (by omega), f_areRanges hS h0 (by omega) (fun d1 hS1 => ?_)⟩⟩
  dsimp only
  refine ⟨fun c => absurd c (by decide), fun _ => ⟨hx.1, fun _ => aL_law_8 (l7 _ _ _ _ _ _ _ (by omega) hS1), fun _ => ⟨ik (by omega), l_pick hS1 h0 (by omega) (by decide) (fun v v1 v2 => ?_)⟩⟩⟩
  dsimp only
  refine ⟨ik (by omega), f_isStayed hS1 h3 (by omega) (fun g2 d2 u2 H2 fg2 hS2 => ?_)⟩
  dsimp only
  exact ⟨fun c => absurd c (by decide), fun _ => aL_law_8 (l7 _ _ _ _ _ _ _ (by omega) hS2)⟩
theorem l_law3 (h0 : 0 ≤ sc (-1)) (h3 : sc (-3) = 0) (h : ∀ g' d' R' u' H' fg', KLS g' d' R' u' H' sc fg' 0 → Q (.inl 1) g' d') : ∀ (m bc bs : Nat) (x3 : Int) (g : mG) (d : mD) (R : rW) (u : Int) (H : Int → rW) (fg : Int → Int), KLS g d R u H sc fg 0 → 0 ≤ x3 → x3 + m = 8 → 3800 * m + 2000 ≤ bc ∧ 119000 * m + 20000 ≤ bs → pL_law_3 bc bs 1 x3 g d Q := by
  intro m
  induction m with
  | zero =>
    intro bc bs x3 g d R u H fg hS hx hm hb
    refine aL_law_3 (by omega) ⟨fun c => absurd c.1 (by omega), fun _ => ?_⟩
    refine aL_law_6 (by omega) ⟨fun c => absurd c (by decide), fun _ => f_isConduct hS (fun d1 hS1 => ?_)⟩
    dsimp only
    refine ⟨fun c => absurd c (by decide), fun _ => l_isConsistent hS1 (fun d2 hS2 => ?_)⟩
    dsimp only
    rw [bI_t (show ¬ ((1 : Int) = 0) by decide)]
    exact aL_law_10 ⟨by decide, h _ _ _ _ _ _ hS2⟩
  | succ m ih =>
    intro bc bs x3 g d R u H fg hS hx hm hb
    refine aL_law_3 (by omega) ⟨fun _ => f_print hS (fun d1 hS1 => ?_), fun c => absurd ⟨by omega, by decide⟩ c⟩
    dsimp only
    have st : ∀ (v : Int) (g2 : mG) (d2 : mD) (R2 : rW) (u2 : Int) (H2 : Int → rW), KLS g2 d2 R2 u2 H2 sc fg 0 → (v < 0 → R2 = R) → MM mL_areDeadlines [vR 0] g2 d2 (fun o g37 d38 => match o with | .inl v36 => ((v36 = 0) → pL_law_4 (bc - 300 - 48 - 558) (bs - 1800 - 8234 - 3348) 1 x3 (prF R) v 0 g37 d38 Q) ∧ ((¬ (v36 = 0)) → (0 ≤ x3) ∧ (((0 < x3 % 3) → pL_law_5 (bc - 300 - 48 - 558) (bs - 1800 - 8234 - 3348) 1 x3 (prF R) v g37 d38 Q) ∧ ((¬ (0 < x3 % 3)) → MM mL_isOrdered [vR 0] g37 d38 (fun o g46 d47 => match o with | .inl v45 => ((v45 = 0) → pL_law_4 (bc - 300 - 48 - 558 - 300) (bs - 1800 - 8234 - 3348 - 1800) 1 x3 (prF R) v 0 g46 d47 Q) ∧ ((¬ (v45 = 0)) → pL_law_5 (bc - 300 - 48 - 558 - 300) (bs - 1800 - 8234 - 3348 - 1800) 1 x3 (prF R) v g46 d47 Q) | .inr k => Q (.inr k) g46 d47)))) | .inr k => Q (.inr k) g37 d38) := by
      intro v g2 d2 R2 u2 H2 hS2 hv
      have l5 : ∀ (bc bs : Nat) (d : mD), 3800 * m + 2000 + 2500 ≤ bc ∧ 119000 * m + 20000 + 103800 ≤ bs → KLS g2 d R2 u2 H2 sc fg 0 → pL_law_5 bc bs 1 x3 (prF R) v g2 d Q := by
        intro bc bs d hb hS
        refine aL_law_5 (by omega) ⟨fun _ => aL_law_9 ?_, fun c => f_print hS (fun d3 hS3 => ?_)⟩
        · exact l_law4 (K := 3800 * m + 2000) (KS := 119000 * m + 20000) (by omega) h0 h3 (by omega) hS (fun bc bs g d u' H' fg' hb hS => ih _ _ _ _ _ _ _ _ _ hS (by omega) (by omega) hb)
        · dsimp only
          refine ⟨fun _ => aL_law_9 ?_, fun c2 => absurd (by rw [hv (by omega)]) c2⟩
          exact l_law4 (K := 3800 * m + 2000) (KS := 119000 * m + 20000) (by omega) h0 h3 (by omega) hS3 (fun bc bs g d u' H' fg' hb hS => ih _ _ _ _ _ _ _ _ _ hS (by omega) (by omega) hb)
      refine f_areDeadlines hS2 (fun d3 hS3 => ?_)
      dsimp only
      refine ⟨fun c => absurd c (by decide), fun _ => ⟨hx, fun _ => l5 _ _ _ (by omega) hS3, fun _ => f_isOrdered hS3 (fun d4 hS4 => ?_)⟩⟩
      dsimp only
      exact ⟨fun c => absurd c (by decide), fun _ => l5 _ _ _ (by omega) hS4⟩
    refine ⟨ik (by omega), ik (by omega), f_any hS1 h0 (by omega) (fun v z g2 d2 hS2 => ?_) (fun v z g2 d2 R' hS2 => ?_)⟩
    · exact st v g2 d2 R u H hS2 (fun _ => rfl)
    · exact st v g2 d2 R' _ _ hS2 (fun c => absurd c (by omega))
theorem f_law {g : mG} {d : mD} {R : rW} {u : Int} {H : Int → rW} {fg : Int → Int} {bc bs : Nat} (h0 : 0 ≤ sc (-1)) (h3 : sc (-3) = 0) (hb : 40000 ≤ bc ∧ 1300000 ≤ bs) (hS : KLS g d R u H sc fg 0) (h : ∀ g' d', Q (.inl 1) g' d') : pL_law_1 bc bs g d Q := by
  refine aL_law_1 (by omega) (f_lay h0 hS (fun g1 d1 R1 u1 H1 hS1 => ?_))
  dsimp only
  refine f_areDeadlines hS1 (fun d2 hS2 => ?_)
  dsimp only
  refine ⟨fun c => absurd c (by decide), fun _ => f_isOrdered hS2 (fun d3 hS3 => ?_)⟩
  dsimp only
  refine ⟨fun c => absurd c (by decide), fun _ => l_isConsistent hS3 (fun d4 hS4 => ?_)⟩
  dsimp only
  rw [bI_t (show ¬ ((1 : Int) = 0) by decide)]
  exact aL_law_2 (l_law3 h0 h3 (fun g' d' R' u' H' fg' _ => h g' d') 8 _ _ 0 _ _ _ _ _ _ hS4 (by decide) (by decide) (by omega))
end
