-- what the law makes of an exception
def dcV (k : Nat) : Int := if k = 3 then -2001 else if k = 2 then -2002 else if k = 1 then -2003 else if k = 5 then -2004 else -2005
def aV : mO → Int
  | .inl v => v
  | .inr k => dcV k
theorem deed_of {x1 x2 x3 x4 : Int} {g : mG} {d : mD} {Q : mQ} (h : MM mL_plain [vR 0, vI x1, vI x2, vI x3, vI x4] g d (fun o g' d' => match o with | .inl v => Q (.inl v) g' d' | .inr k => (k = 3 ∨ k = 2 ∨ k = 1 ∨ k = 5 ∨ k = 4) ∧ Q (.inl (dcV k)) g' d')) : MM mL_deed [vR 0, vI x1, vI x2, vI x3, vI x4] g d Q := by
  refine MM_of (by decide) rfl (by simp [catV]) (Nat.le_of_ble_eq_true rfl) ?_
  show MW mL_deed 48 8234 0 [(0, vR 0), (1, vI x1), (2, vI x2), (3, vI x3), (4, vI x4)] [] g d Q
  refine mw_top (fun hT => ?_)
  have hG : 65 ≤ g.2.1 := hT.2
  refine mw_aload_n (v := vR 0) (pc' := 1) dL_deed_0 rfl rfl (Or.inl rfl) rfl ?_
  refine mw_iload_n (pc' := 2) dL_deed_1 rfl rfl rfl ?_
  refine mw_iload_n (pc' := 3) dL_deed_2 rfl rfl rfl ?_
  refine mw_iload_n (pc' := 4) dL_deed_3 rfl rfl rfl ?_
  refine mw_iload (pc' := 6) dL_deed_4 rfl rfl ?_
  refine mw_callS (M' := mL_plain) (A := [vR 0, vI x1, vI x2, vI x3, vI x4]) (S := []) (pc' := 9) dL_deed_6 rfl cl_RL_95 cm_L_plain cs_L_plain ⟨by decide, by decide, by decide, by decide, by decide⟩ rfl rfl (Nat.le_of_ble_eq_true rfl) (MM.mono ?_ h)
  intro o g1 d1 h1
  rcases o with v | k
  · show MW mL_deed 0 0 9 [(0, vR 0), (1, vI x1), (2, vI x2), (3, vI x3), (4, vI x4)] [vI v] g1 d1 Q
    exact mw_iret (pc' := 0) (S := []) dL_deed_9 rfl (Or.inl rfl) h1
  · obtain ⟨hk, hq⟩ := h1
    rcases hk with rfl | rfl | rfl | rfl | rfl
    · refine mx_catch (k := 3) (k1 := 0) [] ⟨0, 9, 10, 99⟩ [⟨0, 9, 16, 101⟩, ⟨0, 9, 22, 103⟩, ⟨0, 9, 28, 105⟩, ⟨0, 9, 34, 107⟩] rfl (fun _ hz => absurd hz List.not_mem_nil) rfl (by decide) kc_3 ka_3 (fun q => ?_)
      refine mw_astore (v := (7, q)) (pc' := 12) (L' := [(0, vR 0), (1, vI x1), (2, vI x2), (3, vI x3), (4, vI x4), (5, (7, q))]) dL_deed_10 rfl (by simp) (by decide) rfl ?_
      refine mw_sipush (n := (-2001)) (pc' := 15) dL_deed_12 rfl ⟨by decide, by decide⟩ ?_
      exact mw_iret (pc' := 0) (S := []) dL_deed_15 rfl (Or.inl rfl) hq
    · refine mx_catch (k := 2) (k1 := 0) [⟨0, 9, 10, 99⟩] ⟨0, 9, 16, 101⟩ [⟨0, 9, 22, 103⟩, ⟨0, 9, 28, 105⟩, ⟨0, 9, 34, 107⟩] rfl (List.forall_mem_cons.mpr ⟨⟨by decide, 1, 2, by decide, by decide, by decide, rfl, kc_3⟩, (fun _ hz => absurd hz List.not_mem_nil)⟩) rfl (by decide) kc_2 ka_2 (fun q => ?_)
      refine mw_astore (v := (7, q)) (pc' := 18) (L' := [(0, vR 0), (1, vI x1), (2, vI x2), (3, vI x3), (4, vI x4), (5, (7, q))]) dL_deed_16 rfl (by simp) (by decide) rfl ?_
      refine mw_sipush (n := (-2002)) (pc' := 21) dL_deed_18 rfl ⟨by decide, by decide⟩ ?_
      exact mw_iret (pc' := 0) (S := []) dL_deed_21 rfl (Or.inl rfl) hq
    · refine mx_catch (k := 1) (k1 := 0) [⟨0, 9, 10, 99⟩, ⟨0, 9, 16, 101⟩] ⟨0, 9, 22, 103⟩ [⟨0, 9, 28, 105⟩, ⟨0, 9, 34, 107⟩] rfl (List.forall_mem_cons.mpr ⟨⟨by decide, 0, 2, by decide, by decide, by decide, rfl, kc_3⟩, (List.forall_mem_cons.mpr ⟨⟨by decide, 0, 1, by decide, by decide, by decide, rfl, kc_2⟩, (fun _ hz => absurd hz List.not_mem_nil)⟩)⟩) rfl (by decide) kc_1 ka_1 (fun q => ?_)
      refine mw_astore (v := (7, q)) (pc' := 24) (L' := [(0, vR 0), (1, vI x1), (2, vI x2), (3, vI x3), (4, vI x4), (5, (7, q))]) dL_deed_22 rfl (by simp) (by decide) rfl ?_
      refine mw_sipush (n := (-2003)) (pc' := 27) dL_deed_24 rfl ⟨by decide, by decide⟩ ?_
      exact mw_iret (pc' := 0) (S := []) dL_deed_27 rfl (Or.inl rfl) hq
    · refine mx_catch (k := 5) (k1 := 0) [⟨0, 9, 10, 99⟩, ⟨0, 9, 16, 101⟩, ⟨0, 9, 22, 103⟩] ⟨0, 9, 28, 105⟩ [⟨0, 9, 34, 107⟩] rfl (List.forall_mem_cons.mpr ⟨⟨by decide, 4, 2, by decide, by decide, by decide, rfl, kc_3⟩, (List.forall_mem_cons.mpr ⟨⟨by decide, 4, 1, by decide, by decide, by decide, rfl, kc_2⟩, (List.forall_mem_cons.mpr ⟨⟨by decide, 4, 0, by decide, by decide, by decide, rfl, kc_1⟩, (fun _ hz => absurd hz List.not_mem_nil)⟩)⟩)⟩) rfl (by decide) kc_5 ka_5 (fun q => ?_)
      refine mw_astore (v := (7, q)) (pc' := 30) (L' := [(0, vR 0), (1, vI x1), (2, vI x2), (3, vI x3), (4, vI x4), (5, (7, q))]) dL_deed_28 rfl (by simp) (by decide) rfl ?_
      refine mw_sipush (n := (-2004)) (pc' := 33) dL_deed_30 rfl ⟨by decide, by decide⟩ ?_
      exact mw_iret (pc' := 0) (S := []) dL_deed_33 rfl (Or.inl rfl) hq
    · refine mx_catch (k := 4) (k1 := 0) [⟨0, 9, 10, 99⟩, ⟨0, 9, 16, 101⟩, ⟨0, 9, 22, 103⟩, ⟨0, 9, 28, 105⟩] ⟨0, 9, 34, 107⟩ [] rfl (List.forall_mem_cons.mpr ⟨⟨by decide, 3, 2, by decide, by decide, by decide, rfl, kc_3⟩, (List.forall_mem_cons.mpr ⟨⟨by decide, 3, 1, by decide, by decide, by decide, rfl, kc_2⟩, (List.forall_mem_cons.mpr ⟨⟨by decide, 3, 0, by decide, by decide, by decide, rfl, kc_1⟩, (List.forall_mem_cons.mpr ⟨⟨by decide, 3, 4, by decide, by decide, by decide, rfl, kc_5⟩, (fun _ hz => absurd hz List.not_mem_nil)⟩)⟩)⟩)⟩) rfl (by decide) kc_4 ka_4 (fun q => ?_)
      refine mw_astore (v := (7, q)) (pc' := 36) (L' := [(0, vR 0), (1, vI x1), (2, vI x2), (3, vI x3), (4, vI x4), (5, (7, q))]) dL_deed_34 rfl (by simp) (by decide) rfl ?_
      refine mw_sipush (n := (-2005)) (pc' := 39) dL_deed_36 rfl ⟨by decide, by decide⟩ ?_
      exact mw_iret (pc' := 0) (S := []) dL_deed_39 rfl (Or.inl rfl) hq
theorem ask_of {x1 x2 x3 x4 : Int} {g : mG} {d : mD} {Q : mQ} (h : MM mL_asked [vR 0, vI x1, vI x2, vI x3, vI x4] g d (fun o g' d' => match o with | .inl v => Q (.inl v) g' d' | .inr k => (k = 3 ∨ k = 2 ∨ k = 4) ∧ Q (.inl (dcV k)) g' d')) : MM mL_ask [vR 0, vI x1, vI x2, vI x3, vI x4] g d Q := by
  refine MM_of (by decide) rfl (by simp [catV]) (Nat.le_of_ble_eq_true rfl) ?_
  show MW mL_ask 3 18 0 [(0, vR 0), (1, vI x1), (2, vI x2), (3, vI x3), (4, vI x4)] [] g d Q
  refine mw_top (fun hT => ?_)
  have hG : 65 ≤ g.2.1 := hT.2
  refine mw_aload_n (v := vR 0) (pc' := 1) dL_ask_0 rfl rfl (Or.inl rfl) rfl ?_
  refine mw_iload_n (pc' := 2) dL_ask_1 rfl rfl rfl ?_
  refine mw_iload_n (pc' := 3) dL_ask_2 rfl rfl rfl ?_
  refine mw_iload_n (pc' := 4) dL_ask_3 rfl rfl rfl ?_
  refine mw_iload (pc' := 6) dL_ask_4 rfl rfl ?_
  refine mw_callS (M' := mL_asked) (A := [vR 0, vI x1, vI x2, vI x3, vI x4]) (S := []) (pc' := 9) dL_ask_6 rfl cl_RL_211 cm_L_asked cs_L_asked ⟨by decide, by decide, by decide, by decide, by decide⟩ rfl rfl (Nat.le_of_ble_eq_true rfl) (MM.mono ?_ h)
  intro o g1 d1 h1
  rcases o with v | k
  · show MW mL_ask 0 0 9 [(0, vR 0), (1, vI x1), (2, vI x2), (3, vI x3), (4, vI x4)] [vI v] g1 d1 Q
    exact mw_iret (pc' := 0) (S := []) dL_ask_9 rfl (Or.inl rfl) h1
  · obtain ⟨hk, hq⟩ := h1
    rcases hk with rfl | rfl | rfl
    · refine mx_catch (k := 3) (k1 := 0) [] ⟨0, 9, 10, 99⟩ [⟨0, 9, 16, 101⟩, ⟨0, 9, 22, 107⟩] rfl (fun _ hz => absurd hz List.not_mem_nil) rfl (by decide) kc_3 ka_3 (fun q => ?_)
      refine mw_astore (v := (7, q)) (pc' := 12) (L' := [(0, vR 0), (1, vI x1), (2, vI x2), (3, vI x3), (4, vI x4), (5, (7, q))]) dL_ask_10 rfl (by simp) (by decide) rfl ?_
      refine mw_sipush (n := (-2001)) (pc' := 15) dL_ask_12 rfl ⟨by decide, by decide⟩ ?_
      exact mw_iret (pc' := 0) (S := []) dL_ask_15 rfl (Or.inl rfl) hq
    · refine mx_catch (k := 2) (k1 := 0) [⟨0, 9, 10, 99⟩] ⟨0, 9, 16, 101⟩ [⟨0, 9, 22, 107⟩] rfl (List.forall_mem_cons.mpr ⟨⟨by decide, 1, 2, by decide, by decide, by decide, rfl, kc_3⟩, (fun _ hz => absurd hz List.not_mem_nil)⟩) rfl (by decide) kc_2 ka_2 (fun q => ?_)
      refine mw_astore (v := (7, q)) (pc' := 18) (L' := [(0, vR 0), (1, vI x1), (2, vI x2), (3, vI x3), (4, vI x4), (5, (7, q))]) dL_ask_16 rfl (by simp) (by decide) rfl ?_
      refine mw_sipush (n := (-2002)) (pc' := 21) dL_ask_18 rfl ⟨by decide, by decide⟩ ?_
      exact mw_iret (pc' := 0) (S := []) dL_ask_21 rfl (Or.inl rfl) hq
    · refine mx_catch (k := 4) (k1 := 0) [⟨0, 9, 10, 99⟩, ⟨0, 9, 16, 101⟩] ⟨0, 9, 22, 107⟩ [] rfl (List.forall_mem_cons.mpr ⟨⟨by decide, 3, 2, by decide, by decide, by decide, rfl, kc_3⟩, (List.forall_mem_cons.mpr ⟨⟨by decide, 3, 1, by decide, by decide, by decide, rfl, kc_2⟩, (fun _ hz => absurd hz List.not_mem_nil)⟩)⟩) rfl (by decide) kc_4 ka_4 (fun q => ?_)
      refine mw_astore (v := (7, q)) (pc' := 24) (L' := [(0, vR 0), (1, vI x1), (2, vI x2), (3, vI x3), (4, vI x4), (5, (7, q))]) dL_ask_22 rfl (by simp) (by decide) rfl ?_
      refine mw_sipush (n := (-2005)) (pc' := 27) dL_ask_24 rfl ⟨by decide, by decide⟩ ?_
      exact mw_iret (pc' := 0) (S := []) dL_ask_27 rfl (Or.inl rfl) hq
/-- a state: the class shows row R, H are the rows to come back to, the script's row, the law's own row, the buffer -/
def KLS (g : mG) (d : mD) (R : rW) (u : Int) (H : Int → rW) (sc fg : Int → Int) (n : Int) : Prop := CS g d R u H ∧ d SCR = sc ∧ d FGN = fg ∧ d 1 1 = n ∧ (0 ≤ n ∧ n ≤ 60) ∧ ∀ j, 0 ≤ j → j < n → 0 ≤ d 2 j ∧ d 2 j ≤ 65535
section
variable {g : mG} {d : mD} {R : rW} {u : Int} {H : Int → rW} {sc fg : Int → Int} {n : Int} {Q : mQ}
theorem KLS.frS {d' : mD} (h : KLS g d R u H sc fg n) (hf : FrS d d') : KLS g d' R u H sc fg n := by
  obtain ⟨hS, e1, e2, e3, e4, e5⟩ := h
  refine ⟨hS.fr (hS.1.frS hf) (fun b j q1 q2 => hf b j (by omega) (by omega)) (hf 0 5 (by omega) (by omega)) (hf 0 6 (by omega) (by omega)), (funext fun j => hf SCR j (by decide) (by decide)).trans e1, (funext fun j => hf FGN j (by decide) (by decide)).trans e2, (hf 1 1 (by omega) (by omega)).trans e3, e4, fun j q1 q2 => ?_⟩
  rw [hf 2 j (by omega) (by omega)]
  exact e5 j q1 q2
theorem KLS.frY {g' : mG} {d' : mD} {R' : rW} {u' n' : Int} {H' : Int → rW} (h : KLS g d R u H sc fg n) (hf : FrY d d') (hS : CS g' d' R' u' H') (hn : d' 1 1 = n') (hb : n' = n ∨ n' = 0) : KLS g' d' R' u' H' sc fg n' := by
  obtain ⟨-, e1, e2, e3, e4, e5⟩ := h
  refine ⟨hS, (funext fun j => hf SCR j (by decide) (by decide) (fun q => absurd q.1 (by decide)) (fun q => absurd q.1 (by decide))).trans e1, (funext fun j => hf FGN j (by decide) (by decide) (fun q => absurd q.1 (by decide)) (fun q => absurd q.1 (by decide))).trans e2, hn, by omega, fun j q1 q2 => ?_⟩
  rw [hf 2 j (by omega) (by omega) (by omega) (by omega)]
  exact e5 j q1 (by omega)
theorem KLS.w (h : KLS g d R u H sc fg n) : RW R := h.1.1.w
theorem KLS.ur (h : KLS g d R u H sc fg n) : 0 ≤ u ∧ u ≤ 8 := by
  obtain ⟨c, hP, hn, hu6, hu, hsl⟩ := h.1.2
  exact hu
-- questions without a handler
theorem l_deadlines (hS : KLS g d R u H sc fg n) (h : ∀ d', KLS g d' R u H sc fg n → Q (.inl (R 3)) g d') : MM mX11_deadlines [vR 0] g d Q := q_deadlines hS.1.1 (fun d' hf => h d' (hS.frS hf))
theorem l_today (hS : KLS g d R u H sc fg n) (h : ∀ d', KLS g d' R u H sc fg n → Q (.inl (R 0)) g d') : MM mX11_today [vR 0] g d Q := q_today hS.1.1 (fun d' hf => h d' (hS.frS hf))
theorem l_overdue (hS : KLS g d R u H sc fg n) (h : ∀ d', KLS g d' R u H sc fg n → Q (.inl (ovN R)) g d') : MM mX11_overdue [vR 0] g d Q := q_overdue hS.1.1 (fun d' hf => h d' (hS.frS hf))
noncomputable def sfN (R : rW) : Int := cn (fun k => R (622 + 4 * k) = -1) 0 (R 4 - 1)
theorem l_staysInForce (hS : KLS g d R u H sc fg n) (h : ∀ d', KLS g d' R u H sc fg n → Q (.inl (sfN R)) g d') : MM mX11_staysInForce [vR 0] g d Q := q_staysInForce hS.1.1 (fun d' hf => h d' (hS.frS hf))
theorem l_isConsistent (hS : KLS g d R u H sc fg n) (h : ∀ d', KLS g d' R u H sc fg n → Q (.inl 1) g d') : MM mX11_isConsistent [vR 0] g d Q := q_isConsistent hS.1.1 (fun d' hf => h d' (hS.frS hf))
-- asked with handlers
def RKo (r : mO) : Prop := ∀ k, r = .inr k → k = 3 ∨ k = 2 ∨ k = 4
theorem RKo.v {v : Int} : RKo (.inl v) := fun k h => by cases h
theorem RKo.e {k : Nat} (h : k = 3 ∨ k = 2 ∨ k = 4) : RKo (.inr k) := fun k' h' => by cases h'; exact h
theorem RKo.i {p : Prop} {a b : mO} (ha : RKo a) (hb : RKo b) : RKo (iO p a b) := by
  by_cases c : p
  · rw [iO_t c]; exact ha
  · rw [iO_f c]; exact hb
theorem a_of {Mq : mM} {Aq : List mV} {r : mO} {x1 x2 x3 x4 : Int} (hk : RKo r) (hS : KLS g d R u H sc fg n)
    (he : ∀ Q' : mQ, MM Mq Aq g d (fun o g3 d4 => match o with | .inl v2 => Q' (.inl v2) g3 d4 | .inr k => Q' (.inr k) g3 d4) → MM mL_asked [vR 0, vI x1, vI x2, vI x3, vI x4] g d Q')
    (hq : ∀ Q' : mQ, HQ r d g Q' → MM Mq Aq g d Q')
    (h : ∀ d', KLS g d' R u H sc fg n → Q (.inl (aV r)) g d') : MM mL_ask [vR 0, vI x1, vI x2, vI x3, vI x4] g d Q := by
  refine ask_of (he _ (hq _ (fun d' hf => ?_)))
  have h1 := h d' (hS.frS hf)
  cases r with
  | inl v => exact h1
  | inr k => exact ⟨hk k rfl, h1⟩
theorem a_ofb {Mq : mM} {Aq : List mV} {r : mO} {x1 x2 x3 x4 : Int} (hk : RKo r) (hb : ∀ v, r = .inl v → v = 0 ∨ v = 1) (hS : KLS g d R u H sc fg n)
    (he : ∀ Q' : mQ, MM Mq Aq g d (fun o g3 d4 => match o with | .inl v2 => Q' (.inl (bI (¬ (v2 = 0)))) g3 d4 | .inr k => Q' (.inr k) g3 d4) → MM mL_asked [vR 0, vI x1, vI x2, vI x3, vI x4] g d Q')
    (hq : ∀ Q' : mQ, HQ r d g Q' → MM Mq Aq g d Q')
    (h : ∀ d', KLS g d' R u H sc fg n → Q (.inl (aV r)) g d') : MM mL_ask [vR 0, vI x1, vI x2, vI x3, vI x4] g d Q := by
  refine ask_of (he _ (hq _ (fun d' hf => ?_)))
  have h1 := h d' (hS.frS hf)
  cases r with
  | inl v =>
    have e : bI (¬ (v = 0)) = v := by
      rcases hb v rfl with rfl | rfl
      · exact bI_f (fun z => z rfl)
      · exact bI_t (by decide)
    show Q (.inl (bI (¬ (v = 0)))) g d'
    rw [e]
    exact h1
  | inr k => exact ⟨hk k rfl, h1⟩
theorem b_i {p : Prop} {a b : mO} (ha : ∀ v, a = .inl v → v = 0 ∨ v = 1) (hb : ∀ v, b = .inl v → v = 0 ∨ v = 1) : ∀ v, iO p a b = .inl v → v = 0 ∨ v = 1 := by
  by_cases c : p
  · rw [iO_t c]; exact ha
  · rw [iO_f c]; exact hb
theorem b_v {p : Prop} : ∀ v, (.inl (bI p) : mO) = .inl v → v = 0 ∨ v = 1 := fun v h => by
  cases h
  have := @bI_rng p
  omega
theorem b_e {k : Nat} : ∀ v, (.inr k : mO) = .inl v → v = 0 ∨ v = 1 := fun v h => by cases h
theorem rk_openAt {x : Int} (hR : RW R) : RKo (r_openAt R x) := by
  rcases openAt_spec (R := R) hR.n.2.2.2.1.1 x with ⟨j, -, -, -, h⟩ | ⟨-, h⟩ <;> rw [h]
  · exact RKo.v
  · exact (RKo.e (Or.inr (Or.inr rfl)))
theorem a_due {x y z : Int} (hS : KLS g d R u H sc fg n) (h : ∀ d', KLS g d' R u H sc fg n → Q (.inl (aV (r_due R x))) g d') : MM mL_ask [vR 0, vI 0, vI x, vI y, vI z] g d Q := a_of (r := r_due R x) (RKo.i (RKo.i (RKo.e (Or.inr (Or.inr rfl))) RKo.v) (RKo.e (Or.inl rfl))) hS (fun Q' q => eL_asked_w0 q) (fun Q' q => q_due hS.1.1 q) h
theorem a_dueM {x y z : Int} (hS : KLS g d R u H sc fg n) (h : ∀ d', KLS g d' R u H sc fg n → Q (.inl (aV (r_due R x))) g d') : MM mL_ask [vR 0, vI 1, vI x, vI y, vI z] g d Q := a_of (r := r_due R x) (RKo.i (RKo.i (RKo.e (Or.inr (Or.inr rfl))) RKo.v) (RKo.e (Or.inl rfl))) hS (fun Q' q => eL_asked_w1 q) (fun Q' q => q_dueByMarking hS.1.1 q) h
theorem a_left {x y z : Int} (hS : KLS g d R u H sc fg n) (h : ∀ d', KLS g d' R u H sc fg n → Q (.inl (aV (r_left R x))) g d') : MM mL_ask [vR 0, vI 2, vI x, vI y, vI z] g d Q := a_of (r := r_left R x) (RKo.i RKo.v (RKo.e (Or.inl rfl))) hS (fun Q' q => eL_asked_w2 q) (fun Q' q => q_daysLeft hS.1.1 q) h
theorem a_leftM {x y z : Int} (hS : KLS g d R u H sc fg n) (h : ∀ d', KLS g d' R u H sc fg n → Q (.inl (aV (r_left R x))) g d') : MM mL_ask [vR 0, vI 3, vI x, vI y, vI z] g d Q := a_of (r := r_left R x) (RKo.i RKo.v (RKo.e (Or.inl rfl))) hS (fun Q' q => eL_asked_w3 q) (fun Q' q => q_daysLeftByMarking hS.1.1 q) h
theorem a_stopped {x y z : Int} (hS : KLS g d R u H sc fg n) (h : ∀ d', KLS g d' R u H sc fg n → Q (.inl (aV (r_stopped R x y z))) g d') : MM mL_ask [vR 0, vI 4, vI x, vI y, vI z] g d Q := a_of (r := r_stopped R x y z) (RKo.i (RKo.i RKo.v (RKo.e (Or.inr (Or.inl rfl)))) (RKo.e (Or.inl rfl))) hS (fun Q' q => eL_asked_w4 q) (fun Q' q => q_stoppedDays hS.1.1 q) h
theorem a_stoppedM {x y z : Int} (hS : KLS g d R u H sc fg n) (h : ∀ d', KLS g d' R u H sc fg n → Q (.inl (aV (r_stopped R x y z))) g d') : MM mL_ask [vR 0, vI 5, vI x, vI y, vI z] g d Q := a_of (r := r_stopped R x y z) (RKo.i (RKo.i RKo.v (RKo.e (Or.inr (Or.inl rfl)))) (RKo.e (Or.inl rfl))) hS (fun Q' q => eL_asked_w5 q) (fun Q' q => q_stoppedDaysByMarking hS.1.1 q) h
theorem a_courtDays {x y z : Int} (hS : KLS g d R u H sc fg n) (h : ∀ d', KLS g d' R u H sc fg n → Q (.inl (aV (r_courtDays R x y))) g d') : MM mL_ask [vR 0, vI 6, vI x, vI y, vI z] g d Q := a_of (r := r_courtDays R x y) (RKo.i RKo.v (RKo.e (Or.inr (Or.inl rfl)))) hS (fun Q' q => eL_asked_w6 q) (fun Q' q => q_courtDays hS.1.1 q) h
theorem a_courtDaysM {x y z : Int} (hS : KLS g d R u H sc fg n) (h : ∀ d', KLS g d' R u H sc fg n → Q (.inl (aV (r_courtDays R x y))) g d') : MM mL_ask [vR 0, vI 7, vI x, vI y, vI z] g d Q := a_of (r := r_courtDays R x y) (RKo.i RKo.v (RKo.e (Or.inr (Or.inl rfl)))) hS (fun Q' q => eL_asked_w7 q) (fun Q' q => q_courtDaysByMarking hS.1.1 q) h
theorem a_back {x y z : Int} (hS : KLS g d R u H sc fg n) (h : ∀ d', KLS g d' R u H sc fg n → Q (.inl (aV (r_lastDayBefore R x y))) g d') : MM mL_ask [vR 0, vI 8, vI x, vI y, vI z] g d Q := a_of (r := r_lastDayBefore R x y) (RKo.i (RKo.i (RKo.i RKo.v (RKo.e (Or.inr (Or.inr rfl)))) (RKo.e (Or.inr (Or.inl rfl)))) (RKo.e (Or.inl rfl))) hS (fun Q' q => eL_asked_w8 q) (fun Q' q => q_lastDayBefore hS.1.1 q) h
theorem a_backM {x y z : Int} (hS : KLS g d R u H sc fg n) (h : ∀ d', KLS g d' R u H sc fg n → Q (.inl (aV (r_lastDayBefore R x y))) g d') : MM mL_ask [vR 0, vI 9, vI x, vI y, vI z] g d Q := a_of (r := r_lastDayBefore R x y) (RKo.i (RKo.i (RKo.i RKo.v (RKo.e (Or.inr (Or.inr rfl)))) (RKo.e (Or.inr (Or.inl rfl)))) (RKo.e (Or.inl rfl))) hS (fun Q' q => eL_asked_w9 q) (fun Q' q => q_lastDayBeforeByMarking hS.1.1 q) h
theorem a_isStopped {x y z : Int} (hS : KLS g d R u H sc fg n) (h : ∀ d', KLS g d' R u H sc fg n → Q (.inl (aV (r_isStopped R x y))) g d') : MM mL_ask [vR 0, vI 10, vI x, vI y, vI z] g d Q := a_ofb (r := r_isStopped R x y) (RKo.i (RKo.i RKo.v (RKo.e (Or.inr (Or.inl rfl)))) (RKo.e (Or.inl rfl))) (b_i (b_i b_v b_e) b_e) hS (fun Q' q => eL_asked_w10 q) (fun Q' q => q_isStopped hS.1.1 q) h
theorem a_isCourtDay {x y z : Int} (hS : KLS g d R u H sc fg n) (h : ∀ d', KLS g d' R u H sc fg n → Q (.inl (aV (r_isCourtDay R x))) g d') : MM mL_ask [vR 0, vI 11, vI x, vI y, vI z] g d Q := a_ofb (r := r_isCourtDay R x) (RKo.i RKo.v (RKo.e (Or.inr (Or.inl rfl)))) (b_i b_v b_e) hS (fun Q' q => eL_asked_w11 q) (fun Q' q => q_isCourtDay hS.1.1 q) h
theorem a_openAt {x y z : Int} (hS : KLS g d R u H sc fg n) (h : ∀ d', KLS g d' R u H sc fg n → Q (.inl (aV (r_openAt R x))) g d') : MM mL_ask [vR 0, vI 12, vI x, vI y, vI z] g d Q := a_of (r := r_openAt R x) (rk_openAt hS.w) hS (fun Q' q => eL_asked_w12 q) (fun Q' q => q_openAt hS.1.1 q) h
theorem a_same {x y z : Int} (hS : KLS g d R u H sc fg n) (h : ∀ d', KLS g d' R u H sc fg n → Q (.inl (aV (r_same R x y))) g d') : MM mL_ask [vR 0, vI 17, vI x, vI y, vI z] g d Q := a_ofb (r := r_same R x y) (RKo.i RKo.v (RKo.e (Or.inl rfl))) (b_i b_v b_e) hS (fun Q' q => eL_asked_w17 q) (fun Q' q => q_sameConduct hS.1.1 q) h
theorem a_sameS {x y z : Int} (hS : KLS g d R u H sc fg n) (h : ∀ d', KLS g d' R u H sc fg n → Q (.inl (aV (r_same R x y))) g d') : MM mL_ask [vR 0, vI 18, vI x, vI y, vI z] g d Q := a_ofb (r := r_same R x y) (RKo.i RKo.v (RKo.e (Or.inl rfl))) (b_i b_v b_e) hS (fun Q' q => eL_asked_w18 q) (fun Q' q => q_sameConductBySearch hS.1.1 q) h
theorem a_status {x y z : Int} (hS : KLS g d R u H sc fg n) (h : ∀ d', KLS g d' R u H sc fg n → Q (.inl (aV (r_status R x))) g d') : MM mL_ask [vR 0, vI 21, vI x, vI y, vI z] g d Q := a_of (r := r_status R x) (RKo.i RKo.v (RKo.e (Or.inl rfl))) hS (fun Q' q => eL_asked_w21 q) (fun Q' q => q_status hS.1.1 q) h
-- deeds
theorem d_of {Mt : mM} {At : List mV} {l : List Int} {s : rW → Int × rW} {V : Int → Prop} {x1 x2 x3 x4 : Int} (hl : ∀ x ∈ l, -5 ≤ x ∧ x < 0) (hs : ∀ R, RW R → OkS l R (s R)) (hV : ∀ R, RW R → 0 ≤ (s R).1 → V (s R).1)
    (hw : ∀ Q' : mQ, (∀ (K : mQ) (X1 X2 : Nat → mG → mD → Prop), (∀ v g' d', V v → Q' (.inl v) g' d' → K (.inl v) g' d') → (∀ k g' d', Q' (.inr k) g' d' → K (.inr k) g' d') → MM mX11_setAside [vR 0] g d (fun o g3 d4 => match o with | .inl _ => MM Mt At g3 d4 (fun o g7 d8 => match o with | .inl v6 => MM mX11_settle [vR 0, vI v6] g7 d8 K | .inr k => X2 k g7 d8) | .inr k => X1 k g3 d4)) → MM mL_plain [vR 0, vI x1, vI x2, vI x3, vI x4] g d Q')
    (ht : ∀ (R : rW) (g : mG) (d : mD) (Q : mQ), CI d R → HT (s R) d g Q → MM Mt At g d Q) (hS : KLS g d R u H sc fg n)
    (he : (s R).1 < 0 → ∀ g' d', KLS g' d' R u H sc fg n → Q (.inl (-2000 + (s R).1)) g' d')
    (hv : 0 ≤ (s R).1 → ∀ g' d', KLS g' d' (s R).2 (min 8 (u + 1)) (hPush u R H) sc fg n → Q (.inl (s R).1) g' d') : MM mL_deed [vR 0, vI x1, vI x2, vI x3, vI x4] g d Q := by
  have hC := hS.1.1
  refine deed_of (hw _ (fun K X1 X2 k1 k2 => z_change (l := l) (s := s R) (n' := n) hS.1 (fun c hc => (hl c hc).1) (hs R hC.w) (fun g3 d3 Q3 hC3 f03 hq => ht R g3 d3 Q3 hC3 (fun d' f' hC' => hq d' (fun b j q1 q2 => f' b j (by omega)) (((f' 1 1 (by omega)).trans (f03 1 1 (by omega))).trans hS.2.2.2.1) hC')) (fun z zl g' d' fy en hS' => k2 _ g' d' ?_) (fun z g' d' fy en hS' => k1 _ g' d' (hV R hC.w z) ?_)))
  · have h9 := hl _ zl
    have h1 := he z g' d' (hS.frY fy hS' en (Or.inl rfl))
    rcases (show (s R).1 = -5 ∨ (s R).1 = -4 ∨ (s R).1 = -3 ∨ (s R).1 = -2 ∨ (s R).1 = -1 by omega) with e | e | e | e | e <;> rw [e] at h1 ⊢
    · exact ⟨by decide, h1⟩
    · exact ⟨by decide, h1⟩
    · exact ⟨by decide, h1⟩
    · exact ⟨by decide, h1⟩
    · exact ⟨by decide, h1⟩
  · exact hv z g' d' (hS.frY fy hS' en (Or.inl rfl))
theorem file_q {Q' : mQ} {v : Int} {g : mG} {d : mD} (hv : v = 0 ∨ v = 1) (q : Q' (.inl v) g d) : Q' (.inl (bI (¬ (bI (v = 1) = 0)))) g d := by
  rcases hv with rfl | rfl
  · rw [bI_f (show ¬ ((0 : Int) = 1) by decide), bI_f (fun z => z rfl)]
    exact q
  · rw [bI_t rfl, bI_t (by decide)]
    exact q
theorem d_advance {x y z : Int} (hS : KLS g d R u H sc fg n) (he : (st_advance R x).1 < 0 → ∀ g' d', KLS g' d' R u H sc fg n → Q (.inl (-2000 + (st_advance R x).1)) g' d') (hv : 0 ≤ (st_advance R x).1 → ∀ g' d', KLS g' d' (st_advance R x).2 (min 8 (u + 1)) (hPush u R H) sc fg n → Q (.inl (st_advance R x).1) g' d') : MM mL_deed [vR 0, vI 0, vI x, vI y, vI z] g d Q := d_of (l := [-2, -3]) (s := fun R => st_advance R x) (V := (fun _ => True)) (by decide) (fun R hR => ok_advance hR) (fun _ _ _ => trivial) (fun Q' h => eL_plain_w0 (eX11_advance_o (h _ _ _ (fun v g' d' _ q => q) (fun k g' d' q => q)))) (fun R g d Q hC h => t_advance hC h) hS he hv
theorem d_addHoliday {x y z : Int} (hS : KLS g d R u H sc fg n) (he : (st_addHoliday R x).1 < 0 → ∀ g' d', KLS g' d' R u H sc fg n → Q (.inl (-2000 + (st_addHoliday R x).1)) g' d') (hv : 0 ≤ (st_addHoliday R x).1 → ∀ g' d', KLS g' d' (st_addHoliday R x).2 (min 8 (u + 1)) (hPush u R H) sc fg n → Q (.inl (st_addHoliday R x).1) g' d') : MM mL_deed [vR 0, vI 1, vI x, vI y, vI z] g d Q := d_of (l := [-2, -3]) (s := fun R => st_addHoliday R x) (V := (fun _ => True)) (by decide) (fun R hR => ok_addHoliday hR) (fun _ _ _ => trivial) (fun Q' h => eL_plain_w1 (eX11_addHoliday (h _ _ _ (fun v g' d' _ q => q) (fun k g' d' q => q)))) (fun R g d Q hC h => t_addHoliday hC h) hS he hv
theorem d_setRule {x y z : Int} (hS : KLS g d R u H sc fg n) (he : (st_setRule R x y (bI (z = 1))).1 < 0 → ∀ g' d', KLS g' d' R u H sc fg n → Q (.inl (-2000 + (st_setRule R x y (bI (z = 1))).1)) g' d') (hv : 0 ≤ (st_setRule R x y (bI (z = 1))).1 → ∀ g' d', KLS g' d' (st_setRule R x y (bI (z = 1))).2 (min 8 (u + 1)) (hPush u R H) sc fg n → Q (.inl (st_setRule R x y (bI (z = 1))).1) g' d') : MM mL_deed [vR 0, vI 3, vI x, vI y, vI z] g d Q := d_of (l := [-1, -2]) (s := fun R => st_setRule R x y (bI (z = 1))) (V := (fun _ => True)) (by decide) (fun R hR => ok_setRule hR) (fun _ _ _ => trivial) (fun Q' h => eL_plain_w3 (eX11_setRule_o (h _ _ _ (fun v g' d' _ q => q) (fun k g' d' q => q)))) (fun R g d Q hC h => t_setRule hC bI_rng h) hS he hv
theorem d_setServiceDays {x y z : Int} (hS : KLS g d R u H sc fg n) (he : (st_setServiceDays R (x % 65536) y).1 < 0 → ∀ g' d', KLS g' d' R u H sc fg n → Q (.inl (-2000 + (st_setServiceDays R (x % 65536) y).1)) g' d') (hv : 0 ≤ (st_setServiceDays R (x % 65536) y).1 → ∀ g' d', KLS g' d' (st_setServiceDays R (x % 65536) y).2 (min 8 (u + 1)) (hPush u R H) sc fg n → Q (.inl (st_setServiceDays R (x % 65536) y).1) g' d') : MM mL_deed [vR 0, vI 4, vI x, vI y, vI z] g d Q := d_of (l := [-2]) (s := fun R => st_setServiceDays R (x % 65536) y) (V := (fun _ => True)) (by decide) (fun R hR => ok_setServiceDays hR) (fun _ _ _ => trivial) (fun Q' h => eL_plain_w4 (eX11_setServiceDays (h _ _ _ (fun v g' d' _ q => q) (fun k g' d' q => q)))) (fun R g d Q hC h => t_setServiceDays hC h) hS he hv
theorem d_serve {x y z : Int} (hS : KLS g d R u H sc fg n) (he : (st_serve R x y (z % 65536)).1 < 0 → ∀ g' d', KLS g' d' R u H sc fg n → Q (.inl (-2000 + (st_serve R x y (z % 65536)).1)) g' d') (hv : 0 ≤ (st_serve R x y (z % 65536)).1 → ∀ g' d', KLS g' d' (st_serve R x y (z % 65536)).2 (min 8 (u + 1)) (hPush u R H) sc fg n → Q (.inl (st_serve R x y (z % 65536)).1) g' d') : MM mL_deed [vR 0, vI 5, vI x, vI y, vI z] g d Q := d_of (l := [-1, -2, -3]) (s := fun R => st_serve R x y (z % 65536)) (V := (fun _ => True)) (by decide) (fun R hR => ok_serve hR) (fun _ _ _ => trivial) (fun Q' h => eL_plain_w5 (eX11_serve (h _ _ _ (fun v g' d' _ q => q) (fun k g' d' q => q)))) (fun R g d Q hC h => t_serve hC h) hS he hv
theorem d_consent {x y z : Int} (hS : KLS g d R u H sc fg n) (he : (st_consent R x y).1 < 0 → ∀ g' d', KLS g' d' R u H sc fg n → Q (.inl (-2000 + (st_consent R x y).1)) g' d') (hv : 0 ≤ (st_consent R x y).1 → ∀ g' d', KLS g' d' (st_consent R x y).2 (min 8 (u + 1)) (hPush u R H) sc fg n → Q (.inl (st_consent R x y).1) g' d') : MM mL_deed [vR 0, vI 6, vI x, vI y, vI z] g d Q := d_of (l := [-1, -2, -3, -4]) (s := fun R => st_consent R x y) (V := (fun _ => True)) (by decide) (fun R hR => ok_consent hR) (fun _ _ _ => trivial) (fun Q' h => eL_plain_w6 (eX11_extendByConsent (h _ _ _ (fun v g' d' _ q => q) (fun k g' d' q => q)))) (fun R g d Q hC h => t_consent hC h) hS he hv
theorem d_order {x y z : Int} (hS : KLS g d R u H sc fg n) (he : (st_order R x y).1 < 0 → ∀ g' d', KLS g' d' R u H sc fg n → Q (.inl (-2000 + (st_order R x y).1)) g' d') (hv : 0 ≤ (st_order R x y).1 → ∀ g' d', KLS g' d' (st_order R x y).2 (min 8 (u + 1)) (hPush u R H) sc fg n → Q (.inl (st_order R x y).1) g' d') : MM mL_deed [vR 0, vI 7, vI x, vI y, vI z] g d Q := d_of (l := [-1, -2, -3]) (s := fun R => st_order R x y) (V := (fun _ => True)) (by decide) (fun R hR => ok_order hR) (fun _ _ _ => trivial) (fun Q' h => eL_plain_w7 (eX11_extendByOrder (h _ _ _ (fun v g' d' _ q => q) (fun k g' d' q => q)))) (fun R g d Q hC h => t_order hC h) hS he hv
theorem d_file {x y z : Int} (hS : KLS g d R u H sc fg n) (he : (st_file R x).1 < 0 → ∀ g' d', KLS g' d' R u H sc fg n → Q (.inl (-2000 + (st_file R x).1)) g' d') (hv : 0 ≤ (st_file R x).1 → ∀ g' d', KLS g' d' (st_file R x).2 (min 8 (u + 1)) (hPush u R H) sc fg n → Q (.inl (st_file R x).1) g' d') : MM mL_deed [vR 0, vI 8, vI x, vI y, vI z] g d Q := d_of (l := [-1, -3]) (s := fun R => st_file R x) (V := (fun v => v = 0 ∨ v = 1)) (by decide) (fun R hR => ok_file hR) (fun R hR z => file_01 hR z) (fun Q' h => eL_plain_w8 (eX11_file (h _ _ _ (fun v g' d' hv q => file_q hv q) (fun k g' d' q => q)))) (fun R g d Q hC h => t_file hC h) hS he hv
theorem d_strike {x y z : Int} (hS : KLS g d R u H sc fg n) (he : (st_strike R x).1 < 0 → ∀ g' d', KLS g' d' R u H sc fg n → Q (.inl (-2000 + (st_strike R x).1)) g' d') (hv : 0 ≤ (st_strike R x).1 → ∀ g' d', KLS g' d' (st_strike R x).2 (min 8 (u + 1)) (hPush u R H) sc fg n → Q (.inl (st_strike R x).1) g' d') : MM mL_deed [vR 0, vI 9, vI x, vI y, vI z] g d Q := d_of (l := [-1, -3]) (s := fun R => st_strike R x) (V := (fun _ => True)) (by decide) (fun R hR => ok_strike hR) (fun _ _ _ => trivial) (fun Q' h => eL_plain_w9 (eX11_strike_o (h _ _ _ (fun v g' d' _ q => q) (fun k g' d' q => q)))) (fun R g d Q hC h => t_strike hC h) hS he hv
theorem d_stayParty {x y z : Int} (hS : KLS g d R u H sc fg n) (he : (st_stayParty R x y).1 < 0 → ∀ g' d', KLS g' d' R u H sc fg n → Q (.inl (-2000 + (st_stayParty R x y).1)) g' d') (hv : 0 ≤ (st_stayParty R x y).1 → ∀ g' d', KLS g' d' (st_stayParty R x y).2 (min 8 (u + 1)) (hPush u R H) sc fg n → Q (.inl (st_stayParty R x y).1) g' d') : MM mL_deed [vR 0, vI 10, vI x, vI y, vI z] g d Q := d_of (l := [-1, -2, -3]) (s := fun R => st_stayParty R x y) (V := (fun _ => True)) (by decide) (fun R hR => ok_stayParty hR) (fun _ _ _ => trivial) (fun Q' h => eL_plain_w10 (eX11_stayParty (h _ _ _ (fun v g' d' _ q => q) (fun k g' d' q => q)))) (fun R g d Q hC h => t_stayParty hC h) hS he hv
theorem d_stayAll {x y z : Int} (hS : KLS g d R u H sc fg n) (he : (st_stay R (-1) x).1 < 0 → ∀ g' d', KLS g' d' R u H sc fg n → Q (.inl (-2000 + (st_stay R (-1) x).1)) g' d') (hv : 0 ≤ (st_stay R (-1) x).1 → ∀ g' d', KLS g' d' (st_stay R (-1) x).2 (min 8 (u + 1)) (hPush u R H) sc fg n → Q (.inl (st_stay R (-1) x).1) g' d') : MM mL_deed [vR 0, vI 11, vI x, vI y, vI z] g d Q := d_of (l := [-2, -3]) (s := fun R => st_stay R (-1) x) (V := (fun _ => True)) (by decide) (fun R hR => ok_stay hR) (fun _ _ _ => trivial) (fun Q' h => eL_plain_w11 (eX11_stayAll (h _ _ _ (fun v g' d' _ q => q) (fun k g' d' q => q)))) (fun R g d Q hC h => t_stay hC ⟨by decide, by have := hC.w.n.2.1; omega⟩ h) hS he hv
theorem d_lift {x y z : Int} (hS : KLS g d R u H sc fg n) (he : (st_lift R x).1 < 0 → ∀ g' d', KLS g' d' R u H sc fg n → Q (.inl (-2000 + (st_lift R x).1)) g' d') (hv : 0 ≤ (st_lift R x).1 → ∀ g' d', KLS g' d' (st_lift R x).2 (min 8 (u + 1)) (hPush u R H) sc fg n → Q (.inl (st_lift R x).1) g' d') : MM mL_deed [vR 0, vI 12, vI x, vI y, vI z] g d Q := d_of (l := [-1, -3]) (s := fun R => st_lift R x) (V := (fun _ => True)) (by decide) (fun R hR => ok_lift hR) (fun _ _ _ => trivial) (fun Q' h => eL_plain_w12 (eX11_lift_o (h _ _ _ (fun v g' d' _ q => q) (fun k g' d' q => q)))) (fun R g d Q hC h => t_lift hC h) hS he hv
theorem d_occ {x y z : Int} (hS : KLS g d R u H sc fg n) (he : (st_occ R x y).1 < 0 → ∀ g' d', KLS g' d' R u H sc fg n → Q (.inl (-2000 + (st_occ R x y).1)) g' d') (hv : 0 ≤ (st_occ R x y).1 → ∀ g' d', KLS g' d' (st_occ R x y).2 (min 8 (u + 1)) (hPush u R H) sc fg n → Q (.inl (st_occ R x y).1) g' d') : MM mL_deed [vR 0, vI 13, vI x, vI y, vI z] g d Q := d_of (l := [-2, -1, -3]) (s := fun R => st_occ R x y) (V := (fun _ => True)) (by decide) (fun R hR => ok_occ hR) (fun _ _ _ => trivial) (fun Q' h => eL_plain_w13 (eX11_addOccurrence (h _ _ _ (fun v g' d' _ q => q) (fun k g' d' q => q)))) (fun R g d Q hC h => t_occ hC h) hS he hv
theorem d_link {x y z : Int} (hS : KLS g d R u H sc fg n) (he : (st_link R x y).1 < 0 → ∀ g' d', KLS g' d' R u H sc fg n → Q (.inl (-2000 + (st_link R x y).1)) g' d') (hv : 0 ≤ (st_link R x y).1 → ∀ g' d', KLS g' d' (st_link R x y).2 (min 8 (u + 1)) (hPush u R H) sc fg n → Q (.inl (st_link R x y).1) g' d') : MM mL_deed [vR 0, vI 14, vI x, vI y, vI z] g d Q := d_of (l := [-1, -2, -3]) (s := fun R => st_link R x y) (V := (fun _ => True)) (by decide) (fun R hR => ok_link hR) (fun _ _ _ => trivial) (fun Q' h => eL_plain_w14 (eX11_linkOccurrences (h _ _ _ (fun v g' d' _ q => q) (fun k g' d' q => q)))) (fun R g d Q hC h => t_linkOcc hC h) hS he hv
theorem d_fileClaim {x y z : Int} (hS : KLS g d R u H sc fg n) (he : (st_fileClaim R x y).1 < 0 → ∀ g' d', KLS g' d' R u H sc fg n → Q (.inl (-2000 + (st_fileClaim R x y).1)) g' d') (hv : 0 ≤ (st_fileClaim R x y).1 → ∀ g' d', KLS g' d' (st_fileClaim R x y).2 (min 8 (u + 1)) (hPush u R H) sc fg n → Q (.inl (st_fileClaim R x y).1) g' d') : MM mL_deed [vR 0, vI 15, vI x, vI y, vI z] g d Q := d_of (l := [-1, -3]) (s := fun R => st_fileClaim R x y) (V := (fun _ => True)) (by decide) (fun R hR => ok_fileClaim hR) (fun _ _ _ => trivial) (fun Q' h => eL_plain_w15 (eX11_fileClaim (h _ _ _ (fun v g' d' _ q => q) (fun k g' d' q => q)))) (fun R g d Q hC h => t_fileClaim hC h) hS he hv
theorem d_amendClaim {x y z : Int} (hS : KLS g d R u H sc fg n) (he : (st_amendClaim R x y).1 < 0 → ∀ g' d', KLS g' d' R u H sc fg n → Q (.inl (-2000 + (st_amendClaim R x y).1)) g' d') (hv : 0 ≤ (st_amendClaim R x y).1 → ∀ g' d', KLS g' d' (st_amendClaim R x y).2 (min 8 (u + 1)) (hPush u R H) sc fg n → Q (.inl (st_amendClaim R x y).1) g' d') : MM mL_deed [vR 0, vI 16, vI x, vI y, vI z] g d Q := d_of (l := [-1, -3]) (s := fun R => st_amendClaim R x y) (V := (fun _ => True)) (by decide) (fun R hR => ok_amendClaim hR) (fun _ _ _ => trivial) (fun Q' h => eL_plain_w16 (eX11_amendClaim (h _ _ _ (fun v g' d' _ q => q) (fun k g' d' q => q)))) (fun R g d Q hC h => t_amendClaim hC h) hS he hv
theorem d_addParty {x y z : Int} (hS : KLS g d R u H sc fg n) (h : ∀ g' d' R' u' H' v, KLS g' d' R' u' H' sc fg 0 → Q (.inl v) g' d') : MM mL_deed [vR 0, vI 17, vI x, vI y, vI z] g d Q := by
  have hC := hS.1.1
  obtain ⟨hCS, e1, e2, e3, e4, e5⟩ := id hS
  refine deed_of (eL_plain_w17 (eX11_addParty (z_change (l := [-2, -3]) (s := st_addParty R (cdP (d 2) n) (rdF (d 2) n)) (n' := 0) hCS (by decide) (ok_addParty hC.w) (fun g3 d3 Q3 hC3 f03 hq => ?_) (fun z zl g' d' fy en hS' => ?_) (fun z g' d' fy en hS' => ?_))))
  · have e32 : d3 2 = d 2 := funext fun j => f03 2 j (by omega)
    have e31 : d3 1 1 = n := (f03 1 1 (by omega)).trans e3
    refine t_addParty hC3 (by rw [e31]; exact e4) (fun j q1 q2 => by rw [e32]; exact e5 j q1 (by omega)) (fun d' fp en hC' => ?_)
    rw [e32, e31] at hC' ⊢
    exact hq d' fp en hC'
  · have h1 := h g' d' R u H (dcV (exF (st_addParty R (cdP (d 2) n) (rdF (d 2) n)).1)) (hS.frY fy hS' en (Or.inr rfl))
    refine ⟨?_, h1⟩
    rcases (show (st_addParty R (cdP (d 2) n) (rdF (d 2) n)).1 = -2 ∨ (st_addParty R (cdP (d 2) n) (rdF (d 2) n)).1 = -3 by simpa using zl) with e | e <;> rw [e] <;> decide
  · exact h g' d' _ _ _ _ (hS.frY fy hS' en (Or.inr rfl))
theorem d_type {x y z : Int} (hn : n < 60) (hS : KLS g d R u H sc fg n) (h : ∀ d', KLS g d' R u H sc fg (n + 1) → Q (.inl (n + 1)) g d') : MM mL_deed [vR 0, vI 19, vI x, vI y, vI z] g d Q := by
  obtain ⟨hCS, e1, e2, e3, e4, e5⟩ := id hS
  have f1 : ∀ b j : Int, ¬ (b = 2 ∨ (b = 1 ∧ j = 1)) → ud (ud d 2 (d 1 1) (x % 65536)) 1 1 (d 1 1 + 1) b j = d b j := fun b j q => by rw [ud_ne (by omega), ud_ne (by omega)]
  refine deed_of (eL_plain_w19 (eX11_type ⟨fun c => ⟨by omega, by omega, ?_⟩, fun c => absurd c (by omega)⟩))
  show Q (.inl (d 1 1 + 1)) g _
  rw [e3]
  refine h _ ⟨hCS.fr (hCS.1.fr (fun b j y1 y2 => by rw [← e3]; exact f1 b j (by omega))) (fun b j y1 y2 => by rw [← e3]; exact f1 b j (by omega)) (by rw [← e3]; exact f1 0 5 (by omega)) (by rw [← e3]; exact f1 0 6 (by omega)), ?_, ?_, ud_same _ _ _ _, by omega, fun j q1 q2 => ?_⟩
  · rw [ud_row (by decide), ud_row (by decide)]; exact e1
  · rw [ud_row (by decide), ud_row (by decide)]; exact e2
  · rw [ud_ne (by omega)]
    by_cases ej : j = n
    · rw [ej, ud_same]; omega
    · rw [ud_ne (by omega)]; exact e5 j q1 (by omega)
theorem d_undo {x y z : Int} (hS : KLS g d R u H sc fg n) (hu : 1 ≤ u) (h : ∀ g' d', KLS g' d' (H (u - 1)) (u - 1) H sc fg n → Q (.inl (u - 1)) g' d') : MM mL_deed [vR 0, vI 21, vI x, vI y, vI z] g d Q := by
  obtain ⟨hCS, e1, e2, e3, e4, e5⟩ := id hS
  have hC := hCS.1
  obtain ⟨c, hP, hn, hu6, hu8, hsl⟩ := hCS.2
  refine deed_of (eL_plain_w21 (eX11_undo ⟨fun c0 => absurd c0 (by omega), fun c0 => ⟨fun _ => ik (by omega), ?_⟩⟩))
  have hpop := ring_pop (S := fun k R' => SlotS d c k R') (np := d 0 5) (u := u) (np' := iT (d 0 5 = 0) 8 (d 0 5 - 1)) ⟨hn.1, hn.2.1⟩ ⟨by omega, hu8.2⟩ rfl hsl
  obtain ⟨⟨hs1, hs2⟩, hrest⟩ := hpop
  have hnp0 : 0 ≤ iT (d 0 5 = 0) 8 (d 0 5 - 1) ∧ iT (d 0 5 = 0) 8 (d 0 5 - 1) ≤ 8 := by
    by_cases z : d 0 5 = 0
    · rw [iT_t z]; omega
    · rw [iT_f z]; omega
  generalize iT (d 0 5 = 0) 8 (d 0 5 - 1) = np' at hs1 hs2 hrest hnp0 ⊢
  refine q_takeBack (c := c) (np := np') (A := 65 + 46 * np') (R := H (u - 1)) hP (ud_same _ _ _ _) ⟨hnp0.1, hs1⟩ rfl ?_ (fun d9 f9 hC9 => ?_)
  · refine CI.sh (d := d) (k := 59 + 46 * np') hs2 (fun b j hb => ?_)
    have := inC_e hb
    rw [ud_ne (by omega), show 65 + 46 * np' - 6 = 59 + 46 * np' by omega]
  · dsimp only
    have e96 : d9 0 6 = u := ((f9 0 6 (by omega)).trans (ud_ne (by omega))).trans hu6
    have e95 : d9 0 5 = np' := (f9 0 5 (by omega)).trans (ud_same _ _ _ _)
    rw [e96]
    refine ⟨ik (by omega), ?_⟩
    have fr9 : ∀ b j : Int, ¬ (6 ≤ b ∧ b < 52) → ¬ (b = 0 ∧ (j = 5 ∨ j = 6)) → ud d9 0 6 (u - 1) b j = d b j := fun b j q1 q2 => by
      rw [ud_ne (by omega), f9 b j (by omega), ud_ne (by omega)]
    have e25 : ud d9 0 6 (u - 1) 0 5 = np' := by rw [ud_ne (by omega)]; exact e95
    refine h g _ ⟨⟨hC9.fr (fun b j q1 q2 => ud_ne (by omega)), c, hP, by rw [e25]; exact ⟨hnp0.1, hnp0.2, by omega⟩, ud_same _ _ _ _, by omega, ?_⟩, ?_, ?_, ?_, e4, fun j q1 q2 => ?_⟩
    · rw [e25]
      intro j y1 y2
      have hs := hrest j y1 y2
      have h1' := hs.1
      exact hs.fr ⟨by omega, hP.1.2⟩ (fun b i z1 z2 => fr9 b i (by omega) (by omega)) (Int.le_refl _)
    · exact (funext fun j => fr9 SCR j (by decide) (fun q => absurd q.1 (by decide))).trans e1
    · exact (funext fun j => fr9 FGN j (by decide) (fun q => absurd q.1 (by decide))).trans e2
    · exact (fr9 1 1 (by omega) (by omega)).trans e3
    · rw [fr9 2 j (by omega) (by omega)]
      exact e5 j q1 q2
end
