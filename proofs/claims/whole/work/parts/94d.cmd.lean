-- one command, reference: all
theorem m_command {T : rW} {n p c : Int} {g : mG} {d : mD} {Q : mQ} (hn : 0 ≤ n ∧ n ≤ 60) (hp : 0 ≤ p ∧ p ≤ n) (hc : 0 ≤ c ∧ c < 30) (h15 : d 65 15 = c) (p0 : PS d T n (p, 0)) (h : CmQ T n p c g d Q) : MM mX12_command [vR 65] g d Q := by
  have p0' := p0
  obtain ⟨e69, e7, e17, e18⟩ := p0'
  have e17' : d 65 17 = p := e17
  have e18' : d 65 18 = 0 := e18
  have s0 : sOk n (p, 0) := ⟨hp, Or.inl rfl⟩
  have hA : ∀ L : Int, ¬ L = 0 → ((((0 : Int) = 0) ∧ ((¬ (n ≤ p)) ∧ (T p = L))) ↔ sgF T n p = L) := fun L hL => by
    by_cases z : n ≤ p
    · rw [sgF_out z hp.1]; omega
    · rw [sgF_in ⟨hp.1, by omega⟩]; omega
  have hB : ((¬ (n ≤ p + 1)) ∧ (T (p + 1) = 116)) ↔ sgF T n (p + 1) = 116 := by
    by_cases z : n ≤ p + 1
    · rw [sgF_out z (by omega)]; omega
    · rw [sgF_in ⟨by omega, by omega⟩]; omega
  refine eX12_command ?_
  rw [e69, e7, e17', e18', h15, hA 115 (by decide), hA 100 (by decide), hA 108 (by decide), hA 109 (by decide), hA 102 (by decide), hB]
  refine ⟨ik (by omega), fun _ _ => by omega, fun _ => ik (by omega), fun _ _ => ik (by omega), fun _ _ => by omega, fun c1 => ?_, fun c1 => ⟨fun c2 => ?_, fun c2 => ⟨fun c3 => ?_, fun c3 => ⟨fun c4 => ?_, fun c4 => ⟨fun c5 => ?_, fun c5 => ⟨fun c6 => ?_, fun c6 => ?_⟩⟩⟩⟩⟩⟩
  · have hv : vb T n p = 2 := if_pos c1
    exact m_takeWord hn.2 s0 p0 (by decide) (by decide) (by decide) fun d1 f1 p1 => c_one (v := 2) (L := 115) (s := tkW T n 115 116 97 121 0 0 (p, 0)) hn.2 hc h15 hv (if_pos rfl) (by decide) (by decide) (by decide) rfl (tkW_ok s0 (by decide) (by decide) (by decide)) f1 p1 h
  · have hv : vb T n p = 0 := by unfold vb; rw [if_neg c1, if_pos c2]
    exact m_takeWord hn.2 s0 p0 (by decide) (by decide) (by decide) fun d1 f1 p1 => c_srv (s := tkW T n 115 101 114 118 101 0 (p, 0)) hn.2 hc h15 hv rfl (tkW_ok s0 (by decide) (by decide) (by decide)) f1 p1 h
  · have hv : vb T n p = 1 := by unfold vb; rw [if_neg c1, if_neg c2, if_pos c3]
    exact m_takeWord hn.2 s0 p0 (by decide) (by decide) (by decide) fun d1 f1 p1 => c_day (s := tkW T n 100 97 121 0 0 0 (p, 0)) hn.2 hc h15 hv rfl (tkW_ok s0 (by decide) (by decide) (by decide)) f1 p1 h
  · have hv : vb T n p = 3 := by unfold vb; rw [if_neg c1, if_neg c2, if_neg c3, if_pos c4]
    exact m_takeWord hn.2 s0 p0 (by decide) (by decide) (by decide) fun d1 f1 p1 => c_one (v := 3) (L := 108) (s := tkW T n 108 105 102 116 0 0 (p, 0)) hn.2 hc h15 hv rfl (by decide) (by decide) (by decide) rfl (tkW_ok s0 (by decide) (by decide) (by decide)) f1 p1 h
  · have hv : vb T n p = 4 := by unfold vb; rw [if_neg c1, if_neg c2, if_neg c3, if_neg c4, if_pos c5]
    exact m_takeWord hn.2 s0 p0 (by decide) (by decide) (by decide) fun d1 f1 p1 => c_more (s := tkW T n 109 111 114 101 0 0 (p, 0)) hn.2 hc h15 hv rfl (tkW_ok s0 (by decide) (by decide) (by decide)) f1 p1 h
  · have hv : vb T n p = 5 := by unfold vb; rw [if_neg c1, if_neg c2, if_neg c3, if_neg c4, if_neg c5, if_pos c6]
    exact m_takeWord hn.2 s0 p0 (by decide) (by decide) (by decide) fun d1 f1 p1 => c_one (v := 5) (L := 102) (s := tkW T n 102 105 108 101 0 0 (p, 0)) hn.2 hc h15 hv rfl (by decide) (by decide) (by decide) rfl (tkW_ok s0 (by decide) (by decide) (by decide)) f1 p1 h
  · have hv : vb T n p = 6 := by unfold vb; rw [if_neg c1, if_neg c2, if_neg c3, if_neg c4, if_neg c5, if_neg c6]
    have s1 : sOk n (tkW T n 104 111 108 105 100 97 (p, 0)) := tkW_ok s0 (by decide) (by decide) (by decide)
    exact m_takeWord hn.2 s0 p0 (by decide) (by decide) (by decide) fun d1 f1 p1 => m_take hn.2 s1 p1 (by decide) fun d2 f2 p2 => c_one (v := 6) (L := 104) (s := tk T n 121 (tkW T n 104 111 108 105 100 97 (p, 0))) hn.2 hc h15 hv rfl (by decide) (by decide) (by decide) rfl (tk_ok s1 (by decide)) (f1.tr f2) p2 h
