-- one section changed
theorem RW.gpar {R R' : rW} (hR : RW R) (e : ∀ j, ¬ (j = 1 ∨ 7 ≤ j ∧ j ≤ 78) → R' j = R j) (hb : R 1 ≤ R' 1 ∧ R' 1 ≤ 8) (hs : RWp R') : RW R' := by
  obtain ⟨n0, n1, n2, n3, n4, n5, n6⟩ := hR.n
  have e0 := e 0 (by decide)
  have e2 := e 2 (by decide)
  have e3 := e 3 (by decide)
  have e4 := e 4 (by decide)
  have e5 := e 5 (by decide)
  have e6 := e 6 (by decide)
  exact ⟨⟨by omega, by omega, by omega, by omega, by omega, by omega, by omega⟩, hs, hR.hd.cg e2 n2.2 (fun j q1 q2 => e j (by omega)), hR.r.cg (fun j q1 q2 => e j (by omega)), RWd.cg (by omega) (by omega) e3 (fun j q1 q2 => e j (by omega)) n3.2 hR.2.2.2.2.1, hR.s.cg (by omega) (by omega) e4 (fun j q1 q2 => e j (by omega)) n4.2, hR.o.cg (by omega) e5 (fun j q1 q2 => e j (by omega)) n5.2, RWc.cg (by omega) (by omega) (by omega) e6 (fun j q1 q2 => e j (by omega)) n6.2 hR.2.2.2.2.2.2.2⟩
theorem CI.gpar {d d' : mD} {R R' : rW} (hC : CI d R) (hw : RW R') (e : ∀ j, ¬ (j = 1 ∨ 7 ≤ j ∧ j ≤ 78) → R' j = R j) (q : ∀ k j : Int, 6 ≤ k → k ≤ 51 → ¬ (7 ≤ k ∧ k ≤ 9) → d' k j = d k j) (hs : SPar d' R') : CI d' R' := by
  have hR := hC.w
  obtain ⟨n0, n1, n2, n3, n4, n5, n6⟩ := hR.n
  have e0 := e 0 (by decide)
  have e2 := e 2 (by decide)
  have e3 := e 3 (by decide)
  have e4 := e 4 (by decide)
  have e5 := e 5 (by decide)
  have e6 := e 6 (by decide)
  exact ⟨hw, hC.cal.cg n2.2 (fun k j q1 q2 => q k j (by omega) (by omega) (by omega)) (fun j q1 q2 => e j (by omega)) e0 e2, hs, hC.rul.cg (fun k j q1 q2 => q k j (by omega) (by omega) (by omega)) (fun j q1 q2 => e j (by omega)), hC.dl.cg hR (fun k j q1 q2 => q k j (by omega) (by omega) (by omega)) (fun j q1 q2 => e j (by omega)) e3, hC.st.cg n4.2 (fun k j q1 q2 => q k j (by omega) (by omega) (by omega)) (fun j q1 q2 => e j (by omega)) e4, hC.oc.cg n5.2 (fun k j q1 q2 => q k j (by omega) (by omega) (by omega)) (fun j q1 q2 => e j (by omega)) e5, hC.cm.cg n6.2 (fun k j q1 q2 => q k j (by omega) (by omega) (by omega)) (q 33 7 (by decide) (by decide) (by decide)) (fun j q1 q2 => e j (by omega)) e6⟩
theorem RW.ghol {R R' : rW} (hR : RW R) (e : ∀ j, ¬ (j = 2 ∨ 79 ≤ j ∧ j ≤ 118) → R' j = R j) (hb : 0 ≤ R' 2 ∧ R' 2 ≤ 40) (hs : RWh R') : RW R' := by
  obtain ⟨n0, n1, n2, n3, n4, n5, n6⟩ := hR.n
  have e0 := e 0 (by decide)
  have e1 := e 1 (by decide)
  have e3 := e 3 (by decide)
  have e4 := e 4 (by decide)
  have e5 := e 5 (by decide)
  have e6 := e 6 (by decide)
  exact ⟨⟨by omega, by omega, by omega, by omega, by omega, by omega, by omega⟩, hR.p.cg e1 n1.2 (fun j q1 q2 => e j (by omega)), hs, hR.r.cg (fun j q1 q2 => e j (by omega)), RWd.cg (by omega) (by omega) e3 (fun j q1 q2 => e j (by omega)) n3.2 hR.2.2.2.2.1, hR.s.cg (by omega) (by omega) e4 (fun j q1 q2 => e j (by omega)) n4.2, hR.o.cg (by omega) e5 (fun j q1 q2 => e j (by omega)) n5.2, RWc.cg (by omega) (by omega) (by omega) e6 (fun j q1 q2 => e j (by omega)) n6.2 hR.2.2.2.2.2.2.2⟩
theorem CI.ghol {d d' : mD} {R R' : rW} (hC : CI d R) (hw : RW R') (e : ∀ j, ¬ (j = 2 ∨ 79 ≤ j ∧ j ≤ 118) → R' j = R j) (q : ∀ k j : Int, 6 ≤ k → k ≤ 51 → ¬ (10 ≤ k ∧ k ≤ 11) → d' k j = d k j) (hs : SCal d' R') : CI d' R' := by
  have hR := hC.w
  obtain ⟨n0, n1, n2, n3, n4, n5, n6⟩ := hR.n
  have e0 := e 0 (by decide)
  have e1 := e 1 (by decide)
  have e3 := e 3 (by decide)
  have e4 := e 4 (by decide)
  have e5 := e 5 (by decide)
  have e6 := e 6 (by decide)
  exact ⟨hw, hs, hC.par.cg hR (fun k j q1 q2 => q k j (by omega) (by omega) (by omega)) (fun j q1 q2 => e j (by omega)) e1, hC.rul.cg (fun k j q1 q2 => q k j (by omega) (by omega) (by omega)) (fun j q1 q2 => e j (by omega)), hC.dl.cg hR (fun k j q1 q2 => q k j (by omega) (by omega) (by omega)) (fun j q1 q2 => e j (by omega)) e3, hC.st.cg n4.2 (fun k j q1 q2 => q k j (by omega) (by omega) (by omega)) (fun j q1 q2 => e j (by omega)) e4, hC.oc.cg n5.2 (fun k j q1 q2 => q k j (by omega) (by omega) (by omega)) (fun j q1 q2 => e j (by omega)) e5, hC.cm.cg n6.2 (fun k j q1 q2 => q k j (by omega) (by omega) (by omega)) (q 33 7 (by decide) (by decide) (by decide)) (fun j q1 q2 => e j (by omega)) e6⟩
theorem RW.grul {R R' : rW} (hR : RW R) (e : ∀ j, ¬ (119 ≤ j ∧ j ≤ 138) → R' j = R j) (hs : RWr R') : RW R' := by
  obtain ⟨n0, n1, n2, n3, n4, n5, n6⟩ := hR.n
  have e0 := e 0 (by decide)
  have e1 := e 1 (by decide)
  have e2 := e 2 (by decide)
  have e3 := e 3 (by decide)
  have e4 := e 4 (by decide)
  have e5 := e 5 (by decide)
  have e6 := e 6 (by decide)
  exact ⟨⟨by omega, by omega, by omega, by omega, by omega, by omega, by omega⟩, hR.p.cg e1 n1.2 (fun j q1 q2 => e j (by omega)), hR.hd.cg e2 n2.2 (fun j q1 q2 => e j (by omega)), hs, RWd.cg (by omega) (by omega) e3 (fun j q1 q2 => e j (by omega)) n3.2 hR.2.2.2.2.1, hR.s.cg (by omega) (by omega) e4 (fun j q1 q2 => e j (by omega)) n4.2, hR.o.cg (by omega) e5 (fun j q1 q2 => e j (by omega)) n5.2, RWc.cg (by omega) (by omega) (by omega) e6 (fun j q1 q2 => e j (by omega)) n6.2 hR.2.2.2.2.2.2.2⟩
theorem CI.grul {d d' : mD} {R R' : rW} (hC : CI d R) (hw : RW R') (e : ∀ j, ¬ (119 ≤ j ∧ j ≤ 138) → R' j = R j) (q : ∀ k j : Int, 6 ≤ k → k ≤ 51 → ¬ (13 ≤ k ∧ k ≤ 15) → d' k j = d k j) (hs : SRul d' R') : CI d' R' := by
  have hR := hC.w
  obtain ⟨n0, n1, n2, n3, n4, n5, n6⟩ := hR.n
  have e0 := e 0 (by decide)
  have e1 := e 1 (by decide)
  have e2 := e 2 (by decide)
  have e3 := e 3 (by decide)
  have e4 := e 4 (by decide)
  have e5 := e 5 (by decide)
  have e6 := e 6 (by decide)
  exact ⟨hw, hC.cal.cg n2.2 (fun k j q1 q2 => q k j (by omega) (by omega) (by omega)) (fun j q1 q2 => e j (by omega)) e0 e2, hC.par.cg hR (fun k j q1 q2 => q k j (by omega) (by omega) (by omega)) (fun j q1 q2 => e j (by omega)) e1, hs, hC.dl.cg hR (fun k j q1 q2 => q k j (by omega) (by omega) (by omega)) (fun j q1 q2 => e j (by omega)) e3, hC.st.cg n4.2 (fun k j q1 q2 => q k j (by omega) (by omega) (by omega)) (fun j q1 q2 => e j (by omega)) e4, hC.oc.cg n5.2 (fun k j q1 q2 => q k j (by omega) (by omega) (by omega)) (fun j q1 q2 => e j (by omega)) e5, hC.cm.cg n6.2 (fun k j q1 q2 => q k j (by omega) (by omega) (by omega)) (q 33 7 (by decide) (by decide) (by decide)) (fun j q1 q2 => e j (by omega)) e6⟩
theorem RW.gdls {R R' : rW} (hR : RW R) (e : ∀ j, ¬ (j = 3 ∨ 139 ≤ j ∧ j ≤ 618) → R' j = R j) (hb : 0 ≤ R' 3 ∧ R' 3 ≤ 30) (hs : RWd R') : RW R' := by
  obtain ⟨n0, n1, n2, n3, n4, n5, n6⟩ := hR.n
  have e0 := e 0 (by decide)
  have e1 := e 1 (by decide)
  have e2 := e 2 (by decide)
  have e4 := e 4 (by decide)
  have e5 := e 5 (by decide)
  have e6 := e 6 (by decide)
  exact ⟨⟨by omega, by omega, by omega, by omega, by omega, by omega, by omega⟩, hR.p.cg e1 n1.2 (fun j q1 q2 => e j (by omega)), hR.hd.cg e2 n2.2 (fun j q1 q2 => e j (by omega)), hR.r.cg (fun j q1 q2 => e j (by omega)), hs, hR.s.cg (by omega) (by omega) e4 (fun j q1 q2 => e j (by omega)) n4.2, hR.o.cg (by omega) e5 (fun j q1 q2 => e j (by omega)) n5.2, RWc.cg (by omega) (by omega) (by omega) e6 (fun j q1 q2 => e j (by omega)) n6.2 hR.2.2.2.2.2.2.2⟩
theorem CI.gdls {d d' : mD} {R R' : rW} (hC : CI d R) (hw : RW R') (e : ∀ j, ¬ (j = 3 ∨ 139 ≤ j ∧ j ≤ 618) → R' j = R j) (q : ∀ k j : Int, 6 ≤ k → k ≤ 51 → ¬ (16 ≤ k ∧ k ≤ 27) → d' k j = d k j) (hs : SDl d' R') : CI d' R' := by
  have hR := hC.w
  obtain ⟨n0, n1, n2, n3, n4, n5, n6⟩ := hR.n
  have e0 := e 0 (by decide)
  have e1 := e 1 (by decide)
  have e2 := e 2 (by decide)
  have e4 := e 4 (by decide)
  have e5 := e 5 (by decide)
  have e6 := e 6 (by decide)
  exact ⟨hw, hC.cal.cg n2.2 (fun k j q1 q2 => q k j (by omega) (by omega) (by omega)) (fun j q1 q2 => e j (by omega)) e0 e2, hC.par.cg hR (fun k j q1 q2 => q k j (by omega) (by omega) (by omega)) (fun j q1 q2 => e j (by omega)) e1, hC.rul.cg (fun k j q1 q2 => q k j (by omega) (by omega) (by omega)) (fun j q1 q2 => e j (by omega)), hs, hC.st.cg n4.2 (fun k j q1 q2 => q k j (by omega) (by omega) (by omega)) (fun j q1 q2 => e j (by omega)) e4, hC.oc.cg n5.2 (fun k j q1 q2 => q k j (by omega) (by omega) (by omega)) (fun j q1 q2 => e j (by omega)) e5, hC.cm.cg n6.2 (fun k j q1 q2 => q k j (by omega) (by omega) (by omega)) (q 33 7 (by decide) (by decide) (by decide)) (fun j q1 q2 => e j (by omega)) e6⟩
theorem RW.gsts {R R' : rW} (hR : RW R) (e : ∀ j, ¬ (j = 4 ∨ 619 ≤ j ∧ j ≤ 666) → R' j = R j) (hb : 0 ≤ R' 4 ∧ R' 4 ≤ 12) (hs : RWs R') : RW R' := by
  obtain ⟨n0, n1, n2, n3, n4, n5, n6⟩ := hR.n
  have e0 := e 0 (by decide)
  have e1 := e 1 (by decide)
  have e2 := e 2 (by decide)
  have e3 := e 3 (by decide)
  have e5 := e 5 (by decide)
  have e6 := e 6 (by decide)
  exact ⟨⟨by omega, by omega, by omega, by omega, by omega, by omega, by omega⟩, hR.p.cg e1 n1.2 (fun j q1 q2 => e j (by omega)), hR.hd.cg e2 n2.2 (fun j q1 q2 => e j (by omega)), hR.r.cg (fun j q1 q2 => e j (by omega)), RWd.cg (by omega) (by omega) e3 (fun j q1 q2 => e j (by omega)) n3.2 hR.2.2.2.2.1, hs, hR.o.cg (by omega) e5 (fun j q1 q2 => e j (by omega)) n5.2, RWc.cg (by omega) (by omega) (by omega) e6 (fun j q1 q2 => e j (by omega)) n6.2 hR.2.2.2.2.2.2.2⟩
theorem CI.gsts {d d' : mD} {R R' : rW} (hC : CI d R) (hw : RW R') (e : ∀ j, ¬ (j = 4 ∨ 619 ≤ j ∧ j ≤ 666) → R' j = R j) (q : ∀ k j : Int, 6 ≤ k → k ≤ 51 → ¬ (28 ≤ k ∧ k ≤ 32) → d' k j = d k j) (hs : SSt d' R') : CI d' R' := by
  have hR := hC.w
  obtain ⟨n0, n1, n2, n3, n4, n5, n6⟩ := hR.n
  have e0 := e 0 (by decide)
  have e1 := e 1 (by decide)
  have e2 := e 2 (by decide)
  have e3 := e 3 (by decide)
  have e5 := e 5 (by decide)
  have e6 := e 6 (by decide)
  exact ⟨hw, hC.cal.cg n2.2 (fun k j q1 q2 => q k j (by omega) (by omega) (by omega)) (fun j q1 q2 => e j (by omega)) e0 e2, hC.par.cg hR (fun k j q1 q2 => q k j (by omega) (by omega) (by omega)) (fun j q1 q2 => e j (by omega)) e1, hC.rul.cg (fun k j q1 q2 => q k j (by omega) (by omega) (by omega)) (fun j q1 q2 => e j (by omega)), hC.dl.cg hR (fun k j q1 q2 => q k j (by omega) (by omega) (by omega)) (fun j q1 q2 => e j (by omega)) e3, hs, hC.oc.cg n5.2 (fun k j q1 q2 => q k j (by omega) (by omega) (by omega)) (fun j q1 q2 => e j (by omega)) e5, hC.cm.cg n6.2 (fun k j q1 q2 => q k j (by omega) (by omega) (by omega)) (q 33 7 (by decide) (by decide) (by decide)) (fun j q1 q2 => e j (by omega)) e6⟩
theorem RW.gocs {R R' : rW} (hR : RW R) (e : ∀ j, ¬ (j = 5 ∨ 667 ≤ j ∧ j ≤ 706) → R' j = R j) (hb : R 5 ≤ R' 5 ∧ R' 5 ≤ 8) (hs : RWo R') : RW R' := by
  obtain ⟨n0, n1, n2, n3, n4, n5, n6⟩ := hR.n
  have e0 := e 0 (by decide)
  have e1 := e 1 (by decide)
  have e2 := e 2 (by decide)
  have e3 := e 3 (by decide)
  have e4 := e 4 (by decide)
  have e6 := e 6 (by decide)
  exact ⟨⟨by omega, by omega, by omega, by omega, by omega, by omega, by omega⟩, hR.p.cg e1 n1.2 (fun j q1 q2 => e j (by omega)), hR.hd.cg e2 n2.2 (fun j q1 q2 => e j (by omega)), hR.r.cg (fun j q1 q2 => e j (by omega)), RWd.cg (by omega) (by omega) e3 (fun j q1 q2 => e j (by omega)) n3.2 hR.2.2.2.2.1, hR.s.cg (by omega) (by omega) e4 (fun j q1 q2 => e j (by omega)) n4.2, hs, RWc.cg (by omega) (by omega) (by omega) e6 (fun j q1 q2 => e j (by omega)) n6.2 hR.2.2.2.2.2.2.2⟩
theorem CI.gocs {d d' : mD} {R R' : rW} (hC : CI d R) (hw : RW R') (e : ∀ j, ¬ (j = 5 ∨ 667 ≤ j ∧ j ≤ 706) → R' j = R j) (q : ∀ k j : Int, 6 ≤ k → k ≤ 51 → ¬ (34 ≤ k ∧ k ≤ 47) → d' k j = d k j) (hs : SOc d' R') : CI d' R' := by
  have hR := hC.w
  obtain ⟨n0, n1, n2, n3, n4, n5, n6⟩ := hR.n
  have e0 := e 0 (by decide)
  have e1 := e 1 (by decide)
  have e2 := e 2 (by decide)
  have e3 := e 3 (by decide)
  have e4 := e 4 (by decide)
  have e6 := e 6 (by decide)
  exact ⟨hw, hC.cal.cg n2.2 (fun k j q1 q2 => q k j (by omega) (by omega) (by omega)) (fun j q1 q2 => e j (by omega)) e0 e2, hC.par.cg hR (fun k j q1 q2 => q k j (by omega) (by omega) (by omega)) (fun j q1 q2 => e j (by omega)) e1, hC.rul.cg (fun k j q1 q2 => q k j (by omega) (by omega) (by omega)) (fun j q1 q2 => e j (by omega)), hC.dl.cg hR (fun k j q1 q2 => q k j (by omega) (by omega) (by omega)) (fun j q1 q2 => e j (by omega)) e3, hC.st.cg n4.2 (fun k j q1 q2 => q k j (by omega) (by omega) (by omega)) (fun j q1 q2 => e j (by omega)) e4, hs, hC.cm.cg n6.2 (fun k j q1 q2 => q k j (by omega) (by omega) (by omega)) (q 33 7 (by decide) (by decide) (by decide)) (fun j q1 q2 => e j (by omega)) e6⟩
theorem RW.gcls {R R' : rW} (hR : RW R) (e : ∀ j, ¬ (j = 6 ∨ 707 ≤ j ∧ j ≤ 786) → R' j = R j) (hb : 0 ≤ R' 6 ∧ R' 6 ≤ 20) (hs : RWc R') : RW R' := by
  obtain ⟨n0, n1, n2, n3, n4, n5, n6⟩ := hR.n
  have e0 := e 0 (by decide)
  have e1 := e 1 (by decide)
  have e2 := e 2 (by decide)
  have e3 := e 3 (by decide)
  have e4 := e 4 (by decide)
  have e5 := e 5 (by decide)
  exact ⟨⟨by omega, by omega, by omega, by omega, by omega, by omega, by omega⟩, hR.p.cg e1 n1.2 (fun j q1 q2 => e j (by omega)), hR.hd.cg e2 n2.2 (fun j q1 q2 => e j (by omega)), hR.r.cg (fun j q1 q2 => e j (by omega)), RWd.cg (by omega) (by omega) e3 (fun j q1 q2 => e j (by omega)) n3.2 hR.2.2.2.2.1, hR.s.cg (by omega) (by omega) e4 (fun j q1 q2 => e j (by omega)) n4.2, hR.o.cg (by omega) e5 (fun j q1 q2 => e j (by omega)) n5.2, hs⟩
theorem CI.gcls {d d' : mD} {R R' : rW} (hC : CI d R) (hw : RW R') (e : ∀ j, ¬ (j = 6 ∨ 707 ≤ j ∧ j ≤ 786) → R' j = R j) (q : ∀ k j : Int, 6 ≤ k → k ≤ 51 → ¬ (48 ≤ k ∧ k ≤ 51 ∨ k = 33 ∧ j = 7) → d' k j = d k j) (hs : SCm d' R') : CI d' R' := by
  have hR := hC.w
  obtain ⟨n0, n1, n2, n3, n4, n5, n6⟩ := hR.n
  have e0 := e 0 (by decide)
  have e1 := e 1 (by decide)
  have e2 := e 2 (by decide)
  have e3 := e 3 (by decide)
  have e4 := e 4 (by decide)
  have e5 := e 5 (by decide)
  exact ⟨hw, hC.cal.cg n2.2 (fun k j q1 q2 => q k j (by omega) (by omega) (by omega)) (fun j q1 q2 => e j (by omega)) e0 e2, hC.par.cg hR (fun k j q1 q2 => q k j (by omega) (by omega) (by omega)) (fun j q1 q2 => e j (by omega)) e1, hC.rul.cg (fun k j q1 q2 => q k j (by omega) (by omega) (by omega)) (fun j q1 q2 => e j (by omega)), hC.dl.cg hR (fun k j q1 q2 => q k j (by omega) (by omega) (by omega)) (fun j q1 q2 => e j (by omega)) e3, hC.st.cg n4.2 (fun k j q1 q2 => q k j (by omega) (by omega) (by omega)) (fun j q1 q2 => e j (by omega)) e4, hC.oc.cg n5.2 (fun k j q1 q2 => q k j (by omega) (by omega) (by omega)) (fun j q1 q2 => e j (by omega)) e5, hs⟩
