-- the cells of a docket that count
def kC : Nat → Int → Int → Prop
  | 0, b, j => b = 7 ∧ j = 2
  | 1, b, j => b = 10 ∧ (j = 0 ∨ j = 2)
  | 2, b, j => b = 16 ∧ j = 11
  | 3, b, j => b = 28 ∧ j = 4
  | 4, b, j => b = 33 ∧ j = 7
  | 5, b, j => b = 34 ∧ j = 11
  | 6, b, j => b = 8 ∧ 0 ≤ j ∧ j < 64
  | 7, b, j => (b = 9 ∨ b = 13 ∨ b = 14 ∨ b = 46 ∨ b = 47) ∧ 0 ≤ j ∧ j < 8
  | 8, b, j => b = 11 ∧ 0 ≤ j ∧ j < 40
  | 9, b, j => b = 15 ∧ 0 ≤ j ∧ j < 4
  | 10, b, j => ((17 ≤ b ∧ b ≤ 27 ∧ b ≠ 22) ∨ (35 ≤ b ∧ b ≤ 39)) ∧ 0 ≤ j ∧ j < 30
  | 11, b, j => (b = 22 ∨ b = 40) ∧ 0 ≤ j ∧ j < 210
  | 12, b, j => (29 ≤ b ∧ b ≤ 32) ∧ 0 ≤ j ∧ j < 12
  | _, b, j => (48 ≤ b ∧ b ≤ 51) ∧ 0 ≤ j ∧ j < 20
def inC (b j : Int) : Prop := ∃ q, kC q b j
theorem CI.frI {d d' : mD} {R : rW} (h : CI d R) (hf : ∀ b j : Int, inC b j → d' b j = d b j) : CI d' R := by
  have hR := h.w
  obtain ⟨n0, n1, n2, n3, n4, n5, n6⟩ := hR.n
  refine ⟨hR, ⟨?_, ?_, fun k hk => ?_⟩, ⟨?_, fun p hp => ⟨?_, fun k hk => ?_⟩⟩, ⟨fun r hr => ⟨?_, ?_⟩, fun w hw => ?_⟩, ⟨?_, fun i hi => ?_⟩, ⟨?_, fun k hk => ⟨?_, ?_, ?_, ?_⟩⟩, ⟨?_, fun o ho => ?_, fun o ho => ?_, fun a b ha hb => ?_⟩, ⟨?_, fun c hc => ⟨?_, ?_, ?_, ?_⟩⟩⟩
  · exact (hf 10 0 ⟨1, rfl, Or.inl rfl⟩).trans h.cal.1
  · exact (hf 10 2 ⟨1, rfl, Or.inr rfl⟩).trans h.cal.2.1
  · exact (hf 11 k ⟨8, rfl, by omega, by omega⟩).trans (h.cal.2.2 k hk)
  · exact (hf 7 2 ⟨0, rfl, rfl⟩).trans h.par.1
  · exact (hf 9 p ⟨7, by decide, by omega, by omega⟩).trans (h.par.2 p hp).1
  · have := (hR.p p hp).1
    exact (hf 8 _ ⟨6, rfl, by omega, by omega⟩).trans ((h.par.2 p hp).2 k hk)
  · exact (hf 13 r ⟨7, by decide, by omega, by omega⟩).trans (h.rul.1 r hr).1
  · exact (hf 14 r ⟨7, by decide, by omega, by omega⟩).trans (h.rul.1 r hr).2
  · exact (hf 15 w ⟨9, rfl, by omega, by omega⟩).trans (h.rul.2 w hw)
  · exact (hf 16 11 ⟨2, rfl, rfl⟩).trans h.dl.1
  · exact (h.dl.2 i hi).cq (hR.dl hi) (fun k q1 q2 q3 => hf k i ⟨10, by omega, by omega, by omega⟩) (fun t q1 q2 => hf 22 _ ⟨11, by decide, by omega, by omega⟩) eqOn.rf
  · exact (hf 28 4 ⟨3, rfl, rfl⟩).trans h.st.1
  · exact (hf 29 k ⟨12, by decide, by omega, by omega⟩).trans (h.st.2 k hk).1
  · exact (hf 30 k ⟨12, by decide, by omega, by omega⟩).trans (h.st.2 k hk).2.1
  · exact (hf 31 k ⟨12, by decide, by omega, by omega⟩).trans (h.st.2 k hk).2.2.1
  · exact (hf 32 k ⟨12, by decide, by omega, by omega⟩).trans (h.st.2 k hk).2.2.2
  · exact (hf 34 11 ⟨5, rfl, rfl⟩).trans h.oc.1
  · rw [hf 35 o ⟨10, by decide, by omega, by omega⟩, hf 36 o ⟨10, by decide, by omega, by omega⟩, hf 37 o ⟨10, by decide, by omega, by omega⟩, hf 38 o ⟨10, by decide, by omega, by omega⟩, hf 39 o ⟨10, by decide, by omega, by omega⟩, hf 40 (o * 7) ⟨11, by decide, by omega, by omega⟩, hf 46 o ⟨7, by decide, by omega, by omega⟩]
    exact h.oc.2.1 o ho
  · rw [hf 47 o ⟨7, by decide, by omega, by omega⟩]
    exact h.oc.2.2.1 o ho
  · rw [hf 47 a ⟨7, by decide, by omega, by omega⟩, hf 47 b ⟨7, by decide, by omega, by omega⟩]
    exact h.oc.2.2.2 a b ha hb
  · exact (hf 33 7 ⟨4, rfl, rfl⟩).trans h.cm.1
  · exact (hf 48 c ⟨13, by decide, by omega, by omega⟩).trans (h.cm.2 c hc).1
  · exact (hf 49 c ⟨13, by decide, by omega, by omega⟩).trans (h.cm.2 c hc).2.1
  · exact (hf 50 c ⟨13, by decide, by omega, by omega⟩).trans (h.cm.2 c hc).2.2.1
  · exact (hf 51 c ⟨13, by decide, by omega, by omega⟩).trans (h.cm.2 c hc).2.2.2
-- a docket at another place
def shD (d : mD) (k : Int) : mD := fun b j => d (b + k) j
theorem CI.sh {d d' : mD} {R : rW} {k m : Int} (h : CI (shD d k) R) (hf : ∀ b j : Int, inC b j → d' (b + m) j = d (b + k) j) : CI (shD d' m) R := h.frI hf
theorem shD_0 {d : mD} : shD d 0 = d := by
  funext b j
  show d (b + 0) j = d b j
  rw [Int.add_zero]
-- a row that agrees where it counts
theorem RW.on {R R' : rW} (h : RW R) (e : eqOn R R' 0 786) : RW R' := by
  obtain ⟨n0, n1, n2, n3, n4, n5, n6⟩ := h.n
  have e0 := e 0 (by decide) (by decide)
  have e1 := e 1 (by decide) (by decide)
  have e2 := e 2 (by decide) (by decide)
  have e3 := e 3 (by decide) (by decide)
  have e4 := e 4 (by decide) (by decide)
  have e5 := e 5 (by decide) (by decide)
  have e6 := e 6 (by decide) (by decide)
  exact ⟨⟨by omega, by omega, by omega, by omega, by omega, by omega, by omega⟩, h.p.cg e1 n1.2 (fun j q1 q2 => e j (by omega) (by omega)), h.hd.cg e2 n2.2 (fun j q1 q2 => e j (by omega) (by omega)), h.r.cg (fun j q1 q2 => e j (by omega) (by omega)), RWd.cg (by omega) (by omega) e3 (fun j q1 q2 => e j (by omega) (by omega)) n3.2 h.2.2.2.2.1, h.s.cg (by omega) (by omega) e4 (fun j q1 q2 => e j (by omega) (by omega)) n4.2, h.o.cg (by omega) e5 (fun j q1 q2 => e j (by omega) (by omega)) n5.2, RWc.cg (by omega) (by omega) (by omega) e6 (fun j q1 q2 => e j (by omega) (by omega)) n6.2 h.2.2.2.2.2.2.2⟩
theorem CI.on {d : mD} {R R' : rW} (h : CI d R) (e : eqOn R R' 0 786) : CI d R' := by
  have hR := h.w
  obtain ⟨n0, n1, n2, n3, n4, n5, n6⟩ := hR.n
  have e0 := e 0 (by decide) (by decide)
  have e1 := e 1 (by decide) (by decide)
  have e2 := e 2 (by decide) (by decide)
  have e3 := e 3 (by decide) (by decide)
  have e4 := e 4 (by decide) (by decide)
  have e5 := e 5 (by decide) (by decide)
  have e6 := e 6 (by decide) (by decide)
  exact ⟨hR.on e, h.cal.cg n2.2 eqB.rf (fun j q1 q2 => e j (by omega) (by omega)) e0 e2, h.par.cg hR eqB.rf (fun j q1 q2 => e j (by omega) (by omega)) e1, h.rul.cg eqB.rf (fun j q1 q2 => e j (by omega) (by omega)), h.dl.cg hR eqB.rf (fun j q1 q2 => e j (by omega) (by omega)) e3, h.st.cg n4.2 eqB.rf (fun j q1 q2 => e j (by omega) (by omega)) e4, h.oc.cg n5.2 eqB.rf (fun j q1 q2 => e j (by omega) (by omega)) e5, h.cm.cg n6.2 eqB.rf rfl (fun j q1 q2 => e j (by omega) (by omega)) e6⟩
