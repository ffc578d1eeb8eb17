-- 'throw new NoSuchElementException("..")': the one exception whose own constructor hands its text on by another constant than the kit's row supposes
/-- the constructors from the class up to Throwable: its own first, of the given bytes -/
def vz_ups (X : String) (ix : Nat) (rx : ByteArray) (up : List String) : List Cond :=
  Bundle.passSAtoms X (up.headD Bundle.tN) ix rx ++ up.head?.toList.flatMap fun Y => Bundle.chainSAtoms Y up.tail
/-- the fields that Throwable's constructor fills, and the one that stays empty -/
def vz_flds : List (String × String) :=
  [("cause", "Ljava/lang/Throwable;"), ("stackTrace", Bundle.steD), ("suppressedExceptions", Bundle.listD), ("detailMessage", "Ljava/lang/String;")]
def vz_back : String × String := ("backtrace", "Ljava/lang/Object;")
def vz_stat : List (String × String) := [("UNASSIGNED_STACK", Bundle.steD), ("SUPPRESSED_SENTINEL", Bundle.listD)]
def vz_own (own : String) (ic : Nat) (X : String) : List Cond :=
  Cond.methodLink own ic (Bundle.initS X) :: Cond.instantiable X 6 :: Cond.castable X X :: [Bundle.tFill0, Bundle.tFill].map (fun t => Cond.selects X t t) ++
  vz_flds.map (fun f => Cond.lays X Bundle.tN f.1 f.2) ++ vz_stat.map (fun f => Cond.isRef (.static Bundle.tN f.1 f.2)) ++
  [Cond.fieldLink Bundle.tN 198 Bundle.tN vz_back.1 vz_back.2, Cond.lays Bundle.tN Bundle.tN vz_back.1 vz_back.2, Cond.lays X Bundle.tN vz_back.1 vz_back.2]
def vz_atoms (own : String) (ic : Nat) (X : String) (ix : Nat) (rx : ByteArray) (up : List String) : List Cond :=
  (Bundle.throwableAtoms ++ Bundle.throwableSAtoms) ++ (vz_ups X ix rx up ++ vz_own own ic X)
def vz_atS (own : String) (ic : Nat) (X : String) (ix : Nat) (rx : ByteArray) (names : List String) : List Cond := (vz_atoms own ic X ix rx names).filter vx_no
/-- a constructor that hands its text on and returns -/
def vz_on (ix : Nat) (rx : ByteArray) : Prop :=
  decode rx 0 = .ok (.aload_n 0, 1) ∧ decode rx 1 = .ok (.aload_n 1, 1) ∧ decode rx 2 = .ok (.invokespecial ix, 3) ∧ decode rx 5 = .ok (.return_, 1)
theorem vz_mem {own : String} {ic : Nat} {X : String} {ix : Nat} {rx : ByteArray} {up : List String} {w : Cond} (h : w ∈ vz_own own ic X) : w ∈ vz_atoms own ic X ix rx up :=
  List.mem_append_right _ (List.mem_append_right _ h)
theorem vz_lays {own : String} {ic : Nat} {X : String} {f : String × String} (h : f ∈ vz_back :: vz_flds) : Cond.lays X Bundle.tN f.1 f.2 ∈ vz_own own ic X := by
  rcases List.mem_cons.mp h with rfl | h
  · exact List.mem_append_right _ (List.mem_cons_of_mem _ (List.mem_cons_of_mem _ List.mem_cons_self))
  · exact List.mem_append_left _ (List.mem_append_left _ (List.mem_append_right _ (List.mem_map.mpr ⟨f, h, rfl⟩)))
theorem vz_refs {own : String} {ic : Nat} {X : String} {f : String × String} (h : f ∈ vz_stat) : Cond.isRef (.static Bundle.tN f.1 f.2) ∈ vz_own own ic X :=
  List.mem_append_left _ (List.mem_append_right _ (List.mem_map.mpr ⟨f, h, rfl⟩))
theorem vz_sels {own : String} {ic : Nat} {X : String} {t : MethodName} (h : t ∈ [Bundle.tFill0, Bundle.tFill]) : Cond.selects X t t ∈ vz_own own ic X :=
  List.mem_append_left _ (List.mem_append_left _ (List.mem_append_left _ (List.mem_cons_of_mem _ (List.mem_cons_of_mem _ (List.mem_cons_of_mem _ (List.mem_map.mpr ⟨t, h, rfl⟩))))))
theorem vz_first {own : String} {ic : Nat} {X : String} {ix : Nat} {rx : ByteArray} {up : List String} {w : Cond} (h : w ∈ Bundle.passSAtoms X (up.headD Bundle.tN) ix rx) : w ∈ vz_atoms own ic X ix rx up :=
  List.mem_append_right _ (List.mem_append_left _ (List.mem_append_left _ h))
/-- the way up, constructor by constructor -/
theorem vz_chain {args : Array Value} {s : State} {pl : Platform} (hpl : pl.magicAccessors = ({} : Platform).magicAccessors) {top : MethodId} (ht : s.methodNamed? (Bundle.initS Bundle.tN) = some top)
    {ix : Nat} {rx : ByteArray} (hx : vz_on ix rx) {X : String} (hX : Bundle.fit X = true) : ∀ (up : List String), (∀ n ∈ up, Bundle.fit n = true) → (∀ w ∈ vz_ups X ix rx up, w.before args s = true) →
      ∃ (P : PassC) (Ps : List PassC), (P :: Ps).length = up.length + 1 ∧ (∀ Q, Q ∈ P :: Ps → Q.LinksS pl s) ∧ s.methodNamed? (Bundle.initS X) = some P.m ∧ PassesOn top ((P :: Ps).map (·.toPassT))
  | [], _, h => by
    obtain ⟨P, hP, hm, hu⟩ := PassC.ofS_atoms (args := args) (s := s) hpl (X := X) (Y := Bundle.tN) (Bundle.fit_spec hX).1 (by decide) hx.1 hx.2.1 hx.2.2.1 hx.2.2.2 (fun w hw => h w (List.mem_append_left _ hw))
    exact ⟨P, [], rfl, fun Q hQ => by rw [List.mem_singleton.mp hQ]; exact hP, hm, Option.some.inj (hu.symm.trans ht), trivial⟩
  | Y :: r, hf, h => by
    have hY := hf Y List.mem_cons_self
    have h2 : ∀ w ∈ Bundle.chainSAtoms Y r, w.before args s = true := fun w hw => h w (List.mem_append_right _ (by
      show w ∈ Bundle.chainSAtoms Y r ++ []
      rw [List.append_nil]
      exact hw))
    obtain ⟨P2, Pr, hn, hP2, hPr, hm2, hs2, hp2⟩ := Bundle.chainS (args := args) hpl ht r Y hY (fun n hn => hf n (List.mem_cons_of_mem _ hn)) h2
    obtain ⟨P, hP, hm, hu⟩ := PassC.ofS_atoms (args := args) (s := s) hpl (X := X) (Y := Y) (Bundle.fit_spec hX).1 (Bundle.fit_spec hY).2 hx.1 hx.2.1 hx.2.2.1 hx.2.2.2 (fun w hw => h w (List.mem_append_left _ hw))
    refine ⟨P, P2 :: Pr, by simp only [List.length_cons, hn], ?_, hm, Option.some.inj (hu.symm.trans hm2), hs2, hp2⟩
    have h3 : ∀ Q ∈ P2 :: Pr, Q.LinksS pl s := List.forall_mem_cons.mpr ⟨hP2, hPr⟩
    exact List.forall_mem_cons.mpr ⟨hP, h3⟩
/-- which method a call of Throwable's own takes in the class -/
theorem vz_sel {p : Program} {l : Launch} {e : Env} {R : Room} {s : State} {m₀ : MethodId} {args : Array Value} {below : List Frame} {meth : Method} {c : Code} {W : State} {locs : List Loc} {cells slots : Nat} (X : Stand p l e R s m₀ args below meth c W locs cells slots)
    {C : String} {q : ClassId} (hq : s.vm.findClass C = some q) {t : MethodName} {f : MethodId} (hf : s.methodNamed? t = some f) (ht : t.cls ≠ "java/lang/invoke/MethodHandle" ∧ t.cls ≠ "java/lang/invoke/VarHandle")
    (w : (Cond.selects C t t).holds args s none s [] = true) : selectMethod e.platform s.vm q f = .method f := by
  rw [Launch.admits_selectMethod X.admits]
  obtain ⟨q2, f2, f3, a1, a2, a3, a4, -⟩ := Cond.selects_spec w
  have e1 : q2 = q := Option.some.inj (a1.symm.trans hq)
  have e2 : f2 = f := Option.some.inj (a2.symm.trans (State.methodFound?_of_named hf ht))
  have e3 : f3 = f := Option.some.inj (a3.symm.trans hf)
  rw [e1, e2, e3] at a4
  exact a4
theorem vz_apart {s : State} {q : Nat} {f g : Field} (hf : ∃ d, Jmm.declares? s.vm f.slot (q + 1) q = some d ∧ d.2.name = f.name) (hg : ∃ d, Jmm.declares? s.vm g.slot (q + 1) q = some d ∧ d.2.name = g.name) (hn : f.name ≠ g.name) : g.slot ≠ f.slot := by
  obtain ⟨d, h1, h2⟩ := hf
  obtain ⟨d', h3, h4⟩ := hg
  exact (Cond.laysApart h1 h3 h2 h4 hn).symm
/-- a field beside those that are filled keeps its value -/
theorem vz_keep {T : ThrowableT} {x : Cell} {a : Addr} {u n : RefV} {k : Nat} {v : Value} (h : x.slots[k]? = some v) (h1 : T.fCause.slot ≠ k) (h2 : T.fStack.slot ≠ k) (h3 : T.fSupp.slot ≠ k) : (preparedCellV T x a u n).slots[k]? = some v := by
  simp only [preparedCellV, Cell.setSlot, Array.getElem?_setIfInBounds, if_neg h1, if_neg h2, if_neg h3]
  exact h
set_option maxHeartbeats 1000000 in
/-- from behind the load of the text to the throw itself -/
theorem vz_ctor {p : Program} {l : Launch} {e : Env} {R : Room} {s : State} {m₀ : MethodId} {args : Array Value} {below : List Frame} {meth : Method} {c : Code} {W : State} {cells slots : Nat} (X : Stand p l e R s m₀ args below meth c W [] cells slots)
    (hexec : p.tables.exec = Jvm.exec) (htr : e.platform.stackTraces = false) {own cls : String} {names : List String} {ic ix : Nat} {rx : ByteArray} (hx : vz_on ix rx)
    (hown : s.vm.findClass own = some m₀.cls) (hcls : Bundle.fit cls = true) (hnames : ∀ n ∈ names, Bundle.fit n = true) (h : ∀ w ∈ vz_atoms own ic cls ix rx names, w.before args s = true)
    {a : Addr} {q : ClassId} {k : Class} (hq : s.vm.findClass cls = some q) (hk : s.vm.classes[q]? = some k) (hcell : W.heap[a]? = some (freshCell q k)) (hnew : s.heap.size ≤ a) {msg : Value} (hmsg : msg.isRef = true)
    {g : JFrame} (hg : g.method = m₀) (hsize : g.locals.size = c.maxLocals) (hlocked : g.locked = none) (hentered : g.entered = []) {rest : List Value} (hstack : g.stack = msg :: .ref a :: .ref a :: rest)
    (hd6 : decode c.code g.pc = .ok (.invokespecial ic, 3)) (hd9 : decode c.code (g.pc + 3) = .ok (.athrow, 1)) (hout : ∀ x ∈ c.exceptionTable.toList, covers x (g.pc + 3) = false)
    (hRframes : names.length + 3 < R.frames) (hRlocals : 2 * g.monitorRoom + ((Value.ref a :: rest).map fun v => v.category).sum + (13 * (names.length + 1) + 42) ≤ R.locals) (hlocks : meth.locks = false) :
    ∃ U : State, Steps p.tables e below (W.setTop g) U ∧ U.status = .running ∧ Ended U below (.threw a) ∧ s.WarmedH U.vm ∧ s.sameButNew ({ U with vm := s.vm } : State) [] cells slots ∧
      ∃ ce, U.heap[a]? = some ce ∧ (s.vm.findClass cls = some ce.cls ∧ ce.vm = .none) := by
  have hpf := X.admits.platform
  have hpl : e.platform.magicAccessors = ({} : Platform).magicAccessors := by rw [hpf]
  have wo : ∀ w, w ∈ vz_own own ic cls → w.holds args s none s [] = true := fun w hw => h w (vz_mem hw)
  -- the words of Throwable, of its constructor, of the way up
  obtain ⟨T, Z0, L, -, Y⟩ := ThrowableC.of_atoms (args := args) (by rw [hpf]) (by rw [hpf]) hpl (fun w hw => h w (List.mem_append_left _ (List.mem_append_left _ hw)))
  obtain ⟨Z, M, LZ, LM, hZ⟩ := Init0T.ofS_atoms (args := args) hpl L Y (fun w hw => h w (List.mem_append_left _ (List.mem_append_right _ hw)))
  obtain ⟨P, Ps, hlen, hPs, hPm, hon⟩ := vz_chain (args := args) hpl hZ hx hcls names hnames (fun w hw => h w (List.mem_append_right _ (List.mem_append_left _ hw)))
  have hq2 : s.vm.findClass cls = some P.m.cls := findClass_of_methodNamed hPm
  have hqe : q = P.m.cls := Option.some.inj (hq.symm.trans hq2)
  subst hqe
  obtain ⟨q3, k3, b1, b2, hord, -⟩ := Cond.instantiable_spec (wo (.instantiable cls 6) (List.mem_append_left _ (List.mem_append_left _ (List.mem_append_left _ (List.mem_cons_of_mem _ List.mem_cons_self)))))
  obtain rfl : P.m.cls = q3 := Option.some.inj (hq.symm.trans b1)
  obtain rfl : k = k3 := Option.some.inj (hk.symm.trans b2)
  -- the fields
  have lay : ∀ {f : String × String} {c' : Nat} {k' : Class} {i : Nat} {F : Field}, f ∈ vz_back :: vz_flds → s.fieldFound? Bundle.tN f.1 f.2 = some (c', k', i, F) →
      k.instanceTypes[F.slot]? = some F.type ∧ ∃ d, Jmm.declares? s.vm F.slot (P.m.cls + 1) P.m.cls = some d ∧ d.2.name = F.name := fun hf hF => Cond.laysAt hq hk hF (wo _ (vz_lays hf))
  obtain ⟨iM, hM⟩ := Y.msg
  have lC := lay (f := ("cause", "Ljava/lang/Throwable;")) (by decide +kernel) Y.cause
  have lS := lay (f := ("stackTrace", Bundle.steD)) (by decide +kernel) Y.stack
  have lP := lay (f := ("suppressedExceptions", Bundle.listD)) (by decide +kernel) Y.supp
  have lM := lay (f := ("detailMessage", "Ljava/lang/String;")) (by decide +kernel) hM
  obtain ⟨ci, i, B, r1, r2, r3, r4, -, nB, tB, fB⟩ := Cond.ownField (t := .object "java/lang/Object") Y.found L.cls (by decide +kernel)
    (wo (.fieldLink Bundle.tN 198 Bundle.tN vz_back.1 vz_back.2) (List.mem_append_right _ List.mem_cons_self)) (wo (.lays Bundle.tN Bundle.tN vz_back.1 vz_back.2) (List.mem_append_right _ (List.mem_cons_of_mem _ List.mem_cons_self))) e.platform hpl
  have lB := lay (f := vz_back) List.mem_cons_self fB
  -- the two statics
  obtain ⟨cs, hcs, hst⟩ := Y.statics
  obtain ⟨u, hu⟩ := Cond.staticRefV Y.unassigned L.unassignedStatic L.statics hcs hst (wo _ (vz_refs (f := ("UNASSIGNED_STACK", Bundle.steD)) List.mem_cons_self))
  obtain ⟨n, hn⟩ := Cond.staticRefV Y.sentinel L.sentinelStatic L.statics hcs hst (wo _ (vz_refs (f := ("SUPPRESSED_SENTINEL", Bundle.listD)) (List.mem_cons_of_mem _ List.mem_cons_self)))
  obtain ⟨cw, hcw, hvw, -, hsl⟩ := X.same.2.2.2.2.2 T.aS cs hcs
  have hne : T.aS ≠ a := fun h9 => Nat.not_lt.mpr hnew (h9 ▸ (Array.getElem?_eq_some_iff.mp hcs).1)
  have hcv : cw.vm = cs.vm := by
    have h9 := congrArg Cell.vm hvw
    exact h9
  have hkn : cw.vm ≠ .unknown := fun h9 => by
    rw [← hcv, h9] at hst
    cases hst
  have hsk : SkipFacts T e.platform s (fun t => t) u ((preparedCellV T.toThrowableT (freshCell P.m.cls k) a u n).withEntry W.cur) := by
    refine ⟨⟨ci, i, B⟩, ⟨r1, r2, r3, r4⟩, ?_, fun _ _ => rfl⟩
    refine vz_keep (by
      have h9 := fresh_default (c := P.m.cls) lB.1
      rw [tB] at h9
      exact h9) (vz_apart lB.2 lC.2 ?_) (vz_apart lB.2 lS.2 ?_) (vz_apart lB.2 lP.2 ?_)
    · rw [nB, Y.causeName]; decide
    · rw [nB, Y.stackName]; decide
    · rw [nB, Y.suppName]; decide
  -- the call, the constructors' walk, the throw
  have hpas : ∀ w ∈ Bundle.passSAtoms cls (names.headD Bundle.tN) ix rx, w.before args s = true := fun w hw => h w (vz_first hw)
  obtain ⟨tm, -, -, -, vm1, h1, -, -, -, -, -, -, -, hW1, go1⟩ := Steps.initColdS (tb := p.tables) (e := e) (below := below) (s := s) (U := W) X.here hexec X.warmed hpl hown (t := Bundle.initS cls) rfl rfl (Bundle.fit_spec hcls).2
    (wo (.methodLink own ic (Bundle.initS cls)) (List.mem_append_left _ (List.mem_append_left _ (List.mem_append_left _ List.mem_cons_self)))) (hpas (.instanceMethod (Bundle.initS cls)) (by simp [Bundle.passSAtoms])) (hpas (.code (Bundle.initS cls) rx 2 none) (by simp [Bundle.passSAtoms]))
    hg hstack hd6
  obtain rfl : tm = P.m := Option.some.inj (h1.symm.trans hPm)
  have hps : (P :: Ps).length = names.length + 1 := hlen
  obtain ⟨vm2, X2, go2⟩ := (X.noted hW1).ctorMessageOffV hexec (g := { g with stack := .ref a :: rest }) hg hsize T L Z LZ M LM (P :: Ps) hPs hon (u0 := u) (sen := n) (self := a) hmsg (cell := freshCell P.m.cls k) (cellS := cw)
    hcell (fun _ => by simp) (by simp) rfl rfl (vz_sel X hq Y.fill0 (by decide) (wo _ (vz_sels List.mem_cons_self))) (vz_sel X hq Y.fill (by decide) (wo _ (vz_sels (List.mem_cons_of_mem _ List.mem_cons_self))))
    hcw hne hkn (by rw [hsl _ List.not_mem_nil]; exact hu) (by rw [hsl _ List.not_mem_nil]; exact hn)
    (Takes.of_laid hk hord lC.1 (by rw [Y.causeType]; rfl)) (Takes.of_laid hk hord lS.1 (by rw [Y.stackType]; exact fits_refV_array _ u)) (Takes.of_laid hk hord lP.1 (by rw [Y.suppType]; exact fits_refV_object _ n))
    (Takes.of_laid hk hord lM.1 (by rw [Y.msgType]; exact fits_refV_object _ ⟨msg, hmsg⟩)) Y.objLocals hsk htr [] hd6 (by rw [hps]; omega) (by rw [hps]; exact hRlocals)
  obtain ⟨go3, hrun, hend, hWU, hsame⟩ := X2.athrowLeaves hexec (g := { g with stack := .ref a :: rest, pc := g.pc + 3 }) hg hlocked hentered hout (a := a) (rest := rest) rfl hd9 hlocks
  refine ⟨_, go1 _ (fun acts => (doInvoke_state e _ acts _ _) ▸ go2 _ go3), hrun, hend, hWU, hsame.weaken (fun y hy hlt => ?_) (Nat.le_refl _) (Nat.le_refl _), _, heapAt_setCell_self _ (Array.getElem?_eq_some_iff.mp hcell).1, hq, rfl⟩
  have hb : y.base = a := by
    simp only [List.nil_append, List.mem_cons, List.not_mem_nil, or_false] at hy
    rcases hy with rfl | rfl | rfl | rfl | rfl <;> rfl
  exact absurd (hb ▸ hlt) (Nat.not_lt.mpr hnew)
theorem vz_throwS {p : Program} {l : Launch} {e : Env} {R : Room} {s : State} {m : MethodId} {args : Array Value} {below : List Frame} {meth : Method} {c : Code} {H : Heap} {locs : List Loc} {cells slots : Nat} {Qc : Array Value → State → Outcome → State → Prop} {XC : String → State → State → Prop} {free : Addr → Prop} {ls : Array Slot} {rest : List Value} {cc : ByteArray} {pc : Nat} (hexec : p.tables.exec = Jvm.exec) (hb : c.code = cc) (hl : l.stackTraces = false) {own cls text : String} {names : List String} {ik is ic ix mc ms sa : Nat} {rx : ByteArray} (hx0 : vz_on ix rx) {A : Nat → Prop}
    (hown : s.vm.findClass own = some m.cls) (hcls : Bundle.fit cls = true) (hnames : ∀ n ∈ names, Bundle.fit n = true)
    (hk : (Cond.classLink own ik cls).before args s = true) (hini : (Cond.initialized cls).before args s = true) (hstr : vk_R own is text sa s) (hat : ∀ w ∈ vz_atS own ic cls ix rx names, w.before args s = true)
    (hgood : ∀ w ∈ Cond.classLink own ik cls :: Cond.initialized cls :: vz_atS own ic cls ix rx names, vx_ot w = true)
    (hU : vx_Zq Bundle.tN "UNASSIGNED_STACK" Bundle.steD A s s.heap) (hN : vx_Zq Bundle.tN "SUPPRESSED_SENTINEL" Bundle.listD A s s.heap) (hS : va_S A s.heap H locs) (hsize : ls.size = c.maxLocals)
    (d0 : decode cc pc = .ok (.new ik, 3)) (d3 : decode cc (pc + 3) = .ok (.dup, 1)) (d4 : decode cc (pc + 4) = .ok (.ldc is, 2)) (d6 : decode cc (pc + 6) = .ok (.invokespecial ic, 3)) (d9 : decode cc (pc + 9) = .ok (.athrow, 1))
    (hout : ∀ x ∈ c.exceptionTable.toList, covers x (pc + 9) = false)
    (hRframes : names.length + 3 < R.frames) (hRlocals : (rest.map fun v => v.category).sum + (13 * (names.length + 1) + 43) ≤ R.locals) (hRcells : cells + 1 ≤ R.cells) (hRslots : slots + 6 ≤ R.slots) (hlocks : meth.locks = false)
    (hx : ∀ t : State, s.vm.Alike t.vm → H.size ≤ t.heap.size → (∀ q : Nat, q < H.size → t.heap[q]? = H[q]?) → XC cls s t)
    (hf : ∀ z ∈ locs, free z.base) (hc : cells + 1 ≤ mc) (hs : slots + 6 ≤ ms) :
    W p l e R s m args below meth c H locs cells slots (vx_MQ below Qc XC args s mc ms free) (F0 m pc ls rest) := by
  intro T hT X
  have htr : e.platform.stackTraces = false := (show e.platform.stackTraces = l.stackTraces by rw [X.admits.platform]).trans hl
  have Y := vx_rebase X (R' := { frames := R.frames, locals := R.locals, cells := 1, slots := 6 }) (Nat.le_refl _) (Nat.le_refl _) hRcells hRslots
  obtain ⟨s', hA⟩ : ∃ z, z = (T.setVm s.vm).setFrames (.invoking m args :: below) := ⟨_, rfl⟩
  rw [← hA] at Y
  have hvm : s'.vm = s.vm := by rw [hA]; rfl
  have hhp : s'.heap = H := by rw [hA]; exact hT
  have hW0 : s.WarmedH s'.vm := by rw [hvm]; exact State.WarmedH.refl s
  have hat' : ∀ w ∈ vz_atS own ic cls ix rx names, w.before args s' = true := fun w hw => vx_ot_at hW0 hvm.symm (hgood w (List.mem_cons_of_mem _ (List.mem_cons_of_mem _ hw))) (hat w hw)
  have hk' : (Cond.classLink own ik cls).before args s' = true := vx_ot_at hW0 hvm.symm (hgood _ List.mem_cons_self) hk
  have hini' : (Cond.initialized cls).before args s' = true := vx_ot_at hW0 hvm.symm (hgood _ (List.mem_cons_of_mem _ List.mem_cons_self)) hini
  have hU' : vx_Zq Bundle.tN "UNASSIGNED_STACK" Bundle.steD A s' s'.heap := by rw [hhp]; exact vx_Zq.moved hW0.alike (hU.kept hS.2.1)
  have hN' : vx_Zq Bundle.tN "SUPPRESSED_SENTINEL" Bundle.listD A s' s'.heap := by rw [hhp]; exact vx_Zq.moved hW0.alike (hN.kept hS.2.1)
  have h : ∀ w ∈ vz_atoms own ic cls ix rx names, w.before args s' = true := vx_own (L := vz_atoms own ic cls ix rx names) hat' (vx_isRefq hU'.1) (vx_isRefq hN'.1) hU'.2.word hN'.2.word
  have hown' : s'.vm.findClass own = some m.cls := by rw [hvm]; exact hown
  have hins : (Cond.instantiable cls 6).before args s' = true := h _ (vz_mem (List.mem_append_left _ (List.mem_append_left _ (List.mem_append_left _ (List.mem_cons_of_mem _ List.mem_cons_self)))))
  obtain ⟨vm₁, cX, kX, hfX, hkX, -, -, X₁, st1⟩ := Y.newCold hexec (own := own) (C := cls) (index := ik) (n := 6) hown' hk' hins hini'
    (g := F0 m pc ls rest) rfl (by rw [hb]; exact d0) (Nat.le_refl _) (Nat.le_refl _)
  generalize hT1 : (T.setVm vm₁).pushCell { cls := cX, slots := kX.instanceTypes.map defaultValue, vm := .none } = T1 at X₁ st1
  have hcat : (Value.ref T.heap.size).category = 1 := rfl
  have hcellA : T1.heap[T.heap.size]? = some (freshCell cX kX) := by rw [← hT1]; exact State.heap_pushCell_size _ _
  have d3' : decode c.code (pc + 3) = .ok (.dup, 1) := by rw [hb]; exact d3
  have d4' : decode c.code (pc + 4) = .ok (.ldc is, 2) := by rw [hb]; exact d4
  have hstr' : vk_R own is text sa s' := vk_R.warm hW0 hstr
  obtain ⟨U, hsteps, hrun, hend, hW, hsame, ce, hce, hO1, hO2⟩ := vz_ctor X₁ hexec htr hx0 (own := own) (cls := cls) (names := names) (ic := ic) hown' hcls hnames h hfX hkX hcellA (by rw [hhp, hT]; exact Nat.le_refl _) (msg := .ref sa) rfl
    (g := { method := m, pc := pc + 6, locals := ls, stack := .ref sa :: .ref T.heap.size :: .ref T.heap.size :: rest, locked := none }) rfl hsize rfl rfl (rest := rest) rfl
    (by rw [hb]; exact d6) (by rw [hb]; exact d9) hout hRframes (by simp only [List.map_cons, List.sum_cons, hcat]; omega) hlocks
  obtain ⟨f1, f2⟩ := vx_frame hsame
  rw [hhp] at f1 f2
  have hWs : s.WarmedH U.vm := State.WarmedH.trans hW0 hW
  have hcl : s.vm.findClass cls = some ce.cls := by
    have h9 := hO1
    rw [hvm] at h9
    exact h9
  have hall : s.sameButNew ({ U with vm := s.vm } : State) locs mc ms := by
    subst hA
    obtain ⟨e1, e2⟩ := hsame
    rw [State.setFrames_setFrames] at e1
    have h2 : (T.setVm s.vm).sameButNew ({ U with vm := s.vm } : State) [] (0 + 1) (0 + 6) := ⟨e1, e2⟩
    have h3 := X.same.trans h2
    rw [List.append_nil] at h3
    exact h3.mono hc hs
  refine ⟨U, ?_, .threw T.heap.size, hrun, hend, Or.inr ⟨T.heap.size, rfl, cls, ce, locs, hx U hWs.alike f1 (fun q hq => f2 q hq (fun z hz => nomatch hz)), hce, hO2, hcl, hWs, hall, hf⟩⟩
  refine st1 _ ?_
  show Steps p.tables e below (T1.setTop { method := m, pc := pc + 3, locals := ls, stack := .ref T.heap.size :: rest, locked := none }) _
  jvm_step X₁.here [X₁.here.top, hexec, d3', Value.category]
  exact X₁.ldcString hexec (own := own) (text := text) (index := is) (a := sa) hown' hstr'.1 hstr'.2
    (g := { method := m, pc := pc + 4, locals := ls, stack := .ref T.heap.size :: .ref T.heap.size :: rest, locked := none }) rfl d4' _ hsteps
theorem vz_throwSW {p : Program} {l : Launch} {e : Env} {R : Room} {s : State} {m : MethodId} {args : Array Value} {below : List Frame} {meth : Method} {c : Code} {H : Heap} {locs : List Loc} {cells slots : Nat} {Qc : Array Value → State → Outcome → State → Prop} {XC : String → State → State → Prop} {free : Addr → Prop} {ls : Array Slot} {rest : List Value} {cc : ByteArray} {pc : Nat} (hexec : p.tables.exec = Jvm.exec) (hb : c.code = cc) (hl : l.stackTraces = false) {own cls text : String} {names : List String} {ik is ic ix mc ms sa : Nat} {rx : ByteArray} (hx0 : vz_on ix rx) {A : Nat → Prop}
    (hown : s.vm.findClass own = some m.cls) (hcls : Bundle.fit cls = true) (hnames : ∀ n ∈ names, Bundle.fit n = true)
    (hk : (Cond.classLink own ik cls).before args s = true) (hini : (Cond.initialized cls).before args s = true) (hstr : vk_R own is text sa s) (hat : ∀ w ∈ vz_atS own ic cls ix rx names, w.before args s = true)
    (hgood : ∀ w ∈ Cond.classLink own ik cls :: Cond.initialized cls :: vz_atS own ic cls ix rx names, vx_ot w = true)
    (hU : vx_Zq Bundle.tN "UNASSIGNED_STACK" Bundle.steD A s s.heap) (hN : vx_Zq Bundle.tN "SUPPRESSED_SENTINEL" Bundle.listD A s s.heap) (hS : va_S A s.heap H locs) (hsize : ls.size = c.maxLocals)
    (d0 : decode cc pc = .ok (.new ik, 3)) (d3 : decode cc (pc + 3) = .ok (.dup, 1)) (d4 : decode cc (pc + 4) = .ok (.ldc_w is, 3)) (d7 : decode cc (pc + 7) = .ok (.invokespecial ic, 3)) (d10 : decode cc (pc + 10) = .ok (.athrow, 1))
    (hout : ∀ x ∈ c.exceptionTable.toList, covers x (pc + 10) = false)
    (hRframes : names.length + 3 < R.frames) (hRlocals : (rest.map fun v => v.category).sum + (13 * (names.length + 1) + 43) ≤ R.locals) (hRcells : cells + 1 ≤ R.cells) (hRslots : slots + 6 ≤ R.slots) (hlocks : meth.locks = false)
    (hx : ∀ t : State, s.vm.Alike t.vm → H.size ≤ t.heap.size → (∀ q : Nat, q < H.size → t.heap[q]? = H[q]?) → XC cls s t)
    (hf : ∀ z ∈ locs, free z.base) (hc : cells + 1 ≤ mc) (hs : slots + 6 ≤ ms) :
    W p l e R s m args below meth c H locs cells slots (vx_MQ below Qc XC args s mc ms free) (F0 m pc ls rest) := by
  intro T hT X
  have htr : e.platform.stackTraces = false := (show e.platform.stackTraces = l.stackTraces by rw [X.admits.platform]).trans hl
  have Y := vx_rebase X (R' := { frames := R.frames, locals := R.locals, cells := 1, slots := 6 }) (Nat.le_refl _) (Nat.le_refl _) hRcells hRslots
  obtain ⟨s', hA⟩ : ∃ z, z = (T.setVm s.vm).setFrames (.invoking m args :: below) := ⟨_, rfl⟩
  rw [← hA] at Y
  have hvm : s'.vm = s.vm := by rw [hA]; rfl
  have hhp : s'.heap = H := by rw [hA]; exact hT
  have hW0 : s.WarmedH s'.vm := by rw [hvm]; exact State.WarmedH.refl s
  have hat' : ∀ w ∈ vz_atS own ic cls ix rx names, w.before args s' = true := fun w hw => vx_ot_at hW0 hvm.symm (hgood w (List.mem_cons_of_mem _ (List.mem_cons_of_mem _ hw))) (hat w hw)
  have hk' : (Cond.classLink own ik cls).before args s' = true := vx_ot_at hW0 hvm.symm (hgood _ List.mem_cons_self) hk
  have hini' : (Cond.initialized cls).before args s' = true := vx_ot_at hW0 hvm.symm (hgood _ (List.mem_cons_of_mem _ List.mem_cons_self)) hini
  have hU' : vx_Zq Bundle.tN "UNASSIGNED_STACK" Bundle.steD A s' s'.heap := by rw [hhp]; exact vx_Zq.moved hW0.alike (hU.kept hS.2.1)
  have hN' : vx_Zq Bundle.tN "SUPPRESSED_SENTINEL" Bundle.listD A s' s'.heap := by rw [hhp]; exact vx_Zq.moved hW0.alike (hN.kept hS.2.1)
  have h : ∀ w ∈ vz_atoms own ic cls ix rx names, w.before args s' = true := vx_own (L := vz_atoms own ic cls ix rx names) hat' (vx_isRefq hU'.1) (vx_isRefq hN'.1) hU'.2.word hN'.2.word
  have hown' : s'.vm.findClass own = some m.cls := by rw [hvm]; exact hown
  have hins : (Cond.instantiable cls 6).before args s' = true := h _ (vz_mem (List.mem_append_left _ (List.mem_append_left _ (List.mem_append_left _ (List.mem_cons_of_mem _ List.mem_cons_self)))))
  obtain ⟨vm₁, cX, kX, hfX, hkX, -, -, X₁, st1⟩ := Y.newCold hexec (own := own) (C := cls) (index := ik) (n := 6) hown' hk' hins hini'
    (g := F0 m pc ls rest) rfl (by rw [hb]; exact d0) (Nat.le_refl _) (Nat.le_refl _)
  generalize hT1 : (T.setVm vm₁).pushCell { cls := cX, slots := kX.instanceTypes.map defaultValue, vm := .none } = T1 at X₁ st1
  have hcat : (Value.ref T.heap.size).category = 1 := rfl
  have hcellA : T1.heap[T.heap.size]? = some (freshCell cX kX) := by rw [← hT1]; exact State.heap_pushCell_size _ _
  have d3' : decode c.code (pc + 3) = .ok (.dup, 1) := by rw [hb]; exact d3
  have d4' : decode c.code (pc + 4) = .ok (.ldc_w is, 3) := by rw [hb]; exact d4
  have hstr' : vk_R own is text sa s' := vk_R.warm hW0 hstr
  obtain ⟨U, hsteps, hrun, hend, hW, hsame, ce, hce, hO1, hO2⟩ := vz_ctor X₁ hexec htr hx0 (own := own) (cls := cls) (names := names) (ic := ic) hown' hcls hnames h hfX hkX hcellA (by rw [hhp, hT]; exact Nat.le_refl _) (msg := .ref sa) rfl
    (g := { method := m, pc := pc + 7, locals := ls, stack := .ref sa :: .ref T.heap.size :: .ref T.heap.size :: rest, locked := none }) rfl hsize rfl rfl (rest := rest) rfl
    (by rw [hb]; exact d7) (by rw [hb]; exact d10) hout hRframes (by simp only [List.map_cons, List.sum_cons, hcat]; omega) hlocks
  obtain ⟨f1, f2⟩ := vx_frame hsame
  rw [hhp] at f1 f2
  have hWs : s.WarmedH U.vm := State.WarmedH.trans hW0 hW
  have hcl : s.vm.findClass cls = some ce.cls := by
    have h9 := hO1
    rw [hvm] at h9
    exact h9
  have hall : s.sameButNew ({ U with vm := s.vm } : State) locs mc ms := by
    subst hA
    obtain ⟨e1, e2⟩ := hsame
    rw [State.setFrames_setFrames] at e1
    have h2 : (T.setVm s.vm).sameButNew ({ U with vm := s.vm } : State) [] (0 + 1) (0 + 6) := ⟨e1, e2⟩
    have h3 := X.same.trans h2
    rw [List.append_nil] at h3
    exact h3.mono hc hs
  refine ⟨U, ?_, .threw T.heap.size, hrun, hend, Or.inr ⟨T.heap.size, rfl, cls, ce, locs, hx U hWs.alike f1 (fun q hq => f2 q hq (fun z hz => nomatch hz)), hce, hO2, hcl, hWs, hall, hf⟩⟩
  refine st1 _ ?_
  show Steps p.tables e below (T1.setTop { method := m, pc := pc + 3, locals := ls, stack := .ref T.heap.size :: rest, locked := none }) _
  jvm_step X₁.here [X₁.here.top, hexec, d3', Value.category]
  exact X₁.ldcStringW hexec (own := own) (text := text) (index := is) (a := sa) hown' hstr'.1 hstr'.2
    (g := { method := m, pc := pc + 4, locals := ls, stack := .ref T.heap.size :: .ref T.heap.size :: rest, locked := none }) rfl d4' _ hsteps
abbrev cNSE : ByteArray := prog_33_method_4_code
theorem nse_0 : decode cNSE 0 = .ok (.aload_n 0, 1) := by decide +kernel
theorem nse_1 : decode cNSE 1 = .ok (.aload_n 1, 1) := by decide +kernel
theorem nse_2 : decode cNSE 2 = .ok (.invokespecial 13, 3) := by decide +kernel
theorem nse_5 : decode cNSE 5 = .ok (.return_, 1) := by decide +kernel
theorem mw_throw4 {M : mM} {bc bs : Nat} {pc pc' : Nat} {L : List (Nat × mV)} {S : List mV} {g : mG} {d : mD} {Q : mQ} {ik is ic i : Nat} {text : String} (d0 : decode (mC M) pc = .ok (.new ik, 3)) (d3 : decode (mC M) (pc + 3) = .ok (.dup, 1)) (d4 : decode (mC M) (pc + 4) = .ok (.ldc is, 2)) (d6 : decode (mC M) (pc + 6) = .ok (.invokespecial ic, 3)) (d9 : decode (mC M) (pc + 9) = .ok (.athrow, 1)) (hk : Cond.classLink (mOw M) ik (XN 4) ∈ BIG) (hini : Cond.initialized (XN 4) ∈ BIG) (hst : STl[i]? = some (mOw M, is, text)) (hat : ∀ w ∈ vz_atS (mOw M) ic (XN 4) 13 cNSE NMS, w ∈ BIG ∨ w ∈ NW) (hgood : ∀ w ∈ Cond.classLink (mOw M) ik (XN 4) :: Cond.initialized (XN 4) :: vz_atS (mOw M) ic (XN 4) 13 cNSE NMS, vx_ot w = true) (hH : mH M = []) (hfr : 5 < mFr M) (hlo : 100 ≤ mLo M) (hb1 : 1 ≤ bc) (hb6 : 6 ≤ bs) (hcat : (S.map catV).sum ≤ 8) (q : Q (.inr 4) g d) : MW M bc bs pc L S g d Q := by
  intro p l e s m args below meth c H locs cells slots X φ E ls hC hS hR hE hL hO hl hw hc hs
  obtain ⟨hx, hb, hml, hown, hts, hK, hT, hr, hlk, hnm, htb, hfl⟩ := id hC
  have hcat2 : ((S.map (rv X φ)).map fun v => v.category).sum ≤ 8 := by
    rw [List.map_map, show ((fun v : Value => v.category) ∘ rv X φ) = catV from funext fun v => cat_rv X φ v]
    exact hcat
  exact vz_throwS (A := xA0 X) (names := NMS) hx hb hfl ⟨nse_0, nse_1, nse_2, nse_5⟩ hown (by decide +kernel) (by decide +kernel) (hts _ hk) (hts _ hini) (hT.2.2.2.2.1 i _ hst) (fun w hw => (hat w hw).elim (hts _) (fun h => hT.nw h)) hgood hT.1 hT.2.1 hS (hl.1.trans hml.symm) d0 d3 d4 d6 d9 (fun x hx9 => by rw [htb, hH] at hx9; cases hx9) hfr (by show _ ≤ mLo M; have : NMS.length = 2 := rfl; omega) (by show _ ≤ mCe M; omega) (by show _ ≤ mSl M; omega) hlk
    (fun t hA hz hq => ⟨⟨4, g, d, φ, q, rfl, hE, hR.keep hq⟩, Nat.le_trans hS.1 hz, fun z h1 h2 => by rw [hq z (Nat.lt_of_lt_of_le h1 hS.1)]; exact hS.2.1 z h1 h2⟩) hS.2.2 (by omega) (by omega)
theorem mw_throw4W {M : mM} {bc bs : Nat} {pc pc' : Nat} {L : List (Nat × mV)} {S : List mV} {g : mG} {d : mD} {Q : mQ} {ik is ic i : Nat} {text : String} (d0 : decode (mC M) pc = .ok (.new ik, 3)) (d3 : decode (mC M) (pc + 3) = .ok (.dup, 1)) (d4 : decode (mC M) (pc + 4) = .ok (.ldc_w is, 3)) (d6 : decode (mC M) (pc + 7) = .ok (.invokespecial ic, 3)) (d9 : decode (mC M) (pc + 10) = .ok (.athrow, 1)) (hk : Cond.classLink (mOw M) ik (XN 4) ∈ BIG) (hini : Cond.initialized (XN 4) ∈ BIG) (hst : STl[i]? = some (mOw M, is, text)) (hat : ∀ w ∈ vz_atS (mOw M) ic (XN 4) 13 cNSE NMS, w ∈ BIG ∨ w ∈ NW) (hgood : ∀ w ∈ Cond.classLink (mOw M) ik (XN 4) :: Cond.initialized (XN 4) :: vz_atS (mOw M) ic (XN 4) 13 cNSE NMS, vx_ot w = true) (hH : mH M = []) (hfr : 5 < mFr M) (hlo : 100 ≤ mLo M) (hb1 : 1 ≤ bc) (hb6 : 6 ≤ bs) (hcat : (S.map catV).sum ≤ 8) (q : Q (.inr 4) g d) : MW M bc bs pc L S g d Q := by
  intro p l e s m args below meth c H locs cells slots X φ E ls hC hS hR hE hL hO hl hw hc hs
  obtain ⟨hx, hb, hml, hown, hts, hK, hT, hr, hlk, hnm, htb, hfl⟩ := id hC
  have hcat2 : ((S.map (rv X φ)).map fun v => v.category).sum ≤ 8 := by
    rw [List.map_map, show ((fun v : Value => v.category) ∘ rv X φ) = catV from funext fun v => cat_rv X φ v]
    exact hcat
  exact vz_throwSW (A := xA0 X) (names := NMS) hx hb hfl ⟨nse_0, nse_1, nse_2, nse_5⟩ hown (by decide +kernel) (by decide +kernel) (hts _ hk) (hts _ hini) (hT.2.2.2.2.1 i _ hst) (fun w hw => (hat w hw).elim (hts _) (fun h => hT.nw h)) hgood hT.1 hT.2.1 hS (hl.1.trans hml.symm) d0 d3 d4 d6 d9 (fun x hx9 => by rw [htb, hH] at hx9; cases hx9) hfr (by show _ ≤ mLo M; have : NMS.length = 2 := rfl; omega) (by show _ ≤ mCe M; omega) (by show _ ≤ mSl M; omega) hlk
    (fun t hA hz hq => ⟨⟨4, g, d, φ, q, rfl, hE, hR.keep hq⟩, Nat.le_trans hS.1 hz, fun z h1 h2 => by rw [hq z (Nat.lt_of_lt_of_le h1 hS.1)]; exact hS.2.1 z h1 h2⟩) hS.2.2 (by omega) (by omega)
