/-! THE SMALL MACHINE: the cells of the class and of the reference as rows of plain numbers, at addresses that are plain numbers; its judgement MW stands over the kit's W. -/
abbrev mV : Type := Nat × Int
abbrev mR : Type := Int → Int → Int
abbrev mG : Type := Int × Int × mR
abbrev mD : Type := Int → Int → Int
abbrev mO : Type := Int ⊕ Nat
abbrev mQ : Type := mO → mG → mD → Prop
def iI (a : Int) : Prop := -2147483648 ≤ a ∧ a ≤ 2147483647
def iL (a : Int) : Prop := -9223372036854775808 ≤ a ∧ a ≤ 9223372036854775807
abbrev vI (x : Int) : mV := (0, x)
abbrev vR (x : Int) : mV := (1, x)
abbrev vL (x : Int) : mV := (2, x)
abbrev vD (x : Int) : mV := (3, x)
def LK (a : Int) : Nat := LKl.getD (lIx a) 200
def LN (a : Int) : Int := LNl.getD (lIx a) 0
def NF (c : Nat) : Nat := (FTl.getD c []).length
def RCk (k : Nat) : Nat := match k with
  | 101 => 1
  | 102 => 2
  | 103 => 3
  | 104 => 4
  | 105 => 9
  | _ => 0
def RC (a j : Int) : Nat := if a = 100000 ∧ j = -2 then 9 else if LK a < 100 then (FTl.getD (LK a) []).getD j.toNat 0 else RCk (LK a)
def okR (c : Nat) (x : Int) : Prop := match c with
  | 0 => iI x
  | 1 => 0 ≤ x ∧ x ≤ 65535
  | 2 => 0 ≤ x ∧ x ≤ 1
  | 3 => iL x
  | 4 => 0 ≤ x
  | _ => True
abbrev hX : Type := Nat × va_G × (Nat → ClassId) × (Nat → Nat) × (Nat → Nat) × Nat × (Int → Int)
abbrev xB (X : hX) : Nat := X.1
abbrev xD (X : hX) : va_G := X.2.1
abbrev xA (X : hX) : Nat → ClassId := X.2.2.1
abbrev xK (X : hX) : Nat → Nat := X.2.2.2.1
abbrev xV (X : hX) : Nat → Nat := X.2.2.2.2.1
abbrev xS (X : hX) : Nat := X.2.2.2.2.2.1
abbrev xC (X : hX) : Int → Int := X.2.2.2.2.2.2
def rv (X : hX) (φ : Nat → Nat) (v : mV) : Value := match v.1 with
  | 0 => .int (Int32.ofInt v.2)
  | 1 => if v.2 < 0 then .null else .ref (φ v.2.toNat)
  | 2 => .long (Int64.ofInt v.2)
  | 3 => .double (UInt64.ofNat v.2.toNat)
  | 5 => .ref (xS X)
  | 7 => if v.2 < 0 then .null else .ref v.2.toNat
  | 8 => .ref (xV X v.2.toNat)
  | _ => .ref (xK X v.2.toNat)
def okv (n : Int) (v : mV) : Prop := match v.1 with
  | 0 => iI v.2
  | 1 => v.2 < n
  | 2 => iL v.2
  | 3 => 0 ≤ v.2
  | 5 => True
  | 7 => True
  | 8 => 0 ≤ v.2 ∧ v.2 < 32
  | _ => 0 ≤ v.2 ∧ v.2 < 32
def fvl (X : hX) (φ : Nat → Nat) (g : mG) (d : mD) (a : Int) (j : Nat) : Value := if RC a j = 9 then rv X φ (1, g.2.2 a j) else .int (Int32.ofInt (d a j))
def wE (X : hX) (φ : Nat → Nat) (g : mG) (d : mD) (a : Int) : va_E :=
  if LK a < 100 then .inr (LK a, (List.range (NF (LK a))).map (fvl X φ g d a))
  else if LK a < 103 then .inl (xA X (LK a), (LN a).toNat, .inl (fun k => Int32.ofInt (d a k)))
  else if LK a = 103 then .inl (xA X 103, (LN a).toNat, .inr (.inl (fun k => Int64.ofInt (d a k))))
  else if LK a = 104 then .inl (xA X 104, (LN a).toNat, .inr (.inr (.inr (.inl (fun k => UInt64.ofNat (d a k).toNat)))))
  else .inl (xA X 105, (LN a).toNat, .inr (.inr (.inr (.inr (fun k => if g.2.2 a k < 0 then none else some (φ (g.2.2 a k).toNat))))))
/-- the law's own array, where there is one: the script's row says at -3 that it is there, at -2 where; its row is FGN -/
def fgL (X : hX) (d : mD) : va_W := if xC X (-3) = 31 then [((xC X (-2)).toNat, .inl (xA X 100, 31, .inl (fun k => Int32.ofInt (d FGN k))))] else []
def wM (X : hX) (φ : Nat → Nat) (g : mG) (d : mD) : va_W := (List.range g.2.1.toNat).map (fun a => (φ a, wE X φ g d (a : Int)))
def wL (X : hX) (φ : Nat → Nat) (g : mG) (d : mD) : va_W := wM X φ g d ++ fgL X d
def GP (nc : Int) (r : mR) : Prop := (∀ q ∈ SPl, q.1 < nc → r q.1 q.2.1 = q.2.2) ∧ ∀ k : Int, 0 ≤ k → 65 + 46 * k + 46 ≤ nc → ∀ q ∈ SPd, r (65 + 46 * k + q.1) q.2.1 = 65 + 46 * k + q.2.2
def TY (g : mG) (d : mD) : Prop := 0 ≤ g.1 ∧ g.1 ≤ g.2.1 ∧ g.2.1 ≤ 479 ∧ (∀ a j, okR (RC a j) (d a j)) ∧ (∀ a j, g.2.1 ≤ a → (a ≠ SCR ∧ a ≠ FGN) → d a j = 0) ∧ (∀ a j, g.2.1 ≤ a → g.2.2 a j = -1) ∧ (∀ a j, -1 ≤ g.2.2 a j ∧ g.2.2 a j < g.2.1) ∧ GP g.1 g.2.2
def RP (X : hX) (φ : Nat → Nat) (g : mG) (d : mD) (H : Heap) : Prop := va_P (xD X) mCls (wL X φ g d) H ∧ va_D (fun q => xB X ≤ q) (wL X φ g d) ∧ TY g d ∧ d SCR = xC X
def TYS (X : hX) : List (ClassId × FieldType) := [(xA X 100, .int), (xA X 101, .char), (xA X 102, .boolean), (xA X 103, .long), (xA X 104, .int), (xA X 105, .object "TollClock$Docket")]
def xt (φ φ' : Nat → Nat) (n : Int) : Prop := ∀ k : Nat, (k : Int) < n → φ' k = φ k
theorem xt.rf {φ : Nat → Nat} {n : Int} : xt φ φ n := fun _ _ => rfl
theorem xt.tr {φ φ' φ'' : Nat → Nat} {n n' : Int} (h : xt φ φ' n) (h' : xt φ' φ'' n') (hn : n ≤ n') : xt φ φ'' n := fun k hk => (h' k (by omega)).trans (h k hk)
theorem xt_val {φ φ' : Nat → Nat} {n : Int} (h : xt φ φ' n) (X : hX) {v : mV} (hv : okv n v) : rv X φ' v = rv X φ v := by
  obtain ⟨t, x⟩ := v
  match t, hv with
  | 0, _ => rfl
  | 1, hv =>
    show (if x < 0 then Value.null else .ref (φ' x.toNat)) = (if x < 0 then Value.null else .ref (φ x.toNat))
    by_cases h0 : x < 0
    · simp [h0]
    · simp only [h0, if_false]
      rw [h x.toNat (by have : x < n := hv; omega)]
  | 2, _ => rfl
  | 3, _ => rfl
  | 4, _ => rfl
  | 5, _ => rfl
  | 6, _ => rfl
  | 7, _ => rfl
  | 8, _ => rfl
  | t + 9, _ => rfl
-- numbers
theorem i_ok {a : Int} (h : iI a) : (Int32.ofInt a).toInt = a := Int32.toInt_ofInt_of_le h.1 (by have := h.2; omega)
theorem i_lt {a b : Int} (ha : iI a) (hb : iI b) : Int32.ofInt a < Int32.ofInt b ↔ a < b := by rw [Int32.lt_iff_toInt_lt, i_ok ha, i_ok hb]
theorem i_le {a b : Int} (ha : iI a) (hb : iI b) : Int32.ofInt a ≤ Int32.ofInt b ↔ a ≤ b := by rw [Int32.le_iff_toInt_le, i_ok ha, i_ok hb]
theorem i_eq {a b : Int} (ha : iI a) (hb : iI b) : Int32.ofInt a = Int32.ofInt b ↔ a = b := by
  constructor
  · intro h
    have := congrArg Int32.toInt h
    rwa [i_ok ha, i_ok hb] at this
  · intro h
    rw [h]
theorem i_0 : iI 0 := by unfold iI; omega
theorem i_idx {i n : Int} (h : 0 ≤ i ∧ i < n) (hi : iI i) : vp_in (Int32.ofInt i) n.toNat ∧ (Int32.ofInt i).toNatClampNeg = i.toNat := by
  have e : (Int32.ofInt i).toNatClampNeg = i.toNat := by
    show (Int32.ofInt i).toInt.toNat = i.toNat
    rw [i_ok hi]
  refine ⟨?_, e⟩
  intro h2
  rcases h2 with h2 | h2
  · have h3 : Int32.ofInt i < Int32.ofInt 0 := h2
    rw [i_lt hi i_0] at h3
    omega
  · rw [e] at h2
    omega
-- what a method is: its name, code, locals, class, answer, room (frames, words, cells, slots), the cells that must stand whole, its table
abbrev mM : Type := MethodName × ByteArray × Nat × String × Option FieldType × (Nat × Nat × Nat × Nat) × Int × List (Nat × Nat × Nat × Nat)
abbrev mY (M : mM) : MethodName := M.1
abbrev mC (M : mM) : ByteArray := M.2.1
abbrev mN (M : mM) : Nat := M.2.2.1
abbrev mOw (M : mM) : String := M.2.2.2.1
abbrev mRt (M : mM) : Option FieldType := M.2.2.2.2.1
abbrev mFr (M : mM) : Nat := M.2.2.2.2.2.1.1
abbrev mLo (M : mM) : Nat := M.2.2.2.2.2.1.2.1
abbrev mCe (M : mM) : Nat := M.2.2.2.2.2.1.2.2.1
abbrev mSl (M : mM) : Nat := M.2.2.2.2.2.1.2.2.2
abbrev mW (M : mM) : Int := M.2.2.2.2.2.2.1
abbrev mH (M : mM) : List (Nat × Nat × Nat × Nat) := M.2.2.2.2.2.2.2
abbrev mRm (M : mM) : Room := { frames := mFr M, cells := mCe M, slots := mSl M, locals := mLo M }
def BIG : List Cond := lw_tbl.filter goodWord
def mHd (M : mM) : Cond := match mH M with
  | [] => .code (mY M) (mC M) (mN M) (mRt M)
  | h :: t => .codeWith (mY M) (mC M) (mN M) (mRt M) (h :: t)
def mWs (M : mM) : List Cond := mHd M :: BIG
def nw : Cond → Bool
  | .fieldLinkNest .. => true
  | .methodLinkNest .. => true
  | .castable .. => true
  | .declares .. => true
  | _ => false
def NW : List Cond := lw_tbl.filter nw
theorem nw_on {w : Cond} (h : nw w = true) : w.onTables = true := by cases w <;> first | rfl | (simp [nw] at h)
theorem nw_warm {w : Cond} (h : nw w = true) {s U : State} (hW : s.WarmedH U.vm) (hZ : va_Nw w s) : va_Nw w U := by
  cases w <;> first | exact va_Nw.warmF hW hZ | exact va_Nw.warmM hW hZ | exact va_Nw.warmC hW hZ | exact va_Nw.warmD hW hZ | (simp [nw] at h)
theorem NW_on {w : Cond} (h : w ∈ NW) : w.onTables = true := nw_on (List.mem_filter.mp h).2
def xA0 (X : hX) : Nat → Prop := fun q => xB X ≤ q
def XN (k : Nat) : String := match k with
  | 1 => "java/lang/IllegalStateException"
  | 2 => "java/lang/IllegalArgumentException"
  | 3 => "java/lang/IndexOutOfBoundsException"
  | 4 => "java/util/NoSuchElementException"
  | 5 => "java/lang/UnsupportedOperationException"
  | _ => "java/lang/ArithmeticException"
def ST (X : hX) (s : State) (H : Heap) : Prop :=
  vx_Zq Bundle.tN "UNASSIGNED_STACK" Bundle.steD (xA0 X) s H ∧ vx_Zq Bundle.tN "SUPPRESSED_SENTINEL" Bundle.listD (xA0 X) s H ∧ va_Z "java/lang/String" "COMPACT_STRINGS" "Z" (.int 1) (xA0 X) s H ∧
  vk_S 32 STlen STbyt (xK X) (xV X) (xA0 X) s H ∧ (∀ (i : Nat) (q : String × Nat × String), STl[i]? = some q → vk_R q.1 q.2.1 q.2.2 (xK X i) s) ∧
  va_X (xS X) (xC X (-1)).toNat (fun j => Int32.ofInt (xC X j)) s H ∧ xS X < xB X ∧ xB X ≤ H.size ∧ (∀ i j : Nat, i < 5 → j < 5 → i ≠ j → va_Nc (XN (i + 1)) (XN (j + 1)) s) ∧ va_AO "TollClock$Docket" s ∧ va_Zq "jdk/internal/util/Preconditions" "SIOOBE_FORMATTER" "Ljava/util/function/BiFunction;" (xA0 X) s H ∧ ∀ w ∈ NW, va_Nw w s
theorem ST.kept {X : hX} {s : State} {H H1 : Heap} (h : ST X s H) (hq : ∀ a : Nat, a < H.size → ¬ xA0 X a → H1[a]? = H[a]?) (hz : H.size ≤ H1.size) : ST X s H1 := by
  obtain ⟨h1, h2, h3, h4, h5, h6, h7, h8, h9, h11, h12, h10⟩ := h
  exact ⟨h1.kept hq, h2.kept hq, h3.kept hq, h4.kept hq, h5, h6.kept (hq _ (Nat.lt_of_lt_of_le h7 h8) (Nat.not_le.mpr h7)), h7, Nat.le_trans h8 hz, h9, h11, h12.kept hq, h10⟩
theorem ST.same {X : hX} {s U : State} {H : Heap} (hv : U.vm = s.vm) (h : ST X s H) : ST X U H := by
  obtain ⟨h1, h2, h3, h4, h5, h6, h7, h8, h9, h11, h12, h10⟩ := h
  have hA : s.vm.Alike U.vm := by rw [hv]; exact Vm.Alike.refl _
  exact ⟨h1.moved hA, h2.moved hA, h3.moved hA, h4.moved hA, fun i q hq => vk_R.same hv (h5 i q hq), h6.moved hA, h7, h8, fun i j hi hj hij => (h9 i j hi hj hij).moved hA, h11.moved hA, h12.moved hA, fun w hw => va_Nw.same (NW_on hw) hv.symm (h10 w hw)⟩
theorem ST.warm {X : hX} {s U : State} {H : Heap} (hW : s.WarmedH U.vm) (h : ST X s H) : ST X U H := by
  obtain ⟨h1, h2, h3, h4, h5, h6, h7, h8, h9, h11, h12, h10⟩ := h
  have hA : s.vm.Alike U.vm := hW.alike
  exact ⟨h1.moved hA, h2.moved hA, h3.moved hA, h4.moved hA, fun i q hq => vk_R.warm hW (h5 i q hq), h6.moved hA, h7, h8, fun i j hi hj hij => (h9 i j hi hj hij).moved hA, h11.moved hA, h12.moved hA, fun w hw => nw_warm (List.mem_filter.mp hw).2 hW (h10 w hw)⟩
theorem ST.nw {X : hX} {s : State} {H : Heap} (h : ST X s H) {w : Cond} (hw : w ∈ NW) {args : Array Value} : w.before args s = true := va_Nw.use (NW_on hw) (h.2.2.2.2.2.2.2.2.2.2.2 w hw)
abbrev KX (X : hX) (s : State) : Prop := va_K (xD X) mCls (TYS X) s
def HC (M : mM) (X : hX) (p : Program) (l : Launch) (s : State) (m : MethodId) (args : Array Value) (meth : Method) (c : Code) : Prop :=
  p.tables.exec = Jvm.exec ∧ c.code = mC M ∧ c.maxLocals = mN M ∧ s.vm.findClass (mOw M) = some m.cls ∧ (∀ w ∈ BIG, w.before args s = true) ∧ KX X s ∧ ST X s s.heap ∧ meth.sig.returnType = mRt M ∧ meth.locks = false ∧ meth.name = (mY M).name ∧ c.exceptionTable.toList = tableOf (mH M) ∧ l.stackTraces = false
def oks (n : Int) : List mV → Prop
  | [] => True
  | v :: S => okv n v ∧ oks n S
def okl (n : Int) : List (Nat × mV) → Prop
  | [] => True
  | q :: L => okv n q.2 ∧ okl n L
def rvl (X : hX) (φ : Nat → Nat) (L : List (Nat × mV)) : List (Nat × Value) := L.map (fun q => (q.1, rv X φ q.2))
def rtg (r : Option FieldType) : Nat := match r with
  | none => 4
  | some .double => 3
  | some .long => 2
  | some (.object n) => if n = "java/lang/String" then 6 else 1
  | some (.array _) => 1
  | _ => 0
def rvo (r : Option FieldType) (X : hX) (φ : Nat → Nat) (v : Int) : Option Value := if rtg r = 4 then none else some (rv X φ (rtg r, v))
/-- the entry's own: the addresses then, how many cells, how many whole -/
abbrev hE : Type := (Nat → Nat) × Int × Int
def eX (E : hE) (φ : Nat → Nat) (g : mG) : Prop := xt E.1 φ E.2.1 ∧ E.2.1 ≤ g.2.1 ∧ E.2.2 ≤ g.1
def QcO (X : hX) (E : hE) (M : mM) (Q : mQ) : Array Value → State → Outcome → State → Prop := fun _ st o t =>
  (∃ (v : Int) (g : mG) (d : mD) (φ : Nat → Nat), Q (.inl v) g d ∧ o = .returned (rvo (mRt M) X φ v) ∧ eX E φ g ∧ RP X φ g d t.heap ∧ okv g.2.1 (rtg (mRt M), v)) ∧ va_F (xA0 X) st t
def XcO (X : hX) (E : hE) (Q : mQ) : String → State → State → Prop := fun E9 st t =>
  (∃ (k : Nat) (g : mG) (d : mD) (φ : Nat → Nat), Q (.inr k) g d ∧ E9 = XN k ∧ eX E φ g ∧ RP X φ g d t.heap) ∧ va_F (xA0 X) st t
/-- the small machine's judgement: from this place in method M, with these locals, stack and cells, it comes to an end with Q -/
def MW (M : mM) (bc bs : Nat) (pc : Nat) (L : List (Nat × mV)) (S : List mV) (g : mG) (d : mD) (Q : mQ) : Prop :=
  ∀ (p : Program) (l : Launch) (e : Env) (s : State) (m : MethodId) (args : Array Value) (below : List Frame) (meth : Method) (c : Code) (H : Heap) (locs : List Loc) (cells slots : Nat) (X : hX) (φ : Nat → Nat) (E : hE) (ls : Array Slot),
    HC M X p l s m args meth c → va_S (xA0 X) s.heap H locs → RP X φ g d H → eX E φ g → okl g.2.1 L → oks g.2.1 S → lv_has ls (mN M) (rvl X φ L) → mW M ≤ g.1 → cells + bc ≤ mCe M → slots + bs ≤ mSl M →
    W p l e (mRm M) s m args below meth c H locs cells slots (vx_MQ below (QcO X E M Q) (XcO X E Q) args s (mCe M) (mSl M) (xA0 X)) (F0 m pc ls (S.map (rv X φ)))
def PB (M : mM) (X : hX) (φ : Nat → Nat) (A : List mV) (g : mG) (d : mD) (U : State) : Prop := KX X U ∧ ST X U U.heap ∧ RP X φ g d U.heap ∧ mW M ≤ g.1 ∧ oks g.2.1 A
/-- the contract of a method: from these arguments and cells it comes to an end with Q -/
def MM (M : mM) (A : List mV) (g : mG) (d : mD) (Q : mQ) : Prop :=
  ∀ (l : Launch) (X : hX) (φ : Nat → Nat), l.stackTraces = false →
    vx_Met l (mY M) (mWs M) (mRm M) (va_Pc (A.map (rv X φ)) (PB M X φ A g d)) (QcO X (φ, g.2.1, g.1) M Q) (XcO X (φ, g.2.1, g.1) Q) (mCe M) (mSl M) (xA0 X)
def catV (v : mV) : Nat := match v.1 with
  | 2 => 2
  | 3 => 2
  | _ => 1
theorem cat_rv (X : hX) (φ : Nat → Nat) (v : mV) : (rv X φ v).category = catV v := by
  obtain ⟨t, x⟩ := v
  match t with
  | 0 => rfl
  | 1 =>
    show (if x < 0 then Value.null else .ref (φ x.toNat)).category = 1
    split <;> rfl
  | 2 => rfl
  | 3 => rfl
  | 4 => rfl
  | 5 => rfl
  | 6 => rfl
  | 7 =>
    show (if x < 0 then Value.null else .ref x.toNat).category = 1
    split <;> rfl
  | 8 => rfl
  | t + 9 => rfl
def lA : Nat → List mV → List (Nat × mV)
  | _, [] => []
  | i, v :: A => (i, v) :: lA (i + 1) A
theorem lA_args (X : hX) (φ : Nat → Nat) : ∀ (A : List mV) (i : Nat), (∀ v ∈ A, catV v = 1) → lv_args i (A.map (rv X φ)) = rvl X φ (lA i A)
  | [], _, _ => rfl
  | v :: A, i, h => by
    have h1 : (rv X φ v).category = 1 := (cat_rv X φ v).trans (h v List.mem_cons_self)
    show (i, rv X φ v) :: lv_args (if (rv X φ v).category = 2 then i + 2 else i + 1) (A.map (rv X φ)) = (i, rv X φ v) :: rvl X φ (lA (i + 1) A)
    rw [h1]
    simp only [show ¬ (1 = 2) by decide, if_false]
    rw [lA_args X φ A (i + 1) (fun w hw => h w (List.mem_cons_of_mem _ hw))]
theorem okl_lA {n : Int} : ∀ (A : List mV) (i : Nat), oks n A → okl n (lA i A)
  | [], _, _ => trivial
  | _ :: A, i, h => ⟨h.1, okl_lA A (i + 1) h.2⟩
theorem lg_sl_len : ∀ (vs : List Value), (∀ v ∈ vs, v.category = 1) → (lg_sl vs).length = vs.length
  | [], _ => rfl
  | v :: vs, h => by
    have h1 := h v List.mem_cons_self
    have h2 := lg_sl_len vs (fun w hw => h w (List.mem_cons_of_mem _ hw))
    unfold lg_sl at h2 ⊢
    simp only [List.flatMap_cons, List.length_append, h2, h1, show ¬ (1 = 2) by decide, if_false, List.length_cons, List.length_nil]
    omega
/-- from the walk of a body to the contract -/
theorem MM_of {M : mM} {A : List mV} {g : mG} {d : mD} {Q : mQ} (hpl : plainName (mY M).cls = true) (how : mOw M = (mY M).cls) (hcat : ∀ v ∈ A, catV v = 1) (hlen : A.length ≤ mN M) (k : MW M (mCe M) (mSl M) 0 (lA 0 A) [] g d Q) : MM M A g d Q := by
  intro l X φ hfl
  have body : ∀ p e s m args below meth c s₁, BodyLoose p l (mY M) (headSpec (mWs M) (mRm M)) (mC M) (mN M) (mRt M) e s m args below meth c s₁ → c.maxLocals = mN M → c.exceptionTable.toList = tableOf (mH M) → va_Pc (A.map (rv X φ)) (PB M X φ A g d) args s →
      W p l e (headSpec (mWs M) (mRm M)).room s m args below meth c s.heap [] 0 0 (vx_MQ below (QcO X (φ, g.2.1, g.1) M Q) (XcO X (φ, g.2.1, g.1) Q) args s (mCe M) (mSl M) (xA0 X)) (entryFrame m args (mN M)) := by
    intro p e s m args below meth c s₁ B hml htb hv
    obtain ⟨rfl, hK, hT, hR, hw, hO⟩ := hv
    have hts := atoms_spec (ws := mWs M) B.pre
    have hown : s.vm.findClass (mOw M) = some m.cls := by rw [how]; exact findClass_of_methodNamed B.named
    have hnm : meth.name = (mY M).name := (name_of_methodNamed B.named B.method).1
    have hC : HC M X p l s m ((A.map (rv X φ)).toArray) meth c := ⟨B.exec, B.bytes, hml, hown, fun w h => hts w (List.mem_cons_of_mem _ h), hK, hT, B.returns, B.notSynchronized, hnm, htb, hfl⟩
    have hv1 : ∀ v ∈ A.map (rv X φ), v.category = 1 := by
      intro v hv
      obtain ⟨w, hw1, rfl⟩ := List.mem_map.mp hv
      rw [cat_rv]
      exact hcat w hw1
    have hl := lv_entry (A.map (rv X φ)) (n := mN M) (by rw [lg_sl_len _ hv1, List.length_map]; exact hlen)
    rw [lA_args X φ A 0 hcat] at hl
    rw [lg_entry_eq]
    exact k p l e s m _ below meth c s.heap [] 0 0 X φ (φ, g.2.1, g.1) _ hC va_S.rf hR ⟨xt.rf, Int.le_refl _, Int.le_refl _⟩ (okl_lA A 0 hO) trivial hl hw (by simp) (by simp)
  by_cases hH : mH M = []
  · refine vx_ofW (cc := mC M) (maxL := mN M) (ret := mRt M) hpl (ws' := BIG) (by unfold mWs mHd; rw [hH]) ?_
    intro p e s m args below meth c s₁ B hml htb hv
    exact body p e s m args below meth c s₁ B hml (by rw [hH]; exact List.eq_nil_iff_forall_not_mem.mpr (fun x hx => htb x hx)) hv
  · obtain ⟨h, t, hht⟩ := List.exists_cons_of_ne_nil hH
    have hhd : mHd M = Cond.codeWith (mY M) (mC M) (mN M) (mRt M) (mH M) := by unfold mHd; rw [hht]
    refine vx_ofWH (cc := mC M) (maxL := mN M) (ret := mRt M) (hh := mH M) hpl (ws' := BIG) (by unfold mWs; rw [hhd]) ?_
    intro p e s m args below meth c s₁ B hml hv
    refine body p e s m args below meth c s₁ B hml (vx_table (x := mY M) B (bytes := mC M) (maxL' := mN M) (ret' := mRt M) ?_) hv
    have hts := atoms_spec (ws := mWs M) B.pre
    have := hts (mHd M) List.mem_cons_self
    rwa [hhd] at this
-- looking up, putting
def lget (i : Nat) : List (Nat × mV) → Option mV
  | [] => none
  | (j, v) :: L => match Nat.beq j i with
    | true => some v
    | false => lget i L
theorem lget_mem {i : Nat} {v : mV} : ∀ {L : List (Nat × mV)}, lget i L = some v → (i, v) ∈ L
  | [], h => by cases h
  | (j, w) :: L, h => by
    unfold lget at h
    by_cases hj : j = i
    · subst hj
      simp only [Nat.beq_refl] at h
      cases h
      exact List.mem_cons_self
    · have : Nat.beq j i = false := by
        cases hb : Nat.beq j i
        · rfl
        · exact absurd (Nat.eq_of_beq_eq_true hb) hj
      simp only [this] at h
      exact List.mem_cons_of_mem _ (lget_mem h)
theorem okl_mem {n : Int} : ∀ {L : List (Nat × mV)} {q : Nat × mV}, okl n L → q ∈ L → okv n q.2
  | q :: L, _, h, hm => by
    rcases List.mem_cons.mp hm with rfl | hm
    · exact h.1
    · exact okl_mem h.2 hm
theorem okl_of {n : Int} : ∀ {L : List (Nat × mV)}, (∀ q ∈ L, okv n q.2) → okl n L
  | [], _ => trivial
  | q :: L, h => ⟨h q List.mem_cons_self, okl_of (fun z hz => h z (List.mem_cons_of_mem _ hz))⟩
theorem lget_at {X : hX} {φ : Nat → Nat} {ls : Array Slot} {n i : Nat} {v : mV} {L : List (Nat × mV)} (hl : lv_has ls n (rvl X φ L)) (h : lget i L = some v) : ls[i]? = some (.val (rv X φ v)) :=
  hl.2.2 (i, rv X φ v) (List.mem_map.mpr ⟨(i, v), lget_mem h, rfl⟩)
def lins (q : Nat × mV) : List (Nat × mV) → List (Nat × mV)
  | [] => [q]
  | z :: L => match Nat.blt z.1 q.1 with
    | true => z :: lins q L
    | false => q :: z :: L
def ldel (i : Nat) : List (Nat × mV) → List (Nat × mV)
  | [] => []
  | z :: L => match Nat.beq z.1 i || (Nat.beq (z.1 + 1) i && Nat.beq (catV z.2) 2) with
    | true => ldel i L
    | false => z :: ldel i L
def lput (i : Nat) (v : mV) (L : List (Nat × mV)) : List (Nat × mV) := lins (i, v) (ldel i L)
theorem lins_mem {q z : Nat × mV} : ∀ {L : List (Nat × mV)}, z ∈ lins q L → z = q ∨ z ∈ L
  | [], h => by
    rcases List.mem_cons.mp h with h | h
    · exact Or.inl h
    · cases h
  | y :: L, h => by
    unfold lins at h
    split at h
    · rcases List.mem_cons.mp h with h | h
      · exact Or.inr (by rw [h]; exact List.mem_cons_self)
      · rcases lins_mem h with h | h
        · exact Or.inl h
        · exact Or.inr (List.mem_cons_of_mem _ h)
    · rcases List.mem_cons.mp h with h | h
      · exact Or.inl h
      · exact Or.inr h
theorem ldel_mem {i : Nat} {z : Nat × mV} : ∀ {L : List (Nat × mV)}, z ∈ ldel i L → z ∈ L ∧ z.1 ≠ i ∧ ¬ (z.1 + 1 = i ∧ catV z.2 = 2)
  | y :: L, h => by
    unfold ldel at h
    split at h
    · obtain ⟨h1, h2⟩ := ldel_mem h
      exact ⟨List.mem_cons_of_mem _ h1, h2⟩
    · rename_i hb
      rcases List.mem_cons.mp h with rfl | h
      · refine ⟨List.mem_cons_self, fun e => ?_, fun e => ?_⟩
        · rw [e] at hb
          simp at hb
        · rw [e.1, e.2] at hb
          simp at hb
      · obtain ⟨h1, h2⟩ := ldel_mem h
        exact ⟨List.mem_cons_of_mem _ h1, h2⟩
theorem lput_mem {i : Nat} {v : mV} {L : List (Nat × mV)} {z : Nat × mV} (h : z ∈ lput i v L) : z = (i, v) ∨ (z ∈ L ∧ z.1 ≠ i ∧ ¬ (z.1 + 1 = i ∧ catV z.2 = 2)) := by
  rcases lins_mem h with h | h
  · exact Or.inl h
  · exact Or.inr (ldel_mem h)
theorem okl_put {n : Int} {i : Nat} {v : mV} {L : List (Nat × mV)} (h : okl n L) (hv : okv n v) : okl n (lput i v L) := okl_of fun q hq => by
  rcases lput_mem hq with rfl | ⟨h1, -⟩
  · exact hv
  · exact okl_mem h h1
theorem lput_has {X : hX} {φ : Nat → Nat} {ls : Array Slot} {n i : Nat} {v : mV} {L : List (Nat × mV)} (h : lv_has ls n ((i, rv X φ v) :: (rvl X φ L).filter (fun q => !(q.1 == i) && !(q.1 + 1 == i && q.2.category == 2)))) : lv_has ls n (rvl X φ (lput i v L)) := by
  refine ⟨h.1, h.2.1, fun q hq => ?_⟩
  obtain ⟨z, hz, rfl⟩ := List.mem_map.mp hq
  rcases lput_mem hz with rfl | ⟨h1, h2, h3⟩
  · exact h.2.2 _ List.mem_cons_self
  · refine h.2.2 _ (List.mem_cons_of_mem _ (List.mem_filter.mpr ⟨List.mem_map.mpr ⟨z, h1, rfl⟩, ?_⟩))
    have e1 : (z.1 == i) = false := by simpa using h2
    have e2 : (z.1 + 1 == i && (rv X φ z.2).category == 2) = false := by
      rw [cat_rv]
      cases hb : (z.1 + 1 == i && catV z.2 == 2)
      · rfl
      · simp at hb
        exact absurd hb h3
    show (!(z.1 == i) && !(z.1 + 1 == i && (rv X φ z.2).category == 2)) = true
    rw [e1, e2]
    rfl
def lsub (L' L : List (Nat × mV)) : Prop := ∀ q ∈ L', q ∈ L
def lpk (L : List (Nat × mV)) (ks : List Nat) : List (Nat × mV) := ks.filterMap (fun k => L[k]?)
