-- the world at the start
theorem tb_mem {w : Cond} (i : Nat) (h : tables_1[i]? = some w) : w ∈ lw_tbl := List.mem_append_right _ (List.mem_of_getElem? h)
def gvL : List Cond := flatC (Jvm.Cond.and given_1 narrow_1)
theorem gv_mem {args : Array Value} {s : State} (h : (Jvm.Cond.and given_1 narrow_1).before args s = true) {w : Cond} (i : Nat) (hi : gvL[i]? = some w) : w.before args s = true := flat_of_before _ h w (List.mem_of_getElem? hi)
def TW (args : Array Value) (s : State) : Prop := ∀ w ∈ lw_tbl, w.before args s = true
theorem TW.big {args : Array Value} {s : State} (h : TW args s) : ∀ w ∈ BIG, w.before args s = true := fun w hw => h w (List.mem_filter.mp hw).1
theorem st_cls {args : Array Value} {s : State} (h : TW args s) : ∃ D : va_G, ∀ (c : Nat) (q : vw_C), mCls[c]? = some q → u_Kn s q.1 q.2.1 q.2.2 (D.1 c) (D.2 c) := by
  have h0 : ∀ c : Nat, ∃ p : ClassId × (Nat → Nat), ∀ q : vw_C, mCls[c]? = some q → u_Kn s q.1 q.2.1 q.2.2 p.1 p.2 := by
    intro c
    match c with
    | 0 =>
      obtain ⟨cC, iS, hk⟩ := u_known (n := 3) h.big inB0 (h.big _ bw_79)
      exact ⟨(cC, iS), fun q e => by
        have e2 : ((RX0, TX0, 3) : vw_C) = q := Option.some.inj e
        subst e2
        exact hk⟩
    | 1 =>
      obtain ⟨cC, iS, hk⟩ := u_known (n := 8) h.big inB1 (h.big _ bw_211)
      exact ⟨(cC, iS), fun q e => by
        have e2 : ((RX1, TX1, 8) : vw_C) = q := Option.some.inj e
        subst e2
        exact hk⟩
    | 2 =>
      obtain ⟨cC, iS, hk⟩ := u_known (n := 12) h.big inB2 (h.big _ bw_121)
      exact ⟨(cC, iS), fun q e => by
        have e2 : ((RX2, TX2, 12) : vw_C) = q := Option.some.inj e
        subst e2
        exact hk⟩
    | 3 =>
      obtain ⟨cC, iS, hk⟩ := u_known (n := 6) h.big inB3 (h.big _ bw_53)
      exact ⟨(cC, iS), fun q e => by
        have e2 : ((RX3, TX3, 6) : vw_C) = q := Option.some.inj e
        subst e2
        exact hk⟩
    | 4 =>
      obtain ⟨cC, iS, hk⟩ := u_known (n := 6) h.big inB4 (h.big _ bw_296)
      exact ⟨(cC, iS), fun q e => by
        have e2 : ((RX4, TX4, 6) : vw_C) = q := Option.some.inj e
        subst e2
        exact hk⟩
    | 5 =>
      obtain ⟨cC, iS, hk⟩ := u_known (n := 3) h.big inB5 (h.big _ bw_59)
      exact ⟨(cC, iS), fun q e => by
        have e2 : ((RX5, TX5, 3) : vw_C) = q := Option.some.inj e
        subst e2
        exact hk⟩
    | 6 =>
      obtain ⟨cC, iS, hk⟩ := u_known (n := 6) h.big inB6 (h.big _ bw_322)
      exact ⟨(cC, iS), fun q e => by
        have e2 : ((RX6, TX6, 6) : vw_C) = q := Option.some.inj e
        subst e2
        exact hk⟩
    | 7 =>
      obtain ⟨cC, iS, hk⟩ := u_known (n := 3) h.big inB7 (h.big _ bw_99)
      exact ⟨(cC, iS), fun q e => by
        have e2 : ((RX7, TX7, 3) : vw_C) = q := Option.some.inj e
        subst e2
        exact hk⟩
    | 8 =>
      obtain ⟨cC, iS, hk⟩ := u_known (n := 5) h.big inB8 (h.big _ bw_180)
      exact ⟨(cC, iS), fun q e => by
        have e2 : ((RX8, TX8, 5) : vw_C) = q := Option.some.inj e
        subst e2
        exact hk⟩
    | 9 =>
      obtain ⟨cC, iS, hk⟩ := u_known (n := 2) h.big inB9 (h.big _ bw_37)
      exact ⟨(cC, iS), fun q e => by
        have e2 : ((RX9, TX9, 2) : vw_C) = q := Option.some.inj e
        subst e2
        exact hk⟩
    | 10 =>
      obtain ⟨cC, iS, hk⟩ := u_known (n := 5) h.big inB10 (h.big _ bw_274)
      exact ⟨(cC, iS), fun q e => by
        have e2 : ((RX10, TX10, 5) : vw_C) = q := Option.some.inj e
        subst e2
        exact hk⟩
    | 11 =>
      obtain ⟨cC, iS, hk⟩ := u_known (n := 13) h.big inB11 (h.big _ bw_29)
      exact ⟨(cC, iS), fun q e => by
        have e2 : ((RX11, TX11, 13) : vw_C) = q := Option.some.inj e
        subst e2
        exact hk⟩
    | k + 12 =>
      refine ⟨(0, fun _ => 0), fun q e => ?_⟩
      rw [List.getElem?_eq_none (show mCls.length ≤ k + 12 from Nat.le_add_left 12 k)] at e
      cases e
  obtain ⟨f, hf⟩ := Classical.axiomOfChoice h0
  exact ⟨(fun c => (f c).1, fun c => (f c).2), fun c q e => hf c q e⟩
theorem st_prim {args : Array Value} {s : State} (ty : FieldType) (h : (Cond.arrayClass ty).before args s = true) (hr : ∀ cA, s.vm.findClass ("[" ++ ty.toString) = some cA → va_RA s cA ty) : ∃ cA, ArrOfT s cA ty ∧ va_RA s cA ty := by
  obtain ⟨cA, kA, comp, h1, h2, h3⟩ := Cond.arrayClass_spec h
  exact ⟨cA, fun n z => ⟨(fun k h => by cases h), kA, h2, comp, h3⟩, hr cA h1⟩
theorem st_arr {args : Array Value} {s : State} (h : TW args s) : ∃ a : Nat → ClassId, ∀ (k : Nat) (q : ClassId × FieldType), ([(a 100, .int), (a 101, .char), (a 102, .boolean), (a 103, .long), (a 104, .int), (a 105, .object "TollClock$Docket")] : List (ClassId × FieldType))[k]? = some q → ArrOfT s q.1 q.2 ∧ va_RA s q.1 q.2 := by
  obtain ⟨c0, h0⟩ := st_prim .int (h.big _ ac_I) (fun _ h => h)
  obtain ⟨c1, h1⟩ := st_prim .char (h.big _ ac_C) (fun _ h => h)
  obtain ⟨c2, h2⟩ := st_prim .boolean (h.big _ ac_Z) (fun _ h => h)
  obtain ⟨c3, h3⟩ := st_prim .long (h.big _ ac_J) (fun _ h => h)
  obtain ⟨c4, h4⟩ := st_prim .int (h.big _ ac_I) (fun _ h => h)
  have ho : (Cond.arrayOver (.object "TollClock$Docket")).before args s = true := h _ (tb_mem 272 (by decide +kernel))
  obtain ⟨comp, c5, k5, g1, g2, g3, g4, g5⟩ := Cond.arrayOver_spec ho
  have h5 : ArrOfT s c5 (.object "TollClock$Docket") ∧ va_RA s c5 (.object "TollClock$Docket") := ⟨fun n z => ⟨(fun k h => by cases h), k5, g3, comp, g4⟩, k5, comp, g3, g4, g1, g5⟩
  refine ⟨fun k => ([c0, c1, c2, c3, c4, c5] : List ClassId).getD (k - 100) c0, fun k q e => ?_⟩
  match k, e with
  | 0, e =>
    have e2 : ((c0, FieldType.int) : ClassId × FieldType) = q := Option.some.inj e
    subst e2
    exact h0
  | 1, e =>
    have e2 : ((c1, FieldType.char) : ClassId × FieldType) = q := Option.some.inj e
    subst e2
    exact h1
  | 2, e =>
    have e2 : ((c2, FieldType.boolean) : ClassId × FieldType) = q := Option.some.inj e
    subst e2
    exact h2
  | 3, e =>
    have e2 : ((c3, FieldType.long) : ClassId × FieldType) = q := Option.some.inj e
    subst e2
    exact h3
  | 4, e =>
    have e2 : ((c4, FieldType.int) : ClassId × FieldType) = q := Option.some.inj e
    subst e2
    exact h4
  | 5, e =>
    have e2 : ((c5, FieldType.object "TollClock$Docket") : ClassId × FieldType) = q := Option.some.inj e
    subst e2
    exact h5
  | k + 6, e =>
    rw [List.getElem?_eq_none (Nat.le_add_left 6 k)] at e
    cases e
-- the strings
def tmS (i : Nat) : Term := .string (STl.getD i ("", 0, "")).1 (STl.getD i ("", 0, "")).2.1
def stB : List Nat := [266, 276, 283, 292, 301, 310, 319, 239, 213, 730, 687, 490, 449, 704, 474, 505, 538, 395, 415, 575, 597, 614, 331, 348, 635, 666, 368, 95, 113, 138, 168, 196]
def stR : List Nat := [1078, 1079, 1080, 1081, 1082, 1083, 1084, 1054, 1049, 1428, 1406, 1271, 1247, 1411, 1267, 1283, 1313, 1218, 1222, 1330, 1339, 1378, 1172, 1181, 1388, 1393, 1186, 711, 724, 740, 756, 772]
theorem sc_1 : ∀ i, i < 32 → gvL[stB.getD i 0]? = some (.exactly (tmS i) "java/lang/String") := by decide +kernel
theorem sc_2 : ∀ i, i < 32 → gvL[stB.getD i 0 + 1]? = some (.eq (.field (tmS i) "java/lang/String" "coder" "B") (.int 0)) := by decide +kernel
theorem sc_3 : ∀ i, i < 32 → gvL[stB.getD i 0 + 2]? = some (.arrayOf (.field (tmS i) "java/lang/String" "value" "[B") .byte) := by decide +kernel
theorem sc_4 : ∀ i, i < 32 → gvL[stB.getD i 0 + 3]? = some (.eq (.length (.field (tmS i) "java/lang/String" "value" "[B")) (.int (Int32.ofNat (STlen.getD i 0)))) := by decide +kernel
theorem sc_5 : ∀ i, i < 32 → ∀ j, j < STlen.getD i 0 → gvL[stB.getD i 0 + 4 + j]? = some (.eq (.elem (.field (tmS i) "java/lang/String" "value" "[B") (.int (Int32.ofNat j))) (.int ((STbyt.getD i []).getD j 0))) := by decide +kernel
theorem sc_6 : ∀ i, i < 32 → tables_1[stR.getD i 0]? = some (.stringRef (STl.getD i ("", 0, "")).1 (STl.getD i ("", 0, "")).2.1 (STl.getD i ("", 0, "")).2.2) := by decide +kernel
theorem sc_7 : ∀ i, i < 32 → STlen.getD i 0 < 1000 := by decide +kernel
theorem sc_8 : ∀ i, i < 32 → ∀ j, j < 32 → i ≠ j → STlen.getD i 0 = STlen.getD j 0 → ¬ ∀ k, k < STlen.getD i 0 → (STbyt.getD i []).getD k 0 = (STbyt.getD j []).getD k 0 := by decide +kernel
theorem OF_same {o n d : String} {a v w : Nat} {A : Nat → Prop} {U : State} {H : Heap} (h1 : va_OF o n d (.ref v) a A U H) (h2 : va_OF o n d (.ref w) a A U H) : v = w := by
  obtain ⟨cf, k, i, f, cell, p1, -, p3, -, p5, -⟩ := h1
  obtain ⟨cf', k', i', f', cell', q1, -, q3, -, q5, -⟩ := h2
  have e1 := p1.symm.trans q1
  cases e1
  have e2 := p3.symm.trans q3
  cases e2
  have e3 := p5.symm.trans q5
  cases e3
  rfl
theorem T_same {t N M : Nat} {f g : Nat → Int32} {A : Nat → Prop} {U : State} {H : Heap} (hN : N < 1000) (hM : M < 1000) (h1 : va_T .byte t N (fun j => .int (f j)) A U H) (h2 : va_T .byte t M (fun j => .int (g j)) A U H) : N = M ∧ ∀ k, k < N → f k = g k := by
  obtain ⟨cell, p1, -, -, -, p5, p6, -⟩ := h1
  obtain ⟨cell', q1, -, -, -, q5, q6, -⟩ := h2
  have e1 := p1.symm.trans q1
  cases e1
  have e2 : nI N = nI M := p5.symm.trans q5
  have e3 : N = M := (nI_eq (by omega) (by omega)).mp e2
  refine ⟨e3, fun k hk => ?_⟩
  have e4 := (p6 k hk).symm.trans (q6 k (by omega))
  have e5 := Option.some.inj e4
  exact Value.int.inj e5
theorem st_str {args : Array Value} {s : State} {A : Nat → Prop} (hg : (Jvm.Cond.and given_1 narrow_1).before args s = true) (hA : ∀ a : Nat, a < s.heap.size → ¬ A a) : ∃ adK adV : Nat → Nat, vk_S 32 STlen STbyt adK adV A s s.heap ∧ ∀ i : Nat, i < 32 → (tmS i).eval args s none [] s = some (.ref (adK i)) := by
  have h0 : ∀ i : Nat, ∃ q : Nat × Nat, i < 32 → ((tmS i).eval args s none [] s = some (.ref q.1)) ∧ va_O "java/lang/String" q.1 A s s.heap ∧ va_OF "java/lang/String" "coder" "B" (.int 0) q.1 A s s.heap ∧ va_OF "java/lang/String" "value" "[B" (.ref q.2) q.1 A s s.heap ∧ va_T .byte q.2 (STlen.getD i 0) (fun j => .int ((STbyt.getD i []).getD j 0)) A s s.heap := by
    intro i
    by_cases hi : i < 32
    · obtain ⟨aK, aV, hS, hE⟩ := vk_Sof (args := args) (s := s) (N := 1) (tm := fun _ => tmS i) (len := [STlen.getD i 0]) (byt := [STbyt.getD i []]) (A := A)
        (fun k hk => by
          have e : k = 0 := by omega
          subst e
          have := sc_7 i hi
          show STlen.getD i 0 < 2 ^ 31
          omega)
        (fun k hk => gv_mem hg _ (sc_1 i hi)) (fun k hk => gv_mem hg _ (sc_2 i hi)) (fun k hk => gv_mem hg _ (sc_3 i hi))
        (fun k hk => by
          have e : k = 0 := by omega
          subst e
          exact gv_mem hg _ (sc_4 i hi))
        (fun k hk j hj => by
          have e : k = 0 := by omega
          subst e
          exact gv_mem hg _ (sc_5 i hi j hj))
        (fun k k' hk hk' hn => absurd (show k = k' by omega) hn) hA
      exact ⟨(aK 0, aV 0), fun _ => ⟨hE 0 (by decide), hS.1 0 (by decide)⟩⟩
    · exact ⟨(0, 0), fun h => absurd h hi⟩
  obtain ⟨ad, had⟩ := Classical.axiomOfChoice h0
  refine ⟨fun i => (ad i).1, fun i => (ad i).2, ⟨fun i hi => (had i hi).2, fun i j hi hj e => ?_⟩, fun i hi => (had i hi).1⟩
  have e : (ad i).1 = (ad j).1 := e
  by_cases hij : i = j
  · exact hij
  · have a1 := (had i hi).2.2.2.1
    have a2 := (had j hj).2.2.2.1
    rw [e] at a1
    have ev := OF_same a1 a2
    have b1 := (had i hi).2.2.2.2
    have b2 := (had j hj).2.2.2.2
    rw [ev] at b1
    obtain ⟨z1, z2⟩ := T_same (sc_7 i hi) (sc_7 j hj) b1 b2
    exact absurd z2 (sc_8 i hi j hj hij z1)
theorem STl_getD {i : Nat} {q : String × Nat × String} (h : STl[i]? = some q) : STl.getD i ("", 0, "") = q := by
  rw [List.getD_eq_getElem?_getD, h]
  rfl
theorem STl_lt {i : Nat} {q : String × Nat × String} (h : STl[i]? = some q) : i < 32 := by
  have h1 : i < STl.length := (List.getElem?_eq_some_iff.mp h).1
  exact h1
def ncB : List (List Nat) := [[0, 41, 24, 93, 76], [58, 0, 23, 92, 75], [57, 40, 0, 91, 74], [60, 43, 26, 0, 77], [59, 42, 25, 94, 0]]
theorem nc_ok : ∀ i, i < 5 → ∀ j, j < 5 → i ≠ j → gvL[(ncB.getD i []).getD j 0]? = some (.not (.castable (XN (i + 1)) (XN (j + 1)))) := by decide +kernel
theorem st_ST {args : Array Value} {s : State} {X : hX} (h : TW args s) (hg : (Jvm.Cond.and given_1 narrow_1).before args s = true) (hB : xB X = s.heap.size) (hV : vk_S 32 STlen STbyt (xK X) (xV X) (xA0 X) s s.heap) (hE : ∀ i : Nat, i < 32 → (tmS i).eval args s none [] s = some (.ref (xK X i))) (hX : va_X (xS X) (xC X (-1)).toNat (fun j => Int32.ofInt (xC X j)) s s.heap) (hb : xS X < s.heap.size) : ST X s s.heap := by
  have hA : ∀ a : Nat, a < s.heap.size → ¬ xA0 X a := fun a ha q => by
    have q : xB X ≤ a := q
    omega
  have iT : (Cond.initialized "java/lang/Throwable").before args s = true := h _ (tb_mem 13 (by decide +kernel))
  refine ⟨vx_Zqof (h _ (tb_mem 581 (by decide +kernel))) iT (gv_mem hg 4 (by decide +kernel)) hA, vx_Zqof (h _ (tb_mem 583 (by decide +kernel))) iT (gv_mem hg 5 (by decide +kernel)) hA, va_Zof (h _ (tb_mem 1098 (by decide +kernel))) (h _ (tb_mem 18 (by decide +kernel))) (va_eqt (gv_mem hg 6 (by decide +kernel))) hA, hV, fun i q hq => ?_, hX, by omega, by omega, fun i j hi hj hij => va_Nc.of (gv_mem hg _ (nc_ok i hi j hj hij)), va_AO.of (h _ (tb_mem 272 (by decide +kernel))), va_Zqof (h _ (tb_mem 1115 (by decide +kernel))) (h _ (tb_mem 26 (by decide +kernel))) (gv_mem hg 7 (by decide +kernel)) hA, fun w hw => va_Nw.of (NW_on hw) (h w (List.mem_filter.mp hw).1)⟩
  have hi := STl_lt hq
  have e1 := h _ (tb_mem _ (sc_6 i hi))
  have e2 := hE i hi
  unfold tmS at e2
  rw [STl_getD hq] at e1 e2
  exact vk_R.of e1 e2
-- the numbers of the script
def scr (L : Nat) (xs : Nat → Int32) : Int → Int := fun j => if j = -1 then (L : Int) else if j < 0 then 0 else (xs j.toNat).toInt
def d00 (L : Nat) (xs : Nat → Int32) : mD := fun b j => if b = SCR then scr L xs j else 0
theorem scr_X {b L : Nat} {xs : Nat → Int32} {s : State} {H : Heap} (h : va_X b L xs s H) : va_X b (scr L xs (-1)).toNat (fun j => Int32.ofInt (scr L xs j)) s H := by
  have e1 : (scr L xs (-1)).toNat = L := by
    unfold scr
    rw [if_pos rfl]
    exact Int.toNat_natCast L
  have e2 : (fun j : Nat => Int32.ofInt (scr L xs j)) = xs := by
    funext j
    unfold scr
    rw [if_neg (by omega), if_neg (by omega), Int.toNat_natCast]
    exact Int32.ofInt_toInt _
  rw [e1, e2]
  exact h
theorem okR_z {c : Nat} : okR c 0 := by
  unfold okR
  split
  · exact ⟨by decide, by decide⟩
  · decide
  · decide
  · exact ⟨by decide, by decide⟩
  · decide
  · trivial
theorem scr_i {L : Nat} {xs : Nat → Int32} (hL : L ≤ 260) (j : Int) : iI (scr L xs j) := by
  unfold scr
  split
  · exact ⟨by omega, by omega⟩
  · split
    · exact ⟨by decide, by decide⟩
    · exact ⟨Int32.le_toInt _, by have := Int32.toInt_lt (xs j.toNat); omega⟩
theorem sp_pos : ∀ q ∈ SPl, ¬ q.1 < 0 := by decide +kernel
theorem rc_scr {j : Int} (h : j ≠ -2) : RC SCR j = 0 := by
  unfold RC
  rw [if_neg (fun q => h q.2), if_neg (by decide +kernel), show LK SCR = 200 by decide +kernel]
  rfl
theorem d00_TY {L : Nat} {xs : Nat → Int32} (hL : L ≤ 260) : TY (0, 0, fun _ _ => -1) (d00 L xs) := by
  refine ⟨by decide, by decide, by decide, fun a j => ?_, fun a j q1 q2 => if_neg q2.1, fun a j q => rfl, fun a j => ⟨Int.le_refl _, (by decide : (-1 : Int) < 0)⟩, fun q hq q1 => absurd q1 (sp_pos q hq), fun k q1 q2 => absurd q2 (by show ¬ (65 + 46 * k + 46 ≤ (0 : Int)); omega)⟩
  unfold d00
  by_cases e : a = SCR
  · subst e
    rw [if_pos rfl]
    by_cases e2 : j = -2
    · rw [e2, show RC SCR (-2) = 9 by decide +kernel]
      exact trivial
    · rw [rc_scr e2]
      exact scr_i hL j
  · rw [if_neg e]
    exact okR_z
theorem d00_wL {X : hX} {φ : Nat → Nat} {L : Nat} {xs : Nat → Int32} (hc : xC X = scr L xs) : wL X φ (0, 0, fun _ _ => -1) (d00 L xs) = [] := by
  unfold wL wM fgL
  rw [hc, if_neg (show ¬ scr L xs (-3) = 31 by
    unfold scr
    rw [if_neg (by decide), if_pos (by decide)]
    decide)]
  rfl
theorem d00_RP {X : hX} {φ : Nat → Nat} {L : Nat} {xs : Nat → Int32} {H : Heap} (hL : L ≤ 260) (hc : xC X = scr L xs) : RP X φ (0, 0, fun _ _ => -1) (d00 L xs) H := by
  refine ⟨?_, ?_, d00_TY hL, ?_⟩
  · rw [d00_wL hc]
    exact fun k q h => absurd h (by simp)
  · rw [d00_wL hc]
    exact ⟨fun i j p q h => absurd h (by simp), fun k q h => absurd h (by simp)⟩
  · rw [hc]
    exact funext fun j => if_pos rfl
