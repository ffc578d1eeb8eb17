-- the world at the start
theorem tb_mem {w : Cond} (i : Nat) (h : tables_1[i]? = some w) : w ∈ lw_tbl := List.mem_append_right _ (List.mem_of_getElem? h)
def gvL : List Cond := flatC (Jvm.Cond.and given_1 narrow_1)
theorem gv_mem {args : Array Value} {s : State} (h : (Jvm.Cond.and given_1 narrow_1).before args s = true) {w : Cond} (i : Nat) (hi : gvL[i]? = some w) : w.before args s = true := flat_of_before _ h w (List.mem_of_getElem? hi)
def TW (args : Array Value) (s : State) : Prop := ∀ w ∈ lw_tbl, w.before args s = true
theorem TW.big {args : Array Value} {s : State} (h : TW args s) : ∀ w ∈ BIG, w.before args s = true := fun w hw => h w (List.mem_filter.mp hw).1
theorem st_cls {args : Array Value} {s : State} (h : TW args s) : ∃ D : va_G, ∀ (c : Nat) (q : vw_C), mCls[c]? = some q → u_Kn s q.1 q.2.1 q.2.2 (D.1 c) (D.2 c) := by
  have h0 : ∀ c : Nat, ∃ p : ClassId × (Nat → Nat), ∀ q : vw_C, mCls[c]? = some q → u_Kn s q.1 q.2.1 q.2.2 p.1 p.2 := by
    intro c
    match c with
    | 0 =>
      obtain ⟨cC, iS, hk⟩ := u_known (n := 3) h.big inB0 (h.big _ bw_81)
      exact ⟨(cC, iS), fun q e => by
        have e2 : ((RX0, TX0, 3) : vw_C) = q := Option.some.inj e
        subst e2
        exact hk⟩
    | 1 =>
      obtain ⟨cC, iS, hk⟩ := u_known (n := 8) h.big inB1 (h.big _ bw_213)
      exact ⟨(cC, iS), fun q e => by
        have e2 : ((RX1, TX1, 8) : vw_C) = q := Option.some.inj e
        subst e2
        exact hk⟩
    | 2 =>
      obtain ⟨cC, iS, hk⟩ := u_known (n := 12) h.big inB2 (h.big _ bw_123)
      exact ⟨(cC, iS), fun q e => by
        have e2 : ((RX2, TX2, 12) : vw_C) = q := Option.some.inj e
        subst e2
        exact hk⟩
    | 3 =>
      obtain ⟨cC, iS, hk⟩ := u_known (n := 6) h.big inB3 (h.big _ bw_55)
      exact ⟨(cC, iS), fun q e => by
        have e2 : ((RX3, TX3, 6) : vw_C) = q := Option.some.inj e
        subst e2
        exact hk⟩
    | 4 =>
      obtain ⟨cC, iS, hk⟩ := u_known (n := 6) h.big inB4 (h.big _ bw_298)
      exact ⟨(cC, iS), fun q e => by
        have e2 : ((RX4, TX4, 6) : vw_C) = q := Option.some.inj e
        subst e2
        exact hk⟩
    | 5 =>
      obtain ⟨cC, iS, hk⟩ := u_known (n := 3) h.big inB5 (h.big _ bw_61)
      exact ⟨(cC, iS), fun q e => by
        have e2 : ((RX5, TX5, 3) : vw_C) = q := Option.some.inj e
        subst e2
        exact hk⟩
    | 6 =>
      obtain ⟨cC, iS, hk⟩ := u_known (n := 6) h.big inB6 (h.big _ bw_324)
      exact ⟨(cC, iS), fun q e => by
        have e2 : ((RX6, TX6, 6) : vw_C) = q := Option.some.inj e
        subst e2
        exact hk⟩
    | 7 =>
      obtain ⟨cC, iS, hk⟩ := u_known (n := 3) h.big inB7 (h.big _ bw_101)
      exact ⟨(cC, iS), fun q e => by
        have e2 : ((RX7, TX7, 3) : vw_C) = q := Option.some.inj e
        subst e2
        exact hk⟩
    | 8 =>
      obtain ⟨cC, iS, hk⟩ := u_known (n := 5) h.big inB8 (h.big _ bw_182)
      exact ⟨(cC, iS), fun q e => by
        have e2 : ((RX8, TX8, 5) : vw_C) = q := Option.some.inj e
        subst e2
        exact hk⟩
    | 9 =>
      obtain ⟨cC, iS, hk⟩ := u_known (n := 2) h.big inB9 (h.big _ bw_39)
      exact ⟨(cC, iS), fun q e => by
        have e2 : ((RX9, TX9, 2) : vw_C) = q := Option.some.inj e
        subst e2
        exact hk⟩
    | 10 =>
      obtain ⟨cC, iS, hk⟩ := u_known (n := 5) h.big inB10 (h.big _ bw_276)
      exact ⟨(cC, iS), fun q e => by
        have e2 : ((RX10, TX10, 5) : vw_C) = q := Option.some.inj e
        subst e2
        exact hk⟩
    | 11 =>
      obtain ⟨cC, iS, hk⟩ := u_known (n := 13) h.big inB11 (h.big _ bw_31)
      exact ⟨(cC, iS), fun q e => by
        have e2 : ((RX11, TX11, 13) : vw_C) = q := Option.some.inj e
        subst e2
        exact hk⟩
    | 12 =>
      obtain ⟨cC, iS, hk⟩ := u_known (n := 19) h.big inB12 (h.big _ bw_1616)
      exact ⟨(cC, iS), fun q e => by
        have e2 : ((RX12, TX12, 19) : vw_C) = q := Option.some.inj e
        subst e2
        exact hk⟩
    | k + 13 =>
      refine ⟨(0, fun _ => 0), fun q e => ?_⟩
      rw [List.getElem?_eq_none (show mCls.length ≤ k + 13 from Nat.le_add_left 13 k)] at e
      cases e
  obtain ⟨f, hf⟩ := Classical.axiomOfChoice h0
  exact ⟨(fun c => (f c).1, fun c => (f c).2), fun c q e => hf c q e⟩
theorem st_prim {args : Array Value} {s : State} (ty : FieldType) (h : (Cond.arrayClass ty).before args s = true) (hr : ∀ cA, s.vm.findClass ("[" ++ ty.toString) = some cA → va_RA s cA ty) : ∃ cA, ArrOfT s cA ty ∧ va_RA s cA ty := by
  obtain ⟨cA, kA, comp, h1, h2, h3⟩ := Cond.arrayClass_spec h
  exact ⟨cA, fun n z => ⟨(fun k h => by cases h), kA, h2, comp, h3⟩, hr cA h1⟩
theorem st_arr {args : Array Value} {s : State} (h : TW args s) : ∃ a : Nat → ClassId, ∀ (k : Nat) (q : ClassId × FieldType), ([(a 100, .int), (a 101, .char), (a 102, .boolean), (a 103, .long), (a 104, .double), (a 105, .object "TollClock$Docket")] : List (ClassId × FieldType))[k]? = some q → ArrOfT s q.1 q.2 ∧ va_RA s q.1 q.2 := by
  obtain ⟨c0, h0⟩ := st_prim .int (h.big _ ac_I) (fun _ h => h)
  obtain ⟨c1, h1⟩ := st_prim .char (h.big _ ac_C) (fun _ h => h)
  obtain ⟨c2, h2⟩ := st_prim .boolean (h.big _ ac_Z) (fun _ h => h)
  obtain ⟨c3, h3⟩ := st_prim .long (h.big _ ac_J) (fun _ h => h)
  obtain ⟨c4, h4⟩ := st_prim .double (h.big _ ac_D) (fun _ h => h)
  have ho : (Cond.arrayOver (.object "TollClock$Docket")).before args s = true := h _ (tb_mem 274 (by decide +kernel))
  obtain ⟨comp, c5, k5, g1, g2, g3, g4, g5⟩ := Cond.arrayOver_spec ho
  have h5 : ArrOfT s c5 (.object "TollClock$Docket") ∧ va_RA s c5 (.object "TollClock$Docket") := ⟨fun n z => ⟨(fun k h => by cases h), k5, g3, comp, g4⟩, k5, comp, g3, g4, g1, g5⟩
  refine ⟨fun k => ([c0, c1, c2, c3, c4, c5] : List ClassId).getD (k - 100) c0, fun k q e => ?_⟩
  match k, e with
  | 0, e =>
    have e2 : ((c0, FieldType.int) : ClassId × FieldType) = q := Option.some.inj e
    subst e2
    exact h0
  | 1, e =>
    have e2 : ((c1, FieldType.char) : ClassId × FieldType) = q := Option.some.inj e
    subst e2
    exact h1
  | 2, e =>
    have e2 : ((c2, FieldType.boolean) : ClassId × FieldType) = q := Option.some.inj e
    subst e2
    exact h2
  | 3, e =>
    have e2 : ((c3, FieldType.long) : ClassId × FieldType) = q := Option.some.inj e
    subst e2
    exact h3
  | 4, e =>
    have e2 : ((c4, FieldType.double) : ClassId × FieldType) = q := Option.some.inj e
    subst e2
    exact h4
  | 5, e =>
    have e2 : ((c5, FieldType.object "TollClock$Docket") : ClassId × FieldType) = q := Option.some.inj e
    subst e2
    exact h5
  | k + 6, e =>
    rw [List.getElem?_eq_none (Nat.le_add_left 6 k)] at e
    cases e
-- the strings
def tmS (i : Nat) : Term := .string (STl.getD i ("", 0, "")).1 (STl.getD i ("", 0, "")).2.1
def stB : List Nat := [620, 630, 637, 646, 655, 664, 673, 124, 269, 312, 295, 334, 349, 390, 374, 416, 503, 540, 449, 469, 560, 582, 599, 685, 702, 722, 753, 774, 151, 169, 194, 224, 252]
def stR : List Nat := [1487, 1488, 1489, 1490, 1491, 1492, 1493, 640, 840, 885, 877, 920, 973, 1034, 1005, 1053, 1210, 1244, 1100, 1104, 1361, 1417, 1463, 1581, 1590, 1598, 1606, 1614, 775, 791, 798, 808, 824]
theorem sc_1 : ∀ i, i < 33 → gvL[stB.getD i 0]? = some (.exactly (tmS i) "java/lang/String") := by decide +kernel
theorem sc_2 : ∀ i, i < 33 → gvL[stB.getD i 0 + 1]? = some (.eq (.field (tmS i) "java/lang/String" "coder" "B") (.int 0)) := by decide +kernel
theorem sc_3 : ∀ i, i < 33 → gvL[stB.getD i 0 + 2]? = some (.arrayOf (.field (tmS i) "java/lang/String" "value" "[B") .byte) := by decide +kernel
theorem sc_4 : ∀ i, i < 33 → gvL[stB.getD i 0 + 3]? = some (.eq (.length (.field (tmS i) "java/lang/String" "value" "[B")) (.int (Int32.ofNat (STlen.getD i 0)))) := by decide +kernel
theorem sc_5 : ∀ i, i < 33 → ∀ j, j < STlen.getD i 0 → gvL[stB.getD i 0 + 4 + j]? = some (.eq (.elem (.field (tmS i) "java/lang/String" "value" "[B") (.int (Int32.ofNat j))) (.int ((STbyt.getD i []).getD j 0))) := by decide +kernel
theorem sc_6 : ∀ i, i < 33 → tables_1[stR.getD i 0]? = some (.stringRef (STl.getD i ("", 0, "")).1 (STl.getD i ("", 0, "")).2.1 (STl.getD i ("", 0, "")).2.2) := by decide +kernel
theorem sc_7 : ∀ i, i < 33 → STlen.getD i 0 < 1000 := by decide +kernel
theorem sc_8 : ∀ i, i < 33 → ∀ j, j < 33 → i ≠ j → STlen.getD i 0 = STlen.getD j 0 → ¬ ∀ k, k < STlen.getD i 0 → (STbyt.getD i []).getD k 0 = (STbyt.getD j []).getD k 0 := by decide +kernel
theorem OF_same {o n d : String} {a v w : Nat} {A : Nat → Prop} {U : State} {H : Heap} (h1 : va_OF o n d (.ref v) a A U H) (h2 : va_OF o n d (.ref w) a A U H) : v = w := by
  obtain ⟨cf, k, i, f, cell, p1, -, p3, -, p5, -⟩ := h1
  obtain ⟨cf', k', i', f', cell', q1, -, q3, -, q5, -⟩ := h2
  have e1 := p1.symm.trans q1
  cases e1
  have e2 := p3.symm.trans q3
  cases e2
  have e3 := p5.symm.trans q5
  cases e3
  rfl
theorem T_same {t N M : Nat} {f g : Nat → Int32} {A : Nat → Prop} {U : State} {H : Heap} (hN : N < 1000) (hM : M < 1000) (h1 : va_T .byte t N (fun j => .int (f j)) A U H) (h2 : va_T .byte t M (fun j => .int (g j)) A U H) : N = M ∧ ∀ k, k < N → f k = g k := by
  obtain ⟨cell, p1, -, -, -, p5, p6, -⟩ := h1
  obtain ⟨cell', q1, -, -, -, q5, q6, -⟩ := h2
  have e1 := p1.symm.trans q1
  cases e1
  have e2 : nI N = nI M := p5.symm.trans q5
  have e3 : N = M := (nI_eq (by omega) (by omega)).mp e2
  refine ⟨e3, fun k hk => ?_⟩
  have e4 := (p6 k hk).symm.trans (q6 k (by omega))
  have e5 := Option.some.inj e4
  exact Value.int.inj e5
theorem st_str {args : Array Value} {s : State} {A : Nat → Prop} (hg : (Jvm.Cond.and given_1 narrow_1).before args s = true) (hA : ∀ a : Nat, a < s.heap.size → ¬ A a) : ∃ adK adV : Nat → Nat, vk_S 33 STlen STbyt adK adV A s s.heap ∧ ∀ i : Nat, i < 33 → (tmS i).eval args s none [] s = some (.ref (adK i)) := by
  have h0 : ∀ i : Nat, ∃ q : Nat × Nat, i < 33 → ((tmS i).eval args s none [] s = some (.ref q.1)) ∧ va_O "java/lang/String" q.1 A s s.heap ∧ va_OF "java/lang/String" "coder" "B" (.int 0) q.1 A s s.heap ∧ va_OF "java/lang/String" "value" "[B" (.ref q.2) q.1 A s s.heap ∧ va_T .byte q.2 (STlen.getD i 0) (fun j => .int ((STbyt.getD i []).getD j 0)) A s s.heap := by
    intro i
    by_cases hi : i < 33
    · obtain ⟨aK, aV, hS, hE⟩ := vk_Sof (args := args) (s := s) (N := 1) (tm := fun _ => tmS i) (len := [STlen.getD i 0]) (byt := [STbyt.getD i []]) (A := A)
        (fun k hk => by
          have e : k = 0 := by omega
          subst e
          have := sc_7 i hi
          show STlen.getD i 0 < 2 ^ 31
          omega)
        (fun k hk => gv_mem hg _ (sc_1 i hi)) (fun k hk => gv_mem hg _ (sc_2 i hi)) (fun k hk => gv_mem hg _ (sc_3 i hi))
        (fun k hk => by
          have e : k = 0 := by omega
          subst e
          exact gv_mem hg _ (sc_4 i hi))
        (fun k hk j hj => by
          have e : k = 0 := by omega
          subst e
          exact gv_mem hg _ (sc_5 i hi j hj))
        (fun k k' hk hk' hn => absurd (show k = k' by omega) hn) hA
      exact ⟨(aK 0, aV 0), fun _ => ⟨hE 0 (by decide), hS.1 0 (by decide)⟩⟩
    · exact ⟨(0, 0), fun h => absurd h hi⟩
  obtain ⟨ad, had⟩ := Classical.axiomOfChoice h0
  refine ⟨fun i => (ad i).1, fun i => (ad i).2, ⟨fun i hi => (had i hi).2, fun i j hi hj e => ?_⟩, fun i hi => (had i hi).1⟩
  have e : (ad i).1 = (ad j).1 := e
  by_cases hij : i = j
  · exact hij
  · have a1 := (had i hi).2.2.2.1
    have a2 := (had j hj).2.2.2.1
    rw [e] at a1
    have ev := OF_same a1 a2
    have b1 := (had i hi).2.2.2.2
    have b2 := (had j hj).2.2.2.2
    rw [ev] at b1
    obtain ⟨z1, z2⟩ := T_same (sc_7 i hi) (sc_7 j hj) b1 b2
    exact absurd z2 (sc_8 i hi j hj hij z1)
theorem STl_getD {i : Nat} {q : String × Nat × String} (h : STl[i]? = some q) : STl.getD i ("", 0, "") = q := by
  rw [List.getD_eq_getElem?_getD, h]
  rfl
theorem STl_lt {i : Nat} {q : String × Nat × String} (h : STl[i]? = some q) : i < 33 := by
  have h1 : i < STl.length := (List.getElem?_eq_some_iff.mp h).1
  exact h1
def ncB : List (List Nat) := [[0, 43, 81, 62, 99, 118], [25, 0, 82, 64, 101, 120], [24, 44, 0, 63, 100, 119], [27, 46, 84, 0, 102, 122], [26, 45, 83, 65, 0, 121], [29, 48, 85, 67, 104, 0]]
theorem nc_ok : ∀ i, i < 6 → ∀ j, j < 6 → i ≠ j → gvL[(ncB.getD i []).getD j 0]? = some (.not (.castable (XN (i + 1)) (XN (j + 1)))) := by decide +kernel
theorem st_ST {args : Array Value} {s : State} {X : hX} (h : TW args s) (hg : (Jvm.Cond.and given_1 narrow_1).before args s = true) (hB : xB X = s.heap.size) (hV : vk_S 33 STlen STbyt (xK X) (xV X) (xA0 X) s s.heap) (hE : ∀ i : Nat, i < 33 → (tmS i).eval args s none [] s = some (.ref (xK X i))) (hX : va_X (xS X) (xC X (-1)).toNat (fun j => Int32.ofInt (xC X j)) s s.heap) (hb : xS X < s.heap.size) : ST X s s.heap := by
  have hA : ∀ a : Nat, a < s.heap.size → ¬ xA0 X a := fun a ha q => by
    have q : xB X ≤ a := q
    omega
  have iT : (Cond.initialized "java/lang/Throwable").before args s = true := h _ (tb_mem 14 (by decide +kernel))
  refine ⟨vx_Zqof (h _ (tb_mem 622 (by decide +kernel))) iT (gv_mem hg 4 (by decide +kernel)) hA, vx_Zqof (h _ (tb_mem 624 (by decide +kernel))) iT (gv_mem hg 5 (by decide +kernel)) hA, va_Zof (h _ (tb_mem 1507 (by decide +kernel))) (h _ (tb_mem 25 (by decide +kernel))) (va_eqt (gv_mem hg 6 (by decide +kernel))) hA, hV, fun i q hq => ?_, hX, by omega, by omega, fun i j hi hj hij => va_Nc.of (gv_mem hg _ (nc_ok i hi j hj hij)), va_AO.of (h _ (tb_mem 274 (by decide +kernel))), va_Zqof (h _ (tb_mem 1524 (by decide +kernel))) (h _ (tb_mem 28 (by decide +kernel))) (gv_mem hg 7 (by decide +kernel)) hA, fun w hw => va_Nw.of (NW_on hw) (h w (List.mem_filter.mp hw).1)⟩
  have hi := STl_lt hq
  have e1 := h _ (tb_mem _ (sc_6 i hi))
  have e2 := hE i hi
  unfold tmS at e2
  rw [STl_getD hq] at e1 e2
  exact vk_R.of e1 e2
-- the numbers of the script
def scr (L : Nat) (xs : Nat → Int32) : Int → Int := fun j => if j = -1 then (L : Int) else (xs j.toNat).toInt
def d00 (L : Nat) (xs : Nat → Int32) : mD := fun b j => if b = SCR then scr L xs j else 0
theorem scr_X {b L : Nat} {xs : Nat → Int32} {s : State} {H : Heap} (h : va_X b L xs s H) : va_X b (scr L xs (-1)).toNat (fun j => Int32.ofInt (scr L xs j)) s H := by
  have e1 : (scr L xs (-1)).toNat = L := by
    unfold scr
    rw [if_pos rfl]
    exact Int.toNat_natCast L
  have e2 : (fun j : Nat => Int32.ofInt (scr L xs j)) = xs := by
    funext j
    unfold scr
    rw [if_neg (by omega), Int.toNat_natCast]
    exact Int32.ofInt_toInt _
  rw [e1, e2]
  exact h
theorem okR_z {c : Nat} : okR c 0 := by
  unfold okR
  split
  · exact ⟨by decide, by decide⟩
  · decide
  · decide
  · exact ⟨by decide, by decide⟩
  · decide
  · trivial
theorem scr_i {L : Nat} {xs : Nat → Int32} (hL : L ≤ 2048) (j : Int) : iI (scr L xs j) := by
  unfold scr
  split
  · exact ⟨by omega, by omega⟩
  · exact ⟨Int32.le_toInt _, by have := Int32.toInt_lt (xs j.toNat); omega⟩
theorem sp_pos : ∀ q ∈ SPl, ¬ q.1 < 0 := by decide +kernel
theorem rc_scr {j : Int} : RC SCR j = 0 := by
  unfold RC
  rw [if_neg (by decide +kernel), show LK SCR = 200 by decide +kernel]
  rfl
theorem d00_TY {L : Nat} {xs : Nat → Int32} (hL : L ≤ 2048) : TY (0, 0, fun _ _ => -1) (d00 L xs) := by
  refine ⟨by decide, by decide, by decide, fun a j => ?_, fun a j q1 q2 => if_neg q2, fun a j q => rfl, fun a j => ⟨Int.le_refl _, (by decide : (-1 : Int) < 0)⟩, fun q hq q1 => absurd q1 (sp_pos q hq), fun k q1 q2 => absurd q2 (by show ¬ (76 + 46 * k + 46 ≤ (0 : Int)); omega)⟩
  unfold d00
  by_cases e : a = SCR
  · subst e
    rw [if_pos rfl]
    have : RC SCR j = 0 := rc_scr
    rw [this]
    exact scr_i hL j
  · rw [if_neg e]
    exact okR_z
theorem d00_RP {X : hX} {φ : Nat → Nat} {L : Nat} {xs : Nat → Int32} {H : Heap} (hL : L ≤ 2048) (hc : xC X = scr L xs) : RP X φ (0, 0, fun _ _ => -1) (d00 L xs) H := by
  refine ⟨fun k q h => ?_, ⟨fun i j p q h => ?_, fun k q h => ?_⟩, d00_TY hL, ?_⟩
  · exact absurd h (by simp [wL])
  · exact absurd h (by simp [wL])
  · exact absurd h (by simp [wL])
  · rw [hc]
    exact funext fun j => if_pos rfl
