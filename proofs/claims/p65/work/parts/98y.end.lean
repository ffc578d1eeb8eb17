-- from the entry to the end
/-! (from the skeleton) THE CLAIM OUT OF ONE WALK OF THE LAW'S BODY. Your part is whole_start (and what it stands on); all else here is the same for every law, but numbers. -/
def R_law : String := "TollClockLaw"
def lw_P (b : Addr) (xs : List Int32) (args : Array Value) (s : State) : Prop := args = #[.ref b] ∧ s.IntsAt b xs ∧ xs.length ≤ 260 ∧ (Jvm.Cond.and given_1 narrow_1).before args s = true
def lw_Q (_ : Array Value) (s : State) (o : Outcome) (t : State) : Prop := o = .returned (some (.int 1)) ∧ Framed s o t [] 600390 7290680
def lw_Z (below : List Frame) (a : Array Value) (s : State) : State → Prop := fun t => ∃ o, t.status = .running ∧ Ended t below o ∧ lw_Q a s o t
/-- the law's own end, with 1 on the stack, nothing written that was there before, its room as the claim has it -/
theorem lw_ret {p : Program} {l : Launch} {e : Env} {s : State} {m : MethodId} {below : List Frame} {meth : Method} {c : Code} {b : Nat} (hx : p.tables.exec = Jvm.exec) (hb : c.code = code) (hr : meth.sig.returnType = ret) (hlocks : meth.locks = false) {pc : Nat} {H : Heap} {ls : Array Slot} (hdg : decode code pc = .ok (.ireturn, 1)) : W p l e room_1 s m #[Value.ref b] below meth c H [] 600390 7290680 (lw_Z below #[Value.ref b] s) (F0 m pc ls [.int 1]) := by
  intro T hT X
  obtain ⟨fs, hret, hrun, hended, hW, hframe⟩ := X.leave (v := some (.int 1)) (hlocks := hlocks) (fun h => by rw [hr] at h; cases h)
  have hmeth' : T.vm.method? m = some meth := X.method'
  refine ⟨T.setFrames fs, ?_, .returned (some (.int 1)), hrun, hended, rfl, ⟨_, rfl⟩, hW, hframe⟩
  jvm_step X.here [X.here.top, hx, hb, hdg, hmeth', hr, ret, narrow_b1]
  (try refine ⟨rfl, ?_⟩); (try refine ⟨rfl, ?_⟩)
  first | (intro acts; rw [hret _ acts rfl rfl rfl]) | rw [hret _ _ rfl rfl rfl]
  exact Steps.refl _
/-- what holds at the law's entry: the machine, the code, the tables' words (any of lw_tbl by 'hts w (by decide +kernel)'), the script of L ints xs at the cell b, what the Statement gives of the start (any of its parts by flat_of_before) -/
def lw_At (p : Program) (s : State) (m : MethodId) (meth : Method) (c : Code) (b L : Nat) (xs : Nat → Int32) : Prop :=
  p.tables.exec = Jvm.exec ∧ c.code = code ∧ meth.sig.returnType = ret ∧ c.maxLocals = 7 ∧ s.vm.findClass R_law = some m.cls ∧ (∀ w ∈ lw_tbl, w.before #[Value.ref b] s = true) ∧ va_X b L xs s s.heap ∧ b < s.heap.size ∧ meth.locks = false ∧ (Jvm.Cond.and given_1 narrow_1).before #[Value.ref b] s = true
theorem rvo_1 {X : hX} {φ : Nat → Nat} : rvo (some .boolean) X φ 1 = some (.int 1) := rfl
theorem whole_start {p : Program} {e : Env} {s : State} {m : MethodId} {below : List Frame} {meth : Method} {c : Code} (l : Launch) (hflags : l.flags = flags0) {b L : Nat} {xs : Nat → Int32} (hL : L ≤ 260) (hnm : meth.name = x.name) (htb : ∀ y ∈ c.exceptionTable.toList, False) (C0 : lw_At p s m meth c b L xs) : W p l e room_1 s m #[Value.ref b] below meth c s.heap [] 0 0 (lw_Z below #[Value.ref b] s) (entryFrame m ([Value.ref b] : List Value).toArray 7) := by
  obtain ⟨hx, hb, hr, hml, hown, hts, hX, hbl, hlocks, hgv⟩ := id C0
  obtain ⟨D, hD⟩ := st_cls (args := #[Value.ref b]) hts
  obtain ⟨a, ha⟩ := st_arr (args := #[Value.ref b]) hts
  obtain ⟨adK, adV, hV, hE⟩ := st_str (A := fun q => s.heap.size ≤ q) hgv (fun q h1 h2 => absurd h2 (Nat.not_le.mpr h1))
  have hST : ST (s.heap.size, D, a, adK, adV, b, scr L xs) s s.heap := st_ST (args := #[Value.ref b]) hts hgv rfl hV hE (scr_X hX) hbl
  have hK : KX (s.heap.size, D, a, adK, adV, b, scr L xs) s := ⟨hD, ha⟩
  have hfl : l.stackTraces = false := by
    unfold Launch.stackTraces
    rw [hflags]
    decide
  have htb2 : c.exceptionTable.toList = tableOf (mH mL0) := List.eq_nil_iff_forall_not_mem.mpr (fun y hy => htb y hy)
  have hC : HC mL0 (s.heap.size, D, a, adK, adV, b, scr L xs) p l s m #[Value.ref b] meth c := ⟨hx, hb, hml, hown, TW.big hts, hK, hST, hr, hlocks, hnm, htb2, hfl⟩
  have hl := lv_entry ([.ref b]) (n := 7) (Nat.le_of_ble_eq_true rfl)
  rw [lg_entry_eq]
  generalize (lg_sl ([.ref b]) ++ List.replicate (7 - (lg_sl ([.ref b])).length) Slot.unset).toArray = ls at hl ⊢
  have kW := law_start (d := d00 L xs) (Q := fun o _ _ => o = .inl 1) (fun _ _ => rfl) (fun q j h => if_neg h) (by
    show 0 ≤ d00 L xs SCR (-1) ∧ d00 L xs SCR (-3) = 0
    have e1 : d00 L xs SCR (-1) = (L : Int) := by
      unfold d00 scr
      rw [if_pos rfl, if_pos rfl]
    have e3 : d00 L xs SCR (-3) = 0 := by
      unfold d00 scr
      rw [if_pos rfl, if_neg (by decide), if_pos (by decide)]
    rw [e1, e3]
    exact ⟨by omega, rfl⟩) p l e s m #[Value.ref b] below meth c s.heap [] 0 0 (s.heap.size, D, a, adK, adV, b, scr L xs) (fun _ => 0) ((fun _ => 0), 0, 0) ls hC va_S.rf (d00_RP hL rfl) ⟨xt.rf, Int.le_refl _, Int.le_refl _⟩ ⟨trivial, trivial⟩ trivial hl (Int.le_refl _) (by decide) (by decide)
  intro T hT X0
  obtain ⟨t, a1, o, b1, b2, b3⟩ := kW T hT X0
  refine ⟨t, a1, o, b1, b2, ?_⟩
  rcases b3 with ⟨⟨⟨v, g, d, φ, q1, q2, -⟩, -⟩, L1, hfe, hfree⟩ | ⟨q, -, E, ce, L1, ⟨⟨k, g, d, φ, q1, -⟩, -⟩, -⟩
  · have q1 : v = 1 := Sum.inl.inj q1
    subst q1
    exact ⟨q2, hfe.1, hfe.2.1, hfe.2.2.weaken (fun y hy hlt => absurd hlt (Nat.not_lt.mpr (hfree y hy))) (Nat.le_refl _) (Nat.le_refl _)⟩
  · cases q1
