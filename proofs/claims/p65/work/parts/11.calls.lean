theorem BIG_good {w : Cond} (h : w ∈ BIG) : goodWord w = true := (List.mem_filter.mp h).2
theorem BIG_in {ws : List Cond} (h : ∀ w ∈ ws, w ∈ BIG) : GoodIn BIG ws := fun w hw => ⟨h w hw, good_of_word (BIG_good (h w hw))⟩
theorem mWs_in {M : mM} (h : mHd M ∈ BIG) : ∀ w ∈ mWs M, w ∈ BIG := fun w hw => by
  rcases List.mem_cons.mp hw with rfl | hw
  · exact h
  · exact hw
theorem okv_mono {n n' : Int} (h : n ≤ n') {v : mV} (hv : okv n v) : okv n' v := by
  obtain ⟨t, x⟩ := v
  match t, hv with
  | 0, hv => exact hv
  | 1, hv => exact Int.lt_of_lt_of_le hv h
  | 2, hv => exact hv
  | 3, hv => exact hv
  | 4, hv => exact hv
  | 5, hv => exact hv
  | 6, hv => exact hv
  | 7, hv => exact hv
  | 8, hv => exact hv
  | t + 9, hv => exact hv
theorem oks_mono {n n' : Int} (h : n ≤ n') : ∀ {S : List mV}, oks n S → oks n' S
  | [], _ => trivial
  | v :: S, hO => ⟨okv_mono h hO.1, oks_mono h hO.2⟩
theorem oks_all {n : Int} : ∀ {S : List mV}, oks n S → ∀ v ∈ S, okv n v
  | v :: S, h, w, hw => by
    rcases List.mem_cons.mp hw with rfl | hw
    · exact h.1
    · exact oks_all h.2 w hw
theorem oks_of {n : Int} : ∀ {S : List mV}, (∀ v ∈ S, okv n v) → oks n S
  | [], _ => trivial
  | v :: S, h => ⟨h v List.mem_cons_self, oks_of fun w hw => h w (List.mem_cons_of_mem _ hw)⟩
theorem okl_mono {n n' : Int} (h : n ≤ n') {L : List (Nat × mV)} (hL : okl n L) : okl n' L := okl_of fun q hq => okv_mono h (okl_mem hL hq)
theorem map_xt {X : hX} {φ φ' : Nat → Nat} {n : Int} (h : xt φ φ' n) {S : List mV} (hO : oks n S) : S.map (rv X φ') = S.map (rv X φ) := List.map_congr_left fun v hv => xt_val h X (oks_all hO v hv)
theorem rvl_xt {X : hX} {φ φ' : Nat → Nat} {n : Int} (h : xt φ φ' n) {L : List (Nat × mV)} (hL : okl n L) : rvl X φ' L = rvl X φ L := List.map_congr_left fun q hq => by rw [xt_val h X (okl_mem hL hq)]
theorem RP.keep {X : hX} {φ : Nat → Nat} {g : mG} {d : mD} {H H1 : Heap} (h : RP X φ g d H) (hq : ∀ q : Nat, q < H.size → H1[q]? = H[q]?) : RP X φ g d H1 :=
  ⟨h.1.kept fun k q hk => hq _ (h.1 k q hk).lt, h.2⟩
/-- an exception under way: at this place of method M with these locals -/
def MX (M : mM) (bc bs : Nat) (pc : Nat) (L : List (Nat × mV)) (k : Nat) (g : mG) (d : mD) (Q : mQ) : Prop :=
  ∀ (p : Program) (l : Launch) (e : Env) (s : State) (m : MethodId) (args : Array Value) (below : List Frame) (meth : Method) (c : Code) (H : Heap) (locs : List Loc) (cells slots : Nat) (X : hX) (φ : Nat → Nat) (E : hE) (ls : Array Slot) (q9 : Addr) (ce : Cell) (rest : List Value),
    HC M X p l s m args meth c → va_S (xA0 X) s.heap H locs → RP X φ g d H → eX E φ g → okl g.2.1 L → lv_has ls (mN M) (rvl X φ L) → mW M ≤ g.1 → cells + bc ≤ mCe M → slots + bs ≤ mSl M →
    H[q9]? = some ce → ce.vm = .none → s.vm.findClass (XN k) = some ce.cls →
    vx_W p l e (mRm M) s m args below meth c H locs cells slots (vx_MQ below (QcO X E M Q) (XcO X E Q) args s (mCe M) (mSl M) (xA0 X)) (F0 m pc ls rest) q9
theorem vaF_of {X : hX} {s t : State} {H : Heap} {locs : List Loc} (hS : va_S (xA0 X) s.heap H locs) (ht : t.heap = H) : va_F (xA0 X) s t := ⟨by rw [ht]; exact hS.1, fun q h1 h2 => by rw [ht]; exact hS.2.1 q h1 h2⟩
theorem mx_out {M : mM} {bc bs pc : Nat} {L : List (Nat × mV)} {k : Nat} {g : mG} {d : mD} {Q : mQ} (hH : mH M = []) (q : Q (.inr k) g d) : MX M bc bs pc L k g d Q := by
  intro p l e s m args below meth c H locs cells slots X φ E ls q9 ce rest hC hS hR hE hL hl hw hc hs h1 h2 h3
  obtain ⟨hx, hb, hml, hown, hts, hK, hT, hr, hlk, hnm, htb, hfl⟩ := id hC
  refine vx_out (ce := ce) (E := XN k) (fun x hx9 => ?_) hlk h1 h2 h3 (fun t ht hA => ⟨⟨k, g, d, φ, q, rfl, hE, by rw [ht]; exact hR⟩, vaF_of hS ht⟩) hS.2.2 (by omega) (by omega)
  rw [htb, hH] at hx9
  cases hx9
theorem mx_catch {M : mM} {bc bs pc : Nat} {L : List (Nat × mV)} {k k1 : Nat} {g : mG} {d : mD} {Q : mQ} (pre : List ExceptionTableEntry) (x : ExceptionTableEntry) (suf : List ExceptionTableEntry) (hsplit : tableOf (mH M) = pre ++ x :: suf)
    (hpass : ∀ z ∈ pre, z.catchType ≠ 0 ∧ ∃ i j : Nat, i < 5 ∧ j < 5 ∧ i ≠ j ∧ k = i + 1 ∧ Cond.classLink (mOw M) z.catchType (XN (j + 1)) ∈ BIG) (hx : covers x pc = true) (h0 : x.catchType ≠ 0)
    (hlink : Cond.classLink (mOw M) x.catchType (XN k) ∈ BIG) (hcast : Cond.castable (XN k) (XN k) ∈ NW) (k0 : ∀ q : Int, MW M bc bs x.handlerPc L [(7, q)] g d Q) : MX M bc bs pc L k g d Q := by
  intro p l e s m args below meth c H locs cells slots X φ E ls q9 ce rest hC hS hR hE hL hl hw hc hs h1 h2 h3
  obtain ⟨hx9, hb, hml, hown, hts, hK, hT, hr, hlk, hnm, htb, hfl⟩ := id hC
  refine vx_catch hown pre x suf (htb.trans hsplit) (fun z hz => ?_) hx h0 (hts _ hlink) (hT.nw hcast) h1 h2 h3 ?_
  · obtain ⟨z1, i, j, hi, hj, hij, rfl, hl2⟩ := hpass z hz
    exact Or.inr ⟨z1, XN (j + 1), hts _ hl2, hT.2.2.2.2.2.2.2.2.1 i j hi hj hij⟩
  · have h0 := k0 (q9 : Int) p l e s m args below meth c H locs cells slots X φ E ls hC hS hR hE hL ⟨trivial, trivial⟩ hl hw hc hs
    rw [List.map_cons, show rv X φ (7, (q9 : Int)) = .ref q9 from (if_neg (by omega) : (if (q9 : Int) < 0 then Value.null else Value.ref (q9 : Int).toNat) = Value.ref (q9 : Int).toNat)] at h0
    exact h0
def rps (r : Option FieldType) (v : Int) (S : List mV) : List mV := if rtg r = 4 then S else (rtg r, v) :: S
/-- behind any call -/
theorem w_back {M M' : mM} {bc bs pc : Nat} {L : List (Nat × mV)} {S : List mV} {g : mG} {d : mD} {Q Q' : mQ} {p : Program} {l : Launch} {e : Env} {s : State} {m : MethodId} {args : Array Value} {below : List Frame} {meth : Method} {c : Code} {H : Heap} {locs : List Loc} {cells slots : Nat} {X : hX} {φ : Nat → Nat} {E : hE} {ls : Array Slot} {st0 : List Value} {a : Array Value}
    (hC : HC M X p l s m args meth c) (hS : va_S (xA0 X) s.heap H locs) (hR : RP X φ g d H) (hE : eX E φ g) (hL : okl g.2.1 L) (hO : oks g.2.1 S) (hl : lv_has ls (mN M) (rvl X φ L)) (hw : mW M ≤ g.1) (hc : cells + bc ≤ mCe M) (hs : slots + bs ≤ mSl M) (hb1 : mCe M' ≤ bc) (hb2 : mSl M' ≤ bs)
    (hr : vx_Run p l e (mRm M) s m args below meth c H locs cells slots (mCe M') (mSl M') (F0 m pc ls st0) (S.map (rv X φ)) (QcO X (φ, g.2.1, g.1) M' Q' a) (XcO X (φ, g.2.1, g.1) Q') (xA0 X))
    (kr : ∀ v g' d', Q' (.inl v) g' d' → MW M (bc - mCe M') (bs - mSl M') (pc + 3) L (rps (mRt M') v S) g' d' Q) (kx : ∀ k g' d', Q' (.inr k) g' d' → MX M (bc - mCe M') (bs - mSl M') pc L k g' d' Q) :
    W p l e (mRm M) s m args below meth c H locs cells slots (vx_MQ below (QcO X E M Q) (XcO X E Q) args s (mCe M) (mSl M) (xA0 X)) (F0 m pc ls st0) := by
  intro T hT X0
  rcases hr T hT X0 with ⟨v, st₀, t, T', L9, h0, X', hL9, e1, e2, ⟨⟨r, g', d', φ', hq, hv, hE', hR', hok⟩, hF⟩, st⟩ | ⟨q, st₀, t, T', L9, E9, ce, h0, X', hL9, e1, e2, ⟨⟨k, g', d', φ', hq, hv, hE', hR'⟩, hF⟩, hce, hcv, hcl, st⟩
  · cases hv
    have hE2 : eX E φ' g' := ⟨xt.tr hE.1 hE'.1 hE.2.1, Int.le_trans hE.2.1 hE'.2.1, Int.le_trans hE.2.2 hE'.2.2⟩
    have hS2 : va_S (xA0 X) s.heap T'.heap (locs ++ L9) := by
      rw [e1]
      refine ⟨Nat.le_trans hS.1 (by rw [← h0]; exact hF.1), fun q q1 q2 => ?_, fun z hz => ?_⟩
      · rw [hF.2 q (by rw [h0]; exact Nat.lt_of_lt_of_le q1 hS.1) q2, h0]
        exact hS.2.1 q q1 q2
      · rcases List.mem_append.mp hz with hz | hz
        · exact hS.2.2 z hz
        · exact hL9 z hz
    have hO2 : oks g'.2.1 (rps (mRt M') r S) := by
      unfold rps
      split
      · exact oks_mono hE'.2.1 hO
      · exact ⟨hok, oks_mono hE'.2.1 hO⟩
    have k1 := kr r g' d' hq p l e s m args below meth c T'.heap (locs ++ L9) (cells + mCe M') (slots + mSl M') X φ' E ls hC hS2 (by rw [e1]; exact hR') hE2 (okl_mono hE'.2.1 hL) hO2 (by rw [rvl_xt hE'.1 hL]; exact hl) (Int.le_trans hw hE'.2.2) (by omega) (by omega)
    obtain ⟨t2, a1, b1⟩ := k1 T' rfl X'
    refine ⟨t2, st t2 ?_, b1⟩
    have e3 : (rps (mRt M') r S).map (rv X φ') = (rvo (mRt M') X φ' r).toList ++ S.map (rv X φ) := by
      unfold rps rvo
      split
      · rw [map_xt hE'.1 hO]
        rfl
      · rw [List.map_cons, map_xt hE'.1 hO]
        rfl
    rw [e3] at a1
    exact a1
  · have hE2 : eX E φ' g' := ⟨xt.tr hE.1 hE'.1 hE.2.1, Int.le_trans hE.2.1 hE'.2.1, Int.le_trans hE.2.2 hE'.2.2⟩
    have hS2 : va_S (xA0 X) s.heap T'.heap (locs ++ L9) := by
      rw [e1]
      refine ⟨Nat.le_trans hS.1 (by rw [← h0]; exact hF.1), fun q q1 q2 => ?_, fun z hz => ?_⟩
      · rw [hF.2 q (by rw [h0]; exact Nat.lt_of_lt_of_le q1 hS.1) q2, h0]
        exact hS.2.1 q q1 q2
      · rcases List.mem_append.mp hz with hz | hz
        · exact hS.2.2 z hz
        · exact hL9 z hz
    subst hv
    have k1 := kx k g' d' hq p l e s m args below meth c T'.heap (locs ++ L9) (cells + mCe M') (slots + mSl M') X φ' E ls q ce (S.map (rv X φ)) hC hS2 (by rw [e1]; exact hR') hE2 (okl_mono hE'.2.1 hL) (by rw [rvl_xt hE'.1 hL]; exact hl) (Int.le_trans hw hE'.2.2) (by omega) (by omega) (by rw [e1]; exact hce) hcv hcl
    obtain ⟨t2, a1, b1⟩ := k1 T' rfl X'
    exact ⟨t2, st.trans a1, b1⟩
theorem PB_blind {M : mM} {X : hX} {φ : Nat → Nat} {A : List mV} {g : mG} {d : mD} {av : List Value} : FrameBlind (va_Pc av (PB M X φ A g d)) := fun a U g9 mk q => by
  obtain ⟨q0, qK, qT, qR⟩ := q
  exact ⟨q0, va_K.moved (u := U) (U := U.calling g9 mk a) (Vm.Alike.refl U.vm) qK, ST.same (s := U) (U := U.calling g9 mk a) rfl qT, qR⟩
theorem PB_at {M' : mM} {X : hX} {φ : Nat → Nat} {A : List mV} {g : mG} {d : mD} {s U : State} {H : Heap} {locs : List Loc} (hK : KX X s) (hT : ST X s s.heap) (hS : va_S (xA0 X) s.heap H locs) (hR : RP X φ g d H) (hw : mW M' ≤ g.1) (hO : oks g.2.1 A) (hU : U.heap = H) (hW : s.WarmedH U.vm) : PB M' X φ A g d U :=
  ⟨va_K.moved hW.alike hK, by rw [hU]; exact ST.warm hW (hT.kept hS.2.1 hS.1), by rw [hU]; exact hR, hw, hO⟩
/-- what the words say of a call from class own at idx -/
def CL (own : String) (idx : Nat) (M' : mM) : Prop := Cond.methodLink own idx (mY M') ∈ BIG ∨ ∃ host, Cond.methodLinkNest own idx (mY M') host ∈ NW
def CM (M' : mM) (n : Nat) : Prop := mHd M' ∈ BIG ∧ Cond.initialized (mY M').cls ∈ BIG ∧ ((mY M').cls ≠ "java/lang/invoke/MethodHandle" ∧ (mY M').cls ≠ "java/lang/invoke/VarHandle") ∧ (parseMethodDescriptor (mY M').desc).map (fun d => d.parameters.length) = some n ∧ mH M' = []
def CR (M M' : mM) (bc bs : Nat) : Prop := mFr M' + 1 ≤ mFr M ∧ 8 + (mN M' + 11) + mLo M' ≤ mLo M ∧ mCe M' ≤ bc ∧ mSl M' ≤ bs ∧ mW M' ≤ mW M
theorem hd_code {M' : mM} (h : mH M' = []) : mHd M' = .code (mY M') (mC M') (mN M') (mRt M') := by unfold mHd; rw [h]
theorem par_n {y : MethodName} {n : Nat} (h : (parseMethodDescriptor y.desc).map (fun d => d.parameters.length) = some n) : ∀ sig, parseMethodDescriptor y.desc = some sig → n = sig.parameters.length := fun sig hs => by
  rw [hs] at h
  exact (Option.some.inj h).symm
theorem cb_of {M M' : mM} {idx n bc bs : Nat} {s : State} {args : Array Value} (hts : ∀ w ∈ BIG, w.before args s = true) (hl : Cond.methodLink (mOw M) idx (mY M') ∈ BIG) (hm : CM M' n) (hr : CR M M' bc bs) :
    CallB (mRm M) s args (mOw M) idx (mY M') (mC M') (mN M') (mRt M') (mWs M') (mRm M') (mCe M') (mSl M') n := by
  obtain ⟨h1, h2, h3, h4, h5⟩ := hm
  have hc : Cond.code (mY M') (mC M') (mN M') (mRt M') ∈ mWs M' := by rw [← hd_code h5]; exact List.mem_cons_self
  exact ⟨rfl, rfl, hr.1, hr.2.1, pay_in hts (BIG_in (mWs_in h1)), hc, hts _ (mWs_in h1 _ hc), hts _ h2, h3, par_n h4, hts _ hl⟩
theorem cn_of {M M' : mM} {idx n bc bs : Nat} {s : State} {args : Array Value} {host : String} {X : hX} {H : Heap} (hT : ST X s H) (hts : ∀ w ∈ BIG, w.before args s = true) (hl : Cond.methodLinkNest (mOw M) idx (mY M') host ∈ NW) (hm : CM M' n) (hr : CR M M' bc bs) :
    va_CN (mRm M) s args (mOw M) idx (mY M') host (mC M') (mN M') (mRt M') (mWs M') (mRm M') (mCe M') (mSl M') n := by
  obtain ⟨h1, h2, h3, h4, h5⟩ := hm
  refine va_cnB n hts (BIG_in (mWs_in h1)) (ws' := BIG) (by unfold mWs; rw [hd_code h5]) rfl rfl ?_ (hts _ h2) ⟨h3.1, h3.2, h4⟩ ⟨hr.1, hr.2.1⟩
  exact hT.nw hl
