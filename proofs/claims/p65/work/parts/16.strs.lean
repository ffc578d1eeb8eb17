/-! rows of String constants, of Object's constructor, of an exception that links at another place -/
def sLen (i : Int) : Int := STlen.getD i.toNat 0
def sAt (i k : Int) : Int := ((STbyt.getD i.toNat []).getD k.toNat 0).toInt
theorem mw_ldcS {M : mM} {bc bs : Nat} {pc pc' : Nat} {L : List (Nat × mV)} {S : List mV} {g : mG} {d : mD} {Q : mQ} {is i : Nat} {ii : Int} {text : String} (hd : decode (mC M) pc = .ok (.ldc is, 2)) (hp : pc + 2 = pc') (hst : STl[i]? = some (mOw M, is, text)) (hi : (i : Int) = ii ∧ i < 32) (k0 : MW M bc bs pc' L ((6, ii) :: S) g d Q) : MW M bc bs pc L S g d Q := by
  subst hp
  obtain ⟨hi1, hi2⟩ := hi
  subst hi1
  intro p l e s m args below meth c H locs cells slots X φ E ls hC hS hR hE hL hO hl hw hc hs
  obtain ⟨hx, hb, hml, hown, hts, hK, hT, hr, hlk, hnm, htb, hfl⟩ := id hC
  have h0 := k0 p l e s m args below meth c H locs cells slots X φ E ls hC hS hR hE hL ⟨⟨by omega, by omega⟩, hO⟩ hl hw hc hs
  exact va_ldcS hx hb hown (hT.2.2.2.2.1 i _ hst) hd h0
theorem mw_objinit {M : mM} {bc bs : Nat} {pc pc' : Nat} {L : List (Nat × mV)} {S : List mV} {g : mG} {d : mD} {Q : mQ} {idx : Nat} {a : Int} (hd : decode (mC M) pc = .ok (.invokespecial idx, 3)) (hp : pc + 3 = pc') (hl0 : Cond.methodLink (mOw M) idx Lib.objectInit ∈ BIG) (hin : Cond.instanceMethod Lib.objectInit ∈ BIG) (hco : Cond.code Lib.objectInit ⟨#[0xb1]⟩ 1 none ∈ BIG) (ha : 0 ≤ a) (hfr : 1 ≤ mFr M) (hlo : 100 ≤ mLo M) (hcat : (S.map catV).sum ≤ 8) (k0 : MW M bc bs pc' L S g d Q) : MW M bc bs pc L (vR a :: S) g d Q := by
  subst hp
  intro p l e s m args below meth c H locs cells slots X φ E ls hC hS hR hE hL hO hl hw hc hs
  obtain ⟨hx, hb, hml, hown, hts, hK, hT, hr, hlk, hnm, htb, hfl⟩ := id hC
  have hcat2 : ((S.map (rv X φ)).map fun v => v.category).sum ≤ 8 := by
    rw [List.map_map, show ((fun v : Value => v.category) ∘ rv X φ) = catV from funext fun v => cat_rv X φ v]
    exact hcat
  rw [List.map_cons, rv_R ha]
  exact W.objInit hx hb hown (hts _ hl0) (hts _ hin) (hts _ hco) rfl (hl.1.trans hml.symm) rfl hd hfr (by show 2 * 0 + _ + 12 ≤ mLo M; omega) (k0 p l e s m args below meth c H locs cells slots X φ E ls hC hS hR hE hL hO.2 hl hw hc hs)
