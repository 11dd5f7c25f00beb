/-! a handler of the method's own table takes what is thrown -/
theorem et_catch {G : Gx} {mi : MI} {Q : Rs → Mm → Prop} {M : Mm} {k n pc : Nat} {L : List (Option Value)} {rest : List Value} {X : String} (pre : List ExceptionTableEntry) (x : ExceptionTableEntry) (suf : List ExceptionTableEntry) (name : String) (hH : tableOf (miH mi) = pre ++ x :: suf)
    (hpass : ∀ z ∈ pre, covers z pc = false ∨ (z.catchType ≠ 0 ∧ ∃ nm : String, Cond.classLink (miY mi).cls z.catchType nm ∈ ALLW ∧ (X, nm) ∈ ncW)) (hx : covers x pc = true) (h0 : x.catchType ≠ 0)
    (hlink : Cond.classLink (miY mi).cls x.catchType name ∈ ALLW) (hcast : Cond.castable X name ∈ OTHW) (kk : ∀ q : Nat, E G mi Q M k n x.handlerPc L [.ref q]) : ET G mi Q M k n pc L rest X := by
  intro p e s m args below meth c H locs ls q ce hC hS hM hl hce hcv hcl
  refine cx_catch hC.own pre x suf (hC.2.2.2.2.2.1.trans hH) (fun z hz => ?_) hx h0 (hC.ws hlink) (va_Nw.use rfl (hC.g.2.1 _ hcast)) hce hcv hcl (kk q p e s m args below meth c H locs ls hC hS hM hl)
  rcases hpass z hz with h | ⟨h1, nm, h2, h3⟩
  · exact Or.inl h
  · exact Or.inr ⟨h1, nm, hC.ws h2, hC.g.2.2.2.2.2.1 _ h3⟩
