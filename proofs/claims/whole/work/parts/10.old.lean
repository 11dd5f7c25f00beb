/-! things that were there before: statics, texts, their bytes -/
section EO
variable {G : Gx} {mi mi' : MI} {Q Q' : Rs → Mm → Prop} {M : Mm} {k n pc idx : Nat} {L : List (Option Value)} {As rest : List Value}
theorem Cn.old {p : Program} {s : State} {m : MethodId} {args : Array Value} {meth : Method} {c : Code} (hC : Cn G mi p s m args meth c) : ∀ a : Nat, a < (gH G).size → ¬ gA G a → s.heap[a]? = (gH G)[a]? := fun a h _ => hC.o.2 a h
theorem e_gets {C nm d : String} (v : Value) (hd : lkp (miI mi) 0 pc = some (.getstatic idx, 3)) (hZ : ∀ s, ST G s → va_Z C nm d v (gA G) s (gH G)) (hw : Cond.fieldLink (miY mi).cls idx C nm d ∈ ALLW) (kk : E G mi Q M k n (pc + 3) L (v :: rest)) : E G mi Q M k n pc L rest := by
  intro p e s m args below meth c H locs ls hC hS hM hl
  exact va_gets hC.1 hC.2.1 ((hZ s hC.g.2.2).kept hC.old) hS hC.own (hC.ws hw) (fun x h => h) (hC.dec hd) (kk p e s m args below meth c H locs ls hC hS hM hl)
theorem e_getsN {C nm d host : String} (v : Value) (hd : lkp (miI mi) 0 pc = some (.getstatic idx, 3)) (hZ : ∀ s, ST G s → va_Z C nm d v (gA G) s (gH G)) (hw : Cond.fieldLinkNest (miY mi).cls idx C nm d host ∈ OTHW) (kk : E G mi Q M k n (pc + 3) L (v :: rest)) : E G mi Q M k n pc L rest := by
  intro p e s m args below meth c H locs ls hC hS hM hl
  exact va_getsN hC.1 hC.2.1 ((hZ s hC.g.2.2).kept hC.old) hS hC.own (va_Nw.use rfl (hC.g.2.1 _ hw)) (fun x h => h) (hC.dec hd) (kk p e s m args below meth c H locs ls hC hS hM hl)
theorem e_getsQ {C nm d : String} (hd : lkp (miI mi) 0 pc = some (.getstatic idx, 3)) (hZ : ∀ s, ST G s → va_Zq C nm d (gA G) s (gH G)) (hw : Cond.fieldLink (miY mi).cls idx C nm d ∈ ALLW) (kk : ∀ o : Option Nat, E G mi Q M k n (pc + 3) L (va_rf o :: rest)) : E G mi Q M k n pc L rest := by
  intro p e s m args below meth c H locs ls hC hS hM hl
  rcases hZ s hC.g.2.2 with h | ⟨t, h⟩
  · exact va_gets hC.1 hC.2.1 (h.kept hC.old) hS hC.own (hC.ws hw) (fun x h => h) (hC.dec hd) (kk none p e s m args below meth c H locs ls hC hS hM hl)
  · exact va_gets hC.1 hC.2.1 (h.kept hC.old) hS hC.own (hC.ws hw) (fun x h => h) (hC.dec hd) (kk (some t) p e s m args below meth c H locs ls hC hS hM hl)
theorem e_ldS {text : String} (j : Nat) (hd : lkp (miI mi) 0 pc = some (.ldc idx, 2)) (hs : ((miY mi).cls, idx, text, j) ∈ stW) (kk : E G mi Q M k n (pc + 2) L (.ref (gS G j) :: rest)) : E G mi Q M k n pc L rest := by
  intro p e s m args below meth c H locs ls hC hS hM hl
  exact va_ldcS hC.1 hC.2.1 hC.own (hC.g.2.2.2.2.2.2.1 _ hs) (hC.dec hd) (kk p e s m args below meth c H locs ls hC hS hM hl)
theorem e_tI {t N : Nat} {f : Nat → Value} {i : Int32} (v : Value) (hd : lkp (miI mi) 0 pc = some (.iaload, 1)) (hT : ∀ s, ST G s → va_T .int t N f (gA G) s (gH G)) (hi : vp_in i N) (hv : f i.toNatClampNeg = v) (kk : E G mi Q M k n (pc + 1) L (v :: rest)) : E G mi Q M k n pc L (.int i :: .ref t :: rest) := by
  intro p e s m args below meth c H locs ls hC hS hM hl
  exact va_ti hC.1 hC.2.1 ((hT s hC.g.2.2).kept hC.old) hS hi hv (hC.dec hd) (kk p e s m args below meth c H locs ls hC hS hM hl)
theorem e_tB {t N : Nat} {f : Nat → Value} {i : Int32} (v : Value) (hd : lkp (miI mi) 0 pc = some (.baload, 1)) (hT : ∀ s, ST G s → va_T .byte t N f (gA G) s (gH G)) (hi : vp_in i N) (hv : f i.toNatClampNeg = v) (kk : E G mi Q M k n (pc + 1) L (v :: rest)) : E G mi Q M k n pc L (.int i :: .ref t :: rest) := by
  intro p e s m args below meth c H locs ls hC hS hM hl
  exact va_tb hC.1 hC.2.1 ((hT s hC.g.2.2).kept hC.old) hS hi hv (hC.dec hd) (kk p e s m args below meth c H locs ls hC hS hM hl)
theorem e_tL {t N : Nat} {f : Nat → Value} {ty : FieldType} (hd : lkp (miI mi) 0 pc = some (.arraylength, 1)) (hT : ∀ s, ST G s → va_T ty t N f (gA G) s (gH G)) (kk : E G mi Q M k n (pc + 1) L (.int (Int32.ofNat N) :: rest)) : E G mi Q M k n pc L (.ref t :: rest) := by
  intro p e s m args below meth c H locs ls hC hS hM hl
  exact va_tlen hC.1 hC.2.1 ((hT s hC.g.2.2).kept hC.old) hS rfl (hC.dec hd) (kk p e s m args below meth c H locs ls hC hS hM hl)
theorem e_oG {o nm d : String} {q : Nat} (v : Value) (hd : lkp (miI mi) 0 pc = some (.getfield idx, 3)) (hE : ∀ s, ST G s → va_OF o nm d v q (gA G) s (gH G)) (hw : Cond.fieldLink (miY mi).cls idx o nm d ∈ ALLW) (kk : E G mi Q M k n (pc + 3) L (v :: rest)) : E G mi Q M k n pc L (.ref q :: rest) := by
  intro p e s m args below meth c H locs ls hC hS hM hl
  exact vk_getf hC.1 hC.2.1 ((hE s hC.g.2.2).kept hC.old) hS hC.own (hC.ws hw) (fun x h => h) (hC.dec hd) (kk p e s m args below meth c H locs ls hC hS hM hl)
/-- a call of an old thing's method, which throws nothing -/
theorem e_callO {b : Nat} (hd : lkp (miI mi) 0 pc = some (.invokevirtual idx, 3)) (hM' : MC G mi' (.ref b :: As) M Q') (hno : ∀ X M', ¬ Q' (.inr X) M') (hO : ∀ s, ST G s → va_O (miY mi').cls b (gA G) s (gH G)) (hH : miH mi' = []) (hwl : Cond.methodLink (miY mi).cls idx (miY mi') ∈ ALLW) (hwn : Cond.instanceMethod (miY mi') ∈ ALLW) (hse : Cond.selects (miY mi').cls (miY mi') (miY mi') ∈ ALLW) (hwi : Cond.initialized (miY mi').cls ∈ ALLW) (hwc : cdw mi' ∈ ALLW)
    (hok : cok mi mi' k n As.length = true) (hrm : (rest.map fun v => v.category).sum ≤ 8)
    (hret : ∀ (v : Option Value) (M' : Mm), Q' (.inl v) M' → E G mi Q M' (k + (miM mi').cells) (n + (miM mi').slots) (pc + 3) L (v.toList ++ rest)) : E G mi Q M k n pc L (As.reverse ++ .ref b :: rest) := by
  intro p e s m args below meth c H locs ls hC hS hM hl
  obtain ⟨o1, o2, o3, o4, o5, o6, o7⟩ := cok_ok hok
  have hcd : cdw mi' = .code (miY mi') (miC mi') (miL mi') (miR mi') := by unfold cdw; rw [hH]
  have hw9 := ew_ws hC hwc
  have hc9 := hC.ws hwc
  have hM9 := met_of hM' hno
  rw [hcd] at hM9 hw9 hc9
  have hrc := va_Orecv ((hO s hC.g.2.2).kept hC.old) hS
  exact e_run0 hC hS hl (va_runV (As := As) (C := (miY mi').cls) (Ts := ALLW) ⟨hC.1, hC.2.1, hC.2.2.1, hC.own, hC.2.2.2.2.2.2.2.2.1⟩ hM9 ⟨⟨rfl, rfl, o1, o2, hw9, List.mem_cons_self, hc9, hC.ws hwi, ⟨o5, o6⟩, o7, hC.ws hwl⟩, hC.ws hwn, hC.ws hse⟩ ⟨xP_blind G _ M, hrc, e_pre hC hS hM _⟩ rfl rfl hl.1.1 rfl (lv_room hrm) (hC.dec hd) ⟨o3, o4⟩) hret
theorem e_retc {x : Int32} {ty : FieldType} (hd : lkp (miI mi) 0 pc = some (.ireturn, 1)) (hr : miR mi = some ty) (hx : narrow ty (.int x) = .int x) (hk : k ≤ (miM mi).cells) (hn : n ≤ (miM mi).slots) (hq : Q (.inl (some (.int x))) M) : E G mi Q M k n pc L [.int x] := by
  intro p e s m args below meth c H locs ls hC hS hM hl
  exact W.widen hk hn (vx_ret (W.zret hC.1 hC.2.1 (hC.2.2.2.1.trans hr) hx (fun t ht hW => ⟨some (.int x), M, rfl, hq, by rw [ht]; exact hM, hS.F ht⟩) (fun q hq => hS.2.2 q hq) (hC.dec hd) hC.2.2.2.2.1))
end EO
