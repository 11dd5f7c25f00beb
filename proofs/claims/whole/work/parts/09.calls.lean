/-! contracts and calls -/
def xP (G : Gx) (As : List Value) (M : Mm) : Array Value → State → Prop := va_Pc As (fun U => xg G U ∧ xo G U.heap ∧ xh G M U.heap)
theorem xP_blind (G : Gx) (As : List Value) (M : Mm) : FrameBlind (xP G As M) := by
  intro a U g mk h
  obtain ⟨h1, h2, h3, h4⟩ := h
  exact ⟨h1, xg.warm (s := U) (U := U.calling g mk a) (State.WarmedH.refl U) h2, h3, h4⟩
def cdw (mi : MI) : Cond := match miH mi with
  | [] => .code (miY mi) (miC mi) (miL mi) (miR mi)
  | h :: r => .codeWith (miY mi) (miC mi) (miL mi) (miR mi) (h :: r)
/-- the contract: from the memory M and the arguments As the method comes to an end with Q -/
def MC (G : Gx) (mi : MI) (As : List Value) (M : Mm) (Q : Rs → Mm → Prop) : Prop := vx_Met (gl G) (miY mi) (cdw mi :: ALLW) (miM mi) (xP G As M) (xq G Q) (xx G Q) (miM mi).cells (miM mi).slots (gA G)
theorem mc_of {G : Gx} {mi : MI} {As : List Value} {M : Mm} {Q : Rs → Mm → Prop} (hH : miH mi = []) (hy : plainFor (miY mi) = true) (hd : dcb (miC mi) (miI mi) 0 = true) (hA : (lg_sl As).length ≤ miL mi) (z : Nat) (hz : (xe As).length + z ≤ miL mi)
    (h : E G mi Q M 0 0 0 (xe As ++ List.replicate z none) []) : MC G mi As M Q := by
  have hcd : cdw mi = .code (miY mi) (miC mi) (miL mi) (miR mi) := by unfold cdw; rw [hH]
  unfold MC
  rw [hcd]
  refine MetFree.of_bodySF (code := miC mi) (maxLocals := miL mi) (ret := miR mi) hy ?_ ?_
  · intro args s m h hn
    obtain ⟨meth, c, h1, h2, h3, h4, h5, h6, -, -⟩ := Cond.code_spec hn (atoms_spec (ws := Cond.code (miY mi) (miC mi) (miL mi) (miR mi) :: ALLW) h _ List.mem_cons_self)
    exact ⟨meth, c, h1, h2, h3, h4, h5, h6⟩
  · intro p e s m args below meth c s₁ B hml hP _
    obtain ⟨rfl, hg, ho, hh⟩ := hP
    have hts := atoms_spec (ws := Cond.code (miY mi) (miC mi) (miL mi) (miR mi) :: ALLW) B.pre
    have hT : c.exceptionTable.toList = tableOf (miH mi) := by
      obtain ⟨meth9, c9, h1, h2, -, -, -, -, h7, -⟩ := Cond.code_spec B.named (hts _ List.mem_cons_self)
      cases Option.some.inj (h1.symm.trans B.method)
      cases Option.some.inj (h2.symm.trans (Stand.of_body B).code)
      rw [hH, Array.isEmpty_iff.mp h7]
      rfl
    have hC : Cn G mi p s m As.toArray meth c := ⟨B.exec, B.bytes, hml, B.returns, B.notSynchronized, hT, findClass_of_methodNamed B.named, (name_of_methodNamed B.named B.method).1, fun w hw => hts w (List.mem_cons_of_mem _ hw), hg, ho, hd⟩
    have hh0 : s₁.heap = s.heap := by rw [B.state]; rfl
    have hW := h p e s m As.toArray below meth c s.heap [] _ hC va_S.rf hh ⟨xl_entry As hA, by simp only [List.length_append, List.length_replicate]; exact hz⟩
    rw [← lg_entry_eq] at hW
    obtain ⟨t, a1, o, b1, b2, b3⟩ := hW s₁ hh0 (Stand.of_body B)
    exact ⟨t, o, a1, b1, b2, b3⟩
theorem mc_ofH {G : Gx} {mi : MI} {As : List Value} {M : Mm} {Q : Rs → Mm → Prop} (hH : miH mi ≠ []) (hy : plainName (miY mi).cls = true) (hd : dcb (miC mi) (miI mi) 0 = true) (hA : (lg_sl As).length ≤ miL mi) (z : Nat) (hz : (xe As).length + z ≤ miL mi)
    (h : E G mi Q M 0 0 0 (xe As ++ List.replicate z none) []) : MC G mi As M Q := by
  have hcd : cdw mi = .codeWith (miY mi) (miC mi) (miL mi) (miR mi) (miH mi) := by
    unfold cdw
    cases hx : miH mi with
    | nil => exact absurd hx hH
    | cons x r => rfl
  unfold MC
  rw [hcd]
  refine vx_ofWH (cc := miC mi) (maxL := miL mi) (ret := miR mi) (hh := miH mi) hy rfl ?_
  intro p e s m args below meth c s₁ B hml hP
  obtain ⟨rfl, hg, ho, hh⟩ := hP
  have hts := atoms_spec (ws := Cond.codeWith (miY mi) (miC mi) (miL mi) (miR mi) (miH mi) :: ALLW) B.pre
  have hT : c.exceptionTable.toList = tableOf (miH mi) := vx_table (x := miY mi) B (hts _ List.mem_cons_self)
  have hC : Cn G mi p s m As.toArray meth c := ⟨B.exec, B.bytes, hml, B.returns, B.notSynchronized, hT, findClass_of_methodNamed B.named, (name_of_methodNamed B.named B.method).1, fun w hw => hts w (List.mem_cons_of_mem _ hw), hg, ho, hd⟩
  rw [lg_entry_eq]
  exact h p e s m As.toArray below meth c s.heap [] _ hC va_S.rf hh ⟨xl_entry As hA, by simp only [List.length_append, List.length_replicate]; exact hz⟩
/-- a contract that throws nothing is one of the kit's plain ones -/
theorem met_of {G : Gx} {mi : MI} {As : List Value} {M : Mm} {Q : Rs → Mm → Prop} (h : MC G mi As M Q) (hn : ∀ E M', ¬ Q (.inr E) M') : Met (gl G) (miY mi) (cdw mi :: ALLW) (miM mi) (xP G As M) (xq G Q) (miM mi).cells (miM mi).slots (gA G) := by
  intro p e h1 h2 h3 s m args below h4 h5 h6 h7
  obtain ⟨z, o, a1, a2, a3, a4⟩ := h p e h1 h2 h3 s m args below h4 h5 h6 h7
  refine ⟨z, o, a1, a2, a3, ?_⟩
  rcases a4 with a4 | ⟨q, rfl, E, ce, L, ⟨M', hq, -⟩, -⟩
  · exact a4
  · exact absurd hq (hn E M')
/-- another end that the first one gives -/
theorem mc_mono {G : Gx} {mi : MI} {As : List Value} {M : Mm} {Q Q' : Rs → Mm → Prop} (h : MC G mi As M Q) (hQ : ∀ r M', Q r M' → Q' r M') : MC G mi As M Q' := by
  intro p e h1 h2 h3 s m args below h4 h5 h6 h7
  obtain ⟨z, o, a1, a2, a3, a4⟩ := h p e h1 h2 h3 s m args below h4 h5 h6 h7
  refine ⟨z, o, a1, a2, a3, ?_⟩
  rcases a4 with ⟨⟨v, M', e1, e2, e3⟩, e4⟩ | ⟨q, e0, E, ce, L, ⟨M', e1, e2⟩, e3⟩
  · exact Or.inl ⟨⟨v, M', e1, hQ _ _ e2, e3⟩, e4⟩
  · exact Or.inr ⟨q, e0, E, ce, L, ⟨M', hQ _ _ e1, e2⟩, e3⟩
/-- what a call asks of numbers: frames, words, cells, slots, how many arguments -/
def cok (mi mi' : MI) (k n na : Nat) : Bool :=
  Nat.ble ((miM mi').frames + 1) (miM mi).frames && (Nat.ble (8 + (miL mi' + 11) + (miM mi').locals) (miM mi).locals && (Nat.ble (k + (miM mi').cells) (miM mi).cells && (Nat.ble (n + (miM mi').slots) (miM mi).slots &&
  (decide ((miY mi').cls ≠ "java/lang/invoke/MethodHandle") && (decide ((miY mi').cls ≠ "java/lang/invoke/VarHandle") && decide ((parseMethodDescriptor (miY mi').desc).map (fun d => d.parameters.length) = some na))))))
theorem cok_ok {mi mi' : MI} {k n na : Nat} (h : cok mi mi' k n na = true) : (miM mi').frames + 1 ≤ (miM mi).frames ∧ 8 + (miL mi' + 11) + (miM mi').locals ≤ (miM mi).locals ∧ k + (miM mi').cells ≤ (miM mi).cells ∧ n + (miM mi').slots ≤ (miM mi).slots ∧ (miY mi').cls ≠ "java/lang/invoke/MethodHandle" ∧ (miY mi').cls ≠ "java/lang/invoke/VarHandle" ∧ (∀ sig, parseMethodDescriptor (miY mi').desc = some sig → na = sig.parameters.length) := by
  simp only [cok, Bool.and_eq_true, decide_eq_true_eq] at h
  obtain ⟨h1, h2, h3, h4, h5, h6, h7⟩ := h
  refine ⟨Nat.le_of_ble_eq_true h1, Nat.le_of_ble_eq_true h2, Nat.le_of_ble_eq_true h3, Nat.le_of_ble_eq_true h4, h5, h6, fun sig hs => ?_⟩
  rw [hs] at h7
  exact (Option.some.inj h7).symm
theorem allw_good {w : Cond} (h : w ∈ ALLW) : (w.onTables && w.keeps) = true ∨ ∃ ty, w = .arrayClass ty := good_of_word (List.mem_filter.mp h).2
/-- what is thrown over the frame at pc -/
def ET (G : Gx) (mi : MI) (Q : Rs → Mm → Prop) (M : Mm) (k n pc : Nat) (L : List (Option Value)) (st : List Value) (X : String) : Prop :=
  ∀ (p : Program) (e : Env) (s : State) (m : MethodId) (args : Array Value) (below : List Frame) (meth : Method) (c : Code) (H : Heap) (locs : List Loc) (ls : Array Slot) (q : Nat) (ce : Cell),
    Cn G mi p s m args meth c → va_S (gA G) s.heap H locs → xh G M H → xL ls (miL mi) L → H[q]? = some ce → ce.vm = .none → s.vm.findClass X = some ce.cls →
    vx_W p (gl G) e (miM mi) s m args below meth c H locs k n (vx_MQ below (xq G Q) (xx G Q) args s (miM mi).cells (miM mi).slots (gA G)) (F0 m pc ls st) q
section EC
variable {G : Gx} {mi mi' : MI} {Q Q' : Rs → Mm → Prop} {M : Mm} {k n pc idx : Nat} {L : List (Option Value)} {As rest : List Value} {X : String}
theorem et_out (hH : miH mi = []) (hk : k ≤ (miM mi).cells) (hn : n ≤ (miM mi).slots) (hq : Q (.inr X) M) : ET G mi Q M k n pc L rest X := by
  intro p e s m args below meth c H locs ls q ce hC hS hM hl hce hcv hcl
  refine vx_out (fun x hx => ?_) hC.2.2.2.2.1 hce hcv hcl (fun t ht hW => ⟨M, hq, by rw [ht]; exact hM, hS.F ht⟩) (fun z hz => hS.2.2 z hz) hk hn
  rw [hC.2.2.2.2.2.1, hH] at hx
  cases hx
/-- the words of a callee hold wherever its call comes to -/
theorem ew_ws {p : Program} {s : State} {m : MethodId} {args : Array Value} {meth : Method} {c : Code} (hC : Cn G mi p s m args meth c) (hcd : cdw mi' ∈ ALLW) : ∀ w ∈ cdw mi' :: ALLW, ∀ (a' : Array Value) (U : State), s.WarmedH U.vm → w.before a' U = true := by
  intro w hw a' U hW
  rcases List.mem_cons.mp hw with rfl | hw
  · exact word_at hW (allw_good hcd) (hC.ws hcd)
  · exact word_at hW (allw_good hw) (hC.ws hw)
theorem e_run {p : Program} {e : Env} {s : State} {m : MethodId} {args a' : Array Value} {below : List Frame} {meth : Method} {c : Code} {H : Heap} {locs : List Loc} {ls : Array Slot} {st0 : List Value} {mc ms : Nat}
    (hC : Cn G mi p s m args meth c) (hS : va_S (gA G) s.heap H locs) (hl : xL ls (miL mi) L)
    (hr : vx_Run p (gl G) e (miM mi) s m args below meth c H locs k n mc ms (F0 m pc ls st0) rest (xq G Q' a') (xx G Q') (gA G))
    (hret : ∀ (v : Option Value) (M' : Mm), Q' (.inl v) M' → E G mi Q M' (k + mc) (n + ms) (pc + 3) L (v.toList ++ rest))
    (hthr : ∀ (X : String) (M' : Mm), Q' (.inr X) M' → ET G mi Q M' (k + mc) (n + ms) pc L rest X) :
    W p (gl G) e (miM mi) s m args below meth c H locs k n (vx_MQ below (xq G Q) (xx G Q) args s (miM mi).cells (miM mi).slots (gA G)) (F0 m pc ls st0) := by
  intro T hT U
  rcases hr T hT U with ⟨v, st₀, t, T', L9, h0, X', hL, e1, e2, ⟨v', M', hv, hq, hx, hF⟩, st⟩ | ⟨q, st₀, t, T', L9, X, ce, h0, X', hL, e1, e2, ⟨M', hq, hx, hF⟩, hce, hcv, hcl, st⟩
  · cases hv
    obtain ⟨k1, k2, k3⟩ := vx_keep h0 e1 hS (fun _ _ h => h) (fun _ h => h) hL hF
    obtain ⟨t2, a1, b1⟩ := hret v M' hq p e s m args below meth c T'.heap (locs ++ L9) ls hC k3 (by rw [e1]; exact hx) hl T' rfl X'
    exact ⟨t2, st t2 a1, b1⟩
  · obtain ⟨k1, k2, k3⟩ := vx_keep h0 e1 hS (fun _ _ h => h) (fun _ h => h) hL hF
    obtain ⟨t2, a1, b1⟩ := hthr X M' hq p e s m args below meth c T'.heap (locs ++ L9) ls q ce hC k3 (by rw [e1]; exact hx) hl (by rw [e1]; exact hce) hcv hcl T' rfl X'
    exact ⟨t2, st.trans a1, b1⟩
/-- a call that throws nothing -/
theorem e_run0 {p : Program} {e : Env} {s : State} {m : MethodId} {args a' : Array Value} {below : List Frame} {meth : Method} {c : Code} {H : Heap} {locs : List Loc} {ls : Array Slot} {st0 : List Value} {mc ms : Nat}
    (hC : Cn G mi p s m args meth c) (hS : va_S (gA G) s.heap H locs) (hl : xL ls (miL mi) L)
    (hr : va_Run p (gl G) e (miM mi) s m args below meth c H locs k n mc ms (F0 m pc ls st0) rest (xq G Q' a') (gA G))
    (hret : ∀ (v : Option Value) (M' : Mm), Q' (.inl v) M' → E G mi Q M' (k + mc) (n + ms) (pc + 3) L (v.toList ++ rest)) :
    W p (gl G) e (miM mi) s m args below meth c H locs k n (vx_MQ below (xq G Q) (xx G Q) args s (miM mi).cells (miM mi).slots (gA G)) (F0 m pc ls st0) := by
  intro T hT U
  obtain ⟨v, st₀, t, T', L9, h0, X', hL, e1, e2, ⟨v', M', hv, hq, hx, hF⟩, st⟩ := hr T hT U
  cases hv
  obtain ⟨k1, k2, k3⟩ := vx_keep h0 e1 hS (fun _ _ h => h) (fun _ h => h) hL hF
  obtain ⟨t2, a1, b1⟩ := hret v M' hq p e s m args below meth c T'.heap (locs ++ L9) ls hC k3 (by rw [e1]; exact hx) hl T' rfl X'
  exact ⟨t2, st t2 a1, b1⟩
theorem e_pre {p : Program} {s : State} {m : MethodId} {args : Array Value} {meth : Method} {c : Code} {H : Heap} {locs : List Loc} (hC : Cn G mi p s m args meth c) (hS : va_S (gA G) s.heap H locs) (hM : xh G M H) (As : List Value) : ∀ U : State, U.heap = H → s.WarmedH U.vm → xP G As M As.toArray U := by
  intro U hU hW
  exact ⟨rfl, hC.g.warm hW, by rw [hU]; exact hC.o.go hS, by rw [hU]; exact hM⟩
/-- invokestatic -/
theorem e_callS (hd : lkp (miI mi) 0 pc = some (.invokestatic idx, 3)) (hM' : MC G mi' As M Q') (hH : miH mi' = []) (hwl : Cond.methodLink (miY mi).cls idx (miY mi') ∈ ALLW) (hws : Cond.static (miY mi') ∈ ALLW) (hwi : Cond.initialized (miY mi').cls ∈ ALLW) (hwc : cdw mi' ∈ ALLW)
    (hok : cok mi mi' k n As.length = true) (hrm : (rest.map fun v => v.category).sum ≤ 8)
    (hret : ∀ (v : Option Value) (M' : Mm), Q' (.inl v) M' → E G mi Q M' (k + (miM mi').cells) (n + (miM mi').slots) (pc + 3) L (v.toList ++ rest))
    (hthr : ∀ (X : String) (M' : Mm), Q' (.inr X) M' → ET G mi Q M' (k + (miM mi').cells) (n + (miM mi').slots) pc L rest X) : E G mi Q M k n pc L (As.reverse ++ rest) := by
  intro p e s m args below meth c H locs ls hC hS hM hl
  obtain ⟨o1, o2, o3, o4, o5, o6, o7⟩ := cok_ok hok
  have hcd : cdw mi' = .code (miY mi') (miC mi') (miL mi') (miR mi') := by unfold cdw; rw [hH]
  have hw9 := ew_ws hC hwc
  have hc9 := hC.ws hwc
  unfold MC at hM'
  rw [hcd] at hM' hw9 hc9
  exact e_run hC hS hl (vx_runS (As := As) (Ts := ALLW) ⟨hC.1, hC.2.1, hC.2.2.1, hC.own, hC.2.2.2.2.2.2.2.2.1⟩ hM' ⟨⟨rfl, rfl, o1, o2, hw9, List.mem_cons_self, hc9, hC.ws hwi, ⟨o5, o6⟩, o7, hC.ws hwl⟩, hC.ws hws⟩ ⟨xP_blind G As M, e_pre hC hS hM As⟩ rfl rfl hl.1.1 rfl (lv_room hrm) (hC.dec hd) ⟨o3, o4⟩) hret hthr
/-- invokestatic of a nest mate's, which throws nothing -/
theorem e_callSN {host : String} (hd : lkp (miI mi) 0 pc = some (.invokestatic idx, 3)) (hM' : MC G mi' As M Q') (hno : ∀ X M', ¬ Q' (.inr X) M') (hH : miH mi' = []) (hwl : Cond.methodLinkNest (miY mi).cls idx (miY mi') host ∈ OTHW) (hws : Cond.static (miY mi') ∈ ALLW) (hwi : Cond.initialized (miY mi').cls ∈ ALLW) (hwc : cdw mi' ∈ ALLW)
    (hok : cok mi mi' k n As.length = true) (hrm : (rest.map fun v => v.category).sum ≤ 8)
    (hret : ∀ (v : Option Value) (M' : Mm), Q' (.inl v) M' → E G mi Q M' (k + (miM mi').cells) (n + (miM mi').slots) (pc + 3) L (v.toList ++ rest)) : E G mi Q M k n pc L (As.reverse ++ rest) := by
  intro p e s m args below meth c H locs ls hC hS hM hl
  obtain ⟨o1, o2, o3, o4, o5, o6, o7⟩ := cok_ok hok
  have hcd : cdw mi' = .code (miY mi') (miC mi') (miL mi') (miR mi') := by unfold cdw; rw [hH]
  have hw9 := ew_ws hC hwc
  have hc9 := hC.ws hwc
  have hM9 := met_of hM' hno
  rw [hcd] at hM9 hw9 hc9
  exact e_run0 hC hS hl (va_runSN (As := As) (Ts := ALLW) ⟨hC.1, hC.2.1, hC.2.2.1, hC.own, hC.2.2.2.2.2.2.2.2.1⟩ hM9 ⟨⟨⟨rfl, rfl, o1, o2, hw9, List.mem_cons_self⟩, hc9, hC.ws hwi, ⟨o5, o6⟩, o7, va_Nw.use rfl (hC.g.2.1 _ hwl)⟩, hC.ws hws, trivial⟩ ⟨xP_blind G As M, e_pre hC hS hM As⟩ rfl rfl hl.1.1 rfl (lv_room hrm) (hC.dec hd) ⟨o3, o4⟩) hret
/-- invokevirtual -/
theorem e_callV {b ci : Nat} {q : vw_C} (hd : lkp (miI mi) 0 pc = some (.invokevirtual idx, 3)) (hM' : MC G mi' (.ref b :: As) M Q') (hb : ob M b ci) (hci : vwCl[ci]? = some q) (hq : q.1 = (miY mi').cls) (hH : miH mi' = []) (hwl : Cond.methodLink (miY mi).cls idx (miY mi') ∈ ALLW) (hwn : Cond.instanceMethod (miY mi') ∈ ALLW) (hse : Cond.selects (miY mi').cls (miY mi') (miY mi') ∈ ALLW) (hwi : Cond.initialized (miY mi').cls ∈ ALLW) (hwc : cdw mi' ∈ ALLW)
    (hok : cok mi mi' k n As.length = true) (hrm : (rest.map fun v => v.category).sum ≤ 8)
    (hret : ∀ (v : Option Value) (M' : Mm), Q' (.inl v) M' → E G mi Q M' (k + (miM mi').cells) (n + (miM mi').slots) (pc + 3) L (v.toList ++ rest))
    (hthr : ∀ (X : String) (M' : Mm), Q' (.inr X) M' → ET G mi Q M' (k + (miM mi').cells) (n + (miM mi').slots) pc L rest X) : E G mi Q M k n pc L (As.reverse ++ .ref b :: rest) := by
  intro p e s m args below meth c H locs ls hC hS hM hl
  obtain ⟨o1, o2, o3, o4, o5, o6, o7⟩ := cok_ok hok
  have hcd : cdw mi' = .code (miY mi') (miC mi') (miL mi') (miR mi') := by unfold cdw; rw [hH]
  have hw9 := ew_ws hC hwc
  have hc9 := hC.ws hwc
  unfold MC at hM'
  rw [hcd] at hM' hw9 hc9
  obtain ⟨z, hz⟩ := xw_get (G := G) hb.1
  rw [ent_o hb.2 (clok ci q hci).1] at hz
  have hrc := va_recv hC.g.1 hM.1 hci hz
  rw [hq] at hrc
  exact e_run hC hS hl (vx_runV (As := As) (C := (miY mi').cls) (Ts := ALLW) ⟨hC.1, hC.2.1, hC.2.2.1, hC.own, hC.2.2.2.2.2.2.2.2.1⟩ hM' ⟨⟨rfl, rfl, o1, o2, hw9, List.mem_cons_self, hc9, hC.ws hwi, ⟨o5, o6⟩, o7, hC.ws hwl⟩, hC.ws hwn, hC.ws hse⟩ ⟨xP_blind G _ M, hrc, e_pre hC hS hM _⟩ rfl rfl hl.1.1 rfl (lv_room hrm) (hC.dec hd) ⟨o3, o4⟩) hret hthr
/-- a constructor, which throws nothing -/
theorem e_callI {b : Nat} (hd : lkp (miI mi) 0 pc = some (.invokespecial idx, 3)) (hM' : MC G mi' (.ref b :: As) M Q') (hno : ∀ X M', ¬ Q' (.inr X) M') (hH : miH mi' = []) (hR : miR mi' = none) (hin : (miY mi').name = "<init>") (hwl : Cond.methodLink (miY mi).cls idx (miY mi') ∈ ALLW) (hwn : Cond.instanceMethod (miY mi') ∈ ALLW) (hwi : Cond.initialized (miY mi').cls ∈ ALLW) (hwc : cdw mi' ∈ ALLW)
    (hok : cok mi mi' k n As.length = true) (hrm : (rest.map fun v => v.category).sum ≤ 8)
    (hret : ∀ (v : Option Value) (M' : Mm), Q' (.inl v) M' → E G mi Q M' (k + (miM mi').cells) (n + (miM mi').slots) (pc + 3) L (v.toList ++ rest)) : E G mi Q M k n pc L (As.reverse ++ .ref b :: rest) := by
  intro p e s m args below meth c H locs ls hC hS hM hl
  obtain ⟨o1, o2, o3, o4, o5, o6, o7⟩ := cok_ok hok
  have hcd : cdw mi' = .code (miY mi') (miC mi') (miL mi') none := by unfold cdw; rw [hH, ← hR]
  have hw9 := ew_ws hC hwc
  have hc9 := hC.ws hwc
  have hM9 := met_of hM' hno
  rw [hcd] at hM9 hw9 hc9
  exact e_run0 hC hS hl (va_runI (As := As) (Ts := ALLW) ⟨hC.1, hC.2.1, hC.2.2.1, hC.own, hC.2.2.2.2.2.2.2.2.1⟩ hM9 ⟨⟨rfl, rfl, o1, o2, hw9, List.mem_cons_self, hc9, hC.ws hwi, ⟨o5, o6⟩, o7, hC.ws hwl⟩, hin, hC.ws hwn⟩ ⟨xP_blind G _ M, e_pre hC hS hM _⟩ rfl rfl hl.1.1 rfl (lv_room hrm) (hC.dec hd) ⟨o3, o4⟩) hret
end EC
