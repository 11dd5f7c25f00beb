/-! the start: the fixed things out of the Statement's premises -/
def adr (v : Option Value) : Nat := match v with
  | some (.ref a) => a
  | _ => 0
def stT (j : Nat) : Term := match stW.find? (fun q => q.2.2.2 == j) with
  | some q => .string q.1 q.2.1
  | none => .arg 0
def vlT (j : Nat) : Term := .field (stT j) "java/lang/String" "value" "[B"
def lsT : Term := .static "CalendarOrders" "LEAST" "[I"
def grT : Term := .static "CalendarOrders" "GREATEST" "[I"
def zS (b L : Nat) (s : State) (j : Nat) : Nat :=
  if j = 200 then b else if j = 201 then L else if j = 0 then adr (lsT.eval #[Value.ref b] s none [] s) else if j = 1 then adr (grT.eval #[Value.ref b] s none [] s)
  else if j < 64 then adr ((stT j).eval #[Value.ref b] s none [] s) else adr ((vlT (j - 64)).eval #[Value.ref b] s none [] s)
def tyY (k : Nat) : FieldType := match k with
  | 8 => .byte
  | 9 => .int
  | 10 => .long
  | 11 => .boolean
  | 12 => .object "CalendarOrders$Order"
  | _ => .object "CalendarOrders$Zone"
def zY (s : State) (k : Nat) : ClassId := (s.vm.findClass ("[" ++ (tyY k).toString)).getD 0
def nar : List Cond := flatC (Jvm.Cond.and given_1 narrow_1)
theorem st_ok : ∀ q ∈ stW, q.2.2.2 ≠ 200 ∧ q.2.2.2 ≠ 201 ∧ q.2.2.2 ≠ 0 ∧ q.2.2.2 ≠ 1 ∧ q.2.2.2 < 64 ∧ stT q.2.2.2 = .string q.1 q.2.1 := by decide +kernel
theorem st_nar : ∀ q ∈ stW, Cond.exactly (.string q.1 q.2.1) "java/lang/String" ∈ nar := by decide +kernel
theorem st_wd : ∀ q ∈ stW, Cond.stringRef q.1 q.2.1 q.2.2.1 ∈ lw_tbl := by decide +kernel
theorem tx_ok : ∀ q ∈ txW, q.1 ≠ 200 ∧ q.1 ≠ 201 ∧ q.1 ≠ 0 ∧ q.1 ≠ 1 ∧ q.1 < 64 ∧ q.1 + 64 ≠ 200 ∧ q.1 + 64 ≠ 201 ∧ q.2.length < 100 := by decide +kernel
def txP (b : Nat) (q : Nat × List Int32) : Prop := nar[b]? = some (Cond.exactly (stT q.1) "java/lang/String") ∧ nar[b + 1]? = some (Cond.eq (.field (stT q.1) "java/lang/String" "coder" "B") (.int 0)) ∧ nar[b + 2]? = some (Cond.arrayOf (vlT q.1) .byte) ∧ nar[b + 3]? = some (Cond.eq (.length (vlT q.1)) (.int (Int32.ofNat q.2.length))) ∧ (∀ j ∈ List.range q.2.length, nar[b + 4 + j]? = some (Cond.eq (.elem (vlT q.1) (.int (Int32.ofNat j))) (.int (q.2.getD j 0))))
theorem txn_14 : txP 336 (14, [104, 111, 117, 114, 108, 121]) := by unfold txP; decide +kernel
theorem txn_15 : txP 346 (15, [100, 97, 105, 108, 121]) := by unfold txP; decide +kernel
theorem txn_16 : txP 355 (16, [119, 101, 101, 107, 108, 121]) := by unfold txP; decide +kernel
theorem txn_17 : txP 365 (17, [109, 111, 110, 116, 104, 108, 121]) := by unfold txP; decide +kernel
theorem txn_18 : txP 376 (18, [121, 101, 97, 114, 108, 121]) := by unfold txP; decide +kernel
theorem txn_19 : txP 386 (19, [106, 97, 110, 102, 101, 98, 109, 97, 114, 97, 112, 114, 109, 97, 121, 106, 117, 110, 106, 117, 108, 97, 117, 103, 115, 101, 112, 111, 99, 116, 110, 111, 118, 100, 101, 99]) := by unfold txP; decide +kernel
theorem txn_20 : txP 426 (20, [115, 117, 110, 109, 111, 110, 116, 117, 101, 119, 101, 100, 116, 104, 117, 102, 114, 105, 115, 97, 116]) := by unfold txP; decide +kernel
theorem tx_ex : ∀ q ∈ txW, ∃ b, txP b q := List.forall_mem_cons.mpr ⟨⟨_, txn_14⟩, List.forall_mem_cons.mpr ⟨⟨_, txn_15⟩, List.forall_mem_cons.mpr ⟨⟨_, txn_16⟩, List.forall_mem_cons.mpr ⟨⟨_, txn_17⟩, List.forall_mem_cons.mpr ⟨⟨_, txn_18⟩, List.forall_mem_cons.mpr ⟨⟨_, txn_19⟩, List.forall_mem_cons.mpr ⟨⟨_, txn_20⟩, fun _ h => absurd h List.not_mem_nil⟩⟩⟩⟩⟩⟩⟩
theorem tx_nar (q : Nat × List Int32) (hq : q ∈ txW) : Cond.exactly (stT q.1) "java/lang/String" ∈ nar ∧ Cond.eq (.field (stT q.1) "java/lang/String" "coder" "B") (.int 0) ∈ nar ∧ Cond.arrayOf (vlT q.1) .byte ∈ nar ∧ Cond.eq (.length (vlT q.1)) (.int (Int32.ofNat q.2.length)) ∈ nar ∧ (∀ j ∈ List.range q.2.length, Cond.eq (.elem (vlT q.1) (.int (Int32.ofNat j))) (.int (q.2.getD j 0)) ∈ nar) := by
  obtain ⟨b, h1, h2, h3, h4, h5⟩ := tx_ex q hq
  exact ⟨List.mem_of_getElem? h1, List.mem_of_getElem? h2, List.mem_of_getElem? h3, List.mem_of_getElem? h4, fun j hj => List.mem_of_getElem? (h5 j hj)⟩
theorem nc_nar : ∀ q ∈ ncW, Cond.not (.castable q.1 q.2) ∈ nar := by decide +kernel
theorem ls_nar : Cond.arrayOf lsT .int ∈ nar ∧ Cond.eq (.length lsT) (.int (Int32.ofNat 6)) ∈ nar ∧ (∀ j ∈ List.range 6, Cond.eq (.elem lsT (.int (Int32.ofNat j))) (.int (tbL j)) ∈ nar) := by decide +kernel
theorem gr_nar : Cond.arrayOf grT .int ∈ nar ∧ Cond.eq (.length grT) (.int (Int32.ofNat 6)) ∈ nar ∧ (∀ j ∈ List.range 6, Cond.eq (.elem grT (.int (Int32.ofNat j))) (.int (tbG j)) ∈ nar) := by decide +kernel
theorem ot_nar : Cond.isRef (.static "java/lang/Throwable" "UNASSIGNED_STACK" "[Ljava/lang/StackTraceElement;") ∈ nar ∧ Cond.isRef (.static "java/lang/Throwable" "SUPPRESSED_SENTINEL" "Ljava/util/List;") ∈ nar ∧ Cond.eq (.static "java/lang/String" "COMPACT_STRINGS" "Z") (.int 1) ∈ nar ∧ Cond.isRef (.static "jdk/internal/util/Preconditions" "SIOOBE_FORMATTER" "Ljava/util/function/BiFunction;") ∈ nar := by decide +kernel
def zwd : List Cond := [.laysStatic "java/lang/Throwable" "UNASSIGNED_STACK" "[Ljava/lang/StackTraceElement;", .laysStatic "java/lang/Throwable" "SUPPRESSED_SENTINEL" "Ljava/util/List;", .initialized "java/lang/Throwable", .laysStatic "java/lang/String" "COMPACT_STRINGS" "Z", .initialized "java/lang/String", .laysStatic "jdk/internal/util/Preconditions" "SIOOBE_FORMATTER" "Ljava/util/function/BiFunction;", .initialized "jdk/internal/util/Preconditions", .laysStatic "CalendarOrders" "LEAST" "[I", .laysStatic "CalendarOrders" "GREATEST" "[I", .initialized "CalendarOrders", .arrayOver (.object "CalendarOrders$Zone"), .arrayOver (.object "CalendarOrders$Order"), .arrayClass .byte, .arrayClass .int, .arrayClass .long, .arrayClass .boolean, .instantiable "CalendarOrders$Civil" 6, .instantiable "CalendarOrders$Log" 5, .instantiable "CalendarOrders$Order" 17, .instantiable "CalendarOrders$Rule" 13, .instantiable "CalendarOrders$Tape" 6, .instantiable "CalendarOrders$Zone" 3, .instantiable "CalendarOrders" 9, .instantiable "CalendarOrdersModel" 60]
theorem zwd_in : ∀ w ∈ zwd, w ∈ lw_tbl := by decide +kernel
theorem kn_ex {s : State} {args : Array Value} (hw : ∀ w ∈ lw_tbl, w.before args s = true) (c : Nat) (q : vw_C) (h : vwCl[c]? = some q) : ∃ p : ClassId × (Nat → Nat), u_Kn s q.1 q.2.1 q.2.2 p.1 p.2 := by
  have ha : ∀ w ∈ ALLW, w.before args s = true := fun w h => hw w (List.mem_filter.mp h).1
  have hz : ∀ w ∈ zwd, w.before args s = true := fun w h => hw w (zwd_in w h)
  have hin := (clok c q h).2.1
  have hi : (Cond.instantiable q.1 q.2.2).before args s = true := by
    match c, h with
    | 0, h => cases h; exact hz _ (by decide +kernel)
    | 1, h => cases h; exact hz _ (by decide +kernel)
    | 2, h => cases h; exact hz _ (by decide +kernel)
    | 3, h => cases h; exact hz _ (by decide +kernel)
    | 4, h => cases h; exact hz _ (by decide +kernel)
    | 5, h => cases h; exact hz _ (by decide +kernel)
    | 6, h => cases h; exact hz _ (by decide +kernel)
    | 7, h => cases h; exact hz _ (by decide +kernel)
    | c + 8, h => simp [vwCl] at h
  obtain ⟨cC, iS, hk⟩ := u_known ha hin hi
  exact ⟨(cC, iS), hk⟩
theorem kn_all {s : State} {args : Array Value} (hw : ∀ w ∈ lw_tbl, w.before args s = true) : ∃ D : va_G, ∀ (c : Nat) (q : vw_C), vwCl[c]? = some q → u_Kn s q.1 q.2.1 q.2.2 (D.1 c) (D.2 c) := by
  have h : ∀ c : Nat, ∃ p : ClassId × (Nat → Nat), ∀ q : vw_C, vwCl[c]? = some q → u_Kn s q.1 q.2.1 q.2.2 p.1 p.2 := by
    intro c
    cases hc : vwCl[c]? with
    | none => exact ⟨(0, fun _ => 0), fun q h => by cases h⟩
    | some q0 =>
      obtain ⟨p, hp⟩ := kn_ex hw c q0 hc
      exact ⟨p, fun q h => by cases h; exact hp⟩
  obtain ⟨f, hf⟩ := Classical.axiomOfChoice h
  exact ⟨(fun c => (f c).1, fun c => (f c).2), fun c q hq => hf c q hq⟩
theorem zY_p {s : State} {args : Array Value} (k : Nat) (hk : 8 ≤ k ∧ k < 12) (h : (Cond.arrayClass (tyY k)).before args s = true) : ArrOfT s (zY s k) (tyY k) ∧ va_RA s (zY s k) (tyY k) := by
  obtain ⟨c, kA, comp, h1, h2, h3⟩ := Cond.arrayClass_spec h
  have hz : zY s k = c := by unfold zY; rw [h1]; rfl
  rw [hz]
  refine ⟨fun n z => ⟨fun k h => (by cases h), kA, h2, comp, h3⟩, ?_⟩
  have : k = 8 ∨ k = 9 ∨ k = 10 ∨ k = 11 := by omega
  rcases this with rfl | rfl | rfl | rfl <;> exact h1
theorem zY_o {s : State} {args : Array Value} (k : Nat) (C : String) (hk : tyY k = .object C) (h : (Cond.arrayOver (.object C)).before args s = true) : ArrOfT s (zY s k) (.object C) ∧ va_RA s (zY s k) (.object C) := by
  obtain ⟨comp, c, kA, h1, -, h2, h3, h4⟩ := Cond.arrayOver_spec h
  have hz : zY s k = c := by unfold zY; rw [hk, h4]; rfl
  rw [hz]
  exact ⟨fun n z => ⟨fun k h => (by cases h), kA, h2, comp, h3⟩, kA, comp, h2, h3, h1, h4⟩
theorem adr_ref {v : Option Value} {a : Nat} (h : v = some (.ref a)) : adr v = a := by rw [h]; rfl
theorem start_ST {l : Launch} (hl : l.stackTraces = false) {s : State} {b L : Nat} {xs : Nat → Int32} (D : va_G) (hw : ∀ w ∈ lw_tbl, w.before #[Value.ref b] s = true) (hX : va_X b L xs s s.heap) (hb : b < s.heap.size) (hg : (Jvm.Cond.and given_1 narrow_1).before #[Value.ref b] s = true) : ST (l, s.heap, D, zY s, zS b L s, xs) s := by
  have hz : ∀ w ∈ zwd, w.before #[Value.ref b] s = true := fun w h => hw w (zwd_in w h)
  have hn : ∀ c ∈ nar, c.before #[Value.ref b] s = true := flat_of_before _ hg
  have hA : ∀ a : Nat, a < s.heap.size → ¬ gA (l, s.heap, D, zY s, zS b L s, xs) a := fun a h => Nat.not_le.mpr h
  generalize hG : ((l, s.heap, D, zY s, zS b L s, xs) : Gx) = G at hA ⊢
  have hS : gS G = zS b L s := by rw [← hG]; rfl
  have hH : gH G = s.heap := by rw [← hG]; rfl
  have hXX : gX G = xs := by rw [← hG]; rfl
  have hll : gl G = l := by rw [← hG]; rfl
  unfold ST
  rw [hS, hH, hXX, hll]
  obtain ⟨l1, l2, l3⟩ := ls_nar
  obtain ⟨r1, r2, r3⟩ := gr_nar
  obtain ⟨t, ht, hT⟩ := va_Tof (f := fun j => .int (tbL j)) (A := gA G) (by decide : 6 < 2 ^ 31) (hn _ l1) (va_eqt (hn _ l2)) (fun j hj => va_eqt (hn _ (l3 j (List.mem_range.mpr hj)))) hA
  obtain ⟨u, hu, hU⟩ := va_Tof (f := fun j => .int (tbG j)) (A := gA G) (by decide : 6 < 2 ^ 31) (hn _ r1) (va_eqt (hn _ r2)) (fun j hj => va_eqt (hn _ (r3 j (List.mem_range.mpr hj)))) hA
  have e0 : zS b L s 0 = t := adr_ref ht
  have e1 : zS b L s 1 = u := adr_ref hu
  rw [e0, e1]
  refine ⟨hl, vx_Zqof (hz _ (by decide +kernel)) (hz _ (by decide +kernel)) (hn _ ot_nar.1) hA, vx_Zqof (hz _ (by decide +kernel)) (hz _ (by decide +kernel)) (hn _ ot_nar.2.1) hA, fun q hq => va_Nc.of (hn _ (nc_nar q hq)), fun q hq => ?_,
    va_Zof (hz _ (by decide +kernel)) (hz _ (by decide +kernel)) ht hA, hT, va_Zof (hz _ (by decide +kernel)) (hz _ (by decide +kernel)) hu hA, hU,
    va_AO.of (hz _ (by decide +kernel)), va_AO.of (hz _ (by decide +kernel)), va_Zof (hz _ (by decide +kernel)) (hz _ (by decide +kernel)) (va_eqt (hn _ ot_nar.2.2.1)) hA, va_Zqof (hz _ (by decide +kernel)) (hz _ (by decide +kernel)) (hn _ ot_nar.2.2.2) hA, ?_, fun q hq => ?_⟩
  · obtain ⟨a, c, cA, kA, q1, q2, q3, q4, q5, q6, -⟩ := Cond.exactly_spec (args := #[Value.ref b]) (first := s) (o := none) (s := s) (idx := []) (hn _ (st_nar q hq))
    obtain ⟨o1, o2, o3, o4, o5, o6⟩ := st_ok q hq
    have : zS b L s q.2.2.2 = a := by
      unfold zS
      rw [if_neg o1, if_neg o2, if_neg o3, if_neg o4, if_pos o5, o6]
      exact adr_ref q1
    rw [this]
    exact vk_R.of (hw _ (st_wd q hq)) q1
  · obtain ⟨scr, x1, x2, x3, x4, x5⟩ := hX
    have e2 : zS b L s 200 = b := rfl
    have e3 : zS b L s 201 = L := rfl
    rw [e2, e3]
    exact ⟨scr, x1, x2, x3, by omega, by rw [x4], x5, hA b hb⟩
  · obtain ⟨n1, n2, n3, n4, n5⟩ := tx_nar q hq
    obtain ⟨o1, o2, o3, o4, o5, o6, o7, o8⟩ := tx_ok q hq
    obtain ⟨a, c, cA, kA, q1, q2, q3, q4, q5, q6, -⟩ := Cond.exactly_spec (args := #[Value.ref b]) (first := s) (o := none) (s := s) (idx := []) (hn _ n1)
    obtain ⟨v, hv, hV⟩ := va_Tof (f := fun j => .int (q.2.getD j 0)) (A := gA G) (by omega : q.2.length < 2 ^ 31) (hn _ n3) (va_eqt (hn _ n4)) (fun j hj => va_eqt (hn _ (n5 j (List.mem_range.mpr hj)))) hA
    have e2 : zS b L s q.1 = a := by
      unfold zS
      rw [if_neg o1, if_neg o2, if_neg o3, if_neg o4, if_pos o5]
      exact adr_ref q1
    have e3 : zS b L s (q.1 + 64) = v := by
      unfold zS
      rw [if_neg o6, if_neg o7, if_neg (by omega), if_neg (by omega), if_neg (by omega), Nat.add_sub_cancel]
      exact adr_ref hv
    rw [e2, e3]
    exact ⟨va_Oof (hn _ n1) q1 hA, vk_OFof q1 (va_eqt (hn _ n2)) hA, vk_OFof q1 hv hA, hV⟩
theorem start_xg {l : Launch} (hl : l.stackTraces = false) {s : State} {b L : Nat} {xs : Nat → Int32} (hw : ∀ w ∈ lw_tbl, w.before #[Value.ref b] s = true) (hX : va_X b L xs s s.heap) (hb : b < s.heap.size) (hg : (Jvm.Cond.and given_1 narrow_1).before #[Value.ref b] s = true) : ∃ D : va_G, xg (l, s.heap, D, zY s, zS b L s, xs) s := by
  obtain ⟨D, hD⟩ := kn_all hw
  have hz : ∀ w ∈ zwd, w.before #[Value.ref b] s = true := fun w h => hw w (zwd_in w h)
  refine ⟨D, ⟨hD, ?_⟩, fun w h => va_Nw.of (oth_ot (List.mem_filter.mp h).2) (hw w (List.mem_filter.mp h).1), start_ST hl D hw hX hb hg⟩
  intro k q hq
  match k, hq with
  | 0, hq => cases hq; exact zY_p 8 (by decide) (hz _ (by decide +kernel))
  | 1, hq => cases hq; exact zY_p 9 (by decide) (hz _ (by decide +kernel))
  | 2, hq => cases hq; exact zY_p 10 (by decide) (hz _ (by decide +kernel))
  | 3, hq => cases hq; exact zY_p 11 (by decide) (hz _ (by decide +kernel))
  | 4, hq => cases hq; exact zY_o 12 "CalendarOrders$Order" rfl (hz _ (by decide +kernel))
  | 5, hq => cases hq; exact zY_o 13 "CalendarOrders$Zone" rfl (hz _ (by decide +kernel))
  | k + 6, hq => simp [gT] at hq
def M0 : Mm := ([], fun _ => 0, fun _ => 0, fun _ _ => 0, fun _ _ => 0, fun _ _ => none)
theorem xw_M0 (G : Gx) : xw G M0 = [] := rfl
def KL : Rs → Mm → Prop := fun r _ => r = .inl (some (.int 1))
def R_law : String := "CalendarOrdersLaw"
def lw_P (b : Addr) (xs : List Int32) (args : Array Value) (s : State) : Prop := args = #[.ref b] ∧ s.IntsAt b xs ∧ xs.length ≤ 3584 ∧ (Jvm.Cond.and given_1 narrow_1).before args s = true
def lw_Q (_ : Array Value) (s : State) (o : Outcome) (t : State) : Prop := o = .returned (some (.int 1)) ∧ Framed s o t [] 601024 7293034
set_option maxHeartbeats 4000000 in
theorem lw_walk (hV : ∀ G : Gx, gS G 201 ≤ 3584 → V_L_law G KL M0) (l : Launch) (hlt : l.stackTraces = false) (b : Addr) (xs : List Int32) : MetFree l x (headSpec (Jvm.Cond.code x code maxLocals ret :: tables_1) room_1) (lw_P b xs) (fun _ _ _ _ _ => True) lw_Q := by
  refine MetFree.of_bodyS (code := code) (maxLocals := maxLocals) (ret := ret) (by decide) ?_ ?_
  · intro args s m h hn
    obtain ⟨meth, c, h1, h2, h3, h4, h5, h6, -, -⟩ := Cond.code_spec hn (atoms_spec (ws := Jvm.Cond.code x code maxLocals ret :: tables_1) h _ List.mem_cons_self)
    exact ⟨meth, c, h1, h2, h3, h4, h5, h6⟩
  · intro p e s m args below meth c s₁ B hml0 hP _
    obtain ⟨rfl, hx, hbd, hgv⟩ := hP
    obtain ⟨scr, harrAt, hlist, hof, hsmall⟩ := hx
    obtain ⟨hcb, hkn, -, -⟩ := State.arrayAt?_spec harrAt
    have hts0 : ∀ c ∈ (Jvm.Cond.code x code maxLocals ret :: tables_1), c.before #[Value.ref b] s = true := atoms_spec (ws := Jvm.Cond.code x code maxLocals ret :: tables_1) B.pre
    have hts : ∀ w ∈ lw_tbl, w.before #[Value.ref b] s = true := k2_hts_sels lw_privs (fun w hw => hts0 w (List.mem_cons_of_mem _ hw)) lw_privs_ok
    have hml : c.maxLocals = 8 := B.maxLocals_eq (hts0 _ List.mem_cons_self)
    have hh0 : s₁.heap = s.heap := by rw [B.state]; rfl
    have hsz : scr.slots.size = xs.length := by rw [← Array.length_toList, hlist, List.length_map]
    have hval : ∀ j : Nat, j < xs.length → scr.slots[j]? = some (.int (xs.getD j 0)) := fun j hj => by
      rw [← Array.getElem?_toList, hlist]
      simp [hj]
    have hbl : b < s.heap.size := (Array.getElem?_eq_some_iff.mp hcb).1
    have hX : va_X b xs.length (fun j => xs.getD j 0) s s.heap := ⟨scr, hcb, hof, hkn, hsz, hval⟩
    have hT : c.exceptionTable.toList = tableOf (miH mi_L_law) := by
      obtain ⟨meth9, c9, h1, h2, -, -, -, -, h7, -⟩ := Cond.code_spec B.named (hts0 _ List.mem_cons_self)
      cases Option.some.inj (h1.symm.trans B.method)
      cases Option.some.inj (h2.symm.trans (Stand.of_body B).code)
      rw [Array.isEmpty_iff.mp h7]
      rfl
    obtain ⟨D, hxg⟩ := start_xg hlt hts hX hbl hgv
    have hC : Cn (l, s.heap, D, zY s, zS b xs.length s, fun j => xs.getD j 0) mi_L_law p s m #[Value.ref b] meth c := ⟨B.exec, B.bytes, hml, B.returns, B.notSynchronized, hT, findClass_of_methodNamed B.named, (name_of_methodNamed B.named B.method).1, fun w hw => hts w (List.mem_filter.mp hw).1, hxg, ⟨Nat.le_refl _, fun q _ => rfl⟩, dc_L_law⟩
    have hE : E (l, s.heap, D, zY s, zS b xs.length s, fun j => xs.getD j 0) mi_L_law KL M0 0 0 0 (xe [Value.ref b] ++ List.replicate 7 none) [] := x_L_law (hV _ (show zS b xs.length s 201 ≤ 3584 from hbd))
    have hW := hE p e s m #[Value.ref b] below meth c s.heap [] _ hC va_S.rf ⟨fun k q h => (by rw [xw_M0] at h; simp at h), fun i j p q h => (by rw [xw_M0] at h; simp at h), fun k q h => (by rw [xw_M0] at h; simp at h)⟩ ⟨xl_entry [Value.ref b] (Nat.le_of_ble_eq_true rfl), (Nat.le_of_ble_eq_true rfl)⟩
    have hW' := hW
    rw [← lg_entry_eq] at hW'
    obtain ⟨t, a1, o, b1, b2, b3⟩ := hW' s₁ hh0 (Stand.of_body B)
    refine ⟨t, o, a1, b1, b2, ?_⟩
    rcases b3 with ⟨⟨v, M', rfl, hq, -, -⟩, Lf, ⟨f1, f2, f3⟩, hLf⟩ | ⟨q, -, X, ce, L9, ⟨M', hq, -⟩, -⟩
    · have hq' : (Sum.inl v : Rs) = .inl (some (.int 1)) := hq
      cases hq'
      exact ⟨rfl, f1, f2, State.sameButNew.drop_fresh (L := []) f3 hLf⟩
    · have hq' : (Sum.inr X : Rs) = .inl (some (.int 1)) := hq
      cases hq'
