/-! a method's judgement: E; a method's contract: MC -/
def lkp : List (Instr × Nat) → Nat → Nat → Option (Instr × Nat)
  | [], _, _ => none
  | x :: r, a, b => bif Nat.beq a b then some x else lkp r (a + x.2) b
def dcb (cc : ByteArray) : List (Instr × Nat) → Nat → Bool
  | [], _ => true
  | x :: r, a => decide (decode cc a = .ok x) && dcb cc r (a + x.2)
theorem lkp_ok {cc : ByteArray} {x : Instr × Nat} {b : Nat} : ∀ (is : List (Instr × Nat)) (a : Nat), dcb cc is a = true → lkp is a b = some x → decode cc b = .ok x
  | [], _, _, h => by cases h
  | y :: r, a, hd, h => by
    simp only [dcb, Bool.and_eq_true, decide_eq_true_eq] at hd
    unfold lkp at h
    cases hb : Nat.beq a b with
    | true =>
      rw [hb, cond_true] at h
      cases h
      rw [← nbeq hb]
      exact hd.1
    | false =>
      rw [hb, cond_false] at h
      exact lkp_ok r _ hd.2 h
abbrev MI : Type := MethodName × ByteArray × Nat × Option FieldType × List (Nat × Nat × Nat × Nat) × Room × List (Instr × Nat)
abbrev miY (mi : MI) : MethodName := mi.1
abbrev miC (mi : MI) : ByteArray := mi.2.1
abbrev miL (mi : MI) : Nat := mi.2.2.1
abbrev miR (mi : MI) : Option FieldType := mi.2.2.2.1
abbrev miH (mi : MI) : List (Nat × Nat × Nat × Nat) := mi.2.2.2.2.1
abbrev miM (mi : MI) : Room := mi.2.2.2.2.2.1
abbrev miI (mi : MI) : List (Instr × Nat) := mi.2.2.2.2.2.2
/-- the words that every method is given -/
def ALLW : List Cond := lw_tbl.filter goodWord
def othW : Cond → Bool
  | .castable .. => true
  | .declares _ => true
  | .methodLinkNest .. => true
  | .fieldLinkNest .. => true
  | _ => false
def OTHW : List Cond := lw_tbl.filter othW
theorem aw {i : Nat} {w : Cond} (h : lw_tbl[i]? = some w) (hg : goodWord w = true) : w ∈ ALLW := List.mem_filter.mpr ⟨List.mem_of_getElem? h, hg⟩
theorem ao {i : Nat} {w : Cond} (h : lw_tbl[i]? = some w) (hg : othW w = true) : w ∈ OTHW := List.mem_filter.mpr ⟨List.mem_of_getElem? h, hg⟩
theorem oth_warm {w : Cond} (hw : othW w = true) {s U : State} (hW : s.WarmedH U.vm) (h : va_Nw w s) : va_Nw w U := by
  cases w <;> first | (cases hw; done) | exact va_Nw.warmM hW h | exact va_Nw.warmF hW h | skip
  · refine va_tabs rfl (rfl : (s.setVm U.vm).vm = U.vm) (A := #[]) ?_
    have h1 : (Cond.declares _).before #[] s = true := h
    rw [Cond.declares_setVm hW.alike]
    exact h1
  · refine va_tabs rfl (rfl : (s.setVm U.vm).vm = U.vm) (A := #[]) ?_
    have h1 : (Cond.castable _ _).before #[] s = true := h
    rw [Cond.castable_setVm hW.alike]
    exact h1
/-- pairs of classes of which the one is not the other -/
def ncW : List (String × String) := [("java/lang/IllegalArgumentException", "java/lang/IndexOutOfBoundsException"), ("java/lang/IllegalStateException", "java/lang/IndexOutOfBoundsException"), ("java/lang/IllegalStateException", "java/lang/IllegalArgumentException")]
def stW : List (String × Nat × String × Nat) := [("CalendarOrders", 311, "no such zone", 2), ("CalendarOrders", 315, "no such offset", 3), ("CalendarOrders", 317, "no such minute", 4), ("CalendarOrders", 69, "not behind the latest change", 5), ("CalendarOrders", 80, "no more changes", 6), ("CalendarOrders", 321, "nothing is told by that number", 7), ("CalendarOrders", 326, "no such date", 8), ("CalendarOrders", 125, "no such time of a day", 9), ("CalendarOrders", 133, "not 1 to 8 bytes", 10), ("CalendarOrders", 138, "the tape is full", 11), ("CalendarOrders", 143, "no such way, grace, overlap or length", 12), ("CalendarOrders", 149, "no more orders", 13), ("CalendarOrders$Tape", 79, "hourly", 14), ("CalendarOrders$Tape", 81, "daily", 15), ("CalendarOrders$Tape", 83, "weekly", 16), ("CalendarOrders$Tape", 85, "monthly", 17), ("CalendarOrders$Tape", 87, "yearly", 18), ("CalendarOrders$Tape", 136, "janfebmaraprmayjunjulaugsepoctnovdec", 19), ("CalendarOrders$Tape", 142, "sunmontuewedthufrisat", 20), ("CalendarOrders", 313, "no such order", 21), ("CalendarOrders", 220, "no such field", 22), ("CalendarOrders", 319, "not so many days", 23), ("CalendarOrders", 255, "the second minute is less, or too far behind", 24), ("CalendarOrders", 260, "asleep", 25), ("CalendarOrders", 266, "not so many minutes", 26), ("CalendarOrders", 274, "awake", 27), ("CalendarOrders", 293, "no such line", 28)]
def tbL (j : Nat) : Int32 := ([0, 0, 1, 1, 0, 1900] : List Int32).getD j 0
def tbG (j : Nat) : Int32 := ([59, 23, 31, 12, 7, 2199] : List Int32).getD j 0
def txW : List (Nat × List Int32) := [(14, [104, 111, 117, 114, 108, 121]), (15, [100, 97, 105, 108, 121]), (16, [119, 101, 101, 107, 108, 121]), (17, [109, 111, 110, 116, 104, 108, 121]), (18, [121, 101, 97, 114, 108, 121]), (19, [106, 97, 110, 102, 101, 98, 109, 97, 114, 97, 112, 114, 109, 97, 121, 106, 117, 110, 106, 117, 108, 97, 117, 103, 115, 101, 112, 111, 99, 116, 110, 111, 118, 100, 101, 99]), (20, [115, 117, 110, 109, 111, 110, 116, 117, 101, 119, 101, 100, 116, 104, 117, 102, 114, 105, 115, 97, 116])]
def ST (G : Gx) (s : State) : Prop :=
  (gl G).stackTraces = false ∧ vx_Zq Bundle.tN "UNASSIGNED_STACK" Bundle.steD (gA G) s (gH G) ∧ vx_Zq Bundle.tN "SUPPRESSED_SENTINEL" Bundle.listD (gA G) s (gH G) ∧
  (∀ q ∈ ncW, va_Nc q.1 q.2 s) ∧ (∀ q ∈ stW, vk_R q.1 q.2.1 q.2.2.1 (gS G q.2.2.2) s) ∧
  va_Z "CalendarOrders" "LEAST" "[I" (.ref (gS G 0)) (gA G) s (gH G) ∧ va_T .int (gS G 0) 6 (fun j => .int (tbL j)) (gA G) s (gH G) ∧
  va_Z "CalendarOrders" "GREATEST" "[I" (.ref (gS G 1)) (gA G) s (gH G) ∧ va_T .int (gS G 1) 6 (fun j => .int (tbG j)) (gA G) s (gH G) ∧
  va_AO "CalendarOrders$Zone" s ∧ va_AO "CalendarOrders$Order" s ∧ va_Z "java/lang/String" "COMPACT_STRINGS" "Z" (.int 1) (gA G) s (gH G) ∧ va_Zq "jdk/internal/util/Preconditions" "SIOOBE_FORMATTER" "Ljava/util/function/BiFunction;" (gA G) s (gH G) ∧
  va_T .int (gS G 200) (gS G 201) (fun j => .int (gX G j)) (gA G) s (gH G) ∧
  (∀ q ∈ txW, va_O "java/lang/String" (gS G q.1) (gA G) s (gH G) ∧ va_OF "java/lang/String" "coder" "B" (.int 0) (gS G q.1) (gA G) s (gH G) ∧ va_OF "java/lang/String" "value" "[B" (.ref (gS G (q.1 + 64))) (gS G q.1) (gA G) s (gH G) ∧ va_T .byte (gS G (q.1 + 64)) q.2.length (fun j => .int (q.2.getD j 0)) (gA G) s (gH G))
theorem ST.warm {G : Gx} {s U : State} (hW : s.WarmedH U.vm) (h : ST G s) : ST G U := by
  obtain ⟨h0, h1, h2, h3, h4, h5, h6, h7, h8, g1, g2, g3, g4, gx, g5⟩ := h
  exact ⟨h0, h1.moved hW.alike, h2.moved hW.alike, fun q hq => (h3 q hq).moved hW.alike, fun q hq => (h4 q hq).warm hW, h5.moved hW.alike, h6.moved hW.alike, h7.moved hW.alike, h8.moved hW.alike, g1.moved hW.alike, g2.moved hW.alike, g3.moved hW.alike, g4.moved hW.alike, gx.moved hW.alike, fun q hq => ⟨va_O.moved hW.alike (g5 q hq).1, va_OF.moved hW.alike (g5 q hq).2.1, va_OF.moved hW.alike (g5 q hq).2.2.1, va_T.moved hW.alike (g5 q hq).2.2.2⟩⟩
theorem ST.scr {G : Gx} {s : State} (h : ST G s) : va_T .int (gS G 200) (gS G 201) (fun j => .int (gX G j)) (gA G) s (gH G) := h.2.2.2.2.2.2.2.2.2.2.2.2.2.1
def xg (G : Gx) (s : State) : Prop := va_K (gD G) vwCl (gT G) s ∧ (∀ w ∈ OTHW, va_Nw w s) ∧ ST G s
theorem xg.warm {G : Gx} {s U : State} (hW : s.WarmedH U.vm) (h : xg G s) : xg G U :=
  ⟨h.1.moved hW.alike, fun w hw => oth_warm (List.mem_filter.mp hw).2 hW (h.2.1 w hw), h.2.2.warm hW⟩
abbrev Rs : Type := Option Value ⊕ String
def xq (G : Gx) (Q : Rs → Mm → Prop) : Array Value → State → Outcome → State → Prop := fun _ st o t => ∃ (v : Option Value) (M' : Mm), o = .returned v ∧ Q (.inl v) M' ∧ xh G M' t.heap ∧ va_F (gA G) st t
def xx (G : Gx) (Q : Rs → Mm → Prop) : String → State → State → Prop := fun E st t => ∃ M' : Mm, Q (.inr E) M' ∧ xh G M' t.heap ∧ va_F (gA G) st t
/-- what stays while a method runs -/
def Cn (G : Gx) (mi : MI) (p : Program) (s : State) (m : MethodId) (args : Array Value) (meth : Method) (c : Code) : Prop :=
  p.tables.exec = Jvm.exec ∧ c.code = miC mi ∧ c.maxLocals = miL mi ∧ meth.sig.returnType = miR mi ∧ meth.locks = false ∧ c.exceptionTable.toList = tableOf (miH mi) ∧ s.vm.findClass (miY mi).cls = some m.cls ∧ meth.name = (miY mi).name ∧
  (∀ w ∈ ALLW, w.before args s = true) ∧ xg G s ∧ xo G s.heap ∧ dcb (miC mi) (miI mi) 0 = true
theorem Cn.dec {G : Gx} {mi : MI} {p : Program} {s : State} {m : MethodId} {args : Array Value} {meth : Method} {c : Code} (h : Cn G mi p s m args meth c) {pc : Nat} {x : Instr × Nat} (hl : lkp (miI mi) 0 pc = some x) : decode (miC mi) pc = .ok x := lkp_ok _ _ h.2.2.2.2.2.2.2.2.2.2.2 hl
theorem Cn.own {G : Gx} {mi : MI} {p : Program} {s : State} {m : MethodId} {args : Array Value} {meth : Method} {c : Code} (h : Cn G mi p s m args meth c) : s.vm.findClass (miY mi).cls = some m.cls := h.2.2.2.2.2.2.1
theorem Cn.ws {G : Gx} {mi : MI} {p : Program} {s : State} {m : MethodId} {args : Array Value} {meth : Method} {c : Code} (h : Cn G mi p s m args meth c) {w : Cond} (hw : w ∈ ALLW) : w.before args s = true := h.2.2.2.2.2.2.2.2.1 w hw
theorem Cn.g {G : Gx} {mi : MI} {p : Program} {s : State} {m : MethodId} {args : Array Value} {meth : Method} {c : Code} (h : Cn G mi p s m args meth c) : xg G s := h.2.2.2.2.2.2.2.2.2.1
theorem Cn.o {G : Gx} {mi : MI} {p : Program} {s : State} {m : MethodId} {args : Array Value} {meth : Method} {c : Code} (h : Cn G mi p s m args meth c) : xo G s.heap := h.2.2.2.2.2.2.2.2.2.2.1
def E (G : Gx) (mi : MI) (Q : Rs → Mm → Prop) (M : Mm) (k n pc : Nat) (L : List (Option Value)) (st : List Value) : Prop :=
  ∀ (p : Program) (e : Env) (s : State) (m : MethodId) (args : Array Value) (below : List Frame) (meth : Method) (c : Code) (H : Heap) (locs : List Loc) (ls : Array Slot),
    Cn G mi p s m args meth c → va_S (gA G) s.heap H locs → xh G M H → xL ls (miL mi) L →
    W p (gl G) e (miM mi) s m args below meth c H locs k n (vx_MQ below (xq G Q) (xx G Q) args s (miM mi).cells (miM mi).slots (gA G)) (F0 m pc ls st)
/-- simple instructions and jumps, n of them -/
def blk (is : List (Instr × Nat)) : Nat → Nat → List (Option Value) → List Value → Option (Nat × List (Option Value) × List Value)
  | 0, pc, L, st => some (pc, L, st)
  | n + 1, pc, L, st => match lkp is 0 pc with
    | none => none
    | some (.goto off, len) => match (pc : Int) + off with
      | .ofNat t => bif Nat.beq len 3 then blk is n t L st else none
      | .negSucc _ => none
    | some (i, len) => match smp i L st with
      | none => none
      | some (L', st') => bif Nat.beq len (opN i) then blk is n (pc + len) L' st' else none
section ER
variable {G : Gx} {mi : MI} {Q : Rs → Mm → Prop} {M : Mm} {k n pc : Nat} {L : List (Option Value)} {st : List Value}
theorem e_smp {i : Instr} {L' : List (Option Value)} {st' : List Value} (hd : lkp (miI mi) 0 pc = some (i, opN i)) (hs : smp i L st = some (L', st')) (kk : E G mi Q M k n (pc + opN i) L' st') : E G mi Q M k n pc L st := by
  intro p e s m args below meth c H locs ls hC hS hM hl
  exact w_smp hC.1 hC.2.1 hl hs (hC.dec hd) (fun ls' h' => kk p e s m args below meth c H locs ls' hC hS hM h')
theorem e_goto {off : Int} (tgt : Nat) (hd : lkp (miI mi) 0 pc = some (.goto off, 3)) (ht : (pc : Int) + off = (tgt : Int)) (kk : E G mi Q M k n tgt L st) : E G mi Q M k n pc L st := by
  intro p e s m args below meth c H locs ls hC hS hM hl
  exact lv_goto hC.1 hC.2.1 (hC.dec hd) ht (kk p e s m args below meth c H locs ls hC hS hM hl)
theorem e_icmp_eq {x y : Int32} {off : Int} {rest : List Value} (tgt : Nat) (hd : lkp (miI mi) 0 pc = some (.if_icmp .eq off, 3)) (ht : (pc : Int) + off = (tgt : Int))
    (kt : x = y → E G mi Q M k n tgt L rest) (kf : ¬ x = y → E G mi Q M k n (pc + 3) L rest) : E G mi Q M k n pc L (.int y :: .int x :: rest) := by
  intro p e s m args below meth c H locs ls hC hS hM hl
  exact lv_icmp_eq hC.1 hC.2.1 (hC.dec hd) ht (fun h => kt h p e s m args below meth c H locs ls hC hS hM hl) (fun h => kf h p e s m args below meth c H locs ls hC hS hM hl)
theorem e_icmp_ne {x y : Int32} {off : Int} {rest : List Value} (tgt : Nat) (hd : lkp (miI mi) 0 pc = some (.if_icmp .ne off, 3)) (ht : (pc : Int) + off = (tgt : Int))
    (kt : ¬ x = y → E G mi Q M k n tgt L rest) (kf : x = y → E G mi Q M k n (pc + 3) L rest) : E G mi Q M k n pc L (.int y :: .int x :: rest) := by
  intro p e s m args below meth c H locs ls hC hS hM hl
  exact lv_icmp_ne hC.1 hC.2.1 (hC.dec hd) ht (fun h => kt h p e s m args below meth c H locs ls hC hS hM hl) (fun h => kf h p e s m args below meth c H locs ls hC hS hM hl)
theorem e_icmp_lt {x y : Int32} {off : Int} {rest : List Value} (tgt : Nat) (hd : lkp (miI mi) 0 pc = some (.if_icmp .lt off, 3)) (ht : (pc : Int) + off = (tgt : Int))
    (kt : x < y → E G mi Q M k n tgt L rest) (kf : ¬ x < y → E G mi Q M k n (pc + 3) L rest) : E G mi Q M k n pc L (.int y :: .int x :: rest) := by
  intro p e s m args below meth c H locs ls hC hS hM hl
  exact lv_icmp_lt hC.1 hC.2.1 (hC.dec hd) ht (fun h => kt h p e s m args below meth c H locs ls hC hS hM hl) (fun h => kf h p e s m args below meth c H locs ls hC hS hM hl)
theorem e_icmp_ge {x y : Int32} {off : Int} {rest : List Value} (tgt : Nat) (hd : lkp (miI mi) 0 pc = some (.if_icmp .ge off, 3)) (ht : (pc : Int) + off = (tgt : Int))
    (kt : y ≤ x → E G mi Q M k n tgt L rest) (kf : ¬ y ≤ x → E G mi Q M k n (pc + 3) L rest) : E G mi Q M k n pc L (.int y :: .int x :: rest) := by
  intro p e s m args below meth c H locs ls hC hS hM hl
  exact lv_icmp_ge hC.1 hC.2.1 (hC.dec hd) ht (fun h => kt h p e s m args below meth c H locs ls hC hS hM hl) (fun h => kf h p e s m args below meth c H locs ls hC hS hM hl)
theorem e_icmp_gt {x y : Int32} {off : Int} {rest : List Value} (tgt : Nat) (hd : lkp (miI mi) 0 pc = some (.if_icmp .gt off, 3)) (ht : (pc : Int) + off = (tgt : Int))
    (kt : y < x → E G mi Q M k n tgt L rest) (kf : ¬ y < x → E G mi Q M k n (pc + 3) L rest) : E G mi Q M k n pc L (.int y :: .int x :: rest) := by
  intro p e s m args below meth c H locs ls hC hS hM hl
  exact lv_icmp_gt hC.1 hC.2.1 (hC.dec hd) ht (fun h => kt h p e s m args below meth c H locs ls hC hS hM hl) (fun h => kf h p e s m args below meth c H locs ls hC hS hM hl)
theorem e_icmp_le {x y : Int32} {off : Int} {rest : List Value} (tgt : Nat) (hd : lkp (miI mi) 0 pc = some (.if_icmp .le off, 3)) (ht : (pc : Int) + off = (tgt : Int))
    (kt : x ≤ y → E G mi Q M k n tgt L rest) (kf : ¬ x ≤ y → E G mi Q M k n (pc + 3) L rest) : E G mi Q M k n pc L (.int y :: .int x :: rest) := by
  intro p e s m args below meth c H locs ls hC hS hM hl
  exact lv_icmp_le hC.1 hC.2.1 (hC.dec hd) ht (fun h => kt h p e s m args below meth c H locs ls hC hS hM hl) (fun h => kf h p e s m args below meth c H locs ls hC hS hM hl)
theorem e_if_eq {x : Int32} {off : Int} {rest : List Value} (tgt : Nat) (hd : lkp (miI mi) 0 pc = some (.ifCond .eq off, 3)) (ht : (pc : Int) + off = (tgt : Int))
    (kt : x = 0 → E G mi Q M k n tgt L rest) (kf : ¬ x = 0 → E G mi Q M k n (pc + 3) L rest) : E G mi Q M k n pc L (.int x :: rest) := by
  intro p e s m args below meth c H locs ls hC hS hM hl
  exact lv_if_eq hC.1 hC.2.1 (hC.dec hd) ht (fun h => kt h p e s m args below meth c H locs ls hC hS hM hl) (fun h => kf h p e s m args below meth c H locs ls hC hS hM hl)
theorem e_if_ne {x : Int32} {off : Int} {rest : List Value} (tgt : Nat) (hd : lkp (miI mi) 0 pc = some (.ifCond .ne off, 3)) (ht : (pc : Int) + off = (tgt : Int))
    (kt : ¬ x = 0 → E G mi Q M k n tgt L rest) (kf : x = 0 → E G mi Q M k n (pc + 3) L rest) : E G mi Q M k n pc L (.int x :: rest) := by
  intro p e s m args below meth c H locs ls hC hS hM hl
  exact lv_if_ne hC.1 hC.2.1 (hC.dec hd) ht (fun h => kt h p e s m args below meth c H locs ls hC hS hM hl) (fun h => kf h p e s m args below meth c H locs ls hC hS hM hl)
theorem e_if_lt {x : Int32} {off : Int} {rest : List Value} (tgt : Nat) (hd : lkp (miI mi) 0 pc = some (.ifCond .lt off, 3)) (ht : (pc : Int) + off = (tgt : Int))
    (kt : x < 0 → E G mi Q M k n tgt L rest) (kf : ¬ x < 0 → E G mi Q M k n (pc + 3) L rest) : E G mi Q M k n pc L (.int x :: rest) := by
  intro p e s m args below meth c H locs ls hC hS hM hl
  exact lv_if_lt hC.1 hC.2.1 (hC.dec hd) ht (fun h => kt h p e s m args below meth c H locs ls hC hS hM hl) (fun h => kf h p e s m args below meth c H locs ls hC hS hM hl)
theorem e_if_ge {x : Int32} {off : Int} {rest : List Value} (tgt : Nat) (hd : lkp (miI mi) 0 pc = some (.ifCond .ge off, 3)) (ht : (pc : Int) + off = (tgt : Int))
    (kt : 0 ≤ x → E G mi Q M k n tgt L rest) (kf : ¬ 0 ≤ x → E G mi Q M k n (pc + 3) L rest) : E G mi Q M k n pc L (.int x :: rest) := by
  intro p e s m args below meth c H locs ls hC hS hM hl
  exact lv_if_ge hC.1 hC.2.1 (hC.dec hd) ht (fun h => kt h p e s m args below meth c H locs ls hC hS hM hl) (fun h => kf h p e s m args below meth c H locs ls hC hS hM hl)
theorem e_if_gt {x : Int32} {off : Int} {rest : List Value} (tgt : Nat) (hd : lkp (miI mi) 0 pc = some (.ifCond .gt off, 3)) (ht : (pc : Int) + off = (tgt : Int))
    (kt : 0 < x → E G mi Q M k n tgt L rest) (kf : ¬ 0 < x → E G mi Q M k n (pc + 3) L rest) : E G mi Q M k n pc L (.int x :: rest) := by
  intro p e s m args below meth c H locs ls hC hS hM hl
  exact lv_if_gt hC.1 hC.2.1 (hC.dec hd) ht (fun h => kt h p e s m args below meth c H locs ls hC hS hM hl) (fun h => kf h p e s m args below meth c H locs ls hC hS hM hl)
theorem e_if_le {x : Int32} {off : Int} {rest : List Value} (tgt : Nat) (hd : lkp (miI mi) 0 pc = some (.ifCond .le off, 3)) (ht : (pc : Int) + off = (tgt : Int))
    (kt : x ≤ 0 → E G mi Q M k n tgt L rest) (kf : ¬ x ≤ 0 → E G mi Q M k n (pc + 3) L rest) : E G mi Q M k n pc L (.int x :: rest) := by
  intro p e s m args below meth c H locs ls hC hS hM hl
  exact lv_if_le hC.1 hC.2.1 (hC.dec hd) ht (fun h => kt h p e s m args below meth c H locs ls hC hS hM hl) (fun h => kf h p e s m args below meth c H locs ls hC hS hM hl)
theorem e_blk : ∀ (z pc : Nat) (L : List (Option Value)) (st : List Value) {pc' : Nat} {L' : List (Option Value)} {st' : List Value}, blk (miI mi) z pc L st = some (pc', L', st') → E G mi Q M k n pc' L' st' → E G mi Q M k n pc L st
  | 0, pc, L, st, pc', L', st', hb, kk => by
    cases hb
    exact kk
  | z + 1, pc, L, st, pc', L', st', hb, kk => by
    unfold blk at hb
    split at hb
    · cases hb
    · rename_i off len hl
      split at hb
      · rename_i t ht
        cases hc : Nat.beq len 3 with
        | false => rw [hc] at hb; cases hb
        | true =>
          rw [hc, cond_true] at hb
          rw [nbeq hc] at hl
          exact e_goto t hl ht (e_blk z t L st hb kk)
      · cases hb
    · rename_i i len hno hl
      split at hb
      · cases hb
      · rename_i L1 st1 hs
        cases hc : Nat.beq len (opN i) with
        | false => rw [hc] at hb; cases hb
        | true =>
          rw [hc, cond_true] at hb
          have he := nbeq hc
          subst he
          exact e_smp hl hs (e_blk z _ L1 st1 hb kk)
end ER
