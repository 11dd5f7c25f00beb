/-! throw new E("text") -/
def atok (own : String) (ic : Nat) (cls : String) (names : List String) : Bool := (vx_atS own ic cls names).all (fun w => (goodWord w || othW w) && decide (w ∈ lw_tbl))
def atgd (own : String) (ik ic : Nat) (cls : String) (names : List String) : Bool := (Cond.classLink own ik cls :: Cond.initialized cls :: vx_atS own ic cls names).all vx_ot
theorem oth_ot {w : Cond} (h : othW w = true) : w.onTables = true := by
  cases w <;> first | (cases h; done) | rfl
theorem at_ok {G : Gx} {mi : MI} {p : Program} {s : State} {m : MethodId} {args : Array Value} {meth : Method} {c : Code} (hC : Cn G mi p s m args meth c) {own : String} {ic : Nat} {cls : String} {names : List String} (h : atok own ic cls names = true) : ∀ w ∈ vx_atS own ic cls names, w.before args s = true := by
  intro w hw
  have h1 := List.all_eq_true.mp h w hw
  rw [Bool.and_eq_true, Bool.or_eq_true, decide_eq_true_eq] at h1
  rcases h1 with ⟨h1 | h1, h2⟩
  · exact hC.ws (List.mem_filter.mpr ⟨h2, h1⟩)
  · exact va_Nw.use (oth_ot h1) (hC.g.2.1 w (List.mem_filter.mpr ⟨h2, h1⟩))
def exn : List String := ["java/lang/RuntimeException", "java/lang/Exception"]
section ETH
variable {G : Gx} {mi : MI} {Q : Rs → Mm → Prop} {M : Mm} {k n pc : Nat} {L : List (Option Value)} {rest : List Value}
theorem e_thrX {p : Program} {s t : State} {m : MethodId} {args : Array Value} {meth : Method} {c : Code} {H : Heap} {locs : List Loc} {cls : String} (hC : Cn G mi p s m args meth c) (hS : va_S (gA G) s.heap H locs) (hM : xh G M H) (hq : Q (.inr cls) M) (h1 : H.size ≤ t.heap.size) (h2 : ∀ q : Nat, q < H.size → t.heap[q]? = H[q]?) : xx G Q cls s t := by
  refine ⟨M, hq, ⟨hM.1.kept (fun k q hk => h2 q.1 (hM.1 k q hk).lt), hM.2⟩, Nat.le_trans hS.1 h1, fun q g1 g2 => ?_⟩
  rw [h2 q (Nat.lt_of_lt_of_le g1 hS.1)]
  exact hS.2.1 q g1 g2
theorem e_thrW {ik is ic j : Nat} (cls text : String) (d0 : lkp (miI mi) 0 pc = some (.new ik, 3)) (d3 : lkp (miI mi) 0 (pc + 3) = some (.dup, 1)) (d4 : lkp (miI mi) 0 (pc + 4) = some (.ldc_w is, 3)) (d7 : lkp (miI mi) 0 (pc + 7) = some (.invokespecial ic, 3)) (d10 : lkp (miI mi) 0 (pc + 10) = some (.athrow, 1))
    (hf : Bundle.fit cls = true) (hH : miH mi = []) (hk : Cond.classLink (miY mi).cls ik cls ∈ ALLW) (hi : Cond.initialized cls ∈ ALLW) (hs : ((miY mi).cls, is, text, j) ∈ stW) (ha : atok (miY mi).cls ic cls exn = true) (hg : atgd (miY mi).cls ik ic cls exn = true)
    (r1 : 5 < (miM mi).frames) (r2 : (rest.map fun v => v.category).sum + 82 ≤ (miM mi).locals) (r3 : k + 1 ≤ (miM mi).cells) (r4 : n + 6 ≤ (miM mi).slots) (hq : Q (.inr cls) M) : E G mi Q M k n pc L rest := by
  intro p e s m args below meth c H locs ls hC hS hM hl
  obtain ⟨s0, s1, s2, s3, s4, -⟩ := hC.g.2.2
  have hold : ∀ a : Nat, a < (gH G).size → ¬ gA G a → s.heap[a]? = (gH G)[a]? := fun a h1 _ => hC.o.2 a h1
  exact vx_throwSW (names := exn) hC.1 hC.2.1 s0 hC.own hf (by decide +kernel) (hC.ws hk) (hC.ws hi) (s4 _ hs) (at_ok hC ha) (fun w hw => List.all_eq_true.mp hg w hw) (s1.kept hold) (s2.kept hold) hS (hl.1.1.trans hC.2.2.1.symm)
    (hC.dec d0) (hC.dec d3) (hC.dec d4) (hC.dec d7) (hC.dec d10) (fun x hx => by rw [hC.2.2.2.2.2.1, hH] at hx; cases hx) r1 r2 r3 r4 hC.2.2.2.2.1 (fun t _ h1 h2 => e_thrX hC hS hM hq h1 h2) (fun z hz => hS.2.2 z hz) r3 r4
theorem e_thr {ik is ic j : Nat} (cls text : String) (d0 : lkp (miI mi) 0 pc = some (.new ik, 3)) (d3 : lkp (miI mi) 0 (pc + 3) = some (.dup, 1)) (d4 : lkp (miI mi) 0 (pc + 4) = some (.ldc is, 2)) (d6 : lkp (miI mi) 0 (pc + 6) = some (.invokespecial ic, 3)) (d9 : lkp (miI mi) 0 (pc + 9) = some (.athrow, 1))
    (hf : Bundle.fit cls = true) (hH : miH mi = []) (hk : Cond.classLink (miY mi).cls ik cls ∈ ALLW) (hi : Cond.initialized cls ∈ ALLW) (hs : ((miY mi).cls, is, text, j) ∈ stW) (ha : atok (miY mi).cls ic cls exn = true) (hg : atgd (miY mi).cls ik ic cls exn = true)
    (r1 : 5 < (miM mi).frames) (r2 : (rest.map fun v => v.category).sum + 82 ≤ (miM mi).locals) (r3 : k + 1 ≤ (miM mi).cells) (r4 : n + 6 ≤ (miM mi).slots) (hq : Q (.inr cls) M) : E G mi Q M k n pc L rest := by
  intro p e s m args below meth c H locs ls hC hS hM hl
  obtain ⟨s0, s1, s2, s3, s4, -⟩ := hC.g.2.2
  have hold : ∀ a : Nat, a < (gH G).size → ¬ gA G a → s.heap[a]? = (gH G)[a]? := fun a h1 _ => hC.o.2 a h1
  exact vx_throwS (names := exn) hC.1 hC.2.1 s0 hC.own hf (by decide +kernel) (hC.ws hk) (hC.ws hi) (s4 _ hs) (at_ok hC ha) (fun w hw => List.all_eq_true.mp hg w hw) (s1.kept hold) (s2.kept hold) hS (hl.1.1.trans hC.2.2.1.symm)
    (hC.dec d0) (hC.dec d3) (hC.dec d4) (hC.dec d6) (hC.dec d9) (fun x hx => by rw [hC.2.2.2.2.2.1, hH] at hx; cases hx) r1 r2 r3 r4 hC.2.2.2.2.1 (fun t _ h1 h2 => e_thrX hC hS hM hq h1 h2) (fun z hz => hS.2.2 z hz) r3 r4
end ETH
theorem at_IndexOutOfBoundsException : atok "CalendarOrders" 295 "java/lang/IndexOutOfBoundsException" exn = true := by decide +kernel
theorem at_IllegalArgumentException : atok "CalendarOrders" 71 "java/lang/IllegalArgumentException" exn = true := by decide +kernel
theorem at_IllegalStateException : atok "CalendarOrders" 82 "java/lang/IllegalStateException" exn = true := by decide +kernel
theorem gd_IndexOutOfBoundsException : atgd "CalendarOrders" 291 295 "java/lang/IndexOutOfBoundsException" exn = true := by decide +kernel
theorem gd_IllegalArgumentException : atgd "CalendarOrders" 67 71 "java/lang/IllegalArgumentException" exn = true := by decide +kernel
theorem gd_IllegalStateException : atgd "CalendarOrders" 78 82 "java/lang/IllegalStateException" exn = true := by decide +kernel
