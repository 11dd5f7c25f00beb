/-! rows: ends, constants, division, fields, arrays, tests, switches -/
def ob (M : Mm) (a c : Nat) : Prop := a ∈ mL M ∧ mK M a = c
theorem awl {l : List Cond} (h : l.all (fun w => decide (w ∈ lw_tbl) && goodWord w) = true) : ∀ w ∈ l, w ∈ ALLW := fun w hw => by
  have h1 := List.all_eq_true.mp h w hw
  rw [Bool.and_eq_true, decide_eq_true_eq] at h1
  exact List.mem_filter.mpr h1
theorem iwX0 : ∀ w ∈ u_ws RX0 TX0 6, w ∈ ALLW := awl (by decide +kernel)
theorem iwX1 : ∀ w ∈ u_ws RX1 TX1 5, w ∈ ALLW := awl (by decide +kernel)
theorem iwX2 : ∀ w ∈ u_ws RX2 TX2 17, w ∈ ALLW := awl (by decide +kernel)
theorem iwX3 : ∀ w ∈ u_ws RX3 TX3 13, w ∈ ALLW := awl (by decide +kernel)
theorem iwX4 : ∀ w ∈ u_ws RX4 TX4 6, w ∈ ALLW := awl (by decide +kernel)
theorem iwX5 : ∀ w ∈ u_ws RX5 TX5 3, w ∈ ALLW := awl (by decide +kernel)
theorem iwX6 : ∀ w ∈ u_ws RX6 TX6 9, w ∈ ALLW := awl (by decide +kernel)
theorem iwX7 : ∀ w ∈ u_ws RX7 TX7 60, w ∈ ALLW := awl (by decide +kernel)
theorem clok : ∀ (c : Nat) (q : vw_C), vwCl[c]? = some q → c < 8 ∧ (∀ w ∈ u_ws q.1 q.2.1 q.2.2, w ∈ ALLW) ∧ q.2.2 = nfC c ∧ (∀ k, k < q.2.2 → parseFieldDescriptor (q.2.1 k).2.2.1 = some (tyC c k)) ∧ (∀ a, a < q.2.2 → ∀ b, b < q.2.2 → a ≠ b → (q.2.1 a).2.1 ≠ (q.2.1 b).2.1)
  | 0, q, h => by cases h; exact ⟨by decide, iwX0, rfl, tyX0_ok, nmX0⟩
  | 1, q, h => by cases h; exact ⟨by decide, iwX1, rfl, tyX1_ok, nmX1⟩
  | 2, q, h => by cases h; exact ⟨by decide, iwX2, rfl, tyX2_ok, nmX2⟩
  | 3, q, h => by cases h; exact ⟨by decide, iwX3, rfl, tyX3_ok, nmX3⟩
  | 4, q, h => by cases h; exact ⟨by decide, iwX4, rfl, tyX4_ok, nmX4⟩
  | 5, q, h => by cases h; exact ⟨by decide, iwX5, rfl, tyX5_ok, nmX5⟩
  | 6, q, h => by cases h; exact ⟨by decide, iwX6, rfl, tyX6_ok, nmX6⟩
  | 7, q, h => by cases h; exact ⟨by decide, iwX7, rfl, tyX7_ok, nmX7⟩
  | c + 8, q, h => by simp [vwCl] at h
section ER2
variable {G : Gx} {mi : MI} {Q : Rs → Mm → Prop} {M : Mm} {k n pc : Nat} {L : List (Option Value)} {rest : List Value}
theorem e_ret (hd : lkp (miI mi) 0 pc = some (.return_, 1)) (hr : miR mi = none) (hk : k ≤ (miM mi).cells) (hn : n ≤ (miM mi).slots) (hq : Q (.inl none) M) : E G mi Q M k n pc L [] := by
  intro p e s m args below meth c H locs ls hC hS hM hl
  exact W.widen hk hn (vx_ret (W.vret hC.1 hC.2.1 (hC.2.2.2.1.trans hr) (fun t ht hW => ⟨none, M, rfl, hq, by rw [ht]; exact hM, hS.F ht⟩) (fun q hq => hS.2.2 q hq) (hC.dec hd) hC.2.2.2.2.1))
theorem e_reti {x : Int32} (hd : lkp (miI mi) 0 pc = some (.ireturn, 1)) (hr : miR mi = some .int) (hk : k ≤ (miM mi).cells) (hn : n ≤ (miM mi).slots) (hq : Q (.inl (some (.int x))) M) : E G mi Q M k n pc L [.int x] := by
  intro p e s m args below meth c H locs ls hC hS hM hl
  exact W.widen hk hn (vx_ret (W.iret hC.1 hC.2.1 (hC.2.2.2.1.trans hr) (fun t ht hW => ⟨some (.int x), M, rfl, hq, by rw [ht]; exact hM, hS.F ht⟩) (fun q hq => hS.2.2 q hq) (hC.dec hd) hC.2.2.2.2.1))
theorem e_retz {x : Int32} (hd : lkp (miI mi) 0 pc = some (.ireturn, 1)) (hr : miR mi = some .boolean) (hx : x = 0 ∨ x = 1) (hk : k ≤ (miM mi).cells) (hn : n ≤ (miM mi).slots) (hq : Q (.inl (some (.int x))) M) : E G mi Q M k n pc L [.int x] := by
  intro p e s m args below meth c H locs ls hC hS hM hl
  have hz : narrow .boolean (.int x) = .int x := by rcases hx with rfl | rfl <;> rfl
  exact W.widen hk hn (vx_ret (W.zret hC.1 hC.2.1 (hC.2.2.2.1.trans hr) hz (fun t ht hW => ⟨some (.int x), M, rfl, hq, by rw [ht]; exact hM, hS.F ht⟩) (fun q hq => hS.2.2 q hq) (hC.dec hd) hC.2.2.2.2.1))
theorem e_retl {x : Int64} (hd : lkp (miI mi) 0 pc = some (.lreturn, 1)) (hr : miR mi = some .long) (hk : k ≤ (miM mi).cells) (hn : n ≤ (miM mi).slots) (hq : Q (.inl (some (.long x))) M) : E G mi Q M k n pc L [.long x] := by
  intro p e s m args below meth c H locs ls hC hS hM hl
  exact W.widen hk hn (vx_ret (W.lret hC.1 hC.2.1 (hC.2.2.2.1.trans hr) (fun t ht hW => ⟨some (.long x), M, rfl, hq, by rw [ht]; exact hM, hS.F ht⟩) (fun q hq => hS.2.2 q hq) (hC.dec hd) hC.2.2.2.2.1))
theorem e_reta {v : Option Nat} {C : String} (hd : lkp (miI mi) 0 pc = some (.areturn, 1)) (hr : miR mi = some (.object C)) (hk : k ≤ (miM mi).cells) (hn : n ≤ (miM mi).slots) (hq : Q (.inl (some (va_rf v))) M) : E G mi Q M k n pc L [va_rf v] := by
  intro p e s m args below meth c H locs ls hC hS hM hl
  exact W.widen hk hn (vx_ret (W.aret hC.1 hC.2.1 (hC.2.2.2.1.trans hr) (Or.inl ⟨C, rfl⟩) (by cases v with
    | none => exact Or.inl rfl
    | some a => exact Or.inr ⟨a, rfl⟩) (fun t ht hW => ⟨some (va_rf v), M, rfl, hq, by rw [ht]; exact hM, hS.F ht⟩) (fun q hq => hS.2.2 q hq) (hC.dec hd) hC.2.2.2.2.1))
theorem e_ldc {idx : Nat} (x : Int32) (hd : lkp (miI mi) 0 pc = some (.ldc idx, 2)) (hw : Cond.constant (miY mi).cls idx x ∈ ALLW) (kk : E G mi Q M k n (pc + 2) L (.int x :: rest)) : E G mi Q M k n pc L rest := by
  intro p e s m args below meth c H locs ls hC hS hM hl
  exact lv_ldc hC.1 hC.2.1 hC.own (hC.ws hw) (hC.dec hd) (kk p e s m args below meth c H locs ls hC hS hM hl)
theorem e_ldcw {idx : Nat} (x : Int32) (hd : lkp (miI mi) 0 pc = some (.ldc_w idx, 3)) (hw : Cond.constant (miY mi).cls idx x ∈ ALLW) (kk : E G mi Q M k n (pc + 3) L (.int x :: rest)) : E G mi Q M k n pc L rest := by
  intro p e s m args below meth c H locs ls hC hS hM hl
  exact lv_ldcw hC.1 hC.2.1 hC.own (hC.ws hw) (hC.dec hd) (kk p e s m args below meth c H locs ls hC hS hM hl)
theorem e_ldc2 {idx : Nat} (x : Int64) (hd : lkp (miI mi) 0 pc = some (.ldc2_w idx, 3)) (hw : Cond.constantLong (miY mi).cls idx x ∈ ALLW) (kk : E G mi Q M k n (pc + 3) L (.long x :: rest)) : E G mi Q M k n pc L rest := by
  intro p e s m args below meth c H locs ls hC hS hM hl
  exact lv_ldc2 hC.1 hC.2.1 hC.own (hC.ws hw) (hC.dec hd) (kk p e s m args below meth c H locs ls hC hS hM hl)
theorem e_idiv {x y : Int32} (hd : lkp (miI mi) 0 pc = some (.idiv, 1)) (hy : ¬ y = 0) (kk : E G mi Q M k n (pc + 1) L (.int (x / y) :: rest)) : E G mi Q M k n pc L (.int y :: .int x :: rest) := by
  intro p e s m args below meth c H locs ls hC hS hM hl
  exact lv_idiv hC.1 hC.2.1 (hC.dec hd) hy (kk p e s m args below meth c H locs ls hC hS hM hl)
theorem e_irem {x y : Int32} (hd : lkp (miI mi) 0 pc = some (.irem, 1)) (hy : ¬ y = 0) (kk : E G mi Q M k n (pc + 1) L (.int (x - x / y * y) :: rest)) : E G mi Q M k n pc L (.int y :: .int x :: rest) := by
  intro p e s m args below meth c H locs ls hC hS hM hl
  exact lv_irem hC.1 hC.2.1 (hC.dec hd) hy (kk p e s m args below meth c H locs ls hC hS hM hl)
theorem e_nn {x : Nat} {off : Int} (tgt : Nat) (hd : lkp (miI mi) 0 pc = some (.ifnonnull off, 3)) (ht : (pc : Int) + off = (tgt : Int)) (kk : E G mi Q M k n tgt L rest) : E G mi Q M k n pc L (.ref x :: rest) := by
  intro p e s m args below meth c H locs ls hC hS hM hl
  exact lv_ifnonnull hC.1 hC.2.1 (hC.dec hd) ht (kk p e s m args below meth c H locs ls hC hS hM hl)
theorem e_nnN {off : Int} (hd : lkp (miI mi) 0 pc = some (.ifnonnull off, 3)) (kk : E G mi Q M k n (pc + 3) L rest) : E G mi Q M k n pc L (.null :: rest) := by
  intro p e s m args below meth c H locs ls hC hS hM hl
  exact lv_ifnonnullN hC.1 hC.2.1 (hC.dec hd) (kk p e s m args below meth c H locs ls hC hS hM hl)
theorem e_swI {dflt lo hi : Int} {offs : Array Int} {len : Nat} {x : Int32} (off : Int) (tgt : Nat) (hd : lkp (miI mi) 0 pc = some (.tableswitch dflt lo hi offs, len)) (h1 : ¬ x.toInt < lo) (h2 : ¬ hi < x.toInt) (ho : offs[(x.toInt - lo).toNat]? = some off) (ht : (pc : Int) + off = (tgt : Int)) (kk : E G mi Q M k n tgt L rest) : E G mi Q M k n pc L (.int x :: rest) := by
  intro p e s m args below meth c H locs ls hC hS hM hl
  exact lv_tableIn hC.1 hC.2.1 (hC.dec hd) h1 h2 ho ht (kk p e s m args below meth c H locs ls hC hS hM hl)
theorem e_swO {dflt lo hi : Int} {offs : Array Int} {len : Nat} {x : Int32} (tgt : Nat) (hd : lkp (miI mi) 0 pc = some (.tableswitch dflt lo hi offs, len)) (h1 : x.toInt < lo ∨ hi < x.toInt) (ht : (pc : Int) + dflt = (tgt : Int)) (kk : E G mi Q M k n tgt L rest) : E G mi Q M k n pc L (.int x :: rest) := by
  intro p e s m args below meth c H locs ls hC hS hM hl
  exact lv_tableOut hC.1 hC.2.1 (hC.dec hd) h1 ht (kk p e s m args below meth c H locs ls hC hS hM hl)
theorem e_lsw {dflt : Int} {ps : Array (Int × Int)} {len : Nat} {x : Int32} (off : Int) (tgt : Nat) (hd : lkp (miI mi) 0 pc = some (.lookupswitch dflt ps, len)) (hp : (ps.toList.zip (ps.toList.drop 1)).all (fun (a, next) => a.1 < next.1) = true) (ho : Op.lookupswitch.offset ps.toList dflt x.toInt = off) (ht : (pc : Int) + off = (tgt : Int)) (kk : E G mi Q M k n tgt L rest) : E G mi Q M k n pc L (.int x :: rest) := by
  intro p e s m args below meth c H locs ls hC hS hM hl
  exact lv_lookup hC.1 hC.2.1 (hC.dec hd) hp ho ht (kk p e s m args below meth c H locs ls hC hS hM hl)
theorem e_getI (c f : Nat) {a idx : Nat} {q : vw_C} (hd : lkp (miI mi) 0 pc = some (.getfield idx, 3)) (hc : vwCl[c]? = some q) (hf : f < q.2.2) (hw : Cond.fieldLink (miY mi).cls idx (q.2.1 f).1 (q.2.1 f).2.1 (q.2.1 f).2.2.1 ∈ ALLW) (ha : ob M a c) (hs : srt (tyC c f) = 0) (kk : E G mi Q M k n (pc + 3) L (.int (mI M a f) :: rest)) : E G mi Q M k n pc L (.ref a :: rest) := by
  intro p e s m args below meth cd H locs ls hC hS hM hl
  obtain ⟨h8, h1, h2, h3, h4⟩ := clok c q hc
  obtain ⟨z, hz⟩ := xw_get (G := G) ha.1
  rw [ent_o ha.2 h8] at hz
  have hv : (fl M a c)[f]? = some (.int (mI M a f)) := by
    rw [fl_at M a c (by rw [← h2]; exact hf)]
    unfold fv
    rw [hs]
    rfl
  exact va_get hC.1 hC.2.1 hC.2.2.2.2.2.2.2.2.1 h1 hC.own hC.g.1 hM.1 z hz hc f hf (hC.ws hw) (fun x h => h) hv (hC.dec hd) (kk p e s m args below meth cd H locs ls hC hS hM hl)
theorem e_getJ (c f : Nat) {a idx : Nat} {q : vw_C} (hd : lkp (miI mi) 0 pc = some (.getfield idx, 3)) (hc : vwCl[c]? = some q) (hf : f < q.2.2) (hw : Cond.fieldLink (miY mi).cls idx (q.2.1 f).1 (q.2.1 f).2.1 (q.2.1 f).2.2.1 ∈ ALLW) (ha : ob M a c) (hs : srt (tyC c f) = 1) (kk : E G mi Q M k n (pc + 3) L (.long (mJ M a f) :: rest)) : E G mi Q M k n pc L (.ref a :: rest) := by
  intro p e s m args below meth cd H locs ls hC hS hM hl
  obtain ⟨h8, h1, h2, h3, h4⟩ := clok c q hc
  obtain ⟨z, hz⟩ := xw_get (G := G) ha.1
  rw [ent_o ha.2 h8] at hz
  have hv : (fl M a c)[f]? = some (.long (mJ M a f)) := by
    rw [fl_at M a c (by rw [← h2]; exact hf)]
    unfold fv
    rw [hs]
    rfl
  exact va_get hC.1 hC.2.1 hC.2.2.2.2.2.2.2.2.1 h1 hC.own hC.g.1 hM.1 z hz hc f hf (hC.ws hw) (fun x h => h) hv (hC.dec hd) (kk p e s m args below meth cd H locs ls hC hS hM hl)
theorem e_getP (c f : Nat) {a idx : Nat} {q : vw_C} {b : Option Nat} (hd : lkp (miI mi) 0 pc = some (.getfield idx, 3)) (hc : vwCl[c]? = some q) (hf : f < q.2.2) (hw : Cond.fieldLink (miY mi).cls idx (q.2.1 f).1 (q.2.1 f).2.1 (q.2.1 f).2.2.1 ∈ ALLW) (ha : ob M a c) (hs : srt (tyC c f) = 2) (hb : mP M a f = b) (kk : E G mi Q M k n (pc + 3) L (va_rf b :: rest)) : E G mi Q M k n pc L (.ref a :: rest) := by
  intro p e s m args below meth cd H locs ls hC hS hM hl
  obtain ⟨h8, h1, h2, h3, h4⟩ := clok c q hc
  obtain ⟨z, hz⟩ := xw_get (G := G) ha.1
  rw [ent_o ha.2 h8] at hz
  have hv : (fl M a c)[f]? = some (va_rf b) := by
    rw [fl_at M a c (by rw [← h2]; exact hf)]
    unfold fv
    rw [hs]; rw [← hb]
    rfl
  exact va_get hC.1 hC.2.1 hC.2.2.2.2.2.2.2.2.1 h1 hC.own hC.g.1 hM.1 z hz hc f hf (hC.ws hw) (fun x h => h) hv (hC.dec hd) (kk p e s m args below meth cd H locs ls hC hS hM hl)
theorem e_putI (c f : Nat) {a idx : Nat} {q : vw_C} {v : Int32} (hd : lkp (miI mi) 0 pc = some (.putfield idx, 3)) (hc : vwCl[c]? = some q) (hf : f < q.2.2) (hw : Cond.fieldLink (miY mi).cls idx (q.2.1 f).1 (q.2.1 f).2.1 (q.2.1 f).2.2.1 ∈ ALLW) (hfi : (q.2.1 f).2.2.2 = false) (ha : ob M a c) (hs : tyC c f = .int) (kk : E G mi Q (sI M a f v) k n (pc + 3) L rest) : E G mi Q M k n pc L (.int v :: .ref a :: rest) := by
  intro p e s m args below meth cd H locs ls hC hS hM hl
  obtain ⟨h8, h1, h2, h3, h4⟩ := clok c q hc
  obtain ⟨z, hz⟩ := xw_get (G := G) ha.1
  have hz0 := hz
  rw [ent_o ha.2 h8] at hz
  have hsz : f < nfC c := by rw [← h2]; exact hf
  refine va_put hC.1 hC.2.1 hC.2.2.2.2.2.2.2.2.1 h1 (tyC c) h3 h4 hC.own hC.g.1 hM.1 hM.2 hS z hz hc f hf (hC.ws hw) (fun x h => h) hfi (v := .int v) (h3 f hf) (by rw [hs]; rfl) (by rw [hs]; rfl) (by rw [fl_len]; exact hsz) (hC.dec hd) ?_
  intro H1 locs1 hP1 hD1 hS1
  have he := xw_set (G := G) (M := M) (M' := sI M a f v) hM.2 ha.1 hz0 rfl (e := .inr (c, (fl M a c).set f (.int v))) (ent_sI v ha.2 h8 hsz (by rw [hs]; rfl))
  rw [he] at hP1 hD1
  exact kk p e s m args below meth cd H1 locs1 ls hC hS1 ⟨hP1, hD1⟩ hl
theorem e_putZ (c f : Nat) {a idx : Nat} {q : vw_C} {v : Int32} (hd : lkp (miI mi) 0 pc = some (.putfield idx, 3)) (hc : vwCl[c]? = some q) (hf : f < q.2.2) (hw : Cond.fieldLink (miY mi).cls idx (q.2.1 f).1 (q.2.1 f).2.1 (q.2.1 f).2.2.1 ∈ ALLW) (hfi : (q.2.1 f).2.2.2 = false) (ha : ob M a c) (hs : tyC c f = .boolean) (hz1 : v = 0 ∨ v = 1) (kk : E G mi Q (sI M a f v) k n (pc + 3) L rest) : E G mi Q M k n pc L (.int v :: .ref a :: rest) := by
  intro p e s m args below meth cd H locs ls hC hS hM hl
  obtain ⟨h8, h1, h2, h3, h4⟩ := clok c q hc
  obtain ⟨z, hz⟩ := xw_get (G := G) ha.1
  have hz0 := hz
  rw [ent_o ha.2 h8] at hz
  have hsz : f < nfC c := by rw [← h2]; exact hf
  refine va_put hC.1 hC.2.1 hC.2.2.2.2.2.2.2.2.1 h1 (tyC c) h3 h4 hC.own hC.g.1 hM.1 hM.2 hS z hz hc f hf (hC.ws hw) (fun x h => h) hfi (v := .int v) (h3 f hf) (by rw [hs]; rcases hz1 with rfl | rfl <;> rfl) (by rw [hs]; rcases hz1 with rfl | rfl <;> rfl) (by rw [fl_len]; exact hsz) (hC.dec hd) ?_
  intro H1 locs1 hP1 hD1 hS1
  have he := xw_set (G := G) (M := M) (M' := sI M a f v) hM.2 ha.1 hz0 rfl (e := .inr (c, (fl M a c).set f (.int v))) (ent_sI v ha.2 h8 hsz (by rw [hs]; rfl))
  rw [he] at hP1 hD1
  exact kk p e s m args below meth cd H1 locs1 ls hC hS1 ⟨hP1, hD1⟩ hl
theorem e_putJ (c f : Nat) {a idx : Nat} {q : vw_C} {v : Int64} (hd : lkp (miI mi) 0 pc = some (.putfield idx, 3)) (hc : vwCl[c]? = some q) (hf : f < q.2.2) (hw : Cond.fieldLink (miY mi).cls idx (q.2.1 f).1 (q.2.1 f).2.1 (q.2.1 f).2.2.1 ∈ ALLW) (hfi : (q.2.1 f).2.2.2 = false) (ha : ob M a c) (hs : tyC c f = .long) (kk : E G mi Q (sJ M a f v) k n (pc + 3) L rest) : E G mi Q M k n pc L (.long v :: .ref a :: rest) := by
  intro p e s m args below meth cd H locs ls hC hS hM hl
  obtain ⟨h8, h1, h2, h3, h4⟩ := clok c q hc
  obtain ⟨z, hz⟩ := xw_get (G := G) ha.1
  have hz0 := hz
  rw [ent_o ha.2 h8] at hz
  have hsz : f < nfC c := by rw [← h2]; exact hf
  refine va_put hC.1 hC.2.1 hC.2.2.2.2.2.2.2.2.1 h1 (tyC c) h3 h4 hC.own hC.g.1 hM.1 hM.2 hS z hz hc f hf (hC.ws hw) (fun x h => h) hfi (v := .long v) (h3 f hf) (by rw [hs]; rfl) (by rw [hs]; rfl) (by rw [fl_len]; exact hsz) (hC.dec hd) ?_
  intro H1 locs1 hP1 hD1 hS1
  have he := xw_set (G := G) (M := M) (M' := sJ M a f v) hM.2 ha.1 hz0 rfl (e := .inr (c, (fl M a c).set f (.long v))) (ent_sJ v ha.2 h8 hsz (by rw [hs]; rfl))
  rw [he] at hP1 hD1
  exact kk p e s m args below meth cd H1 locs1 ls hC hS1 ⟨hP1, hD1⟩ hl
theorem e_putP (c f : Nat) {a idx : Nat} {q : vw_C} {v : Option Nat} {C : String} (hd : lkp (miI mi) 0 pc = some (.putfield idx, 3)) (hc : vwCl[c]? = some q) (hf : f < q.2.2) (hw : Cond.fieldLink (miY mi).cls idx (q.2.1 f).1 (q.2.1 f).2.1 (q.2.1 f).2.2.1 ∈ ALLW) (hfi : (q.2.1 f).2.2.2 = false) (ha : ob M a c) (hs : tyC c f = .object C) (kk : E G mi Q (sP M a f v) k n (pc + 3) L rest) : E G mi Q M k n pc L (va_rf v :: .ref a :: rest) := by
  intro p e s m args below meth cd H locs ls hC hS hM hl
  obtain ⟨h8, h1, h2, h3, h4⟩ := clok c q hc
  obtain ⟨z, hz⟩ := xw_get (G := G) ha.1
  have hz0 := hz
  rw [ent_o ha.2 h8] at hz
  have hsz : f < nfC c := by rw [← h2]; exact hf
  refine va_put hC.1 hC.2.1 hC.2.2.2.2.2.2.2.2.1 h1 (tyC c) h3 h4 hC.own hC.g.1 hM.1 hM.2 hS z hz hc f hf (hC.ws hw) (fun x h => h) hfi (v := va_rf v) (h3 f hf) (by rw [hs]; cases v <;> rfl) (by rw [hs]; cases v <;> rfl) (by rw [fl_len]; exact hsz) (hC.dec hd) ?_
  intro H1 locs1 hP1 hD1 hS1
  have he := xw_set (G := G) (M := M) (M' := sP M a f v) hM.2 ha.1 hz0 rfl (e := .inr (c, (fl M a c).set f (va_rf v))) (ent_sP v ha.2 h8 hsz (by rw [hs]; rfl))
  rw [he] at hP1 hD1
  exact kk p e s m args below meth cd H1 locs1 ls hC hS1 ⟨hP1, hD1⟩ hl
theorem e_putFI (c f : Nat) {a idx : Nat} {q : vw_C} {v : Int32} (hd : lkp (miI mi) 0 pc = some (.putfield idx, 3)) (hc : vwCl[c]? = some q) (hf : f < q.2.2) (hw : Cond.fieldLink (miY mi).cls idx (q.2.1 f).1 (q.2.1 f).2.1 (q.2.1 f).2.2.1 ∈ ALLW) (hfi : (q.2.1 f).2.2.2 = true) (hin : (miY mi).name = "<init>") (hdl : (q.2.1 f).1 = (miY mi).cls) (ha : ob M a c) (hs : tyC c f = .int) (kk : E G mi Q (sI M a f v) k n (pc + 3) L rest) : E G mi Q M k n pc L (.int v :: .ref a :: rest) := by
  intro p e s m args below meth cd H locs ls hC hS hM hl
  obtain ⟨h8, h1, h2, h3, h4⟩ := clok c q hc
  obtain ⟨z, hz⟩ := xw_get (G := G) ha.1
  have hz0 := hz
  rw [ent_o ha.2 h8] at hz
  have hsz : f < nfC c := by rw [← h2]; exact hf
  refine va_putF hC.1 hC.2.1 hC.2.2.2.2.2.2.2.2.1 h1 (tyC c) h3 h4 hC.own hC.g.1 hM.1 hM.2 hS z hz hc f hf (hC.ws hw) (fun x h => h) hfi (hC.2.2.2.2.2.2.2.1.trans hin) hdl (v := .int v) (h3 f hf) (by rw [hs]; rfl) (by rw [hs]; rfl) (by rw [fl_len]; exact hsz) (hC.dec hd) ?_
  intro H1 locs1 hP1 hD1 hS1
  have he := xw_set (G := G) (M := M) (M' := sI M a f v) hM.2 ha.1 hz0 rfl (e := .inr (c, (fl M a c).set f (.int v))) (ent_sI v ha.2 h8 hsz (by rw [hs]; rfl))
  rw [he] at hP1 hD1
  exact kk p e s m args below meth cd H1 locs1 ls hC hS1 ⟨hP1, hD1⟩ hl
theorem e_putFP (c f : Nat) {a idx : Nat} {q : vw_C} {v : Option Nat} {C : String} (hd : lkp (miI mi) 0 pc = some (.putfield idx, 3)) (hc : vwCl[c]? = some q) (hf : f < q.2.2) (hw : Cond.fieldLink (miY mi).cls idx (q.2.1 f).1 (q.2.1 f).2.1 (q.2.1 f).2.2.1 ∈ ALLW) (hfi : (q.2.1 f).2.2.2 = true) (hin : (miY mi).name = "<init>") (hdl : (q.2.1 f).1 = (miY mi).cls) (ha : ob M a c) (hs : tyC c f = .object C) (kk : E G mi Q (sP M a f v) k n (pc + 3) L rest) : E G mi Q M k n pc L (va_rf v :: .ref a :: rest) := by
  intro p e s m args below meth cd H locs ls hC hS hM hl
  obtain ⟨h8, h1, h2, h3, h4⟩ := clok c q hc
  obtain ⟨z, hz⟩ := xw_get (G := G) ha.1
  have hz0 := hz
  rw [ent_o ha.2 h8] at hz
  have hsz : f < nfC c := by rw [← h2]; exact hf
  refine va_putF hC.1 hC.2.1 hC.2.2.2.2.2.2.2.2.1 h1 (tyC c) h3 h4 hC.own hC.g.1 hM.1 hM.2 hS z hz hc f hf (hC.ws hw) (fun x h => h) hfi (hC.2.2.2.2.2.2.2.1.trans hin) hdl (v := va_rf v) (h3 f hf) (by rw [hs]; cases v <;> rfl) (by rw [hs]; cases v <;> rfl) (by rw [fl_len]; exact hsz) (hC.dec hd) ?_
  intro H1 locs1 hP1 hD1 hS1
  have he := xw_set (G := G) (M := M) (M' := sP M a f v) hM.2 ha.1 hz0 rfl (e := .inr (c, (fl M a c).set f (va_rf v))) (ent_sP v ha.2 h8 hsz (by rw [hs]; rfl))
  rw [he] at hP1 hD1
  exact kk p e s m args below meth cd H1 locs1 ls hC hS1 ⟨hP1, hD1⟩ hl
theorem e_putFA (c f : Nat) {a idx : Nat} {q : vw_C} {v : Option Nat} {C : FieldType} (hd : lkp (miI mi) 0 pc = some (.putfield idx, 3)) (hc : vwCl[c]? = some q) (hf : f < q.2.2) (hw : Cond.fieldLink (miY mi).cls idx (q.2.1 f).1 (q.2.1 f).2.1 (q.2.1 f).2.2.1 ∈ ALLW) (hfi : (q.2.1 f).2.2.2 = true) (hin : (miY mi).name = "<init>") (hdl : (q.2.1 f).1 = (miY mi).cls) (ha : ob M a c) (hs : tyC c f = .array C) (kk : E G mi Q (sP M a f v) k n (pc + 3) L rest) : E G mi Q M k n pc L (va_rf v :: .ref a :: rest) := by
  intro p e s m args below meth cd H locs ls hC hS hM hl
  obtain ⟨h8, h1, h2, h3, h4⟩ := clok c q hc
  obtain ⟨z, hz⟩ := xw_get (G := G) ha.1
  have hz0 := hz
  rw [ent_o ha.2 h8] at hz
  have hsz : f < nfC c := by rw [← h2]; exact hf
  refine va_putF hC.1 hC.2.1 hC.2.2.2.2.2.2.2.2.1 h1 (tyC c) h3 h4 hC.own hC.g.1 hM.1 hM.2 hS z hz hc f hf (hC.ws hw) (fun x h => h) hfi (hC.2.2.2.2.2.2.2.1.trans hin) hdl (v := va_rf v) (h3 f hf) (by rw [hs]; cases v <;> rfl) (by rw [hs]; cases v <;> rfl) (by rw [fl_len]; exact hsz) (hC.dec hd) ?_
  intro H1 locs1 hP1 hD1 hS1
  have he := xw_set (G := G) (M := M) (M' := sP M a f v) hM.2 ha.1 hz0 rfl (e := .inr (c, (fl M a c).set f (va_rf v))) (ent_sP v ha.2 h8 hsz (by rw [hs]; rfl))
  rw [he] at hP1 hD1
  exact kk p e s m args below meth cd H1 locs1 ls hC hS1 ⟨hP1, hD1⟩ hl
theorem e_iald {a : Nat} {i : Int32} (hd : lkp (miI mi) 0 pc = some (.iaload, 1)) (ha : ob M a 9) (hi : vp_in i (mN M a)) (kk : E G mi Q M k n (pc + 1) L (.int (mI M a i.toNatClampNeg) :: rest)) : E G mi Q M k n pc L (.int i :: .ref a :: rest) := by
  intro p e s m args below meth cd H locs ls hC hS hM hl
  obtain ⟨z, hz⟩ := xw_get (G := G) ha.1
  rw [ent_i ha.2 (by omega) (by omega) (by omega)] at hz
  exact va_iald hC.1 hC.2.1 hC.g.1 hM.1 z 1 hz rfl hi (hC.dec hd) (kk p e s m args below meth cd H locs ls hC hS hM hl)
theorem e_bald {a : Nat} {i : Int32} (hd : lkp (miI mi) 0 pc = some (.baload, 1)) (ha : ob M a 8) (hi : vp_in i (mN M a)) (kk : E G mi Q M k n (pc + 1) L (.int (mI M a i.toNatClampNeg) :: rest)) : E G mi Q M k n pc L (.int i :: .ref a :: rest) := by
  intro p e s m args below meth cd H locs ls hC hS hM hl
  obtain ⟨z, hz⟩ := xw_get (G := G) ha.1
  rw [ent_i ha.2 (by omega) (by omega) (by omega)] at hz
  exact va_bald hC.1 hC.2.1 hC.g.1 hM.1 z 0 hz rfl hi (hC.dec hd) (kk p e s m args below meth cd H locs ls hC hS hM hl)
theorem e_zald {a : Nat} {i : Int32} (hd : lkp (miI mi) 0 pc = some (.baload, 1)) (ha : ob M a 11) (hi : vp_in i (mN M a)) (kk : E G mi Q M k n (pc + 1) L (.int (mI M a i.toNatClampNeg) :: rest)) : E G mi Q M k n pc L (.int i :: .ref a :: rest) := by
  intro p e s m args below meth cd H locs ls hC hS hM hl
  obtain ⟨z, hz⟩ := xw_get (G := G) ha.1
  rw [ent_i ha.2 (by omega) (by omega) (by omega)] at hz
  exact va_zald hC.1 hC.2.1 hC.g.1 hM.1 z 3 hz rfl hi (hC.dec hd) (kk p e s m args below meth cd H locs ls hC hS hM hl)
theorem e_lald {a : Nat} {i : Int32} (hd : lkp (miI mi) 0 pc = some (.laload, 1)) (ha : ob M a 10) (hi : vp_in i (mN M a)) (kk : E G mi Q M k n (pc + 1) L (.long (mJ M a i.toNatClampNeg) :: rest)) : E G mi Q M k n pc L (.int i :: .ref a :: rest) := by
  intro p e s m args below meth cd H locs ls hC hS hM hl
  obtain ⟨z, hz⟩ := xw_get (G := G) ha.1
  rw [ent_j ha.2] at hz
  exact va_lald hC.1 hC.2.1 hC.g.1 hM.1 z 2 hz rfl hi (hC.dec hd) (kk p e s m args below meth cd H locs ls hC hS hM hl)
theorem e_aaldO {a : Nat} {i : Int32} (hd : lkp (miI mi) 0 pc = some (.aaload, 1)) (ha : ob M a 12) (hi : vp_in i (mN M a)) (kk : E G mi Q M k n (pc + 1) L (va_rf (mP M a i.toNatClampNeg) :: rest)) : E G mi Q M k n pc L (.int i :: .ref a :: rest) := by
  intro p e s m args below meth cd H locs ls hC hS hM hl
  obtain ⟨z, hz⟩ := xw_get (G := G) ha.1
  rw [ent_p ha.2 (by omega)] at hz
  exact va_aldq hC.1 hC.2.1 hC.g.1 hM.1 z 4 hz rfl hi (hC.dec hd) (kk p e s m args below meth cd H locs ls hC hS hM hl)
theorem e_aaldZ {a : Nat} {i : Int32} (hd : lkp (miI mi) 0 pc = some (.aaload, 1)) (ha : ob M a 13) (hi : vp_in i (mN M a)) (kk : E G mi Q M k n (pc + 1) L (va_rf (mP M a i.toNatClampNeg) :: rest)) : E G mi Q M k n pc L (.int i :: .ref a :: rest) := by
  intro p e s m args below meth cd H locs ls hC hS hM hl
  obtain ⟨z, hz⟩ := xw_get (G := G) ha.1
  rw [ent_p ha.2 (by omega)] at hz
  exact va_aldq hC.1 hC.2.1 hC.g.1 hM.1 z 5 hz rfl hi (hC.dec hd) (kk p e s m args below meth cd H locs ls hC hS hM hl)
theorem e_iast {a : Nat} {i : Int32} {v : Int32} (hd : lkp (miI mi) 0 pc = some (.iastore, 1)) (ha : ob M a 9) (hi : vp_in i (mN M a)) (kk : E G mi Q (sI M a i.toNatClampNeg v) k n (pc + 1) L rest) : E G mi Q M k n pc L (.int v :: .int i :: .ref a :: rest) := by
  intro p e s m args below meth cd H locs ls hC hS hM hl
  obtain ⟨z, hz⟩ := xw_get (G := G) ha.1
  have hz0 := hz
  rw [ent_i ha.2 (by omega) (by omega) (by omega)] at hz
  refine va_iast hC.1 hC.2.1 hC.g.1 hM.1 hM.2 hS z 1 hz rfl hi (hC.dec hd) ?_
  intro H1 locs1 hP1 hD1 hS1
  have he := xw_set (G := G) (M := M) (M' := sI M a i.toNatClampNeg v) hM.2 ha.1 hz0 rfl (e := .inl (gY G 9, mN M a, .inl (upd (mI M a) i.toNatClampNeg v))) (ent_aI v ha.2 (by omega) (by omega) (by omega))
  rw [he] at hP1 hD1
  exact kk p e s m args below meth cd H1 locs1 ls hC hS1 ⟨hP1, hD1⟩ hl
theorem e_bast {a : Nat} {i : Int32} {v : Int32} (hd : lkp (miI mi) 0 pc = some (.bastore, 1)) (ha : ob M a 8) (hi : vp_in i (mN M a)) (kk : E G mi Q (sI M a i.toNatClampNeg (vp_nar .byte v)) k n (pc + 1) L rest) : E G mi Q M k n pc L (.int v :: .int i :: .ref a :: rest) := by
  intro p e s m args below meth cd H locs ls hC hS hM hl
  obtain ⟨z, hz⟩ := xw_get (G := G) ha.1
  have hz0 := hz
  rw [ent_i ha.2 (by omega) (by omega) (by omega)] at hz
  refine va_bast hC.1 hC.2.1 hC.g.1 hM.1 hM.2 hS z 0 hz rfl hi (hC.dec hd) ?_
  intro H1 locs1 hP1 hD1 hS1
  have he := xw_set (G := G) (M := M) (M' := sI M a i.toNatClampNeg (vp_nar .byte v)) hM.2 ha.1 hz0 rfl (e := .inl (gY G 8, mN M a, .inl (upd (mI M a) i.toNatClampNeg (vp_nar .byte v)))) (ent_aI _ ha.2 (by omega) (by omega) (by omega))
  rw [he] at hP1 hD1
  exact kk p e s m args below meth cd H1 locs1 ls hC hS1 ⟨hP1, hD1⟩ hl
theorem e_zast {a : Nat} {i : Int32} {v : Int32} (hd : lkp (miI mi) 0 pc = some (.bastore, 1)) (ha : ob M a 11) (hi : vp_in i (mN M a)) (kk : E G mi Q (sI M a i.toNatClampNeg (vp_nar .boolean v)) k n (pc + 1) L rest) : E G mi Q M k n pc L (.int v :: .int i :: .ref a :: rest) := by
  intro p e s m args below meth cd H locs ls hC hS hM hl
  obtain ⟨z, hz⟩ := xw_get (G := G) ha.1
  have hz0 := hz
  rw [ent_i ha.2 (by omega) (by omega) (by omega)] at hz
  refine va_zast hC.1 hC.2.1 hC.g.1 hM.1 hM.2 hS z 3 hz rfl hi (hC.dec hd) ?_
  intro H1 locs1 hP1 hD1 hS1
  have he := xw_set (G := G) (M := M) (M' := sI M a i.toNatClampNeg (vp_nar .boolean v)) hM.2 ha.1 hz0 rfl (e := .inl (gY G 11, mN M a, .inl (upd (mI M a) i.toNatClampNeg (vp_nar .boolean v)))) (ent_aI _ ha.2 (by omega) (by omega) (by omega))
  rw [he] at hP1 hD1
  exact kk p e s m args below meth cd H1 locs1 ls hC hS1 ⟨hP1, hD1⟩ hl
theorem e_last {a : Nat} {i : Int32} {v : Int64} (hd : lkp (miI mi) 0 pc = some (.lastore, 1)) (ha : ob M a 10) (hi : vp_in i (mN M a)) (kk : E G mi Q (sJ M a i.toNatClampNeg v) k n (pc + 1) L rest) : E G mi Q M k n pc L (.long v :: .int i :: .ref a :: rest) := by
  intro p e s m args below meth cd H locs ls hC hS hM hl
  obtain ⟨z, hz⟩ := xw_get (G := G) ha.1
  have hz0 := hz
  rw [ent_j ha.2] at hz
  refine va_last hC.1 hC.2.1 hC.g.1 hM.1 hM.2 hS z 2 hz rfl hi (hC.dec hd) ?_
  intro H1 locs1 hP1 hD1 hS1
  have he := xw_set (G := G) (M := M) (M' := sJ M a i.toNatClampNeg v) hM.2 ha.1 hz0 rfl (e := .inl (gY G 10, mN M a, .inr (.inl (vp_updL (mJ M a) i.toNatClampNeg v)))) (ent_aJ v ha.2)
  rw [he] at hP1 hD1
  exact kk p e s m args below meth cd H1 locs1 ls hC hS1 ⟨hP1, hD1⟩ hl
end ER2
