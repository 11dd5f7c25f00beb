def is_X6_fault : List (Instr × Nat) := [(.aload_n 0, 1), (.getfield 159, 3), (.ireturn, 1)]
abbrev mi_X6_fault : MI := (yX6_fault, cX6_fault, 1, (some .int), [], { frames := 0, cells := 0, slots := 0, locals := 0 }, is_X6_fault)
theorem dc_X6_fault : dcb cX6_fault is_X6_fault 0 = true := by decide +kernel
theorem wc_X6_fault : cdw mi_X6_fault ∈ ALLW := aw (i := 364) (by decide +kernel) rfl
theorem wi_X6_fault : Cond.initialized (miY mi_X6_fault).cls ∈ ALLW := aw (i := 57) (by decide +kernel) rfl
theorem wn_X6_fault : Cond.instanceMethod (miY mi_X6_fault) ∈ ALLW := aw (i := 362) (by decide +kernel) rfl
theorem wv_X6_fault : Cond.selects (miY mi_X6_fault).cls (miY mi_X6_fault) (miY mi_X6_fault) ∈ ALLW := aw (i := 363) (by decide +kernel) rfl
def is_X6_tear : List (Instr × Nat) := [(.aload_n 0, 1), (.getfield 38, 3), (.getfield 275, 3), (.istore_n 1, 1), (.aload_n 0, 1), (.getfield 38, 3), (.iconst 0, 1), (.putfield 275, 3), (.iload_n 1, 1), (.ireturn, 1)]
abbrev mi_X6_tear : MI := (yX6_tear, cX6_tear, 2, (some .int), [], { frames := 0, cells := 0, slots := 0, locals := 0 }, is_X6_tear)
theorem dc_X6_tear : dcb cX6_tear is_X6_tear 0 = true := by decide +kernel
theorem wc_X6_tear : cdw mi_X6_tear ∈ ALLW := aw (i := 368) (by decide +kernel) rfl
theorem wi_X6_tear : Cond.initialized (miY mi_X6_tear).cls ∈ ALLW := aw (i := 57) (by decide +kernel) rfl
theorem wn_X6_tear : Cond.instanceMethod (miY mi_X6_tear) ∈ ALLW := aw (i := 366) (by decide +kernel) rfl
theorem wv_X6_tear : Cond.selects (miY mi_X6_tear).cls (miY mi_X6_tear) (miY mi_X6_tear) ∈ ALLW := aw (i := 367) (by decide +kernel) rfl
def is_X6_leastFreeNumber : List (Instr × Nat) := [(.iconst 0, 1), (.istore_n 1, 1), (.iload_n 1, 1), (.bipush 12, 2), (.if_icmp .ge 23, 3), (.aload_n 0, 1), (.getfield 24, 3), (.iload_n 1, 1), (.aaload, 1), (.getfield 176, 3), (.ifCond .ne 5, 3), (.iload_n 1, 1), (.ireturn, 1), (.iinc 1 1, 3), (.goto (-23), 3), (.iconst (-1), 1), (.ireturn, 1)]
abbrev mi_X6_leastFreeNumber : MI := (yX6_leastFreeNumber, cX6_leastFreeNumber, 2, (some .int), [], { frames := 0, cells := 0, slots := 0, locals := 0 }, is_X6_leastFreeNumber)
theorem dc_X6_leastFreeNumber : dcb cX6_leastFreeNumber is_X6_leastFreeNumber 0 = true := by decide +kernel
theorem wc_X6_leastFreeNumber : cdw mi_X6_leastFreeNumber ∈ ALLW := aw (i := 598) (by decide +kernel) rfl
theorem wi_X6_leastFreeNumber : Cond.initialized (miY mi_X6_leastFreeNumber).cls ∈ ALLW := aw (i := 57) (by decide +kernel) rfl
theorem wn_X6_leastFreeNumber : Cond.instanceMethod (miY mi_X6_leastFreeNumber) ∈ ALLW := aw (i := 597) (by decide +kernel) rfl
theorem wv_X6_leastFreeNumber : Cond.selects (miY mi_X6_leastFreeNumber).cls (miY mi_X6_leastFreeNumber) (miY mi_X6_leastFreeNumber) ∈ ALLW := aw (i := 2) (by decide +kernel) rfl
def is_X6_ordersInUse : List (Instr × Nat) := [(.iconst 0, 1), (.istore_n 1, 1), (.iconst 0, 1), (.istore_n 2, 1), (.iload_n 2, 1), (.bipush 12, 2), (.if_icmp .ge 24, 3), (.aload_n 0, 1), (.getfield 24, 3), (.iload_n 2, 1), (.aaload, 1), (.getfield 176, 3), (.ifCond .eq 6, 3), (.iinc 1 1, 3), (.iinc 2 1, 3), (.goto (-24), 3), (.iload_n 1, 1), (.ireturn, 1)]
abbrev mi_X6_ordersInUse : MI := (yX6_ordersInUse, cX6_ordersInUse, 3, (some .int), [], { frames := 0, cells := 0, slots := 0, locals := 0 }, is_X6_ordersInUse)
theorem dc_X6_ordersInUse : dcb cX6_ordersInUse is_X6_ordersInUse 0 = true := by decide +kernel
theorem wc_X6_ordersInUse : cdw mi_X6_ordersInUse ∈ ALLW := aw (i := 759) (by decide +kernel) rfl
theorem wi_X6_ordersInUse : Cond.initialized (miY mi_X6_ordersInUse).cls ∈ ALLW := aw (i := 57) (by decide +kernel) rfl
theorem wn_X6_ordersInUse : Cond.instanceMethod (miY mi_X6_ordersInUse) ∈ ALLW := aw (i := 758) (by decide +kernel) rfl
theorem wv_X6_ordersInUse : Cond.selects (miY mi_X6_ordersInUse).cls (miY mi_X6_ordersInUse) (miY mi_X6_ordersInUse) ∈ ALLW := aw (i := 4) (by decide +kernel) rfl
def is_X6_runsUnderWay : List (Instr × Nat) := [(.iconst 0, 1), (.istore_n 1, 1), (.iconst 0, 1), (.istore_n 2, 1), (.iload_n 2, 1), (.bipush 12, 2), (.if_icmp .ge 21, 3), (.iload_n 1, 1), (.aload_n 0, 1), (.getfield 24, 3), (.iload_n 2, 1), (.aaload, 1), (.getfield 200, 3), (.iadd, 1), (.istore_n 1, 1), (.iinc 2 1, 3), (.goto (-21), 3), (.iload_n 1, 1), (.ireturn, 1)]
abbrev mi_X6_runsUnderWay : MI := (yX6_runsUnderWay, cX6_runsUnderWay, 3, (some .int), [], { frames := 0, cells := 0, slots := 0, locals := 0 }, is_X6_runsUnderWay)
theorem dc_X6_runsUnderWay : dcb cX6_runsUnderWay is_X6_runsUnderWay 0 = true := by decide +kernel
theorem wc_X6_runsUnderWay : cdw mi_X6_runsUnderWay ∈ ALLW := aw (i := 1058) (by decide +kernel) rfl
theorem wi_X6_runsUnderWay : Cond.initialized (miY mi_X6_runsUnderWay).cls ∈ ALLW := aw (i := 57) (by decide +kernel) rfl
theorem wn_X6_runsUnderWay : Cond.instanceMethod (miY mi_X6_runsUnderWay) ∈ ALLW := aw (i := 1057) (by decide +kernel) rfl
theorem wv_X6_runsUnderWay : Cond.selects (miY mi_X6_runsUnderWay).cls (miY mi_X6_runsUnderWay) (miY mi_X6_runsUnderWay) ∈ ALLW := aw (i := 14) (by decide +kernel) rfl
def is_X6_leastDue : List (Instr × Nat) := [(.iload_n 1, 1), (.istore_n 2, 1), (.iconst 0, 1), (.istore_n 3, 1), (.iload_n 3, 1), (.bipush 12, 2), (.if_icmp .ge 36, 3), (.aload_n 0, 1), (.getfield 24, 3), (.iload_n 3, 1), (.aaload, 1), (.astore 4, 2), (.aload 4, 2), (.getfield 328, 3), (.iconst (-1), 1), (.if_icmp .eq 13, 3), (.iload_n 2, 1), (.aload 4, 2), (.getfield 328, 3), (.invokestatic 245, 3), (.istore_n 2, 1), (.iinc 3 1, 3), (.goto (-36), 3), (.iload_n 2, 1), (.ireturn, 1)]
abbrev mi_X6_leastDue : MI := (yX6_leastDue, cX6_leastDue, 5, (some .int), [], { frames := 1, cells := 0, slots := 0, locals := 21 }, is_X6_leastDue)
theorem dc_X6_leastDue : dcb cX6_leastDue is_X6_leastDue 0 = true := by decide +kernel
theorem wc_X6_leastDue : cdw mi_X6_leastDue ∈ ALLW := aw (i := 967) (by decide +kernel) rfl
theorem wi_X6_leastDue : Cond.initialized (miY mi_X6_leastDue).cls ∈ ALLW := aw (i := 57) (by decide +kernel) rfl
theorem wn_X6_leastDue : Cond.instanceMethod (miY mi_X6_leastDue) ∈ ALLW := aw (i := 966) (by decide +kernel) rfl
theorem wv_X6_leastDue : Cond.selects (miY mi_X6_leastDue).cls (miY mi_X6_leastDue) (miY mi_X6_leastDue) ∈ ALLW := aw (i := 6) (by decide +kernel) rfl
def is_X6_firstToEnd : List (Instr × Nat) := [(.aconst_null, 1), (.astore_n 1, 1), (.aload_n 0, 1), (.getfield 262, 3), (.iconst 1, 1), (.iadd, 1), (.istore_n 2, 1), (.iconst 0, 1), (.istore_n 3, 1), (.iload_n 3, 1), (.bipush 12, 2), (.if_icmp .ge 43, 3), (.aload_n 0, 1), (.getfield 24, 3), (.iload_n 3, 1), (.aaload, 1), (.astore 4, 2), (.aload 4, 2), (.getfield 200, 3), (.ifCond .le 21, 3), (.aload 4, 2), (.invokevirtual 342, 3), (.iload_n 2, 1), (.if_icmp .ge 12, 3), (.aload 4, 2), (.astore_n 1, 1), (.aload 4, 2), (.invokevirtual 342, 3), (.istore_n 2, 1), (.iinc 3 1, 3), (.goto (-43), 3), (.aload_n 1, 1), (.areturn, 1)]
abbrev mi_X6_firstToEnd : MI := (yX6_firstToEnd, cX6_firstToEnd, 5, (some (.object "CalendarOrders$Order")), [], { frames := 1, cells := 0, slots := 0, locals := 20 }, is_X6_firstToEnd)
theorem dc_X6_firstToEnd : dcb cX6_firstToEnd is_X6_firstToEnd 0 = true := by decide +kernel
theorem wc_X6_firstToEnd : cdw mi_X6_firstToEnd ∈ ALLW := aw (i := 975) (by decide +kernel) rfl
theorem wi_X6_firstToEnd : Cond.initialized (miY mi_X6_firstToEnd).cls ∈ ALLW := aw (i := 57) (by decide +kernel) rfl
theorem wn_X6_firstToEnd : Cond.instanceMethod (miY mi_X6_firstToEnd) ∈ ALLW := aw (i := 974) (by decide +kernel) rfl
theorem wv_X6_firstToEnd : Cond.selects (miY mi_X6_firstToEnd).cls (miY mi_X6_firstToEnd) (miY mi_X6_firstToEnd) ∈ ALLW := aw (i := 8) (by decide +kernel) rfl
def is_X6_begin : List (Instr × Nat) := [(.aload_n 1, 1), (.iload_n 2, 1), (.iload_n 3, 1), (.invokevirtual 367, 3), (.aload_n 0, 1), (.getfield 38, 3), (.iconst 0, 1), (.aload_n 1, 1), (.getfield 345, 3), (.iload_n 2, 1), (.iload_n 3, 1), (.invokevirtual 349, 3), (.return_, 1)]
abbrev mi_X6_begin : MI := (yX6_begin, cX6_begin, 4, none, [], { frames := 1, cells := 0, slots := 0, locals := 24 }, is_X6_begin)
theorem dc_X6_begin : dcb cX6_begin is_X6_begin 0 = true := by decide +kernel
theorem wc_X6_begin : cdw mi_X6_begin ∈ ALLW := aw (i := 991) (by decide +kernel) rfl
theorem wi_X6_begin : Cond.initialized (miY mi_X6_begin).cls ∈ ALLW := aw (i := 57) (by decide +kernel) rfl
theorem wn_X6_begin : Cond.instanceMethod (miY mi_X6_begin) ∈ ALLW := aw (i := 990) (by decide +kernel) rfl
theorem wv_X6_begin : Cond.selects (miY mi_X6_begin).cls (miY mi_X6_begin) (miY mi_X6_begin) ∈ ALLW := aw (i := 9) (by decide +kernel) rfl
def is_X6_becomeDue : List (Instr × Nat) := [(.aload_n 1, 1), (.invokevirtual 360, 3), (.ifCond .eq 16, 3), (.aload_n 0, 1), (.aload_n 1, 1), (.aload_n 0, 1), (.getfield 262, 3), (.iload_n 2, 1), (.invokevirtual 357, 3), (.goto 67, 3), (.aload_n 1, 1), (.invokevirtual 364, 3), (.ifCond .eq 33, 3), (.aload_n 1, 1), (.iconst 1, 1), (.putfield 203, 3), (.aload_n 1, 1), (.iload_n 2, 1), (.putfield 354, 3), (.aload_n 0, 1), (.getfield 38, 3), (.iconst 3, 1), (.aload_n 1, 1), (.getfield 345, 3), (.aload_n 0, 1), (.getfield 262, 3), (.iload_n 2, 1), (.invokevirtual 349, 3), (.goto 30, 3), (.aload_n 1, 1), (.dup, 1), (.getfield 209, 3), (.iconst 1, 1), (.iadd, 1), (.putfield 209, 3), (.aload_n 0, 1), (.getfield 38, 3), (.iconst 2, 1), (.aload_n 1, 1), (.getfield 345, 3), (.aload_n 0, 1), (.getfield 262, 3), (.iload_n 2, 1), (.invokevirtual 349, 3), (.return_, 1)]
abbrev mi_X6_becomeDue : MI := (yX6_becomeDue, cX6_becomeDue, 3, none, [], { frames := 2, cells := 0, slots := 0, locals := 47 }, is_X6_becomeDue)
theorem dc_X6_becomeDue : dcb cX6_becomeDue is_X6_becomeDue 0 = true := by decide +kernel
theorem wc_X6_becomeDue : cdw mi_X6_becomeDue ∈ ALLW := aw (i := 999) (by decide +kernel) rfl
theorem wi_X6_becomeDue : Cond.initialized (miY mi_X6_becomeDue).cls ∈ ALLW := aw (i := 57) (by decide +kernel) rfl
theorem wn_X6_becomeDue : Cond.instanceMethod (miY mi_X6_becomeDue) ∈ ALLW := aw (i := 998) (by decide +kernel) rfl
theorem wv_X6_becomeDue : Cond.selects (miY mi_X6_becomeDue).cls (miY mi_X6_becomeDue) (miY mi_X6_becomeDue) ∈ ALLW := aw (i := 10) (by decide +kernel) rfl
def is_X6_firstMissed : List (Instr × Nat) := [(.aload_n 0, 1), (.getfield 271, 3), (.iconst 1, 1), (.iadd, 1), (.aload_n 0, 1), (.getfield 262, 3), (.aload_n 1, 1), (.getfield 191, 3), (.isub, 1), (.invokestatic 248, 3), (.ireturn, 1)]
abbrev mi_X6_firstMissed : MI := (yX6_firstMissed, cX6_firstMissed, 2, (some .int), [], { frames := 1, cells := 0, slots := 0, locals := 21 }, is_X6_firstMissed)
theorem dc_X6_firstMissed : dcb cX6_firstMissed is_X6_firstMissed 0 = true := by decide +kernel
theorem wc_X6_firstMissed : cdw mi_X6_firstMissed ∈ ALLW := aw (i := 1030) (by decide +kernel) rfl
theorem wi_X6_firstMissed : Cond.initialized (miY mi_X6_firstMissed).cls ∈ ALLW := aw (i := 57) (by decide +kernel) rfl
theorem wn_X6_firstMissed : Cond.instanceMethod (miY mi_X6_firstMissed) ∈ ALLW := aw (i := 1029) (by decide +kernel) rfl
theorem wv_X6_firstMissed : Cond.selects (miY mi_X6_firstMissed).cls (miY mi_X6_firstMissed) (miY mi_X6_firstMissed) ∈ ALLW := aw (i := 12) (by decide +kernel) rfl
def is_X6_makeUpLatest : List (Instr × Nat) := [(.aload_n 1, 1), (.aload_n 0, 1), (.aload_n 1, 1), (.invokevirtual 370, 3), (.aload_n 0, 1), (.getfield 262, 3), (.invokevirtual 251, 3), (.istore_n 2, 1), (.iload_n 2, 1), (.iconst (-1), 1), (.if_icmp .eq 9, 3), (.aload_n 0, 1), (.aload_n 1, 1), (.iload_n 2, 1), (.invokevirtual 334, 3), (.return_, 1)]
abbrev mi_X6_makeUpLatest : MI := (yX6_makeUpLatest, cX6_makeUpLatest, 3, none, [], { frames := 6, cells := 0, slots := 0, locals := 148 }, is_X6_makeUpLatest)
theorem dc_X6_makeUpLatest : dcb cX6_makeUpLatest is_X6_makeUpLatest 0 = true := by decide +kernel
theorem wc_X6_makeUpLatest : cdw mi_X6_makeUpLatest ∈ ALLW := aw (i := 1026) (by decide +kernel) rfl
theorem wi_X6_makeUpLatest : Cond.initialized (miY mi_X6_makeUpLatest).cls ∈ ALLW := aw (i := 57) (by decide +kernel) rfl
theorem wn_X6_makeUpLatest : Cond.instanceMethod (miY mi_X6_makeUpLatest) ∈ ALLW := aw (i := 1025) (by decide +kernel) rfl
theorem wv_X6_makeUpLatest : Cond.selects (miY mi_X6_makeUpLatest).cls (miY mi_X6_makeUpLatest) (miY mi_X6_makeUpLatest) ∈ ALLW := aw (i := 11) (by decide +kernel) rfl
def is_X6_makeUpAll : List (Instr × Nat) := [(.aload_n 0, 1), (.aload_n 1, 1), (.invokevirtual 370, 3), (.istore_n 2, 1), (.iconst 0, 1), (.istore_n 3, 1), (.iload_n 3, 1), (.ldc 142, 2), (.if_icmp .gt 111, 3), (.iload_n 2, 1), (.aload_n 0, 1), (.getfield 262, 3), (.if_icmp .gt 103, 3), (.aload_n 0, 1), (.getfield 38, 3), (.getfield 275, 3), (.sipush 300, 3), (.if_icmp .lt 54, 3), (.aload_n 1, 1), (.invokevirtual 360, 3), (.ifCond .ne 47, 3), (.aload_n 1, 1), (.invokevirtual 364, 3), (.ifCond .ne 40, 3), (.aload_n 1, 1), (.iload_n 2, 1), (.aload_n 0, 1), (.getfield 262, 3), (.invokevirtual 257, 3), (.istore 4, 2), (.aload_n 1, 1), (.dup, 1), (.getfield 209, 3), (.iload 4, 2), (.iadd, 1), (.putfield 209, 3), (.aload_n 0, 1), (.getfield 38, 3), (.dup, 1), (.getfield 275, 3), (.iload 4, 2), (.iadd, 1), (.putfield 275, 3), (.return_, 1), (.aload_n 1, 1), (.iload_n 2, 1), (.aload_n 0, 1), (.getfield 262, 3), (.invokevirtual 238, 3), (.istore 4, 2), (.iload 4, 2), (.iconst (-1), 1), (.if_icmp .ne 4, 3), (.return_, 1), (.aload_n 0, 1), (.aload_n 1, 1), (.iload 4, 2), (.invokevirtual 334, 3), (.iload 4, 2), (.iconst 1, 1), (.iadd, 1), (.istore_n 2, 1), (.iinc 3 1, 3), (.goto (-111), 3), (.return_, 1)]
abbrev mi_X6_makeUpAll : MI := (yX6_makeUpAll, cX6_makeUpAll, 5, none, [], { frames := 6, cells := 0, slots := 0, locals := 148 }, is_X6_makeUpAll)
theorem dc_X6_makeUpAll : dcb cX6_makeUpAll is_X6_makeUpAll 0 = true := by decide +kernel
theorem wc_X6_makeUpAll : cdw mi_X6_makeUpAll ∈ ALLW := aw (i := 1034) (by decide +kernel) rfl
theorem wi_X6_makeUpAll : Cond.initialized (miY mi_X6_makeUpAll).cls ∈ ALLW := aw (i := 57) (by decide +kernel) rfl
theorem wn_X6_makeUpAll : Cond.instanceMethod (miY mi_X6_makeUpAll) ∈ ALLW := aw (i := 1033) (by decide +kernel) rfl
theorem wv_X6_makeUpAll : Cond.selects (miY mi_X6_makeUpAll).cls (miY mi_X6_makeUpAll) (miY mi_X6_makeUpAll) ∈ ALLW := aw (i := 13) (by decide +kernel) rfl
def V_X6_fault (K : Rs → Mm → Prop) (M : Mm) (a0 : Nat) : Prop := (ob M a0 6 ∧ K (.inl (some (.int (mI M a0 5)))) M)
set_option maxRecDepth 100000 in
set_option maxHeartbeats 4000000 in
theorem x_X6_fault {G : Gx} {K : Rs → Mm → Prop} {M : Mm} {a0 : Nat} (h : V_X6_fault K M a0) : MC G mi_X6_fault [.ref a0] M K := by
  unfold V_X6_fault at h
  refine mc_of rfl (by decide +kernel) dc_X6_fault (Nat.le_of_ble_eq_true rfl) 0 (Nat.le_of_ble_eq_true rfl) ?_
  show E G mi_X6_fault K M 0 0 0 [some (.ref a0)] []
  refine e_blk 1 0 _ _ (pc' := 1) (L' := [some (.ref a0)]) (st' := [.ref a0]) rfl ?_
  obtain ⟨ho1, h⟩ := h
  refine e_getI 6 5 rfl rfl (by decide) (aw (i := 338) (by decide +kernel) rfl) ho1 rfl ?_
  exact e_reti rfl rfl (by decide) (by decide) h
def V_X6_tear (K : Rs → Mm → Prop) (M : Mm) (a0 : Nat) : Prop := (ob M a0 6 ∧ ∃ b2, mP M a0 4 = some b2 ∧ (ob M b2 1 ∧ ∀ x4 : Int32, x4 = (mI M b2 4) → ∃ b5, mP M a0 4 = some b5 ∧ (ob M b5 1 ∧ ∀ M7, M7 = sI M b5 4 (0 : Int32) → K (.inl (some (.int x4))) M7)))
set_option maxRecDepth 100000 in
set_option maxHeartbeats 4000000 in
theorem x_X6_tear {G : Gx} {K : Rs → Mm → Prop} {M : Mm} {a0 : Nat} (h : V_X6_tear K M a0) : MC G mi_X6_tear [.ref a0] M K := by
  unfold V_X6_tear at h
  refine mc_of rfl (by decide +kernel) dc_X6_tear (Nat.le_of_ble_eq_true rfl) 1 (Nat.le_of_ble_eq_true rfl) ?_
  show E G mi_X6_tear K M 0 0 0 [some (.ref a0), none] []
  refine e_blk 1 0 _ _ (pc' := 1) (L' := [some (.ref a0), none]) (st' := [.ref a0]) rfl ?_
  obtain ⟨ho1, h⟩ := h
  obtain ⟨b2, hbb2, h⟩ := h
  refine e_getR 6 4 rfl rfl (by decide) (aw (i := 337) (by decide +kernel) rfl) ho1 rfl hbb2 ?_
  obtain ⟨ho3, h⟩ := h
  refine e_getI 1 4 rfl rfl (by decide) (aw (i := 228) (by decide +kernel) rfl) ho3 rfl ?_
  refine e_blk 2 7 _ _ (pc' := 9) (L' := [some (.ref a0), some (.int (mI M b2 4))]) (st' := [.ref a0]) rfl ?_
  generalize hx_x4 : ((mI M b2 4) : Int32) = x4
  replace h := h x4 hx_x4.symm
  obtain ⟨b5, hbb5, h⟩ := h
  refine e_getR 6 4 rfl rfl (by decide) (aw (i := 337) (by decide +kernel) rfl) ho1 rfl hbb5 ?_
  refine e_blk 1 12 _ _ (pc' := 13) (L' := [some (.ref a0), some (.int x4)]) (st' := [.int (0 : Int32), .ref b5]) rfl ?_
  obtain ⟨ho6, h⟩ := h
  refine e_putI 1 4 rfl rfl (by decide) (aw (i := 228) (by decide +kernel) rfl) rfl ho6 rfl ?_
  generalize hM7 : sI M b5 4 (0 : Int32) = M7
  replace h := h M7 hM7.symm
  replace ho1 : ob M7 a0 6 := hM7 ▸ ob_sI ho1
  replace ho3 : ob M7 b2 1 := hM7 ▸ ob_sI ho3
  replace ho6 : ob M7 b5 1 := hM7 ▸ ob_sI ho6
  refine e_blk 1 16 _ _ (pc' := 17) (L' := [some (.ref a0), some (.int x4)]) (st' := [.int x4]) rfl ?_
  exact e_reti rfl rfl (by decide) (by decide) h
def V_X6_leastFreeNumber_2 (K : Rs → Mm → Prop)  : Nat → Mm → Nat → Int32 → Prop
  | 0, _, _, _ => False
  | z + 1, M, l0, l1 => (((12 : Int32) ≤ l1 → K (.inl (some (.int (-1 : Int32)))) M) ∧ (¬ (12 : Int32) ≤ l1 → (ob M l0 6 ∧ ∃ b2, mP M l0 2 = some b2 ∧ (ob M b2 12 ∧ (vp_in l1 (mN M b2) ∧ ∃ b5, mP M b2 (l1).toNatClampNeg = some b5 ∧ (ob M b5 2 ∧ ((¬ (mI M b5 4) = 0 → ∀ x7 : Int32, x7 = (l1 + (1 : Int32)) → V_X6_leastFreeNumber_2 K  z M l0 x7) ∧ ((mI M b5 4) = 0 → K (.inl (some (.int l1))) M))))))))
set_option maxRecDepth 100000 in
set_option maxHeartbeats 4000000 in
theorem x_X6_leastFreeNumber_2 {G : Gx} {K : Rs → Mm → Prop}  : ∀ (z : Nat) (M : Mm) (l0 : Nat) (l1 : Int32), V_X6_leastFreeNumber_2 K  z M l0 l1 → E G mi_X6_leastFreeNumber K M 0 0 2 [some (.ref l0), some (.int l1)] []
  | 0, M, l0, l1, h => False.elim h
  | z + 1, M, l0, l1, h => by
    unfold V_X6_leastFreeNumber_2 at h
    refine e_blk 2 2 _ _ (pc' := 5) (L' := [some (.ref l0), some (.int l1)]) (st' := [.int (12 : Int32), .int l1]) rfl ?_
    refine e_icmp_ge 28 rfl rfl (fun hc => ?_) (fun hc => ?_)
    · replace h := h.1 hc
      refine e_blk 1 28 _ _ (pc' := 29) (L' := [some (.ref l0), some (.int l1)]) (st' := [.int (-1 : Int32)]) rfl ?_
      exact e_reti rfl rfl (by decide) (by decide) h
    · replace h := h.2 hc
      refine e_blk 1 8 _ _ (pc' := 9) (L' := [some (.ref l0), some (.int l1)]) (st' := [.ref l0]) rfl ?_
      obtain ⟨ho1, h⟩ := h
      obtain ⟨b2, hbb2, h⟩ := h
      refine e_getR 6 2 rfl rfl (by decide) (aw (i := 335) (by decide +kernel) rfl) ho1 rfl hbb2 ?_
      refine e_blk 1 12 _ _ (pc' := 13) (L' := [some (.ref l0), some (.int l1)]) (st' := [.int l1, .ref b2]) rfl ?_
      obtain ⟨ho3, h⟩ := h
      obtain ⟨hi4, h⟩ := h
      obtain ⟨b5, hbb5, h⟩ := h
      refine e_aaldOR rfl ho3 hi4 hbb5 ?_
      obtain ⟨ho6, h⟩ := h
      refine e_getI 2 4 rfl rfl (by decide) (aw (i := 276) (by decide +kernel) rfl) ho6 rfl ?_
      refine e_if_ne 22 rfl rfl (fun hc => ?_) (fun hc => ?_)
      · replace h := h.1 hc
        refine e_blk 2 22 _ _ (pc' := 2) (L' := [some (.ref l0), some (.int (l1 + (1 : Int32)))]) (st' := []) rfl ?_
        generalize hx_x7 : ((l1 + (1 : Int32)) : Int32) = x7
        replace h := h x7 hx_x7.symm
        refine e_drp [true, true] (L' := [some (.ref l0), some (.int x7)]) rfl ?_
        exact x_X6_leastFreeNumber_2  z _ _ _ h
      · replace h := h.2 hc
        refine e_blk 1 20 _ _ (pc' := 21) (L' := [some (.ref l0), some (.int l1)]) (st' := [.int l1]) rfl ?_
        exact e_reti rfl rfl (by decide) (by decide) h
def V_X6_leastFreeNumber (K : Rs → Mm → Prop) (M : Mm) (a0 : Nat) : Prop := ∃ y, V_X6_leastFreeNumber_2 K  y M a0 (0 : Int32)
set_option maxRecDepth 100000 in
set_option maxHeartbeats 4000000 in
theorem x_X6_leastFreeNumber {G : Gx} {K : Rs → Mm → Prop} {M : Mm} {a0 : Nat} (h : V_X6_leastFreeNumber K M a0) : MC G mi_X6_leastFreeNumber [.ref a0] M K := by
  unfold V_X6_leastFreeNumber at h
  refine mc_of rfl (by decide +kernel) dc_X6_leastFreeNumber (Nat.le_of_ble_eq_true rfl) 1 (Nat.le_of_ble_eq_true rfl) ?_
  show E G mi_X6_leastFreeNumber K M 0 0 0 [some (.ref a0), none] []
  refine e_blk 2 0 _ _ (pc' := 2) (L' := [some (.ref a0), some (.int (0 : Int32))]) (st' := []) rfl ?_
  refine e_drp [true, true] (L' := [some (.ref a0), some (.int (0 : Int32))]) rfl ?_
  obtain ⟨y, h⟩ := h
  exact x_X6_leastFreeNumber_2  y _ _ _ h
def V_X6_ordersInUse_25 (K : Rs → Mm → Prop) (B4 : Mm → Nat → Int32 → Int32 → Prop) (M : Mm) (l0 : Nat) (l1 : Int32) (l2 : Int32) : Prop := ∀ x1 : Int32, x1 = (l2 + (1 : Int32)) → B4 M l0 l1 x1
set_option maxRecDepth 100000 in
set_option maxHeartbeats 4000000 in
theorem x_X6_ordersInUse_25 {G : Gx} {K : Rs → Mm → Prop} {B4 : Mm → Nat → Int32 → Int32 → Prop} (hB4 : ∀ M l0 l1 l2, B4 M l0 l1 l2 → E G mi_X6_ordersInUse K M 0 0 4 [some (.ref l0), some (.int l1), some (.int l2)] []) {M : Mm} {l0 : Nat} {l1 : Int32} {l2 : Int32} (h : V_X6_ordersInUse_25 K B4 M l0 l1 l2) : E G mi_X6_ordersInUse K M 0 0 25 [some (.ref l0), some (.int l1), some (.int l2)] [] := by
  unfold V_X6_ordersInUse_25 at h
  refine e_blk 2 25 _ _ (pc' := 4) (L' := [some (.ref l0), some (.int l1), some (.int (l2 + (1 : Int32)))]) (st' := []) rfl ?_
  generalize hx_x1 : ((l2 + (1 : Int32)) : Int32) = x1
  replace h := h x1 hx_x1.symm
  refine e_drp [true, true, true] (L' := [some (.ref l0), some (.int l1), some (.int x1)]) rfl ?_
  exact hB4 _ _ _ _ h
def V_X6_ordersInUse_4 (K : Rs → Mm → Prop)  : Nat → Mm → Nat → Int32 → Int32 → Prop
  | 0, _, _, _, _ => False
  | z + 1, M, l0, l1, l2 => (((12 : Int32) ≤ l2 → K (.inl (some (.int l1))) M) ∧ (¬ (12 : Int32) ≤ l2 → (ob M l0 6 ∧ ∃ b2, mP M l0 2 = some b2 ∧ (ob M b2 12 ∧ (vp_in l2 (mN M b2) ∧ ∃ b5, mP M b2 (l2).toNatClampNeg = some b5 ∧ (ob M b5 2 ∧ (((mI M b5 4) = 0 → V_X6_ordersInUse_25 K (fun M l0 l1 l2 => V_X6_ordersInUse_4 K  z M l0 l1 l2) M l0 l1 l2) ∧ (¬ (mI M b5 4) = 0 → ∀ x7 : Int32, x7 = (l1 + (1 : Int32)) → V_X6_ordersInUse_25 K (fun M l0 l1 l2 => V_X6_ordersInUse_4 K  z M l0 l1 l2) M l0 x7 l2))))))))
set_option maxRecDepth 100000 in
set_option maxHeartbeats 4000000 in
theorem x_X6_ordersInUse_4 {G : Gx} {K : Rs → Mm → Prop}  : ∀ (z : Nat) (M : Mm) (l0 : Nat) (l1 : Int32) (l2 : Int32), V_X6_ordersInUse_4 K  z M l0 l1 l2 → E G mi_X6_ordersInUse K M 0 0 4 [some (.ref l0), some (.int l1), some (.int l2)] []
  | 0, M, l0, l1, l2, h => False.elim h
  | z + 1, M, l0, l1, l2, h => by
    unfold V_X6_ordersInUse_4 at h
    refine e_blk 2 4 _ _ (pc' := 7) (L' := [some (.ref l0), some (.int l1), some (.int l2)]) (st' := [.int (12 : Int32), .int l2]) rfl ?_
    refine e_icmp_ge 31 rfl rfl (fun hc => ?_) (fun hc => ?_)
    · replace h := h.1 hc
      refine e_blk 1 31 _ _ (pc' := 32) (L' := [some (.ref l0), some (.int l1), some (.int l2)]) (st' := [.int l1]) rfl ?_
      exact e_reti rfl rfl (by decide) (by decide) h
    · replace h := h.2 hc
      refine e_blk 1 10 _ _ (pc' := 11) (L' := [some (.ref l0), some (.int l1), some (.int l2)]) (st' := [.ref l0]) rfl ?_
      obtain ⟨ho1, h⟩ := h
      obtain ⟨b2, hbb2, h⟩ := h
      refine e_getR 6 2 rfl rfl (by decide) (aw (i := 335) (by decide +kernel) rfl) ho1 rfl hbb2 ?_
      refine e_blk 1 14 _ _ (pc' := 15) (L' := [some (.ref l0), some (.int l1), some (.int l2)]) (st' := [.int l2, .ref b2]) rfl ?_
      obtain ⟨ho3, h⟩ := h
      obtain ⟨hi4, h⟩ := h
      obtain ⟨b5, hbb5, h⟩ := h
      refine e_aaldOR rfl ho3 hi4 hbb5 ?_
      obtain ⟨ho6, h⟩ := h
      refine e_getI 2 4 rfl rfl (by decide) (aw (i := 276) (by decide +kernel) rfl) ho6 rfl ?_
      refine e_if_eq 25 rfl rfl (fun hc => ?_) (fun hc => ?_)
      · replace h := h.1 hc
        refine e_drp [true, true, true] (L' := [some (.ref l0), some (.int l1), some (.int l2)]) rfl ?_
        exact x_X6_ordersInUse_25 (fun M l0 l1 l2 h => x_X6_ordersInUse_4  z M l0 l1 l2 h) h
      · replace h := h.2 hc
        refine e_blk 1 22 _ _ (pc' := 25) (L' := [some (.ref l0), some (.int (l1 + (1 : Int32))), some (.int l2)]) (st' := []) rfl ?_
        generalize hx_x7 : ((l1 + (1 : Int32)) : Int32) = x7
        replace h := h x7 hx_x7.symm
        refine e_drp [true, true, true] (L' := [some (.ref l0), some (.int x7), some (.int l2)]) rfl ?_
        exact x_X6_ordersInUse_25 (fun M l0 l1 l2 h => x_X6_ordersInUse_4  z M l0 l1 l2 h) h
def V_X6_ordersInUse (K : Rs → Mm → Prop) (M : Mm) (a0 : Nat) : Prop := ∃ y, V_X6_ordersInUse_4 K  y M a0 (0 : Int32) (0 : Int32)
set_option maxRecDepth 100000 in
set_option maxHeartbeats 4000000 in
theorem x_X6_ordersInUse {G : Gx} {K : Rs → Mm → Prop} {M : Mm} {a0 : Nat} (h : V_X6_ordersInUse K M a0) : MC G mi_X6_ordersInUse [.ref a0] M K := by
  unfold V_X6_ordersInUse at h
  refine mc_of rfl (by decide +kernel) dc_X6_ordersInUse (Nat.le_of_ble_eq_true rfl) 2 (Nat.le_of_ble_eq_true rfl) ?_
  show E G mi_X6_ordersInUse K M 0 0 0 [some (.ref a0), none, none] []
  refine e_blk 4 0 _ _ (pc' := 4) (L' := [some (.ref a0), some (.int (0 : Int32)), some (.int (0 : Int32))]) (st' := []) rfl ?_
  refine e_drp [true, true, true] (L' := [some (.ref a0), some (.int (0 : Int32)), some (.int (0 : Int32))]) rfl ?_
  obtain ⟨y, h⟩ := h
  exact x_X6_ordersInUse_4  y _ _ _ _ h
def V_X6_runsUnderWay_4 (K : Rs → Mm → Prop)  : Nat → Mm → Nat → Int32 → Int32 → Prop
  | 0, _, _, _, _ => False
  | z + 1, M, l0, l1, l2 => (((12 : Int32) ≤ l2 → K (.inl (some (.int l1))) M) ∧ (¬ (12 : Int32) ≤ l2 → (ob M l0 6 ∧ ∃ b2, mP M l0 2 = some b2 ∧ (ob M b2 12 ∧ (vp_in l2 (mN M b2) ∧ ∃ b5, mP M b2 (l2).toNatClampNeg = some b5 ∧ (ob M b5 2 ∧ ∀ x7 : Int32, x7 = (l1 + (mI M b5 11)) → ∀ x8 : Int32, x8 = (l2 + (1 : Int32)) → V_X6_runsUnderWay_4 K  z M l0 x7 x8))))))
set_option maxRecDepth 100000 in
set_option maxHeartbeats 4000000 in
theorem x_X6_runsUnderWay_4 {G : Gx} {K : Rs → Mm → Prop}  : ∀ (z : Nat) (M : Mm) (l0 : Nat) (l1 : Int32) (l2 : Int32), V_X6_runsUnderWay_4 K  z M l0 l1 l2 → E G mi_X6_runsUnderWay K M 0 0 4 [some (.ref l0), some (.int l1), some (.int l2)] []
  | 0, M, l0, l1, l2, h => False.elim h
  | z + 1, M, l0, l1, l2, h => by
    unfold V_X6_runsUnderWay_4 at h
    refine e_blk 2 4 _ _ (pc' := 7) (L' := [some (.ref l0), some (.int l1), some (.int l2)]) (st' := [.int (12 : Int32), .int l2]) rfl ?_
    refine e_icmp_ge 28 rfl rfl (fun hc => ?_) (fun hc => ?_)
    · replace h := h.1 hc
      refine e_blk 1 28 _ _ (pc' := 29) (L' := [some (.ref l0), some (.int l1), some (.int l2)]) (st' := [.int l1]) rfl ?_
      exact e_reti rfl rfl (by decide) (by decide) h
    · replace h := h.2 hc
      refine e_blk 2 10 _ _ (pc' := 12) (L' := [some (.ref l0), some (.int l1), some (.int l2)]) (st' := [.ref l0, .int l1]) rfl ?_
      obtain ⟨ho1, h⟩ := h
      obtain ⟨b2, hbb2, h⟩ := h
      refine e_getR 6 2 rfl rfl (by decide) (aw (i := 335) (by decide +kernel) rfl) ho1 rfl hbb2 ?_
      refine e_blk 1 15 _ _ (pc' := 16) (L' := [some (.ref l0), some (.int l1), some (.int l2)]) (st' := [.int l2, .ref b2, .int l1]) rfl ?_
      obtain ⟨ho3, h⟩ := h
      obtain ⟨hi4, h⟩ := h
      obtain ⟨b5, hbb5, h⟩ := h
      refine e_aaldOR rfl ho3 hi4 hbb5 ?_
      obtain ⟨ho6, h⟩ := h
      refine e_getI 2 11 rfl rfl (by decide) (aw (i := 289) (by decide +kernel) rfl) ho6 rfl ?_
      refine e_blk 4 20 _ _ (pc' := 4) (L' := [some (.ref l0), some (.int (l1 + (mI M b5 11))), some (.int (l2 + (1 : Int32)))]) (st' := []) rfl ?_
      generalize hx_x7 : ((l1 + (mI M b5 11)) : Int32) = x7
      replace h := h x7 hx_x7.symm
      generalize hx_x8 : ((l2 + (1 : Int32)) : Int32) = x8
      replace h := h x8 hx_x8.symm
      refine e_drp [true, true, true] (L' := [some (.ref l0), some (.int x7), some (.int x8)]) rfl ?_
      exact x_X6_runsUnderWay_4  z _ _ _ _ h
def V_X6_runsUnderWay (K : Rs → Mm → Prop) (M : Mm) (a0 : Nat) : Prop := ∃ y, V_X6_runsUnderWay_4 K  y M a0 (0 : Int32) (0 : Int32)
set_option maxRecDepth 100000 in
set_option maxHeartbeats 4000000 in
theorem x_X6_runsUnderWay {G : Gx} {K : Rs → Mm → Prop} {M : Mm} {a0 : Nat} (h : V_X6_runsUnderWay K M a0) : MC G mi_X6_runsUnderWay [.ref a0] M K := by
  unfold V_X6_runsUnderWay at h
  refine mc_of rfl (by decide +kernel) dc_X6_runsUnderWay (Nat.le_of_ble_eq_true rfl) 2 (Nat.le_of_ble_eq_true rfl) ?_
  show E G mi_X6_runsUnderWay K M 0 0 0 [some (.ref a0), none, none] []
  refine e_blk 4 0 _ _ (pc' := 4) (L' := [some (.ref a0), some (.int (0 : Int32)), some (.int (0 : Int32))]) (st' := []) rfl ?_
  refine e_drp [true, true, true] (L' := [some (.ref a0), some (.int (0 : Int32)), some (.int (0 : Int32))]) rfl ?_
  obtain ⟨y, h⟩ := h
  exact x_X6_runsUnderWay_4  y _ _ _ _ h
def V_X6_leastDue_37 (K : Rs → Mm → Prop) (B4 : Mm → Nat → Int32 → Int32 → Prop) (M : Mm) (l0 : Nat) (l2 : Int32) (l3 : Int32) : Prop := ∀ x1 : Int32, x1 = (l3 + (1 : Int32)) → B4 M l0 l2 x1
set_option maxRecDepth 100000 in
set_option maxHeartbeats 4000000 in
theorem x_X6_leastDue_37 {G : Gx} {K : Rs → Mm → Prop} {B4 : Mm → Nat → Int32 → Int32 → Prop} (hB4 : ∀ M l0 l2 l3, B4 M l0 l2 l3 → E G mi_X6_leastDue K M 0 0 4 [some (.ref l0), none, some (.int l2), some (.int l3), none] []) {M : Mm} {l0 : Nat} {l2 : Int32} {l3 : Int32} (h : V_X6_leastDue_37 K B4 M l0 l2 l3) : E G mi_X6_leastDue K M 0 0 37 [some (.ref l0), none, some (.int l2), some (.int l3), none] [] := by
  unfold V_X6_leastDue_37 at h
  refine e_blk 2 37 _ _ (pc' := 4) (L' := [some (.ref l0), none, some (.int l2), some (.int (l3 + (1 : Int32))), none]) (st' := []) rfl ?_
  generalize hx_x1 : ((l3 + (1 : Int32)) : Int32) = x1
  replace h := h x1 hx_x1.symm
  refine e_drp [true, false, true, true, false] (L' := [some (.ref l0), none, some (.int l2), some (.int x1), none]) rfl ?_
  exact hB4 _ _ _ _ h
def V_X6_leastDue_4 (K : Rs → Mm → Prop)  : Nat → Mm → Nat → Int32 → Int32 → Prop
  | 0, _, _, _, _ => False
  | z + 1, M, l0, l2, l3 => (((12 : Int32) ≤ l3 → K (.inl (some (.int l2))) M) ∧ (¬ (12 : Int32) ≤ l3 → (ob M l0 6 ∧ ∃ b2, mP M l0 2 = some b2 ∧ (ob M b2 12 ∧ (vp_in l3 (mN M b2) ∧ ∃ b5, mP M b2 (l3).toNatClampNeg = some b5 ∧ (ob M b5 2 ∧ (((mI M b5 16) = (-1 : Int32) → V_X6_leastDue_37 K (fun M l0 l2 l3 => V_X6_leastDue_4 K  z M l0 l2 l3) M l0 l2 l3) ∧ (¬ (mI M b5 16) = (-1 : Int32) → V_J9_min_7cf53 (kI (fun r8 M7 => V_X6_leastDue_37 K (fun M l0 l2 l3 => V_X6_leastDue_4 K  z M l0 l2 l3) M7 l0 r8 l3) (fun _ _ => False)) M l2 (mI M b5 16)))))))))
set_option maxRecDepth 100000 in
set_option maxHeartbeats 4000000 in
theorem x_X6_leastDue_4 {G : Gx} {K : Rs → Mm → Prop}  : ∀ (z : Nat) (M : Mm) (l0 : Nat) (l2 : Int32) (l3 : Int32), V_X6_leastDue_4 K  z M l0 l2 l3 → E G mi_X6_leastDue K M 0 0 4 [some (.ref l0), none, some (.int l2), some (.int l3), none] []
  | 0, M, l0, l2, l3, h => False.elim h
  | z + 1, M, l0, l2, l3, h => by
    unfold V_X6_leastDue_4 at h
    refine e_blk 2 4 _ _ (pc' := 7) (L' := [some (.ref l0), none, some (.int l2), some (.int l3), none]) (st' := [.int (12 : Int32), .int l3]) rfl ?_
    refine e_icmp_ge 43 rfl rfl (fun hc => ?_) (fun hc => ?_)
    · replace h := h.1 hc
      refine e_blk 1 43 _ _ (pc' := 44) (L' := [some (.ref l0), none, some (.int l2), some (.int l3), none]) (st' := [.int l2]) rfl ?_
      exact e_reti rfl rfl (by decide) (by decide) h
    · replace h := h.2 hc
      refine e_blk 1 10 _ _ (pc' := 11) (L' := [some (.ref l0), none, some (.int l2), some (.int l3), none]) (st' := [.ref l0]) rfl ?_
      obtain ⟨ho1, h⟩ := h
      obtain ⟨b2, hbb2, h⟩ := h
      refine e_getR 6 2 rfl rfl (by decide) (aw (i := 335) (by decide +kernel) rfl) ho1 rfl hbb2 ?_
      refine e_blk 1 14 _ _ (pc' := 15) (L' := [some (.ref l0), none, some (.int l2), some (.int l3), none]) (st' := [.int l3, .ref b2]) rfl ?_
      obtain ⟨ho3, h⟩ := h
      obtain ⟨hi4, h⟩ := h
      obtain ⟨b5, hbb5, h⟩ := h
      refine e_aaldOR rfl ho3 hi4 hbb5 ?_
      refine e_blk 2 16 _ _ (pc' := 20) (L' := [some (.ref l0), none, some (.int l2), some (.int l3), some (.ref b5)]) (st' := [.ref b5]) rfl ?_
      obtain ⟨ho6, h⟩ := h
      refine e_getI 2 16 rfl rfl (by decide) (aw (i := 297) (by decide +kernel) rfl) ho6 rfl ?_
      refine e_blk 1 23 _ _ (pc' := 24) (L' := [some (.ref l0), none, some (.int l2), some (.int l3), some (.ref b5)]) (st' := [.int (-1 : Int32), .int (mI M b5 16)]) rfl ?_
      refine e_icmp_eq 37 rfl rfl (fun hc => ?_) (fun hc => ?_)
      · replace h := h.1 hc
        refine e_drp [true, false, true, true, false] (L' := [some (.ref l0), none, some (.int l2), some (.int l3), none]) rfl ?_
        exact x_X6_leastDue_37 (fun M l0 l2 l3 h => x_X6_leastDue_4  z M l0 l2 l3 h) h
      · replace h := h.2 hc
        refine e_blk 2 27 _ _ (pc' := 30) (L' := [some (.ref l0), none, some (.int l2), some (.int l3), some (.ref b5)]) (st' := [.ref b5, .int l2]) rfl ?_
        refine e_getI 2 16 rfl rfl (by decide) (aw (i := 297) (by decide +kernel) rfl) ho6 rfl ?_
        refine e_callS (As := [.int l2, .int (mI M b5 16)]) (rest := []) rfl (x_J9_min_7cf53 h) rfl (aw (i := 885) (by decide +kernel) rfl) ws_J9_min_7cf53 wi_J9_min_7cf53 wc_J9_min_7cf53 (show cok mi_X6_leastDue mi_J9_min_7cf53 0 0 2 = true by decide +kernel) (Nat.le_of_ble_eq_true rfl) (fun v9 M7 hq => ?_) (fun X M9 hq => False.elim hq)
        obtain ⟨r8, rfl, h⟩ := kI_l hq
        refine e_blk 1 36 _ _ (pc' := 37) (L' := [some (.ref l0), none, some (.int r8), some (.int l3), some (.ref b5)]) (st' := []) rfl ?_
        refine e_drp [true, false, true, true, false] (L' := [some (.ref l0), none, some (.int r8), some (.int l3), none]) rfl ?_
        exact x_X6_leastDue_37 (fun M l0 l2 l3 h => x_X6_leastDue_4  z M l0 l2 l3 h) h
def V_X6_leastDue (K : Rs → Mm → Prop) (M : Mm) (a0 : Nat) (a1 : Int32) : Prop := ∃ y, V_X6_leastDue_4 K  y M a0 a1 (0 : Int32)
set_option maxRecDepth 100000 in
set_option maxHeartbeats 4000000 in
theorem x_X6_leastDue {G : Gx} {K : Rs → Mm → Prop} {M : Mm} {a0 : Nat} {a1 : Int32} (h : V_X6_leastDue K M a0 a1) : MC G mi_X6_leastDue [.ref a0, .int a1] M K := by
  unfold V_X6_leastDue at h
  refine mc_of rfl (by decide +kernel) dc_X6_leastDue (Nat.le_of_ble_eq_true rfl) 3 (Nat.le_of_ble_eq_true rfl) ?_
  show E G mi_X6_leastDue K M 0 0 0 [some (.ref a0), some (.int a1), none, none, none] []
  refine e_blk 4 0 _ _ (pc' := 4) (L' := [some (.ref a0), some (.int a1), some (.int a1), some (.int (0 : Int32)), none]) (st' := []) rfl ?_
  refine e_drp [true, false, true, true, false] (L' := [some (.ref a0), none, some (.int a1), some (.int (0 : Int32)), none]) rfl ?_
  obtain ⟨y, h⟩ := h
  exact x_X6_leastDue_4  y _ _ _ _ h
def V_X6_firstToEnd_51 (K : Rs → Mm → Prop) (B11 : Mm → Nat → Option Nat → Int32 → Int32 → Prop) (M : Mm) (l0 : Nat) (l1 : Option Nat) (l2 : Int32) (l3 : Int32) : Prop := ∀ x1 : Int32, x1 = (l3 + (1 : Int32)) → B11 M l0 l1 l2 x1
set_option maxRecDepth 100000 in
set_option maxHeartbeats 4000000 in
theorem x_X6_firstToEnd_51 {G : Gx} {K : Rs → Mm → Prop} {B11 : Mm → Nat → Option Nat → Int32 → Int32 → Prop} (hB11 : ∀ M l0 l1 l2 l3, B11 M l0 l1 l2 l3 → E G mi_X6_firstToEnd K M 0 0 11 [some (.ref l0), some (va_rf l1), some (.int l2), some (.int l3), none] []) {M : Mm} {l0 : Nat} {l1 : Option Nat} {l2 : Int32} {l3 : Int32} (h : V_X6_firstToEnd_51 K B11 M l0 l1 l2 l3) : E G mi_X6_firstToEnd K M 0 0 51 [some (.ref l0), some (va_rf l1), some (.int l2), some (.int l3), none] [] := by
  unfold V_X6_firstToEnd_51 at h
  refine e_blk 2 51 _ _ (pc' := 11) (L' := [some (.ref l0), some (va_rf l1), some (.int l2), some (.int (l3 + (1 : Int32))), none]) (st' := []) rfl ?_
  generalize hx_x1 : ((l3 + (1 : Int32)) : Int32) = x1
  replace h := h x1 hx_x1.symm
  refine e_drp [true, true, true, true, false] (L' := [some (.ref l0), some (va_rf l1), some (.int l2), some (.int x1), none]) rfl ?_
  exact hB11 _ _ _ _ _ h
def V_X6_firstToEnd_11 (K : Rs → Mm → Prop)  : Nat → Mm → Nat → Option Nat → Int32 → Int32 → Prop
  | 0, _, _, _, _, _ => False
  | z + 1, M, l0, l1, l2, l3 => (((12 : Int32) ≤ l3 → K (.inl (some (va_rf l1))) M) ∧ (¬ (12 : Int32) ≤ l3 → (ob M l0 6 ∧ ∃ b2, mP M l0 2 = some b2 ∧ (ob M b2 12 ∧ (vp_in l3 (mN M b2) ∧ ∃ b5, mP M b2 (l3).toNatClampNeg = some b5 ∧ (ob M b5 2 ∧ (((mI M b5 11) ≤ 0 → V_X6_firstToEnd_51 K (fun M l0 l1 l2 l3 => V_X6_firstToEnd_11 K  z M l0 l1 l2 l3) M l0 l1 l2 l3) ∧ (¬ (mI M b5 11) ≤ 0 → V_X2_firstEnd (kI (fun r8 M7 => ((l2 ≤ r8 → V_X6_firstToEnd_51 K (fun M l0 l1 l2 l3 => V_X6_firstToEnd_11 K  z M l0 l1 l2 l3) M7 l0 l1 l2 l3) ∧ (¬ l2 ≤ r8 → (ob M7 b5 2 ∧ V_X2_firstEnd (kI (fun r11 M10 => V_X6_firstToEnd_51 K (fun M l0 l1 l2 l3 => V_X6_firstToEnd_11 K  z M l0 l1 l2 l3) M10 l0 (some b5) r11 l3) (fun _ _ => False)) M7 b5)))) (fun _ _ => False)) M b5))))))))
set_option maxRecDepth 100000 in
set_option maxHeartbeats 4000000 in
theorem x_X6_firstToEnd_11 {G : Gx} {K : Rs → Mm → Prop}  : ∀ (z : Nat) (M : Mm) (l0 : Nat) (l1 : Option Nat) (l2 : Int32) (l3 : Int32), V_X6_firstToEnd_11 K  z M l0 l1 l2 l3 → E G mi_X6_firstToEnd K M 0 0 11 [some (.ref l0), some (va_rf l1), some (.int l2), some (.int l3), none] []
  | 0, M, l0, l1, l2, l3, h => False.elim h
  | z + 1, M, l0, l1, l2, l3, h => by
    unfold V_X6_firstToEnd_11 at h
    refine e_blk 2 11 _ _ (pc' := 14) (L' := [some (.ref l0), some (va_rf l1), some (.int l2), some (.int l3), none]) (st' := [.int (12 : Int32), .int l3]) rfl ?_
    refine e_icmp_ge 57 rfl rfl (fun hc => ?_) (fun hc => ?_)
    · replace h := h.1 hc
      refine e_blk 1 57 _ _ (pc' := 58) (L' := [some (.ref l0), some (va_rf l1), some (.int l2), some (.int l3), none]) (st' := [va_rf l1]) rfl ?_
      exact e_reta (v := l1) rfl rfl (by decide) (by decide) h
    · replace h := h.2 hc
      refine e_blk 1 17 _ _ (pc' := 18) (L' := [some (.ref l0), some (va_rf l1), some (.int l2), some (.int l3), none]) (st' := [.ref l0]) rfl ?_
      obtain ⟨ho1, h⟩ := h
      obtain ⟨b2, hbb2, h⟩ := h
      refine e_getR 6 2 rfl rfl (by decide) (aw (i := 335) (by decide +kernel) rfl) ho1 rfl hbb2 ?_
      refine e_blk 1 21 _ _ (pc' := 22) (L' := [some (.ref l0), some (va_rf l1), some (.int l2), some (.int l3), none]) (st' := [.int l3, .ref b2]) rfl ?_
      obtain ⟨ho3, h⟩ := h
      obtain ⟨hi4, h⟩ := h
      obtain ⟨b5, hbb5, h⟩ := h
      refine e_aaldOR rfl ho3 hi4 hbb5 ?_
      refine e_blk 2 23 _ _ (pc' := 27) (L' := [some (.ref l0), some (va_rf l1), some (.int l2), some (.int l3), some (.ref b5)]) (st' := [.ref b5]) rfl ?_
      obtain ⟨ho6, h⟩ := h
      refine e_getI 2 11 rfl rfl (by decide) (aw (i := 289) (by decide +kernel) rfl) ho6 rfl ?_
      refine e_if_le 51 rfl rfl (fun hc => ?_) (fun hc => ?_)
      · replace h := h.1 hc
        refine e_drp [true, true, true, true, false] (L' := [some (.ref l0), some (va_rf l1), some (.int l2), some (.int l3), none]) rfl ?_
        exact x_X6_firstToEnd_51 (fun M l0 l1 l2 l3 h => x_X6_firstToEnd_11  z M l0 l1 l2 l3 h) h
      · replace h := h.2 hc
        refine e_blk 1 33 _ _ (pc' := 35) (L' := [some (.ref l0), some (va_rf l1), some (.int l2), some (.int l3), some (.ref b5)]) (st' := [.ref b5]) rfl ?_
        refine e_callV (As := []) (rest := []) (ci := 2) rfl (x_X2_firstEnd h) ho6 rfl rfl rfl (aw (i := 976) (by decide +kernel) rfl) wn_X2_firstEnd wv_X2_firstEnd wi_X2_firstEnd wc_X2_firstEnd (show cok mi_X6_firstToEnd mi_X2_firstEnd 0 0 0 = true by decide +kernel) (Nat.le_of_ble_eq_true rfl) (fun v9 M7 hq => ?_) (fun X M9 hq => False.elim hq)
        obtain ⟨r8, rfl, h⟩ := kI_l hq
        refine e_blk 1 38 _ _ (pc' := 39) (L' := [some (.ref l0), some (va_rf l1), some (.int l2), some (.int l3), some (.ref b5)]) (st' := [.int l2, .int r8]) rfl ?_
        refine e_icmp_ge 51 rfl rfl (fun hc => ?_) (fun hc => ?_)
        · replace h := h.1 hc
          refine e_drp [true, true, true, true, false] (L' := [some (.ref l0), some (va_rf l1), some (.int l2), some (.int l3), none]) rfl ?_
          exact x_X6_firstToEnd_51 (fun M l0 l1 l2 l3 h => x_X6_firstToEnd_11  z M l0 l1 l2 l3 h) h
        · replace h := h.2 hc
          refine e_blk 3 42 _ _ (pc' := 47) (L' := [some (.ref l0), some (.ref b5), some (.int l2), some (.int l3), some (.ref b5)]) (st' := [.ref b5]) rfl ?_
          obtain ⟨ho9, h⟩ := h
          refine e_callV (As := []) (rest := []) (ci := 2) rfl (x_X2_firstEnd h) ho9 rfl rfl rfl (aw (i := 976) (by decide +kernel) rfl) wn_X2_firstEnd wv_X2_firstEnd wi_X2_firstEnd wc_X2_firstEnd (show cok mi_X6_firstToEnd mi_X2_firstEnd 0 0 0 = true by decide +kernel) (Nat.le_of_ble_eq_true rfl) (fun v9 M10 hq => ?_) (fun X M9 hq => False.elim hq)
          obtain ⟨r11, rfl, h⟩ := kI_l hq
          refine e_blk 1 50 _ _ (pc' := 51) (L' := [some (.ref l0), some (.ref b5), some (.int r11), some (.int l3), some (.ref b5)]) (st' := []) rfl ?_
          refine e_drp [true, true, true, true, false] (L' := [some (.ref l0), some (va_rf (some b5)), some (.int r11), some (.int l3), none]) rfl ?_
          exact x_X6_firstToEnd_51 (fun M l0 l1 l2 l3 h => x_X6_firstToEnd_11  z M l0 l1 l2 l3 h) h
def V_X6_firstToEnd (K : Rs → Mm → Prop) (M : Mm) (a0 : Nat) : Prop := (ob M a0 6 ∧ ∀ x2 : Int32, x2 = ((mI M a0 6) + (1 : Int32)) → ∃ y, V_X6_firstToEnd_11 K  y M a0 none x2 (0 : Int32))
set_option maxRecDepth 100000 in
set_option maxHeartbeats 4000000 in
theorem x_X6_firstToEnd {G : Gx} {K : Rs → Mm → Prop} {M : Mm} {a0 : Nat} (h : V_X6_firstToEnd K M a0) : MC G mi_X6_firstToEnd [.ref a0] M K := by
  unfold V_X6_firstToEnd at h
  refine mc_of rfl (by decide +kernel) dc_X6_firstToEnd (Nat.le_of_ble_eq_true rfl) 4 (Nat.le_of_ble_eq_true rfl) ?_
  show E G mi_X6_firstToEnd K M 0 0 0 [some (.ref a0), none, none, none, none] []
  refine e_blk 3 0 _ _ (pc' := 3) (L' := [some (.ref a0), some (.null), none, none, none]) (st' := [.ref a0]) rfl ?_
  obtain ⟨ho1, h⟩ := h
  refine e_getI 6 6 rfl rfl (by decide) (aw (i := 339) (by decide +kernel) rfl) ho1 rfl ?_
  refine e_blk 5 6 _ _ (pc' := 11) (L' := [some (.ref a0), some (.null), some (.int ((mI M a0 6) + (1 : Int32))), some (.int (0 : Int32)), none]) (st' := []) rfl ?_
  generalize hx_x2 : (((mI M a0 6) + (1 : Int32)) : Int32) = x2
  replace h := h x2 hx_x2.symm
  refine e_drp [true, true, true, true, false] (L' := [some (.ref a0), some (va_rf none), some (.int x2), some (.int (0 : Int32)), none]) rfl ?_
  obtain ⟨y, h⟩ := h
  exact x_X6_firstToEnd_11  y _ _ _ _ _ h
def V_X6_begin (K : Rs → Mm → Prop) (M : Mm) (a0 : Nat) (a1 : Nat) (a2 : Int32) (a3 : Int32) : Prop := (ob M a1 2 ∧ V_X2_addRun (kV (fun M2 => (ob M2 a0 6 ∧ ∃ b4, mP M2 a0 4 = some b4 ∧ (ob M2 a1 2 ∧ (ob M2 b4 1 ∧ V_X1_add (kV (fun M7 => K (.inl none) M7) (fun _ _ => False)) M2 b4 (0 : Int32) (mI M2 a1 0) a2 a3)))) (fun _ _ => False)) M a1 a2 a3)
set_option maxRecDepth 100000 in
set_option maxHeartbeats 4000000 in
theorem x_X6_begin {G : Gx} {K : Rs → Mm → Prop} {M : Mm} {a0 : Nat} {a1 : Nat} {a2 : Int32} {a3 : Int32} (h : V_X6_begin K M a0 a1 a2 a3) : MC G mi_X6_begin [.ref a0, .ref a1, .int a2, .int a3] M K := by
  unfold V_X6_begin at h
  refine mc_of rfl (by decide +kernel) dc_X6_begin (Nat.le_of_ble_eq_true rfl) 0 (Nat.le_of_ble_eq_true rfl) ?_
  show E G mi_X6_begin K M 0 0 0 [some (.ref a0), some (.ref a1), some (.int a2), some (.int a3)] []
  refine e_blk 3 0 _ _ (pc' := 3) (L' := [some (.ref a0), some (.ref a1), some (.int a2), some (.int a3)]) (st' := [.int a3, .int a2, .ref a1]) rfl ?_
  obtain ⟨ho1, h⟩ := h
  refine e_callV (As := [.int a2, .int a3]) (rest := []) (ci := 2) rfl (x_X2_addRun h) ho1 rfl rfl rfl (aw (i := 992) (by decide +kernel) rfl) wn_X2_addRun wv_X2_addRun wi_X2_addRun wc_X2_addRun (show cok mi_X6_begin mi_X2_addRun 0 0 2 = true by decide +kernel) (Nat.le_of_ble_eq_true rfl) (fun v9 M2 hq => ?_) (fun X M9 hq => False.elim hq)
  obtain ⟨rfl, h⟩ := kV_l hq
  refine e_blk 1 6 _ _ (pc' := 7) (L' := [some (.ref a0), some (.ref a1), some (.int a2), some (.int a3)]) (st' := [.ref a0]) rfl ?_
  obtain ⟨ho3, h⟩ := h
  obtain ⟨b4, hbb4, h⟩ := h
  refine e_getR 6 4 rfl rfl (by decide) (aw (i := 337) (by decide +kernel) rfl) ho3 rfl hbb4 ?_
  refine e_blk 2 10 _ _ (pc' := 12) (L' := [some (.ref a0), some (.ref a1), some (.int a2), some (.int a3)]) (st' := [.ref a1, .int (0 : Int32), .ref b4]) rfl ?_
  obtain ⟨ho5, h⟩ := h
  refine e_getI 2 0 rfl rfl (by decide) (aw (i := 269) (by decide +kernel) rfl) ho5 rfl ?_
  refine e_blk 2 15 _ _ (pc' := 17) (L' := [some (.ref a0), some (.ref a1), some (.int a2), some (.int a3)]) (st' := [.int a3, .int a2, .int (mI M2 a1 0), .int (0 : Int32), .ref b4]) rfl ?_
  obtain ⟨ho6, h⟩ := h
  refine e_callV (As := [.int (0 : Int32), .int (mI M2 a1 0), .int a2, .int a3]) (rest := []) (ci := 1) rfl (x_X1_add h) ho6 rfl rfl rfl (aw (i := 980) (by decide +kernel) rfl) wn_X1_add wv_X1_add wi_X1_add wc_X1_add (show cok mi_X6_begin mi_X1_add 0 0 4 = true by decide +kernel) (Nat.le_of_ble_eq_true rfl) (fun v9 M7 hq => ?_) (fun X M9 hq => False.elim hq)
  obtain ⟨rfl, h⟩ := kV_l hq
  exact e_ret rfl rfl (by decide) (by decide) h
def V_X6_becomeDue_84 (K : Rs → Mm → Prop)  (M : Mm)  : Prop := K (.inl none) M
set_option maxRecDepth 100000 in
set_option maxHeartbeats 4000000 in
theorem x_X6_becomeDue_84 {G : Gx} {K : Rs → Mm → Prop}  {M : Mm}  (h : V_X6_becomeDue_84 K  M ) : E G mi_X6_becomeDue K M 0 0 84 [none, none, none] [] := by
  unfold V_X6_becomeDue_84 at h
  exact e_ret rfl rfl (by decide) (by decide) h
def V_X6_becomeDue (K : Rs → Mm → Prop) (M : Mm) (a0 : Nat) (a1 : Nat) (a2 : Int32) : Prop := (ob M a1 2 ∧ V_X2_mayBegin (kI (fun r3 M2 => ((r3 = 0 → (ob M2 a1 2 ∧ V_X2_mayWait (kI (fun r6 M5 => ((r6 = 0 → (ob M5 a1 2 ∧ ∀ M8, M8 = sI M5 a1 15 ((mI M5 a1 15) + (1 : Int32)) → (ob M8 a0 6 ∧ ∃ b10, mP M8 a0 4 = some b10 ∧ (ob M8 b10 1 ∧ V_X1_add (kV (fun M12 => V_X6_becomeDue_84 K  M12 ) (fun _ _ => False)) M8 b10 (2 : Int32) (mI M8 a1 0) (mI M8 a0 6) a2)))) ∧ (¬ r6 = 0 → (ob M5 a1 2 ∧ ∀ M14, M14 = sI M5 a1 12 (1 : Int32) → ∀ M15, M15 = sI M14 a1 13 a2 → (ob M15 a0 6 ∧ ∃ b17, mP M15 a0 4 = some b17 ∧ (ob M15 b17 1 ∧ V_X1_add (kV (fun M19 => V_X6_becomeDue_84 K  M19 ) (fun _ _ => False)) M15 b17 (3 : Int32) (mI M15 a1 0) (mI M15 a0 6) a2)))))) (fun _ _ => False)) M2 a1)) ∧ (¬ r3 = 0 → (ob M2 a0 6 ∧ V_X6_begin (kV (fun M21 => V_X6_becomeDue_84 K  M21 ) (fun _ _ => False)) M2 a0 a1 (mI M2 a0 6) a2)))) (fun _ _ => False)) M a1)
set_option maxRecDepth 100000 in
set_option maxHeartbeats 4000000 in
theorem x_X6_becomeDue {G : Gx} {K : Rs → Mm → Prop} {M : Mm} {a0 : Nat} {a1 : Nat} {a2 : Int32} (h : V_X6_becomeDue K M a0 a1 a2) : MC G mi_X6_becomeDue [.ref a0, .ref a1, .int a2] M K := by
  unfold V_X6_becomeDue at h
  refine mc_of rfl (by decide +kernel) dc_X6_becomeDue (Nat.le_of_ble_eq_true rfl) 0 (Nat.le_of_ble_eq_true rfl) ?_
  show E G mi_X6_becomeDue K M 0 0 0 [some (.ref a0), some (.ref a1), some (.int a2)] []
  refine e_blk 1 0 _ _ (pc' := 1) (L' := [some (.ref a0), some (.ref a1), some (.int a2)]) (st' := [.ref a1]) rfl ?_
  obtain ⟨ho1, h⟩ := h
  refine e_callV (As := []) (rest := []) (ci := 2) rfl (x_X2_mayBegin h) ho1 rfl rfl rfl (aw (i := 1000) (by decide +kernel) rfl) wn_X2_mayBegin wv_X2_mayBegin wi_X2_mayBegin wc_X2_mayBegin (show cok mi_X6_becomeDue mi_X2_mayBegin 0 0 0 = true by decide +kernel) (Nat.le_of_ble_eq_true rfl) (fun v9 M2 hq => ?_) (fun X M9 hq => False.elim hq)
  obtain ⟨r3, rfl, h⟩ := kI_l hq
  refine e_if_eq 20 rfl rfl (fun hc => ?_) (fun hc => ?_)
  · replace h := h.1 hc
    refine e_blk 1 20 _ _ (pc' := 21) (L' := [some (.ref a0), some (.ref a1), some (.int a2)]) (st' := [.ref a1]) rfl ?_
    obtain ⟨ho4, h⟩ := h
    refine e_callV (As := []) (rest := []) (ci := 2) rfl (x_X2_mayWait h) ho4 rfl rfl rfl (aw (i := 1004) (by decide +kernel) rfl) wn_X2_mayWait wv_X2_mayWait wi_X2_mayWait wc_X2_mayWait (show cok mi_X6_becomeDue mi_X2_mayWait 0 0 0 = true by decide +kernel) (Nat.le_of_ble_eq_true rfl) (fun v9 M5 hq => ?_) (fun X M9 hq => False.elim hq)
    obtain ⟨r6, rfl, h⟩ := kI_l hq
    refine e_if_eq 57 rfl rfl (fun hc => ?_) (fun hc => ?_)
    · replace h := h.1 hc
      refine e_blk 2 57 _ _ (pc' := 59) (L' := [some (.ref a0), some (.ref a1), some (.int a2)]) (st' := [.ref a1, .ref a1]) rfl ?_
      obtain ⟨ho7, h⟩ := h
      refine e_getI 2 15 rfl rfl (by decide) (aw (i := 296) (by decide +kernel) rfl) ho7 rfl ?_
      refine e_blk 2 62 _ _ (pc' := 64) (L' := [some (.ref a0), some (.ref a1), some (.int a2)]) (st' := [.int ((mI M5 a1 15) + (1 : Int32)), .ref a1]) rfl ?_
      refine e_putI 2 15 rfl rfl (by decide) (aw (i := 296) (by decide +kernel) rfl) rfl ho7 rfl ?_
      generalize hM8 : sI M5 a1 15 ((mI M5 a1 15) + (1 : Int32)) = M8
      replace h := h M8 hM8.symm
      replace ho7 : ob M8 a1 2 := hM8 ▸ ob_sI ho7
      refine e_blk 1 67 _ _ (pc' := 68) (L' := [some (.ref a0), some (.ref a1), some (.int a2)]) (st' := [.ref a0]) rfl ?_
      obtain ⟨ho9, h⟩ := h
      obtain ⟨b10, hbb10, h⟩ := h
      refine e_getR 6 4 rfl rfl (by decide) (aw (i := 337) (by decide +kernel) rfl) ho9 rfl hbb10 ?_
      refine e_blk 2 71 _ _ (pc' := 73) (L' := [some (.ref a0), some (.ref a1), some (.int a2)]) (st' := [.ref a1, .int (2 : Int32), .ref b10]) rfl ?_
      refine e_getI 2 0 rfl rfl (by decide) (aw (i := 269) (by decide +kernel) rfl) ho7 rfl ?_
      refine e_blk 1 76 _ _ (pc' := 77) (L' := [some (.ref a0), some (.ref a1), some (.int a2)]) (st' := [.ref a0, .int (mI M8 a1 0), .int (2 : Int32), .ref b10]) rfl ?_
      refine e_getI 6 6 rfl rfl (by decide) (aw (i := 339) (by decide +kernel) rfl) ho9 rfl ?_
      refine e_blk 1 80 _ _ (pc' := 81) (L' := [some (.ref a0), some (.ref a1), some (.int a2)]) (st' := [.int a2, .int (mI M8 a0 6), .int (mI M8 a1 0), .int (2 : Int32), .ref b10]) rfl ?_
      obtain ⟨ho11, h⟩ := h
      refine e_callV (As := [.int (2 : Int32), .int (mI M8 a1 0), .int (mI M8 a0 6), .int a2]) (rest := []) (ci := 1) rfl (x_X1_add h) ho11 rfl rfl rfl (aw (i := 980) (by decide +kernel) rfl) wn_X1_add wv_X1_add wi_X1_add wc_X1_add (show cok mi_X6_becomeDue mi_X1_add 0 0 4 = true by decide +kernel) (Nat.le_of_ble_eq_true rfl) (fun v9 M12 hq => ?_) (fun X M9 hq => False.elim hq)
      obtain ⟨rfl, h⟩ := kV_l hq
      refine e_drp [false, false, false] (L' := [none, none, none]) rfl ?_
      exact x_X6_becomeDue_84  h
    · replace h := h.2 hc
      refine e_blk 2 27 _ _ (pc' := 29) (L' := [some (.ref a0), some (.ref a1), some (.int a2)]) (st' := [.int (1 : Int32), .ref a1]) rfl ?_
      obtain ⟨ho13, h⟩ := h
      refine e_putZ 2 12 rfl rfl (by decide) (aw (i := 291) (by decide +kernel) rfl) rfl ho13 rfl (by decide) ?_
      generalize hM14 : sI M5 a1 12 (1 : Int32) = M14
      replace h := h M14 hM14.symm
      replace ho13 : ob M14 a1 2 := hM14 ▸ ob_sI ho13
      refine e_blk 2 32 _ _ (pc' := 34) (L' := [some (.ref a0), some (.ref a1), some (.int a2)]) (st' := [.int a2, .ref a1]) rfl ?_
      refine e_putI 2 13 rfl rfl (by decide) (aw (i := 292) (by decide +kernel) rfl) rfl ho13 rfl ?_
      generalize hM15 : sI M14 a1 13 a2 = M15
      replace h := h M15 hM15.symm
      replace ho13 : ob M15 a1 2 := hM15 ▸ ob_sI ho13
      refine e_blk 1 37 _ _ (pc' := 38) (L' := [some (.ref a0), some (.ref a1), some (.int a2)]) (st' := [.ref a0]) rfl ?_
      obtain ⟨ho16, h⟩ := h
      obtain ⟨b17, hbb17, h⟩ := h
      refine e_getR 6 4 rfl rfl (by decide) (aw (i := 337) (by decide +kernel) rfl) ho16 rfl hbb17 ?_
      refine e_blk 2 41 _ _ (pc' := 43) (L' := [some (.ref a0), some (.ref a1), some (.int a2)]) (st' := [.ref a1, .int (3 : Int32), .ref b17]) rfl ?_
      refine e_getI 2 0 rfl rfl (by decide) (aw (i := 269) (by decide +kernel) rfl) ho13 rfl ?_
      refine e_blk 1 46 _ _ (pc' := 47) (L' := [some (.ref a0), some (.ref a1), some (.int a2)]) (st' := [.ref a0, .int (mI M15 a1 0), .int (3 : Int32), .ref b17]) rfl ?_
      refine e_getI 6 6 rfl rfl (by decide) (aw (i := 339) (by decide +kernel) rfl) ho16 rfl ?_
      refine e_blk 1 50 _ _ (pc' := 51) (L' := [some (.ref a0), some (.ref a1), some (.int a2)]) (st' := [.int a2, .int (mI M15 a0 6), .int (mI M15 a1 0), .int (3 : Int32), .ref b17]) rfl ?_
      obtain ⟨ho18, h⟩ := h
      refine e_callV (As := [.int (3 : Int32), .int (mI M15 a1 0), .int (mI M15 a0 6), .int a2]) (rest := []) (ci := 1) rfl (x_X1_add h) ho18 rfl rfl rfl (aw (i := 980) (by decide +kernel) rfl) wn_X1_add wv_X1_add wi_X1_add wc_X1_add (show cok mi_X6_becomeDue mi_X1_add 0 0 4 = true by decide +kernel) (Nat.le_of_ble_eq_true rfl) (fun v9 M19 hq => ?_) (fun X M9 hq => False.elim hq)
      obtain ⟨rfl, h⟩ := kV_l hq
      refine e_blk 1 54 _ _ (pc' := 84) (L' := [some (.ref a0), some (.ref a1), some (.int a2)]) (st' := []) rfl ?_
      refine e_drp [false, false, false] (L' := [none, none, none]) rfl ?_
      exact x_X6_becomeDue_84  h
  · replace h := h.2 hc
    refine e_blk 3 7 _ _ (pc' := 10) (L' := [some (.ref a0), some (.ref a1), some (.int a2)]) (st' := [.ref a0, .ref a1, .ref a0]) rfl ?_
    obtain ⟨ho20, h⟩ := h
    refine e_getI 6 6 rfl rfl (by decide) (aw (i := 339) (by decide +kernel) rfl) ho20 rfl ?_
    refine e_blk 1 13 _ _ (pc' := 14) (L' := [some (.ref a0), some (.ref a1), some (.int a2)]) (st' := [.int a2, .int (mI M2 a0 6), .ref a1, .ref a0]) rfl ?_
    refine e_callV (As := [.ref a1, .int (mI M2 a0 6), .int a2]) (rest := []) (ci := 6) rfl (x_X6_begin h) ho20 rfl rfl rfl (aw (i := 988) (by decide +kernel) rfl) wn_X6_begin wv_X6_begin wi_X6_begin wc_X6_begin (show cok mi_X6_becomeDue mi_X6_begin 0 0 3 = true by decide +kernel) (Nat.le_of_ble_eq_true rfl) (fun v9 M21 hq => ?_) (fun X M9 hq => False.elim hq)
    obtain ⟨rfl, h⟩ := kV_l hq
    refine e_blk 1 17 _ _ (pc' := 84) (L' := [some (.ref a0), some (.ref a1), some (.int a2)]) (st' := []) rfl ?_
    refine e_drp [false, false, false] (L' := [none, none, none]) rfl ?_
    exact x_X6_becomeDue_84  h
def V_X6_firstMissed (K : Rs → Mm → Prop) (M : Mm) (a0 : Nat) (a1 : Nat) : Prop := (ob M a0 6 ∧ (ob M a1 2 ∧ V_J9_max_7cf53 (kI (fun r4 M3 => K (.inl (some (.int r4))) M3) (fun _ _ => False)) M ((mI M a0 7) + (1 : Int32)) ((mI M a0 6) - (mI M a1 8))))
set_option maxRecDepth 100000 in
set_option maxHeartbeats 4000000 in
theorem x_X6_firstMissed {G : Gx} {K : Rs → Mm → Prop} {M : Mm} {a0 : Nat} {a1 : Nat} (h : V_X6_firstMissed K M a0 a1) : MC G mi_X6_firstMissed [.ref a0, .ref a1] M K := by
  unfold V_X6_firstMissed at h
  refine mc_of rfl (by decide +kernel) dc_X6_firstMissed (Nat.le_of_ble_eq_true rfl) 0 (Nat.le_of_ble_eq_true rfl) ?_
  show E G mi_X6_firstMissed K M 0 0 0 [some (.ref a0), some (.ref a1)] []
  refine e_blk 1 0 _ _ (pc' := 1) (L' := [some (.ref a0), some (.ref a1)]) (st' := [.ref a0]) rfl ?_
  obtain ⟨ho1, h⟩ := h
  refine e_getI 6 7 rfl rfl (by decide) (aw (i := 340) (by decide +kernel) rfl) ho1 rfl ?_
  refine e_blk 3 4 _ _ (pc' := 7) (L' := [some (.ref a0), some (.ref a1)]) (st' := [.ref a0, .int ((mI M a0 7) + (1 : Int32))]) rfl ?_
  refine e_getI 6 6 rfl rfl (by decide) (aw (i := 339) (by decide +kernel) rfl) ho1 rfl ?_
  refine e_blk 1 10 _ _ (pc' := 11) (L' := [some (.ref a0), some (.ref a1)]) (st' := [.ref a1, .int (mI M a0 6), .int ((mI M a0 7) + (1 : Int32))]) rfl ?_
  obtain ⟨ho2, h⟩ := h
  refine e_getI 2 8 rfl rfl (by decide) (aw (i := 283) (by decide +kernel) rfl) ho2 rfl ?_
  refine e_blk 1 14 _ _ (pc' := 15) (L' := [some (.ref a0), some (.ref a1)]) (st' := [.int ((mI M a0 6) - (mI M a1 8)), .int ((mI M a0 7) + (1 : Int32))]) rfl ?_
  refine e_callS (As := [.int ((mI M a0 7) + (1 : Int32)), .int ((mI M a0 6) - (mI M a1 8))]) (rest := []) rfl (x_J9_max_7cf53 h) rfl (aw (i := 893) (by decide +kernel) rfl) ws_J9_max_7cf53 wi_J9_max_7cf53 wc_J9_max_7cf53 (show cok mi_X6_firstMissed mi_J9_max_7cf53 0 0 2 = true by decide +kernel) (Nat.le_of_ble_eq_true rfl) (fun v9 M3 hq => ?_) (fun X M9 hq => False.elim hq)
  obtain ⟨r4, rfl, h⟩ := kI_l hq
  exact e_reti rfl rfl (by decide) (by decide) h
def V_X6_makeUpLatest_25 (K : Rs → Mm → Prop)  (M : Mm)  : Prop := K (.inl none) M
set_option maxRecDepth 100000 in
set_option maxHeartbeats 4000000 in
theorem x_X6_makeUpLatest_25 {G : Gx} {K : Rs → Mm → Prop}  {M : Mm}  (h : V_X6_makeUpLatest_25 K  M ) : E G mi_X6_makeUpLatest K M 0 0 25 [none, none, none] [] := by
  unfold V_X6_makeUpLatest_25 at h
  exact e_ret rfl rfl (by decide) (by decide) h
def V_X6_makeUpLatest (K : Rs → Mm → Prop) (M : Mm) (a0 : Nat) (a1 : Nat) : Prop := (ob M a0 6 ∧ V_X6_firstMissed (kI (fun r3 M2 => (ob M2 a0 6 ∧ (ob M2 a1 2 ∧ V_X2_greatestMatch (kI (fun r7 M6 => ((r7 = (-1 : Int32) → V_X6_makeUpLatest_25 K  M6 ) ∧ (¬ r7 = (-1 : Int32) → (ob M6 a0 6 ∧ V_X6_becomeDue (kV (fun M9 => V_X6_makeUpLatest_25 K  M9 ) (fun _ _ => False)) M6 a0 a1 r7)))) (fun _ _ => False)) M2 a1 r3 (mI M2 a0 6)))) (fun _ _ => False)) M a0 a1)
set_option maxRecDepth 100000 in
set_option maxHeartbeats 4000000 in
theorem x_X6_makeUpLatest {G : Gx} {K : Rs → Mm → Prop} {M : Mm} {a0 : Nat} {a1 : Nat} (h : V_X6_makeUpLatest K M a0 a1) : MC G mi_X6_makeUpLatest [.ref a0, .ref a1] M K := by
  unfold V_X6_makeUpLatest at h
  refine mc_of rfl (by decide +kernel) dc_X6_makeUpLatest (Nat.le_of_ble_eq_true rfl) 1 (Nat.le_of_ble_eq_true rfl) ?_
  show E G mi_X6_makeUpLatest K M 0 0 0 [some (.ref a0), some (.ref a1), none] []
  refine e_blk 3 0 _ _ (pc' := 3) (L' := [some (.ref a0), some (.ref a1), none]) (st' := [.ref a1, .ref a0, .ref a1]) rfl ?_
  obtain ⟨ho1, h⟩ := h
  refine e_callV (As := [.ref a1]) (rest := [.ref a1]) (ci := 6) rfl (x_X6_firstMissed h) ho1 rfl rfl rfl (aw (i := 1027) (by decide +kernel) rfl) wn_X6_firstMissed wv_X6_firstMissed wi_X6_firstMissed wc_X6_firstMissed (show cok mi_X6_makeUpLatest mi_X6_firstMissed 0 0 1 = true by decide +kernel) (Nat.le_of_ble_eq_true rfl) (fun v9 M2 hq => ?_) (fun X M9 hq => False.elim hq)
  obtain ⟨r3, rfl, h⟩ := kI_l hq
  refine e_blk 1 6 _ _ (pc' := 7) (L' := [some (.ref a0), some (.ref a1), none]) (st' := [.ref a0, .int r3, .ref a1]) rfl ?_
  obtain ⟨ho4, h⟩ := h
  refine e_getI 6 6 rfl rfl (by decide) (aw (i := 339) (by decide +kernel) rfl) ho4 rfl ?_
  obtain ⟨ho5, h⟩ := h
  refine e_callV (As := [.int r3, .int (mI M2 a0 6)]) (rest := []) (ci := 2) rfl (x_X2_greatestMatch h) ho5 rfl rfl rfl (aw (i := 894) (by decide +kernel) rfl) wn_X2_greatestMatch wv_X2_greatestMatch wi_X2_greatestMatch wc_X2_greatestMatch (show cok mi_X6_makeUpLatest mi_X2_greatestMatch 0 0 2 = true by decide +kernel) (Nat.le_of_ble_eq_true rfl) (fun v9 M6 hq => ?_) (fun X M9 hq => False.elim hq)
  obtain ⟨r7, rfl, h⟩ := kI_l hq
  refine e_blk 3 13 _ _ (pc' := 16) (L' := [some (.ref a0), some (.ref a1), some (.int r7)]) (st' := [.int (-1 : Int32), .int r7]) rfl ?_
  refine e_icmp_eq 25 rfl rfl (fun hc => ?_) (fun hc => ?_)
  · replace h := h.1 hc
    refine e_drp [false, false, false] (L' := [none, none, none]) rfl ?_
    exact x_X6_makeUpLatest_25  h
  · replace h := h.2 hc
    refine e_blk 3 19 _ _ (pc' := 22) (L' := [some (.ref a0), some (.ref a1), some (.int r7)]) (st' := [.int r7, .ref a1, .ref a0]) rfl ?_
    obtain ⟨ho8, h⟩ := h
    refine e_callV (As := [.ref a1, .int r7]) (rest := []) (ci := 6) rfl (x_X6_becomeDue h) ho8 rfl rfl rfl (aw (i := 996) (by decide +kernel) rfl) wn_X6_becomeDue wv_X6_becomeDue wi_X6_becomeDue wc_X6_becomeDue (show cok mi_X6_makeUpLatest mi_X6_becomeDue 0 0 2 = true by decide +kernel) (Nat.le_of_ble_eq_true rfl) (fun v9 M9 hq => ?_) (fun X M9 hq => False.elim hq)
    obtain ⟨rfl, h⟩ := kV_l hq
    refine e_drp [false, false, false] (L' := [none, none, none]) rfl ?_
    exact x_X6_makeUpLatest_25  h
def V_X6_makeUpAll_122 (K : Rs → Mm → Prop)  (M : Mm)  : Prop := K (.inl none) M
set_option maxRecDepth 100000 in
set_option maxHeartbeats 4000000 in
theorem x_X6_makeUpAll_122 {G : Gx} {K : Rs → Mm → Prop}  {M : Mm}  (h : V_X6_makeUpAll_122 K  M ) : E G mi_X6_makeUpAll K M 0 0 122 [none, none, none, none, none] [] := by
  unfold V_X6_makeUpAll_122 at h
  exact e_ret rfl rfl (by decide) (by decide) h
def V_X6_makeUpAll_86 (K : Rs → Mm → Prop) (B8 : Mm → Nat → Nat → Int32 → Int32 → Prop) (M : Mm) (l0 : Nat) (l1 : Nat) (l2 : Int32) (l3 : Int32) : Prop := (ob M l0 6 ∧ (ob M l1 2 ∧ V_X2_leastMatch (kI (fun r4 M3 => ((¬ r4 = (-1 : Int32) → (ob M3 l0 6 ∧ V_X6_becomeDue (kV (fun M6 => ∀ x7 : Int32, x7 = (r4 + (1 : Int32)) → ∀ x8 : Int32, x8 = (l3 + (1 : Int32)) → B8 M6 l0 l1 x7 x8) (fun _ _ => False)) M3 l0 l1 r4)) ∧ (r4 = (-1 : Int32) → K (.inl none) M3))) (fun _ _ => False)) M l1 l2 (mI M l0 6)))
set_option maxRecDepth 100000 in
set_option maxHeartbeats 4000000 in
theorem x_X6_makeUpAll_86 {G : Gx} {K : Rs → Mm → Prop} {B8 : Mm → Nat → Nat → Int32 → Int32 → Prop} (hB8 : ∀ M l0 l1 l2 l3, B8 M l0 l1 l2 l3 → E G mi_X6_makeUpAll K M 0 0 8 [some (.ref l0), some (.ref l1), some (.int l2), some (.int l3), none] []) {M : Mm} {l0 : Nat} {l1 : Nat} {l2 : Int32} {l3 : Int32} (h : V_X6_makeUpAll_86 K B8 M l0 l1 l2 l3) : E G mi_X6_makeUpAll K M 0 0 86 [some (.ref l0), some (.ref l1), some (.int l2), some (.int l3), none] [] := by
  unfold V_X6_makeUpAll_86 at h
  refine e_blk 3 86 _ _ (pc' := 89) (L' := [some (.ref l0), some (.ref l1), some (.int l2), some (.int l3), none]) (st' := [.ref l0, .int l2, .ref l1]) rfl ?_
  obtain ⟨ho1, h⟩ := h
  refine e_getI 6 6 rfl rfl (by decide) (aw (i := 339) (by decide +kernel) rfl) ho1 rfl ?_
  obtain ⟨ho2, h⟩ := h
  refine e_callV (As := [.int l2, .int (mI M l0 6)]) (rest := []) (ci := 2) rfl (x_X2_leastMatch h) ho2 rfl rfl rfl (aw (i := 821) (by decide +kernel) rfl) wn_X2_leastMatch wv_X2_leastMatch wi_X2_leastMatch wc_X2_leastMatch (show cok mi_X6_makeUpAll mi_X2_leastMatch 0 0 2 = true by decide +kernel) (Nat.le_of_ble_eq_true rfl) (fun v9 M3 hq => ?_) (fun X M9 hq => False.elim hq)
  obtain ⟨r4, rfl, h⟩ := kI_l hq
  refine e_blk 3 95 _ _ (pc' := 100) (L' := [some (.ref l0), some (.ref l1), some (.int l2), some (.int l3), some (.int r4)]) (st' := [.int (-1 : Int32), .int r4]) rfl ?_
  refine e_icmp_ne 104 rfl rfl (fun hc => ?_) (fun hc => ?_)
  · replace h := h.1 hc
    refine e_blk 3 104 _ _ (pc' := 108) (L' := [some (.ref l0), some (.ref l1), some (.int l2), some (.int l3), some (.int r4)]) (st' := [.int r4, .ref l1, .ref l0]) rfl ?_
    obtain ⟨ho5, h⟩ := h
    refine e_callV (As := [.ref l1, .int r4]) (rest := []) (ci := 6) rfl (x_X6_becomeDue h) ho5 rfl rfl rfl (aw (i := 996) (by decide +kernel) rfl) wn_X6_becomeDue wv_X6_becomeDue wi_X6_becomeDue wc_X6_becomeDue (show cok mi_X6_makeUpAll mi_X6_becomeDue 0 0 2 = true by decide +kernel) (Nat.le_of_ble_eq_true rfl) (fun v9 M6 hq => ?_) (fun X M9 hq => False.elim hq)
    obtain ⟨rfl, h⟩ := kV_l hq
    refine e_blk 6 111 _ _ (pc' := 8) (L' := [some (.ref l0), some (.ref l1), some (.int (r4 + (1 : Int32))), some (.int (l3 + (1 : Int32))), some (.int r4)]) (st' := []) rfl ?_
    generalize hx_x7 : ((r4 + (1 : Int32)) : Int32) = x7
    replace h := h x7 hx_x7.symm
    generalize hx_x8 : ((l3 + (1 : Int32)) : Int32) = x8
    replace h := h x8 hx_x8.symm
    refine e_drp [true, true, true, true, false] (L' := [some (.ref l0), some (.ref l1), some (.int x7), some (.int x8), none]) rfl ?_
    exact hB8 _ _ _ _ _ h
  · replace h := h.2 hc
    exact e_ret rfl rfl (by decide) (by decide) h
def V_X6_makeUpAll_8 (K : Rs → Mm → Prop)  : Nat → Mm → Nat → Nat → Int32 → Int32 → Prop
  | 0, _, _, _, _, _ => False
  | z + 1, M, l0, l1, l2, l3 => (((100000 : Int32) < l3 → V_X6_makeUpAll_122 K  M ) ∧ (¬ (100000 : Int32) < l3 → (ob M l0 6 ∧ (((mI M l0 6) < l2 → V_X6_makeUpAll_122 K  M ) ∧ (¬ (mI M l0 6) < l2 → ∃ b2, mP M l0 4 = some b2 ∧ (ob M b2 1 ∧ (((mI M b2 4) < (300 : Int32) → V_X6_makeUpAll_86 K (fun M l0 l1 l2 l3 => V_X6_makeUpAll_8 K  z M l0 l1 l2 l3) M l0 l1 l2 l3) ∧ (¬ (mI M b2 4) < (300 : Int32) → (ob M l1 2 ∧ V_X2_mayBegin (kI (fun r6 M5 => ((¬ r6 = 0 → V_X6_makeUpAll_86 K (fun M l0 l1 l2 l3 => V_X6_makeUpAll_8 K  z M l0 l1 l2 l3) M5 l0 l1 l2 l3) ∧ (r6 = 0 → (ob M5 l1 2 ∧ V_X2_mayWait (kI (fun r9 M8 => ((¬ r9 = 0 → V_X6_makeUpAll_86 K (fun M l0 l1 l2 l3 => V_X6_makeUpAll_8 K  z M l0 l1 l2 l3) M8 l0 l1 l2 l3) ∧ (r9 = 0 → (ob M8 l0 6 ∧ (ob M8 l1 2 ∧ V_X2_matchesIn (kI (fun r13 M12 => (ob M12 l1 2 ∧ ∀ M15, M15 = sI M12 l1 15 ((mI M12 l1 15) + r13) → (ob M15 l0 6 ∧ ∃ b17, mP M15 l0 4 = some b17 ∧ (ob M15 b17 1 ∧ ∀ M19, M19 = sI M15 b17 4 ((mI M15 b17 4) + r13) → K (.inl none) M19)))) (fun _ _ => False)) M8 l1 l2 (mI M8 l0 6)))))) (fun _ _ => False)) M5 l1)))) (fun _ _ => False)) M l1)))))))))
set_option maxRecDepth 100000 in
set_option maxHeartbeats 4000000 in
theorem x_X6_makeUpAll_8 {G : Gx} {K : Rs → Mm → Prop}  : ∀ (z : Nat) (M : Mm) (l0 : Nat) (l1 : Nat) (l2 : Int32) (l3 : Int32), V_X6_makeUpAll_8 K  z M l0 l1 l2 l3 → E G mi_X6_makeUpAll K M 0 0 8 [some (.ref l0), some (.ref l1), some (.int l2), some (.int l3), none] []
  | 0, M, l0, l1, l2, l3, h => False.elim h
  | z + 1, M, l0, l1, l2, l3, h => by
    unfold V_X6_makeUpAll_8 at h
    refine e_blk 1 8 _ _ (pc' := 9) (L' := [some (.ref l0), some (.ref l1), some (.int l2), some (.int l3), none]) (st' := [.int l3]) rfl ?_
    refine e_ldc (100000) rfl (aw (i := 593) (by decide +kernel) rfl) ?_
    refine e_icmp_gt 122 rfl rfl (fun hc => ?_) (fun hc => ?_)
    · replace h := h.1 hc
      refine e_drp [false, false, false, false, false] (L' := [none, none, none, none, none]) rfl ?_
      exact x_X6_makeUpAll_122  h
    · replace h := h.2 hc
      refine e_blk 2 14 _ _ (pc' := 16) (L' := [some (.ref l0), some (.ref l1), some (.int l2), some (.int l3), none]) (st' := [.ref l0, .int l2]) rfl ?_
      obtain ⟨ho1, h⟩ := h
      refine e_getI 6 6 rfl rfl (by decide) (aw (i := 339) (by decide +kernel) rfl) ho1 rfl ?_
      refine e_icmp_gt 122 rfl rfl (fun hc => ?_) (fun hc => ?_)
      · replace h := h.1 hc
        refine e_drp [false, false, false, false, false] (L' := [none, none, none, none, none]) rfl ?_
        exact x_X6_makeUpAll_122  h
      · replace h := h.2 hc
        refine e_blk 1 22 _ _ (pc' := 23) (L' := [some (.ref l0), some (.ref l1), some (.int l2), some (.int l3), none]) (st' := [.ref l0]) rfl ?_
        obtain ⟨b2, hbb2, h⟩ := h
        refine e_getR 6 4 rfl rfl (by decide) (aw (i := 337) (by decide +kernel) rfl) ho1 rfl hbb2 ?_
        obtain ⟨ho3, h⟩ := h
        refine e_getI 1 4 rfl rfl (by decide) (aw (i := 228) (by decide +kernel) rfl) ho3 rfl ?_
        refine e_blk 1 29 _ _ (pc' := 32) (L' := [some (.ref l0), some (.ref l1), some (.int l2), some (.int l3), none]) (st' := [.int (300 : Int32), .int (mI M b2 4)]) rfl ?_
        refine e_icmp_lt 86 rfl rfl (fun hc => ?_) (fun hc => ?_)
        · replace h := h.1 hc
          refine e_drp [true, true, true, true, false] (L' := [some (.ref l0), some (.ref l1), some (.int l2), some (.int l3), none]) rfl ?_
          exact x_X6_makeUpAll_86 (fun M l0 l1 l2 l3 h => x_X6_makeUpAll_8  z M l0 l1 l2 l3 h) h
        · replace h := h.2 hc
          refine e_blk 1 35 _ _ (pc' := 36) (L' := [some (.ref l0), some (.ref l1), some (.int l2), some (.int l3), none]) (st' := [.ref l1]) rfl ?_
          obtain ⟨ho4, h⟩ := h
          refine e_callV (As := []) (rest := []) (ci := 2) rfl (x_X2_mayBegin h) ho4 rfl rfl rfl (aw (i := 1000) (by decide +kernel) rfl) wn_X2_mayBegin wv_X2_mayBegin wi_X2_mayBegin wc_X2_mayBegin (show cok mi_X6_makeUpAll mi_X2_mayBegin 0 0 0 = true by decide +kernel) (Nat.le_of_ble_eq_true rfl) (fun v9 M5 hq => ?_) (fun X M9 hq => False.elim hq)
          obtain ⟨r6, rfl, h⟩ := kI_l hq
          refine e_if_ne 86 rfl rfl (fun hc => ?_) (fun hc => ?_)
          · replace h := h.1 hc
            refine e_drp [true, true, true, true, false] (L' := [some (.ref l0), some (.ref l1), some (.int l2), some (.int l3), none]) rfl ?_
            exact x_X6_makeUpAll_86 (fun M l0 l1 l2 l3 h => x_X6_makeUpAll_8  z M l0 l1 l2 l3 h) h
          · replace h := h.2 hc
            refine e_blk 1 42 _ _ (pc' := 43) (L' := [some (.ref l0), some (.ref l1), some (.int l2), some (.int l3), none]) (st' := [.ref l1]) rfl ?_
            obtain ⟨ho7, h⟩ := h
            refine e_callV (As := []) (rest := []) (ci := 2) rfl (x_X2_mayWait h) ho7 rfl rfl rfl (aw (i := 1004) (by decide +kernel) rfl) wn_X2_mayWait wv_X2_mayWait wi_X2_mayWait wc_X2_mayWait (show cok mi_X6_makeUpAll mi_X2_mayWait 0 0 0 = true by decide +kernel) (Nat.le_of_ble_eq_true rfl) (fun v9 M8 hq => ?_) (fun X M9 hq => False.elim hq)
            obtain ⟨r9, rfl, h⟩ := kI_l hq
            refine e_if_ne 86 rfl rfl (fun hc => ?_) (fun hc => ?_)
            · replace h := h.1 hc
              refine e_drp [true, true, true, true, false] (L' := [some (.ref l0), some (.ref l1), some (.int l2), some (.int l3), none]) rfl ?_
              exact x_X6_makeUpAll_86 (fun M l0 l1 l2 l3 h => x_X6_makeUpAll_8  z M l0 l1 l2 l3 h) h
            · replace h := h.2 hc
              refine e_blk 3 49 _ _ (pc' := 52) (L' := [some (.ref l0), some (.ref l1), some (.int l2), some (.int l3), none]) (st' := [.ref l0, .int l2, .ref l1]) rfl ?_
              obtain ⟨ho10, h⟩ := h
              refine e_getI 6 6 rfl rfl (by decide) (aw (i := 339) (by decide +kernel) rfl) ho10 rfl ?_
              obtain ⟨ho11, h⟩ := h
              refine e_callV (As := [.int l2, .int (mI M8 l0 6)]) (rest := []) (ci := 2) rfl (x_X2_matchesIn h) ho11 rfl rfl rfl (aw (i := 926) (by decide +kernel) rfl) wn_X2_matchesIn wv_X2_matchesIn wi_X2_matchesIn wc_X2_matchesIn (show cok mi_X6_makeUpAll mi_X2_matchesIn 0 0 2 = true by decide +kernel) (Nat.le_of_ble_eq_true rfl) (fun v9 M12 hq => ?_) (fun X M9 hq => False.elim hq)
              obtain ⟨r13, rfl, h⟩ := kI_l hq
              refine e_blk 3 58 _ _ (pc' := 62) (L' := [some (.ref l0), some (.ref l1), some (.int l2), some (.int l3), some (.int r13)]) (st' := [.ref l1, .ref l1]) rfl ?_
              obtain ⟨ho14, h⟩ := h
              refine e_getI 2 15 rfl rfl (by decide) (aw (i := 296) (by decide +kernel) rfl) ho14 rfl ?_
              refine e_blk 2 65 _ _ (pc' := 68) (L' := [some (.ref l0), some (.ref l1), some (.int l2), some (.int l3), some (.int r13)]) (st' := [.int ((mI M12 l1 15) + r13), .ref l1]) rfl ?_
              refine e_putI 2 15 rfl rfl (by decide) (aw (i := 296) (by decide +kernel) rfl) rfl ho14 rfl ?_
              generalize hM15 : sI M12 l1 15 ((mI M12 l1 15) + r13) = M15
              replace h := h M15 hM15.symm
              replace ho14 : ob M15 l1 2 := hM15 ▸ ob_sI ho14
              refine e_blk 1 71 _ _ (pc' := 72) (L' := [some (.ref l0), some (.ref l1), some (.int l2), some (.int l3), some (.int r13)]) (st' := [.ref l0]) rfl ?_
              obtain ⟨ho16, h⟩ := h
              obtain ⟨b17, hbb17, h⟩ := h
              refine e_getR 6 4 rfl rfl (by decide) (aw (i := 337) (by decide +kernel) rfl) ho16 rfl hbb17 ?_
              refine e_blk 1 75 _ _ (pc' := 76) (L' := [some (.ref l0), some (.ref l1), some (.int l2), some (.int l3), some (.int r13)]) (st' := [.ref b17, .ref b17]) rfl ?_
              obtain ⟨ho18, h⟩ := h
              refine e_getI 1 4 rfl rfl (by decide) (aw (i := 228) (by decide +kernel) rfl) ho18 rfl ?_
              refine e_blk 2 79 _ _ (pc' := 82) (L' := [some (.ref l0), some (.ref l1), some (.int l2), some (.int l3), some (.int r13)]) (st' := [.int ((mI M15 b17 4) + r13), .ref b17]) rfl ?_
              refine e_putI 1 4 rfl rfl (by decide) (aw (i := 228) (by decide +kernel) rfl) rfl ho18 rfl ?_
              generalize hM19 : sI M15 b17 4 ((mI M15 b17 4) + r13) = M19
              replace h := h M19 hM19.symm
              replace ho14 : ob M19 l1 2 := hM19 ▸ ob_sI ho14
              replace ho16 : ob M19 l0 6 := hM19 ▸ ob_sI ho16
              replace ho18 : ob M19 b17 1 := hM19 ▸ ob_sI ho18
              exact e_ret rfl rfl (by decide) (by decide) h
def V_X6_makeUpAll (K : Rs → Mm → Prop) (M : Mm) (a0 : Nat) (a1 : Nat) : Prop := (ob M a0 6 ∧ V_X6_firstMissed (kI (fun r3 M2 => ∃ y, V_X6_makeUpAll_8 K  y M2 a0 a1 r3 (0 : Int32)) (fun _ _ => False)) M a0 a1)
set_option maxRecDepth 100000 in
set_option maxHeartbeats 4000000 in
theorem x_X6_makeUpAll {G : Gx} {K : Rs → Mm → Prop} {M : Mm} {a0 : Nat} {a1 : Nat} (h : V_X6_makeUpAll K M a0 a1) : MC G mi_X6_makeUpAll [.ref a0, .ref a1] M K := by
  unfold V_X6_makeUpAll at h
  refine mc_of rfl (by decide +kernel) dc_X6_makeUpAll (Nat.le_of_ble_eq_true rfl) 3 (Nat.le_of_ble_eq_true rfl) ?_
  show E G mi_X6_makeUpAll K M 0 0 0 [some (.ref a0), some (.ref a1), none, none, none] []
  refine e_blk 2 0 _ _ (pc' := 2) (L' := [some (.ref a0), some (.ref a1), none, none, none]) (st' := [.ref a1, .ref a0]) rfl ?_
  obtain ⟨ho1, h⟩ := h
  refine e_callV (As := [.ref a1]) (rest := []) (ci := 6) rfl (x_X6_firstMissed h) ho1 rfl rfl rfl (aw (i := 1027) (by decide +kernel) rfl) wn_X6_firstMissed wv_X6_firstMissed wi_X6_firstMissed wc_X6_firstMissed (show cok mi_X6_makeUpAll mi_X6_firstMissed 0 0 1 = true by decide +kernel) (Nat.le_of_ble_eq_true rfl) (fun v9 M2 hq => ?_) (fun X M9 hq => False.elim hq)
  obtain ⟨r3, rfl, h⟩ := kI_l hq
  refine e_blk 3 5 _ _ (pc' := 8) (L' := [some (.ref a0), some (.ref a1), some (.int r3), some (.int (0 : Int32)), none]) (st' := []) rfl ?_
  refine e_drp [true, true, true, true, false] (L' := [some (.ref a0), some (.ref a1), some (.int r3), some (.int (0 : Int32)), none]) rfl ?_
  obtain ⟨y, h⟩ := h
  exact x_X6_makeUpAll_8  y _ _ _ _ _ h
