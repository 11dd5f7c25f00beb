def is_X2_clearRuns : List (Instr × Nat) := [(.aload_n 0, 1), (.iconst 0, 1), (.putfield 64, 3), (.aload_n 0, 1), (.iconst 0, 1), (.putfield 67, 3), (.return_, 1)]
abbrev mi_X2_clearRuns : MI := (yX2_clearRuns, cX2_clearRuns, 1, none, [], { frames := 0, cells := 0, slots := 0, locals := 0 }, is_X2_clearRuns)
theorem dc_X2_clearRuns : dcb cX2_clearRuns is_X2_clearRuns 0 = true := by decide +kernel
theorem wc_X2_clearRuns : cdw mi_X2_clearRuns ∈ ALLW := aw (i := 738) (by decide +kernel) rfl
theorem wi_X2_clearRuns : Cond.initialized (miY mi_X2_clearRuns).cls ∈ ALLW := aw (i := 63) (by decide +kernel) rfl
theorem wn_X2_clearRuns : Cond.instanceMethod (miY mi_X2_clearRuns) ∈ ALLW := aw (i := 736) (by decide +kernel) rfl
theorem wv_X2_clearRuns : Cond.selects (miY mi_X2_clearRuns).cls (miY mi_X2_clearRuns) (miY mi_X2_clearRuns) ∈ ALLW := aw (i := 737) (by decide +kernel) rfl
def is_X2_begin : List (Instr × Nat) := [(.aload_n 0, 1), (.iconst 1, 1), (.putfield 36, 3), (.aload_n 0, 1), (.iload_n 1, 1), (.putfield 40, 3), (.aload_n 0, 1), (.aload_n 2, 1), (.putfield 28, 3), (.aload_n 0, 1), (.iconst 0, 1), (.putfield 43, 3), (.aload_n 0, 1), (.iconst 0, 1), (.putfield 46, 3), (.aload_n 0, 1), (.invokevirtual 49, 3), (.return_, 1)]
abbrev mi_X2_begin : MI := (yX2_begin, cX2_begin, 3, none, [], { frames := 1, cells := 0, slots := 0, locals := 20 }, is_X2_begin)
theorem dc_X2_begin : dcb cX2_begin is_X2_begin 0 = true := by decide +kernel
theorem wc_X2_begin : cdw mi_X2_begin ∈ ALLW := aw (i := 734) (by decide +kernel) rfl
theorem wi_X2_begin : Cond.initialized (miY mi_X2_begin).cls ∈ ALLW := aw (i := 63) (by decide +kernel) rfl
theorem wn_X2_begin : Cond.instanceMethod (miY mi_X2_begin) ∈ ALLW := aw (i := 732) (by decide +kernel) rfl
theorem wv_X2_begin : Cond.selects (miY mi_X2_begin).cls (miY mi_X2_begin) (miY mi_X2_begin) ∈ ALLW := aw (i := 733) (by decide +kernel) rfl
def is_X2_settle : List (Instr × Nat) := [(.aload_n 0, 1), (.iload_n 1, 1), (.putfield 52, 3), (.aload_n 0, 1), (.iload_n 2, 1), (.putfield 55, 3), (.aload_n 0, 1), (.iload_n 3, 1), (.putfield 58, 3), (.aload_n 0, 1), (.iload 4, 2), (.putfield 61, 3), (.return_, 1)]
abbrev mi_X2_settle : MI := (yX2_settle, cX2_settle, 5, none, [], { frames := 0, cells := 0, slots := 0, locals := 0 }, is_X2_settle)
theorem dc_X2_settle : dcb cX2_settle is_X2_settle 0 = true := by decide +kernel
theorem wc_X2_settle : cdw mi_X2_settle ∈ ALLW := aw (i := 742) (by decide +kernel) rfl
theorem wi_X2_settle : Cond.initialized (miY mi_X2_settle).cls ∈ ALLW := aw (i := 63) (by decide +kernel) rfl
theorem wn_X2_settle : Cond.instanceMethod (miY mi_X2_settle) ∈ ALLW := aw (i := 740) (by decide +kernel) rfl
theorem wv_X2_settle : Cond.selects (miY mi_X2_settle).cls (miY mi_X2_settle) (miY mi_X2_settle) ∈ ALLW := aw (i := 741) (by decide +kernel) rfl
def is_X2_mayBegin : List (Instr × Nat) := [(.aload_n 0, 1), (.getfield 64, 3), (.ifCond .eq 19, 3), (.aload_n 0, 1), (.getfield 58, 3), (.ifCond .ne 16, 3), (.aload_n 0, 1), (.getfield 64, 3), (.bipush 8, 2), (.if_icmp .ge 7, 3), (.iconst 1, 1), (.goto 4, 3), (.iconst 0, 1), (.ireturn, 1)]
abbrev mi_X2_mayBegin : MI := (yX2_mayBegin, cX2_mayBegin, 1, (some .boolean), [], { frames := 0, cells := 0, slots := 0, locals := 0 }, is_X2_mayBegin)
theorem dc_X2_mayBegin : dcb cX2_mayBegin is_X2_mayBegin 0 = true := by decide +kernel
theorem wc_X2_mayBegin : cdw mi_X2_mayBegin ∈ ALLW := aw (i := 1003) (by decide +kernel) rfl
theorem wi_X2_mayBegin : Cond.initialized (miY mi_X2_mayBegin).cls ∈ ALLW := aw (i := 63) (by decide +kernel) rfl
theorem wn_X2_mayBegin : Cond.instanceMethod (miY mi_X2_mayBegin) ∈ ALLW := aw (i := 1001) (by decide +kernel) rfl
theorem wv_X2_mayBegin : Cond.selects (miY mi_X2_mayBegin).cls (miY mi_X2_mayBegin) (miY mi_X2_mayBegin) ∈ ALLW := aw (i := 1002) (by decide +kernel) rfl
def is_X2_mayWait : List (Instr × Nat) := [(.aload_n 0, 1), (.getfield 58, 3), (.iconst 2, 1), (.if_icmp .ne 14, 3), (.aload_n 0, 1), (.getfield 67, 3), (.ifCond .ne 7, 3), (.iconst 1, 1), (.goto 4, 3), (.iconst 0, 1), (.ireturn, 1)]
abbrev mi_X2_mayWait : MI := (yX2_mayWait, cX2_mayWait, 1, (some .boolean), [], { frames := 0, cells := 0, slots := 0, locals := 0 }, is_X2_mayWait)
theorem dc_X2_mayWait : dcb cX2_mayWait is_X2_mayWait 0 = true := by decide +kernel
theorem wc_X2_mayWait : cdw mi_X2_mayWait ∈ ALLW := aw (i := 1007) (by decide +kernel) rfl
theorem wi_X2_mayWait : Cond.initialized (miY mi_X2_mayWait).cls ∈ ALLW := aw (i := 63) (by decide +kernel) rfl
theorem wn_X2_mayWait : Cond.instanceMethod (miY mi_X2_mayWait) ∈ ALLW := aw (i := 1005) (by decide +kernel) rfl
theorem wv_X2_mayWait : Cond.selects (miY mi_X2_mayWait).cls (miY mi_X2_mayWait) (miY mi_X2_mayWait) ∈ ALLW := aw (i := 1006) (by decide +kernel) rfl
def is_X2_addRun : List (Instr × Nat) := [(.aload_n 0, 1), (.getfield 64, 3), (.bipush 8, 2), (.if_icmp .ge 43, 3), (.aload_n 0, 1), (.getfield 18, 3), (.aload_n 0, 1), (.getfield 64, 3), (.iload_n 1, 1), (.iastore, 1), (.aload_n 0, 1), (.getfield 22, 3), (.aload_n 0, 1), (.getfield 64, 3), (.iload_n 2, 1), (.iastore, 1), (.aload_n 0, 1), (.dup, 1), (.getfield 64, 3), (.iconst 1, 1), (.iadd, 1), (.putfield 64, 3), (.aload_n 0, 1), (.dup, 1), (.getfield 43, 3), (.iconst 1, 1), (.iadd, 1), (.putfield 43, 3), (.return_, 1)]
abbrev mi_X2_addRun : MI := (yX2_addRun, cX2_addRun, 3, none, [], { frames := 0, cells := 0, slots := 0, locals := 0 }, is_X2_addRun)
theorem dc_X2_addRun : dcb cX2_addRun is_X2_addRun 0 = true := by decide +kernel
theorem wc_X2_addRun : cdw mi_X2_addRun ∈ ALLW := aw (i := 995) (by decide +kernel) rfl
theorem wi_X2_addRun : Cond.initialized (miY mi_X2_addRun).cls ∈ ALLW := aw (i := 63) (by decide +kernel) rfl
theorem wn_X2_addRun : Cond.instanceMethod (miY mi_X2_addRun) ∈ ALLW := aw (i := 993) (by decide +kernel) rfl
theorem wv_X2_addRun : Cond.selects (miY mi_X2_addRun).cls (miY mi_X2_addRun) (miY mi_X2_addRun) ∈ ALLW := aw (i := 994) (by decide +kernel) rfl
def is_X2_removeFirstRun : List (Instr × Nat) := [(.iconst 1, 1), (.istore_n 1, 1), (.iload_n 1, 1), (.aload_n 0, 1), (.getfield 64, 3), (.if_icmp .ge 43, 3), (.iload_n 1, 1), (.bipush 8, 2), (.if_icmp .ge 37, 3), (.aload_n 0, 1), (.getfield 18, 3), (.iload_n 1, 1), (.iconst 1, 1), (.isub, 1), (.aload_n 0, 1), (.getfield 18, 3), (.iload_n 1, 1), (.iaload, 1), (.iastore, 1), (.aload_n 0, 1), (.getfield 22, 3), (.iload_n 1, 1), (.iconst 1, 1), (.isub, 1), (.aload_n 0, 1), (.getfield 22, 3), (.iload_n 1, 1), (.iaload, 1), (.iastore, 1), (.iinc 1 1, 3), (.goto (-45), 3), (.aload_n 0, 1), (.aload_n 0, 1), (.getfield 64, 3), (.iconst 1, 1), (.isub, 1), (.iconst 0, 1), (.invokestatic 70, 3), (.putfield 64, 3), (.return_, 1)]
abbrev mi_X2_removeFirstRun : MI := (yX2_removeFirstRun, cX2_removeFirstRun, 2, none, [], { frames := 1, cells := 0, slots := 0, locals := 21 }, is_X2_removeFirstRun)
theorem dc_X2_removeFirstRun : dcb cX2_removeFirstRun is_X2_removeFirstRun 0 = true := by decide +kernel
theorem wc_X2_removeFirstRun : cdw mi_X2_removeFirstRun ∈ ALLW := aw (i := 987) (by decide +kernel) rfl
theorem wi_X2_removeFirstRun : Cond.initialized (miY mi_X2_removeFirstRun).cls ∈ ALLW := aw (i := 63) (by decide +kernel) rfl
theorem wn_X2_removeFirstRun : Cond.instanceMethod (miY mi_X2_removeFirstRun) ∈ ALLW := aw (i := 985) (by decide +kernel) rfl
theorem wv_X2_removeFirstRun : Cond.selects (miY mi_X2_removeFirstRun).cls (miY mi_X2_removeFirstRun) (miY mi_X2_removeFirstRun) ∈ ALLW := aw (i := 986) (by decide +kernel) rfl
def is_X2_firstEnd : List (Instr × Nat) := [(.aload_n 0, 1), (.getfield 18, 3), (.iconst 0, 1), (.iaload, 1), (.aload_n 0, 1), (.getfield 61, 3), (.iadd, 1), (.ireturn, 1)]
abbrev mi_X2_firstEnd : MI := (yX2_firstEnd, cX2_firstEnd, 1, (some .int), [], { frames := 0, cells := 0, slots := 0, locals := 0 }, is_X2_firstEnd)
theorem dc_X2_firstEnd : dcb cX2_firstEnd is_X2_firstEnd 0 = true := by decide +kernel
theorem wc_X2_firstEnd : cdw mi_X2_firstEnd ∈ ALLW := aw (i := 979) (by decide +kernel) rfl
theorem wi_X2_firstEnd : Cond.initialized (miY mi_X2_firstEnd).cls ∈ ALLW := aw (i := 63) (by decide +kernel) rfl
theorem wn_X2_firstEnd : Cond.instanceMethod (miY mi_X2_firstEnd) ∈ ALLW := aw (i := 977) (by decide +kernel) rfl
theorem wv_X2_firstEnd : Cond.selects (miY mi_X2_firstEnd).cls (miY mi_X2_firstEnd) (miY mi_X2_firstEnd) ∈ ALLW := aw (i := 978) (by decide +kernel) rfl
def is_X2_leastMatch : List (Instr × Nat) := [(.iconst 0, 1), (.istore_n 3, 1), (.iload_n 3, 1), (.aload_n 0, 1), (.getfield 28, 3), (.getfield 76, 3), (.if_icmp .gt 93, 3), (.aload_n 0, 1), (.getfield 28, 3), (.getfield 79, 3), (.iload_n 3, 1), (.iaload, 1), (.istore 4, 2), (.iload_n 1, 1), (.aload_n 0, 1), (.getfield 28, 3), (.getfield 82, 3), (.iload_n 3, 1), (.iaload, 1), (.invokestatic 70, 3), (.istore 5, 2), (.iload_n 2, 1), (.aload_n 0, 1), (.getfield 28, 3), (.iload_n 3, 1), (.invokevirtual 85, 3), (.invokestatic 89, 3), (.istore 6, 2), (.iload 5, 2), (.iload 6, 2), (.if_icmp .gt 23, 3), (.aload_n 0, 1), (.getfield 12, 3), (.iload 5, 2), (.iload 4, 2), (.iadd, 1), (.iload 6, 2), (.iload 4, 2), (.iadd, 1), (.invokevirtual 92, 3), (.goto 5, 3), (.ldc 95, 2), (.istore 7, 2), (.iload 7, 2), (.ldc 95, 2), (.if_icmp .eq 9, 3), (.iload 7, 2), (.iload 4, 2), (.isub, 1), (.ireturn, 1), (.iinc 3 1, 3), (.goto (-98), 3), (.iconst (-1), 1), (.ireturn, 1)]
abbrev mi_X2_leastMatch : MI := (yX2_leastMatch, cX2_leastMatch, 8, (some .int), [], { frames := 5, cells := 0, slots := 0, locals := 121 }, is_X2_leastMatch)
theorem dc_X2_leastMatch : dcb cX2_leastMatch is_X2_leastMatch 0 = true := by decide +kernel
theorem wc_X2_leastMatch : cdw mi_X2_leastMatch ∈ ALLW := aw (i := 824) (by decide +kernel) rfl
theorem wi_X2_leastMatch : Cond.initialized (miY mi_X2_leastMatch).cls ∈ ALLW := aw (i := 63) (by decide +kernel) rfl
theorem wn_X2_leastMatch : Cond.instanceMethod (miY mi_X2_leastMatch) ∈ ALLW := aw (i := 822) (by decide +kernel) rfl
theorem wv_X2_leastMatch : Cond.selects (miY mi_X2_leastMatch).cls (miY mi_X2_leastMatch) (miY mi_X2_leastMatch) ∈ ALLW := aw (i := 823) (by decide +kernel) rfl
def is_X2_greatestMatch : List (Instr × Nat) := [(.aload_n 0, 1), (.getfield 28, 3), (.getfield 76, 3), (.istore_n 3, 1), (.iload_n 3, 1), (.ifCond .lt 93, 3), (.aload_n 0, 1), (.getfield 28, 3), (.getfield 79, 3), (.iload_n 3, 1), (.iaload, 1), (.istore 4, 2), (.iload_n 1, 1), (.aload_n 0, 1), (.getfield 28, 3), (.getfield 82, 3), (.iload_n 3, 1), (.iaload, 1), (.invokestatic 70, 3), (.istore 5, 2), (.iload_n 2, 1), (.aload_n 0, 1), (.getfield 28, 3), (.iload_n 3, 1), (.invokevirtual 85, 3), (.invokestatic 89, 3), (.istore 6, 2), (.iload 5, 2), (.iload 6, 2), (.if_icmp .gt 23, 3), (.aload_n 0, 1), (.getfield 12, 3), (.iload 5, 2), (.iload 4, 2), (.iadd, 1), (.iload 6, 2), (.iload 4, 2), (.iadd, 1), (.invokevirtual 96, 3), (.goto 5, 3), (.ldc 95, 2), (.istore 7, 2), (.iload 7, 2), (.ldc 95, 2), (.if_icmp .eq 9, 3), (.iload 7, 2), (.iload 4, 2), (.isub, 1), (.ireturn, 1), (.iinc 3 (-1), 3), (.goto (-91), 3), (.iconst (-1), 1), (.ireturn, 1)]
abbrev mi_X2_greatestMatch : MI := (yX2_greatestMatch, cX2_greatestMatch, 8, (some .int), [], { frames := 5, cells := 0, slots := 0, locals := 121 }, is_X2_greatestMatch)
theorem dc_X2_greatestMatch : dcb cX2_greatestMatch is_X2_greatestMatch 0 = true := by decide +kernel
theorem wc_X2_greatestMatch : cdw mi_X2_greatestMatch ∈ ALLW := aw (i := 897) (by decide +kernel) rfl
theorem wi_X2_greatestMatch : Cond.initialized (miY mi_X2_greatestMatch).cls ∈ ALLW := aw (i := 63) (by decide +kernel) rfl
theorem wn_X2_greatestMatch : Cond.instanceMethod (miY mi_X2_greatestMatch) ∈ ALLW := aw (i := 895) (by decide +kernel) rfl
theorem wv_X2_greatestMatch : Cond.selects (miY mi_X2_greatestMatch).cls (miY mi_X2_greatestMatch) (miY mi_X2_greatestMatch) ∈ ALLW := aw (i := 896) (by decide +kernel) rfl
def is_X2_matchesIn : List (Instr × Nat) := [(.iconst 0, 1), (.istore_n 3, 1), (.iconst 0, 1), (.istore 4, 2), (.iload 4, 2), (.aload_n 0, 1), (.getfield 28, 3), (.getfield 76, 3), (.if_icmp .gt 83, 3), (.aload_n 0, 1), (.getfield 28, 3), (.getfield 79, 3), (.iload 4, 2), (.iaload, 1), (.istore 5, 2), (.iload_n 1, 1), (.aload_n 0, 1), (.getfield 28, 3), (.getfield 82, 3), (.iload 4, 2), (.iaload, 1), (.invokestatic 70, 3), (.istore 6, 2), (.iload_n 2, 1), (.aload_n 0, 1), (.getfield 28, 3), (.iload 4, 2), (.invokevirtual 85, 3), (.invokestatic 89, 3), (.istore 7, 2), (.iload_n 3, 1), (.iload 6, 2), (.iload 7, 2), (.if_icmp .gt 23, 3), (.aload_n 0, 1), (.getfield 12, 3), (.iload 6, 2), (.iload 5, 2), (.iadd, 1), (.iload 7, 2), (.iload 5, 2), (.iadd, 1), (.invokevirtual 99, 3), (.goto 4, 3), (.iconst 0, 1), (.iadd, 1), (.istore_n 3, 1), (.iinc 4 1, 3), (.goto (-89), 3), (.iload_n 3, 1), (.ireturn, 1)]
abbrev mi_X2_matchesIn : MI := (yX2_matchesIn, cX2_matchesIn, 8, (some .int), [], { frames := 5, cells := 0, slots := 0, locals := 121 }, is_X2_matchesIn)
theorem dc_X2_matchesIn : dcb cX2_matchesIn is_X2_matchesIn 0 = true := by decide +kernel
theorem wc_X2_matchesIn : cdw mi_X2_matchesIn ∈ ALLW := aw (i := 929) (by decide +kernel) rfl
theorem wi_X2_matchesIn : Cond.initialized (miY mi_X2_matchesIn).cls ∈ ALLW := aw (i := 63) (by decide +kernel) rfl
theorem wn_X2_matchesIn : Cond.instanceMethod (miY mi_X2_matchesIn) ∈ ALLW := aw (i := 927) (by decide +kernel) rfl
theorem wv_X2_matchesIn : Cond.selects (miY mi_X2_matchesIn).cls (miY mi_X2_matchesIn) (miY mi_X2_matchesIn) ∈ ALLW := aw (i := 928) (by decide +kernel) rfl
def V_X2_clearRuns (K : Rs → Mm → Prop) (M : Mm) (a0 : Nat) : Prop := (ob M a0 2 ∧ ∀ M2, M2 = sI M a0 11 (0 : Int32) → ∀ M3, M3 = sI M2 a0 12 (0 : Int32) → K (.inl none) M3)
set_option maxRecDepth 100000 in
set_option maxHeartbeats 4000000 in
theorem x_X2_clearRuns {G : Gx} {K : Rs → Mm → Prop} {M : Mm} {a0 : Nat} (h : V_X2_clearRuns K M a0) : MC G mi_X2_clearRuns [.ref a0] M K := by
  unfold V_X2_clearRuns at h
  refine mc_of rfl (by decide +kernel) dc_X2_clearRuns (Nat.le_of_ble_eq_true rfl) 0 (Nat.le_of_ble_eq_true rfl) ?_
  show E G mi_X2_clearRuns K M 0 0 0 [some (.ref a0)] []
  refine e_blk 2 0 _ _ (pc' := 2) (L' := [some (.ref a0)]) (st' := [.int (0 : Int32), .ref a0]) rfl ?_
  obtain ⟨ho1, h⟩ := h
  refine e_putI 2 11 rfl rfl (by decide) (aw (i := 288) (by decide +kernel) rfl) rfl ho1 rfl ?_
  generalize hM2 : sI M a0 11 (0 : Int32) = M2
  replace h := h M2 hM2.symm
  replace ho1 : ob M2 a0 2 := hM2 ▸ ob_sI ho1
  refine e_blk 2 5 _ _ (pc' := 7) (L' := [some (.ref a0)]) (st' := [.int (0 : Int32), .ref a0]) rfl ?_
  refine e_putZ 2 12 rfl rfl (by decide) (aw (i := 290) (by decide +kernel) rfl) rfl ho1 rfl (by decide) ?_
  generalize hM3 : sI M2 a0 12 (0 : Int32) = M3
  replace h := h M3 hM3.symm
  replace ho1 : ob M3 a0 2 := hM3 ▸ ob_sI ho1
  exact e_ret rfl rfl (by decide) (by decide) h
def V_X2_begin (K : Rs → Mm → Prop) (M : Mm) (a0 : Nat) (a1 : Int32) (a2 : Nat) : Prop := (ob M a0 2 ∧ ∀ M2, M2 = sI M a0 4 (1 : Int32) → ∀ M3, M3 = sI M2 a0 6 a1 → ∀ M4, M4 = sP M3 a0 5 (some a2) → ∀ M5, M5 = sI M4 a0 14 (0 : Int32) → ∀ M6, M6 = sI M5 a0 15 (0 : Int32) → V_X2_clearRuns (kV (fun M7 => K (.inl none) M7) (fun _ _ => False)) M6 a0)
set_option maxRecDepth 100000 in
set_option maxHeartbeats 4000000 in
theorem x_X2_begin {G : Gx} {K : Rs → Mm → Prop} {M : Mm} {a0 : Nat} {a1 : Int32} {a2 : Nat} (h : V_X2_begin K M a0 a1 a2) : MC G mi_X2_begin [.ref a0, .int a1, .ref a2] M K := by
  unfold V_X2_begin at h
  refine mc_of rfl (by decide +kernel) dc_X2_begin (Nat.le_of_ble_eq_true rfl) 0 (Nat.le_of_ble_eq_true rfl) ?_
  show E G mi_X2_begin K M 0 0 0 [some (.ref a0), some (.int a1), some (.ref a2)] []
  refine e_blk 2 0 _ _ (pc' := 2) (L' := [some (.ref a0), some (.int a1), some (.ref a2)]) (st' := [.int (1 : Int32), .ref a0]) rfl ?_
  obtain ⟨ho1, h⟩ := h
  refine e_putZ 2 4 rfl rfl (by decide) (aw (i := 275) (by decide +kernel) rfl) rfl ho1 rfl (by decide) ?_
  generalize hM2 : sI M a0 4 (1 : Int32) = M2
  replace h := h M2 hM2.symm
  replace ho1 : ob M2 a0 2 := hM2 ▸ ob_sI ho1
  refine e_blk 2 5 _ _ (pc' := 7) (L' := [some (.ref a0), some (.int a1), some (.ref a2)]) (st' := [.int a1, .ref a0]) rfl ?_
  refine e_putI 2 6 rfl rfl (by decide) (aw (i := 278) (by decide +kernel) rfl) rfl ho1 rfl ?_
  generalize hM3 : sI M2 a0 6 a1 = M3
  replace h := h M3 hM3.symm
  replace ho1 : ob M3 a0 2 := hM3 ▸ ob_sI ho1
  refine e_blk 2 10 _ _ (pc' := 12) (L' := [some (.ref a0), some (.int a1), some (.ref a2)]) (st' := [.ref a2, .ref a0]) rfl ?_
  refine e_putR 2 5 rfl rfl (by decide) (aw (i := 277) (by decide +kernel) rfl) rfl ho1 rfl ?_
  generalize hM4 : sP M3 a0 5 (some a2) = M4
  replace h := h M4 hM4.symm
  replace ho1 : ob M4 a0 2 := hM4 ▸ ob_sP ho1
  refine e_blk 2 15 _ _ (pc' := 17) (L' := [some (.ref a0), some (.int a1), some (.ref a2)]) (st' := [.int (0 : Int32), .ref a0]) rfl ?_
  refine e_putI 2 14 rfl rfl (by decide) (aw (i := 293) (by decide +kernel) rfl) rfl ho1 rfl ?_
  generalize hM5 : sI M4 a0 14 (0 : Int32) = M5
  replace h := h M5 hM5.symm
  replace ho1 : ob M5 a0 2 := hM5 ▸ ob_sI ho1
  refine e_blk 2 20 _ _ (pc' := 22) (L' := [some (.ref a0), some (.int a1), some (.ref a2)]) (st' := [.int (0 : Int32), .ref a0]) rfl ?_
  refine e_putI 2 15 rfl rfl (by decide) (aw (i := 295) (by decide +kernel) rfl) rfl ho1 rfl ?_
  generalize hM6 : sI M5 a0 15 (0 : Int32) = M6
  replace h := h M6 hM6.symm
  replace ho1 : ob M6 a0 2 := hM6 ▸ ob_sI ho1
  refine e_blk 1 25 _ _ (pc' := 26) (L' := [some (.ref a0), some (.int a1), some (.ref a2)]) (st' := [.ref a0]) rfl ?_
  refine e_callV (As := []) (rest := []) (ci := 2) rfl (x_X2_clearRuns h) ho1 rfl rfl rfl (aw (i := 735) (by decide +kernel) rfl) wn_X2_clearRuns wv_X2_clearRuns wi_X2_clearRuns wc_X2_clearRuns (show cok mi_X2_begin mi_X2_clearRuns 0 0 0 = true by decide +kernel) (Nat.le_of_ble_eq_true rfl) (fun v9 M7 hq => ?_) (fun X M9 hq => False.elim hq)
  obtain ⟨rfl, h⟩ := kV_l hq
  exact e_ret rfl rfl (by decide) (by decide) h
def V_X2_settle (K : Rs → Mm → Prop) (M : Mm) (a0 : Nat) (a1 : Int32) (a2 : Int32) (a3 : Int32) (a4 : Int32) : Prop := (ob M a0 2 ∧ ∀ M2, M2 = sI M a0 7 a1 → ∀ M3, M3 = sI M2 a0 8 a2 → ∀ M4, M4 = sI M3 a0 9 a3 → ∀ M5, M5 = sI M4 a0 10 a4 → K (.inl none) M5)
set_option maxRecDepth 100000 in
set_option maxHeartbeats 4000000 in
theorem x_X2_settle {G : Gx} {K : Rs → Mm → Prop} {M : Mm} {a0 : Nat} {a1 : Int32} {a2 : Int32} {a3 : Int32} {a4 : Int32} (h : V_X2_settle K M a0 a1 a2 a3 a4) : MC G mi_X2_settle [.ref a0, .int a1, .int a2, .int a3, .int a4] M K := by
  unfold V_X2_settle at h
  refine mc_of rfl (by decide +kernel) dc_X2_settle (Nat.le_of_ble_eq_true rfl) 0 (Nat.le_of_ble_eq_true rfl) ?_
  show E G mi_X2_settle K M 0 0 0 [some (.ref a0), some (.int a1), some (.int a2), some (.int a3), some (.int a4)] []
  refine e_blk 2 0 _ _ (pc' := 2) (L' := [some (.ref a0), some (.int a1), some (.int a2), some (.int a3), some (.int a4)]) (st' := [.int a1, .ref a0]) rfl ?_
  obtain ⟨ho1, h⟩ := h
  refine e_putI 2 7 rfl rfl (by decide) (aw (i := 280) (by decide +kernel) rfl) rfl ho1 rfl ?_
  generalize hM2 : sI M a0 7 a1 = M2
  replace h := h M2 hM2.symm
  replace ho1 : ob M2 a0 2 := hM2 ▸ ob_sI ho1
  refine e_blk 2 5 _ _ (pc' := 7) (L' := [some (.ref a0), some (.int a1), some (.int a2), some (.int a3), some (.int a4)]) (st' := [.int a2, .ref a0]) rfl ?_
  refine e_putI 2 8 rfl rfl (by decide) (aw (i := 282) (by decide +kernel) rfl) rfl ho1 rfl ?_
  generalize hM3 : sI M2 a0 8 a2 = M3
  replace h := h M3 hM3.symm
  replace ho1 : ob M3 a0 2 := hM3 ▸ ob_sI ho1
  refine e_blk 2 10 _ _ (pc' := 12) (L' := [some (.ref a0), some (.int a1), some (.int a2), some (.int a3), some (.int a4)]) (st' := [.int a3, .ref a0]) rfl ?_
  refine e_putI 2 9 rfl rfl (by decide) (aw (i := 284) (by decide +kernel) rfl) rfl ho1 rfl ?_
  generalize hM4 : sI M3 a0 9 a3 = M4
  replace h := h M4 hM4.symm
  replace ho1 : ob M4 a0 2 := hM4 ▸ ob_sI ho1
  refine e_blk 2 15 _ _ (pc' := 18) (L' := [some (.ref a0), some (.int a1), some (.int a2), some (.int a3), some (.int a4)]) (st' := [.int a4, .ref a0]) rfl ?_
  refine e_putI 2 10 rfl rfl (by decide) (aw (i := 286) (by decide +kernel) rfl) rfl ho1 rfl ?_
  generalize hM5 : sI M4 a0 10 a4 = M5
  replace h := h M5 hM5.symm
  replace ho1 : ob M5 a0 2 := hM5 ▸ ob_sI ho1
  exact e_ret rfl rfl (by decide) (by decide) h
def V_X2_mayBegin_28 (K : Rs → Mm → Prop)  (M : Mm) (s0 : Int32) : Prop := ((s0 = 0 ∨ s0 = 1) ∧ K (.inl (some (.int s0))) M)
set_option maxRecDepth 100000 in
set_option maxHeartbeats 4000000 in
theorem x_X2_mayBegin_28 {G : Gx} {K : Rs → Mm → Prop}  {M : Mm} {s0 : Int32} (h : V_X2_mayBegin_28 K  M s0) : E G mi_X2_mayBegin K M 0 0 28 [none] [.int s0] := by
  unfold V_X2_mayBegin_28 at h
  exact e_retz rfl rfl h.1 (by decide) (by decide) h.2
def V_X2_mayBegin_27 (K : Rs → Mm → Prop)  (M : Mm)  : Prop := V_X2_mayBegin_28 K  M (0 : Int32)
set_option maxRecDepth 100000 in
set_option maxHeartbeats 4000000 in
theorem x_X2_mayBegin_27 {G : Gx} {K : Rs → Mm → Prop}  {M : Mm}  (h : V_X2_mayBegin_27 K  M ) : E G mi_X2_mayBegin K M 0 0 27 [none] [] := by
  unfold V_X2_mayBegin_27 at h
  refine e_blk 1 27 _ _ (pc' := 28) (L' := [none]) (st' := [.int (0 : Int32)]) rfl ?_
  refine e_drp [false] (L' := [none]) rfl ?_
  exact x_X2_mayBegin_28  h
def V_X2_mayBegin_23 (K : Rs → Mm → Prop)  (M : Mm)  : Prop := V_X2_mayBegin_28 K  M (1 : Int32)
set_option maxRecDepth 100000 in
set_option maxHeartbeats 4000000 in
theorem x_X2_mayBegin_23 {G : Gx} {K : Rs → Mm → Prop}  {M : Mm}  (h : V_X2_mayBegin_23 K  M ) : E G mi_X2_mayBegin K M 0 0 23 [none] [] := by
  unfold V_X2_mayBegin_23 at h
  refine e_blk 2 23 _ _ (pc' := 28) (L' := [none]) (st' := [.int (1 : Int32)]) rfl ?_
  refine e_drp [false] (L' := [none]) rfl ?_
  exact x_X2_mayBegin_28  h
def V_X2_mayBegin (K : Rs → Mm → Prop) (M : Mm) (a0 : Nat) : Prop := (ob M a0 2 ∧ (((mI M a0 11) = 0 → V_X2_mayBegin_23 K  M ) ∧ (¬ (mI M a0 11) = 0 → ((¬ (mI M a0 9) = 0 → V_X2_mayBegin_27 K  M ) ∧ ((mI M a0 9) = 0 → (((8 : Int32) ≤ (mI M a0 11) → V_X2_mayBegin_27 K  M ) ∧ (¬ (8 : Int32) ≤ (mI M a0 11) → V_X2_mayBegin_23 K  M )))))))
set_option maxRecDepth 100000 in
set_option maxHeartbeats 4000000 in
theorem x_X2_mayBegin {G : Gx} {K : Rs → Mm → Prop} {M : Mm} {a0 : Nat} (h : V_X2_mayBegin K M a0) : MC G mi_X2_mayBegin [.ref a0] M K := by
  unfold V_X2_mayBegin at h
  refine mc_of rfl (by decide +kernel) dc_X2_mayBegin (Nat.le_of_ble_eq_true rfl) 0 (Nat.le_of_ble_eq_true rfl) ?_
  show E G mi_X2_mayBegin K M 0 0 0 [some (.ref a0)] []
  refine e_blk 1 0 _ _ (pc' := 1) (L' := [some (.ref a0)]) (st' := [.ref a0]) rfl ?_
  obtain ⟨ho1, h⟩ := h
  refine e_getI 2 11 rfl rfl (by decide) (aw (i := 288) (by decide +kernel) rfl) ho1 rfl ?_
  refine e_if_eq 23 rfl rfl (fun hc => ?_) (fun hc => ?_)
  · replace h := h.1 hc
    refine e_drp [false] (L' := [none]) rfl ?_
    exact x_X2_mayBegin_23  h
  · replace h := h.2 hc
    refine e_blk 1 7 _ _ (pc' := 8) (L' := [some (.ref a0)]) (st' := [.ref a0]) rfl ?_
    refine e_getI 2 9 rfl rfl (by decide) (aw (i := 284) (by decide +kernel) rfl) ho1 rfl ?_
    refine e_if_ne 27 rfl rfl (fun hc => ?_) (fun hc => ?_)
    · replace h := h.1 hc
      refine e_drp [false] (L' := [none]) rfl ?_
      exact x_X2_mayBegin_27  h
    · replace h := h.2 hc
      refine e_blk 1 14 _ _ (pc' := 15) (L' := [some (.ref a0)]) (st' := [.ref a0]) rfl ?_
      refine e_getI 2 11 rfl rfl (by decide) (aw (i := 288) (by decide +kernel) rfl) ho1 rfl ?_
      refine e_blk 1 18 _ _ (pc' := 20) (L' := [some (.ref a0)]) (st' := [.int (8 : Int32), .int (mI M a0 11)]) rfl ?_
      refine e_icmp_ge 27 rfl rfl (fun hc => ?_) (fun hc => ?_)
      · replace h := h.1 hc
        refine e_drp [false] (L' := [none]) rfl ?_
        exact x_X2_mayBegin_27  h
      · replace h := h.2 hc
        refine e_drp [false] (L' := [none]) rfl ?_
        exact x_X2_mayBegin_23  h
def V_X2_mayWait_20 (K : Rs → Mm → Prop)  (M : Mm) (s0 : Int32) : Prop := ((s0 = 0 ∨ s0 = 1) ∧ K (.inl (some (.int s0))) M)
set_option maxRecDepth 100000 in
set_option maxHeartbeats 4000000 in
theorem x_X2_mayWait_20 {G : Gx} {K : Rs → Mm → Prop}  {M : Mm} {s0 : Int32} (h : V_X2_mayWait_20 K  M s0) : E G mi_X2_mayWait K M 0 0 20 [none] [.int s0] := by
  unfold V_X2_mayWait_20 at h
  exact e_retz rfl rfl h.1 (by decide) (by decide) h.2
def V_X2_mayWait_19 (K : Rs → Mm → Prop)  (M : Mm)  : Prop := V_X2_mayWait_20 K  M (0 : Int32)
set_option maxRecDepth 100000 in
set_option maxHeartbeats 4000000 in
theorem x_X2_mayWait_19 {G : Gx} {K : Rs → Mm → Prop}  {M : Mm}  (h : V_X2_mayWait_19 K  M ) : E G mi_X2_mayWait K M 0 0 19 [none] [] := by
  unfold V_X2_mayWait_19 at h
  refine e_blk 1 19 _ _ (pc' := 20) (L' := [none]) (st' := [.int (0 : Int32)]) rfl ?_
  refine e_drp [false] (L' := [none]) rfl ?_
  exact x_X2_mayWait_20  h
def V_X2_mayWait (K : Rs → Mm → Prop) (M : Mm) (a0 : Nat) : Prop := (ob M a0 2 ∧ ((¬ (mI M a0 9) = (2 : Int32) → V_X2_mayWait_19 K  M ) ∧ ((mI M a0 9) = (2 : Int32) → ((¬ (mI M a0 12) = 0 → V_X2_mayWait_19 K  M ) ∧ ((mI M a0 12) = 0 → V_X2_mayWait_20 K  M (1 : Int32))))))
set_option maxRecDepth 100000 in
set_option maxHeartbeats 4000000 in
theorem x_X2_mayWait {G : Gx} {K : Rs → Mm → Prop} {M : Mm} {a0 : Nat} (h : V_X2_mayWait K M a0) : MC G mi_X2_mayWait [.ref a0] M K := by
  unfold V_X2_mayWait at h
  refine mc_of rfl (by decide +kernel) dc_X2_mayWait (Nat.le_of_ble_eq_true rfl) 0 (Nat.le_of_ble_eq_true rfl) ?_
  show E G mi_X2_mayWait K M 0 0 0 [some (.ref a0)] []
  refine e_blk 1 0 _ _ (pc' := 1) (L' := [some (.ref a0)]) (st' := [.ref a0]) rfl ?_
  obtain ⟨ho1, h⟩ := h
  refine e_getI 2 9 rfl rfl (by decide) (aw (i := 284) (by decide +kernel) rfl) ho1 rfl ?_
  refine e_blk 1 4 _ _ (pc' := 5) (L' := [some (.ref a0)]) (st' := [.int (2 : Int32), .int (mI M a0 9)]) rfl ?_
  refine e_icmp_ne 19 rfl rfl (fun hc => ?_) (fun hc => ?_)
  · replace h := h.1 hc
    refine e_drp [false] (L' := [none]) rfl ?_
    exact x_X2_mayWait_19  h
  · replace h := h.2 hc
    refine e_blk 1 8 _ _ (pc' := 9) (L' := [some (.ref a0)]) (st' := [.ref a0]) rfl ?_
    refine e_getI 2 12 rfl rfl (by decide) (aw (i := 290) (by decide +kernel) rfl) ho1 rfl ?_
    refine e_if_ne 19 rfl rfl (fun hc => ?_) (fun hc => ?_)
    · replace h := h.1 hc
      refine e_drp [false] (L' := [none]) rfl ?_
      exact x_X2_mayWait_19  h
    · replace h := h.2 hc
      refine e_blk 2 15 _ _ (pc' := 20) (L' := [some (.ref a0)]) (st' := [.int (1 : Int32)]) rfl ?_
      refine e_drp [false] (L' := [none]) rfl ?_
      exact x_X2_mayWait_20  h
def V_X2_addRun_49 (K : Rs → Mm → Prop)  (M : Mm)  : Prop := K (.inl none) M
set_option maxRecDepth 100000 in
set_option maxHeartbeats 4000000 in
theorem x_X2_addRun_49 {G : Gx} {K : Rs → Mm → Prop}  {M : Mm}  (h : V_X2_addRun_49 K  M ) : E G mi_X2_addRun K M 0 0 49 [none, none, none] [] := by
  unfold V_X2_addRun_49 at h
  exact e_ret rfl rfl (by decide) (by decide) h
def V_X2_addRun (K : Rs → Mm → Prop) (M : Mm) (a0 : Nat) (a1 : Int32) (a2 : Int32) : Prop := (ob M a0 2 ∧ (((8 : Int32) ≤ (mI M a0 11) → V_X2_addRun_49 K  M ) ∧ (¬ (8 : Int32) ≤ (mI M a0 11) → ∃ b2, mP M a0 2 = some b2 ∧ (ob M b2 9 ∧ (vp_in (mI M a0 11) (mN M b2) ∧ ∀ M5, M5 = sI M b2 ((mI M a0 11)).toNatClampNeg a1 → ∃ b6, mP M5 a0 3 = some b6 ∧ (ob M5 b6 9 ∧ (vp_in (mI M5 a0 11) (mN M5 b6) ∧ ∀ M9, M9 = sI M5 b6 ((mI M5 a0 11)).toNatClampNeg a2 → ∀ M10, M10 = sI M9 a0 11 ((mI M9 a0 11) + (1 : Int32)) → ∀ M11, M11 = sI M10 a0 14 ((mI M10 a0 14) + (1 : Int32)) → V_X2_addRun_49 K  M11 )))))))
set_option maxRecDepth 100000 in
set_option maxHeartbeats 4000000 in
theorem x_X2_addRun {G : Gx} {K : Rs → Mm → Prop} {M : Mm} {a0 : Nat} {a1 : Int32} {a2 : Int32} (h : V_X2_addRun K M a0 a1 a2) : MC G mi_X2_addRun [.ref a0, .int a1, .int a2] M K := by
  unfold V_X2_addRun at h
  refine mc_of rfl (by decide +kernel) dc_X2_addRun (Nat.le_of_ble_eq_true rfl) 0 (Nat.le_of_ble_eq_true rfl) ?_
  show E G mi_X2_addRun K M 0 0 0 [some (.ref a0), some (.int a1), some (.int a2)] []
  refine e_blk 1 0 _ _ (pc' := 1) (L' := [some (.ref a0), some (.int a1), some (.int a2)]) (st' := [.ref a0]) rfl ?_
  obtain ⟨ho1, h⟩ := h
  refine e_getI 2 11 rfl rfl (by decide) (aw (i := 288) (by decide +kernel) rfl) ho1 rfl ?_
  refine e_blk 1 4 _ _ (pc' := 6) (L' := [some (.ref a0), some (.int a1), some (.int a2)]) (st' := [.int (8 : Int32), .int (mI M a0 11)]) rfl ?_
  refine e_icmp_ge 49 rfl rfl (fun hc => ?_) (fun hc => ?_)
  · replace h := h.1 hc
    refine e_drp [false, false, false] (L' := [none, none, none]) rfl ?_
    exact x_X2_addRun_49  h
  · replace h := h.2 hc
    refine e_blk 1 9 _ _ (pc' := 10) (L' := [some (.ref a0), some (.int a1), some (.int a2)]) (st' := [.ref a0]) rfl ?_
    obtain ⟨b2, hbb2, h⟩ := h
    refine e_getR 2 2 rfl rfl (by decide) (aw (i := 272) (by decide +kernel) rfl) ho1 rfl hbb2 ?_
    refine e_blk 1 13 _ _ (pc' := 14) (L' := [some (.ref a0), some (.int a1), some (.int a2)]) (st' := [.ref a0, .ref b2]) rfl ?_
    refine e_getI 2 11 rfl rfl (by decide) (aw (i := 288) (by decide +kernel) rfl) ho1 rfl ?_
    refine e_blk 1 17 _ _ (pc' := 18) (L' := [some (.ref a0), some (.int a1), some (.int a2)]) (st' := [.int a1, .int (mI M a0 11), .ref b2]) rfl ?_
    obtain ⟨ho3, h⟩ := h
    obtain ⟨hi4, h⟩ := h
    refine e_iast rfl ho3 hi4 ?_
    generalize hM5 : sI M b2 ((mI M a0 11)).toNatClampNeg a1 = M5
    replace h := h M5 hM5.symm
    replace ho1 : ob M5 a0 2 := hM5 ▸ ob_sI ho1
    replace ho3 : ob M5 b2 9 := hM5 ▸ ob_sI ho3
    refine e_blk 1 19 _ _ (pc' := 20) (L' := [some (.ref a0), some (.int a1), some (.int a2)]) (st' := [.ref a0]) rfl ?_
    obtain ⟨b6, hbb6, h⟩ := h
    refine e_getR 2 3 rfl rfl (by decide) (aw (i := 273) (by decide +kernel) rfl) ho1 rfl hbb6 ?_
    refine e_blk 1 23 _ _ (pc' := 24) (L' := [some (.ref a0), some (.int a1), some (.int a2)]) (st' := [.ref a0, .ref b6]) rfl ?_
    refine e_getI 2 11 rfl rfl (by decide) (aw (i := 288) (by decide +kernel) rfl) ho1 rfl ?_
    refine e_blk 1 27 _ _ (pc' := 28) (L' := [some (.ref a0), some (.int a1), some (.int a2)]) (st' := [.int a2, .int (mI M5 a0 11), .ref b6]) rfl ?_
    obtain ⟨ho7, h⟩ := h
    obtain ⟨hi8, h⟩ := h
    refine e_iast rfl ho7 hi8 ?_
    generalize hM9 : sI M5 b6 ((mI M5 a0 11)).toNatClampNeg a2 = M9
    replace h := h M9 hM9.symm
    replace ho1 : ob M9 a0 2 := hM9 ▸ ob_sI ho1
    replace ho3 : ob M9 b2 9 := hM9 ▸ ob_sI ho3
    replace ho7 : ob M9 b6 9 := hM9 ▸ ob_sI ho7
    refine e_blk 2 29 _ _ (pc' := 31) (L' := [some (.ref a0), some (.int a1), some (.int a2)]) (st' := [.ref a0, .ref a0]) rfl ?_
    refine e_getI 2 11 rfl rfl (by decide) (aw (i := 288) (by decide +kernel) rfl) ho1 rfl ?_
    refine e_blk 2 34 _ _ (pc' := 36) (L' := [some (.ref a0), some (.int a1), some (.int a2)]) (st' := [.int ((mI M9 a0 11) + (1 : Int32)), .ref a0]) rfl ?_
    refine e_putI 2 11 rfl rfl (by decide) (aw (i := 288) (by decide +kernel) rfl) rfl ho1 rfl ?_
    generalize hM10 : sI M9 a0 11 ((mI M9 a0 11) + (1 : Int32)) = M10
    replace h := h M10 hM10.symm
    replace ho1 : ob M10 a0 2 := hM10 ▸ ob_sI ho1
    replace ho3 : ob M10 b2 9 := hM10 ▸ ob_sI ho3
    replace ho7 : ob M10 b6 9 := hM10 ▸ ob_sI ho7
    refine e_blk 2 39 _ _ (pc' := 41) (L' := [some (.ref a0), some (.int a1), some (.int a2)]) (st' := [.ref a0, .ref a0]) rfl ?_
    refine e_getI 2 14 rfl rfl (by decide) (aw (i := 293) (by decide +kernel) rfl) ho1 rfl ?_
    refine e_blk 2 44 _ _ (pc' := 46) (L' := [some (.ref a0), some (.int a1), some (.int a2)]) (st' := [.int ((mI M10 a0 14) + (1 : Int32)), .ref a0]) rfl ?_
    refine e_putI 2 14 rfl rfl (by decide) (aw (i := 293) (by decide +kernel) rfl) rfl ho1 rfl ?_
    generalize hM11 : sI M10 a0 14 ((mI M10 a0 14) + (1 : Int32)) = M11
    replace h := h M11 hM11.symm
    replace ho1 : ob M11 a0 2 := hM11 ▸ ob_sI ho1
    replace ho3 : ob M11 b2 9 := hM11 ▸ ob_sI ho3
    replace ho7 : ob M11 b6 9 := hM11 ▸ ob_sI ho7
    refine e_drp [false, false, false] (L' := [none, none, none]) rfl ?_
    exact x_X2_addRun_49  h
def V_X2_removeFirstRun_50 (K : Rs → Mm → Prop)  (M : Mm) (l0 : Nat) : Prop := (ob M l0 2 ∧ V_J9_max_7cf53 (kI (fun r3 M2 => (ob M2 l0 2 ∧ ∀ M5, M5 = sI M2 l0 11 r3 → K (.inl none) M5)) (fun _ _ => False)) M ((mI M l0 11) - (1 : Int32)) (0 : Int32))
set_option maxRecDepth 100000 in
set_option maxHeartbeats 4000000 in
theorem x_X2_removeFirstRun_50 {G : Gx} {K : Rs → Mm → Prop}  {M : Mm} {l0 : Nat} (h : V_X2_removeFirstRun_50 K  M l0) : E G mi_X2_removeFirstRun K M 0 0 50 [some (.ref l0), none] [] := by
  unfold V_X2_removeFirstRun_50 at h
  refine e_blk 2 50 _ _ (pc' := 52) (L' := [some (.ref l0), none]) (st' := [.ref l0, .ref l0]) rfl ?_
  obtain ⟨ho1, h⟩ := h
  refine e_getI 2 11 rfl rfl (by decide) (aw (i := 288) (by decide +kernel) rfl) ho1 rfl ?_
  refine e_blk 3 55 _ _ (pc' := 58) (L' := [some (.ref l0), none]) (st' := [.int (0 : Int32), .int ((mI M l0 11) - (1 : Int32)), .ref l0]) rfl ?_
  refine e_callS (As := [.int ((mI M l0 11) - (1 : Int32)), .int (0 : Int32)]) (rest := [.ref l0]) rfl (x_J9_max_7cf53 h) rfl (aw (i := 825) (by decide +kernel) rfl) ws_J9_max_7cf53 wi_J9_max_7cf53 wc_J9_max_7cf53 (show cok mi_X2_removeFirstRun mi_J9_max_7cf53 0 0 2 = true by decide +kernel) (Nat.le_of_ble_eq_true rfl) (fun v9 M2 hq => ?_) (fun X M9 hq => False.elim hq)
  obtain ⟨r3, rfl, h⟩ := kI_l hq
  obtain ⟨ho4, h⟩ := h
  refine e_putI 2 11 rfl rfl (by decide) (aw (i := 288) (by decide +kernel) rfl) rfl ho4 rfl ?_
  generalize hM5 : sI M2 l0 11 r3 = M5
  replace h := h M5 hM5.symm
  replace ho4 : ob M5 l0 2 := hM5 ▸ ob_sI ho4
  exact e_ret rfl rfl (by decide) (by decide) h
def V_X2_removeFirstRun_2 (K : Rs → Mm → Prop)  : Nat → Mm → Nat → Int32 → Prop
  | 0, _, _, _ => False
  | z + 1, M, l0, l1 => (ob M l0 2 ∧ (((mI M l0 11) ≤ l1 → V_X2_removeFirstRun_50 K  M l0) ∧ (¬ (mI M l0 11) ≤ l1 → (((8 : Int32) ≤ l1 → V_X2_removeFirstRun_50 K  M l0) ∧ (¬ (8 : Int32) ≤ l1 → ∃ b2, mP M l0 2 = some b2 ∧ ∃ b3, mP M l0 2 = some b3 ∧ (ob M b3 9 ∧ (vp_in l1 (mN M b3) ∧ (ob M b2 9 ∧ (vp_in (l1 - (1 : Int32)) (mN M b2) ∧ ∀ M8, M8 = sI M b2 ((l1 - (1 : Int32))).toNatClampNeg (mI M b3 (l1).toNatClampNeg) → ∃ b9, mP M8 l0 3 = some b9 ∧ ∃ b10, mP M8 l0 3 = some b10 ∧ (ob M8 b10 9 ∧ (vp_in l1 (mN M8 b10) ∧ (ob M8 b9 9 ∧ (vp_in (l1 - (1 : Int32)) (mN M8 b9) ∧ ∀ M15, M15 = sI M8 b9 ((l1 - (1 : Int32))).toNatClampNeg (mI M8 b10 (l1).toNatClampNeg) → ∀ x16 : Int32, x16 = (l1 + (1 : Int32)) → V_X2_removeFirstRun_2 K  z M15 l0 x16)))))))))))))
set_option maxRecDepth 100000 in
set_option maxHeartbeats 4000000 in
theorem x_X2_removeFirstRun_2 {G : Gx} {K : Rs → Mm → Prop}  : ∀ (z : Nat) (M : Mm) (l0 : Nat) (l1 : Int32), V_X2_removeFirstRun_2 K  z M l0 l1 → E G mi_X2_removeFirstRun K M 0 0 2 [some (.ref l0), some (.int l1)] []
  | 0, M, l0, l1, h => False.elim h
  | z + 1, M, l0, l1, h => by
    unfold V_X2_removeFirstRun_2 at h
    refine e_blk 2 2 _ _ (pc' := 4) (L' := [some (.ref l0), some (.int l1)]) (st' := [.ref l0, .int l1]) rfl ?_
    obtain ⟨ho1, h⟩ := h
    refine e_getI 2 11 rfl rfl (by decide) (aw (i := 288) (by decide +kernel) rfl) ho1 rfl ?_
    refine e_icmp_ge 50 rfl rfl (fun hc => ?_) (fun hc => ?_)
    · replace h := h.1 hc
      refine e_drp [true, false] (L' := [some (.ref l0), none]) rfl ?_
      exact x_X2_removeFirstRun_50  h
    · replace h := h.2 hc
      refine e_blk 2 10 _ _ (pc' := 13) (L' := [some (.ref l0), some (.int l1)]) (st' := [.int (8 : Int32), .int l1]) rfl ?_
      refine e_icmp_ge 50 rfl rfl (fun hc => ?_) (fun hc => ?_)
      · replace h := h.1 hc
        refine e_drp [true, false] (L' := [some (.ref l0), none]) rfl ?_
        exact x_X2_removeFirstRun_50  h
      · replace h := h.2 hc
        refine e_blk 1 16 _ _ (pc' := 17) (L' := [some (.ref l0), some (.int l1)]) (st' := [.ref l0]) rfl ?_
        obtain ⟨b2, hbb2, h⟩ := h
        refine e_getR 2 2 rfl rfl (by decide) (aw (i := 272) (by decide +kernel) rfl) ho1 rfl hbb2 ?_
        refine e_blk 4 20 _ _ (pc' := 24) (L' := [some (.ref l0), some (.int l1)]) (st' := [.ref l0, .int (l1 - (1 : Int32)), .ref b2]) rfl ?_
        obtain ⟨b3, hbb3, h⟩ := h
        refine e_getR 2 2 rfl rfl (by decide) (aw (i := 272) (by decide +kernel) rfl) ho1 rfl hbb3 ?_
        refine e_blk 1 27 _ _ (pc' := 28) (L' := [some (.ref l0), some (.int l1)]) (st' := [.int l1, .ref b3, .int (l1 - (1 : Int32)), .ref b2]) rfl ?_
        obtain ⟨ho4, h⟩ := h
        obtain ⟨hi5, h⟩ := h
        refine e_iald rfl ho4 hi5 ?_
        obtain ⟨ho6, h⟩ := h
        obtain ⟨hi7, h⟩ := h
        refine e_iast rfl ho6 hi7 ?_
        generalize hM8 : sI M b2 ((l1 - (1 : Int32))).toNatClampNeg (mI M b3 (l1).toNatClampNeg) = M8
        replace h := h M8 hM8.symm
        replace ho1 : ob M8 l0 2 := hM8 ▸ ob_sI ho1
        replace ho4 : ob M8 b3 9 := hM8 ▸ ob_sI ho4
        replace ho6 : ob M8 b2 9 := hM8 ▸ ob_sI ho6
        refine e_blk 1 30 _ _ (pc' := 31) (L' := [some (.ref l0), some (.int l1)]) (st' := [.ref l0]) rfl ?_
        obtain ⟨b9, hbb9, h⟩ := h
        refine e_getR 2 3 rfl rfl (by decide) (aw (i := 273) (by decide +kernel) rfl) ho1 rfl hbb9 ?_
        refine e_blk 4 34 _ _ (pc' := 38) (L' := [some (.ref l0), some (.int l1)]) (st' := [.ref l0, .int (l1 - (1 : Int32)), .ref b9]) rfl ?_
        obtain ⟨b10, hbb10, h⟩ := h
        refine e_getR 2 3 rfl rfl (by decide) (aw (i := 273) (by decide +kernel) rfl) ho1 rfl hbb10 ?_
        refine e_blk 1 41 _ _ (pc' := 42) (L' := [some (.ref l0), some (.int l1)]) (st' := [.int l1, .ref b10, .int (l1 - (1 : Int32)), .ref b9]) rfl ?_
        obtain ⟨ho11, h⟩ := h
        obtain ⟨hi12, h⟩ := h
        refine e_iald rfl ho11 hi12 ?_
        obtain ⟨ho13, h⟩ := h
        obtain ⟨hi14, h⟩ := h
        refine e_iast rfl ho13 hi14 ?_
        generalize hM15 : sI M8 b9 ((l1 - (1 : Int32))).toNatClampNeg (mI M8 b10 (l1).toNatClampNeg) = M15
        replace h := h M15 hM15.symm
        replace ho1 : ob M15 l0 2 := hM15 ▸ ob_sI ho1
        replace ho4 : ob M15 b3 9 := hM15 ▸ ob_sI ho4
        replace ho6 : ob M15 b2 9 := hM15 ▸ ob_sI ho6
        replace ho11 : ob M15 b10 9 := hM15 ▸ ob_sI ho11
        replace ho13 : ob M15 b9 9 := hM15 ▸ ob_sI ho13
        refine e_blk 2 44 _ _ (pc' := 2) (L' := [some (.ref l0), some (.int (l1 + (1 : Int32)))]) (st' := []) rfl ?_
        generalize hx_x16 : ((l1 + (1 : Int32)) : Int32) = x16
        replace h := h x16 hx_x16.symm
        refine e_drp [true, true] (L' := [some (.ref l0), some (.int x16)]) rfl ?_
        exact x_X2_removeFirstRun_2  z _ _ _ h
def V_X2_removeFirstRun (K : Rs → Mm → Prop) (M : Mm) (a0 : Nat) : Prop := ∃ y, V_X2_removeFirstRun_2 K  y M a0 (1 : Int32)
set_option maxRecDepth 100000 in
set_option maxHeartbeats 4000000 in
theorem x_X2_removeFirstRun {G : Gx} {K : Rs → Mm → Prop} {M : Mm} {a0 : Nat} (h : V_X2_removeFirstRun K M a0) : MC G mi_X2_removeFirstRun [.ref a0] M K := by
  unfold V_X2_removeFirstRun at h
  refine mc_of rfl (by decide +kernel) dc_X2_removeFirstRun (Nat.le_of_ble_eq_true rfl) 1 (Nat.le_of_ble_eq_true rfl) ?_
  show E G mi_X2_removeFirstRun K M 0 0 0 [some (.ref a0), none] []
  refine e_blk 2 0 _ _ (pc' := 2) (L' := [some (.ref a0), some (.int (1 : Int32))]) (st' := []) rfl ?_
  refine e_drp [true, true] (L' := [some (.ref a0), some (.int (1 : Int32))]) rfl ?_
  obtain ⟨y, h⟩ := h
  exact x_X2_removeFirstRun_2  y _ _ _ h
def V_X2_firstEnd (K : Rs → Mm → Prop) (M : Mm) (a0 : Nat) : Prop := (ob M a0 2 ∧ ∃ b2, mP M a0 2 = some b2 ∧ (ob M b2 9 ∧ (vp_in (0 : Int32) (mN M b2) ∧ K (.inl (some (.int ((mI M b2 ((0 : Int32)).toNatClampNeg) + (mI M a0 10))))) M)))
set_option maxRecDepth 100000 in
set_option maxHeartbeats 4000000 in
theorem x_X2_firstEnd {G : Gx} {K : Rs → Mm → Prop} {M : Mm} {a0 : Nat} (h : V_X2_firstEnd K M a0) : MC G mi_X2_firstEnd [.ref a0] M K := by
  unfold V_X2_firstEnd at h
  refine mc_of rfl (by decide +kernel) dc_X2_firstEnd (Nat.le_of_ble_eq_true rfl) 0 (Nat.le_of_ble_eq_true rfl) ?_
  show E G mi_X2_firstEnd K M 0 0 0 [some (.ref a0)] []
  refine e_blk 1 0 _ _ (pc' := 1) (L' := [some (.ref a0)]) (st' := [.ref a0]) rfl ?_
  obtain ⟨ho1, h⟩ := h
  obtain ⟨b2, hbb2, h⟩ := h
  refine e_getR 2 2 rfl rfl (by decide) (aw (i := 272) (by decide +kernel) rfl) ho1 rfl hbb2 ?_
  refine e_blk 1 4 _ _ (pc' := 5) (L' := [some (.ref a0)]) (st' := [.int (0 : Int32), .ref b2]) rfl ?_
  obtain ⟨ho3, h⟩ := h
  obtain ⟨hi4, h⟩ := h
  refine e_iald rfl ho3 hi4 ?_
  refine e_blk 1 6 _ _ (pc' := 7) (L' := [some (.ref a0)]) (st' := [.ref a0, .int (mI M b2 ((0 : Int32)).toNatClampNeg)]) rfl ?_
  refine e_getI 2 10 rfl rfl (by decide) (aw (i := 286) (by decide +kernel) rfl) ho1 rfl ?_
  refine e_blk 1 10 _ _ (pc' := 11) (L' := [some (.ref a0)]) (st' := [.int ((mI M b2 ((0 : Int32)).toNatClampNeg) + (mI M a0 10))]) rfl ?_
  exact e_reti rfl rfl (by decide) (by decide) h
def V_X2_leastMatch_82 (K : Rs → Mm → Prop) (B2 : Mm → Nat → Int32 → Int32 → Int32 → Prop) (M : Mm) (l0 : Nat) (l1 : Int32) (l2 : Int32) (l3 : Int32) (l4 : Int32) (s0 : Int32) : Prop := ((s0 = (-1000000000 : Int32) → ∀ x1 : Int32, x1 = (l3 + (1 : Int32)) → B2 M l0 l1 l2 x1) ∧ (¬ s0 = (-1000000000 : Int32) → K (.inl (some (.int (s0 - l4)))) M))
set_option maxRecDepth 100000 in
set_option maxHeartbeats 4000000 in
theorem x_X2_leastMatch_82 {G : Gx} {K : Rs → Mm → Prop} {B2 : Mm → Nat → Int32 → Int32 → Int32 → Prop} (hB2 : ∀ M l0 l1 l2 l3, B2 M l0 l1 l2 l3 → E G mi_X2_leastMatch K M 0 0 2 [some (.ref l0), some (.int l1), some (.int l2), some (.int l3), none, none, none, none] []) {M : Mm} {l0 : Nat} {l1 : Int32} {l2 : Int32} {l3 : Int32} {l4 : Int32} {s0 : Int32} (h : V_X2_leastMatch_82 K B2 M l0 l1 l2 l3 l4 s0) : E G mi_X2_leastMatch K M 0 0 82 [some (.ref l0), some (.int l1), some (.int l2), some (.int l3), some (.int l4), none, none, none] [.int s0] := by
  unfold V_X2_leastMatch_82 at h
  refine e_blk 2 82 _ _ (pc' := 86) (L' := [some (.ref l0), some (.int l1), some (.int l2), some (.int l3), some (.int l4), none, none, some (.int s0)]) (st' := [.int s0]) rfl ?_
  refine e_ldc (-1000000000) rfl (aw (i := 873) (by decide +kernel) rfl) ?_
  refine e_icmp_eq 97 rfl rfl (fun hc => ?_) (fun hc => ?_)
  · replace h := h.1 hc
    refine e_blk 2 97 _ _ (pc' := 2) (L' := [some (.ref l0), some (.int l1), some (.int l2), some (.int (l3 + (1 : Int32))), some (.int l4), none, none, some (.int s0)]) (st' := []) rfl ?_
    generalize hx_x1 : ((l3 + (1 : Int32)) : Int32) = x1
    replace h := h x1 hx_x1.symm
    refine e_drp [true, true, true, true, false, false, false, false] (L' := [some (.ref l0), some (.int l1), some (.int l2), some (.int x1), none, none, none, none]) rfl ?_
    exact hB2 _ _ _ _ _ h
  · replace h := h.2 hc
    refine e_blk 3 91 _ _ (pc' := 96) (L' := [some (.ref l0), some (.int l1), some (.int l2), some (.int l3), some (.int l4), none, none, some (.int s0)]) (st' := [.int (s0 - l4)]) rfl ?_
    exact e_reti rfl rfl (by decide) (by decide) h
def V_X2_leastMatch_2 (K : Rs → Mm → Prop)  : Nat → Mm → Nat → Int32 → Int32 → Int32 → Prop
  | 0, _, _, _, _, _ => False
  | z + 1, M, l0, l1, l2, l3 => (ob M l0 2 ∧ ∃ b2, mP M l0 5 = some b2 ∧ (ob M b2 5 ∧ (((mI M b2 2) < l3 → K (.inl (some (.int (-1 : Int32)))) M) ∧ (¬ (mI M b2 2) < l3 → ∃ b4, mP M l0 5 = some b4 ∧ (ob M b4 5 ∧ ∃ b6, mP M b4 1 = some b6 ∧ (ob M b6 9 ∧ (vp_in l3 (mN M b6) ∧ ∀ x9 : Int32, x9 = (mI M b6 (l3).toNatClampNeg) → ∃ b10, mP M l0 5 = some b10 ∧ (ob M b10 5 ∧ ∃ b12, mP M b10 0 = some b12 ∧ (ob M b12 9 ∧ (vp_in l3 (mN M b12) ∧ V_J9_max_7cf53 (kI (fun r16 M15 => (ob M15 l0 2 ∧ ∃ b18, mP M15 l0 5 = some b18 ∧ (ob M15 b18 5 ∧ V_X5_lastMinuteOf (kI (fun r21 M20 => V_J9_min_7cf53 (kI (fun r23 M22 => ((r23 < r16 → V_X2_leastMatch_82 K (fun M l0 l1 l2 l3 => V_X2_leastMatch_2 K  z M l0 l1 l2 l3) M22 l0 l1 l2 l3 x9 (-1000000000 : Int32)) ∧ (¬ r23 < r16 → (ob M22 l0 2 ∧ ∃ b25, mP M22 l0 1 = some b25 ∧ (ob M22 b25 3 ∧ V_X3_firstIn (kI (fun r28 M27 => V_X2_leastMatch_82 K (fun M l0 l1 l2 l3 => V_X2_leastMatch_2 K  z M l0 l1 l2 l3) M27 l0 l1 l2 l3 x9 r28) (fun _ _ => False)) M22 b25 (r16 + x9) (r23 + x9)))))) (fun _ _ => False)) M20 l2 r21) (fun _ _ => False)) M15 b18 l3))) (fun _ _ => False)) M l1 (mI M b12 (l3).toNatClampNeg)))))))))))
set_option maxRecDepth 100000 in
set_option maxHeartbeats 4000000 in
theorem x_X2_leastMatch_2 {G : Gx} {K : Rs → Mm → Prop}  : ∀ (z : Nat) (M : Mm) (l0 : Nat) (l1 : Int32) (l2 : Int32) (l3 : Int32), V_X2_leastMatch_2 K  z M l0 l1 l2 l3 → E G mi_X2_leastMatch K M 0 0 2 [some (.ref l0), some (.int l1), some (.int l2), some (.int l3), none, none, none, none] []
  | 0, M, l0, l1, l2, l3, h => False.elim h
  | z + 1, M, l0, l1, l2, l3, h => by
    unfold V_X2_leastMatch_2 at h
    refine e_blk 2 2 _ _ (pc' := 4) (L' := [some (.ref l0), some (.int l1), some (.int l2), some (.int l3), none, none, none, none]) (st' := [.ref l0, .int l3]) rfl ?_
    obtain ⟨ho1, h⟩ := h
    obtain ⟨b2, hbb2, h⟩ := h
    refine e_getR 2 5 rfl rfl (by decide) (aw (i := 277) (by decide +kernel) rfl) ho1 rfl hbb2 ?_
    obtain ⟨ho3, h⟩ := h
    refine e_getI 5 2 rfl rfl (by decide) (aw (i := 251) (by decide +kernel) rfl) ho3 rfl ?_
    refine e_icmp_gt 103 rfl rfl (fun hc => ?_) (fun hc => ?_)
    · replace h := h.1 hc
      refine e_blk 1 103 _ _ (pc' := 104) (L' := [some (.ref l0), some (.int l1), some (.int l2), some (.int l3), none, none, none, none]) (st' := [.int (-1 : Int32)]) rfl ?_
      exact e_reti rfl rfl (by decide) (by decide) h
    · replace h := h.2 hc
      refine e_blk 1 13 _ _ (pc' := 14) (L' := [some (.ref l0), some (.int l1), some (.int l2), some (.int l3), none, none, none, none]) (st' := [.ref l0]) rfl ?_
      obtain ⟨b4, hbb4, h⟩ := h
      refine e_getR 2 5 rfl rfl (by decide) (aw (i := 277) (by decide +kernel) rfl) ho1 rfl hbb4 ?_
      obtain ⟨ho5, h⟩ := h
      obtain ⟨b6, hbb6, h⟩ := h
      refine e_getR 5 1 rfl rfl (by decide) (aw (i := 248) (by decide +kernel) rfl) ho5 rfl hbb6 ?_
      refine e_blk 1 20 _ _ (pc' := 21) (L' := [some (.ref l0), some (.int l1), some (.int l2), some (.int l3), none, none, none, none]) (st' := [.int l3, .ref b6]) rfl ?_
      obtain ⟨ho7, h⟩ := h
      obtain ⟨hi8, h⟩ := h
      refine e_iald rfl ho7 hi8 ?_
      refine e_blk 3 22 _ _ (pc' := 26) (L' := [some (.ref l0), some (.int l1), some (.int l2), some (.int l3), some (.int (mI M b6 (l3).toNatClampNeg)), none, none, none]) (st' := [.ref l0, .int l1]) rfl ?_
      generalize hx_x9 : ((mI M b6 (l3).toNatClampNeg) : Int32) = x9
      replace h := h x9 hx_x9.symm
      obtain ⟨b10, hbb10, h⟩ := h
      refine e_getR 2 5 rfl rfl (by decide) (aw (i := 277) (by decide +kernel) rfl) ho1 rfl hbb10 ?_
      obtain ⟨ho11, h⟩ := h
      obtain ⟨b12, hbb12, h⟩ := h
      refine e_getR 5 0 rfl rfl (by decide) (aw (i := 246) (by decide +kernel) rfl) ho11 rfl hbb12 ?_
      refine e_blk 1 32 _ _ (pc' := 33) (L' := [some (.ref l0), some (.int l1), some (.int l2), some (.int l3), some (.int x9), none, none, none]) (st' := [.int l3, .ref b12, .int l1]) rfl ?_
      obtain ⟨ho13, h⟩ := h
      obtain ⟨hi14, h⟩ := h
      refine e_iald rfl ho13 hi14 ?_
      refine e_callS (As := [.int l1, .int (mI M b12 (l3).toNatClampNeg)]) (rest := []) rfl (x_J9_max_7cf53 h) rfl (aw (i := 825) (by decide +kernel) rfl) ws_J9_max_7cf53 wi_J9_max_7cf53 wc_J9_max_7cf53 (show cok mi_X2_leastMatch mi_J9_max_7cf53 0 0 2 = true by decide +kernel) (Nat.le_of_ble_eq_true rfl) (fun v9 M15 hq => ?_) (fun X M9 hq => False.elim hq)
      obtain ⟨r16, rfl, h⟩ := kI_l hq
      refine e_blk 3 37 _ _ (pc' := 41) (L' := [some (.ref l0), some (.int l1), some (.int l2), some (.int l3), some (.int x9), some (.int r16), none, none]) (st' := [.ref l0, .int l2]) rfl ?_
      obtain ⟨ho17, h⟩ := h
      obtain ⟨b18, hbb18, h⟩ := h
      refine e_getR 2 5 rfl rfl (by decide) (aw (i := 277) (by decide +kernel) rfl) ho17 rfl hbb18 ?_
      refine e_blk 1 44 _ _ (pc' := 45) (L' := [some (.ref l0), some (.int l1), some (.int l2), some (.int l3), some (.int x9), some (.int r16), none, none]) (st' := [.int l3, .ref b18, .int l2]) rfl ?_
      obtain ⟨ho19, h⟩ := h
      refine e_callV (As := [.int l3]) (rest := [.int l2]) (ci := 5) rfl (x_X5_lastMinuteOf h) ho19 rfl rfl rfl (aw (i := 828) (by decide +kernel) rfl) wn_X5_lastMinuteOf wv_X5_lastMinuteOf wi_X5_lastMinuteOf wc_X5_lastMinuteOf (show cok mi_X2_leastMatch mi_X5_lastMinuteOf 0 0 1 = true by decide +kernel) (Nat.le_of_ble_eq_true rfl) (fun v9 M20 hq => ?_) (fun X M9 hq => False.elim hq)
      obtain ⟨r21, rfl, h⟩ := kI_l hq
      refine e_callS (As := [.int l2, .int r21]) (rest := []) rfl (x_J9_min_7cf53 h) rfl (aw (i := 829) (by decide +kernel) rfl) ws_J9_min_7cf53 wi_J9_min_7cf53 wc_J9_min_7cf53 (show cok mi_X2_leastMatch mi_J9_min_7cf53 0 0 2 = true by decide +kernel) (Nat.le_of_ble_eq_true rfl) (fun v9 M22 hq => ?_) (fun X M9 hq => False.elim hq)
      obtain ⟨r23, rfl, h⟩ := kI_l hq
      refine e_blk 3 51 _ _ (pc' := 57) (L' := [some (.ref l0), some (.int l1), some (.int l2), some (.int l3), some (.int x9), some (.int r16), some (.int r23), none]) (st' := [.int r23, .int r16]) rfl ?_
      refine e_icmp_gt 80 rfl rfl (fun hc => ?_) (fun hc => ?_)
      · replace h := h.1 hc
        refine e_ldc (-1000000000) rfl (aw (i := 873) (by decide +kernel) rfl) ?_
        refine e_drp [true, true, true, true, true, false, false, false] (L' := [some (.ref l0), some (.int l1), some (.int l2), some (.int l3), some (.int x9), none, none, none]) rfl ?_
        exact x_X2_leastMatch_82 (fun M l0 l1 l2 l3 h => x_X2_leastMatch_2  z M l0 l1 l2 l3 h) h
      · replace h := h.2 hc
        refine e_blk 1 60 _ _ (pc' := 61) (L' := [some (.ref l0), some (.int l1), some (.int l2), some (.int l3), some (.int x9), some (.int r16), some (.int r23), none]) (st' := [.ref l0]) rfl ?_
        obtain ⟨ho24, h⟩ := h
        obtain ⟨b25, hbb25, h⟩ := h
        refine e_getR 2 1 rfl rfl (by decide) (aw (i := 270) (by decide +kernel) rfl) ho24 rfl hbb25 ?_
        refine e_blk 6 64 _ _ (pc' := 74) (L' := [some (.ref l0), some (.int l1), some (.int l2), some (.int l3), some (.int x9), some (.int r16), some (.int r23), none]) (st' := [.int (r23 + x9), .int (r16 + x9), .ref b25]) rfl ?_
        obtain ⟨ho26, h⟩ := h
        refine e_callV (As := [.int (r16 + x9), .int (r23 + x9)]) (rest := []) (ci := 3) rfl (x_X3_firstIn h) ho26 rfl rfl rfl (aw (i := 832) (by decide +kernel) rfl) wn_X3_firstIn wv_X3_firstIn wi_X3_firstIn wc_X3_firstIn (show cok mi_X2_leastMatch mi_X3_firstIn 0 0 2 = true by decide +kernel) (Nat.le_of_ble_eq_true rfl) (fun v9 M27 hq => ?_) (fun X M9 hq => False.elim hq)
        obtain ⟨r28, rfl, h⟩ := kI_l hq
        refine e_blk 1 77 _ _ (pc' := 82) (L' := [some (.ref l0), some (.int l1), some (.int l2), some (.int l3), some (.int x9), some (.int r16), some (.int r23), none]) (st' := [.int r28]) rfl ?_
        refine e_drp [true, true, true, true, true, false, false, false] (L' := [some (.ref l0), some (.int l1), some (.int l2), some (.int l3), some (.int x9), none, none, none]) rfl ?_
        exact x_X2_leastMatch_82 (fun M l0 l1 l2 l3 h => x_X2_leastMatch_2  z M l0 l1 l2 l3 h) h
def V_X2_leastMatch (K : Rs → Mm → Prop) (M : Mm) (a0 : Nat) (a1 : Int32) (a2 : Int32) : Prop := ∃ y, V_X2_leastMatch_2 K  y M a0 a1 a2 (0 : Int32)
set_option maxRecDepth 100000 in
set_option maxHeartbeats 4000000 in
theorem x_X2_leastMatch {G : Gx} {K : Rs → Mm → Prop} {M : Mm} {a0 : Nat} {a1 : Int32} {a2 : Int32} (h : V_X2_leastMatch K M a0 a1 a2) : MC G mi_X2_leastMatch [.ref a0, .int a1, .int a2] M K := by
  unfold V_X2_leastMatch at h
  refine mc_of rfl (by decide +kernel) dc_X2_leastMatch (Nat.le_of_ble_eq_true rfl) 5 (Nat.le_of_ble_eq_true rfl) ?_
  show E G mi_X2_leastMatch K M 0 0 0 [some (.ref a0), some (.int a1), some (.int a2), none, none, none, none, none] []
  refine e_blk 2 0 _ _ (pc' := 2) (L' := [some (.ref a0), some (.int a1), some (.int a2), some (.int (0 : Int32)), none, none, none, none]) (st' := []) rfl ?_
  refine e_drp [true, true, true, true, false, false, false, false] (L' := [some (.ref a0), some (.int a1), some (.int a2), some (.int (0 : Int32)), none, none, none, none]) rfl ?_
  obtain ⟨y, h⟩ := h
  exact x_X2_leastMatch_2  y _ _ _ _ _ h
def V_X2_greatestMatch_81 (K : Rs → Mm → Prop) (B8 : Mm → Nat → Int32 → Int32 → Int32 → Prop) (M : Mm) (l0 : Nat) (l1 : Int32) (l2 : Int32) (l3 : Int32) (l4 : Int32) (s0 : Int32) : Prop := ((s0 = (-1000000000 : Int32) → ∀ x1 : Int32, x1 = (l3 + (-1 : Int32)) → B8 M l0 l1 l2 x1) ∧ (¬ s0 = (-1000000000 : Int32) → K (.inl (some (.int (s0 - l4)))) M))
set_option maxRecDepth 100000 in
set_option maxHeartbeats 4000000 in
theorem x_X2_greatestMatch_81 {G : Gx} {K : Rs → Mm → Prop} {B8 : Mm → Nat → Int32 → Int32 → Int32 → Prop} (hB8 : ∀ M l0 l1 l2 l3, B8 M l0 l1 l2 l3 → E G mi_X2_greatestMatch K M 0 0 8 [some (.ref l0), some (.int l1), some (.int l2), some (.int l3), none, none, none, none] []) {M : Mm} {l0 : Nat} {l1 : Int32} {l2 : Int32} {l3 : Int32} {l4 : Int32} {s0 : Int32} (h : V_X2_greatestMatch_81 K B8 M l0 l1 l2 l3 l4 s0) : E G mi_X2_greatestMatch K M 0 0 81 [some (.ref l0), some (.int l1), some (.int l2), some (.int l3), some (.int l4), none, none, none] [.int s0] := by
  unfold V_X2_greatestMatch_81 at h
  refine e_blk 2 81 _ _ (pc' := 85) (L' := [some (.ref l0), some (.int l1), some (.int l2), some (.int l3), some (.int l4), none, none, some (.int s0)]) (st' := [.int s0]) rfl ?_
  refine e_ldc (-1000000000) rfl (aw (i := 873) (by decide +kernel) rfl) ?_
  refine e_icmp_eq 96 rfl rfl (fun hc => ?_) (fun hc => ?_)
  · replace h := h.1 hc
    refine e_blk 2 96 _ _ (pc' := 8) (L' := [some (.ref l0), some (.int l1), some (.int l2), some (.int (l3 + (-1 : Int32))), some (.int l4), none, none, some (.int s0)]) (st' := []) rfl ?_
    generalize hx_x1 : ((l3 + (-1 : Int32)) : Int32) = x1
    replace h := h x1 hx_x1.symm
    refine e_drp [true, true, true, true, false, false, false, false] (L' := [some (.ref l0), some (.int l1), some (.int l2), some (.int x1), none, none, none, none]) rfl ?_
    exact hB8 _ _ _ _ _ h
  · replace h := h.2 hc
    refine e_blk 3 90 _ _ (pc' := 95) (L' := [some (.ref l0), some (.int l1), some (.int l2), some (.int l3), some (.int l4), none, none, some (.int s0)]) (st' := [.int (s0 - l4)]) rfl ?_
    exact e_reti rfl rfl (by decide) (by decide) h
def V_X2_greatestMatch_8 (K : Rs → Mm → Prop)  : Nat → Mm → Nat → Int32 → Int32 → Int32 → Prop
  | 0, _, _, _, _, _ => False
  | z + 1, M, l0, l1, l2, l3 => ((l3 < 0 → K (.inl (some (.int (-1 : Int32)))) M) ∧ (¬ l3 < 0 → (ob M l0 2 ∧ ∃ b2, mP M l0 5 = some b2 ∧ (ob M b2 5 ∧ ∃ b4, mP M b2 1 = some b4 ∧ (ob M b4 9 ∧ (vp_in l3 (mN M b4) ∧ ∀ x7 : Int32, x7 = (mI M b4 (l3).toNatClampNeg) → ∃ b8, mP M l0 5 = some b8 ∧ (ob M b8 5 ∧ ∃ b10, mP M b8 0 = some b10 ∧ (ob M b10 9 ∧ (vp_in l3 (mN M b10) ∧ V_J9_max_7cf53 (kI (fun r14 M13 => (ob M13 l0 2 ∧ ∃ b16, mP M13 l0 5 = some b16 ∧ (ob M13 b16 5 ∧ V_X5_lastMinuteOf (kI (fun r19 M18 => V_J9_min_7cf53 (kI (fun r21 M20 => ((r21 < r14 → V_X2_greatestMatch_81 K (fun M l0 l1 l2 l3 => V_X2_greatestMatch_8 K  z M l0 l1 l2 l3) M20 l0 l1 l2 l3 x7 (-1000000000 : Int32)) ∧ (¬ r21 < r14 → (ob M20 l0 2 ∧ ∃ b23, mP M20 l0 1 = some b23 ∧ (ob M20 b23 3 ∧ V_X3_lastIn (kI (fun r26 M25 => V_X2_greatestMatch_81 K (fun M l0 l1 l2 l3 => V_X2_greatestMatch_8 K  z M l0 l1 l2 l3) M25 l0 l1 l2 l3 x7 r26) (fun _ _ => False)) M20 b23 (r14 + x7) (r21 + x7)))))) (fun _ _ => False)) M18 l2 r19) (fun _ _ => False)) M13 b16 l3))) (fun _ _ => False)) M l1 (mI M b10 (l3).toNatClampNeg))))))))))
set_option maxRecDepth 100000 in
set_option maxHeartbeats 4000000 in
theorem x_X2_greatestMatch_8 {G : Gx} {K : Rs → Mm → Prop}  : ∀ (z : Nat) (M : Mm) (l0 : Nat) (l1 : Int32) (l2 : Int32) (l3 : Int32), V_X2_greatestMatch_8 K  z M l0 l1 l2 l3 → E G mi_X2_greatestMatch K M 0 0 8 [some (.ref l0), some (.int l1), some (.int l2), some (.int l3), none, none, none, none] []
  | 0, M, l0, l1, l2, l3, h => False.elim h
  | z + 1, M, l0, l1, l2, l3, h => by
    unfold V_X2_greatestMatch_8 at h
    refine e_blk 1 8 _ _ (pc' := 9) (L' := [some (.ref l0), some (.int l1), some (.int l2), some (.int l3), none, none, none, none]) (st' := [.int l3]) rfl ?_
    refine e_if_lt 102 rfl rfl (fun hc => ?_) (fun hc => ?_)
    · replace h := h.1 hc
      refine e_blk 1 102 _ _ (pc' := 103) (L' := [some (.ref l0), some (.int l1), some (.int l2), some (.int l3), none, none, none, none]) (st' := [.int (-1 : Int32)]) rfl ?_
      exact e_reti rfl rfl (by decide) (by decide) h
    · replace h := h.2 hc
      refine e_blk 1 12 _ _ (pc' := 13) (L' := [some (.ref l0), some (.int l1), some (.int l2), some (.int l3), none, none, none, none]) (st' := [.ref l0]) rfl ?_
      obtain ⟨ho1, h⟩ := h
      obtain ⟨b2, hbb2, h⟩ := h
      refine e_getR 2 5 rfl rfl (by decide) (aw (i := 277) (by decide +kernel) rfl) ho1 rfl hbb2 ?_
      obtain ⟨ho3, h⟩ := h
      obtain ⟨b4, hbb4, h⟩ := h
      refine e_getR 5 1 rfl rfl (by decide) (aw (i := 248) (by decide +kernel) rfl) ho3 rfl hbb4 ?_
      refine e_blk 1 19 _ _ (pc' := 20) (L' := [some (.ref l0), some (.int l1), some (.int l2), some (.int l3), none, none, none, none]) (st' := [.int l3, .ref b4]) rfl ?_
      obtain ⟨ho5, h⟩ := h
      obtain ⟨hi6, h⟩ := h
      refine e_iald rfl ho5 hi6 ?_
      refine e_blk 3 21 _ _ (pc' := 25) (L' := [some (.ref l0), some (.int l1), some (.int l2), some (.int l3), some (.int (mI M b4 (l3).toNatClampNeg)), none, none, none]) (st' := [.ref l0, .int l1]) rfl ?_
      generalize hx_x7 : ((mI M b4 (l3).toNatClampNeg) : Int32) = x7
      replace h := h x7 hx_x7.symm
      obtain ⟨b8, hbb8, h⟩ := h
      refine e_getR 2 5 rfl rfl (by decide) (aw (i := 277) (by decide +kernel) rfl) ho1 rfl hbb8 ?_
      obtain ⟨ho9, h⟩ := h
      obtain ⟨b10, hbb10, h⟩ := h
      refine e_getR 5 0 rfl rfl (by decide) (aw (i := 246) (by decide +kernel) rfl) ho9 rfl hbb10 ?_
      refine e_blk 1 31 _ _ (pc' := 32) (L' := [some (.ref l0), some (.int l1), some (.int l2), some (.int l3), some (.int x7), none, none, none]) (st' := [.int l3, .ref b10, .int l1]) rfl ?_
      obtain ⟨ho11, h⟩ := h
      obtain ⟨hi12, h⟩ := h
      refine e_iald rfl ho11 hi12 ?_
      refine e_callS (As := [.int l1, .int (mI M b10 (l3).toNatClampNeg)]) (rest := []) rfl (x_J9_max_7cf53 h) rfl (aw (i := 825) (by decide +kernel) rfl) ws_J9_max_7cf53 wi_J9_max_7cf53 wc_J9_max_7cf53 (show cok mi_X2_greatestMatch mi_J9_max_7cf53 0 0 2 = true by decide +kernel) (Nat.le_of_ble_eq_true rfl) (fun v9 M13 hq => ?_) (fun X M9 hq => False.elim hq)
      obtain ⟨r14, rfl, h⟩ := kI_l hq
      refine e_blk 3 36 _ _ (pc' := 40) (L' := [some (.ref l0), some (.int l1), some (.int l2), some (.int l3), some (.int x7), some (.int r14), none, none]) (st' := [.ref l0, .int l2]) rfl ?_
      obtain ⟨ho15, h⟩ := h
      obtain ⟨b16, hbb16, h⟩ := h
      refine e_getR 2 5 rfl rfl (by decide) (aw (i := 277) (by decide +kernel) rfl) ho15 rfl hbb16 ?_
      refine e_blk 1 43 _ _ (pc' := 44) (L' := [some (.ref l0), some (.int l1), some (.int l2), some (.int l3), some (.int x7), some (.int r14), none, none]) (st' := [.int l3, .ref b16, .int l2]) rfl ?_
      obtain ⟨ho17, h⟩ := h
      refine e_callV (As := [.int l3]) (rest := [.int l2]) (ci := 5) rfl (x_X5_lastMinuteOf h) ho17 rfl rfl rfl (aw (i := 828) (by decide +kernel) rfl) wn_X5_lastMinuteOf wv_X5_lastMinuteOf wi_X5_lastMinuteOf wc_X5_lastMinuteOf (show cok mi_X2_greatestMatch mi_X5_lastMinuteOf 0 0 1 = true by decide +kernel) (Nat.le_of_ble_eq_true rfl) (fun v9 M18 hq => ?_) (fun X M9 hq => False.elim hq)
      obtain ⟨r19, rfl, h⟩ := kI_l hq
      refine e_callS (As := [.int l2, .int r19]) (rest := []) rfl (x_J9_min_7cf53 h) rfl (aw (i := 829) (by decide +kernel) rfl) ws_J9_min_7cf53 wi_J9_min_7cf53 wc_J9_min_7cf53 (show cok mi_X2_greatestMatch mi_J9_min_7cf53 0 0 2 = true by decide +kernel) (Nat.le_of_ble_eq_true rfl) (fun v9 M20 hq => ?_) (fun X M9 hq => False.elim hq)
      obtain ⟨r21, rfl, h⟩ := kI_l hq
      refine e_blk 3 50 _ _ (pc' := 56) (L' := [some (.ref l0), some (.int l1), some (.int l2), some (.int l3), some (.int x7), some (.int r14), some (.int r21), none]) (st' := [.int r21, .int r14]) rfl ?_
      refine e_icmp_gt 79 rfl rfl (fun hc => ?_) (fun hc => ?_)
      · replace h := h.1 hc
        refine e_ldc (-1000000000) rfl (aw (i := 873) (by decide +kernel) rfl) ?_
        refine e_drp [true, true, true, true, true, false, false, false] (L' := [some (.ref l0), some (.int l1), some (.int l2), some (.int l3), some (.int x7), none, none, none]) rfl ?_
        exact x_X2_greatestMatch_81 (fun M l0 l1 l2 l3 h => x_X2_greatestMatch_8  z M l0 l1 l2 l3 h) h
      · replace h := h.2 hc
        refine e_blk 1 59 _ _ (pc' := 60) (L' := [some (.ref l0), some (.int l1), some (.int l2), some (.int l3), some (.int x7), some (.int r14), some (.int r21), none]) (st' := [.ref l0]) rfl ?_
        obtain ⟨ho22, h⟩ := h
        obtain ⟨b23, hbb23, h⟩ := h
        refine e_getR 2 1 rfl rfl (by decide) (aw (i := 270) (by decide +kernel) rfl) ho22 rfl hbb23 ?_
        refine e_blk 6 63 _ _ (pc' := 73) (L' := [some (.ref l0), some (.int l1), some (.int l2), some (.int l3), some (.int x7), some (.int r14), some (.int r21), none]) (st' := [.int (r21 + x7), .int (r14 + x7), .ref b23]) rfl ?_
        obtain ⟨ho24, h⟩ := h
        refine e_callV (As := [.int (r14 + x7), .int (r21 + x7)]) (rest := []) (ci := 3) rfl (x_X3_lastIn h) ho24 rfl rfl rfl (aw (i := 898) (by decide +kernel) rfl) wn_X3_lastIn wv_X3_lastIn wi_X3_lastIn wc_X3_lastIn (show cok mi_X2_greatestMatch mi_X3_lastIn 0 0 2 = true by decide +kernel) (Nat.le_of_ble_eq_true rfl) (fun v9 M25 hq => ?_) (fun X M9 hq => False.elim hq)
        obtain ⟨r26, rfl, h⟩ := kI_l hq
        refine e_blk 1 76 _ _ (pc' := 81) (L' := [some (.ref l0), some (.int l1), some (.int l2), some (.int l3), some (.int x7), some (.int r14), some (.int r21), none]) (st' := [.int r26]) rfl ?_
        refine e_drp [true, true, true, true, true, false, false, false] (L' := [some (.ref l0), some (.int l1), some (.int l2), some (.int l3), some (.int x7), none, none, none]) rfl ?_
        exact x_X2_greatestMatch_81 (fun M l0 l1 l2 l3 h => x_X2_greatestMatch_8  z M l0 l1 l2 l3 h) h
def V_X2_greatestMatch (K : Rs → Mm → Prop) (M : Mm) (a0 : Nat) (a1 : Int32) (a2 : Int32) : Prop := (ob M a0 2 ∧ ∃ b2, mP M a0 5 = some b2 ∧ (ob M b2 5 ∧ ∀ x4 : Int32, x4 = (mI M b2 2) → ∃ y, V_X2_greatestMatch_8 K  y M a0 a1 a2 x4))
set_option maxRecDepth 100000 in
set_option maxHeartbeats 4000000 in
theorem x_X2_greatestMatch {G : Gx} {K : Rs → Mm → Prop} {M : Mm} {a0 : Nat} {a1 : Int32} {a2 : Int32} (h : V_X2_greatestMatch K M a0 a1 a2) : MC G mi_X2_greatestMatch [.ref a0, .int a1, .int a2] M K := by
  unfold V_X2_greatestMatch at h
  refine mc_of rfl (by decide +kernel) dc_X2_greatestMatch (Nat.le_of_ble_eq_true rfl) 5 (Nat.le_of_ble_eq_true rfl) ?_
  show E G mi_X2_greatestMatch K M 0 0 0 [some (.ref a0), some (.int a1), some (.int a2), none, none, none, none, none] []
  refine e_blk 1 0 _ _ (pc' := 1) (L' := [some (.ref a0), some (.int a1), some (.int a2), none, none, none, none, none]) (st' := [.ref a0]) rfl ?_
  obtain ⟨ho1, h⟩ := h
  obtain ⟨b2, hbb2, h⟩ := h
  refine e_getR 2 5 rfl rfl (by decide) (aw (i := 277) (by decide +kernel) rfl) ho1 rfl hbb2 ?_
  obtain ⟨ho3, h⟩ := h
  refine e_getI 5 2 rfl rfl (by decide) (aw (i := 251) (by decide +kernel) rfl) ho3 rfl ?_
  refine e_blk 1 7 _ _ (pc' := 8) (L' := [some (.ref a0), some (.int a1), some (.int a2), some (.int (mI M b2 2)), none, none, none, none]) (st' := []) rfl ?_
  generalize hx_x4 : ((mI M b2 2) : Int32) = x4
  replace h := h x4 hx_x4.symm
  refine e_drp [true, true, true, true, false, false, false, false] (L' := [some (.ref a0), some (.int a1), some (.int a2), some (.int x4), none, none, none, none]) rfl ?_
  obtain ⟨y, h⟩ := h
  exact x_X2_greatestMatch_8  y _ _ _ _ _ h
def V_X2_matchesIn_89 (K : Rs → Mm → Prop) (B5 : Mm → Nat → Int32 → Int32 → Int32 → Int32 → Prop) (M : Mm) (l0 : Nat) (l1 : Int32) (l2 : Int32) (l4 : Int32) (s0 : Int32) (s1 : Int32) : Prop := ∀ x1 : Int32, x1 = (s0 + s1) → ∀ x2 : Int32, x2 = (l4 + (1 : Int32)) → B5 M l0 l1 l2 x1 x2
set_option maxRecDepth 100000 in
set_option maxHeartbeats 4000000 in
theorem x_X2_matchesIn_89 {G : Gx} {K : Rs → Mm → Prop} {B5 : Mm → Nat → Int32 → Int32 → Int32 → Int32 → Prop} (hB5 : ∀ M l0 l1 l2 l3 l4, B5 M l0 l1 l2 l3 l4 → E G mi_X2_matchesIn K M 0 0 5 [some (.ref l0), some (.int l1), some (.int l2), some (.int l3), some (.int l4), none, none, none] []) {M : Mm} {l0 : Nat} {l1 : Int32} {l2 : Int32} {l4 : Int32} {s0 : Int32} {s1 : Int32} (h : V_X2_matchesIn_89 K B5 M l0 l1 l2 l4 s0 s1) : E G mi_X2_matchesIn K M 0 0 89 [some (.ref l0), some (.int l1), some (.int l2), none, some (.int l4), none, none, none] [.int s1, .int s0] := by
  unfold V_X2_matchesIn_89 at h
  refine e_blk 4 89 _ _ (pc' := 5) (L' := [some (.ref l0), some (.int l1), some (.int l2), some (.int (s0 + s1)), some (.int (l4 + (1 : Int32))), none, none, none]) (st' := []) rfl ?_
  generalize hx_x1 : ((s0 + s1) : Int32) = x1
  replace h := h x1 hx_x1.symm
  generalize hx_x2 : ((l4 + (1 : Int32)) : Int32) = x2
  replace h := h x2 hx_x2.symm
  refine e_drp [true, true, true, true, true, false, false, false] (L' := [some (.ref l0), some (.int l1), some (.int l2), some (.int x1), some (.int x2), none, none, none]) rfl ?_
  exact hB5 _ _ _ _ _ _ h
def V_X2_matchesIn_5 (K : Rs → Mm → Prop)  : Nat → Mm → Nat → Int32 → Int32 → Int32 → Int32 → Prop
  | 0, _, _, _, _, _, _ => False
  | z + 1, M, l0, l1, l2, l3, l4 => (ob M l0 2 ∧ ∃ b2, mP M l0 5 = some b2 ∧ (ob M b2 5 ∧ (((mI M b2 2) < l4 → K (.inl (some (.int l3))) M) ∧ (¬ (mI M b2 2) < l4 → ∃ b4, mP M l0 5 = some b4 ∧ (ob M b4 5 ∧ ∃ b6, mP M b4 1 = some b6 ∧ (ob M b6 9 ∧ (vp_in l4 (mN M b6) ∧ ∀ x9 : Int32, x9 = (mI M b6 (l4).toNatClampNeg) → ∃ b10, mP M l0 5 = some b10 ∧ (ob M b10 5 ∧ ∃ b12, mP M b10 0 = some b12 ∧ (ob M b12 9 ∧ (vp_in l4 (mN M b12) ∧ V_J9_max_7cf53 (kI (fun r16 M15 => (ob M15 l0 2 ∧ ∃ b18, mP M15 l0 5 = some b18 ∧ (ob M15 b18 5 ∧ V_X5_lastMinuteOf (kI (fun r21 M20 => V_J9_min_7cf53 (kI (fun r23 M22 => ((r23 < r16 → V_X2_matchesIn_89 K (fun M l0 l1 l2 l3 l4 => V_X2_matchesIn_5 K  z M l0 l1 l2 l3 l4) M22 l0 l1 l2 l4 l3 (0 : Int32)) ∧ (¬ r23 < r16 → (ob M22 l0 2 ∧ ∃ b25, mP M22 l0 1 = some b25 ∧ (ob M22 b25 3 ∧ V_X3_countIn (kI (fun r28 M27 => V_X2_matchesIn_89 K (fun M l0 l1 l2 l3 l4 => V_X2_matchesIn_5 K  z M l0 l1 l2 l3 l4) M27 l0 l1 l2 l4 l3 r28) (fun _ _ => False)) M22 b25 (r16 + x9) (r23 + x9)))))) (fun _ _ => False)) M20 l2 r21) (fun _ _ => False)) M15 b18 l4))) (fun _ _ => False)) M l1 (mI M b12 (l4).toNatClampNeg)))))))))))
set_option maxRecDepth 100000 in
set_option maxHeartbeats 4000000 in
theorem x_X2_matchesIn_5 {G : Gx} {K : Rs → Mm → Prop}  : ∀ (z : Nat) (M : Mm) (l0 : Nat) (l1 : Int32) (l2 : Int32) (l3 : Int32) (l4 : Int32), V_X2_matchesIn_5 K  z M l0 l1 l2 l3 l4 → E G mi_X2_matchesIn K M 0 0 5 [some (.ref l0), some (.int l1), some (.int l2), some (.int l3), some (.int l4), none, none, none] []
  | 0, M, l0, l1, l2, l3, l4, h => False.elim h
  | z + 1, M, l0, l1, l2, l3, l4, h => by
    unfold V_X2_matchesIn_5 at h
    refine e_blk 2 5 _ _ (pc' := 8) (L' := [some (.ref l0), some (.int l1), some (.int l2), some (.int l3), some (.int l4), none, none, none]) (st' := [.ref l0, .int l4]) rfl ?_
    obtain ⟨ho1, h⟩ := h
    obtain ⟨b2, hbb2, h⟩ := h
    refine e_getR 2 5 rfl rfl (by decide) (aw (i := 277) (by decide +kernel) rfl) ho1 rfl hbb2 ?_
    obtain ⟨ho3, h⟩ := h
    refine e_getI 5 2 rfl rfl (by decide) (aw (i := 251) (by decide +kernel) rfl) ho3 rfl ?_
    refine e_icmp_gt 97 rfl rfl (fun hc => ?_) (fun hc => ?_)
    · replace h := h.1 hc
      refine e_blk 1 97 _ _ (pc' := 98) (L' := [some (.ref l0), some (.int l1), some (.int l2), some (.int l3), some (.int l4), none, none, none]) (st' := [.int l3]) rfl ?_
      exact e_reti rfl rfl (by decide) (by decide) h
    · replace h := h.2 hc
      refine e_blk 1 17 _ _ (pc' := 18) (L' := [some (.ref l0), some (.int l1), some (.int l2), some (.int l3), some (.int l4), none, none, none]) (st' := [.ref l0]) rfl ?_
      obtain ⟨b4, hbb4, h⟩ := h
      refine e_getR 2 5 rfl rfl (by decide) (aw (i := 277) (by decide +kernel) rfl) ho1 rfl hbb4 ?_
      obtain ⟨ho5, h⟩ := h
      obtain ⟨b6, hbb6, h⟩ := h
      refine e_getR 5 1 rfl rfl (by decide) (aw (i := 248) (by decide +kernel) rfl) ho5 rfl hbb6 ?_
      refine e_blk 1 24 _ _ (pc' := 26) (L' := [some (.ref l0), some (.int l1), some (.int l2), some (.int l3), some (.int l4), none, none, none]) (st' := [.int l4, .ref b6]) rfl ?_
      obtain ⟨ho7, h⟩ := h
      obtain ⟨hi8, h⟩ := h
      refine e_iald rfl ho7 hi8 ?_
      refine e_blk 3 27 _ _ (pc' := 31) (L' := [some (.ref l0), some (.int l1), some (.int l2), some (.int l3), some (.int l4), some (.int (mI M b6 (l4).toNatClampNeg)), none, none]) (st' := [.ref l0, .int l1]) rfl ?_
      generalize hx_x9 : ((mI M b6 (l4).toNatClampNeg) : Int32) = x9
      replace h := h x9 hx_x9.symm
      obtain ⟨b10, hbb10, h⟩ := h
      refine e_getR 2 5 rfl rfl (by decide) (aw (i := 277) (by decide +kernel) rfl) ho1 rfl hbb10 ?_
      obtain ⟨ho11, h⟩ := h
      obtain ⟨b12, hbb12, h⟩ := h
      refine e_getR 5 0 rfl rfl (by decide) (aw (i := 246) (by decide +kernel) rfl) ho11 rfl hbb12 ?_
      refine e_blk 1 37 _ _ (pc' := 39) (L' := [some (.ref l0), some (.int l1), some (.int l2), some (.int l3), some (.int l4), some (.int x9), none, none]) (st' := [.int l4, .ref b12, .int l1]) rfl ?_
      obtain ⟨ho13, h⟩ := h
      obtain ⟨hi14, h⟩ := h
      refine e_iald rfl ho13 hi14 ?_
      refine e_callS (As := [.int l1, .int (mI M b12 (l4).toNatClampNeg)]) (rest := []) rfl (x_J9_max_7cf53 h) rfl (aw (i := 825) (by decide +kernel) rfl) ws_J9_max_7cf53 wi_J9_max_7cf53 wc_J9_max_7cf53 (show cok mi_X2_matchesIn mi_J9_max_7cf53 0 0 2 = true by decide +kernel) (Nat.le_of_ble_eq_true rfl) (fun v9 M15 hq => ?_) (fun X M9 hq => False.elim hq)
      obtain ⟨r16, rfl, h⟩ := kI_l hq
      refine e_blk 3 43 _ _ (pc' := 47) (L' := [some (.ref l0), some (.int l1), some (.int l2), some (.int l3), some (.int l4), some (.int x9), some (.int r16), none]) (st' := [.ref l0, .int l2]) rfl ?_
      obtain ⟨ho17, h⟩ := h
      obtain ⟨b18, hbb18, h⟩ := h
      refine e_getR 2 5 rfl rfl (by decide) (aw (i := 277) (by decide +kernel) rfl) ho17 rfl hbb18 ?_
      refine e_blk 1 50 _ _ (pc' := 52) (L' := [some (.ref l0), some (.int l1), some (.int l2), some (.int l3), some (.int l4), some (.int x9), some (.int r16), none]) (st' := [.int l4, .ref b18, .int l2]) rfl ?_
      obtain ⟨ho19, h⟩ := h
      refine e_callV (As := [.int l4]) (rest := [.int l2]) (ci := 5) rfl (x_X5_lastMinuteOf h) ho19 rfl rfl rfl (aw (i := 828) (by decide +kernel) rfl) wn_X5_lastMinuteOf wv_X5_lastMinuteOf wi_X5_lastMinuteOf wc_X5_lastMinuteOf (show cok mi_X2_matchesIn mi_X5_lastMinuteOf 0 0 1 = true by decide +kernel) (Nat.le_of_ble_eq_true rfl) (fun v9 M20 hq => ?_) (fun X M9 hq => False.elim hq)
      obtain ⟨r21, rfl, h⟩ := kI_l hq
      refine e_callS (As := [.int l2, .int r21]) (rest := []) rfl (x_J9_min_7cf53 h) rfl (aw (i := 829) (by decide +kernel) rfl) ws_J9_min_7cf53 wi_J9_min_7cf53 wc_J9_min_7cf53 (show cok mi_X2_matchesIn mi_J9_min_7cf53 0 0 2 = true by decide +kernel) (Nat.le_of_ble_eq_true rfl) (fun v9 M22 hq => ?_) (fun X M9 hq => False.elim hq)
      obtain ⟨r23, rfl, h⟩ := kI_l hq
      refine e_blk 4 58 _ _ (pc' := 65) (L' := [some (.ref l0), some (.int l1), some (.int l2), some (.int l3), some (.int l4), some (.int x9), some (.int r16), some (.int r23)]) (st' := [.int r23, .int r16, .int l3]) rfl ?_
      refine e_icmp_gt 88 rfl rfl (fun hc => ?_) (fun hc => ?_)
      · replace h := h.1 hc
        refine e_blk 1 88 _ _ (pc' := 89) (L' := [some (.ref l0), some (.int l1), some (.int l2), some (.int l3), some (.int l4), some (.int x9), some (.int r16), some (.int r23)]) (st' := [.int (0 : Int32), .int l3]) rfl ?_
        refine e_drp [true, true, true, false, true, false, false, false] (L' := [some (.ref l0), some (.int l1), some (.int l2), none, some (.int l4), none, none, none]) rfl ?_
        exact x_X2_matchesIn_89 (fun M l0 l1 l2 l3 l4 h => x_X2_matchesIn_5  z M l0 l1 l2 l3 l4 h) h
      · replace h := h.2 hc
        refine e_blk 1 68 _ _ (pc' := 69) (L' := [some (.ref l0), some (.int l1), some (.int l2), some (.int l3), some (.int l4), some (.int x9), some (.int r16), some (.int r23)]) (st' := [.ref l0, .int l3]) rfl ?_
        obtain ⟨ho24, h⟩ := h
        obtain ⟨b25, hbb25, h⟩ := h
        refine e_getR 2 1 rfl rfl (by decide) (aw (i := 270) (by decide +kernel) rfl) ho24 rfl hbb25 ?_
        refine e_blk 6 72 _ _ (pc' := 82) (L' := [some (.ref l0), some (.int l1), some (.int l2), some (.int l3), some (.int l4), some (.int x9), some (.int r16), some (.int r23)]) (st' := [.int (r23 + x9), .int (r16 + x9), .ref b25, .int l3]) rfl ?_
        obtain ⟨ho26, h⟩ := h
        refine e_callV (As := [.int (r16 + x9), .int (r23 + x9)]) (rest := [.int l3]) (ci := 3) rfl (x_X3_countIn h) ho26 rfl rfl rfl (aw (i := 930) (by decide +kernel) rfl) wn_X3_countIn wv_X3_countIn wi_X3_countIn wc_X3_countIn (show cok mi_X2_matchesIn mi_X3_countIn 0 0 2 = true by decide +kernel) (Nat.le_of_ble_eq_true rfl) (fun v9 M27 hq => ?_) (fun X M9 hq => False.elim hq)
        obtain ⟨r28, rfl, h⟩ := kI_l hq
        refine e_blk 1 85 _ _ (pc' := 89) (L' := [some (.ref l0), some (.int l1), some (.int l2), some (.int l3), some (.int l4), some (.int x9), some (.int r16), some (.int r23)]) (st' := [.int r28, .int l3]) rfl ?_
        refine e_drp [true, true, true, false, true, false, false, false] (L' := [some (.ref l0), some (.int l1), some (.int l2), none, some (.int l4), none, none, none]) rfl ?_
        exact x_X2_matchesIn_89 (fun M l0 l1 l2 l3 l4 h => x_X2_matchesIn_5  z M l0 l1 l2 l3 l4 h) h
def V_X2_matchesIn (K : Rs → Mm → Prop) (M : Mm) (a0 : Nat) (a1 : Int32) (a2 : Int32) : Prop := ∃ y, V_X2_matchesIn_5 K  y M a0 a1 a2 (0 : Int32) (0 : Int32)
set_option maxRecDepth 100000 in
set_option maxHeartbeats 4000000 in
theorem x_X2_matchesIn {G : Gx} {K : Rs → Mm → Prop} {M : Mm} {a0 : Nat} {a1 : Int32} {a2 : Int32} (h : V_X2_matchesIn K M a0 a1 a2) : MC G mi_X2_matchesIn [.ref a0, .int a1, .int a2] M K := by
  unfold V_X2_matchesIn at h
  refine mc_of rfl (by decide +kernel) dc_X2_matchesIn (Nat.le_of_ble_eq_true rfl) 5 (Nat.le_of_ble_eq_true rfl) ?_
  show E G mi_X2_matchesIn K M 0 0 0 [some (.ref a0), some (.int a1), some (.int a2), none, none, none, none, none] []
  refine e_blk 4 0 _ _ (pc' := 5) (L' := [some (.ref a0), some (.int a1), some (.int a2), some (.int (0 : Int32)), some (.int (0 : Int32)), none, none, none]) (st' := []) rfl ?_
  refine e_drp [true, true, true, true, true, false, false, false] (L' := [some (.ref a0), some (.int a1), some (.int a2), some (.int (0 : Int32)), some (.int (0 : Int32)), none, none, none]) rfl ?_
  obtain ⟨y, h⟩ := h
  exact x_X2_matchesIn_5  y _ _ _ _ _ _ h
