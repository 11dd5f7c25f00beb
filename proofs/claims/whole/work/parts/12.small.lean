def is_X0_lookAtMonth : List (Instr × Nat) := [(.aload_n 0, 1), (.aload_n 0, 1), (.getfield 15, 3), (.aload_n 0, 1), (.getfield 25, 3), (.invokestatic 31, 3), (.putfield 42, 3), (.aload_n 0, 1), (.aload_n 0, 1), (.getfield 28, 3), (.iconst 1, 1), (.iadd, 1), (.bipush 7, 2), (.invokestatic 45, 3), (.putfield 48, 3), (.return_, 1)]
abbrev mi_X0_lookAtMonth : MI := (yX0_lookAtMonth, cX0_lookAtMonth, 1, none, [], { frames := 1, cells := 0, slots := 0, locals := 22 }, is_X0_lookAtMonth)
theorem dc_X0_lookAtMonth : dcb cX0_lookAtMonth is_X0_lookAtMonth 0 = true := by decide +kernel
theorem wc_X0_lookAtMonth : cdw mi_X0_lookAtMonth ∈ ALLW := aw (i := 543) (by decide +kernel) rfl
theorem wi_X0_lookAtMonth : Cond.initialized (miY mi_X0_lookAtMonth).cls ∈ ALLW := aw (i := 58) (by decide +kernel) rfl
theorem wn_X0_lookAtMonth : Cond.instanceMethod (miY mi_X0_lookAtMonth) ∈ ALLW := aw (i := 541) (by decide +kernel) rfl
theorem wv_X0_lookAtMonth : Cond.selects (miY mi_X0_lookAtMonth).cls (miY mi_X0_lookAtMonth) (miY mi_X0_lookAtMonth) ∈ ALLW := aw (i := 542) (by decide +kernel) rfl
def is_X0_goToDay : List (Instr × Nat) := [(.aload_n 0, 1), (.sipush 1900, 3), (.iload_n 1, 1), (.sipush 366, 3), (.invokestatic 9, 3), (.iadd, 1), (.putfield 15, 3), (.iload_n 1, 1), (.aload_n 0, 1), (.getfield 15, 3), (.iconst 1, 1), (.iadd, 1), (.invokestatic 21, 3), (.if_icmp .lt 13, 3), (.aload_n 0, 1), (.dup, 1), (.getfield 15, 3), (.iconst 1, 1), (.iadd, 1), (.putfield 15, 3), (.aload_n 0, 1), (.iconst 1, 1), (.putfield 25, 3), (.aload_n 0, 1), (.aload_n 0, 1), (.getfield 15, 3), (.invokestatic 21, 3), (.putfield 28, 3), (.iconst 1, 1), (.istore_n 2, 1), (.iload_n 2, 1), (.bipush 12, 2), (.if_icmp .ge 50, 3), (.iload_n 1, 1), (.aload_n 0, 1), (.getfield 28, 3), (.aload_n 0, 1), (.getfield 15, 3), (.iload_n 2, 1), (.invokestatic 31, 3), (.iadd, 1), (.if_icmp .lt 33, 3), (.aload_n 0, 1), (.dup, 1), (.getfield 28, 3), (.aload_n 0, 1), (.getfield 15, 3), (.iload_n 2, 1), (.invokestatic 31, 3), (.iadd, 1), (.putfield 28, 3), (.aload_n 0, 1), (.iload_n 2, 1), (.iconst 1, 1), (.iadd, 1), (.putfield 25, 3), (.iinc 2 1, 3), (.goto (-50), 3), (.aload_n 0, 1), (.iload_n 1, 1), (.aload_n 0, 1), (.getfield 28, 3), (.isub, 1), (.iconst 1, 1), (.iadd, 1), (.putfield 34, 3), (.aload_n 0, 1), (.invokevirtual 37, 3), (.return_, 1)]
abbrev mi_X0_goToDay : MI := (yX0_goToDay, cX0_goToDay, 3, none, [], { frames := 2, cells := 0, slots := 0, locals := 42 }, is_X0_goToDay)
theorem dc_X0_goToDay : dcb cX0_goToDay is_X0_goToDay 0 = true := by decide +kernel
theorem wc_X0_goToDay : cdw mi_X0_goToDay ∈ ALLW := aw (i := 532) (by decide +kernel) rfl
theorem wi_X0_goToDay : Cond.initialized (miY mi_X0_goToDay).cls ∈ ALLW := aw (i := 58) (by decide +kernel) rfl
theorem wn_X0_goToDay : Cond.instanceMethod (miY mi_X0_goToDay) ∈ ALLW := aw (i := 530) (by decide +kernel) rfl
theorem wv_X0_goToDay : Cond.selects (miY mi_X0_goToDay).cls (miY mi_X0_goToDay) (miY mi_X0_goToDay) ∈ ALLW := aw (i := 531) (by decide +kernel) rfl
def is_X0_goToMonth : List (Instr × Nat) := [(.aload_n 0, 1), (.iload_n 1, 1), (.putfield 15, 3), (.aload_n 0, 1), (.iload_n 2, 1), (.putfield 25, 3), (.aload_n 0, 1), (.iconst 1, 1), (.putfield 34, 3), (.aload_n 0, 1), (.aload_n 0, 1), (.getfield 15, 3), (.aload_n 0, 1), (.getfield 25, 3), (.invokestatic 40, 3), (.putfield 28, 3), (.aload_n 0, 1), (.invokevirtual 37, 3), (.return_, 1)]
abbrev mi_X0_goToMonth : MI := (yX0_goToMonth, cX0_goToMonth, 3, none, [], { frames := 2, cells := 0, slots := 0, locals := 45 }, is_X0_goToMonth)
theorem dc_X0_goToMonth : dcb cX0_goToMonth is_X0_goToMonth 0 = true := by decide +kernel
theorem wc_X0_goToMonth : cdw mi_X0_goToMonth ∈ ALLW := aw (i := 785) (by decide +kernel) rfl
theorem wi_X0_goToMonth : Cond.initialized (miY mi_X0_goToMonth).cls ∈ ALLW := aw (i := 58) (by decide +kernel) rfl
theorem wn_X0_goToMonth : Cond.instanceMethod (miY mi_X0_goToMonth) ∈ ALLW := aw (i := 783) (by decide +kernel) rfl
theorem wv_X0_goToMonth : Cond.selects (miY mi_X0_goToMonth).cls (miY mi_X0_goToMonth) (miY mi_X0_goToMonth) ∈ ALLW := aw (i := 784) (by decide +kernel) rfl
def is_X0_goToNextMonth : List (Instr × Nat) := [(.aload_n 0, 1), (.dup, 1), (.getfield 28, 3), (.aload_n 0, 1), (.getfield 42, 3), (.iadd, 1), (.putfield 28, 3), (.aload_n 0, 1), (.aload_n 0, 1), (.getfield 25, 3), (.bipush 12, 2), (.if_icmp .ne 12, 3), (.aload_n 0, 1), (.getfield 15, 3), (.iconst 1, 1), (.iadd, 1), (.goto 7, 3), (.aload_n 0, 1), (.getfield 15, 3), (.putfield 15, 3), (.aload_n 0, 1), (.aload_n 0, 1), (.getfield 25, 3), (.bipush 12, 2), (.if_icmp .ne 7, 3), (.iconst 1, 1), (.goto 9, 3), (.aload_n 0, 1), (.getfield 25, 3), (.iconst 1, 1), (.iadd, 1), (.putfield 25, 3), (.aload_n 0, 1), (.iconst 1, 1), (.putfield 34, 3), (.aload_n 0, 1), (.invokevirtual 37, 3), (.return_, 1)]
abbrev mi_X0_goToNextMonth : MI := (yX0_goToNextMonth, cX0_goToNextMonth, 1, none, [], { frames := 2, cells := 0, slots := 0, locals := 42 }, is_X0_goToNextMonth)
theorem dc_X0_goToNextMonth : dcb cX0_goToNextMonth is_X0_goToNextMonth 0 = true := by decide +kernel
theorem wc_X0_goToNextMonth : cdw mi_X0_goToNextMonth ∈ ALLW := aw (i := 872) (by decide +kernel) rfl
theorem wi_X0_goToNextMonth : Cond.initialized (miY mi_X0_goToNextMonth).cls ∈ ALLW := aw (i := 58) (by decide +kernel) rfl
theorem wn_X0_goToNextMonth : Cond.instanceMethod (miY mi_X0_goToNextMonth) ∈ ALLW := aw (i := 870) (by decide +kernel) rfl
theorem wv_X0_goToNextMonth : Cond.selects (miY mi_X0_goToNextMonth).cls (miY mi_X0_goToNextMonth) (miY mi_X0_goToNextMonth) ∈ ALLW := aw (i := 871) (by decide +kernel) rfl
def is_X0_goToMonthBefore : List (Instr × Nat) := [(.aload_n 0, 1), (.aload_n 0, 1), (.getfield 25, 3), (.iconst 1, 1), (.if_icmp .ne 12, 3), (.aload_n 0, 1), (.getfield 15, 3), (.iconst 1, 1), (.isub, 1), (.goto 7, 3), (.aload_n 0, 1), (.getfield 15, 3), (.putfield 15, 3), (.aload_n 0, 1), (.aload_n 0, 1), (.getfield 25, 3), (.iconst 1, 1), (.if_icmp .ne 8, 3), (.bipush 12, 2), (.goto 9, 3), (.aload_n 0, 1), (.getfield 25, 3), (.iconst 1, 1), (.isub, 1), (.putfield 25, 3), (.aload_n 0, 1), (.iconst 1, 1), (.putfield 34, 3), (.aload_n 0, 1), (.dup, 1), (.getfield 28, 3), (.aload_n 0, 1), (.getfield 15, 3), (.aload_n 0, 1), (.getfield 25, 3), (.invokestatic 31, 3), (.isub, 1), (.putfield 28, 3), (.aload_n 0, 1), (.invokevirtual 37, 3), (.return_, 1)]
abbrev mi_X0_goToMonthBefore : MI := (yX0_goToMonthBefore, cX0_goToMonthBefore, 1, none, [], { frames := 2, cells := 0, slots := 0, locals := 42 }, is_X0_goToMonthBefore)
theorem dc_X0_goToMonthBefore : dcb cX0_goToMonthBefore is_X0_goToMonthBefore 0 = true := by decide +kernel
theorem wc_X0_goToMonthBefore : cdw mi_X0_goToMonthBefore ∈ ALLW := aw (i := 916) (by decide +kernel) rfl
theorem wi_X0_goToMonthBefore : Cond.initialized (miY mi_X0_goToMonthBefore).cls ∈ ALLW := aw (i := 58) (by decide +kernel) rfl
theorem wn_X0_goToMonthBefore : Cond.instanceMethod (miY mi_X0_goToMonthBefore) ∈ ALLW := aw (i := 914) (by decide +kernel) rfl
theorem wv_X0_goToMonthBefore : Cond.selects (miY mi_X0_goToMonthBefore).cls (miY mi_X0_goToMonthBefore) (miY mi_X0_goToMonthBefore) ∈ ALLW := aw (i := 915) (by decide +kernel) rfl
def is_X0_daysWithin : List (Instr × Nat) := [(.iload_n 1, 1), (.aload_n 0, 1), (.getfield 28, 3), (.isub, 1), (.iconst 1, 1), (.iadd, 1), (.iconst 1, 1), (.invokestatic 51, 3), (.istore_n 3, 1), (.iload_n 2, 1), (.aload_n 0, 1), (.getfield 28, 3), (.isub, 1), (.iconst 1, 1), (.iadd, 1), (.aload_n 0, 1), (.getfield 42, 3), (.invokestatic 54, 3), (.istore 4, 2), (.iload_n 3, 1), (.iload 4, 2), (.if_icmp .le 7, 3), (.lconst 0, 1), (.goto 19, 3), (.iload 4, 2), (.iconst 1, 1), (.iadd, 1), (.invokestatic 57, 3), (.iload_n 3, 1), (.invokestatic 57, 3), (.ldc2_w 61, 3), (.lxor, 1), (.land, 1), (.lreturn, 1)]
abbrev mi_X0_daysWithin : MI := (yX0_daysWithin, cX0_daysWithin, 5, (some .long), [], { frames := 1, cells := 0, slots := 0, locals := 21 }, is_X0_daysWithin)
theorem dc_X0_daysWithin : dcb cX0_daysWithin is_X0_daysWithin 0 = true := by decide +kernel
theorem wc_X0_daysWithin : cdw mi_X0_daysWithin ∈ ALLW := aw (i := 864) (by decide +kernel) rfl
theorem wi_X0_daysWithin : Cond.initialized (miY mi_X0_daysWithin).cls ∈ ALLW := aw (i := 58) (by decide +kernel) rfl
theorem wn_X0_daysWithin : Cond.instanceMethod (miY mi_X0_daysWithin) ∈ ALLW := aw (i := 862) (by decide +kernel) rfl
theorem wv_X0_daysWithin : Cond.selects (miY mi_X0_daysWithin).cls (miY mi_X0_daysWithin) (miY mi_X0_daysWithin) ∈ ALLW := aw (i := 863) (by decide +kernel) rfl
def is_X1_kept : List (Instr × Nat) := [(.aload_n 0, 1), (.getfield 24, 3), (.sipush 300, 3), (.invokestatic 28, 3), (.ireturn, 1)]
abbrev mi_X1_kept : MI := (yX1_kept, cX1_kept, 1, (some .int), [], { frames := 1, cells := 0, slots := 0, locals := 21 }, is_X1_kept)
theorem dc_X1_kept : dcb cX1_kept is_X1_kept 0 = true := by decide +kernel
theorem wc_X1_kept : cdw mi_X1_kept ∈ ALLW := aw (i := 1045) (by decide +kernel) rfl
theorem wi_X1_kept : Cond.initialized (miY mi_X1_kept).cls ∈ ALLW := aw (i := 61) (by decide +kernel) rfl
theorem wn_X1_kept : Cond.instanceMethod (miY mi_X1_kept) ∈ ALLW := aw (i := 1043) (by decide +kernel) rfl
theorem wv_X1_kept : Cond.selects (miY mi_X1_kept).cls (miY mi_X1_kept) (miY mi_X1_kept) ∈ ALLW := aw (i := 1044) (by decide +kernel) rfl
def is_X1_add : List (Instr × Nat) := [(.aload_n 0, 1), (.getfield 24, 3), (.ifCond .lt 54, 3), (.aload_n 0, 1), (.getfield 24, 3), (.sipush 300, 3), (.if_icmp .ge 44, 3), (.aload_n 0, 1), (.getfield 9, 3), (.aload_n 0, 1), (.getfield 24, 3), (.iload_n 1, 1), (.iastore, 1), (.aload_n 0, 1), (.getfield 15, 3), (.aload_n 0, 1), (.getfield 24, 3), (.iload_n 2, 1), (.iastore, 1), (.aload_n 0, 1), (.getfield 18, 3), (.aload_n 0, 1), (.getfield 24, 3), (.iload_n 3, 1), (.iastore, 1), (.aload_n 0, 1), (.getfield 21, 3), (.aload_n 0, 1), (.getfield 24, 3), (.iload 4, 2), (.iastore, 1), (.aload_n 0, 1), (.dup, 1), (.getfield 24, 3), (.iconst 1, 1), (.iadd, 1), (.putfield 24, 3), (.return_, 1)]
abbrev mi_X1_add : MI := (yX1_add, cX1_add, 5, none, [], { frames := 0, cells := 0, slots := 0, locals := 0 }, is_X1_add)
theorem dc_X1_add : dcb cX1_add is_X1_add 0 = true := by decide +kernel
theorem wc_X1_add : cdw mi_X1_add ∈ ALLW := aw (i := 983) (by decide +kernel) rfl
theorem wi_X1_add : Cond.initialized (miY mi_X1_add).cls ∈ ALLW := aw (i := 61) (by decide +kernel) rfl
theorem wn_X1_add : Cond.instanceMethod (miY mi_X1_add) ∈ ALLW := aw (i := 981) (by decide +kernel) rfl
theorem wv_X1_add : Cond.selects (miY mi_X1_add).cls (miY mi_X1_add) (miY mi_X1_add) ∈ ALLW := aw (i := 982) (by decide +kernel) rfl
def is_X5_lastMinuteOf : List (Instr × Nat) := [(.iload_n 1, 1), (.aload_n 0, 1), (.getfield 18, 3), (.if_icmp .ge 16, 3), (.aload_n 0, 1), (.getfield 9, 3), (.iload_n 1, 1), (.iconst 1, 1), (.iadd, 1), (.iaload, 1), (.iconst 1, 1), (.isub, 1), (.goto 5, 3), (.ldc 22, 2), (.ireturn, 1)]
abbrev mi_X5_lastMinuteOf : MI := (yX5_lastMinuteOf, cX5_lastMinuteOf, 2, (some .int), [], { frames := 0, cells := 0, slots := 0, locals := 0 }, is_X5_lastMinuteOf)
theorem dc_X5_lastMinuteOf : dcb cX5_lastMinuteOf is_X5_lastMinuteOf 0 = true := by decide +kernel
theorem wc_X5_lastMinuteOf : cdw mi_X5_lastMinuteOf ∈ ALLW := aw (i := 571) (by decide +kernel) rfl
theorem wi_X5_lastMinuteOf : Cond.initialized (miY mi_X5_lastMinuteOf).cls ∈ ALLW := aw (i := 62) (by decide +kernel) rfl
theorem wn_X5_lastMinuteOf : Cond.instanceMethod (miY mi_X5_lastMinuteOf) ∈ ALLW := aw (i := 569) (by decide +kernel) rfl
theorem wv_X5_lastMinuteOf : Cond.selects (miY mi_X5_lastMinuteOf).cls (miY mi_X5_lastMinuteOf) (miY mi_X5_lastMinuteOf) ∈ ALLW := aw (i := 570) (by decide +kernel) rfl
def is_X5_begin : List (Instr × Nat) := [(.aload_n 0, 1), (.getfield 15, 3), (.iconst 0, 1), (.iload_n 1, 1), (.iastore, 1), (.aload_n 0, 1), (.iconst 0, 1), (.putfield 18, 3), (.return_, 1)]
abbrev mi_X5_begin : MI := (yX5_begin, cX5_begin, 2, none, [], { frames := 0, cells := 0, slots := 0, locals := 0 }, is_X5_begin)
theorem dc_X5_begin : dcb cX5_begin is_X5_begin 0 = true := by decide +kernel
theorem wc_X5_begin : cdw mi_X5_begin ∈ ALLW := aw (i := 472) (by decide +kernel) rfl
theorem wi_X5_begin : Cond.initialized (miY mi_X5_begin).cls ∈ ALLW := aw (i := 62) (by decide +kernel) rfl
theorem wn_X5_begin : Cond.instanceMethod (miY mi_X5_begin) ∈ ALLW := aw (i := 470) (by decide +kernel) rfl
theorem wv_X5_begin : Cond.selects (miY mi_X5_begin).cls (miY mi_X5_begin) (miY mi_X5_begin) ∈ ALLW := aw (i := 471) (by decide +kernel) rfl
def is_X5_isBehindLatest : List (Instr × Nat) := [(.aload_n 0, 1), (.getfield 18, 3), (.ifCond .eq 16, 3), (.iload_n 1, 1), (.aload_n 0, 1), (.getfield 9, 3), (.aload_n 0, 1), (.getfield 18, 3), (.iaload, 1), (.if_icmp .le 7, 3), (.iconst 1, 1), (.goto 4, 3), (.iconst 0, 1), (.ireturn, 1)]
abbrev mi_X5_isBehindLatest : MI := (yX5_isBehindLatest, cX5_isBehindLatest, 2, (some .boolean), [], { frames := 0, cells := 0, slots := 0, locals := 0 }, is_X5_isBehindLatest)
theorem dc_X5_isBehindLatest : dcb cX5_isBehindLatest is_X5_isBehindLatest 0 = true := by decide +kernel
theorem wc_X5_isBehindLatest : cdw mi_X5_isBehindLatest ∈ ALLW := aw (i := 489) (by decide +kernel) rfl
theorem wi_X5_isBehindLatest : Cond.initialized (miY mi_X5_isBehindLatest).cls ∈ ALLW := aw (i := 62) (by decide +kernel) rfl
theorem wn_X5_isBehindLatest : Cond.instanceMethod (miY mi_X5_isBehindLatest) ∈ ALLW := aw (i := 487) (by decide +kernel) rfl
theorem wv_X5_isBehindLatest : Cond.selects (miY mi_X5_isBehindLatest).cls (miY mi_X5_isBehindLatest) (miY mi_X5_isBehindLatest) ∈ ALLW := aw (i := 488) (by decide +kernel) rfl
def is_X5_add : List (Instr × Nat) := [(.aload_n 0, 1), (.getfield 18, 3), (.bipush 20, 2), (.if_icmp .ge 33, 3), (.aload_n 0, 1), (.dup, 1), (.getfield 18, 3), (.iconst 1, 1), (.iadd, 1), (.putfield 18, 3), (.aload_n 0, 1), (.getfield 9, 3), (.aload_n 0, 1), (.getfield 18, 3), (.iload_n 1, 1), (.iastore, 1), (.aload_n 0, 1), (.getfield 15, 3), (.aload_n 0, 1), (.getfield 18, 3), (.iload_n 2, 1), (.iastore, 1), (.return_, 1)]
abbrev mi_X5_add : MI := (yX5_add, cX5_add, 3, none, [], { frames := 0, cells := 0, slots := 0, locals := 0 }, is_X5_add)
theorem dc_X5_add : dcb cX5_add is_X5_add 0 = true := by decide +kernel
theorem wc_X5_add : cdw mi_X5_add ∈ ALLW := aw (i := 510) (by decide +kernel) rfl
theorem wi_X5_add : Cond.initialized (miY mi_X5_add).cls ∈ ALLW := aw (i := 62) (by decide +kernel) rfl
theorem wn_X5_add : Cond.instanceMethod (miY mi_X5_add) ∈ ALLW := aw (i := 508) (by decide +kernel) rfl
theorem wv_X5_add : Cond.selects (miY mi_X5_add).cls (miY mi_X5_add) (miY mi_X5_add) ∈ ALLW := aw (i := 509) (by decide +kernel) rfl
def is_X5_offsetAt : List (Instr × Nat) := [(.aload_n 0, 1), (.getfield 18, 3), (.istore_n 2, 1), (.iload_n 2, 1), (.ifCond .le 26, 3), (.iload_n 1, 1), (.aload_n 0, 1), (.getfield 9, 3), (.iload_n 2, 1), (.iaload, 1), (.if_icmp .lt 10, 3), (.aload_n 0, 1), (.getfield 15, 3), (.iload_n 2, 1), (.iaload, 1), (.ireturn, 1), (.iinc 2 (-1), 3), (.goto (-24), 3), (.aload_n 0, 1), (.getfield 15, 3), (.iconst 0, 1), (.iaload, 1), (.ireturn, 1)]
abbrev mi_X5_offsetAt : MI := (yX5_offsetAt, cX5_offsetAt, 3, (some .int), [], { frames := 0, cells := 0, slots := 0, locals := 0 }, is_X5_offsetAt)
theorem dc_X5_offsetAt : dcb cX5_offsetAt is_X5_offsetAt 0 = true := by decide +kernel
theorem wc_X5_offsetAt : cdw mi_X5_offsetAt ∈ ALLW := aw (i := 525) (by decide +kernel) rfl
theorem wi_X5_offsetAt : Cond.initialized (miY mi_X5_offsetAt).cls ∈ ALLW := aw (i := 62) (by decide +kernel) rfl
theorem wn_X5_offsetAt : Cond.instanceMethod (miY mi_X5_offsetAt) ∈ ALLW := aw (i := 523) (by decide +kernel) rfl
theorem wv_X5_offsetAt : Cond.selects (miY mi_X5_offsetAt).cls (miY mi_X5_offsetAt) (miY mi_X5_offsetAt) ∈ ALLW := aw (i := 524) (by decide +kernel) rfl
def is_X5_leastMinuteOf : List (Instr × Nat) := [(.iconst 0, 1), (.istore_n 2, 1), (.iload_n 2, 1), (.aload_n 0, 1), (.getfield 18, 3), (.if_icmp .gt 39, 3), (.iload_n 1, 1), (.aload_n 0, 1), (.getfield 15, 3), (.iload_n 2, 1), (.iaload, 1), (.isub, 1), (.istore_n 3, 1), (.iload_n 3, 1), (.aload_n 0, 1), (.getfield 9, 3), (.iload_n 2, 1), (.iaload, 1), (.if_icmp .lt 14, 3), (.iload_n 3, 1), (.aload_n 0, 1), (.iload_n 2, 1), (.invokevirtual 23, 3), (.if_icmp .gt 5, 3), (.iload_n 3, 1), (.ireturn, 1), (.iinc 2 1, 3), (.goto (-41), 3), (.iconst (-1), 1), (.ireturn, 1)]
abbrev mi_X5_leastMinuteOf : MI := (yX5_leastMinuteOf, cX5_leastMinuteOf, 4, (some .int), [], { frames := 1, cells := 0, slots := 0, locals := 21 }, is_X5_leastMinuteOf)
theorem dc_X5_leastMinuteOf : dcb cX5_leastMinuteOf is_X5_leastMinuteOf 0 = true := by decide +kernel
theorem wc_X5_leastMinuteOf : cdw mi_X5_leastMinuteOf ∈ ALLW := aw (i := 567) (by decide +kernel) rfl
theorem wi_X5_leastMinuteOf : Cond.initialized (miY mi_X5_leastMinuteOf).cls ∈ ALLW := aw (i := 62) (by decide +kernel) rfl
theorem wn_X5_leastMinuteOf : Cond.instanceMethod (miY mi_X5_leastMinuteOf) ∈ ALLW := aw (i := 565) (by decide +kernel) rfl
theorem wv_X5_leastMinuteOf : Cond.selects (miY mi_X5_leastMinuteOf).cls (miY mi_X5_leastMinuteOf) (miY mi_X5_leastMinuteOf) ∈ ALLW := aw (i := 566) (by decide +kernel) rfl
def V_X0_lookAtMonth (K : Rs → Mm → Prop) (M : Mm) (a0 : Nat) : Prop := (ob M a0 0 ∧ V_X6_daysOfMonth (kI (fun r3 M2 => (ob M2 a0 0 ∧ ∀ M5, M5 = sI M2 a0 4 r3 → V_J9_floorMod_7cf53 (kI (fun r7 M6 => (ob M6 a0 0 ∧ ∀ M9, M9 = sI M6 a0 5 r7 → K (.inl none) M9)) (fun _ _ => False)) M5 ((mI M5 a0 3) + (1 : Int32)) (7 : Int32))) (fun _ _ => False)) M (mI M a0 0) (mI M a0 1))
set_option maxRecDepth 100000 in
set_option maxHeartbeats 4000000 in
theorem x_X0_lookAtMonth {G : Gx} {K : Rs → Mm → Prop} {M : Mm} {a0 : Nat} (h : V_X0_lookAtMonth K M a0) : MC G mi_X0_lookAtMonth [.ref a0] M K := by
  unfold V_X0_lookAtMonth at h
  refine mc_of rfl (by decide +kernel) dc_X0_lookAtMonth (Nat.le_of_ble_eq_true rfl) 0 (Nat.le_of_ble_eq_true rfl) ?_
  show E G mi_X0_lookAtMonth K M 0 0 0 [some (.ref a0)] []
  refine e_blk 2 0 _ _ (pc' := 2) (L' := [some (.ref a0)]) (st' := [.ref a0, .ref a0]) rfl ?_
  obtain ⟨ho1, h⟩ := h
  refine e_getI 0 0 rfl rfl (by decide) (aw (i := 91) (by decide +kernel) rfl) ho1 rfl ?_
  refine e_blk 1 5 _ _ (pc' := 6) (L' := [some (.ref a0)]) (st' := [.ref a0, .int (mI M a0 0), .ref a0]) rfl ?_
  refine e_getI 0 1 rfl rfl (by decide) (aw (i := 94) (by decide +kernel) rfl) ho1 rfl ?_
  refine e_callSN (As := [.int (mI M a0 0), .int (mI M a0 1)]) (rest := [.ref a0]) (host := "CalendarOrders") rfl (x_X6_daysOfMonth h) (fun X M9 hq => hq) rfl (ao (i := 537) (by decide +kernel) rfl) ws_X6_daysOfMonth wi_X6_daysOfMonth wc_X6_daysOfMonth (show cok mi_X0_lookAtMonth mi_X6_daysOfMonth 0 0 2 = true by decide +kernel) (Nat.le_of_ble_eq_true rfl) (fun v9 M2 hq => ?_)
  obtain ⟨r3, rfl, h⟩ := kI_l hq
  obtain ⟨ho4, h⟩ := h
  refine e_putI 0 4 rfl rfl (by decide) (aw (i := 102) (by decide +kernel) rfl) rfl ho4 rfl ?_
  generalize hM5 : sI M2 a0 4 r3 = M5
  replace h := h M5 hM5.symm
  replace ho4 : ob M5 a0 0 := hM5 ▸ ob_sI ho4
  refine e_blk 2 15 _ _ (pc' := 17) (L' := [some (.ref a0)]) (st' := [.ref a0, .ref a0]) rfl ?_
  refine e_getI 0 3 rfl rfl (by decide) (aw (i := 100) (by decide +kernel) rfl) ho4 rfl ?_
  refine e_blk 3 20 _ _ (pc' := 24) (L' := [some (.ref a0)]) (st' := [.int (7 : Int32), .int ((mI M5 a0 3) + (1 : Int32)), .ref a0]) rfl ?_
  refine e_callS (As := [.int ((mI M5 a0 3) + (1 : Int32)), .int (7 : Int32)]) (rest := [.ref a0]) rfl (x_J9_floorMod_7cf53 h) rfl (aw (i := 544) (by decide +kernel) rfl) ws_J9_floorMod_7cf53 wi_J9_floorMod_7cf53 wc_J9_floorMod_7cf53 (show cok mi_X0_lookAtMonth mi_J9_floorMod_7cf53 0 0 2 = true by decide +kernel) (Nat.le_of_ble_eq_true rfl) (fun v9 M6 hq => ?_) (fun X M9 hq => False.elim hq)
  obtain ⟨r7, rfl, h⟩ := kI_l hq
  obtain ⟨ho8, h⟩ := h
  refine e_putI 0 5 rfl rfl (by decide) (aw (i := 106) (by decide +kernel) rfl) rfl ho8 rfl ?_
  generalize hM9 : sI M6 a0 5 r7 = M9
  replace h := h M9 hM9.symm
  replace ho8 : ob M9 a0 0 := hM9 ▸ ob_sI ho8
  exact e_ret rfl rfl (by decide) (by decide) h
def V_X0_goToDay_109 (K : Rs → Mm → Prop)  (M : Mm) (l0 : Nat) (l1 : Int32) : Prop := (ob M l0 0 ∧ ∀ M2, M2 = sI M l0 2 ((l1 - (mI M l0 3)) + (1 : Int32)) → V_X0_lookAtMonth (kV (fun M3 => K (.inl none) M3) (fun _ _ => False)) M2 l0)
set_option maxRecDepth 100000 in
set_option maxHeartbeats 4000000 in
theorem x_X0_goToDay_109 {G : Gx} {K : Rs → Mm → Prop}  {M : Mm} {l0 : Nat} {l1 : Int32} (h : V_X0_goToDay_109 K  M l0 l1) : E G mi_X0_goToDay K M 0 0 109 [some (.ref l0), some (.int l1), none] [] := by
  unfold V_X0_goToDay_109 at h
  refine e_blk 3 109 _ _ (pc' := 112) (L' := [some (.ref l0), some (.int l1), none]) (st' := [.ref l0, .int l1, .ref l0]) rfl ?_
  obtain ⟨ho1, h⟩ := h
  refine e_getI 0 3 rfl rfl (by decide) (aw (i := 100) (by decide +kernel) rfl) ho1 rfl ?_
  refine e_blk 3 115 _ _ (pc' := 118) (L' := [some (.ref l0), some (.int l1), none]) (st' := [.int ((l1 - (mI M l0 3)) + (1 : Int32)), .ref l0]) rfl ?_
  refine e_putI 0 2 rfl rfl (by decide) (aw (i := 97) (by decide +kernel) rfl) rfl ho1 rfl ?_
  generalize hM2 : sI M l0 2 ((l1 - (mI M l0 3)) + (1 : Int32)) = M2
  replace h := h M2 hM2.symm
  replace ho1 : ob M2 l0 0 := hM2 ▸ ob_sI ho1
  refine e_blk 1 121 _ _ (pc' := 122) (L' := [some (.ref l0), some (.int l1), none]) (st' := [.ref l0]) rfl ?_
  refine e_callV (As := []) (rest := []) (ci := 0) rfl (x_X0_lookAtMonth h) ho1 rfl rfl rfl (aw (i := 540) (by decide +kernel) rfl) wn_X0_lookAtMonth wv_X0_lookAtMonth wi_X0_lookAtMonth wc_X0_lookAtMonth (show cok mi_X0_goToDay mi_X0_lookAtMonth 0 0 0 = true by decide +kernel) (Nat.le_of_ble_eq_true rfl) (fun v9 M3 hq => ?_) (fun X M9 hq => False.elim hq)
  obtain ⟨rfl, h⟩ := kV_l hq
  exact e_ret rfl rfl (by decide) (by decide) h
def V_X0_goToDay_56 (K : Rs → Mm → Prop)  : Nat → Mm → Nat → Int32 → Int32 → Prop
  | 0, _, _, _, _ => False
  | z + 1, M, l0, l1, l2 => (((12 : Int32) ≤ l2 → V_X0_goToDay_109 K  M l0 l1) ∧ (¬ (12 : Int32) ≤ l2 → (ob M l0 0 ∧ V_X6_daysOfMonth (kI (fun r3 M2 => ((l1 < ((mI M l0 3) + r3) → V_X0_goToDay_109 K  M2 l0 l1) ∧ (¬ l1 < ((mI M l0 3) + r3) → (ob M2 l0 0 ∧ V_X6_daysOfMonth (kI (fun r6 M5 => (ob M5 l0 0 ∧ ∀ M8, M8 = sI M5 l0 3 ((mI M2 l0 3) + r6) → ∀ M9, M9 = sI M8 l0 1 (l2 + (1 : Int32)) → ∀ x10 : Int32, x10 = (l2 + (1 : Int32)) → V_X0_goToDay_56 K  z M9 l0 l1 x10)) (fun _ _ => False)) M2 (mI M2 l0 0) l2)))) (fun _ _ => False)) M (mI M l0 0) l2)))
set_option maxRecDepth 100000 in
set_option maxHeartbeats 4000000 in
theorem x_X0_goToDay_56 {G : Gx} {K : Rs → Mm → Prop}  : ∀ (z : Nat) (M : Mm) (l0 : Nat) (l1 : Int32) (l2 : Int32), V_X0_goToDay_56 K  z M l0 l1 l2 → E G mi_X0_goToDay K M 0 0 56 [some (.ref l0), some (.int l1), some (.int l2)] []
  | 0, M, l0, l1, l2, h => False.elim h
  | z + 1, M, l0, l1, l2, h => by
    unfold V_X0_goToDay_56 at h
    refine e_blk 2 56 _ _ (pc' := 59) (L' := [some (.ref l0), some (.int l1), some (.int l2)]) (st' := [.int (12 : Int32), .int l2]) rfl ?_
    refine e_icmp_ge 109 rfl rfl (fun hc => ?_) (fun hc => ?_)
    · replace h := h.1 hc
      refine e_drp [true, true, false] (L' := [some (.ref l0), some (.int l1), none]) rfl ?_
      exact x_X0_goToDay_109  h
    · replace h := h.2 hc
      refine e_blk 2 62 _ _ (pc' := 64) (L' := [some (.ref l0), some (.int l1), some (.int l2)]) (st' := [.ref l0, .int l1]) rfl ?_
      obtain ⟨ho1, h⟩ := h
      refine e_getI 0 3 rfl rfl (by decide) (aw (i := 100) (by decide +kernel) rfl) ho1 rfl ?_
      refine e_blk 1 67 _ _ (pc' := 68) (L' := [some (.ref l0), some (.int l1), some (.int l2)]) (st' := [.ref l0, .int (mI M l0 3), .int l1]) rfl ?_
      refine e_getI 0 0 rfl rfl (by decide) (aw (i := 91) (by decide +kernel) rfl) ho1 rfl ?_
      refine e_blk 1 71 _ _ (pc' := 72) (L' := [some (.ref l0), some (.int l1), some (.int l2)]) (st' := [.int l2, .int (mI M l0 0), .int (mI M l0 3), .int l1]) rfl ?_
      refine e_callSN (As := [.int (mI M l0 0), .int l2]) (rest := [.int (mI M l0 3), .int l1]) (host := "CalendarOrders") rfl (x_X6_daysOfMonth h) (fun X M9 hq => hq) rfl (ao (i := 537) (by decide +kernel) rfl) ws_X6_daysOfMonth wi_X6_daysOfMonth wc_X6_daysOfMonth (show cok mi_X0_goToDay mi_X6_daysOfMonth 0 0 2 = true by decide +kernel) (Nat.le_of_ble_eq_true rfl) (fun v9 M2 hq => ?_)
      obtain ⟨r3, rfl, h⟩ := kI_l hq
      refine e_blk 1 75 _ _ (pc' := 76) (L' := [some (.ref l0), some (.int l1), some (.int l2)]) (st' := [.int ((mI M l0 3) + r3), .int l1]) rfl ?_
      refine e_icmp_lt 109 rfl rfl (fun hc => ?_) (fun hc => ?_)
      · replace h := h.1 hc
        refine e_drp [true, true, false] (L' := [some (.ref l0), some (.int l1), none]) rfl ?_
        exact x_X0_goToDay_109  h
      · replace h := h.2 hc
        refine e_blk 2 79 _ _ (pc' := 81) (L' := [some (.ref l0), some (.int l1), some (.int l2)]) (st' := [.ref l0, .ref l0]) rfl ?_
        obtain ⟨ho4, h⟩ := h
        refine e_getI 0 3 rfl rfl (by decide) (aw (i := 100) (by decide +kernel) rfl) ho4 rfl ?_
        refine e_blk 1 84 _ _ (pc' := 85) (L' := [some (.ref l0), some (.int l1), some (.int l2)]) (st' := [.ref l0, .int (mI M2 l0 3), .ref l0]) rfl ?_
        refine e_getI 0 0 rfl rfl (by decide) (aw (i := 91) (by decide +kernel) rfl) ho4 rfl ?_
        refine e_blk 1 88 _ _ (pc' := 89) (L' := [some (.ref l0), some (.int l1), some (.int l2)]) (st' := [.int l2, .int (mI M2 l0 0), .int (mI M2 l0 3), .ref l0]) rfl ?_
        refine e_callSN (As := [.int (mI M2 l0 0), .int l2]) (rest := [.int (mI M2 l0 3), .ref l0]) (host := "CalendarOrders") rfl (x_X6_daysOfMonth h) (fun X M9 hq => hq) rfl (ao (i := 537) (by decide +kernel) rfl) ws_X6_daysOfMonth wi_X6_daysOfMonth wc_X6_daysOfMonth (show cok mi_X0_goToDay mi_X6_daysOfMonth 0 0 2 = true by decide +kernel) (Nat.le_of_ble_eq_true rfl) (fun v9 M5 hq => ?_)
        obtain ⟨r6, rfl, h⟩ := kI_l hq
        refine e_blk 1 92 _ _ (pc' := 93) (L' := [some (.ref l0), some (.int l1), some (.int l2)]) (st' := [.int ((mI M2 l0 3) + r6), .ref l0]) rfl ?_
        obtain ⟨ho7, h⟩ := h
        refine e_putI 0 3 rfl rfl (by decide) (aw (i := 100) (by decide +kernel) rfl) rfl ho7 rfl ?_
        generalize hM8 : sI M5 l0 3 ((mI M2 l0 3) + r6) = M8
        replace h := h M8 hM8.symm
        replace ho7 : ob M8 l0 0 := hM8 ▸ ob_sI ho7
        refine e_blk 4 96 _ _ (pc' := 100) (L' := [some (.ref l0), some (.int l1), some (.int l2)]) (st' := [.int (l2 + (1 : Int32)), .ref l0]) rfl ?_
        refine e_putI 0 1 rfl rfl (by decide) (aw (i := 94) (by decide +kernel) rfl) rfl ho7 rfl ?_
        generalize hM9 : sI M8 l0 1 (l2 + (1 : Int32)) = M9
        replace h := h M9 hM9.symm
        replace ho7 : ob M9 l0 0 := hM9 ▸ ob_sI ho7
        refine e_blk 2 103 _ _ (pc' := 56) (L' := [some (.ref l0), some (.int l1), some (.int (l2 + (1 : Int32)))]) (st' := []) rfl ?_
        generalize hx_x10 : ((l2 + (1 : Int32)) : Int32) = x10
        replace h := h x10 hx_x10.symm
        refine e_drp [true, true, true] (L' := [some (.ref l0), some (.int l1), some (.int x10)]) rfl ?_
        exact x_X0_goToDay_56  z _ _ _ _ h
def V_X0_goToDay_38 (K : Rs → Mm → Prop)  (M : Mm) (l0 : Nat) (l1 : Int32) : Prop := (ob M l0 0 ∧ ∀ M2, M2 = sI M l0 1 (1 : Int32) → V_X6_yearStart (kI (fun r4 M3 => (ob M3 l0 0 ∧ ∀ M6, M6 = sI M3 l0 3 r4 → ∃ y, V_X0_goToDay_56 K  y M6 l0 l1 (1 : Int32))) (fun _ _ => False)) M2 (mI M2 l0 0))
set_option maxRecDepth 100000 in
set_option maxHeartbeats 4000000 in
theorem x_X0_goToDay_38 {G : Gx} {K : Rs → Mm → Prop}  {M : Mm} {l0 : Nat} {l1 : Int32} (h : V_X0_goToDay_38 K  M l0 l1) : E G mi_X0_goToDay K M 0 0 38 [some (.ref l0), some (.int l1), none] [] := by
  unfold V_X0_goToDay_38 at h
  refine e_blk 2 38 _ _ (pc' := 40) (L' := [some (.ref l0), some (.int l1), none]) (st' := [.int (1 : Int32), .ref l0]) rfl ?_
  obtain ⟨ho1, h⟩ := h
  refine e_putI 0 1 rfl rfl (by decide) (aw (i := 94) (by decide +kernel) rfl) rfl ho1 rfl ?_
  generalize hM2 : sI M l0 1 (1 : Int32) = M2
  replace h := h M2 hM2.symm
  replace ho1 : ob M2 l0 0 := hM2 ▸ ob_sI ho1
  refine e_blk 2 43 _ _ (pc' := 45) (L' := [some (.ref l0), some (.int l1), none]) (st' := [.ref l0, .ref l0]) rfl ?_
  refine e_getI 0 0 rfl rfl (by decide) (aw (i := 91) (by decide +kernel) rfl) ho1 rfl ?_
  refine e_callSN (As := [.int (mI M2 l0 0)]) (rest := [.ref l0]) (host := "CalendarOrders") rfl (x_X6_yearStart h) (fun X M9 hq => hq) rfl (ao (i := 534) (by decide +kernel) rfl) ws_X6_yearStart wi_X6_yearStart wc_X6_yearStart (show cok mi_X0_goToDay mi_X6_yearStart 0 0 1 = true by decide +kernel) (Nat.le_of_ble_eq_true rfl) (fun v9 M3 hq => ?_)
  obtain ⟨r4, rfl, h⟩ := kI_l hq
  obtain ⟨ho5, h⟩ := h
  refine e_putI 0 3 rfl rfl (by decide) (aw (i := 100) (by decide +kernel) rfl) rfl ho5 rfl ?_
  generalize hM6 : sI M3 l0 3 r4 = M6
  replace h := h M6 hM6.symm
  replace ho5 : ob M6 l0 0 := hM6 ▸ ob_sI ho5
  refine e_blk 2 54 _ _ (pc' := 56) (L' := [some (.ref l0), some (.int l1), some (.int (1 : Int32))]) (st' := []) rfl ?_
  refine e_drp [true, true, true] (L' := [some (.ref l0), some (.int l1), some (.int (1 : Int32))]) rfl ?_
  obtain ⟨y, h⟩ := h
  exact x_X0_goToDay_56  y _ _ _ _ h
def V_X0_goToDay (K : Rs → Mm → Prop) (M : Mm) (a0 : Nat) (a1 : Int32) : Prop := V_J9_floorDiv_7cf53 (kI (fun r2 M1 => (ob M1 a0 0 ∧ ∀ M4, M4 = sI M1 a0 0 ((1900 : Int32) + r2) → V_X6_yearStart (kI (fun r6 M5 => ((a1 < r6 → V_X0_goToDay_38 K  M5 a0 a1) ∧ (¬ a1 < r6 → (ob M5 a0 0 ∧ ∀ M8, M8 = sI M5 a0 0 ((mI M5 a0 0) + (1 : Int32)) → V_X0_goToDay_38 K  M8 a0 a1)))) (fun _ _ => False)) M4 ((mI M4 a0 0) + (1 : Int32)))) (fun _ _ => False)) M a1 (366 : Int32)
set_option maxRecDepth 100000 in
set_option maxHeartbeats 4000000 in
theorem x_X0_goToDay {G : Gx} {K : Rs → Mm → Prop} {M : Mm} {a0 : Nat} {a1 : Int32} (h : V_X0_goToDay K M a0 a1) : MC G mi_X0_goToDay [.ref a0, .int a1] M K := by
  unfold V_X0_goToDay at h
  refine mc_of rfl (by decide +kernel) dc_X0_goToDay (Nat.le_of_ble_eq_true rfl) 1 (Nat.le_of_ble_eq_true rfl) ?_
  show E G mi_X0_goToDay K M 0 0 0 [some (.ref a0), some (.int a1), none] []
  refine e_blk 4 0 _ _ (pc' := 8) (L' := [some (.ref a0), some (.int a1), none]) (st' := [.int (366 : Int32), .int a1, .int (1900 : Int32), .ref a0]) rfl ?_
  refine e_callS (As := [.int a1, .int (366 : Int32)]) (rest := [.int (1900 : Int32), .ref a0]) rfl (x_J9_floorDiv_7cf53 h) rfl (aw (i := 533) (by decide +kernel) rfl) ws_J9_floorDiv_7cf53 wi_J9_floorDiv_7cf53 wc_J9_floorDiv_7cf53 (show cok mi_X0_goToDay mi_J9_floorDiv_7cf53 0 0 2 = true by decide +kernel) (Nat.le_of_ble_eq_true rfl) (fun v9 M1 hq => ?_) (fun X M9 hq => False.elim hq)
  obtain ⟨r2, rfl, h⟩ := kI_l hq
  refine e_blk 1 11 _ _ (pc' := 12) (L' := [some (.ref a0), some (.int a1), none]) (st' := [.int ((1900 : Int32) + r2), .ref a0]) rfl ?_
  obtain ⟨ho3, h⟩ := h
  refine e_putI 0 0 rfl rfl (by decide) (aw (i := 91) (by decide +kernel) rfl) rfl ho3 rfl ?_
  generalize hM4 : sI M1 a0 0 ((1900 : Int32) + r2) = M4
  replace h := h M4 hM4.symm
  replace ho3 : ob M4 a0 0 := hM4 ▸ ob_sI ho3
  refine e_blk 2 15 _ _ (pc' := 17) (L' := [some (.ref a0), some (.int a1), none]) (st' := [.ref a0, .int a1]) rfl ?_
  refine e_getI 0 0 rfl rfl (by decide) (aw (i := 91) (by decide +kernel) rfl) ho3 rfl ?_
  refine e_blk 2 20 _ _ (pc' := 22) (L' := [some (.ref a0), some (.int a1), none]) (st' := [.int ((mI M4 a0 0) + (1 : Int32)), .int a1]) rfl ?_
  refine e_callSN (As := [.int ((mI M4 a0 0) + (1 : Int32))]) (rest := [.int a1]) (host := "CalendarOrders") rfl (x_X6_yearStart h) (fun X M9 hq => hq) rfl (ao (i := 534) (by decide +kernel) rfl) ws_X6_yearStart wi_X6_yearStart wc_X6_yearStart (show cok mi_X0_goToDay mi_X6_yearStart 0 0 1 = true by decide +kernel) (Nat.le_of_ble_eq_true rfl) (fun v9 M5 hq => ?_)
  obtain ⟨r6, rfl, h⟩ := kI_l hq
  refine e_icmp_lt 38 rfl rfl (fun hc => ?_) (fun hc => ?_)
  · replace h := h.1 hc
    refine e_drp [true, true, false] (L' := [some (.ref a0), some (.int a1), none]) rfl ?_
    exact x_X0_goToDay_38  h
  · replace h := h.2 hc
    refine e_blk 2 28 _ _ (pc' := 30) (L' := [some (.ref a0), some (.int a1), none]) (st' := [.ref a0, .ref a0]) rfl ?_
    obtain ⟨ho7, h⟩ := h
    refine e_getI 0 0 rfl rfl (by decide) (aw (i := 91) (by decide +kernel) rfl) ho7 rfl ?_
    refine e_blk 2 33 _ _ (pc' := 35) (L' := [some (.ref a0), some (.int a1), none]) (st' := [.int ((mI M5 a0 0) + (1 : Int32)), .ref a0]) rfl ?_
    refine e_putI 0 0 rfl rfl (by decide) (aw (i := 91) (by decide +kernel) rfl) rfl ho7 rfl ?_
    generalize hM8 : sI M5 a0 0 ((mI M5 a0 0) + (1 : Int32)) = M8
    replace h := h M8 hM8.symm
    replace ho7 : ob M8 a0 0 := hM8 ▸ ob_sI ho7
    refine e_drp [true, true, false] (L' := [some (.ref a0), some (.int a1), none]) rfl ?_
    exact x_X0_goToDay_38  h
def V_X0_goToMonth (K : Rs → Mm → Prop) (M : Mm) (a0 : Nat) (a1 : Int32) (a2 : Int32) : Prop := (ob M a0 0 ∧ ∀ M2, M2 = sI M a0 0 a1 → ∀ M3, M3 = sI M2 a0 1 a2 → ∀ M4, M4 = sI M3 a0 2 (1 : Int32) → V_X6_monthStart (kI (fun r6 M5 => (ob M5 a0 0 ∧ ∀ M8, M8 = sI M5 a0 3 r6 → V_X0_lookAtMonth (kV (fun M9 => K (.inl none) M9) (fun _ _ => False)) M8 a0)) (fun _ _ => False)) M4 (mI M4 a0 0) (mI M4 a0 1))
set_option maxRecDepth 100000 in
set_option maxHeartbeats 4000000 in
theorem x_X0_goToMonth {G : Gx} {K : Rs → Mm → Prop} {M : Mm} {a0 : Nat} {a1 : Int32} {a2 : Int32} (h : V_X0_goToMonth K M a0 a1 a2) : MC G mi_X0_goToMonth [.ref a0, .int a1, .int a2] M K := by
  unfold V_X0_goToMonth at h
  refine mc_of rfl (by decide +kernel) dc_X0_goToMonth (Nat.le_of_ble_eq_true rfl) 0 (Nat.le_of_ble_eq_true rfl) ?_
  show E G mi_X0_goToMonth K M 0 0 0 [some (.ref a0), some (.int a1), some (.int a2)] []
  refine e_blk 2 0 _ _ (pc' := 2) (L' := [some (.ref a0), some (.int a1), some (.int a2)]) (st' := [.int a1, .ref a0]) rfl ?_
  obtain ⟨ho1, h⟩ := h
  refine e_putI 0 0 rfl rfl (by decide) (aw (i := 91) (by decide +kernel) rfl) rfl ho1 rfl ?_
  generalize hM2 : sI M a0 0 a1 = M2
  replace h := h M2 hM2.symm
  replace ho1 : ob M2 a0 0 := hM2 ▸ ob_sI ho1
  refine e_blk 2 5 _ _ (pc' := 7) (L' := [some (.ref a0), some (.int a1), some (.int a2)]) (st' := [.int a2, .ref a0]) rfl ?_
  refine e_putI 0 1 rfl rfl (by decide) (aw (i := 94) (by decide +kernel) rfl) rfl ho1 rfl ?_
  generalize hM3 : sI M2 a0 1 a2 = M3
  replace h := h M3 hM3.symm
  replace ho1 : ob M3 a0 0 := hM3 ▸ ob_sI ho1
  refine e_blk 2 10 _ _ (pc' := 12) (L' := [some (.ref a0), some (.int a1), some (.int a2)]) (st' := [.int (1 : Int32), .ref a0]) rfl ?_
  refine e_putI 0 2 rfl rfl (by decide) (aw (i := 97) (by decide +kernel) rfl) rfl ho1 rfl ?_
  generalize hM4 : sI M3 a0 2 (1 : Int32) = M4
  replace h := h M4 hM4.symm
  replace ho1 : ob M4 a0 0 := hM4 ▸ ob_sI ho1
  refine e_blk 2 15 _ _ (pc' := 17) (L' := [some (.ref a0), some (.int a1), some (.int a2)]) (st' := [.ref a0, .ref a0]) rfl ?_
  refine e_getI 0 0 rfl rfl (by decide) (aw (i := 91) (by decide +kernel) rfl) ho1 rfl ?_
  refine e_blk 1 20 _ _ (pc' := 21) (L' := [some (.ref a0), some (.int a1), some (.int a2)]) (st' := [.ref a0, .int (mI M4 a0 0), .ref a0]) rfl ?_
  refine e_getI 0 1 rfl rfl (by decide) (aw (i := 94) (by decide +kernel) rfl) ho1 rfl ?_
  refine e_callSN (As := [.int (mI M4 a0 0), .int (mI M4 a0 1)]) (rest := [.ref a0]) (host := "CalendarOrders") rfl (x_X6_monthStart h) (fun X M9 hq => hq) rfl (ao (i := 786) (by decide +kernel) rfl) ws_X6_monthStart wi_X6_monthStart wc_X6_monthStart (show cok mi_X0_goToMonth mi_X6_monthStart 0 0 2 = true by decide +kernel) (Nat.le_of_ble_eq_true rfl) (fun v9 M5 hq => ?_)
  obtain ⟨r6, rfl, h⟩ := kI_l hq
  obtain ⟨ho7, h⟩ := h
  refine e_putI 0 3 rfl rfl (by decide) (aw (i := 100) (by decide +kernel) rfl) rfl ho7 rfl ?_
  generalize hM8 : sI M5 a0 3 r6 = M8
  replace h := h M8 hM8.symm
  replace ho7 : ob M8 a0 0 := hM8 ▸ ob_sI ho7
  refine e_blk 1 30 _ _ (pc' := 31) (L' := [some (.ref a0), some (.int a1), some (.int a2)]) (st' := [.ref a0]) rfl ?_
  refine e_callV (As := []) (rest := []) (ci := 0) rfl (x_X0_lookAtMonth h) ho7 rfl rfl rfl (aw (i := 540) (by decide +kernel) rfl) wn_X0_lookAtMonth wv_X0_lookAtMonth wi_X0_lookAtMonth wc_X0_lookAtMonth (show cok mi_X0_goToMonth mi_X0_lookAtMonth 0 0 0 = true by decide +kernel) (Nat.le_of_ble_eq_true rfl) (fun v9 M9 hq => ?_) (fun X M9 hq => False.elim hq)
  obtain ⟨rfl, h⟩ := kV_l hq
  exact e_ret rfl rfl (by decide) (by decide) h
def V_X0_goToNextMonth_59 (K : Rs → Mm → Prop)  (M : Mm) (l0 : Nat) (s0 : Nat) (s1 : Int32) : Prop := (ob M s0 0 ∧ ∀ M2, M2 = sI M s0 1 s1 → (ob M2 l0 0 ∧ ∀ M4, M4 = sI M2 l0 2 (1 : Int32) → V_X0_lookAtMonth (kV (fun M5 => K (.inl none) M5) (fun _ _ => False)) M4 l0))
set_option maxRecDepth 100000 in
set_option maxHeartbeats 4000000 in
theorem x_X0_goToNextMonth_59 {G : Gx} {K : Rs → Mm → Prop}  {M : Mm} {l0 : Nat} {s0 : Nat} {s1 : Int32} (h : V_X0_goToNextMonth_59 K  M l0 s0 s1) : E G mi_X0_goToNextMonth K M 0 0 59 [some (.ref l0)] [.int s1, .ref s0] := by
  unfold V_X0_goToNextMonth_59 at h
  obtain ⟨ho1, h⟩ := h
  refine e_putI 0 1 rfl rfl (by decide) (aw (i := 94) (by decide +kernel) rfl) rfl ho1 rfl ?_
  generalize hM2 : sI M s0 1 s1 = M2
  replace h := h M2 hM2.symm
  replace ho1 : ob M2 s0 0 := hM2 ▸ ob_sI ho1
  refine e_blk 2 62 _ _ (pc' := 64) (L' := [some (.ref l0)]) (st' := [.int (1 : Int32), .ref l0]) rfl ?_
  obtain ⟨ho3, h⟩ := h
  refine e_putI 0 2 rfl rfl (by decide) (aw (i := 97) (by decide +kernel) rfl) rfl ho3 rfl ?_
  generalize hM4 : sI M2 l0 2 (1 : Int32) = M4
  replace h := h M4 hM4.symm
  replace ho1 : ob M4 s0 0 := hM4 ▸ ob_sI ho1
  replace ho3 : ob M4 l0 0 := hM4 ▸ ob_sI ho3
  refine e_blk 1 67 _ _ (pc' := 68) (L' := [some (.ref l0)]) (st' := [.ref l0]) rfl ?_
  refine e_callV (As := []) (rest := []) (ci := 0) rfl (x_X0_lookAtMonth h) ho3 rfl rfl rfl (aw (i := 540) (by decide +kernel) rfl) wn_X0_lookAtMonth wv_X0_lookAtMonth wi_X0_lookAtMonth wc_X0_lookAtMonth (show cok mi_X0_goToNextMonth mi_X0_lookAtMonth 0 0 0 = true by decide +kernel) (Nat.le_of_ble_eq_true rfl) (fun v9 M5 hq => ?_) (fun X M9 hq => False.elim hq)
  obtain ⟨rfl, h⟩ := kV_l hq
  exact e_ret rfl rfl (by decide) (by decide) h
def V_X0_goToNextMonth_36 (K : Rs → Mm → Prop)  (M : Mm) (l0 : Nat) (s0 : Nat) (s1 : Int32) : Prop := (ob M s0 0 ∧ ∀ M2, M2 = sI M s0 0 s1 → (ob M2 l0 0 ∧ ((¬ (mI M2 l0 1) = (12 : Int32) → V_X0_goToNextMonth_59 K  M2 l0 l0 ((mI M2 l0 1) + (1 : Int32))) ∧ ((mI M2 l0 1) = (12 : Int32) → V_X0_goToNextMonth_59 K  M2 l0 l0 (1 : Int32)))))
set_option maxRecDepth 100000 in
set_option maxHeartbeats 4000000 in
theorem x_X0_goToNextMonth_36 {G : Gx} {K : Rs → Mm → Prop}  {M : Mm} {l0 : Nat} {s0 : Nat} {s1 : Int32} (h : V_X0_goToNextMonth_36 K  M l0 s0 s1) : E G mi_X0_goToNextMonth K M 0 0 36 [some (.ref l0)] [.int s1, .ref s0] := by
  unfold V_X0_goToNextMonth_36 at h
  obtain ⟨ho1, h⟩ := h
  refine e_putI 0 0 rfl rfl (by decide) (aw (i := 91) (by decide +kernel) rfl) rfl ho1 rfl ?_
  generalize hM2 : sI M s0 0 s1 = M2
  replace h := h M2 hM2.symm
  replace ho1 : ob M2 s0 0 := hM2 ▸ ob_sI ho1
  refine e_blk 2 39 _ _ (pc' := 41) (L' := [some (.ref l0)]) (st' := [.ref l0, .ref l0]) rfl ?_
  obtain ⟨ho3, h⟩ := h
  refine e_getI 0 1 rfl rfl (by decide) (aw (i := 94) (by decide +kernel) rfl) ho3 rfl ?_
  refine e_blk 1 44 _ _ (pc' := 46) (L' := [some (.ref l0)]) (st' := [.int (12 : Int32), .int (mI M2 l0 1), .ref l0]) rfl ?_
  refine e_icmp_ne 53 rfl rfl (fun hc => ?_) (fun hc => ?_)
  · replace h := h.1 hc
    refine e_blk 1 53 _ _ (pc' := 54) (L' := [some (.ref l0)]) (st' := [.ref l0, .ref l0]) rfl ?_
    refine e_getI 0 1 rfl rfl (by decide) (aw (i := 94) (by decide +kernel) rfl) ho3 rfl ?_
    refine e_blk 2 57 _ _ (pc' := 59) (L' := [some (.ref l0)]) (st' := [.int ((mI M2 l0 1) + (1 : Int32)), .ref l0]) rfl ?_
    refine e_drp [true] (L' := [some (.ref l0)]) rfl ?_
    exact x_X0_goToNextMonth_59  h
  · replace h := h.2 hc
    refine e_blk 2 49 _ _ (pc' := 59) (L' := [some (.ref l0)]) (st' := [.int (1 : Int32), .ref l0]) rfl ?_
    refine e_drp [true] (L' := [some (.ref l0)]) rfl ?_
    exact x_X0_goToNextMonth_59  h
def V_X0_goToNextMonth (K : Rs → Mm → Prop) (M : Mm) (a0 : Nat) : Prop := (ob M a0 0 ∧ ∀ M2, M2 = sI M a0 3 ((mI M a0 3) + (mI M a0 4)) → ((¬ (mI M2 a0 1) = (12 : Int32) → V_X0_goToNextMonth_36 K  M2 a0 a0 (mI M2 a0 0)) ∧ ((mI M2 a0 1) = (12 : Int32) → V_X0_goToNextMonth_36 K  M2 a0 a0 ((mI M2 a0 0) + (1 : Int32)))))
set_option maxRecDepth 100000 in
set_option maxHeartbeats 4000000 in
theorem x_X0_goToNextMonth {G : Gx} {K : Rs → Mm → Prop} {M : Mm} {a0 : Nat} (h : V_X0_goToNextMonth K M a0) : MC G mi_X0_goToNextMonth [.ref a0] M K := by
  unfold V_X0_goToNextMonth at h
  refine mc_of rfl (by decide +kernel) dc_X0_goToNextMonth (Nat.le_of_ble_eq_true rfl) 0 (Nat.le_of_ble_eq_true rfl) ?_
  show E G mi_X0_goToNextMonth K M 0 0 0 [some (.ref a0)] []
  refine e_blk 2 0 _ _ (pc' := 2) (L' := [some (.ref a0)]) (st' := [.ref a0, .ref a0]) rfl ?_
  obtain ⟨ho1, h⟩ := h
  refine e_getI 0 3 rfl rfl (by decide) (aw (i := 100) (by decide +kernel) rfl) ho1 rfl ?_
  refine e_blk 1 5 _ _ (pc' := 6) (L' := [some (.ref a0)]) (st' := [.ref a0, .int (mI M a0 3), .ref a0]) rfl ?_
  refine e_getI 0 4 rfl rfl (by decide) (aw (i := 102) (by decide +kernel) rfl) ho1 rfl ?_
  refine e_blk 1 9 _ _ (pc' := 10) (L' := [some (.ref a0)]) (st' := [.int ((mI M a0 3) + (mI M a0 4)), .ref a0]) rfl ?_
  refine e_putI 0 3 rfl rfl (by decide) (aw (i := 100) (by decide +kernel) rfl) rfl ho1 rfl ?_
  generalize hM2 : sI M a0 3 ((mI M a0 3) + (mI M a0 4)) = M2
  replace h := h M2 hM2.symm
  replace ho1 : ob M2 a0 0 := hM2 ▸ ob_sI ho1
  refine e_blk 2 13 _ _ (pc' := 15) (L' := [some (.ref a0)]) (st' := [.ref a0, .ref a0]) rfl ?_
  refine e_getI 0 1 rfl rfl (by decide) (aw (i := 94) (by decide +kernel) rfl) ho1 rfl ?_
  refine e_blk 1 18 _ _ (pc' := 20) (L' := [some (.ref a0)]) (st' := [.int (12 : Int32), .int (mI M2 a0 1), .ref a0]) rfl ?_
  refine e_icmp_ne 32 rfl rfl (fun hc => ?_) (fun hc => ?_)
  · replace h := h.1 hc
    refine e_blk 1 32 _ _ (pc' := 33) (L' := [some (.ref a0)]) (st' := [.ref a0, .ref a0]) rfl ?_
    refine e_getI 0 0 rfl rfl (by decide) (aw (i := 91) (by decide +kernel) rfl) ho1 rfl ?_
    refine e_drp [true] (L' := [some (.ref a0)]) rfl ?_
    exact x_X0_goToNextMonth_36  h
  · replace h := h.2 hc
    refine e_blk 1 23 _ _ (pc' := 24) (L' := [some (.ref a0)]) (st' := [.ref a0, .ref a0]) rfl ?_
    refine e_getI 0 0 rfl rfl (by decide) (aw (i := 91) (by decide +kernel) rfl) ho1 rfl ?_
    refine e_blk 3 27 _ _ (pc' := 36) (L' := [some (.ref a0)]) (st' := [.int ((mI M2 a0 0) + (1 : Int32)), .ref a0]) rfl ?_
    refine e_drp [true] (L' := [some (.ref a0)]) rfl ?_
    exact x_X0_goToNextMonth_36  h
def V_X0_goToMonthBefore_45 (K : Rs → Mm → Prop)  (M : Mm) (l0 : Nat) (s0 : Nat) (s1 : Int32) : Prop := (ob M s0 0 ∧ ∀ M2, M2 = sI M s0 1 s1 → (ob M2 l0 0 ∧ ∀ M4, M4 = sI M2 l0 2 (1 : Int32) → V_X6_daysOfMonth (kI (fun r6 M5 => (ob M5 l0 0 ∧ ∀ M8, M8 = sI M5 l0 3 ((mI M4 l0 3) - r6) → V_X0_lookAtMonth (kV (fun M9 => K (.inl none) M9) (fun _ _ => False)) M8 l0)) (fun _ _ => False)) M4 (mI M4 l0 0) (mI M4 l0 1)))
set_option maxRecDepth 100000 in
set_option maxHeartbeats 4000000 in
theorem x_X0_goToMonthBefore_45 {G : Gx} {K : Rs → Mm → Prop}  {M : Mm} {l0 : Nat} {s0 : Nat} {s1 : Int32} (h : V_X0_goToMonthBefore_45 K  M l0 s0 s1) : E G mi_X0_goToMonthBefore K M 0 0 45 [some (.ref l0)] [.int s1, .ref s0] := by
  unfold V_X0_goToMonthBefore_45 at h
  obtain ⟨ho1, h⟩ := h
  refine e_putI 0 1 rfl rfl (by decide) (aw (i := 94) (by decide +kernel) rfl) rfl ho1 rfl ?_
  generalize hM2 : sI M s0 1 s1 = M2
  replace h := h M2 hM2.symm
  replace ho1 : ob M2 s0 0 := hM2 ▸ ob_sI ho1
  refine e_blk 2 48 _ _ (pc' := 50) (L' := [some (.ref l0)]) (st' := [.int (1 : Int32), .ref l0]) rfl ?_
  obtain ⟨ho3, h⟩ := h
  refine e_putI 0 2 rfl rfl (by decide) (aw (i := 97) (by decide +kernel) rfl) rfl ho3 rfl ?_
  generalize hM4 : sI M2 l0 2 (1 : Int32) = M4
  replace h := h M4 hM4.symm
  replace ho1 : ob M4 s0 0 := hM4 ▸ ob_sI ho1
  replace ho3 : ob M4 l0 0 := hM4 ▸ ob_sI ho3
  refine e_blk 2 53 _ _ (pc' := 55) (L' := [some (.ref l0)]) (st' := [.ref l0, .ref l0]) rfl ?_
  refine e_getI 0 3 rfl rfl (by decide) (aw (i := 100) (by decide +kernel) rfl) ho3 rfl ?_
  refine e_blk 1 58 _ _ (pc' := 59) (L' := [some (.ref l0)]) (st' := [.ref l0, .int (mI M4 l0 3), .ref l0]) rfl ?_
  refine e_getI 0 0 rfl rfl (by decide) (aw (i := 91) (by decide +kernel) rfl) ho3 rfl ?_
  refine e_blk 1 62 _ _ (pc' := 63) (L' := [some (.ref l0)]) (st' := [.ref l0, .int (mI M4 l0 0), .int (mI M4 l0 3), .ref l0]) rfl ?_
  refine e_getI 0 1 rfl rfl (by decide) (aw (i := 94) (by decide +kernel) rfl) ho3 rfl ?_
  refine e_callSN (As := [.int (mI M4 l0 0), .int (mI M4 l0 1)]) (rest := [.int (mI M4 l0 3), .ref l0]) (host := "CalendarOrders") rfl (x_X6_daysOfMonth h) (fun X M9 hq => hq) rfl (ao (i := 537) (by decide +kernel) rfl) ws_X6_daysOfMonth wi_X6_daysOfMonth wc_X6_daysOfMonth (show cok mi_X0_goToMonthBefore mi_X6_daysOfMonth 0 0 2 = true by decide +kernel) (Nat.le_of_ble_eq_true rfl) (fun v9 M5 hq => ?_)
  obtain ⟨r6, rfl, h⟩ := kI_l hq
  refine e_blk 1 69 _ _ (pc' := 70) (L' := [some (.ref l0)]) (st' := [.int ((mI M4 l0 3) - r6), .ref l0]) rfl ?_
  obtain ⟨ho7, h⟩ := h
  refine e_putI 0 3 rfl rfl (by decide) (aw (i := 100) (by decide +kernel) rfl) rfl ho7 rfl ?_
  generalize hM8 : sI M5 l0 3 ((mI M4 l0 3) - r6) = M8
  replace h := h M8 hM8.symm
  replace ho7 : ob M8 l0 0 := hM8 ▸ ob_sI ho7
  refine e_blk 1 73 _ _ (pc' := 74) (L' := [some (.ref l0)]) (st' := [.ref l0]) rfl ?_
  refine e_callV (As := []) (rest := []) (ci := 0) rfl (x_X0_lookAtMonth h) ho7 rfl rfl rfl (aw (i := 540) (by decide +kernel) rfl) wn_X0_lookAtMonth wv_X0_lookAtMonth wi_X0_lookAtMonth wc_X0_lookAtMonth (show cok mi_X0_goToMonthBefore mi_X0_lookAtMonth 0 0 0 = true by decide +kernel) (Nat.le_of_ble_eq_true rfl) (fun v9 M9 hq => ?_) (fun X M9 hq => False.elim hq)
  obtain ⟨rfl, h⟩ := kV_l hq
  exact e_ret rfl rfl (by decide) (by decide) h
def V_X0_goToMonthBefore_22 (K : Rs → Mm → Prop)  (M : Mm) (l0 : Nat) (s0 : Nat) (s1 : Int32) : Prop := (ob M s0 0 ∧ ∀ M2, M2 = sI M s0 0 s1 → (ob M2 l0 0 ∧ ((¬ (mI M2 l0 1) = (1 : Int32) → V_X0_goToMonthBefore_45 K  M2 l0 l0 ((mI M2 l0 1) - (1 : Int32))) ∧ ((mI M2 l0 1) = (1 : Int32) → V_X0_goToMonthBefore_45 K  M2 l0 l0 (12 : Int32)))))
set_option maxRecDepth 100000 in
set_option maxHeartbeats 4000000 in
theorem x_X0_goToMonthBefore_22 {G : Gx} {K : Rs → Mm → Prop}  {M : Mm} {l0 : Nat} {s0 : Nat} {s1 : Int32} (h : V_X0_goToMonthBefore_22 K  M l0 s0 s1) : E G mi_X0_goToMonthBefore K M 0 0 22 [some (.ref l0)] [.int s1, .ref s0] := by
  unfold V_X0_goToMonthBefore_22 at h
  obtain ⟨ho1, h⟩ := h
  refine e_putI 0 0 rfl rfl (by decide) (aw (i := 91) (by decide +kernel) rfl) rfl ho1 rfl ?_
  generalize hM2 : sI M s0 0 s1 = M2
  replace h := h M2 hM2.symm
  replace ho1 : ob M2 s0 0 := hM2 ▸ ob_sI ho1
  refine e_blk 2 25 _ _ (pc' := 27) (L' := [some (.ref l0)]) (st' := [.ref l0, .ref l0]) rfl ?_
  obtain ⟨ho3, h⟩ := h
  refine e_getI 0 1 rfl rfl (by decide) (aw (i := 94) (by decide +kernel) rfl) ho3 rfl ?_
  refine e_blk 1 30 _ _ (pc' := 31) (L' := [some (.ref l0)]) (st' := [.int (1 : Int32), .int (mI M2 l0 1), .ref l0]) rfl ?_
  refine e_icmp_ne 39 rfl rfl (fun hc => ?_) (fun hc => ?_)
  · replace h := h.1 hc
    refine e_blk 1 39 _ _ (pc' := 40) (L' := [some (.ref l0)]) (st' := [.ref l0, .ref l0]) rfl ?_
    refine e_getI 0 1 rfl rfl (by decide) (aw (i := 94) (by decide +kernel) rfl) ho3 rfl ?_
    refine e_blk 2 43 _ _ (pc' := 45) (L' := [some (.ref l0)]) (st' := [.int ((mI M2 l0 1) - (1 : Int32)), .ref l0]) rfl ?_
    refine e_drp [true] (L' := [some (.ref l0)]) rfl ?_
    exact x_X0_goToMonthBefore_45  h
  · replace h := h.2 hc
    refine e_blk 2 34 _ _ (pc' := 45) (L' := [some (.ref l0)]) (st' := [.int (12 : Int32), .ref l0]) rfl ?_
    refine e_drp [true] (L' := [some (.ref l0)]) rfl ?_
    exact x_X0_goToMonthBefore_45  h
def V_X0_goToMonthBefore (K : Rs → Mm → Prop) (M : Mm) (a0 : Nat) : Prop := (ob M a0 0 ∧ ((¬ (mI M a0 1) = (1 : Int32) → V_X0_goToMonthBefore_22 K  M a0 a0 (mI M a0 0)) ∧ ((mI M a0 1) = (1 : Int32) → V_X0_goToMonthBefore_22 K  M a0 a0 ((mI M a0 0) - (1 : Int32)))))
set_option maxRecDepth 100000 in
set_option maxHeartbeats 4000000 in
theorem x_X0_goToMonthBefore {G : Gx} {K : Rs → Mm → Prop} {M : Mm} {a0 : Nat} (h : V_X0_goToMonthBefore K M a0) : MC G mi_X0_goToMonthBefore [.ref a0] M K := by
  unfold V_X0_goToMonthBefore at h
  refine mc_of rfl (by decide +kernel) dc_X0_goToMonthBefore (Nat.le_of_ble_eq_true rfl) 0 (Nat.le_of_ble_eq_true rfl) ?_
  show E G mi_X0_goToMonthBefore K M 0 0 0 [some (.ref a0)] []
  refine e_blk 2 0 _ _ (pc' := 2) (L' := [some (.ref a0)]) (st' := [.ref a0, .ref a0]) rfl ?_
  obtain ⟨ho1, h⟩ := h
  refine e_getI 0 1 rfl rfl (by decide) (aw (i := 94) (by decide +kernel) rfl) ho1 rfl ?_
  refine e_blk 1 5 _ _ (pc' := 6) (L' := [some (.ref a0)]) (st' := [.int (1 : Int32), .int (mI M a0 1), .ref a0]) rfl ?_
  refine e_icmp_ne 18 rfl rfl (fun hc => ?_) (fun hc => ?_)
  · replace h := h.1 hc
    refine e_blk 1 18 _ _ (pc' := 19) (L' := [some (.ref a0)]) (st' := [.ref a0, .ref a0]) rfl ?_
    refine e_getI 0 0 rfl rfl (by decide) (aw (i := 91) (by decide +kernel) rfl) ho1 rfl ?_
    refine e_drp [true] (L' := [some (.ref a0)]) rfl ?_
    exact x_X0_goToMonthBefore_22  h
  · replace h := h.2 hc
    refine e_blk 1 9 _ _ (pc' := 10) (L' := [some (.ref a0)]) (st' := [.ref a0, .ref a0]) rfl ?_
    refine e_getI 0 0 rfl rfl (by decide) (aw (i := 91) (by decide +kernel) rfl) ho1 rfl ?_
    refine e_blk 3 13 _ _ (pc' := 22) (L' := [some (.ref a0)]) (st' := [.int ((mI M a0 0) - (1 : Int32)), .ref a0]) rfl ?_
    refine e_drp [true] (L' := [some (.ref a0)]) rfl ?_
    exact x_X0_goToMonthBefore_22  h
def V_X0_daysWithin_56 (K : Rs → Mm → Prop)  (M : Mm) (s0 : Int64) : Prop := K (.inl (some (.long s0))) M
set_option maxRecDepth 100000 in
set_option maxHeartbeats 4000000 in
theorem x_X0_daysWithin_56 {G : Gx} {K : Rs → Mm → Prop}  {M : Mm} {s0 : Int64} (h : V_X0_daysWithin_56 K  M s0) : E G mi_X0_daysWithin K M 0 0 56 [none, none, none, none, none] [.long s0] := by
  unfold V_X0_daysWithin_56 at h
  exact e_retl rfl rfl (by decide) (by decide) h
def V_X0_daysWithin (K : Rs → Mm → Prop) (M : Mm) (a0 : Nat) (a1 : Int32) (a2 : Int32) : Prop := (ob M a0 0 ∧ V_J9_max_7cf53 (kI (fun r3 M2 => (ob M2 a0 0 ∧ V_J9_min_7cf53 (kI (fun r6 M5 => ((r3 ≤ r6 → V_X6_below (kJ (fun r8 M7 => V_X6_below (kJ (fun r10 M9 => V_X0_daysWithin_56 K  M9 (r8 &&& (r10 ^^^ (-1 : Int64)))) (fun _ _ => False)) M7 r3) (fun _ _ => False)) M5 (r6 + (1 : Int32))) ∧ (¬ r3 ≤ r6 → V_X0_daysWithin_56 K  M5 (0 : Int64)))) (fun _ _ => False)) M2 ((a2 - (mI M2 a0 3)) + (1 : Int32)) (mI M2 a0 4))) (fun _ _ => False)) M ((a1 - (mI M a0 3)) + (1 : Int32)) (1 : Int32))
set_option maxRecDepth 100000 in
set_option maxHeartbeats 4000000 in
theorem x_X0_daysWithin {G : Gx} {K : Rs → Mm → Prop} {M : Mm} {a0 : Nat} {a1 : Int32} {a2 : Int32} (h : V_X0_daysWithin K M a0 a1 a2) : MC G mi_X0_daysWithin [.ref a0, .int a1, .int a2] M K := by
  unfold V_X0_daysWithin at h
  refine mc_of rfl (by decide +kernel) dc_X0_daysWithin (Nat.le_of_ble_eq_true rfl) 2 (Nat.le_of_ble_eq_true rfl) ?_
  show E G mi_X0_daysWithin K M 0 0 0 [some (.ref a0), some (.int a1), some (.int a2), none, none] []
  refine e_blk 2 0 _ _ (pc' := 2) (L' := [some (.ref a0), some (.int a1), some (.int a2), none, none]) (st' := [.ref a0, .int a1]) rfl ?_
  obtain ⟨ho1, h⟩ := h
  refine e_getI 0 3 rfl rfl (by decide) (aw (i := 100) (by decide +kernel) rfl) ho1 rfl ?_
  refine e_blk 4 5 _ _ (pc' := 9) (L' := [some (.ref a0), some (.int a1), some (.int a2), none, none]) (st' := [.int (1 : Int32), .int ((a1 - (mI M a0 3)) + (1 : Int32))]) rfl ?_
  refine e_callS (As := [.int ((a1 - (mI M a0 3)) + (1 : Int32)), .int (1 : Int32)]) (rest := []) rfl (x_J9_max_7cf53 h) rfl (aw (i := 865) (by decide +kernel) rfl) ws_J9_max_7cf53 wi_J9_max_7cf53 wc_J9_max_7cf53 (show cok mi_X0_daysWithin mi_J9_max_7cf53 0 0 2 = true by decide +kernel) (Nat.le_of_ble_eq_true rfl) (fun v9 M2 hq => ?_) (fun X M9 hq => False.elim hq)
  obtain ⟨r3, rfl, h⟩ := kI_l hq
  refine e_blk 3 12 _ _ (pc' := 15) (L' := [some (.ref a0), some (.int a1), some (.int a2), some (.int r3), none]) (st' := [.ref a0, .int a2]) rfl ?_
  obtain ⟨ho4, h⟩ := h
  refine e_getI 0 3 rfl rfl (by decide) (aw (i := 100) (by decide +kernel) rfl) ho4 rfl ?_
  refine e_blk 4 18 _ _ (pc' := 22) (L' := [some (.ref a0), some (.int a1), some (.int a2), some (.int r3), none]) (st' := [.ref a0, .int ((a2 - (mI M2 a0 3)) + (1 : Int32))]) rfl ?_
  refine e_getI 0 4 rfl rfl (by decide) (aw (i := 102) (by decide +kernel) rfl) ho4 rfl ?_
  refine e_callS (As := [.int ((a2 - (mI M2 a0 3)) + (1 : Int32)), .int (mI M2 a0 4)]) (rest := []) rfl (x_J9_min_7cf53 h) rfl (aw (i := 866) (by decide +kernel) rfl) ws_J9_min_7cf53 wi_J9_min_7cf53 wc_J9_min_7cf53 (show cok mi_X0_daysWithin mi_J9_min_7cf53 0 0 2 = true by decide +kernel) (Nat.le_of_ble_eq_true rfl) (fun v9 M5 hq => ?_) (fun X M9 hq => False.elim hq)
  obtain ⟨r6, rfl, h⟩ := kI_l hq
  refine e_blk 3 28 _ _ (pc' := 33) (L' := [some (.ref a0), some (.int a1), some (.int a2), some (.int r3), some (.int r6)]) (st' := [.int r6, .int r3]) rfl ?_
  refine e_icmp_le 40 rfl rfl (fun hc => ?_) (fun hc => ?_)
  · replace h := h.1 hc
    refine e_blk 3 40 _ _ (pc' := 44) (L' := [some (.ref a0), some (.int a1), some (.int a2), some (.int r3), some (.int r6)]) (st' := [.int (r6 + (1 : Int32))]) rfl ?_
    refine e_callSN (As := [.int (r6 + (1 : Int32))]) (rest := []) (host := "CalendarOrders") rfl (x_X6_below h) (fun X M9 hq => hq) rfl (ao (i := 867) (by decide +kernel) rfl) ws_X6_below wi_X6_below wc_X6_below (show cok mi_X0_daysWithin mi_X6_below 0 0 1 = true by decide +kernel) (Nat.le_of_ble_eq_true rfl) (fun v9 M7 hq => ?_)
    obtain ⟨r8, rfl, h⟩ := kJ_l hq
    refine e_blk 1 47 _ _ (pc' := 48) (L' := [some (.ref a0), some (.int a1), some (.int a2), some (.int r3), some (.int r6)]) (st' := [.int r3, .long r8]) rfl ?_
    refine e_callSN (As := [.int r3]) (rest := [.long r8]) (host := "CalendarOrders") rfl (x_X6_below h) (fun X M9 hq => hq) rfl (ao (i := 867) (by decide +kernel) rfl) ws_X6_below wi_X6_below wc_X6_below (show cok mi_X0_daysWithin mi_X6_below 0 0 1 = true by decide +kernel) (Nat.le_of_ble_eq_true rfl) (fun v9 M9 hq => ?_)
    obtain ⟨r10, rfl, h⟩ := kJ_l hq
    refine e_ldc2 (-1) rfl (aw (i := 868) (by decide +kernel) rfl) ?_
    refine e_blk 2 54 _ _ (pc' := 56) (L' := [some (.ref a0), some (.int a1), some (.int a2), some (.int r3), some (.int r6)]) (st' := [.long (r8 &&& (r10 ^^^ (-1 : Int64)))]) rfl ?_
    refine e_drp [false, false, false, false, false] (L' := [none, none, none, none, none]) rfl ?_
    exact x_X0_daysWithin_56  h
  · replace h := h.2 hc
    refine e_blk 2 36 _ _ (pc' := 56) (L' := [some (.ref a0), some (.int a1), some (.int a2), some (.int r3), some (.int r6)]) (st' := [.long (0 : Int64)]) rfl ?_
    refine e_drp [false, false, false, false, false] (L' := [none, none, none, none, none]) rfl ?_
    exact x_X0_daysWithin_56  h
def V_X1_kept (K : Rs → Mm → Prop) (M : Mm) (a0 : Nat) : Prop := (ob M a0 1 ∧ V_J9_min_7cf53 (kI (fun r3 M2 => K (.inl (some (.int r3))) M2) (fun _ _ => False)) M (mI M a0 4) (300 : Int32))
set_option maxRecDepth 100000 in
set_option maxHeartbeats 4000000 in
theorem x_X1_kept {G : Gx} {K : Rs → Mm → Prop} {M : Mm} {a0 : Nat} (h : V_X1_kept K M a0) : MC G mi_X1_kept [.ref a0] M K := by
  unfold V_X1_kept at h
  refine mc_of rfl (by decide +kernel) dc_X1_kept (Nat.le_of_ble_eq_true rfl) 0 (Nat.le_of_ble_eq_true rfl) ?_
  show E G mi_X1_kept K M 0 0 0 [some (.ref a0)] []
  refine e_blk 1 0 _ _ (pc' := 1) (L' := [some (.ref a0)]) (st' := [.ref a0]) rfl ?_
  obtain ⟨ho1, h⟩ := h
  refine e_getI 1 4 rfl rfl (by decide) (aw (i := 227) (by decide +kernel) rfl) ho1 rfl ?_
  refine e_blk 1 4 _ _ (pc' := 7) (L' := [some (.ref a0)]) (st' := [.int (300 : Int32), .int (mI M a0 4)]) rfl ?_
  refine e_callS (As := [.int (mI M a0 4), .int (300 : Int32)]) (rest := []) rfl (x_J9_min_7cf53 h) rfl (aw (i := 1046) (by decide +kernel) rfl) ws_J9_min_7cf53 wi_J9_min_7cf53 wc_J9_min_7cf53 (show cok mi_X1_kept mi_J9_min_7cf53 0 0 2 = true by decide +kernel) (Nat.le_of_ble_eq_true rfl) (fun v9 M2 hq => ?_) (fun X M9 hq => False.elim hq)
  obtain ⟨r3, rfl, h⟩ := kI_l hq
  exact e_reti rfl rfl (by decide) (by decide) h
def V_X1_add_58 (K : Rs → Mm → Prop)  (M : Mm) (l0 : Nat) : Prop := (ob M l0 1 ∧ ∀ M2, M2 = sI M l0 4 ((mI M l0 4) + (1 : Int32)) → K (.inl none) M2)
set_option maxRecDepth 100000 in
set_option maxHeartbeats 4000000 in
theorem x_X1_add_58 {G : Gx} {K : Rs → Mm → Prop}  {M : Mm} {l0 : Nat} (h : V_X1_add_58 K  M l0) : E G mi_X1_add K M 0 0 58 [some (.ref l0), none, none, none, none] [] := by
  unfold V_X1_add_58 at h
  refine e_blk 2 58 _ _ (pc' := 60) (L' := [some (.ref l0), none, none, none, none]) (st' := [.ref l0, .ref l0]) rfl ?_
  obtain ⟨ho1, h⟩ := h
  refine e_getI 1 4 rfl rfl (by decide) (aw (i := 227) (by decide +kernel) rfl) ho1 rfl ?_
  refine e_blk 2 63 _ _ (pc' := 65) (L' := [some (.ref l0), none, none, none, none]) (st' := [.int ((mI M l0 4) + (1 : Int32)), .ref l0]) rfl ?_
  refine e_putI 1 4 rfl rfl (by decide) (aw (i := 227) (by decide +kernel) rfl) rfl ho1 rfl ?_
  generalize hM2 : sI M l0 4 ((mI M l0 4) + (1 : Int32)) = M2
  replace h := h M2 hM2.symm
  replace ho1 : ob M2 l0 1 := hM2 ▸ ob_sI ho1
  exact e_ret rfl rfl (by decide) (by decide) h
def V_X1_add (K : Rs → Mm → Prop) (M : Mm) (a0 : Nat) (a1 : Int32) (a2 : Int32) (a3 : Int32) (a4 : Int32) : Prop := (ob M a0 1 ∧ (((mI M a0 4) < 0 → V_X1_add_58 K  M a0) ∧ (¬ (mI M a0 4) < 0 → (((300 : Int32) ≤ (mI M a0 4) → V_X1_add_58 K  M a0) ∧ (¬ (300 : Int32) ≤ (mI M a0 4) → ∃ b2, mP M a0 0 = some b2 ∧ (ob M b2 9 ∧ (vp_in (mI M a0 4) (mN M b2) ∧ ∀ M5, M5 = sI M b2 ((mI M a0 4)).toNatClampNeg a1 → ∃ b6, mP M5 a0 1 = some b6 ∧ (ob M5 b6 9 ∧ (vp_in (mI M5 a0 4) (mN M5 b6) ∧ ∀ M9, M9 = sI M5 b6 ((mI M5 a0 4)).toNatClampNeg a2 → ∃ b10, mP M9 a0 2 = some b10 ∧ (ob M9 b10 9 ∧ (vp_in (mI M9 a0 4) (mN M9 b10) ∧ ∀ M13, M13 = sI M9 b10 ((mI M9 a0 4)).toNatClampNeg a3 → ∃ b14, mP M13 a0 3 = some b14 ∧ (ob M13 b14 9 ∧ (vp_in (mI M13 a0 4) (mN M13 b14) ∧ ∀ M17, M17 = sI M13 b14 ((mI M13 a0 4)).toNatClampNeg a4 → V_X1_add_58 K  M17 a0)))))))))))))
set_option maxRecDepth 100000 in
set_option maxHeartbeats 4000000 in
theorem x_X1_add {G : Gx} {K : Rs → Mm → Prop} {M : Mm} {a0 : Nat} {a1 : Int32} {a2 : Int32} {a3 : Int32} {a4 : Int32} (h : V_X1_add K M a0 a1 a2 a3 a4) : MC G mi_X1_add [.ref a0, .int a1, .int a2, .int a3, .int a4] M K := by
  unfold V_X1_add at h
  refine mc_of rfl (by decide +kernel) dc_X1_add (Nat.le_of_ble_eq_true rfl) 0 (Nat.le_of_ble_eq_true rfl) ?_
  show E G mi_X1_add K M 0 0 0 [some (.ref a0), some (.int a1), some (.int a2), some (.int a3), some (.int a4)] []
  refine e_blk 1 0 _ _ (pc' := 1) (L' := [some (.ref a0), some (.int a1), some (.int a2), some (.int a3), some (.int a4)]) (st' := [.ref a0]) rfl ?_
  obtain ⟨ho1, h⟩ := h
  refine e_getI 1 4 rfl rfl (by decide) (aw (i := 227) (by decide +kernel) rfl) ho1 rfl ?_
  refine e_if_lt 58 rfl rfl (fun hc => ?_) (fun hc => ?_)
  · replace h := h.1 hc
    refine e_drp [true, false, false, false, false] (L' := [some (.ref a0), none, none, none, none]) rfl ?_
    exact x_X1_add_58  h
  · replace h := h.2 hc
    refine e_blk 1 7 _ _ (pc' := 8) (L' := [some (.ref a0), some (.int a1), some (.int a2), some (.int a3), some (.int a4)]) (st' := [.ref a0]) rfl ?_
    refine e_getI 1 4 rfl rfl (by decide) (aw (i := 227) (by decide +kernel) rfl) ho1 rfl ?_
    refine e_blk 1 11 _ _ (pc' := 14) (L' := [some (.ref a0), some (.int a1), some (.int a2), some (.int a3), some (.int a4)]) (st' := [.int (300 : Int32), .int (mI M a0 4)]) rfl ?_
    refine e_icmp_ge 58 rfl rfl (fun hc => ?_) (fun hc => ?_)
    · replace h := h.1 hc
      refine e_drp [true, false, false, false, false] (L' := [some (.ref a0), none, none, none, none]) rfl ?_
      exact x_X1_add_58  h
    · replace h := h.2 hc
      refine e_blk 1 17 _ _ (pc' := 18) (L' := [some (.ref a0), some (.int a1), some (.int a2), some (.int a3), some (.int a4)]) (st' := [.ref a0]) rfl ?_
      obtain ⟨b2, hbb2, h⟩ := h
      refine e_getR 1 0 rfl rfl (by decide) (aw (i := 219) (by decide +kernel) rfl) ho1 rfl hbb2 ?_
      refine e_blk 1 21 _ _ (pc' := 22) (L' := [some (.ref a0), some (.int a1), some (.int a2), some (.int a3), some (.int a4)]) (st' := [.ref a0, .ref b2]) rfl ?_
      refine e_getI 1 4 rfl rfl (by decide) (aw (i := 227) (by decide +kernel) rfl) ho1 rfl ?_
      refine e_blk 1 25 _ _ (pc' := 26) (L' := [some (.ref a0), some (.int a1), some (.int a2), some (.int a3), some (.int a4)]) (st' := [.int a1, .int (mI M a0 4), .ref b2]) rfl ?_
      obtain ⟨ho3, h⟩ := h
      obtain ⟨hi4, h⟩ := h
      refine e_iast rfl ho3 hi4 ?_
      generalize hM5 : sI M b2 ((mI M a0 4)).toNatClampNeg a1 = M5
      replace h := h M5 hM5.symm
      replace ho1 : ob M5 a0 1 := hM5 ▸ ob_sI ho1
      replace ho3 : ob M5 b2 9 := hM5 ▸ ob_sI ho3
      refine e_blk 1 27 _ _ (pc' := 28) (L' := [some (.ref a0), some (.int a1), some (.int a2), some (.int a3), some (.int a4)]) (st' := [.ref a0]) rfl ?_
      obtain ⟨b6, hbb6, h⟩ := h
      refine e_getR 1 1 rfl rfl (by decide) (aw (i := 221) (by decide +kernel) rfl) ho1 rfl hbb6 ?_
      refine e_blk 1 31 _ _ (pc' := 32) (L' := [some (.ref a0), some (.int a1), some (.int a2), some (.int a3), some (.int a4)]) (st' := [.ref a0, .ref b6]) rfl ?_
      refine e_getI 1 4 rfl rfl (by decide) (aw (i := 227) (by decide +kernel) rfl) ho1 rfl ?_
      refine e_blk 1 35 _ _ (pc' := 36) (L' := [some (.ref a0), some (.int a1), some (.int a2), some (.int a3), some (.int a4)]) (st' := [.int a2, .int (mI M5 a0 4), .ref b6]) rfl ?_
      obtain ⟨ho7, h⟩ := h
      obtain ⟨hi8, h⟩ := h
      refine e_iast rfl ho7 hi8 ?_
      generalize hM9 : sI M5 b6 ((mI M5 a0 4)).toNatClampNeg a2 = M9
      replace h := h M9 hM9.symm
      replace ho1 : ob M9 a0 1 := hM9 ▸ ob_sI ho1
      replace ho3 : ob M9 b2 9 := hM9 ▸ ob_sI ho3
      replace ho7 : ob M9 b6 9 := hM9 ▸ ob_sI ho7
      refine e_blk 1 37 _ _ (pc' := 38) (L' := [some (.ref a0), some (.int a1), some (.int a2), some (.int a3), some (.int a4)]) (st' := [.ref a0]) rfl ?_
      obtain ⟨b10, hbb10, h⟩ := h
      refine e_getR 1 2 rfl rfl (by decide) (aw (i := 223) (by decide +kernel) rfl) ho1 rfl hbb10 ?_
      refine e_blk 1 41 _ _ (pc' := 42) (L' := [some (.ref a0), some (.int a1), some (.int a2), some (.int a3), some (.int a4)]) (st' := [.ref a0, .ref b10]) rfl ?_
      refine e_getI 1 4 rfl rfl (by decide) (aw (i := 227) (by decide +kernel) rfl) ho1 rfl ?_
      refine e_blk 1 45 _ _ (pc' := 46) (L' := [some (.ref a0), some (.int a1), some (.int a2), some (.int a3), some (.int a4)]) (st' := [.int a3, .int (mI M9 a0 4), .ref b10]) rfl ?_
      obtain ⟨ho11, h⟩ := h
      obtain ⟨hi12, h⟩ := h
      refine e_iast rfl ho11 hi12 ?_
      generalize hM13 : sI M9 b10 ((mI M9 a0 4)).toNatClampNeg a3 = M13
      replace h := h M13 hM13.symm
      replace ho1 : ob M13 a0 1 := hM13 ▸ ob_sI ho1
      replace ho3 : ob M13 b2 9 := hM13 ▸ ob_sI ho3
      replace ho7 : ob M13 b6 9 := hM13 ▸ ob_sI ho7
      replace ho11 : ob M13 b10 9 := hM13 ▸ ob_sI ho11
      refine e_blk 1 47 _ _ (pc' := 48) (L' := [some (.ref a0), some (.int a1), some (.int a2), some (.int a3), some (.int a4)]) (st' := [.ref a0]) rfl ?_
      obtain ⟨b14, hbb14, h⟩ := h
      refine e_getR 1 3 rfl rfl (by decide) (aw (i := 225) (by decide +kernel) rfl) ho1 rfl hbb14 ?_
      refine e_blk 1 51 _ _ (pc' := 52) (L' := [some (.ref a0), some (.int a1), some (.int a2), some (.int a3), some (.int a4)]) (st' := [.ref a0, .ref b14]) rfl ?_
      refine e_getI 1 4 rfl rfl (by decide) (aw (i := 227) (by decide +kernel) rfl) ho1 rfl ?_
      refine e_blk 1 55 _ _ (pc' := 57) (L' := [some (.ref a0), some (.int a1), some (.int a2), some (.int a3), some (.int a4)]) (st' := [.int a4, .int (mI M13 a0 4), .ref b14]) rfl ?_
      obtain ⟨ho15, h⟩ := h
      obtain ⟨hi16, h⟩ := h
      refine e_iast rfl ho15 hi16 ?_
      generalize hM17 : sI M13 b14 ((mI M13 a0 4)).toNatClampNeg a4 = M17
      replace h := h M17 hM17.symm
      replace ho1 : ob M17 a0 1 := hM17 ▸ ob_sI ho1
      replace ho3 : ob M17 b2 9 := hM17 ▸ ob_sI ho3
      replace ho7 : ob M17 b6 9 := hM17 ▸ ob_sI ho7
      replace ho11 : ob M17 b10 9 := hM17 ▸ ob_sI ho11
      replace ho15 : ob M17 b14 9 := hM17 ▸ ob_sI ho15
      refine e_drp [true, false, false, false, false] (L' := [some (.ref a0), none, none, none, none]) rfl ?_
      exact x_X1_add_58  h
def V_X5_lastMinuteOf_23 (K : Rs → Mm → Prop)  (M : Mm) (s0 : Int32) : Prop := K (.inl (some (.int s0))) M
set_option maxRecDepth 100000 in
set_option maxHeartbeats 4000000 in
theorem x_X5_lastMinuteOf_23 {G : Gx} {K : Rs → Mm → Prop}  {M : Mm} {s0 : Int32} (h : V_X5_lastMinuteOf_23 K  M s0) : E G mi_X5_lastMinuteOf K M 0 0 23 [none, none] [.int s0] := by
  unfold V_X5_lastMinuteOf_23 at h
  exact e_reti rfl rfl (by decide) (by decide) h
def V_X5_lastMinuteOf (K : Rs → Mm → Prop) (M : Mm) (a0 : Nat) (a1 : Int32) : Prop := (ob M a0 5 ∧ (((mI M a0 2) ≤ a1 → V_X5_lastMinuteOf_23 K  M (157785119 : Int32)) ∧ (¬ (mI M a0 2) ≤ a1 → ∃ b2, mP M a0 0 = some b2 ∧ (ob M b2 9 ∧ (vp_in (a1 + (1 : Int32)) (mN M b2) ∧ V_X5_lastMinuteOf_23 K  M ((mI M b2 ((a1 + (1 : Int32))).toNatClampNeg) - (1 : Int32)))))))
set_option maxRecDepth 100000 in
set_option maxHeartbeats 4000000 in
theorem x_X5_lastMinuteOf {G : Gx} {K : Rs → Mm → Prop} {M : Mm} {a0 : Nat} {a1 : Int32} (h : V_X5_lastMinuteOf K M a0 a1) : MC G mi_X5_lastMinuteOf [.ref a0, .int a1] M K := by
  unfold V_X5_lastMinuteOf at h
  refine mc_of rfl (by decide +kernel) dc_X5_lastMinuteOf (Nat.le_of_ble_eq_true rfl) 0 (Nat.le_of_ble_eq_true rfl) ?_
  show E G mi_X5_lastMinuteOf K M 0 0 0 [some (.ref a0), some (.int a1)] []
  refine e_blk 2 0 _ _ (pc' := 2) (L' := [some (.ref a0), some (.int a1)]) (st' := [.ref a0, .int a1]) rfl ?_
  obtain ⟨ho1, h⟩ := h
  refine e_getI 5 2 rfl rfl (by decide) (aw (i := 249) (by decide +kernel) rfl) ho1 rfl ?_
  refine e_icmp_ge 21 rfl rfl (fun hc => ?_) (fun hc => ?_)
  · replace h := h.1 hc
    refine e_ldc (157785119) rfl (aw (i := 572) (by decide +kernel) rfl) ?_
    refine e_drp [false, false] (L' := [none, none]) rfl ?_
    exact x_X5_lastMinuteOf_23  h
  · replace h := h.2 hc
    refine e_blk 1 8 _ _ (pc' := 9) (L' := [some (.ref a0), some (.int a1)]) (st' := [.ref a0]) rfl ?_
    obtain ⟨b2, hbb2, h⟩ := h
    refine e_getR 5 0 rfl rfl (by decide) (aw (i := 245) (by decide +kernel) rfl) ho1 rfl hbb2 ?_
    refine e_blk 3 12 _ _ (pc' := 15) (L' := [some (.ref a0), some (.int a1)]) (st' := [.int (a1 + (1 : Int32)), .ref b2]) rfl ?_
    obtain ⟨ho3, h⟩ := h
    obtain ⟨hi4, h⟩ := h
    refine e_iald rfl ho3 hi4 ?_
    refine e_blk 3 16 _ _ (pc' := 23) (L' := [some (.ref a0), some (.int a1)]) (st' := [.int ((mI M b2 ((a1 + (1 : Int32))).toNatClampNeg) - (1 : Int32))]) rfl ?_
    refine e_drp [false, false] (L' := [none, none]) rfl ?_
    exact x_X5_lastMinuteOf_23  h
def V_X5_begin (K : Rs → Mm → Prop) (M : Mm) (a0 : Nat) (a1 : Int32) : Prop := (ob M a0 5 ∧ ∃ b2, mP M a0 1 = some b2 ∧ (ob M b2 9 ∧ (vp_in (0 : Int32) (mN M b2) ∧ ∀ M5, M5 = sI M b2 ((0 : Int32)).toNatClampNeg a1 → ∀ M6, M6 = sI M5 a0 2 (0 : Int32) → K (.inl none) M6)))
set_option maxRecDepth 100000 in
set_option maxHeartbeats 4000000 in
theorem x_X5_begin {G : Gx} {K : Rs → Mm → Prop} {M : Mm} {a0 : Nat} {a1 : Int32} (h : V_X5_begin K M a0 a1) : MC G mi_X5_begin [.ref a0, .int a1] M K := by
  unfold V_X5_begin at h
  refine mc_of rfl (by decide +kernel) dc_X5_begin (Nat.le_of_ble_eq_true rfl) 0 (Nat.le_of_ble_eq_true rfl) ?_
  show E G mi_X5_begin K M 0 0 0 [some (.ref a0), some (.int a1)] []
  refine e_blk 1 0 _ _ (pc' := 1) (L' := [some (.ref a0), some (.int a1)]) (st' := [.ref a0]) rfl ?_
  obtain ⟨ho1, h⟩ := h
  obtain ⟨b2, hbb2, h⟩ := h
  refine e_getR 5 1 rfl rfl (by decide) (aw (i := 247) (by decide +kernel) rfl) ho1 rfl hbb2 ?_
  refine e_blk 2 4 _ _ (pc' := 6) (L' := [some (.ref a0), some (.int a1)]) (st' := [.int a1, .int (0 : Int32), .ref b2]) rfl ?_
  obtain ⟨ho3, h⟩ := h
  obtain ⟨hi4, h⟩ := h
  refine e_iast rfl ho3 hi4 ?_
  generalize hM5 : sI M b2 ((0 : Int32)).toNatClampNeg a1 = M5
  replace h := h M5 hM5.symm
  replace ho1 : ob M5 a0 5 := hM5 ▸ ob_sI ho1
  replace ho3 : ob M5 b2 9 := hM5 ▸ ob_sI ho3
  refine e_blk 2 7 _ _ (pc' := 9) (L' := [some (.ref a0), some (.int a1)]) (st' := [.int (0 : Int32), .ref a0]) rfl ?_
  refine e_putI 5 2 rfl rfl (by decide) (aw (i := 249) (by decide +kernel) rfl) rfl ho1 rfl ?_
  generalize hM6 : sI M5 a0 2 (0 : Int32) = M6
  replace h := h M6 hM6.symm
  replace ho1 : ob M6 a0 5 := hM6 ▸ ob_sI ho1
  replace ho3 : ob M6 b2 9 := hM6 ▸ ob_sI ho3
  exact e_ret rfl rfl (by decide) (by decide) h
def V_X5_isBehindLatest_25 (K : Rs → Mm → Prop)  (M : Mm) (s0 : Int32) : Prop := ((s0 = 0 ∨ s0 = 1) ∧ K (.inl (some (.int s0))) M)
set_option maxRecDepth 100000 in
set_option maxHeartbeats 4000000 in
theorem x_X5_isBehindLatest_25 {G : Gx} {K : Rs → Mm → Prop}  {M : Mm} {s0 : Int32} (h : V_X5_isBehindLatest_25 K  M s0) : E G mi_X5_isBehindLatest K M 0 0 25 [none, none] [.int s0] := by
  unfold V_X5_isBehindLatest_25 at h
  exact e_retz rfl rfl h.1 (by decide) (by decide) h.2
def V_X5_isBehindLatest_20 (K : Rs → Mm → Prop)  (M : Mm)  : Prop := V_X5_isBehindLatest_25 K  M (1 : Int32)
set_option maxRecDepth 100000 in
set_option maxHeartbeats 4000000 in
theorem x_X5_isBehindLatest_20 {G : Gx} {K : Rs → Mm → Prop}  {M : Mm}  (h : V_X5_isBehindLatest_20 K  M ) : E G mi_X5_isBehindLatest K M 0 0 20 [none, none] [] := by
  unfold V_X5_isBehindLatest_20 at h
  refine e_blk 2 20 _ _ (pc' := 25) (L' := [none, none]) (st' := [.int (1 : Int32)]) rfl ?_
  refine e_drp [false, false] (L' := [none, none]) rfl ?_
  exact x_X5_isBehindLatest_25  h
def V_X5_isBehindLatest (K : Rs → Mm → Prop) (M : Mm) (a0 : Nat) (a1 : Int32) : Prop := (ob M a0 5 ∧ (((mI M a0 2) = 0 → V_X5_isBehindLatest_20 K  M ) ∧ (¬ (mI M a0 2) = 0 → ∃ b2, mP M a0 0 = some b2 ∧ (ob M b2 9 ∧ (vp_in (mI M a0 2) (mN M b2) ∧ ((a1 ≤ (mI M b2 ((mI M a0 2)).toNatClampNeg) → V_X5_isBehindLatest_25 K  M (0 : Int32)) ∧ (¬ a1 ≤ (mI M b2 ((mI M a0 2)).toNatClampNeg) → V_X5_isBehindLatest_20 K  M )))))))
set_option maxRecDepth 100000 in
set_option maxHeartbeats 4000000 in
theorem x_X5_isBehindLatest {G : Gx} {K : Rs → Mm → Prop} {M : Mm} {a0 : Nat} {a1 : Int32} (h : V_X5_isBehindLatest K M a0 a1) : MC G mi_X5_isBehindLatest [.ref a0, .int a1] M K := by
  unfold V_X5_isBehindLatest at h
  refine mc_of rfl (by decide +kernel) dc_X5_isBehindLatest (Nat.le_of_ble_eq_true rfl) 0 (Nat.le_of_ble_eq_true rfl) ?_
  show E G mi_X5_isBehindLatest K M 0 0 0 [some (.ref a0), some (.int a1)] []
  refine e_blk 1 0 _ _ (pc' := 1) (L' := [some (.ref a0), some (.int a1)]) (st' := [.ref a0]) rfl ?_
  obtain ⟨ho1, h⟩ := h
  refine e_getI 5 2 rfl rfl (by decide) (aw (i := 249) (by decide +kernel) rfl) ho1 rfl ?_
  refine e_if_eq 20 rfl rfl (fun hc => ?_) (fun hc => ?_)
  · replace h := h.1 hc
    refine e_drp [false, false] (L' := [none, none]) rfl ?_
    exact x_X5_isBehindLatest_20  h
  · replace h := h.2 hc
    refine e_blk 2 7 _ _ (pc' := 9) (L' := [some (.ref a0), some (.int a1)]) (st' := [.ref a0, .int a1]) rfl ?_
    obtain ⟨b2, hbb2, h⟩ := h
    refine e_getR 5 0 rfl rfl (by decide) (aw (i := 245) (by decide +kernel) rfl) ho1 rfl hbb2 ?_
    refine e_blk 1 12 _ _ (pc' := 13) (L' := [some (.ref a0), some (.int a1)]) (st' := [.ref a0, .ref b2, .int a1]) rfl ?_
    refine e_getI 5 2 rfl rfl (by decide) (aw (i := 249) (by decide +kernel) rfl) ho1 rfl ?_
    obtain ⟨ho3, h⟩ := h
    obtain ⟨hi4, h⟩ := h
    refine e_iald rfl ho3 hi4 ?_
    refine e_icmp_le 24 rfl rfl (fun hc => ?_) (fun hc => ?_)
    · replace h := h.1 hc
      refine e_blk 1 24 _ _ (pc' := 25) (L' := [some (.ref a0), some (.int a1)]) (st' := [.int (0 : Int32)]) rfl ?_
      refine e_drp [false, false] (L' := [none, none]) rfl ?_
      exact x_X5_isBehindLatest_25  h
    · replace h := h.2 hc
      refine e_drp [false, false] (L' := [none, none]) rfl ?_
      exact x_X5_isBehindLatest_20  h
def V_X5_add_39 (K : Rs → Mm → Prop)  (M : Mm)  : Prop := K (.inl none) M
set_option maxRecDepth 100000 in
set_option maxHeartbeats 4000000 in
theorem x_X5_add_39 {G : Gx} {K : Rs → Mm → Prop}  {M : Mm}  (h : V_X5_add_39 K  M ) : E G mi_X5_add K M 0 0 39 [none, none, none] [] := by
  unfold V_X5_add_39 at h
  exact e_ret rfl rfl (by decide) (by decide) h
def V_X5_add (K : Rs → Mm → Prop) (M : Mm) (a0 : Nat) (a1 : Int32) (a2 : Int32) : Prop := (ob M a0 5 ∧ (((20 : Int32) ≤ (mI M a0 2) → V_X5_add_39 K  M ) ∧ (¬ (20 : Int32) ≤ (mI M a0 2) → ∀ M2, M2 = sI M a0 2 ((mI M a0 2) + (1 : Int32)) → ∃ b3, mP M2 a0 0 = some b3 ∧ (ob M2 b3 9 ∧ (vp_in (mI M2 a0 2) (mN M2 b3) ∧ ∀ M6, M6 = sI M2 b3 ((mI M2 a0 2)).toNatClampNeg a1 → ∃ b7, mP M6 a0 1 = some b7 ∧ (ob M6 b7 9 ∧ (vp_in (mI M6 a0 2) (mN M6 b7) ∧ ∀ M10, M10 = sI M6 b7 ((mI M6 a0 2)).toNatClampNeg a2 → V_X5_add_39 K  M10 )))))))
set_option maxRecDepth 100000 in
set_option maxHeartbeats 4000000 in
theorem x_X5_add {G : Gx} {K : Rs → Mm → Prop} {M : Mm} {a0 : Nat} {a1 : Int32} {a2 : Int32} (h : V_X5_add K M a0 a1 a2) : MC G mi_X5_add [.ref a0, .int a1, .int a2] M K := by
  unfold V_X5_add at h
  refine mc_of rfl (by decide +kernel) dc_X5_add (Nat.le_of_ble_eq_true rfl) 0 (Nat.le_of_ble_eq_true rfl) ?_
  show E G mi_X5_add K M 0 0 0 [some (.ref a0), some (.int a1), some (.int a2)] []
  refine e_blk 1 0 _ _ (pc' := 1) (L' := [some (.ref a0), some (.int a1), some (.int a2)]) (st' := [.ref a0]) rfl ?_
  obtain ⟨ho1, h⟩ := h
  refine e_getI 5 2 rfl rfl (by decide) (aw (i := 249) (by decide +kernel) rfl) ho1 rfl ?_
  refine e_blk 1 4 _ _ (pc' := 6) (L' := [some (.ref a0), some (.int a1), some (.int a2)]) (st' := [.int (20 : Int32), .int (mI M a0 2)]) rfl ?_
  refine e_icmp_ge 39 rfl rfl (fun hc => ?_) (fun hc => ?_)
  · replace h := h.1 hc
    refine e_drp [false, false, false] (L' := [none, none, none]) rfl ?_
    exact x_X5_add_39  h
  · replace h := h.2 hc
    refine e_blk 2 9 _ _ (pc' := 11) (L' := [some (.ref a0), some (.int a1), some (.int a2)]) (st' := [.ref a0, .ref a0]) rfl ?_
    refine e_getI 5 2 rfl rfl (by decide) (aw (i := 249) (by decide +kernel) rfl) ho1 rfl ?_
    refine e_blk 2 14 _ _ (pc' := 16) (L' := [some (.ref a0), some (.int a1), some (.int a2)]) (st' := [.int ((mI M a0 2) + (1 : Int32)), .ref a0]) rfl ?_
    refine e_putI 5 2 rfl rfl (by decide) (aw (i := 249) (by decide +kernel) rfl) rfl ho1 rfl ?_
    generalize hM2 : sI M a0 2 ((mI M a0 2) + (1 : Int32)) = M2
    replace h := h M2 hM2.symm
    replace ho1 : ob M2 a0 5 := hM2 ▸ ob_sI ho1
    refine e_blk 1 19 _ _ (pc' := 20) (L' := [some (.ref a0), some (.int a1), some (.int a2)]) (st' := [.ref a0]) rfl ?_
    obtain ⟨b3, hbb3, h⟩ := h
    refine e_getR 5 0 rfl rfl (by decide) (aw (i := 245) (by decide +kernel) rfl) ho1 rfl hbb3 ?_
    refine e_blk 1 23 _ _ (pc' := 24) (L' := [some (.ref a0), some (.int a1), some (.int a2)]) (st' := [.ref a0, .ref b3]) rfl ?_
    refine e_getI 5 2 rfl rfl (by decide) (aw (i := 249) (by decide +kernel) rfl) ho1 rfl ?_
    refine e_blk 1 27 _ _ (pc' := 28) (L' := [some (.ref a0), some (.int a1), some (.int a2)]) (st' := [.int a1, .int (mI M2 a0 2), .ref b3]) rfl ?_
    obtain ⟨ho4, h⟩ := h
    obtain ⟨hi5, h⟩ := h
    refine e_iast rfl ho4 hi5 ?_
    generalize hM6 : sI M2 b3 ((mI M2 a0 2)).toNatClampNeg a1 = M6
    replace h := h M6 hM6.symm
    replace ho1 : ob M6 a0 5 := hM6 ▸ ob_sI ho1
    replace ho4 : ob M6 b3 9 := hM6 ▸ ob_sI ho4
    refine e_blk 1 29 _ _ (pc' := 30) (L' := [some (.ref a0), some (.int a1), some (.int a2)]) (st' := [.ref a0]) rfl ?_
    obtain ⟨b7, hbb7, h⟩ := h
    refine e_getR 5 1 rfl rfl (by decide) (aw (i := 247) (by decide +kernel) rfl) ho1 rfl hbb7 ?_
    refine e_blk 1 33 _ _ (pc' := 34) (L' := [some (.ref a0), some (.int a1), some (.int a2)]) (st' := [.ref a0, .ref b7]) rfl ?_
    refine e_getI 5 2 rfl rfl (by decide) (aw (i := 249) (by decide +kernel) rfl) ho1 rfl ?_
    refine e_blk 1 37 _ _ (pc' := 38) (L' := [some (.ref a0), some (.int a1), some (.int a2)]) (st' := [.int a2, .int (mI M6 a0 2), .ref b7]) rfl ?_
    obtain ⟨ho8, h⟩ := h
    obtain ⟨hi9, h⟩ := h
    refine e_iast rfl ho8 hi9 ?_
    generalize hM10 : sI M6 b7 ((mI M6 a0 2)).toNatClampNeg a2 = M10
    replace h := h M10 hM10.symm
    replace ho1 : ob M10 a0 5 := hM10 ▸ ob_sI ho1
    replace ho4 : ob M10 b3 9 := hM10 ▸ ob_sI ho4
    replace ho8 : ob M10 b7 9 := hM10 ▸ ob_sI ho8
    refine e_drp [false, false, false] (L' := [none, none, none]) rfl ?_
    exact x_X5_add_39  h
def V_X5_offsetAt_5 (K : Rs → Mm → Prop)  : Nat → Mm → Nat → Int32 → Int32 → Prop
  | 0, _, _, _, _ => False
  | z + 1, M, l0, l1, l2 => ((l2 ≤ 0 → (ob M l0 5 ∧ ∃ b2, mP M l0 1 = some b2 ∧ (ob M b2 9 ∧ (vp_in (0 : Int32) (mN M b2) ∧ K (.inl (some (.int (mI M b2 ((0 : Int32)).toNatClampNeg)))) M)))) ∧ (¬ l2 ≤ 0 → (ob M l0 5 ∧ ∃ b6, mP M l0 0 = some b6 ∧ (ob M b6 9 ∧ (vp_in l2 (mN M b6) ∧ ((l1 < (mI M b6 (l2).toNatClampNeg) → ∀ x9 : Int32, x9 = (l2 + (-1 : Int32)) → V_X5_offsetAt_5 K  z M l0 l1 x9) ∧ (¬ l1 < (mI M b6 (l2).toNatClampNeg) → ∃ b10, mP M l0 1 = some b10 ∧ (ob M b10 9 ∧ (vp_in l2 (mN M b10) ∧ K (.inl (some (.int (mI M b10 (l2).toNatClampNeg)))) M)))))))))
set_option maxRecDepth 100000 in
set_option maxHeartbeats 4000000 in
theorem x_X5_offsetAt_5 {G : Gx} {K : Rs → Mm → Prop}  : ∀ (z : Nat) (M : Mm) (l0 : Nat) (l1 : Int32) (l2 : Int32), V_X5_offsetAt_5 K  z M l0 l1 l2 → E G mi_X5_offsetAt K M 0 0 5 [some (.ref l0), some (.int l1), some (.int l2)] []
  | 0, M, l0, l1, l2, h => False.elim h
  | z + 1, M, l0, l1, l2, h => by
    unfold V_X5_offsetAt_5 at h
    refine e_blk 1 5 _ _ (pc' := 6) (L' := [some (.ref l0), some (.int l1), some (.int l2)]) (st' := [.int l2]) rfl ?_
    refine e_if_le 32 rfl rfl (fun hc => ?_) (fun hc => ?_)
    · replace h := h.1 hc
      refine e_blk 1 32 _ _ (pc' := 33) (L' := [some (.ref l0), some (.int l1), some (.int l2)]) (st' := [.ref l0]) rfl ?_
      obtain ⟨ho1, h⟩ := h
      obtain ⟨b2, hbb2, h⟩ := h
      refine e_getR 5 1 rfl rfl (by decide) (aw (i := 247) (by decide +kernel) rfl) ho1 rfl hbb2 ?_
      refine e_blk 1 36 _ _ (pc' := 37) (L' := [some (.ref l0), some (.int l1), some (.int l2)]) (st' := [.int (0 : Int32), .ref b2]) rfl ?_
      obtain ⟨ho3, h⟩ := h
      obtain ⟨hi4, h⟩ := h
      refine e_iald rfl ho3 hi4 ?_
      exact e_reti rfl rfl (by decide) (by decide) h
    · replace h := h.2 hc
      refine e_blk 2 9 _ _ (pc' := 11) (L' := [some (.ref l0), some (.int l1), some (.int l2)]) (st' := [.ref l0, .int l1]) rfl ?_
      obtain ⟨ho5, h⟩ := h
      obtain ⟨b6, hbb6, h⟩ := h
      refine e_getR 5 0 rfl rfl (by decide) (aw (i := 245) (by decide +kernel) rfl) ho5 rfl hbb6 ?_
      refine e_blk 1 14 _ _ (pc' := 15) (L' := [some (.ref l0), some (.int l1), some (.int l2)]) (st' := [.int l2, .ref b6, .int l1]) rfl ?_
      obtain ⟨ho7, h⟩ := h
      obtain ⟨hi8, h⟩ := h
      refine e_iald rfl ho7 hi8 ?_
      refine e_icmp_lt 26 rfl rfl (fun hc => ?_) (fun hc => ?_)
      · replace h := h.1 hc
        refine e_blk 2 26 _ _ (pc' := 5) (L' := [some (.ref l0), some (.int l1), some (.int (l2 + (-1 : Int32)))]) (st' := []) rfl ?_
        generalize hx_x9 : ((l2 + (-1 : Int32)) : Int32) = x9
        replace h := h x9 hx_x9.symm
        refine e_drp [true, true, true] (L' := [some (.ref l0), some (.int l1), some (.int x9)]) rfl ?_
        exact x_X5_offsetAt_5  z _ _ _ _ h
      · replace h := h.2 hc
        refine e_blk 1 19 _ _ (pc' := 20) (L' := [some (.ref l0), some (.int l1), some (.int l2)]) (st' := [.ref l0]) rfl ?_
        obtain ⟨b10, hbb10, h⟩ := h
        refine e_getR 5 1 rfl rfl (by decide) (aw (i := 247) (by decide +kernel) rfl) ho5 rfl hbb10 ?_
        refine e_blk 1 23 _ _ (pc' := 24) (L' := [some (.ref l0), some (.int l1), some (.int l2)]) (st' := [.int l2, .ref b10]) rfl ?_
        obtain ⟨ho11, h⟩ := h
        obtain ⟨hi12, h⟩ := h
        refine e_iald rfl ho11 hi12 ?_
        exact e_reti rfl rfl (by decide) (by decide) h
def V_X5_offsetAt (K : Rs → Mm → Prop) (M : Mm) (a0 : Nat) (a1 : Int32) : Prop := (ob M a0 5 ∧ ∀ x2 : Int32, x2 = (mI M a0 2) → ∃ y, V_X5_offsetAt_5 K  y M a0 a1 x2)
set_option maxRecDepth 100000 in
set_option maxHeartbeats 4000000 in
theorem x_X5_offsetAt {G : Gx} {K : Rs → Mm → Prop} {M : Mm} {a0 : Nat} {a1 : Int32} (h : V_X5_offsetAt K M a0 a1) : MC G mi_X5_offsetAt [.ref a0, .int a1] M K := by
  unfold V_X5_offsetAt at h
  refine mc_of rfl (by decide +kernel) dc_X5_offsetAt (Nat.le_of_ble_eq_true rfl) 1 (Nat.le_of_ble_eq_true rfl) ?_
  show E G mi_X5_offsetAt K M 0 0 0 [some (.ref a0), some (.int a1), none] []
  refine e_blk 1 0 _ _ (pc' := 1) (L' := [some (.ref a0), some (.int a1), none]) (st' := [.ref a0]) rfl ?_
  obtain ⟨ho1, h⟩ := h
  refine e_getI 5 2 rfl rfl (by decide) (aw (i := 249) (by decide +kernel) rfl) ho1 rfl ?_
  refine e_blk 1 4 _ _ (pc' := 5) (L' := [some (.ref a0), some (.int a1), some (.int (mI M a0 2))]) (st' := []) rfl ?_
  generalize hx_x2 : ((mI M a0 2) : Int32) = x2
  replace h := h x2 hx_x2.symm
  refine e_drp [true, true, true] (L' := [some (.ref a0), some (.int a1), some (.int x2)]) rfl ?_
  obtain ⟨y, h⟩ := h
  exact x_X5_offsetAt_5  y _ _ _ _ h
def V_X5_leastMinuteOf_40 (K : Rs → Mm → Prop) (B2 : Mm → Nat → Int32 → Int32 → Prop) (M : Mm) (l0 : Nat) (l1 : Int32) (l2 : Int32) : Prop := ∀ x1 : Int32, x1 = (l2 + (1 : Int32)) → B2 M l0 l1 x1
set_option maxRecDepth 100000 in
set_option maxHeartbeats 4000000 in
theorem x_X5_leastMinuteOf_40 {G : Gx} {K : Rs → Mm → Prop} {B2 : Mm → Nat → Int32 → Int32 → Prop} (hB2 : ∀ M l0 l1 l2, B2 M l0 l1 l2 → E G mi_X5_leastMinuteOf K M 0 0 2 [some (.ref l0), some (.int l1), some (.int l2), none] []) {M : Mm} {l0 : Nat} {l1 : Int32} {l2 : Int32} (h : V_X5_leastMinuteOf_40 K B2 M l0 l1 l2) : E G mi_X5_leastMinuteOf K M 0 0 40 [some (.ref l0), some (.int l1), some (.int l2), none] [] := by
  unfold V_X5_leastMinuteOf_40 at h
  refine e_blk 2 40 _ _ (pc' := 2) (L' := [some (.ref l0), some (.int l1), some (.int (l2 + (1 : Int32))), none]) (st' := []) rfl ?_
  generalize hx_x1 : ((l2 + (1 : Int32)) : Int32) = x1
  replace h := h x1 hx_x1.symm
  refine e_drp [true, true, true, false] (L' := [some (.ref l0), some (.int l1), some (.int x1), none]) rfl ?_
  exact hB2 _ _ _ _ h
def V_X5_leastMinuteOf_2 (K : Rs → Mm → Prop)  : Nat → Mm → Nat → Int32 → Int32 → Prop
  | 0, _, _, _, _ => False
  | z + 1, M, l0, l1, l2 => (ob M l0 5 ∧ (((mI M l0 2) < l2 → K (.inl (some (.int (-1 : Int32)))) M) ∧ (¬ (mI M l0 2) < l2 → ∃ b2, mP M l0 1 = some b2 ∧ (ob M b2 9 ∧ (vp_in l2 (mN M b2) ∧ ∀ x5 : Int32, x5 = (l1 - (mI M b2 (l2).toNatClampNeg)) → ∃ b6, mP M l0 0 = some b6 ∧ (ob M b6 9 ∧ (vp_in l2 (mN M b6) ∧ ((x5 < (mI M b6 (l2).toNatClampNeg) → V_X5_leastMinuteOf_40 K (fun M l0 l1 l2 => V_X5_leastMinuteOf_2 K  z M l0 l1 l2) M l0 l1 l2) ∧ (¬ x5 < (mI M b6 (l2).toNatClampNeg) → V_X5_lastMinuteOf (kI (fun r10 M9 => ((r10 < x5 → V_X5_leastMinuteOf_40 K (fun M l0 l1 l2 => V_X5_leastMinuteOf_2 K  z M l0 l1 l2) M9 l0 l1 l2) ∧ (¬ r10 < x5 → K (.inl (some (.int x5))) M9))) (fun _ _ => False)) M l0 l2)))))))))
set_option maxRecDepth 100000 in
set_option maxHeartbeats 4000000 in
theorem x_X5_leastMinuteOf_2 {G : Gx} {K : Rs → Mm → Prop}  : ∀ (z : Nat) (M : Mm) (l0 : Nat) (l1 : Int32) (l2 : Int32), V_X5_leastMinuteOf_2 K  z M l0 l1 l2 → E G mi_X5_leastMinuteOf K M 0 0 2 [some (.ref l0), some (.int l1), some (.int l2), none] []
  | 0, M, l0, l1, l2, h => False.elim h
  | z + 1, M, l0, l1, l2, h => by
    unfold V_X5_leastMinuteOf_2 at h
    refine e_blk 2 2 _ _ (pc' := 4) (L' := [some (.ref l0), some (.int l1), some (.int l2), none]) (st' := [.ref l0, .int l2]) rfl ?_
    obtain ⟨ho1, h⟩ := h
    refine e_getI 5 2 rfl rfl (by decide) (aw (i := 249) (by decide +kernel) rfl) ho1 rfl ?_
    refine e_icmp_gt 46 rfl rfl (fun hc => ?_) (fun hc => ?_)
    · replace h := h.1 hc
      refine e_blk 1 46 _ _ (pc' := 47) (L' := [some (.ref l0), some (.int l1), some (.int l2), none]) (st' := [.int (-1 : Int32)]) rfl ?_
      exact e_reti rfl rfl (by decide) (by decide) h
    · replace h := h.2 hc
      refine e_blk 2 10 _ _ (pc' := 12) (L' := [some (.ref l0), some (.int l1), some (.int l2), none]) (st' := [.ref l0, .int l1]) rfl ?_
      obtain ⟨b2, hbb2, h⟩ := h
      refine e_getR 5 1 rfl rfl (by decide) (aw (i := 247) (by decide +kernel) rfl) ho1 rfl hbb2 ?_
      refine e_blk 1 15 _ _ (pc' := 16) (L' := [some (.ref l0), some (.int l1), some (.int l2), none]) (st' := [.int l2, .ref b2, .int l1]) rfl ?_
      obtain ⟨ho3, h⟩ := h
      obtain ⟨hi4, h⟩ := h
      refine e_iald rfl ho3 hi4 ?_
      refine e_blk 4 17 _ _ (pc' := 21) (L' := [some (.ref l0), some (.int l1), some (.int l2), some (.int (l1 - (mI M b2 (l2).toNatClampNeg)))]) (st' := [.ref l0, .int (l1 - (mI M b2 (l2).toNatClampNeg))]) rfl ?_
      generalize hx_x5 : ((l1 - (mI M b2 (l2).toNatClampNeg)) : Int32) = x5
      replace h := h x5 hx_x5.symm
      obtain ⟨b6, hbb6, h⟩ := h
      refine e_getR 5 0 rfl rfl (by decide) (aw (i := 245) (by decide +kernel) rfl) ho1 rfl hbb6 ?_
      refine e_blk 1 24 _ _ (pc' := 25) (L' := [some (.ref l0), some (.int l1), some (.int l2), some (.int x5)]) (st' := [.int l2, .ref b6, .int x5]) rfl ?_
      obtain ⟨ho7, h⟩ := h
      obtain ⟨hi8, h⟩ := h
      refine e_iald rfl ho7 hi8 ?_
      refine e_icmp_lt 40 rfl rfl (fun hc => ?_) (fun hc => ?_)
      · replace h := h.1 hc
        refine e_drp [true, true, true, false] (L' := [some (.ref l0), some (.int l1), some (.int l2), none]) rfl ?_
        exact x_X5_leastMinuteOf_40 (fun M l0 l1 l2 h => x_X5_leastMinuteOf_2  z M l0 l1 l2 h) h
      · replace h := h.2 hc
        refine e_blk 3 29 _ _ (pc' := 32) (L' := [some (.ref l0), some (.int l1), some (.int l2), some (.int x5)]) (st' := [.int l2, .ref l0, .int x5]) rfl ?_
        refine e_callV (As := [.int l2]) (rest := [.int x5]) (ci := 5) rfl (x_X5_lastMinuteOf h) ho1 rfl rfl rfl (aw (i := 568) (by decide +kernel) rfl) wn_X5_lastMinuteOf wv_X5_lastMinuteOf wi_X5_lastMinuteOf wc_X5_lastMinuteOf (show cok mi_X5_leastMinuteOf mi_X5_lastMinuteOf 0 0 1 = true by decide +kernel) (Nat.le_of_ble_eq_true rfl) (fun v9 M9 hq => ?_) (fun X M9 hq => False.elim hq)
        obtain ⟨r10, rfl, h⟩ := kI_l hq
        refine e_icmp_gt 40 rfl rfl (fun hc => ?_) (fun hc => ?_)
        · replace h := h.1 hc
          refine e_drp [true, true, true, false] (L' := [some (.ref l0), some (.int l1), some (.int l2), none]) rfl ?_
          exact x_X5_leastMinuteOf_40 (fun M l0 l1 l2 h => x_X5_leastMinuteOf_2  z M l0 l1 l2 h) h
        · replace h := h.2 hc
          refine e_blk 1 38 _ _ (pc' := 39) (L' := [some (.ref l0), some (.int l1), some (.int l2), some (.int x5)]) (st' := [.int x5]) rfl ?_
          exact e_reti rfl rfl (by decide) (by decide) h
def V_X5_leastMinuteOf (K : Rs → Mm → Prop) (M : Mm) (a0 : Nat) (a1 : Int32) : Prop := ∃ y, V_X5_leastMinuteOf_2 K  y M a0 a1 (0 : Int32)
set_option maxRecDepth 100000 in
set_option maxHeartbeats 4000000 in
theorem x_X5_leastMinuteOf {G : Gx} {K : Rs → Mm → Prop} {M : Mm} {a0 : Nat} {a1 : Int32} (h : V_X5_leastMinuteOf K M a0 a1) : MC G mi_X5_leastMinuteOf [.ref a0, .int a1] M K := by
  unfold V_X5_leastMinuteOf at h
  refine mc_of rfl (by decide +kernel) dc_X5_leastMinuteOf (Nat.le_of_ble_eq_true rfl) 2 (Nat.le_of_ble_eq_true rfl) ?_
  show E G mi_X5_leastMinuteOf K M 0 0 0 [some (.ref a0), some (.int a1), none, none] []
  refine e_blk 2 0 _ _ (pc' := 2) (L' := [some (.ref a0), some (.int a1), some (.int (0 : Int32)), none]) (st' := []) rfl ?_
  refine e_drp [true, true, true, false] (L' := [some (.ref a0), some (.int a1), some (.int (0 : Int32)), none]) rfl ?_
  obtain ⟨y, h⟩ := h
  exact x_X5_leastMinuteOf_2  y _ _ _ _ h
