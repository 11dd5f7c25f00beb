def is_X3_holdsYear : List (Instr × Nat) := [(.aload_n 0, 1), (.getfield 25, 3), (.ifCond .ne 5, 3), (.iconst 1, 1), (.ireturn, 1), (.iload_n 1, 1), (.sipush 1900, 3), (.isub, 1), (.istore_n 2, 1), (.iload_n 2, 1), (.ifCond .lt 33, 3), (.iload_n 2, 1), (.sipush 299, 3), (.if_icmp .gt 26, 3), (.aload_n 0, 1), (.getfield 22, 3), (.iload_n 2, 1), (.bipush 64, 2), (.idiv, 1), (.laload, 1), (.iload_n 2, 1), (.bipush 64, 2), (.irem, 1), (.invokestatic 59, 3), (.ifCond .eq 7, 3), (.iconst 1, 1), (.goto 4, 3), (.iconst 0, 1), (.ireturn, 1)]
abbrev mi_X3_holdsYear : MI := (yX3_holdsYear, cX3_holdsYear, 3, (some .boolean), [], { frames := 1, cells := 0, slots := 0, locals := 22 }, is_X3_holdsYear)
theorem dc_X3_holdsYear : dcb cX3_holdsYear is_X3_holdsYear 0 = true := by decide +kernel
theorem wc_X3_holdsYear : cdw mi_X3_holdsYear ∈ ALLW := aw (i := 797) (by decide +kernel) rfl
theorem wi_X3_holdsYear : Cond.initialized (miY mi_X3_holdsYear).cls ∈ ALLW := aw (i := 60) (by decide +kernel) rfl
theorem wn_X3_holdsYear : Cond.instanceMethod (miY mi_X3_holdsYear) ∈ ALLW := aw (i := 795) (by decide +kernel) rfl
theorem wv_X3_holdsYear : Cond.selects (miY mi_X3_holdsYear).cls (miY mi_X3_holdsYear) (miY mi_X3_holdsYear) ∈ ALLW := aw (i := 796) (by decide +kernel) rfl
def is_X3_daysByDay : List (Instr × Nat) := [(.aload_n 0, 1), (.getfield 12, 3), (.getfield 80, 3), (.istore_n 1, 1), (.aload_n 0, 1), (.getfield 18, 3), (.iconst 2, 1), (.laload, 1), (.iload_n 1, 1), (.iconst 1, 1), (.iadd, 1), (.invokestatic 83, 3), (.land, 1), (.lstore_n 2, 1), (.iconst 0, 1), (.istore 4, 2), (.iload 4, 2), (.iload_n 1, 1), (.if_icmp .ge 39, 3), (.aload_n 0, 1), (.getfield 35, 3), (.lconst 0, 1), (.lcmp, 1), (.ifCond .eq 30, 3), (.aload_n 0, 1), (.getfield 35, 3), (.iload 4, 2), (.invokestatic 59, 3), (.ifCond .eq 12, 3), (.lload_n 2, 1), (.lconst 1, 1), (.iload_n 1, 1), (.iload 4, 2), (.isub, 1), (.lshl, 1), (.lor, 1), (.lstore_n 2, 1), (.iinc 4 1, 3), (.goto (-39), 3), (.aload_n 0, 1), (.getfield 39, 3), (.ifCond .eq 14, 3), (.aload_n 0, 1), (.getfield 42, 3), (.lconst 1, 1), (.iload_n 1, 1), (.lshl, 1), (.lor, 1), (.goto 7, 3), (.aload_n 0, 1), (.getfield 42, 3), (.lstore 4, 2), (.aload_n 0, 1), (.getfield 12, 3), (.getfield 87, 3), (.istore 6, 2), (.iconst 1, 1), (.istore 7, 2), (.iload 7, 2), (.iload_n 1, 1), (.if_icmp .gt 104, 3), (.lload 4, 2), (.lconst 0, 1), (.lcmp, 1), (.ifCond .eq 97, 3), (.lload 4, 2), (.iload 7, 2), (.invokestatic 59, 3), (.ifCond .eq 64, 3), (.iload 7, 2), (.istore 8, 2), (.iload 6, 2), (.bipush 6, 2), (.if_icmp .ne 22, 3), (.iload 7, 2), (.iconst 1, 1), (.if_icmp .ne 7, 3), (.iconst 3, 1), (.goto 7, 3), (.iload 7, 2), (.iconst 1, 1), (.isub, 1), (.istore 8, 2), (.goto 27, 3), (.iload 6, 2), (.ifCond .ne 22, 3), (.iload 7, 2), (.iload_n 1, 1), (.if_icmp .ne 10, 3), (.iload 7, 2), (.iconst 2, 1), (.isub, 1), (.goto 7, 3), (.iload 7, 2), (.iconst 1, 1), (.iadd, 1), (.istore 8, 2), (.lload_n 2, 1), (.lconst 1, 1), (.iload 8, 2), (.lshl, 1), (.lor, 1), (.lstore_n 2, 1), (.iload 6, 2), (.bipush 6, 2), (.if_icmp .ne 7, 3), (.iconst 0, 1), (.goto 7, 3), (.iload 6, 2), (.iconst 1, 1), (.iadd, 1), (.istore 6, 2), (.iinc 7 1, 3), (.goto (-104), 3), (.lload_n 2, 1), (.lreturn, 1)]
abbrev mi_X3_daysByDay : MI := (yX3_daysByDay, cX3_daysByDay, 9, (some .long), [], { frames := 1, cells := 0, slots := 0, locals := 22 }, is_X3_daysByDay)
theorem dc_X3_daysByDay : dcb cX3_daysByDay is_X3_daysByDay 0 = true := by decide +kernel
theorem wc_X3_daysByDay : cdw mi_X3_daysByDay ∈ ALLW := aw (i := 801) (by decide +kernel) rfl
theorem wi_X3_daysByDay : Cond.initialized (miY mi_X3_daysByDay).cls ∈ ALLW := aw (i := 60) (by decide +kernel) rfl
theorem wn_X3_daysByDay : Cond.instanceMethod (miY mi_X3_daysByDay) ∈ ALLW := aw (i := 799) (by decide +kernel) rfl
theorem wv_X3_daysByDay : Cond.selects (miY mi_X3_daysByDay).cls (miY mi_X3_daysByDay) (miY mi_X3_daysByDay) ∈ ALLW := aw (i := 800) (by decide +kernel) rfl
def is_X3_weekFrom : List (Instr × Nat) := [(.lload_n 1, 1), (.ldc2_w 94, 3), (.land, 1), (.lstore_n 3, 1), (.lload_n 3, 1), (.iload_n 0, 1), (.lushr, 1), (.lload_n 3, 1), (.bipush 7, 2), (.iload_n 0, 1), (.isub, 1), (.lshl, 1), (.lor, 1), (.ldc2_w 94, 3), (.land, 1), (.lreturn, 1)]
abbrev mi_X3_weekFrom : MI := (yX3_weekFrom, cX3_weekFrom, 5, (some .long), [], { frames := 0, cells := 0, slots := 0, locals := 0 }, is_X3_weekFrom)
theorem dc_X3_weekFrom : dcb cX3_weekFrom is_X3_weekFrom 0 = true := by decide +kernel
theorem wc_X3_weekFrom : cdw mi_X3_weekFrom ∈ ALLW := aw (i := 811) (by decide +kernel) rfl
theorem wi_X3_weekFrom : Cond.initialized (miY mi_X3_weekFrom).cls ∈ ALLW := aw (i := 60) (by decide +kernel) rfl
theorem ws_X3_weekFrom : Cond.static (miY mi_X3_weekFrom) ∈ ALLW := aw (i := 810) (by decide +kernel) rfl
def is_X3_daysByWeekday : List (Instr × Nat) := [(.aload_n 0, 1), (.getfield 12, 3), (.getfield 80, 3), (.istore_n 1, 1), (.lconst 0, 1), (.lstore_n 2, 1), (.iconst 1, 1), (.istore 4, 2), (.iload 4, 2), (.iconst 5, 1), (.if_icmp .gt 52, 3), (.aload_n 0, 1), (.getfield 18, 3), (.iconst 4, 1), (.laload, 1), (.aload_n 0, 1), (.getfield 48, 3), (.bipush 7, 2), (.iload 4, 2), (.imul, 1), (.lushr, 1), (.lor, 1), (.lstore 5, 2), (.lload_n 2, 1), (.aload_n 0, 1), (.getfield 12, 3), (.getfield 87, 3), (.lload 5, 2), (.invokestatic 90, 3), (.bipush 7, 2), (.iload 4, 2), (.imul, 1), (.bipush 6, 2), (.isub, 1), (.lshl, 1), (.lor, 1), (.lstore_n 2, 1), (.iinc 4 1, 3), (.goto (-52), 3), (.aload_n 0, 1), (.getfield 12, 3), (.getfield 87, 3), (.iload_n 1, 1), (.iadd, 1), (.bipush 7, 2), (.irem, 1), (.istore 4, 2), (.lload_n 2, 1), (.iload 4, 2), (.aload_n 0, 1), (.getfield 45, 3), (.invokestatic 90, 3), (.iload_n 1, 1), (.bipush 6, 2), (.isub, 1), (.lshl, 1), (.lor, 1), (.lstore_n 2, 1), (.lload_n 2, 1), (.iload_n 1, 1), (.iconst 1, 1), (.iadd, 1), (.invokestatic 83, 3), (.land, 1), (.lreturn, 1)]
abbrev mi_X3_daysByWeekday : MI := (yX3_daysByWeekday, cX3_daysByWeekday, 7, (some .long), [], { frames := 1, cells := 0, slots := 0, locals := 24 }, is_X3_daysByWeekday)
theorem dc_X3_daysByWeekday : dcb cX3_daysByWeekday is_X3_daysByWeekday 0 = true := by decide +kernel
theorem wc_X3_daysByWeekday : cdw mi_X3_daysByWeekday ∈ ALLW := aw (i := 808) (by decide +kernel) rfl
theorem wi_X3_daysByWeekday : Cond.initialized (miY mi_X3_daysByWeekday).cls ∈ ALLW := aw (i := 60) (by decide +kernel) rfl
theorem wn_X3_daysByWeekday : Cond.instanceMethod (miY mi_X3_daysByWeekday) ∈ ALLW := aw (i := 806) (by decide +kernel) rfl
theorem wv_X3_daysByWeekday : Cond.selects (miY mi_X3_daysByWeekday).cls (miY mi_X3_daysByWeekday) (miY mi_X3_daysByWeekday) ∈ ALLW := aw (i := 807) (by decide +kernel) rfl
def is_X3_rightDays : List (Instr × Nat) := [(.iload_n 1, 1), (.iconst 3, 1), (.if_icmp .ne 38, 3), (.aload_n 0, 1), (.getfield 18, 3), (.iconst 3, 1), (.laload, 1), (.aload_n 0, 1), (.getfield 12, 3), (.getfield 63, 3), (.invokestatic 59, 3), (.ifCond .eq 17, 3), (.aload_n 0, 1), (.aload_n 0, 1), (.getfield 12, 3), (.getfield 66, 3), (.invokevirtual 69, 3), (.ifCond .ne 5, 3), (.lconst 0, 1), (.lreturn, 1), (.iload_n 1, 1), (.ifCond .ne 8, 3), (.aload_n 0, 1), (.invokevirtual 73, 3), (.lreturn, 1), (.iload_n 1, 1), (.iconst 1, 1), (.if_icmp .ne 8, 3), (.aload_n 0, 1), (.invokevirtual 77, 3), (.lreturn, 1), (.aload_n 0, 1), (.getfield 29, 3), (.ifCond .ne 10, 3), (.aload_n 0, 1), (.getfield 32, 3), (.ifCond .eq 15, 3), (.aload_n 0, 1), (.invokevirtual 73, 3), (.aload_n 0, 1), (.invokevirtual 77, 3), (.land, 1), (.goto 12, 3), (.aload_n 0, 1), (.invokevirtual 73, 3), (.aload_n 0, 1), (.invokevirtual 77, 3), (.lor, 1), (.lreturn, 1)]
abbrev mi_X3_rightDays : MI := (yX3_rightDays, cX3_rightDays, 2, (some .long), [], { frames := 2, cells := 0, slots := 0, locals := 50 }, is_X3_rightDays)
theorem dc_X3_rightDays : dcb cX3_rightDays is_X3_rightDays 0 = true := by decide +kernel
theorem wc_X3_rightDays : cdw mi_X3_rightDays ∈ ALLW := aw (i := 790) (by decide +kernel) rfl
theorem wi_X3_rightDays : Cond.initialized (miY mi_X3_rightDays).cls ∈ ALLW := aw (i := 60) (by decide +kernel) rfl
theorem wn_X3_rightDays : Cond.instanceMethod (miY mi_X3_rightDays) ∈ ALLW := aw (i := 788) (by decide +kernel) rfl
theorem wv_X3_rightDays : Cond.selects (miY mi_X3_rightDays).cls (miY mi_X3_rightDays) (miY mi_X3_rightDays) ∈ ALLW := aw (i := 789) (by decide +kernel) rfl
def is_X3_isRight : List (Instr × Nat) := [(.iload_n 1, 1), (.aload_n 0, 1), (.getfield 52, 3), (.if_icmp .eq 35, 3), (.aload_n 0, 1), (.getfield 12, 3), (.iload_n 1, 1), (.invokevirtual 96, 3), (.aload_n 0, 1), (.aload_n 0, 1), (.iconst 3, 1), (.invokevirtual 100, 3), (.aload_n 0, 1), (.getfield 12, 3), (.getfield 103, 3), (.invokestatic 59, 3), (.putfield 56, 3), (.aload_n 0, 1), (.iload_n 1, 1), (.putfield 52, 3), (.aload_n 0, 1), (.getfield 56, 3), (.ireturn, 1)]
abbrev mi_X3_isRight : MI := (yX3_isRight, cX3_isRight, 2, (some .boolean), [], { frames := 3, cells := 0, slots := 0, locals := 71 }, is_X3_isRight)
theorem dc_X3_isRight : dcb cX3_isRight is_X3_isRight 0 = true := by decide +kernel
theorem wc_X3_isRight : cdw mi_X3_isRight ∈ ALLW := aw (i := 840) (by decide +kernel) rfl
theorem wi_X3_isRight : Cond.initialized (miY mi_X3_isRight).cls ∈ ALLW := aw (i := 60) (by decide +kernel) rfl
theorem wn_X3_isRight : Cond.instanceMethod (miY mi_X3_isRight) ∈ ALLW := aw (i := 838) (by decide +kernel) rfl
theorem wv_X3_isRight : Cond.selects (miY mi_X3_isRight).cls (miY mi_X3_isRight) (miY mi_X3_isRight) ∈ ALLW := aw (i := 839) (by decide +kernel) rfl
def is_X3_timeFrom : List (Instr × Nat) := [(.iload_n 1, 1), (.bipush 60, 2), (.idiv, 1), (.istore_n 2, 1), (.aload_n 0, 1), (.getfield 18, 3), (.iconst 0, 1), (.laload, 1), (.iload_n 1, 1), (.bipush 60, 2), (.irem, 1), (.invokestatic 83, 3), (.ldc2_w 131, 3), (.lxor, 1), (.land, 1), (.lstore_n 3, 1), (.aload_n 0, 1), (.getfield 18, 3), (.iconst 1, 1), (.laload, 1), (.iload_n 2, 1), (.invokestatic 59, 3), (.ifCond .eq 19, 3), (.lload_n 3, 1), (.lconst 0, 1), (.lcmp, 1), (.ifCond .eq 13, 3), (.iload_n 2, 1), (.bipush 60, 2), (.imul, 1), (.lload_n 3, 1), (.invokestatic 113, 3), (.iadd, 1), (.ireturn, 1), (.aload_n 0, 1), (.getfield 18, 3), (.iconst 1, 1), (.laload, 1), (.iload_n 2, 1), (.iconst 1, 1), (.iadd, 1), (.invokestatic 83, 3), (.ldc2_w 131, 3), (.lxor, 1), (.land, 1), (.lstore 5, 2), (.lload 5, 2), (.lconst 0, 1), (.lcmp, 1), (.ifCond .ne 7, 3), (.iconst (-1), 1), (.goto 21, 3), (.lload 5, 2), (.invokestatic 113, 3), (.bipush 60, 2), (.imul, 1), (.aload_n 0, 1), (.getfield 18, 3), (.iconst 0, 1), (.laload, 1), (.invokestatic 113, 3), (.iadd, 1), (.ireturn, 1)]
abbrev mi_X3_timeFrom : MI := (yX3_timeFrom, cX3_timeFrom, 7, (some .int), [], { frames := 2, cells := 0, slots := 0, locals := 42 }, is_X3_timeFrom)
theorem dc_X3_timeFrom : dcb cX3_timeFrom is_X3_timeFrom 0 = true := by decide +kernel
theorem wc_X3_timeFrom : cdw mi_X3_timeFrom ∈ ALLW := aw (i := 846) (by decide +kernel) rfl
theorem wi_X3_timeFrom : Cond.initialized (miY mi_X3_timeFrom).cls ∈ ALLW := aw (i := 60) (by decide +kernel) rfl
theorem wn_X3_timeFrom : Cond.instanceMethod (miY mi_X3_timeFrom) ∈ ALLW := aw (i := 844) (by decide +kernel) rfl
theorem wv_X3_timeFrom : Cond.selects (miY mi_X3_timeFrom).cls (miY mi_X3_timeFrom) (miY mi_X3_timeFrom) ∈ ALLW := aw (i := 845) (by decide +kernel) rfl
def is_X3_firstRightDay : List (Instr × Nat) := [(.aload_n 0, 1), (.getfield 12, 3), (.iload_n 1, 1), (.invokevirtual 96, 3), (.iconst 0, 1), (.istore_n 3, 1), (.iload_n 3, 1), (.sipush 4000, 3), (.if_icmp .ge 67, 3), (.aload_n 0, 1), (.getfield 12, 3), (.getfield 106, 3), (.iload_n 2, 1), (.if_icmp .gt 56, 3), (.aload_n 0, 1), (.iconst 3, 1), (.invokevirtual 100, 3), (.aload_n 0, 1), (.getfield 12, 3), (.iload_n 1, 1), (.iload_n 2, 1), (.invokevirtual 109, 3), (.land, 1), (.lstore 4, 2), (.lload 4, 2), (.lconst 0, 1), (.lcmp, 1), (.ifCond .eq 19, 3), (.aload_n 0, 1), (.getfield 12, 3), (.getfield 106, 3), (.lload 4, 2), (.invokestatic 113, 3), (.iadd, 1), (.iconst 1, 1), (.isub, 1), (.ireturn, 1), (.aload_n 0, 1), (.getfield 12, 3), (.invokevirtual 117, 3), (.iinc 3 1, 3), (.goto (-68), 3), (.ldc 51, 2), (.ireturn, 1)]
abbrev mi_X3_firstRightDay : MI := (yX3_firstRightDay, cX3_firstRightDay, 6, (some .int), [], { frames := 3, cells := 0, slots := 0, locals := 71 }, is_X3_firstRightDay)
theorem dc_X3_firstRightDay : dcb cX3_firstRightDay is_X3_firstRightDay 0 = true := by decide +kernel
theorem wc_X3_firstRightDay : cdw mi_X3_firstRightDay ∈ ALLW := aw (i := 860) (by decide +kernel) rfl
theorem wi_X3_firstRightDay : Cond.initialized (miY mi_X3_firstRightDay).cls ∈ ALLW := aw (i := 60) (by decide +kernel) rfl
theorem wn_X3_firstRightDay : Cond.instanceMethod (miY mi_X3_firstRightDay) ∈ ALLW := aw (i := 858) (by decide +kernel) rfl
theorem wv_X3_firstRightDay : Cond.selects (miY mi_X3_firstRightDay).cls (miY mi_X3_firstRightDay) (miY mi_X3_firstRightDay) ∈ ALLW := aw (i := 859) (by decide +kernel) rfl
def is_X3_firstIn : List (Instr × Nat) := [(.iload_n 1, 1), (.sipush 1440, 3), (.invokestatic 133, 3), (.istore_n 3, 1), (.aload_n 0, 1), (.iload_n 3, 1), (.invokevirtual 139, 3), (.ifCond .eq 17, 3), (.aload_n 0, 1), (.iload_n 1, 1), (.iload_n 3, 1), (.sipush 1440, 3), (.imul, 1), (.isub, 1), (.invokevirtual 142, 3), (.goto 4, 3), (.iconst (-1), 1), (.istore 4, 2), (.iload 4, 2), (.iconst (-1), 1), (.if_icmp .ne 25, 3), (.aload_n 0, 1), (.iload_n 3, 1), (.iconst 1, 1), (.iadd, 1), (.iload_n 2, 1), (.sipush 1440, 3), (.invokestatic 133, 3), (.invokevirtual 146, 3), (.istore_n 3, 1), (.aload_n 0, 1), (.iconst 0, 1), (.invokevirtual 142, 3), (.istore 4, 2), (.iload_n 3, 1), (.sipush 1440, 3), (.imul, 1), (.iload 4, 2), (.iadd, 1), (.istore 5, 2), (.iload_n 3, 1), (.ldc 51, 2), (.if_icmp .eq 9, 3), (.iload 5, 2), (.iload_n 2, 1), (.if_icmp .le 8, 3), (.ldc 51, 2), (.goto 5, 3), (.iload 5, 2), (.ireturn, 1)]
abbrev mi_X3_firstIn : MI := (yX3_firstIn, cX3_firstIn, 6, (some .int), [], { frames := 4, cells := 0, slots := 0, locals := 96 }, is_X3_firstIn)
theorem dc_X3_firstIn : dcb cX3_firstIn is_X3_firstIn 0 = true := by decide +kernel
theorem wc_X3_firstIn : cdw mi_X3_firstIn ∈ ALLW := aw (i := 835) (by decide +kernel) rfl
theorem wi_X3_firstIn : Cond.initialized (miY mi_X3_firstIn).cls ∈ ALLW := aw (i := 60) (by decide +kernel) rfl
theorem wn_X3_firstIn : Cond.instanceMethod (miY mi_X3_firstIn) ∈ ALLW := aw (i := 833) (by decide +kernel) rfl
theorem wv_X3_firstIn : Cond.selects (miY mi_X3_firstIn).cls (miY mi_X3_firstIn) (miY mi_X3_firstIn) ∈ ALLW := aw (i := 834) (by decide +kernel) rfl
def is_X3_timeUpTo : List (Instr × Nat) := [(.iload_n 1, 1), (.bipush 60, 2), (.idiv, 1), (.istore_n 2, 1), (.aload_n 0, 1), (.getfield 18, 3), (.iconst 0, 1), (.laload, 1), (.iload_n 1, 1), (.bipush 60, 2), (.irem, 1), (.iconst 1, 1), (.iadd, 1), (.invokestatic 83, 3), (.land, 1), (.lstore_n 3, 1), (.aload_n 0, 1), (.getfield 18, 3), (.iconst 1, 1), (.laload, 1), (.iload_n 2, 1), (.invokestatic 59, 3), (.ifCond .eq 19, 3), (.lload_n 3, 1), (.lconst 0, 1), (.lcmp, 1), (.ifCond .eq 13, 3), (.iload_n 2, 1), (.bipush 60, 2), (.imul, 1), (.lload_n 3, 1), (.invokestatic 120, 3), (.iadd, 1), (.ireturn, 1), (.aload_n 0, 1), (.getfield 18, 3), (.iconst 1, 1), (.laload, 1), (.iload_n 2, 1), (.invokestatic 83, 3), (.land, 1), (.lstore 5, 2), (.lload 5, 2), (.lconst 0, 1), (.lcmp, 1), (.ifCond .ne 7, 3), (.iconst (-1), 1), (.goto 21, 3), (.lload 5, 2), (.invokestatic 120, 3), (.bipush 60, 2), (.imul, 1), (.aload_n 0, 1), (.getfield 18, 3), (.iconst 0, 1), (.laload, 1), (.invokestatic 120, 3), (.iadd, 1), (.ireturn, 1)]
abbrev mi_X3_timeUpTo : MI := (yX3_timeUpTo, cX3_timeUpTo, 7, (some .int), [], { frames := 2, cells := 0, slots := 0, locals := 45 }, is_X3_timeUpTo)
theorem dc_X3_timeUpTo : dcb cX3_timeUpTo is_X3_timeUpTo 0 = true := by decide +kernel
theorem wc_X3_timeUpTo : cdw mi_X3_timeUpTo ∈ ALLW := aw (i := 905) (by decide +kernel) rfl
theorem wi_X3_timeUpTo : Cond.initialized (miY mi_X3_timeUpTo).cls ∈ ALLW := aw (i := 60) (by decide +kernel) rfl
theorem wn_X3_timeUpTo : Cond.instanceMethod (miY mi_X3_timeUpTo) ∈ ALLW := aw (i := 903) (by decide +kernel) rfl
theorem wv_X3_timeUpTo : Cond.selects (miY mi_X3_timeUpTo).cls (miY mi_X3_timeUpTo) (miY mi_X3_timeUpTo) ∈ ALLW := aw (i := 904) (by decide +kernel) rfl
def is_X3_lastRightDay : List (Instr × Nat) := [(.aload_n 0, 1), (.getfield 12, 3), (.iload_n 2, 1), (.invokevirtual 96, 3), (.iconst 0, 1), (.istore_n 3, 1), (.iload_n 3, 1), (.sipush 4000, 3), (.if_icmp .ge 75, 3), (.aload_n 0, 1), (.getfield 12, 3), (.getfield 106, 3), (.aload_n 0, 1), (.getfield 12, 3), (.getfield 80, 3), (.iadd, 1), (.iload_n 1, 1), (.if_icmp .le 56, 3), (.aload_n 0, 1), (.iconst 3, 1), (.invokevirtual 100, 3), (.aload_n 0, 1), (.getfield 12, 3), (.iload_n 1, 1), (.iload_n 2, 1), (.invokevirtual 109, 3), (.land, 1), (.lstore 4, 2), (.lload 4, 2), (.lconst 0, 1), (.lcmp, 1), (.ifCond .eq 19, 3), (.aload_n 0, 1), (.getfield 12, 3), (.getfield 106, 3), (.lload 4, 2), (.invokestatic 120, 3), (.iadd, 1), (.iconst 1, 1), (.isub, 1), (.ireturn, 1), (.aload_n 0, 1), (.getfield 12, 3), (.invokevirtual 123, 3), (.iinc 3 1, 3), (.goto (-76), 3), (.ldc 51, 2), (.ireturn, 1)]
abbrev mi_X3_lastRightDay : MI := (yX3_lastRightDay, cX3_lastRightDay, 6, (some .int), [], { frames := 3, cells := 0, slots := 0, locals := 71 }, is_X3_lastRightDay)
theorem dc_X3_lastRightDay : dcb cX3_lastRightDay is_X3_lastRightDay 0 = true := by decide +kernel
theorem wc_X3_lastRightDay : cdw mi_X3_lastRightDay ∈ ALLW := aw (i := 912) (by decide +kernel) rfl
theorem wi_X3_lastRightDay : Cond.initialized (miY mi_X3_lastRightDay).cls ∈ ALLW := aw (i := 60) (by decide +kernel) rfl
theorem wn_X3_lastRightDay : Cond.instanceMethod (miY mi_X3_lastRightDay) ∈ ALLW := aw (i := 910) (by decide +kernel) rfl
theorem wv_X3_lastRightDay : Cond.selects (miY mi_X3_lastRightDay).cls (miY mi_X3_lastRightDay) (miY mi_X3_lastRightDay) ∈ ALLW := aw (i := 911) (by decide +kernel) rfl
def is_X3_lastIn : List (Instr × Nat) := [(.iload_n 2, 1), (.sipush 1440, 3), (.invokestatic 133, 3), (.istore_n 3, 1), (.aload_n 0, 1), (.iload_n 3, 1), (.invokevirtual 139, 3), (.ifCond .eq 17, 3), (.aload_n 0, 1), (.iload_n 2, 1), (.iload_n 3, 1), (.sipush 1440, 3), (.imul, 1), (.isub, 1), (.invokevirtual 149, 3), (.goto 4, 3), (.iconst (-1), 1), (.istore 4, 2), (.iload 4, 2), (.iconst (-1), 1), (.if_icmp .ne 27, 3), (.aload_n 0, 1), (.iload_n 1, 1), (.sipush 1440, 3), (.invokestatic 133, 3), (.iload_n 3, 1), (.iconst 1, 1), (.isub, 1), (.invokevirtual 152, 3), (.istore_n 3, 1), (.aload_n 0, 1), (.sipush 1439, 3), (.invokevirtual 149, 3), (.istore 4, 2), (.iload_n 3, 1), (.sipush 1440, 3), (.imul, 1), (.iload 4, 2), (.iadd, 1), (.istore 5, 2), (.iload_n 3, 1), (.ldc 51, 2), (.if_icmp .eq 9, 3), (.iload 5, 2), (.iload_n 1, 1), (.if_icmp .ge 8, 3), (.ldc 51, 2), (.goto 5, 3), (.iload 5, 2), (.ireturn, 1)]
abbrev mi_X3_lastIn : MI := (yX3_lastIn, cX3_lastIn, 6, (some .int), [], { frames := 4, cells := 0, slots := 0, locals := 96 }, is_X3_lastIn)
theorem dc_X3_lastIn : dcb cX3_lastIn is_X3_lastIn 0 = true := by decide +kernel
theorem wc_X3_lastIn : cdw mi_X3_lastIn ∈ ALLW := aw (i := 901) (by decide +kernel) rfl
theorem wi_X3_lastIn : Cond.initialized (miY mi_X3_lastIn).cls ∈ ALLW := aw (i := 60) (by decide +kernel) rfl
theorem wn_X3_lastIn : Cond.instanceMethod (miY mi_X3_lastIn) ∈ ALLW := aw (i := 899) (by decide +kernel) rfl
theorem wv_X3_lastIn : Cond.selects (miY mi_X3_lastIn).cls (miY mi_X3_lastIn) (miY mi_X3_lastIn) ∈ ALLW := aw (i := 900) (by decide +kernel) rfl
def is_X3_timesBefore : List (Instr × Nat) := [(.iload_n 1, 1), (.bipush 60, 2), (.idiv, 1), (.istore_n 2, 1), (.aload_n 0, 1), (.getfield 18, 3), (.iconst 1, 1), (.laload, 1), (.iload_n 2, 1), (.invokestatic 83, 3), (.land, 1), (.invokestatic 126, 3), (.aload_n 0, 1), (.getfield 18, 3), (.iconst 0, 1), (.laload, 1), (.invokestatic 126, 3), (.imul, 1), (.istore_n 3, 1), (.aload_n 0, 1), (.getfield 18, 3), (.iconst 1, 1), (.laload, 1), (.iload_n 2, 1), (.invokestatic 59, 3), (.ifCond .eq 25, 3), (.iload_n 3, 1), (.aload_n 0, 1), (.getfield 18, 3), (.iconst 0, 1), (.laload, 1), (.iload_n 1, 1), (.bipush 60, 2), (.irem, 1), (.invokestatic 83, 3), (.land, 1), (.invokestatic 126, 3), (.iadd, 1), (.goto 4, 3), (.iload_n 3, 1), (.ireturn, 1)]
abbrev mi_X3_timesBefore : MI := (yX3_timesBefore, cX3_timesBefore, 4, (some .int), [], { frames := 1, cells := 0, slots := 0, locals := 22 }, is_X3_timesBefore)
theorem dc_X3_timesBefore : dcb cX3_timesBefore is_X3_timesBefore 0 = true := by decide +kernel
theorem wc_X3_timesBefore : cdw mi_X3_timesBefore ∈ ALLW := aw (i := 937) (by decide +kernel) rfl
theorem wi_X3_timesBefore : Cond.initialized (miY mi_X3_timesBefore).cls ∈ ALLW := aw (i := 60) (by decide +kernel) rfl
theorem wn_X3_timesBefore : Cond.instanceMethod (miY mi_X3_timesBefore) ∈ ALLW := aw (i := 935) (by decide +kernel) rfl
theorem wv_X3_timesBefore : Cond.selects (miY mi_X3_timesBefore).cls (miY mi_X3_timesBefore) (miY mi_X3_timesBefore) ∈ ALLW := aw (i := 936) (by decide +kernel) rfl
def is_X3_rightDaysIn : List (Instr × Nat) := [(.iconst 0, 1), (.istore_n 3, 1), (.aload_n 0, 1), (.getfield 12, 3), (.iload_n 1, 1), (.invokevirtual 96, 3), (.iconst 0, 1), (.istore 4, 2), (.iload 4, 2), (.sipush 4000, 3), (.if_icmp .ge 48, 3), (.aload_n 0, 1), (.getfield 12, 3), (.getfield 106, 3), (.iload_n 2, 1), (.if_icmp .gt 37, 3), (.iload_n 3, 1), (.aload_n 0, 1), (.iconst 3, 1), (.invokevirtual 100, 3), (.aload_n 0, 1), (.getfield 12, 3), (.iload_n 1, 1), (.iload_n 2, 1), (.invokevirtual 109, 3), (.land, 1), (.invokestatic 126, 3), (.iadd, 1), (.istore_n 3, 1), (.aload_n 0, 1), (.getfield 12, 3), (.invokevirtual 117, 3), (.iinc 4 1, 3), (.goto (-50), 3), (.iload_n 3, 1), (.ireturn, 1)]
abbrev mi_X3_rightDaysIn : MI := (yX3_rightDaysIn, cX3_rightDaysIn, 5, (some .int), [], { frames := 3, cells := 0, slots := 0, locals := 71 }, is_X3_rightDaysIn)
theorem dc_X3_rightDaysIn : dcb cX3_rightDaysIn is_X3_rightDaysIn 0 = true := by decide +kernel
theorem wc_X3_rightDaysIn : cdw mi_X3_rightDaysIn ∈ ALLW := aw (i := 942) (by decide +kernel) rfl
theorem wi_X3_rightDaysIn : Cond.initialized (miY mi_X3_rightDaysIn).cls ∈ ALLW := aw (i := 60) (by decide +kernel) rfl
theorem wn_X3_rightDaysIn : Cond.instanceMethod (miY mi_X3_rightDaysIn) ∈ ALLW := aw (i := 940) (by decide +kernel) rfl
theorem wv_X3_rightDaysIn : Cond.selects (miY mi_X3_rightDaysIn).cls (miY mi_X3_rightDaysIn) (miY mi_X3_rightDaysIn) ∈ ALLW := aw (i := 941) (by decide +kernel) rfl
def is_X3_countIn : List (Instr × Nat) := [(.iload_n 1, 1), (.sipush 1440, 3), (.invokestatic 133, 3), (.istore_n 3, 1), (.iload_n 2, 1), (.sipush 1440, 3), (.invokestatic 133, 3), (.istore 4, 2), (.aload_n 0, 1), (.sipush 1440, 3), (.invokevirtual 155, 3), (.istore 5, 2), (.aload_n 0, 1), (.iload_n 3, 1), (.iload 4, 2), (.invokevirtual 158, 3), (.iload 5, 2), (.imul, 1), (.istore 6, 2), (.aload_n 0, 1), (.iload_n 3, 1), (.invokevirtual 139, 3), (.ifCond .eq 19, 3), (.iload 6, 2), (.aload_n 0, 1), (.iload_n 1, 1), (.iload_n 3, 1), (.sipush 1440, 3), (.imul, 1), (.isub, 1), (.invokevirtual 155, 3), (.isub, 1), (.istore 6, 2), (.aload_n 0, 1), (.iload 4, 2), (.invokevirtual 139, 3), (.ifCond .eq 25, 3), (.iload 6, 2), (.iload 5, 2), (.aload_n 0, 1), (.iload_n 2, 1), (.iload 4, 2), (.sipush 1440, 3), (.imul, 1), (.isub, 1), (.iconst 1, 1), (.iadd, 1), (.invokevirtual 155, 3), (.isub, 1), (.isub, 1), (.istore 6, 2), (.iload 6, 2), (.ireturn, 1)]
abbrev mi_X3_countIn : MI := (yX3_countIn, cX3_countIn, 7, (some .int), [], { frames := 4, cells := 0, slots := 0, locals := 95 }, is_X3_countIn)
theorem dc_X3_countIn : dcb cX3_countIn is_X3_countIn 0 = true := by decide +kernel
theorem wc_X3_countIn : cdw mi_X3_countIn ∈ ALLW := aw (i := 933) (by decide +kernel) rfl
theorem wi_X3_countIn : Cond.initialized (miY mi_X3_countIn).cls ∈ ALLW := aw (i := 60) (by decide +kernel) rfl
theorem wn_X3_countIn : Cond.instanceMethod (miY mi_X3_countIn) ∈ ALLW := aw (i := 931) (by decide +kernel) rfl
theorem wv_X3_countIn : Cond.selects (miY mi_X3_countIn).cls (miY mi_X3_countIn) (miY mi_X3_countIn) ∈ ALLW := aw (i := 932) (by decide +kernel) rfl
def is_X3_clear : List (Instr × Nat) := [(.iconst 0, 1), (.istore_n 1, 1), (.iload_n 1, 1), (.iconst 5, 1), (.if_icmp .ge 16, 3), (.aload_n 0, 1), (.getfield 18, 3), (.iload_n 1, 1), (.lconst 0, 1), (.lastore, 1), (.iinc 1 1, 3), (.goto (-15), 3), (.iconst 0, 1), (.istore_n 1, 1), (.iload_n 1, 1), (.iconst 5, 1), (.if_icmp .ge 16, 3), (.aload_n 0, 1), (.getfield 22, 3), (.iload_n 1, 1), (.lconst 0, 1), (.lastore, 1), (.iinc 1 1, 3), (.goto (-15), 3), (.aload_n 0, 1), (.iconst 0, 1), (.putfield 25, 3), (.aload_n 0, 1), (.iconst 0, 1), (.putfield 29, 3), (.aload_n 0, 1), (.iconst 0, 1), (.putfield 32, 3), (.aload_n 0, 1), (.lconst 0, 1), (.putfield 35, 3), (.aload_n 0, 1), (.iconst 0, 1), (.putfield 39, 3), (.aload_n 0, 1), (.lconst 0, 1), (.putfield 42, 3), (.aload_n 0, 1), (.lconst 0, 1), (.putfield 45, 3), (.aload_n 0, 1), (.lconst 0, 1), (.putfield 48, 3), (.aload_n 0, 1), (.ldc 51, 2), (.putfield 52, 3), (.aload_n 0, 1), (.iconst 0, 1), (.putfield 56, 3), (.return_, 1)]
abbrev mi_X3_clear : MI := (yX3_clear, cX3_clear, 2, none, [], { frames := 0, cells := 0, slots := 0, locals := 0 }, is_X3_clear)
theorem dc_X3_clear : dcb cX3_clear is_X3_clear 0 = true := by decide +kernel
theorem wc_X3_clear : cdw mi_X3_clear ∈ ALLW := aw (i := 607) (by decide +kernel) rfl
theorem wi_X3_clear : Cond.initialized (miY mi_X3_clear).cls ∈ ALLW := aw (i := 60) (by decide +kernel) rfl
theorem wn_X3_clear : Cond.instanceMethod (miY mi_X3_clear) ∈ ALLW := aw (i := 605) (by decide +kernel) rfl
theorem wv_X3_clear : Cond.selects (miY mi_X3_clear).cls (miY mi_X3_clear) (miY mi_X3_clear) ∈ ALLW := aw (i := 606) (by decide +kernel) rfl
def is_X3_beginField : List (Instr × Nat) := [(.iload_n 1, 1), (.iconst 2, 1), (.if_icmp .ne 11, 3), (.aload_n 0, 1), (.iload_n 2, 1), (.putfield 29, 3), (.goto 26, 3), (.iload_n 1, 1), (.iconst 4, 1), (.if_icmp .ne 11, 3), (.aload_n 0, 1), (.iload_n 2, 1), (.putfield 32, 3), (.goto 13, 3), (.iload_n 1, 1), (.iconst 5, 1), (.if_icmp .ne 8, 3), (.aload_n 0, 1), (.iconst 1, 1), (.putfield 25, 3), (.return_, 1)]
abbrev mi_X3_beginField : MI := (yX3_beginField, cX3_beginField, 3, none, [], { frames := 0, cells := 0, slots := 0, locals := 0 }, is_X3_beginField)
theorem dc_X3_beginField : dcb cX3_beginField is_X3_beginField 0 = true := by decide +kernel
theorem wc_X3_beginField : cdw mi_X3_beginField ∈ ALLW := aw (i := 692) (by decide +kernel) rfl
theorem wi_X3_beginField : Cond.initialized (miY mi_X3_beginField).cls ∈ ALLW := aw (i := 60) (by decide +kernel) rfl
theorem wn_X3_beginField : Cond.instanceMethod (miY mi_X3_beginField) ∈ ALLW := aw (i := 690) (by decide +kernel) rfl
theorem wv_X3_beginField : Cond.selects (miY mi_X3_beginField).cls (miY mi_X3_beginField) (miY mi_X3_beginField) ∈ ALLW := aw (i := 691) (by decide +kernel) rfl
def is_X3_add : List (Instr × Nat) := [(.iload 4, 2), (.iconst 1, 1), (.if_icmp .lt 12, 3), (.iload_n 1, 1), (.ifCond .lt 8, 3), (.iload_n 1, 1), (.iconst 5, 1), (.if_icmp .le 4, 3), (.return_, 1), (.iload_n 2, 1), (.istore 5, 2), (.iload 5, 2), (.iload_n 3, 1), (.if_icmp .gt 99, 3), (.iload 5, 2), (.sipush 1900, 3), (.isub, 1), (.istore 6, 2), (.iload_n 1, 1), (.iconst 4, 1), (.if_icmp .ne 22, 3), (.aload_n 0, 1), (.getfield 18, 3), (.iload_n 1, 1), (.dup2, 1), (.laload, 1), (.lconst 1, 1), (.iload 5, 2), (.bipush 7, 2), (.irem, 1), (.lshl, 1), (.lor, 1), (.lastore, 1), (.goto 57, 3), (.iload_n 1, 1), (.iconst 5, 1), (.if_icmp .eq 19, 3), (.aload_n 0, 1), (.getfield 18, 3), (.iload_n 1, 1), (.dup2, 1), (.laload, 1), (.lconst 1, 1), (.iload 5, 2), (.lshl, 1), (.lor, 1), (.lastore, 1), (.goto 36, 3), (.iload 6, 2), (.ifCond .lt 31, 3), (.iload 6, 2), (.sipush 299, 3), (.if_icmp .gt 23, 3), (.aload_n 0, 1), (.getfield 22, 3), (.iload 6, 2), (.bipush 64, 2), (.idiv, 1), (.dup2, 1), (.laload, 1), (.lconst 1, 1), (.iload 6, 2), (.bipush 64, 2), (.irem, 1), (.lshl, 1), (.lor, 1), (.lastore, 1), (.iload 5, 2), (.iload 4, 2), (.iadd, 1), (.istore 5, 2), (.goto (-99), 3), (.return_, 1)]
abbrev mi_X3_add : MI := (yX3_add, cX3_add, 7, none, [], { frames := 0, cells := 0, slots := 0, locals := 0 }, is_X3_add)
theorem dc_X3_add : dcb cX3_add is_X3_add 0 = true := by decide +kernel
theorem wc_X3_add : cdw mi_X3_add ∈ ALLW := aw (i := 684) (by decide +kernel) rfl
theorem wi_X3_add : Cond.initialized (miY mi_X3_add).cls ∈ ALLW := aw (i := 60) (by decide +kernel) rfl
theorem wn_X3_add : Cond.instanceMethod (miY mi_X3_add) ∈ ALLW := aw (i := 682) (by decide +kernel) rfl
theorem wv_X3_add : Cond.selects (miY mi_X3_add).cls (miY mi_X3_add) (miY mi_X3_add) ∈ ALLW := aw (i := 683) (by decide +kernel) rfl
def V_X3_holdsYear_50 (K : Rs → Mm → Prop)  (M : Mm) (s0 : Int32) : Prop := ((s0 = 0 ∨ s0 = 1) ∧ K (.inl (some (.int s0))) M)
set_option maxRecDepth 100000 in
set_option maxHeartbeats 4000000 in
theorem x_X3_holdsYear_50 {G : Gx} {K : Rs → Mm → Prop}  {M : Mm} {s0 : Int32} (h : V_X3_holdsYear_50 K  M s0) : E G mi_X3_holdsYear K M 0 0 50 [none, none, none] [.int s0] := by
  unfold V_X3_holdsYear_50 at h
  exact e_retz rfl rfl h.1 (by decide) (by decide) h.2
def V_X3_holdsYear_49 (K : Rs → Mm → Prop)  (M : Mm)  : Prop := V_X3_holdsYear_50 K  M (0 : Int32)
set_option maxRecDepth 100000 in
set_option maxHeartbeats 4000000 in
theorem x_X3_holdsYear_49 {G : Gx} {K : Rs → Mm → Prop}  {M : Mm}  (h : V_X3_holdsYear_49 K  M ) : E G mi_X3_holdsYear K M 0 0 49 [none, none, none] [] := by
  unfold V_X3_holdsYear_49 at h
  refine e_blk 1 49 _ _ (pc' := 50) (L' := [none, none, none]) (st' := [.int (0 : Int32)]) rfl ?_
  refine e_drp [false, false, false] (L' := [none, none, none]) rfl ?_
  exact x_X3_holdsYear_50  h
def V_X3_holdsYear (K : Rs → Mm → Prop) (M : Mm) (a0 : Nat) (a1 : Int32) : Prop := (ob M a0 3 ∧ ((¬ (mI M a0 3) = 0 → ∀ x2 : Int32, x2 = (a1 - (1900 : Int32)) → ((x2 < 0 → V_X3_holdsYear_49 K  M ) ∧ (¬ x2 < 0 → (((299 : Int32) < x2 → V_X3_holdsYear_49 K  M ) ∧ (¬ (299 : Int32) < x2 → ∃ b3, mP M a0 2 = some b3 ∧ (ob M b3 10 ∧ (vp_in (x2 / (64 : Int32)) (mN M b3) ∧ V_X6_holds (kI (fun r7 M6 => ((r7 = 0 → V_X3_holdsYear_49 K  M6 ) ∧ (¬ r7 = 0 → V_X3_holdsYear_50 K  M6 (1 : Int32)))) (fun _ _ => False)) M (mJ M b3 ((x2 / (64 : Int32))).toNatClampNeg) (x2 - x2 / (64 : Int32) * (64 : Int32))))))))) ∧ ((mI M a0 3) = 0 → K (.inl (some (.int (1 : Int32)))) M)))
set_option maxRecDepth 100000 in
set_option maxHeartbeats 4000000 in
theorem x_X3_holdsYear {G : Gx} {K : Rs → Mm → Prop} {M : Mm} {a0 : Nat} {a1 : Int32} (h : V_X3_holdsYear K M a0 a1) : MC G mi_X3_holdsYear [.ref a0, .int a1] M K := by
  unfold V_X3_holdsYear at h
  refine mc_of rfl (by decide +kernel) dc_X3_holdsYear (Nat.le_of_ble_eq_true rfl) 1 (Nat.le_of_ble_eq_true rfl) ?_
  show E G mi_X3_holdsYear K M 0 0 0 [some (.ref a0), some (.int a1), none] []
  refine e_blk 1 0 _ _ (pc' := 1) (L' := [some (.ref a0), some (.int a1), none]) (st' := [.ref a0]) rfl ?_
  obtain ⟨ho1, h⟩ := h
  refine e_getI 3 3 rfl rfl (by decide) (aw (i := 144) (by decide +kernel) rfl) ho1 rfl ?_
  refine e_if_ne 9 rfl rfl (fun hc => ?_) (fun hc => ?_)
  · replace h := h.1 hc
    refine e_blk 5 9 _ _ (pc' := 16) (L' := [some (.ref a0), some (.int a1), some (.int (a1 - (1900 : Int32)))]) (st' := [.int (a1 - (1900 : Int32))]) rfl ?_
    generalize hx_x2 : ((a1 - (1900 : Int32)) : Int32) = x2
    replace h := h x2 hx_x2.symm
    refine e_if_lt 49 rfl rfl (fun hc => ?_) (fun hc => ?_)
    · replace h := h.1 hc
      refine e_drp [false, false, false] (L' := [none, none, none]) rfl ?_
      exact x_X3_holdsYear_49  h
    · replace h := h.2 hc
      refine e_blk 2 19 _ _ (pc' := 23) (L' := [some (.ref a0), some (.int a1), some (.int x2)]) (st' := [.int (299 : Int32), .int x2]) rfl ?_
      refine e_icmp_gt 49 rfl rfl (fun hc => ?_) (fun hc => ?_)
      · replace h := h.1 hc
        refine e_drp [false, false, false] (L' := [none, none, none]) rfl ?_
        exact x_X3_holdsYear_49  h
      · replace h := h.2 hc
        refine e_blk 1 26 _ _ (pc' := 27) (L' := [some (.ref a0), some (.int a1), some (.int x2)]) (st' := [.ref a0]) rfl ?_
        obtain ⟨b3, hbb3, h⟩ := h
        refine e_getR 3 2 rfl rfl (by decide) (aw (i := 143) (by decide +kernel) rfl) ho1 rfl hbb3 ?_
        refine e_blk 2 30 _ _ (pc' := 33) (L' := [some (.ref a0), some (.int a1), some (.int x2)]) (st' := [.int (64 : Int32), .int x2, .ref b3]) rfl ?_
        refine e_idiv rfl (by decide) ?_
        obtain ⟨ho4, h⟩ := h
        obtain ⟨hi5, h⟩ := h
        refine e_lald rfl ho4 hi5 ?_
        refine e_blk 2 35 _ _ (pc' := 38) (L' := [some (.ref a0), some (.int a1), some (.int x2)]) (st' := [.int (64 : Int32), .int x2, .long (mJ M b3 ((x2 / (64 : Int32))).toNatClampNeg)]) rfl ?_
        refine e_irem rfl (by decide) ?_
        refine e_callSN (As := [.long (mJ M b3 ((x2 / (64 : Int32))).toNatClampNeg), .int (x2 - x2 / (64 : Int32) * (64 : Int32))]) (rest := []) (host := "CalendarOrders") rfl (x_X6_holds h) (fun X M9 hq => hq) rfl (ao (i := 791) (by decide +kernel) rfl) ws_X6_holds wi_X6_holds wc_X6_holds (show cok mi_X3_holdsYear mi_X6_holds 0 0 2 = true by decide +kernel) (Nat.le_of_ble_eq_true rfl) (fun v9 M6 hq => ?_)
        obtain ⟨r7, rfl, h⟩ := kI_l hq
        refine e_if_eq 49 rfl rfl (fun hc => ?_) (fun hc => ?_)
        · replace h := h.1 hc
          refine e_drp [false, false, false] (L' := [none, none, none]) rfl ?_
          exact x_X3_holdsYear_49  h
        · replace h := h.2 hc
          refine e_blk 2 45 _ _ (pc' := 50) (L' := [some (.ref a0), some (.int a1), some (.int x2)]) (st' := [.int (1 : Int32)]) rfl ?_
          refine e_drp [false, false, false] (L' := [none, none, none]) rfl ?_
          exact x_X3_holdsYear_50  h
  · replace h := h.2 hc
    refine e_blk 1 7 _ _ (pc' := 8) (L' := [some (.ref a0), some (.int a1), none]) (st' := [.int (1 : Int32)]) rfl ?_
    exact e_retz rfl rfl (by decide) (by decide) (by decide) h
def V_X3_daysByDay_210 (K : Rs → Mm → Prop)  (M : Mm) (l2 : Int64) : Prop := K (.inl (some (.long l2))) M
set_option maxRecDepth 100000 in
set_option maxHeartbeats 4000000 in
theorem x_X3_daysByDay_210 {G : Gx} {K : Rs → Mm → Prop}  {M : Mm} {l2 : Int64} (h : V_X3_daysByDay_210 K  M l2) : E G mi_X3_daysByDay K M 0 0 210 [none, none, some (.long l2), none, none, none, none, none, none] [] := by
  unfold V_X3_daysByDay_210 at h
  refine e_blk 1 210 _ _ (pc' := 211) (L' := [none, none, some (.long l2), none, none, none, none, none, none]) (st' := [.long l2]) rfl ?_
  exact e_retl rfl rfl (by decide) (by decide) h
def V_X3_daysByDay_202 (K : Rs → Mm → Prop) (B103 : Mm → Int32 → Int64 → Int64 → Int32 → Int32 → Prop) (M : Mm) (l1 : Int32) (l2 : Int64) (l4 : Int64) (l7 : Int32) (s0 : Int32) : Prop := ∀ x1 : Int32, x1 = (l7 + (1 : Int32)) → B103 M l1 l2 l4 s0 x1
set_option maxRecDepth 100000 in
set_option maxHeartbeats 4000000 in
theorem x_X3_daysByDay_202 {G : Gx} {K : Rs → Mm → Prop} {B103 : Mm → Int32 → Int64 → Int64 → Int32 → Int32 → Prop} (hB103 : ∀ M l1 l2 l4 l6 l7, B103 M l1 l2 l4 l6 l7 → E G mi_X3_daysByDay K M 0 0 103 [none, some (.int l1), some (.long l2), none, some (.long l4), none, some (.int l6), some (.int l7), none] []) {M : Mm} {l1 : Int32} {l2 : Int64} {l4 : Int64} {l7 : Int32} {s0 : Int32} (h : V_X3_daysByDay_202 K B103 M l1 l2 l4 l7 s0) : E G mi_X3_daysByDay K M 0 0 202 [none, some (.int l1), some (.long l2), none, some (.long l4), none, none, some (.int l7), none] [.int s0] := by
  unfold V_X3_daysByDay_202 at h
  refine e_blk 3 202 _ _ (pc' := 103) (L' := [none, some (.int l1), some (.long l2), none, some (.long l4), none, some (.int s0), some (.int (l7 + (1 : Int32))), none]) (st' := []) rfl ?_
  generalize hx_x1 : ((l7 + (1 : Int32)) : Int32) = x1
  replace h := h x1 hx_x1.symm
  refine e_drp [false, true, true, false, true, false, true, true, false] (L' := [none, some (.int l1), some (.long l2), none, some (.long l4), none, some (.int s0), some (.int x1), none]) rfl ?_
  exact hB103 _ _ _ _ _ _ h
def V_X3_daysByDay_187 (K : Rs → Mm → Prop) (B103 : Mm → Int32 → Int64 → Int64 → Int32 → Int32 → Prop) (M : Mm) (l1 : Int32) (l2 : Int64) (l4 : Int64) (l6 : Int32) (l7 : Int32) : Prop := ((¬ l6 = (6 : Int32) → V_X3_daysByDay_202 K B103 M l1 l2 l4 l7 (l6 + (1 : Int32))) ∧ (l6 = (6 : Int32) → V_X3_daysByDay_202 K B103 M l1 l2 l4 l7 (0 : Int32)))
set_option maxRecDepth 100000 in
set_option maxHeartbeats 4000000 in
theorem x_X3_daysByDay_187 {G : Gx} {K : Rs → Mm → Prop} {B103 : Mm → Int32 → Int64 → Int64 → Int32 → Int32 → Prop} (hB103 : ∀ M l1 l2 l4 l6 l7, B103 M l1 l2 l4 l6 l7 → E G mi_X3_daysByDay K M 0 0 103 [none, some (.int l1), some (.long l2), none, some (.long l4), none, some (.int l6), some (.int l7), none] []) {M : Mm} {l1 : Int32} {l2 : Int64} {l4 : Int64} {l6 : Int32} {l7 : Int32} (h : V_X3_daysByDay_187 K B103 M l1 l2 l4 l6 l7) : E G mi_X3_daysByDay K M 0 0 187 [none, some (.int l1), some (.long l2), none, some (.long l4), none, some (.int l6), some (.int l7), none] [] := by
  unfold V_X3_daysByDay_187 at h
  refine e_blk 2 187 _ _ (pc' := 191) (L' := [none, some (.int l1), some (.long l2), none, some (.long l4), none, some (.int l6), some (.int l7), none]) (st' := [.int (6 : Int32), .int l6]) rfl ?_
  refine e_icmp_ne 198 rfl rfl (fun hc => ?_) (fun hc => ?_)
  · replace h := h.1 hc
    refine e_blk 3 198 _ _ (pc' := 202) (L' := [none, some (.int l1), some (.long l2), none, some (.long l4), none, some (.int l6), some (.int l7), none]) (st' := [.int (l6 + (1 : Int32))]) rfl ?_
    refine e_drp [false, true, true, false, true, false, false, true, false] (L' := [none, some (.int l1), some (.long l2), none, some (.long l4), none, none, some (.int l7), none]) rfl ?_
    exact x_X3_daysByDay_202 hB103 h
  · replace h := h.2 hc
    refine e_blk 2 194 _ _ (pc' := 202) (L' := [none, some (.int l1), some (.long l2), none, some (.long l4), none, some (.int l6), some (.int l7), none]) (st' := [.int (0 : Int32)]) rfl ?_
    refine e_drp [false, true, true, false, true, false, false, true, false] (L' := [none, some (.int l1), some (.long l2), none, some (.long l4), none, none, some (.int l7), none]) rfl ?_
    exact x_X3_daysByDay_202 hB103 h
def V_X3_daysByDay_180 (K : Rs → Mm → Prop) (B103 : Mm → Int32 → Int64 → Int64 → Int32 → Int32 → Prop) (M : Mm) (l1 : Int32) (l2 : Int64) (l4 : Int64) (l6 : Int32) (l7 : Int32) (l8 : Int32) : Prop := ∀ x1 : Int64, x1 = (l2 ||| ((1 : Int64) <<< ((l8).toInt64 &&& 63))) → V_X3_daysByDay_187 K B103 M l1 x1 l4 l6 l7
set_option maxRecDepth 100000 in
set_option maxHeartbeats 4000000 in
theorem x_X3_daysByDay_180 {G : Gx} {K : Rs → Mm → Prop} {B103 : Mm → Int32 → Int64 → Int64 → Int32 → Int32 → Prop} (hB103 : ∀ M l1 l2 l4 l6 l7, B103 M l1 l2 l4 l6 l7 → E G mi_X3_daysByDay K M 0 0 103 [none, some (.int l1), some (.long l2), none, some (.long l4), none, some (.int l6), some (.int l7), none] []) {M : Mm} {l1 : Int32} {l2 : Int64} {l4 : Int64} {l6 : Int32} {l7 : Int32} {l8 : Int32} (h : V_X3_daysByDay_180 K B103 M l1 l2 l4 l6 l7 l8) : E G mi_X3_daysByDay K M 0 0 180 [none, some (.int l1), some (.long l2), none, some (.long l4), none, some (.int l6), some (.int l7), some (.int l8)] [] := by
  unfold V_X3_daysByDay_180 at h
  refine e_blk 6 180 _ _ (pc' := 187) (L' := [none, some (.int l1), some (.long (l2 ||| ((1 : Int64) <<< ((l8).toInt64 &&& 63)))), none, some (.long l4), none, some (.int l6), some (.int l7), some (.int l8)]) (st' := []) rfl ?_
  generalize hx_x1 : ((l2 ||| ((1 : Int64) <<< ((l8).toInt64 &&& 63))) : Int64) = x1
  replace h := h x1 hx_x1.symm
  refine e_drp [false, true, true, false, true, false, true, true, false] (L' := [none, some (.int l1), some (.long x1), none, some (.long l4), none, some (.int l6), some (.int l7), none]) rfl ?_
  exact x_X3_daysByDay_187 hB103 h
def V_X3_daysByDay_178 (K : Rs → Mm → Prop) (B103 : Mm → Int32 → Int64 → Int64 → Int32 → Int32 → Prop) (M : Mm) (l1 : Int32) (l2 : Int64) (l4 : Int64) (l6 : Int32) (l7 : Int32) (s0 : Int32) : Prop := V_X3_daysByDay_180 K B103 M l1 l2 l4 l6 l7 s0
set_option maxRecDepth 100000 in
set_option maxHeartbeats 4000000 in
theorem x_X3_daysByDay_178 {G : Gx} {K : Rs → Mm → Prop} {B103 : Mm → Int32 → Int64 → Int64 → Int32 → Int32 → Prop} (hB103 : ∀ M l1 l2 l4 l6 l7, B103 M l1 l2 l4 l6 l7 → E G mi_X3_daysByDay K M 0 0 103 [none, some (.int l1), some (.long l2), none, some (.long l4), none, some (.int l6), some (.int l7), none] []) {M : Mm} {l1 : Int32} {l2 : Int64} {l4 : Int64} {l6 : Int32} {l7 : Int32} {s0 : Int32} (h : V_X3_daysByDay_178 K B103 M l1 l2 l4 l6 l7 s0) : E G mi_X3_daysByDay K M 0 0 178 [none, some (.int l1), some (.long l2), none, some (.long l4), none, some (.int l6), some (.int l7), none] [.int s0] := by
  unfold V_X3_daysByDay_178 at h
  refine e_blk 1 178 _ _ (pc' := 180) (L' := [none, some (.int l1), some (.long l2), none, some (.long l4), none, some (.int l6), some (.int l7), some (.int s0)]) (st' := []) rfl ?_
  refine e_drp [false, true, true, false, true, false, true, true, true] (L' := [none, some (.int l1), some (.long l2), none, some (.long l4), none, some (.int l6), some (.int l7), some (.int s0)]) rfl ?_
  exact x_X3_daysByDay_180 hB103 h
def V_X3_daysByDay_151 (K : Rs → Mm → Prop) (B103 : Mm → Int32 → Int64 → Int64 → Int32 → Int32 → Prop) (M : Mm) (l1 : Int32) (l2 : Int64) (l4 : Int64) (l6 : Int32) (l7 : Int32) (s0 : Int32) : Prop := V_X3_daysByDay_180 K B103 M l1 l2 l4 l6 l7 s0
set_option maxRecDepth 100000 in
set_option maxHeartbeats 4000000 in
theorem x_X3_daysByDay_151 {G : Gx} {K : Rs → Mm → Prop} {B103 : Mm → Int32 → Int64 → Int64 → Int32 → Int32 → Prop} (hB103 : ∀ M l1 l2 l4 l6 l7, B103 M l1 l2 l4 l6 l7 → E G mi_X3_daysByDay K M 0 0 103 [none, some (.int l1), some (.long l2), none, some (.long l4), none, some (.int l6), some (.int l7), none] []) {M : Mm} {l1 : Int32} {l2 : Int64} {l4 : Int64} {l6 : Int32} {l7 : Int32} {s0 : Int32} (h : V_X3_daysByDay_151 K B103 M l1 l2 l4 l6 l7 s0) : E G mi_X3_daysByDay K M 0 0 151 [none, some (.int l1), some (.long l2), none, some (.long l4), none, some (.int l6), some (.int l7), none] [.int s0] := by
  unfold V_X3_daysByDay_151 at h
  refine e_blk 2 151 _ _ (pc' := 180) (L' := [none, some (.int l1), some (.long l2), none, some (.long l4), none, some (.int l6), some (.int l7), some (.int s0)]) (st' := []) rfl ?_
  refine e_drp [false, true, true, false, true, false, true, true, true] (L' := [none, some (.int l1), some (.long l2), none, some (.long l4), none, some (.int l6), some (.int l7), some (.int s0)]) rfl ?_
  exact x_X3_daysByDay_180 hB103 h
def V_X3_daysByDay_103 (K : Rs → Mm → Prop)  : Nat → Mm → Int32 → Int64 → Int64 → Int32 → Int32 → Prop
  | 0, _, _, _, _, _, _ => False
  | z + 1, M, l1, l2, l4, l6, l7 => ((l1 < l7 → V_X3_daysByDay_210 K  M l2) ∧ (¬ l1 < l7 → (((lg_cmp l4 (0 : Int64)) = 0 → V_X3_daysByDay_210 K  M l2) ∧ (¬ (lg_cmp l4 (0 : Int64)) = 0 → V_X6_holds (kI (fun r2 M1 => ((r2 = 0 → V_X3_daysByDay_187 K (fun M l1 l2 l4 l6 l7 => V_X3_daysByDay_103 K  z M l1 l2 l4 l6 l7) M1 l1 l2 l4 l6 l7) ∧ (¬ r2 = 0 → ((¬ l6 = (6 : Int32) → ((¬ l6 = 0 → V_X3_daysByDay_180 K (fun M l1 l2 l4 l6 l7 => V_X3_daysByDay_103 K  z M l1 l2 l4 l6 l7) M1 l1 l2 l4 l6 l7 l7) ∧ (l6 = 0 → ((¬ l7 = l1 → V_X3_daysByDay_178 K (fun M l1 l2 l4 l6 l7 => V_X3_daysByDay_103 K  z M l1 l2 l4 l6 l7) M1 l1 l2 l4 l6 l7 (l7 + (1 : Int32))) ∧ (l7 = l1 → V_X3_daysByDay_178 K (fun M l1 l2 l4 l6 l7 => V_X3_daysByDay_103 K  z M l1 l2 l4 l6 l7) M1 l1 l2 l4 l6 l7 (l7 - (2 : Int32))))))) ∧ (l6 = (6 : Int32) → ((¬ l7 = (1 : Int32) → V_X3_daysByDay_151 K (fun M l1 l2 l4 l6 l7 => V_X3_daysByDay_103 K  z M l1 l2 l4 l6 l7) M1 l1 l2 l4 l6 l7 (l7 - (1 : Int32))) ∧ (l7 = (1 : Int32) → V_X3_daysByDay_151 K (fun M l1 l2 l4 l6 l7 => V_X3_daysByDay_103 K  z M l1 l2 l4 l6 l7) M1 l1 l2 l4 l6 l7 (3 : Int32)))))))) (fun _ _ => False)) M l4 l7))))
set_option maxRecDepth 100000 in
set_option maxHeartbeats 4000000 in
theorem x_X3_daysByDay_103 {G : Gx} {K : Rs → Mm → Prop}  : ∀ (z : Nat) (M : Mm) (l1 : Int32) (l2 : Int64) (l4 : Int64) (l6 : Int32) (l7 : Int32), V_X3_daysByDay_103 K  z M l1 l2 l4 l6 l7 → E G mi_X3_daysByDay K M 0 0 103 [none, some (.int l1), some (.long l2), none, some (.long l4), none, some (.int l6), some (.int l7), none] []
  | 0, M, l1, l2, l4, l6, l7, h => False.elim h
  | z + 1, M, l1, l2, l4, l6, l7, h => by
    unfold V_X3_daysByDay_103 at h
    refine e_blk 2 103 _ _ (pc' := 106) (L' := [none, some (.int l1), some (.long l2), none, some (.long l4), none, some (.int l6), some (.int l7), none]) (st' := [.int l1, .int l7]) rfl ?_
    refine e_icmp_gt 210 rfl rfl (fun hc => ?_) (fun hc => ?_)
    · replace h := h.1 hc
      refine e_drp [false, false, true, false, false, false, false, false, false] (L' := [none, none, some (.long l2), none, none, none, none, none, none]) rfl ?_
      exact x_X3_daysByDay_210  h
    · replace h := h.2 hc
      refine e_blk 3 109 _ _ (pc' := 113) (L' := [none, some (.int l1), some (.long l2), none, some (.long l4), none, some (.int l6), some (.int l7), none]) (st' := [.int (lg_cmp l4 (0 : Int64))]) rfl ?_
      refine e_if_eq 210 rfl rfl (fun hc => ?_) (fun hc => ?_)
      · replace h := h.1 hc
        refine e_drp [false, false, true, false, false, false, false, false, false] (L' := [none, none, some (.long l2), none, none, none, none, none, none]) rfl ?_
        exact x_X3_daysByDay_210  h
      · replace h := h.2 hc
        refine e_blk 2 116 _ _ (pc' := 120) (L' := [none, some (.int l1), some (.long l2), none, some (.long l4), none, some (.int l6), some (.int l7), none]) (st' := [.int l7, .long l4]) rfl ?_
        refine e_callSN (As := [.long l4, .int l7]) (rest := []) (host := "CalendarOrders") rfl (x_X6_holds h) (fun X M9 hq => hq) rfl (ao (i := 791) (by decide +kernel) rfl) ws_X6_holds wi_X6_holds wc_X6_holds (show cok mi_X3_daysByDay mi_X6_holds 0 0 2 = true by decide +kernel) (Nat.le_of_ble_eq_true rfl) (fun v9 M1 hq => ?_)
        obtain ⟨r2, rfl, h⟩ := kI_l hq
        refine e_if_eq 187 rfl rfl (fun hc => ?_) (fun hc => ?_)
        · replace h := h.1 hc
          refine e_drp [false, true, true, false, true, false, true, true, false] (L' := [none, some (.int l1), some (.long l2), none, some (.long l4), none, some (.int l6), some (.int l7), none]) rfl ?_
          exact x_X3_daysByDay_187 (fun M l1 l2 l4 l6 l7 h => x_X3_daysByDay_103  z M l1 l2 l4 l6 l7 h) h
        · replace h := h.2 hc
          refine e_blk 4 126 _ _ (pc' := 134) (L' := [none, some (.int l1), some (.long l2), none, some (.long l4), none, some (.int l6), some (.int l7), some (.int l7)]) (st' := [.int (6 : Int32), .int l6]) rfl ?_
          refine e_icmp_ne 156 rfl rfl (fun hc => ?_) (fun hc => ?_)
          · replace h := h.1 hc
            refine e_blk 1 156 _ _ (pc' := 158) (L' := [none, some (.int l1), some (.long l2), none, some (.long l4), none, some (.int l6), some (.int l7), some (.int l7)]) (st' := [.int l6]) rfl ?_
            refine e_if_ne 180 rfl rfl (fun hc => ?_) (fun hc => ?_)
            · replace h := h.1 hc
              refine e_drp [false, true, true, false, true, false, true, true, true] (L' := [none, some (.int l1), some (.long l2), none, some (.long l4), none, some (.int l6), some (.int l7), some (.int l7)]) rfl ?_
              exact x_X3_daysByDay_180 (fun M l1 l2 l4 l6 l7 h => x_X3_daysByDay_103  z M l1 l2 l4 l6 l7 h) h
            · replace h := h.2 hc
              refine e_blk 2 161 _ _ (pc' := 164) (L' := [none, some (.int l1), some (.long l2), none, some (.long l4), none, some (.int l6), some (.int l7), some (.int l7)]) (st' := [.int l1, .int l7]) rfl ?_
              refine e_icmp_ne 174 rfl rfl (fun hc => ?_) (fun hc => ?_)
              · replace h := h.1 hc
                refine e_blk 3 174 _ _ (pc' := 178) (L' := [none, some (.int l1), some (.long l2), none, some (.long l4), none, some (.int l6), some (.int l7), some (.int l7)]) (st' := [.int (l7 + (1 : Int32))]) rfl ?_
                refine e_drp [false, true, true, false, true, false, true, true, false] (L' := [none, some (.int l1), some (.long l2), none, some (.long l4), none, some (.int l6), some (.int l7), none]) rfl ?_
                exact x_X3_daysByDay_178 (fun M l1 l2 l4 l6 l7 h => x_X3_daysByDay_103  z M l1 l2 l4 l6 l7 h) h
              · replace h := h.2 hc
                refine e_blk 4 167 _ _ (pc' := 178) (L' := [none, some (.int l1), some (.long l2), none, some (.long l4), none, some (.int l6), some (.int l7), some (.int l7)]) (st' := [.int (l7 - (2 : Int32))]) rfl ?_
                refine e_drp [false, true, true, false, true, false, true, true, false] (L' := [none, some (.int l1), some (.long l2), none, some (.long l4), none, some (.int l6), some (.int l7), none]) rfl ?_
                exact x_X3_daysByDay_178 (fun M l1 l2 l4 l6 l7 h => x_X3_daysByDay_103  z M l1 l2 l4 l6 l7 h) h
          · replace h := h.2 hc
            refine e_blk 2 137 _ _ (pc' := 140) (L' := [none, some (.int l1), some (.long l2), none, some (.long l4), none, some (.int l6), some (.int l7), some (.int l7)]) (st' := [.int (1 : Int32), .int l7]) rfl ?_
            refine e_icmp_ne 147 rfl rfl (fun hc => ?_) (fun hc => ?_)
            · replace h := h.1 hc
              refine e_blk 3 147 _ _ (pc' := 151) (L' := [none, some (.int l1), some (.long l2), none, some (.long l4), none, some (.int l6), some (.int l7), some (.int l7)]) (st' := [.int (l7 - (1 : Int32))]) rfl ?_
              refine e_drp [false, true, true, false, true, false, true, true, false] (L' := [none, some (.int l1), some (.long l2), none, some (.long l4), none, some (.int l6), some (.int l7), none]) rfl ?_
              exact x_X3_daysByDay_151 (fun M l1 l2 l4 l6 l7 h => x_X3_daysByDay_103  z M l1 l2 l4 l6 l7 h) h
            · replace h := h.2 hc
              refine e_blk 2 143 _ _ (pc' := 151) (L' := [none, some (.int l1), some (.long l2), none, some (.long l4), none, some (.int l6), some (.int l7), some (.int l7)]) (st' := [.int (3 : Int32)]) rfl ?_
              refine e_drp [false, true, true, false, true, false, true, true, false] (L' := [none, some (.int l1), some (.long l2), none, some (.long l4), none, some (.int l6), some (.int l7), none]) rfl ?_
              exact x_X3_daysByDay_151 (fun M l1 l2 l4 l6 l7 h => x_X3_daysByDay_103  z M l1 l2 l4 l6 l7 h) h
def V_X3_daysByDay_89 (K : Rs → Mm → Prop)  (M : Mm) (l0 : Nat) (l1 : Int32) (l2 : Int64) (s0 : Int64) : Prop := (ob M l0 3 ∧ ∃ b2, mP M l0 0 = some b2 ∧ (ob M b2 0 ∧ ∀ x4 : Int32, x4 = (mI M b2 5) → ∃ y, V_X3_daysByDay_103 K  y M l1 l2 s0 x4 (1 : Int32)))
set_option maxRecDepth 100000 in
set_option maxHeartbeats 4000000 in
theorem x_X3_daysByDay_89 {G : Gx} {K : Rs → Mm → Prop}  {M : Mm} {l0 : Nat} {l1 : Int32} {l2 : Int64} {s0 : Int64} (h : V_X3_daysByDay_89 K  M l0 l1 l2 s0) : E G mi_X3_daysByDay K M 0 0 89 [some (.ref l0), some (.int l1), some (.long l2), none, none, none, none, none, none] [.long s0] := by
  unfold V_X3_daysByDay_89 at h
  refine e_blk 2 89 _ _ (pc' := 92) (L' := [some (.ref l0), some (.int l1), some (.long l2), none, some (.long s0), none, none, none, none]) (st' := [.ref l0]) rfl ?_
  obtain ⟨ho1, h⟩ := h
  obtain ⟨b2, hbb2, h⟩ := h
  refine e_getR 3 0 rfl rfl (by decide) (aw (i := 139) (by decide +kernel) rfl) ho1 rfl hbb2 ?_
  obtain ⟨ho3, h⟩ := h
  refine e_getI 0 5 rfl rfl (by decide) (aw (i := 107) (by decide +kernel) rfl) ho3 rfl ?_
  refine e_blk 3 98 _ _ (pc' := 103) (L' := [some (.ref l0), some (.int l1), some (.long l2), none, some (.long s0), none, some (.int (mI M b2 5)), some (.int (1 : Int32)), none]) (st' := []) rfl ?_
  generalize hx_x4 : ((mI M b2 5) : Int32) = x4
  replace h := h x4 hx_x4.symm
  refine e_drp [false, true, true, false, true, false, true, true, false] (L' := [none, some (.int l1), some (.long l2), none, some (.long s0), none, some (.int x4), some (.int (1 : Int32)), none]) rfl ?_
  obtain ⟨y, h⟩ := h
  exact x_X3_daysByDay_103  y _ _ _ _ _ _ h
def V_X3_daysByDay_67 (K : Rs → Mm → Prop)  (M : Mm) (l0 : Nat) (l1 : Int32) (l2 : Int64) : Prop := (ob M l0 3 ∧ (((mI M l0 7) = 0 → V_X3_daysByDay_89 K  M l0 l1 l2 (mJ M l0 8)) ∧ (¬ (mI M l0 7) = 0 → V_X3_daysByDay_89 K  M l0 l1 l2 ((mJ M l0 8) ||| ((1 : Int64) <<< ((l1).toInt64 &&& 63))))))
set_option maxRecDepth 100000 in
set_option maxHeartbeats 4000000 in
theorem x_X3_daysByDay_67 {G : Gx} {K : Rs → Mm → Prop}  {M : Mm} {l0 : Nat} {l1 : Int32} {l2 : Int64} (h : V_X3_daysByDay_67 K  M l0 l1 l2) : E G mi_X3_daysByDay K M 0 0 67 [some (.ref l0), some (.int l1), some (.long l2), none, none, none, none, none, none] [] := by
  unfold V_X3_daysByDay_67 at h
  refine e_blk 1 67 _ _ (pc' := 68) (L' := [some (.ref l0), some (.int l1), some (.long l2), none, none, none, none, none, none]) (st' := [.ref l0]) rfl ?_
  obtain ⟨ho1, h⟩ := h
  refine e_getI 3 7 rfl rfl (by decide) (aw (i := 153) (by decide +kernel) rfl) ho1 rfl ?_
  refine e_if_eq 85 rfl rfl (fun hc => ?_) (fun hc => ?_)
  · replace h := h.1 hc
    refine e_blk 1 85 _ _ (pc' := 86) (L' := [some (.ref l0), some (.int l1), some (.long l2), none, none, none, none, none, none]) (st' := [.ref l0]) rfl ?_
    refine e_getJ 3 8 rfl rfl (by decide) (aw (i := 155) (by decide +kernel) rfl) ho1 rfl ?_
    refine e_drp [true, true, true, false, false, false, false, false, false] (L' := [some (.ref l0), some (.int l1), some (.long l2), none, none, none, none, none, none]) rfl ?_
    exact x_X3_daysByDay_89  h
  · replace h := h.2 hc
    refine e_blk 1 74 _ _ (pc' := 75) (L' := [some (.ref l0), some (.int l1), some (.long l2), none, none, none, none, none, none]) (st' := [.ref l0]) rfl ?_
    refine e_getJ 3 8 rfl rfl (by decide) (aw (i := 155) (by decide +kernel) rfl) ho1 rfl ?_
    refine e_blk 5 78 _ _ (pc' := 89) (L' := [some (.ref l0), some (.int l1), some (.long l2), none, none, none, none, none, none]) (st' := [.long ((mJ M l0 8) ||| ((1 : Int64) <<< ((l1).toInt64 &&& 63)))]) rfl ?_
    refine e_drp [true, true, true, false, false, false, false, false, false] (L' := [some (.ref l0), some (.int l1), some (.long l2), none, none, none, none, none, none]) rfl ?_
    exact x_X3_daysByDay_89  h
def V_X3_daysByDay_61 (K : Rs → Mm → Prop) (B25 : Mm → Nat → Int32 → Int64 → Int32 → Prop) (M : Mm) (l0 : Nat) (l1 : Int32) (l2 : Int64) (l4 : Int32) : Prop := ∀ x1 : Int32, x1 = (l4 + (1 : Int32)) → B25 M l0 l1 l2 x1
set_option maxRecDepth 100000 in
set_option maxHeartbeats 4000000 in
theorem x_X3_daysByDay_61 {G : Gx} {K : Rs → Mm → Prop} {B25 : Mm → Nat → Int32 → Int64 → Int32 → Prop} (hB25 : ∀ M l0 l1 l2 l4, B25 M l0 l1 l2 l4 → E G mi_X3_daysByDay K M 0 0 25 [some (.ref l0), some (.int l1), some (.long l2), none, some (.int l4), none, none, none, none] []) {M : Mm} {l0 : Nat} {l1 : Int32} {l2 : Int64} {l4 : Int32} (h : V_X3_daysByDay_61 K B25 M l0 l1 l2 l4) : E G mi_X3_daysByDay K M 0 0 61 [some (.ref l0), some (.int l1), some (.long l2), none, some (.int l4), none, none, none, none] [] := by
  unfold V_X3_daysByDay_61 at h
  refine e_blk 2 61 _ _ (pc' := 25) (L' := [some (.ref l0), some (.int l1), some (.long l2), none, some (.int (l4 + (1 : Int32))), none, none, none, none]) (st' := []) rfl ?_
  generalize hx_x1 : ((l4 + (1 : Int32)) : Int32) = x1
  replace h := h x1 hx_x1.symm
  refine e_drp [true, true, true, false, true, false, false, false, false] (L' := [some (.ref l0), some (.int l1), some (.long l2), none, some (.int x1), none, none, none, none]) rfl ?_
  exact hB25 _ _ _ _ _ h
def V_X3_daysByDay_25 (K : Rs → Mm → Prop)  : Nat → Mm → Nat → Int32 → Int64 → Int32 → Prop
  | 0, _, _, _, _, _ => False
  | z + 1, M, l0, l1, l2, l4 => ((l1 ≤ l4 → V_X3_daysByDay_67 K  M l0 l1 l2) ∧ (¬ l1 ≤ l4 → (ob M l0 3 ∧ (((lg_cmp (mJ M l0 6) (0 : Int64)) = 0 → V_X3_daysByDay_67 K  M l0 l1 l2) ∧ (¬ (lg_cmp (mJ M l0 6) (0 : Int64)) = 0 → V_X6_holds (kI (fun r3 M2 => ((r3 = 0 → V_X3_daysByDay_61 K (fun M l0 l1 l2 l4 => V_X3_daysByDay_25 K  z M l0 l1 l2 l4) M2 l0 l1 l2 l4) ∧ (¬ r3 = 0 → ∀ x4 : Int64, x4 = (l2 ||| ((1 : Int64) <<< (((l1 - l4)).toInt64 &&& 63))) → V_X3_daysByDay_61 K (fun M l0 l1 l2 l4 => V_X3_daysByDay_25 K  z M l0 l1 l2 l4) M2 l0 l1 x4 l4))) (fun _ _ => False)) M (mJ M l0 6) l4)))))
set_option maxRecDepth 100000 in
set_option maxHeartbeats 4000000 in
theorem x_X3_daysByDay_25 {G : Gx} {K : Rs → Mm → Prop}  : ∀ (z : Nat) (M : Mm) (l0 : Nat) (l1 : Int32) (l2 : Int64) (l4 : Int32), V_X3_daysByDay_25 K  z M l0 l1 l2 l4 → E G mi_X3_daysByDay K M 0 0 25 [some (.ref l0), some (.int l1), some (.long l2), none, some (.int l4), none, none, none, none] []
  | 0, M, l0, l1, l2, l4, h => False.elim h
  | z + 1, M, l0, l1, l2, l4, h => by
    unfold V_X3_daysByDay_25 at h
    refine e_blk 2 25 _ _ (pc' := 28) (L' := [some (.ref l0), some (.int l1), some (.long l2), none, some (.int l4), none, none, none, none]) (st' := [.int l1, .int l4]) rfl ?_
    refine e_icmp_ge 67 rfl rfl (fun hc => ?_) (fun hc => ?_)
    · replace h := h.1 hc
      refine e_drp [true, true, true, false, false, false, false, false, false] (L' := [some (.ref l0), some (.int l1), some (.long l2), none, none, none, none, none, none]) rfl ?_
      exact x_X3_daysByDay_67  h
    · replace h := h.2 hc
      refine e_blk 1 31 _ _ (pc' := 32) (L' := [some (.ref l0), some (.int l1), some (.long l2), none, some (.int l4), none, none, none, none]) (st' := [.ref l0]) rfl ?_
      obtain ⟨ho1, h⟩ := h
      refine e_getJ 3 6 rfl rfl (by decide) (aw (i := 151) (by decide +kernel) rfl) ho1 rfl ?_
      refine e_blk 2 35 _ _ (pc' := 37) (L' := [some (.ref l0), some (.int l1), some (.long l2), none, some (.int l4), none, none, none, none]) (st' := [.int (lg_cmp (mJ M l0 6) (0 : Int64))]) rfl ?_
      refine e_if_eq 67 rfl rfl (fun hc => ?_) (fun hc => ?_)
      · replace h := h.1 hc
        refine e_drp [true, true, true, false, false, false, false, false, false] (L' := [some (.ref l0), some (.int l1), some (.long l2), none, none, none, none, none, none]) rfl ?_
        exact x_X3_daysByDay_67  h
      · replace h := h.2 hc
        refine e_blk 1 40 _ _ (pc' := 41) (L' := [some (.ref l0), some (.int l1), some (.long l2), none, some (.int l4), none, none, none, none]) (st' := [.ref l0]) rfl ?_
        refine e_getJ 3 6 rfl rfl (by decide) (aw (i := 151) (by decide +kernel) rfl) ho1 rfl ?_
        refine e_blk 1 44 _ _ (pc' := 46) (L' := [some (.ref l0), some (.int l1), some (.long l2), none, some (.int l4), none, none, none, none]) (st' := [.int l4, .long (mJ M l0 6)]) rfl ?_
        refine e_callSN (As := [.long (mJ M l0 6), .int l4]) (rest := []) (host := "CalendarOrders") rfl (x_X6_holds h) (fun X M9 hq => hq) rfl (ao (i := 791) (by decide +kernel) rfl) ws_X6_holds wi_X6_holds wc_X6_holds (show cok mi_X3_daysByDay mi_X6_holds 0 0 2 = true by decide +kernel) (Nat.le_of_ble_eq_true rfl) (fun v9 M2 hq => ?_)
        obtain ⟨r3, rfl, h⟩ := kI_l hq
        refine e_if_eq 61 rfl rfl (fun hc => ?_) (fun hc => ?_)
        · replace h := h.1 hc
          refine e_drp [true, true, true, false, true, false, false, false, false] (L' := [some (.ref l0), some (.int l1), some (.long l2), none, some (.int l4), none, none, none, none]) rfl ?_
          exact x_X3_daysByDay_61 (fun M l0 l1 l2 l4 h => x_X3_daysByDay_25  z M l0 l1 l2 l4 h) h
        · replace h := h.2 hc
          refine e_blk 8 52 _ _ (pc' := 61) (L' := [some (.ref l0), some (.int l1), some (.long (l2 ||| ((1 : Int64) <<< (((l1 - l4)).toInt64 &&& 63)))), none, some (.int l4), none, none, none, none]) (st' := []) rfl ?_
          generalize hx_x4 : ((l2 ||| ((1 : Int64) <<< (((l1 - l4)).toInt64 &&& 63))) : Int64) = x4
          replace h := h x4 hx_x4.symm
          refine e_drp [true, true, true, false, true, false, false, false, false] (L' := [some (.ref l0), some (.int l1), some (.long x4), none, some (.int l4), none, none, none, none]) rfl ?_
          exact x_X3_daysByDay_61 (fun M l0 l1 l2 l4 h => x_X3_daysByDay_25  z M l0 l1 l2 l4 h) h
def V_X3_daysByDay (K : Rs → Mm → Prop) (M : Mm) (a0 : Nat) : Prop := (ob M a0 3 ∧ ∃ b2, mP M a0 0 = some b2 ∧ (ob M b2 0 ∧ ∀ x4 : Int32, x4 = (mI M b2 4) → ∃ b5, mP M a0 1 = some b5 ∧ (ob M b5 10 ∧ (vp_in (2 : Int32) (mN M b5) ∧ V_X6_below (kJ (fun r9 M8 => ∀ x10 : Int64, x10 = ((mJ M b5 ((2 : Int32)).toNatClampNeg) &&& r9) → ∃ y, V_X3_daysByDay_25 K  y M8 a0 x4 x10 (0 : Int32)) (fun _ _ => False)) M (x4 + (1 : Int32))))))
set_option maxRecDepth 100000 in
set_option maxHeartbeats 4000000 in
theorem x_X3_daysByDay {G : Gx} {K : Rs → Mm → Prop} {M : Mm} {a0 : Nat} (h : V_X3_daysByDay K M a0) : MC G mi_X3_daysByDay [.ref a0] M K := by
  unfold V_X3_daysByDay at h
  refine mc_of rfl (by decide +kernel) dc_X3_daysByDay (Nat.le_of_ble_eq_true rfl) 8 (Nat.le_of_ble_eq_true rfl) ?_
  show E G mi_X3_daysByDay K M 0 0 0 [some (.ref a0), none, none, none, none, none, none, none, none] []
  refine e_blk 1 0 _ _ (pc' := 1) (L' := [some (.ref a0), none, none, none, none, none, none, none, none]) (st' := [.ref a0]) rfl ?_
  obtain ⟨ho1, h⟩ := h
  obtain ⟨b2, hbb2, h⟩ := h
  refine e_getR 3 0 rfl rfl (by decide) (aw (i := 139) (by decide +kernel) rfl) ho1 rfl hbb2 ?_
  obtain ⟨ho3, h⟩ := h
  refine e_getI 0 4 rfl rfl (by decide) (aw (i := 104) (by decide +kernel) rfl) ho3 rfl ?_
  refine e_blk 2 7 _ _ (pc' := 9) (L' := [some (.ref a0), some (.int (mI M b2 4)), none, none, none, none, none, none, none]) (st' := [.ref a0]) rfl ?_
  generalize hx_x4 : ((mI M b2 4) : Int32) = x4
  replace h := h x4 hx_x4.symm
  obtain ⟨b5, hbb5, h⟩ := h
  refine e_getR 3 1 rfl rfl (by decide) (aw (i := 141) (by decide +kernel) rfl) ho1 rfl hbb5 ?_
  refine e_blk 1 12 _ _ (pc' := 13) (L' := [some (.ref a0), some (.int x4), none, none, none, none, none, none, none]) (st' := [.int (2 : Int32), .ref b5]) rfl ?_
  obtain ⟨ho6, h⟩ := h
  obtain ⟨hi7, h⟩ := h
  refine e_lald rfl ho6 hi7 ?_
  refine e_blk 3 14 _ _ (pc' := 17) (L' := [some (.ref a0), some (.int x4), none, none, none, none, none, none, none]) (st' := [.int (x4 + (1 : Int32)), .long (mJ M b5 ((2 : Int32)).toNatClampNeg)]) rfl ?_
  refine e_callSN (As := [.int (x4 + (1 : Int32))]) (rest := [.long (mJ M b5 ((2 : Int32)).toNatClampNeg)]) (host := "CalendarOrders") rfl (x_X6_below h) (fun X M9 hq => hq) rfl (ao (i := 802) (by decide +kernel) rfl) ws_X6_below wi_X6_below wc_X6_below (show cok mi_X3_daysByDay mi_X6_below 0 0 1 = true by decide +kernel) (Nat.le_of_ble_eq_true rfl) (fun v9 M8 hq => ?_)
  obtain ⟨r9, rfl, h⟩ := kJ_l hq
  refine e_blk 4 20 _ _ (pc' := 25) (L' := [some (.ref a0), some (.int x4), some (.long ((mJ M b5 ((2 : Int32)).toNatClampNeg) &&& r9)), none, some (.int (0 : Int32)), none, none, none, none]) (st' := []) rfl ?_
  generalize hx_x10 : (((mJ M b5 ((2 : Int32)).toNatClampNeg) &&& r9) : Int64) = x10
  replace h := h x10 hx_x10.symm
  refine e_drp [true, true, true, false, true, false, false, false, false] (L' := [some (.ref a0), some (.int x4), some (.long x10), none, some (.int (0 : Int32)), none, none, none, none]) rfl ?_
  obtain ⟨y, h⟩ := h
  exact x_X3_daysByDay_25  y _ _ _ _ _ h
def V_X3_weekFrom (K : Rs → Mm → Prop) (M : Mm) (a0 : Int32) (a1 : Int64) : Prop := ∀ x1 : Int64, x1 = (a1 &&& (127 : Int64)) → K (.inl (some (.long (((((x1).toUInt64 >>> ((a0).toInt64.toUInt64 &&& Int64.toUInt64 63)).toInt64) ||| (x1 <<< ((((7 : Int32) - a0)).toInt64 &&& 63))) &&& (127 : Int64))))) M
set_option maxRecDepth 100000 in
set_option maxHeartbeats 4000000 in
theorem x_X3_weekFrom {G : Gx} {K : Rs → Mm → Prop} {M : Mm} {a0 : Int32} {a1 : Int64} (h : V_X3_weekFrom K M a0 a1) : MC G mi_X3_weekFrom [.int a0, .long a1] M K := by
  unfold V_X3_weekFrom at h
  refine mc_of rfl (by decide +kernel) dc_X3_weekFrom (Nat.le_of_ble_eq_true rfl) 2 (Nat.le_of_ble_eq_true rfl) ?_
  show E G mi_X3_weekFrom K M 0 0 0 [some (.int a0), some (.long a1), none, none, none] []
  refine e_blk 1 0 _ _ (pc' := 1) (L' := [some (.int a0), some (.long a1), none, none, none]) (st' := [.long a1]) rfl ?_
  refine e_ldc2 (127) rfl (aw (i := 812) (by decide +kernel) rfl) ?_
  refine e_blk 11 4 _ _ (pc' := 16) (L' := [some (.int a0), some (.long a1), none, some (.long (a1 &&& (127 : Int64))), none]) (st' := [.long (((((a1 &&& (127 : Int64))).toUInt64 >>> ((a0).toInt64.toUInt64 &&& Int64.toUInt64 63)).toInt64) ||| ((a1 &&& (127 : Int64)) <<< ((((7 : Int32) - a0)).toInt64 &&& 63)))]) rfl ?_
  generalize hx_x1 : ((a1 &&& (127 : Int64)) : Int64) = x1
  replace h := h x1 hx_x1.symm
  refine e_ldc2 (127) rfl (aw (i := 812) (by decide +kernel) rfl) ?_
  refine e_blk 1 19 _ _ (pc' := 20) (L' := [some (.int a0), some (.long a1), none, some (.long x1), none]) (st' := [.long (((((x1).toUInt64 >>> ((a0).toInt64.toUInt64 &&& Int64.toUInt64 63)).toInt64) ||| (x1 <<< ((((7 : Int32) - a0)).toInt64 &&& 63))) &&& (127 : Int64))]) rfl ?_
  exact e_retl rfl rfl (by decide) (by decide) h
def V_X3_daysByWeekday_13 (K : Rs → Mm → Prop)  : Nat → Mm → Nat → Int32 → Int64 → Int32 → Prop
  | 0, _, _, _, _, _ => False
  | z + 1, M, l0, l1, l2, l4 => (((5 : Int32) < l4 → (ob M l0 3 ∧ ∃ b2, mP M l0 0 = some b2 ∧ (ob M b2 0 ∧ ∀ x4 : Int32, x4 = (((mI M b2 5) + l1) - ((mI M b2 5) + l1) / (7 : Int32) * (7 : Int32)) → V_X3_weekFrom (kJ (fun r6 M5 => ∀ x7 : Int64, x7 = (l2 ||| (r6 <<< (((l1 - (6 : Int32))).toInt64 &&& 63))) → V_X6_below (kJ (fun r9 M8 => K (.inl (some (.long (x7 &&& r9)))) M8) (fun _ _ => False)) M5 (l1 + (1 : Int32))) (fun _ _ => False)) M x4 (mJ M l0 9)))) ∧ (¬ (5 : Int32) < l4 → (ob M l0 3 ∧ ∃ b11, mP M l0 1 = some b11 ∧ (ob M b11 10 ∧ (vp_in (4 : Int32) (mN M b11) ∧ ∀ x14 : Int64, x14 = ((mJ M b11 ((4 : Int32)).toNatClampNeg) ||| ((((mJ M l0 10)).toUInt64 >>> ((((7 : Int32) * l4)).toInt64.toUInt64 &&& Int64.toUInt64 63)).toInt64)) → ∃ b15, mP M l0 0 = some b15 ∧ (ob M b15 0 ∧ V_X3_weekFrom (kJ (fun r18 M17 => ∀ x19 : Int64, x19 = (l2 ||| (r18 <<< (((((7 : Int32) * l4) - (6 : Int32))).toInt64 &&& 63))) → ∀ x20 : Int32, x20 = (l4 + (1 : Int32)) → V_X3_daysByWeekday_13 K  z M17 l0 l1 x19 x20) (fun _ _ => False)) M (mI M b15 5) x14))))))
set_option maxRecDepth 100000 in
set_option maxHeartbeats 4000000 in
theorem x_X3_daysByWeekday_13 {G : Gx} {K : Rs → Mm → Prop}  : ∀ (z : Nat) (M : Mm) (l0 : Nat) (l1 : Int32) (l2 : Int64) (l4 : Int32), V_X3_daysByWeekday_13 K  z M l0 l1 l2 l4 → E G mi_X3_daysByWeekday K M 0 0 13 [some (.ref l0), some (.int l1), some (.long l2), none, some (.int l4), none, none] []
  | 0, M, l0, l1, l2, l4, h => False.elim h
  | z + 1, M, l0, l1, l2, l4, h => by
    unfold V_X3_daysByWeekday_13 at h
    refine e_blk 2 13 _ _ (pc' := 16) (L' := [some (.ref l0), some (.int l1), some (.long l2), none, some (.int l4), none, none]) (st' := [.int (5 : Int32), .int l4]) rfl ?_
    refine e_icmp_gt 68 rfl rfl (fun hc => ?_) (fun hc => ?_)
    · replace h := h.1 hc
      refine e_blk 1 68 _ _ (pc' := 69) (L' := [some (.ref l0), some (.int l1), some (.long l2), none, some (.int l4), none, none]) (st' := [.ref l0]) rfl ?_
      obtain ⟨ho1, h⟩ := h
      obtain ⟨b2, hbb2, h⟩ := h
      refine e_getR 3 0 rfl rfl (by decide) (aw (i := 139) (by decide +kernel) rfl) ho1 rfl hbb2 ?_
      obtain ⟨ho3, h⟩ := h
      refine e_getI 0 5 rfl rfl (by decide) (aw (i := 107) (by decide +kernel) rfl) ho3 rfl ?_
      refine e_blk 3 75 _ _ (pc' := 79) (L' := [some (.ref l0), some (.int l1), some (.long l2), none, some (.int l4), none, none]) (st' := [.int (7 : Int32), .int ((mI M b2 5) + l1)]) rfl ?_
      refine e_irem rfl (by decide) ?_
      refine e_blk 4 80 _ _ (pc' := 86) (L' := [some (.ref l0), some (.int l1), some (.long l2), none, some (.int (((mI M b2 5) + l1) - ((mI M b2 5) + l1) / (7 : Int32) * (7 : Int32))), none, none]) (st' := [.ref l0, .int (((mI M b2 5) + l1) - ((mI M b2 5) + l1) / (7 : Int32) * (7 : Int32)), .long l2]) rfl ?_
      generalize hx_x4 : ((((mI M b2 5) + l1) - ((mI M b2 5) + l1) / (7 : Int32) * (7 : Int32)) : Int32) = x4
      replace h := h x4 hx_x4.symm
      refine e_getJ 3 9 rfl rfl (by decide) (aw (i := 157) (by decide +kernel) rfl) ho1 rfl ?_
      refine e_callS (As := [.int x4, .long (mJ M l0 9)]) (rest := [.long l2]) rfl (x_X3_weekFrom h) rfl (aw (i := 809) (by decide +kernel) rfl) ws_X3_weekFrom wi_X3_weekFrom wc_X3_weekFrom (show cok mi_X3_daysByWeekday mi_X3_weekFrom 0 0 2 = true by decide +kernel) (Nat.le_of_ble_eq_true rfl) (fun v9 M5 hq => ?_) (fun X M9 hq => False.elim hq)
      obtain ⟨r6, rfl, h⟩ := kJ_l hq
      refine e_blk 10 92 _ _ (pc' := 103) (L' := [some (.ref l0), some (.int l1), some (.long (l2 ||| (r6 <<< (((l1 - (6 : Int32))).toInt64 &&& 63)))), none, some (.int x4), none, none]) (st' := [.int (l1 + (1 : Int32)), .long (l2 ||| (r6 <<< (((l1 - (6 : Int32))).toInt64 &&& 63)))]) rfl ?_
      generalize hx_x7 : ((l2 ||| (r6 <<< (((l1 - (6 : Int32))).toInt64 &&& 63))) : Int64) = x7
      replace h := h x7 hx_x7.symm
      refine e_callSN (As := [.int (l1 + (1 : Int32))]) (rest := [.long x7]) (host := "CalendarOrders") rfl (x_X6_below h) (fun X M9 hq => hq) rfl (ao (i := 802) (by decide +kernel) rfl) ws_X6_below wi_X6_below wc_X6_below (show cok mi_X3_daysByWeekday mi_X6_below 0 0 1 = true by decide +kernel) (Nat.le_of_ble_eq_true rfl) (fun v9 M8 hq => ?_)
      obtain ⟨r9, rfl, h⟩ := kJ_l hq
      refine e_blk 1 106 _ _ (pc' := 107) (L' := [some (.ref l0), some (.int l1), some (.long x7), none, some (.int x4), none, none]) (st' := [.long (x7 &&& r9)]) rfl ?_
      exact e_retl rfl rfl (by decide) (by decide) h
    · replace h := h.2 hc
      refine e_blk 1 19 _ _ (pc' := 20) (L' := [some (.ref l0), some (.int l1), some (.long l2), none, some (.int l4), none, none]) (st' := [.ref l0]) rfl ?_
      obtain ⟨ho10, h⟩ := h
      obtain ⟨b11, hbb11, h⟩ := h
      refine e_getR 3 1 rfl rfl (by decide) (aw (i := 141) (by decide +kernel) rfl) ho10 rfl hbb11 ?_
      refine e_blk 1 23 _ _ (pc' := 24) (L' := [some (.ref l0), some (.int l1), some (.long l2), none, some (.int l4), none, none]) (st' := [.int (4 : Int32), .ref b11]) rfl ?_
      obtain ⟨ho12, h⟩ := h
      obtain ⟨hi13, h⟩ := h
      refine e_lald rfl ho12 hi13 ?_
      refine e_blk 1 25 _ _ (pc' := 26) (L' := [some (.ref l0), some (.int l1), some (.long l2), none, some (.int l4), none, none]) (st' := [.ref l0, .long (mJ M b11 ((4 : Int32)).toNatClampNeg)]) rfl ?_
      refine e_getJ 3 10 rfl rfl (by decide) (aw (i := 159) (by decide +kernel) rfl) ho10 rfl ?_
      refine e_blk 8 29 _ _ (pc' := 40) (L' := [some (.ref l0), some (.int l1), some (.long l2), none, some (.int l4), some (.long ((mJ M b11 ((4 : Int32)).toNatClampNeg) ||| ((((mJ M l0 10)).toUInt64 >>> ((((7 : Int32) * l4)).toInt64.toUInt64 &&& Int64.toUInt64 63)).toInt64))), none]) (st' := [.ref l0, .long l2]) rfl ?_
      generalize hx_x14 : (((mJ M b11 ((4 : Int32)).toNatClampNeg) ||| ((((mJ M l0 10)).toUInt64 >>> ((((7 : Int32) * l4)).toInt64.toUInt64 &&& Int64.toUInt64 63)).toInt64)) : Int64) = x14
      replace h := h x14 hx_x14.symm
      obtain ⟨b15, hbb15, h⟩ := h
      refine e_getR 3 0 rfl rfl (by decide) (aw (i := 139) (by decide +kernel) rfl) ho10 rfl hbb15 ?_
      obtain ⟨ho16, h⟩ := h
      refine e_getI 0 5 rfl rfl (by decide) (aw (i := 107) (by decide +kernel) rfl) ho16 rfl ?_
      refine e_blk 1 46 _ _ (pc' := 48) (L' := [some (.ref l0), some (.int l1), some (.long l2), none, some (.int l4), some (.long x14), none]) (st' := [.long x14, .int (mI M b15 5), .long l2]) rfl ?_
      refine e_callS (As := [.int (mI M b15 5), .long x14]) (rest := [.long l2]) rfl (x_X3_weekFrom h) rfl (aw (i := 809) (by decide +kernel) rfl) ws_X3_weekFrom wi_X3_weekFrom wc_X3_weekFrom (show cok mi_X3_daysByWeekday mi_X3_weekFrom 0 0 2 = true by decide +kernel) (Nat.le_of_ble_eq_true rfl) (fun v9 M17 hq => ?_) (fun X M9 hq => False.elim hq)
      obtain ⟨r18, rfl, h⟩ := kJ_l hq
      refine e_blk 10 51 _ _ (pc' := 13) (L' := [some (.ref l0), some (.int l1), some (.long (l2 ||| (r18 <<< (((((7 : Int32) * l4) - (6 : Int32))).toInt64 &&& 63)))), none, some (.int (l4 + (1 : Int32))), some (.long x14), none]) (st' := []) rfl ?_
      generalize hx_x19 : ((l2 ||| (r18 <<< (((((7 : Int32) * l4) - (6 : Int32))).toInt64 &&& 63))) : Int64) = x19
      replace h := h x19 hx_x19.symm
      generalize hx_x20 : ((l4 + (1 : Int32)) : Int32) = x20
      replace h := h x20 hx_x20.symm
      refine e_drp [true, true, true, false, true, false, false] (L' := [some (.ref l0), some (.int l1), some (.long x19), none, some (.int x20), none, none]) rfl ?_
      exact x_X3_daysByWeekday_13  z _ _ _ _ _ h
def V_X3_daysByWeekday (K : Rs → Mm → Prop) (M : Mm) (a0 : Nat) : Prop := (ob M a0 3 ∧ ∃ b2, mP M a0 0 = some b2 ∧ (ob M b2 0 ∧ ∀ x4 : Int32, x4 = (mI M b2 4) → ∃ y, V_X3_daysByWeekday_13 K  y M a0 x4 (0 : Int64) (1 : Int32)))
set_option maxRecDepth 100000 in
set_option maxHeartbeats 4000000 in
theorem x_X3_daysByWeekday {G : Gx} {K : Rs → Mm → Prop} {M : Mm} {a0 : Nat} (h : V_X3_daysByWeekday K M a0) : MC G mi_X3_daysByWeekday [.ref a0] M K := by
  unfold V_X3_daysByWeekday at h
  refine mc_of rfl (by decide +kernel) dc_X3_daysByWeekday (Nat.le_of_ble_eq_true rfl) 6 (Nat.le_of_ble_eq_true rfl) ?_
  show E G mi_X3_daysByWeekday K M 0 0 0 [some (.ref a0), none, none, none, none, none, none] []
  refine e_blk 1 0 _ _ (pc' := 1) (L' := [some (.ref a0), none, none, none, none, none, none]) (st' := [.ref a0]) rfl ?_
  obtain ⟨ho1, h⟩ := h
  obtain ⟨b2, hbb2, h⟩ := h
  refine e_getR 3 0 rfl rfl (by decide) (aw (i := 139) (by decide +kernel) rfl) ho1 rfl hbb2 ?_
  obtain ⟨ho3, h⟩ := h
  refine e_getI 0 4 rfl rfl (by decide) (aw (i := 104) (by decide +kernel) rfl) ho3 rfl ?_
  refine e_blk 5 7 _ _ (pc' := 13) (L' := [some (.ref a0), some (.int (mI M b2 4)), some (.long (0 : Int64)), none, some (.int (1 : Int32)), none, none]) (st' := []) rfl ?_
  generalize hx_x4 : ((mI M b2 4) : Int32) = x4
  replace h := h x4 hx_x4.symm
  refine e_drp [true, true, true, false, true, false, false] (L' := [some (.ref a0), some (.int x4), some (.long (0 : Int64)), none, some (.int (1 : Int32)), none, none]) rfl ?_
  obtain ⟨y, h⟩ := h
  exact x_X3_daysByWeekday_13  y _ _ _ _ _ h
def V_X3_rightDays_94 (K : Rs → Mm → Prop)  (M : Mm) (s0 : Int64) : Prop := K (.inl (some (.long s0))) M
set_option maxRecDepth 100000 in
set_option maxHeartbeats 4000000 in
theorem x_X3_rightDays_94 {G : Gx} {K : Rs → Mm → Prop}  {M : Mm} {s0 : Int64} (h : V_X3_rightDays_94 K  M s0) : E G mi_X3_rightDays K M 0 0 94 [none, none] [.long s0] := by
  unfold V_X3_rightDays_94 at h
  exact e_retl rfl rfl (by decide) (by decide) h
def V_X3_rightDays_73 (K : Rs → Mm → Prop)  (M : Mm) (l0 : Nat) : Prop := (ob M l0 3 ∧ V_X3_daysByDay (kJ (fun r3 M2 => (ob M2 l0 3 ∧ V_X3_daysByWeekday (kJ (fun r6 M5 => V_X3_rightDays_94 K  M5 (r3 &&& r6)) (fun _ _ => False)) M2 l0)) (fun _ _ => False)) M l0)
set_option maxRecDepth 100000 in
set_option maxHeartbeats 4000000 in
theorem x_X3_rightDays_73 {G : Gx} {K : Rs → Mm → Prop}  {M : Mm} {l0 : Nat} (h : V_X3_rightDays_73 K  M l0) : E G mi_X3_rightDays K M 0 0 73 [some (.ref l0), none] [] := by
  unfold V_X3_rightDays_73 at h
  refine e_blk 1 73 _ _ (pc' := 74) (L' := [some (.ref l0), none]) (st' := [.ref l0]) rfl ?_
  obtain ⟨ho1, h⟩ := h
  refine e_callV (As := []) (rest := []) (ci := 3) rfl (x_X3_daysByDay h) ho1 rfl rfl rfl (aw (i := 798) (by decide +kernel) rfl) wn_X3_daysByDay wv_X3_daysByDay wi_X3_daysByDay wc_X3_daysByDay (show cok mi_X3_rightDays mi_X3_daysByDay 0 0 0 = true by decide +kernel) (Nat.le_of_ble_eq_true rfl) (fun v9 M2 hq => ?_) (fun X M9 hq => False.elim hq)
  obtain ⟨r3, rfl, h⟩ := kJ_l hq
  refine e_blk 1 77 _ _ (pc' := 78) (L' := [some (.ref l0), none]) (st' := [.ref l0, .long r3]) rfl ?_
  obtain ⟨ho4, h⟩ := h
  refine e_callV (As := []) (rest := [.long r3]) (ci := 3) rfl (x_X3_daysByWeekday h) ho4 rfl rfl rfl (aw (i := 805) (by decide +kernel) rfl) wn_X3_daysByWeekday wv_X3_daysByWeekday wi_X3_daysByWeekday wc_X3_daysByWeekday (show cok mi_X3_rightDays mi_X3_daysByWeekday 0 0 0 = true by decide +kernel) (Nat.le_of_ble_eq_true rfl) (fun v9 M5 hq => ?_) (fun X M9 hq => False.elim hq)
  obtain ⟨r6, rfl, h⟩ := kJ_l hq
  refine e_blk 2 81 _ _ (pc' := 94) (L' := [some (.ref l0), none]) (st' := [.long (r3 &&& r6)]) rfl ?_
  refine e_drp [false, false] (L' := [none, none]) rfl ?_
  exact x_X3_rightDays_94  h
def V_X3_rightDays_40 (K : Rs → Mm → Prop)  (M : Mm) (l0 : Nat) (l1 : Int32) : Prop := ((¬ l1 = 0 → ((¬ l1 = (1 : Int32) → (ob M l0 3 ∧ ((¬ (mI M l0 4) = 0 → V_X3_rightDays_73 K  M l0) ∧ ((mI M l0 4) = 0 → (((mI M l0 5) = 0 → V_X3_daysByDay (kJ (fun r3 M2 => (ob M2 l0 3 ∧ V_X3_daysByWeekday (kJ (fun r6 M5 => V_X3_rightDays_94 K  M5 (r3 ||| r6)) (fun _ _ => False)) M2 l0)) (fun _ _ => False)) M l0) ∧ (¬ (mI M l0 5) = 0 → V_X3_rightDays_73 K  M l0)))))) ∧ (l1 = (1 : Int32) → (ob M l0 3 ∧ V_X3_daysByWeekday (kJ (fun r9 M8 => K (.inl (some (.long r9))) M8) (fun _ _ => False)) M l0)))) ∧ (l1 = 0 → (ob M l0 3 ∧ V_X3_daysByDay (kJ (fun r12 M11 => K (.inl (some (.long r12))) M11) (fun _ _ => False)) M l0)))
set_option maxRecDepth 100000 in
set_option maxHeartbeats 4000000 in
theorem x_X3_rightDays_40 {G : Gx} {K : Rs → Mm → Prop}  {M : Mm} {l0 : Nat} {l1 : Int32} (h : V_X3_rightDays_40 K  M l0 l1) : E G mi_X3_rightDays K M 0 0 40 [some (.ref l0), some (.int l1)] [] := by
  unfold V_X3_rightDays_40 at h
  refine e_blk 1 40 _ _ (pc' := 41) (L' := [some (.ref l0), some (.int l1)]) (st' := [.int l1]) rfl ?_
  refine e_if_ne 49 rfl rfl (fun hc => ?_) (fun hc => ?_)
  · replace h := h.1 hc
    refine e_blk 2 49 _ _ (pc' := 51) (L' := [some (.ref l0), some (.int l1)]) (st' := [.int (1 : Int32), .int l1]) rfl ?_
    refine e_icmp_ne 59 rfl rfl (fun hc => ?_) (fun hc => ?_)
    · replace h := h.1 hc
      refine e_blk 1 59 _ _ (pc' := 60) (L' := [some (.ref l0), some (.int l1)]) (st' := [.ref l0]) rfl ?_
      obtain ⟨ho1, h⟩ := h
      refine e_getI 3 4 rfl rfl (by decide) (aw (i := 145) (by decide +kernel) rfl) ho1 rfl ?_
      refine e_if_ne 73 rfl rfl (fun hc => ?_) (fun hc => ?_)
      · replace h := h.1 hc
        refine e_drp [true, false] (L' := [some (.ref l0), none]) rfl ?_
        exact x_X3_rightDays_73  h
      · replace h := h.2 hc
        refine e_blk 1 66 _ _ (pc' := 67) (L' := [some (.ref l0), some (.int l1)]) (st' := [.ref l0]) rfl ?_
        refine e_getI 3 5 rfl rfl (by decide) (aw (i := 148) (by decide +kernel) rfl) ho1 rfl ?_
        refine e_if_eq 85 rfl rfl (fun hc => ?_) (fun hc => ?_)
        · replace h := h.1 hc
          refine e_blk 1 85 _ _ (pc' := 86) (L' := [some (.ref l0), some (.int l1)]) (st' := [.ref l0]) rfl ?_
          refine e_callV (As := []) (rest := []) (ci := 3) rfl (x_X3_daysByDay h) ho1 rfl rfl rfl (aw (i := 798) (by decide +kernel) rfl) wn_X3_daysByDay wv_X3_daysByDay wi_X3_daysByDay wc_X3_daysByDay (show cok mi_X3_rightDays mi_X3_daysByDay 0 0 0 = true by decide +kernel) (Nat.le_of_ble_eq_true rfl) (fun v9 M2 hq => ?_) (fun X M9 hq => False.elim hq)
          obtain ⟨r3, rfl, h⟩ := kJ_l hq
          refine e_blk 1 89 _ _ (pc' := 90) (L' := [some (.ref l0), some (.int l1)]) (st' := [.ref l0, .long r3]) rfl ?_
          obtain ⟨ho4, h⟩ := h
          refine e_callV (As := []) (rest := [.long r3]) (ci := 3) rfl (x_X3_daysByWeekday h) ho4 rfl rfl rfl (aw (i := 805) (by decide +kernel) rfl) wn_X3_daysByWeekday wv_X3_daysByWeekday wi_X3_daysByWeekday wc_X3_daysByWeekday (show cok mi_X3_rightDays mi_X3_daysByWeekday 0 0 0 = true by decide +kernel) (Nat.le_of_ble_eq_true rfl) (fun v9 M5 hq => ?_) (fun X M9 hq => False.elim hq)
          obtain ⟨r6, rfl, h⟩ := kJ_l hq
          refine e_blk 1 93 _ _ (pc' := 94) (L' := [some (.ref l0), some (.int l1)]) (st' := [.long (r3 ||| r6)]) rfl ?_
          refine e_drp [false, false] (L' := [none, none]) rfl ?_
          exact x_X3_rightDays_94  h
        · replace h := h.2 hc
          refine e_drp [true, false] (L' := [some (.ref l0), none]) rfl ?_
          exact x_X3_rightDays_73  h
    · replace h := h.2 hc
      refine e_blk 1 54 _ _ (pc' := 55) (L' := [some (.ref l0), some (.int l1)]) (st' := [.ref l0]) rfl ?_
      obtain ⟨ho7, h⟩ := h
      refine e_callV (As := []) (rest := []) (ci := 3) rfl (x_X3_daysByWeekday h) ho7 rfl rfl rfl (aw (i := 805) (by decide +kernel) rfl) wn_X3_daysByWeekday wv_X3_daysByWeekday wi_X3_daysByWeekday wc_X3_daysByWeekday (show cok mi_X3_rightDays mi_X3_daysByWeekday 0 0 0 = true by decide +kernel) (Nat.le_of_ble_eq_true rfl) (fun v9 M8 hq => ?_) (fun X M9 hq => False.elim hq)
      obtain ⟨r9, rfl, h⟩ := kJ_l hq
      exact e_retl rfl rfl (by decide) (by decide) h
  · replace h := h.2 hc
    refine e_blk 1 44 _ _ (pc' := 45) (L' := [some (.ref l0), some (.int l1)]) (st' := [.ref l0]) rfl ?_
    obtain ⟨ho10, h⟩ := h
    refine e_callV (As := []) (rest := []) (ci := 3) rfl (x_X3_daysByDay h) ho10 rfl rfl rfl (aw (i := 798) (by decide +kernel) rfl) wn_X3_daysByDay wv_X3_daysByDay wi_X3_daysByDay wc_X3_daysByDay (show cok mi_X3_rightDays mi_X3_daysByDay 0 0 0 = true by decide +kernel) (Nat.le_of_ble_eq_true rfl) (fun v9 M11 hq => ?_) (fun X M9 hq => False.elim hq)
    obtain ⟨r12, rfl, h⟩ := kJ_l hq
    exact e_retl rfl rfl (by decide) (by decide) h
def V_X3_rightDays_38 (K : Rs → Mm → Prop)  (M : Mm)  : Prop := K (.inl (some (.long (0 : Int64)))) M
set_option maxRecDepth 100000 in
set_option maxHeartbeats 4000000 in
theorem x_X3_rightDays_38 {G : Gx} {K : Rs → Mm → Prop}  {M : Mm}  (h : V_X3_rightDays_38 K  M ) : E G mi_X3_rightDays K M 0 0 38 [none, none] [] := by
  unfold V_X3_rightDays_38 at h
  refine e_blk 1 38 _ _ (pc' := 39) (L' := [none, none]) (st' := [.long (0 : Int64)]) rfl ?_
  exact e_retl rfl rfl (by decide) (by decide) h
def V_X3_rightDays (K : Rs → Mm → Prop) (M : Mm) (a0 : Nat) (a1 : Int32) : Prop := ((¬ a1 = (3 : Int32) → V_X3_rightDays_40 K  M a0 a1) ∧ (a1 = (3 : Int32) → (ob M a0 3 ∧ ∃ b2, mP M a0 1 = some b2 ∧ (ob M b2 10 ∧ (vp_in (3 : Int32) (mN M b2) ∧ ∃ b5, mP M a0 0 = some b5 ∧ (ob M b5 0 ∧ V_X6_holds (kI (fun r8 M7 => ((r8 = 0 → V_X3_rightDays_38 K  M7 ) ∧ (¬ r8 = 0 → (ob M7 a0 3 ∧ ∃ b10, mP M7 a0 0 = some b10 ∧ (ob M7 b10 0 ∧ V_X3_holdsYear (kI (fun r13 M12 => ((¬ r13 = 0 → V_X3_rightDays_40 K  M12 a0 a1) ∧ (r13 = 0 → V_X3_rightDays_38 K  M12 ))) (fun _ _ => False)) M7 a0 (mI M7 b10 0)))))) (fun _ _ => False)) M (mJ M b2 ((3 : Int32)).toNatClampNeg) (mI M b5 1)))))))
set_option maxRecDepth 100000 in
set_option maxHeartbeats 4000000 in
theorem x_X3_rightDays {G : Gx} {K : Rs → Mm → Prop} {M : Mm} {a0 : Nat} {a1 : Int32} (h : V_X3_rightDays K M a0 a1) : MC G mi_X3_rightDays [.ref a0, .int a1] M K := by
  unfold V_X3_rightDays at h
  refine mc_of rfl (by decide +kernel) dc_X3_rightDays (Nat.le_of_ble_eq_true rfl) 0 (Nat.le_of_ble_eq_true rfl) ?_
  show E G mi_X3_rightDays K M 0 0 0 [some (.ref a0), some (.int a1)] []
  refine e_blk 2 0 _ _ (pc' := 2) (L' := [some (.ref a0), some (.int a1)]) (st' := [.int (3 : Int32), .int a1]) rfl ?_
  refine e_icmp_ne 40 rfl rfl (fun hc => ?_) (fun hc => ?_)
  · replace h := h.1 hc
    refine e_drp [true, true] (L' := [some (.ref a0), some (.int a1)]) rfl ?_
    exact x_X3_rightDays_40  h
  · replace h := h.2 hc
    refine e_blk 1 5 _ _ (pc' := 6) (L' := [some (.ref a0), some (.int a1)]) (st' := [.ref a0]) rfl ?_
    obtain ⟨ho1, h⟩ := h
    obtain ⟨b2, hbb2, h⟩ := h
    refine e_getR 3 1 rfl rfl (by decide) (aw (i := 141) (by decide +kernel) rfl) ho1 rfl hbb2 ?_
    refine e_blk 1 9 _ _ (pc' := 10) (L' := [some (.ref a0), some (.int a1)]) (st' := [.int (3 : Int32), .ref b2]) rfl ?_
    obtain ⟨ho3, h⟩ := h
    obtain ⟨hi4, h⟩ := h
    refine e_lald rfl ho3 hi4 ?_
    refine e_blk 1 11 _ _ (pc' := 12) (L' := [some (.ref a0), some (.int a1)]) (st' := [.ref a0, .long (mJ M b2 ((3 : Int32)).toNatClampNeg)]) rfl ?_
    obtain ⟨b5, hbb5, h⟩ := h
    refine e_getR 3 0 rfl rfl (by decide) (aw (i := 139) (by decide +kernel) rfl) ho1 rfl hbb5 ?_
    obtain ⟨ho6, h⟩ := h
    refine e_getI 0 1 rfl rfl (by decide) (aw (i := 96) (by decide +kernel) rfl) ho6 rfl ?_
    refine e_callSN (As := [.long (mJ M b2 ((3 : Int32)).toNatClampNeg), .int (mI M b5 1)]) (rest := []) (host := "CalendarOrders") rfl (x_X6_holds h) (fun X M9 hq => hq) rfl (ao (i := 791) (by decide +kernel) rfl) ws_X6_holds wi_X6_holds wc_X6_holds (show cok mi_X3_rightDays mi_X6_holds 0 0 2 = true by decide +kernel) (Nat.le_of_ble_eq_true rfl) (fun v9 M7 hq => ?_)
    obtain ⟨r8, rfl, h⟩ := kI_l hq
    refine e_if_eq 38 rfl rfl (fun hc => ?_) (fun hc => ?_)
    · replace h := h.1 hc
      refine e_drp [false, false] (L' := [none, none]) rfl ?_
      exact x_X3_rightDays_38  h
    · replace h := h.2 hc
      refine e_blk 2 24 _ _ (pc' := 26) (L' := [some (.ref a0), some (.int a1)]) (st' := [.ref a0, .ref a0]) rfl ?_
      obtain ⟨ho9, h⟩ := h
      obtain ⟨b10, hbb10, h⟩ := h
      refine e_getR 3 0 rfl rfl (by decide) (aw (i := 139) (by decide +kernel) rfl) ho9 rfl hbb10 ?_
      obtain ⟨ho11, h⟩ := h
      refine e_getI 0 0 rfl rfl (by decide) (aw (i := 93) (by decide +kernel) rfl) ho11 rfl ?_
      refine e_callV (As := [.int (mI M7 b10 0)]) (rest := []) (ci := 3) rfl (x_X3_holdsYear h) ho9 rfl rfl rfl (aw (i := 794) (by decide +kernel) rfl) wn_X3_holdsYear wv_X3_holdsYear wi_X3_holdsYear wc_X3_holdsYear (show cok mi_X3_rightDays mi_X3_holdsYear 0 0 1 = true by decide +kernel) (Nat.le_of_ble_eq_true rfl) (fun v9 M12 hq => ?_) (fun X M9 hq => False.elim hq)
      obtain ⟨r13, rfl, h⟩ := kI_l hq
      refine e_if_ne 40 rfl rfl (fun hc => ?_) (fun hc => ?_)
      · replace h := h.1 hc
        refine e_drp [true, true] (L' := [some (.ref a0), some (.int a1)]) rfl ?_
        exact x_X3_rightDays_40  h
      · replace h := h.2 hc
        refine e_drp [false, false] (L' := [none, none]) rfl ?_
        exact x_X3_rightDays_38  h
def V_X3_isRight_40 (K : Rs → Mm → Prop)  (M : Mm) (l0 : Nat) : Prop := (ob M l0 3 ∧ (((mI M l0 12) = 0 ∨ (mI M l0 12) = 1) ∧ K (.inl (some (.int (mI M l0 12)))) M))
set_option maxRecDepth 100000 in
set_option maxHeartbeats 4000000 in
theorem x_X3_isRight_40 {G : Gx} {K : Rs → Mm → Prop}  {M : Mm} {l0 : Nat} (h : V_X3_isRight_40 K  M l0) : E G mi_X3_isRight K M 0 0 40 [some (.ref l0), none] [] := by
  unfold V_X3_isRight_40 at h
  refine e_blk 1 40 _ _ (pc' := 41) (L' := [some (.ref l0), none]) (st' := [.ref l0]) rfl ?_
  obtain ⟨ho1, h⟩ := h
  refine e_getI 3 12 rfl rfl (by decide) (aw (i := 162) (by decide +kernel) rfl) ho1 rfl ?_
  exact e_retz rfl rfl h.1 (by decide) (by decide) h.2
def V_X3_isRight (K : Rs → Mm → Prop) (M : Mm) (a0 : Nat) (a1 : Int32) : Prop := (ob M a0 3 ∧ ((a1 = (mI M a0 11) → V_X3_isRight_40 K  M a0) ∧ (¬ a1 = (mI M a0 11) → ∃ b2, mP M a0 0 = some b2 ∧ (ob M b2 0 ∧ V_X0_goToDay (kV (fun M4 => (ob M4 a0 3 ∧ V_X3_rightDays (kJ (fun r7 M6 => (ob M6 a0 3 ∧ ∃ b9, mP M6 a0 0 = some b9 ∧ (ob M6 b9 0 ∧ V_X6_holds (kI (fun r12 M11 => (ob M11 a0 3 ∧ ((r12 = 0 ∨ r12 = 1) ∧ ∀ M15, M15 = sI M11 a0 12 r12 → ∀ M16, M16 = sI M15 a0 11 a1 → V_X3_isRight_40 K  M16 a0))) (fun _ _ => False)) M6 r7 (mI M6 b9 2)))) (fun _ _ => False)) M4 a0 (3 : Int32))) (fun _ _ => False)) M b2 a1))))
set_option maxRecDepth 100000 in
set_option maxHeartbeats 4000000 in
theorem x_X3_isRight {G : Gx} {K : Rs → Mm → Prop} {M : Mm} {a0 : Nat} {a1 : Int32} (h : V_X3_isRight K M a0 a1) : MC G mi_X3_isRight [.ref a0, .int a1] M K := by
  unfold V_X3_isRight at h
  refine mc_of rfl (by decide +kernel) dc_X3_isRight (Nat.le_of_ble_eq_true rfl) 0 (Nat.le_of_ble_eq_true rfl) ?_
  show E G mi_X3_isRight K M 0 0 0 [some (.ref a0), some (.int a1)] []
  refine e_blk 2 0 _ _ (pc' := 2) (L' := [some (.ref a0), some (.int a1)]) (st' := [.ref a0, .int a1]) rfl ?_
  obtain ⟨ho1, h⟩ := h
  refine e_getI 3 11 rfl rfl (by decide) (aw (i := 161) (by decide +kernel) rfl) ho1 rfl ?_
  refine e_icmp_eq 40 rfl rfl (fun hc => ?_) (fun hc => ?_)
  · replace h := h.1 hc
    refine e_drp [true, false] (L' := [some (.ref a0), none]) rfl ?_
    exact x_X3_isRight_40  h
  · replace h := h.2 hc
    refine e_blk 1 8 _ _ (pc' := 9) (L' := [some (.ref a0), some (.int a1)]) (st' := [.ref a0]) rfl ?_
    obtain ⟨b2, hbb2, h⟩ := h
    refine e_getR 3 0 rfl rfl (by decide) (aw (i := 139) (by decide +kernel) rfl) ho1 rfl hbb2 ?_
    refine e_blk 1 12 _ _ (pc' := 13) (L' := [some (.ref a0), some (.int a1)]) (st' := [.int a1, .ref b2]) rfl ?_
    obtain ⟨ho3, h⟩ := h
    refine e_callV (As := [.int a1]) (rest := []) (ci := 0) rfl (x_X0_goToDay h) ho3 rfl rfl rfl (aw (i := 841) (by decide +kernel) rfl) wn_X0_goToDay wv_X0_goToDay wi_X0_goToDay wc_X0_goToDay (show cok mi_X3_isRight mi_X0_goToDay 0 0 1 = true by decide +kernel) (Nat.le_of_ble_eq_true rfl) (fun v9 M4 hq => ?_) (fun X M9 hq => False.elim hq)
    obtain ⟨rfl, h⟩ := kV_l hq
    refine e_blk 3 16 _ _ (pc' := 19) (L' := [some (.ref a0), some (.int a1)]) (st' := [.int (3 : Int32), .ref a0, .ref a0]) rfl ?_
    obtain ⟨ho5, h⟩ := h
    refine e_callV (As := [.int (3 : Int32)]) (rest := [.ref a0]) (ci := 3) rfl (x_X3_rightDays h) ho5 rfl rfl rfl (aw (i := 842) (by decide +kernel) rfl) wn_X3_rightDays wv_X3_rightDays wi_X3_rightDays wc_X3_rightDays (show cok mi_X3_isRight mi_X3_rightDays 0 0 1 = true by decide +kernel) (Nat.le_of_ble_eq_true rfl) (fun v9 M6 hq => ?_) (fun X M9 hq => False.elim hq)
    obtain ⟨r7, rfl, h⟩ := kJ_l hq
    refine e_blk 1 22 _ _ (pc' := 23) (L' := [some (.ref a0), some (.int a1)]) (st' := [.ref a0, .long r7, .ref a0]) rfl ?_
    obtain ⟨ho8, h⟩ := h
    obtain ⟨b9, hbb9, h⟩ := h
    refine e_getR 3 0 rfl rfl (by decide) (aw (i := 139) (by decide +kernel) rfl) ho8 rfl hbb9 ?_
    obtain ⟨ho10, h⟩ := h
    refine e_getI 0 2 rfl rfl (by decide) (aw (i := 99) (by decide +kernel) rfl) ho10 rfl ?_
    refine e_callSN (As := [.long r7, .int (mI M6 b9 2)]) (rest := [.ref a0]) (host := "CalendarOrders") rfl (x_X6_holds h) (fun X M9 hq => hq) rfl (ao (i := 791) (by decide +kernel) rfl) ws_X6_holds wi_X6_holds wc_X6_holds (show cok mi_X3_isRight mi_X6_holds 0 0 2 = true by decide +kernel) (Nat.le_of_ble_eq_true rfl) (fun v9 M11 hq => ?_)
    obtain ⟨r12, rfl, h⟩ := kI_l hq
    obtain ⟨ho13, h⟩ := h
    obtain ⟨hz14, h⟩ := h
    refine e_putZ 3 12 rfl rfl (by decide) (aw (i := 162) (by decide +kernel) rfl) rfl ho13 rfl hz14 ?_
    generalize hM15 : sI M11 a0 12 r12 = M15
    replace h := h M15 hM15.symm
    replace ho13 : ob M15 a0 3 := hM15 ▸ ob_sI ho13
    refine e_blk 2 35 _ _ (pc' := 37) (L' := [some (.ref a0), some (.int a1)]) (st' := [.int a1, .ref a0]) rfl ?_
    refine e_putI 3 11 rfl rfl (by decide) (aw (i := 161) (by decide +kernel) rfl) rfl ho13 rfl ?_
    generalize hM16 : sI M15 a0 11 a1 = M16
    replace h := h M16 hM16.symm
    replace ho13 : ob M16 a0 3 := hM16 ▸ ob_sI ho13
    refine e_drp [true, false] (L' := [some (.ref a0), none]) rfl ?_
    exact x_X3_isRight_40  h
def V_X3_timeFrom_101 (K : Rs → Mm → Prop)  (M : Mm) (s0 : Int32) : Prop := K (.inl (some (.int s0))) M
set_option maxRecDepth 100000 in
set_option maxHeartbeats 4000000 in
theorem x_X3_timeFrom_101 {G : Gx} {K : Rs → Mm → Prop}  {M : Mm} {s0 : Int32} (h : V_X3_timeFrom_101 K  M s0) : E G mi_X3_timeFrom K M 0 0 101 [none, none, none, none, none, none, none] [.int s0] := by
  unfold V_X3_timeFrom_101 at h
  exact e_reti rfl rfl (by decide) (by decide) h
def V_X3_timeFrom_53 (K : Rs → Mm → Prop)  (M : Mm) (l0 : Nat) (l2 : Int32) : Prop := (ob M l0 3 ∧ ∃ b2, mP M l0 1 = some b2 ∧ (ob M b2 10 ∧ (vp_in (1 : Int32) (mN M b2) ∧ V_X6_below (kJ (fun r6 M5 => ∀ x7 : Int64, x7 = ((mJ M b2 ((1 : Int32)).toNatClampNeg) &&& (r6 ^^^ (-1 : Int64))) → ((¬ (lg_cmp x7 (0 : Int64)) = 0 → V_X6_lowest (kI (fun r9 M8 => (ob M8 l0 3 ∧ ∃ b11, mP M8 l0 1 = some b11 ∧ (ob M8 b11 10 ∧ (vp_in (0 : Int32) (mN M8 b11) ∧ V_X6_lowest (kI (fun r15 M14 => V_X3_timeFrom_101 K  M14 ((r9 * (60 : Int32)) + r15)) (fun _ _ => False)) M8 (mJ M8 b11 ((0 : Int32)).toNatClampNeg))))) (fun _ _ => False)) M5 x7) ∧ ((lg_cmp x7 (0 : Int64)) = 0 → V_X3_timeFrom_101 K  M5 (-1 : Int32)))) (fun _ _ => False)) M (l2 + (1 : Int32)))))
set_option maxRecDepth 100000 in
set_option maxHeartbeats 4000000 in
theorem x_X3_timeFrom_53 {G : Gx} {K : Rs → Mm → Prop}  {M : Mm} {l0 : Nat} {l2 : Int32} (h : V_X3_timeFrom_53 K  M l0 l2) : E G mi_X3_timeFrom K M 0 0 53 [some (.ref l0), none, some (.int l2), none, none, none, none] [] := by
  unfold V_X3_timeFrom_53 at h
  refine e_blk 1 53 _ _ (pc' := 54) (L' := [some (.ref l0), none, some (.int l2), none, none, none, none]) (st' := [.ref l0]) rfl ?_
  obtain ⟨ho1, h⟩ := h
  obtain ⟨b2, hbb2, h⟩ := h
  refine e_getR 3 1 rfl rfl (by decide) (aw (i := 141) (by decide +kernel) rfl) ho1 rfl hbb2 ?_
  refine e_blk 1 57 _ _ (pc' := 58) (L' := [some (.ref l0), none, some (.int l2), none, none, none, none]) (st' := [.int (1 : Int32), .ref b2]) rfl ?_
  obtain ⟨ho3, h⟩ := h
  obtain ⟨hi4, h⟩ := h
  refine e_lald rfl ho3 hi4 ?_
  refine e_blk 3 59 _ _ (pc' := 62) (L' := [some (.ref l0), none, some (.int l2), none, none, none, none]) (st' := [.int (l2 + (1 : Int32)), .long (mJ M b2 ((1 : Int32)).toNatClampNeg)]) rfl ?_
  refine e_callSN (As := [.int (l2 + (1 : Int32))]) (rest := [.long (mJ M b2 ((1 : Int32)).toNatClampNeg)]) (host := "CalendarOrders") rfl (x_X6_below h) (fun X M9 hq => hq) rfl (ao (i := 802) (by decide +kernel) rfl) ws_X6_below wi_X6_below wc_X6_below (show cok mi_X3_timeFrom mi_X6_below 0 0 1 = true by decide +kernel) (Nat.le_of_ble_eq_true rfl) (fun v9 M5 hq => ?_)
  obtain ⟨r6, rfl, h⟩ := kJ_l hq
  refine e_ldc2 (-1) rfl (aw (i := 847) (by decide +kernel) rfl) ?_
  refine e_blk 6 68 _ _ (pc' := 76) (L' := [some (.ref l0), none, some (.int l2), none, none, some (.long ((mJ M b2 ((1 : Int32)).toNatClampNeg) &&& (r6 ^^^ (-1 : Int64)))), none]) (st' := [.int (lg_cmp ((mJ M b2 ((1 : Int32)).toNatClampNeg) &&& (r6 ^^^ (-1 : Int64))) (0 : Int64))]) rfl ?_
  generalize hx_x7 : (((mJ M b2 ((1 : Int32)).toNatClampNeg) &&& (r6 ^^^ (-1 : Int64))) : Int64) = x7
  replace h := h x7 hx_x7.symm
  refine e_if_ne 83 rfl rfl (fun hc => ?_) (fun hc => ?_)
  · replace h := h.1 hc
    refine e_blk 1 83 _ _ (pc' := 85) (L' := [some (.ref l0), none, some (.int l2), none, none, some (.long x7), none]) (st' := [.long x7]) rfl ?_
    refine e_callSN (As := [.long x7]) (rest := []) (host := "CalendarOrders") rfl (x_X6_lowest h) (fun X M9 hq => hq) rfl (ao (i := 848) (by decide +kernel) rfl) ws_X6_lowest wi_X6_lowest wc_X6_lowest (show cok mi_X3_timeFrom mi_X6_lowest 0 0 1 = true by decide +kernel) (Nat.le_of_ble_eq_true rfl) (fun v9 M8 hq => ?_)
    obtain ⟨r9, rfl, h⟩ := kI_l hq
    refine e_blk 3 88 _ _ (pc' := 92) (L' := [some (.ref l0), none, some (.int l2), none, none, some (.long x7), none]) (st' := [.ref l0, .int (r9 * (60 : Int32))]) rfl ?_
    obtain ⟨ho10, h⟩ := h
    obtain ⟨b11, hbb11, h⟩ := h
    refine e_getR 3 1 rfl rfl (by decide) (aw (i := 141) (by decide +kernel) rfl) ho10 rfl hbb11 ?_
    refine e_blk 1 95 _ _ (pc' := 96) (L' := [some (.ref l0), none, some (.int l2), none, none, some (.long x7), none]) (st' := [.int (0 : Int32), .ref b11, .int (r9 * (60 : Int32))]) rfl ?_
    obtain ⟨ho12, h⟩ := h
    obtain ⟨hi13, h⟩ := h
    refine e_lald rfl ho12 hi13 ?_
    refine e_callSN (As := [.long (mJ M8 b11 ((0 : Int32)).toNatClampNeg)]) (rest := [.int (r9 * (60 : Int32))]) (host := "CalendarOrders") rfl (x_X6_lowest h) (fun X M9 hq => hq) rfl (ao (i := 848) (by decide +kernel) rfl) ws_X6_lowest wi_X6_lowest wc_X6_lowest (show cok mi_X3_timeFrom mi_X6_lowest 0 0 1 = true by decide +kernel) (Nat.le_of_ble_eq_true rfl) (fun v9 M14 hq => ?_)
    obtain ⟨r15, rfl, h⟩ := kI_l hq
    refine e_blk 1 100 _ _ (pc' := 101) (L' := [some (.ref l0), none, some (.int l2), none, none, some (.long x7), none]) (st' := [.int ((r9 * (60 : Int32)) + r15)]) rfl ?_
    refine e_drp [false, false, false, false, false, false, false] (L' := [none, none, none, none, none, none, none]) rfl ?_
    exact x_X3_timeFrom_101  h
  · replace h := h.2 hc
    refine e_blk 2 79 _ _ (pc' := 101) (L' := [some (.ref l0), none, some (.int l2), none, none, some (.long x7), none]) (st' := [.int (-1 : Int32)]) rfl ?_
    refine e_drp [false, false, false, false, false, false, false] (L' := [none, none, none, none, none, none, none]) rfl ?_
    exact x_X3_timeFrom_101  h
def V_X3_timeFrom (K : Rs → Mm → Prop) (M : Mm) (a0 : Nat) (a1 : Int32) : Prop := ∀ x1 : Int32, x1 = (a1 / (60 : Int32)) → (ob M a0 3 ∧ ∃ b3, mP M a0 1 = some b3 ∧ (ob M b3 10 ∧ (vp_in (0 : Int32) (mN M b3) ∧ V_X6_below (kJ (fun r7 M6 => ∀ x8 : Int64, x8 = ((mJ M b3 ((0 : Int32)).toNatClampNeg) &&& (r7 ^^^ (-1 : Int64))) → (ob M6 a0 3 ∧ ∃ b10, mP M6 a0 1 = some b10 ∧ (ob M6 b10 10 ∧ (vp_in (1 : Int32) (mN M6 b10) ∧ V_X6_holds (kI (fun r14 M13 => ((r14 = 0 → V_X3_timeFrom_53 K  M13 a0 x1) ∧ (¬ r14 = 0 → (((lg_cmp x8 (0 : Int64)) = 0 → V_X3_timeFrom_53 K  M13 a0 x1) ∧ (¬ (lg_cmp x8 (0 : Int64)) = 0 → V_X6_lowest (kI (fun r16 M15 => K (.inl (some (.int ((x1 * (60 : Int32)) + r16)))) M15) (fun _ _ => False)) M13 x8))))) (fun _ _ => False)) M6 (mJ M6 b10 ((1 : Int32)).toNatClampNeg) x1)))) (fun _ _ => False)) M (a1 - a1 / (60 : Int32) * (60 : Int32)))))
set_option maxRecDepth 100000 in
set_option maxHeartbeats 4000000 in
theorem x_X3_timeFrom {G : Gx} {K : Rs → Mm → Prop} {M : Mm} {a0 : Nat} {a1 : Int32} (h : V_X3_timeFrom K M a0 a1) : MC G mi_X3_timeFrom [.ref a0, .int a1] M K := by
  unfold V_X3_timeFrom at h
  refine mc_of rfl (by decide +kernel) dc_X3_timeFrom (Nat.le_of_ble_eq_true rfl) 5 (Nat.le_of_ble_eq_true rfl) ?_
  show E G mi_X3_timeFrom K M 0 0 0 [some (.ref a0), some (.int a1), none, none, none, none, none] []
  refine e_blk 2 0 _ _ (pc' := 3) (L' := [some (.ref a0), some (.int a1), none, none, none, none, none]) (st' := [.int (60 : Int32), .int a1]) rfl ?_
  refine e_idiv rfl (by decide) ?_
  refine e_blk 2 4 _ _ (pc' := 6) (L' := [some (.ref a0), some (.int a1), some (.int (a1 / (60 : Int32))), none, none, none, none]) (st' := [.ref a0]) rfl ?_
  generalize hx_x1 : ((a1 / (60 : Int32)) : Int32) = x1
  replace h := h x1 hx_x1.symm
  obtain ⟨ho2, h⟩ := h
  obtain ⟨b3, hbb3, h⟩ := h
  refine e_getR 3 1 rfl rfl (by decide) (aw (i := 141) (by decide +kernel) rfl) ho2 rfl hbb3 ?_
  refine e_blk 1 9 _ _ (pc' := 10) (L' := [some (.ref a0), some (.int a1), some (.int x1), none, none, none, none]) (st' := [.int (0 : Int32), .ref b3]) rfl ?_
  obtain ⟨ho4, h⟩ := h
  obtain ⟨hi5, h⟩ := h
  refine e_lald rfl ho4 hi5 ?_
  refine e_blk 2 11 _ _ (pc' := 14) (L' := [some (.ref a0), some (.int a1), some (.int x1), none, none, none, none]) (st' := [.int (60 : Int32), .int a1, .long (mJ M b3 ((0 : Int32)).toNatClampNeg)]) rfl ?_
  refine e_irem rfl (by decide) ?_
  refine e_callSN (As := [.int (a1 - a1 / (60 : Int32) * (60 : Int32))]) (rest := [.long (mJ M b3 ((0 : Int32)).toNatClampNeg)]) (host := "CalendarOrders") rfl (x_X6_below h) (fun X M9 hq => hq) rfl (ao (i := 802) (by decide +kernel) rfl) ws_X6_below wi_X6_below wc_X6_below (show cok mi_X3_timeFrom mi_X6_below 0 0 1 = true by decide +kernel) (Nat.le_of_ble_eq_true rfl) (fun v9 M6 hq => ?_)
  obtain ⟨r7, rfl, h⟩ := kJ_l hq
  refine e_ldc2 (-1) rfl (aw (i := 847) (by decide +kernel) rfl) ?_
  refine e_blk 4 21 _ _ (pc' := 25) (L' := [some (.ref a0), some (.int a1), some (.int x1), some (.long ((mJ M b3 ((0 : Int32)).toNatClampNeg) &&& (r7 ^^^ (-1 : Int64)))), none, none, none]) (st' := [.ref a0]) rfl ?_
  generalize hx_x8 : (((mJ M b3 ((0 : Int32)).toNatClampNeg) &&& (r7 ^^^ (-1 : Int64))) : Int64) = x8
  replace h := h x8 hx_x8.symm
  obtain ⟨ho9, h⟩ := h
  obtain ⟨b10, hbb10, h⟩ := h
  refine e_getR 3 1 rfl rfl (by decide) (aw (i := 141) (by decide +kernel) rfl) ho9 rfl hbb10 ?_
  refine e_blk 1 28 _ _ (pc' := 29) (L' := [some (.ref a0), some (.int a1), some (.int x1), some (.long x8), none, none, none]) (st' := [.int (1 : Int32), .ref b10]) rfl ?_
  obtain ⟨ho11, h⟩ := h
  obtain ⟨hi12, h⟩ := h
  refine e_lald rfl ho11 hi12 ?_
  refine e_blk 1 30 _ _ (pc' := 31) (L' := [some (.ref a0), some (.int a1), some (.int x1), some (.long x8), none, none, none]) (st' := [.int x1, .long (mJ M6 b10 ((1 : Int32)).toNatClampNeg)]) rfl ?_
  refine e_callSN (As := [.long (mJ M6 b10 ((1 : Int32)).toNatClampNeg), .int x1]) (rest := []) (host := "CalendarOrders") rfl (x_X6_holds h) (fun X M9 hq => hq) rfl (ao (i := 791) (by decide +kernel) rfl) ws_X6_holds wi_X6_holds wc_X6_holds (show cok mi_X3_timeFrom mi_X6_holds 0 0 2 = true by decide +kernel) (Nat.le_of_ble_eq_true rfl) (fun v9 M13 hq => ?_)
  obtain ⟨r14, rfl, h⟩ := kI_l hq
  refine e_if_eq 53 rfl rfl (fun hc => ?_) (fun hc => ?_)
  · replace h := h.1 hc
    refine e_drp [true, false, true, false, false, false, false] (L' := [some (.ref a0), none, some (.int x1), none, none, none, none]) rfl ?_
    exact x_X3_timeFrom_53  h
  · replace h := h.2 hc
    refine e_blk 3 37 _ _ (pc' := 40) (L' := [some (.ref a0), some (.int a1), some (.int x1), some (.long x8), none, none, none]) (st' := [.int (lg_cmp x8 (0 : Int64))]) rfl ?_
    refine e_if_eq 53 rfl rfl (fun hc => ?_) (fun hc => ?_)
    · replace h := h.1 hc
      refine e_drp [true, false, true, false, false, false, false] (L' := [some (.ref a0), none, some (.int x1), none, none, none, none]) rfl ?_
      exact x_X3_timeFrom_53  h
    · replace h := h.2 hc
      refine e_blk 4 43 _ _ (pc' := 48) (L' := [some (.ref a0), some (.int a1), some (.int x1), some (.long x8), none, none, none]) (st' := [.long x8, .int (x1 * (60 : Int32))]) rfl ?_
      refine e_callSN (As := [.long x8]) (rest := [.int (x1 * (60 : Int32))]) (host := "CalendarOrders") rfl (x_X6_lowest h) (fun X M9 hq => hq) rfl (ao (i := 848) (by decide +kernel) rfl) ws_X6_lowest wi_X6_lowest wc_X6_lowest (show cok mi_X3_timeFrom mi_X6_lowest 0 0 1 = true by decide +kernel) (Nat.le_of_ble_eq_true rfl) (fun v9 M15 hq => ?_)
      obtain ⟨r16, rfl, h⟩ := kI_l hq
      refine e_blk 1 51 _ _ (pc' := 52) (L' := [some (.ref a0), some (.int a1), some (.int x1), some (.long x8), none, none, none]) (st' := [.int ((x1 * (60 : Int32)) + r16)]) rfl ?_
      exact e_reti rfl rfl (by decide) (by decide) h
def V_X3_firstRightDay_81 (K : Rs → Mm → Prop)  (M : Mm)  : Prop := K (.inl (some (.int (-1000000000 : Int32)))) M
set_option maxRecDepth 100000 in
set_option maxHeartbeats 4000000 in
theorem x_X3_firstRightDay_81 {G : Gx} {K : Rs → Mm → Prop}  {M : Mm}  (h : V_X3_firstRightDay_81 K  M ) : E G mi_X3_firstRightDay K M 0 0 81 [none, none, none, none, none, none] [] := by
  unfold V_X3_firstRightDay_81 at h
  refine e_ldc (-1000000000) rfl (aw (i := 608) (by decide +kernel) rfl) ?_
  exact e_reti rfl rfl (by decide) (by decide) h
def V_X3_firstRightDay_10 (K : Rs → Mm → Prop)  : Nat → Mm → Nat → Int32 → Int32 → Int32 → Prop
  | 0, _, _, _, _, _ => False
  | z + 1, M, l0, l1, l2, l3 => (((4000 : Int32) ≤ l3 → V_X3_firstRightDay_81 K  M ) ∧ (¬ (4000 : Int32) ≤ l3 → (ob M l0 3 ∧ ∃ b2, mP M l0 0 = some b2 ∧ (ob M b2 0 ∧ ((l2 < (mI M b2 3) → V_X3_firstRightDay_81 K  M ) ∧ (¬ l2 < (mI M b2 3) → V_X3_rightDays (kJ (fun r5 M4 => (ob M4 l0 3 ∧ ∃ b7, mP M4 l0 0 = some b7 ∧ (ob M4 b7 0 ∧ V_X0_daysWithin (kJ (fun r10 M9 => ∀ x11 : Int64, x11 = (r5 &&& r10) → (((lg_cmp x11 (0 : Int64)) = 0 → (ob M9 l0 3 ∧ ∃ b13, mP M9 l0 0 = some b13 ∧ (ob M9 b13 0 ∧ V_X0_goToNextMonth (kV (fun M15 => ∀ x16 : Int32, x16 = (l3 + (1 : Int32)) → V_X3_firstRightDay_10 K  z M15 l0 l1 l2 x16) (fun _ _ => False)) M9 b13))) ∧ (¬ (lg_cmp x11 (0 : Int64)) = 0 → (ob M9 l0 3 ∧ ∃ b18, mP M9 l0 0 = some b18 ∧ (ob M9 b18 0 ∧ V_X6_lowest (kI (fun r21 M20 => K (.inl (some (.int (((mI M9 b18 3) + r21) - (1 : Int32))))) M20) (fun _ _ => False)) M9 x11))))) (fun _ _ => False)) M4 b7 l1 l2))) (fun _ _ => False)) M l0 (3 : Int32)))))))
set_option maxRecDepth 100000 in
set_option maxHeartbeats 4000000 in
theorem x_X3_firstRightDay_10 {G : Gx} {K : Rs → Mm → Prop}  : ∀ (z : Nat) (M : Mm) (l0 : Nat) (l1 : Int32) (l2 : Int32) (l3 : Int32), V_X3_firstRightDay_10 K  z M l0 l1 l2 l3 → E G mi_X3_firstRightDay K M 0 0 10 [some (.ref l0), some (.int l1), some (.int l2), some (.int l3), none, none] []
  | 0, M, l0, l1, l2, l3, h => False.elim h
  | z + 1, M, l0, l1, l2, l3, h => by
    unfold V_X3_firstRightDay_10 at h
    refine e_blk 2 10 _ _ (pc' := 14) (L' := [some (.ref l0), some (.int l1), some (.int l2), some (.int l3), none, none]) (st' := [.int (4000 : Int32), .int l3]) rfl ?_
    refine e_icmp_ge 81 rfl rfl (fun hc => ?_) (fun hc => ?_)
    · replace h := h.1 hc
      refine e_drp [false, false, false, false, false, false] (L' := [none, none, none, none, none, none]) rfl ?_
      exact x_X3_firstRightDay_81  h
    · replace h := h.2 hc
      refine e_blk 1 17 _ _ (pc' := 18) (L' := [some (.ref l0), some (.int l1), some (.int l2), some (.int l3), none, none]) (st' := [.ref l0]) rfl ?_
      obtain ⟨ho1, h⟩ := h
      obtain ⟨b2, hbb2, h⟩ := h
      refine e_getR 3 0 rfl rfl (by decide) (aw (i := 139) (by decide +kernel) rfl) ho1 rfl hbb2 ?_
      obtain ⟨ho3, h⟩ := h
      refine e_getI 0 3 rfl rfl (by decide) (aw (i := 101) (by decide +kernel) rfl) ho3 rfl ?_
      refine e_blk 1 24 _ _ (pc' := 25) (L' := [some (.ref l0), some (.int l1), some (.int l2), some (.int l3), none, none]) (st' := [.int l2, .int (mI M b2 3)]) rfl ?_
      refine e_icmp_gt 81 rfl rfl (fun hc => ?_) (fun hc => ?_)
      · replace h := h.1 hc
        refine e_drp [false, false, false, false, false, false] (L' := [none, none, none, none, none, none]) rfl ?_
        exact x_X3_firstRightDay_81  h
      · replace h := h.2 hc
        refine e_blk 2 28 _ _ (pc' := 30) (L' := [some (.ref l0), some (.int l1), some (.int l2), some (.int l3), none, none]) (st' := [.int (3 : Int32), .ref l0]) rfl ?_
        refine e_callV (As := [.int (3 : Int32)]) (rest := []) (ci := 3) rfl (x_X3_rightDays h) ho1 rfl rfl rfl (aw (i := 842) (by decide +kernel) rfl) wn_X3_rightDays wv_X3_rightDays wi_X3_rightDays wc_X3_rightDays (show cok mi_X3_firstRightDay mi_X3_rightDays 0 0 1 = true by decide +kernel) (Nat.le_of_ble_eq_true rfl) (fun v9 M4 hq => ?_) (fun X M9 hq => False.elim hq)
        obtain ⟨r5, rfl, h⟩ := kJ_l hq
        refine e_blk 1 33 _ _ (pc' := 34) (L' := [some (.ref l0), some (.int l1), some (.int l2), some (.int l3), none, none]) (st' := [.ref l0, .long r5]) rfl ?_
        obtain ⟨ho6, h⟩ := h
        obtain ⟨b7, hbb7, h⟩ := h
        refine e_getR 3 0 rfl rfl (by decide) (aw (i := 139) (by decide +kernel) rfl) ho6 rfl hbb7 ?_
        refine e_blk 2 37 _ _ (pc' := 39) (L' := [some (.ref l0), some (.int l1), some (.int l2), some (.int l3), none, none]) (st' := [.int l2, .int l1, .ref b7, .long r5]) rfl ?_
        obtain ⟨ho8, h⟩ := h
        refine e_callV (As := [.int l1, .int l2]) (rest := [.long r5]) (ci := 0) rfl (x_X0_daysWithin h) ho8 rfl rfl rfl (aw (i := 861) (by decide +kernel) rfl) wn_X0_daysWithin wv_X0_daysWithin wi_X0_daysWithin wc_X0_daysWithin (show cok mi_X3_firstRightDay mi_X0_daysWithin 0 0 2 = true by decide +kernel) (Nat.le_of_ble_eq_true rfl) (fun v9 M9 hq => ?_) (fun X M9 hq => False.elim hq)
        obtain ⟨r10, rfl, h⟩ := kJ_l hq
        refine e_blk 5 42 _ _ (pc' := 49) (L' := [some (.ref l0), some (.int l1), some (.int l2), some (.int l3), some (.long (r5 &&& r10)), none]) (st' := [.int (lg_cmp (r5 &&& r10) (0 : Int64))]) rfl ?_
        generalize hx_x11 : ((r5 &&& r10) : Int64) = x11
        replace h := h x11 hx_x11.symm
        refine e_if_eq 68 rfl rfl (fun hc => ?_) (fun hc => ?_)
        · replace h := h.1 hc
          refine e_blk 1 68 _ _ (pc' := 69) (L' := [some (.ref l0), some (.int l1), some (.int l2), some (.int l3), some (.long x11), none]) (st' := [.ref l0]) rfl ?_
          obtain ⟨ho12, h⟩ := h
          obtain ⟨b13, hbb13, h⟩ := h
          refine e_getR 3 0 rfl rfl (by decide) (aw (i := 139) (by decide +kernel) rfl) ho12 rfl hbb13 ?_
          obtain ⟨ho14, h⟩ := h
          refine e_callV (As := []) (rest := []) (ci := 0) rfl (x_X0_goToNextMonth h) ho14 rfl rfl rfl (aw (i := 869) (by decide +kernel) rfl) wn_X0_goToNextMonth wv_X0_goToNextMonth wi_X0_goToNextMonth wc_X0_goToNextMonth (show cok mi_X3_firstRightDay mi_X0_goToNextMonth 0 0 0 = true by decide +kernel) (Nat.le_of_ble_eq_true rfl) (fun v9 M15 hq => ?_) (fun X M9 hq => False.elim hq)
          obtain ⟨rfl, h⟩ := kV_l hq
          refine e_blk 2 75 _ _ (pc' := 10) (L' := [some (.ref l0), some (.int l1), some (.int l2), some (.int (l3 + (1 : Int32))), some (.long x11), none]) (st' := []) rfl ?_
          generalize hx_x16 : ((l3 + (1 : Int32)) : Int32) = x16
          replace h := h x16 hx_x16.symm
          refine e_drp [true, true, true, true, false, false] (L' := [some (.ref l0), some (.int l1), some (.int l2), some (.int x16), none, none]) rfl ?_
          exact x_X3_firstRightDay_10  z _ _ _ _ _ h
        · replace h := h.2 hc
          refine e_blk 1 52 _ _ (pc' := 53) (L' := [some (.ref l0), some (.int l1), some (.int l2), some (.int l3), some (.long x11), none]) (st' := [.ref l0]) rfl ?_
          obtain ⟨ho17, h⟩ := h
          obtain ⟨b18, hbb18, h⟩ := h
          refine e_getR 3 0 rfl rfl (by decide) (aw (i := 139) (by decide +kernel) rfl) ho17 rfl hbb18 ?_
          obtain ⟨ho19, h⟩ := h
          refine e_getI 0 3 rfl rfl (by decide) (aw (i := 101) (by decide +kernel) rfl) ho19 rfl ?_
          refine e_blk 1 59 _ _ (pc' := 61) (L' := [some (.ref l0), some (.int l1), some (.int l2), some (.int l3), some (.long x11), none]) (st' := [.long x11, .int (mI M9 b18 3)]) rfl ?_
          refine e_callSN (As := [.long x11]) (rest := [.int (mI M9 b18 3)]) (host := "CalendarOrders") rfl (x_X6_lowest h) (fun X M9 hq => hq) rfl (ao (i := 848) (by decide +kernel) rfl) ws_X6_lowest wi_X6_lowest wc_X6_lowest (show cok mi_X3_firstRightDay mi_X6_lowest 0 0 1 = true by decide +kernel) (Nat.le_of_ble_eq_true rfl) (fun v9 M20 hq => ?_)
          obtain ⟨r21, rfl, h⟩ := kI_l hq
          refine e_blk 3 64 _ _ (pc' := 67) (L' := [some (.ref l0), some (.int l1), some (.int l2), some (.int l3), some (.long x11), none]) (st' := [.int (((mI M9 b18 3) + r21) - (1 : Int32))]) rfl ?_
          exact e_reti rfl rfl (by decide) (by decide) h
def V_X3_firstRightDay (K : Rs → Mm → Prop) (M : Mm) (a0 : Nat) (a1 : Int32) (a2 : Int32) : Prop := (ob M a0 3 ∧ ∃ b2, mP M a0 0 = some b2 ∧ (ob M b2 0 ∧ V_X0_goToDay (kV (fun M4 => ∃ y, V_X3_firstRightDay_10 K  y M4 a0 a1 a2 (0 : Int32)) (fun _ _ => False)) M b2 a1))
set_option maxRecDepth 100000 in
set_option maxHeartbeats 4000000 in
theorem x_X3_firstRightDay {G : Gx} {K : Rs → Mm → Prop} {M : Mm} {a0 : Nat} {a1 : Int32} {a2 : Int32} (h : V_X3_firstRightDay K M a0 a1 a2) : MC G mi_X3_firstRightDay [.ref a0, .int a1, .int a2] M K := by
  unfold V_X3_firstRightDay at h
  refine mc_of rfl (by decide +kernel) dc_X3_firstRightDay (Nat.le_of_ble_eq_true rfl) 3 (Nat.le_of_ble_eq_true rfl) ?_
  show E G mi_X3_firstRightDay K M 0 0 0 [some (.ref a0), some (.int a1), some (.int a2), none, none, none] []
  refine e_blk 1 0 _ _ (pc' := 1) (L' := [some (.ref a0), some (.int a1), some (.int a2), none, none, none]) (st' := [.ref a0]) rfl ?_
  obtain ⟨ho1, h⟩ := h
  obtain ⟨b2, hbb2, h⟩ := h
  refine e_getR 3 0 rfl rfl (by decide) (aw (i := 139) (by decide +kernel) rfl) ho1 rfl hbb2 ?_
  refine e_blk 1 4 _ _ (pc' := 5) (L' := [some (.ref a0), some (.int a1), some (.int a2), none, none, none]) (st' := [.int a1, .ref b2]) rfl ?_
  obtain ⟨ho3, h⟩ := h
  refine e_callV (As := [.int a1]) (rest := []) (ci := 0) rfl (x_X0_goToDay h) ho3 rfl rfl rfl (aw (i := 841) (by decide +kernel) rfl) wn_X0_goToDay wv_X0_goToDay wi_X0_goToDay wc_X0_goToDay (show cok mi_X3_firstRightDay mi_X0_goToDay 0 0 1 = true by decide +kernel) (Nat.le_of_ble_eq_true rfl) (fun v9 M4 hq => ?_) (fun X M9 hq => False.elim hq)
  obtain ⟨rfl, h⟩ := kV_l hq
  refine e_blk 2 8 _ _ (pc' := 10) (L' := [some (.ref a0), some (.int a1), some (.int a2), some (.int (0 : Int32)), none, none]) (st' := []) rfl ?_
  refine e_drp [true, true, true, true, false, false] (L' := [some (.ref a0), some (.int a1), some (.int a2), some (.int (0 : Int32)), none, none]) rfl ?_
  obtain ⟨y, h⟩ := h
  exact x_X3_firstRightDay_10  y _ _ _ _ _ h
def V_X3_firstIn_90 (K : Rs → Mm → Prop)  (M : Mm) (s0 : Int32) : Prop := K (.inl (some (.int s0))) M
set_option maxRecDepth 100000 in
set_option maxHeartbeats 4000000 in
theorem x_X3_firstIn_90 {G : Gx} {K : Rs → Mm → Prop}  {M : Mm} {s0 : Int32} (h : V_X3_firstIn_90 K  M s0) : E G mi_X3_firstIn K M 0 0 90 [none, none, none, none, none, none] [.int s0] := by
  unfold V_X3_firstIn_90 at h
  exact e_reti rfl rfl (by decide) (by decide) h
def V_X3_firstIn_83 (K : Rs → Mm → Prop)  (M : Mm)  : Prop := V_X3_firstIn_90 K  M (-1000000000 : Int32)
set_option maxRecDepth 100000 in
set_option maxHeartbeats 4000000 in
theorem x_X3_firstIn_83 {G : Gx} {K : Rs → Mm → Prop}  {M : Mm}  (h : V_X3_firstIn_83 K  M ) : E G mi_X3_firstIn K M 0 0 83 [none, none, none, none, none, none] [] := by
  unfold V_X3_firstIn_83 at h
  refine e_ldc (-1000000000) rfl (aw (i := 608) (by decide +kernel) rfl) ?_
  refine e_blk 1 85 _ _ (pc' := 90) (L' := [none, none, none, none, none, none]) (st' := [.int (-1000000000 : Int32)]) rfl ?_
  refine e_drp [false, false, false, false, false, false] (L' := [none, none, none, none, none, none]) rfl ?_
  exact x_X3_firstIn_90  h
def V_X3_firstIn_61 (K : Rs → Mm → Prop)  (M : Mm) (l2 : Int32) (l3 : Int32) (l4 : Int32) : Prop := ∀ x1 : Int32, x1 = ((l3 * (1440 : Int32)) + l4) → ((l3 = (-1000000000 : Int32) → V_X3_firstIn_83 K  M ) ∧ (¬ l3 = (-1000000000 : Int32) → ((x1 ≤ l2 → V_X3_firstIn_90 K  M x1) ∧ (¬ x1 ≤ l2 → V_X3_firstIn_83 K  M ))))
set_option maxRecDepth 100000 in
set_option maxHeartbeats 4000000 in
theorem x_X3_firstIn_61 {G : Gx} {K : Rs → Mm → Prop}  {M : Mm} {l2 : Int32} {l3 : Int32} {l4 : Int32} (h : V_X3_firstIn_61 K  M l2 l3 l4) : E G mi_X3_firstIn K M 0 0 61 [none, none, some (.int l2), some (.int l3), some (.int l4), none] [] := by
  unfold V_X3_firstIn_61 at h
  refine e_blk 7 61 _ _ (pc' := 72) (L' := [none, none, some (.int l2), some (.int l3), some (.int l4), some (.int ((l3 * (1440 : Int32)) + l4))]) (st' := [.int l3]) rfl ?_
  generalize hx_x1 : (((l3 * (1440 : Int32)) + l4) : Int32) = x1
  replace h := h x1 hx_x1.symm
  refine e_ldc (-1000000000) rfl (aw (i := 608) (by decide +kernel) rfl) ?_
  refine e_icmp_eq 83 rfl rfl (fun hc => ?_) (fun hc => ?_)
  · replace h := h.1 hc
    refine e_drp [false, false, false, false, false, false] (L' := [none, none, none, none, none, none]) rfl ?_
    exact x_X3_firstIn_83  h
  · replace h := h.2 hc
    refine e_blk 2 77 _ _ (pc' := 80) (L' := [none, none, some (.int l2), some (.int l3), some (.int l4), some (.int x1)]) (st' := [.int l2, .int x1]) rfl ?_
    refine e_icmp_le 88 rfl rfl (fun hc => ?_) (fun hc => ?_)
    · replace h := h.1 hc
      refine e_blk 1 88 _ _ (pc' := 90) (L' := [none, none, some (.int l2), some (.int l3), some (.int l4), some (.int x1)]) (st' := [.int x1]) rfl ?_
      refine e_drp [false, false, false, false, false, false] (L' := [none, none, none, none, none, none]) rfl ?_
      exact x_X3_firstIn_90  h
    · replace h := h.2 hc
      refine e_drp [false, false, false, false, false, false] (L' := [none, none, none, none, none, none]) rfl ?_
      exact x_X3_firstIn_83  h
def V_X3_firstIn_31 (K : Rs → Mm → Prop)  (M : Mm) (l0 : Nat) (l2 : Int32) (l3 : Int32) (s0 : Int32) : Prop := ((¬ s0 = (-1 : Int32) → V_X3_firstIn_61 K  M l2 l3 s0) ∧ (s0 = (-1 : Int32) → V_J9_floorDiv_7cf53 (kI (fun r2 M1 => (ob M1 l0 3 ∧ V_X3_firstRightDay (kI (fun r5 M4 => (ob M4 l0 3 ∧ V_X3_timeFrom (kI (fun r8 M7 => V_X3_firstIn_61 K  M7 l2 r5 r8) (fun _ _ => False)) M4 l0 (0 : Int32))) (fun _ _ => False)) M1 l0 (l3 + (1 : Int32)) r2)) (fun _ _ => False)) M l2 (1440 : Int32)))
set_option maxRecDepth 100000 in
set_option maxHeartbeats 4000000 in
theorem x_X3_firstIn_31 {G : Gx} {K : Rs → Mm → Prop}  {M : Mm} {l0 : Nat} {l2 : Int32} {l3 : Int32} {s0 : Int32} (h : V_X3_firstIn_31 K  M l0 l2 l3 s0) : E G mi_X3_firstIn K M 0 0 31 [some (.ref l0), none, some (.int l2), some (.int l3), none, none] [.int s0] := by
  unfold V_X3_firstIn_31 at h
  refine e_blk 3 31 _ _ (pc' := 36) (L' := [some (.ref l0), none, some (.int l2), some (.int l3), some (.int s0), none]) (st' := [.int (-1 : Int32), .int s0]) rfl ?_
  refine e_icmp_ne 61 rfl rfl (fun hc => ?_) (fun hc => ?_)
  · replace h := h.1 hc
    refine e_drp [false, false, true, true, true, false] (L' := [none, none, some (.int l2), some (.int l3), some (.int s0), none]) rfl ?_
    exact x_X3_firstIn_61  h
  · replace h := h.2 hc
    refine e_blk 6 39 _ _ (pc' := 47) (L' := [some (.ref l0), none, some (.int l2), some (.int l3), some (.int s0), none]) (st' := [.int (1440 : Int32), .int l2, .int (l3 + (1 : Int32)), .ref l0]) rfl ?_
    refine e_callS (As := [.int l2, .int (1440 : Int32)]) (rest := [.int (l3 + (1 : Int32)), .ref l0]) rfl (x_J9_floorDiv_7cf53 h) rfl (aw (i := 836) (by decide +kernel) rfl) ws_J9_floorDiv_7cf53 wi_J9_floorDiv_7cf53 wc_J9_floorDiv_7cf53 (show cok mi_X3_firstIn mi_J9_floorDiv_7cf53 0 0 2 = true by decide +kernel) (Nat.le_of_ble_eq_true rfl) (fun v9 M1 hq => ?_) (fun X M9 hq => False.elim hq)
    obtain ⟨r2, rfl, h⟩ := kI_l hq
    obtain ⟨ho3, h⟩ := h
    refine e_callV (As := [.int (l3 + (1 : Int32)), .int r2]) (rest := []) (ci := 3) rfl (x_X3_firstRightDay h) ho3 rfl rfl rfl (aw (i := 857) (by decide +kernel) rfl) wn_X3_firstRightDay wv_X3_firstRightDay wi_X3_firstRightDay wc_X3_firstRightDay (show cok mi_X3_firstIn mi_X3_firstRightDay 0 0 2 = true by decide +kernel) (Nat.le_of_ble_eq_true rfl) (fun v9 M4 hq => ?_) (fun X M9 hq => False.elim hq)
    obtain ⟨r5, rfl, h⟩ := kI_l hq
    refine e_blk 3 53 _ _ (pc' := 56) (L' := [some (.ref l0), none, some (.int l2), some (.int r5), some (.int s0), none]) (st' := [.int (0 : Int32), .ref l0]) rfl ?_
    obtain ⟨ho6, h⟩ := h
    refine e_callV (As := [.int (0 : Int32)]) (rest := []) (ci := 3) rfl (x_X3_timeFrom h) ho6 rfl rfl rfl (aw (i := 843) (by decide +kernel) rfl) wn_X3_timeFrom wv_X3_timeFrom wi_X3_timeFrom wc_X3_timeFrom (show cok mi_X3_firstIn mi_X3_timeFrom 0 0 1 = true by decide +kernel) (Nat.le_of_ble_eq_true rfl) (fun v9 M7 hq => ?_) (fun X M9 hq => False.elim hq)
    obtain ⟨r8, rfl, h⟩ := kI_l hq
    refine e_blk 1 59 _ _ (pc' := 61) (L' := [some (.ref l0), none, some (.int l2), some (.int r5), some (.int r8), none]) (st' := []) rfl ?_
    refine e_drp [false, false, true, true, true, false] (L' := [none, none, some (.int l2), some (.int r5), some (.int r8), none]) rfl ?_
    exact x_X3_firstIn_61  h
def V_X3_firstIn (K : Rs → Mm → Prop) (M : Mm) (a0 : Nat) (a1 : Int32) (a2 : Int32) : Prop := V_J9_floorDiv_7cf53 (kI (fun r2 M1 => (ob M1 a0 3 ∧ V_X3_isRight (kI (fun r5 M4 => ((r5 = 0 → V_X3_firstIn_31 K  M4 a0 a2 r2 (-1 : Int32)) ∧ (¬ r5 = 0 → (ob M4 a0 3 ∧ V_X3_timeFrom (kI (fun r8 M7 => V_X3_firstIn_31 K  M7 a0 a2 r2 r8) (fun _ _ => False)) M4 a0 (a1 - (r2 * (1440 : Int32))))))) (fun _ _ => False)) M1 a0 r2)) (fun _ _ => False)) M a1 (1440 : Int32)
set_option maxRecDepth 100000 in
set_option maxHeartbeats 4000000 in
theorem x_X3_firstIn {G : Gx} {K : Rs → Mm → Prop} {M : Mm} {a0 : Nat} {a1 : Int32} {a2 : Int32} (h : V_X3_firstIn K M a0 a1 a2) : MC G mi_X3_firstIn [.ref a0, .int a1, .int a2] M K := by
  unfold V_X3_firstIn at h
  refine mc_of rfl (by decide +kernel) dc_X3_firstIn (Nat.le_of_ble_eq_true rfl) 3 (Nat.le_of_ble_eq_true rfl) ?_
  show E G mi_X3_firstIn K M 0 0 0 [some (.ref a0), some (.int a1), some (.int a2), none, none, none] []
  refine e_blk 2 0 _ _ (pc' := 4) (L' := [some (.ref a0), some (.int a1), some (.int a2), none, none, none]) (st' := [.int (1440 : Int32), .int a1]) rfl ?_
  refine e_callS (As := [.int a1, .int (1440 : Int32)]) (rest := []) rfl (x_J9_floorDiv_7cf53 h) rfl (aw (i := 836) (by decide +kernel) rfl) ws_J9_floorDiv_7cf53 wi_J9_floorDiv_7cf53 wc_J9_floorDiv_7cf53 (show cok mi_X3_firstIn mi_J9_floorDiv_7cf53 0 0 2 = true by decide +kernel) (Nat.le_of_ble_eq_true rfl) (fun v9 M1 hq => ?_) (fun X M9 hq => False.elim hq)
  obtain ⟨r2, rfl, h⟩ := kI_l hq
  refine e_blk 3 7 _ _ (pc' := 10) (L' := [some (.ref a0), some (.int a1), some (.int a2), some (.int r2), none, none]) (st' := [.int r2, .ref a0]) rfl ?_
  obtain ⟨ho3, h⟩ := h
  refine e_callV (As := [.int r2]) (rest := []) (ci := 3) rfl (x_X3_isRight h) ho3 rfl rfl rfl (aw (i := 837) (by decide +kernel) rfl) wn_X3_isRight wv_X3_isRight wi_X3_isRight wc_X3_isRight (show cok mi_X3_firstIn mi_X3_isRight 0 0 1 = true by decide +kernel) (Nat.le_of_ble_eq_true rfl) (fun v9 M4 hq => ?_) (fun X M9 hq => False.elim hq)
  obtain ⟨r5, rfl, h⟩ := kI_l hq
  refine e_if_eq 30 rfl rfl (fun hc => ?_) (fun hc => ?_)
  · replace h := h.1 hc
    refine e_blk 1 30 _ _ (pc' := 31) (L' := [some (.ref a0), some (.int a1), some (.int a2), some (.int r2), none, none]) (st' := [.int (-1 : Int32)]) rfl ?_
    refine e_drp [true, false, true, true, false, false] (L' := [some (.ref a0), none, some (.int a2), some (.int r2), none, none]) rfl ?_
    exact x_X3_firstIn_31  h
  · replace h := h.2 hc
    refine e_blk 6 16 _ _ (pc' := 24) (L' := [some (.ref a0), some (.int a1), some (.int a2), some (.int r2), none, none]) (st' := [.int (a1 - (r2 * (1440 : Int32))), .ref a0]) rfl ?_
    obtain ⟨ho6, h⟩ := h
    refine e_callV (As := [.int (a1 - (r2 * (1440 : Int32)))]) (rest := []) (ci := 3) rfl (x_X3_timeFrom h) ho6 rfl rfl rfl (aw (i := 843) (by decide +kernel) rfl) wn_X3_timeFrom wv_X3_timeFrom wi_X3_timeFrom wc_X3_timeFrom (show cok mi_X3_firstIn mi_X3_timeFrom 0 0 1 = true by decide +kernel) (Nat.le_of_ble_eq_true rfl) (fun v9 M7 hq => ?_) (fun X M9 hq => False.elim hq)
    obtain ⟨r8, rfl, h⟩ := kI_l hq
    refine e_blk 1 27 _ _ (pc' := 31) (L' := [some (.ref a0), some (.int a1), some (.int a2), some (.int r2), none, none]) (st' := [.int r8]) rfl ?_
    refine e_drp [true, false, true, true, false, false] (L' := [some (.ref a0), none, some (.int a2), some (.int r2), none, none]) rfl ?_
    exact x_X3_firstIn_31  h
def V_X3_timeUpTo_93 (K : Rs → Mm → Prop)  (M : Mm) (s0 : Int32) : Prop := K (.inl (some (.int s0))) M
set_option maxRecDepth 100000 in
set_option maxHeartbeats 4000000 in
theorem x_X3_timeUpTo_93 {G : Gx} {K : Rs → Mm → Prop}  {M : Mm} {s0 : Int32} (h : V_X3_timeUpTo_93 K  M s0) : E G mi_X3_timeUpTo K M 0 0 93 [none, none, none, none, none, none, none] [.int s0] := by
  unfold V_X3_timeUpTo_93 at h
  exact e_reti rfl rfl (by decide) (by decide) h
def V_X3_timeUpTo_51 (K : Rs → Mm → Prop)  (M : Mm) (l0 : Nat) (l2 : Int32) : Prop := (ob M l0 3 ∧ ∃ b2, mP M l0 1 = some b2 ∧ (ob M b2 10 ∧ (vp_in (1 : Int32) (mN M b2) ∧ V_X6_below (kJ (fun r6 M5 => ∀ x7 : Int64, x7 = ((mJ M b2 ((1 : Int32)).toNatClampNeg) &&& r6) → ((¬ (lg_cmp x7 (0 : Int64)) = 0 → V_X6_highest (kI (fun r9 M8 => (ob M8 l0 3 ∧ ∃ b11, mP M8 l0 1 = some b11 ∧ (ob M8 b11 10 ∧ (vp_in (0 : Int32) (mN M8 b11) ∧ V_X6_highest (kI (fun r15 M14 => V_X3_timeUpTo_93 K  M14 ((r9 * (60 : Int32)) + r15)) (fun _ _ => False)) M8 (mJ M8 b11 ((0 : Int32)).toNatClampNeg))))) (fun _ _ => False)) M5 x7) ∧ ((lg_cmp x7 (0 : Int64)) = 0 → V_X3_timeUpTo_93 K  M5 (-1 : Int32)))) (fun _ _ => False)) M l2)))
set_option maxRecDepth 100000 in
set_option maxHeartbeats 4000000 in
theorem x_X3_timeUpTo_51 {G : Gx} {K : Rs → Mm → Prop}  {M : Mm} {l0 : Nat} {l2 : Int32} (h : V_X3_timeUpTo_51 K  M l0 l2) : E G mi_X3_timeUpTo K M 0 0 51 [some (.ref l0), none, some (.int l2), none, none, none, none] [] := by
  unfold V_X3_timeUpTo_51 at h
  refine e_blk 1 51 _ _ (pc' := 52) (L' := [some (.ref l0), none, some (.int l2), none, none, none, none]) (st' := [.ref l0]) rfl ?_
  obtain ⟨ho1, h⟩ := h
  obtain ⟨b2, hbb2, h⟩ := h
  refine e_getR 3 1 rfl rfl (by decide) (aw (i := 141) (by decide +kernel) rfl) ho1 rfl hbb2 ?_
  refine e_blk 1 55 _ _ (pc' := 56) (L' := [some (.ref l0), none, some (.int l2), none, none, none, none]) (st' := [.int (1 : Int32), .ref b2]) rfl ?_
  obtain ⟨ho3, h⟩ := h
  obtain ⟨hi4, h⟩ := h
  refine e_lald rfl ho3 hi4 ?_
  refine e_blk 1 57 _ _ (pc' := 58) (L' := [some (.ref l0), none, some (.int l2), none, none, none, none]) (st' := [.int l2, .long (mJ M b2 ((1 : Int32)).toNatClampNeg)]) rfl ?_
  refine e_callSN (As := [.int l2]) (rest := [.long (mJ M b2 ((1 : Int32)).toNatClampNeg)]) (host := "CalendarOrders") rfl (x_X6_below h) (fun X M9 hq => hq) rfl (ao (i := 802) (by decide +kernel) rfl) ws_X6_below wi_X6_below wc_X6_below (show cok mi_X3_timeUpTo mi_X6_below 0 0 1 = true by decide +kernel) (Nat.le_of_ble_eq_true rfl) (fun v9 M5 hq => ?_)
  obtain ⟨r6, rfl, h⟩ := kJ_l hq
  refine e_blk 5 61 _ _ (pc' := 68) (L' := [some (.ref l0), none, some (.int l2), none, none, some (.long ((mJ M b2 ((1 : Int32)).toNatClampNeg) &&& r6)), none]) (st' := [.int (lg_cmp ((mJ M b2 ((1 : Int32)).toNatClampNeg) &&& r6) (0 : Int64))]) rfl ?_
  generalize hx_x7 : (((mJ M b2 ((1 : Int32)).toNatClampNeg) &&& r6) : Int64) = x7
  replace h := h x7 hx_x7.symm
  refine e_if_ne 75 rfl rfl (fun hc => ?_) (fun hc => ?_)
  · replace h := h.1 hc
    refine e_blk 1 75 _ _ (pc' := 77) (L' := [some (.ref l0), none, some (.int l2), none, none, some (.long x7), none]) (st' := [.long x7]) rfl ?_
    refine e_callSN (As := [.long x7]) (rest := []) (host := "CalendarOrders") rfl (x_X6_highest h) (fun X M9 hq => hq) rfl (ao (i := 906) (by decide +kernel) rfl) ws_X6_highest wi_X6_highest wc_X6_highest (show cok mi_X3_timeUpTo mi_X6_highest 0 0 1 = true by decide +kernel) (Nat.le_of_ble_eq_true rfl) (fun v9 M8 hq => ?_)
    obtain ⟨r9, rfl, h⟩ := kI_l hq
    refine e_blk 3 80 _ _ (pc' := 84) (L' := [some (.ref l0), none, some (.int l2), none, none, some (.long x7), none]) (st' := [.ref l0, .int (r9 * (60 : Int32))]) rfl ?_
    obtain ⟨ho10, h⟩ := h
    obtain ⟨b11, hbb11, h⟩ := h
    refine e_getR 3 1 rfl rfl (by decide) (aw (i := 141) (by decide +kernel) rfl) ho10 rfl hbb11 ?_
    refine e_blk 1 87 _ _ (pc' := 88) (L' := [some (.ref l0), none, some (.int l2), none, none, some (.long x7), none]) (st' := [.int (0 : Int32), .ref b11, .int (r9 * (60 : Int32))]) rfl ?_
    obtain ⟨ho12, h⟩ := h
    obtain ⟨hi13, h⟩ := h
    refine e_lald rfl ho12 hi13 ?_
    refine e_callSN (As := [.long (mJ M8 b11 ((0 : Int32)).toNatClampNeg)]) (rest := [.int (r9 * (60 : Int32))]) (host := "CalendarOrders") rfl (x_X6_highest h) (fun X M9 hq => hq) rfl (ao (i := 906) (by decide +kernel) rfl) ws_X6_highest wi_X6_highest wc_X6_highest (show cok mi_X3_timeUpTo mi_X6_highest 0 0 1 = true by decide +kernel) (Nat.le_of_ble_eq_true rfl) (fun v9 M14 hq => ?_)
    obtain ⟨r15, rfl, h⟩ := kI_l hq
    refine e_blk 1 92 _ _ (pc' := 93) (L' := [some (.ref l0), none, some (.int l2), none, none, some (.long x7), none]) (st' := [.int ((r9 * (60 : Int32)) + r15)]) rfl ?_
    refine e_drp [false, false, false, false, false, false, false] (L' := [none, none, none, none, none, none, none]) rfl ?_
    exact x_X3_timeUpTo_93  h
  · replace h := h.2 hc
    refine e_blk 2 71 _ _ (pc' := 93) (L' := [some (.ref l0), none, some (.int l2), none, none, some (.long x7), none]) (st' := [.int (-1 : Int32)]) rfl ?_
    refine e_drp [false, false, false, false, false, false, false] (L' := [none, none, none, none, none, none, none]) rfl ?_
    exact x_X3_timeUpTo_93  h
def V_X3_timeUpTo (K : Rs → Mm → Prop) (M : Mm) (a0 : Nat) (a1 : Int32) : Prop := ∀ x1 : Int32, x1 = (a1 / (60 : Int32)) → (ob M a0 3 ∧ ∃ b3, mP M a0 1 = some b3 ∧ (ob M b3 10 ∧ (vp_in (0 : Int32) (mN M b3) ∧ V_X6_below (kJ (fun r7 M6 => ∀ x8 : Int64, x8 = ((mJ M b3 ((0 : Int32)).toNatClampNeg) &&& r7) → (ob M6 a0 3 ∧ ∃ b10, mP M6 a0 1 = some b10 ∧ (ob M6 b10 10 ∧ (vp_in (1 : Int32) (mN M6 b10) ∧ V_X6_holds (kI (fun r14 M13 => ((r14 = 0 → V_X3_timeUpTo_51 K  M13 a0 x1) ∧ (¬ r14 = 0 → (((lg_cmp x8 (0 : Int64)) = 0 → V_X3_timeUpTo_51 K  M13 a0 x1) ∧ (¬ (lg_cmp x8 (0 : Int64)) = 0 → V_X6_highest (kI (fun r16 M15 => K (.inl (some (.int ((x1 * (60 : Int32)) + r16)))) M15) (fun _ _ => False)) M13 x8))))) (fun _ _ => False)) M6 (mJ M6 b10 ((1 : Int32)).toNatClampNeg) x1)))) (fun _ _ => False)) M ((a1 - a1 / (60 : Int32) * (60 : Int32)) + (1 : Int32)))))
set_option maxRecDepth 100000 in
set_option maxHeartbeats 4000000 in
theorem x_X3_timeUpTo {G : Gx} {K : Rs → Mm → Prop} {M : Mm} {a0 : Nat} {a1 : Int32} (h : V_X3_timeUpTo K M a0 a1) : MC G mi_X3_timeUpTo [.ref a0, .int a1] M K := by
  unfold V_X3_timeUpTo at h
  refine mc_of rfl (by decide +kernel) dc_X3_timeUpTo (Nat.le_of_ble_eq_true rfl) 5 (Nat.le_of_ble_eq_true rfl) ?_
  show E G mi_X3_timeUpTo K M 0 0 0 [some (.ref a0), some (.int a1), none, none, none, none, none] []
  refine e_blk 2 0 _ _ (pc' := 3) (L' := [some (.ref a0), some (.int a1), none, none, none, none, none]) (st' := [.int (60 : Int32), .int a1]) rfl ?_
  refine e_idiv rfl (by decide) ?_
  refine e_blk 2 4 _ _ (pc' := 6) (L' := [some (.ref a0), some (.int a1), some (.int (a1 / (60 : Int32))), none, none, none, none]) (st' := [.ref a0]) rfl ?_
  generalize hx_x1 : ((a1 / (60 : Int32)) : Int32) = x1
  replace h := h x1 hx_x1.symm
  obtain ⟨ho2, h⟩ := h
  obtain ⟨b3, hbb3, h⟩ := h
  refine e_getR 3 1 rfl rfl (by decide) (aw (i := 141) (by decide +kernel) rfl) ho2 rfl hbb3 ?_
  refine e_blk 1 9 _ _ (pc' := 10) (L' := [some (.ref a0), some (.int a1), some (.int x1), none, none, none, none]) (st' := [.int (0 : Int32), .ref b3]) rfl ?_
  obtain ⟨ho4, h⟩ := h
  obtain ⟨hi5, h⟩ := h
  refine e_lald rfl ho4 hi5 ?_
  refine e_blk 2 11 _ _ (pc' := 14) (L' := [some (.ref a0), some (.int a1), some (.int x1), none, none, none, none]) (st' := [.int (60 : Int32), .int a1, .long (mJ M b3 ((0 : Int32)).toNatClampNeg)]) rfl ?_
  refine e_irem rfl (by decide) ?_
  refine e_blk 2 15 _ _ (pc' := 17) (L' := [some (.ref a0), some (.int a1), some (.int x1), none, none, none, none]) (st' := [.int ((a1 - a1 / (60 : Int32) * (60 : Int32)) + (1 : Int32)), .long (mJ M b3 ((0 : Int32)).toNatClampNeg)]) rfl ?_
  refine e_callSN (As := [.int ((a1 - a1 / (60 : Int32) * (60 : Int32)) + (1 : Int32))]) (rest := [.long (mJ M b3 ((0 : Int32)).toNatClampNeg)]) (host := "CalendarOrders") rfl (x_X6_below h) (fun X M9 hq => hq) rfl (ao (i := 802) (by decide +kernel) rfl) ws_X6_below wi_X6_below wc_X6_below (show cok mi_X3_timeUpTo mi_X6_below 0 0 1 = true by decide +kernel) (Nat.le_of_ble_eq_true rfl) (fun v9 M6 hq => ?_)
  obtain ⟨r7, rfl, h⟩ := kJ_l hq
  refine e_blk 3 20 _ _ (pc' := 23) (L' := [some (.ref a0), some (.int a1), some (.int x1), some (.long ((mJ M b3 ((0 : Int32)).toNatClampNeg) &&& r7)), none, none, none]) (st' := [.ref a0]) rfl ?_
  generalize hx_x8 : (((mJ M b3 ((0 : Int32)).toNatClampNeg) &&& r7) : Int64) = x8
  replace h := h x8 hx_x8.symm
  obtain ⟨ho9, h⟩ := h
  obtain ⟨b10, hbb10, h⟩ := h
  refine e_getR 3 1 rfl rfl (by decide) (aw (i := 141) (by decide +kernel) rfl) ho9 rfl hbb10 ?_
  refine e_blk 1 26 _ _ (pc' := 27) (L' := [some (.ref a0), some (.int a1), some (.int x1), some (.long x8), none, none, none]) (st' := [.int (1 : Int32), .ref b10]) rfl ?_
  obtain ⟨ho11, h⟩ := h
  obtain ⟨hi12, h⟩ := h
  refine e_lald rfl ho11 hi12 ?_
  refine e_blk 1 28 _ _ (pc' := 29) (L' := [some (.ref a0), some (.int a1), some (.int x1), some (.long x8), none, none, none]) (st' := [.int x1, .long (mJ M6 b10 ((1 : Int32)).toNatClampNeg)]) rfl ?_
  refine e_callSN (As := [.long (mJ M6 b10 ((1 : Int32)).toNatClampNeg), .int x1]) (rest := []) (host := "CalendarOrders") rfl (x_X6_holds h) (fun X M9 hq => hq) rfl (ao (i := 791) (by decide +kernel) rfl) ws_X6_holds wi_X6_holds wc_X6_holds (show cok mi_X3_timeUpTo mi_X6_holds 0 0 2 = true by decide +kernel) (Nat.le_of_ble_eq_true rfl) (fun v9 M13 hq => ?_)
  obtain ⟨r14, rfl, h⟩ := kI_l hq
  refine e_if_eq 51 rfl rfl (fun hc => ?_) (fun hc => ?_)
  · replace h := h.1 hc
    refine e_drp [true, false, true, false, false, false, false] (L' := [some (.ref a0), none, some (.int x1), none, none, none, none]) rfl ?_
    exact x_X3_timeUpTo_51  h
  · replace h := h.2 hc
    refine e_blk 3 35 _ _ (pc' := 38) (L' := [some (.ref a0), some (.int a1), some (.int x1), some (.long x8), none, none, none]) (st' := [.int (lg_cmp x8 (0 : Int64))]) rfl ?_
    refine e_if_eq 51 rfl rfl (fun hc => ?_) (fun hc => ?_)
    · replace h := h.1 hc
      refine e_drp [true, false, true, false, false, false, false] (L' := [some (.ref a0), none, some (.int x1), none, none, none, none]) rfl ?_
      exact x_X3_timeUpTo_51  h
    · replace h := h.2 hc
      refine e_blk 4 41 _ _ (pc' := 46) (L' := [some (.ref a0), some (.int a1), some (.int x1), some (.long x8), none, none, none]) (st' := [.long x8, .int (x1 * (60 : Int32))]) rfl ?_
      refine e_callSN (As := [.long x8]) (rest := [.int (x1 * (60 : Int32))]) (host := "CalendarOrders") rfl (x_X6_highest h) (fun X M9 hq => hq) rfl (ao (i := 906) (by decide +kernel) rfl) ws_X6_highest wi_X6_highest wc_X6_highest (show cok mi_X3_timeUpTo mi_X6_highest 0 0 1 = true by decide +kernel) (Nat.le_of_ble_eq_true rfl) (fun v9 M15 hq => ?_)
      obtain ⟨r16, rfl, h⟩ := kI_l hq
      refine e_blk 1 49 _ _ (pc' := 50) (L' := [some (.ref a0), some (.int a1), some (.int x1), some (.long x8), none, none, none]) (st' := [.int ((x1 * (60 : Int32)) + r16)]) rfl ?_
      exact e_reti rfl rfl (by decide) (by decide) h
def V_X3_lastRightDay_89 (K : Rs → Mm → Prop)  (M : Mm)  : Prop := K (.inl (some (.int (-1000000000 : Int32)))) M
set_option maxRecDepth 100000 in
set_option maxHeartbeats 4000000 in
theorem x_X3_lastRightDay_89 {G : Gx} {K : Rs → Mm → Prop}  {M : Mm}  (h : V_X3_lastRightDay_89 K  M ) : E G mi_X3_lastRightDay K M 0 0 89 [none, none, none, none, none, none] [] := by
  unfold V_X3_lastRightDay_89 at h
  refine e_ldc (-1000000000) rfl (aw (i := 608) (by decide +kernel) rfl) ?_
  exact e_reti rfl rfl (by decide) (by decide) h
def V_X3_lastRightDay_10 (K : Rs → Mm → Prop)  : Nat → Mm → Nat → Int32 → Int32 → Int32 → Prop
  | 0, _, _, _, _, _ => False
  | z + 1, M, l0, l1, l2, l3 => (((4000 : Int32) ≤ l3 → V_X3_lastRightDay_89 K  M ) ∧ (¬ (4000 : Int32) ≤ l3 → (ob M l0 3 ∧ ∃ b2, mP M l0 0 = some b2 ∧ (ob M b2 0 ∧ ∃ b4, mP M l0 0 = some b4 ∧ (ob M b4 0 ∧ ((((mI M b2 3) + (mI M b4 4)) ≤ l1 → V_X3_lastRightDay_89 K  M ) ∧ (¬ ((mI M b2 3) + (mI M b4 4)) ≤ l1 → V_X3_rightDays (kJ (fun r7 M6 => (ob M6 l0 3 ∧ ∃ b9, mP M6 l0 0 = some b9 ∧ (ob M6 b9 0 ∧ V_X0_daysWithin (kJ (fun r12 M11 => ∀ x13 : Int64, x13 = (r7 &&& r12) → (((lg_cmp x13 (0 : Int64)) = 0 → (ob M11 l0 3 ∧ ∃ b15, mP M11 l0 0 = some b15 ∧ (ob M11 b15 0 ∧ V_X0_goToMonthBefore (kV (fun M17 => ∀ x18 : Int32, x18 = (l3 + (1 : Int32)) → V_X3_lastRightDay_10 K  z M17 l0 l1 l2 x18) (fun _ _ => False)) M11 b15))) ∧ (¬ (lg_cmp x13 (0 : Int64)) = 0 → (ob M11 l0 3 ∧ ∃ b20, mP M11 l0 0 = some b20 ∧ (ob M11 b20 0 ∧ V_X6_highest (kI (fun r23 M22 => K (.inl (some (.int (((mI M11 b20 3) + r23) - (1 : Int32))))) M22) (fun _ _ => False)) M11 x13))))) (fun _ _ => False)) M6 b9 l1 l2))) (fun _ _ => False)) M l0 (3 : Int32))))))))
set_option maxRecDepth 100000 in
set_option maxHeartbeats 4000000 in
theorem x_X3_lastRightDay_10 {G : Gx} {K : Rs → Mm → Prop}  : ∀ (z : Nat) (M : Mm) (l0 : Nat) (l1 : Int32) (l2 : Int32) (l3 : Int32), V_X3_lastRightDay_10 K  z M l0 l1 l2 l3 → E G mi_X3_lastRightDay K M 0 0 10 [some (.ref l0), some (.int l1), some (.int l2), some (.int l3), none, none] []
  | 0, M, l0, l1, l2, l3, h => False.elim h
  | z + 1, M, l0, l1, l2, l3, h => by
    unfold V_X3_lastRightDay_10 at h
    refine e_blk 2 10 _ _ (pc' := 14) (L' := [some (.ref l0), some (.int l1), some (.int l2), some (.int l3), none, none]) (st' := [.int (4000 : Int32), .int l3]) rfl ?_
    refine e_icmp_ge 89 rfl rfl (fun hc => ?_) (fun hc => ?_)
    · replace h := h.1 hc
      refine e_drp [false, false, false, false, false, false] (L' := [none, none, none, none, none, none]) rfl ?_
      exact x_X3_lastRightDay_89  h
    · replace h := h.2 hc
      refine e_blk 1 17 _ _ (pc' := 18) (L' := [some (.ref l0), some (.int l1), some (.int l2), some (.int l3), none, none]) (st' := [.ref l0]) rfl ?_
      obtain ⟨ho1, h⟩ := h
      obtain ⟨b2, hbb2, h⟩ := h
      refine e_getR 3 0 rfl rfl (by decide) (aw (i := 139) (by decide +kernel) rfl) ho1 rfl hbb2 ?_
      obtain ⟨ho3, h⟩ := h
      refine e_getI 0 3 rfl rfl (by decide) (aw (i := 101) (by decide +kernel) rfl) ho3 rfl ?_
      refine e_blk 1 24 _ _ (pc' := 25) (L' := [some (.ref l0), some (.int l1), some (.int l2), some (.int l3), none, none]) (st' := [.ref l0, .int (mI M b2 3)]) rfl ?_
      obtain ⟨b4, hbb4, h⟩ := h
      refine e_getR 3 0 rfl rfl (by decide) (aw (i := 139) (by decide +kernel) rfl) ho1 rfl hbb4 ?_
      obtain ⟨ho5, h⟩ := h
      refine e_getI 0 4 rfl rfl (by decide) (aw (i := 104) (by decide +kernel) rfl) ho5 rfl ?_
      refine e_blk 2 31 _ _ (pc' := 33) (L' := [some (.ref l0), some (.int l1), some (.int l2), some (.int l3), none, none]) (st' := [.int l1, .int ((mI M b2 3) + (mI M b4 4))]) rfl ?_
      refine e_icmp_le 89 rfl rfl (fun hc => ?_) (fun hc => ?_)
      · replace h := h.1 hc
        refine e_drp [false, false, false, false, false, false] (L' := [none, none, none, none, none, none]) rfl ?_
        exact x_X3_lastRightDay_89  h
      · replace h := h.2 hc
        refine e_blk 2 36 _ _ (pc' := 38) (L' := [some (.ref l0), some (.int l1), some (.int l2), some (.int l3), none, none]) (st' := [.int (3 : Int32), .ref l0]) rfl ?_
        refine e_callV (As := [.int (3 : Int32)]) (rest := []) (ci := 3) rfl (x_X3_rightDays h) ho1 rfl rfl rfl (aw (i := 842) (by decide +kernel) rfl) wn_X3_rightDays wv_X3_rightDays wi_X3_rightDays wc_X3_rightDays (show cok mi_X3_lastRightDay mi_X3_rightDays 0 0 1 = true by decide +kernel) (Nat.le_of_ble_eq_true rfl) (fun v9 M6 hq => ?_) (fun X M9 hq => False.elim hq)
        obtain ⟨r7, rfl, h⟩ := kJ_l hq
        refine e_blk 1 41 _ _ (pc' := 42) (L' := [some (.ref l0), some (.int l1), some (.int l2), some (.int l3), none, none]) (st' := [.ref l0, .long r7]) rfl ?_
        obtain ⟨ho8, h⟩ := h
        obtain ⟨b9, hbb9, h⟩ := h
        refine e_getR 3 0 rfl rfl (by decide) (aw (i := 139) (by decide +kernel) rfl) ho8 rfl hbb9 ?_
        refine e_blk 2 45 _ _ (pc' := 47) (L' := [some (.ref l0), some (.int l1), some (.int l2), some (.int l3), none, none]) (st' := [.int l2, .int l1, .ref b9, .long r7]) rfl ?_
        obtain ⟨ho10, h⟩ := h
        refine e_callV (As := [.int l1, .int l2]) (rest := [.long r7]) (ci := 0) rfl (x_X0_daysWithin h) ho10 rfl rfl rfl (aw (i := 861) (by decide +kernel) rfl) wn_X0_daysWithin wv_X0_daysWithin wi_X0_daysWithin wc_X0_daysWithin (show cok mi_X3_lastRightDay mi_X0_daysWithin 0 0 2 = true by decide +kernel) (Nat.le_of_ble_eq_true rfl) (fun v9 M11 hq => ?_) (fun X M9 hq => False.elim hq)
        obtain ⟨r12, rfl, h⟩ := kJ_l hq
        refine e_blk 5 50 _ _ (pc' := 57) (L' := [some (.ref l0), some (.int l1), some (.int l2), some (.int l3), some (.long (r7 &&& r12)), none]) (st' := [.int (lg_cmp (r7 &&& r12) (0 : Int64))]) rfl ?_
        generalize hx_x13 : ((r7 &&& r12) : Int64) = x13
        replace h := h x13 hx_x13.symm
        refine e_if_eq 76 rfl rfl (fun hc => ?_) (fun hc => ?_)
        · replace h := h.1 hc
          refine e_blk 1 76 _ _ (pc' := 77) (L' := [some (.ref l0), some (.int l1), some (.int l2), some (.int l3), some (.long x13), none]) (st' := [.ref l0]) rfl ?_
          obtain ⟨ho14, h⟩ := h
          obtain ⟨b15, hbb15, h⟩ := h
          refine e_getR 3 0 rfl rfl (by decide) (aw (i := 139) (by decide +kernel) rfl) ho14 rfl hbb15 ?_
          obtain ⟨ho16, h⟩ := h
          refine e_callV (As := []) (rest := []) (ci := 0) rfl (x_X0_goToMonthBefore h) ho16 rfl rfl rfl (aw (i := 913) (by decide +kernel) rfl) wn_X0_goToMonthBefore wv_X0_goToMonthBefore wi_X0_goToMonthBefore wc_X0_goToMonthBefore (show cok mi_X3_lastRightDay mi_X0_goToMonthBefore 0 0 0 = true by decide +kernel) (Nat.le_of_ble_eq_true rfl) (fun v9 M17 hq => ?_) (fun X M9 hq => False.elim hq)
          obtain ⟨rfl, h⟩ := kV_l hq
          refine e_blk 2 83 _ _ (pc' := 10) (L' := [some (.ref l0), some (.int l1), some (.int l2), some (.int (l3 + (1 : Int32))), some (.long x13), none]) (st' := []) rfl ?_
          generalize hx_x18 : ((l3 + (1 : Int32)) : Int32) = x18
          replace h := h x18 hx_x18.symm
          refine e_drp [true, true, true, true, false, false] (L' := [some (.ref l0), some (.int l1), some (.int l2), some (.int x18), none, none]) rfl ?_
          exact x_X3_lastRightDay_10  z _ _ _ _ _ h
        · replace h := h.2 hc
          refine e_blk 1 60 _ _ (pc' := 61) (L' := [some (.ref l0), some (.int l1), some (.int l2), some (.int l3), some (.long x13), none]) (st' := [.ref l0]) rfl ?_
          obtain ⟨ho19, h⟩ := h
          obtain ⟨b20, hbb20, h⟩ := h
          refine e_getR 3 0 rfl rfl (by decide) (aw (i := 139) (by decide +kernel) rfl) ho19 rfl hbb20 ?_
          obtain ⟨ho21, h⟩ := h
          refine e_getI 0 3 rfl rfl (by decide) (aw (i := 101) (by decide +kernel) rfl) ho21 rfl ?_
          refine e_blk 1 67 _ _ (pc' := 69) (L' := [some (.ref l0), some (.int l1), some (.int l2), some (.int l3), some (.long x13), none]) (st' := [.long x13, .int (mI M11 b20 3)]) rfl ?_
          refine e_callSN (As := [.long x13]) (rest := [.int (mI M11 b20 3)]) (host := "CalendarOrders") rfl (x_X6_highest h) (fun X M9 hq => hq) rfl (ao (i := 906) (by decide +kernel) rfl) ws_X6_highest wi_X6_highest wc_X6_highest (show cok mi_X3_lastRightDay mi_X6_highest 0 0 1 = true by decide +kernel) (Nat.le_of_ble_eq_true rfl) (fun v9 M22 hq => ?_)
          obtain ⟨r23, rfl, h⟩ := kI_l hq
          refine e_blk 3 72 _ _ (pc' := 75) (L' := [some (.ref l0), some (.int l1), some (.int l2), some (.int l3), some (.long x13), none]) (st' := [.int (((mI M11 b20 3) + r23) - (1 : Int32))]) rfl ?_
          exact e_reti rfl rfl (by decide) (by decide) h
def V_X3_lastRightDay (K : Rs → Mm → Prop) (M : Mm) (a0 : Nat) (a1 : Int32) (a2 : Int32) : Prop := (ob M a0 3 ∧ ∃ b2, mP M a0 0 = some b2 ∧ (ob M b2 0 ∧ V_X0_goToDay (kV (fun M4 => ∃ y, V_X3_lastRightDay_10 K  y M4 a0 a1 a2 (0 : Int32)) (fun _ _ => False)) M b2 a2))
set_option maxRecDepth 100000 in
set_option maxHeartbeats 4000000 in
theorem x_X3_lastRightDay {G : Gx} {K : Rs → Mm → Prop} {M : Mm} {a0 : Nat} {a1 : Int32} {a2 : Int32} (h : V_X3_lastRightDay K M a0 a1 a2) : MC G mi_X3_lastRightDay [.ref a0, .int a1, .int a2] M K := by
  unfold V_X3_lastRightDay at h
  refine mc_of rfl (by decide +kernel) dc_X3_lastRightDay (Nat.le_of_ble_eq_true rfl) 3 (Nat.le_of_ble_eq_true rfl) ?_
  show E G mi_X3_lastRightDay K M 0 0 0 [some (.ref a0), some (.int a1), some (.int a2), none, none, none] []
  refine e_blk 1 0 _ _ (pc' := 1) (L' := [some (.ref a0), some (.int a1), some (.int a2), none, none, none]) (st' := [.ref a0]) rfl ?_
  obtain ⟨ho1, h⟩ := h
  obtain ⟨b2, hbb2, h⟩ := h
  refine e_getR 3 0 rfl rfl (by decide) (aw (i := 139) (by decide +kernel) rfl) ho1 rfl hbb2 ?_
  refine e_blk 1 4 _ _ (pc' := 5) (L' := [some (.ref a0), some (.int a1), some (.int a2), none, none, none]) (st' := [.int a2, .ref b2]) rfl ?_
  obtain ⟨ho3, h⟩ := h
  refine e_callV (As := [.int a2]) (rest := []) (ci := 0) rfl (x_X0_goToDay h) ho3 rfl rfl rfl (aw (i := 841) (by decide +kernel) rfl) wn_X0_goToDay wv_X0_goToDay wi_X0_goToDay wc_X0_goToDay (show cok mi_X3_lastRightDay mi_X0_goToDay 0 0 1 = true by decide +kernel) (Nat.le_of_ble_eq_true rfl) (fun v9 M4 hq => ?_) (fun X M9 hq => False.elim hq)
  obtain ⟨rfl, h⟩ := kV_l hq
  refine e_blk 2 8 _ _ (pc' := 10) (L' := [some (.ref a0), some (.int a1), some (.int a2), some (.int (0 : Int32)), none, none]) (st' := []) rfl ?_
  refine e_drp [true, true, true, true, false, false] (L' := [some (.ref a0), some (.int a1), some (.int a2), some (.int (0 : Int32)), none, none]) rfl ?_
  obtain ⟨y, h⟩ := h
  exact x_X3_lastRightDay_10  y _ _ _ _ _ h
def V_X3_lastIn_92 (K : Rs → Mm → Prop)  (M : Mm) (s0 : Int32) : Prop := K (.inl (some (.int s0))) M
set_option maxRecDepth 100000 in
set_option maxHeartbeats 4000000 in
theorem x_X3_lastIn_92 {G : Gx} {K : Rs → Mm → Prop}  {M : Mm} {s0 : Int32} (h : V_X3_lastIn_92 K  M s0) : E G mi_X3_lastIn K M 0 0 92 [none, none, none, none, none, none] [.int s0] := by
  unfold V_X3_lastIn_92 at h
  exact e_reti rfl rfl (by decide) (by decide) h
def V_X3_lastIn_85 (K : Rs → Mm → Prop)  (M : Mm)  : Prop := V_X3_lastIn_92 K  M (-1000000000 : Int32)
set_option maxRecDepth 100000 in
set_option maxHeartbeats 4000000 in
theorem x_X3_lastIn_85 {G : Gx} {K : Rs → Mm → Prop}  {M : Mm}  (h : V_X3_lastIn_85 K  M ) : E G mi_X3_lastIn K M 0 0 85 [none, none, none, none, none, none] [] := by
  unfold V_X3_lastIn_85 at h
  refine e_ldc (-1000000000) rfl (aw (i := 608) (by decide +kernel) rfl) ?_
  refine e_blk 1 87 _ _ (pc' := 92) (L' := [none, none, none, none, none, none]) (st' := [.int (-1000000000 : Int32)]) rfl ?_
  refine e_drp [false, false, false, false, false, false] (L' := [none, none, none, none, none, none]) rfl ?_
  exact x_X3_lastIn_92  h
def V_X3_lastIn_63 (K : Rs → Mm → Prop)  (M : Mm) (l1 : Int32) (l3 : Int32) (l4 : Int32) : Prop := ∀ x1 : Int32, x1 = ((l3 * (1440 : Int32)) + l4) → ((l3 = (-1000000000 : Int32) → V_X3_lastIn_85 K  M ) ∧ (¬ l3 = (-1000000000 : Int32) → ((l1 ≤ x1 → V_X3_lastIn_92 K  M x1) ∧ (¬ l1 ≤ x1 → V_X3_lastIn_85 K  M ))))
set_option maxRecDepth 100000 in
set_option maxHeartbeats 4000000 in
theorem x_X3_lastIn_63 {G : Gx} {K : Rs → Mm → Prop}  {M : Mm} {l1 : Int32} {l3 : Int32} {l4 : Int32} (h : V_X3_lastIn_63 K  M l1 l3 l4) : E G mi_X3_lastIn K M 0 0 63 [none, some (.int l1), none, some (.int l3), some (.int l4), none] [] := by
  unfold V_X3_lastIn_63 at h
  refine e_blk 7 63 _ _ (pc' := 74) (L' := [none, some (.int l1), none, some (.int l3), some (.int l4), some (.int ((l3 * (1440 : Int32)) + l4))]) (st' := [.int l3]) rfl ?_
  generalize hx_x1 : (((l3 * (1440 : Int32)) + l4) : Int32) = x1
  replace h := h x1 hx_x1.symm
  refine e_ldc (-1000000000) rfl (aw (i := 608) (by decide +kernel) rfl) ?_
  refine e_icmp_eq 85 rfl rfl (fun hc => ?_) (fun hc => ?_)
  · replace h := h.1 hc
    refine e_drp [false, false, false, false, false, false] (L' := [none, none, none, none, none, none]) rfl ?_
    exact x_X3_lastIn_85  h
  · replace h := h.2 hc
    refine e_blk 2 79 _ _ (pc' := 82) (L' := [none, some (.int l1), none, some (.int l3), some (.int l4), some (.int x1)]) (st' := [.int l1, .int x1]) rfl ?_
    refine e_icmp_ge 90 rfl rfl (fun hc => ?_) (fun hc => ?_)
    · replace h := h.1 hc
      refine e_blk 1 90 _ _ (pc' := 92) (L' := [none, some (.int l1), none, some (.int l3), some (.int l4), some (.int x1)]) (st' := [.int x1]) rfl ?_
      refine e_drp [false, false, false, false, false, false] (L' := [none, none, none, none, none, none]) rfl ?_
      exact x_X3_lastIn_92  h
    · replace h := h.2 hc
      refine e_drp [false, false, false, false, false, false] (L' := [none, none, none, none, none, none]) rfl ?_
      exact x_X3_lastIn_85  h
def V_X3_lastIn_31 (K : Rs → Mm → Prop)  (M : Mm) (l0 : Nat) (l1 : Int32) (l3 : Int32) (s0 : Int32) : Prop := ((¬ s0 = (-1 : Int32) → V_X3_lastIn_63 K  M l1 l3 s0) ∧ (s0 = (-1 : Int32) → V_J9_floorDiv_7cf53 (kI (fun r2 M1 => (ob M1 l0 3 ∧ V_X3_lastRightDay (kI (fun r5 M4 => (ob M4 l0 3 ∧ V_X3_timeUpTo (kI (fun r8 M7 => V_X3_lastIn_63 K  M7 l1 r5 r8) (fun _ _ => False)) M4 l0 (1439 : Int32))) (fun _ _ => False)) M1 l0 r2 (l3 - (1 : Int32)))) (fun _ _ => False)) M l1 (1440 : Int32)))
set_option maxRecDepth 100000 in
set_option maxHeartbeats 4000000 in
theorem x_X3_lastIn_31 {G : Gx} {K : Rs → Mm → Prop}  {M : Mm} {l0 : Nat} {l1 : Int32} {l3 : Int32} {s0 : Int32} (h : V_X3_lastIn_31 K  M l0 l1 l3 s0) : E G mi_X3_lastIn K M 0 0 31 [some (.ref l0), some (.int l1), none, some (.int l3), none, none] [.int s0] := by
  unfold V_X3_lastIn_31 at h
  refine e_blk 3 31 _ _ (pc' := 36) (L' := [some (.ref l0), some (.int l1), none, some (.int l3), some (.int s0), none]) (st' := [.int (-1 : Int32), .int s0]) rfl ?_
  refine e_icmp_ne 63 rfl rfl (fun hc => ?_) (fun hc => ?_)
  · replace h := h.1 hc
    refine e_drp [false, true, false, true, true, false] (L' := [none, some (.int l1), none, some (.int l3), some (.int s0), none]) rfl ?_
    exact x_X3_lastIn_63  h
  · replace h := h.2 hc
    refine e_blk 3 39 _ _ (pc' := 44) (L' := [some (.ref l0), some (.int l1), none, some (.int l3), some (.int s0), none]) (st' := [.int (1440 : Int32), .int l1, .ref l0]) rfl ?_
    refine e_callS (As := [.int l1, .int (1440 : Int32)]) (rest := [.ref l0]) rfl (x_J9_floorDiv_7cf53 h) rfl (aw (i := 836) (by decide +kernel) rfl) ws_J9_floorDiv_7cf53 wi_J9_floorDiv_7cf53 wc_J9_floorDiv_7cf53 (show cok mi_X3_lastIn mi_J9_floorDiv_7cf53 0 0 2 = true by decide +kernel) (Nat.le_of_ble_eq_true rfl) (fun v9 M1 hq => ?_) (fun X M9 hq => False.elim hq)
    obtain ⟨r2, rfl, h⟩ := kI_l hq
    refine e_blk 3 47 _ _ (pc' := 50) (L' := [some (.ref l0), some (.int l1), none, some (.int l3), some (.int s0), none]) (st' := [.int (l3 - (1 : Int32)), .int r2, .ref l0]) rfl ?_
    obtain ⟨ho3, h⟩ := h
    refine e_callV (As := [.int r2, .int (l3 - (1 : Int32))]) (rest := []) (ci := 3) rfl (x_X3_lastRightDay h) ho3 rfl rfl rfl (aw (i := 909) (by decide +kernel) rfl) wn_X3_lastRightDay wv_X3_lastRightDay wi_X3_lastRightDay wc_X3_lastRightDay (show cok mi_X3_lastIn mi_X3_lastRightDay 0 0 2 = true by decide +kernel) (Nat.le_of_ble_eq_true rfl) (fun v9 M4 hq => ?_) (fun X M9 hq => False.elim hq)
    obtain ⟨r5, rfl, h⟩ := kI_l hq
    refine e_blk 3 53 _ _ (pc' := 58) (L' := [some (.ref l0), some (.int l1), none, some (.int r5), some (.int s0), none]) (st' := [.int (1439 : Int32), .ref l0]) rfl ?_
    obtain ⟨ho6, h⟩ := h
    refine e_callV (As := [.int (1439 : Int32)]) (rest := []) (ci := 3) rfl (x_X3_timeUpTo h) ho6 rfl rfl rfl (aw (i := 902) (by decide +kernel) rfl) wn_X3_timeUpTo wv_X3_timeUpTo wi_X3_timeUpTo wc_X3_timeUpTo (show cok mi_X3_lastIn mi_X3_timeUpTo 0 0 1 = true by decide +kernel) (Nat.le_of_ble_eq_true rfl) (fun v9 M7 hq => ?_) (fun X M9 hq => False.elim hq)
    obtain ⟨r8, rfl, h⟩ := kI_l hq
    refine e_blk 1 61 _ _ (pc' := 63) (L' := [some (.ref l0), some (.int l1), none, some (.int r5), some (.int r8), none]) (st' := []) rfl ?_
    refine e_drp [false, true, false, true, true, false] (L' := [none, some (.int l1), none, some (.int r5), some (.int r8), none]) rfl ?_
    exact x_X3_lastIn_63  h
def V_X3_lastIn (K : Rs → Mm → Prop) (M : Mm) (a0 : Nat) (a1 : Int32) (a2 : Int32) : Prop := V_J9_floorDiv_7cf53 (kI (fun r2 M1 => (ob M1 a0 3 ∧ V_X3_isRight (kI (fun r5 M4 => ((r5 = 0 → V_X3_lastIn_31 K  M4 a0 a1 r2 (-1 : Int32)) ∧ (¬ r5 = 0 → (ob M4 a0 3 ∧ V_X3_timeUpTo (kI (fun r8 M7 => V_X3_lastIn_31 K  M7 a0 a1 r2 r8) (fun _ _ => False)) M4 a0 (a2 - (r2 * (1440 : Int32))))))) (fun _ _ => False)) M1 a0 r2)) (fun _ _ => False)) M a2 (1440 : Int32)
set_option maxRecDepth 100000 in
set_option maxHeartbeats 4000000 in
theorem x_X3_lastIn {G : Gx} {K : Rs → Mm → Prop} {M : Mm} {a0 : Nat} {a1 : Int32} {a2 : Int32} (h : V_X3_lastIn K M a0 a1 a2) : MC G mi_X3_lastIn [.ref a0, .int a1, .int a2] M K := by
  unfold V_X3_lastIn at h
  refine mc_of rfl (by decide +kernel) dc_X3_lastIn (Nat.le_of_ble_eq_true rfl) 3 (Nat.le_of_ble_eq_true rfl) ?_
  show E G mi_X3_lastIn K M 0 0 0 [some (.ref a0), some (.int a1), some (.int a2), none, none, none] []
  refine e_blk 2 0 _ _ (pc' := 4) (L' := [some (.ref a0), some (.int a1), some (.int a2), none, none, none]) (st' := [.int (1440 : Int32), .int a2]) rfl ?_
  refine e_callS (As := [.int a2, .int (1440 : Int32)]) (rest := []) rfl (x_J9_floorDiv_7cf53 h) rfl (aw (i := 836) (by decide +kernel) rfl) ws_J9_floorDiv_7cf53 wi_J9_floorDiv_7cf53 wc_J9_floorDiv_7cf53 (show cok mi_X3_lastIn mi_J9_floorDiv_7cf53 0 0 2 = true by decide +kernel) (Nat.le_of_ble_eq_true rfl) (fun v9 M1 hq => ?_) (fun X M9 hq => False.elim hq)
  obtain ⟨r2, rfl, h⟩ := kI_l hq
  refine e_blk 3 7 _ _ (pc' := 10) (L' := [some (.ref a0), some (.int a1), some (.int a2), some (.int r2), none, none]) (st' := [.int r2, .ref a0]) rfl ?_
  obtain ⟨ho3, h⟩ := h
  refine e_callV (As := [.int r2]) (rest := []) (ci := 3) rfl (x_X3_isRight h) ho3 rfl rfl rfl (aw (i := 837) (by decide +kernel) rfl) wn_X3_isRight wv_X3_isRight wi_X3_isRight wc_X3_isRight (show cok mi_X3_lastIn mi_X3_isRight 0 0 1 = true by decide +kernel) (Nat.le_of_ble_eq_true rfl) (fun v9 M4 hq => ?_) (fun X M9 hq => False.elim hq)
  obtain ⟨r5, rfl, h⟩ := kI_l hq
  refine e_if_eq 30 rfl rfl (fun hc => ?_) (fun hc => ?_)
  · replace h := h.1 hc
    refine e_blk 1 30 _ _ (pc' := 31) (L' := [some (.ref a0), some (.int a1), some (.int a2), some (.int r2), none, none]) (st' := [.int (-1 : Int32)]) rfl ?_
    refine e_drp [true, true, false, true, false, false] (L' := [some (.ref a0), some (.int a1), none, some (.int r2), none, none]) rfl ?_
    exact x_X3_lastIn_31  h
  · replace h := h.2 hc
    refine e_blk 6 16 _ _ (pc' := 24) (L' := [some (.ref a0), some (.int a1), some (.int a2), some (.int r2), none, none]) (st' := [.int (a2 - (r2 * (1440 : Int32))), .ref a0]) rfl ?_
    obtain ⟨ho6, h⟩ := h
    refine e_callV (As := [.int (a2 - (r2 * (1440 : Int32)))]) (rest := []) (ci := 3) rfl (x_X3_timeUpTo h) ho6 rfl rfl rfl (aw (i := 902) (by decide +kernel) rfl) wn_X3_timeUpTo wv_X3_timeUpTo wi_X3_timeUpTo wc_X3_timeUpTo (show cok mi_X3_lastIn mi_X3_timeUpTo 0 0 1 = true by decide +kernel) (Nat.le_of_ble_eq_true rfl) (fun v9 M7 hq => ?_) (fun X M9 hq => False.elim hq)
    obtain ⟨r8, rfl, h⟩ := kI_l hq
    refine e_blk 1 27 _ _ (pc' := 31) (L' := [some (.ref a0), some (.int a1), some (.int a2), some (.int r2), none, none]) (st' := [.int r8]) rfl ?_
    refine e_drp [true, true, false, true, false, false] (L' := [some (.ref a0), some (.int a1), none, some (.int r2), none, none]) rfl ?_
    exact x_X3_lastIn_31  h
def V_X3_timesBefore_66 (K : Rs → Mm → Prop)  (M : Mm) (s0 : Int32) : Prop := K (.inl (some (.int s0))) M
set_option maxRecDepth 100000 in
set_option maxHeartbeats 4000000 in
theorem x_X3_timesBefore_66 {G : Gx} {K : Rs → Mm → Prop}  {M : Mm} {s0 : Int32} (h : V_X3_timesBefore_66 K  M s0) : E G mi_X3_timesBefore K M 0 0 66 [none, none, none, none] [.int s0] := by
  unfold V_X3_timesBefore_66 at h
  exact e_reti rfl rfl (by decide) (by decide) h
def V_X3_timesBefore (K : Rs → Mm → Prop) (M : Mm) (a0 : Nat) (a1 : Int32) : Prop := ∀ x1 : Int32, x1 = (a1 / (60 : Int32)) → (ob M a0 3 ∧ ∃ b3, mP M a0 1 = some b3 ∧ (ob M b3 10 ∧ (vp_in (1 : Int32) (mN M b3) ∧ V_X6_below (kJ (fun r7 M6 => V_J13_bitCount_95d88 (kI (fun r9 M8 => (ob M8 a0 3 ∧ ∃ b11, mP M8 a0 1 = some b11 ∧ (ob M8 b11 10 ∧ (vp_in (0 : Int32) (mN M8 b11) ∧ V_J13_bitCount_95d88 (kI (fun r15 M14 => ∀ x16 : Int32, x16 = (r9 * r15) → (ob M14 a0 3 ∧ ∃ b18, mP M14 a0 1 = some b18 ∧ (ob M14 b18 10 ∧ (vp_in (1 : Int32) (mN M14 b18) ∧ V_X6_holds (kI (fun r22 M21 => ((r22 = 0 → V_X3_timesBefore_66 K  M21 x16) ∧ (¬ r22 = 0 → (ob M21 a0 3 ∧ ∃ b24, mP M21 a0 1 = some b24 ∧ (ob M21 b24 10 ∧ (vp_in (0 : Int32) (mN M21 b24) ∧ V_X6_below (kJ (fun r28 M27 => V_J13_bitCount_95d88 (kI (fun r30 M29 => V_X3_timesBefore_66 K  M29 (x16 + r30)) (fun _ _ => False)) M27 ((mJ M21 b24 ((0 : Int32)).toNatClampNeg) &&& r28)) (fun _ _ => False)) M21 (a1 - a1 / (60 : Int32) * (60 : Int32)))))))) (fun _ _ => False)) M14 (mJ M14 b18 ((1 : Int32)).toNatClampNeg) x1)))) (fun _ _ => False)) M8 (mJ M8 b11 ((0 : Int32)).toNatClampNeg))))) (fun _ _ => False)) M6 ((mJ M b3 ((1 : Int32)).toNatClampNeg) &&& r7)) (fun _ _ => False)) M x1)))
set_option maxRecDepth 100000 in
set_option maxHeartbeats 4000000 in
theorem x_X3_timesBefore {G : Gx} {K : Rs → Mm → Prop} {M : Mm} {a0 : Nat} {a1 : Int32} (h : V_X3_timesBefore K M a0 a1) : MC G mi_X3_timesBefore [.ref a0, .int a1] M K := by
  unfold V_X3_timesBefore at h
  refine mc_of rfl (by decide +kernel) dc_X3_timesBefore (Nat.le_of_ble_eq_true rfl) 2 (Nat.le_of_ble_eq_true rfl) ?_
  show E G mi_X3_timesBefore K M 0 0 0 [some (.ref a0), some (.int a1), none, none] []
  refine e_blk 2 0 _ _ (pc' := 3) (L' := [some (.ref a0), some (.int a1), none, none]) (st' := [.int (60 : Int32), .int a1]) rfl ?_
  refine e_idiv rfl (by decide) ?_
  refine e_blk 2 4 _ _ (pc' := 6) (L' := [some (.ref a0), some (.int a1), some (.int (a1 / (60 : Int32))), none]) (st' := [.ref a0]) rfl ?_
  generalize hx_x1 : ((a1 / (60 : Int32)) : Int32) = x1
  replace h := h x1 hx_x1.symm
  obtain ⟨ho2, h⟩ := h
  obtain ⟨b3, hbb3, h⟩ := h
  refine e_getR 3 1 rfl rfl (by decide) (aw (i := 141) (by decide +kernel) rfl) ho2 rfl hbb3 ?_
  refine e_blk 1 9 _ _ (pc' := 10) (L' := [some (.ref a0), some (.int a1), some (.int x1), none]) (st' := [.int (1 : Int32), .ref b3]) rfl ?_
  obtain ⟨ho4, h⟩ := h
  obtain ⟨hi5, h⟩ := h
  refine e_lald rfl ho4 hi5 ?_
  refine e_blk 1 11 _ _ (pc' := 12) (L' := [some (.ref a0), some (.int a1), some (.int x1), none]) (st' := [.int x1, .long (mJ M b3 ((1 : Int32)).toNatClampNeg)]) rfl ?_
  refine e_callSN (As := [.int x1]) (rest := [.long (mJ M b3 ((1 : Int32)).toNatClampNeg)]) (host := "CalendarOrders") rfl (x_X6_below h) (fun X M9 hq => hq) rfl (ao (i := 802) (by decide +kernel) rfl) ws_X6_below wi_X6_below wc_X6_below (show cok mi_X3_timesBefore mi_X6_below 0 0 1 = true by decide +kernel) (Nat.le_of_ble_eq_true rfl) (fun v9 M6 hq => ?_)
  obtain ⟨r7, rfl, h⟩ := kJ_l hq
  refine e_blk 1 15 _ _ (pc' := 16) (L' := [some (.ref a0), some (.int a1), some (.int x1), none]) (st' := [.long ((mJ M b3 ((1 : Int32)).toNatClampNeg) &&& r7)]) rfl ?_
  refine e_callS (As := [.long ((mJ M b3 ((1 : Int32)).toNatClampNeg) &&& r7)]) (rest := []) rfl (x_J13_bitCount_95d88 h) rfl (aw (i := 938) (by decide +kernel) rfl) ws_J13_bitCount_95d88 wi_J13_bitCount_95d88 wc_J13_bitCount_95d88 (show cok mi_X3_timesBefore mi_J13_bitCount_95d88 0 0 1 = true by decide +kernel) (Nat.le_of_ble_eq_true rfl) (fun v9 M8 hq => ?_) (fun X M9 hq => False.elim hq)
  obtain ⟨r9, rfl, h⟩ := kI_l hq
  refine e_blk 1 19 _ _ (pc' := 20) (L' := [some (.ref a0), some (.int a1), some (.int x1), none]) (st' := [.ref a0, .int r9]) rfl ?_
  obtain ⟨ho10, h⟩ := h
  obtain ⟨b11, hbb11, h⟩ := h
  refine e_getR 3 1 rfl rfl (by decide) (aw (i := 141) (by decide +kernel) rfl) ho10 rfl hbb11 ?_
  refine e_blk 1 23 _ _ (pc' := 24) (L' := [some (.ref a0), some (.int a1), some (.int x1), none]) (st' := [.int (0 : Int32), .ref b11, .int r9]) rfl ?_
  obtain ⟨ho12, h⟩ := h
  obtain ⟨hi13, h⟩ := h
  refine e_lald rfl ho12 hi13 ?_
  refine e_callS (As := [.long (mJ M8 b11 ((0 : Int32)).toNatClampNeg)]) (rest := [.int r9]) rfl (x_J13_bitCount_95d88 h) rfl (aw (i := 938) (by decide +kernel) rfl) ws_J13_bitCount_95d88 wi_J13_bitCount_95d88 wc_J13_bitCount_95d88 (show cok mi_X3_timesBefore mi_J13_bitCount_95d88 0 0 1 = true by decide +kernel) (Nat.le_of_ble_eq_true rfl) (fun v9 M14 hq => ?_) (fun X M9 hq => False.elim hq)
  obtain ⟨r15, rfl, h⟩ := kI_l hq
  refine e_blk 3 28 _ _ (pc' := 31) (L' := [some (.ref a0), some (.int a1), some (.int x1), some (.int (r9 * r15))]) (st' := [.ref a0]) rfl ?_
  generalize hx_x16 : ((r9 * r15) : Int32) = x16
  replace h := h x16 hx_x16.symm
  obtain ⟨ho17, h⟩ := h
  obtain ⟨b18, hbb18, h⟩ := h
  refine e_getR 3 1 rfl rfl (by decide) (aw (i := 141) (by decide +kernel) rfl) ho17 rfl hbb18 ?_
  refine e_blk 1 34 _ _ (pc' := 35) (L' := [some (.ref a0), some (.int a1), some (.int x1), some (.int x16)]) (st' := [.int (1 : Int32), .ref b18]) rfl ?_
  obtain ⟨ho19, h⟩ := h
  obtain ⟨hi20, h⟩ := h
  refine e_lald rfl ho19 hi20 ?_
  refine e_blk 1 36 _ _ (pc' := 37) (L' := [some (.ref a0), some (.int a1), some (.int x1), some (.int x16)]) (st' := [.int x1, .long (mJ M14 b18 ((1 : Int32)).toNatClampNeg)]) rfl ?_
  refine e_callSN (As := [.long (mJ M14 b18 ((1 : Int32)).toNatClampNeg), .int x1]) (rest := []) (host := "CalendarOrders") rfl (x_X6_holds h) (fun X M9 hq => hq) rfl (ao (i := 791) (by decide +kernel) rfl) ws_X6_holds wi_X6_holds wc_X6_holds (show cok mi_X3_timesBefore mi_X6_holds 0 0 2 = true by decide +kernel) (Nat.le_of_ble_eq_true rfl) (fun v9 M21 hq => ?_)
  obtain ⟨r22, rfl, h⟩ := kI_l hq
  refine e_if_eq 65 rfl rfl (fun hc => ?_) (fun hc => ?_)
  · replace h := h.1 hc
    refine e_blk 1 65 _ _ (pc' := 66) (L' := [some (.ref a0), some (.int a1), some (.int x1), some (.int x16)]) (st' := [.int x16]) rfl ?_
    refine e_drp [false, false, false, false] (L' := [none, none, none, none]) rfl ?_
    exact x_X3_timesBefore_66  h
  · replace h := h.2 hc
    refine e_blk 2 43 _ _ (pc' := 45) (L' := [some (.ref a0), some (.int a1), some (.int x1), some (.int x16)]) (st' := [.ref a0, .int x16]) rfl ?_
    obtain ⟨ho23, h⟩ := h
    obtain ⟨b24, hbb24, h⟩ := h
    refine e_getR 3 1 rfl rfl (by decide) (aw (i := 141) (by decide +kernel) rfl) ho23 rfl hbb24 ?_
    refine e_blk 1 48 _ _ (pc' := 49) (L' := [some (.ref a0), some (.int a1), some (.int x1), some (.int x16)]) (st' := [.int (0 : Int32), .ref b24, .int x16]) rfl ?_
    obtain ⟨ho25, h⟩ := h
    obtain ⟨hi26, h⟩ := h
    refine e_lald rfl ho25 hi26 ?_
    refine e_blk 2 50 _ _ (pc' := 53) (L' := [some (.ref a0), some (.int a1), some (.int x1), some (.int x16)]) (st' := [.int (60 : Int32), .int a1, .long (mJ M21 b24 ((0 : Int32)).toNatClampNeg), .int x16]) rfl ?_
    refine e_irem rfl (by decide) ?_
    refine e_callSN (As := [.int (a1 - a1 / (60 : Int32) * (60 : Int32))]) (rest := [.long (mJ M21 b24 ((0 : Int32)).toNatClampNeg), .int x16]) (host := "CalendarOrders") rfl (x_X6_below h) (fun X M9 hq => hq) rfl (ao (i := 802) (by decide +kernel) rfl) ws_X6_below wi_X6_below wc_X6_below (show cok mi_X3_timesBefore mi_X6_below 0 0 1 = true by decide +kernel) (Nat.le_of_ble_eq_true rfl) (fun v9 M27 hq => ?_)
    obtain ⟨r28, rfl, h⟩ := kJ_l hq
    refine e_blk 1 57 _ _ (pc' := 58) (L' := [some (.ref a0), some (.int a1), some (.int x1), some (.int x16)]) (st' := [.long ((mJ M21 b24 ((0 : Int32)).toNatClampNeg) &&& r28), .int x16]) rfl ?_
    refine e_callS (As := [.long ((mJ M21 b24 ((0 : Int32)).toNatClampNeg) &&& r28)]) (rest := [.int x16]) rfl (x_J13_bitCount_95d88 h) rfl (aw (i := 938) (by decide +kernel) rfl) ws_J13_bitCount_95d88 wi_J13_bitCount_95d88 wc_J13_bitCount_95d88 (show cok mi_X3_timesBefore mi_J13_bitCount_95d88 0 0 1 = true by decide +kernel) (Nat.le_of_ble_eq_true rfl) (fun v9 M29 hq => ?_) (fun X M9 hq => False.elim hq)
    obtain ⟨r30, rfl, h⟩ := kI_l hq
    refine e_blk 2 61 _ _ (pc' := 66) (L' := [some (.ref a0), some (.int a1), some (.int x1), some (.int x16)]) (st' := [.int (x16 + r30)]) rfl ?_
    refine e_drp [false, false, false, false] (L' := [none, none, none, none]) rfl ?_
    exact x_X3_timesBefore_66  h
def V_X3_rightDaysIn_66 (K : Rs → Mm → Prop)  (M : Mm) (l3 : Int32) : Prop := K (.inl (some (.int l3))) M
set_option maxRecDepth 100000 in
set_option maxHeartbeats 4000000 in
theorem x_X3_rightDaysIn_66 {G : Gx} {K : Rs → Mm → Prop}  {M : Mm} {l3 : Int32} (h : V_X3_rightDaysIn_66 K  M l3) : E G mi_X3_rightDaysIn K M 0 0 66 [none, none, none, some (.int l3), none] [] := by
  unfold V_X3_rightDaysIn_66 at h
  refine e_blk 1 66 _ _ (pc' := 67) (L' := [none, none, none, some (.int l3), none]) (st' := [.int l3]) rfl ?_
  exact e_reti rfl rfl (by decide) (by decide) h
def V_X3_rightDaysIn_13 (K : Rs → Mm → Prop)  : Nat → Mm → Nat → Int32 → Int32 → Int32 → Int32 → Prop
  | 0, _, _, _, _, _, _ => False
  | z + 1, M, l0, l1, l2, l3, l4 => (((4000 : Int32) ≤ l4 → V_X3_rightDaysIn_66 K  M l3) ∧ (¬ (4000 : Int32) ≤ l4 → (ob M l0 3 ∧ ∃ b2, mP M l0 0 = some b2 ∧ (ob M b2 0 ∧ ((l2 < (mI M b2 3) → V_X3_rightDaysIn_66 K  M l3) ∧ (¬ l2 < (mI M b2 3) → V_X3_rightDays (kJ (fun r5 M4 => (ob M4 l0 3 ∧ ∃ b7, mP M4 l0 0 = some b7 ∧ (ob M4 b7 0 ∧ V_X0_daysWithin (kJ (fun r10 M9 => V_J13_bitCount_95d88 (kI (fun r12 M11 => ∀ x13 : Int32, x13 = (l3 + r12) → (ob M11 l0 3 ∧ ∃ b15, mP M11 l0 0 = some b15 ∧ (ob M11 b15 0 ∧ V_X0_goToNextMonth (kV (fun M17 => ∀ x18 : Int32, x18 = (l4 + (1 : Int32)) → V_X3_rightDaysIn_13 K  z M17 l0 l1 l2 x13 x18) (fun _ _ => False)) M11 b15))) (fun _ _ => False)) M9 (r5 &&& r10)) (fun _ _ => False)) M4 b7 l1 l2))) (fun _ _ => False)) M l0 (3 : Int32)))))))
set_option maxRecDepth 100000 in
set_option maxHeartbeats 4000000 in
theorem x_X3_rightDaysIn_13 {G : Gx} {K : Rs → Mm → Prop}  : ∀ (z : Nat) (M : Mm) (l0 : Nat) (l1 : Int32) (l2 : Int32) (l3 : Int32) (l4 : Int32), V_X3_rightDaysIn_13 K  z M l0 l1 l2 l3 l4 → E G mi_X3_rightDaysIn K M 0 0 13 [some (.ref l0), some (.int l1), some (.int l2), some (.int l3), some (.int l4)] []
  | 0, M, l0, l1, l2, l3, l4, h => False.elim h
  | z + 1, M, l0, l1, l2, l3, l4, h => by
    unfold V_X3_rightDaysIn_13 at h
    refine e_blk 2 13 _ _ (pc' := 18) (L' := [some (.ref l0), some (.int l1), some (.int l2), some (.int l3), some (.int l4)]) (st' := [.int (4000 : Int32), .int l4]) rfl ?_
    refine e_icmp_ge 66 rfl rfl (fun hc => ?_) (fun hc => ?_)
    · replace h := h.1 hc
      refine e_drp [false, false, false, true, false] (L' := [none, none, none, some (.int l3), none]) rfl ?_
      exact x_X3_rightDaysIn_66  h
    · replace h := h.2 hc
      refine e_blk 1 21 _ _ (pc' := 22) (L' := [some (.ref l0), some (.int l1), some (.int l2), some (.int l3), some (.int l4)]) (st' := [.ref l0]) rfl ?_
      obtain ⟨ho1, h⟩ := h
      obtain ⟨b2, hbb2, h⟩ := h
      refine e_getR 3 0 rfl rfl (by decide) (aw (i := 139) (by decide +kernel) rfl) ho1 rfl hbb2 ?_
      obtain ⟨ho3, h⟩ := h
      refine e_getI 0 3 rfl rfl (by decide) (aw (i := 101) (by decide +kernel) rfl) ho3 rfl ?_
      refine e_blk 1 28 _ _ (pc' := 29) (L' := [some (.ref l0), some (.int l1), some (.int l2), some (.int l3), some (.int l4)]) (st' := [.int l2, .int (mI M b2 3)]) rfl ?_
      refine e_icmp_gt 66 rfl rfl (fun hc => ?_) (fun hc => ?_)
      · replace h := h.1 hc
        refine e_drp [false, false, false, true, false] (L' := [none, none, none, some (.int l3), none]) rfl ?_
        exact x_X3_rightDaysIn_66  h
      · replace h := h.2 hc
        refine e_blk 3 32 _ _ (pc' := 35) (L' := [some (.ref l0), some (.int l1), some (.int l2), some (.int l3), some (.int l4)]) (st' := [.int (3 : Int32), .ref l0, .int l3]) rfl ?_
        refine e_callV (As := [.int (3 : Int32)]) (rest := [.int l3]) (ci := 3) rfl (x_X3_rightDays h) ho1 rfl rfl rfl (aw (i := 842) (by decide +kernel) rfl) wn_X3_rightDays wv_X3_rightDays wi_X3_rightDays wc_X3_rightDays (show cok mi_X3_rightDaysIn mi_X3_rightDays 0 0 1 = true by decide +kernel) (Nat.le_of_ble_eq_true rfl) (fun v9 M4 hq => ?_) (fun X M9 hq => False.elim hq)
        obtain ⟨r5, rfl, h⟩ := kJ_l hq
        refine e_blk 1 38 _ _ (pc' := 39) (L' := [some (.ref l0), some (.int l1), some (.int l2), some (.int l3), some (.int l4)]) (st' := [.ref l0, .long r5, .int l3]) rfl ?_
        obtain ⟨ho6, h⟩ := h
        obtain ⟨b7, hbb7, h⟩ := h
        refine e_getR 3 0 rfl rfl (by decide) (aw (i := 139) (by decide +kernel) rfl) ho6 rfl hbb7 ?_
        refine e_blk 2 42 _ _ (pc' := 44) (L' := [some (.ref l0), some (.int l1), some (.int l2), some (.int l3), some (.int l4)]) (st' := [.int l2, .int l1, .ref b7, .long r5, .int l3]) rfl ?_
        obtain ⟨ho8, h⟩ := h
        refine e_callV (As := [.int l1, .int l2]) (rest := [.long r5, .int l3]) (ci := 0) rfl (x_X0_daysWithin h) ho8 rfl rfl rfl (aw (i := 861) (by decide +kernel) rfl) wn_X0_daysWithin wv_X0_daysWithin wi_X0_daysWithin wc_X0_daysWithin (show cok mi_X3_rightDaysIn mi_X0_daysWithin 0 0 2 = true by decide +kernel) (Nat.le_of_ble_eq_true rfl) (fun v9 M9 hq => ?_) (fun X M9 hq => False.elim hq)
        obtain ⟨r10, rfl, h⟩ := kJ_l hq
        refine e_blk 1 47 _ _ (pc' := 48) (L' := [some (.ref l0), some (.int l1), some (.int l2), some (.int l3), some (.int l4)]) (st' := [.long (r5 &&& r10), .int l3]) rfl ?_
        refine e_callS (As := [.long (r5 &&& r10)]) (rest := [.int l3]) rfl (x_J13_bitCount_95d88 h) rfl (aw (i := 938) (by decide +kernel) rfl) ws_J13_bitCount_95d88 wi_J13_bitCount_95d88 wc_J13_bitCount_95d88 (show cok mi_X3_rightDaysIn mi_J13_bitCount_95d88 0 0 1 = true by decide +kernel) (Nat.le_of_ble_eq_true rfl) (fun v9 M11 hq => ?_) (fun X M9 hq => False.elim hq)
        obtain ⟨r12, rfl, h⟩ := kI_l hq
        refine e_blk 3 51 _ _ (pc' := 54) (L' := [some (.ref l0), some (.int l1), some (.int l2), some (.int (l3 + r12)), some (.int l4)]) (st' := [.ref l0]) rfl ?_
        generalize hx_x13 : ((l3 + r12) : Int32) = x13
        replace h := h x13 hx_x13.symm
        obtain ⟨ho14, h⟩ := h
        obtain ⟨b15, hbb15, h⟩ := h
        refine e_getR 3 0 rfl rfl (by decide) (aw (i := 139) (by decide +kernel) rfl) ho14 rfl hbb15 ?_
        obtain ⟨ho16, h⟩ := h
        refine e_callV (As := []) (rest := []) (ci := 0) rfl (x_X0_goToNextMonth h) ho16 rfl rfl rfl (aw (i := 869) (by decide +kernel) rfl) wn_X0_goToNextMonth wv_X0_goToNextMonth wi_X0_goToNextMonth wc_X0_goToNextMonth (show cok mi_X3_rightDaysIn mi_X0_goToNextMonth 0 0 0 = true by decide +kernel) (Nat.le_of_ble_eq_true rfl) (fun v9 M17 hq => ?_) (fun X M9 hq => False.elim hq)
        obtain ⟨rfl, h⟩ := kV_l hq
        refine e_blk 2 60 _ _ (pc' := 13) (L' := [some (.ref l0), some (.int l1), some (.int l2), some (.int x13), some (.int (l4 + (1 : Int32)))]) (st' := []) rfl ?_
        generalize hx_x18 : ((l4 + (1 : Int32)) : Int32) = x18
        replace h := h x18 hx_x18.symm
        refine e_drp [true, true, true, true, true] (L' := [some (.ref l0), some (.int l1), some (.int l2), some (.int x13), some (.int x18)]) rfl ?_
        exact x_X3_rightDaysIn_13  z _ _ _ _ _ _ h
def V_X3_rightDaysIn (K : Rs → Mm → Prop) (M : Mm) (a0 : Nat) (a1 : Int32) (a2 : Int32) : Prop := (ob M a0 3 ∧ ∃ b2, mP M a0 0 = some b2 ∧ (ob M b2 0 ∧ V_X0_goToDay (kV (fun M4 => ∃ y, V_X3_rightDaysIn_13 K  y M4 a0 a1 a2 (0 : Int32) (0 : Int32)) (fun _ _ => False)) M b2 a1))
set_option maxRecDepth 100000 in
set_option maxHeartbeats 4000000 in
theorem x_X3_rightDaysIn {G : Gx} {K : Rs → Mm → Prop} {M : Mm} {a0 : Nat} {a1 : Int32} {a2 : Int32} (h : V_X3_rightDaysIn K M a0 a1 a2) : MC G mi_X3_rightDaysIn [.ref a0, .int a1, .int a2] M K := by
  unfold V_X3_rightDaysIn at h
  refine mc_of rfl (by decide +kernel) dc_X3_rightDaysIn (Nat.le_of_ble_eq_true rfl) 2 (Nat.le_of_ble_eq_true rfl) ?_
  show E G mi_X3_rightDaysIn K M 0 0 0 [some (.ref a0), some (.int a1), some (.int a2), none, none] []
  refine e_blk 3 0 _ _ (pc' := 3) (L' := [some (.ref a0), some (.int a1), some (.int a2), some (.int (0 : Int32)), none]) (st' := [.ref a0]) rfl ?_
  obtain ⟨ho1, h⟩ := h
  obtain ⟨b2, hbb2, h⟩ := h
  refine e_getR 3 0 rfl rfl (by decide) (aw (i := 139) (by decide +kernel) rfl) ho1 rfl hbb2 ?_
  refine e_blk 1 6 _ _ (pc' := 7) (L' := [some (.ref a0), some (.int a1), some (.int a2), some (.int (0 : Int32)), none]) (st' := [.int a1, .ref b2]) rfl ?_
  obtain ⟨ho3, h⟩ := h
  refine e_callV (As := [.int a1]) (rest := []) (ci := 0) rfl (x_X0_goToDay h) ho3 rfl rfl rfl (aw (i := 841) (by decide +kernel) rfl) wn_X0_goToDay wv_X0_goToDay wi_X0_goToDay wc_X0_goToDay (show cok mi_X3_rightDaysIn mi_X0_goToDay 0 0 1 = true by decide +kernel) (Nat.le_of_ble_eq_true rfl) (fun v9 M4 hq => ?_) (fun X M9 hq => False.elim hq)
  obtain ⟨rfl, h⟩ := kV_l hq
  refine e_blk 2 10 _ _ (pc' := 13) (L' := [some (.ref a0), some (.int a1), some (.int a2), some (.int (0 : Int32)), some (.int (0 : Int32))]) (st' := []) rfl ?_
  refine e_drp [true, true, true, true, true] (L' := [some (.ref a0), some (.int a1), some (.int a2), some (.int (0 : Int32)), some (.int (0 : Int32))]) rfl ?_
  obtain ⟨y, h⟩ := h
  exact x_X3_rightDaysIn_13  y _ _ _ _ _ _ h
def V_X3_countIn_93 (K : Rs → Mm → Prop)  (M : Mm) (l6 : Int32) : Prop := K (.inl (some (.int l6))) M
set_option maxRecDepth 100000 in
set_option maxHeartbeats 4000000 in
theorem x_X3_countIn_93 {G : Gx} {K : Rs → Mm → Prop}  {M : Mm} {l6 : Int32} (h : V_X3_countIn_93 K  M l6) : E G mi_X3_countIn K M 0 0 93 [none, none, none, none, none, none, some (.int l6)] [] := by
  unfold V_X3_countIn_93 at h
  refine e_blk 1 93 _ _ (pc' := 95) (L' := [none, none, none, none, none, none, some (.int l6)]) (st' := [.int l6]) rfl ?_
  exact e_reti rfl rfl (by decide) (by decide) h
def V_X3_countIn_62 (K : Rs → Mm → Prop)  (M : Mm) (l0 : Nat) (l2 : Int32) (l4 : Int32) (l5 : Int32) (l6 : Int32) : Prop := (ob M l0 3 ∧ V_X3_isRight (kI (fun r3 M2 => ((r3 = 0 → V_X3_countIn_93 K  M2 l6) ∧ (¬ r3 = 0 → (ob M2 l0 3 ∧ V_X3_timesBefore (kI (fun r6 M5 => ∀ x7 : Int32, x7 = (l6 - (l5 - r6)) → V_X3_countIn_93 K  M5 x7) (fun _ _ => False)) M2 l0 ((l2 - (l4 * (1440 : Int32))) + (1 : Int32)))))) (fun _ _ => False)) M l0 l4)
set_option maxRecDepth 100000 in
set_option maxHeartbeats 4000000 in
theorem x_X3_countIn_62 {G : Gx} {K : Rs → Mm → Prop}  {M : Mm} {l0 : Nat} {l2 : Int32} {l4 : Int32} {l5 : Int32} {l6 : Int32} (h : V_X3_countIn_62 K  M l0 l2 l4 l5 l6) : E G mi_X3_countIn K M 0 0 62 [some (.ref l0), none, some (.int l2), none, some (.int l4), some (.int l5), some (.int l6)] [] := by
  unfold V_X3_countIn_62 at h
  refine e_blk 2 62 _ _ (pc' := 65) (L' := [some (.ref l0), none, some (.int l2), none, some (.int l4), some (.int l5), some (.int l6)]) (st' := [.int l4, .ref l0]) rfl ?_
  obtain ⟨ho1, h⟩ := h
  refine e_callV (As := [.int l4]) (rest := []) (ci := 3) rfl (x_X3_isRight h) ho1 rfl rfl rfl (aw (i := 837) (by decide +kernel) rfl) wn_X3_isRight wv_X3_isRight wi_X3_isRight wc_X3_isRight (show cok mi_X3_countIn mi_X3_isRight 0 0 1 = true by decide +kernel) (Nat.le_of_ble_eq_true rfl) (fun v9 M2 hq => ?_) (fun X M9 hq => False.elim hq)
  obtain ⟨r3, rfl, h⟩ := kI_l hq
  refine e_if_eq 93 rfl rfl (fun hc => ?_) (fun hc => ?_)
  · replace h := h.1 hc
    refine e_drp [false, false, false, false, false, false, true] (L' := [none, none, none, none, none, none, some (.int l6)]) rfl ?_
    exact x_X3_countIn_93  h
  · replace h := h.2 hc
    refine e_blk 10 71 _ _ (pc' := 86) (L' := [some (.ref l0), none, some (.int l2), none, some (.int l4), some (.int l5), some (.int l6)]) (st' := [.int ((l2 - (l4 * (1440 : Int32))) + (1 : Int32)), .ref l0, .int l5, .int l6]) rfl ?_
    obtain ⟨ho4, h⟩ := h
    refine e_callV (As := [.int ((l2 - (l4 * (1440 : Int32))) + (1 : Int32))]) (rest := [.int l5, .int l6]) (ci := 3) rfl (x_X3_timesBefore h) ho4 rfl rfl rfl (aw (i := 934) (by decide +kernel) rfl) wn_X3_timesBefore wv_X3_timesBefore wi_X3_timesBefore wc_X3_timesBefore (show cok mi_X3_countIn mi_X3_timesBefore 0 0 1 = true by decide +kernel) (Nat.le_of_ble_eq_true rfl) (fun v9 M5 hq => ?_) (fun X M9 hq => False.elim hq)
    obtain ⟨r6, rfl, h⟩ := kI_l hq
    refine e_blk 3 89 _ _ (pc' := 93) (L' := [some (.ref l0), none, some (.int l2), none, some (.int l4), some (.int l5), some (.int (l6 - (l5 - r6)))]) (st' := []) rfl ?_
    generalize hx_x7 : ((l6 - (l5 - r6)) : Int32) = x7
    replace h := h x7 hx_x7.symm
    refine e_drp [false, false, false, false, false, false, true] (L' := [none, none, none, none, none, none, some (.int x7)]) rfl ?_
    exact x_X3_countIn_93  h
def V_X3_countIn (K : Rs → Mm → Prop) (M : Mm) (a0 : Nat) (a1 : Int32) (a2 : Int32) : Prop := V_J9_floorDiv_7cf53 (kI (fun r2 M1 => V_J9_floorDiv_7cf53 (kI (fun r4 M3 => (ob M3 a0 3 ∧ V_X3_timesBefore (kI (fun r7 M6 => (ob M6 a0 3 ∧ V_X3_rightDaysIn (kI (fun r10 M9 => ∀ x11 : Int32, x11 = (r10 * r7) → (ob M9 a0 3 ∧ V_X3_isRight (kI (fun r14 M13 => ((r14 = 0 → V_X3_countIn_62 K  M13 a0 a2 r4 r7 x11) ∧ (¬ r14 = 0 → (ob M13 a0 3 ∧ V_X3_timesBefore (kI (fun r17 M16 => ∀ x18 : Int32, x18 = (x11 - r17) → V_X3_countIn_62 K  M16 a0 a2 r4 r7 x18) (fun _ _ => False)) M13 a0 (a1 - (r2 * (1440 : Int32))))))) (fun _ _ => False)) M9 a0 r2)) (fun _ _ => False)) M6 a0 r2 r4)) (fun _ _ => False)) M3 a0 (1440 : Int32))) (fun _ _ => False)) M1 a2 (1440 : Int32)) (fun _ _ => False)) M a1 (1440 : Int32)
set_option maxRecDepth 100000 in
set_option maxHeartbeats 4000000 in
theorem x_X3_countIn {G : Gx} {K : Rs → Mm → Prop} {M : Mm} {a0 : Nat} {a1 : Int32} {a2 : Int32} (h : V_X3_countIn K M a0 a1 a2) : MC G mi_X3_countIn [.ref a0, .int a1, .int a2] M K := by
  unfold V_X3_countIn at h
  refine mc_of rfl (by decide +kernel) dc_X3_countIn (Nat.le_of_ble_eq_true rfl) 4 (Nat.le_of_ble_eq_true rfl) ?_
  show E G mi_X3_countIn K M 0 0 0 [some (.ref a0), some (.int a1), some (.int a2), none, none, none, none] []
  refine e_blk 2 0 _ _ (pc' := 4) (L' := [some (.ref a0), some (.int a1), some (.int a2), none, none, none, none]) (st' := [.int (1440 : Int32), .int a1]) rfl ?_
  refine e_callS (As := [.int a1, .int (1440 : Int32)]) (rest := []) rfl (x_J9_floorDiv_7cf53 h) rfl (aw (i := 836) (by decide +kernel) rfl) ws_J9_floorDiv_7cf53 wi_J9_floorDiv_7cf53 wc_J9_floorDiv_7cf53 (show cok mi_X3_countIn mi_J9_floorDiv_7cf53 0 0 2 = true by decide +kernel) (Nat.le_of_ble_eq_true rfl) (fun v9 M1 hq => ?_) (fun X M9 hq => False.elim hq)
  obtain ⟨r2, rfl, h⟩ := kI_l hq
  refine e_blk 3 7 _ _ (pc' := 12) (L' := [some (.ref a0), some (.int a1), some (.int a2), some (.int r2), none, none, none]) (st' := [.int (1440 : Int32), .int a2]) rfl ?_
  refine e_callS (As := [.int a2, .int (1440 : Int32)]) (rest := []) rfl (x_J9_floorDiv_7cf53 h) rfl (aw (i := 836) (by decide +kernel) rfl) ws_J9_floorDiv_7cf53 wi_J9_floorDiv_7cf53 wc_J9_floorDiv_7cf53 (show cok mi_X3_countIn mi_J9_floorDiv_7cf53 0 0 2 = true by decide +kernel) (Nat.le_of_ble_eq_true rfl) (fun v9 M3 hq => ?_) (fun X M9 hq => False.elim hq)
  obtain ⟨r4, rfl, h⟩ := kI_l hq
  refine e_blk 3 15 _ _ (pc' := 21) (L' := [some (.ref a0), some (.int a1), some (.int a2), some (.int r2), some (.int r4), none, none]) (st' := [.int (1440 : Int32), .ref a0]) rfl ?_
  obtain ⟨ho5, h⟩ := h
  refine e_callV (As := [.int (1440 : Int32)]) (rest := []) (ci := 3) rfl (x_X3_timesBefore h) ho5 rfl rfl rfl (aw (i := 934) (by decide +kernel) rfl) wn_X3_timesBefore wv_X3_timesBefore wi_X3_timesBefore wc_X3_timesBefore (show cok mi_X3_countIn mi_X3_timesBefore 0 0 1 = true by decide +kernel) (Nat.le_of_ble_eq_true rfl) (fun v9 M6 hq => ?_) (fun X M9 hq => False.elim hq)
  obtain ⟨r7, rfl, h⟩ := kI_l hq
  refine e_blk 4 24 _ _ (pc' := 30) (L' := [some (.ref a0), some (.int a1), some (.int a2), some (.int r2), some (.int r4), some (.int r7), none]) (st' := [.int r4, .int r2, .ref a0]) rfl ?_
  obtain ⟨ho8, h⟩ := h
  refine e_callV (As := [.int r2, .int r4]) (rest := []) (ci := 3) rfl (x_X3_rightDaysIn h) ho8 rfl rfl rfl (aw (i := 939) (by decide +kernel) rfl) wn_X3_rightDaysIn wv_X3_rightDaysIn wi_X3_rightDaysIn wc_X3_rightDaysIn (show cok mi_X3_countIn mi_X3_rightDaysIn 0 0 2 = true by decide +kernel) (Nat.le_of_ble_eq_true rfl) (fun v9 M9 hq => ?_) (fun X M9 hq => False.elim hq)
  obtain ⟨r10, rfl, h⟩ := kI_l hq
  refine e_blk 5 33 _ _ (pc' := 40) (L' := [some (.ref a0), some (.int a1), some (.int a2), some (.int r2), some (.int r4), some (.int r7), some (.int (r10 * r7))]) (st' := [.int r2, .ref a0]) rfl ?_
  generalize hx_x11 : ((r10 * r7) : Int32) = x11
  replace h := h x11 hx_x11.symm
  obtain ⟨ho12, h⟩ := h
  refine e_callV (As := [.int r2]) (rest := []) (ci := 3) rfl (x_X3_isRight h) ho12 rfl rfl rfl (aw (i := 837) (by decide +kernel) rfl) wn_X3_isRight wv_X3_isRight wi_X3_isRight wc_X3_isRight (show cok mi_X3_countIn mi_X3_isRight 0 0 1 = true by decide +kernel) (Nat.le_of_ble_eq_true rfl) (fun v9 M13 hq => ?_) (fun X M9 hq => False.elim hq)
  obtain ⟨r14, rfl, h⟩ := kI_l hq
  refine e_if_eq 62 rfl rfl (fun hc => ?_) (fun hc => ?_)
  · replace h := h.1 hc
    refine e_drp [true, false, true, false, true, true, true] (L' := [some (.ref a0), none, some (.int a2), none, some (.int r4), some (.int r7), some (.int x11)]) rfl ?_
    exact x_X3_countIn_62  h
  · replace h := h.2 hc
    refine e_blk 7 46 _ _ (pc' := 56) (L' := [some (.ref a0), some (.int a1), some (.int a2), some (.int r2), some (.int r4), some (.int r7), some (.int x11)]) (st' := [.int (a1 - (r2 * (1440 : Int32))), .ref a0, .int x11]) rfl ?_
    obtain ⟨ho15, h⟩ := h
    refine e_callV (As := [.int (a1 - (r2 * (1440 : Int32)))]) (rest := [.int x11]) (ci := 3) rfl (x_X3_timesBefore h) ho15 rfl rfl rfl (aw (i := 934) (by decide +kernel) rfl) wn_X3_timesBefore wv_X3_timesBefore wi_X3_timesBefore wc_X3_timesBefore (show cok mi_X3_countIn mi_X3_timesBefore 0 0 1 = true by decide +kernel) (Nat.le_of_ble_eq_true rfl) (fun v9 M16 hq => ?_) (fun X M9 hq => False.elim hq)
    obtain ⟨r17, rfl, h⟩ := kI_l hq
    refine e_blk 2 59 _ _ (pc' := 62) (L' := [some (.ref a0), some (.int a1), some (.int a2), some (.int r2), some (.int r4), some (.int r7), some (.int (x11 - r17))]) (st' := []) rfl ?_
    generalize hx_x18 : ((x11 - r17) : Int32) = x18
    replace h := h x18 hx_x18.symm
    refine e_drp [true, false, true, false, true, true, true] (L' := [some (.ref a0), none, some (.int a2), none, some (.int r4), some (.int r7), some (.int x18)]) rfl ?_
    exact x_X3_countIn_62  h
def V_X3_clear_22 (K : Rs → Mm → Prop)  : Nat → Mm → Nat → Int32 → Prop
  | 0, _, _, _ => False
  | z + 1, M, l0, l1 => (((5 : Int32) ≤ l1 → (ob M l0 3 ∧ ∀ M2, M2 = sI M l0 3 (0 : Int32) → ∀ M3, M3 = sI M2 l0 4 (0 : Int32) → ∀ M4, M4 = sI M3 l0 5 (0 : Int32) → ∀ M5, M5 = sJ M4 l0 6 (0 : Int64) → ∀ M6, M6 = sI M5 l0 7 (0 : Int32) → ∀ M7, M7 = sJ M6 l0 8 (0 : Int64) → ∀ M8, M8 = sJ M7 l0 9 (0 : Int64) → ∀ M9, M9 = sJ M8 l0 10 (0 : Int64) → ∀ M10, M10 = sI M9 l0 11 (-1000000000 : Int32) → ∀ M11, M11 = sI M10 l0 12 (0 : Int32) → K (.inl none) M11)) ∧ (¬ (5 : Int32) ≤ l1 → (ob M l0 3 ∧ ∃ b13, mP M l0 2 = some b13 ∧ (ob M b13 10 ∧ (vp_in l1 (mN M b13) ∧ ∀ M16, M16 = sJ M b13 (l1).toNatClampNeg (0 : Int64) → ∀ x17 : Int32, x17 = (l1 + (1 : Int32)) → V_X3_clear_22 K  z M16 l0 x17)))))
set_option maxRecDepth 100000 in
set_option maxHeartbeats 4000000 in
theorem x_X3_clear_22 {G : Gx} {K : Rs → Mm → Prop}  : ∀ (z : Nat) (M : Mm) (l0 : Nat) (l1 : Int32), V_X3_clear_22 K  z M l0 l1 → E G mi_X3_clear K M 0 0 22 [some (.ref l0), some (.int l1)] []
  | 0, M, l0, l1, h => False.elim h
  | z + 1, M, l0, l1, h => by
    unfold V_X3_clear_22 at h
    refine e_blk 2 22 _ _ (pc' := 24) (L' := [some (.ref l0), some (.int l1)]) (st' := [.int (5 : Int32), .int l1]) rfl ?_
    refine e_icmp_ge 40 rfl rfl (fun hc => ?_) (fun hc => ?_)
    · replace h := h.1 hc
      refine e_blk 2 40 _ _ (pc' := 42) (L' := [some (.ref l0), some (.int l1)]) (st' := [.int (0 : Int32), .ref l0]) rfl ?_
      obtain ⟨ho1, h⟩ := h
      refine e_putZ 3 3 rfl rfl (by decide) (aw (i := 144) (by decide +kernel) rfl) rfl ho1 rfl (by decide) ?_
      generalize hM2 : sI M l0 3 (0 : Int32) = M2
      replace h := h M2 hM2.symm
      replace ho1 : ob M2 l0 3 := hM2 ▸ ob_sI ho1
      refine e_blk 2 45 _ _ (pc' := 47) (L' := [some (.ref l0), some (.int l1)]) (st' := [.int (0 : Int32), .ref l0]) rfl ?_
      refine e_putZ 3 4 rfl rfl (by decide) (aw (i := 145) (by decide +kernel) rfl) rfl ho1 rfl (by decide) ?_
      generalize hM3 : sI M2 l0 4 (0 : Int32) = M3
      replace h := h M3 hM3.symm
      replace ho1 : ob M3 l0 3 := hM3 ▸ ob_sI ho1
      refine e_blk 2 50 _ _ (pc' := 52) (L' := [some (.ref l0), some (.int l1)]) (st' := [.int (0 : Int32), .ref l0]) rfl ?_
      refine e_putZ 3 5 rfl rfl (by decide) (aw (i := 148) (by decide +kernel) rfl) rfl ho1 rfl (by decide) ?_
      generalize hM4 : sI M3 l0 5 (0 : Int32) = M4
      replace h := h M4 hM4.symm
      replace ho1 : ob M4 l0 3 := hM4 ▸ ob_sI ho1
      refine e_blk 2 55 _ _ (pc' := 57) (L' := [some (.ref l0), some (.int l1)]) (st' := [.long (0 : Int64), .ref l0]) rfl ?_
      refine e_putJ 3 6 rfl rfl (by decide) (aw (i := 151) (by decide +kernel) rfl) rfl ho1 rfl ?_
      generalize hM5 : sJ M4 l0 6 (0 : Int64) = M5
      replace h := h M5 hM5.symm
      replace ho1 : ob M5 l0 3 := hM5 ▸ ob_sJ ho1
      refine e_blk 2 60 _ _ (pc' := 62) (L' := [some (.ref l0), some (.int l1)]) (st' := [.int (0 : Int32), .ref l0]) rfl ?_
      refine e_putZ 3 7 rfl rfl (by decide) (aw (i := 153) (by decide +kernel) rfl) rfl ho1 rfl (by decide) ?_
      generalize hM6 : sI M5 l0 7 (0 : Int32) = M6
      replace h := h M6 hM6.symm
      replace ho1 : ob M6 l0 3 := hM6 ▸ ob_sI ho1
      refine e_blk 2 65 _ _ (pc' := 67) (L' := [some (.ref l0), some (.int l1)]) (st' := [.long (0 : Int64), .ref l0]) rfl ?_
      refine e_putJ 3 8 rfl rfl (by decide) (aw (i := 155) (by decide +kernel) rfl) rfl ho1 rfl ?_
      generalize hM7 : sJ M6 l0 8 (0 : Int64) = M7
      replace h := h M7 hM7.symm
      replace ho1 : ob M7 l0 3 := hM7 ▸ ob_sJ ho1
      refine e_blk 2 70 _ _ (pc' := 72) (L' := [some (.ref l0), some (.int l1)]) (st' := [.long (0 : Int64), .ref l0]) rfl ?_
      refine e_putJ 3 9 rfl rfl (by decide) (aw (i := 157) (by decide +kernel) rfl) rfl ho1 rfl ?_
      generalize hM8 : sJ M7 l0 9 (0 : Int64) = M8
      replace h := h M8 hM8.symm
      replace ho1 : ob M8 l0 3 := hM8 ▸ ob_sJ ho1
      refine e_blk 2 75 _ _ (pc' := 77) (L' := [some (.ref l0), some (.int l1)]) (st' := [.long (0 : Int64), .ref l0]) rfl ?_
      refine e_putJ 3 10 rfl rfl (by decide) (aw (i := 159) (by decide +kernel) rfl) rfl ho1 rfl ?_
      generalize hM9 : sJ M8 l0 10 (0 : Int64) = M9
      replace h := h M9 hM9.symm
      replace ho1 : ob M9 l0 3 := hM9 ▸ ob_sJ ho1
      refine e_blk 1 80 _ _ (pc' := 81) (L' := [some (.ref l0), some (.int l1)]) (st' := [.ref l0]) rfl ?_
      refine e_ldc (-1000000000) rfl (aw (i := 608) (by decide +kernel) rfl) ?_
      refine e_putI 3 11 rfl rfl (by decide) (aw (i := 161) (by decide +kernel) rfl) rfl ho1 rfl ?_
      generalize hM10 : sI M9 l0 11 (-1000000000 : Int32) = M10
      replace h := h M10 hM10.symm
      replace ho1 : ob M10 l0 3 := hM10 ▸ ob_sI ho1
      refine e_blk 2 86 _ _ (pc' := 88) (L' := [some (.ref l0), some (.int l1)]) (st' := [.int (0 : Int32), .ref l0]) rfl ?_
      refine e_putZ 3 12 rfl rfl (by decide) (aw (i := 162) (by decide +kernel) rfl) rfl ho1 rfl (by decide) ?_
      generalize hM11 : sI M10 l0 12 (0 : Int32) = M11
      replace h := h M11 hM11.symm
      replace ho1 : ob M11 l0 3 := hM11 ▸ ob_sI ho1
      exact e_ret rfl rfl (by decide) (by decide) h
    · replace h := h.2 hc
      refine e_blk 1 27 _ _ (pc' := 28) (L' := [some (.ref l0), some (.int l1)]) (st' := [.ref l0]) rfl ?_
      obtain ⟨ho12, h⟩ := h
      obtain ⟨b13, hbb13, h⟩ := h
      refine e_getR 3 2 rfl rfl (by decide) (aw (i := 143) (by decide +kernel) rfl) ho12 rfl hbb13 ?_
      refine e_blk 2 31 _ _ (pc' := 33) (L' := [some (.ref l0), some (.int l1)]) (st' := [.long (0 : Int64), .int l1, .ref b13]) rfl ?_
      obtain ⟨ho14, h⟩ := h
      obtain ⟨hi15, h⟩ := h
      refine e_last rfl ho14 hi15 ?_
      generalize hM16 : sJ M b13 (l1).toNatClampNeg (0 : Int64) = M16
      replace h := h M16 hM16.symm
      replace ho12 : ob M16 l0 3 := hM16 ▸ ob_sJ ho12
      replace ho14 : ob M16 b13 10 := hM16 ▸ ob_sJ ho14
      refine e_blk 2 34 _ _ (pc' := 22) (L' := [some (.ref l0), some (.int (l1 + (1 : Int32)))]) (st' := []) rfl ?_
      generalize hx_x17 : ((l1 + (1 : Int32)) : Int32) = x17
      replace h := h x17 hx_x17.symm
      refine e_drp [true, true] (L' := [some (.ref l0), some (.int x17)]) rfl ?_
      exact x_X3_clear_22  z _ _ _ h
def V_X3_clear_2 (K : Rs → Mm → Prop)  : Nat → Mm → Nat → Int32 → Prop
  | 0, _, _, _ => False
  | z + 1, M, l0, l1 => (((5 : Int32) ≤ l1 → ∃ y, V_X3_clear_22 K  y M l0 (0 : Int32)) ∧ (¬ (5 : Int32) ≤ l1 → (ob M l0 3 ∧ ∃ b2, mP M l0 1 = some b2 ∧ (ob M b2 10 ∧ (vp_in l1 (mN M b2) ∧ ∀ M5, M5 = sJ M b2 (l1).toNatClampNeg (0 : Int64) → ∀ x6 : Int32, x6 = (l1 + (1 : Int32)) → V_X3_clear_2 K  z M5 l0 x6)))))
set_option maxRecDepth 100000 in
set_option maxHeartbeats 4000000 in
theorem x_X3_clear_2 {G : Gx} {K : Rs → Mm → Prop}  : ∀ (z : Nat) (M : Mm) (l0 : Nat) (l1 : Int32), V_X3_clear_2 K  z M l0 l1 → E G mi_X3_clear K M 0 0 2 [some (.ref l0), some (.int l1)] []
  | 0, M, l0, l1, h => False.elim h
  | z + 1, M, l0, l1, h => by
    unfold V_X3_clear_2 at h
    refine e_blk 2 2 _ _ (pc' := 4) (L' := [some (.ref l0), some (.int l1)]) (st' := [.int (5 : Int32), .int l1]) rfl ?_
    refine e_icmp_ge 20 rfl rfl (fun hc => ?_) (fun hc => ?_)
    · replace h := h.1 hc
      refine e_blk 2 20 _ _ (pc' := 22) (L' := [some (.ref l0), some (.int (0 : Int32))]) (st' := []) rfl ?_
      refine e_drp [true, true] (L' := [some (.ref l0), some (.int (0 : Int32))]) rfl ?_
      obtain ⟨y, h⟩ := h
      exact x_X3_clear_22  y _ _ _ h
    · replace h := h.2 hc
      refine e_blk 1 7 _ _ (pc' := 8) (L' := [some (.ref l0), some (.int l1)]) (st' := [.ref l0]) rfl ?_
      obtain ⟨ho1, h⟩ := h
      obtain ⟨b2, hbb2, h⟩ := h
      refine e_getR 3 1 rfl rfl (by decide) (aw (i := 141) (by decide +kernel) rfl) ho1 rfl hbb2 ?_
      refine e_blk 2 11 _ _ (pc' := 13) (L' := [some (.ref l0), some (.int l1)]) (st' := [.long (0 : Int64), .int l1, .ref b2]) rfl ?_
      obtain ⟨ho3, h⟩ := h
      obtain ⟨hi4, h⟩ := h
      refine e_last rfl ho3 hi4 ?_
      generalize hM5 : sJ M b2 (l1).toNatClampNeg (0 : Int64) = M5
      replace h := h M5 hM5.symm
      replace ho1 : ob M5 l0 3 := hM5 ▸ ob_sJ ho1
      replace ho3 : ob M5 b2 10 := hM5 ▸ ob_sJ ho3
      refine e_blk 2 14 _ _ (pc' := 2) (L' := [some (.ref l0), some (.int (l1 + (1 : Int32)))]) (st' := []) rfl ?_
      generalize hx_x6 : ((l1 + (1 : Int32)) : Int32) = x6
      replace h := h x6 hx_x6.symm
      refine e_drp [true, true] (L' := [some (.ref l0), some (.int x6)]) rfl ?_
      exact x_X3_clear_2  z _ _ _ h
def V_X3_clear (K : Rs → Mm → Prop) (M : Mm) (a0 : Nat) : Prop := ∃ y, V_X3_clear_2 K  y M a0 (0 : Int32)
set_option maxRecDepth 100000 in
set_option maxHeartbeats 4000000 in
theorem x_X3_clear {G : Gx} {K : Rs → Mm → Prop} {M : Mm} {a0 : Nat} (h : V_X3_clear K M a0) : MC G mi_X3_clear [.ref a0] M K := by
  unfold V_X3_clear at h
  refine mc_of rfl (by decide +kernel) dc_X3_clear (Nat.le_of_ble_eq_true rfl) 1 (Nat.le_of_ble_eq_true rfl) ?_
  show E G mi_X3_clear K M 0 0 0 [some (.ref a0), none] []
  refine e_blk 2 0 _ _ (pc' := 2) (L' := [some (.ref a0), some (.int (0 : Int32))]) (st' := []) rfl ?_
  refine e_drp [true, true] (L' := [some (.ref a0), some (.int (0 : Int32))]) rfl ?_
  obtain ⟨y, h⟩ := h
  exact x_X3_clear_2  y _ _ _ h
def V_X3_beginField_36 (K : Rs → Mm → Prop)  (M : Mm)  : Prop := K (.inl none) M
set_option maxRecDepth 100000 in
set_option maxHeartbeats 4000000 in
theorem x_X3_beginField_36 {G : Gx} {K : Rs → Mm → Prop}  {M : Mm}  (h : V_X3_beginField_36 K  M ) : E G mi_X3_beginField K M 0 0 36 [none, none, none] [] := by
  unfold V_X3_beginField_36 at h
  exact e_ret rfl rfl (by decide) (by decide) h
def V_X3_beginField (K : Rs → Mm → Prop) (M : Mm) (a0 : Nat) (a1 : Int32) (a2 : Int32) : Prop := ((¬ a1 = (2 : Int32) → ((¬ a1 = (4 : Int32) → ((¬ a1 = (5 : Int32) → V_X3_beginField_36 K  M ) ∧ (a1 = (5 : Int32) → (ob M a0 3 ∧ ∀ M2, M2 = sI M a0 3 (1 : Int32) → V_X3_beginField_36 K  M2 )))) ∧ (a1 = (4 : Int32) → (ob M a0 3 ∧ ((a2 = 0 ∨ a2 = 1) ∧ ∀ M5, M5 = sI M a0 5 a2 → V_X3_beginField_36 K  M5 ))))) ∧ (a1 = (2 : Int32) → (ob M a0 3 ∧ ((a2 = 0 ∨ a2 = 1) ∧ ∀ M8, M8 = sI M a0 4 a2 → V_X3_beginField_36 K  M8 ))))
set_option maxRecDepth 100000 in
set_option maxHeartbeats 4000000 in
theorem x_X3_beginField {G : Gx} {K : Rs → Mm → Prop} {M : Mm} {a0 : Nat} {a1 : Int32} {a2 : Int32} (h : V_X3_beginField K M a0 a1 a2) : MC G mi_X3_beginField [.ref a0, .int a1, .int a2] M K := by
  unfold V_X3_beginField at h
  refine mc_of rfl (by decide +kernel) dc_X3_beginField (Nat.le_of_ble_eq_true rfl) 0 (Nat.le_of_ble_eq_true rfl) ?_
  show E G mi_X3_beginField K M 0 0 0 [some (.ref a0), some (.int a1), some (.int a2)] []
  refine e_blk 2 0 _ _ (pc' := 2) (L' := [some (.ref a0), some (.int a1), some (.int a2)]) (st' := [.int (2 : Int32), .int a1]) rfl ?_
  refine e_icmp_ne 13 rfl rfl (fun hc => ?_) (fun hc => ?_)
  · replace h := h.1 hc
    refine e_blk 2 13 _ _ (pc' := 15) (L' := [some (.ref a0), some (.int a1), some (.int a2)]) (st' := [.int (4 : Int32), .int a1]) rfl ?_
    refine e_icmp_ne 26 rfl rfl (fun hc => ?_) (fun hc => ?_)
    · replace h := h.1 hc
      refine e_blk 2 26 _ _ (pc' := 28) (L' := [some (.ref a0), some (.int a1), some (.int a2)]) (st' := [.int (5 : Int32), .int a1]) rfl ?_
      refine e_icmp_ne 36 rfl rfl (fun hc => ?_) (fun hc => ?_)
      · replace h := h.1 hc
        refine e_drp [false, false, false] (L' := [none, none, none]) rfl ?_
        exact x_X3_beginField_36  h
      · replace h := h.2 hc
        refine e_blk 2 31 _ _ (pc' := 33) (L' := [some (.ref a0), some (.int a1), some (.int a2)]) (st' := [.int (1 : Int32), .ref a0]) rfl ?_
        obtain ⟨ho1, h⟩ := h
        refine e_putZ 3 3 rfl rfl (by decide) (aw (i := 144) (by decide +kernel) rfl) rfl ho1 rfl (by decide) ?_
        generalize hM2 : sI M a0 3 (1 : Int32) = M2
        replace h := h M2 hM2.symm
        replace ho1 : ob M2 a0 3 := hM2 ▸ ob_sI ho1
        refine e_drp [false, false, false] (L' := [none, none, none]) rfl ?_
        exact x_X3_beginField_36  h
    · replace h := h.2 hc
      refine e_blk 2 18 _ _ (pc' := 20) (L' := [some (.ref a0), some (.int a1), some (.int a2)]) (st' := [.int a2, .ref a0]) rfl ?_
      obtain ⟨ho3, h⟩ := h
      obtain ⟨hz4, h⟩ := h
      refine e_putZ 3 5 rfl rfl (by decide) (aw (i := 148) (by decide +kernel) rfl) rfl ho3 rfl hz4 ?_
      generalize hM5 : sI M a0 5 a2 = M5
      replace h := h M5 hM5.symm
      replace ho3 : ob M5 a0 3 := hM5 ▸ ob_sI ho3
      refine e_blk 1 23 _ _ (pc' := 36) (L' := [some (.ref a0), some (.int a1), some (.int a2)]) (st' := []) rfl ?_
      refine e_drp [false, false, false] (L' := [none, none, none]) rfl ?_
      exact x_X3_beginField_36  h
  · replace h := h.2 hc
    refine e_blk 2 5 _ _ (pc' := 7) (L' := [some (.ref a0), some (.int a1), some (.int a2)]) (st' := [.int a2, .ref a0]) rfl ?_
    obtain ⟨ho6, h⟩ := h
    obtain ⟨hz7, h⟩ := h
    refine e_putZ 3 4 rfl rfl (by decide) (aw (i := 145) (by decide +kernel) rfl) rfl ho6 rfl hz7 ?_
    generalize hM8 : sI M a0 4 a2 = M8
    replace h := h M8 hM8.symm
    replace ho6 : ob M8 a0 3 := hM8 ▸ ob_sI ho6
    refine e_blk 1 10 _ _ (pc' := 36) (L' := [some (.ref a0), some (.int a1), some (.int a2)]) (st' := []) rfl ?_
    refine e_drp [false, false, false] (L' := [none, none, none]) rfl ?_
    exact x_X3_beginField_36  h
def V_X3_add_111 (K : Rs → Mm → Prop) (B19 : Mm → Nat → Int32 → Int32 → Int32 → Int32 → Prop) (M : Mm) (l0 : Nat) (l1 : Int32) (l3 : Int32) (l4 : Int32) (l5 : Int32) : Prop := ∀ x1 : Int32, x1 = (l5 + l4) → B19 M l0 l1 l3 l4 x1
set_option maxRecDepth 100000 in
set_option maxHeartbeats 4000000 in
theorem x_X3_add_111 {G : Gx} {K : Rs → Mm → Prop} {B19 : Mm → Nat → Int32 → Int32 → Int32 → Int32 → Prop} (hB19 : ∀ M l0 l1 l3 l4 l5, B19 M l0 l1 l3 l4 l5 → E G mi_X3_add K M 0 0 19 [some (.ref l0), some (.int l1), none, some (.int l3), some (.int l4), some (.int l5), none] []) {M : Mm} {l0 : Nat} {l1 : Int32} {l3 : Int32} {l4 : Int32} {l5 : Int32} (h : V_X3_add_111 K B19 M l0 l1 l3 l4 l5) : E G mi_X3_add K M 0 0 111 [some (.ref l0), some (.int l1), none, some (.int l3), some (.int l4), some (.int l5), none] [] := by
  unfold V_X3_add_111 at h
  refine e_blk 5 111 _ _ (pc' := 19) (L' := [some (.ref l0), some (.int l1), none, some (.int l3), some (.int l4), some (.int (l5 + l4)), none]) (st' := []) rfl ?_
  generalize hx_x1 : ((l5 + l4) : Int32) = x1
  replace h := h x1 hx_x1.symm
  refine e_drp [true, true, false, true, true, true, false] (L' := [some (.ref l0), some (.int l1), none, some (.int l3), some (.int l4), some (.int x1), none]) rfl ?_
  exact hB19 _ _ _ _ _ _ h
def V_X3_add_19 (K : Rs → Mm → Prop)  : Nat → Mm → Nat → Int32 → Int32 → Int32 → Int32 → Prop
  | 0, _, _, _, _, _, _ => False
  | z + 1, M, l0, l1, l3, l4, l5 => ((l3 < l5 → K (.inl none) M) ∧ (¬ l3 < l5 → ∀ x1 : Int32, x1 = (l5 - (1900 : Int32)) → ((¬ l1 = (4 : Int32) → ((l1 = (5 : Int32) → ((x1 < 0 → V_X3_add_111 K (fun M l0 l1 l3 l4 l5 => V_X3_add_19 K  z M l0 l1 l3 l4 l5) M l0 l1 l3 l4 l5) ∧ (¬ x1 < 0 → (((299 : Int32) < x1 → V_X3_add_111 K (fun M l0 l1 l3 l4 l5 => V_X3_add_19 K  z M l0 l1 l3 l4 l5) M l0 l1 l3 l4 l5) ∧ (¬ (299 : Int32) < x1 → (ob M l0 3 ∧ ∃ b3, mP M l0 2 = some b3 ∧ (ob M b3 10 ∧ (vp_in (x1 / (64 : Int32)) (mN M b3) ∧ (vp_in (x1 / (64 : Int32)) (mN M b3) ∧ ∀ M7, M7 = sJ M b3 ((x1 / (64 : Int32))).toNatClampNeg ((mJ M b3 ((x1 / (64 : Int32))).toNatClampNeg) ||| ((1 : Int64) <<< (((x1 - x1 / (64 : Int32) * (64 : Int32))).toInt64 &&& 63))) → V_X3_add_111 K (fun M l0 l1 l3 l4 l5 => V_X3_add_19 K  z M l0 l1 l3 l4 l5) M7 l0 l1 l3 l4 l5))))))))) ∧ (¬ l1 = (5 : Int32) → (ob M l0 3 ∧ ∃ b9, mP M l0 1 = some b9 ∧ (ob M b9 10 ∧ (vp_in l1 (mN M b9) ∧ (vp_in l1 (mN M b9) ∧ ∀ M13, M13 = sJ M b9 (l1).toNatClampNeg ((mJ M b9 (l1).toNatClampNeg) ||| ((1 : Int64) <<< ((l5).toInt64 &&& 63))) → V_X3_add_111 K (fun M l0 l1 l3 l4 l5 => V_X3_add_19 K  z M l0 l1 l3 l4 l5) M13 l0 l1 l3 l4 l5))))))) ∧ (l1 = (4 : Int32) → (ob M l0 3 ∧ ∃ b15, mP M l0 1 = some b15 ∧ (ob M b15 10 ∧ (vp_in l1 (mN M b15) ∧ (vp_in l1 (mN M b15) ∧ ∀ M19, M19 = sJ M b15 (l1).toNatClampNeg ((mJ M b15 (l1).toNatClampNeg) ||| ((1 : Int64) <<< (((l5 - l5 / (7 : Int32) * (7 : Int32))).toInt64 &&& 63))) → V_X3_add_111 K (fun M l0 l1 l3 l4 l5 => V_X3_add_19 K  z M l0 l1 l3 l4 l5) M19 l0 l1 l3 l4 l5))))))))
set_option maxRecDepth 100000 in
set_option maxHeartbeats 4000000 in
theorem x_X3_add_19 {G : Gx} {K : Rs → Mm → Prop}  : ∀ (z : Nat) (M : Mm) (l0 : Nat) (l1 : Int32) (l3 : Int32) (l4 : Int32) (l5 : Int32), V_X3_add_19 K  z M l0 l1 l3 l4 l5 → E G mi_X3_add K M 0 0 19 [some (.ref l0), some (.int l1), none, some (.int l3), some (.int l4), some (.int l5), none] []
  | 0, M, l0, l1, l3, l4, l5, h => False.elim h
  | z + 1, M, l0, l1, l3, l4, l5, h => by
    unfold V_X3_add_19 at h
    refine e_blk 2 19 _ _ (pc' := 22) (L' := [some (.ref l0), some (.int l1), none, some (.int l3), some (.int l4), some (.int l5), none]) (st' := [.int l3, .int l5]) rfl ?_
    refine e_icmp_gt 121 rfl rfl (fun hc => ?_) (fun hc => ?_)
    · replace h := h.1 hc
      exact e_ret rfl rfl (by decide) (by decide) h
    · replace h := h.2 hc
      refine e_blk 6 25 _ _ (pc' := 35) (L' := [some (.ref l0), some (.int l1), none, some (.int l3), some (.int l4), some (.int l5), some (.int (l5 - (1900 : Int32)))]) (st' := [.int (4 : Int32), .int l1]) rfl ?_
      generalize hx_x1 : ((l5 - (1900 : Int32)) : Int32) = x1
      replace h := h x1 hx_x1.symm
      refine e_icmp_ne 57 rfl rfl (fun hc => ?_) (fun hc => ?_)
      · replace h := h.1 hc
        refine e_blk 2 57 _ _ (pc' := 59) (L' := [some (.ref l0), some (.int l1), none, some (.int l3), some (.int l4), some (.int l5), some (.int x1)]) (st' := [.int (5 : Int32), .int l1]) rfl ?_
        refine e_icmp_eq 78 rfl rfl (fun hc => ?_) (fun hc => ?_)
        · replace h := h.1 hc
          refine e_blk 1 78 _ _ (pc' := 80) (L' := [some (.ref l0), some (.int l1), none, some (.int l3), some (.int l4), some (.int l5), some (.int x1)]) (st' := [.int x1]) rfl ?_
          refine e_if_lt 111 rfl rfl (fun hc => ?_) (fun hc => ?_)
          · replace h := h.1 hc
            refine e_drp [true, true, false, true, true, true, false] (L' := [some (.ref l0), some (.int l1), none, some (.int l3), some (.int l4), some (.int l5), none]) rfl ?_
            exact x_X3_add_111 (fun M l0 l1 l3 l4 l5 h => x_X3_add_19  z M l0 l1 l3 l4 l5 h) h
          · replace h := h.2 hc
            refine e_blk 2 83 _ _ (pc' := 88) (L' := [some (.ref l0), some (.int l1), none, some (.int l3), some (.int l4), some (.int l5), some (.int x1)]) (st' := [.int (299 : Int32), .int x1]) rfl ?_
            refine e_icmp_gt 111 rfl rfl (fun hc => ?_) (fun hc => ?_)
            · replace h := h.1 hc
              refine e_drp [true, true, false, true, true, true, false] (L' := [some (.ref l0), some (.int l1), none, some (.int l3), some (.int l4), some (.int l5), none]) rfl ?_
              exact x_X3_add_111 (fun M l0 l1 l3 l4 l5 h => x_X3_add_19  z M l0 l1 l3 l4 l5 h) h
            · replace h := h.2 hc
              refine e_blk 1 91 _ _ (pc' := 92) (L' := [some (.ref l0), some (.int l1), none, some (.int l3), some (.int l4), some (.int l5), some (.int x1)]) (st' := [.ref l0]) rfl ?_
              obtain ⟨ho2, h⟩ := h
              obtain ⟨b3, hbb3, h⟩ := h
              refine e_getR 3 2 rfl rfl (by decide) (aw (i := 143) (by decide +kernel) rfl) ho2 rfl hbb3 ?_
              refine e_blk 2 95 _ _ (pc' := 99) (L' := [some (.ref l0), some (.int l1), none, some (.int l3), some (.int l4), some (.int l5), some (.int x1)]) (st' := [.int (64 : Int32), .int x1, .ref b3]) rfl ?_
              refine e_idiv rfl (by decide) ?_
              refine e_blk 1 100 _ _ (pc' := 101) (L' := [some (.ref l0), some (.int l1), none, some (.int l3), some (.int l4), some (.int l5), some (.int x1)]) (st' := [.int (x1 / (64 : Int32)), .ref b3, .int (x1 / (64 : Int32)), .ref b3]) rfl ?_
              obtain ⟨ho4, h⟩ := h
              obtain ⟨hi5, h⟩ := h
              refine e_lald rfl ho4 hi5 ?_
              refine e_blk 3 102 _ _ (pc' := 107) (L' := [some (.ref l0), some (.int l1), none, some (.int l3), some (.int l4), some (.int l5), some (.int x1)]) (st' := [.int (64 : Int32), .int x1, .long (1 : Int64), .long (mJ M b3 ((x1 / (64 : Int32))).toNatClampNeg), .int (x1 / (64 : Int32)), .ref b3]) rfl ?_
              refine e_irem rfl (by decide) ?_
              refine e_blk 2 108 _ _ (pc' := 110) (L' := [some (.ref l0), some (.int l1), none, some (.int l3), some (.int l4), some (.int l5), some (.int x1)]) (st' := [.long ((mJ M b3 ((x1 / (64 : Int32))).toNatClampNeg) ||| ((1 : Int64) <<< (((x1 - x1 / (64 : Int32) * (64 : Int32))).toInt64 &&& 63))), .int (x1 / (64 : Int32)), .ref b3]) rfl ?_
              obtain ⟨hi6, h⟩ := h
              refine e_last rfl ho4 hi6 ?_
              generalize hM7 : sJ M b3 ((x1 / (64 : Int32))).toNatClampNeg ((mJ M b3 ((x1 / (64 : Int32))).toNatClampNeg) ||| ((1 : Int64) <<< (((x1 - x1 / (64 : Int32) * (64 : Int32))).toInt64 &&& 63))) = M7
              replace h := h M7 hM7.symm
              replace ho2 : ob M7 l0 3 := hM7 ▸ ob_sJ ho2
              replace ho4 : ob M7 b3 10 := hM7 ▸ ob_sJ ho4
              refine e_drp [true, true, false, true, true, true, false] (L' := [some (.ref l0), some (.int l1), none, some (.int l3), some (.int l4), some (.int l5), none]) rfl ?_
              exact x_X3_add_111 (fun M l0 l1 l3 l4 l5 h => x_X3_add_19  z M l0 l1 l3 l4 l5 h) h
        · replace h := h.2 hc
          refine e_blk 1 62 _ _ (pc' := 63) (L' := [some (.ref l0), some (.int l1), none, some (.int l3), some (.int l4), some (.int l5), some (.int x1)]) (st' := [.ref l0]) rfl ?_
          obtain ⟨ho8, h⟩ := h
          obtain ⟨b9, hbb9, h⟩ := h
          refine e_getR 3 1 rfl rfl (by decide) (aw (i := 141) (by decide +kernel) rfl) ho8 rfl hbb9 ?_
          refine e_blk 2 66 _ _ (pc' := 68) (L' := [some (.ref l0), some (.int l1), none, some (.int l3), some (.int l4), some (.int l5), some (.int x1)]) (st' := [.int l1, .ref b9, .int l1, .ref b9]) rfl ?_
          obtain ⟨ho10, h⟩ := h
          obtain ⟨hi11, h⟩ := h
          refine e_lald rfl ho10 hi11 ?_
          refine e_blk 4 69 _ _ (pc' := 74) (L' := [some (.ref l0), some (.int l1), none, some (.int l3), some (.int l4), some (.int l5), some (.int x1)]) (st' := [.long ((mJ M b9 (l1).toNatClampNeg) ||| ((1 : Int64) <<< ((l5).toInt64 &&& 63))), .int l1, .ref b9]) rfl ?_
          obtain ⟨hi12, h⟩ := h
          refine e_last rfl ho10 hi12 ?_
          generalize hM13 : sJ M b9 (l1).toNatClampNeg ((mJ M b9 (l1).toNatClampNeg) ||| ((1 : Int64) <<< ((l5).toInt64 &&& 63))) = M13
          replace h := h M13 hM13.symm
          replace ho8 : ob M13 l0 3 := hM13 ▸ ob_sJ ho8
          replace ho10 : ob M13 b9 10 := hM13 ▸ ob_sJ ho10
          refine e_blk 1 75 _ _ (pc' := 111) (L' := [some (.ref l0), some (.int l1), none, some (.int l3), some (.int l4), some (.int l5), some (.int x1)]) (st' := []) rfl ?_
          refine e_drp [true, true, false, true, true, true, false] (L' := [some (.ref l0), some (.int l1), none, some (.int l3), some (.int l4), some (.int l5), none]) rfl ?_
          exact x_X3_add_111 (fun M l0 l1 l3 l4 l5 h => x_X3_add_19  z M l0 l1 l3 l4 l5 h) h
      · replace h := h.2 hc
        refine e_blk 1 38 _ _ (pc' := 39) (L' := [some (.ref l0), some (.int l1), none, some (.int l3), some (.int l4), some (.int l5), some (.int x1)]) (st' := [.ref l0]) rfl ?_
        obtain ⟨ho14, h⟩ := h
        obtain ⟨b15, hbb15, h⟩ := h
        refine e_getR 3 1 rfl rfl (by decide) (aw (i := 141) (by decide +kernel) rfl) ho14 rfl hbb15 ?_
        refine e_blk 2 42 _ _ (pc' := 44) (L' := [some (.ref l0), some (.int l1), none, some (.int l3), some (.int l4), some (.int l5), some (.int x1)]) (st' := [.int l1, .ref b15, .int l1, .ref b15]) rfl ?_
        obtain ⟨ho16, h⟩ := h
        obtain ⟨hi17, h⟩ := h
        refine e_lald rfl ho16 hi17 ?_
        refine e_blk 3 45 _ _ (pc' := 50) (L' := [some (.ref l0), some (.int l1), none, some (.int l3), some (.int l4), some (.int l5), some (.int x1)]) (st' := [.int (7 : Int32), .int l5, .long (1 : Int64), .long (mJ M b15 (l1).toNatClampNeg), .int l1, .ref b15]) rfl ?_
        refine e_irem rfl (by decide) ?_
        refine e_blk 2 51 _ _ (pc' := 53) (L' := [some (.ref l0), some (.int l1), none, some (.int l3), some (.int l4), some (.int l5), some (.int x1)]) (st' := [.long ((mJ M b15 (l1).toNatClampNeg) ||| ((1 : Int64) <<< (((l5 - l5 / (7 : Int32) * (7 : Int32))).toInt64 &&& 63))), .int l1, .ref b15]) rfl ?_
        obtain ⟨hi18, h⟩ := h
        refine e_last rfl ho16 hi18 ?_
        generalize hM19 : sJ M b15 (l1).toNatClampNeg ((mJ M b15 (l1).toNatClampNeg) ||| ((1 : Int64) <<< (((l5 - l5 / (7 : Int32) * (7 : Int32))).toInt64 &&& 63))) = M19
        replace h := h M19 hM19.symm
        replace ho14 : ob M19 l0 3 := hM19 ▸ ob_sJ ho14
        replace ho16 : ob M19 b15 10 := hM19 ▸ ob_sJ ho16
        refine e_blk 1 54 _ _ (pc' := 111) (L' := [some (.ref l0), some (.int l1), none, some (.int l3), some (.int l4), some (.int l5), some (.int x1)]) (st' := []) rfl ?_
        refine e_drp [true, true, false, true, true, true, false] (L' := [some (.ref l0), some (.int l1), none, some (.int l3), some (.int l4), some (.int l5), none]) rfl ?_
        exact x_X3_add_111 (fun M l0 l1 l3 l4 l5 h => x_X3_add_19  z M l0 l1 l3 l4 l5 h) h
def V_X3_add_15 (K : Rs → Mm → Prop)  (M : Mm)  : Prop := K (.inl none) M
set_option maxRecDepth 100000 in
set_option maxHeartbeats 4000000 in
theorem x_X3_add_15 {G : Gx} {K : Rs → Mm → Prop}  {M : Mm}  (h : V_X3_add_15 K  M ) : E G mi_X3_add K M 0 0 15 [none, none, none, none, none, none, none] [] := by
  unfold V_X3_add_15 at h
  exact e_ret rfl rfl (by decide) (by decide) h
def V_X3_add (K : Rs → Mm → Prop) (M : Mm) (a0 : Nat) (a1 : Int32) (a2 : Int32) (a3 : Int32) (a4 : Int32) : Prop := ((a4 < (1 : Int32) → V_X3_add_15 K  M ) ∧ (¬ a4 < (1 : Int32) → ((a1 < 0 → V_X3_add_15 K  M ) ∧ (¬ a1 < 0 → ((a1 ≤ (5 : Int32) → ∃ y, V_X3_add_19 K  y M a0 a1 a3 a4 a2) ∧ (¬ a1 ≤ (5 : Int32) → V_X3_add_15 K  M ))))))
set_option maxRecDepth 100000 in
set_option maxHeartbeats 4000000 in
theorem x_X3_add {G : Gx} {K : Rs → Mm → Prop} {M : Mm} {a0 : Nat} {a1 : Int32} {a2 : Int32} {a3 : Int32} {a4 : Int32} (h : V_X3_add K M a0 a1 a2 a3 a4) : MC G mi_X3_add [.ref a0, .int a1, .int a2, .int a3, .int a4] M K := by
  unfold V_X3_add at h
  refine mc_of rfl (by decide +kernel) dc_X3_add (Nat.le_of_ble_eq_true rfl) 2 (Nat.le_of_ble_eq_true rfl) ?_
  show E G mi_X3_add K M 0 0 0 [some (.ref a0), some (.int a1), some (.int a2), some (.int a3), some (.int a4), none, none] []
  refine e_blk 2 0 _ _ (pc' := 3) (L' := [some (.ref a0), some (.int a1), some (.int a2), some (.int a3), some (.int a4), none, none]) (st' := [.int (1 : Int32), .int a4]) rfl ?_
  refine e_icmp_lt 15 rfl rfl (fun hc => ?_) (fun hc => ?_)
  · replace h := h.1 hc
    refine e_drp [false, false, false, false, false, false, false] (L' := [none, none, none, none, none, none, none]) rfl ?_
    exact x_X3_add_15  h
  · replace h := h.2 hc
    refine e_blk 1 6 _ _ (pc' := 7) (L' := [some (.ref a0), some (.int a1), some (.int a2), some (.int a3), some (.int a4), none, none]) (st' := [.int a1]) rfl ?_
    refine e_if_lt 15 rfl rfl (fun hc => ?_) (fun hc => ?_)
    · replace h := h.1 hc
      refine e_drp [false, false, false, false, false, false, false] (L' := [none, none, none, none, none, none, none]) rfl ?_
      exact x_X3_add_15  h
    · replace h := h.2 hc
      refine e_blk 2 10 _ _ (pc' := 12) (L' := [some (.ref a0), some (.int a1), some (.int a2), some (.int a3), some (.int a4), none, none]) (st' := [.int (5 : Int32), .int a1]) rfl ?_
      refine e_icmp_le 16 rfl rfl (fun hc => ?_) (fun hc => ?_)
      · replace h := h.1 hc
        refine e_blk 2 16 _ _ (pc' := 19) (L' := [some (.ref a0), some (.int a1), some (.int a2), some (.int a3), some (.int a4), some (.int a2), none]) (st' := []) rfl ?_
        refine e_drp [true, true, false, true, true, true, false] (L' := [some (.ref a0), some (.int a1), none, some (.int a3), some (.int a4), some (.int a2), none]) rfl ?_
        obtain ⟨y, h⟩ := h
        exact x_X3_add_19  y _ _ _ _ _ _ h
      · replace h := h.2 hc
        refine e_drp [false, false, false, false, false, false, false] (L' := [none, none, none, none, none, none, none]) rfl ?_
        exact x_X3_add_15  h
