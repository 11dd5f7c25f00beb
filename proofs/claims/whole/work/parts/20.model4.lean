def is_X7_walk : List (Instr × Nat) := [(.aload_n 0, 1), (.iconst 0, 1), (.putfield 400, 3), (.aload_n 0, 1), (.iconst (-1), 1), (.putfield 403, 3), (.aload_n 0, 1), (.iconst (-1), 1), (.putfield 406, 3), (.aload_n 0, 1), (.getfield 37, 3), (.iload_n 1, 1), (.iaload, 1), (.istore 5, 2), (.iload 4, 2), (.iconst 1, 1), (.if_icmp .ne 7, 3), (.iload_n 3, 1), (.goto 4, 3), (.iload_n 2, 1), (.istore 6, 2), (.iload 6, 2), (.iload_n 2, 1), (.if_icmp .lt 228, 3), (.iload 6, 2), (.iload_n 3, 1), (.if_icmp .gt 222, 3), (.iload 4, 2), (.iconst 2, 1), (.if_icmp .eq 10, 3), (.aload_n 0, 1), (.getfield 400, 3), (.ifCond .ne 209, 3), (.aload_n 0, 1), (.iload 5, 2), (.iload 6, 2), (.invokevirtual 170, 3), (.istore 7, 2), (.aload_n 0, 1), (.iload 5, 2), (.iload 7, 2), (.invokevirtual 173, 3), (.istore 8, 2), (.iload 6, 2), (.iload 8, 2), (.iadd, 1), (.sipush 1440, 3), (.invokestatic 120, 3), (.istore 9, 2), (.sipush 1440, 3), (.iload 9, 2), (.imul, 1), (.iload 8, 2), (.isub, 1), (.istore 10, 2), (.iload 10, 2), (.sipush 1440, 3), (.iadd, 1), (.iconst 1, 1), (.isub, 1), (.istore 11, 2), (.iload 10, 2), (.aload_n 0, 1), (.iload 5, 2), (.iload 7, 2), (.invokevirtual 192, 3), (.if_icmp .ge 14, 3), (.aload_n 0, 1), (.iload 5, 2), (.iload 7, 2), (.invokevirtual 192, 3), (.goto 5, 3), (.iload 10, 2), (.istore 10, 2), (.iload 11, 2), (.aload_n 0, 1), (.iload 5, 2), (.iload 7, 2), (.invokevirtual 195, 3), (.if_icmp .le 14, 3), (.aload_n 0, 1), (.iload 5, 2), (.iload 7, 2), (.invokevirtual 195, 3), (.goto 5, 3), (.iload 11, 2), (.istore 11, 2), (.iload 10, 2), (.iload_n 2, 1), (.if_icmp .ge 7, 3), (.iload_n 2, 1), (.goto 5, 3), (.iload 10, 2), (.istore 10, 2), (.iload 11, 2), (.iload_n 3, 1), (.if_icmp .le 7, 3), (.iload_n 3, 1), (.goto 5, 3), (.iload 11, 2), (.istore 11, 2), (.aload_n 0, 1), (.iload 9, 2), (.invokevirtual 176, 3), (.aload_n 0, 1), (.iload_n 1, 1), (.aload_n 0, 1), (.getfield 128, 3), (.aload_n 0, 1), (.getfield 134, 3), (.aload_n 0, 1), (.getfield 140, 3), (.invokevirtual 390, 3), (.ifCond .eq 23, 3), (.aload_n 0, 1), (.iload_n 1, 1), (.iload 10, 2), (.iload 11, 2), (.iload 8, 2), (.sipush 1440, 3), (.iload 9, 2), (.imul, 1), (.isub, 1), (.iload 4, 2), (.invokevirtual 409, 3), (.iload 4, 2), (.iconst 1, 1), (.if_icmp .ne 10, 3), (.iload 10, 2), (.iconst 1, 1), (.isub, 1), (.goto 7, 3), (.iload 11, 2), (.iconst 1, 1), (.iadd, 1), (.istore 6, 2), (.goto (-228), 3), (.return_, 1)]
abbrev mi_X7_walk : MI := (yX7_walk, cX7_walk, 12, none, [], { frames := 8, cells := 0, slots := 0, locals := 190 }, is_X7_walk)
theorem dc_X7_walk : dcb cX7_walk is_X7_walk 0 = true := by decide +kernel
theorem wc_X7_walk : cdw mi_X7_walk ∈ ALLW := aw (i := 1524) (by decide +kernel) rfl
theorem wi_X7_walk : Cond.initialized (miY mi_X7_walk).cls ∈ ALLW := aw (i := 64) (by decide +kernel) rfl
theorem wn_X7_walk : Cond.instanceMethod (miY mi_X7_walk) ∈ ALLW := aw (i := 1523) (by decide +kernel) rfl
theorem wv_X7_walk : Cond.selects (miY mi_X7_walk).cls (miY mi_X7_walk) (miY mi_X7_walk) ∈ ALLW := aw (i := 48) (by decide +kernel) rfl
def is_X7_next : List (Instr × Nat) := [(.aload_n 0, 1), (.aload_n 0, 1), (.iload_n 1, 1), (.invokevirtual 356, 3), (.ifCond .eq 7, 3), (.iconst 1, 1), (.goto 32, 3), (.iload_n 2, 1), (.i2l, 1), (.lconst 0, 1), (.ldc2_w 165, 3), (.invokestatic 150, 3), (.ifCond .eq 15, 3), (.iload_n 3, 1), (.i2l, 1), (.lconst 0, 1), (.ldc2_w 413, 3), (.invokestatic 150, 3), (.ifCond .ne 7, 3), (.iconst 2, 1), (.goto 4, 3), (.iconst 0, 1), (.putfield 112, 3), (.aload_n 0, 1), (.getfield 112, 3), (.ifCond .le 5, 3), (.iconst 0, 1), (.ireturn, 1), (.iload_n 2, 1), (.i2l, 1), (.ldc2_w 415, 3), (.iload_n 3, 1), (.i2l, 1), (.lmul, 1), (.ladd, 1), (.lstore 4, 2), (.aload_n 0, 1), (.iload_n 1, 1), (.iload_n 2, 1), (.iconst 1, 1), (.iadd, 1), (.lload 4, 2), (.ldc2_w 165, 3), (.lcmp, 1), (.ifCond .le 8, 3), (.ldc 167, 2), (.goto 6, 3), (.lload 4, 2), (.l2i, 1), (.iconst 0, 1), (.invokevirtual 417, 3), (.aload_n 0, 1), (.getfield 403, 3), (.ireturn, 1)]
abbrev mi_X7_next : MI := (yX7_next, cX7_next, 6, (some .int), [], { frames := 9, cells := 0, slots := 0, locals := 221 }, is_X7_next)
theorem dc_X7_next : dcb cX7_next is_X7_next 0 = true := by decide +kernel
theorem wc_X7_next : cdw mi_X7_next ∈ ALLW := aw (i := 1518) (by decide +kernel) rfl
theorem wi_X7_next : Cond.initialized (miY mi_X7_next).cls ∈ ALLW := aw (i := 64) (by decide +kernel) rfl
theorem wn_X7_next : Cond.instanceMethod (miY mi_X7_next) ∈ ALLW := aw (i := 1516) (by decide +kernel) rfl
theorem wv_X7_next : Cond.selects (miY mi_X7_next).cls (miY mi_X7_next) (miY mi_X7_next) ∈ ALLW := aw (i := 1517) (by decide +kernel) rfl
def is_X7_before : List (Instr × Nat) := [(.aload_n 0, 1), (.aload_n 0, 1), (.iload_n 1, 1), (.invokevirtual 356, 3), (.ifCond .eq 7, 3), (.iconst 1, 1), (.goto 32, 3), (.iload_n 2, 1), (.i2l, 1), (.lconst 0, 1), (.ldc2_w 165, 3), (.invokestatic 150, 3), (.ifCond .eq 15, 3), (.iload_n 3, 1), (.i2l, 1), (.lconst 0, 1), (.ldc2_w 413, 3), (.invokestatic 150, 3), (.ifCond .ne 7, 3), (.iconst 2, 1), (.goto 4, 3), (.iconst 0, 1), (.putfield 112, 3), (.aload_n 0, 1), (.getfield 112, 3), (.ifCond .le 5, 3), (.iconst 0, 1), (.ireturn, 1), (.iload_n 2, 1), (.sipush 1440, 3), (.iload_n 3, 1), (.imul, 1), (.isub, 1), (.istore 4, 2), (.aload_n 0, 1), (.iload_n 1, 1), (.iload 4, 2), (.ifCond .ge 7, 3), (.iconst 0, 1), (.goto 5, 3), (.iload 4, 2), (.iload_n 2, 1), (.iconst 1, 1), (.isub, 1), (.iconst 1, 1), (.invokevirtual 417, 3), (.aload_n 0, 1), (.getfield 403, 3), (.ireturn, 1)]
abbrev mi_X7_before : MI := (yX7_before, cX7_before, 5, (some .int), [], { frames := 9, cells := 0, slots := 0, locals := 221 }, is_X7_before)
theorem dc_X7_before : dcb cX7_before is_X7_before 0 = true := by decide +kernel
theorem wc_X7_before : cdw mi_X7_before ∈ ALLW := aw (i := 1532) (by decide +kernel) rfl
theorem wi_X7_before : Cond.initialized (miY mi_X7_before).cls ∈ ALLW := aw (i := 64) (by decide +kernel) rfl
theorem wn_X7_before : Cond.instanceMethod (miY mi_X7_before) ∈ ALLW := aw (i := 1530) (by decide +kernel) rfl
theorem wv_X7_before : Cond.selects (miY mi_X7_before).cls (miY mi_X7_before) (miY mi_X7_before) ∈ ALLW := aw (i := 1531) (by decide +kernel) rfl
def is_X7_between : List (Instr × Nat) := [(.aload_n 0, 1), (.aload_n 0, 1), (.iload_n 1, 1), (.invokevirtual 356, 3), (.ifCond .eq 7, 3), (.iconst 1, 1), (.goto 42, 3), (.iload_n 2, 1), (.i2l, 1), (.lconst 0, 1), (.ldc2_w 165, 3), (.invokestatic 150, 3), (.ifCond .eq 25, 3), (.iload_n 3, 1), (.i2l, 1), (.iload_n 2, 1), (.i2l, 1), (.ldc2_w 165, 3), (.invokestatic 150, 3), (.ifCond .eq 12, 3), (.iload_n 3, 1), (.iload_n 2, 1), (.isub, 1), (.ldc_w 420, 3), (.if_icmp .le 7, 3), (.iconst 2, 1), (.goto 4, 3), (.iconst 0, 1), (.putfield 112, 3), (.aload_n 0, 1), (.getfield 112, 3), (.ifCond .le 5, 3), (.iconst 0, 1), (.ireturn, 1), (.aload_n 0, 1), (.iload_n 1, 1), (.iload_n 2, 1), (.iconst 1, 1), (.iadd, 1), (.iload_n 3, 1), (.iconst 2, 1), (.invokevirtual 417, 3), (.aload_n 0, 1), (.getfield 400, 3), (.ireturn, 1)]
abbrev mi_X7_between : MI := (yX7_between, cX7_between, 4, (some .int), [], { frames := 9, cells := 0, slots := 0, locals := 221 }, is_X7_between)
theorem dc_X7_between : dcb cX7_between is_X7_between 0 = true := by decide +kernel
theorem wc_X7_between : cdw mi_X7_between ∈ ALLW := aw (i := 1536) (by decide +kernel) rfl
theorem wi_X7_between : Cond.initialized (miY mi_X7_between).cls ∈ ALLW := aw (i := 64) (by decide +kernel) rfl
theorem wn_X7_between : Cond.instanceMethod (miY mi_X7_between) ∈ ALLW := aw (i := 1534) (by decide +kernel) rfl
theorem wv_X7_between : Cond.selects (miY mi_X7_between).cls (miY mi_X7_between) (miY mi_X7_between) ∈ ALLW := aw (i := 1535) (by decide +kernel) rfl
def is_X7_line : List (Instr × Nat) := [(.aload_n 0, 1), (.getfield 421, 3), (.sipush 300, 3), (.if_icmp .ge 44, 3), (.aload_n 0, 1), (.getfield 100, 3), (.aload_n 0, 1), (.getfield 421, 3), (.iload_n 1, 1), (.iastore, 1), (.aload_n 0, 1), (.getfield 103, 3), (.aload_n 0, 1), (.getfield 421, 3), (.iload_n 2, 1), (.iastore, 1), (.aload_n 0, 1), (.getfield 106, 3), (.aload_n 0, 1), (.getfield 421, 3), (.iload_n 3, 1), (.iastore, 1), (.aload_n 0, 1), (.getfield 109, 3), (.aload_n 0, 1), (.getfield 421, 3), (.iload 4, 2), (.iastore, 1), (.aload_n 0, 1), (.dup, 1), (.getfield 421, 3), (.iconst 1, 1), (.iadd, 1), (.putfield 421, 3), (.return_, 1)]
abbrev mi_X7_line : MI := (yX7_line, cX7_line, 5, none, [], { frames := 0, cells := 0, slots := 0, locals := 0 }, is_X7_line)
theorem dc_X7_line : dcb cX7_line is_X7_line 0 = true := by decide +kernel
theorem wc_X7_line : cdw mi_X7_line ∈ ALLW := aw (i := 1559) (by decide +kernel) rfl
theorem wi_X7_line : Cond.initialized (miY mi_X7_line).cls ∈ ALLW := aw (i := 64) (by decide +kernel) rfl
theorem wn_X7_line : Cond.instanceMethod (miY mi_X7_line) ∈ ALLW := aw (i := 1558) (by decide +kernel) rfl
theorem wv_X7_line : Cond.selects (miY mi_X7_line).cls (miY mi_X7_line) (miY mi_X7_line) ∈ ALLW := aw (i := 52) (by decide +kernel) rfl
def is_X7_begin : List (Instr × Nat) := [(.aload_n 0, 1), (.getfield 91, 3), (.aload_n 0, 1), (.getfield 353, 3), (.iload_n 1, 1), (.iastore, 1), (.aload_n 0, 1), (.getfield 94, 3), (.aload_n 0, 1), (.getfield 353, 3), (.iload_n 2, 1), (.aload_n 0, 1), (.getfield 49, 3), (.iload_n 1, 1), (.iaload, 1), (.iadd, 1), (.iastore, 1), (.aload_n 0, 1), (.getfield 97, 3), (.aload_n 0, 1), (.getfield 353, 3), (.iload_n 3, 1), (.iastore, 1), (.aload_n 0, 1), (.dup, 1), (.getfield 353, 3), (.iconst 1, 1), (.iadd, 1), (.putfield 353, 3), (.aload_n 0, 1), (.getfield 82, 3), (.iload_n 1, 1), (.dup2, 1), (.iaload, 1), (.iconst 1, 1), (.iadd, 1), (.iastore, 1), (.aload_n 0, 1), (.iconst 0, 1), (.iload_n 1, 1), (.iload_n 2, 1), (.iload_n 3, 1), (.invokevirtual 424, 3), (.return_, 1)]
abbrev mi_X7_begin : MI := (yX7_begin, cX7_begin, 4, none, [], { frames := 1, cells := 0, slots := 0, locals := 24 }, is_X7_begin)
theorem dc_X7_begin : dcb cX7_begin is_X7_begin 0 = true := by decide +kernel
theorem wc_X7_begin : cdw mi_X7_begin ∈ ALLW := aw (i := 1563) (by decide +kernel) rfl
theorem wi_X7_begin : Cond.initialized (miY mi_X7_begin).cls ∈ ALLW := aw (i := 64) (by decide +kernel) rfl
theorem wn_X7_begin : Cond.instanceMethod (miY mi_X7_begin) ∈ ALLW := aw (i := 1562) (by decide +kernel) rfl
theorem wv_X7_begin : Cond.selects (miY mi_X7_begin).cls (miY mi_X7_begin) (miY mi_X7_begin) ∈ ALLW := aw (i := 53) (by decide +kernel) rfl
def is_X7_end : List (Instr × Nat) := [(.aload_n 0, 1), (.getfield 91, 3), (.iload_n 1, 1), (.iaload, 1), (.istore_n 3, 1), (.aload_n 0, 1), (.iconst 1, 1), (.iload_n 3, 1), (.iload_n 2, 1), (.aload_n 0, 1), (.getfield 97, 3), (.iload_n 1, 1), (.iaload, 1), (.invokevirtual 424, 3), (.aload_n 0, 1), (.iload_n 1, 1), (.invokevirtual 359, 3), (.aload_n 0, 1), (.getfield 88, 3), (.iload_n 3, 1), (.iaload, 1), (.ifCond .lt 34, 3), (.aload_n 0, 1), (.iload_n 3, 1), (.invokevirtual 365, 3), (.ifCond .ne 26, 3), (.aload_n 0, 1), (.getfield 88, 3), (.iload_n 3, 1), (.iaload, 1), (.istore 4, 2), (.aload_n 0, 1), (.getfield 88, 3), (.iload_n 3, 1), (.iconst (-1), 1), (.iastore, 1), (.aload_n 0, 1), (.iload_n 3, 1), (.iload_n 2, 1), (.iload 4, 2), (.invokevirtual 427, 3), (.return_, 1)]
abbrev mi_X7_end : MI := (yX7_end, cX7_end, 5, none, [], { frames := 2, cells := 0, slots := 0, locals := 47 }, is_X7_end)
theorem dc_X7_end : dcb cX7_end is_X7_end 0 = true := by decide +kernel
theorem wc_X7_end : cdw mi_X7_end ∈ ALLW := aw (i := 1555) (by decide +kernel) rfl
theorem wi_X7_end : Cond.initialized (miY mi_X7_end).cls ∈ ALLW := aw (i := 64) (by decide +kernel) rfl
theorem wn_X7_end : Cond.instanceMethod (miY mi_X7_end) ∈ ALLW := aw (i := 1554) (by decide +kernel) rfl
theorem wv_X7_end : Cond.selects (miY mi_X7_end).cls (miY mi_X7_end) (miY mi_X7_end) ∈ ALLW := aw (i := 51) (by decide +kernel) rfl
def is_X7_due : List (Instr × Nat) := [(.aload_n 0, 1), (.iload_n 1, 1), (.invokevirtual 365, 3), (.istore_n 3, 1), (.iload_n 3, 1), (.ifCond .eq 18, 3), (.aload_n 0, 1), (.getfield 46, 3), (.iload_n 1, 1), (.iaload, 1), (.ifCond .ne 22, 3), (.iload_n 3, 1), (.bipush 8, 2), (.if_icmp .ge 16, 3), (.aload_n 0, 1), (.iload_n 1, 1), (.aload_n 0, 1), (.getfield 431, 3), (.iload_n 2, 1), (.invokevirtual 427, 3), (.goto 64, 3), (.aload_n 0, 1), (.getfield 46, 3), (.iload_n 1, 1), (.iaload, 1), (.iconst 2, 1), (.if_icmp .ne 33, 3), (.aload_n 0, 1), (.getfield 88, 3), (.iload_n 1, 1), (.iaload, 1), (.ifCond .ge 24, 3), (.aload_n 0, 1), (.getfield 88, 3), (.iload_n 1, 1), (.iload_n 2, 1), (.iastore, 1), (.aload_n 0, 1), (.iconst 3, 1), (.iload_n 1, 1), (.aload_n 0, 1), (.getfield 431, 3), (.iload_n 2, 1), (.invokevirtual 424, 3), (.goto 24, 3), (.aload_n 0, 1), (.getfield 85, 3), (.iload_n 1, 1), (.dup2, 1), (.iaload, 1), (.iconst 1, 1), (.iadd, 1), (.iastore, 1), (.aload_n 0, 1), (.iconst 2, 1), (.iload_n 1, 1), (.aload_n 0, 1), (.getfield 431, 3), (.iload_n 2, 1), (.invokevirtual 424, 3), (.return_, 1)]
abbrev mi_X7_due : MI := (yX7_due, cX7_due, 4, none, [], { frames := 2, cells := 0, slots := 0, locals := 47 }, is_X7_due)
theorem dc_X7_due : dcb cX7_due is_X7_due 0 = true := by decide +kernel
theorem wc_X7_due : cdw mi_X7_due ∈ ALLW := aw (i := 1567) (by decide +kernel) rfl
theorem wi_X7_due : Cond.initialized (miY mi_X7_due).cls ∈ ALLW := aw (i := 64) (by decide +kernel) rfl
theorem wn_X7_due : Cond.instanceMethod (miY mi_X7_due) ∈ ALLW := aw (i := 1566) (by decide +kernel) rfl
theorem wv_X7_due : Cond.selects (miY mi_X7_due).cls (miY mi_X7_due) (miY mi_X7_due) ∈ ALLW := aw (i := 54) (by decide +kernel) rfl
def is_X7_ending : List (Instr × Nat) := [(.iconst (-1), 1), (.istore_n 2, 1), (.iconst 0, 1), (.istore_n 3, 1), (.iload_n 3, 1), (.aload_n 0, 1), (.getfield 353, 3), (.if_icmp .ge 86, 3), (.iload_n 2, 1), (.ifCond .lt 48, 3), (.aload_n 0, 1), (.getfield 94, 3), (.iload_n 3, 1), (.iaload, 1), (.aload_n 0, 1), (.getfield 94, 3), (.iload_n 2, 1), (.iaload, 1), (.if_icmp .lt 33, 3), (.aload_n 0, 1), (.getfield 94, 3), (.iload_n 3, 1), (.iaload, 1), (.aload_n 0, 1), (.getfield 94, 3), (.iload_n 2, 1), (.iaload, 1), (.if_icmp .ne 22, 3), (.aload_n 0, 1), (.getfield 91, 3), (.iload_n 3, 1), (.iaload, 1), (.aload_n 0, 1), (.getfield 91, 3), (.iload_n 2, 1), (.iaload, 1), (.if_icmp .ge 7, 3), (.iconst 1, 1), (.goto 4, 3), (.iconst 0, 1), (.istore 4, 2), (.aload_n 0, 1), (.getfield 94, 3), (.iload_n 3, 1), (.iaload, 1), (.iload_n 1, 1), (.if_icmp .gt 12, 3), (.iload 4, 2), (.ifCond .eq 7, 3), (.iload_n 3, 1), (.goto 4, 3), (.iload_n 2, 1), (.istore_n 2, 1), (.iinc 3 1, 3), (.goto (-88), 3), (.iload_n 2, 1), (.ireturn, 1)]
abbrev mi_X7_ending : MI := (yX7_ending, cX7_ending, 5, (some .int), [], { frames := 0, cells := 0, slots := 0, locals := 0 }, is_X7_ending)
theorem dc_X7_ending : dcb cX7_ending is_X7_ending 0 = true := by decide +kernel
theorem wc_X7_ending : cdw mi_X7_ending ∈ ALLW := aw (i := 1551) (by decide +kernel) rfl
theorem wi_X7_ending : Cond.initialized (miY mi_X7_ending).cls ∈ ALLW := aw (i := 64) (by decide +kernel) rfl
theorem wn_X7_ending : Cond.instanceMethod (miY mi_X7_ending) ∈ ALLW := aw (i := 1550) (by decide +kernel) rfl
theorem wv_X7_ending : Cond.selects (miY mi_X7_ending).cls (miY mi_X7_ending) (miY mi_X7_ending) ∈ ALLW := aw (i := 50) (by decide +kernel) rfl
def is_X7_put : List (Instr × Nat) := [(.aload_n 0, 1), (.iload_n 1, 1), (.i2l, 1), (.lconst 0, 1), (.ldc2_w 165, 3), (.invokestatic 150, 3), (.ifCond .ne 7, 3), (.iconst 1, 1), (.goto 15, 3), (.aload_n 0, 1), (.getfield 434, 3), (.ifCond .eq 7, 3), (.iconst 2, 1), (.goto 4, 3), (.iconst 0, 1), (.putfield 112, 3), (.aload_n 0, 1), (.getfield 112, 3), (.ifCond .le 4, 3), (.return_, 1), (.aload_n 0, 1), (.iload_n 1, 1), (.putfield 431, 3), (.aload_n 0, 1), (.iconst 0, 1), (.putfield 353, 3), (.iconst 0, 1), (.istore_n 2, 1), (.iload_n 2, 1), (.bipush 12, 2), (.if_icmp .ge 16, 3), (.aload_n 0, 1), (.getfield 88, 3), (.iload_n 2, 1), (.iconst (-1), 1), (.iastore, 1), (.iinc 2 1, 3), (.goto (-16), 3), (.return_, 1)]
abbrev mi_X7_put : MI := (yX7_put, cX7_put, 3, none, [], { frames := 1, cells := 0, slots := 0, locals := 25 }, is_X7_put)
theorem dc_X7_put : dcb cX7_put is_X7_put 0 = true := by decide +kernel
theorem wc_X7_put : cdw mi_X7_put ∈ ALLW := aw (i := 1541) (by decide +kernel) rfl
theorem wi_X7_put : Cond.initialized (miY mi_X7_put).cls ∈ ALLW := aw (i := 64) (by decide +kernel) rfl
theorem wn_X7_put : Cond.instanceMethod (miY mi_X7_put) ∈ ALLW := aw (i := 1539) (by decide +kernel) rfl
theorem wv_X7_put : Cond.selects (miY mi_X7_put).cls (miY mi_X7_put) (miY mi_X7_put) ∈ ALLW := aw (i := 1540) (by decide +kernel) rfl
def is_X7_pass : List (Instr × Nat) := [(.aload_n 0, 1), (.iconst 0, 1), (.putfield 112, 3), (.iload_n 1, 1), (.i2l, 1), (.lconst 0, 1), (.aload_n 0, 1), (.getfield 434, 3), (.ifCond .eq 9, 3), (.ldc2_w 437, 3), (.goto 6, 3), (.ldc2_w 439, 3), (.invokestatic 150, 3), (.ifCond .eq 14, 3), (.iload_n 1, 1), (.ldc 167, 2), (.aload_n 0, 1), (.getfield 431, 3), (.isub, 1), (.if_icmp .le 9, 3), (.aload_n 0, 1), (.iconst 1, 1), (.invokevirtual 162, 3), (.ireturn, 1), (.aload_n 0, 1), (.getfield 434, 3), (.ifCond .eq 18, 3), (.aload_n 0, 1), (.dup, 1), (.getfield 431, 3), (.iload_n 1, 1), (.iadd, 1), (.putfield 431, 3), (.aload_n 0, 1), (.getfield 431, 3), (.ireturn, 1), (.iconst 0, 1), (.istore_n 2, 1), (.iload_n 2, 1), (.iload_n 1, 1), (.if_icmp .ge 102, 3), (.aload_n 0, 1), (.dup, 1), (.getfield 431, 3), (.iconst 1, 1), (.iadd, 1), (.putfield 431, 3), (.aload_n 0, 1), (.aload_n 0, 1), (.getfield 431, 3), (.invokevirtual 441, 3), (.istore_n 3, 1), (.iload_n 3, 1), (.ifCond .lt 24, 3), (.aload_n 0, 1), (.iload_n 3, 1), (.aload_n 0, 1), (.getfield 431, 3), (.invokevirtual 444, 3), (.aload_n 0, 1), (.aload_n 0, 1), (.getfield 431, 3), (.invokevirtual 441, 3), (.istore_n 3, 1), (.goto (-22), 3), (.iconst 0, 1), (.istore 4, 2), (.iload 4, 2), (.bipush 12, 2), (.if_icmp .ge 42, 3), (.aload_n 0, 1), (.getfield 34, 3), (.iload 4, 2), (.baload, 1), (.ifCond .eq 26, 3), (.aload_n 0, 1), (.iload 4, 2), (.aload_n 0, 1), (.getfield 431, 3), (.invokevirtual 397, 3), (.ifCond .eq 13, 3), (.aload_n 0, 1), (.iload 4, 2), (.aload_n 0, 1), (.getfield 431, 3), (.invokevirtual 447, 3), (.iinc 4 1, 3), (.goto (-43), 3), (.iinc 2 1, 3), (.goto (-101), 3), (.aload_n 0, 1), (.getfield 431, 3), (.ireturn, 1)]
abbrev mi_X7_pass : MI := (yX7_pass, cX7_pass, 5, (some .int), [], { frames := 9, cells := 0, slots := 0, locals := 215 }, is_X7_pass)
theorem dc_X7_pass : dcb cX7_pass is_X7_pass 0 = true := by decide +kernel
theorem wc_X7_pass : cdw mi_X7_pass ∈ ALLW := aw (i := 1545) (by decide +kernel) rfl
theorem wi_X7_pass : Cond.initialized (miY mi_X7_pass).cls ∈ ALLW := aw (i := 64) (by decide +kernel) rfl
theorem wn_X7_pass : Cond.instanceMethod (miY mi_X7_pass) ∈ ALLW := aw (i := 1543) (by decide +kernel) rfl
theorem wv_X7_pass : Cond.selects (miY mi_X7_pass).cls (miY mi_X7_pass) (miY mi_X7_pass) ∈ ALLW := aw (i := 1544) (by decide +kernel) rfl
def is_X7_sleep : List (Instr × Nat) := [(.aload_n 0, 1), (.aload_n 0, 1), (.getfield 434, 3), (.ifCond .eq 7, 3), (.iconst 1, 1), (.goto 4, 3), (.iconst 0, 1), (.putfield 112, 3), (.aload_n 0, 1), (.getfield 112, 3), (.ifCond .ne 16, 3), (.aload_n 0, 1), (.iconst 1, 1), (.putfield 434, 3), (.aload_n 0, 1), (.aload_n 0, 1), (.getfield 431, 3), (.putfield 450, 3), (.return_, 1)]
abbrev mi_X7_sleep : MI := (yX7_sleep, cX7_sleep, 1, none, [], { frames := 0, cells := 0, slots := 0, locals := 0 }, is_X7_sleep)
theorem dc_X7_sleep : dcb cX7_sleep is_X7_sleep 0 = true := by decide +kernel
theorem wc_X7_sleep : cdw mi_X7_sleep ∈ ALLW := aw (i := 1571) (by decide +kernel) rfl
theorem wi_X7_sleep : Cond.initialized (miY mi_X7_sleep).cls ∈ ALLW := aw (i := 64) (by decide +kernel) rfl
theorem wn_X7_sleep : Cond.instanceMethod (miY mi_X7_sleep) ∈ ALLW := aw (i := 1569) (by decide +kernel) rfl
theorem wv_X7_sleep : Cond.selects (miY mi_X7_sleep).cls (miY mi_X7_sleep) (miY mi_X7_sleep) ∈ ALLW := aw (i := 1570) (by decide +kernel) rfl
def is_X7_missed : List (Instr × Nat) := [(.aload_n 0, 1), (.getfield 450, 3), (.iconst 1, 1), (.iadd, 1), (.istore_n 2, 1), (.aload_n 0, 1), (.getfield 431, 3), (.aload_n 0, 1), (.getfield 43, 3), (.iload_n 1, 1), (.iaload, 1), (.isub, 1), (.istore_n 3, 1), (.iload_n 3, 1), (.iload_n 2, 1), (.if_icmp .le 7, 3), (.iload_n 3, 1), (.goto 4, 3), (.iload_n 2, 1), (.istore_n 2, 1), (.aload_n 0, 1), (.getfield 40, 3), (.iload_n 1, 1), (.iaload, 1), (.iconst 1, 1), (.if_icmp .ne 31, 3), (.aload_n 0, 1), (.iload_n 1, 1), (.iload_n 2, 1), (.aload_n 0, 1), (.getfield 431, 3), (.iconst 1, 1), (.invokevirtual 417, 3), (.aload_n 0, 1), (.getfield 400, 3), (.ifCond .le 12, 3), (.aload_n 0, 1), (.iload_n 1, 1), (.aload_n 0, 1), (.getfield 403, 3), (.invokevirtual 447, 3), (.return_, 1), (.aload_n 0, 1), (.iload_n 1, 1), (.iload_n 2, 1), (.aload_n 0, 1), (.getfield 431, 3), (.iconst 0, 1), (.invokevirtual 417, 3), (.aload_n 0, 1), (.getfield 400, 3), (.ifCond .le 33, 3), (.aload_n 0, 1), (.getfield 403, 3), (.istore 4, 2), (.aload_n 0, 1), (.iload_n 1, 1), (.iload 4, 2), (.invokevirtual 447, 3), (.aload_n 0, 1), (.iload_n 1, 1), (.iload 4, 2), (.iconst 1, 1), (.iadd, 1), (.aload_n 0, 1), (.getfield 431, 3), (.iconst 0, 1), (.invokevirtual 417, 3), (.goto (-34), 3), (.return_, 1)]
abbrev mi_X7_missed : MI := (yX7_missed, cX7_missed, 5, none, [], { frames := 9, cells := 0, slots := 0, locals := 221 }, is_X7_missed)
theorem dc_X7_missed : dcb cX7_missed is_X7_missed 0 = true := by decide +kernel
theorem wc_X7_missed : cdw mi_X7_missed ∈ ALLW := aw (i := 1579) (by decide +kernel) rfl
theorem wi_X7_missed : Cond.initialized (miY mi_X7_missed).cls ∈ ALLW := aw (i := 64) (by decide +kernel) rfl
theorem wn_X7_missed : Cond.instanceMethod (miY mi_X7_missed) ∈ ALLW := aw (i := 1578) (by decide +kernel) rfl
theorem wv_X7_missed : Cond.selects (miY mi_X7_missed).cls (miY mi_X7_missed) (miY mi_X7_missed) ∈ ALLW := aw (i := 55) (by decide +kernel) rfl
def is_X7_wake : List (Instr × Nat) := [(.aload_n 0, 1), (.iconst 0, 1), (.putfield 112, 3), (.aload_n 0, 1), (.getfield 434, 3), (.ifCond .ne 9, 3), (.aload_n 0, 1), (.iconst 1, 1), (.invokevirtual 162, 3), (.ireturn, 1), (.aload_n 0, 1), (.getfield 421, 3), (.istore_n 1, 1), (.aload_n 0, 1), (.iconst 0, 1), (.putfield 434, 3), (.aload_n 0, 1), (.aload_n 0, 1), (.getfield 431, 3), (.invokevirtual 441, 3), (.istore_n 2, 1), (.iload_n 2, 1), (.ifCond .lt 26, 3), (.aload_n 0, 1), (.iload_n 2, 1), (.aload_n 0, 1), (.getfield 94, 3), (.iload_n 2, 1), (.iaload, 1), (.invokevirtual 444, 3), (.aload_n 0, 1), (.aload_n 0, 1), (.getfield 431, 3), (.invokevirtual 441, 3), (.istore_n 2, 1), (.goto (-24), 3), (.iconst 0, 1), (.istore_n 3, 1), (.iload_n 3, 1), (.bipush 12, 2), (.if_icmp .ge 32, 3), (.aload_n 0, 1), (.getfield 34, 3), (.iload_n 3, 1), (.baload, 1), (.ifCond .eq 17, 3), (.aload_n 0, 1), (.getfield 40, 3), (.iload_n 3, 1), (.iaload, 1), (.ifCond .le 8, 3), (.aload_n 0, 1), (.iload_n 3, 1), (.invokevirtual 453, 3), (.iinc 3 1, 3), (.goto (-32), 3), (.aload_n 0, 1), (.getfield 421, 3), (.iload_n 1, 1), (.isub, 1), (.ireturn, 1)]
abbrev mi_X7_wake : MI := (yX7_wake, cX7_wake, 4, (some .int), [], { frames := 10, cells := 0, slots := 0, locals := 245 }, is_X7_wake)
theorem dc_X7_wake : dcb cX7_wake is_X7_wake 0 = true := by decide +kernel
theorem wc_X7_wake : cdw mi_X7_wake ∈ ALLW := aw (i := 1575) (by decide +kernel) rfl
theorem wi_X7_wake : Cond.initialized (miY mi_X7_wake).cls ∈ ALLW := aw (i := 64) (by decide +kernel) rfl
theorem wn_X7_wake : Cond.instanceMethod (miY mi_X7_wake) ∈ ALLW := aw (i := 1573) (by decide +kernel) rfl
theorem wv_X7_wake : Cond.selects (miY mi_X7_wake).cls (miY mi_X7_wake) (miY mi_X7_wake) ∈ ALLW := aw (i := 1574) (by decide +kernel) rfl
def is_X7_log : List (Instr × Nat) := [(.aload_n 0, 1), (.iconst 0, 1), (.putfield 112, 3), (.iload_n 1, 1), (.i2l, 1), (.lconst 0, 1), (.aload_n 0, 1), (.getfield 421, 3), (.sipush 300, 3), (.if_icmp .ge 10, 3), (.aload_n 0, 1), (.getfield 421, 3), (.goto 6, 3), (.sipush 300, 3), (.iconst 1, 1), (.isub, 1), (.i2l, 1), (.invokestatic 150, 3), (.ifCond .ne 9, 3), (.aload_n 0, 1), (.iconst 1, 1), (.invokevirtual 162, 3), (.ireturn, 1), (.iload_n 2, 1), (.tableswitch 60 0 3 #[32, 39, 46, 53], 32), (.aload_n 0, 1), (.getfield 100, 3), (.iload_n 1, 1), (.iaload, 1), (.ireturn, 1), (.aload_n 0, 1), (.getfield 103, 3), (.iload_n 1, 1), (.iaload, 1), (.ireturn, 1), (.aload_n 0, 1), (.getfield 106, 3), (.iload_n 1, 1), (.iaload, 1), (.ireturn, 1), (.aload_n 0, 1), (.getfield 109, 3), (.iload_n 1, 1), (.iaload, 1), (.ireturn, 1), (.aload_n 0, 1), (.iconst 2, 1), (.invokevirtual 162, 3), (.ireturn, 1)]
abbrev mi_X7_log : MI := (yX7_log, cX7_log, 3, (some .int), [], { frames := 1, cells := 0, slots := 0, locals := 25 }, is_X7_log)
theorem dc_X7_log : dcb cX7_log is_X7_log 0 = true := by decide +kernel
theorem wc_X7_log : cdw mi_X7_log ∈ ALLW := aw (i := 1583) (by decide +kernel) rfl
theorem wi_X7_log : Cond.initialized (miY mi_X7_log).cls ∈ ALLW := aw (i := 64) (by decide +kernel) rfl
theorem wn_X7_log : Cond.instanceMethod (miY mi_X7_log) ∈ ALLW := aw (i := 1581) (by decide +kernel) rfl
theorem wv_X7_log : Cond.selects (miY mi_X7_log).cls (miY mi_X7_log) (miY mi_X7_log) ∈ ALLW := aw (i := 1582) (by decide +kernel) rfl
def is_X7_tear : List (Instr × Nat) := [(.aload_n 0, 1), (.iconst 0, 1), (.putfield 112, 3), (.aload_n 0, 1), (.getfield 421, 3), (.istore_n 1, 1), (.aload_n 0, 1), (.iconst 0, 1), (.putfield 421, 3), (.iload_n 1, 1), (.ireturn, 1)]
abbrev mi_X7_tear : MI := (yX7_tear, cX7_tear, 2, (some .int), [], { frames := 0, cells := 0, slots := 0, locals := 0 }, is_X7_tear)
theorem dc_X7_tear : dcb cX7_tear is_X7_tear 0 = true := by decide +kernel
theorem wc_X7_tear : cdw mi_X7_tear ∈ ALLW := aw (i := 1587) (by decide +kernel) rfl
theorem wi_X7_tear : Cond.initialized (miY mi_X7_tear).cls ∈ ALLW := aw (i := 64) (by decide +kernel) rfl
theorem wn_X7_tear : Cond.instanceMethod (miY mi_X7_tear) ∈ ALLW := aw (i := 1585) (by decide +kernel) rfl
theorem wv_X7_tear : Cond.selects (miY mi_X7_tear).cls (miY mi_X7_tear) (miY mi_X7_tear) ∈ ALLW := aw (i := 1586) (by decide +kernel) rfl
def is_X7_count : List (Instr × Nat) := [(.aload_n 0, 1), (.iconst 0, 1), (.putfield 112, 3), (.iload_n 1, 1), (.tableswitch 76 0 5 #[38, 43, 56, 61, 66, 71], 38), (.aload_n 0, 1), (.getfield 431, 3), (.ireturn, 1), (.aload_n 0, 1), (.getfield 434, 3), (.ifCond .eq 7, 3), (.iconst 0, 1), (.goto 4, 3), (.iconst 1, 1), (.ireturn, 1), (.aload_n 0, 1), (.invokevirtual 362, 3), (.ireturn, 1), (.aload_n 0, 1), (.getfield 421, 3), (.ireturn, 1), (.aload_n 0, 1), (.getfield 200, 3), (.ireturn, 1), (.aload_n 0, 1), (.getfield 353, 3), (.ireturn, 1), (.aload_n 0, 1), (.iconst 1, 1), (.invokevirtual 162, 3), (.ireturn, 1)]
abbrev mi_X7_count : MI := (yX7_count, cX7_count, 2, (some .int), [], { frames := 1, cells := 0, slots := 0, locals := 22 }, is_X7_count)
theorem dc_X7_count : dcb cX7_count is_X7_count 0 = true := by decide +kernel
theorem wc_X7_count : cdw mi_X7_count ∈ ALLW := aw (i := 1591) (by decide +kernel) rfl
theorem wi_X7_count : Cond.initialized (miY mi_X7_count).cls ∈ ALLW := aw (i := 64) (by decide +kernel) rfl
theorem wn_X7_count : Cond.instanceMethod (miY mi_X7_count) ∈ ALLW := aw (i := 1589) (by decide +kernel) rfl
theorem wv_X7_count : Cond.selects (miY mi_X7_count).cls (miY mi_X7_count) (miY mi_X7_count) ∈ ALLW := aw (i := 1590) (by decide +kernel) rfl
def V_X7_walk_267 (K : Rs → Mm → Prop)  (M : Mm)  : Prop := K (.inl none) M
set_option maxRecDepth 100000 in
set_option maxHeartbeats 4000000 in
theorem x_X7_walk_267 {G : Gx} {K : Rs → Mm → Prop}  {M : Mm}  (h : V_X7_walk_267 K  M ) : E G mi_X7_walk K M 0 0 267 [none, none, none, none, none, none, none, none, none, none, none, none] [] := by
  unfold V_X7_walk_267 at h
  exact e_ret rfl rfl (by decide) (by decide) h
def V_X7_walk_262 (K : Rs → Mm → Prop) (B36 : Mm → Nat → Int32 → Int32 → Int32 → Int32 → Int32 → Int32 → Prop) (M : Mm) (l0 : Nat) (l1 : Int32) (l2 : Int32) (l3 : Int32) (l4 : Int32) (l5 : Int32) (s0 : Int32) : Prop := B36 M l0 l1 l2 l3 l4 l5 s0
set_option maxRecDepth 100000 in
set_option maxHeartbeats 4000000 in
theorem x_X7_walk_262 {G : Gx} {K : Rs → Mm → Prop} {B36 : Mm → Nat → Int32 → Int32 → Int32 → Int32 → Int32 → Int32 → Prop} (hB36 : ∀ M l0 l1 l2 l3 l4 l5 l6, B36 M l0 l1 l2 l3 l4 l5 l6 → E G mi_X7_walk K M 0 0 36 [some (.ref l0), some (.int l1), some (.int l2), some (.int l3), some (.int l4), some (.int l5), some (.int l6), none, none, none, none, none] []) {M : Mm} {l0 : Nat} {l1 : Int32} {l2 : Int32} {l3 : Int32} {l4 : Int32} {l5 : Int32} {s0 : Int32} (h : V_X7_walk_262 K B36 M l0 l1 l2 l3 l4 l5 s0) : E G mi_X7_walk K M 0 0 262 [some (.ref l0), some (.int l1), some (.int l2), some (.int l3), some (.int l4), some (.int l5), none, none, none, none, none, none] [.int s0] := by
  unfold V_X7_walk_262 at h
  refine e_blk 2 262 _ _ (pc' := 36) (L' := [some (.ref l0), some (.int l1), some (.int l2), some (.int l3), some (.int l4), some (.int l5), some (.int s0), none, none, none, none, none]) (st' := []) rfl ?_
  refine e_drp [true, true, true, true, true, true, true, false, false, false, false, false] (L' := [some (.ref l0), some (.int l1), some (.int l2), some (.int l3), some (.int l4), some (.int l5), some (.int s0), none, none, none, none, none]) rfl ?_
  exact hB36 _ _ _ _ _ _ _ _ h
def V_X7_walk_245 (K : Rs → Mm → Prop) (B36 : Mm → Nat → Int32 → Int32 → Int32 → Int32 → Int32 → Int32 → Prop) (M : Mm) (l0 : Nat) (l1 : Int32) (l2 : Int32) (l3 : Int32) (l4 : Int32) (l5 : Int32) (l10 : Int32) (l11 : Int32) : Prop := ((¬ l4 = (1 : Int32) → V_X7_walk_262 K B36 M l0 l1 l2 l3 l4 l5 (l11 + (1 : Int32))) ∧ (l4 = (1 : Int32) → V_X7_walk_262 K B36 M l0 l1 l2 l3 l4 l5 (l10 - (1 : Int32))))
set_option maxRecDepth 100000 in
set_option maxHeartbeats 4000000 in
theorem x_X7_walk_245 {G : Gx} {K : Rs → Mm → Prop} {B36 : Mm → Nat → Int32 → Int32 → Int32 → Int32 → Int32 → Int32 → Prop} (hB36 : ∀ M l0 l1 l2 l3 l4 l5 l6, B36 M l0 l1 l2 l3 l4 l5 l6 → E G mi_X7_walk K M 0 0 36 [some (.ref l0), some (.int l1), some (.int l2), some (.int l3), some (.int l4), some (.int l5), some (.int l6), none, none, none, none, none] []) {M : Mm} {l0 : Nat} {l1 : Int32} {l2 : Int32} {l3 : Int32} {l4 : Int32} {l5 : Int32} {l10 : Int32} {l11 : Int32} (h : V_X7_walk_245 K B36 M l0 l1 l2 l3 l4 l5 l10 l11) : E G mi_X7_walk K M 0 0 245 [some (.ref l0), some (.int l1), some (.int l2), some (.int l3), some (.int l4), some (.int l5), none, none, none, none, some (.int l10), some (.int l11)] [] := by
  unfold V_X7_walk_245 at h
  refine e_blk 2 245 _ _ (pc' := 248) (L' := [some (.ref l0), some (.int l1), some (.int l2), some (.int l3), some (.int l4), some (.int l5), none, none, none, none, some (.int l10), some (.int l11)]) (st' := [.int (1 : Int32), .int l4]) rfl ?_
  refine e_icmp_ne 258 rfl rfl (fun hc => ?_) (fun hc => ?_)
  · replace h := h.1 hc
    refine e_blk 3 258 _ _ (pc' := 262) (L' := [some (.ref l0), some (.int l1), some (.int l2), some (.int l3), some (.int l4), some (.int l5), none, none, none, none, some (.int l10), some (.int l11)]) (st' := [.int (l11 + (1 : Int32))]) rfl ?_
    refine e_drp [true, true, true, true, true, true, false, false, false, false, false, false] (L' := [some (.ref l0), some (.int l1), some (.int l2), some (.int l3), some (.int l4), some (.int l5), none, none, none, none, none, none]) rfl ?_
    exact x_X7_walk_262 hB36 h
  · replace h := h.2 hc
    refine e_blk 4 251 _ _ (pc' := 262) (L' := [some (.ref l0), some (.int l1), some (.int l2), some (.int l3), some (.int l4), some (.int l5), none, none, none, none, some (.int l10), some (.int l11)]) (st' := [.int (l10 - (1 : Int32))]) rfl ?_
    refine e_drp [true, true, true, true, true, true, false, false, false, false, false, false] (L' := [some (.ref l0), some (.int l1), some (.int l2), some (.int l3), some (.int l4), some (.int l5), none, none, none, none, none, none]) rfl ?_
    exact x_X7_walk_262 hB36 h
def V_X7_walk_197 (K : Rs → Mm → Prop) (B36 : Mm → Nat → Int32 → Int32 → Int32 → Int32 → Int32 → Int32 → Prop) (M : Mm) (l0 : Nat) (l1 : Int32) (l2 : Int32) (l3 : Int32) (l4 : Int32) (l5 : Int32) (l8 : Int32) (l9 : Int32) (l10 : Int32) (s0 : Int32) : Prop := (ob M l0 7 ∧ V_X7_date (kV (fun M2 => (ob M2 l0 7 ∧ V_X7_whole (kI (fun r5 M4 => ((r5 = 0 → V_X7_walk_245 K B36 M4 l0 l1 l2 l3 l4 l5 l10 s0) ∧ (¬ r5 = 0 → (ob M4 l0 7 ∧ V_X7_look (kV (fun M7 => V_X7_walk_245 K B36 M7 l0 l1 l2 l3 l4 l5 l10 s0) (fun _ _ => False)) M4 l0 l1 l10 s0 (l8 - ((1440 : Int32) * l9)) l4)))) (fun _ _ => False)) M2 l0 l1 (mI M2 l0 5) (mI M2 l0 6) (mI M2 l0 7))) (fun _ _ => False)) M l0 l9)
set_option maxRecDepth 100000 in
set_option maxHeartbeats 4000000 in
theorem x_X7_walk_197 {G : Gx} {K : Rs → Mm → Prop} {B36 : Mm → Nat → Int32 → Int32 → Int32 → Int32 → Int32 → Int32 → Prop} (hB36 : ∀ M l0 l1 l2 l3 l4 l5 l6, B36 M l0 l1 l2 l3 l4 l5 l6 → E G mi_X7_walk K M 0 0 36 [some (.ref l0), some (.int l1), some (.int l2), some (.int l3), some (.int l4), some (.int l5), some (.int l6), none, none, none, none, none] []) {M : Mm} {l0 : Nat} {l1 : Int32} {l2 : Int32} {l3 : Int32} {l4 : Int32} {l5 : Int32} {l8 : Int32} {l9 : Int32} {l10 : Int32} {s0 : Int32} (h : V_X7_walk_197 K B36 M l0 l1 l2 l3 l4 l5 l8 l9 l10 s0) : E G mi_X7_walk K M 0 0 197 [some (.ref l0), some (.int l1), some (.int l2), some (.int l3), some (.int l4), some (.int l5), none, none, some (.int l8), some (.int l9), some (.int l10), none] [.int s0] := by
  unfold V_X7_walk_197 at h
  refine e_blk 3 197 _ _ (pc' := 202) (L' := [some (.ref l0), some (.int l1), some (.int l2), some (.int l3), some (.int l4), some (.int l5), none, none, some (.int l8), some (.int l9), some (.int l10), some (.int s0)]) (st' := [.int l9, .ref l0]) rfl ?_
  obtain ⟨ho1, h⟩ := h
  refine e_callV (As := [.int l9]) (rest := []) (ci := 7) rfl (x_X7_date h) ho1 rfl rfl rfl (aw (i := 1286) (by decide +kernel) rfl) wn_X7_date wv_X7_date wi_X7_date wc_X7_date (show cok mi_X7_walk mi_X7_date 0 0 1 = true by decide +kernel) (Nat.le_of_ble_eq_true rfl) (fun v9 M2 hq => ?_) (fun X M9 hq => False.elim hq)
  obtain ⟨rfl, h⟩ := kV_l hq
  refine e_blk 3 205 _ _ (pc' := 208) (L' := [some (.ref l0), some (.int l1), some (.int l2), some (.int l3), some (.int l4), some (.int l5), none, none, some (.int l8), some (.int l9), some (.int l10), some (.int s0)]) (st' := [.ref l0, .int l1, .ref l0]) rfl ?_
  obtain ⟨ho3, h⟩ := h
  refine e_getI 7 5 rfl rfl (by decide) (aw (i := 1070) (by decide +kernel) rfl) ho3 rfl ?_
  refine e_blk 1 211 _ _ (pc' := 212) (L' := [some (.ref l0), some (.int l1), some (.int l2), some (.int l3), some (.int l4), some (.int l5), none, none, some (.int l8), some (.int l9), some (.int l10), some (.int s0)]) (st' := [.ref l0, .int (mI M2 l0 5), .int l1, .ref l0]) rfl ?_
  refine e_getI 7 6 rfl rfl (by decide) (aw (i := 1071) (by decide +kernel) rfl) ho3 rfl ?_
  refine e_blk 1 215 _ _ (pc' := 216) (L' := [some (.ref l0), some (.int l1), some (.int l2), some (.int l3), some (.int l4), some (.int l5), none, none, some (.int l8), some (.int l9), some (.int l10), some (.int s0)]) (st' := [.ref l0, .int (mI M2 l0 6), .int (mI M2 l0 5), .int l1, .ref l0]) rfl ?_
  refine e_getI 7 7 rfl rfl (by decide) (aw (i := 1072) (by decide +kernel) rfl) ho3 rfl ?_
  refine e_callV (As := [.int l1, .int (mI M2 l0 5), .int (mI M2 l0 6), .int (mI M2 l0 7)]) (rest := []) (ci := 7) rfl (x_X7_whole h) ho3 rfl rfl rfl (aw (i := 1497) (by decide +kernel) rfl) wn_X7_whole wv_X7_whole wi_X7_whole wc_X7_whole (show cok mi_X7_walk mi_X7_whole 0 0 4 = true by decide +kernel) (Nat.le_of_ble_eq_true rfl) (fun v9 M4 hq => ?_) (fun X M9 hq => False.elim hq)
  obtain ⟨r5, rfl, h⟩ := kI_l hq
  refine e_if_eq 245 rfl rfl (fun hc => ?_) (fun hc => ?_)
  · replace h := h.1 hc
    refine e_drp [true, true, true, true, true, true, false, false, false, false, true, true] (L' := [some (.ref l0), some (.int l1), some (.int l2), some (.int l3), some (.int l4), some (.int l5), none, none, none, none, some (.int l10), some (.int s0)]) rfl ?_
    exact x_X7_walk_245 hB36 h
  · replace h := h.2 hc
    refine e_blk 10 225 _ _ (pc' := 242) (L' := [some (.ref l0), some (.int l1), some (.int l2), some (.int l3), some (.int l4), some (.int l5), none, none, some (.int l8), some (.int l9), some (.int l10), some (.int s0)]) (st' := [.int l4, .int (l8 - ((1440 : Int32) * l9)), .int s0, .int l10, .int l1, .ref l0]) rfl ?_
    obtain ⟨ho6, h⟩ := h
    refine e_callV (As := [.int l1, .int l10, .int s0, .int (l8 - ((1440 : Int32) * l9)), .int l4]) (rest := []) (ci := 7) rfl (x_X7_look h) ho6 rfl rfl rfl (aw (i := 1525) (by decide +kernel) rfl) wn_X7_look wv_X7_look wi_X7_look wc_X7_look (show cok mi_X7_walk mi_X7_look 0 0 5 = true by decide +kernel) (Nat.le_of_ble_eq_true rfl) (fun v9 M7 hq => ?_) (fun X M9 hq => False.elim hq)
    obtain ⟨rfl, h⟩ := kV_l hq
    refine e_drp [true, true, true, true, true, true, false, false, false, false, true, true] (L' := [some (.ref l0), some (.int l1), some (.int l2), some (.int l3), some (.int l4), some (.int l5), none, none, none, none, some (.int l10), some (.int s0)]) rfl ?_
    exact x_X7_walk_245 hB36 h
def V_X7_walk_183 (K : Rs → Mm → Prop) (B36 : Mm → Nat → Int32 → Int32 → Int32 → Int32 → Int32 → Int32 → Prop) (M : Mm) (l0 : Nat) (l1 : Int32) (l2 : Int32) (l3 : Int32) (l4 : Int32) (l5 : Int32) (l8 : Int32) (l9 : Int32) (l11 : Int32) (s0 : Int32) : Prop := ((l11 ≤ l3 → V_X7_walk_197 K B36 M l0 l1 l2 l3 l4 l5 l8 l9 s0 l11) ∧ (¬ l11 ≤ l3 → V_X7_walk_197 K B36 M l0 l1 l2 l3 l4 l5 l8 l9 s0 l3))
set_option maxRecDepth 100000 in
set_option maxHeartbeats 4000000 in
theorem x_X7_walk_183 {G : Gx} {K : Rs → Mm → Prop} {B36 : Mm → Nat → Int32 → Int32 → Int32 → Int32 → Int32 → Int32 → Prop} (hB36 : ∀ M l0 l1 l2 l3 l4 l5 l6, B36 M l0 l1 l2 l3 l4 l5 l6 → E G mi_X7_walk K M 0 0 36 [some (.ref l0), some (.int l1), some (.int l2), some (.int l3), some (.int l4), some (.int l5), some (.int l6), none, none, none, none, none] []) {M : Mm} {l0 : Nat} {l1 : Int32} {l2 : Int32} {l3 : Int32} {l4 : Int32} {l5 : Int32} {l8 : Int32} {l9 : Int32} {l11 : Int32} {s0 : Int32} (h : V_X7_walk_183 K B36 M l0 l1 l2 l3 l4 l5 l8 l9 l11 s0) : E G mi_X7_walk K M 0 0 183 [some (.ref l0), some (.int l1), some (.int l2), some (.int l3), some (.int l4), some (.int l5), none, none, some (.int l8), some (.int l9), none, some (.int l11)] [.int s0] := by
  unfold V_X7_walk_183 at h
  refine e_blk 3 183 _ _ (pc' := 188) (L' := [some (.ref l0), some (.int l1), some (.int l2), some (.int l3), some (.int l4), some (.int l5), none, none, some (.int l8), some (.int l9), some (.int s0), some (.int l11)]) (st' := [.int l3, .int l11]) rfl ?_
  refine e_icmp_le 195 rfl rfl (fun hc => ?_) (fun hc => ?_)
  · replace h := h.1 hc
    refine e_blk 1 195 _ _ (pc' := 197) (L' := [some (.ref l0), some (.int l1), some (.int l2), some (.int l3), some (.int l4), some (.int l5), none, none, some (.int l8), some (.int l9), some (.int s0), some (.int l11)]) (st' := [.int l11]) rfl ?_
    refine e_drp [true, true, true, true, true, true, false, false, true, true, true, false] (L' := [some (.ref l0), some (.int l1), some (.int l2), some (.int l3), some (.int l4), some (.int l5), none, none, some (.int l8), some (.int l9), some (.int s0), none]) rfl ?_
    exact x_X7_walk_197 hB36 h
  · replace h := h.2 hc
    refine e_blk 2 191 _ _ (pc' := 197) (L' := [some (.ref l0), some (.int l1), some (.int l2), some (.int l3), some (.int l4), some (.int l5), none, none, some (.int l8), some (.int l9), some (.int s0), some (.int l11)]) (st' := [.int l3]) rfl ?_
    refine e_drp [true, true, true, true, true, true, false, false, true, true, true, false] (L' := [some (.ref l0), some (.int l1), some (.int l2), some (.int l3), some (.int l4), some (.int l5), none, none, some (.int l8), some (.int l9), some (.int s0), none]) rfl ?_
    exact x_X7_walk_197 hB36 h
def V_X7_walk_169 (K : Rs → Mm → Prop) (B36 : Mm → Nat → Int32 → Int32 → Int32 → Int32 → Int32 → Int32 → Prop) (M : Mm) (l0 : Nat) (l1 : Int32) (l2 : Int32) (l3 : Int32) (l4 : Int32) (l5 : Int32) (l8 : Int32) (l9 : Int32) (l10 : Int32) (s0 : Int32) : Prop := ((l2 ≤ l10 → V_X7_walk_183 K B36 M l0 l1 l2 l3 l4 l5 l8 l9 s0 l10) ∧ (¬ l2 ≤ l10 → V_X7_walk_183 K B36 M l0 l1 l2 l3 l4 l5 l8 l9 s0 l2))
set_option maxRecDepth 100000 in
set_option maxHeartbeats 4000000 in
theorem x_X7_walk_169 {G : Gx} {K : Rs → Mm → Prop} {B36 : Mm → Nat → Int32 → Int32 → Int32 → Int32 → Int32 → Int32 → Prop} (hB36 : ∀ M l0 l1 l2 l3 l4 l5 l6, B36 M l0 l1 l2 l3 l4 l5 l6 → E G mi_X7_walk K M 0 0 36 [some (.ref l0), some (.int l1), some (.int l2), some (.int l3), some (.int l4), some (.int l5), some (.int l6), none, none, none, none, none] []) {M : Mm} {l0 : Nat} {l1 : Int32} {l2 : Int32} {l3 : Int32} {l4 : Int32} {l5 : Int32} {l8 : Int32} {l9 : Int32} {l10 : Int32} {s0 : Int32} (h : V_X7_walk_169 K B36 M l0 l1 l2 l3 l4 l5 l8 l9 l10 s0) : E G mi_X7_walk K M 0 0 169 [some (.ref l0), some (.int l1), some (.int l2), some (.int l3), some (.int l4), some (.int l5), none, none, some (.int l8), some (.int l9), some (.int l10), none] [.int s0] := by
  unfold V_X7_walk_169 at h
  refine e_blk 3 169 _ _ (pc' := 174) (L' := [some (.ref l0), some (.int l1), some (.int l2), some (.int l3), some (.int l4), some (.int l5), none, none, some (.int l8), some (.int l9), some (.int l10), some (.int s0)]) (st' := [.int l2, .int l10]) rfl ?_
  refine e_icmp_ge 181 rfl rfl (fun hc => ?_) (fun hc => ?_)
  · replace h := h.1 hc
    refine e_blk 1 181 _ _ (pc' := 183) (L' := [some (.ref l0), some (.int l1), some (.int l2), some (.int l3), some (.int l4), some (.int l5), none, none, some (.int l8), some (.int l9), some (.int l10), some (.int s0)]) (st' := [.int l10]) rfl ?_
    refine e_drp [true, true, true, true, true, true, false, false, true, true, false, true] (L' := [some (.ref l0), some (.int l1), some (.int l2), some (.int l3), some (.int l4), some (.int l5), none, none, some (.int l8), some (.int l9), none, some (.int s0)]) rfl ?_
    exact x_X7_walk_183 hB36 h
  · replace h := h.2 hc
    refine e_blk 2 177 _ _ (pc' := 183) (L' := [some (.ref l0), some (.int l1), some (.int l2), some (.int l3), some (.int l4), some (.int l5), none, none, some (.int l8), some (.int l9), some (.int l10), some (.int s0)]) (st' := [.int l2]) rfl ?_
    refine e_drp [true, true, true, true, true, true, false, false, true, true, false, true] (L' := [some (.ref l0), some (.int l1), some (.int l2), some (.int l3), some (.int l4), some (.int l5), none, none, some (.int l8), some (.int l9), none, some (.int s0)]) rfl ?_
    exact x_X7_walk_183 hB36 h
def V_X7_walk_141 (K : Rs → Mm → Prop) (B36 : Mm → Nat → Int32 → Int32 → Int32 → Int32 → Int32 → Int32 → Prop) (M : Mm) (l0 : Nat) (l1 : Int32) (l2 : Int32) (l3 : Int32) (l4 : Int32) (l5 : Int32) (l7 : Int32) (l8 : Int32) (l9 : Int32) (l11 : Int32) (s0 : Int32) : Prop := (ob M l0 7 ∧ V_X7_endOf (kI (fun r3 M2 => ((l11 ≤ r3 → V_X7_walk_169 K B36 M2 l0 l1 l2 l3 l4 l5 l8 l9 s0 l11) ∧ (¬ l11 ≤ r3 → (ob M2 l0 7 ∧ V_X7_endOf (kI (fun r6 M5 => V_X7_walk_169 K B36 M5 l0 l1 l2 l3 l4 l5 l8 l9 s0 r6) (fun _ _ => False)) M2 l0 l5 l7)))) (fun _ _ => False)) M l0 l5 l7)
set_option maxRecDepth 100000 in
set_option maxHeartbeats 4000000 in
theorem x_X7_walk_141 {G : Gx} {K : Rs → Mm → Prop} {B36 : Mm → Nat → Int32 → Int32 → Int32 → Int32 → Int32 → Int32 → Prop} (hB36 : ∀ M l0 l1 l2 l3 l4 l5 l6, B36 M l0 l1 l2 l3 l4 l5 l6 → E G mi_X7_walk K M 0 0 36 [some (.ref l0), some (.int l1), some (.int l2), some (.int l3), some (.int l4), some (.int l5), some (.int l6), none, none, none, none, none] []) {M : Mm} {l0 : Nat} {l1 : Int32} {l2 : Int32} {l3 : Int32} {l4 : Int32} {l5 : Int32} {l7 : Int32} {l8 : Int32} {l9 : Int32} {l11 : Int32} {s0 : Int32} (h : V_X7_walk_141 K B36 M l0 l1 l2 l3 l4 l5 l7 l8 l9 l11 s0) : E G mi_X7_walk K M 0 0 141 [some (.ref l0), some (.int l1), some (.int l2), some (.int l3), some (.int l4), some (.int l5), none, some (.int l7), some (.int l8), some (.int l9), none, some (.int l11)] [.int s0] := by
  unfold V_X7_walk_141 at h
  refine e_blk 5 141 _ _ (pc' := 150) (L' := [some (.ref l0), some (.int l1), some (.int l2), some (.int l3), some (.int l4), some (.int l5), none, some (.int l7), some (.int l8), some (.int l9), some (.int s0), some (.int l11)]) (st' := [.int l7, .int l5, .ref l0, .int l11]) rfl ?_
  obtain ⟨ho1, h⟩ := h
  refine e_callV (As := [.int l5, .int l7]) (rest := [.int l11]) (ci := 7) rfl (x_X7_endOf h) ho1 rfl rfl rfl (aw (i := 1318) (by decide +kernel) rfl) wn_X7_endOf wv_X7_endOf wi_X7_endOf wc_X7_endOf (show cok mi_X7_walk mi_X7_endOf 0 0 2 = true by decide +kernel) (Nat.le_of_ble_eq_true rfl) (fun v9 M2 hq => ?_) (fun X M9 hq => False.elim hq)
  obtain ⟨r3, rfl, h⟩ := kI_l hq
  refine e_icmp_le 167 rfl rfl (fun hc => ?_) (fun hc => ?_)
  · replace h := h.1 hc
    refine e_blk 1 167 _ _ (pc' := 169) (L' := [some (.ref l0), some (.int l1), some (.int l2), some (.int l3), some (.int l4), some (.int l5), none, some (.int l7), some (.int l8), some (.int l9), some (.int s0), some (.int l11)]) (st' := [.int l11]) rfl ?_
    refine e_drp [true, true, true, true, true, true, false, false, true, true, true, false] (L' := [some (.ref l0), some (.int l1), some (.int l2), some (.int l3), some (.int l4), some (.int l5), none, none, some (.int l8), some (.int l9), some (.int s0), none]) rfl ?_
    exact x_X7_walk_169 hB36 h
  · replace h := h.2 hc
    refine e_blk 3 156 _ _ (pc' := 161) (L' := [some (.ref l0), some (.int l1), some (.int l2), some (.int l3), some (.int l4), some (.int l5), none, some (.int l7), some (.int l8), some (.int l9), some (.int s0), some (.int l11)]) (st' := [.int l7, .int l5, .ref l0]) rfl ?_
    obtain ⟨ho4, h⟩ := h
    refine e_callV (As := [.int l5, .int l7]) (rest := []) (ci := 7) rfl (x_X7_endOf h) ho4 rfl rfl rfl (aw (i := 1318) (by decide +kernel) rfl) wn_X7_endOf wv_X7_endOf wi_X7_endOf wc_X7_endOf (show cok mi_X7_walk mi_X7_endOf 0 0 2 = true by decide +kernel) (Nat.le_of_ble_eq_true rfl) (fun v9 M5 hq => ?_) (fun X M9 hq => False.elim hq)
    obtain ⟨r6, rfl, h⟩ := kI_l hq
    refine e_blk 1 164 _ _ (pc' := 169) (L' := [some (.ref l0), some (.int l1), some (.int l2), some (.int l3), some (.int l4), some (.int l5), none, some (.int l7), some (.int l8), some (.int l9), some (.int s0), some (.int l11)]) (st' := [.int r6]) rfl ?_
    refine e_drp [true, true, true, true, true, true, false, false, true, true, true, false] (L' := [some (.ref l0), some (.int l1), some (.int l2), some (.int l3), some (.int l4), some (.int l5), none, none, some (.int l8), some (.int l9), some (.int s0), none]) rfl ?_
    exact x_X7_walk_169 hB36 h
def V_X7_walk_61 (K : Rs → Mm → Prop) (B36 : Mm → Nat → Int32 → Int32 → Int32 → Int32 → Int32 → Int32 → Prop) (M : Mm) (l0 : Nat) (l1 : Int32) (l2 : Int32) (l3 : Int32) (l4 : Int32) (l5 : Int32) (l6 : Int32) : Prop := (ob M l0 7 ∧ V_X7_stretch (kI (fun r3 M2 => (ob M2 l0 7 ∧ V_X7_offsetOf (kI (fun r6 M5 => V_X7_floor (kI (fun r8 M7 => ∀ x9 : Int32, x9 = (((1440 : Int32) * r8) - r6) → ∀ x10 : Int32, x10 = ((x9 + (1440 : Int32)) - (1 : Int32)) → (ob M7 l0 7 ∧ V_X7_beginOf (kI (fun r13 M12 => ((r13 ≤ x9 → V_X7_walk_141 K B36 M12 l0 l1 l2 l3 l4 l5 r3 r6 r8 x10 x9) ∧ (¬ r13 ≤ x9 → (ob M12 l0 7 ∧ V_X7_beginOf (kI (fun r16 M15 => V_X7_walk_141 K B36 M15 l0 l1 l2 l3 l4 l5 r3 r6 r8 x10 r16) (fun _ _ => False)) M12 l0 l5 r3)))) (fun _ _ => False)) M7 l0 l5 r3)) (fun _ _ => False)) M5 (l6 + r6) (1440 : Int32)) (fun _ _ => False)) M2 l0 l5 r3)) (fun _ _ => False)) M l0 l5 l6)
set_option maxRecDepth 100000 in
set_option maxHeartbeats 4000000 in
theorem x_X7_walk_61 {G : Gx} {K : Rs → Mm → Prop} {B36 : Mm → Nat → Int32 → Int32 → Int32 → Int32 → Int32 → Int32 → Prop} (hB36 : ∀ M l0 l1 l2 l3 l4 l5 l6, B36 M l0 l1 l2 l3 l4 l5 l6 → E G mi_X7_walk K M 0 0 36 [some (.ref l0), some (.int l1), some (.int l2), some (.int l3), some (.int l4), some (.int l5), some (.int l6), none, none, none, none, none] []) {M : Mm} {l0 : Nat} {l1 : Int32} {l2 : Int32} {l3 : Int32} {l4 : Int32} {l5 : Int32} {l6 : Int32} (h : V_X7_walk_61 K B36 M l0 l1 l2 l3 l4 l5 l6) : E G mi_X7_walk K M 0 0 61 [some (.ref l0), some (.int l1), some (.int l2), some (.int l3), some (.int l4), some (.int l5), some (.int l6), none, none, none, none, none] [] := by
  unfold V_X7_walk_61 at h
  refine e_blk 3 61 _ _ (pc' := 66) (L' := [some (.ref l0), some (.int l1), some (.int l2), some (.int l3), some (.int l4), some (.int l5), some (.int l6), none, none, none, none, none]) (st' := [.int l6, .int l5, .ref l0]) rfl ?_
  obtain ⟨ho1, h⟩ := h
  refine e_callV (As := [.int l5, .int l6]) (rest := []) (ci := 7) rfl (x_X7_stretch h) ho1 rfl rfl rfl (aw (i := 1275) (by decide +kernel) rfl) wn_X7_stretch wv_X7_stretch wi_X7_stretch wc_X7_stretch (show cok mi_X7_walk mi_X7_stretch 0 0 2 = true by decide +kernel) (Nat.le_of_ble_eq_true rfl) (fun v9 M2 hq => ?_) (fun X M9 hq => False.elim hq)
  obtain ⟨r3, rfl, h⟩ := kI_l hq
  refine e_blk 4 69 _ _ (pc' := 76) (L' := [some (.ref l0), some (.int l1), some (.int l2), some (.int l3), some (.int l4), some (.int l5), some (.int l6), some (.int r3), none, none, none, none]) (st' := [.int r3, .int l5, .ref l0]) rfl ?_
  obtain ⟨ho4, h⟩ := h
  refine e_callV (As := [.int l5, .int r3]) (rest := []) (ci := 7) rfl (x_X7_offsetOf h) ho4 rfl rfl rfl (aw (i := 1279) (by decide +kernel) rfl) wn_X7_offsetOf wv_X7_offsetOf wi_X7_offsetOf wc_X7_offsetOf (show cok mi_X7_walk mi_X7_offsetOf 0 0 2 = true by decide +kernel) (Nat.le_of_ble_eq_true rfl) (fun v9 M5 hq => ?_) (fun X M9 hq => False.elim hq)
  obtain ⟨r6, rfl, h⟩ := kI_l hq
  refine e_blk 5 79 _ _ (pc' := 89) (L' := [some (.ref l0), some (.int l1), some (.int l2), some (.int l3), some (.int l4), some (.int l5), some (.int l6), some (.int r3), some (.int r6), none, none, none]) (st' := [.int (1440 : Int32), .int (l6 + r6)]) rfl ?_
  refine e_callS (As := [.int (l6 + r6), .int (1440 : Int32)]) (rest := []) rfl (x_X7_floor h) rfl (aw (i := 1283) (by decide +kernel) rfl) ws_X7_floor wi_X7_floor wc_X7_floor (show cok mi_X7_walk mi_X7_floor 0 0 2 = true by decide +kernel) (Nat.le_of_ble_eq_true rfl) (fun v9 M7 hq => ?_) (fun X M9 hq => False.elim hq)
  obtain ⟨r8, rfl, h⟩ := kI_l hq
  refine e_blk 17 92 _ _ (pc' := 122) (L' := [some (.ref l0), some (.int l1), some (.int l2), some (.int l3), some (.int l4), some (.int l5), some (.int l6), some (.int r3), some (.int r6), some (.int r8), some (.int (((1440 : Int32) * r8) - r6)), some (.int (((((1440 : Int32) * r8) - r6) + (1440 : Int32)) - (1 : Int32)))]) (st' := [.int r3, .int l5, .ref l0, .int (((1440 : Int32) * r8) - r6)]) rfl ?_
  generalize hx_x9 : ((((1440 : Int32) * r8) - r6) : Int32) = x9
  replace h := h x9 hx_x9.symm
  generalize hx_x10 : (((x9 + (1440 : Int32)) - (1 : Int32)) : Int32) = x10
  replace h := h x10 hx_x10.symm
  obtain ⟨ho11, h⟩ := h
  refine e_callV (As := [.int l5, .int r3]) (rest := [.int x9]) (ci := 7) rfl (x_X7_beginOf h) ho11 rfl rfl rfl (aw (i := 1314) (by decide +kernel) rfl) wn_X7_beginOf wv_X7_beginOf wi_X7_beginOf wc_X7_beginOf (show cok mi_X7_walk mi_X7_beginOf 0 0 2 = true by decide +kernel) (Nat.le_of_ble_eq_true rfl) (fun v9 M12 hq => ?_) (fun X M9 hq => False.elim hq)
  obtain ⟨r13, rfl, h⟩ := kI_l hq
  refine e_icmp_ge 139 rfl rfl (fun hc => ?_) (fun hc => ?_)
  · replace h := h.1 hc
    refine e_blk 1 139 _ _ (pc' := 141) (L' := [some (.ref l0), some (.int l1), some (.int l2), some (.int l3), some (.int l4), some (.int l5), some (.int l6), some (.int r3), some (.int r6), some (.int r8), some (.int x9), some (.int x10)]) (st' := [.int x9]) rfl ?_
    refine e_drp [true, true, true, true, true, true, false, true, true, true, false, true] (L' := [some (.ref l0), some (.int l1), some (.int l2), some (.int l3), some (.int l4), some (.int l5), none, some (.int r3), some (.int r6), some (.int r8), none, some (.int x10)]) rfl ?_
    exact x_X7_walk_141 hB36 h
  · replace h := h.2 hc
    refine e_blk 3 128 _ _ (pc' := 133) (L' := [some (.ref l0), some (.int l1), some (.int l2), some (.int l3), some (.int l4), some (.int l5), some (.int l6), some (.int r3), some (.int r6), some (.int r8), some (.int x9), some (.int x10)]) (st' := [.int r3, .int l5, .ref l0]) rfl ?_
    obtain ⟨ho14, h⟩ := h
    refine e_callV (As := [.int l5, .int r3]) (rest := []) (ci := 7) rfl (x_X7_beginOf h) ho14 rfl rfl rfl (aw (i := 1314) (by decide +kernel) rfl) wn_X7_beginOf wv_X7_beginOf wi_X7_beginOf wc_X7_beginOf (show cok mi_X7_walk mi_X7_beginOf 0 0 2 = true by decide +kernel) (Nat.le_of_ble_eq_true rfl) (fun v9 M15 hq => ?_) (fun X M9 hq => False.elim hq)
    obtain ⟨r16, rfl, h⟩ := kI_l hq
    refine e_blk 1 136 _ _ (pc' := 141) (L' := [some (.ref l0), some (.int l1), some (.int l2), some (.int l3), some (.int l4), some (.int l5), some (.int l6), some (.int r3), some (.int r6), some (.int r8), some (.int x9), some (.int x10)]) (st' := [.int r16]) rfl ?_
    refine e_drp [true, true, true, true, true, true, false, true, true, true, false, true] (L' := [some (.ref l0), some (.int l1), some (.int l2), some (.int l3), some (.int l4), some (.int l5), none, some (.int r3), some (.int r6), some (.int r8), none, some (.int x10)]) rfl ?_
    exact x_X7_walk_141 hB36 h
def V_X7_walk_36 (K : Rs → Mm → Prop)  : Nat → Mm → Nat → Int32 → Int32 → Int32 → Int32 → Int32 → Int32 → Prop
  | 0, _, _, _, _, _, _, _, _ => False
  | z + 1, M, l0, l1, l2, l3, l4, l5, l6 => ((l6 < l2 → V_X7_walk_267 K  M ) ∧ (¬ l6 < l2 → ((l3 < l6 → V_X7_walk_267 K  M ) ∧ (¬ l3 < l6 → ((l4 = (2 : Int32) → V_X7_walk_61 K (fun M l0 l1 l2 l3 l4 l5 l6 => V_X7_walk_36 K  z M l0 l1 l2 l3 l4 l5 l6) M l0 l1 l2 l3 l4 l5 l6) ∧ (¬ l4 = (2 : Int32) → (ob M l0 7 ∧ ((¬ (mI M l0 49) = 0 → V_X7_walk_267 K  M ) ∧ ((mI M l0 49) = 0 → V_X7_walk_61 K (fun M l0 l1 l2 l3 l4 l5 l6 => V_X7_walk_36 K  z M l0 l1 l2 l3 l4 l5 l6) M l0 l1 l2 l3 l4 l5 l6)))))))))
set_option maxRecDepth 100000 in
set_option maxHeartbeats 4000000 in
theorem x_X7_walk_36 {G : Gx} {K : Rs → Mm → Prop}  : ∀ (z : Nat) (M : Mm) (l0 : Nat) (l1 : Int32) (l2 : Int32) (l3 : Int32) (l4 : Int32) (l5 : Int32) (l6 : Int32), V_X7_walk_36 K  z M l0 l1 l2 l3 l4 l5 l6 → E G mi_X7_walk K M 0 0 36 [some (.ref l0), some (.int l1), some (.int l2), some (.int l3), some (.int l4), some (.int l5), some (.int l6), none, none, none, none, none] []
  | 0, M, l0, l1, l2, l3, l4, l5, l6, h => False.elim h
  | z + 1, M, l0, l1, l2, l3, l4, l5, l6, h => by
    unfold V_X7_walk_36 at h
    refine e_blk 2 36 _ _ (pc' := 39) (L' := [some (.ref l0), some (.int l1), some (.int l2), some (.int l3), some (.int l4), some (.int l5), some (.int l6), none, none, none, none, none]) (st' := [.int l2, .int l6]) rfl ?_
    refine e_icmp_lt 267 rfl rfl (fun hc => ?_) (fun hc => ?_)
    · replace h := h.1 hc
      refine e_drp [false, false, false, false, false, false, false, false, false, false, false, false] (L' := [none, none, none, none, none, none, none, none, none, none, none, none]) rfl ?_
      exact x_X7_walk_267  h
    · replace h := h.2 hc
      refine e_blk 2 42 _ _ (pc' := 45) (L' := [some (.ref l0), some (.int l1), some (.int l2), some (.int l3), some (.int l4), some (.int l5), some (.int l6), none, none, none, none, none]) (st' := [.int l3, .int l6]) rfl ?_
      refine e_icmp_gt 267 rfl rfl (fun hc => ?_) (fun hc => ?_)
      · replace h := h.1 hc
        refine e_drp [false, false, false, false, false, false, false, false, false, false, false, false] (L' := [none, none, none, none, none, none, none, none, none, none, none, none]) rfl ?_
        exact x_X7_walk_267  h
      · replace h := h.2 hc
        refine e_blk 2 48 _ _ (pc' := 51) (L' := [some (.ref l0), some (.int l1), some (.int l2), some (.int l3), some (.int l4), some (.int l5), some (.int l6), none, none, none, none, none]) (st' := [.int (2 : Int32), .int l4]) rfl ?_
        refine e_icmp_eq 61 rfl rfl (fun hc => ?_) (fun hc => ?_)
        · replace h := h.1 hc
          refine e_drp [true, true, true, true, true, true, true, false, false, false, false, false] (L' := [some (.ref l0), some (.int l1), some (.int l2), some (.int l3), some (.int l4), some (.int l5), some (.int l6), none, none, none, none, none]) rfl ?_
          exact x_X7_walk_61 (fun M l0 l1 l2 l3 l4 l5 l6 h => x_X7_walk_36  z M l0 l1 l2 l3 l4 l5 l6 h) h
        · replace h := h.2 hc
          refine e_blk 1 54 _ _ (pc' := 55) (L' := [some (.ref l0), some (.int l1), some (.int l2), some (.int l3), some (.int l4), some (.int l5), some (.int l6), none, none, none, none, none]) (st' := [.ref l0]) rfl ?_
          obtain ⟨ho1, h⟩ := h
          refine e_getI 7 49 rfl rfl (by decide) (aw (i := 1114) (by decide +kernel) rfl) ho1 rfl ?_
          refine e_if_ne 267 rfl rfl (fun hc => ?_) (fun hc => ?_)
          · replace h := h.1 hc
            refine e_drp [false, false, false, false, false, false, false, false, false, false, false, false] (L' := [none, none, none, none, none, none, none, none, none, none, none, none]) rfl ?_
            exact x_X7_walk_267  h
          · replace h := h.2 hc
            refine e_drp [true, true, true, true, true, true, true, false, false, false, false, false] (L' := [some (.ref l0), some (.int l1), some (.int l2), some (.int l3), some (.int l4), some (.int l5), some (.int l6), none, none, none, none, none]) rfl ?_
            exact x_X7_walk_61 (fun M l0 l1 l2 l3 l4 l5 l6 h => x_X7_walk_36  z M l0 l1 l2 l3 l4 l5 l6 h) h
def V_X7_walk_34 (K : Rs → Mm → Prop)  (M : Mm) (l0 : Nat) (l1 : Int32) (l2 : Int32) (l3 : Int32) (l4 : Int32) (l5 : Int32) (s0 : Int32) : Prop := ∃ y, V_X7_walk_36 K  y M l0 l1 l2 l3 l4 l5 s0
set_option maxRecDepth 100000 in
set_option maxHeartbeats 4000000 in
theorem x_X7_walk_34 {G : Gx} {K : Rs → Mm → Prop}  {M : Mm} {l0 : Nat} {l1 : Int32} {l2 : Int32} {l3 : Int32} {l4 : Int32} {l5 : Int32} {s0 : Int32} (h : V_X7_walk_34 K  M l0 l1 l2 l3 l4 l5 s0) : E G mi_X7_walk K M 0 0 34 [some (.ref l0), some (.int l1), some (.int l2), some (.int l3), some (.int l4), some (.int l5), none, none, none, none, none, none] [.int s0] := by
  unfold V_X7_walk_34 at h
  refine e_blk 1 34 _ _ (pc' := 36) (L' := [some (.ref l0), some (.int l1), some (.int l2), some (.int l3), some (.int l4), some (.int l5), some (.int s0), none, none, none, none, none]) (st' := []) rfl ?_
  refine e_drp [true, true, true, true, true, true, true, false, false, false, false, false] (L' := [some (.ref l0), some (.int l1), some (.int l2), some (.int l3), some (.int l4), some (.int l5), some (.int s0), none, none, none, none, none]) rfl ?_
  obtain ⟨y, h⟩ := h
  exact x_X7_walk_36  y _ _ _ _ _ _ _ _ h
def V_X7_walk (K : Rs → Mm → Prop) (M : Mm) (a0 : Nat) (a1 : Int32) (a2 : Int32) (a3 : Int32) (a4 : Int32) : Prop := (ob M a0 7 ∧ ∀ M2, M2 = sI M a0 49 (0 : Int32) → ∀ M3, M3 = sI M2 a0 50 (-1 : Int32) → ∀ M4, M4 = sI M3 a0 51 (-1 : Int32) → ∃ b5, mP M4 a0 27 = some b5 ∧ (ob M4 b5 9 ∧ (vp_in a1 (mN M4 b5) ∧ ∀ x8 : Int32, x8 = (mI M4 b5 (a1).toNatClampNeg) → ((¬ a4 = (1 : Int32) → V_X7_walk_34 K  M4 a0 a1 a2 a3 a4 x8 a2) ∧ (a4 = (1 : Int32) → V_X7_walk_34 K  M4 a0 a1 a2 a3 a4 x8 a3)))))
set_option maxRecDepth 100000 in
set_option maxHeartbeats 4000000 in
theorem x_X7_walk {G : Gx} {K : Rs → Mm → Prop} {M : Mm} {a0 : Nat} {a1 : Int32} {a2 : Int32} {a3 : Int32} {a4 : Int32} (h : V_X7_walk K M a0 a1 a2 a3 a4) : MC G mi_X7_walk [.ref a0, .int a1, .int a2, .int a3, .int a4] M K := by
  unfold V_X7_walk at h
  refine mc_of rfl (by decide +kernel) dc_X7_walk (Nat.le_of_ble_eq_true rfl) 7 (Nat.le_of_ble_eq_true rfl) ?_
  show E G mi_X7_walk K M 0 0 0 [some (.ref a0), some (.int a1), some (.int a2), some (.int a3), some (.int a4), none, none, none, none, none, none, none] []
  refine e_blk 2 0 _ _ (pc' := 2) (L' := [some (.ref a0), some (.int a1), some (.int a2), some (.int a3), some (.int a4), none, none, none, none, none, none, none]) (st' := [.int (0 : Int32), .ref a0]) rfl ?_
  obtain ⟨ho1, h⟩ := h
  refine e_putI 7 49 rfl rfl (by decide) (aw (i := 1114) (by decide +kernel) rfl) rfl ho1 rfl ?_
  generalize hM2 : sI M a0 49 (0 : Int32) = M2
  replace h := h M2 hM2.symm
  replace ho1 : ob M2 a0 7 := hM2 ▸ ob_sI ho1
  refine e_blk 2 5 _ _ (pc' := 7) (L' := [some (.ref a0), some (.int a1), some (.int a2), some (.int a3), some (.int a4), none, none, none, none, none, none, none]) (st' := [.int (-1 : Int32), .ref a0]) rfl ?_
  refine e_putI 7 50 rfl rfl (by decide) (aw (i := 1115) (by decide +kernel) rfl) rfl ho1 rfl ?_
  generalize hM3 : sI M2 a0 50 (-1 : Int32) = M3
  replace h := h M3 hM3.symm
  replace ho1 : ob M3 a0 7 := hM3 ▸ ob_sI ho1
  refine e_blk 2 10 _ _ (pc' := 12) (L' := [some (.ref a0), some (.int a1), some (.int a2), some (.int a3), some (.int a4), none, none, none, none, none, none, none]) (st' := [.int (-1 : Int32), .ref a0]) rfl ?_
  refine e_putI 7 51 rfl rfl (by decide) (aw (i := 1116) (by decide +kernel) rfl) rfl ho1 rfl ?_
  generalize hM4 : sI M3 a0 51 (-1 : Int32) = M4
  replace h := h M4 hM4.symm
  replace ho1 : ob M4 a0 7 := hM4 ▸ ob_sI ho1
  refine e_blk 1 15 _ _ (pc' := 16) (L' := [some (.ref a0), some (.int a1), some (.int a2), some (.int a3), some (.int a4), none, none, none, none, none, none, none]) (st' := [.ref a0]) rfl ?_
  obtain ⟨b5, hbb5, h⟩ := h
  refine e_getR 7 27 rfl rfl (by decide) (aw (i := 1092) (by decide +kernel) rfl) ho1 rfl hbb5 ?_
  refine e_blk 1 19 _ _ (pc' := 20) (L' := [some (.ref a0), some (.int a1), some (.int a2), some (.int a3), some (.int a4), none, none, none, none, none, none, none]) (st' := [.int a1, .ref b5]) rfl ?_
  obtain ⟨ho6, h⟩ := h
  obtain ⟨hi7, h⟩ := h
  refine e_iald rfl ho6 hi7 ?_
  refine e_blk 3 21 _ _ (pc' := 26) (L' := [some (.ref a0), some (.int a1), some (.int a2), some (.int a3), some (.int a4), some (.int (mI M4 b5 (a1).toNatClampNeg)), none, none, none, none, none, none]) (st' := [.int (1 : Int32), .int a4]) rfl ?_
  generalize hx_x8 : ((mI M4 b5 (a1).toNatClampNeg) : Int32) = x8
  replace h := h x8 hx_x8.symm
  refine e_icmp_ne 33 rfl rfl (fun hc => ?_) (fun hc => ?_)
  · replace h := h.1 hc
    refine e_blk 1 33 _ _ (pc' := 34) (L' := [some (.ref a0), some (.int a1), some (.int a2), some (.int a3), some (.int a4), some (.int x8), none, none, none, none, none, none]) (st' := [.int a2]) rfl ?_
    refine e_drp [true, true, true, true, true, true, false, false, false, false, false, false] (L' := [some (.ref a0), some (.int a1), some (.int a2), some (.int a3), some (.int a4), some (.int x8), none, none, none, none, none, none]) rfl ?_
    exact x_X7_walk_34  h
  · replace h := h.2 hc
    refine e_blk 2 29 _ _ (pc' := 34) (L' := [some (.ref a0), some (.int a1), some (.int a2), some (.int a3), some (.int a4), some (.int x8), none, none, none, none, none, none]) (st' := [.int a3]) rfl ?_
    refine e_drp [true, true, true, true, true, true, false, false, false, false, false, false] (L' := [some (.ref a0), some (.int a1), some (.int a2), some (.int a3), some (.int a4), some (.int x8), none, none, none, none, none, none]) rfl ?_
    exact x_X7_walk_34  h
def V_X7_next_87 (K : Rs → Mm → Prop)  (M : Mm) (l0 : Nat) (s0 : Nat) (s1 : Int32) (s2 : Int32) (s3 : Int32) : Prop := (ob M s0 7 ∧ V_X7_walk (kV (fun M2 => (ob M2 l0 7 ∧ K (.inl (some (.int (mI M2 l0 50)))) M2)) (fun _ _ => False)) M s0 s1 s2 s3 (0 : Int32))
set_option maxRecDepth 100000 in
set_option maxHeartbeats 4000000 in
theorem x_X7_next_87 {G : Gx} {K : Rs → Mm → Prop}  {M : Mm} {l0 : Nat} {s0 : Nat} {s1 : Int32} {s2 : Int32} {s3 : Int32} (h : V_X7_next_87 K  M l0 s0 s1 s2 s3) : E G mi_X7_next K M 0 0 87 [some (.ref l0), none, none, none, none, none] [.int s3, .int s2, .int s1, .ref s0] := by
  unfold V_X7_next_87 at h
  refine e_blk 1 87 _ _ (pc' := 88) (L' := [some (.ref l0), none, none, none, none, none]) (st' := [.int (0 : Int32), .int s3, .int s2, .int s1, .ref s0]) rfl ?_
  obtain ⟨ho1, h⟩ := h
  refine e_callV (As := [.int s1, .int s2, .int s3, .int (0 : Int32)]) (rest := []) (ci := 7) rfl (x_X7_walk h) ho1 rfl rfl rfl (aw (i := 1521) (by decide +kernel) rfl) wn_X7_walk wv_X7_walk wi_X7_walk wc_X7_walk (show cok mi_X7_next mi_X7_walk 0 0 4 = true by decide +kernel) (Nat.le_of_ble_eq_true rfl) (fun v9 M2 hq => ?_) (fun X M9 hq => False.elim hq)
  obtain ⟨rfl, h⟩ := kV_l hq
  refine e_blk 1 91 _ _ (pc' := 92) (L' := [some (.ref l0), none, none, none, none, none]) (st' := [.ref l0]) rfl ?_
  obtain ⟨ho3, h⟩ := h
  refine e_getI 7 50 rfl rfl (by decide) (aw (i := 1115) (by decide +kernel) rfl) ho3 rfl ?_
  exact e_reti rfl rfl (by decide) (by decide) h
def V_X7_next_42 (K : Rs → Mm → Prop)  (M : Mm) (l0 : Nat) (l1 : Int32) (l2 : Int32) (l3 : Int32) (s0 : Nat) (s1 : Int32) : Prop := (ob M s0 7 ∧ ∀ M2, M2 = sI M s0 0 s1 → (ob M2 l0 7 ∧ (((mI M2 l0 0) ≤ 0 → ∀ x4 : Int64, x4 = (((l2).toInt64) + ((1440 : Int64) * ((l3).toInt64))) → (((lg_cmp x4 (157785119 : Int64)) ≤ 0 → V_X7_next_87 K  M2 l0 l0 l1 (l2 + (1 : Int32)) ((x4).toInt32)) ∧ (¬ (lg_cmp x4 (157785119 : Int64)) ≤ 0 → V_X7_next_87 K  M2 l0 l0 l1 (l2 + (1 : Int32)) (157785119 : Int32)))) ∧ (¬ (mI M2 l0 0) ≤ 0 → K (.inl (some (.int (0 : Int32)))) M2))))
set_option maxRecDepth 100000 in
set_option maxHeartbeats 4000000 in
theorem x_X7_next_42 {G : Gx} {K : Rs → Mm → Prop}  {M : Mm} {l0 : Nat} {l1 : Int32} {l2 : Int32} {l3 : Int32} {s0 : Nat} {s1 : Int32} (h : V_X7_next_42 K  M l0 l1 l2 l3 s0 s1) : E G mi_X7_next K M 0 0 42 [some (.ref l0), some (.int l1), some (.int l2), some (.int l3), none, none] [.int s1, .ref s0] := by
  unfold V_X7_next_42 at h
  obtain ⟨ho1, h⟩ := h
  refine e_putI 7 0 rfl rfl (by decide) (aw (i := 1065) (by decide +kernel) rfl) rfl ho1 rfl ?_
  generalize hM2 : sI M s0 0 s1 = M2
  replace h := h M2 hM2.symm
  replace ho1 : ob M2 s0 7 := hM2 ▸ ob_sI ho1
  refine e_blk 1 45 _ _ (pc' := 46) (L' := [some (.ref l0), some (.int l1), some (.int l2), some (.int l3), none, none]) (st' := [.ref l0]) rfl ?_
  obtain ⟨ho3, h⟩ := h
  refine e_getI 7 0 rfl rfl (by decide) (aw (i := 1065) (by decide +kernel) rfl) ho3 rfl ?_
  refine e_if_le 54 rfl rfl (fun hc => ?_) (fun hc => ?_)
  · replace h := h.1 hc
    refine e_blk 2 54 _ _ (pc' := 56) (L' := [some (.ref l0), some (.int l1), some (.int l2), some (.int l3), none, none]) (st' := [.long ((l2).toInt64)]) rfl ?_
    refine e_ldc2 (1440) rfl (aw (i := 1520) (by decide +kernel) rfl) ?_
    refine e_blk 11 59 _ _ (pc' := 72) (L' := [some (.ref l0), some (.int l1), some (.int l2), some (.int l3), some (.long (((l2).toInt64) + ((1440 : Int64) * ((l3).toInt64)))), none]) (st' := [.long (((l2).toInt64) + ((1440 : Int64) * ((l3).toInt64))), .int (l2 + (1 : Int32)), .int l1, .ref l0]) rfl ?_
    generalize hx_x4 : ((((l2).toInt64) + ((1440 : Int64) * ((l3).toInt64))) : Int64) = x4
    replace h := h x4 hx_x4.symm
    refine e_ldc2 (157785119) rfl (aw (i := 1269) (by decide +kernel) rfl) ?_
    refine e_blk 1 75 _ _ (pc' := 76) (L' := [some (.ref l0), some (.int l1), some (.int l2), some (.int l3), some (.long x4), none]) (st' := [.int (lg_cmp x4 (157785119 : Int64)), .int (l2 + (1 : Int32)), .int l1, .ref l0]) rfl ?_
    refine e_if_le 84 rfl rfl (fun hc => ?_) (fun hc => ?_)
    · replace h := h.1 hc
      refine e_blk 2 84 _ _ (pc' := 87) (L' := [some (.ref l0), some (.int l1), some (.int l2), some (.int l3), some (.long x4), none]) (st' := [.int ((x4).toInt32), .int (l2 + (1 : Int32)), .int l1, .ref l0]) rfl ?_
      refine e_drp [true, false, false, false, false, false] (L' := [some (.ref l0), none, none, none, none, none]) rfl ?_
      exact x_X7_next_87  h
    · replace h := h.2 hc
      refine e_ldc (157785119) rfl (aw (i := 1322) (by decide +kernel) rfl) ?_
      refine e_blk 1 81 _ _ (pc' := 87) (L' := [some (.ref l0), some (.int l1), some (.int l2), some (.int l3), some (.long x4), none]) (st' := [.int (157785119 : Int32), .int (l2 + (1 : Int32)), .int l1, .ref l0]) rfl ?_
      refine e_drp [true, false, false, false, false, false] (L' := [some (.ref l0), none, none, none, none, none]) rfl ?_
      exact x_X7_next_87  h
  · replace h := h.2 hc
    refine e_blk 1 52 _ _ (pc' := 53) (L' := [some (.ref l0), some (.int l1), some (.int l2), some (.int l3), none, none]) (st' := [.int (0 : Int32)]) rfl ?_
    exact e_reti rfl rfl (by decide) (by decide) h
def V_X7_next_37 (K : Rs → Mm → Prop)  (M : Mm) (l0 : Nat) (l1 : Int32) (l2 : Int32) (l3 : Int32) (s0 : Nat) : Prop := V_X7_next_42 K  M l0 l1 l2 l3 s0 (2 : Int32)
set_option maxRecDepth 100000 in
set_option maxHeartbeats 4000000 in
theorem x_X7_next_37 {G : Gx} {K : Rs → Mm → Prop}  {M : Mm} {l0 : Nat} {l1 : Int32} {l2 : Int32} {l3 : Int32} {s0 : Nat} (h : V_X7_next_37 K  M l0 l1 l2 l3 s0) : E G mi_X7_next K M 0 0 37 [some (.ref l0), some (.int l1), some (.int l2), some (.int l3), none, none] [.ref s0] := by
  unfold V_X7_next_37 at h
  refine e_blk 2 37 _ _ (pc' := 42) (L' := [some (.ref l0), some (.int l1), some (.int l2), some (.int l3), none, none]) (st' := [.int (2 : Int32), .ref s0]) rfl ?_
  refine e_drp [true, true, true, true, false, false] (L' := [some (.ref l0), some (.int l1), some (.int l2), some (.int l3), none, none]) rfl ?_
  exact x_X7_next_42  h
def V_X7_next (K : Rs → Mm → Prop) (M : Mm) (a0 : Nat) (a1 : Int32) (a2 : Int32) (a3 : Int32) : Prop := (ob M a0 7 ∧ V_X7_none (kI (fun r3 M2 => ((r3 = 0 → V_X7_in (kI (fun r5 M4 => ((r5 = 0 → V_X7_next_37 K  M4 a0 a1 a2 a3 a0) ∧ (¬ r5 = 0 → V_X7_in (kI (fun r7 M6 => ((¬ r7 = 0 → V_X7_next_42 K  M6 a0 a1 a2 a3 a0 (0 : Int32)) ∧ (r7 = 0 → V_X7_next_37 K  M6 a0 a1 a2 a3 a0))) (fun _ _ => False)) M4 ((a3).toInt64) (0 : Int64) (20000 : Int64)))) (fun _ _ => False)) M2 ((a2).toInt64) (0 : Int64) (157785119 : Int64)) ∧ (¬ r3 = 0 → V_X7_next_42 K  M2 a0 a1 a2 a3 a0 (1 : Int32)))) (fun _ _ => False)) M a0 a1)
set_option maxRecDepth 100000 in
set_option maxHeartbeats 4000000 in
theorem x_X7_next {G : Gx} {K : Rs → Mm → Prop} {M : Mm} {a0 : Nat} {a1 : Int32} {a2 : Int32} {a3 : Int32} (h : V_X7_next K M a0 a1 a2 a3) : MC G mi_X7_next [.ref a0, .int a1, .int a2, .int a3] M K := by
  unfold V_X7_next at h
  refine mc_of rfl (by decide +kernel) dc_X7_next (Nat.le_of_ble_eq_true rfl) 2 (Nat.le_of_ble_eq_true rfl) ?_
  show E G mi_X7_next K M 0 0 0 [some (.ref a0), some (.int a1), some (.int a2), some (.int a3), none, none] []
  refine e_blk 3 0 _ _ (pc' := 3) (L' := [some (.ref a0), some (.int a1), some (.int a2), some (.int a3), none, none]) (st' := [.int a1, .ref a0, .ref a0]) rfl ?_
  obtain ⟨ho1, h⟩ := h
  refine e_callV (As := [.int a1]) (rest := [.ref a0]) (ci := 7) rfl (x_X7_none h) ho1 rfl rfl rfl (aw (i := 1449) (by decide +kernel) rfl) wn_X7_none wv_X7_none wi_X7_none wc_X7_none (show cok mi_X7_next mi_X7_none 0 0 1 = true by decide +kernel) (Nat.le_of_ble_eq_true rfl) (fun v9 M2 hq => ?_) (fun X M9 hq => False.elim hq)
  obtain ⟨r3, rfl, h⟩ := kI_l hq
  refine e_if_eq 13 rfl rfl (fun hc => ?_) (fun hc => ?_)
  · replace h := h.1 hc
    refine e_blk 3 13 _ _ (pc' := 16) (L' := [some (.ref a0), some (.int a1), some (.int a2), some (.int a3), none, none]) (st' := [.long (0 : Int64), .long ((a2).toInt64), .ref a0]) rfl ?_
    refine e_ldc2 (157785119) rfl (aw (i := 1269) (by decide +kernel) rfl) ?_
    refine e_callS (As := [.long ((a2).toInt64), .long (0 : Int64), .long (157785119 : Int64)]) (rest := [.ref a0]) rfl (x_X7_in h) rfl (aw (i := 1256) (by decide +kernel) rfl) ws_X7_in wi_X7_in wc_X7_in (show cok mi_X7_next mi_X7_in 0 0 3 = true by decide +kernel) (Nat.le_of_ble_eq_true rfl) (fun v9 M4 hq => ?_) (fun X M9 hq => False.elim hq)
    obtain ⟨r5, rfl, h⟩ := kI_l hq
    refine e_if_eq 37 rfl rfl (fun hc => ?_) (fun hc => ?_)
    · replace h := h.1 hc
      refine e_drp [true, true, true, true, false, false] (L' := [some (.ref a0), some (.int a1), some (.int a2), some (.int a3), none, none]) rfl ?_
      exact x_X7_next_37  h
    · replace h := h.2 hc
      refine e_blk 3 25 _ _ (pc' := 28) (L' := [some (.ref a0), some (.int a1), some (.int a2), some (.int a3), none, none]) (st' := [.long (0 : Int64), .long ((a3).toInt64), .ref a0]) rfl ?_
      refine e_ldc2 (20000) rfl (aw (i := 1519) (by decide +kernel) rfl) ?_
      refine e_callS (As := [.long ((a3).toInt64), .long (0 : Int64), .long (20000 : Int64)]) (rest := [.ref a0]) rfl (x_X7_in h) rfl (aw (i := 1256) (by decide +kernel) rfl) ws_X7_in wi_X7_in wc_X7_in (show cok mi_X7_next mi_X7_in 0 0 3 = true by decide +kernel) (Nat.le_of_ble_eq_true rfl) (fun v9 M6 hq => ?_) (fun X M9 hq => False.elim hq)
      obtain ⟨r7, rfl, h⟩ := kI_l hq
      refine e_if_ne 41 rfl rfl (fun hc => ?_) (fun hc => ?_)
      · replace h := h.1 hc
        refine e_blk 1 41 _ _ (pc' := 42) (L' := [some (.ref a0), some (.int a1), some (.int a2), some (.int a3), none, none]) (st' := [.int (0 : Int32), .ref a0]) rfl ?_
        refine e_drp [true, true, true, true, false, false] (L' := [some (.ref a0), some (.int a1), some (.int a2), some (.int a3), none, none]) rfl ?_
        exact x_X7_next_42  h
      · replace h := h.2 hc
        refine e_drp [true, true, true, true, false, false] (L' := [some (.ref a0), some (.int a1), some (.int a2), some (.int a3), none, none]) rfl ?_
        exact x_X7_next_37  h
  · replace h := h.2 hc
    refine e_blk 2 9 _ _ (pc' := 42) (L' := [some (.ref a0), some (.int a1), some (.int a2), some (.int a3), none, none]) (st' := [.int (1 : Int32), .ref a0]) rfl ?_
    refine e_drp [true, true, true, true, false, false] (L' := [some (.ref a0), some (.int a1), some (.int a2), some (.int a3), none, none]) rfl ?_
    exact x_X7_next_42  h
def V_X7_before_76 (K : Rs → Mm → Prop)  (M : Mm) (l0 : Nat) (l2 : Int32) (s0 : Nat) (s1 : Int32) (s2 : Int32) : Prop := (ob M s0 7 ∧ V_X7_walk (kV (fun M2 => (ob M2 l0 7 ∧ K (.inl (some (.int (mI M2 l0 50)))) M2)) (fun _ _ => False)) M s0 s1 s2 (l2 - (1 : Int32)) (1 : Int32))
set_option maxRecDepth 100000 in
set_option maxHeartbeats 4000000 in
theorem x_X7_before_76 {G : Gx} {K : Rs → Mm → Prop}  {M : Mm} {l0 : Nat} {l2 : Int32} {s0 : Nat} {s1 : Int32} {s2 : Int32} (h : V_X7_before_76 K  M l0 l2 s0 s1 s2) : E G mi_X7_before K M 0 0 76 [some (.ref l0), none, some (.int l2), none, none] [.int s2, .int s1, .ref s0] := by
  unfold V_X7_before_76 at h
  refine e_blk 4 76 _ _ (pc' := 80) (L' := [some (.ref l0), none, some (.int l2), none, none]) (st' := [.int (1 : Int32), .int (l2 - (1 : Int32)), .int s2, .int s1, .ref s0]) rfl ?_
  obtain ⟨ho1, h⟩ := h
  refine e_callV (As := [.int s1, .int s2, .int (l2 - (1 : Int32)), .int (1 : Int32)]) (rest := []) (ci := 7) rfl (x_X7_walk h) ho1 rfl rfl rfl (aw (i := 1521) (by decide +kernel) rfl) wn_X7_walk wv_X7_walk wi_X7_walk wc_X7_walk (show cok mi_X7_before mi_X7_walk 0 0 4 = true by decide +kernel) (Nat.le_of_ble_eq_true rfl) (fun v9 M2 hq => ?_) (fun X M9 hq => False.elim hq)
  obtain ⟨rfl, h⟩ := kV_l hq
  refine e_blk 1 83 _ _ (pc' := 84) (L' := [some (.ref l0), none, some (.int l2), none, none]) (st' := [.ref l0]) rfl ?_
  obtain ⟨ho3, h⟩ := h
  refine e_getI 7 50 rfl rfl (by decide) (aw (i := 1115) (by decide +kernel) rfl) ho3 rfl ?_
  exact e_reti rfl rfl (by decide) (by decide) h
def V_X7_before_42 (K : Rs → Mm → Prop)  (M : Mm) (l0 : Nat) (l1 : Int32) (l2 : Int32) (l3 : Int32) (s0 : Nat) (s1 : Int32) : Prop := (ob M s0 7 ∧ ∀ M2, M2 = sI M s0 0 s1 → (ob M2 l0 7 ∧ (((mI M2 l0 0) ≤ 0 → ∀ x4 : Int32, x4 = (l2 - ((1440 : Int32) * l3)) → ((0 ≤ x4 → V_X7_before_76 K  M2 l0 l2 l0 l1 x4) ∧ (¬ 0 ≤ x4 → V_X7_before_76 K  M2 l0 l2 l0 l1 (0 : Int32)))) ∧ (¬ (mI M2 l0 0) ≤ 0 → K (.inl (some (.int (0 : Int32)))) M2))))
set_option maxRecDepth 100000 in
set_option maxHeartbeats 4000000 in
theorem x_X7_before_42 {G : Gx} {K : Rs → Mm → Prop}  {M : Mm} {l0 : Nat} {l1 : Int32} {l2 : Int32} {l3 : Int32} {s0 : Nat} {s1 : Int32} (h : V_X7_before_42 K  M l0 l1 l2 l3 s0 s1) : E G mi_X7_before K M 0 0 42 [some (.ref l0), some (.int l1), some (.int l2), some (.int l3), none] [.int s1, .ref s0] := by
  unfold V_X7_before_42 at h
  obtain ⟨ho1, h⟩ := h
  refine e_putI 7 0 rfl rfl (by decide) (aw (i := 1065) (by decide +kernel) rfl) rfl ho1 rfl ?_
  generalize hM2 : sI M s0 0 s1 = M2
  replace h := h M2 hM2.symm
  replace ho1 : ob M2 s0 7 := hM2 ▸ ob_sI ho1
  refine e_blk 1 45 _ _ (pc' := 46) (L' := [some (.ref l0), some (.int l1), some (.int l2), some (.int l3), none]) (st' := [.ref l0]) rfl ?_
  obtain ⟨ho3, h⟩ := h
  refine e_getI 7 0 rfl rfl (by decide) (aw (i := 1065) (by decide +kernel) rfl) ho3 rfl ?_
  refine e_if_le 54 rfl rfl (fun hc => ?_) (fun hc => ?_)
  · replace h := h.1 hc
    refine e_blk 9 54 _ _ (pc' := 67) (L' := [some (.ref l0), some (.int l1), some (.int l2), some (.int l3), some (.int (l2 - ((1440 : Int32) * l3)))]) (st' := [.int (l2 - ((1440 : Int32) * l3)), .int l1, .ref l0]) rfl ?_
    generalize hx_x4 : ((l2 - ((1440 : Int32) * l3)) : Int32) = x4
    replace h := h x4 hx_x4.symm
    refine e_if_ge 74 rfl rfl (fun hc => ?_) (fun hc => ?_)
    · replace h := h.1 hc
      refine e_blk 1 74 _ _ (pc' := 76) (L' := [some (.ref l0), some (.int l1), some (.int l2), some (.int l3), some (.int x4)]) (st' := [.int x4, .int l1, .ref l0]) rfl ?_
      refine e_drp [true, false, true, false, false] (L' := [some (.ref l0), none, some (.int l2), none, none]) rfl ?_
      exact x_X7_before_76  h
    · replace h := h.2 hc
      refine e_blk 2 70 _ _ (pc' := 76) (L' := [some (.ref l0), some (.int l1), some (.int l2), some (.int l3), some (.int x4)]) (st' := [.int (0 : Int32), .int l1, .ref l0]) rfl ?_
      refine e_drp [true, false, true, false, false] (L' := [some (.ref l0), none, some (.int l2), none, none]) rfl ?_
      exact x_X7_before_76  h
  · replace h := h.2 hc
    refine e_blk 1 52 _ _ (pc' := 53) (L' := [some (.ref l0), some (.int l1), some (.int l2), some (.int l3), none]) (st' := [.int (0 : Int32)]) rfl ?_
    exact e_reti rfl rfl (by decide) (by decide) h
def V_X7_before_37 (K : Rs → Mm → Prop)  (M : Mm) (l0 : Nat) (l1 : Int32) (l2 : Int32) (l3 : Int32) (s0 : Nat) : Prop := V_X7_before_42 K  M l0 l1 l2 l3 s0 (2 : Int32)
set_option maxRecDepth 100000 in
set_option maxHeartbeats 4000000 in
theorem x_X7_before_37 {G : Gx} {K : Rs → Mm → Prop}  {M : Mm} {l0 : Nat} {l1 : Int32} {l2 : Int32} {l3 : Int32} {s0 : Nat} (h : V_X7_before_37 K  M l0 l1 l2 l3 s0) : E G mi_X7_before K M 0 0 37 [some (.ref l0), some (.int l1), some (.int l2), some (.int l3), none] [.ref s0] := by
  unfold V_X7_before_37 at h
  refine e_blk 2 37 _ _ (pc' := 42) (L' := [some (.ref l0), some (.int l1), some (.int l2), some (.int l3), none]) (st' := [.int (2 : Int32), .ref s0]) rfl ?_
  refine e_drp [true, true, true, true, false] (L' := [some (.ref l0), some (.int l1), some (.int l2), some (.int l3), none]) rfl ?_
  exact x_X7_before_42  h
def V_X7_before (K : Rs → Mm → Prop) (M : Mm) (a0 : Nat) (a1 : Int32) (a2 : Int32) (a3 : Int32) : Prop := (ob M a0 7 ∧ V_X7_none (kI (fun r3 M2 => ((r3 = 0 → V_X7_in (kI (fun r5 M4 => ((r5 = 0 → V_X7_before_37 K  M4 a0 a1 a2 a3 a0) ∧ (¬ r5 = 0 → V_X7_in (kI (fun r7 M6 => ((¬ r7 = 0 → V_X7_before_42 K  M6 a0 a1 a2 a3 a0 (0 : Int32)) ∧ (r7 = 0 → V_X7_before_37 K  M6 a0 a1 a2 a3 a0))) (fun _ _ => False)) M4 ((a3).toInt64) (0 : Int64) (20000 : Int64)))) (fun _ _ => False)) M2 ((a2).toInt64) (0 : Int64) (157785119 : Int64)) ∧ (¬ r3 = 0 → V_X7_before_42 K  M2 a0 a1 a2 a3 a0 (1 : Int32)))) (fun _ _ => False)) M a0 a1)
set_option maxRecDepth 100000 in
set_option maxHeartbeats 4000000 in
theorem x_X7_before {G : Gx} {K : Rs → Mm → Prop} {M : Mm} {a0 : Nat} {a1 : Int32} {a2 : Int32} {a3 : Int32} (h : V_X7_before K M a0 a1 a2 a3) : MC G mi_X7_before [.ref a0, .int a1, .int a2, .int a3] M K := by
  unfold V_X7_before at h
  refine mc_of rfl (by decide +kernel) dc_X7_before (Nat.le_of_ble_eq_true rfl) 1 (Nat.le_of_ble_eq_true rfl) ?_
  show E G mi_X7_before K M 0 0 0 [some (.ref a0), some (.int a1), some (.int a2), some (.int a3), none] []
  refine e_blk 3 0 _ _ (pc' := 3) (L' := [some (.ref a0), some (.int a1), some (.int a2), some (.int a3), none]) (st' := [.int a1, .ref a0, .ref a0]) rfl ?_
  obtain ⟨ho1, h⟩ := h
  refine e_callV (As := [.int a1]) (rest := [.ref a0]) (ci := 7) rfl (x_X7_none h) ho1 rfl rfl rfl (aw (i := 1449) (by decide +kernel) rfl) wn_X7_none wv_X7_none wi_X7_none wc_X7_none (show cok mi_X7_before mi_X7_none 0 0 1 = true by decide +kernel) (Nat.le_of_ble_eq_true rfl) (fun v9 M2 hq => ?_) (fun X M9 hq => False.elim hq)
  obtain ⟨r3, rfl, h⟩ := kI_l hq
  refine e_if_eq 13 rfl rfl (fun hc => ?_) (fun hc => ?_)
  · replace h := h.1 hc
    refine e_blk 3 13 _ _ (pc' := 16) (L' := [some (.ref a0), some (.int a1), some (.int a2), some (.int a3), none]) (st' := [.long (0 : Int64), .long ((a2).toInt64), .ref a0]) rfl ?_
    refine e_ldc2 (157785119) rfl (aw (i := 1269) (by decide +kernel) rfl) ?_
    refine e_callS (As := [.long ((a2).toInt64), .long (0 : Int64), .long (157785119 : Int64)]) (rest := [.ref a0]) rfl (x_X7_in h) rfl (aw (i := 1256) (by decide +kernel) rfl) ws_X7_in wi_X7_in wc_X7_in (show cok mi_X7_before mi_X7_in 0 0 3 = true by decide +kernel) (Nat.le_of_ble_eq_true rfl) (fun v9 M4 hq => ?_) (fun X M9 hq => False.elim hq)
    obtain ⟨r5, rfl, h⟩ := kI_l hq
    refine e_if_eq 37 rfl rfl (fun hc => ?_) (fun hc => ?_)
    · replace h := h.1 hc
      refine e_drp [true, true, true, true, false] (L' := [some (.ref a0), some (.int a1), some (.int a2), some (.int a3), none]) rfl ?_
      exact x_X7_before_37  h
    · replace h := h.2 hc
      refine e_blk 3 25 _ _ (pc' := 28) (L' := [some (.ref a0), some (.int a1), some (.int a2), some (.int a3), none]) (st' := [.long (0 : Int64), .long ((a3).toInt64), .ref a0]) rfl ?_
      refine e_ldc2 (20000) rfl (aw (i := 1519) (by decide +kernel) rfl) ?_
      refine e_callS (As := [.long ((a3).toInt64), .long (0 : Int64), .long (20000 : Int64)]) (rest := [.ref a0]) rfl (x_X7_in h) rfl (aw (i := 1256) (by decide +kernel) rfl) ws_X7_in wi_X7_in wc_X7_in (show cok mi_X7_before mi_X7_in 0 0 3 = true by decide +kernel) (Nat.le_of_ble_eq_true rfl) (fun v9 M6 hq => ?_) (fun X M9 hq => False.elim hq)
      obtain ⟨r7, rfl, h⟩ := kI_l hq
      refine e_if_ne 41 rfl rfl (fun hc => ?_) (fun hc => ?_)
      · replace h := h.1 hc
        refine e_blk 1 41 _ _ (pc' := 42) (L' := [some (.ref a0), some (.int a1), some (.int a2), some (.int a3), none]) (st' := [.int (0 : Int32), .ref a0]) rfl ?_
        refine e_drp [true, true, true, true, false] (L' := [some (.ref a0), some (.int a1), some (.int a2), some (.int a3), none]) rfl ?_
        exact x_X7_before_42  h
      · replace h := h.2 hc
        refine e_drp [true, true, true, true, false] (L' := [some (.ref a0), some (.int a1), some (.int a2), some (.int a3), none]) rfl ?_
        exact x_X7_before_37  h
  · replace h := h.2 hc
    refine e_blk 2 9 _ _ (pc' := 42) (L' := [some (.ref a0), some (.int a1), some (.int a2), some (.int a3), none]) (st' := [.int (1 : Int32), .ref a0]) rfl ?_
    refine e_drp [true, true, true, true, false] (L' := [some (.ref a0), some (.int a1), some (.int a2), some (.int a3), none]) rfl ?_
    exact x_X7_before_42  h
def V_X7_between_52 (K : Rs → Mm → Prop)  (M : Mm) (l0 : Nat) (l1 : Int32) (l2 : Int32) (l3 : Int32) (s0 : Nat) (s1 : Int32) : Prop := (ob M s0 7 ∧ ∀ M2, M2 = sI M s0 0 s1 → (ob M2 l0 7 ∧ (((mI M2 l0 0) ≤ 0 → V_X7_walk (kV (fun M4 => (ob M4 l0 7 ∧ K (.inl (some (.int (mI M4 l0 49)))) M4)) (fun _ _ => False)) M2 l0 l1 (l2 + (1 : Int32)) l3 (2 : Int32)) ∧ (¬ (mI M2 l0 0) ≤ 0 → K (.inl (some (.int (0 : Int32)))) M2))))
set_option maxRecDepth 100000 in
set_option maxHeartbeats 4000000 in
theorem x_X7_between_52 {G : Gx} {K : Rs → Mm → Prop}  {M : Mm} {l0 : Nat} {l1 : Int32} {l2 : Int32} {l3 : Int32} {s0 : Nat} {s1 : Int32} (h : V_X7_between_52 K  M l0 l1 l2 l3 s0 s1) : E G mi_X7_between K M 0 0 52 [some (.ref l0), some (.int l1), some (.int l2), some (.int l3)] [.int s1, .ref s0] := by
  unfold V_X7_between_52 at h
  obtain ⟨ho1, h⟩ := h
  refine e_putI 7 0 rfl rfl (by decide) (aw (i := 1065) (by decide +kernel) rfl) rfl ho1 rfl ?_
  generalize hM2 : sI M s0 0 s1 = M2
  replace h := h M2 hM2.symm
  replace ho1 : ob M2 s0 7 := hM2 ▸ ob_sI ho1
  refine e_blk 1 55 _ _ (pc' := 56) (L' := [some (.ref l0), some (.int l1), some (.int l2), some (.int l3)]) (st' := [.ref l0]) rfl ?_
  obtain ⟨ho3, h⟩ := h
  refine e_getI 7 0 rfl rfl (by decide) (aw (i := 1065) (by decide +kernel) rfl) ho3 rfl ?_
  refine e_if_le 64 rfl rfl (fun hc => ?_) (fun hc => ?_)
  · replace h := h.1 hc
    refine e_blk 7 64 _ _ (pc' := 71) (L' := [some (.ref l0), some (.int l1), some (.int l2), some (.int l3)]) (st' := [.int (2 : Int32), .int l3, .int (l2 + (1 : Int32)), .int l1, .ref l0]) rfl ?_
    refine e_callV (As := [.int l1, .int (l2 + (1 : Int32)), .int l3, .int (2 : Int32)]) (rest := []) (ci := 7) rfl (x_X7_walk h) ho3 rfl rfl rfl (aw (i := 1521) (by decide +kernel) rfl) wn_X7_walk wv_X7_walk wi_X7_walk wc_X7_walk (show cok mi_X7_between mi_X7_walk 0 0 4 = true by decide +kernel) (Nat.le_of_ble_eq_true rfl) (fun v9 M4 hq => ?_) (fun X M9 hq => False.elim hq)
    obtain ⟨rfl, h⟩ := kV_l hq
    refine e_blk 1 74 _ _ (pc' := 75) (L' := [some (.ref l0), some (.int l1), some (.int l2), some (.int l3)]) (st' := [.ref l0]) rfl ?_
    obtain ⟨ho5, h⟩ := h
    refine e_getI 7 49 rfl rfl (by decide) (aw (i := 1114) (by decide +kernel) rfl) ho5 rfl ?_
    exact e_reti rfl rfl (by decide) (by decide) h
  · replace h := h.2 hc
    refine e_blk 1 62 _ _ (pc' := 63) (L' := [some (.ref l0), some (.int l1), some (.int l2), some (.int l3)]) (st' := [.int (0 : Int32)]) rfl ?_
    exact e_reti rfl rfl (by decide) (by decide) h
def V_X7_between_47 (K : Rs → Mm → Prop)  (M : Mm) (l0 : Nat) (l1 : Int32) (l2 : Int32) (l3 : Int32) (s0 : Nat) : Prop := V_X7_between_52 K  M l0 l1 l2 l3 s0 (2 : Int32)
set_option maxRecDepth 100000 in
set_option maxHeartbeats 4000000 in
theorem x_X7_between_47 {G : Gx} {K : Rs → Mm → Prop}  {M : Mm} {l0 : Nat} {l1 : Int32} {l2 : Int32} {l3 : Int32} {s0 : Nat} (h : V_X7_between_47 K  M l0 l1 l2 l3 s0) : E G mi_X7_between K M 0 0 47 [some (.ref l0), some (.int l1), some (.int l2), some (.int l3)] [.ref s0] := by
  unfold V_X7_between_47 at h
  refine e_blk 2 47 _ _ (pc' := 52) (L' := [some (.ref l0), some (.int l1), some (.int l2), some (.int l3)]) (st' := [.int (2 : Int32), .ref s0]) rfl ?_
  refine e_drp [true, true, true, true] (L' := [some (.ref l0), some (.int l1), some (.int l2), some (.int l3)]) rfl ?_
  exact x_X7_between_52  h
def V_X7_between (K : Rs → Mm → Prop) (M : Mm) (a0 : Nat) (a1 : Int32) (a2 : Int32) (a3 : Int32) : Prop := (ob M a0 7 ∧ V_X7_none (kI (fun r3 M2 => ((r3 = 0 → V_X7_in (kI (fun r5 M4 => ((r5 = 0 → V_X7_between_47 K  M4 a0 a1 a2 a3 a0) ∧ (¬ r5 = 0 → V_X7_in (kI (fun r7 M6 => ((r7 = 0 → V_X7_between_47 K  M6 a0 a1 a2 a3 a0) ∧ (¬ r7 = 0 → (((a3 - a2) ≤ (28800000 : Int32) → V_X7_between_52 K  M6 a0 a1 a2 a3 a0 (0 : Int32)) ∧ (¬ (a3 - a2) ≤ (28800000 : Int32) → V_X7_between_47 K  M6 a0 a1 a2 a3 a0))))) (fun _ _ => False)) M4 ((a3).toInt64) ((a2).toInt64) (157785119 : Int64)))) (fun _ _ => False)) M2 ((a2).toInt64) (0 : Int64) (157785119 : Int64)) ∧ (¬ r3 = 0 → V_X7_between_52 K  M2 a0 a1 a2 a3 a0 (1 : Int32)))) (fun _ _ => False)) M a0 a1)
set_option maxRecDepth 100000 in
set_option maxHeartbeats 4000000 in
theorem x_X7_between {G : Gx} {K : Rs → Mm → Prop} {M : Mm} {a0 : Nat} {a1 : Int32} {a2 : Int32} {a3 : Int32} (h : V_X7_between K M a0 a1 a2 a3) : MC G mi_X7_between [.ref a0, .int a1, .int a2, .int a3] M K := by
  unfold V_X7_between at h
  refine mc_of rfl (by decide +kernel) dc_X7_between (Nat.le_of_ble_eq_true rfl) 0 (Nat.le_of_ble_eq_true rfl) ?_
  show E G mi_X7_between K M 0 0 0 [some (.ref a0), some (.int a1), some (.int a2), some (.int a3)] []
  refine e_blk 3 0 _ _ (pc' := 3) (L' := [some (.ref a0), some (.int a1), some (.int a2), some (.int a3)]) (st' := [.int a1, .ref a0, .ref a0]) rfl ?_
  obtain ⟨ho1, h⟩ := h
  refine e_callV (As := [.int a1]) (rest := [.ref a0]) (ci := 7) rfl (x_X7_none h) ho1 rfl rfl rfl (aw (i := 1449) (by decide +kernel) rfl) wn_X7_none wv_X7_none wi_X7_none wc_X7_none (show cok mi_X7_between mi_X7_none 0 0 1 = true by decide +kernel) (Nat.le_of_ble_eq_true rfl) (fun v9 M2 hq => ?_) (fun X M9 hq => False.elim hq)
  obtain ⟨r3, rfl, h⟩ := kI_l hq
  refine e_if_eq 13 rfl rfl (fun hc => ?_) (fun hc => ?_)
  · replace h := h.1 hc
    refine e_blk 3 13 _ _ (pc' := 16) (L' := [some (.ref a0), some (.int a1), some (.int a2), some (.int a3)]) (st' := [.long (0 : Int64), .long ((a2).toInt64), .ref a0]) rfl ?_
    refine e_ldc2 (157785119) rfl (aw (i := 1269) (by decide +kernel) rfl) ?_
    refine e_callS (As := [.long ((a2).toInt64), .long (0 : Int64), .long (157785119 : Int64)]) (rest := [.ref a0]) rfl (x_X7_in h) rfl (aw (i := 1256) (by decide +kernel) rfl) ws_X7_in wi_X7_in wc_X7_in (show cok mi_X7_between mi_X7_in 0 0 3 = true by decide +kernel) (Nat.le_of_ble_eq_true rfl) (fun v9 M4 hq => ?_) (fun X M9 hq => False.elim hq)
    obtain ⟨r5, rfl, h⟩ := kI_l hq
    refine e_if_eq 47 rfl rfl (fun hc => ?_) (fun hc => ?_)
    · replace h := h.1 hc
      refine e_drp [true, true, true, true] (L' := [some (.ref a0), some (.int a1), some (.int a2), some (.int a3)]) rfl ?_
      exact x_X7_between_47  h
    · replace h := h.2 hc
      refine e_blk 4 25 _ _ (pc' := 29) (L' := [some (.ref a0), some (.int a1), some (.int a2), some (.int a3)]) (st' := [.long ((a2).toInt64), .long ((a3).toInt64), .ref a0]) rfl ?_
      refine e_ldc2 (157785119) rfl (aw (i := 1269) (by decide +kernel) rfl) ?_
      refine e_callS (As := [.long ((a3).toInt64), .long ((a2).toInt64), .long (157785119 : Int64)]) (rest := [.ref a0]) rfl (x_X7_in h) rfl (aw (i := 1256) (by decide +kernel) rfl) ws_X7_in wi_X7_in wc_X7_in (show cok mi_X7_between mi_X7_in 0 0 3 = true by decide +kernel) (Nat.le_of_ble_eq_true rfl) (fun v9 M6 hq => ?_) (fun X M9 hq => False.elim hq)
      obtain ⟨r7, rfl, h⟩ := kI_l hq
      refine e_if_eq 47 rfl rfl (fun hc => ?_) (fun hc => ?_)
      · replace h := h.1 hc
        refine e_drp [true, true, true, true] (L' := [some (.ref a0), some (.int a1), some (.int a2), some (.int a3)]) rfl ?_
        exact x_X7_between_47  h
      · replace h := h.2 hc
        refine e_blk 3 38 _ _ (pc' := 41) (L' := [some (.ref a0), some (.int a1), some (.int a2), some (.int a3)]) (st' := [.int (a3 - a2), .ref a0]) rfl ?_
        refine e_ldcw (28800000) rfl (aw (i := 1537) (by decide +kernel) rfl) ?_
        refine e_icmp_le 51 rfl rfl (fun hc => ?_) (fun hc => ?_)
        · replace h := h.1 hc
          refine e_blk 1 51 _ _ (pc' := 52) (L' := [some (.ref a0), some (.int a1), some (.int a2), some (.int a3)]) (st' := [.int (0 : Int32), .ref a0]) rfl ?_
          refine e_drp [true, true, true, true] (L' := [some (.ref a0), some (.int a1), some (.int a2), some (.int a3)]) rfl ?_
          exact x_X7_between_52  h
        · replace h := h.2 hc
          refine e_drp [true, true, true, true] (L' := [some (.ref a0), some (.int a1), some (.int a2), some (.int a3)]) rfl ?_
          exact x_X7_between_47  h
  · replace h := h.2 hc
    refine e_blk 2 9 _ _ (pc' := 52) (L' := [some (.ref a0), some (.int a1), some (.int a2), some (.int a3)]) (st' := [.int (1 : Int32), .ref a0]) rfl ?_
    refine e_drp [true, true, true, true] (L' := [some (.ref a0), some (.int a1), some (.int a2), some (.int a3)]) rfl ?_
    exact x_X7_between_52  h
def V_X7_line_51 (K : Rs → Mm → Prop)  (M : Mm) (l0 : Nat) : Prop := (ob M l0 7 ∧ ∀ M2, M2 = sI M l0 55 ((mI M l0 55) + (1 : Int32)) → K (.inl none) M2)
set_option maxRecDepth 100000 in
set_option maxHeartbeats 4000000 in
theorem x_X7_line_51 {G : Gx} {K : Rs → Mm → Prop}  {M : Mm} {l0 : Nat} (h : V_X7_line_51 K  M l0) : E G mi_X7_line K M 0 0 51 [some (.ref l0), none, none, none, none] [] := by
  unfold V_X7_line_51 at h
  refine e_blk 2 51 _ _ (pc' := 53) (L' := [some (.ref l0), none, none, none, none]) (st' := [.ref l0, .ref l0]) rfl ?_
  obtain ⟨ho1, h⟩ := h
  refine e_getI 7 55 rfl rfl (by decide) (aw (i := 1120) (by decide +kernel) rfl) ho1 rfl ?_
  refine e_blk 2 56 _ _ (pc' := 58) (L' := [some (.ref l0), none, none, none, none]) (st' := [.int ((mI M l0 55) + (1 : Int32)), .ref l0]) rfl ?_
  refine e_putI 7 55 rfl rfl (by decide) (aw (i := 1120) (by decide +kernel) rfl) rfl ho1 rfl ?_
  generalize hM2 : sI M l0 55 ((mI M l0 55) + (1 : Int32)) = M2
  replace h := h M2 hM2.symm
  replace ho1 : ob M2 l0 7 := hM2 ▸ ob_sI ho1
  exact e_ret rfl rfl (by decide) (by decide) h
def V_X7_line (K : Rs → Mm → Prop) (M : Mm) (a0 : Nat) (a1 : Int32) (a2 : Int32) (a3 : Int32) (a4 : Int32) : Prop := (ob M a0 7 ∧ (((300 : Int32) ≤ (mI M a0 55) → V_X7_line_51 K  M a0) ∧ (¬ (300 : Int32) ≤ (mI M a0 55) → ∃ b2, mP M a0 56 = some b2 ∧ (ob M b2 9 ∧ (vp_in (mI M a0 55) (mN M b2) ∧ ∀ M5, M5 = sI M b2 ((mI M a0 55)).toNatClampNeg a1 → ∃ b6, mP M5 a0 57 = some b6 ∧ (ob M5 b6 9 ∧ (vp_in (mI M5 a0 55) (mN M5 b6) ∧ ∀ M9, M9 = sI M5 b6 ((mI M5 a0 55)).toNatClampNeg a2 → ∃ b10, mP M9 a0 58 = some b10 ∧ (ob M9 b10 9 ∧ (vp_in (mI M9 a0 55) (mN M9 b10) ∧ ∀ M13, M13 = sI M9 b10 ((mI M9 a0 55)).toNatClampNeg a3 → ∃ b14, mP M13 a0 59 = some b14 ∧ (ob M13 b14 9 ∧ (vp_in (mI M13 a0 55) (mN M13 b14) ∧ ∀ M17, M17 = sI M13 b14 ((mI M13 a0 55)).toNatClampNeg a4 → V_X7_line_51 K  M17 a0)))))))))))
set_option maxRecDepth 100000 in
set_option maxHeartbeats 4000000 in
theorem x_X7_line {G : Gx} {K : Rs → Mm → Prop} {M : Mm} {a0 : Nat} {a1 : Int32} {a2 : Int32} {a3 : Int32} {a4 : Int32} (h : V_X7_line K M a0 a1 a2 a3 a4) : MC G mi_X7_line [.ref a0, .int a1, .int a2, .int a3, .int a4] M K := by
  unfold V_X7_line at h
  refine mc_of rfl (by decide +kernel) dc_X7_line (Nat.le_of_ble_eq_true rfl) 0 (Nat.le_of_ble_eq_true rfl) ?_
  show E G mi_X7_line K M 0 0 0 [some (.ref a0), some (.int a1), some (.int a2), some (.int a3), some (.int a4)] []
  refine e_blk 1 0 _ _ (pc' := 1) (L' := [some (.ref a0), some (.int a1), some (.int a2), some (.int a3), some (.int a4)]) (st' := [.ref a0]) rfl ?_
  obtain ⟨ho1, h⟩ := h
  refine e_getI 7 55 rfl rfl (by decide) (aw (i := 1120) (by decide +kernel) rfl) ho1 rfl ?_
  refine e_blk 1 4 _ _ (pc' := 7) (L' := [some (.ref a0), some (.int a1), some (.int a2), some (.int a3), some (.int a4)]) (st' := [.int (300 : Int32), .int (mI M a0 55)]) rfl ?_
  refine e_icmp_ge 51 rfl rfl (fun hc => ?_) (fun hc => ?_)
  · replace h := h.1 hc
    refine e_drp [true, false, false, false, false] (L' := [some (.ref a0), none, none, none, none]) rfl ?_
    exact x_X7_line_51  h
  · replace h := h.2 hc
    refine e_blk 1 10 _ _ (pc' := 11) (L' := [some (.ref a0), some (.int a1), some (.int a2), some (.int a3), some (.int a4)]) (st' := [.ref a0]) rfl ?_
    obtain ⟨b2, hbb2, h⟩ := h
    refine e_getR 7 56 rfl rfl (by decide) (aw (i := 1121) (by decide +kernel) rfl) ho1 rfl hbb2 ?_
    refine e_blk 1 14 _ _ (pc' := 15) (L' := [some (.ref a0), some (.int a1), some (.int a2), some (.int a3), some (.int a4)]) (st' := [.ref a0, .ref b2]) rfl ?_
    refine e_getI 7 55 rfl rfl (by decide) (aw (i := 1120) (by decide +kernel) rfl) ho1 rfl ?_
    refine e_blk 1 18 _ _ (pc' := 19) (L' := [some (.ref a0), some (.int a1), some (.int a2), some (.int a3), some (.int a4)]) (st' := [.int a1, .int (mI M a0 55), .ref b2]) rfl ?_
    obtain ⟨ho3, h⟩ := h
    obtain ⟨hi4, h⟩ := h
    refine e_iast rfl ho3 hi4 ?_
    generalize hM5 : sI M b2 ((mI M a0 55)).toNatClampNeg a1 = M5
    replace h := h M5 hM5.symm
    replace ho1 : ob M5 a0 7 := hM5 ▸ ob_sI ho1
    replace ho3 : ob M5 b2 9 := hM5 ▸ ob_sI ho3
    refine e_blk 1 20 _ _ (pc' := 21) (L' := [some (.ref a0), some (.int a1), some (.int a2), some (.int a3), some (.int a4)]) (st' := [.ref a0]) rfl ?_
    obtain ⟨b6, hbb6, h⟩ := h
    refine e_getR 7 57 rfl rfl (by decide) (aw (i := 1122) (by decide +kernel) rfl) ho1 rfl hbb6 ?_
    refine e_blk 1 24 _ _ (pc' := 25) (L' := [some (.ref a0), some (.int a1), some (.int a2), some (.int a3), some (.int a4)]) (st' := [.ref a0, .ref b6]) rfl ?_
    refine e_getI 7 55 rfl rfl (by decide) (aw (i := 1120) (by decide +kernel) rfl) ho1 rfl ?_
    refine e_blk 1 28 _ _ (pc' := 29) (L' := [some (.ref a0), some (.int a1), some (.int a2), some (.int a3), some (.int a4)]) (st' := [.int a2, .int (mI M5 a0 55), .ref b6]) rfl ?_
    obtain ⟨ho7, h⟩ := h
    obtain ⟨hi8, h⟩ := h
    refine e_iast rfl ho7 hi8 ?_
    generalize hM9 : sI M5 b6 ((mI M5 a0 55)).toNatClampNeg a2 = M9
    replace h := h M9 hM9.symm
    replace ho1 : ob M9 a0 7 := hM9 ▸ ob_sI ho1
    replace ho3 : ob M9 b2 9 := hM9 ▸ ob_sI ho3
    replace ho7 : ob M9 b6 9 := hM9 ▸ ob_sI ho7
    refine e_blk 1 30 _ _ (pc' := 31) (L' := [some (.ref a0), some (.int a1), some (.int a2), some (.int a3), some (.int a4)]) (st' := [.ref a0]) rfl ?_
    obtain ⟨b10, hbb10, h⟩ := h
    refine e_getR 7 58 rfl rfl (by decide) (aw (i := 1123) (by decide +kernel) rfl) ho1 rfl hbb10 ?_
    refine e_blk 1 34 _ _ (pc' := 35) (L' := [some (.ref a0), some (.int a1), some (.int a2), some (.int a3), some (.int a4)]) (st' := [.ref a0, .ref b10]) rfl ?_
    refine e_getI 7 55 rfl rfl (by decide) (aw (i := 1120) (by decide +kernel) rfl) ho1 rfl ?_
    refine e_blk 1 38 _ _ (pc' := 39) (L' := [some (.ref a0), some (.int a1), some (.int a2), some (.int a3), some (.int a4)]) (st' := [.int a3, .int (mI M9 a0 55), .ref b10]) rfl ?_
    obtain ⟨ho11, h⟩ := h
    obtain ⟨hi12, h⟩ := h
    refine e_iast rfl ho11 hi12 ?_
    generalize hM13 : sI M9 b10 ((mI M9 a0 55)).toNatClampNeg a3 = M13
    replace h := h M13 hM13.symm
    replace ho1 : ob M13 a0 7 := hM13 ▸ ob_sI ho1
    replace ho3 : ob M13 b2 9 := hM13 ▸ ob_sI ho3
    replace ho7 : ob M13 b6 9 := hM13 ▸ ob_sI ho7
    replace ho11 : ob M13 b10 9 := hM13 ▸ ob_sI ho11
    refine e_blk 1 40 _ _ (pc' := 41) (L' := [some (.ref a0), some (.int a1), some (.int a2), some (.int a3), some (.int a4)]) (st' := [.ref a0]) rfl ?_
    obtain ⟨b14, hbb14, h⟩ := h
    refine e_getR 7 59 rfl rfl (by decide) (aw (i := 1124) (by decide +kernel) rfl) ho1 rfl hbb14 ?_
    refine e_blk 1 44 _ _ (pc' := 45) (L' := [some (.ref a0), some (.int a1), some (.int a2), some (.int a3), some (.int a4)]) (st' := [.ref a0, .ref b14]) rfl ?_
    refine e_getI 7 55 rfl rfl (by decide) (aw (i := 1120) (by decide +kernel) rfl) ho1 rfl ?_
    refine e_blk 1 48 _ _ (pc' := 50) (L' := [some (.ref a0), some (.int a1), some (.int a2), some (.int a3), some (.int a4)]) (st' := [.int a4, .int (mI M13 a0 55), .ref b14]) rfl ?_
    obtain ⟨ho15, h⟩ := h
    obtain ⟨hi16, h⟩ := h
    refine e_iast rfl ho15 hi16 ?_
    generalize hM17 : sI M13 b14 ((mI M13 a0 55)).toNatClampNeg a4 = M17
    replace h := h M17 hM17.symm
    replace ho1 : ob M17 a0 7 := hM17 ▸ ob_sI ho1
    replace ho3 : ob M17 b2 9 := hM17 ▸ ob_sI ho3
    replace ho7 : ob M17 b6 9 := hM17 ▸ ob_sI ho7
    replace ho11 : ob M17 b10 9 := hM17 ▸ ob_sI ho11
    replace ho15 : ob M17 b14 9 := hM17 ▸ ob_sI ho15
    refine e_drp [true, false, false, false, false] (L' := [some (.ref a0), none, none, none, none]) rfl ?_
    exact x_X7_line_51  h
def V_X7_begin (K : Rs → Mm → Prop) (M : Mm) (a0 : Nat) (a1 : Int32) (a2 : Int32) (a3 : Int32) : Prop := (ob M a0 7 ∧ ∃ b2, mP M a0 46 = some b2 ∧ (ob M b2 9 ∧ (vp_in (mI M a0 45) (mN M b2) ∧ ∀ M5, M5 = sI M b2 ((mI M a0 45)).toNatClampNeg a1 → ∃ b6, mP M5 a0 47 = some b6 ∧ ∃ b7, mP M5 a0 31 = some b7 ∧ (ob M5 b7 9 ∧ (vp_in a1 (mN M5 b7) ∧ (ob M5 b6 9 ∧ (vp_in (mI M5 a0 45) (mN M5 b6) ∧ ∀ M12, M12 = sI M5 b6 ((mI M5 a0 45)).toNatClampNeg (a2 + (mI M5 b7 (a1).toNatClampNeg)) → ∃ b13, mP M12 a0 48 = some b13 ∧ (ob M12 b13 9 ∧ (vp_in (mI M12 a0 45) (mN M12 b13) ∧ ∀ M16, M16 = sI M12 b13 ((mI M12 a0 45)).toNatClampNeg a3 → ∀ M17, M17 = sI M16 a0 45 ((mI M16 a0 45) + (1 : Int32)) → ∃ b18, mP M17 a0 42 = some b18 ∧ (ob M17 b18 9 ∧ (vp_in a1 (mN M17 b18) ∧ (vp_in a1 (mN M17 b18) ∧ ∀ M22, M22 = sI M17 b18 (a1).toNatClampNeg ((mI M17 b18 (a1).toNatClampNeg) + (1 : Int32)) → V_X7_line (kV (fun M23 => K (.inl none) M23) (fun _ _ => False)) M22 a0 (0 : Int32) a1 a2 a3))))))))))))
set_option maxRecDepth 100000 in
set_option maxHeartbeats 4000000 in
theorem x_X7_begin {G : Gx} {K : Rs → Mm → Prop} {M : Mm} {a0 : Nat} {a1 : Int32} {a2 : Int32} {a3 : Int32} (h : V_X7_begin K M a0 a1 a2 a3) : MC G mi_X7_begin [.ref a0, .int a1, .int a2, .int a3] M K := by
  unfold V_X7_begin at h
  refine mc_of rfl (by decide +kernel) dc_X7_begin (Nat.le_of_ble_eq_true rfl) 0 (Nat.le_of_ble_eq_true rfl) ?_
  show E G mi_X7_begin K M 0 0 0 [some (.ref a0), some (.int a1), some (.int a2), some (.int a3)] []
  refine e_blk 1 0 _ _ (pc' := 1) (L' := [some (.ref a0), some (.int a1), some (.int a2), some (.int a3)]) (st' := [.ref a0]) rfl ?_
  obtain ⟨ho1, h⟩ := h
  obtain ⟨b2, hbb2, h⟩ := h
  refine e_getR 7 46 rfl rfl (by decide) (aw (i := 1111) (by decide +kernel) rfl) ho1 rfl hbb2 ?_
  refine e_blk 1 4 _ _ (pc' := 5) (L' := [some (.ref a0), some (.int a1), some (.int a2), some (.int a3)]) (st' := [.ref a0, .ref b2]) rfl ?_
  refine e_getI 7 45 rfl rfl (by decide) (aw (i := 1110) (by decide +kernel) rfl) ho1 rfl ?_
  refine e_blk 1 8 _ _ (pc' := 9) (L' := [some (.ref a0), some (.int a1), some (.int a2), some (.int a3)]) (st' := [.int a1, .int (mI M a0 45), .ref b2]) rfl ?_
  obtain ⟨ho3, h⟩ := h
  obtain ⟨hi4, h⟩ := h
  refine e_iast rfl ho3 hi4 ?_
  generalize hM5 : sI M b2 ((mI M a0 45)).toNatClampNeg a1 = M5
  replace h := h M5 hM5.symm
  replace ho1 : ob M5 a0 7 := hM5 ▸ ob_sI ho1
  replace ho3 : ob M5 b2 9 := hM5 ▸ ob_sI ho3
  refine e_blk 1 10 _ _ (pc' := 11) (L' := [some (.ref a0), some (.int a1), some (.int a2), some (.int a3)]) (st' := [.ref a0]) rfl ?_
  obtain ⟨b6, hbb6, h⟩ := h
  refine e_getR 7 47 rfl rfl (by decide) (aw (i := 1112) (by decide +kernel) rfl) ho1 rfl hbb6 ?_
  refine e_blk 1 14 _ _ (pc' := 15) (L' := [some (.ref a0), some (.int a1), some (.int a2), some (.int a3)]) (st' := [.ref a0, .ref b6]) rfl ?_
  refine e_getI 7 45 rfl rfl (by decide) (aw (i := 1110) (by decide +kernel) rfl) ho1 rfl ?_
  refine e_blk 2 18 _ _ (pc' := 20) (L' := [some (.ref a0), some (.int a1), some (.int a2), some (.int a3)]) (st' := [.ref a0, .int a2, .int (mI M5 a0 45), .ref b6]) rfl ?_
  obtain ⟨b7, hbb7, h⟩ := h
  refine e_getR 7 31 rfl rfl (by decide) (aw (i := 1096) (by decide +kernel) rfl) ho1 rfl hbb7 ?_
  refine e_blk 1 23 _ _ (pc' := 24) (L' := [some (.ref a0), some (.int a1), some (.int a2), some (.int a3)]) (st' := [.int a1, .ref b7, .int a2, .int (mI M5 a0 45), .ref b6]) rfl ?_
  obtain ⟨ho8, h⟩ := h
  obtain ⟨hi9, h⟩ := h
  refine e_iald rfl ho8 hi9 ?_
  refine e_blk 1 25 _ _ (pc' := 26) (L' := [some (.ref a0), some (.int a1), some (.int a2), some (.int a3)]) (st' := [.int (a2 + (mI M5 b7 (a1).toNatClampNeg)), .int (mI M5 a0 45), .ref b6]) rfl ?_
  obtain ⟨ho10, h⟩ := h
  obtain ⟨hi11, h⟩ := h
  refine e_iast rfl ho10 hi11 ?_
  generalize hM12 : sI M5 b6 ((mI M5 a0 45)).toNatClampNeg (a2 + (mI M5 b7 (a1).toNatClampNeg)) = M12
  replace h := h M12 hM12.symm
  replace ho1 : ob M12 a0 7 := hM12 ▸ ob_sI ho1
  replace ho3 : ob M12 b2 9 := hM12 ▸ ob_sI ho3
  replace ho8 : ob M12 b7 9 := hM12 ▸ ob_sI ho8
  replace ho10 : ob M12 b6 9 := hM12 ▸ ob_sI ho10
  refine e_blk 1 27 _ _ (pc' := 28) (L' := [some (.ref a0), some (.int a1), some (.int a2), some (.int a3)]) (st' := [.ref a0]) rfl ?_
  obtain ⟨b13, hbb13, h⟩ := h
  refine e_getR 7 48 rfl rfl (by decide) (aw (i := 1113) (by decide +kernel) rfl) ho1 rfl hbb13 ?_
  refine e_blk 1 31 _ _ (pc' := 32) (L' := [some (.ref a0), some (.int a1), some (.int a2), some (.int a3)]) (st' := [.ref a0, .ref b13]) rfl ?_
  refine e_getI 7 45 rfl rfl (by decide) (aw (i := 1110) (by decide +kernel) rfl) ho1 rfl ?_
  refine e_blk 1 35 _ _ (pc' := 36) (L' := [some (.ref a0), some (.int a1), some (.int a2), some (.int a3)]) (st' := [.int a3, .int (mI M12 a0 45), .ref b13]) rfl ?_
  obtain ⟨ho14, h⟩ := h
  obtain ⟨hi15, h⟩ := h
  refine e_iast rfl ho14 hi15 ?_
  generalize hM16 : sI M12 b13 ((mI M12 a0 45)).toNatClampNeg a3 = M16
  replace h := h M16 hM16.symm
  replace ho1 : ob M16 a0 7 := hM16 ▸ ob_sI ho1
  replace ho3 : ob M16 b2 9 := hM16 ▸ ob_sI ho3
  replace ho8 : ob M16 b7 9 := hM16 ▸ ob_sI ho8
  replace ho10 : ob M16 b6 9 := hM16 ▸ ob_sI ho10
  replace ho14 : ob M16 b13 9 := hM16 ▸ ob_sI ho14
  refine e_blk 2 37 _ _ (pc' := 39) (L' := [some (.ref a0), some (.int a1), some (.int a2), some (.int a3)]) (st' := [.ref a0, .ref a0]) rfl ?_
  refine e_getI 7 45 rfl rfl (by decide) (aw (i := 1110) (by decide +kernel) rfl) ho1 rfl ?_
  refine e_blk 2 42 _ _ (pc' := 44) (L' := [some (.ref a0), some (.int a1), some (.int a2), some (.int a3)]) (st' := [.int ((mI M16 a0 45) + (1 : Int32)), .ref a0]) rfl ?_
  refine e_putI 7 45 rfl rfl (by decide) (aw (i := 1110) (by decide +kernel) rfl) rfl ho1 rfl ?_
  generalize hM17 : sI M16 a0 45 ((mI M16 a0 45) + (1 : Int32)) = M17
  replace h := h M17 hM17.symm
  replace ho1 : ob M17 a0 7 := hM17 ▸ ob_sI ho1
  replace ho3 : ob M17 b2 9 := hM17 ▸ ob_sI ho3
  replace ho8 : ob M17 b7 9 := hM17 ▸ ob_sI ho8
  replace ho10 : ob M17 b6 9 := hM17 ▸ ob_sI ho10
  replace ho14 : ob M17 b13 9 := hM17 ▸ ob_sI ho14
  refine e_blk 1 47 _ _ (pc' := 48) (L' := [some (.ref a0), some (.int a1), some (.int a2), some (.int a3)]) (st' := [.ref a0]) rfl ?_
  obtain ⟨b18, hbb18, h⟩ := h
  refine e_getR 7 42 rfl rfl (by decide) (aw (i := 1107) (by decide +kernel) rfl) ho1 rfl hbb18 ?_
  refine e_blk 2 51 _ _ (pc' := 53) (L' := [some (.ref a0), some (.int a1), some (.int a2), some (.int a3)]) (st' := [.int a1, .ref b18, .int a1, .ref b18]) rfl ?_
  obtain ⟨ho19, h⟩ := h
  obtain ⟨hi20, h⟩ := h
  refine e_iald rfl ho19 hi20 ?_
  refine e_blk 2 54 _ _ (pc' := 56) (L' := [some (.ref a0), some (.int a1), some (.int a2), some (.int a3)]) (st' := [.int ((mI M17 b18 (a1).toNatClampNeg) + (1 : Int32)), .int a1, .ref b18]) rfl ?_
  obtain ⟨hi21, h⟩ := h
  refine e_iast rfl ho19 hi21 ?_
  generalize hM22 : sI M17 b18 (a1).toNatClampNeg ((mI M17 b18 (a1).toNatClampNeg) + (1 : Int32)) = M22
  replace h := h M22 hM22.symm
  replace ho1 : ob M22 a0 7 := hM22 ▸ ob_sI ho1
  replace ho3 : ob M22 b2 9 := hM22 ▸ ob_sI ho3
  replace ho8 : ob M22 b7 9 := hM22 ▸ ob_sI ho8
  replace ho10 : ob M22 b6 9 := hM22 ▸ ob_sI ho10
  replace ho14 : ob M22 b13 9 := hM22 ▸ ob_sI ho14
  replace ho19 : ob M22 b18 9 := hM22 ▸ ob_sI ho19
  refine e_blk 5 57 _ _ (pc' := 62) (L' := [some (.ref a0), some (.int a1), some (.int a2), some (.int a3)]) (st' := [.int a3, .int a2, .int a1, .int (0 : Int32), .ref a0]) rfl ?_
  refine e_callV (As := [.int (0 : Int32), .int a1, .int a2, .int a3]) (rest := []) (ci := 7) rfl (x_X7_line h) ho1 rfl rfl rfl (aw (i := 1556) (by decide +kernel) rfl) wn_X7_line wv_X7_line wi_X7_line wc_X7_line (show cok mi_X7_begin mi_X7_line 0 0 4 = true by decide +kernel) (Nat.le_of_ble_eq_true rfl) (fun v9 M23 hq => ?_) (fun X M9 hq => False.elim hq)
  obtain ⟨rfl, h⟩ := kV_l hq
  exact e_ret rfl rfl (by decide) (by decide) h
def V_X7_end_65 (K : Rs → Mm → Prop)  (M : Mm)  : Prop := K (.inl none) M
set_option maxRecDepth 100000 in
set_option maxHeartbeats 4000000 in
theorem x_X7_end_65 {G : Gx} {K : Rs → Mm → Prop}  {M : Mm}  (h : V_X7_end_65 K  M ) : E G mi_X7_end K M 0 0 65 [none, none, none, none, none] [] := by
  unfold V_X7_end_65 at h
  exact e_ret rfl rfl (by decide) (by decide) h
def V_X7_end (K : Rs → Mm → Prop) (M : Mm) (a0 : Nat) (a1 : Int32) (a2 : Int32) : Prop := (ob M a0 7 ∧ ∃ b2, mP M a0 46 = some b2 ∧ (ob M b2 9 ∧ (vp_in a1 (mN M b2) ∧ ∀ x5 : Int32, x5 = (mI M b2 (a1).toNatClampNeg) → ∃ b6, mP M a0 48 = some b6 ∧ (ob M b6 9 ∧ (vp_in a1 (mN M b6) ∧ V_X7_line (kV (fun M9 => (ob M9 a0 7 ∧ V_X7_dropRun (kV (fun M11 => (ob M11 a0 7 ∧ ∃ b13, mP M11 a0 44 = some b13 ∧ (ob M11 b13 9 ∧ (vp_in x5 (mN M11 b13) ∧ (((mI M11 b13 (x5).toNatClampNeg) < 0 → V_X7_end_65 K  M11 ) ∧ (¬ (mI M11 b13 (x5).toNatClampNeg) < 0 → V_X7_runsOf (kI (fun r17 M16 => ((¬ r17 = 0 → V_X7_end_65 K  M16 ) ∧ (r17 = 0 → (ob M16 a0 7 ∧ ∃ b19, mP M16 a0 44 = some b19 ∧ (ob M16 b19 9 ∧ (vp_in x5 (mN M16 b19) ∧ ∀ x22 : Int32, x22 = (mI M16 b19 (x5).toNatClampNeg) → ∃ b23, mP M16 a0 44 = some b23 ∧ (ob M16 b23 9 ∧ (vp_in x5 (mN M16 b23) ∧ ∀ M26, M26 = sI M16 b23 (x5).toNatClampNeg (-1 : Int32) → V_X7_begin (kV (fun M27 => V_X7_end_65 K  M27 ) (fun _ _ => False)) M26 a0 x5 a2 x22)))))))) (fun _ _ => False)) M11 a0 x5)))))) (fun _ _ => False)) M9 a0 a1)) (fun _ _ => False)) M a0 (1 : Int32) x5 a2 (mI M b6 (a1).toNatClampNeg))))))
set_option maxRecDepth 100000 in
set_option maxHeartbeats 4000000 in
theorem x_X7_end {G : Gx} {K : Rs → Mm → Prop} {M : Mm} {a0 : Nat} {a1 : Int32} {a2 : Int32} (h : V_X7_end K M a0 a1 a2) : MC G mi_X7_end [.ref a0, .int a1, .int a2] M K := by
  unfold V_X7_end at h
  refine mc_of rfl (by decide +kernel) dc_X7_end (Nat.le_of_ble_eq_true rfl) 2 (Nat.le_of_ble_eq_true rfl) ?_
  show E G mi_X7_end K M 0 0 0 [some (.ref a0), some (.int a1), some (.int a2), none, none] []
  refine e_blk 1 0 _ _ (pc' := 1) (L' := [some (.ref a0), some (.int a1), some (.int a2), none, none]) (st' := [.ref a0]) rfl ?_
  obtain ⟨ho1, h⟩ := h
  obtain ⟨b2, hbb2, h⟩ := h
  refine e_getR 7 46 rfl rfl (by decide) (aw (i := 1111) (by decide +kernel) rfl) ho1 rfl hbb2 ?_
  refine e_blk 1 4 _ _ (pc' := 5) (L' := [some (.ref a0), some (.int a1), some (.int a2), none, none]) (st' := [.int a1, .ref b2]) rfl ?_
  obtain ⟨ho3, h⟩ := h
  obtain ⟨hi4, h⟩ := h
  refine e_iald rfl ho3 hi4 ?_
  refine e_blk 6 6 _ _ (pc' := 12) (L' := [some (.ref a0), some (.int a1), some (.int a2), some (.int (mI M b2 (a1).toNatClampNeg)), none]) (st' := [.ref a0, .int a2, .int (mI M b2 (a1).toNatClampNeg), .int (1 : Int32), .ref a0]) rfl ?_
  generalize hx_x5 : ((mI M b2 (a1).toNatClampNeg) : Int32) = x5
  replace h := h x5 hx_x5.symm
  obtain ⟨b6, hbb6, h⟩ := h
  refine e_getR 7 48 rfl rfl (by decide) (aw (i := 1113) (by decide +kernel) rfl) ho1 rfl hbb6 ?_
  refine e_blk 1 15 _ _ (pc' := 16) (L' := [some (.ref a0), some (.int a1), some (.int a2), some (.int x5), none]) (st' := [.int a1, .ref b6, .int a2, .int x5, .int (1 : Int32), .ref a0]) rfl ?_
  obtain ⟨ho7, h⟩ := h
  obtain ⟨hi8, h⟩ := h
  refine e_iald rfl ho7 hi8 ?_
  refine e_callV (As := [.int (1 : Int32), .int x5, .int a2, .int (mI M b6 (a1).toNatClampNeg)]) (rest := []) (ci := 7) rfl (x_X7_line h) ho1 rfl rfl rfl (aw (i := 1556) (by decide +kernel) rfl) wn_X7_line wv_X7_line wi_X7_line wc_X7_line (show cok mi_X7_end mi_X7_line 0 0 4 = true by decide +kernel) (Nat.le_of_ble_eq_true rfl) (fun v9 M9 hq => ?_) (fun X M9 hq => False.elim hq)
  obtain ⟨rfl, h⟩ := kV_l hq
  refine e_blk 2 20 _ _ (pc' := 22) (L' := [some (.ref a0), some (.int a1), some (.int a2), some (.int x5), none]) (st' := [.int a1, .ref a0]) rfl ?_
  obtain ⟨ho10, h⟩ := h
  refine e_callV (As := [.int a1]) (rest := []) (ci := 7) rfl (x_X7_dropRun h) ho10 rfl rfl rfl (aw (i := 1454) (by decide +kernel) rfl) wn_X7_dropRun wv_X7_dropRun wi_X7_dropRun wc_X7_dropRun (show cok mi_X7_end mi_X7_dropRun 0 0 1 = true by decide +kernel) (Nat.le_of_ble_eq_true rfl) (fun v9 M11 hq => ?_) (fun X M9 hq => False.elim hq)
  obtain ⟨rfl, h⟩ := kV_l hq
  refine e_blk 1 25 _ _ (pc' := 26) (L' := [some (.ref a0), some (.int a1), some (.int a2), some (.int x5), none]) (st' := [.ref a0]) rfl ?_
  obtain ⟨ho12, h⟩ := h
  obtain ⟨b13, hbb13, h⟩ := h
  refine e_getR 7 44 rfl rfl (by decide) (aw (i := 1109) (by decide +kernel) rfl) ho12 rfl hbb13 ?_
  refine e_blk 1 29 _ _ (pc' := 30) (L' := [some (.ref a0), some (.int a1), some (.int a2), some (.int x5), none]) (st' := [.int x5, .ref b13]) rfl ?_
  obtain ⟨ho14, h⟩ := h
  obtain ⟨hi15, h⟩ := h
  refine e_iald rfl ho14 hi15 ?_
  refine e_if_lt 65 rfl rfl (fun hc => ?_) (fun hc => ?_)
  · replace h := h.1 hc
    refine e_drp [false, false, false, false, false] (L' := [none, none, none, none, none]) rfl ?_
    exact x_X7_end_65  h
  · replace h := h.2 hc
    refine e_blk 2 34 _ _ (pc' := 36) (L' := [some (.ref a0), some (.int a1), some (.int a2), some (.int x5), none]) (st' := [.int x5, .ref a0]) rfl ?_
    refine e_callV (As := [.int x5]) (rest := []) (ci := 7) rfl (x_X7_runsOf h) ho12 rfl rfl rfl (aw (i := 1466) (by decide +kernel) rfl) wn_X7_runsOf wv_X7_runsOf wi_X7_runsOf wc_X7_runsOf (show cok mi_X7_end mi_X7_runsOf 0 0 1 = true by decide +kernel) (Nat.le_of_ble_eq_true rfl) (fun v9 M16 hq => ?_) (fun X M9 hq => False.elim hq)
    obtain ⟨r17, rfl, h⟩ := kI_l hq
    refine e_if_ne 65 rfl rfl (fun hc => ?_) (fun hc => ?_)
    · replace h := h.1 hc
      refine e_drp [false, false, false, false, false] (L' := [none, none, none, none, none]) rfl ?_
      exact x_X7_end_65  h
    · replace h := h.2 hc
      refine e_blk 1 42 _ _ (pc' := 43) (L' := [some (.ref a0), some (.int a1), some (.int a2), some (.int x5), none]) (st' := [.ref a0]) rfl ?_
      obtain ⟨ho18, h⟩ := h
      obtain ⟨b19, hbb19, h⟩ := h
      refine e_getR 7 44 rfl rfl (by decide) (aw (i := 1109) (by decide +kernel) rfl) ho18 rfl hbb19 ?_
      refine e_blk 1 46 _ _ (pc' := 47) (L' := [some (.ref a0), some (.int a1), some (.int a2), some (.int x5), none]) (st' := [.int x5, .ref b19]) rfl ?_
      obtain ⟨ho20, h⟩ := h
      obtain ⟨hi21, h⟩ := h
      refine e_iald rfl ho20 hi21 ?_
      refine e_blk 2 48 _ _ (pc' := 51) (L' := [some (.ref a0), some (.int a1), some (.int a2), some (.int x5), some (.int (mI M16 b19 (x5).toNatClampNeg))]) (st' := [.ref a0]) rfl ?_
      generalize hx_x22 : ((mI M16 b19 (x5).toNatClampNeg) : Int32) = x22
      replace h := h x22 hx_x22.symm
      obtain ⟨b23, hbb23, h⟩ := h
      refine e_getR 7 44 rfl rfl (by decide) (aw (i := 1109) (by decide +kernel) rfl) ho18 rfl hbb23 ?_
      refine e_blk 2 54 _ _ (pc' := 56) (L' := [some (.ref a0), some (.int a1), some (.int a2), some (.int x5), some (.int x22)]) (st' := [.int (-1 : Int32), .int x5, .ref b23]) rfl ?_
      obtain ⟨ho24, h⟩ := h
      obtain ⟨hi25, h⟩ := h
      refine e_iast rfl ho24 hi25 ?_
      generalize hM26 : sI M16 b23 (x5).toNatClampNeg (-1 : Int32) = M26
      replace h := h M26 hM26.symm
      replace ho18 : ob M26 a0 7 := hM26 ▸ ob_sI ho18
      replace ho20 : ob M26 b19 9 := hM26 ▸ ob_sI ho20
      replace ho24 : ob M26 b23 9 := hM26 ▸ ob_sI ho24
      refine e_blk 4 57 _ _ (pc' := 62) (L' := [some (.ref a0), some (.int a1), some (.int a2), some (.int x5), some (.int x22)]) (st' := [.int x22, .int a2, .int x5, .ref a0]) rfl ?_
      refine e_callV (As := [.int x5, .int a2, .int x22]) (rest := []) (ci := 7) rfl (x_X7_begin h) ho18 rfl rfl rfl (aw (i := 1560) (by decide +kernel) rfl) wn_X7_begin wv_X7_begin wi_X7_begin wc_X7_begin (show cok mi_X7_end mi_X7_begin 0 0 3 = true by decide +kernel) (Nat.le_of_ble_eq_true rfl) (fun v9 M27 hq => ?_) (fun X M9 hq => False.elim hq)
      obtain ⟨rfl, h⟩ := kV_l hq
      refine e_drp [false, false, false, false, false] (L' := [none, none, none, none, none]) rfl ?_
      exact x_X7_end_65  h
def V_X7_due_99 (K : Rs → Mm → Prop)  (M : Mm)  : Prop := K (.inl none) M
set_option maxRecDepth 100000 in
set_option maxHeartbeats 4000000 in
theorem x_X7_due_99 {G : Gx} {K : Rs → Mm → Prop}  {M : Mm}  (h : V_X7_due_99 K  M ) : E G mi_X7_due K M 0 0 99 [none, none, none, none] [] := by
  unfold V_X7_due_99 at h
  exact e_ret rfl rfl (by decide) (by decide) h
def V_X7_due_78 (K : Rs → Mm → Prop)  (M : Mm) (l0 : Nat) (l1 : Int32) (l2 : Int32) : Prop := (ob M l0 7 ∧ ∃ b2, mP M l0 43 = some b2 ∧ (ob M b2 9 ∧ (vp_in l1 (mN M b2) ∧ (vp_in l1 (mN M b2) ∧ ∀ M6, M6 = sI M b2 (l1).toNatClampNeg ((mI M b2 (l1).toNatClampNeg) + (1 : Int32)) → V_X7_line (kV (fun M7 => V_X7_due_99 K  M7 ) (fun _ _ => False)) M6 l0 (2 : Int32) l1 (mI M6 l0 52) l2))))
set_option maxRecDepth 100000 in
set_option maxHeartbeats 4000000 in
theorem x_X7_due_78 {G : Gx} {K : Rs → Mm → Prop}  {M : Mm} {l0 : Nat} {l1 : Int32} {l2 : Int32} (h : V_X7_due_78 K  M l0 l1 l2) : E G mi_X7_due K M 0 0 78 [some (.ref l0), some (.int l1), some (.int l2), none] [] := by
  unfold V_X7_due_78 at h
  refine e_blk 1 78 _ _ (pc' := 79) (L' := [some (.ref l0), some (.int l1), some (.int l2), none]) (st' := [.ref l0]) rfl ?_
  obtain ⟨ho1, h⟩ := h
  obtain ⟨b2, hbb2, h⟩ := h
  refine e_getR 7 43 rfl rfl (by decide) (aw (i := 1108) (by decide +kernel) rfl) ho1 rfl hbb2 ?_
  refine e_blk 2 82 _ _ (pc' := 84) (L' := [some (.ref l0), some (.int l1), some (.int l2), none]) (st' := [.int l1, .ref b2, .int l1, .ref b2]) rfl ?_
  obtain ⟨ho3, h⟩ := h
  obtain ⟨hi4, h⟩ := h
  refine e_iald rfl ho3 hi4 ?_
  refine e_blk 2 85 _ _ (pc' := 87) (L' := [some (.ref l0), some (.int l1), some (.int l2), none]) (st' := [.int ((mI M b2 (l1).toNatClampNeg) + (1 : Int32)), .int l1, .ref b2]) rfl ?_
  obtain ⟨hi5, h⟩ := h
  refine e_iast rfl ho3 hi5 ?_
  generalize hM6 : sI M b2 (l1).toNatClampNeg ((mI M b2 (l1).toNatClampNeg) + (1 : Int32)) = M6
  replace h := h M6 hM6.symm
  replace ho1 : ob M6 l0 7 := hM6 ▸ ob_sI ho1
  replace ho3 : ob M6 b2 9 := hM6 ▸ ob_sI ho3
  refine e_blk 4 88 _ _ (pc' := 92) (L' := [some (.ref l0), some (.int l1), some (.int l2), none]) (st' := [.ref l0, .int l1, .int (2 : Int32), .ref l0]) rfl ?_
  refine e_getI 7 52 rfl rfl (by decide) (aw (i := 1117) (by decide +kernel) rfl) ho1 rfl ?_
  refine e_blk 1 95 _ _ (pc' := 96) (L' := [some (.ref l0), some (.int l1), some (.int l2), none]) (st' := [.int l2, .int (mI M6 l0 52), .int l1, .int (2 : Int32), .ref l0]) rfl ?_
  refine e_callV (As := [.int (2 : Int32), .int l1, .int (mI M6 l0 52), .int l2]) (rest := []) (ci := 7) rfl (x_X7_line h) ho1 rfl rfl rfl (aw (i := 1556) (by decide +kernel) rfl) wn_X7_line wv_X7_line wi_X7_line wc_X7_line (show cok mi_X7_due mi_X7_line 0 0 4 = true by decide +kernel) (Nat.le_of_ble_eq_true rfl) (fun v9 M7 hq => ?_) (fun X M9 hq => False.elim hq)
  obtain ⟨rfl, h⟩ := kV_l hq
  refine e_drp [false, false, false, false] (L' := [none, none, none, none]) rfl ?_
  exact x_X7_due_99  h
def V_X7_due_38 (K : Rs → Mm → Prop)  (M : Mm) (l0 : Nat) (l1 : Int32) (l2 : Int32) : Prop := (ob M l0 7 ∧ ∃ b2, mP M l0 30 = some b2 ∧ (ob M b2 9 ∧ (vp_in l1 (mN M b2) ∧ ((¬ (mI M b2 (l1).toNatClampNeg) = (2 : Int32) → V_X7_due_78 K  M l0 l1 l2) ∧ ((mI M b2 (l1).toNatClampNeg) = (2 : Int32) → ∃ b5, mP M l0 44 = some b5 ∧ (ob M b5 9 ∧ (vp_in l1 (mN M b5) ∧ ((0 ≤ (mI M b5 (l1).toNatClampNeg) → V_X7_due_78 K  M l0 l1 l2) ∧ (¬ 0 ≤ (mI M b5 (l1).toNatClampNeg) → ∃ b8, mP M l0 44 = some b8 ∧ (ob M b8 9 ∧ (vp_in l1 (mN M b8) ∧ ∀ M11, M11 = sI M b8 (l1).toNatClampNeg l2 → V_X7_line (kV (fun M12 => V_X7_due_99 K  M12 ) (fun _ _ => False)) M11 l0 (3 : Int32) l1 (mI M11 l0 52) l2)))))))))))
set_option maxRecDepth 100000 in
set_option maxHeartbeats 4000000 in
theorem x_X7_due_38 {G : Gx} {K : Rs → Mm → Prop}  {M : Mm} {l0 : Nat} {l1 : Int32} {l2 : Int32} (h : V_X7_due_38 K  M l0 l1 l2) : E G mi_X7_due K M 0 0 38 [some (.ref l0), some (.int l1), some (.int l2), none] [] := by
  unfold V_X7_due_38 at h
  refine e_blk 1 38 _ _ (pc' := 39) (L' := [some (.ref l0), some (.int l1), some (.int l2), none]) (st' := [.ref l0]) rfl ?_
  obtain ⟨ho1, h⟩ := h
  obtain ⟨b2, hbb2, h⟩ := h
  refine e_getR 7 30 rfl rfl (by decide) (aw (i := 1095) (by decide +kernel) rfl) ho1 rfl hbb2 ?_
  refine e_blk 1 42 _ _ (pc' := 43) (L' := [some (.ref l0), some (.int l1), some (.int l2), none]) (st' := [.int l1, .ref b2]) rfl ?_
  obtain ⟨ho3, h⟩ := h
  obtain ⟨hi4, h⟩ := h
  refine e_iald rfl ho3 hi4 ?_
  refine e_blk 1 44 _ _ (pc' := 45) (L' := [some (.ref l0), some (.int l1), some (.int l2), none]) (st' := [.int (2 : Int32), .int (mI M b2 (l1).toNatClampNeg)]) rfl ?_
  refine e_icmp_ne 78 rfl rfl (fun hc => ?_) (fun hc => ?_)
  · replace h := h.1 hc
    refine e_drp [true, true, true, false] (L' := [some (.ref l0), some (.int l1), some (.int l2), none]) rfl ?_
    exact x_X7_due_78  h
  · replace h := h.2 hc
    refine e_blk 1 48 _ _ (pc' := 49) (L' := [some (.ref l0), some (.int l1), some (.int l2), none]) (st' := [.ref l0]) rfl ?_
    obtain ⟨b5, hbb5, h⟩ := h
    refine e_getR 7 44 rfl rfl (by decide) (aw (i := 1109) (by decide +kernel) rfl) ho1 rfl hbb5 ?_
    refine e_blk 1 52 _ _ (pc' := 53) (L' := [some (.ref l0), some (.int l1), some (.int l2), none]) (st' := [.int l1, .ref b5]) rfl ?_
    obtain ⟨ho6, h⟩ := h
    obtain ⟨hi7, h⟩ := h
    refine e_iald rfl ho6 hi7 ?_
    refine e_if_ge 78 rfl rfl (fun hc => ?_) (fun hc => ?_)
    · replace h := h.1 hc
      refine e_drp [true, true, true, false] (L' := [some (.ref l0), some (.int l1), some (.int l2), none]) rfl ?_
      exact x_X7_due_78  h
    · replace h := h.2 hc
      refine e_blk 1 57 _ _ (pc' := 58) (L' := [some (.ref l0), some (.int l1), some (.int l2), none]) (st' := [.ref l0]) rfl ?_
      obtain ⟨b8, hbb8, h⟩ := h
      refine e_getR 7 44 rfl rfl (by decide) (aw (i := 1109) (by decide +kernel) rfl) ho1 rfl hbb8 ?_
      refine e_blk 2 61 _ _ (pc' := 63) (L' := [some (.ref l0), some (.int l1), some (.int l2), none]) (st' := [.int l2, .int l1, .ref b8]) rfl ?_
      obtain ⟨ho9, h⟩ := h
      obtain ⟨hi10, h⟩ := h
      refine e_iast rfl ho9 hi10 ?_
      generalize hM11 : sI M b8 (l1).toNatClampNeg l2 = M11
      replace h := h M11 hM11.symm
      replace ho1 : ob M11 l0 7 := hM11 ▸ ob_sI ho1
      replace ho3 : ob M11 b2 9 := hM11 ▸ ob_sI ho3
      replace ho6 : ob M11 b5 9 := hM11 ▸ ob_sI ho6
      replace ho9 : ob M11 b8 9 := hM11 ▸ ob_sI ho9
      refine e_blk 4 64 _ _ (pc' := 68) (L' := [some (.ref l0), some (.int l1), some (.int l2), none]) (st' := [.ref l0, .int l1, .int (3 : Int32), .ref l0]) rfl ?_
      refine e_getI 7 52 rfl rfl (by decide) (aw (i := 1117) (by decide +kernel) rfl) ho1 rfl ?_
      refine e_blk 1 71 _ _ (pc' := 72) (L' := [some (.ref l0), some (.int l1), some (.int l2), none]) (st' := [.int l2, .int (mI M11 l0 52), .int l1, .int (3 : Int32), .ref l0]) rfl ?_
      refine e_callV (As := [.int (3 : Int32), .int l1, .int (mI M11 l0 52), .int l2]) (rest := []) (ci := 7) rfl (x_X7_line h) ho1 rfl rfl rfl (aw (i := 1556) (by decide +kernel) rfl) wn_X7_line wv_X7_line wi_X7_line wc_X7_line (show cok mi_X7_due mi_X7_line 0 0 4 = true by decide +kernel) (Nat.le_of_ble_eq_true rfl) (fun v9 M12 hq => ?_) (fun X M9 hq => False.elim hq)
      obtain ⟨rfl, h⟩ := kV_l hq
      refine e_blk 1 75 _ _ (pc' := 99) (L' := [some (.ref l0), some (.int l1), some (.int l2), none]) (st' := []) rfl ?_
      refine e_drp [false, false, false, false] (L' := [none, none, none, none]) rfl ?_
      exact x_X7_due_99  h
def V_X7_due_25 (K : Rs → Mm → Prop)  (M : Mm) (l0 : Nat) (l1 : Int32) (l2 : Int32) : Prop := (ob M l0 7 ∧ V_X7_begin (kV (fun M2 => V_X7_due_99 K  M2 ) (fun _ _ => False)) M l0 l1 (mI M l0 52) l2)
set_option maxRecDepth 100000 in
set_option maxHeartbeats 4000000 in
theorem x_X7_due_25 {G : Gx} {K : Rs → Mm → Prop}  {M : Mm} {l0 : Nat} {l1 : Int32} {l2 : Int32} (h : V_X7_due_25 K  M l0 l1 l2) : E G mi_X7_due K M 0 0 25 [some (.ref l0), some (.int l1), some (.int l2), none] [] := by
  unfold V_X7_due_25 at h
  refine e_blk 3 25 _ _ (pc' := 28) (L' := [some (.ref l0), some (.int l1), some (.int l2), none]) (st' := [.ref l0, .int l1, .ref l0]) rfl ?_
  obtain ⟨ho1, h⟩ := h
  refine e_getI 7 52 rfl rfl (by decide) (aw (i := 1117) (by decide +kernel) rfl) ho1 rfl ?_
  refine e_blk 1 31 _ _ (pc' := 32) (L' := [some (.ref l0), some (.int l1), some (.int l2), none]) (st' := [.int l2, .int (mI M l0 52), .int l1, .ref l0]) rfl ?_
  refine e_callV (As := [.int l1, .int (mI M l0 52), .int l2]) (rest := []) (ci := 7) rfl (x_X7_begin h) ho1 rfl rfl rfl (aw (i := 1560) (by decide +kernel) rfl) wn_X7_begin wv_X7_begin wi_X7_begin wc_X7_begin (show cok mi_X7_due mi_X7_begin 0 0 3 = true by decide +kernel) (Nat.le_of_ble_eq_true rfl) (fun v9 M2 hq => ?_) (fun X M9 hq => False.elim hq)
  obtain ⟨rfl, h⟩ := kV_l hq
  refine e_blk 1 35 _ _ (pc' := 99) (L' := [some (.ref l0), some (.int l1), some (.int l2), none]) (st' := []) rfl ?_
  refine e_drp [false, false, false, false] (L' := [none, none, none, none]) rfl ?_
  exact x_X7_due_99  h
def V_X7_due (K : Rs → Mm → Prop) (M : Mm) (a0 : Nat) (a1 : Int32) (a2 : Int32) : Prop := (ob M a0 7 ∧ V_X7_runsOf (kI (fun r3 M2 => ((r3 = 0 → V_X7_due_25 K  M2 a0 a1 a2) ∧ (¬ r3 = 0 → (ob M2 a0 7 ∧ ∃ b5, mP M2 a0 30 = some b5 ∧ (ob M2 b5 9 ∧ (vp_in a1 (mN M2 b5) ∧ ((¬ (mI M2 b5 (a1).toNatClampNeg) = 0 → V_X7_due_38 K  M2 a0 a1 a2) ∧ ((mI M2 b5 (a1).toNatClampNeg) = 0 → (((8 : Int32) ≤ r3 → V_X7_due_38 K  M2 a0 a1 a2) ∧ (¬ (8 : Int32) ≤ r3 → V_X7_due_25 K  M2 a0 a1 a2)))))))))) (fun _ _ => False)) M a0 a1)
set_option maxRecDepth 100000 in
set_option maxHeartbeats 4000000 in
theorem x_X7_due {G : Gx} {K : Rs → Mm → Prop} {M : Mm} {a0 : Nat} {a1 : Int32} {a2 : Int32} (h : V_X7_due K M a0 a1 a2) : MC G mi_X7_due [.ref a0, .int a1, .int a2] M K := by
  unfold V_X7_due at h
  refine mc_of rfl (by decide +kernel) dc_X7_due (Nat.le_of_ble_eq_true rfl) 1 (Nat.le_of_ble_eq_true rfl) ?_
  show E G mi_X7_due K M 0 0 0 [some (.ref a0), some (.int a1), some (.int a2), none] []
  refine e_blk 2 0 _ _ (pc' := 2) (L' := [some (.ref a0), some (.int a1), some (.int a2), none]) (st' := [.int a1, .ref a0]) rfl ?_
  obtain ⟨ho1, h⟩ := h
  refine e_callV (As := [.int a1]) (rest := []) (ci := 7) rfl (x_X7_runsOf h) ho1 rfl rfl rfl (aw (i := 1466) (by decide +kernel) rfl) wn_X7_runsOf wv_X7_runsOf wi_X7_runsOf wc_X7_runsOf (show cok mi_X7_due mi_X7_runsOf 0 0 1 = true by decide +kernel) (Nat.le_of_ble_eq_true rfl) (fun v9 M2 hq => ?_) (fun X M9 hq => False.elim hq)
  obtain ⟨r3, rfl, h⟩ := kI_l hq
  refine e_blk 2 5 _ _ (pc' := 7) (L' := [some (.ref a0), some (.int a1), some (.int a2), some (.int r3)]) (st' := [.int r3]) rfl ?_
  refine e_if_eq 25 rfl rfl (fun hc => ?_) (fun hc => ?_)
  · replace h := h.1 hc
    refine e_drp [true, true, true, false] (L' := [some (.ref a0), some (.int a1), some (.int a2), none]) rfl ?_
    exact x_X7_due_25  h
  · replace h := h.2 hc
    refine e_blk 1 10 _ _ (pc' := 11) (L' := [some (.ref a0), some (.int a1), some (.int a2), some (.int r3)]) (st' := [.ref a0]) rfl ?_
    obtain ⟨ho4, h⟩ := h
    obtain ⟨b5, hbb5, h⟩ := h
    refine e_getR 7 30 rfl rfl (by decide) (aw (i := 1095) (by decide +kernel) rfl) ho4 rfl hbb5 ?_
    refine e_blk 1 14 _ _ (pc' := 15) (L' := [some (.ref a0), some (.int a1), some (.int a2), some (.int r3)]) (st' := [.int a1, .ref b5]) rfl ?_
    obtain ⟨ho6, h⟩ := h
    obtain ⟨hi7, h⟩ := h
    refine e_iald rfl ho6 hi7 ?_
    refine e_if_ne 38 rfl rfl (fun hc => ?_) (fun hc => ?_)
    · replace h := h.1 hc
      refine e_drp [true, true, true, false] (L' := [some (.ref a0), some (.int a1), some (.int a2), none]) rfl ?_
      exact x_X7_due_38  h
    · replace h := h.2 hc
      refine e_blk 2 19 _ _ (pc' := 22) (L' := [some (.ref a0), some (.int a1), some (.int a2), some (.int r3)]) (st' := [.int (8 : Int32), .int r3]) rfl ?_
      refine e_icmp_ge 38 rfl rfl (fun hc => ?_) (fun hc => ?_)
      · replace h := h.1 hc
        refine e_drp [true, true, true, false] (L' := [some (.ref a0), some (.int a1), some (.int a2), none]) rfl ?_
        exact x_X7_due_38  h
      · replace h := h.2 hc
        refine e_drp [true, true, true, false] (L' := [some (.ref a0), some (.int a1), some (.int a2), none]) rfl ?_
        exact x_X7_due_25  h
def V_X7_ending_88 (K : Rs → Mm → Prop) (B4 : Mm → Nat → Int32 → Int32 → Int32 → Prop) (M : Mm) (l0 : Nat) (l1 : Int32) (l3 : Int32) (s0 : Int32) : Prop := ∀ x1 : Int32, x1 = (l3 + (1 : Int32)) → B4 M l0 l1 s0 x1
set_option maxRecDepth 100000 in
set_option maxHeartbeats 4000000 in
theorem x_X7_ending_88 {G : Gx} {K : Rs → Mm → Prop} {B4 : Mm → Nat → Int32 → Int32 → Int32 → Prop} (hB4 : ∀ M l0 l1 l2 l3, B4 M l0 l1 l2 l3 → E G mi_X7_ending K M 0 0 4 [some (.ref l0), some (.int l1), some (.int l2), some (.int l3), none] []) {M : Mm} {l0 : Nat} {l1 : Int32} {l3 : Int32} {s0 : Int32} (h : V_X7_ending_88 K B4 M l0 l1 l3 s0) : E G mi_X7_ending K M 0 0 88 [some (.ref l0), some (.int l1), none, some (.int l3), none] [.int s0] := by
  unfold V_X7_ending_88 at h
  refine e_blk 3 88 _ _ (pc' := 4) (L' := [some (.ref l0), some (.int l1), some (.int s0), some (.int (l3 + (1 : Int32))), none]) (st' := []) rfl ?_
  generalize hx_x1 : ((l3 + (1 : Int32)) : Int32) = x1
  replace h := h x1 hx_x1.symm
  refine e_drp [true, true, true, true, false] (L' := [some (.ref l0), some (.int l1), some (.int s0), some (.int x1), none]) rfl ?_
  exact hB4 _ _ _ _ _ h
def V_X7_ending_87 (K : Rs → Mm → Prop) (B4 : Mm → Nat → Int32 → Int32 → Int32 → Prop) (M : Mm) (l0 : Nat) (l1 : Int32) (l2 : Int32) (l3 : Int32) : Prop := V_X7_ending_88 K B4 M l0 l1 l3 l2
set_option maxRecDepth 100000 in
set_option maxHeartbeats 4000000 in
theorem x_X7_ending_87 {G : Gx} {K : Rs → Mm → Prop} {B4 : Mm → Nat → Int32 → Int32 → Int32 → Prop} (hB4 : ∀ M l0 l1 l2 l3, B4 M l0 l1 l2 l3 → E G mi_X7_ending K M 0 0 4 [some (.ref l0), some (.int l1), some (.int l2), some (.int l3), none] []) {M : Mm} {l0 : Nat} {l1 : Int32} {l2 : Int32} {l3 : Int32} (h : V_X7_ending_87 K B4 M l0 l1 l2 l3) : E G mi_X7_ending K M 0 0 87 [some (.ref l0), some (.int l1), some (.int l2), some (.int l3), none] [] := by
  unfold V_X7_ending_87 at h
  refine e_blk 1 87 _ _ (pc' := 88) (L' := [some (.ref l0), some (.int l1), some (.int l2), some (.int l3), none]) (st' := [.int l2]) rfl ?_
  refine e_drp [true, true, false, true, false] (L' := [some (.ref l0), some (.int l1), none, some (.int l3), none]) rfl ?_
  exact x_X7_ending_88 hB4 h
def V_X7_ending_66 (K : Rs → Mm → Prop) (B4 : Mm → Nat → Int32 → Int32 → Int32 → Prop) (M : Mm) (l0 : Nat) (l1 : Int32) (l2 : Int32) (l3 : Int32) (s0 : Int32) : Prop := (ob M l0 7 ∧ ∃ b2, mP M l0 47 = some b2 ∧ (ob M b2 9 ∧ (vp_in l3 (mN M b2) ∧ ((l1 < (mI M b2 (l3).toNatClampNeg) → V_X7_ending_87 K B4 M l0 l1 l2 l3) ∧ (¬ l1 < (mI M b2 (l3).toNatClampNeg) → ((s0 = 0 → V_X7_ending_87 K B4 M l0 l1 l2 l3) ∧ (¬ s0 = 0 → V_X7_ending_88 K B4 M l0 l1 l3 l3)))))))
set_option maxRecDepth 100000 in
set_option maxHeartbeats 4000000 in
theorem x_X7_ending_66 {G : Gx} {K : Rs → Mm → Prop} {B4 : Mm → Nat → Int32 → Int32 → Int32 → Prop} (hB4 : ∀ M l0 l1 l2 l3, B4 M l0 l1 l2 l3 → E G mi_X7_ending K M 0 0 4 [some (.ref l0), some (.int l1), some (.int l2), some (.int l3), none] []) {M : Mm} {l0 : Nat} {l1 : Int32} {l2 : Int32} {l3 : Int32} {s0 : Int32} (h : V_X7_ending_66 K B4 M l0 l1 l2 l3 s0) : E G mi_X7_ending K M 0 0 66 [some (.ref l0), some (.int l1), some (.int l2), some (.int l3), none] [.int s0] := by
  unfold V_X7_ending_66 at h
  refine e_blk 2 66 _ _ (pc' := 69) (L' := [some (.ref l0), some (.int l1), some (.int l2), some (.int l3), some (.int s0)]) (st' := [.ref l0]) rfl ?_
  obtain ⟨ho1, h⟩ := h
  obtain ⟨b2, hbb2, h⟩ := h
  refine e_getR 7 47 rfl rfl (by decide) (aw (i := 1112) (by decide +kernel) rfl) ho1 rfl hbb2 ?_
  refine e_blk 1 72 _ _ (pc' := 73) (L' := [some (.ref l0), some (.int l1), some (.int l2), some (.int l3), some (.int s0)]) (st' := [.int l3, .ref b2]) rfl ?_
  obtain ⟨ho3, h⟩ := h
  obtain ⟨hi4, h⟩ := h
  refine e_iald rfl ho3 hi4 ?_
  refine e_blk 1 74 _ _ (pc' := 75) (L' := [some (.ref l0), some (.int l1), some (.int l2), some (.int l3), some (.int s0)]) (st' := [.int l1, .int (mI M b2 (l3).toNatClampNeg)]) rfl ?_
  refine e_icmp_gt 87 rfl rfl (fun hc => ?_) (fun hc => ?_)
  · replace h := h.1 hc
    refine e_drp [true, true, true, true, false] (L' := [some (.ref l0), some (.int l1), some (.int l2), some (.int l3), none]) rfl ?_
    exact x_X7_ending_87 hB4 h
  · replace h := h.2 hc
    refine e_blk 1 78 _ _ (pc' := 80) (L' := [some (.ref l0), some (.int l1), some (.int l2), some (.int l3), some (.int s0)]) (st' := [.int s0]) rfl ?_
    refine e_if_eq 87 rfl rfl (fun hc => ?_) (fun hc => ?_)
    · replace h := h.1 hc
      refine e_drp [true, true, true, true, false] (L' := [some (.ref l0), some (.int l1), some (.int l2), some (.int l3), none]) rfl ?_
      exact x_X7_ending_87 hB4 h
    · replace h := h.2 hc
      refine e_blk 2 83 _ _ (pc' := 88) (L' := [some (.ref l0), some (.int l1), some (.int l2), some (.int l3), some (.int s0)]) (st' := [.int l3]) rfl ?_
      refine e_drp [true, true, false, true, false] (L' := [some (.ref l0), some (.int l1), none, some (.int l3), none]) rfl ?_
      exact x_X7_ending_88 hB4 h
def V_X7_ending_65 (K : Rs → Mm → Prop) (B4 : Mm → Nat → Int32 → Int32 → Int32 → Prop) (M : Mm) (l0 : Nat) (l1 : Int32) (l2 : Int32) (l3 : Int32) : Prop := V_X7_ending_66 K B4 M l0 l1 l2 l3 (0 : Int32)
set_option maxRecDepth 100000 in
set_option maxHeartbeats 4000000 in
theorem x_X7_ending_65 {G : Gx} {K : Rs → Mm → Prop} {B4 : Mm → Nat → Int32 → Int32 → Int32 → Prop} (hB4 : ∀ M l0 l1 l2 l3, B4 M l0 l1 l2 l3 → E G mi_X7_ending K M 0 0 4 [some (.ref l0), some (.int l1), some (.int l2), some (.int l3), none] []) {M : Mm} {l0 : Nat} {l1 : Int32} {l2 : Int32} {l3 : Int32} (h : V_X7_ending_65 K B4 M l0 l1 l2 l3) : E G mi_X7_ending K M 0 0 65 [some (.ref l0), some (.int l1), some (.int l2), some (.int l3), none] [] := by
  unfold V_X7_ending_65 at h
  refine e_blk 1 65 _ _ (pc' := 66) (L' := [some (.ref l0), some (.int l1), some (.int l2), some (.int l3), none]) (st' := [.int (0 : Int32)]) rfl ?_
  refine e_drp [true, true, true, true, false] (L' := [some (.ref l0), some (.int l1), some (.int l2), some (.int l3), none]) rfl ?_
  exact x_X7_ending_66 hB4 h
def V_X7_ending_61 (K : Rs → Mm → Prop) (B4 : Mm → Nat → Int32 → Int32 → Int32 → Prop) (M : Mm) (l0 : Nat) (l1 : Int32) (l2 : Int32) (l3 : Int32) : Prop := V_X7_ending_66 K B4 M l0 l1 l2 l3 (1 : Int32)
set_option maxRecDepth 100000 in
set_option maxHeartbeats 4000000 in
theorem x_X7_ending_61 {G : Gx} {K : Rs → Mm → Prop} {B4 : Mm → Nat → Int32 → Int32 → Int32 → Prop} (hB4 : ∀ M l0 l1 l2 l3, B4 M l0 l1 l2 l3 → E G mi_X7_ending K M 0 0 4 [some (.ref l0), some (.int l1), some (.int l2), some (.int l3), none] []) {M : Mm} {l0 : Nat} {l1 : Int32} {l2 : Int32} {l3 : Int32} (h : V_X7_ending_61 K B4 M l0 l1 l2 l3) : E G mi_X7_ending K M 0 0 61 [some (.ref l0), some (.int l1), some (.int l2), some (.int l3), none] [] := by
  unfold V_X7_ending_61 at h
  refine e_blk 2 61 _ _ (pc' := 66) (L' := [some (.ref l0), some (.int l1), some (.int l2), some (.int l3), none]) (st' := [.int (1 : Int32)]) rfl ?_
  refine e_drp [true, true, true, true, false] (L' := [some (.ref l0), some (.int l1), some (.int l2), some (.int l3), none]) rfl ?_
  exact x_X7_ending_66 hB4 h
def V_X7_ending_4 (K : Rs → Mm → Prop)  : Nat → Mm → Nat → Int32 → Int32 → Int32 → Prop
  | 0, _, _, _, _, _ => False
  | z + 1, M, l0, l1, l2, l3 => (ob M l0 7 ∧ (((mI M l0 45) ≤ l3 → K (.inl (some (.int l2))) M) ∧ (¬ (mI M l0 45) ≤ l3 → ((l2 < 0 → V_X7_ending_61 K (fun M l0 l1 l2 l3 => V_X7_ending_4 K  z M l0 l1 l2 l3) M l0 l1 l2 l3) ∧ (¬ l2 < 0 → ∃ b2, mP M l0 47 = some b2 ∧ (ob M b2 9 ∧ (vp_in l3 (mN M b2) ∧ ∃ b5, mP M l0 47 = some b5 ∧ (ob M b5 9 ∧ (vp_in l2 (mN M b5) ∧ (((mI M b2 (l3).toNatClampNeg) < (mI M b5 (l2).toNatClampNeg) → V_X7_ending_61 K (fun M l0 l1 l2 l3 => V_X7_ending_4 K  z M l0 l1 l2 l3) M l0 l1 l2 l3) ∧ (¬ (mI M b2 (l3).toNatClampNeg) < (mI M b5 (l2).toNatClampNeg) → ∃ b8, mP M l0 47 = some b8 ∧ (ob M b8 9 ∧ (vp_in l3 (mN M b8) ∧ ∃ b11, mP M l0 47 = some b11 ∧ (ob M b11 9 ∧ (vp_in l2 (mN M b11) ∧ ((¬ (mI M b8 (l3).toNatClampNeg) = (mI M b11 (l2).toNatClampNeg) → V_X7_ending_65 K (fun M l0 l1 l2 l3 => V_X7_ending_4 K  z M l0 l1 l2 l3) M l0 l1 l2 l3) ∧ ((mI M b8 (l3).toNatClampNeg) = (mI M b11 (l2).toNatClampNeg) → ∃ b14, mP M l0 46 = some b14 ∧ (ob M b14 9 ∧ (vp_in l3 (mN M b14) ∧ ∃ b17, mP M l0 46 = some b17 ∧ (ob M b17 9 ∧ (vp_in l2 (mN M b17) ∧ (((mI M b17 (l2).toNatClampNeg) ≤ (mI M b14 (l3).toNatClampNeg) → V_X7_ending_65 K (fun M l0 l1 l2 l3 => V_X7_ending_4 K  z M l0 l1 l2 l3) M l0 l1 l2 l3) ∧ (¬ (mI M b17 (l2).toNatClampNeg) ≤ (mI M b14 (l3).toNatClampNeg) → V_X7_ending_61 K (fun M l0 l1 l2 l3 => V_X7_ending_4 K  z M l0 l1 l2 l3) M l0 l1 l2 l3)))))))))))))))))))))))
set_option maxRecDepth 100000 in
set_option maxHeartbeats 4000000 in
theorem x_X7_ending_4 {G : Gx} {K : Rs → Mm → Prop}  : ∀ (z : Nat) (M : Mm) (l0 : Nat) (l1 : Int32) (l2 : Int32) (l3 : Int32), V_X7_ending_4 K  z M l0 l1 l2 l3 → E G mi_X7_ending K M 0 0 4 [some (.ref l0), some (.int l1), some (.int l2), some (.int l3), none] []
  | 0, M, l0, l1, l2, l3, h => False.elim h
  | z + 1, M, l0, l1, l2, l3, h => by
    unfold V_X7_ending_4 at h
    refine e_blk 2 4 _ _ (pc' := 6) (L' := [some (.ref l0), some (.int l1), some (.int l2), some (.int l3), none]) (st' := [.ref l0, .int l3]) rfl ?_
    obtain ⟨ho1, h⟩ := h
    refine e_getI 7 45 rfl rfl (by decide) (aw (i := 1110) (by decide +kernel) rfl) ho1 rfl ?_
    refine e_icmp_ge 95 rfl rfl (fun hc => ?_) (fun hc => ?_)
    · replace h := h.1 hc
      refine e_blk 1 95 _ _ (pc' := 96) (L' := [some (.ref l0), some (.int l1), some (.int l2), some (.int l3), none]) (st' := [.int l2]) rfl ?_
      exact e_reti rfl rfl (by decide) (by decide) h
    · replace h := h.2 hc
      refine e_blk 1 12 _ _ (pc' := 13) (L' := [some (.ref l0), some (.int l1), some (.int l2), some (.int l3), none]) (st' := [.int l2]) rfl ?_
      refine e_if_lt 61 rfl rfl (fun hc => ?_) (fun hc => ?_)
      · replace h := h.1 hc
        refine e_drp [true, true, true, true, false] (L' := [some (.ref l0), some (.int l1), some (.int l2), some (.int l3), none]) rfl ?_
        exact x_X7_ending_61 (fun M l0 l1 l2 l3 h => x_X7_ending_4  z M l0 l1 l2 l3 h) h
      · replace h := h.2 hc
        refine e_blk 1 16 _ _ (pc' := 17) (L' := [some (.ref l0), some (.int l1), some (.int l2), some (.int l3), none]) (st' := [.ref l0]) rfl ?_
        obtain ⟨b2, hbb2, h⟩ := h
        refine e_getR 7 47 rfl rfl (by decide) (aw (i := 1112) (by decide +kernel) rfl) ho1 rfl hbb2 ?_
        refine e_blk 1 20 _ _ (pc' := 21) (L' := [some (.ref l0), some (.int l1), some (.int l2), some (.int l3), none]) (st' := [.int l3, .ref b2]) rfl ?_
        obtain ⟨ho3, h⟩ := h
        obtain ⟨hi4, h⟩ := h
        refine e_iald rfl ho3 hi4 ?_
        refine e_blk 1 22 _ _ (pc' := 23) (L' := [some (.ref l0), some (.int l1), some (.int l2), some (.int l3), none]) (st' := [.ref l0, .int (mI M b2 (l3).toNatClampNeg)]) rfl ?_
        obtain ⟨b5, hbb5, h⟩ := h
        refine e_getR 7 47 rfl rfl (by decide) (aw (i := 1112) (by decide +kernel) rfl) ho1 rfl hbb5 ?_
        refine e_blk 1 26 _ _ (pc' := 27) (L' := [some (.ref l0), some (.int l1), some (.int l2), some (.int l3), none]) (st' := [.int l2, .ref b5, .int (mI M b2 (l3).toNatClampNeg)]) rfl ?_
        obtain ⟨ho6, h⟩ := h
        obtain ⟨hi7, h⟩ := h
        refine e_iald rfl ho6 hi7 ?_
        refine e_icmp_lt 61 rfl rfl (fun hc => ?_) (fun hc => ?_)
        · replace h := h.1 hc
          refine e_drp [true, true, true, true, false] (L' := [some (.ref l0), some (.int l1), some (.int l2), some (.int l3), none]) rfl ?_
          exact x_X7_ending_61 (fun M l0 l1 l2 l3 h => x_X7_ending_4  z M l0 l1 l2 l3 h) h
        · replace h := h.2 hc
          refine e_blk 1 31 _ _ (pc' := 32) (L' := [some (.ref l0), some (.int l1), some (.int l2), some (.int l3), none]) (st' := [.ref l0]) rfl ?_
          obtain ⟨b8, hbb8, h⟩ := h
          refine e_getR 7 47 rfl rfl (by decide) (aw (i := 1112) (by decide +kernel) rfl) ho1 rfl hbb8 ?_
          refine e_blk 1 35 _ _ (pc' := 36) (L' := [some (.ref l0), some (.int l1), some (.int l2), some (.int l3), none]) (st' := [.int l3, .ref b8]) rfl ?_
          obtain ⟨ho9, h⟩ := h
          obtain ⟨hi10, h⟩ := h
          refine e_iald rfl ho9 hi10 ?_
          refine e_blk 1 37 _ _ (pc' := 38) (L' := [some (.ref l0), some (.int l1), some (.int l2), some (.int l3), none]) (st' := [.ref l0, .int (mI M b8 (l3).toNatClampNeg)]) rfl ?_
          obtain ⟨b11, hbb11, h⟩ := h
          refine e_getR 7 47 rfl rfl (by decide) (aw (i := 1112) (by decide +kernel) rfl) ho1 rfl hbb11 ?_
          refine e_blk 1 41 _ _ (pc' := 42) (L' := [some (.ref l0), some (.int l1), some (.int l2), some (.int l3), none]) (st' := [.int l2, .ref b11, .int (mI M b8 (l3).toNatClampNeg)]) rfl ?_
          obtain ⟨ho12, h⟩ := h
          obtain ⟨hi13, h⟩ := h
          refine e_iald rfl ho12 hi13 ?_
          refine e_icmp_ne 65 rfl rfl (fun hc => ?_) (fun hc => ?_)
          · replace h := h.1 hc
            refine e_drp [true, true, true, true, false] (L' := [some (.ref l0), some (.int l1), some (.int l2), some (.int l3), none]) rfl ?_
            exact x_X7_ending_65 (fun M l0 l1 l2 l3 h => x_X7_ending_4  z M l0 l1 l2 l3 h) h
          · replace h := h.2 hc
            refine e_blk 1 46 _ _ (pc' := 47) (L' := [some (.ref l0), some (.int l1), some (.int l2), some (.int l3), none]) (st' := [.ref l0]) rfl ?_
            obtain ⟨b14, hbb14, h⟩ := h
            refine e_getR 7 46 rfl rfl (by decide) (aw (i := 1111) (by decide +kernel) rfl) ho1 rfl hbb14 ?_
            refine e_blk 1 50 _ _ (pc' := 51) (L' := [some (.ref l0), some (.int l1), some (.int l2), some (.int l3), none]) (st' := [.int l3, .ref b14]) rfl ?_
            obtain ⟨ho15, h⟩ := h
            obtain ⟨hi16, h⟩ := h
            refine e_iald rfl ho15 hi16 ?_
            refine e_blk 1 52 _ _ (pc' := 53) (L' := [some (.ref l0), some (.int l1), some (.int l2), some (.int l3), none]) (st' := [.ref l0, .int (mI M b14 (l3).toNatClampNeg)]) rfl ?_
            obtain ⟨b17, hbb17, h⟩ := h
            refine e_getR 7 46 rfl rfl (by decide) (aw (i := 1111) (by decide +kernel) rfl) ho1 rfl hbb17 ?_
            refine e_blk 1 56 _ _ (pc' := 57) (L' := [some (.ref l0), some (.int l1), some (.int l2), some (.int l3), none]) (st' := [.int l2, .ref b17, .int (mI M b14 (l3).toNatClampNeg)]) rfl ?_
            obtain ⟨ho18, h⟩ := h
            obtain ⟨hi19, h⟩ := h
            refine e_iald rfl ho18 hi19 ?_
            refine e_icmp_ge 65 rfl rfl (fun hc => ?_) (fun hc => ?_)
            · replace h := h.1 hc
              refine e_drp [true, true, true, true, false] (L' := [some (.ref l0), some (.int l1), some (.int l2), some (.int l3), none]) rfl ?_
              exact x_X7_ending_65 (fun M l0 l1 l2 l3 h => x_X7_ending_4  z M l0 l1 l2 l3 h) h
            · replace h := h.2 hc
              refine e_drp [true, true, true, true, false] (L' := [some (.ref l0), some (.int l1), some (.int l2), some (.int l3), none]) rfl ?_
              exact x_X7_ending_61 (fun M l0 l1 l2 l3 h => x_X7_ending_4  z M l0 l1 l2 l3 h) h
def V_X7_ending (K : Rs → Mm → Prop) (M : Mm) (a0 : Nat) (a1 : Int32) : Prop := ∃ y, V_X7_ending_4 K  y M a0 a1 (-1 : Int32) (0 : Int32)
set_option maxRecDepth 100000 in
set_option maxHeartbeats 4000000 in
theorem x_X7_ending {G : Gx} {K : Rs → Mm → Prop} {M : Mm} {a0 : Nat} {a1 : Int32} (h : V_X7_ending K M a0 a1) : MC G mi_X7_ending [.ref a0, .int a1] M K := by
  unfold V_X7_ending at h
  refine mc_of rfl (by decide +kernel) dc_X7_ending (Nat.le_of_ble_eq_true rfl) 3 (Nat.le_of_ble_eq_true rfl) ?_
  show E G mi_X7_ending K M 0 0 0 [some (.ref a0), some (.int a1), none, none, none] []
  refine e_blk 4 0 _ _ (pc' := 4) (L' := [some (.ref a0), some (.int a1), some (.int (-1 : Int32)), some (.int (0 : Int32)), none]) (st' := []) rfl ?_
  refine e_drp [true, true, true, true, false] (L' := [some (.ref a0), some (.int a1), some (.int (-1 : Int32)), some (.int (0 : Int32)), none]) rfl ?_
  obtain ⟨y, h⟩ := h
  exact x_X7_ending_4  y _ _ _ _ _ h
def V_X7_put_52 (K : Rs → Mm → Prop)  : Nat → Mm → Nat → Int32 → Prop
  | 0, _, _, _ => False
  | z + 1, M, l0, l2 => (((12 : Int32) ≤ l2 → K (.inl none) M) ∧ (¬ (12 : Int32) ≤ l2 → (ob M l0 7 ∧ ∃ b2, mP M l0 44 = some b2 ∧ (ob M b2 9 ∧ (vp_in l2 (mN M b2) ∧ ∀ M5, M5 = sI M b2 (l2).toNatClampNeg (-1 : Int32) → ∀ x6 : Int32, x6 = (l2 + (1 : Int32)) → V_X7_put_52 K  z M5 l0 x6)))))
set_option maxRecDepth 100000 in
set_option maxHeartbeats 4000000 in
theorem x_X7_put_52 {G : Gx} {K : Rs → Mm → Prop}  : ∀ (z : Nat) (M : Mm) (l0 : Nat) (l2 : Int32), V_X7_put_52 K  z M l0 l2 → E G mi_X7_put K M 0 0 52 [some (.ref l0), none, some (.int l2)] []
  | 0, M, l0, l2, h => False.elim h
  | z + 1, M, l0, l2, h => by
    unfold V_X7_put_52 at h
    refine e_blk 2 52 _ _ (pc' := 55) (L' := [some (.ref l0), none, some (.int l2)]) (st' := [.int (12 : Int32), .int l2]) rfl ?_
    refine e_icmp_ge 71 rfl rfl (fun hc => ?_) (fun hc => ?_)
    · replace h := h.1 hc
      exact e_ret rfl rfl (by decide) (by decide) h
    · replace h := h.2 hc
      refine e_blk 1 58 _ _ (pc' := 59) (L' := [some (.ref l0), none, some (.int l2)]) (st' := [.ref l0]) rfl ?_
      obtain ⟨ho1, h⟩ := h
      obtain ⟨b2, hbb2, h⟩ := h
      refine e_getR 7 44 rfl rfl (by decide) (aw (i := 1109) (by decide +kernel) rfl) ho1 rfl hbb2 ?_
      refine e_blk 2 62 _ _ (pc' := 64) (L' := [some (.ref l0), none, some (.int l2)]) (st' := [.int (-1 : Int32), .int l2, .ref b2]) rfl ?_
      obtain ⟨ho3, h⟩ := h
      obtain ⟨hi4, h⟩ := h
      refine e_iast rfl ho3 hi4 ?_
      generalize hM5 : sI M b2 (l2).toNatClampNeg (-1 : Int32) = M5
      replace h := h M5 hM5.symm
      replace ho1 : ob M5 l0 7 := hM5 ▸ ob_sI ho1
      replace ho3 : ob M5 b2 9 := hM5 ▸ ob_sI ho3
      refine e_blk 2 65 _ _ (pc' := 52) (L' := [some (.ref l0), none, some (.int (l2 + (1 : Int32)))]) (st' := []) rfl ?_
      generalize hx_x6 : ((l2 + (1 : Int32)) : Int32) = x6
      replace h := h x6 hx_x6.symm
      refine e_drp [true, false, true] (L' := [some (.ref l0), none, some (.int x6)]) rfl ?_
      exact x_X7_put_52  z _ _ _ h
def V_X7_put_29 (K : Rs → Mm → Prop)  (M : Mm) (l0 : Nat) (l1 : Int32) (s0 : Nat) (s1 : Int32) : Prop := (ob M s0 7 ∧ ∀ M2, M2 = sI M s0 0 s1 → (ob M2 l0 7 ∧ (((mI M2 l0 0) ≤ 0 → ∀ M4, M4 = sI M2 l0 52 l1 → ∀ M5, M5 = sI M4 l0 45 (0 : Int32) → ∃ y, V_X7_put_52 K  y M5 l0 (0 : Int32)) ∧ (¬ (mI M2 l0 0) ≤ 0 → K (.inl none) M2))))
set_option maxRecDepth 100000 in
set_option maxHeartbeats 4000000 in
theorem x_X7_put_29 {G : Gx} {K : Rs → Mm → Prop}  {M : Mm} {l0 : Nat} {l1 : Int32} {s0 : Nat} {s1 : Int32} (h : V_X7_put_29 K  M l0 l1 s0 s1) : E G mi_X7_put K M 0 0 29 [some (.ref l0), some (.int l1), none] [.int s1, .ref s0] := by
  unfold V_X7_put_29 at h
  obtain ⟨ho1, h⟩ := h
  refine e_putI 7 0 rfl rfl (by decide) (aw (i := 1065) (by decide +kernel) rfl) rfl ho1 rfl ?_
  generalize hM2 : sI M s0 0 s1 = M2
  replace h := h M2 hM2.symm
  replace ho1 : ob M2 s0 7 := hM2 ▸ ob_sI ho1
  refine e_blk 1 32 _ _ (pc' := 33) (L' := [some (.ref l0), some (.int l1), none]) (st' := [.ref l0]) rfl ?_
  obtain ⟨ho3, h⟩ := h
  refine e_getI 7 0 rfl rfl (by decide) (aw (i := 1065) (by decide +kernel) rfl) ho3 rfl ?_
  refine e_if_le 40 rfl rfl (fun hc => ?_) (fun hc => ?_)
  · replace h := h.1 hc
    refine e_blk 2 40 _ _ (pc' := 42) (L' := [some (.ref l0), some (.int l1), none]) (st' := [.int l1, .ref l0]) rfl ?_
    refine e_putI 7 52 rfl rfl (by decide) (aw (i := 1117) (by decide +kernel) rfl) rfl ho3 rfl ?_
    generalize hM4 : sI M2 l0 52 l1 = M4
    replace h := h M4 hM4.symm
    replace ho1 : ob M4 s0 7 := hM4 ▸ ob_sI ho1
    replace ho3 : ob M4 l0 7 := hM4 ▸ ob_sI ho3
    refine e_blk 2 45 _ _ (pc' := 47) (L' := [some (.ref l0), some (.int l1), none]) (st' := [.int (0 : Int32), .ref l0]) rfl ?_
    refine e_putI 7 45 rfl rfl (by decide) (aw (i := 1110) (by decide +kernel) rfl) rfl ho3 rfl ?_
    generalize hM5 : sI M4 l0 45 (0 : Int32) = M5
    replace h := h M5 hM5.symm
    replace ho1 : ob M5 s0 7 := hM5 ▸ ob_sI ho1
    replace ho3 : ob M5 l0 7 := hM5 ▸ ob_sI ho3
    refine e_blk 2 50 _ _ (pc' := 52) (L' := [some (.ref l0), some (.int l1), some (.int (0 : Int32))]) (st' := []) rfl ?_
    refine e_drp [true, false, true] (L' := [some (.ref l0), none, some (.int (0 : Int32))]) rfl ?_
    obtain ⟨y, h⟩ := h
    exact x_X7_put_52  y _ _ _ h
  · replace h := h.2 hc
    exact e_ret rfl rfl (by decide) (by decide) h
def V_X7_put (K : Rs → Mm → Prop) (M : Mm) (a0 : Nat) (a1 : Int32) : Prop := V_X7_in (kI (fun r2 M1 => ((¬ r2 = 0 → (ob M1 a0 7 ∧ (((mI M1 a0 53) = 0 → V_X7_put_29 K  M1 a0 a1 a0 (0 : Int32)) ∧ (¬ (mI M1 a0 53) = 0 → V_X7_put_29 K  M1 a0 a1 a0 (2 : Int32))))) ∧ (r2 = 0 → V_X7_put_29 K  M1 a0 a1 a0 (1 : Int32)))) (fun _ _ => False)) M ((a1).toInt64) (0 : Int64) (157785119 : Int64)
set_option maxRecDepth 100000 in
set_option maxHeartbeats 4000000 in
theorem x_X7_put {G : Gx} {K : Rs → Mm → Prop} {M : Mm} {a0 : Nat} {a1 : Int32} (h : V_X7_put K M a0 a1) : MC G mi_X7_put [.ref a0, .int a1] M K := by
  unfold V_X7_put at h
  refine mc_of rfl (by decide +kernel) dc_X7_put (Nat.le_of_ble_eq_true rfl) 1 (Nat.le_of_ble_eq_true rfl) ?_
  show E G mi_X7_put K M 0 0 0 [some (.ref a0), some (.int a1), none] []
  refine e_blk 4 0 _ _ (pc' := 4) (L' := [some (.ref a0), some (.int a1), none]) (st' := [.long (0 : Int64), .long ((a1).toInt64), .ref a0]) rfl ?_
  refine e_ldc2 (157785119) rfl (aw (i := 1269) (by decide +kernel) rfl) ?_
  refine e_callS (As := [.long ((a1).toInt64), .long (0 : Int64), .long (157785119 : Int64)]) (rest := [.ref a0]) rfl (x_X7_in h) rfl (aw (i := 1256) (by decide +kernel) rfl) ws_X7_in wi_X7_in wc_X7_in (show cok mi_X7_put mi_X7_in 0 0 3 = true by decide +kernel) (Nat.le_of_ble_eq_true rfl) (fun v9 M1 hq => ?_) (fun X M9 hq => False.elim hq)
  obtain ⟨r2, rfl, h⟩ := kI_l hq
  refine e_if_ne 17 rfl rfl (fun hc => ?_) (fun hc => ?_)
  · replace h := h.1 hc
    refine e_blk 1 17 _ _ (pc' := 18) (L' := [some (.ref a0), some (.int a1), none]) (st' := [.ref a0, .ref a0]) rfl ?_
    obtain ⟨ho3, h⟩ := h
    refine e_getI 7 53 rfl rfl (by decide) (aw (i := 1118) (by decide +kernel) rfl) ho3 rfl ?_
    refine e_if_eq 28 rfl rfl (fun hc => ?_) (fun hc => ?_)
    · replace h := h.1 hc
      refine e_blk 1 28 _ _ (pc' := 29) (L' := [some (.ref a0), some (.int a1), none]) (st' := [.int (0 : Int32), .ref a0]) rfl ?_
      refine e_drp [true, true, false] (L' := [some (.ref a0), some (.int a1), none]) rfl ?_
      exact x_X7_put_29  h
    · replace h := h.2 hc
      refine e_blk 2 24 _ _ (pc' := 29) (L' := [some (.ref a0), some (.int a1), none]) (st' := [.int (2 : Int32), .ref a0]) rfl ?_
      refine e_drp [true, true, false] (L' := [some (.ref a0), some (.int a1), none]) rfl ?_
      exact x_X7_put_29  h
  · replace h := h.2 hc
    refine e_blk 2 13 _ _ (pc' := 29) (L' := [some (.ref a0), some (.int a1), none]) (st' := [.int (1 : Int32), .ref a0]) rfl ?_
    refine e_drp [true, true, false] (L' := [some (.ref a0), some (.int a1), none]) rfl ?_
    exact x_X7_put_29  h
def V_X7_pass_163 (K : Rs → Mm → Prop) (B123 : Mm → Nat → Int32 → Int32 → Int32 → Prop) (M : Mm) (l0 : Nat) (l1 : Int32) (l2 : Int32) (l4 : Int32) : Prop := ∀ x1 : Int32, x1 = (l4 + (1 : Int32)) → B123 M l0 l1 l2 x1
set_option maxRecDepth 100000 in
set_option maxHeartbeats 4000000 in
theorem x_X7_pass_163 {G : Gx} {K : Rs → Mm → Prop} {B123 : Mm → Nat → Int32 → Int32 → Int32 → Prop} (hB123 : ∀ M l0 l1 l2 l4, B123 M l0 l1 l2 l4 → E G mi_X7_pass K M 0 0 123 [some (.ref l0), some (.int l1), some (.int l2), none, some (.int l4)] []) {M : Mm} {l0 : Nat} {l1 : Int32} {l2 : Int32} {l4 : Int32} (h : V_X7_pass_163 K B123 M l0 l1 l2 l4) : E G mi_X7_pass K M 0 0 163 [some (.ref l0), some (.int l1), some (.int l2), none, some (.int l4)] [] := by
  unfold V_X7_pass_163 at h
  refine e_blk 2 163 _ _ (pc' := 123) (L' := [some (.ref l0), some (.int l1), some (.int l2), none, some (.int (l4 + (1 : Int32)))]) (st' := []) rfl ?_
  generalize hx_x1 : ((l4 + (1 : Int32)) : Int32) = x1
  replace h := h x1 hx_x1.symm
  refine e_drp [true, true, true, false, true] (L' := [some (.ref l0), some (.int l1), some (.int l2), none, some (.int x1)]) rfl ?_
  exact hB123 _ _ _ _ _ h
def V_X7_pass_123 (K : Rs → Mm → Prop) (B71 : Mm → Nat → Int32 → Int32 → Prop) : Nat → Mm → Nat → Int32 → Int32 → Int32 → Prop
  | 0, _, _, _, _, _ => False
  | z + 1, M, l0, l1, l2, l4 => (((12 : Int32) ≤ l4 → ∀ x1 : Int32, x1 = (l2 + (1 : Int32)) → B71 M l0 l1 x1) ∧ (¬ (12 : Int32) ≤ l4 → (ob M l0 7 ∧ ∃ b3, mP M l0 26 = some b3 ∧ (ob M b3 11 ∧ (vp_in l4 (mN M b3) ∧ (((mI M b3 (l4).toNatClampNeg) = 0 → V_X7_pass_163 K (fun M l0 l1 l2 l4 => V_X7_pass_123 K B71 z M l0 l1 l2 l4) M l0 l1 l2 l4) ∧ (¬ (mI M b3 (l4).toNatClampNeg) = 0 → V_X7_isMatch (kI (fun r7 M6 => ((r7 = 0 → V_X7_pass_163 K (fun M l0 l1 l2 l4 => V_X7_pass_123 K B71 z M l0 l1 l2 l4) M6 l0 l1 l2 l4) ∧ (¬ r7 = 0 → (ob M6 l0 7 ∧ V_X7_due (kV (fun M9 => V_X7_pass_163 K (fun M l0 l1 l2 l4 => V_X7_pass_123 K B71 z M l0 l1 l2 l4) M9 l0 l1 l2 l4) (fun _ _ => False)) M6 l0 l4 (mI M6 l0 52))))) (fun _ _ => False)) M l0 l4 (mI M l0 52))))))))
set_option maxRecDepth 100000 in
set_option maxHeartbeats 4000000 in
theorem x_X7_pass_123 {G : Gx} {K : Rs → Mm → Prop} {B71 : Mm → Nat → Int32 → Int32 → Prop} (hB71 : ∀ M l0 l1 l2, B71 M l0 l1 l2 → E G mi_X7_pass K M 0 0 71 [some (.ref l0), some (.int l1), some (.int l2), none, none] []) : ∀ (z : Nat) (M : Mm) (l0 : Nat) (l1 : Int32) (l2 : Int32) (l4 : Int32), V_X7_pass_123 K B71 z M l0 l1 l2 l4 → E G mi_X7_pass K M 0 0 123 [some (.ref l0), some (.int l1), some (.int l2), none, some (.int l4)] []
  | 0, M, l0, l1, l2, l4, h => False.elim h
  | z + 1, M, l0, l1, l2, l4, h => by
    unfold V_X7_pass_123 at h
    refine e_blk 2 123 _ _ (pc' := 127) (L' := [some (.ref l0), some (.int l1), some (.int l2), none, some (.int l4)]) (st' := [.int (12 : Int32), .int l4]) rfl ?_
    refine e_icmp_ge 169 rfl rfl (fun hc => ?_) (fun hc => ?_)
    · replace h := h.1 hc
      refine e_blk 2 169 _ _ (pc' := 71) (L' := [some (.ref l0), some (.int l1), some (.int (l2 + (1 : Int32))), none, some (.int l4)]) (st' := []) rfl ?_
      generalize hx_x1 : ((l2 + (1 : Int32)) : Int32) = x1
      replace h := h x1 hx_x1.symm
      refine e_drp [true, true, true, false, false] (L' := [some (.ref l0), some (.int l1), some (.int x1), none, none]) rfl ?_
      exact hB71 _ _ _ _ h
    · replace h := h.2 hc
      refine e_blk 1 130 _ _ (pc' := 131) (L' := [some (.ref l0), some (.int l1), some (.int l2), none, some (.int l4)]) (st' := [.ref l0]) rfl ?_
      obtain ⟨ho2, h⟩ := h
      obtain ⟨b3, hbb3, h⟩ := h
      refine e_getR 7 26 rfl rfl (by decide) (aw (i := 1091) (by decide +kernel) rfl) ho2 rfl hbb3 ?_
      refine e_blk 1 134 _ _ (pc' := 136) (L' := [some (.ref l0), some (.int l1), some (.int l2), none, some (.int l4)]) (st' := [.int l4, .ref b3]) rfl ?_
      obtain ⟨ho4, h⟩ := h
      obtain ⟨hi5, h⟩ := h
      refine e_zald rfl ho4 hi5 ?_
      refine e_if_eq 163 rfl rfl (fun hc => ?_) (fun hc => ?_)
      · replace h := h.1 hc
        refine e_drp [true, true, true, false, true] (L' := [some (.ref l0), some (.int l1), some (.int l2), none, some (.int l4)]) rfl ?_
        exact x_X7_pass_163 (fun M l0 l1 l2 l4 h => x_X7_pass_123 hB71 z M l0 l1 l2 l4 h) h
      · replace h := h.2 hc
        refine e_blk 3 140 _ _ (pc' := 144) (L' := [some (.ref l0), some (.int l1), some (.int l2), none, some (.int l4)]) (st' := [.ref l0, .int l4, .ref l0]) rfl ?_
        refine e_getI 7 52 rfl rfl (by decide) (aw (i := 1117) (by decide +kernel) rfl) ho2 rfl ?_
        refine e_callV (As := [.int l4, .int (mI M l0 52)]) (rest := []) (ci := 7) rfl (x_X7_isMatch h) ho2 rfl rfl rfl (aw (i := 1507) (by decide +kernel) rfl) wn_X7_isMatch wv_X7_isMatch wi_X7_isMatch wc_X7_isMatch (show cok mi_X7_pass mi_X7_isMatch 0 0 2 = true by decide +kernel) (Nat.le_of_ble_eq_true rfl) (fun v9 M6 hq => ?_) (fun X M9 hq => False.elim hq)
        obtain ⟨r7, rfl, h⟩ := kI_l hq
        refine e_if_eq 163 rfl rfl (fun hc => ?_) (fun hc => ?_)
        · replace h := h.1 hc
          refine e_drp [true, true, true, false, true] (L' := [some (.ref l0), some (.int l1), some (.int l2), none, some (.int l4)]) rfl ?_
          exact x_X7_pass_163 (fun M l0 l1 l2 l4 h => x_X7_pass_123 hB71 z M l0 l1 l2 l4 h) h
        · replace h := h.2 hc
          refine e_blk 3 153 _ _ (pc' := 157) (L' := [some (.ref l0), some (.int l1), some (.int l2), none, some (.int l4)]) (st' := [.ref l0, .int l4, .ref l0]) rfl ?_
          obtain ⟨ho8, h⟩ := h
          refine e_getI 7 52 rfl rfl (by decide) (aw (i := 1117) (by decide +kernel) rfl) ho8 rfl ?_
          refine e_callV (As := [.int l4, .int (mI M6 l0 52)]) (rest := []) (ci := 7) rfl (x_X7_due h) ho8 rfl rfl rfl (aw (i := 1564) (by decide +kernel) rfl) wn_X7_due wv_X7_due wi_X7_due wc_X7_due (show cok mi_X7_pass mi_X7_due 0 0 2 = true by decide +kernel) (Nat.le_of_ble_eq_true rfl) (fun v9 M9 hq => ?_) (fun X M9 hq => False.elim hq)
          obtain ⟨rfl, h⟩ := kV_l hq
          refine e_drp [true, true, true, false, true] (L' := [some (.ref l0), some (.int l1), some (.int l2), none, some (.int l4)]) rfl ?_
          exact x_X7_pass_163 (fun M l0 l1 l2 l4 h => x_X7_pass_123 hB71 z M l0 l1 l2 l4 h) h
def V_X7_pass_95 (K : Rs → Mm → Prop) (B71 : Mm → Nat → Int32 → Int32 → Prop) : Nat → Mm → Nat → Int32 → Int32 → Int32 → Prop
  | 0, _, _, _, _, _ => False
  | z + 1, M, l0, l1, l2, l3 => ((l3 < 0 → ∃ y, V_X7_pass_123 K B71 y M l0 l1 l2 (0 : Int32)) ∧ (¬ l3 < 0 → (ob M l0 7 ∧ V_X7_end (kV (fun M2 => (ob M2 l0 7 ∧ V_X7_ending (kI (fun r5 M4 => V_X7_pass_95 K B71 z M4 l0 l1 l2 r5) (fun _ _ => False)) M2 l0 (mI M2 l0 52))) (fun _ _ => False)) M l0 l3 (mI M l0 52))))
set_option maxRecDepth 100000 in
set_option maxHeartbeats 4000000 in
theorem x_X7_pass_95 {G : Gx} {K : Rs → Mm → Prop} {B71 : Mm → Nat → Int32 → Int32 → Prop} (hB71 : ∀ M l0 l1 l2, B71 M l0 l1 l2 → E G mi_X7_pass K M 0 0 71 [some (.ref l0), some (.int l1), some (.int l2), none, none] []) : ∀ (z : Nat) (M : Mm) (l0 : Nat) (l1 : Int32) (l2 : Int32) (l3 : Int32), V_X7_pass_95 K B71 z M l0 l1 l2 l3 → E G mi_X7_pass K M 0 0 95 [some (.ref l0), some (.int l1), some (.int l2), some (.int l3), none] []
  | 0, M, l0, l1, l2, l3, h => False.elim h
  | z + 1, M, l0, l1, l2, l3, h => by
    unfold V_X7_pass_95 at h
    refine e_blk 1 95 _ _ (pc' := 96) (L' := [some (.ref l0), some (.int l1), some (.int l2), some (.int l3), none]) (st' := [.int l3]) rfl ?_
    refine e_if_lt 120 rfl rfl (fun hc => ?_) (fun hc => ?_)
    · replace h := h.1 hc
      refine e_blk 2 120 _ _ (pc' := 123) (L' := [some (.ref l0), some (.int l1), some (.int l2), some (.int l3), some (.int (0 : Int32))]) (st' := []) rfl ?_
      refine e_drp [true, true, true, false, true] (L' := [some (.ref l0), some (.int l1), some (.int l2), none, some (.int (0 : Int32))]) rfl ?_
      obtain ⟨y, h⟩ := h
      exact x_X7_pass_123 hB71 y _ _ _ _ _ h
    · replace h := h.2 hc
      refine e_blk 3 99 _ _ (pc' := 102) (L' := [some (.ref l0), some (.int l1), some (.int l2), some (.int l3), none]) (st' := [.ref l0, .int l3, .ref l0]) rfl ?_
      obtain ⟨ho1, h⟩ := h
      refine e_getI 7 52 rfl rfl (by decide) (aw (i := 1117) (by decide +kernel) rfl) ho1 rfl ?_
      refine e_callV (As := [.int l3, .int (mI M l0 52)]) (rest := []) (ci := 7) rfl (x_X7_end h) ho1 rfl rfl rfl (aw (i := 1552) (by decide +kernel) rfl) wn_X7_end wv_X7_end wi_X7_end wc_X7_end (show cok mi_X7_pass mi_X7_end 0 0 2 = true by decide +kernel) (Nat.le_of_ble_eq_true rfl) (fun v9 M2 hq => ?_) (fun X M9 hq => False.elim hq)
      obtain ⟨rfl, h⟩ := kV_l hq
      refine e_blk 2 108 _ _ (pc' := 110) (L' := [some (.ref l0), some (.int l1), some (.int l2), some (.int l3), none]) (st' := [.ref l0, .ref l0]) rfl ?_
      obtain ⟨ho3, h⟩ := h
      refine e_getI 7 52 rfl rfl (by decide) (aw (i := 1117) (by decide +kernel) rfl) ho3 rfl ?_
      refine e_callV (As := [.int (mI M2 l0 52)]) (rest := []) (ci := 7) rfl (x_X7_ending h) ho3 rfl rfl rfl (aw (i := 1548) (by decide +kernel) rfl) wn_X7_ending wv_X7_ending wi_X7_ending wc_X7_ending (show cok mi_X7_pass mi_X7_ending 0 0 1 = true by decide +kernel) (Nat.le_of_ble_eq_true rfl) (fun v9 M4 hq => ?_) (fun X M9 hq => False.elim hq)
      obtain ⟨r5, rfl, h⟩ := kI_l hq
      refine e_blk 2 116 _ _ (pc' := 95) (L' := [some (.ref l0), some (.int l1), some (.int l2), some (.int r5), none]) (st' := []) rfl ?_
      refine e_drp [true, true, true, true, false] (L' := [some (.ref l0), some (.int l1), some (.int l2), some (.int r5), none]) rfl ?_
      exact x_X7_pass_95 hB71 z _ _ _ _ _ h
def V_X7_pass_71 (K : Rs → Mm → Prop)  : Nat → Mm → Nat → Int32 → Int32 → Prop
  | 0, _, _, _, _ => False
  | z + 1, M, l0, l1, l2 => ((l1 ≤ l2 → (ob M l0 7 ∧ K (.inl (some (.int (mI M l0 52)))) M)) ∧ (¬ l1 ≤ l2 → (ob M l0 7 ∧ ∀ M3, M3 = sI M l0 52 ((mI M l0 52) + (1 : Int32)) → V_X7_ending (kI (fun r5 M4 => ∃ y, V_X7_pass_95 K (fun M l0 l1 l2 => V_X7_pass_71 K  z M l0 l1 l2) y M4 l0 l1 l2 r5) (fun _ _ => False)) M3 l0 (mI M3 l0 52))))
set_option maxRecDepth 100000 in
set_option maxHeartbeats 4000000 in
theorem x_X7_pass_71 {G : Gx} {K : Rs → Mm → Prop}  : ∀ (z : Nat) (M : Mm) (l0 : Nat) (l1 : Int32) (l2 : Int32), V_X7_pass_71 K  z M l0 l1 l2 → E G mi_X7_pass K M 0 0 71 [some (.ref l0), some (.int l1), some (.int l2), none, none] []
  | 0, M, l0, l1, l2, h => False.elim h
  | z + 1, M, l0, l1, l2, h => by
    unfold V_X7_pass_71 at h
    refine e_blk 2 71 _ _ (pc' := 73) (L' := [some (.ref l0), some (.int l1), some (.int l2), none, none]) (st' := [.int l1, .int l2]) rfl ?_
    refine e_icmp_ge 175 rfl rfl (fun hc => ?_) (fun hc => ?_)
    · replace h := h.1 hc
      refine e_blk 1 175 _ _ (pc' := 176) (L' := [some (.ref l0), some (.int l1), some (.int l2), none, none]) (st' := [.ref l0]) rfl ?_
      obtain ⟨ho1, h⟩ := h
      refine e_getI 7 52 rfl rfl (by decide) (aw (i := 1117) (by decide +kernel) rfl) ho1 rfl ?_
      exact e_reti rfl rfl (by decide) (by decide) h
    · replace h := h.2 hc
      refine e_blk 2 76 _ _ (pc' := 78) (L' := [some (.ref l0), some (.int l1), some (.int l2), none, none]) (st' := [.ref l0, .ref l0]) rfl ?_
      obtain ⟨ho2, h⟩ := h
      refine e_getI 7 52 rfl rfl (by decide) (aw (i := 1117) (by decide +kernel) rfl) ho2 rfl ?_
      refine e_blk 2 81 _ _ (pc' := 83) (L' := [some (.ref l0), some (.int l1), some (.int l2), none, none]) (st' := [.int ((mI M l0 52) + (1 : Int32)), .ref l0]) rfl ?_
      refine e_putI 7 52 rfl rfl (by decide) (aw (i := 1117) (by decide +kernel) rfl) rfl ho2 rfl ?_
      generalize hM3 : sI M l0 52 ((mI M l0 52) + (1 : Int32)) = M3
      replace h := h M3 hM3.symm
      replace ho2 : ob M3 l0 7 := hM3 ▸ ob_sI ho2
      refine e_blk 2 86 _ _ (pc' := 88) (L' := [some (.ref l0), some (.int l1), some (.int l2), none, none]) (st' := [.ref l0, .ref l0]) rfl ?_
      refine e_getI 7 52 rfl rfl (by decide) (aw (i := 1117) (by decide +kernel) rfl) ho2 rfl ?_
      refine e_callV (As := [.int (mI M3 l0 52)]) (rest := []) (ci := 7) rfl (x_X7_ending h) ho2 rfl rfl rfl (aw (i := 1548) (by decide +kernel) rfl) wn_X7_ending wv_X7_ending wi_X7_ending wc_X7_ending (show cok mi_X7_pass mi_X7_ending 0 0 1 = true by decide +kernel) (Nat.le_of_ble_eq_true rfl) (fun v9 M4 hq => ?_) (fun X M9 hq => False.elim hq)
      obtain ⟨r5, rfl, h⟩ := kI_l hq
      refine e_blk 1 94 _ _ (pc' := 95) (L' := [some (.ref l0), some (.int l1), some (.int l2), some (.int r5), none]) (st' := []) rfl ?_
      refine e_drp [true, true, true, true, false] (L' := [some (.ref l0), some (.int l1), some (.int l2), some (.int r5), none]) rfl ?_
      obtain ⟨y, h⟩ := h
      exact x_X7_pass_95 (fun M l0 l1 l2 h => x_X7_pass_71  z M l0 l1 l2 h) y _ _ _ _ _ h
def V_X7_pass_41 (K : Rs → Mm → Prop)  (M : Mm) (l0 : Nat) : Prop := (ob M l0 7 ∧ V_X7_wrong (kI (fun r3 M2 => K (.inl (some (.int r3))) M2) (fun _ _ => False)) M l0 (1 : Int32))
set_option maxRecDepth 100000 in
set_option maxHeartbeats 4000000 in
theorem x_X7_pass_41 {G : Gx} {K : Rs → Mm → Prop}  {M : Mm} {l0 : Nat} (h : V_X7_pass_41 K  M l0) : E G mi_X7_pass K M 0 0 41 [some (.ref l0), none, none, none, none] [] := by
  unfold V_X7_pass_41 at h
  refine e_blk 2 41 _ _ (pc' := 43) (L' := [some (.ref l0), none, none, none, none]) (st' := [.int (1 : Int32), .ref l0]) rfl ?_
  obtain ⟨ho1, h⟩ := h
  refine e_callV (As := [.int (1 : Int32)]) (rest := []) (ci := 7) rfl (x_X7_wrong h) ho1 rfl rfl rfl (aw (i := 1265) (by decide +kernel) rfl) wn_X7_wrong wv_X7_wrong wi_X7_wrong wc_X7_wrong (show cok mi_X7_pass mi_X7_wrong 0 0 1 = true by decide +kernel) (Nat.le_of_ble_eq_true rfl) (fun v9 M2 hq => ?_) (fun X M9 hq => False.elim hq)
  obtain ⟨r3, rfl, h⟩ := kI_l hq
  exact e_reti rfl rfl (by decide) (by decide) h
def V_X7_pass_24 (K : Rs → Mm → Prop)  (M : Mm) (l0 : Nat) (l1 : Int32) (s0 : Int64) (s1 : Int64) (s2 : Int64) : Prop := V_X7_in (kI (fun r2 M1 => ((r2 = 0 → V_X7_pass_41 K  M1 l0) ∧ (¬ r2 = 0 → (ob M1 l0 7 ∧ ((l1 ≤ ((157785119 : Int32) - (mI M1 l0 52)) → (((mI M1 l0 53) = 0 → ∃ y, V_X7_pass_71 K  y M1 l0 l1 (0 : Int32)) ∧ (¬ (mI M1 l0 53) = 0 → ∀ M4, M4 = sI M1 l0 52 ((mI M1 l0 52) + l1) → K (.inl (some (.int (mI M4 l0 52)))) M4))) ∧ (¬ l1 ≤ ((157785119 : Int32) - (mI M1 l0 52)) → V_X7_pass_41 K  M1 l0)))))) (fun _ _ => False)) M s0 s1 s2
set_option maxRecDepth 100000 in
set_option maxHeartbeats 4000000 in
theorem x_X7_pass_24 {G : Gx} {K : Rs → Mm → Prop}  {M : Mm} {l0 : Nat} {l1 : Int32} {s0 : Int64} {s1 : Int64} {s2 : Int64} (h : V_X7_pass_24 K  M l0 l1 s0 s1 s2) : E G mi_X7_pass K M 0 0 24 [some (.ref l0), some (.int l1), none, none, none] [.long s2, .long s1, .long s0] := by
  unfold V_X7_pass_24 at h
  refine e_callS (As := [.long s0, .long s1, .long s2]) (rest := []) rfl (x_X7_in h) rfl (aw (i := 1256) (by decide +kernel) rfl) ws_X7_in wi_X7_in wc_X7_in (show cok mi_X7_pass mi_X7_in 0 0 3 = true by decide +kernel) (Nat.le_of_ble_eq_true rfl) (fun v9 M1 hq => ?_) (fun X M9 hq => False.elim hq)
  obtain ⟨r2, rfl, h⟩ := kI_l hq
  refine e_if_eq 41 rfl rfl (fun hc => ?_) (fun hc => ?_)
  · replace h := h.1 hc
    refine e_drp [true, false, false, false, false] (L' := [some (.ref l0), none, none, none, none]) rfl ?_
    exact x_X7_pass_41  h
  · replace h := h.2 hc
    refine e_blk 1 30 _ _ (pc' := 31) (L' := [some (.ref l0), some (.int l1), none, none, none]) (st' := [.int l1]) rfl ?_
    refine e_ldc (157785119) rfl (aw (i := 1322) (by decide +kernel) rfl) ?_
    refine e_blk 1 33 _ _ (pc' := 34) (L' := [some (.ref l0), some (.int l1), none, none, none]) (st' := [.ref l0, .int (157785119 : Int32), .int l1]) rfl ?_
    obtain ⟨ho3, h⟩ := h
    refine e_getI 7 52 rfl rfl (by decide) (aw (i := 1117) (by decide +kernel) rfl) ho3 rfl ?_
    refine e_blk 1 37 _ _ (pc' := 38) (L' := [some (.ref l0), some (.int l1), none, none, none]) (st' := [.int ((157785119 : Int32) - (mI M1 l0 52)), .int l1]) rfl ?_
    refine e_icmp_le 47 rfl rfl (fun hc => ?_) (fun hc => ?_)
    · replace h := h.1 hc
      refine e_blk 1 47 _ _ (pc' := 48) (L' := [some (.ref l0), some (.int l1), none, none, none]) (st' := [.ref l0]) rfl ?_
      refine e_getI 7 53 rfl rfl (by decide) (aw (i := 1118) (by decide +kernel) rfl) ho3 rfl ?_
      refine e_if_eq 69 rfl rfl (fun hc => ?_) (fun hc => ?_)
      · replace h := h.1 hc
        refine e_blk 2 69 _ _ (pc' := 71) (L' := [some (.ref l0), some (.int l1), some (.int (0 : Int32)), none, none]) (st' := []) rfl ?_
        refine e_drp [true, true, true, false, false] (L' := [some (.ref l0), some (.int l1), some (.int (0 : Int32)), none, none]) rfl ?_
        obtain ⟨y, h⟩ := h
        exact x_X7_pass_71  y _ _ _ _ h
      · replace h := h.2 hc
        refine e_blk 2 54 _ _ (pc' := 56) (L' := [some (.ref l0), some (.int l1), none, none, none]) (st' := [.ref l0, .ref l0]) rfl ?_
        refine e_getI 7 52 rfl rfl (by decide) (aw (i := 1117) (by decide +kernel) rfl) ho3 rfl ?_
        refine e_blk 2 59 _ _ (pc' := 61) (L' := [some (.ref l0), some (.int l1), none, none, none]) (st' := [.int ((mI M1 l0 52) + l1), .ref l0]) rfl ?_
        refine e_putI 7 52 rfl rfl (by decide) (aw (i := 1117) (by decide +kernel) rfl) rfl ho3 rfl ?_
        generalize hM4 : sI M1 l0 52 ((mI M1 l0 52) + l1) = M4
        replace h := h M4 hM4.symm
        replace ho3 : ob M4 l0 7 := hM4 ▸ ob_sI ho3
        refine e_blk 1 64 _ _ (pc' := 65) (L' := [some (.ref l0), some (.int l1), none, none, none]) (st' := [.ref l0]) rfl ?_
        refine e_getI 7 52 rfl rfl (by decide) (aw (i := 1117) (by decide +kernel) rfl) ho3 rfl ?_
        exact e_reti rfl rfl (by decide) (by decide) h
    · replace h := h.2 hc
      refine e_drp [true, false, false, false, false] (L' := [some (.ref l0), none, none, none, none]) rfl ?_
      exact x_X7_pass_41  h
def V_X7_pass (K : Rs → Mm → Prop) (M : Mm) (a0 : Nat) (a1 : Int32) : Prop := (ob M a0 7 ∧ ∀ M2, M2 = sI M a0 0 (0 : Int32) → (((mI M2 a0 53) = 0 → V_X7_pass_24 K  M2 a0 a1 ((a1).toInt64) (0 : Int64) (3000 : Int64)) ∧ (¬ (mI M2 a0 53) = 0 → V_X7_pass_24 K  M2 a0 a1 ((a1).toInt64) (0 : Int64) (3000000 : Int64))))
set_option maxRecDepth 100000 in
set_option maxHeartbeats 4000000 in
theorem x_X7_pass {G : Gx} {K : Rs → Mm → Prop} {M : Mm} {a0 : Nat} {a1 : Int32} (h : V_X7_pass K M a0 a1) : MC G mi_X7_pass [.ref a0, .int a1] M K := by
  unfold V_X7_pass at h
  refine mc_of rfl (by decide +kernel) dc_X7_pass (Nat.le_of_ble_eq_true rfl) 3 (Nat.le_of_ble_eq_true rfl) ?_
  show E G mi_X7_pass K M 0 0 0 [some (.ref a0), some (.int a1), none, none, none] []
  refine e_blk 2 0 _ _ (pc' := 2) (L' := [some (.ref a0), some (.int a1), none, none, none]) (st' := [.int (0 : Int32), .ref a0]) rfl ?_
  obtain ⟨ho1, h⟩ := h
  refine e_putI 7 0 rfl rfl (by decide) (aw (i := 1065) (by decide +kernel) rfl) rfl ho1 rfl ?_
  generalize hM2 : sI M a0 0 (0 : Int32) = M2
  replace h := h M2 hM2.symm
  replace ho1 : ob M2 a0 7 := hM2 ▸ ob_sI ho1
  refine e_blk 4 5 _ _ (pc' := 9) (L' := [some (.ref a0), some (.int a1), none, none, none]) (st' := [.ref a0, .long (0 : Int64), .long ((a1).toInt64)]) rfl ?_
  refine e_getI 7 53 rfl rfl (by decide) (aw (i := 1118) (by decide +kernel) rfl) ho1 rfl ?_
  refine e_if_eq 21 rfl rfl (fun hc => ?_) (fun hc => ?_)
  · replace h := h.1 hc
    refine e_ldc2 (3000) rfl (aw (i := 1547) (by decide +kernel) rfl) ?_
    refine e_drp [true, true, false, false, false] (L' := [some (.ref a0), some (.int a1), none, none, none]) rfl ?_
    exact x_X7_pass_24  h
  · replace h := h.2 hc
    refine e_ldc2 (3000000) rfl (aw (i := 1546) (by decide +kernel) rfl) ?_
    refine e_blk 1 18 _ _ (pc' := 24) (L' := [some (.ref a0), some (.int a1), none, none, none]) (st' := [.long (3000000 : Int64), .long (0 : Int64), .long ((a1).toInt64)]) rfl ?_
    refine e_drp [true, true, false, false, false] (L' := [some (.ref a0), some (.int a1), none, none, none]) rfl ?_
    exact x_X7_pass_24  h
def V_X7_sleep_36 (K : Rs → Mm → Prop)  (M : Mm)  : Prop := K (.inl none) M
set_option maxRecDepth 100000 in
set_option maxHeartbeats 4000000 in
theorem x_X7_sleep_36 {G : Gx} {K : Rs → Mm → Prop}  {M : Mm}  (h : V_X7_sleep_36 K  M ) : E G mi_X7_sleep K M 0 0 36 [none] [] := by
  unfold V_X7_sleep_36 at h
  exact e_ret rfl rfl (by decide) (by decide) h
def V_X7_sleep_13 (K : Rs → Mm → Prop)  (M : Mm) (l0 : Nat) (s0 : Nat) (s1 : Int32) : Prop := (ob M s0 7 ∧ ∀ M2, M2 = sI M s0 0 s1 → (ob M2 l0 7 ∧ ((¬ (mI M2 l0 0) = 0 → V_X7_sleep_36 K  M2 ) ∧ ((mI M2 l0 0) = 0 → ∀ M4, M4 = sI M2 l0 53 (1 : Int32) → ∀ M5, M5 = sI M4 l0 54 (mI M4 l0 52) → V_X7_sleep_36 K  M5 ))))
set_option maxRecDepth 100000 in
set_option maxHeartbeats 4000000 in
theorem x_X7_sleep_13 {G : Gx} {K : Rs → Mm → Prop}  {M : Mm} {l0 : Nat} {s0 : Nat} {s1 : Int32} (h : V_X7_sleep_13 K  M l0 s0 s1) : E G mi_X7_sleep K M 0 0 13 [some (.ref l0)] [.int s1, .ref s0] := by
  unfold V_X7_sleep_13 at h
  obtain ⟨ho1, h⟩ := h
  refine e_putI 7 0 rfl rfl (by decide) (aw (i := 1065) (by decide +kernel) rfl) rfl ho1 rfl ?_
  generalize hM2 : sI M s0 0 s1 = M2
  replace h := h M2 hM2.symm
  replace ho1 : ob M2 s0 7 := hM2 ▸ ob_sI ho1
  refine e_blk 1 16 _ _ (pc' := 17) (L' := [some (.ref l0)]) (st' := [.ref l0]) rfl ?_
  obtain ⟨ho3, h⟩ := h
  refine e_getI 7 0 rfl rfl (by decide) (aw (i := 1065) (by decide +kernel) rfl) ho3 rfl ?_
  refine e_if_ne 36 rfl rfl (fun hc => ?_) (fun hc => ?_)
  · replace h := h.1 hc
    refine e_drp [false] (L' := [none]) rfl ?_
    exact x_X7_sleep_36  h
  · replace h := h.2 hc
    refine e_blk 2 23 _ _ (pc' := 25) (L' := [some (.ref l0)]) (st' := [.int (1 : Int32), .ref l0]) rfl ?_
    refine e_putZ 7 53 rfl rfl (by decide) (aw (i := 1118) (by decide +kernel) rfl) rfl ho3 rfl (by decide) ?_
    generalize hM4 : sI M2 l0 53 (1 : Int32) = M4
    replace h := h M4 hM4.symm
    replace ho1 : ob M4 s0 7 := hM4 ▸ ob_sI ho1
    replace ho3 : ob M4 l0 7 := hM4 ▸ ob_sI ho3
    refine e_blk 2 28 _ _ (pc' := 30) (L' := [some (.ref l0)]) (st' := [.ref l0, .ref l0]) rfl ?_
    refine e_getI 7 52 rfl rfl (by decide) (aw (i := 1117) (by decide +kernel) rfl) ho3 rfl ?_
    refine e_putI 7 54 rfl rfl (by decide) (aw (i := 1119) (by decide +kernel) rfl) rfl ho3 rfl ?_
    generalize hM5 : sI M4 l0 54 (mI M4 l0 52) = M5
    replace h := h M5 hM5.symm
    replace ho1 : ob M5 s0 7 := hM5 ▸ ob_sI ho1
    replace ho3 : ob M5 l0 7 := hM5 ▸ ob_sI ho3
    refine e_drp [false] (L' := [none]) rfl ?_
    exact x_X7_sleep_36  h
def V_X7_sleep (K : Rs → Mm → Prop) (M : Mm) (a0 : Nat) : Prop := (ob M a0 7 ∧ (((mI M a0 53) = 0 → V_X7_sleep_13 K  M a0 a0 (0 : Int32)) ∧ (¬ (mI M a0 53) = 0 → V_X7_sleep_13 K  M a0 a0 (1 : Int32))))
set_option maxRecDepth 100000 in
set_option maxHeartbeats 4000000 in
theorem x_X7_sleep {G : Gx} {K : Rs → Mm → Prop} {M : Mm} {a0 : Nat} (h : V_X7_sleep K M a0) : MC G mi_X7_sleep [.ref a0] M K := by
  unfold V_X7_sleep at h
  refine mc_of rfl (by decide +kernel) dc_X7_sleep (Nat.le_of_ble_eq_true rfl) 0 (Nat.le_of_ble_eq_true rfl) ?_
  show E G mi_X7_sleep K M 0 0 0 [some (.ref a0)] []
  refine e_blk 2 0 _ _ (pc' := 2) (L' := [some (.ref a0)]) (st' := [.ref a0, .ref a0]) rfl ?_
  obtain ⟨ho1, h⟩ := h
  refine e_getI 7 53 rfl rfl (by decide) (aw (i := 1118) (by decide +kernel) rfl) ho1 rfl ?_
  refine e_if_eq 12 rfl rfl (fun hc => ?_) (fun hc => ?_)
  · replace h := h.1 hc
    refine e_blk 1 12 _ _ (pc' := 13) (L' := [some (.ref a0)]) (st' := [.int (0 : Int32), .ref a0]) rfl ?_
    refine e_drp [true] (L' := [some (.ref a0)]) rfl ?_
    exact x_X7_sleep_13  h
  · replace h := h.2 hc
    refine e_blk 2 8 _ _ (pc' := 13) (L' := [some (.ref a0)]) (st' := [.int (1 : Int32), .ref a0]) rfl ?_
    refine e_drp [true] (L' := [some (.ref a0)]) rfl ?_
    exact x_X7_sleep_13  h
def V_X7_missed_79 (K : Rs → Mm → Prop)  : Nat → Mm → Nat → Int32 → Prop
  | 0, _, _, _ => False
  | z + 1, M, l0, l1 => (ob M l0 7 ∧ (((mI M l0 49) ≤ 0 → K (.inl none) M) ∧ (¬ (mI M l0 49) ≤ 0 → ∀ x2 : Int32, x2 = (mI M l0 50) → V_X7_due (kV (fun M3 => (ob M3 l0 7 ∧ V_X7_walk (kV (fun M5 => V_X7_missed_79 K  z M5 l0 l1) (fun _ _ => False)) M3 l0 l1 (x2 + (1 : Int32)) (mI M3 l0 52) (0 : Int32))) (fun _ _ => False)) M l0 l1 x2)))
set_option maxRecDepth 100000 in
set_option maxHeartbeats 4000000 in
theorem x_X7_missed_79 {G : Gx} {K : Rs → Mm → Prop}  : ∀ (z : Nat) (M : Mm) (l0 : Nat) (l1 : Int32), V_X7_missed_79 K  z M l0 l1 → E G mi_X7_missed K M 0 0 79 [some (.ref l0), some (.int l1), none, none, none] []
  | 0, M, l0, l1, h => False.elim h
  | z + 1, M, l0, l1, h => by
    unfold V_X7_missed_79 at h
    refine e_blk 1 79 _ _ (pc' := 80) (L' := [some (.ref l0), some (.int l1), none, none, none]) (st' := [.ref l0]) rfl ?_
    obtain ⟨ho1, h⟩ := h
    refine e_getI 7 49 rfl rfl (by decide) (aw (i := 1114) (by decide +kernel) rfl) ho1 rfl ?_
    refine e_if_le 116 rfl rfl (fun hc => ?_) (fun hc => ?_)
    · replace h := h.1 hc
      exact e_ret rfl rfl (by decide) (by decide) h
    · replace h := h.2 hc
      refine e_blk 1 86 _ _ (pc' := 87) (L' := [some (.ref l0), some (.int l1), none, none, none]) (st' := [.ref l0]) rfl ?_
      refine e_getI 7 50 rfl rfl (by decide) (aw (i := 1115) (by decide +kernel) rfl) ho1 rfl ?_
      refine e_blk 4 90 _ _ (pc' := 96) (L' := [some (.ref l0), some (.int l1), none, none, some (.int (mI M l0 50))]) (st' := [.int (mI M l0 50), .int l1, .ref l0]) rfl ?_
      generalize hx_x2 : ((mI M l0 50) : Int32) = x2
      replace h := h x2 hx_x2.symm
      refine e_callV (As := [.int l1, .int x2]) (rest := []) (ci := 7) rfl (x_X7_due h) ho1 rfl rfl rfl (aw (i := 1564) (by decide +kernel) rfl) wn_X7_due wv_X7_due wi_X7_due wc_X7_due (show cok mi_X7_missed mi_X7_due 0 0 2 = true by decide +kernel) (Nat.le_of_ble_eq_true rfl) (fun v9 M3 hq => ?_) (fun X M9 hq => False.elim hq)
      obtain ⟨rfl, h⟩ := kV_l hq
      refine e_blk 6 99 _ _ (pc' := 106) (L' := [some (.ref l0), some (.int l1), none, none, some (.int x2)]) (st' := [.ref l0, .int (x2 + (1 : Int32)), .int l1, .ref l0]) rfl ?_
      obtain ⟨ho4, h⟩ := h
      refine e_getI 7 52 rfl rfl (by decide) (aw (i := 1117) (by decide +kernel) rfl) ho4 rfl ?_
      refine e_blk 1 109 _ _ (pc' := 110) (L' := [some (.ref l0), some (.int l1), none, none, some (.int x2)]) (st' := [.int (0 : Int32), .int (mI M3 l0 52), .int (x2 + (1 : Int32)), .int l1, .ref l0]) rfl ?_
      refine e_callV (As := [.int l1, .int (x2 + (1 : Int32)), .int (mI M3 l0 52), .int (0 : Int32)]) (rest := []) (ci := 7) rfl (x_X7_walk h) ho4 rfl rfl rfl (aw (i := 1521) (by decide +kernel) rfl) wn_X7_walk wv_X7_walk wi_X7_walk wc_X7_walk (show cok mi_X7_missed mi_X7_walk 0 0 4 = true by decide +kernel) (Nat.le_of_ble_eq_true rfl) (fun v9 M5 hq => ?_) (fun X M9 hq => False.elim hq)
      obtain ⟨rfl, h⟩ := kV_l hq
      refine e_blk 1 113 _ _ (pc' := 79) (L' := [some (.ref l0), some (.int l1), none, none, some (.int x2)]) (st' := []) rfl ?_
      refine e_drp [true, true, false, false, false] (L' := [some (.ref l0), some (.int l1), none, none, none]) rfl ?_
      exact x_X7_missed_79  z _ _ _ h
def V_X7_missed_67 (K : Rs → Mm → Prop)  (M : Mm)  : Prop := K (.inl none) M
set_option maxRecDepth 100000 in
set_option maxHeartbeats 4000000 in
theorem x_X7_missed_67 {G : Gx} {K : Rs → Mm → Prop}  {M : Mm}  (h : V_X7_missed_67 K  M ) : E G mi_X7_missed K M 0 0 67 [none, none, none, none, none] [] := by
  unfold V_X7_missed_67 at h
  exact e_ret rfl rfl (by decide) (by decide) h
def V_X7_missed_29 (K : Rs → Mm → Prop)  (M : Mm) (l0 : Nat) (l1 : Int32) (s0 : Int32) : Prop := (ob M l0 7 ∧ ∃ b2, mP M l0 28 = some b2 ∧ (ob M b2 9 ∧ (vp_in l1 (mN M b2) ∧ ((¬ (mI M b2 (l1).toNatClampNeg) = (1 : Int32) → V_X7_walk (kV (fun M5 => ∃ y, V_X7_missed_79 K  y M5 l0 l1) (fun _ _ => False)) M l0 l1 s0 (mI M l0 52) (0 : Int32)) ∧ ((mI M b2 (l1).toNatClampNeg) = (1 : Int32) → V_X7_walk (kV (fun M6 => (ob M6 l0 7 ∧ (((mI M6 l0 49) ≤ 0 → V_X7_missed_67 K  M6 ) ∧ (¬ (mI M6 l0 49) ≤ 0 → V_X7_due (kV (fun M8 => V_X7_missed_67 K  M8 ) (fun _ _ => False)) M6 l0 l1 (mI M6 l0 50))))) (fun _ _ => False)) M l0 l1 s0 (mI M l0 52) (1 : Int32))))))
set_option maxRecDepth 100000 in
set_option maxHeartbeats 4000000 in
theorem x_X7_missed_29 {G : Gx} {K : Rs → Mm → Prop}  {M : Mm} {l0 : Nat} {l1 : Int32} {s0 : Int32} (h : V_X7_missed_29 K  M l0 l1 s0) : E G mi_X7_missed K M 0 0 29 [some (.ref l0), some (.int l1), none, none, none] [.int s0] := by
  unfold V_X7_missed_29 at h
  refine e_blk 2 29 _ _ (pc' := 31) (L' := [some (.ref l0), some (.int l1), some (.int s0), none, none]) (st' := [.ref l0]) rfl ?_
  obtain ⟨ho1, h⟩ := h
  obtain ⟨b2, hbb2, h⟩ := h
  refine e_getR 7 28 rfl rfl (by decide) (aw (i := 1093) (by decide +kernel) rfl) ho1 rfl hbb2 ?_
  refine e_blk 1 34 _ _ (pc' := 35) (L' := [some (.ref l0), some (.int l1), some (.int s0), none, none]) (st' := [.int l1, .ref b2]) rfl ?_
  obtain ⟨ho3, h⟩ := h
  obtain ⟨hi4, h⟩ := h
  refine e_iald rfl ho3 hi4 ?_
  refine e_blk 1 36 _ _ (pc' := 37) (L' := [some (.ref l0), some (.int l1), some (.int s0), none, none]) (st' := [.int (1 : Int32), .int (mI M b2 (l1).toNatClampNeg)]) rfl ?_
  refine e_icmp_ne 68 rfl rfl (fun hc => ?_) (fun hc => ?_)
  · replace h := h.1 hc
    refine e_blk 4 68 _ _ (pc' := 72) (L' := [some (.ref l0), some (.int l1), some (.int s0), none, none]) (st' := [.ref l0, .int s0, .int l1, .ref l0]) rfl ?_
    refine e_getI 7 52 rfl rfl (by decide) (aw (i := 1117) (by decide +kernel) rfl) ho1 rfl ?_
    refine e_blk 1 75 _ _ (pc' := 76) (L' := [some (.ref l0), some (.int l1), some (.int s0), none, none]) (st' := [.int (0 : Int32), .int (mI M l0 52), .int s0, .int l1, .ref l0]) rfl ?_
    refine e_callV (As := [.int l1, .int s0, .int (mI M l0 52), .int (0 : Int32)]) (rest := []) (ci := 7) rfl (x_X7_walk h) ho1 rfl rfl rfl (aw (i := 1521) (by decide +kernel) rfl) wn_X7_walk wv_X7_walk wi_X7_walk wc_X7_walk (show cok mi_X7_missed mi_X7_walk 0 0 4 = true by decide +kernel) (Nat.le_of_ble_eq_true rfl) (fun v9 M5 hq => ?_) (fun X M9 hq => False.elim hq)
    obtain ⟨rfl, h⟩ := kV_l hq
    refine e_drp [true, true, false, false, false] (L' := [some (.ref l0), some (.int l1), none, none, none]) rfl ?_
    obtain ⟨y, h⟩ := h
    exact x_X7_missed_79  y _ _ _ h
  · replace h := h.2 hc
    refine e_blk 4 40 _ _ (pc' := 44) (L' := [some (.ref l0), some (.int l1), some (.int s0), none, none]) (st' := [.ref l0, .int s0, .int l1, .ref l0]) rfl ?_
    refine e_getI 7 52 rfl rfl (by decide) (aw (i := 1117) (by decide +kernel) rfl) ho1 rfl ?_
    refine e_blk 1 47 _ _ (pc' := 48) (L' := [some (.ref l0), some (.int l1), some (.int s0), none, none]) (st' := [.int (1 : Int32), .int (mI M l0 52), .int s0, .int l1, .ref l0]) rfl ?_
    refine e_callV (As := [.int l1, .int s0, .int (mI M l0 52), .int (1 : Int32)]) (rest := []) (ci := 7) rfl (x_X7_walk h) ho1 rfl rfl rfl (aw (i := 1521) (by decide +kernel) rfl) wn_X7_walk wv_X7_walk wi_X7_walk wc_X7_walk (show cok mi_X7_missed mi_X7_walk 0 0 4 = true by decide +kernel) (Nat.le_of_ble_eq_true rfl) (fun v9 M6 hq => ?_) (fun X M9 hq => False.elim hq)
    obtain ⟨rfl, h⟩ := kV_l hq
    refine e_blk 1 51 _ _ (pc' := 52) (L' := [some (.ref l0), some (.int l1), some (.int s0), none, none]) (st' := [.ref l0]) rfl ?_
    obtain ⟨ho7, h⟩ := h
    refine e_getI 7 49 rfl rfl (by decide) (aw (i := 1114) (by decide +kernel) rfl) ho7 rfl ?_
    refine e_if_le 67 rfl rfl (fun hc => ?_) (fun hc => ?_)
    · replace h := h.1 hc
      refine e_drp [false, false, false, false, false] (L' := [none, none, none, none, none]) rfl ?_
      exact x_X7_missed_67  h
    · replace h := h.2 hc
      refine e_blk 3 58 _ _ (pc' := 61) (L' := [some (.ref l0), some (.int l1), some (.int s0), none, none]) (st' := [.ref l0, .int l1, .ref l0]) rfl ?_
      refine e_getI 7 50 rfl rfl (by decide) (aw (i := 1115) (by decide +kernel) rfl) ho7 rfl ?_
      refine e_callV (As := [.int l1, .int (mI M6 l0 50)]) (rest := []) (ci := 7) rfl (x_X7_due h) ho7 rfl rfl rfl (aw (i := 1564) (by decide +kernel) rfl) wn_X7_due wv_X7_due wi_X7_due wc_X7_due (show cok mi_X7_missed mi_X7_due 0 0 2 = true by decide +kernel) (Nat.le_of_ble_eq_true rfl) (fun v9 M8 hq => ?_) (fun X M9 hq => False.elim hq)
      obtain ⟨rfl, h⟩ := kV_l hq
      refine e_drp [false, false, false, false, false] (L' := [none, none, none, none, none]) rfl ?_
      exact x_X7_missed_67  h
def V_X7_missed (K : Rs → Mm → Prop) (M : Mm) (a0 : Nat) (a1 : Int32) : Prop := (ob M a0 7 ∧ ∀ x2 : Int32, x2 = ((mI M a0 54) + (1 : Int32)) → ∃ b3, mP M a0 29 = some b3 ∧ (ob M b3 9 ∧ (vp_in a1 (mN M b3) ∧ ∀ x6 : Int32, x6 = ((mI M a0 52) - (mI M b3 (a1).toNatClampNeg)) → ((x6 ≤ x2 → V_X7_missed_29 K  M a0 a1 x2) ∧ (¬ x6 ≤ x2 → V_X7_missed_29 K  M a0 a1 x6)))))
set_option maxRecDepth 100000 in
set_option maxHeartbeats 4000000 in
theorem x_X7_missed {G : Gx} {K : Rs → Mm → Prop} {M : Mm} {a0 : Nat} {a1 : Int32} (h : V_X7_missed K M a0 a1) : MC G mi_X7_missed [.ref a0, .int a1] M K := by
  unfold V_X7_missed at h
  refine mc_of rfl (by decide +kernel) dc_X7_missed (Nat.le_of_ble_eq_true rfl) 3 (Nat.le_of_ble_eq_true rfl) ?_
  show E G mi_X7_missed K M 0 0 0 [some (.ref a0), some (.int a1), none, none, none] []
  refine e_blk 1 0 _ _ (pc' := 1) (L' := [some (.ref a0), some (.int a1), none, none, none]) (st' := [.ref a0]) rfl ?_
  obtain ⟨ho1, h⟩ := h
  refine e_getI 7 54 rfl rfl (by decide) (aw (i := 1119) (by decide +kernel) rfl) ho1 rfl ?_
  refine e_blk 4 4 _ _ (pc' := 8) (L' := [some (.ref a0), some (.int a1), some (.int ((mI M a0 54) + (1 : Int32))), none, none]) (st' := [.ref a0]) rfl ?_
  generalize hx_x2 : (((mI M a0 54) + (1 : Int32)) : Int32) = x2
  replace h := h x2 hx_x2.symm
  refine e_getI 7 52 rfl rfl (by decide) (aw (i := 1117) (by decide +kernel) rfl) ho1 rfl ?_
  refine e_blk 1 11 _ _ (pc' := 12) (L' := [some (.ref a0), some (.int a1), some (.int x2), none, none]) (st' := [.ref a0, .int (mI M a0 52)]) rfl ?_
  obtain ⟨b3, hbb3, h⟩ := h
  refine e_getR 7 29 rfl rfl (by decide) (aw (i := 1094) (by decide +kernel) rfl) ho1 rfl hbb3 ?_
  refine e_blk 1 15 _ _ (pc' := 16) (L' := [some (.ref a0), some (.int a1), some (.int x2), none, none]) (st' := [.int a1, .ref b3, .int (mI M a0 52)]) rfl ?_
  obtain ⟨ho4, h⟩ := h
  obtain ⟨hi5, h⟩ := h
  refine e_iald rfl ho4 hi5 ?_
  refine e_blk 4 17 _ _ (pc' := 21) (L' := [some (.ref a0), some (.int a1), some (.int x2), some (.int ((mI M a0 52) - (mI M b3 (a1).toNatClampNeg))), none]) (st' := [.int x2, .int ((mI M a0 52) - (mI M b3 (a1).toNatClampNeg))]) rfl ?_
  generalize hx_x6 : (((mI M a0 52) - (mI M b3 (a1).toNatClampNeg)) : Int32) = x6
  replace h := h x6 hx_x6.symm
  refine e_icmp_le 28 rfl rfl (fun hc => ?_) (fun hc => ?_)
  · replace h := h.1 hc
    refine e_blk 1 28 _ _ (pc' := 29) (L' := [some (.ref a0), some (.int a1), some (.int x2), some (.int x6), none]) (st' := [.int x2]) rfl ?_
    refine e_drp [true, true, false, false, false] (L' := [some (.ref a0), some (.int a1), none, none, none]) rfl ?_
    exact x_X7_missed_29  h
  · replace h := h.2 hc
    refine e_blk 2 24 _ _ (pc' := 29) (L' := [some (.ref a0), some (.int a1), some (.int x2), some (.int x6), none]) (st' := [.int x6]) rfl ?_
    refine e_drp [true, true, false, false, false] (L' := [some (.ref a0), some (.int a1), none, none, none]) rfl ?_
    exact x_X7_missed_29  h
def V_X7_wake_95 (K : Rs → Mm → Prop) (B66 : Mm → Nat → Int32 → Int32 → Prop) (M : Mm) (l0 : Nat) (l1 : Int32) (l3 : Int32) : Prop := ∀ x1 : Int32, x1 = (l3 + (1 : Int32)) → B66 M l0 l1 x1
set_option maxRecDepth 100000 in
set_option maxHeartbeats 4000000 in
theorem x_X7_wake_95 {G : Gx} {K : Rs → Mm → Prop} {B66 : Mm → Nat → Int32 → Int32 → Prop} (hB66 : ∀ M l0 l1 l3, B66 M l0 l1 l3 → E G mi_X7_wake K M 0 0 66 [some (.ref l0), some (.int l1), none, some (.int l3)] []) {M : Mm} {l0 : Nat} {l1 : Int32} {l3 : Int32} (h : V_X7_wake_95 K B66 M l0 l1 l3) : E G mi_X7_wake K M 0 0 95 [some (.ref l0), some (.int l1), none, some (.int l3)] [] := by
  unfold V_X7_wake_95 at h
  refine e_blk 2 95 _ _ (pc' := 66) (L' := [some (.ref l0), some (.int l1), none, some (.int (l3 + (1 : Int32)))]) (st' := []) rfl ?_
  generalize hx_x1 : ((l3 + (1 : Int32)) : Int32) = x1
  replace h := h x1 hx_x1.symm
  refine e_drp [true, true, false, true] (L' := [some (.ref l0), some (.int l1), none, some (.int x1)]) rfl ?_
  exact hB66 _ _ _ _ h
def V_X7_wake_66 (K : Rs → Mm → Prop)  : Nat → Mm → Nat → Int32 → Int32 → Prop
  | 0, _, _, _, _ => False
  | z + 1, M, l0, l1, l3 => (((12 : Int32) ≤ l3 → (ob M l0 7 ∧ K (.inl (some (.int ((mI M l0 55) - l1)))) M)) ∧ (¬ (12 : Int32) ≤ l3 → (ob M l0 7 ∧ ∃ b3, mP M l0 26 = some b3 ∧ (ob M b3 11 ∧ (vp_in l3 (mN M b3) ∧ (((mI M b3 (l3).toNatClampNeg) = 0 → V_X7_wake_95 K (fun M l0 l1 l3 => V_X7_wake_66 K  z M l0 l1 l3) M l0 l1 l3) ∧ (¬ (mI M b3 (l3).toNatClampNeg) = 0 → ∃ b6, mP M l0 28 = some b6 ∧ (ob M b6 9 ∧ (vp_in l3 (mN M b6) ∧ (((mI M b6 (l3).toNatClampNeg) ≤ 0 → V_X7_wake_95 K (fun M l0 l1 l3 => V_X7_wake_66 K  z M l0 l1 l3) M l0 l1 l3) ∧ (¬ (mI M b6 (l3).toNatClampNeg) ≤ 0 → V_X7_missed (kV (fun M9 => V_X7_wake_95 K (fun M l0 l1 l3 => V_X7_wake_66 K  z M l0 l1 l3) M9 l0 l1 l3) (fun _ _ => False)) M l0 l3)))))))))))
set_option maxRecDepth 100000 in
set_option maxHeartbeats 4000000 in
theorem x_X7_wake_66 {G : Gx} {K : Rs → Mm → Prop}  : ∀ (z : Nat) (M : Mm) (l0 : Nat) (l1 : Int32) (l3 : Int32), V_X7_wake_66 K  z M l0 l1 l3 → E G mi_X7_wake K M 0 0 66 [some (.ref l0), some (.int l1), none, some (.int l3)] []
  | 0, M, l0, l1, l3, h => False.elim h
  | z + 1, M, l0, l1, l3, h => by
    unfold V_X7_wake_66 at h
    refine e_blk 2 66 _ _ (pc' := 69) (L' := [some (.ref l0), some (.int l1), none, some (.int l3)]) (st' := [.int (12 : Int32), .int l3]) rfl ?_
    refine e_icmp_ge 101 rfl rfl (fun hc => ?_) (fun hc => ?_)
    · replace h := h.1 hc
      refine e_blk 1 101 _ _ (pc' := 102) (L' := [some (.ref l0), some (.int l1), none, some (.int l3)]) (st' := [.ref l0]) rfl ?_
      obtain ⟨ho1, h⟩ := h
      refine e_getI 7 55 rfl rfl (by decide) (aw (i := 1120) (by decide +kernel) rfl) ho1 rfl ?_
      refine e_blk 2 105 _ _ (pc' := 107) (L' := [some (.ref l0), some (.int l1), none, some (.int l3)]) (st' := [.int ((mI M l0 55) - l1)]) rfl ?_
      exact e_reti rfl rfl (by decide) (by decide) h
    · replace h := h.2 hc
      refine e_blk 1 72 _ _ (pc' := 73) (L' := [some (.ref l0), some (.int l1), none, some (.int l3)]) (st' := [.ref l0]) rfl ?_
      obtain ⟨ho2, h⟩ := h
      obtain ⟨b3, hbb3, h⟩ := h
      refine e_getR 7 26 rfl rfl (by decide) (aw (i := 1091) (by decide +kernel) rfl) ho2 rfl hbb3 ?_
      refine e_blk 1 76 _ _ (pc' := 77) (L' := [some (.ref l0), some (.int l1), none, some (.int l3)]) (st' := [.int l3, .ref b3]) rfl ?_
      obtain ⟨ho4, h⟩ := h
      obtain ⟨hi5, h⟩ := h
      refine e_zald rfl ho4 hi5 ?_
      refine e_if_eq 95 rfl rfl (fun hc => ?_) (fun hc => ?_)
      · replace h := h.1 hc
        refine e_drp [true, true, false, true] (L' := [some (.ref l0), some (.int l1), none, some (.int l3)]) rfl ?_
        exact x_X7_wake_95 (fun M l0 l1 l3 h => x_X7_wake_66  z M l0 l1 l3 h) h
      · replace h := h.2 hc
        refine e_blk 1 81 _ _ (pc' := 82) (L' := [some (.ref l0), some (.int l1), none, some (.int l3)]) (st' := [.ref l0]) rfl ?_
        obtain ⟨b6, hbb6, h⟩ := h
        refine e_getR 7 28 rfl rfl (by decide) (aw (i := 1093) (by decide +kernel) rfl) ho2 rfl hbb6 ?_
        refine e_blk 1 85 _ _ (pc' := 86) (L' := [some (.ref l0), some (.int l1), none, some (.int l3)]) (st' := [.int l3, .ref b6]) rfl ?_
        obtain ⟨ho7, h⟩ := h
        obtain ⟨hi8, h⟩ := h
        refine e_iald rfl ho7 hi8 ?_
        refine e_if_le 95 rfl rfl (fun hc => ?_) (fun hc => ?_)
        · replace h := h.1 hc
          refine e_drp [true, true, false, true] (L' := [some (.ref l0), some (.int l1), none, some (.int l3)]) rfl ?_
          exact x_X7_wake_95 (fun M l0 l1 l3 h => x_X7_wake_66  z M l0 l1 l3 h) h
        · replace h := h.2 hc
          refine e_blk 2 90 _ _ (pc' := 92) (L' := [some (.ref l0), some (.int l1), none, some (.int l3)]) (st' := [.int l3, .ref l0]) rfl ?_
          refine e_callV (As := [.int l3]) (rest := []) (ci := 7) rfl (x_X7_missed h) ho2 rfl rfl rfl (aw (i := 1576) (by decide +kernel) rfl) wn_X7_missed wv_X7_missed wi_X7_missed wc_X7_missed (show cok mi_X7_wake mi_X7_missed 0 0 1 = true by decide +kernel) (Nat.le_of_ble_eq_true rfl) (fun v9 M9 hq => ?_) (fun X M9 hq => False.elim hq)
          obtain ⟨rfl, h⟩ := kV_l hq
          refine e_drp [true, true, false, true] (L' := [some (.ref l0), some (.int l1), none, some (.int l3)]) rfl ?_
          exact x_X7_wake_95 (fun M l0 l1 l3 h => x_X7_wake_66  z M l0 l1 l3 h) h
def V_X7_wake_37 (K : Rs → Mm → Prop)  : Nat → Mm → Nat → Int32 → Int32 → Prop
  | 0, _, _, _, _ => False
  | z + 1, M, l0, l1, l2 => ((l2 < 0 → ∃ y, V_X7_wake_66 K  y M l0 l1 (0 : Int32)) ∧ (¬ l2 < 0 → (ob M l0 7 ∧ ∃ b2, mP M l0 47 = some b2 ∧ (ob M b2 9 ∧ (vp_in l2 (mN M b2) ∧ V_X7_end (kV (fun M5 => (ob M5 l0 7 ∧ V_X7_ending (kI (fun r8 M7 => V_X7_wake_37 K  z M7 l0 l1 r8) (fun _ _ => False)) M5 l0 (mI M5 l0 52))) (fun _ _ => False)) M l0 l2 (mI M b2 (l2).toNatClampNeg))))))
set_option maxRecDepth 100000 in
set_option maxHeartbeats 4000000 in
theorem x_X7_wake_37 {G : Gx} {K : Rs → Mm → Prop}  : ∀ (z : Nat) (M : Mm) (l0 : Nat) (l1 : Int32) (l2 : Int32), V_X7_wake_37 K  z M l0 l1 l2 → E G mi_X7_wake K M 0 0 37 [some (.ref l0), some (.int l1), some (.int l2), none] []
  | 0, M, l0, l1, l2, h => False.elim h
  | z + 1, M, l0, l1, l2, h => by
    unfold V_X7_wake_37 at h
    refine e_blk 1 37 _ _ (pc' := 38) (L' := [some (.ref l0), some (.int l1), some (.int l2), none]) (st' := [.int l2]) rfl ?_
    refine e_if_lt 64 rfl rfl (fun hc => ?_) (fun hc => ?_)
    · replace h := h.1 hc
      refine e_blk 2 64 _ _ (pc' := 66) (L' := [some (.ref l0), some (.int l1), some (.int l2), some (.int (0 : Int32))]) (st' := []) rfl ?_
      refine e_drp [true, true, false, true] (L' := [some (.ref l0), some (.int l1), none, some (.int (0 : Int32))]) rfl ?_
      obtain ⟨y, h⟩ := h
      exact x_X7_wake_66  y _ _ _ _ h
    · replace h := h.2 hc
      refine e_blk 3 41 _ _ (pc' := 44) (L' := [some (.ref l0), some (.int l1), some (.int l2), none]) (st' := [.ref l0, .int l2, .ref l0]) rfl ?_
      obtain ⟨ho1, h⟩ := h
      obtain ⟨b2, hbb2, h⟩ := h
      refine e_getR 7 47 rfl rfl (by decide) (aw (i := 1112) (by decide +kernel) rfl) ho1 rfl hbb2 ?_
      refine e_blk 1 47 _ _ (pc' := 48) (L' := [some (.ref l0), some (.int l1), some (.int l2), none]) (st' := [.int l2, .ref b2, .int l2, .ref l0]) rfl ?_
      obtain ⟨ho3, h⟩ := h
      obtain ⟨hi4, h⟩ := h
      refine e_iald rfl ho3 hi4 ?_
      refine e_callV (As := [.int l2, .int (mI M b2 (l2).toNatClampNeg)]) (rest := []) (ci := 7) rfl (x_X7_end h) ho1 rfl rfl rfl (aw (i := 1552) (by decide +kernel) rfl) wn_X7_end wv_X7_end wi_X7_end wc_X7_end (show cok mi_X7_wake mi_X7_end 0 0 2 = true by decide +kernel) (Nat.le_of_ble_eq_true rfl) (fun v9 M5 hq => ?_) (fun X M9 hq => False.elim hq)
      obtain ⟨rfl, h⟩ := kV_l hq
      refine e_blk 2 52 _ _ (pc' := 54) (L' := [some (.ref l0), some (.int l1), some (.int l2), none]) (st' := [.ref l0, .ref l0]) rfl ?_
      obtain ⟨ho6, h⟩ := h
      refine e_getI 7 52 rfl rfl (by decide) (aw (i := 1117) (by decide +kernel) rfl) ho6 rfl ?_
      refine e_callV (As := [.int (mI M5 l0 52)]) (rest := []) (ci := 7) rfl (x_X7_ending h) ho6 rfl rfl rfl (aw (i := 1548) (by decide +kernel) rfl) wn_X7_ending wv_X7_ending wi_X7_ending wc_X7_ending (show cok mi_X7_wake mi_X7_ending 0 0 1 = true by decide +kernel) (Nat.le_of_ble_eq_true rfl) (fun v9 M7 hq => ?_) (fun X M9 hq => False.elim hq)
      obtain ⟨r8, rfl, h⟩ := kI_l hq
      refine e_blk 2 60 _ _ (pc' := 37) (L' := [some (.ref l0), some (.int l1), some (.int r8), none]) (st' := []) rfl ?_
      refine e_drp [true, true, true, false] (L' := [some (.ref l0), some (.int l1), some (.int r8), none]) rfl ?_
      exact x_X7_wake_37  z _ _ _ _ h
def V_X7_wake (K : Rs → Mm → Prop) (M : Mm) (a0 : Nat) : Prop := (ob M a0 7 ∧ ∀ M2, M2 = sI M a0 0 (0 : Int32) → ((¬ (mI M2 a0 53) = 0 → ∀ x3 : Int32, x3 = (mI M2 a0 55) → ∀ M4, M4 = sI M2 a0 53 (0 : Int32) → V_X7_ending (kI (fun r6 M5 => ∃ y, V_X7_wake_37 K  y M5 a0 x3 r6) (fun _ _ => False)) M4 a0 (mI M4 a0 52)) ∧ ((mI M2 a0 53) = 0 → V_X7_wrong (kI (fun r8 M7 => K (.inl (some (.int r8))) M7) (fun _ _ => False)) M2 a0 (1 : Int32))))
set_option maxRecDepth 100000 in
set_option maxHeartbeats 4000000 in
theorem x_X7_wake {G : Gx} {K : Rs → Mm → Prop} {M : Mm} {a0 : Nat} (h : V_X7_wake K M a0) : MC G mi_X7_wake [.ref a0] M K := by
  unfold V_X7_wake at h
  refine mc_of rfl (by decide +kernel) dc_X7_wake (Nat.le_of_ble_eq_true rfl) 3 (Nat.le_of_ble_eq_true rfl) ?_
  show E G mi_X7_wake K M 0 0 0 [some (.ref a0), none, none, none] []
  refine e_blk 2 0 _ _ (pc' := 2) (L' := [some (.ref a0), none, none, none]) (st' := [.int (0 : Int32), .ref a0]) rfl ?_
  obtain ⟨ho1, h⟩ := h
  refine e_putI 7 0 rfl rfl (by decide) (aw (i := 1065) (by decide +kernel) rfl) rfl ho1 rfl ?_
  generalize hM2 : sI M a0 0 (0 : Int32) = M2
  replace h := h M2 hM2.symm
  replace ho1 : ob M2 a0 7 := hM2 ▸ ob_sI ho1
  refine e_blk 1 5 _ _ (pc' := 6) (L' := [some (.ref a0), none, none, none]) (st' := [.ref a0]) rfl ?_
  refine e_getI 7 53 rfl rfl (by decide) (aw (i := 1118) (by decide +kernel) rfl) ho1 rfl ?_
  refine e_if_ne 18 rfl rfl (fun hc => ?_) (fun hc => ?_)
  · replace h := h.1 hc
    refine e_blk 1 18 _ _ (pc' := 19) (L' := [some (.ref a0), none, none, none]) (st' := [.ref a0]) rfl ?_
    refine e_getI 7 55 rfl rfl (by decide) (aw (i := 1120) (by decide +kernel) rfl) ho1 rfl ?_
    refine e_blk 3 22 _ _ (pc' := 25) (L' := [some (.ref a0), some (.int (mI M2 a0 55)), none, none]) (st' := [.int (0 : Int32), .ref a0]) rfl ?_
    generalize hx_x3 : ((mI M2 a0 55) : Int32) = x3
    replace h := h x3 hx_x3.symm
    refine e_putZ 7 53 rfl rfl (by decide) (aw (i := 1118) (by decide +kernel) rfl) rfl ho1 rfl (by decide) ?_
    generalize hM4 : sI M2 a0 53 (0 : Int32) = M4
    replace h := h M4 hM4.symm
    replace ho1 : ob M4 a0 7 := hM4 ▸ ob_sI ho1
    refine e_blk 2 28 _ _ (pc' := 30) (L' := [some (.ref a0), some (.int x3), none, none]) (st' := [.ref a0, .ref a0]) rfl ?_
    refine e_getI 7 52 rfl rfl (by decide) (aw (i := 1117) (by decide +kernel) rfl) ho1 rfl ?_
    refine e_callV (As := [.int (mI M4 a0 52)]) (rest := []) (ci := 7) rfl (x_X7_ending h) ho1 rfl rfl rfl (aw (i := 1548) (by decide +kernel) rfl) wn_X7_ending wv_X7_ending wi_X7_ending wc_X7_ending (show cok mi_X7_wake mi_X7_ending 0 0 1 = true by decide +kernel) (Nat.le_of_ble_eq_true rfl) (fun v9 M5 hq => ?_) (fun X M9 hq => False.elim hq)
    obtain ⟨r6, rfl, h⟩ := kI_l hq
    refine e_blk 1 36 _ _ (pc' := 37) (L' := [some (.ref a0), some (.int x3), some (.int r6), none]) (st' := []) rfl ?_
    refine e_drp [true, true, true, false] (L' := [some (.ref a0), some (.int x3), some (.int r6), none]) rfl ?_
    obtain ⟨y, h⟩ := h
    exact x_X7_wake_37  y _ _ _ _ h
  · replace h := h.2 hc
    refine e_blk 2 12 _ _ (pc' := 14) (L' := [some (.ref a0), none, none, none]) (st' := [.int (1 : Int32), .ref a0]) rfl ?_
    refine e_callV (As := [.int (1 : Int32)]) (rest := []) (ci := 7) rfl (x_X7_wrong h) ho1 rfl rfl rfl (aw (i := 1265) (by decide +kernel) rfl) wn_X7_wrong wv_X7_wrong wi_X7_wrong wc_X7_wrong (show cok mi_X7_wake mi_X7_wrong 0 0 1 = true by decide +kernel) (Nat.le_of_ble_eq_true rfl) (fun v9 M7 hq => ?_) (fun X M9 hq => False.elim hq)
    obtain ⟨r8, rfl, h⟩ := kI_l hq
    exact e_reti rfl rfl (by decide) (by decide) h
def V_X7_log_28 (K : Rs → Mm → Prop)  (M : Mm) (l0 : Nat) (l1 : Int32) (l2 : Int32) (s0 : Int64) (s1 : Int64) (s2 : Int32) : Prop := V_X7_in (kI (fun r2 M1 => ((¬ r2 = 0 → ((((l2).toInt < 0 ∨ 3 < (l2).toInt) → (ob M1 l0 7 ∧ V_X7_wrong (kI (fun r6 M5 => K (.inl (some (.int r6))) M5) (fun _ _ => False)) M1 l0 (2 : Int32))) ∧ ((l2 = 0 → (ob M1 l0 7 ∧ ∃ b9, mP M1 l0 56 = some b9 ∧ (ob M1 b9 9 ∧ (vp_in l1 (mN M1 b9) ∧ K (.inl (some (.int (mI M1 b9 (l1).toNatClampNeg)))) M1)))) ∧ ((l2 = 1 → (ob M1 l0 7 ∧ ∃ b14, mP M1 l0 57 = some b14 ∧ (ob M1 b14 9 ∧ (vp_in l1 (mN M1 b14) ∧ K (.inl (some (.int (mI M1 b14 (l1).toNatClampNeg)))) M1)))) ∧ ((l2 = 2 → (ob M1 l0 7 ∧ ∃ b19, mP M1 l0 58 = some b19 ∧ (ob M1 b19 9 ∧ (vp_in l1 (mN M1 b19) ∧ K (.inl (some (.int (mI M1 b19 (l1).toNatClampNeg)))) M1)))) ∧ ((l2 = 3 → (ob M1 l0 7 ∧ ∃ b24, mP M1 l0 59 = some b24 ∧ (ob M1 b24 9 ∧ (vp_in l1 (mN M1 b24) ∧ K (.inl (some (.int (mI M1 b24 (l1).toNatClampNeg)))) M1)))) ∧ True)))))) ∧ (r2 = 0 → (ob M1 l0 7 ∧ V_X7_wrong (kI (fun r29 M28 => K (.inl (some (.int r29))) M28) (fun _ _ => False)) M1 l0 (1 : Int32))))) (fun _ _ => False)) M s0 s1 (((s2 - (1 : Int32))).toInt64)
set_option maxRecDepth 100000 in
set_option maxHeartbeats 4000000 in
theorem x_X7_log_28 {G : Gx} {K : Rs → Mm → Prop}  {M : Mm} {l0 : Nat} {l1 : Int32} {l2 : Int32} {s0 : Int64} {s1 : Int64} {s2 : Int32} (h : V_X7_log_28 K  M l0 l1 l2 s0 s1 s2) : E G mi_X7_log K M 0 0 28 [some (.ref l0), some (.int l1), some (.int l2)] [.int s2, .long s1, .long s0] := by
  unfold V_X7_log_28 at h
  refine e_blk 3 28 _ _ (pc' := 31) (L' := [some (.ref l0), some (.int l1), some (.int l2)]) (st' := [.long (((s2 - (1 : Int32))).toInt64), .long s1, .long s0]) rfl ?_
  refine e_callS (As := [.long s0, .long s1, .long (((s2 - (1 : Int32))).toInt64)]) (rest := []) rfl (x_X7_in h) rfl (aw (i := 1256) (by decide +kernel) rfl) ws_X7_in wi_X7_in wc_X7_in (show cok mi_X7_log mi_X7_in 0 0 3 = true by decide +kernel) (Nat.le_of_ble_eq_true rfl) (fun v9 M1 hq => ?_) (fun X M9 hq => False.elim hq)
  obtain ⟨r2, rfl, h⟩ := kI_l hq
  refine e_if_ne 43 rfl rfl (fun hc => ?_) (fun hc => ?_)
  · replace h := h.1 hc
    refine e_blk 1 43 _ _ (pc' := 44) (L' := [some (.ref l0), some (.int l1), some (.int l2)]) (st' := [.int l2]) rfl ?_
    by_cases hs3 : (l2).toInt < 0 ∨ 3 < (l2).toInt
    · replace h := h.1 hs3
      refine e_swO 104 rfl hs3 rfl ?_
      refine e_blk 2 104 _ _ (pc' := 106) (L' := [some (.ref l0), some (.int l1), some (.int l2)]) (st' := [.int (2 : Int32), .ref l0]) rfl ?_
      obtain ⟨ho4, h⟩ := h
      refine e_callV (As := [.int (2 : Int32)]) (rest := []) (ci := 7) rfl (x_X7_wrong h) ho4 rfl rfl rfl (aw (i := 1265) (by decide +kernel) rfl) wn_X7_wrong wv_X7_wrong wi_X7_wrong wc_X7_wrong (show cok mi_X7_log mi_X7_wrong 0 0 1 = true by decide +kernel) (Nat.le_of_ble_eq_true rfl) (fun v9 M5 hq => ?_) (fun X M9 hq => False.elim hq)
      obtain ⟨r6, rfl, h⟩ := kI_l hq
      exact e_reti rfl rfl (by decide) (by decide) h
    replace h := h.2
    by_cases he7 : l2 = 0
    · replace h := h.1 he7
      refine e_swI (32) 76 rfl (fun q => hs3 (Or.inl q)) (fun q => hs3 (Or.inr q)) (by rw [he7]; decide) rfl ?_
      refine e_blk 1 76 _ _ (pc' := 77) (L' := [some (.ref l0), some (.int l1), some (.int l2)]) (st' := [.ref l0]) rfl ?_
      obtain ⟨ho8, h⟩ := h
      obtain ⟨b9, hbb9, h⟩ := h
      refine e_getR 7 56 rfl rfl (by decide) (aw (i := 1121) (by decide +kernel) rfl) ho8 rfl hbb9 ?_
      refine e_blk 1 80 _ _ (pc' := 81) (L' := [some (.ref l0), some (.int l1), some (.int l2)]) (st' := [.int l1, .ref b9]) rfl ?_
      obtain ⟨ho10, h⟩ := h
      obtain ⟨hi11, h⟩ := h
      refine e_iald rfl ho10 hi11 ?_
      exact e_reti rfl rfl (by decide) (by decide) h
    replace h := h.2
    by_cases he12 : l2 = 1
    · replace h := h.1 he12
      refine e_swI (39) 83 rfl (fun q => hs3 (Or.inl q)) (fun q => hs3 (Or.inr q)) (by rw [he12]; decide) rfl ?_
      refine e_blk 1 83 _ _ (pc' := 84) (L' := [some (.ref l0), some (.int l1), some (.int l2)]) (st' := [.ref l0]) rfl ?_
      obtain ⟨ho13, h⟩ := h
      obtain ⟨b14, hbb14, h⟩ := h
      refine e_getR 7 57 rfl rfl (by decide) (aw (i := 1122) (by decide +kernel) rfl) ho13 rfl hbb14 ?_
      refine e_blk 1 87 _ _ (pc' := 88) (L' := [some (.ref l0), some (.int l1), some (.int l2)]) (st' := [.int l1, .ref b14]) rfl ?_
      obtain ⟨ho15, h⟩ := h
      obtain ⟨hi16, h⟩ := h
      refine e_iald rfl ho15 hi16 ?_
      exact e_reti rfl rfl (by decide) (by decide) h
    replace h := h.2
    by_cases he17 : l2 = 2
    · replace h := h.1 he17
      refine e_swI (46) 90 rfl (fun q => hs3 (Or.inl q)) (fun q => hs3 (Or.inr q)) (by rw [he17]; decide) rfl ?_
      refine e_blk 1 90 _ _ (pc' := 91) (L' := [some (.ref l0), some (.int l1), some (.int l2)]) (st' := [.ref l0]) rfl ?_
      obtain ⟨ho18, h⟩ := h
      obtain ⟨b19, hbb19, h⟩ := h
      refine e_getR 7 58 rfl rfl (by decide) (aw (i := 1123) (by decide +kernel) rfl) ho18 rfl hbb19 ?_
      refine e_blk 1 94 _ _ (pc' := 95) (L' := [some (.ref l0), some (.int l1), some (.int l2)]) (st' := [.int l1, .ref b19]) rfl ?_
      obtain ⟨ho20, h⟩ := h
      obtain ⟨hi21, h⟩ := h
      refine e_iald rfl ho20 hi21 ?_
      exact e_reti rfl rfl (by decide) (by decide) h
    replace h := h.2
    by_cases he22 : l2 = 3
    · replace h := h.1 he22
      refine e_swI (53) 97 rfl (fun q => hs3 (Or.inl q)) (fun q => hs3 (Or.inr q)) (by rw [he22]; decide) rfl ?_
      refine e_blk 1 97 _ _ (pc' := 98) (L' := [some (.ref l0), some (.int l1), some (.int l2)]) (st' := [.ref l0]) rfl ?_
      obtain ⟨ho23, h⟩ := h
      obtain ⟨b24, hbb24, h⟩ := h
      refine e_getR 7 59 rfl rfl (by decide) (aw (i := 1124) (by decide +kernel) rfl) ho23 rfl hbb24 ?_
      refine e_blk 1 101 _ _ (pc' := 102) (L' := [some (.ref l0), some (.int l1), some (.int l2)]) (st' := [.int l1, .ref b24]) rfl ?_
      obtain ⟨ho25, h⟩ := h
      obtain ⟨hi26, h⟩ := h
      refine e_iald rfl ho25 hi26 ?_
      exact e_reti rfl rfl (by decide) (by decide) h
    replace h := h.2
    exfalso
    have the7 : (l2).toInt ≠ 0 := fun q => he7 (Int32.toInt_inj.mp (q.trans (by decide)))
    have the12 : (l2).toInt ≠ 1 := fun q => he12 (Int32.toInt_inj.mp (q.trans (by decide)))
    have the17 : (l2).toInt ≠ 2 := fun q => he17 (Int32.toInt_inj.mp (q.trans (by decide)))
    have the22 : (l2).toInt ≠ 3 := fun q => he22 (Int32.toInt_inj.mp (q.trans (by decide)))
    omega
  · replace h := h.2 hc
    refine e_blk 2 37 _ _ (pc' := 39) (L' := [some (.ref l0), some (.int l1), some (.int l2)]) (st' := [.int (1 : Int32), .ref l0]) rfl ?_
    obtain ⟨ho27, h⟩ := h
    refine e_callV (As := [.int (1 : Int32)]) (rest := []) (ci := 7) rfl (x_X7_wrong h) ho27 rfl rfl rfl (aw (i := 1265) (by decide +kernel) rfl) wn_X7_wrong wv_X7_wrong wi_X7_wrong wc_X7_wrong (show cok mi_X7_log mi_X7_wrong 0 0 1 = true by decide +kernel) (Nat.le_of_ble_eq_true rfl) (fun v9 M28 hq => ?_) (fun X M9 hq => False.elim hq)
    obtain ⟨r29, rfl, h⟩ := kI_l hq
    exact e_reti rfl rfl (by decide) (by decide) h
def V_X7_log (K : Rs → Mm → Prop) (M : Mm) (a0 : Nat) (a1 : Int32) (a2 : Int32) : Prop := (ob M a0 7 ∧ ∀ M2, M2 = sI M a0 0 (0 : Int32) → (((300 : Int32) ≤ (mI M2 a0 55) → V_X7_log_28 K  M2 a0 a1 a2 ((a1).toInt64) (0 : Int64) (300 : Int32)) ∧ (¬ (300 : Int32) ≤ (mI M2 a0 55) → V_X7_log_28 K  M2 a0 a1 a2 ((a1).toInt64) (0 : Int64) (mI M2 a0 55))))
set_option maxRecDepth 100000 in
set_option maxHeartbeats 4000000 in
theorem x_X7_log {G : Gx} {K : Rs → Mm → Prop} {M : Mm} {a0 : Nat} {a1 : Int32} {a2 : Int32} (h : V_X7_log K M a0 a1 a2) : MC G mi_X7_log [.ref a0, .int a1, .int a2] M K := by
  unfold V_X7_log at h
  refine mc_of rfl (by decide +kernel) dc_X7_log (Nat.le_of_ble_eq_true rfl) 0 (Nat.le_of_ble_eq_true rfl) ?_
  show E G mi_X7_log K M 0 0 0 [some (.ref a0), some (.int a1), some (.int a2)] []
  refine e_blk 2 0 _ _ (pc' := 2) (L' := [some (.ref a0), some (.int a1), some (.int a2)]) (st' := [.int (0 : Int32), .ref a0]) rfl ?_
  obtain ⟨ho1, h⟩ := h
  refine e_putI 7 0 rfl rfl (by decide) (aw (i := 1065) (by decide +kernel) rfl) rfl ho1 rfl ?_
  generalize hM2 : sI M a0 0 (0 : Int32) = M2
  replace h := h M2 hM2.symm
  replace ho1 : ob M2 a0 7 := hM2 ▸ ob_sI ho1
  refine e_blk 4 5 _ _ (pc' := 9) (L' := [some (.ref a0), some (.int a1), some (.int a2)]) (st' := [.ref a0, .long (0 : Int64), .long ((a1).toInt64)]) rfl ?_
  refine e_getI 7 55 rfl rfl (by decide) (aw (i := 1120) (by decide +kernel) rfl) ho1 rfl ?_
  refine e_blk 1 12 _ _ (pc' := 15) (L' := [some (.ref a0), some (.int a1), some (.int a2)]) (st' := [.int (300 : Int32), .int (mI M2 a0 55), .long (0 : Int64), .long ((a1).toInt64)]) rfl ?_
  refine e_icmp_ge 25 rfl rfl (fun hc => ?_) (fun hc => ?_)
  · replace h := h.1 hc
    refine e_blk 1 25 _ _ (pc' := 28) (L' := [some (.ref a0), some (.int a1), some (.int a2)]) (st' := [.int (300 : Int32), .long (0 : Int64), .long ((a1).toInt64)]) rfl ?_
    refine e_drp [true, true, true] (L' := [some (.ref a0), some (.int a1), some (.int a2)]) rfl ?_
    exact x_X7_log_28  h
  · replace h := h.2 hc
    refine e_blk 1 18 _ _ (pc' := 19) (L' := [some (.ref a0), some (.int a1), some (.int a2)]) (st' := [.ref a0, .long (0 : Int64), .long ((a1).toInt64)]) rfl ?_
    refine e_getI 7 55 rfl rfl (by decide) (aw (i := 1120) (by decide +kernel) rfl) ho1 rfl ?_
    refine e_blk 1 22 _ _ (pc' := 28) (L' := [some (.ref a0), some (.int a1), some (.int a2)]) (st' := [.int (mI M2 a0 55), .long (0 : Int64), .long ((a1).toInt64)]) rfl ?_
    refine e_drp [true, true, true] (L' := [some (.ref a0), some (.int a1), some (.int a2)]) rfl ?_
    exact x_X7_log_28  h
def V_X7_tear (K : Rs → Mm → Prop) (M : Mm) (a0 : Nat) : Prop := (ob M a0 7 ∧ ∀ M2, M2 = sI M a0 0 (0 : Int32) → ∀ x3 : Int32, x3 = (mI M2 a0 55) → ∀ M4, M4 = sI M2 a0 55 (0 : Int32) → K (.inl (some (.int x3))) M4)
set_option maxRecDepth 100000 in
set_option maxHeartbeats 4000000 in
theorem x_X7_tear {G : Gx} {K : Rs → Mm → Prop} {M : Mm} {a0 : Nat} (h : V_X7_tear K M a0) : MC G mi_X7_tear [.ref a0] M K := by
  unfold V_X7_tear at h
  refine mc_of rfl (by decide +kernel) dc_X7_tear (Nat.le_of_ble_eq_true rfl) 1 (Nat.le_of_ble_eq_true rfl) ?_
  show E G mi_X7_tear K M 0 0 0 [some (.ref a0), none] []
  refine e_blk 2 0 _ _ (pc' := 2) (L' := [some (.ref a0), none]) (st' := [.int (0 : Int32), .ref a0]) rfl ?_
  obtain ⟨ho1, h⟩ := h
  refine e_putI 7 0 rfl rfl (by decide) (aw (i := 1065) (by decide +kernel) rfl) rfl ho1 rfl ?_
  generalize hM2 : sI M a0 0 (0 : Int32) = M2
  replace h := h M2 hM2.symm
  replace ho1 : ob M2 a0 7 := hM2 ▸ ob_sI ho1
  refine e_blk 1 5 _ _ (pc' := 6) (L' := [some (.ref a0), none]) (st' := [.ref a0]) rfl ?_
  refine e_getI 7 55 rfl rfl (by decide) (aw (i := 1120) (by decide +kernel) rfl) ho1 rfl ?_
  refine e_blk 3 9 _ _ (pc' := 12) (L' := [some (.ref a0), some (.int (mI M2 a0 55))]) (st' := [.int (0 : Int32), .ref a0]) rfl ?_
  generalize hx_x3 : ((mI M2 a0 55) : Int32) = x3
  replace h := h x3 hx_x3.symm
  refine e_putI 7 55 rfl rfl (by decide) (aw (i := 1120) (by decide +kernel) rfl) rfl ho1 rfl ?_
  generalize hM4 : sI M2 a0 55 (0 : Int32) = M4
  replace h := h M4 hM4.symm
  replace ho1 : ob M4 a0 7 := hM4 ▸ ob_sI ho1
  refine e_blk 1 15 _ _ (pc' := 16) (L' := [some (.ref a0), some (.int x3)]) (st' := [.int x3]) rfl ?_
  exact e_reti rfl rfl (by decide) (by decide) h
def V_X7_count_61 (K : Rs → Mm → Prop)  (M : Mm) (s0 : Int32) : Prop := K (.inl (some (.int s0))) M
set_option maxRecDepth 100000 in
set_option maxHeartbeats 4000000 in
theorem x_X7_count_61 {G : Gx} {K : Rs → Mm → Prop}  {M : Mm} {s0 : Int32} (h : V_X7_count_61 K  M s0) : E G mi_X7_count K M 0 0 61 [none, none] [.int s0] := by
  unfold V_X7_count_61 at h
  exact e_reti rfl rfl (by decide) (by decide) h
def V_X7_count (K : Rs → Mm → Prop) (M : Mm) (a0 : Nat) (a1 : Int32) : Prop := (ob M a0 7 ∧ ∀ M2, M2 = sI M a0 0 (0 : Int32) → ((((a1).toInt < 0 ∨ 5 < (a1).toInt) → V_X7_wrong (kI (fun r5 M4 => K (.inl (some (.int r5))) M4) (fun _ _ => False)) M2 a0 (1 : Int32)) ∧ ((a1 = 0 → K (.inl (some (.int (mI M2 a0 52)))) M2) ∧ ((a1 = 1 → (((mI M2 a0 53) = 0 → V_X7_count_61 K  M2 (1 : Int32)) ∧ (¬ (mI M2 a0 53) = 0 → V_X7_count_61 K  M2 (0 : Int32)))) ∧ ((a1 = 2 → V_X7_orders (kI (fun r10 M9 => K (.inl (some (.int r10))) M9) (fun _ _ => False)) M2 a0) ∧ ((a1 = 3 → K (.inl (some (.int (mI M2 a0 55)))) M2) ∧ ((a1 = 4 → K (.inl (some (.int (mI M2 a0 11)))) M2) ∧ ((a1 = 5 → K (.inl (some (.int (mI M2 a0 45)))) M2) ∧ True))))))))
set_option maxRecDepth 100000 in
set_option maxHeartbeats 4000000 in
theorem x_X7_count {G : Gx} {K : Rs → Mm → Prop} {M : Mm} {a0 : Nat} {a1 : Int32} (h : V_X7_count K M a0 a1) : MC G mi_X7_count [.ref a0, .int a1] M K := by
  unfold V_X7_count at h
  refine mc_of rfl (by decide +kernel) dc_X7_count (Nat.le_of_ble_eq_true rfl) 0 (Nat.le_of_ble_eq_true rfl) ?_
  show E G mi_X7_count K M 0 0 0 [some (.ref a0), some (.int a1)] []
  refine e_blk 2 0 _ _ (pc' := 2) (L' := [some (.ref a0), some (.int a1)]) (st' := [.int (0 : Int32), .ref a0]) rfl ?_
  obtain ⟨ho1, h⟩ := h
  refine e_putI 7 0 rfl rfl (by decide) (aw (i := 1065) (by decide +kernel) rfl) rfl ho1 rfl ?_
  generalize hM2 : sI M a0 0 (0 : Int32) = M2
  replace h := h M2 hM2.symm
  replace ho1 : ob M2 a0 7 := hM2 ▸ ob_sI ho1
  refine e_blk 1 5 _ _ (pc' := 6) (L' := [some (.ref a0), some (.int a1)]) (st' := [.int a1]) rfl ?_
  by_cases hs3 : (a1).toInt < 0 ∨ 5 < (a1).toInt
  · replace h := h.1 hs3
    refine e_swO 82 rfl hs3 rfl ?_
    refine e_blk 2 82 _ _ (pc' := 84) (L' := [some (.ref a0), some (.int a1)]) (st' := [.int (1 : Int32), .ref a0]) rfl ?_
    refine e_callV (As := [.int (1 : Int32)]) (rest := []) (ci := 7) rfl (x_X7_wrong h) ho1 rfl rfl rfl (aw (i := 1265) (by decide +kernel) rfl) wn_X7_wrong wv_X7_wrong wi_X7_wrong wc_X7_wrong (show cok mi_X7_count mi_X7_wrong 0 0 1 = true by decide +kernel) (Nat.le_of_ble_eq_true rfl) (fun v9 M4 hq => ?_) (fun X M9 hq => False.elim hq)
    obtain ⟨r5, rfl, h⟩ := kI_l hq
    exact e_reti rfl rfl (by decide) (by decide) h
  replace h := h.2
  by_cases he6 : a1 = 0
  · replace h := h.1 he6
    refine e_swI (38) 44 rfl (fun q => hs3 (Or.inl q)) (fun q => hs3 (Or.inr q)) (by rw [he6]; decide) rfl ?_
    refine e_blk 1 44 _ _ (pc' := 45) (L' := [some (.ref a0), some (.int a1)]) (st' := [.ref a0]) rfl ?_
    refine e_getI 7 52 rfl rfl (by decide) (aw (i := 1117) (by decide +kernel) rfl) ho1 rfl ?_
    exact e_reti rfl rfl (by decide) (by decide) h
  replace h := h.2
  by_cases he7 : a1 = 1
  · replace h := h.1 he7
    refine e_swI (43) 49 rfl (fun q => hs3 (Or.inl q)) (fun q => hs3 (Or.inr q)) (by rw [he7]; decide) rfl ?_
    refine e_blk 1 49 _ _ (pc' := 50) (L' := [some (.ref a0), some (.int a1)]) (st' := [.ref a0]) rfl ?_
    refine e_getI 7 53 rfl rfl (by decide) (aw (i := 1118) (by decide +kernel) rfl) ho1 rfl ?_
    refine e_if_eq 60 rfl rfl (fun hc => ?_) (fun hc => ?_)
    · replace h := h.1 hc
      refine e_blk 1 60 _ _ (pc' := 61) (L' := [some (.ref a0), some (.int a1)]) (st' := [.int (1 : Int32)]) rfl ?_
      refine e_drp [false, false] (L' := [none, none]) rfl ?_
      exact x_X7_count_61  h
    · replace h := h.2 hc
      refine e_blk 2 56 _ _ (pc' := 61) (L' := [some (.ref a0), some (.int a1)]) (st' := [.int (0 : Int32)]) rfl ?_
      refine e_drp [false, false] (L' := [none, none]) rfl ?_
      exact x_X7_count_61  h
  replace h := h.2
  by_cases he8 : a1 = 2
  · replace h := h.1 he8
    refine e_swI (56) 62 rfl (fun q => hs3 (Or.inl q)) (fun q => hs3 (Or.inr q)) (by rw [he8]; decide) rfl ?_
    refine e_blk 1 62 _ _ (pc' := 63) (L' := [some (.ref a0), some (.int a1)]) (st' := [.ref a0]) rfl ?_
    refine e_callV (As := []) (rest := []) (ci := 7) rfl (x_X7_orders h) ho1 rfl rfl rfl (aw (i := 1458) (by decide +kernel) rfl) wn_X7_orders wv_X7_orders wi_X7_orders wc_X7_orders (show cok mi_X7_count mi_X7_orders 0 0 0 = true by decide +kernel) (Nat.le_of_ble_eq_true rfl) (fun v9 M9 hq => ?_) (fun X M9 hq => False.elim hq)
    obtain ⟨r10, rfl, h⟩ := kI_l hq
    exact e_reti rfl rfl (by decide) (by decide) h
  replace h := h.2
  by_cases he11 : a1 = 3
  · replace h := h.1 he11
    refine e_swI (61) 67 rfl (fun q => hs3 (Or.inl q)) (fun q => hs3 (Or.inr q)) (by rw [he11]; decide) rfl ?_
    refine e_blk 1 67 _ _ (pc' := 68) (L' := [some (.ref a0), some (.int a1)]) (st' := [.ref a0]) rfl ?_
    refine e_getI 7 55 rfl rfl (by decide) (aw (i := 1120) (by decide +kernel) rfl) ho1 rfl ?_
    exact e_reti rfl rfl (by decide) (by decide) h
  replace h := h.2
  by_cases he12 : a1 = 4
  · replace h := h.1 he12
    refine e_swI (66) 72 rfl (fun q => hs3 (Or.inl q)) (fun q => hs3 (Or.inr q)) (by rw [he12]; decide) rfl ?_
    refine e_blk 1 72 _ _ (pc' := 73) (L' := [some (.ref a0), some (.int a1)]) (st' := [.ref a0]) rfl ?_
    refine e_getI 7 11 rfl rfl (by decide) (aw (i := 1076) (by decide +kernel) rfl) ho1 rfl ?_
    exact e_reti rfl rfl (by decide) (by decide) h
  replace h := h.2
  by_cases he13 : a1 = 5
  · replace h := h.1 he13
    refine e_swI (71) 77 rfl (fun q => hs3 (Or.inl q)) (fun q => hs3 (Or.inr q)) (by rw [he13]; decide) rfl ?_
    refine e_blk 1 77 _ _ (pc' := 78) (L' := [some (.ref a0), some (.int a1)]) (st' := [.ref a0]) rfl ?_
    refine e_getI 7 45 rfl rfl (by decide) (aw (i := 1110) (by decide +kernel) rfl) ho1 rfl ?_
    exact e_reti rfl rfl (by decide) (by decide) h
  replace h := h.2
  exfalso
  have the6 : (a1).toInt ≠ 0 := fun q => he6 (Int32.toInt_inj.mp (q.trans (by decide)))
  have the7 : (a1).toInt ≠ 1 := fun q => he7 (Int32.toInt_inj.mp (q.trans (by decide)))
  have the8 : (a1).toInt ≠ 2 := fun q => he8 (Int32.toInt_inj.mp (q.trans (by decide)))
  have the11 : (a1).toInt ≠ 3 := fun q => he11 (Int32.toInt_inj.mp (q.trans (by decide)))
  have the12 : (a1).toInt ≠ 4 := fun q => he12 (Int32.toInt_inj.mp (q.trans (by decide)))
  have the13 : (a1).toInt ≠ 5 := fun q => he13 (Int32.toInt_inj.mp (q.trans (by decide)))
  omega
