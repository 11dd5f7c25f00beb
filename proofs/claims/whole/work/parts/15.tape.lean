def is_X4_add : List (Instr × Nat) := [(.aload_n 0, 1), (.getfield 22, 3), (.sipush 160, 3), (.if_icmp .ge 23, 3), (.aload_n 0, 1), (.getfield 9, 3), (.aload_n 0, 1), (.getfield 22, 3), (.iload_n 1, 1), (.iastore, 1), (.aload_n 0, 1), (.dup, 1), (.getfield 22, 3), (.iconst 1, 1), (.iadd, 1), (.putfield 22, 3), (.return_, 1)]
abbrev mi_X4_add : MI := (yX4_add, cX4_add, 2, none, [], { frames := 0, cells := 0, slots := 0, locals := 0 }, is_X4_add)
theorem dc_X4_add : dcb cX4_add is_X4_add 0 = true := by decide +kernel
theorem wc_X4_add : cdw mi_X4_add ∈ ALLW := aw (i := 585) (by decide +kernel) rfl
theorem wi_X4_add : Cond.initialized (miY mi_X4_add).cls ∈ ALLW := aw (i := 59) (by decide +kernel) rfl
theorem wn_X4_add : Cond.instanceMethod (miY mi_X4_add) ∈ ALLW := aw (i := 583) (by decide +kernel) rfl
theorem wv_X4_add : Cond.selects (miY mi_X4_add).cls (miY mi_X4_add) (miY mi_X4_add) ∈ ALLW := aw (i := 584) (by decide +kernel) rfl
def is_X4_look : List (Instr × Nat) := [(.aload_n 0, 1), (.getfield 29, 3), (.aload_n 0, 1), (.getfield 22, 3), (.if_icmp .ge 25, 3), (.aload_n 0, 1), (.getfield 29, 3), (.sipush 160, 3), (.if_icmp .ge 15, 3), (.aload_n 0, 1), (.getfield 9, 3), (.aload_n 0, 1), (.getfield 29, 3), (.iaload, 1), (.goto 4, 3), (.iconst (-1), 1), (.ireturn, 1)]
abbrev mi_X4_look : MI := (yX4_look, cX4_look, 1, (some .int), [], { frames := 0, cells := 0, slots := 0, locals := 0 }, is_X4_look)
theorem dc_X4_look : dcb cX4_look is_X4_look 0 = true := by decide +kernel
theorem wc_X4_look : cdw mi_X4_look ∈ ALLW := aw (i := 616) (by decide +kernel) rfl
theorem wi_X4_look : Cond.initialized (miY mi_X4_look).cls ∈ ALLW := aw (i := 59) (by decide +kernel) rfl
theorem wn_X4_look : Cond.instanceMethod (miY mi_X4_look) ∈ ALLW := aw (i := 614) (by decide +kernel) rfl
theorem wv_X4_look : Cond.selects (miY mi_X4_look).cls (miY mi_X4_look) (miY mi_X4_look) ∈ ALLW := aw (i := 615) (by decide +kernel) rfl
def is_X4_skipBlanks : List (Instr × Nat) := [(.iconst 0, 1), (.istore_n 1, 1), (.iload_n 1, 1), (.sipush 160, 3), (.if_icmp .ge 28, 3), (.aload_n 0, 1), (.invokevirtual 41, 3), (.bipush 32, 2), (.if_icmp .ne 19, 3), (.aload_n 0, 1), (.dup, 1), (.getfield 29, 3), (.iconst 1, 1), (.iadd, 1), (.putfield 29, 3), (.iinc 1 1, 3), (.goto (-29), 3), (.return_, 1)]
abbrev mi_X4_skipBlanks : MI := (yX4_skipBlanks, cX4_skipBlanks, 2, none, [], { frames := 1, cells := 0, slots := 0, locals := 20 }, is_X4_skipBlanks)
theorem dc_X4_skipBlanks : dcb cX4_skipBlanks is_X4_skipBlanks 0 = true := by decide +kernel
theorem wc_X4_skipBlanks : cdw mi_X4_skipBlanks ∈ ALLW := aw (i := 612) (by decide +kernel) rfl
theorem wi_X4_skipBlanks : Cond.initialized (miY mi_X4_skipBlanks).cls ∈ ALLW := aw (i := 59) (by decide +kernel) rfl
theorem wn_X4_skipBlanks : Cond.instanceMethod (miY mi_X4_skipBlanks) ∈ ALLW := aw (i := 610) (by decide +kernel) rfl
theorem wv_X4_skipBlanks : Cond.selects (miY mi_X4_skipBlanks).cls (miY mi_X4_skipBlanks) (miY mi_X4_skipBlanks) ∈ ALLW := aw (i := 611) (by decide +kernel) rfl
def is_X4_fail : List (Instr × Nat) := [(.aload_n 0, 1), (.getfield 32, 3), (.ifCond .ne 13, 3), (.aload_n 0, 1), (.iload_n 1, 1), (.putfield 32, 3), (.aload_n 0, 1), (.iload_n 2, 1), (.putfield 35, 3), (.return_, 1)]
abbrev mi_X4_fail : MI := (yX4_fail, cX4_fail, 3, none, [], { frames := 0, cells := 0, slots := 0, locals := 0 }, is_X4_fail)
theorem dc_X4_fail : dcb cX4_fail is_X4_fail 0 = true := by decide +kernel
theorem wc_X4_fail : cdw mi_X4_fail ∈ ALLW := aw (i := 680) (by decide +kernel) rfl
theorem wi_X4_fail : Cond.initialized (miY mi_X4_fail).cls ∈ ALLW := aw (i := 59) (by decide +kernel) rfl
theorem wn_X4_fail : Cond.instanceMethod (miY mi_X4_fail) ∈ ALLW := aw (i := 678) (by decide +kernel) rfl
theorem wv_X4_fail : Cond.selects (miY mi_X4_fail).cls (miY mi_X4_fail) (miY mi_X4_fail) ∈ ALLW := aw (i := 679) (by decide +kernel) rfl
def is_X4_readWord : List (Instr × Nat) := [(.aload_n 0, 1), (.dup, 1), (.getfield 29, 3), (.iconst 1, 1), (.iadd, 1), (.putfield 29, 3), (.aload_n 0, 1), (.invokevirtual 41, 3), (.istore_n 1, 1), (.iload_n 1, 1), (.invokestatic 56, 3), (.astore_n 2, 1), (.iconst 0, 1), (.istore_n 3, 1), (.iload_n 3, 1), (.aload_n 2, 1), (.invokevirtual 60, 3), (.if_icmp .ge 41, 3), (.aload_n 0, 1), (.invokevirtual 41, 3), (.aload_n 2, 1), (.iload_n 3, 1), (.invokevirtual 64, 3), (.if_icmp .eq 13, 3), (.aload_n 0, 1), (.iconst 1, 1), (.aload_n 0, 1), (.getfield 29, 3), (.invokevirtual 52, 3), (.return_, 1), (.aload_n 0, 1), (.dup, 1), (.getfield 29, 3), (.iconst 1, 1), (.iadd, 1), (.putfield 29, 3), (.iinc 3 1, 3), (.goto (-43), 3), (.aload_n 0, 1), (.getfield 18, 3), (.iconst 0, 1), (.iconst 0, 1), (.iconst 0, 1), (.iconst 1, 1), (.invokevirtual 68, 3), (.aload_n 0, 1), (.getfield 18, 3), (.iconst 1, 1), (.iconst 0, 1), (.iload_n 1, 1), (.bipush 104, 2), (.if_icmp .ne 8, 3), (.bipush 23, 2), (.goto 4, 3), (.iconst 0, 1), (.iconst 1, 1), (.invokevirtual 68, 3), (.aload_n 0, 1), (.getfield 18, 3), (.iload_n 1, 1), (.bipush 109, 2), (.if_icmp .eq 13, 3), (.iload_n 1, 1), (.bipush 121, 2), (.if_icmp .eq 7, 3), (.iconst 1, 1), (.goto 4, 3), (.iconst 0, 1), (.putfield 72, 3), (.aload_n 0, 1), (.getfield 18, 3), (.iconst 2, 1), (.iconst 1, 1), (.aload_n 0, 1), (.getfield 18, 3), (.getfield 72, 3), (.ifCond .eq 8, 3), (.bipush 31, 2), (.goto 4, 3), (.iconst 1, 1), (.iconst 1, 1), (.invokevirtual 68, 3), (.aload_n 0, 1), (.getfield 18, 3), (.iconst 3, 1), (.iconst 1, 1), (.iload_n 1, 1), (.bipush 121, 2), (.if_icmp .ne 7, 3), (.iconst 1, 1), (.goto 5, 3), (.bipush 12, 2), (.iconst 1, 1), (.invokevirtual 68, 3), (.aload_n 0, 1), (.getfield 18, 3), (.iload_n 1, 1), (.bipush 119, 2), (.if_icmp .eq 7, 3), (.iconst 1, 1), (.goto 4, 3), (.iconst 0, 1), (.putfield 76, 3), (.aload_n 0, 1), (.getfield 18, 3), (.iconst 4, 1), (.iconst 0, 1), (.aload_n 0, 1), (.getfield 18, 3), (.getfield 76, 3), (.ifCond .eq 8, 3), (.bipush 6, 2), (.goto 4, 3), (.iconst 0, 1), (.iconst 1, 1), (.invokevirtual 68, 3), (.return_, 1)]
abbrev mi_X4_readWord : MI := (yX4_readWord, cX4_readWord, 4, none, [], { frames := 5, cells := 0, slots := 0, locals := 106 }, is_X4_readWord)
theorem dc_X4_readWord : dcb cX4_readWord is_X4_readWord 0 = true := by decide +kernel
theorem wc_X4_readWord : cdw mi_X4_readWord ∈ ALLW := aw (i := 620) (by decide +kernel) rfl
theorem wi_X4_readWord : Cond.initialized (miY mi_X4_readWord).cls ∈ ALLW := aw (i := 59) (by decide +kernel) rfl
theorem wn_X4_readWord : Cond.instanceMethod (miY mi_X4_readWord) ∈ ALLW := aw (i := 618) (by decide +kernel) rfl
theorem wv_X4_readWord : Cond.selects (miY mi_X4_readWord).cls (miY mi_X4_readWord) (miY mi_X4_readWord) ∈ ALLW := aw (i := 619) (by decide +kernel) rfl
def is_X4_readNumber : List (Instr × Nat) := [(.aload_n 0, 1), (.getfield 29, 3), (.istore 4, 2), (.iconst 0, 1), (.istore 5, 2), (.iconst 0, 1), (.istore 6, 2), (.iload 6, 2), (.iload_n 1, 1), (.if_icmp .ge 52, 3), (.aload_n 0, 1), (.invokevirtual 41, 3), (.bipush 48, 2), (.if_icmp .lt 43, 3), (.aload_n 0, 1), (.invokevirtual 41, 3), (.bipush 57, 2), (.if_icmp .gt 34, 3), (.iload 5, 2), (.bipush 10, 2), (.imul, 1), (.aload_n 0, 1), (.invokevirtual 41, 3), (.iadd, 1), (.bipush 48, 2), (.isub, 1), (.istore 5, 2), (.aload_n 0, 1), (.dup, 1), (.getfield 29, 3), (.iconst 1, 1), (.iadd, 1), (.putfield 29, 3), (.iinc 6 1, 3), (.goto (-52), 3), (.aload_n 0, 1), (.invokevirtual 41, 3), (.bipush 48, 2), (.if_icmp .lt 16, 3), (.aload_n 0, 1), (.invokevirtual 41, 3), (.bipush 57, 2), (.if_icmp .gt 7, 3), (.iconst 1, 1), (.goto 4, 3), (.iconst 0, 1), (.istore 6, 2), (.aload_n 0, 1), (.getfield 29, 3), (.iload 4, 2), (.if_icmp .eq 8, 3), (.iload 6, 2), (.ifCond .eq 15, 3), (.aload_n 0, 1), (.iconst 1, 1), (.aload_n 0, 1), (.getfield 29, 3), (.invokevirtual 52, 3), (.goto 22, 3), (.iload 5, 2), (.iload_n 2, 1), (.if_icmp .lt 9, 3), (.iload 5, 2), (.iload_n 3, 1), (.if_icmp .le 10, 3), (.aload_n 0, 1), (.iconst 2, 1), (.iload 4, 2), (.invokevirtual 52, 3), (.iload 5, 2), (.ireturn, 1)]
abbrev mi_X4_readNumber : MI := (yX4_readNumber, cX4_readNumber, 7, (some .int), [], { frames := 1, cells := 0, slots := 0, locals := 22 }, is_X4_readNumber)
theorem dc_X4_readNumber : dcb cX4_readNumber is_X4_readNumber 0 = true := by decide +kernel
theorem wc_X4_readNumber : cdw mi_X4_readNumber ∈ ALLW := aw (i := 708) (by decide +kernel) rfl
theorem wi_X4_readNumber : Cond.initialized (miY mi_X4_readNumber).cls ∈ ALLW := aw (i := 59) (by decide +kernel) rfl
theorem wn_X4_readNumber : Cond.instanceMethod (miY mi_X4_readNumber) ∈ ALLW := aw (i := 706) (by decide +kernel) rfl
theorem wv_X4_readNumber : Cond.selects (miY mi_X4_readNumber).cls (miY mi_X4_readNumber) (miY mi_X4_readNumber) ∈ ALLW := aw (i := 707) (by decide +kernel) rfl
def is_X4_addStretch : List (Instr × Nat) := [(.iconst 1, 1), (.istore 4, 2), (.aload_n 0, 1), (.getfield 32, 3), (.ifCond .ne 33, 3), (.aload_n 0, 1), (.invokevirtual 41, 3), (.bipush 47, 2), (.if_icmp .ne 24, 3), (.aload_n 0, 1), (.dup, 1), (.getfield 29, 3), (.iconst 1, 1), (.iadd, 1), (.putfield 29, 3), (.aload_n 0, 1), (.iconst 4, 1), (.iconst 1, 1), (.sipush 1000, 3), (.invokevirtual 126, 3), (.istore 4, 2), (.aload_n 0, 1), (.getfield 32, 3), (.ifCond .ne 15, 3), (.aload_n 0, 1), (.getfield 18, 3), (.iload_n 1, 1), (.iload_n 2, 1), (.iload_n 3, 1), (.iload 4, 2), (.invokevirtual 68, 3), (.return_, 1)]
abbrev mi_X4_addStretch : MI := (yX4_addStretch, cX4_addStretch, 5, none, [], { frames := 2, cells := 0, slots := 0, locals := 48 }, is_X4_addStretch)
theorem dc_X4_addStretch : dcb cX4_addStretch is_X4_addStretch 0 = true := by decide +kernel
theorem wc_X4_addStretch : cdw mi_X4_addStretch ∈ ALLW := aw (i := 704) (by decide +kernel) rfl
theorem wi_X4_addStretch : Cond.initialized (miY mi_X4_addStretch).cls ∈ ALLW := aw (i := 59) (by decide +kernel) rfl
theorem wn_X4_addStretch : Cond.instanceMethod (miY mi_X4_addStretch) ∈ ALLW := aw (i := 702) (by decide +kernel) rfl
theorem wv_X4_addStretch : Cond.selects (miY mi_X4_addStretch).cls (miY mi_X4_addStretch) (miY mi_X4_addStretch) ∈ ALLW := aw (i := 703) (by decide +kernel) rfl
def is_X4_readLastDay : List (Instr × Nat) := [(.aload_n 0, 1), (.invokevirtual 41, 3), (.bipush 87, 2), (.if_icmp .ne 24, 3), (.aload_n 0, 1), (.dup, 1), (.getfield 29, 3), (.iconst 1, 1), (.iadd, 1), (.putfield 29, 3), (.aload_n 0, 1), (.getfield 18, 3), (.iconst 1, 1), (.putfield 130, 3), (.goto 60, 3), (.aload_n 0, 1), (.invokevirtual 41, 3), (.bipush 45, 2), (.if_icmp .ne 38, 3), (.aload_n 0, 1), (.dup, 1), (.getfield 29, 3), (.iconst 1, 1), (.iadd, 1), (.putfield 29, 3), (.aload_n 0, 1), (.getfield 18, 3), (.dup, 1), (.getfield 133, 3), (.lconst 1, 1), (.aload_n 0, 1), (.iconst 2, 1), (.iconst 1, 1), (.bipush 30, 2), (.invokevirtual 126, 3), (.lshl, 1), (.lor, 1), (.putfield 133, 3), (.goto 16, 3), (.aload_n 0, 1), (.getfield 18, 3), (.dup, 1), (.getfield 133, 3), (.lconst 1, 1), (.lor, 1), (.putfield 133, 3), (.return_, 1)]
abbrev mi_X4_readLastDay : MI := (yX4_readLastDay, cX4_readLastDay, 1, none, [], { frames := 2, cells := 0, slots := 0, locals := 48 }, is_X4_readLastDay)
theorem dc_X4_readLastDay : dcb cX4_readLastDay is_X4_readLastDay 0 = true := by decide +kernel
theorem wc_X4_readLastDay : cdw mi_X4_readLastDay ∈ ALLW := aw (i := 712) (by decide +kernel) rfl
theorem wi_X4_readLastDay : Cond.initialized (miY mi_X4_readLastDay).cls ∈ ALLW := aw (i := 59) (by decide +kernel) rfl
theorem wn_X4_readLastDay : Cond.instanceMethod (miY mi_X4_readLastDay) ∈ ALLW := aw (i := 710) (by decide +kernel) rfl
theorem wv_X4_readLastDay : Cond.selects (miY mi_X4_readLastDay).cls (miY mi_X4_readLastDay) (miY mi_X4_readLastDay) ∈ ALLW := aw (i := 711) (by decide +kernel) rfl
def is_X4_nameLike : List (Instr × Nat) := [(.iconst 0, 1), (.istore 4, 2), (.iload 4, 2), (.iload_n 3, 1), (.iadd, 1), (.aload_n 1, 1), (.invokevirtual 60, 3), (.if_icmp .gt 73, 3), (.iconst 0, 1), (.istore 5, 2), (.iconst 0, 1), (.istore 6, 2), (.iload 6, 2), (.iload_n 3, 1), (.if_icmp .ge 44, 3), (.iload_n 2, 1), (.iload 6, 2), (.iadd, 1), (.aload_n 0, 1), (.getfield 22, 3), (.if_icmp .ge 33, 3), (.aload_n 0, 1), (.getfield 9, 3), (.iload_n 2, 1), (.iload 6, 2), (.iadd, 1), (.iaload, 1), (.aload_n 1, 1), (.iload 4, 2), (.iload 6, 2), (.iadd, 1), (.invokevirtual 64, 3), (.if_icmp .ne 6, 3), (.iinc 5 1, 3), (.iinc 6 1, 3), (.goto (-44), 3), (.iload 5, 2), (.iload_n 3, 1), (.if_icmp .ne 8, 3), (.iload 4, 2), (.iconst 3, 1), (.idiv, 1), (.ireturn, 1), (.iinc 4 3, 3), (.goto (-78), 3), (.iconst (-1), 1), (.ireturn, 1)]
abbrev mi_X4_nameLike : MI := (yX4_nameLike, cX4_nameLike, 7, (some .int), [], { frames := 5, cells := 0, slots := 0, locals := 106 }, is_X4_nameLike)
theorem dc_X4_nameLike : dcb cX4_nameLike is_X4_nameLike 0 = true := by decide +kernel
theorem wc_X4_nameLike : cdw mi_X4_nameLike ∈ ALLW := aw (i := 725) (by decide +kernel) rfl
theorem wi_X4_nameLike : Cond.initialized (miY mi_X4_nameLike).cls ∈ ALLW := aw (i := 59) (by decide +kernel) rfl
theorem wn_X4_nameLike : Cond.instanceMethod (miY mi_X4_nameLike) ∈ ALLW := aw (i := 723) (by decide +kernel) rfl
theorem wv_X4_nameLike : Cond.selects (miY mi_X4_nameLike).cls (miY mi_X4_nameLike) (miY mi_X4_nameLike) ∈ ALLW := aw (i := 724) (by decide +kernel) rfl
def is_X4_readName : List (Instr × Nat) := [(.aload_n 0, 1), (.getfield 29, 3), (.istore_n 2, 1), (.iconst 0, 1), (.istore_n 3, 1), (.iconst 1, 1), (.istore 4, 2), (.iload 4, 2), (.iconst 3, 1), (.if_icmp .gt 52, 3), (.aload_n 0, 1), (.getfield 32, 3), (.ifCond .ne 45, 3), (.aload_n 0, 1), (.aload_n 1, 1), (.iload_n 2, 1), (.iload 4, 2), (.invokevirtual 144, 3), (.istore_n 3, 1), (.iload_n 3, 1), (.iconst (-1), 1), (.if_icmp .ne 15, 3), (.aload_n 0, 1), (.iconst 1, 1), (.aload_n 0, 1), (.getfield 29, 3), (.invokevirtual 52, 3), (.goto 13, 3), (.aload_n 0, 1), (.dup, 1), (.getfield 29, 3), (.iconst 1, 1), (.iadd, 1), (.putfield 29, 3), (.iinc 4 1, 3), (.goto (-52), 3), (.iload_n 3, 1), (.ireturn, 1)]
abbrev mi_X4_readName : MI := (yX4_readName, cX4_readName, 5, (some .int), [], { frames := 6, cells := 0, slots := 0, locals := 132 }, is_X4_readName)
theorem dc_X4_readName : dcb cX4_readName is_X4_readName 0 = true := by decide +kernel
theorem wc_X4_readName : cdw mi_X4_readName ∈ ALLW := aw (i := 721) (by decide +kernel) rfl
theorem wi_X4_readName : Cond.initialized (miY mi_X4_readName).cls ∈ ALLW := aw (i := 59) (by decide +kernel) rfl
theorem wn_X4_readName : Cond.instanceMethod (miY mi_X4_readName) ∈ ALLW := aw (i := 719) (by decide +kernel) rfl
theorem wv_X4_readName : Cond.selects (miY mi_X4_readName).cls (miY mi_X4_readName) (miY mi_X4_readName) ∈ ALLW := aw (i := 720) (by decide +kernel) rfl
def is_X4_readValue : List (Instr × Nat) := [(.aload_n 0, 1), (.invokevirtual 41, 3), (.bipush 48, 2), (.if_icmp .lt 16, 3), (.aload_n 0, 1), (.invokevirtual 41, 3), (.bipush 57, 2), (.if_icmp .gt 7, 3), (.iconst 1, 1), (.goto 4, 3), (.iconst 0, 1), (.istore_n 2, 1), (.iload_n 1, 1), (.iconst 3, 1), (.if_icmp .ne 16, 3), (.iload_n 2, 1), (.ifCond .ne 12, 3), (.aload_n 0, 1), (.ldc 136, 2), (.invokevirtual 138, 3), (.iconst 1, 1), (.iadd, 1), (.ireturn, 1), (.iload_n 1, 1), (.iconst 4, 1), (.if_icmp .ne 14, 3), (.iload_n 2, 1), (.ifCond .ne 10, 3), (.aload_n 0, 1), (.ldc 142, 2), (.invokevirtual 138, 3), (.ireturn, 1), (.aload_n 0, 1), (.iconst 4, 1), (.getstatic 96, 3), (.iload_n 1, 1), (.iaload, 1), (.getstatic 99, 3), (.iload_n 1, 1), (.iaload, 1), (.invokevirtual 126, 3), (.ireturn, 1)]
abbrev mi_X4_readValue : MI := (yX4_readValue, cX4_readValue, 3, (some .int), [], { frames := 7, cells := 0, slots := 0, locals := 156 }, is_X4_readValue)
theorem dc_X4_readValue : dcb cX4_readValue is_X4_readValue 0 = true := by decide +kernel
theorem wc_X4_readValue : cdw mi_X4_readValue ∈ ALLW := aw (i := 716) (by decide +kernel) rfl
theorem wi_X4_readValue : Cond.initialized (miY mi_X4_readValue).cls ∈ ALLW := aw (i := 59) (by decide +kernel) rfl
theorem wn_X4_readValue : Cond.instanceMethod (miY mi_X4_readValue) ∈ ALLW := aw (i := 714) (by decide +kernel) rfl
theorem wv_X4_readValue : Cond.selects (miY mi_X4_readValue).cls (miY mi_X4_readValue) (miY mi_X4_readValue) ∈ ALLW := aw (i := 715) (by decide +kernel) rfl
def is_X4_readWhichWeekday : List (Instr × Nat) := [(.aload_n 0, 1), (.invokevirtual 41, 3), (.bipush 76, 2), (.if_icmp .ne 7, 3), (.iconst 1, 1), (.goto 4, 3), (.iconst 0, 1), (.istore_n 2, 1), (.aload_n 0, 1), (.dup, 1), (.getfield 29, 3), (.iconst 1, 1), (.iadd, 1), (.putfield 29, 3), (.iload_n 2, 1), (.ifCond .eq 21, 3), (.aload_n 0, 1), (.getfield 18, 3), (.dup, 1), (.getfield 120, 3), (.lconst 1, 1), (.iload_n 1, 1), (.lshl, 1), (.lor, 1), (.putfield 120, 3), (.goto 29, 3), (.aload_n 0, 1), (.getfield 18, 3), (.dup, 1), (.getfield 123, 3), (.lconst 1, 1), (.bipush 7, 2), (.aload_n 0, 1), (.iconst 1, 1), (.iconst 1, 1), (.iconst 5, 1), (.invokevirtual 126, 3), (.imul, 1), (.iload_n 1, 1), (.iadd, 1), (.lshl, 1), (.lor, 1), (.putfield 123, 3), (.return_, 1)]
abbrev mi_X4_readWhichWeekday : MI := (yX4_readWhichWeekday, cX4_readWhichWeekday, 3, none, [], { frames := 2, cells := 0, slots := 0, locals := 48 }, is_X4_readWhichWeekday)
theorem dc_X4_readWhichWeekday : dcb cX4_readWhichWeekday is_X4_readWhichWeekday 0 = true := by decide +kernel
theorem wc_X4_readWhichWeekday : cdw mi_X4_readWhichWeekday ∈ ALLW := aw (i := 730) (by decide +kernel) rfl
theorem wi_X4_readWhichWeekday : Cond.initialized (miY mi_X4_readWhichWeekday).cls ∈ ALLW := aw (i := 59) (by decide +kernel) rfl
theorem wn_X4_readWhichWeekday : Cond.instanceMethod (miY mi_X4_readWhichWeekday) ∈ ALLW := aw (i := 728) (by decide +kernel) rfl
theorem wv_X4_readWhichWeekday : Cond.selects (miY mi_X4_readWhichWeekday).cls (miY mi_X4_readWhichWeekday) (miY mi_X4_readWhichWeekday) ∈ ALLW := aw (i := 729) (by decide +kernel) rfl
def is_X4_readItem : List (Instr × Nat) := [(.aload_n 0, 1), (.invokevirtual 41, 3), (.bipush 42, 2), (.if_icmp .ne 29, 3), (.aload_n 0, 1), (.dup, 1), (.getfield 29, 3), (.iconst 1, 1), (.iadd, 1), (.putfield 29, 3), (.aload_n 0, 1), (.iload_n 1, 1), (.getstatic 96, 3), (.iload_n 1, 1), (.iaload, 1), (.getstatic 99, 3), (.iload_n 1, 1), (.iaload, 1), (.invokevirtual 102, 3), (.return_, 1), (.iload_n 1, 1), (.iconst 2, 1), (.if_icmp .ne 27, 3), (.aload_n 0, 1), (.invokevirtual 41, 3), (.bipush 76, 2), (.if_icmp .ne 18, 3), (.aload_n 0, 1), (.dup, 1), (.getfield 29, 3), (.iconst 1, 1), (.iadd, 1), (.putfield 29, 3), (.aload_n 0, 1), (.invokevirtual 106, 3), (.return_, 1), (.aload_n 0, 1), (.iload_n 1, 1), (.invokevirtual 109, 3), (.istore_n 2, 1), (.aload_n 0, 1), (.getfield 32, 3), (.ifCond .eq 4, 3), (.return_, 1), (.aload_n 0, 1), (.invokevirtual 41, 3), (.bipush 45, 2), (.if_icmp .ne 48, 3), (.aload_n 0, 1), (.dup, 1), (.getfield 29, 3), (.iconst 1, 1), (.iadd, 1), (.putfield 29, 3), (.aload_n 0, 1), (.getfield 29, 3), (.istore_n 3, 1), (.aload_n 0, 1), (.iload_n 1, 1), (.invokevirtual 109, 3), (.istore 4, 2), (.iload 4, 2), (.iload_n 2, 1), (.if_icmp .ge 9, 3), (.aload_n 0, 1), (.iconst 3, 1), (.iload_n 3, 1), (.invokevirtual 52, 3), (.aload_n 0, 1), (.iload_n 1, 1), (.iload_n 2, 1), (.iload 4, 2), (.invokevirtual 102, 3), (.goto 129, 3), (.aload_n 0, 1), (.invokevirtual 41, 3), (.bipush 47, 2), (.if_icmp .ne 33, 3), (.aload_n 0, 1), (.iload_n 1, 1), (.iload_n 2, 1), (.iload_n 1, 1), (.iconst 4, 1), (.if_icmp .ne 14, 3), (.iload_n 2, 1), (.bipush 7, 2), (.if_icmp .ge 8, 3), (.bipush 6, 2), (.goto 8, 3), (.getstatic 99, 3), (.iload_n 1, 1), (.iaload, 1), (.invokevirtual 102, 3), (.goto 90, 3), (.iload_n 1, 1), (.iconst 2, 1), (.if_icmp .ne 40, 3), (.aload_n 0, 1), (.invokevirtual 41, 3), (.bipush 87, 2), (.if_icmp .ne 31, 3), (.aload_n 0, 1), (.dup, 1), (.getfield 29, 3), (.iconst 1, 1), (.iadd, 1), (.putfield 29, 3), (.aload_n 0, 1), (.getfield 18, 3), (.dup, 1), (.getfield 113, 3), (.lconst 1, 1), (.iload_n 2, 1), (.lshl, 1), (.lor, 1), (.putfield 113, 3), (.goto 48, 3), (.iload_n 1, 1), (.iconst 4, 1), (.if_icmp .ne 32, 3), (.aload_n 0, 1), (.invokevirtual 41, 3), (.bipush 76, 2), (.if_icmp .eq 12, 3), (.aload_n 0, 1), (.invokevirtual 41, 3), (.bipush 35, 2), (.if_icmp .ne 14, 3), (.aload_n 0, 1), (.iload_n 2, 1), (.bipush 7, 2), (.irem, 1), (.invokevirtual 117, 3), (.goto 14, 3), (.aload_n 0, 1), (.getfield 18, 3), (.iload_n 1, 1), (.iload_n 2, 1), (.iload_n 2, 1), (.iconst 1, 1), (.invokevirtual 68, 3), (.return_, 1)]
abbrev mi_X4_readItem : MI := (yX4_readItem, cX4_readItem, 5, none, [], { frames := 8, cells := 0, slots := 0, locals := 178 }, is_X4_readItem)
theorem dc_X4_readItem : dcb cX4_readItem is_X4_readItem 0 = true := by decide +kernel
theorem wc_X4_readItem : cdw mi_X4_readItem ∈ ALLW := aw (i := 696) (by decide +kernel) rfl
theorem wi_X4_readItem : Cond.initialized (miY mi_X4_readItem).cls ∈ ALLW := aw (i := 59) (by decide +kernel) rfl
theorem wn_X4_readItem : Cond.instanceMethod (miY mi_X4_readItem) ∈ ALLW := aw (i := 694) (by decide +kernel) rfl
theorem wv_X4_readItem : Cond.selects (miY mi_X4_readItem).cls (miY mi_X4_readItem) (miY mi_X4_readItem) ∈ ALLW := aw (i := 695) (by decide +kernel) rfl
def is_X4_readField : List (Instr × Nat) := [(.aload_n 0, 1), (.getfield 18, 3), (.iload_n 1, 1), (.aload_n 0, 1), (.invokevirtual 41, 3), (.bipush 42, 2), (.if_icmp .ne 7, 3), (.iconst 1, 1), (.goto 4, 3), (.iconst 0, 1), (.invokevirtual 89, 3), (.aload_n 0, 1), (.iload_n 1, 1), (.invokevirtual 93, 3), (.iconst 0, 1), (.istore_n 2, 1), (.iload_n 2, 1), (.sipush 160, 3), (.if_icmp .ge 40, 3), (.aload_n 0, 1), (.getfield 32, 3), (.ifCond .ne 33, 3), (.aload_n 0, 1), (.invokevirtual 41, 3), (.bipush 44, 2), (.if_icmp .ne 24, 3), (.aload_n 0, 1), (.dup, 1), (.getfield 29, 3), (.iconst 1, 1), (.iadd, 1), (.putfield 29, 3), (.aload_n 0, 1), (.iload_n 1, 1), (.invokevirtual 93, 3), (.iinc 2 1, 3), (.goto (-41), 3), (.aload_n 0, 1), (.invokevirtual 41, 3), (.bipush 32, 2), (.if_icmp .eq 20, 3), (.aload_n 0, 1), (.invokevirtual 41, 3), (.iconst (-1), 1), (.if_icmp .eq 12, 3), (.aload_n 0, 1), (.iconst 1, 1), (.aload_n 0, 1), (.getfield 29, 3), (.invokevirtual 52, 3), (.return_, 1)]
abbrev mi_X4_readField : MI := (yX4_readField, cX4_readField, 3, none, [], { frames := 9, cells := 0, slots := 0, locals := 202 }, is_X4_readField)
theorem dc_X4_readField : dcb cX4_readField is_X4_readField 0 = true := by decide +kernel
theorem wc_X4_readField : cdw mi_X4_readField ∈ ALLW := aw (i := 688) (by decide +kernel) rfl
theorem wi_X4_readField : Cond.initialized (miY mi_X4_readField).cls ∈ ALLW := aw (i := 59) (by decide +kernel) rfl
theorem wn_X4_readField : Cond.instanceMethod (miY mi_X4_readField) ∈ ALLW := aw (i := 686) (by decide +kernel) rfl
theorem wv_X4_readField : Cond.selects (miY mi_X4_readField).cls (miY mi_X4_readField) (miY mi_X4_readField) ∈ ALLW := aw (i := 687) (by decide +kernel) rfl
def is_X4_read : List (Instr × Nat) := [(.aload_n 0, 1), (.aload_n 1, 1), (.putfield 18, 3), (.aload_n 0, 1), (.getfield 18, 3), (.invokevirtual 26, 3), (.aload_n 0, 1), (.iconst 0, 1), (.putfield 29, 3), (.aload_n 0, 1), (.iconst 0, 1), (.putfield 32, 3), (.aload_n 0, 1), (.iconst 0, 1), (.putfield 35, 3), (.aload_n 0, 1), (.invokevirtual 38, 3), (.aload_n 0, 1), (.invokevirtual 41, 3), (.bipush 64, 2), (.if_icmp .ne 10, 3), (.aload_n 0, 1), (.invokevirtual 45, 3), (.goto 51, 3), (.aload_n 0, 1), (.iconst 0, 1), (.invokevirtual 48, 3), (.iconst 1, 1), (.istore_n 2, 1), (.iload_n 2, 1), (.bipush 6, 2), (.if_icmp .ge 38, 3), (.aload_n 0, 1), (.getfield 32, 3), (.ifCond .ne 31, 3), (.aload_n 0, 1), (.invokevirtual 38, 3), (.iload_n 2, 1), (.iconst 5, 1), (.if_icmp .ne 11, 3), (.aload_n 0, 1), (.invokevirtual 41, 3), (.iconst (-1), 1), (.if_icmp .eq 8, 3), (.aload_n 0, 1), (.iload_n 2, 1), (.invokevirtual 48, 3), (.iinc 2 1, 3), (.goto (-38), 3), (.aload_n 0, 1), (.invokevirtual 38, 3), (.aload_n 0, 1), (.getfield 29, 3), (.aload_n 0, 1), (.getfield 22, 3), (.if_icmp .ge 12, 3), (.aload_n 0, 1), (.iconst 1, 1), (.aload_n 0, 1), (.getfield 29, 3), (.invokevirtual 52, 3), (.aload_n 0, 1), (.getfield 32, 3), (.ireturn, 1)]
abbrev mi_X4_read : MI := (yX4_read, cX4_read, 3, (some .int), [], { frames := 10, cells := 0, slots := 0, locals := 224 }, is_X4_read)
theorem dc_X4_read : dcb cX4_read is_X4_read 0 = true := by decide +kernel
theorem wc_X4_read : cdw mi_X4_read ∈ ALLW := aw (i := 603) (by decide +kernel) rfl
theorem wi_X4_read : Cond.initialized (miY mi_X4_read).cls ∈ ALLW := aw (i := 59) (by decide +kernel) rfl
theorem wn_X4_read : Cond.instanceMethod (miY mi_X4_read) ∈ ALLW := aw (i := 601) (by decide +kernel) rfl
theorem wv_X4_read : Cond.selects (miY mi_X4_read).cls (miY mi_X4_read) (miY mi_X4_read) ∈ ALLW := aw (i := 602) (by decide +kernel) rfl
def V_X4_add_30 (K : Rs → Mm → Prop)  (M : Mm)  : Prop := K (.inl none) M
set_option maxRecDepth 100000 in
set_option maxHeartbeats 4000000 in
theorem x_X4_add_30 {G : Gx} {K : Rs → Mm → Prop}  {M : Mm}  (h : V_X4_add_30 K  M ) : E G mi_X4_add K M 0 0 30 [none, none] [] := by
  unfold V_X4_add_30 at h
  exact e_ret rfl rfl (by decide) (by decide) h
def V_X4_add (K : Rs → Mm → Prop) (M : Mm) (a0 : Nat) (a1 : Int32) : Prop := (ob M a0 4 ∧ (((160 : Int32) ≤ (mI M a0 1) → V_X4_add_30 K  M ) ∧ (¬ (160 : Int32) ≤ (mI M a0 1) → ∃ b2, mP M a0 0 = some b2 ∧ (ob M b2 9 ∧ (vp_in (mI M a0 1) (mN M b2) ∧ ∀ M5, M5 = sI M b2 ((mI M a0 1)).toNatClampNeg a1 → ∀ M6, M6 = sI M5 a0 1 ((mI M5 a0 1) + (1 : Int32)) → V_X4_add_30 K  M6 )))))
set_option maxRecDepth 100000 in
set_option maxHeartbeats 4000000 in
theorem x_X4_add {G : Gx} {K : Rs → Mm → Prop} {M : Mm} {a0 : Nat} {a1 : Int32} (h : V_X4_add K M a0 a1) : MC G mi_X4_add [.ref a0, .int a1] M K := by
  unfold V_X4_add at h
  refine mc_of rfl (by decide +kernel) dc_X4_add (Nat.le_of_ble_eq_true rfl) 0 (Nat.le_of_ble_eq_true rfl) ?_
  show E G mi_X4_add K M 0 0 0 [some (.ref a0), some (.int a1)] []
  refine e_blk 1 0 _ _ (pc' := 1) (L' := [some (.ref a0), some (.int a1)]) (st' := [.ref a0]) rfl ?_
  obtain ⟨ho1, h⟩ := h
  refine e_getI 4 1 rfl rfl (by decide) (aw (i := 193) (by decide +kernel) rfl) ho1 rfl ?_
  refine e_blk 1 4 _ _ (pc' := 7) (L' := [some (.ref a0), some (.int a1)]) (st' := [.int (160 : Int32), .int (mI M a0 1)]) rfl ?_
  refine e_icmp_ge 30 rfl rfl (fun hc => ?_) (fun hc => ?_)
  · replace h := h.1 hc
    refine e_drp [false, false] (L' := [none, none]) rfl ?_
    exact x_X4_add_30  h
  · replace h := h.2 hc
    refine e_blk 1 10 _ _ (pc' := 11) (L' := [some (.ref a0), some (.int a1)]) (st' := [.ref a0]) rfl ?_
    obtain ⟨b2, hbb2, h⟩ := h
    refine e_getR 4 0 rfl rfl (by decide) (aw (i := 192) (by decide +kernel) rfl) ho1 rfl hbb2 ?_
    refine e_blk 1 14 _ _ (pc' := 15) (L' := [some (.ref a0), some (.int a1)]) (st' := [.ref a0, .ref b2]) rfl ?_
    refine e_getI 4 1 rfl rfl (by decide) (aw (i := 193) (by decide +kernel) rfl) ho1 rfl ?_
    refine e_blk 1 18 _ _ (pc' := 19) (L' := [some (.ref a0), some (.int a1)]) (st' := [.int a1, .int (mI M a0 1), .ref b2]) rfl ?_
    obtain ⟨ho3, h⟩ := h
    obtain ⟨hi4, h⟩ := h
    refine e_iast rfl ho3 hi4 ?_
    generalize hM5 : sI M b2 ((mI M a0 1)).toNatClampNeg a1 = M5
    replace h := h M5 hM5.symm
    replace ho1 : ob M5 a0 4 := hM5 ▸ ob_sI ho1
    replace ho3 : ob M5 b2 9 := hM5 ▸ ob_sI ho3
    refine e_blk 2 20 _ _ (pc' := 22) (L' := [some (.ref a0), some (.int a1)]) (st' := [.ref a0, .ref a0]) rfl ?_
    refine e_getI 4 1 rfl rfl (by decide) (aw (i := 193) (by decide +kernel) rfl) ho1 rfl ?_
    refine e_blk 2 25 _ _ (pc' := 27) (L' := [some (.ref a0), some (.int a1)]) (st' := [.int ((mI M5 a0 1) + (1 : Int32)), .ref a0]) rfl ?_
    refine e_putI 4 1 rfl rfl (by decide) (aw (i := 193) (by decide +kernel) rfl) rfl ho1 rfl ?_
    generalize hM6 : sI M5 a0 1 ((mI M5 a0 1) + (1 : Int32)) = M6
    replace h := h M6 hM6.symm
    replace ho1 : ob M6 a0 4 := hM6 ▸ ob_sI ho1
    replace ho3 : ob M6 b2 9 := hM6 ▸ ob_sI ho3
    refine e_drp [false, false] (L' := [none, none]) rfl ?_
    exact x_X4_add_30  h
def V_X4_look_34 (K : Rs → Mm → Prop)  (M : Mm) (s0 : Int32) : Prop := K (.inl (some (.int s0))) M
set_option maxRecDepth 100000 in
set_option maxHeartbeats 4000000 in
theorem x_X4_look_34 {G : Gx} {K : Rs → Mm → Prop}  {M : Mm} {s0 : Int32} (h : V_X4_look_34 K  M s0) : E G mi_X4_look K M 0 0 34 [none] [.int s0] := by
  unfold V_X4_look_34 at h
  exact e_reti rfl rfl (by decide) (by decide) h
def V_X4_look_33 (K : Rs → Mm → Prop)  (M : Mm)  : Prop := V_X4_look_34 K  M (-1 : Int32)
set_option maxRecDepth 100000 in
set_option maxHeartbeats 4000000 in
theorem x_X4_look_33 {G : Gx} {K : Rs → Mm → Prop}  {M : Mm}  (h : V_X4_look_33 K  M ) : E G mi_X4_look K M 0 0 33 [none] [] := by
  unfold V_X4_look_33 at h
  refine e_blk 1 33 _ _ (pc' := 34) (L' := [none]) (st' := [.int (-1 : Int32)]) rfl ?_
  refine e_drp [false] (L' := [none]) rfl ?_
  exact x_X4_look_34  h
def V_X4_look (K : Rs → Mm → Prop) (M : Mm) (a0 : Nat) : Prop := (ob M a0 4 ∧ (((mI M a0 1) ≤ (mI M a0 2) → V_X4_look_33 K  M ) ∧ (¬ (mI M a0 1) ≤ (mI M a0 2) → (((160 : Int32) ≤ (mI M a0 2) → V_X4_look_33 K  M ) ∧ (¬ (160 : Int32) ≤ (mI M a0 2) → ∃ b2, mP M a0 0 = some b2 ∧ (ob M b2 9 ∧ (vp_in (mI M a0 2) (mN M b2) ∧ V_X4_look_34 K  M (mI M b2 ((mI M a0 2)).toNatClampNeg))))))))
set_option maxRecDepth 100000 in
set_option maxHeartbeats 4000000 in
theorem x_X4_look {G : Gx} {K : Rs → Mm → Prop} {M : Mm} {a0 : Nat} (h : V_X4_look K M a0) : MC G mi_X4_look [.ref a0] M K := by
  unfold V_X4_look at h
  refine mc_of rfl (by decide +kernel) dc_X4_look (Nat.le_of_ble_eq_true rfl) 0 (Nat.le_of_ble_eq_true rfl) ?_
  show E G mi_X4_look K M 0 0 0 [some (.ref a0)] []
  refine e_blk 1 0 _ _ (pc' := 1) (L' := [some (.ref a0)]) (st' := [.ref a0]) rfl ?_
  obtain ⟨ho1, h⟩ := h
  refine e_getI 4 2 rfl rfl (by decide) (aw (i := 195) (by decide +kernel) rfl) ho1 rfl ?_
  refine e_blk 1 4 _ _ (pc' := 5) (L' := [some (.ref a0)]) (st' := [.ref a0, .int (mI M a0 2)]) rfl ?_
  refine e_getI 4 1 rfl rfl (by decide) (aw (i := 193) (by decide +kernel) rfl) ho1 rfl ?_
  refine e_icmp_ge 33 rfl rfl (fun hc => ?_) (fun hc => ?_)
  · replace h := h.1 hc
    refine e_drp [false] (L' := [none]) rfl ?_
    exact x_X4_look_33  h
  · replace h := h.2 hc
    refine e_blk 1 11 _ _ (pc' := 12) (L' := [some (.ref a0)]) (st' := [.ref a0]) rfl ?_
    refine e_getI 4 2 rfl rfl (by decide) (aw (i := 195) (by decide +kernel) rfl) ho1 rfl ?_
    refine e_blk 1 15 _ _ (pc' := 18) (L' := [some (.ref a0)]) (st' := [.int (160 : Int32), .int (mI M a0 2)]) rfl ?_
    refine e_icmp_ge 33 rfl rfl (fun hc => ?_) (fun hc => ?_)
    · replace h := h.1 hc
      refine e_drp [false] (L' := [none]) rfl ?_
      exact x_X4_look_33  h
    · replace h := h.2 hc
      refine e_blk 1 21 _ _ (pc' := 22) (L' := [some (.ref a0)]) (st' := [.ref a0]) rfl ?_
      obtain ⟨b2, hbb2, h⟩ := h
      refine e_getR 4 0 rfl rfl (by decide) (aw (i := 192) (by decide +kernel) rfl) ho1 rfl hbb2 ?_
      refine e_blk 1 25 _ _ (pc' := 26) (L' := [some (.ref a0)]) (st' := [.ref a0, .ref b2]) rfl ?_
      refine e_getI 4 2 rfl rfl (by decide) (aw (i := 195) (by decide +kernel) rfl) ho1 rfl ?_
      obtain ⟨ho3, h⟩ := h
      obtain ⟨hi4, h⟩ := h
      refine e_iald rfl ho3 hi4 ?_
      refine e_blk 1 30 _ _ (pc' := 34) (L' := [some (.ref a0)]) (st' := [.int (mI M b2 ((mI M a0 2)).toNatClampNeg)]) rfl ?_
      refine e_drp [false] (L' := [none]) rfl ?_
      exact x_X4_look_34  h
def V_X4_skipBlanks_34 (K : Rs → Mm → Prop)  (M : Mm)  : Prop := K (.inl none) M
set_option maxRecDepth 100000 in
set_option maxHeartbeats 4000000 in
theorem x_X4_skipBlanks_34 {G : Gx} {K : Rs → Mm → Prop}  {M : Mm}  (h : V_X4_skipBlanks_34 K  M ) : E G mi_X4_skipBlanks K M 0 0 34 [none, none] [] := by
  unfold V_X4_skipBlanks_34 at h
  exact e_ret rfl rfl (by decide) (by decide) h
def V_X4_skipBlanks_2 (K : Rs → Mm → Prop)  : Nat → Mm → Nat → Int32 → Prop
  | 0, _, _, _ => False
  | z + 1, M, l0, l1 => (((160 : Int32) ≤ l1 → V_X4_skipBlanks_34 K  M ) ∧ (¬ (160 : Int32) ≤ l1 → (ob M l0 4 ∧ V_X4_look (kI (fun r3 M2 => ((¬ r3 = (32 : Int32) → V_X4_skipBlanks_34 K  M2 ) ∧ (r3 = (32 : Int32) → (ob M2 l0 4 ∧ ∀ M5, M5 = sI M2 l0 2 ((mI M2 l0 2) + (1 : Int32)) → ∀ x6 : Int32, x6 = (l1 + (1 : Int32)) → V_X4_skipBlanks_2 K  z M5 l0 x6)))) (fun _ _ => False)) M l0)))
set_option maxRecDepth 100000 in
set_option maxHeartbeats 4000000 in
theorem x_X4_skipBlanks_2 {G : Gx} {K : Rs → Mm → Prop}  : ∀ (z : Nat) (M : Mm) (l0 : Nat) (l1 : Int32), V_X4_skipBlanks_2 K  z M l0 l1 → E G mi_X4_skipBlanks K M 0 0 2 [some (.ref l0), some (.int l1)] []
  | 0, M, l0, l1, h => False.elim h
  | z + 1, M, l0, l1, h => by
    unfold V_X4_skipBlanks_2 at h
    refine e_blk 2 2 _ _ (pc' := 6) (L' := [some (.ref l0), some (.int l1)]) (st' := [.int (160 : Int32), .int l1]) rfl ?_
    refine e_icmp_ge 34 rfl rfl (fun hc => ?_) (fun hc => ?_)
    · replace h := h.1 hc
      refine e_drp [false, false] (L' := [none, none]) rfl ?_
      exact x_X4_skipBlanks_34  h
    · replace h := h.2 hc
      refine e_blk 1 9 _ _ (pc' := 10) (L' := [some (.ref l0), some (.int l1)]) (st' := [.ref l0]) rfl ?_
      obtain ⟨ho1, h⟩ := h
      refine e_callV (As := []) (rest := []) (ci := 4) rfl (x_X4_look h) ho1 rfl rfl rfl (aw (i := 613) (by decide +kernel) rfl) wn_X4_look wv_X4_look wi_X4_look wc_X4_look (show cok mi_X4_skipBlanks mi_X4_look 0 0 0 = true by decide +kernel) (Nat.le_of_ble_eq_true rfl) (fun v9 M2 hq => ?_) (fun X M9 hq => False.elim hq)
      obtain ⟨r3, rfl, h⟩ := kI_l hq
      refine e_blk 1 13 _ _ (pc' := 15) (L' := [some (.ref l0), some (.int l1)]) (st' := [.int (32 : Int32), .int r3]) rfl ?_
      refine e_icmp_ne 34 rfl rfl (fun hc => ?_) (fun hc => ?_)
      · replace h := h.1 hc
        refine e_drp [false, false] (L' := [none, none]) rfl ?_
        exact x_X4_skipBlanks_34  h
      · replace h := h.2 hc
        refine e_blk 2 18 _ _ (pc' := 20) (L' := [some (.ref l0), some (.int l1)]) (st' := [.ref l0, .ref l0]) rfl ?_
        obtain ⟨ho4, h⟩ := h
        refine e_getI 4 2 rfl rfl (by decide) (aw (i := 195) (by decide +kernel) rfl) ho4 rfl ?_
        refine e_blk 2 23 _ _ (pc' := 25) (L' := [some (.ref l0), some (.int l1)]) (st' := [.int ((mI M2 l0 2) + (1 : Int32)), .ref l0]) rfl ?_
        refine e_putI 4 2 rfl rfl (by decide) (aw (i := 195) (by decide +kernel) rfl) rfl ho4 rfl ?_
        generalize hM5 : sI M2 l0 2 ((mI M2 l0 2) + (1 : Int32)) = M5
        replace h := h M5 hM5.symm
        replace ho4 : ob M5 l0 4 := hM5 ▸ ob_sI ho4
        refine e_blk 2 28 _ _ (pc' := 2) (L' := [some (.ref l0), some (.int (l1 + (1 : Int32)))]) (st' := []) rfl ?_
        generalize hx_x6 : ((l1 + (1 : Int32)) : Int32) = x6
        replace h := h x6 hx_x6.symm
        refine e_drp [true, true] (L' := [some (.ref l0), some (.int x6)]) rfl ?_
        exact x_X4_skipBlanks_2  z _ _ _ h
def V_X4_skipBlanks (K : Rs → Mm → Prop) (M : Mm) (a0 : Nat) : Prop := ∃ y, V_X4_skipBlanks_2 K  y M a0 (0 : Int32)
set_option maxRecDepth 100000 in
set_option maxHeartbeats 4000000 in
theorem x_X4_skipBlanks {G : Gx} {K : Rs → Mm → Prop} {M : Mm} {a0 : Nat} (h : V_X4_skipBlanks K M a0) : MC G mi_X4_skipBlanks [.ref a0] M K := by
  unfold V_X4_skipBlanks at h
  refine mc_of rfl (by decide +kernel) dc_X4_skipBlanks (Nat.le_of_ble_eq_true rfl) 1 (Nat.le_of_ble_eq_true rfl) ?_
  show E G mi_X4_skipBlanks K M 0 0 0 [some (.ref a0), none] []
  refine e_blk 2 0 _ _ (pc' := 2) (L' := [some (.ref a0), some (.int (0 : Int32))]) (st' := []) rfl ?_
  refine e_drp [true, true] (L' := [some (.ref a0), some (.int (0 : Int32))]) rfl ?_
  obtain ⟨y, h⟩ := h
  exact x_X4_skipBlanks_2  y _ _ _ h
def V_X4_fail_17 (K : Rs → Mm → Prop)  (M : Mm)  : Prop := K (.inl none) M
set_option maxRecDepth 100000 in
set_option maxHeartbeats 4000000 in
theorem x_X4_fail_17 {G : Gx} {K : Rs → Mm → Prop}  {M : Mm}  (h : V_X4_fail_17 K  M ) : E G mi_X4_fail K M 0 0 17 [none, none, none] [] := by
  unfold V_X4_fail_17 at h
  exact e_ret rfl rfl (by decide) (by decide) h
def V_X4_fail (K : Rs → Mm → Prop) (M : Mm) (a0 : Nat) (a1 : Int32) (a2 : Int32) : Prop := (ob M a0 4 ∧ ((¬ (mI M a0 3) = 0 → V_X4_fail_17 K  M ) ∧ ((mI M a0 3) = 0 → ∀ M2, M2 = sI M a0 3 a1 → ∀ M3, M3 = sI M2 a0 4 a2 → V_X4_fail_17 K  M3 )))
set_option maxRecDepth 100000 in
set_option maxHeartbeats 4000000 in
theorem x_X4_fail {G : Gx} {K : Rs → Mm → Prop} {M : Mm} {a0 : Nat} {a1 : Int32} {a2 : Int32} (h : V_X4_fail K M a0 a1 a2) : MC G mi_X4_fail [.ref a0, .int a1, .int a2] M K := by
  unfold V_X4_fail at h
  refine mc_of rfl (by decide +kernel) dc_X4_fail (Nat.le_of_ble_eq_true rfl) 0 (Nat.le_of_ble_eq_true rfl) ?_
  show E G mi_X4_fail K M 0 0 0 [some (.ref a0), some (.int a1), some (.int a2)] []
  refine e_blk 1 0 _ _ (pc' := 1) (L' := [some (.ref a0), some (.int a1), some (.int a2)]) (st' := [.ref a0]) rfl ?_
  obtain ⟨ho1, h⟩ := h
  refine e_getI 4 3 rfl rfl (by decide) (aw (i := 196) (by decide +kernel) rfl) ho1 rfl ?_
  refine e_if_ne 17 rfl rfl (fun hc => ?_) (fun hc => ?_)
  · replace h := h.1 hc
    refine e_drp [false, false, false] (L' := [none, none, none]) rfl ?_
    exact x_X4_fail_17  h
  · replace h := h.2 hc
    refine e_blk 2 7 _ _ (pc' := 9) (L' := [some (.ref a0), some (.int a1), some (.int a2)]) (st' := [.int a1, .ref a0]) rfl ?_
    refine e_putI 4 3 rfl rfl (by decide) (aw (i := 196) (by decide +kernel) rfl) rfl ho1 rfl ?_
    generalize hM2 : sI M a0 3 a1 = M2
    replace h := h M2 hM2.symm
    replace ho1 : ob M2 a0 4 := hM2 ▸ ob_sI ho1
    refine e_blk 2 12 _ _ (pc' := 14) (L' := [some (.ref a0), some (.int a1), some (.int a2)]) (st' := [.int a2, .ref a0]) rfl ?_
    refine e_putI 4 4 rfl rfl (by decide) (aw (i := 197) (by decide +kernel) rfl) rfl ho1 rfl ?_
    generalize hM3 : sI M2 a0 4 a2 = M3
    replace h := h M3 hM3.symm
    replace ho1 : ob M3 a0 4 := hM3 ▸ ob_sI ho1
    refine e_drp [false, false, false] (L' := [none, none, none]) rfl ?_
    exact x_X4_fail_17  h
def V_X4_readWord_213 (K : Rs → Mm → Prop)  (M : Mm) (s0 : Nat) (s1 : Int32) (s2 : Int32) (s3 : Int32) : Prop := (ob M s0 3 ∧ V_X3_add (kV (fun M2 => K (.inl none) M2) (fun _ _ => False)) M s0 s1 s2 s3 (1 : Int32))
set_option maxRecDepth 100000 in
set_option maxHeartbeats 4000000 in
theorem x_X4_readWord_213 {G : Gx} {K : Rs → Mm → Prop}  {M : Mm} {s0 : Nat} {s1 : Int32} {s2 : Int32} {s3 : Int32} (h : V_X4_readWord_213 K  M s0 s1 s2 s3) : E G mi_X4_readWord K M 0 0 213 [none, none, none, none] [.int s3, .int s2, .int s1, .ref s0] := by
  unfold V_X4_readWord_213 at h
  refine e_blk 1 213 _ _ (pc' := 214) (L' := [none, none, none, none]) (st' := [.int (1 : Int32), .int s3, .int s2, .int s1, .ref s0]) rfl ?_
  obtain ⟨ho1, h⟩ := h
  refine e_callV (As := [.int s1, .int s2, .int s3, .int (1 : Int32)]) (rest := []) (ci := 3) rfl (x_X3_add h) ho1 rfl rfl rfl (aw (i := 681) (by decide +kernel) rfl) wn_X3_add wv_X3_add wi_X3_add wc_X3_add (show cok mi_X4_readWord mi_X3_add 0 0 4 = true by decide +kernel) (Nat.le_of_ble_eq_true rfl) (fun v9 M2 hq => ?_) (fun X M9 hq => False.elim hq)
  obtain ⟨rfl, h⟩ := kV_l hq
  exact e_ret rfl rfl (by decide) (by decide) h
def V_X4_readWord_188 (K : Rs → Mm → Prop)  (M : Mm) (l0 : Nat) (s0 : Nat) (s1 : Int32) : Prop := (ob M s0 3 ∧ ((s1 = 0 ∨ s1 = 1) ∧ ∀ M3, M3 = sI M s0 5 s1 → (ob M3 l0 4 ∧ ∃ b5, mP M3 l0 5 = some b5 ∧ ∃ b6, mP M3 l0 5 = some b6 ∧ (ob M3 b6 3 ∧ (((mI M3 b6 5) = 0 → V_X4_readWord_213 K  M3 b5 (4 : Int32) (0 : Int32) (0 : Int32)) ∧ (¬ (mI M3 b6 5) = 0 → V_X4_readWord_213 K  M3 b5 (4 : Int32) (0 : Int32) (6 : Int32)))))))
set_option maxRecDepth 100000 in
set_option maxHeartbeats 4000000 in
theorem x_X4_readWord_188 {G : Gx} {K : Rs → Mm → Prop}  {M : Mm} {l0 : Nat} {s0 : Nat} {s1 : Int32} (h : V_X4_readWord_188 K  M l0 s0 s1) : E G mi_X4_readWord K M 0 0 188 [some (.ref l0), none, none, none] [.int s1, .ref s0] := by
  unfold V_X4_readWord_188 at h
  obtain ⟨ho1, h⟩ := h
  obtain ⟨hz2, h⟩ := h
  refine e_putZ 3 5 rfl rfl (by decide) (aw (i := 149) (by decide +kernel) rfl) rfl ho1 rfl hz2 ?_
  generalize hM3 : sI M s0 5 s1 = M3
  replace h := h M3 hM3.symm
  replace ho1 : ob M3 s0 3 := hM3 ▸ ob_sI ho1
  refine e_blk 1 191 _ _ (pc' := 192) (L' := [some (.ref l0), none, none, none]) (st' := [.ref l0]) rfl ?_
  obtain ⟨ho4, h⟩ := h
  obtain ⟨b5, hbb5, h⟩ := h
  refine e_getR 4 5 rfl rfl (by decide) (aw (i := 199) (by decide +kernel) rfl) ho4 rfl hbb5 ?_
  refine e_blk 3 195 _ _ (pc' := 198) (L' := [some (.ref l0), none, none, none]) (st' := [.ref l0, .int (0 : Int32), .int (4 : Int32), .ref b5]) rfl ?_
  obtain ⟨b6, hbb6, h⟩ := h
  refine e_getR 4 5 rfl rfl (by decide) (aw (i := 199) (by decide +kernel) rfl) ho4 rfl hbb6 ?_
  obtain ⟨ho7, h⟩ := h
  refine e_getI 3 5 rfl rfl (by decide) (aw (i := 149) (by decide +kernel) rfl) ho7 rfl ?_
  refine e_if_eq 212 rfl rfl (fun hc => ?_) (fun hc => ?_)
  · replace h := h.1 hc
    refine e_blk 1 212 _ _ (pc' := 213) (L' := [some (.ref l0), none, none, none]) (st' := [.int (0 : Int32), .int (0 : Int32), .int (4 : Int32), .ref b5]) rfl ?_
    refine e_drp [false, false, false, false] (L' := [none, none, none, none]) rfl ?_
    exact x_X4_readWord_213  h
  · replace h := h.2 hc
    refine e_blk 2 207 _ _ (pc' := 213) (L' := [some (.ref l0), none, none, none]) (st' := [.int (6 : Int32), .int (0 : Int32), .int (4 : Int32), .ref b5]) rfl ?_
    refine e_drp [false, false, false, false] (L' := [none, none, none, none]) rfl ?_
    exact x_X4_readWord_213  h
def V_X4_readWord_169 (K : Rs → Mm → Prop)  (M : Mm) (l0 : Nat) (l1 : Int32) (s0 : Nat) (s1 : Int32) (s2 : Int32) (s3 : Int32) : Prop := (ob M s0 3 ∧ V_X3_add (kV (fun M2 => (ob M2 l0 4 ∧ ∃ b4, mP M2 l0 5 = some b4 ∧ ((l1 = (119 : Int32) → V_X4_readWord_188 K  M2 l0 b4 (0 : Int32)) ∧ (¬ l1 = (119 : Int32) → V_X4_readWord_188 K  M2 l0 b4 (1 : Int32))))) (fun _ _ => False)) M s0 s1 s2 s3 (1 : Int32))
set_option maxRecDepth 100000 in
set_option maxHeartbeats 4000000 in
theorem x_X4_readWord_169 {G : Gx} {K : Rs → Mm → Prop}  {M : Mm} {l0 : Nat} {l1 : Int32} {s0 : Nat} {s1 : Int32} {s2 : Int32} {s3 : Int32} (h : V_X4_readWord_169 K  M l0 l1 s0 s1 s2 s3) : E G mi_X4_readWord K M 0 0 169 [some (.ref l0), some (.int l1), none, none] [.int s3, .int s2, .int s1, .ref s0] := by
  unfold V_X4_readWord_169 at h
  refine e_blk 1 169 _ _ (pc' := 170) (L' := [some (.ref l0), some (.int l1), none, none]) (st' := [.int (1 : Int32), .int s3, .int s2, .int s1, .ref s0]) rfl ?_
  obtain ⟨ho1, h⟩ := h
  refine e_callV (As := [.int s1, .int s2, .int s3, .int (1 : Int32)]) (rest := []) (ci := 3) rfl (x_X3_add h) ho1 rfl rfl rfl (aw (i := 681) (by decide +kernel) rfl) wn_X3_add wv_X3_add wi_X3_add wc_X3_add (show cok mi_X4_readWord mi_X3_add 0 0 4 = true by decide +kernel) (Nat.le_of_ble_eq_true rfl) (fun v9 M2 hq => ?_) (fun X M9 hq => False.elim hq)
  obtain ⟨rfl, h⟩ := kV_l hq
  refine e_blk 1 173 _ _ (pc' := 174) (L' := [some (.ref l0), some (.int l1), none, none]) (st' := [.ref l0]) rfl ?_
  obtain ⟨ho3, h⟩ := h
  obtain ⟨b4, hbb4, h⟩ := h
  refine e_getR 4 5 rfl rfl (by decide) (aw (i := 199) (by decide +kernel) rfl) ho3 rfl hbb4 ?_
  refine e_blk 2 177 _ _ (pc' := 180) (L' := [some (.ref l0), some (.int l1), none, none]) (st' := [.int (119 : Int32), .int l1, .ref b4]) rfl ?_
  refine e_icmp_eq 187 rfl rfl (fun hc => ?_) (fun hc => ?_)
  · replace h := h.1 hc
    refine e_blk 1 187 _ _ (pc' := 188) (L' := [some (.ref l0), some (.int l1), none, none]) (st' := [.int (0 : Int32), .ref b4]) rfl ?_
    refine e_drp [true, false, false, false] (L' := [some (.ref l0), none, none, none]) rfl ?_
    exact x_X4_readWord_188  h
  · replace h := h.2 hc
    refine e_blk 2 183 _ _ (pc' := 188) (L' := [some (.ref l0), some (.int l1), none, none]) (st' := [.int (1 : Int32), .ref b4]) rfl ?_
    refine e_drp [true, false, false, false] (L' := [some (.ref l0), none, none, none]) rfl ?_
    exact x_X4_readWord_188  h
def V_X4_readWord_147 (K : Rs → Mm → Prop)  (M : Mm) (l0 : Nat) (l1 : Int32) (s0 : Nat) (s1 : Int32) (s2 : Int32) (s3 : Int32) : Prop := (ob M s0 3 ∧ V_X3_add (kV (fun M2 => (ob M2 l0 4 ∧ ∃ b4, mP M2 l0 5 = some b4 ∧ ((¬ l1 = (121 : Int32) → V_X4_readWord_169 K  M2 l0 l1 b4 (3 : Int32) (1 : Int32) (12 : Int32)) ∧ (l1 = (121 : Int32) → V_X4_readWord_169 K  M2 l0 l1 b4 (3 : Int32) (1 : Int32) (1 : Int32))))) (fun _ _ => False)) M s0 s1 s2 s3 (1 : Int32))
set_option maxRecDepth 100000 in
set_option maxHeartbeats 4000000 in
theorem x_X4_readWord_147 {G : Gx} {K : Rs → Mm → Prop}  {M : Mm} {l0 : Nat} {l1 : Int32} {s0 : Nat} {s1 : Int32} {s2 : Int32} {s3 : Int32} (h : V_X4_readWord_147 K  M l0 l1 s0 s1 s2 s3) : E G mi_X4_readWord K M 0 0 147 [some (.ref l0), some (.int l1), none, none] [.int s3, .int s2, .int s1, .ref s0] := by
  unfold V_X4_readWord_147 at h
  refine e_blk 1 147 _ _ (pc' := 148) (L' := [some (.ref l0), some (.int l1), none, none]) (st' := [.int (1 : Int32), .int s3, .int s2, .int s1, .ref s0]) rfl ?_
  obtain ⟨ho1, h⟩ := h
  refine e_callV (As := [.int s1, .int s2, .int s3, .int (1 : Int32)]) (rest := []) (ci := 3) rfl (x_X3_add h) ho1 rfl rfl rfl (aw (i := 681) (by decide +kernel) rfl) wn_X3_add wv_X3_add wi_X3_add wc_X3_add (show cok mi_X4_readWord mi_X3_add 0 0 4 = true by decide +kernel) (Nat.le_of_ble_eq_true rfl) (fun v9 M2 hq => ?_) (fun X M9 hq => False.elim hq)
  obtain ⟨rfl, h⟩ := kV_l hq
  refine e_blk 1 151 _ _ (pc' := 152) (L' := [some (.ref l0), some (.int l1), none, none]) (st' := [.ref l0]) rfl ?_
  obtain ⟨ho3, h⟩ := h
  obtain ⟨b4, hbb4, h⟩ := h
  refine e_getR 4 5 rfl rfl (by decide) (aw (i := 199) (by decide +kernel) rfl) ho3 rfl hbb4 ?_
  refine e_blk 4 155 _ _ (pc' := 160) (L' := [some (.ref l0), some (.int l1), none, none]) (st' := [.int (121 : Int32), .int l1, .int (1 : Int32), .int (3 : Int32), .ref b4]) rfl ?_
  refine e_icmp_ne 167 rfl rfl (fun hc => ?_) (fun hc => ?_)
  · replace h := h.1 hc
    refine e_blk 1 167 _ _ (pc' := 169) (L' := [some (.ref l0), some (.int l1), none, none]) (st' := [.int (12 : Int32), .int (1 : Int32), .int (3 : Int32), .ref b4]) rfl ?_
    refine e_drp [true, true, false, false] (L' := [some (.ref l0), some (.int l1), none, none]) rfl ?_
    exact x_X4_readWord_169  h
  · replace h := h.2 hc
    refine e_blk 2 163 _ _ (pc' := 169) (L' := [some (.ref l0), some (.int l1), none, none]) (st' := [.int (1 : Int32), .int (1 : Int32), .int (3 : Int32), .ref b4]) rfl ?_
    refine e_drp [true, true, false, false] (L' := [some (.ref l0), some (.int l1), none, none]) rfl ?_
    exact x_X4_readWord_169  h
def V_X4_readWord_122 (K : Rs → Mm → Prop)  (M : Mm) (l0 : Nat) (l1 : Int32) (s0 : Nat) (s1 : Int32) : Prop := (ob M s0 3 ∧ ((s1 = 0 ∨ s1 = 1) ∧ ∀ M3, M3 = sI M s0 4 s1 → (ob M3 l0 4 ∧ ∃ b5, mP M3 l0 5 = some b5 ∧ ∃ b6, mP M3 l0 5 = some b6 ∧ (ob M3 b6 3 ∧ (((mI M3 b6 4) = 0 → V_X4_readWord_147 K  M3 l0 l1 b5 (2 : Int32) (1 : Int32) (1 : Int32)) ∧ (¬ (mI M3 b6 4) = 0 → V_X4_readWord_147 K  M3 l0 l1 b5 (2 : Int32) (1 : Int32) (31 : Int32)))))))
set_option maxRecDepth 100000 in
set_option maxHeartbeats 4000000 in
theorem x_X4_readWord_122 {G : Gx} {K : Rs → Mm → Prop}  {M : Mm} {l0 : Nat} {l1 : Int32} {s0 : Nat} {s1 : Int32} (h : V_X4_readWord_122 K  M l0 l1 s0 s1) : E G mi_X4_readWord K M 0 0 122 [some (.ref l0), some (.int l1), none, none] [.int s1, .ref s0] := by
  unfold V_X4_readWord_122 at h
  obtain ⟨ho1, h⟩ := h
  obtain ⟨hz2, h⟩ := h
  refine e_putZ 3 4 rfl rfl (by decide) (aw (i := 146) (by decide +kernel) rfl) rfl ho1 rfl hz2 ?_
  generalize hM3 : sI M s0 4 s1 = M3
  replace h := h M3 hM3.symm
  replace ho1 : ob M3 s0 3 := hM3 ▸ ob_sI ho1
  refine e_blk 1 125 _ _ (pc' := 126) (L' := [some (.ref l0), some (.int l1), none, none]) (st' := [.ref l0]) rfl ?_
  obtain ⟨ho4, h⟩ := h
  obtain ⟨b5, hbb5, h⟩ := h
  refine e_getR 4 5 rfl rfl (by decide) (aw (i := 199) (by decide +kernel) rfl) ho4 rfl hbb5 ?_
  refine e_blk 3 129 _ _ (pc' := 132) (L' := [some (.ref l0), some (.int l1), none, none]) (st' := [.ref l0, .int (1 : Int32), .int (2 : Int32), .ref b5]) rfl ?_
  obtain ⟨b6, hbb6, h⟩ := h
  refine e_getR 4 5 rfl rfl (by decide) (aw (i := 199) (by decide +kernel) rfl) ho4 rfl hbb6 ?_
  obtain ⟨ho7, h⟩ := h
  refine e_getI 3 4 rfl rfl (by decide) (aw (i := 146) (by decide +kernel) rfl) ho7 rfl ?_
  refine e_if_eq 146 rfl rfl (fun hc => ?_) (fun hc => ?_)
  · replace h := h.1 hc
    refine e_blk 1 146 _ _ (pc' := 147) (L' := [some (.ref l0), some (.int l1), none, none]) (st' := [.int (1 : Int32), .int (1 : Int32), .int (2 : Int32), .ref b5]) rfl ?_
    refine e_drp [true, true, false, false] (L' := [some (.ref l0), some (.int l1), none, none]) rfl ?_
    exact x_X4_readWord_147  h
  · replace h := h.2 hc
    refine e_blk 2 141 _ _ (pc' := 147) (L' := [some (.ref l0), some (.int l1), none, none]) (st' := [.int (31 : Int32), .int (1 : Int32), .int (2 : Int32), .ref b5]) rfl ?_
    refine e_drp [true, true, false, false] (L' := [some (.ref l0), some (.int l1), none, none]) rfl ?_
    exact x_X4_readWord_147  h
def V_X4_readWord_121 (K : Rs → Mm → Prop)  (M : Mm) (l0 : Nat) (l1 : Int32) (s0 : Nat) : Prop := V_X4_readWord_122 K  M l0 l1 s0 (0 : Int32)
set_option maxRecDepth 100000 in
set_option maxHeartbeats 4000000 in
theorem x_X4_readWord_121 {G : Gx} {K : Rs → Mm → Prop}  {M : Mm} {l0 : Nat} {l1 : Int32} {s0 : Nat} (h : V_X4_readWord_121 K  M l0 l1 s0) : E G mi_X4_readWord K M 0 0 121 [some (.ref l0), some (.int l1), none, none] [.ref s0] := by
  unfold V_X4_readWord_121 at h
  refine e_blk 1 121 _ _ (pc' := 122) (L' := [some (.ref l0), some (.int l1), none, none]) (st' := [.int (0 : Int32), .ref s0]) rfl ?_
  refine e_drp [true, true, false, false] (L' := [some (.ref l0), some (.int l1), none, none]) rfl ?_
  exact x_X4_readWord_122  h
def V_X4_readWord_97 (K : Rs → Mm → Prop)  (M : Mm) (l0 : Nat) (l1 : Int32) (s0 : Nat) (s1 : Int32) (s2 : Int32) (s3 : Int32) : Prop := (ob M s0 3 ∧ V_X3_add (kV (fun M2 => (ob M2 l0 4 ∧ ∃ b4, mP M2 l0 5 = some b4 ∧ ((l1 = (109 : Int32) → V_X4_readWord_121 K  M2 l0 l1 b4) ∧ (¬ l1 = (109 : Int32) → ((l1 = (121 : Int32) → V_X4_readWord_121 K  M2 l0 l1 b4) ∧ (¬ l1 = (121 : Int32) → V_X4_readWord_122 K  M2 l0 l1 b4 (1 : Int32))))))) (fun _ _ => False)) M s0 s1 s2 s3 (1 : Int32))
set_option maxRecDepth 100000 in
set_option maxHeartbeats 4000000 in
theorem x_X4_readWord_97 {G : Gx} {K : Rs → Mm → Prop}  {M : Mm} {l0 : Nat} {l1 : Int32} {s0 : Nat} {s1 : Int32} {s2 : Int32} {s3 : Int32} (h : V_X4_readWord_97 K  M l0 l1 s0 s1 s2 s3) : E G mi_X4_readWord K M 0 0 97 [some (.ref l0), some (.int l1), none, none] [.int s3, .int s2, .int s1, .ref s0] := by
  unfold V_X4_readWord_97 at h
  refine e_blk 1 97 _ _ (pc' := 98) (L' := [some (.ref l0), some (.int l1), none, none]) (st' := [.int (1 : Int32), .int s3, .int s2, .int s1, .ref s0]) rfl ?_
  obtain ⟨ho1, h⟩ := h
  refine e_callV (As := [.int s1, .int s2, .int s3, .int (1 : Int32)]) (rest := []) (ci := 3) rfl (x_X3_add h) ho1 rfl rfl rfl (aw (i := 681) (by decide +kernel) rfl) wn_X3_add wv_X3_add wi_X3_add wc_X3_add (show cok mi_X4_readWord mi_X3_add 0 0 4 = true by decide +kernel) (Nat.le_of_ble_eq_true rfl) (fun v9 M2 hq => ?_) (fun X M9 hq => False.elim hq)
  obtain ⟨rfl, h⟩ := kV_l hq
  refine e_blk 1 101 _ _ (pc' := 102) (L' := [some (.ref l0), some (.int l1), none, none]) (st' := [.ref l0]) rfl ?_
  obtain ⟨ho3, h⟩ := h
  obtain ⟨b4, hbb4, h⟩ := h
  refine e_getR 4 5 rfl rfl (by decide) (aw (i := 199) (by decide +kernel) rfl) ho3 rfl hbb4 ?_
  refine e_blk 2 105 _ _ (pc' := 108) (L' := [some (.ref l0), some (.int l1), none, none]) (st' := [.int (109 : Int32), .int l1, .ref b4]) rfl ?_
  refine e_icmp_eq 121 rfl rfl (fun hc => ?_) (fun hc => ?_)
  · replace h := h.1 hc
    refine e_drp [true, true, false, false] (L' := [some (.ref l0), some (.int l1), none, none]) rfl ?_
    exact x_X4_readWord_121  h
  · replace h := h.2 hc
    refine e_blk 2 111 _ _ (pc' := 114) (L' := [some (.ref l0), some (.int l1), none, none]) (st' := [.int (121 : Int32), .int l1, .ref b4]) rfl ?_
    refine e_icmp_eq 121 rfl rfl (fun hc => ?_) (fun hc => ?_)
    · replace h := h.1 hc
      refine e_drp [true, true, false, false] (L' := [some (.ref l0), some (.int l1), none, none]) rfl ?_
      exact x_X4_readWord_121  h
    · replace h := h.2 hc
      refine e_blk 2 117 _ _ (pc' := 122) (L' := [some (.ref l0), some (.int l1), none, none]) (st' := [.int (1 : Int32), .ref b4]) rfl ?_
      refine e_drp [true, true, false, false] (L' := [some (.ref l0), some (.int l1), none, none]) rfl ?_
      exact x_X4_readWord_122  h
def V_X4_readWord_22 (K : Rs → Mm → Prop)  : Nat → Mm → Nat → Int32 → Nat → Int32 → Prop
  | 0, _, _, _, _, _ => False
  | z + 1, M, l0, l1, l2, l3 => (l2 ∈ txI ∧ V_J0_length_8abf5 (kI (fun r3 M2 => ((r3 ≤ l3 → (ob M2 l0 4 ∧ ∃ b5, mP M2 l0 5 = some b5 ∧ (ob M2 b5 3 ∧ V_X3_add (kV (fun M7 => (ob M7 l0 4 ∧ ∃ b9, mP M7 l0 5 = some b9 ∧ ((¬ l1 = (104 : Int32) → V_X4_readWord_97 K  M7 l0 l1 b9 (1 : Int32) (0 : Int32) (0 : Int32)) ∧ (l1 = (104 : Int32) → V_X4_readWord_97 K  M7 l0 l1 b9 (1 : Int32) (0 : Int32) (23 : Int32))))) (fun _ _ => False)) M2 b5 (0 : Int32) (0 : Int32) (0 : Int32) (1 : Int32)))) ∧ (¬ r3 ≤ l3 → (ob M2 l0 4 ∧ V_X4_look (kI (fun r12 M11 => (l2 ∈ txI ∧ V_J0_charAt_5068e (kI (fun r15 M14 => ((r12 = r15 → (ob M14 l0 4 ∧ ∀ M17, M17 = sI M14 l0 2 ((mI M14 l0 2) + (1 : Int32)) → ∀ x18 : Int32, x18 = (l3 + (1 : Int32)) → V_X4_readWord_22 K  z M17 l0 l1 l2 x18)) ∧ (¬ r12 = r15 → (ob M14 l0 4 ∧ V_X4_fail (kV (fun M20 => K (.inl none) M20) (fun _ _ => False)) M14 l0 (1 : Int32) (mI M14 l0 2))))) (fun _ _ => False)) M11 l2 l3)) (fun _ _ => False)) M2 l0)))) (fun _ _ => False)) M l2)
set_option maxRecDepth 100000 in
set_option maxHeartbeats 4000000 in
theorem x_X4_readWord_22 {G : Gx} {K : Rs → Mm → Prop}  : ∀ (z : Nat) (M : Mm) (l0 : Nat) (l1 : Int32) (l2 : Nat) (l3 : Int32), V_X4_readWord_22 K  z M l0 l1 l2 l3 → E G mi_X4_readWord K M 0 0 22 [some (.ref l0), some (.int l1), some (.ref (gS G l2)), some (.int l3)] []
  | 0, M, l0, l1, l2, l3, h => False.elim h
  | z + 1, M, l0, l1, l2, l3, h => by
    unfold V_X4_readWord_22 at h
    refine e_blk 2 22 _ _ (pc' := 24) (L' := [some (.ref l0), some (.int l1), some (.ref (gS G l2)), some (.int l3)]) (st' := [.ref (gS G l2), .int l3]) rfl ?_
    obtain ⟨hj1, h⟩ := h
    refine e_callO (As := []) (rest := [.int l3]) rfl (x_J0_length_8abf5 hj1 h) (fun X M9 hq => hq) (txO hj1) rfl (aw (i := 629) (by decide +kernel) rfl) wn_J0_length_8abf5 wv_J0_length_8abf5 wi_J0_length_8abf5 wc_J0_length_8abf5 (show cok mi_X4_readWord mi_J0_length_8abf5 0 0 0 = true by decide +kernel) (Nat.le_of_ble_eq_true rfl) (fun v9 M2 hq => ?_)
    obtain ⟨r3, rfl, h⟩ := kI_l hq
    refine e_icmp_ge 68 rfl rfl (fun hc => ?_) (fun hc => ?_)
    · replace h := h.1 hc
      refine e_blk 1 68 _ _ (pc' := 69) (L' := [some (.ref l0), some (.int l1), some (.ref (gS G l2)), some (.int l3)]) (st' := [.ref l0]) rfl ?_
      obtain ⟨ho4, h⟩ := h
      obtain ⟨b5, hbb5, h⟩ := h
      refine e_getR 4 5 rfl rfl (by decide) (aw (i := 199) (by decide +kernel) rfl) ho4 rfl hbb5 ?_
      refine e_blk 4 72 _ _ (pc' := 76) (L' := [some (.ref l0), some (.int l1), some (.ref (gS G l2)), some (.int l3)]) (st' := [.int (1 : Int32), .int (0 : Int32), .int (0 : Int32), .int (0 : Int32), .ref b5]) rfl ?_
      obtain ⟨ho6, h⟩ := h
      refine e_callV (As := [.int (0 : Int32), .int (0 : Int32), .int (0 : Int32), .int (1 : Int32)]) (rest := []) (ci := 3) rfl (x_X3_add h) ho6 rfl rfl rfl (aw (i := 681) (by decide +kernel) rfl) wn_X3_add wv_X3_add wi_X3_add wc_X3_add (show cok mi_X4_readWord mi_X3_add 0 0 4 = true by decide +kernel) (Nat.le_of_ble_eq_true rfl) (fun v9 M7 hq => ?_) (fun X M9 hq => False.elim hq)
      obtain ⟨rfl, h⟩ := kV_l hq
      refine e_blk 1 79 _ _ (pc' := 80) (L' := [some (.ref l0), some (.int l1), some (.ref (gS G l2)), some (.int l3)]) (st' := [.ref l0]) rfl ?_
      obtain ⟨ho8, h⟩ := h
      obtain ⟨b9, hbb9, h⟩ := h
      refine e_getR 4 5 rfl rfl (by decide) (aw (i := 199) (by decide +kernel) rfl) ho8 rfl hbb9 ?_
      refine e_blk 4 83 _ _ (pc' := 88) (L' := [some (.ref l0), some (.int l1), some (.ref (gS G l2)), some (.int l3)]) (st' := [.int (104 : Int32), .int l1, .int (0 : Int32), .int (1 : Int32), .ref b9]) rfl ?_
      refine e_icmp_ne 96 rfl rfl (fun hc => ?_) (fun hc => ?_)
      · replace h := h.1 hc
        refine e_blk 1 96 _ _ (pc' := 97) (L' := [some (.ref l0), some (.int l1), some (.ref (gS G l2)), some (.int l3)]) (st' := [.int (0 : Int32), .int (0 : Int32), .int (1 : Int32), .ref b9]) rfl ?_
        refine e_drp [true, true, false, false] (L' := [some (.ref l0), some (.int l1), none, none]) rfl ?_
        exact x_X4_readWord_97  h
      · replace h := h.2 hc
        refine e_blk 2 91 _ _ (pc' := 97) (L' := [some (.ref l0), some (.int l1), some (.ref (gS G l2)), some (.int l3)]) (st' := [.int (23 : Int32), .int (0 : Int32), .int (1 : Int32), .ref b9]) rfl ?_
        refine e_drp [true, true, false, false] (L' := [some (.ref l0), some (.int l1), none, none]) rfl ?_
        exact x_X4_readWord_97  h
    · replace h := h.2 hc
      refine e_blk 1 30 _ _ (pc' := 31) (L' := [some (.ref l0), some (.int l1), some (.ref (gS G l2)), some (.int l3)]) (st' := [.ref l0]) rfl ?_
      obtain ⟨ho10, h⟩ := h
      refine e_callV (As := []) (rest := []) (ci := 4) rfl (x_X4_look h) ho10 rfl rfl rfl (aw (i := 613) (by decide +kernel) rfl) wn_X4_look wv_X4_look wi_X4_look wc_X4_look (show cok mi_X4_readWord mi_X4_look 0 0 0 = true by decide +kernel) (Nat.le_of_ble_eq_true rfl) (fun v9 M11 hq => ?_) (fun X M9 hq => False.elim hq)
      obtain ⟨r12, rfl, h⟩ := kI_l hq
      refine e_blk 2 34 _ _ (pc' := 36) (L' := [some (.ref l0), some (.int l1), some (.ref (gS G l2)), some (.int l3)]) (st' := [.int l3, .ref (gS G l2), .int r12]) rfl ?_
      obtain ⟨hj13, h⟩ := h
      refine e_callO (As := [.int l3]) (rest := [.int r12]) rfl (x_J0_charAt_5068e hj13 h) (fun X M9 hq => hq) (txO hj13) rfl (aw (i := 639) (by decide +kernel) rfl) wn_J0_charAt_5068e wv_J0_charAt_5068e wi_J0_charAt_5068e wc_J0_charAt_5068e (show cok mi_X4_readWord mi_J0_charAt_5068e 0 0 1 = true by decide +kernel) (Nat.le_of_ble_eq_true rfl) (fun v9 M14 hq => ?_)
      obtain ⟨r15, rfl, h⟩ := kI_l hq
      refine e_icmp_eq 52 rfl rfl (fun hc => ?_) (fun hc => ?_)
      · replace h := h.1 hc
        refine e_blk 2 52 _ _ (pc' := 54) (L' := [some (.ref l0), some (.int l1), some (.ref (gS G l2)), some (.int l3)]) (st' := [.ref l0, .ref l0]) rfl ?_
        obtain ⟨ho16, h⟩ := h
        refine e_getI 4 2 rfl rfl (by decide) (aw (i := 195) (by decide +kernel) rfl) ho16 rfl ?_
        refine e_blk 2 57 _ _ (pc' := 59) (L' := [some (.ref l0), some (.int l1), some (.ref (gS G l2)), some (.int l3)]) (st' := [.int ((mI M14 l0 2) + (1 : Int32)), .ref l0]) rfl ?_
        refine e_putI 4 2 rfl rfl (by decide) (aw (i := 195) (by decide +kernel) rfl) rfl ho16 rfl ?_
        generalize hM17 : sI M14 l0 2 ((mI M14 l0 2) + (1 : Int32)) = M17
        replace h := h M17 hM17.symm
        replace ho16 : ob M17 l0 4 := hM17 ▸ ob_sI ho16
        refine e_blk 2 62 _ _ (pc' := 22) (L' := [some (.ref l0), some (.int l1), some (.ref (gS G l2)), some (.int (l3 + (1 : Int32)))]) (st' := []) rfl ?_
        generalize hx_x18 : ((l3 + (1 : Int32)) : Int32) = x18
        replace h := h x18 hx_x18.symm
        refine e_drp [true, true, true, true] (L' := [some (.ref l0), some (.int l1), some (.ref (gS G l2)), some (.int x18)]) rfl ?_
        exact x_X4_readWord_22  z _ _ _ _ _ h
      · replace h := h.2 hc
        refine e_blk 3 42 _ _ (pc' := 45) (L' := [some (.ref l0), some (.int l1), some (.ref (gS G l2)), some (.int l3)]) (st' := [.ref l0, .int (1 : Int32), .ref l0]) rfl ?_
        obtain ⟨ho19, h⟩ := h
        refine e_getI 4 2 rfl rfl (by decide) (aw (i := 195) (by decide +kernel) rfl) ho19 rfl ?_
        refine e_callV (As := [.int (1 : Int32), .int (mI M14 l0 2)]) (rest := []) (ci := 4) rfl (x_X4_fail h) ho19 rfl rfl rfl (aw (i := 677) (by decide +kernel) rfl) wn_X4_fail wv_X4_fail wi_X4_fail wc_X4_fail (show cok mi_X4_readWord mi_X4_fail 0 0 2 = true by decide +kernel) (Nat.le_of_ble_eq_true rfl) (fun v9 M20 hq => ?_) (fun X M9 hq => False.elim hq)
        obtain ⟨rfl, h⟩ := kV_l hq
        exact e_ret rfl rfl (by decide) (by decide) h
def V_X4_readWord (K : Rs → Mm → Prop) (M : Mm) (a0 : Nat) : Prop := (ob M a0 4 ∧ ∀ M2, M2 = sI M a0 2 ((mI M a0 2) + (1 : Int32)) → V_X4_look (kI (fun r4 M3 => V_X4_wordWith (fun r6 M5 => ∃ y, V_X4_readWord_22 K  y M5 a0 r4 r6 (0 : Int32)) M3 r4) (fun _ _ => False)) M2 a0)
set_option maxRecDepth 100000 in
set_option maxHeartbeats 4000000 in
theorem x_X4_readWord {G : Gx} {K : Rs → Mm → Prop} {M : Mm} {a0 : Nat} (h : V_X4_readWord K M a0) : MC G mi_X4_readWord [.ref a0] M K := by
  unfold V_X4_readWord at h
  refine mc_of rfl (by decide +kernel) dc_X4_readWord (Nat.le_of_ble_eq_true rfl) 3 (Nat.le_of_ble_eq_true rfl) ?_
  show E G mi_X4_readWord K M 0 0 0 [some (.ref a0), none, none, none] []
  refine e_blk 2 0 _ _ (pc' := 2) (L' := [some (.ref a0), none, none, none]) (st' := [.ref a0, .ref a0]) rfl ?_
  obtain ⟨ho1, h⟩ := h
  refine e_getI 4 2 rfl rfl (by decide) (aw (i := 195) (by decide +kernel) rfl) ho1 rfl ?_
  refine e_blk 2 5 _ _ (pc' := 7) (L' := [some (.ref a0), none, none, none]) (st' := [.int ((mI M a0 2) + (1 : Int32)), .ref a0]) rfl ?_
  refine e_putI 4 2 rfl rfl (by decide) (aw (i := 195) (by decide +kernel) rfl) rfl ho1 rfl ?_
  generalize hM2 : sI M a0 2 ((mI M a0 2) + (1 : Int32)) = M2
  replace h := h M2 hM2.symm
  replace ho1 : ob M2 a0 4 := hM2 ▸ ob_sI ho1
  refine e_blk 1 10 _ _ (pc' := 11) (L' := [some (.ref a0), none, none, none]) (st' := [.ref a0]) rfl ?_
  refine e_callV (As := []) (rest := []) (ci := 4) rfl (x_X4_look h) ho1 rfl rfl rfl (aw (i := 613) (by decide +kernel) rfl) wn_X4_look wv_X4_look wi_X4_look wc_X4_look (show cok mi_X4_readWord mi_X4_look 0 0 0 = true by decide +kernel) (Nat.le_of_ble_eq_true rfl) (fun v9 M3 hq => ?_) (fun X M9 hq => False.elim hq)
  obtain ⟨r4, rfl, h⟩ := kI_l hq
  refine e_blk 2 14 _ _ (pc' := 16) (L' := [some (.ref a0), some (.int r4), none, none]) (st' := [.int r4]) rfl ?_
  refine e_callS (As := [.int r4]) (rest := []) rfl (x_X4_wordWith h) rfl (aw (i := 621) (by decide +kernel) rfl) ws_X4_wordWith wi_X4_wordWith wc_X4_wordWith (show cok mi_X4_readWord mi_X4_wordWith 0 0 1 = true by decide +kernel) (Nat.le_of_ble_eq_true rfl) (fun v9 M5 hq => ?_) (fun X M9 hq => False.elim (kS_no hq))
  obtain ⟨r6, rfl, h⟩ := kS_l hq
  refine e_blk 3 19 _ _ (pc' := 22) (L' := [some (.ref a0), some (.int r4), some (.ref (gS G r6)), some (.int (0 : Int32))]) (st' := []) rfl ?_
  refine e_drp [true, true, true, true] (L' := [some (.ref a0), some (.int r4), some (.ref (gS G r6)), some (.int (0 : Int32))]) rfl ?_
  obtain ⟨y, h⟩ := h
  exact x_X4_readWord_22  y _ _ _ _ _ h
def V_X4_readNumber_137 (K : Rs → Mm → Prop)  (M : Mm) (l5 : Int32) : Prop := K (.inl (some (.int l5))) M
set_option maxRecDepth 100000 in
set_option maxHeartbeats 4000000 in
theorem x_X4_readNumber_137 {G : Gx} {K : Rs → Mm → Prop}  {M : Mm} {l5 : Int32} (h : V_X4_readNumber_137 K  M l5) : E G mi_X4_readNumber K M 0 0 137 [none, none, none, none, none, some (.int l5), none] [] := by
  unfold V_X4_readNumber_137 at h
  refine e_blk 1 137 _ _ (pc' := 139) (L' := [none, none, none, none, none, some (.int l5), none]) (st' := [.int l5]) rfl ?_
  exact e_reti rfl rfl (by decide) (by decide) h
def V_X4_readNumber_130 (K : Rs → Mm → Prop)  (M : Mm) (l0 : Nat) (l4 : Int32) (l5 : Int32) : Prop := (ob M l0 4 ∧ V_X4_fail (kV (fun M2 => V_X4_readNumber_137 K  M2 l5) (fun _ _ => False)) M l0 (2 : Int32) l4)
set_option maxRecDepth 100000 in
set_option maxHeartbeats 4000000 in
theorem x_X4_readNumber_130 {G : Gx} {K : Rs → Mm → Prop}  {M : Mm} {l0 : Nat} {l4 : Int32} {l5 : Int32} (h : V_X4_readNumber_130 K  M l0 l4 l5) : E G mi_X4_readNumber K M 0 0 130 [some (.ref l0), none, none, none, some (.int l4), some (.int l5), none] [] := by
  unfold V_X4_readNumber_130 at h
  refine e_blk 3 130 _ _ (pc' := 134) (L' := [some (.ref l0), none, none, none, some (.int l4), some (.int l5), none]) (st' := [.int l4, .int (2 : Int32), .ref l0]) rfl ?_
  obtain ⟨ho1, h⟩ := h
  refine e_callV (As := [.int (2 : Int32), .int l4]) (rest := []) (ci := 4) rfl (x_X4_fail h) ho1 rfl rfl rfl (aw (i := 677) (by decide +kernel) rfl) wn_X4_fail wv_X4_fail wi_X4_fail wc_X4_fail (show cok mi_X4_readNumber mi_X4_fail 0 0 2 = true by decide +kernel) (Nat.le_of_ble_eq_true rfl) (fun v9 M2 hq => ?_) (fun X M9 hq => False.elim hq)
  obtain ⟨rfl, h⟩ := kV_l hq
  refine e_drp [false, false, false, false, false, true, false] (L' := [none, none, none, none, none, some (.int l5), none]) rfl ?_
  exact x_X4_readNumber_137  h
def V_X4_readNumber_106 (K : Rs → Mm → Prop)  (M : Mm) (l0 : Nat) (l5 : Int32) : Prop := (ob M l0 4 ∧ V_X4_fail (kV (fun M2 => V_X4_readNumber_137 K  M2 l5) (fun _ _ => False)) M l0 (1 : Int32) (mI M l0 2))
set_option maxRecDepth 100000 in
set_option maxHeartbeats 4000000 in
theorem x_X4_readNumber_106 {G : Gx} {K : Rs → Mm → Prop}  {M : Mm} {l0 : Nat} {l5 : Int32} (h : V_X4_readNumber_106 K  M l0 l5) : E G mi_X4_readNumber K M 0 0 106 [some (.ref l0), none, none, none, none, some (.int l5), none] [] := by
  unfold V_X4_readNumber_106 at h
  refine e_blk 3 106 _ _ (pc' := 109) (L' := [some (.ref l0), none, none, none, none, some (.int l5), none]) (st' := [.ref l0, .int (1 : Int32), .ref l0]) rfl ?_
  obtain ⟨ho1, h⟩ := h
  refine e_getI 4 2 rfl rfl (by decide) (aw (i := 195) (by decide +kernel) rfl) ho1 rfl ?_
  refine e_callV (As := [.int (1 : Int32), .int (mI M l0 2)]) (rest := []) (ci := 4) rfl (x_X4_fail h) ho1 rfl rfl rfl (aw (i := 677) (by decide +kernel) rfl) wn_X4_fail wv_X4_fail wi_X4_fail wc_X4_fail (show cok mi_X4_readNumber mi_X4_fail 0 0 2 = true by decide +kernel) (Nat.le_of_ble_eq_true rfl) (fun v9 M2 hq => ?_) (fun X M9 hq => False.elim hq)
  obtain ⟨rfl, h⟩ := kV_l hq
  refine e_blk 1 115 _ _ (pc' := 137) (L' := [some (.ref l0), none, none, none, none, some (.int l5), none]) (st' := []) rfl ?_
  refine e_drp [false, false, false, false, false, true, false] (L' := [none, none, none, none, none, some (.int l5), none]) rfl ?_
  exact x_X4_readNumber_137  h
def V_X4_readNumber_90 (K : Rs → Mm → Prop)  (M : Mm) (l0 : Nat) (l2 : Int32) (l3 : Int32) (l4 : Int32) (l5 : Int32) (s0 : Int32) : Prop := (ob M l0 4 ∧ (((mI M l0 2) = l4 → V_X4_readNumber_106 K  M l0 l5) ∧ (¬ (mI M l0 2) = l4 → ((s0 = 0 → ((l5 < l2 → V_X4_readNumber_130 K  M l0 l4 l5) ∧ (¬ l5 < l2 → ((l5 ≤ l3 → V_X4_readNumber_137 K  M l5) ∧ (¬ l5 ≤ l3 → V_X4_readNumber_130 K  M l0 l4 l5))))) ∧ (¬ s0 = 0 → V_X4_readNumber_106 K  M l0 l5)))))
set_option maxRecDepth 100000 in
set_option maxHeartbeats 4000000 in
theorem x_X4_readNumber_90 {G : Gx} {K : Rs → Mm → Prop}  {M : Mm} {l0 : Nat} {l2 : Int32} {l3 : Int32} {l4 : Int32} {l5 : Int32} {s0 : Int32} (h : V_X4_readNumber_90 K  M l0 l2 l3 l4 l5 s0) : E G mi_X4_readNumber K M 0 0 90 [some (.ref l0), none, some (.int l2), some (.int l3), some (.int l4), some (.int l5), none] [.int s0] := by
  unfold V_X4_readNumber_90 at h
  refine e_blk 2 90 _ _ (pc' := 93) (L' := [some (.ref l0), none, some (.int l2), some (.int l3), some (.int l4), some (.int l5), some (.int s0)]) (st' := [.ref l0]) rfl ?_
  obtain ⟨ho1, h⟩ := h
  refine e_getI 4 2 rfl rfl (by decide) (aw (i := 195) (by decide +kernel) rfl) ho1 rfl ?_
  refine e_blk 1 96 _ _ (pc' := 98) (L' := [some (.ref l0), none, some (.int l2), some (.int l3), some (.int l4), some (.int l5), some (.int s0)]) (st' := [.int l4, .int (mI M l0 2)]) rfl ?_
  refine e_icmp_eq 106 rfl rfl (fun hc => ?_) (fun hc => ?_)
  · replace h := h.1 hc
    refine e_drp [true, false, false, false, false, true, false] (L' := [some (.ref l0), none, none, none, none, some (.int l5), none]) rfl ?_
    exact x_X4_readNumber_106  h
  · replace h := h.2 hc
    refine e_blk 1 101 _ _ (pc' := 103) (L' := [some (.ref l0), none, some (.int l2), some (.int l3), some (.int l4), some (.int l5), some (.int s0)]) (st' := [.int s0]) rfl ?_
    refine e_if_eq 118 rfl rfl (fun hc => ?_) (fun hc => ?_)
    · replace h := h.1 hc
      refine e_blk 2 118 _ _ (pc' := 121) (L' := [some (.ref l0), none, some (.int l2), some (.int l3), some (.int l4), some (.int l5), some (.int s0)]) (st' := [.int l2, .int l5]) rfl ?_
      refine e_icmp_lt 130 rfl rfl (fun hc => ?_) (fun hc => ?_)
      · replace h := h.1 hc
        refine e_drp [true, false, false, false, true, true, false] (L' := [some (.ref l0), none, none, none, some (.int l4), some (.int l5), none]) rfl ?_
        exact x_X4_readNumber_130  h
      · replace h := h.2 hc
        refine e_blk 2 124 _ _ (pc' := 127) (L' := [some (.ref l0), none, some (.int l2), some (.int l3), some (.int l4), some (.int l5), some (.int s0)]) (st' := [.int l3, .int l5]) rfl ?_
        refine e_icmp_le 137 rfl rfl (fun hc => ?_) (fun hc => ?_)
        · replace h := h.1 hc
          refine e_drp [false, false, false, false, false, true, false] (L' := [none, none, none, none, none, some (.int l5), none]) rfl ?_
          exact x_X4_readNumber_137  h
        · replace h := h.2 hc
          refine e_drp [true, false, false, false, true, true, false] (L' := [some (.ref l0), none, none, none, some (.int l4), some (.int l5), none]) rfl ?_
          exact x_X4_readNumber_130  h
    · replace h := h.2 hc
      refine e_drp [true, false, false, false, false, true, false] (L' := [some (.ref l0), none, none, none, none, some (.int l5), none]) rfl ?_
      exact x_X4_readNumber_106  h
def V_X4_readNumber_89 (K : Rs → Mm → Prop)  (M : Mm) (l0 : Nat) (l2 : Int32) (l3 : Int32) (l4 : Int32) (l5 : Int32) : Prop := V_X4_readNumber_90 K  M l0 l2 l3 l4 l5 (0 : Int32)
set_option maxRecDepth 100000 in
set_option maxHeartbeats 4000000 in
theorem x_X4_readNumber_89 {G : Gx} {K : Rs → Mm → Prop}  {M : Mm} {l0 : Nat} {l2 : Int32} {l3 : Int32} {l4 : Int32} {l5 : Int32} (h : V_X4_readNumber_89 K  M l0 l2 l3 l4 l5) : E G mi_X4_readNumber K M 0 0 89 [some (.ref l0), none, some (.int l2), some (.int l3), some (.int l4), some (.int l5), none] [] := by
  unfold V_X4_readNumber_89 at h
  refine e_blk 1 89 _ _ (pc' := 90) (L' := [some (.ref l0), none, some (.int l2), some (.int l3), some (.int l4), some (.int l5), none]) (st' := [.int (0 : Int32)]) rfl ?_
  refine e_drp [true, false, true, true, true, true, false] (L' := [some (.ref l0), none, some (.int l2), some (.int l3), some (.int l4), some (.int l5), none]) rfl ?_
  exact x_X4_readNumber_90  h
def V_X4_readNumber_67 (K : Rs → Mm → Prop)  (M : Mm) (l0 : Nat) (l2 : Int32) (l3 : Int32) (l4 : Int32) (l5 : Int32) : Prop := (ob M l0 4 ∧ V_X4_look (kI (fun r3 M2 => ((r3 < (48 : Int32) → V_X4_readNumber_89 K  M2 l0 l2 l3 l4 l5) ∧ (¬ r3 < (48 : Int32) → (ob M2 l0 4 ∧ V_X4_look (kI (fun r6 M5 => (((57 : Int32) < r6 → V_X4_readNumber_89 K  M5 l0 l2 l3 l4 l5) ∧ (¬ (57 : Int32) < r6 → V_X4_readNumber_90 K  M5 l0 l2 l3 l4 l5 (1 : Int32)))) (fun _ _ => False)) M2 l0)))) (fun _ _ => False)) M l0)
set_option maxRecDepth 100000 in
set_option maxHeartbeats 4000000 in
theorem x_X4_readNumber_67 {G : Gx} {K : Rs → Mm → Prop}  {M : Mm} {l0 : Nat} {l2 : Int32} {l3 : Int32} {l4 : Int32} {l5 : Int32} (h : V_X4_readNumber_67 K  M l0 l2 l3 l4 l5) : E G mi_X4_readNumber K M 0 0 67 [some (.ref l0), none, some (.int l2), some (.int l3), some (.int l4), some (.int l5), none] [] := by
  unfold V_X4_readNumber_67 at h
  refine e_blk 1 67 _ _ (pc' := 68) (L' := [some (.ref l0), none, some (.int l2), some (.int l3), some (.int l4), some (.int l5), none]) (st' := [.ref l0]) rfl ?_
  obtain ⟨ho1, h⟩ := h
  refine e_callV (As := []) (rest := []) (ci := 4) rfl (x_X4_look h) ho1 rfl rfl rfl (aw (i := 613) (by decide +kernel) rfl) wn_X4_look wv_X4_look wi_X4_look wc_X4_look (show cok mi_X4_readNumber mi_X4_look 0 0 0 = true by decide +kernel) (Nat.le_of_ble_eq_true rfl) (fun v9 M2 hq => ?_) (fun X M9 hq => False.elim hq)
  obtain ⟨r3, rfl, h⟩ := kI_l hq
  refine e_blk 1 71 _ _ (pc' := 73) (L' := [some (.ref l0), none, some (.int l2), some (.int l3), some (.int l4), some (.int l5), none]) (st' := [.int (48 : Int32), .int r3]) rfl ?_
  refine e_icmp_lt 89 rfl rfl (fun hc => ?_) (fun hc => ?_)
  · replace h := h.1 hc
    refine e_drp [true, false, true, true, true, true, false] (L' := [some (.ref l0), none, some (.int l2), some (.int l3), some (.int l4), some (.int l5), none]) rfl ?_
    exact x_X4_readNumber_89  h
  · replace h := h.2 hc
    refine e_blk 1 76 _ _ (pc' := 77) (L' := [some (.ref l0), none, some (.int l2), some (.int l3), some (.int l4), some (.int l5), none]) (st' := [.ref l0]) rfl ?_
    obtain ⟨ho4, h⟩ := h
    refine e_callV (As := []) (rest := []) (ci := 4) rfl (x_X4_look h) ho4 rfl rfl rfl (aw (i := 613) (by decide +kernel) rfl) wn_X4_look wv_X4_look wi_X4_look wc_X4_look (show cok mi_X4_readNumber mi_X4_look 0 0 0 = true by decide +kernel) (Nat.le_of_ble_eq_true rfl) (fun v9 M5 hq => ?_) (fun X M9 hq => False.elim hq)
    obtain ⟨r6, rfl, h⟩ := kI_l hq
    refine e_blk 1 80 _ _ (pc' := 82) (L' := [some (.ref l0), none, some (.int l2), some (.int l3), some (.int l4), some (.int l5), none]) (st' := [.int (57 : Int32), .int r6]) rfl ?_
    refine e_icmp_gt 89 rfl rfl (fun hc => ?_) (fun hc => ?_)
    · replace h := h.1 hc
      refine e_drp [true, false, true, true, true, true, false] (L' := [some (.ref l0), none, some (.int l2), some (.int l3), some (.int l4), some (.int l5), none]) rfl ?_
      exact x_X4_readNumber_89  h
    · replace h := h.2 hc
      refine e_blk 2 85 _ _ (pc' := 90) (L' := [some (.ref l0), none, some (.int l2), some (.int l3), some (.int l4), some (.int l5), none]) (st' := [.int (1 : Int32)]) rfl ?_
      refine e_drp [true, false, true, true, true, true, false] (L' := [some (.ref l0), none, some (.int l2), some (.int l3), some (.int l4), some (.int l5), none]) rfl ?_
      exact x_X4_readNumber_90  h
def V_X4_readNumber_12 (K : Rs → Mm → Prop)  : Nat → Mm → Nat → Int32 → Int32 → Int32 → Int32 → Int32 → Int32 → Prop
  | 0, _, _, _, _, _, _, _, _ => False
  | z + 1, M, l0, l1, l2, l3, l4, l5, l6 => ((l1 ≤ l6 → V_X4_readNumber_67 K  M l0 l2 l3 l4 l5) ∧ (¬ l1 ≤ l6 → (ob M l0 4 ∧ V_X4_look (kI (fun r3 M2 => ((r3 < (48 : Int32) → V_X4_readNumber_67 K  M2 l0 l2 l3 l4 l5) ∧ (¬ r3 < (48 : Int32) → (ob M2 l0 4 ∧ V_X4_look (kI (fun r6 M5 => (((57 : Int32) < r6 → V_X4_readNumber_67 K  M5 l0 l2 l3 l4 l5) ∧ (¬ (57 : Int32) < r6 → (ob M5 l0 4 ∧ V_X4_look (kI (fun r9 M8 => ∀ x10 : Int32, x10 = (((l5 * (10 : Int32)) + r9) - (48 : Int32)) → (ob M8 l0 4 ∧ ∀ M12, M12 = sI M8 l0 2 ((mI M8 l0 2) + (1 : Int32)) → ∀ x13 : Int32, x13 = (l6 + (1 : Int32)) → V_X4_readNumber_12 K  z M12 l0 l1 l2 l3 l4 x10 x13)) (fun _ _ => False)) M5 l0)))) (fun _ _ => False)) M2 l0)))) (fun _ _ => False)) M l0)))
set_option maxRecDepth 100000 in
set_option maxHeartbeats 4000000 in
theorem x_X4_readNumber_12 {G : Gx} {K : Rs → Mm → Prop}  : ∀ (z : Nat) (M : Mm) (l0 : Nat) (l1 : Int32) (l2 : Int32) (l3 : Int32) (l4 : Int32) (l5 : Int32) (l6 : Int32), V_X4_readNumber_12 K  z M l0 l1 l2 l3 l4 l5 l6 → E G mi_X4_readNumber K M 0 0 12 [some (.ref l0), some (.int l1), some (.int l2), some (.int l3), some (.int l4), some (.int l5), some (.int l6)] []
  | 0, M, l0, l1, l2, l3, l4, l5, l6, h => False.elim h
  | z + 1, M, l0, l1, l2, l3, l4, l5, l6, h => by
    unfold V_X4_readNumber_12 at h
    refine e_blk 2 12 _ _ (pc' := 15) (L' := [some (.ref l0), some (.int l1), some (.int l2), some (.int l3), some (.int l4), some (.int l5), some (.int l6)]) (st' := [.int l1, .int l6]) rfl ?_
    refine e_icmp_ge 67 rfl rfl (fun hc => ?_) (fun hc => ?_)
    · replace h := h.1 hc
      refine e_drp [true, false, true, true, true, true, false] (L' := [some (.ref l0), none, some (.int l2), some (.int l3), some (.int l4), some (.int l5), none]) rfl ?_
      exact x_X4_readNumber_67  h
    · replace h := h.2 hc
      refine e_blk 1 18 _ _ (pc' := 19) (L' := [some (.ref l0), some (.int l1), some (.int l2), some (.int l3), some (.int l4), some (.int l5), some (.int l6)]) (st' := [.ref l0]) rfl ?_
      obtain ⟨ho1, h⟩ := h
      refine e_callV (As := []) (rest := []) (ci := 4) rfl (x_X4_look h) ho1 rfl rfl rfl (aw (i := 613) (by decide +kernel) rfl) wn_X4_look wv_X4_look wi_X4_look wc_X4_look (show cok mi_X4_readNumber mi_X4_look 0 0 0 = true by decide +kernel) (Nat.le_of_ble_eq_true rfl) (fun v9 M2 hq => ?_) (fun X M9 hq => False.elim hq)
      obtain ⟨r3, rfl, h⟩ := kI_l hq
      refine e_blk 1 22 _ _ (pc' := 24) (L' := [some (.ref l0), some (.int l1), some (.int l2), some (.int l3), some (.int l4), some (.int l5), some (.int l6)]) (st' := [.int (48 : Int32), .int r3]) rfl ?_
      refine e_icmp_lt 67 rfl rfl (fun hc => ?_) (fun hc => ?_)
      · replace h := h.1 hc
        refine e_drp [true, false, true, true, true, true, false] (L' := [some (.ref l0), none, some (.int l2), some (.int l3), some (.int l4), some (.int l5), none]) rfl ?_
        exact x_X4_readNumber_67  h
      · replace h := h.2 hc
        refine e_blk 1 27 _ _ (pc' := 28) (L' := [some (.ref l0), some (.int l1), some (.int l2), some (.int l3), some (.int l4), some (.int l5), some (.int l6)]) (st' := [.ref l0]) rfl ?_
        obtain ⟨ho4, h⟩ := h
        refine e_callV (As := []) (rest := []) (ci := 4) rfl (x_X4_look h) ho4 rfl rfl rfl (aw (i := 613) (by decide +kernel) rfl) wn_X4_look wv_X4_look wi_X4_look wc_X4_look (show cok mi_X4_readNumber mi_X4_look 0 0 0 = true by decide +kernel) (Nat.le_of_ble_eq_true rfl) (fun v9 M5 hq => ?_) (fun X M9 hq => False.elim hq)
        obtain ⟨r6, rfl, h⟩ := kI_l hq
        refine e_blk 1 31 _ _ (pc' := 33) (L' := [some (.ref l0), some (.int l1), some (.int l2), some (.int l3), some (.int l4), some (.int l5), some (.int l6)]) (st' := [.int (57 : Int32), .int r6]) rfl ?_
        refine e_icmp_gt 67 rfl rfl (fun hc => ?_) (fun hc => ?_)
        · replace h := h.1 hc
          refine e_drp [true, false, true, true, true, true, false] (L' := [some (.ref l0), none, some (.int l2), some (.int l3), some (.int l4), some (.int l5), none]) rfl ?_
          exact x_X4_readNumber_67  h
        · replace h := h.2 hc
          refine e_blk 4 36 _ _ (pc' := 42) (L' := [some (.ref l0), some (.int l1), some (.int l2), some (.int l3), some (.int l4), some (.int l5), some (.int l6)]) (st' := [.ref l0, .int (l5 * (10 : Int32))]) rfl ?_
          obtain ⟨ho7, h⟩ := h
          refine e_callV (As := []) (rest := [.int (l5 * (10 : Int32))]) (ci := 4) rfl (x_X4_look h) ho7 rfl rfl rfl (aw (i := 613) (by decide +kernel) rfl) wn_X4_look wv_X4_look wi_X4_look wc_X4_look (show cok mi_X4_readNumber mi_X4_look 0 0 0 = true by decide +kernel) (Nat.le_of_ble_eq_true rfl) (fun v9 M8 hq => ?_) (fun X M9 hq => False.elim hq)
          obtain ⟨r9, rfl, h⟩ := kI_l hq
          refine e_blk 6 45 _ _ (pc' := 53) (L' := [some (.ref l0), some (.int l1), some (.int l2), some (.int l3), some (.int l4), some (.int (((l5 * (10 : Int32)) + r9) - (48 : Int32))), some (.int l6)]) (st' := [.ref l0, .ref l0]) rfl ?_
          generalize hx_x10 : ((((l5 * (10 : Int32)) + r9) - (48 : Int32)) : Int32) = x10
          replace h := h x10 hx_x10.symm
          obtain ⟨ho11, h⟩ := h
          refine e_getI 4 2 rfl rfl (by decide) (aw (i := 195) (by decide +kernel) rfl) ho11 rfl ?_
          refine e_blk 2 56 _ _ (pc' := 58) (L' := [some (.ref l0), some (.int l1), some (.int l2), some (.int l3), some (.int l4), some (.int x10), some (.int l6)]) (st' := [.int ((mI M8 l0 2) + (1 : Int32)), .ref l0]) rfl ?_
          refine e_putI 4 2 rfl rfl (by decide) (aw (i := 195) (by decide +kernel) rfl) rfl ho11 rfl ?_
          generalize hM12 : sI M8 l0 2 ((mI M8 l0 2) + (1 : Int32)) = M12
          replace h := h M12 hM12.symm
          replace ho11 : ob M12 l0 4 := hM12 ▸ ob_sI ho11
          refine e_blk 2 61 _ _ (pc' := 12) (L' := [some (.ref l0), some (.int l1), some (.int l2), some (.int l3), some (.int l4), some (.int x10), some (.int (l6 + (1 : Int32)))]) (st' := []) rfl ?_
          generalize hx_x13 : ((l6 + (1 : Int32)) : Int32) = x13
          replace h := h x13 hx_x13.symm
          refine e_drp [true, true, true, true, true, true, true] (L' := [some (.ref l0), some (.int l1), some (.int l2), some (.int l3), some (.int l4), some (.int x10), some (.int x13)]) rfl ?_
          exact x_X4_readNumber_12  z _ _ _ _ _ _ _ _ h
def V_X4_readNumber (K : Rs → Mm → Prop) (M : Mm) (a0 : Nat) (a1 : Int32) (a2 : Int32) (a3 : Int32) : Prop := (ob M a0 4 ∧ ∀ x2 : Int32, x2 = (mI M a0 2) → ∃ y, V_X4_readNumber_12 K  y M a0 a1 a2 a3 x2 (0 : Int32) (0 : Int32))
set_option maxRecDepth 100000 in
set_option maxHeartbeats 4000000 in
theorem x_X4_readNumber {G : Gx} {K : Rs → Mm → Prop} {M : Mm} {a0 : Nat} {a1 : Int32} {a2 : Int32} {a3 : Int32} (h : V_X4_readNumber K M a0 a1 a2 a3) : MC G mi_X4_readNumber [.ref a0, .int a1, .int a2, .int a3] M K := by
  unfold V_X4_readNumber at h
  refine mc_of rfl (by decide +kernel) dc_X4_readNumber (Nat.le_of_ble_eq_true rfl) 3 (Nat.le_of_ble_eq_true rfl) ?_
  show E G mi_X4_readNumber K M 0 0 0 [some (.ref a0), some (.int a1), some (.int a2), some (.int a3), none, none, none] []
  refine e_blk 1 0 _ _ (pc' := 1) (L' := [some (.ref a0), some (.int a1), some (.int a2), some (.int a3), none, none, none]) (st' := [.ref a0]) rfl ?_
  obtain ⟨ho1, h⟩ := h
  refine e_getI 4 2 rfl rfl (by decide) (aw (i := 195) (by decide +kernel) rfl) ho1 rfl ?_
  refine e_blk 5 4 _ _ (pc' := 12) (L' := [some (.ref a0), some (.int a1), some (.int a2), some (.int a3), some (.int (mI M a0 2)), some (.int (0 : Int32)), some (.int (0 : Int32))]) (st' := []) rfl ?_
  generalize hx_x2 : ((mI M a0 2) : Int32) = x2
  replace h := h x2 hx_x2.symm
  refine e_drp [true, true, true, true, true, true, true] (L' := [some (.ref a0), some (.int a1), some (.int a2), some (.int a3), some (.int x2), some (.int (0 : Int32)), some (.int (0 : Int32))]) rfl ?_
  obtain ⟨y, h⟩ := h
  exact x_X4_readNumber_12  y _ _ _ _ _ _ _ _ h
def V_X4_addStretch_59 (K : Rs → Mm → Prop)  (M : Mm)  : Prop := K (.inl none) M
set_option maxRecDepth 100000 in
set_option maxHeartbeats 4000000 in
theorem x_X4_addStretch_59 {G : Gx} {K : Rs → Mm → Prop}  {M : Mm}  (h : V_X4_addStretch_59 K  M ) : E G mi_X4_addStretch K M 0 0 59 [none, none, none, none, none] [] := by
  unfold V_X4_addStretch_59 at h
  exact e_ret rfl rfl (by decide) (by decide) h
def V_X4_addStretch_40 (K : Rs → Mm → Prop)  (M : Mm) (l0 : Nat) (l1 : Int32) (l2 : Int32) (l3 : Int32) (l4 : Int32) : Prop := (ob M l0 4 ∧ ((¬ (mI M l0 3) = 0 → V_X4_addStretch_59 K  M ) ∧ ((mI M l0 3) = 0 → ∃ b2, mP M l0 5 = some b2 ∧ (ob M b2 3 ∧ V_X3_add (kV (fun M4 => V_X4_addStretch_59 K  M4 ) (fun _ _ => False)) M b2 l1 l2 l3 l4))))
set_option maxRecDepth 100000 in
set_option maxHeartbeats 4000000 in
theorem x_X4_addStretch_40 {G : Gx} {K : Rs → Mm → Prop}  {M : Mm} {l0 : Nat} {l1 : Int32} {l2 : Int32} {l3 : Int32} {l4 : Int32} (h : V_X4_addStretch_40 K  M l0 l1 l2 l3 l4) : E G mi_X4_addStretch K M 0 0 40 [some (.ref l0), some (.int l1), some (.int l2), some (.int l3), some (.int l4)] [] := by
  unfold V_X4_addStretch_40 at h
  refine e_blk 1 40 _ _ (pc' := 41) (L' := [some (.ref l0), some (.int l1), some (.int l2), some (.int l3), some (.int l4)]) (st' := [.ref l0]) rfl ?_
  obtain ⟨ho1, h⟩ := h
  refine e_getI 4 3 rfl rfl (by decide) (aw (i := 196) (by decide +kernel) rfl) ho1 rfl ?_
  refine e_if_ne 59 rfl rfl (fun hc => ?_) (fun hc => ?_)
  · replace h := h.1 hc
    refine e_drp [false, false, false, false, false] (L' := [none, none, none, none, none]) rfl ?_
    exact x_X4_addStretch_59  h
  · replace h := h.2 hc
    refine e_blk 1 47 _ _ (pc' := 48) (L' := [some (.ref l0), some (.int l1), some (.int l2), some (.int l3), some (.int l4)]) (st' := [.ref l0]) rfl ?_
    obtain ⟨b2, hbb2, h⟩ := h
    refine e_getR 4 5 rfl rfl (by decide) (aw (i := 199) (by decide +kernel) rfl) ho1 rfl hbb2 ?_
    refine e_blk 4 51 _ _ (pc' := 56) (L' := [some (.ref l0), some (.int l1), some (.int l2), some (.int l3), some (.int l4)]) (st' := [.int l4, .int l3, .int l2, .int l1, .ref b2]) rfl ?_
    obtain ⟨ho3, h⟩ := h
    refine e_callV (As := [.int l1, .int l2, .int l3, .int l4]) (rest := []) (ci := 3) rfl (x_X3_add h) ho3 rfl rfl rfl (aw (i := 681) (by decide +kernel) rfl) wn_X3_add wv_X3_add wi_X3_add wc_X3_add (show cok mi_X4_addStretch mi_X3_add 0 0 4 = true by decide +kernel) (Nat.le_of_ble_eq_true rfl) (fun v9 M4 hq => ?_) (fun X M9 hq => False.elim hq)
    obtain ⟨rfl, h⟩ := kV_l hq
    refine e_drp [false, false, false, false, false] (L' := [none, none, none, none, none]) rfl ?_
    exact x_X4_addStretch_59  h
def V_X4_addStretch (K : Rs → Mm → Prop) (M : Mm) (a0 : Nat) (a1 : Int32) (a2 : Int32) (a3 : Int32) : Prop := (ob M a0 4 ∧ ((¬ (mI M a0 3) = 0 → V_X4_addStretch_40 K  M a0 a1 a2 a3 (1 : Int32)) ∧ ((mI M a0 3) = 0 → V_X4_look (kI (fun r3 M2 => ((¬ r3 = (47 : Int32) → V_X4_addStretch_40 K  M2 a0 a1 a2 a3 (1 : Int32)) ∧ (r3 = (47 : Int32) → (ob M2 a0 4 ∧ ∀ M5, M5 = sI M2 a0 2 ((mI M2 a0 2) + (1 : Int32)) → V_X4_readNumber (kI (fun r7 M6 => V_X4_addStretch_40 K  M6 a0 a1 a2 a3 r7) (fun _ _ => False)) M5 a0 (4 : Int32) (1 : Int32) (1000 : Int32))))) (fun _ _ => False)) M a0)))
set_option maxRecDepth 100000 in
set_option maxHeartbeats 4000000 in
theorem x_X4_addStretch {G : Gx} {K : Rs → Mm → Prop} {M : Mm} {a0 : Nat} {a1 : Int32} {a2 : Int32} {a3 : Int32} (h : V_X4_addStretch K M a0 a1 a2 a3) : MC G mi_X4_addStretch [.ref a0, .int a1, .int a2, .int a3] M K := by
  unfold V_X4_addStretch at h
  refine mc_of rfl (by decide +kernel) dc_X4_addStretch (Nat.le_of_ble_eq_true rfl) 1 (Nat.le_of_ble_eq_true rfl) ?_
  show E G mi_X4_addStretch K M 0 0 0 [some (.ref a0), some (.int a1), some (.int a2), some (.int a3), none] []
  refine e_blk 3 0 _ _ (pc' := 4) (L' := [some (.ref a0), some (.int a1), some (.int a2), some (.int a3), some (.int (1 : Int32))]) (st' := [.ref a0]) rfl ?_
  obtain ⟨ho1, h⟩ := h
  refine e_getI 4 3 rfl rfl (by decide) (aw (i := 196) (by decide +kernel) rfl) ho1 rfl ?_
  refine e_if_ne 40 rfl rfl (fun hc => ?_) (fun hc => ?_)
  · replace h := h.1 hc
    refine e_drp [true, true, true, true, true] (L' := [some (.ref a0), some (.int a1), some (.int a2), some (.int a3), some (.int (1 : Int32))]) rfl ?_
    exact x_X4_addStretch_40  h
  · replace h := h.2 hc
    refine e_blk 1 10 _ _ (pc' := 11) (L' := [some (.ref a0), some (.int a1), some (.int a2), some (.int a3), some (.int (1 : Int32))]) (st' := [.ref a0]) rfl ?_
    refine e_callV (As := []) (rest := []) (ci := 4) rfl (x_X4_look h) ho1 rfl rfl rfl (aw (i := 613) (by decide +kernel) rfl) wn_X4_look wv_X4_look wi_X4_look wc_X4_look (show cok mi_X4_addStretch mi_X4_look 0 0 0 = true by decide +kernel) (Nat.le_of_ble_eq_true rfl) (fun v9 M2 hq => ?_) (fun X M9 hq => False.elim hq)
    obtain ⟨r3, rfl, h⟩ := kI_l hq
    refine e_blk 1 14 _ _ (pc' := 16) (L' := [some (.ref a0), some (.int a1), some (.int a2), some (.int a3), some (.int (1 : Int32))]) (st' := [.int (47 : Int32), .int r3]) rfl ?_
    refine e_icmp_ne 40 rfl rfl (fun hc => ?_) (fun hc => ?_)
    · replace h := h.1 hc
      refine e_drp [true, true, true, true, true] (L' := [some (.ref a0), some (.int a1), some (.int a2), some (.int a3), some (.int (1 : Int32))]) rfl ?_
      exact x_X4_addStretch_40  h
    · replace h := h.2 hc
      refine e_blk 2 19 _ _ (pc' := 21) (L' := [some (.ref a0), some (.int a1), some (.int a2), some (.int a3), some (.int (1 : Int32))]) (st' := [.ref a0, .ref a0]) rfl ?_
      obtain ⟨ho4, h⟩ := h
      refine e_getI 4 2 rfl rfl (by decide) (aw (i := 195) (by decide +kernel) rfl) ho4 rfl ?_
      refine e_blk 2 24 _ _ (pc' := 26) (L' := [some (.ref a0), some (.int a1), some (.int a2), some (.int a3), some (.int (1 : Int32))]) (st' := [.int ((mI M2 a0 2) + (1 : Int32)), .ref a0]) rfl ?_
      refine e_putI 4 2 rfl rfl (by decide) (aw (i := 195) (by decide +kernel) rfl) rfl ho4 rfl ?_
      generalize hM5 : sI M2 a0 2 ((mI M2 a0 2) + (1 : Int32)) = M5
      replace h := h M5 hM5.symm
      replace ho4 : ob M5 a0 4 := hM5 ▸ ob_sI ho4
      refine e_blk 4 29 _ _ (pc' := 35) (L' := [some (.ref a0), some (.int a1), some (.int a2), some (.int a3), some (.int (1 : Int32))]) (st' := [.int (1000 : Int32), .int (1 : Int32), .int (4 : Int32), .ref a0]) rfl ?_
      refine e_callV (As := [.int (4 : Int32), .int (1 : Int32), .int (1000 : Int32)]) (rest := []) (ci := 4) rfl (x_X4_readNumber h) ho4 rfl rfl rfl (aw (i := 705) (by decide +kernel) rfl) wn_X4_readNumber wv_X4_readNumber wi_X4_readNumber wc_X4_readNumber (show cok mi_X4_addStretch mi_X4_readNumber 0 0 3 = true by decide +kernel) (Nat.le_of_ble_eq_true rfl) (fun v9 M6 hq => ?_) (fun X M9 hq => False.elim hq)
      obtain ⟨r7, rfl, h⟩ := kI_l hq
      refine e_blk 1 38 _ _ (pc' := 40) (L' := [some (.ref a0), some (.int a1), some (.int a2), some (.int a3), some (.int r7)]) (st' := []) rfl ?_
      refine e_drp [true, true, true, true, true] (L' := [some (.ref a0), some (.int a1), some (.int a2), some (.int a3), some (.int r7)]) rfl ?_
      exact x_X4_addStretch_40  h
def V_X4_readLastDay_87 (K : Rs → Mm → Prop)  (M : Mm)  : Prop := K (.inl none) M
set_option maxRecDepth 100000 in
set_option maxHeartbeats 4000000 in
theorem x_X4_readLastDay_87 {G : Gx} {K : Rs → Mm → Prop}  {M : Mm}  (h : V_X4_readLastDay_87 K  M ) : E G mi_X4_readLastDay K M 0 0 87 [none] [] := by
  unfold V_X4_readLastDay_87 at h
  exact e_ret rfl rfl (by decide) (by decide) h
def V_X4_readLastDay (K : Rs → Mm → Prop) (M : Mm) (a0 : Nat) : Prop := (ob M a0 4 ∧ V_X4_look (kI (fun r3 M2 => ((¬ r3 = (87 : Int32) → (ob M2 a0 4 ∧ V_X4_look (kI (fun r6 M5 => ((¬ r6 = (45 : Int32) → (ob M5 a0 4 ∧ ∃ b8, mP M5 a0 5 = some b8 ∧ (ob M5 b8 3 ∧ ∀ M10, M10 = sJ M5 b8 6 ((mJ M5 b8 6) ||| (1 : Int64)) → V_X4_readLastDay_87 K  M10 ))) ∧ (r6 = (45 : Int32) → (ob M5 a0 4 ∧ ∀ M12, M12 = sI M5 a0 2 ((mI M5 a0 2) + (1 : Int32)) → ∃ b13, mP M12 a0 5 = some b13 ∧ (ob M12 b13 3 ∧ V_X4_readNumber (kI (fun r16 M15 => (ob M15 b13 3 ∧ ∀ M18, M18 = sJ M15 b13 6 ((mJ M12 b13 6) ||| ((1 : Int64) <<< ((r16).toInt64 &&& 63))) → V_X4_readLastDay_87 K  M18 )) (fun _ _ => False)) M12 a0 (2 : Int32) (1 : Int32) (30 : Int32)))))) (fun _ _ => False)) M2 a0)) ∧ (r3 = (87 : Int32) → (ob M2 a0 4 ∧ ∀ M20, M20 = sI M2 a0 2 ((mI M2 a0 2) + (1 : Int32)) → ∃ b21, mP M20 a0 5 = some b21 ∧ (ob M20 b21 3 ∧ ∀ M23, M23 = sI M20 b21 7 (1 : Int32) → V_X4_readLastDay_87 K  M23 ))))) (fun _ _ => False)) M a0)
set_option maxRecDepth 100000 in
set_option maxHeartbeats 4000000 in
theorem x_X4_readLastDay {G : Gx} {K : Rs → Mm → Prop} {M : Mm} {a0 : Nat} (h : V_X4_readLastDay K M a0) : MC G mi_X4_readLastDay [.ref a0] M K := by
  unfold V_X4_readLastDay at h
  refine mc_of rfl (by decide +kernel) dc_X4_readLastDay (Nat.le_of_ble_eq_true rfl) 0 (Nat.le_of_ble_eq_true rfl) ?_
  show E G mi_X4_readLastDay K M 0 0 0 [some (.ref a0)] []
  refine e_blk 1 0 _ _ (pc' := 1) (L' := [some (.ref a0)]) (st' := [.ref a0]) rfl ?_
  obtain ⟨ho1, h⟩ := h
  refine e_callV (As := []) (rest := []) (ci := 4) rfl (x_X4_look h) ho1 rfl rfl rfl (aw (i := 613) (by decide +kernel) rfl) wn_X4_look wv_X4_look wi_X4_look wc_X4_look (show cok mi_X4_readLastDay mi_X4_look 0 0 0 = true by decide +kernel) (Nat.le_of_ble_eq_true rfl) (fun v9 M2 hq => ?_) (fun X M9 hq => False.elim hq)
  obtain ⟨r3, rfl, h⟩ := kI_l hq
  refine e_blk 1 4 _ _ (pc' := 6) (L' := [some (.ref a0)]) (st' := [.int (87 : Int32), .int r3]) rfl ?_
  refine e_icmp_ne 30 rfl rfl (fun hc => ?_) (fun hc => ?_)
  · replace h := h.1 hc
    refine e_blk 1 30 _ _ (pc' := 31) (L' := [some (.ref a0)]) (st' := [.ref a0]) rfl ?_
    obtain ⟨ho4, h⟩ := h
    refine e_callV (As := []) (rest := []) (ci := 4) rfl (x_X4_look h) ho4 rfl rfl rfl (aw (i := 613) (by decide +kernel) rfl) wn_X4_look wv_X4_look wi_X4_look wc_X4_look (show cok mi_X4_readLastDay mi_X4_look 0 0 0 = true by decide +kernel) (Nat.le_of_ble_eq_true rfl) (fun v9 M5 hq => ?_) (fun X M9 hq => False.elim hq)
    obtain ⟨r6, rfl, h⟩ := kI_l hq
    refine e_blk 1 34 _ _ (pc' := 36) (L' := [some (.ref a0)]) (st' := [.int (45 : Int32), .int r6]) rfl ?_
    refine e_icmp_ne 74 rfl rfl (fun hc => ?_) (fun hc => ?_)
    · replace h := h.1 hc
      refine e_blk 1 74 _ _ (pc' := 75) (L' := [some (.ref a0)]) (st' := [.ref a0]) rfl ?_
      obtain ⟨ho7, h⟩ := h
      obtain ⟨b8, hbb8, h⟩ := h
      refine e_getR 4 5 rfl rfl (by decide) (aw (i := 199) (by decide +kernel) rfl) ho7 rfl hbb8 ?_
      refine e_blk 1 78 _ _ (pc' := 79) (L' := [some (.ref a0)]) (st' := [.ref b8, .ref b8]) rfl ?_
      obtain ⟨ho9, h⟩ := h
      refine e_getJ 3 6 rfl rfl (by decide) (aw (i := 152) (by decide +kernel) rfl) ho9 rfl ?_
      refine e_blk 2 82 _ _ (pc' := 84) (L' := [some (.ref a0)]) (st' := [.long ((mJ M5 b8 6) ||| (1 : Int64)), .ref b8]) rfl ?_
      refine e_putJ 3 6 rfl rfl (by decide) (aw (i := 152) (by decide +kernel) rfl) rfl ho9 rfl ?_
      generalize hM10 : sJ M5 b8 6 ((mJ M5 b8 6) ||| (1 : Int64)) = M10
      replace h := h M10 hM10.symm
      replace ho7 : ob M10 a0 4 := hM10 ▸ ob_sJ ho7
      replace ho9 : ob M10 b8 3 := hM10 ▸ ob_sJ ho9
      refine e_drp [false] (L' := [none]) rfl ?_
      exact x_X4_readLastDay_87  h
    · replace h := h.2 hc
      refine e_blk 2 39 _ _ (pc' := 41) (L' := [some (.ref a0)]) (st' := [.ref a0, .ref a0]) rfl ?_
      obtain ⟨ho11, h⟩ := h
      refine e_getI 4 2 rfl rfl (by decide) (aw (i := 195) (by decide +kernel) rfl) ho11 rfl ?_
      refine e_blk 2 44 _ _ (pc' := 46) (L' := [some (.ref a0)]) (st' := [.int ((mI M5 a0 2) + (1 : Int32)), .ref a0]) rfl ?_
      refine e_putI 4 2 rfl rfl (by decide) (aw (i := 195) (by decide +kernel) rfl) rfl ho11 rfl ?_
      generalize hM12 : sI M5 a0 2 ((mI M5 a0 2) + (1 : Int32)) = M12
      replace h := h M12 hM12.symm
      replace ho11 : ob M12 a0 4 := hM12 ▸ ob_sI ho11
      refine e_blk 1 49 _ _ (pc' := 50) (L' := [some (.ref a0)]) (st' := [.ref a0]) rfl ?_
      obtain ⟨b13, hbb13, h⟩ := h
      refine e_getR 4 5 rfl rfl (by decide) (aw (i := 199) (by decide +kernel) rfl) ho11 rfl hbb13 ?_
      refine e_blk 1 53 _ _ (pc' := 54) (L' := [some (.ref a0)]) (st' := [.ref b13, .ref b13]) rfl ?_
      obtain ⟨ho14, h⟩ := h
      refine e_getJ 3 6 rfl rfl (by decide) (aw (i := 152) (by decide +kernel) rfl) ho14 rfl ?_
      refine e_blk 5 57 _ _ (pc' := 63) (L' := [some (.ref a0)]) (st' := [.int (30 : Int32), .int (1 : Int32), .int (2 : Int32), .ref a0, .long (1 : Int64), .long (mJ M12 b13 6), .ref b13]) rfl ?_
      refine e_callV (As := [.int (2 : Int32), .int (1 : Int32), .int (30 : Int32)]) (rest := [.long (1 : Int64), .long (mJ M12 b13 6), .ref b13]) (ci := 4) rfl (x_X4_readNumber h) ho11 rfl rfl rfl (aw (i := 705) (by decide +kernel) rfl) wn_X4_readNumber wv_X4_readNumber wi_X4_readNumber wc_X4_readNumber (show cok mi_X4_readLastDay mi_X4_readNumber 0 0 3 = true by decide +kernel) (Nat.le_of_ble_eq_true rfl) (fun v9 M15 hq => ?_) (fun X M9 hq => False.elim hq)
      obtain ⟨r16, rfl, h⟩ := kI_l hq
      refine e_blk 2 66 _ _ (pc' := 68) (L' := [some (.ref a0)]) (st' := [.long ((mJ M12 b13 6) ||| ((1 : Int64) <<< ((r16).toInt64 &&& 63))), .ref b13]) rfl ?_
      obtain ⟨ho17, h⟩ := h
      refine e_putJ 3 6 rfl rfl (by decide) (aw (i := 152) (by decide +kernel) rfl) rfl ho17 rfl ?_
      generalize hM18 : sJ M15 b13 6 ((mJ M12 b13 6) ||| ((1 : Int64) <<< ((r16).toInt64 &&& 63))) = M18
      replace h := h M18 hM18.symm
      replace ho17 : ob M18 b13 3 := hM18 ▸ ob_sJ ho17
      refine e_blk 1 71 _ _ (pc' := 87) (L' := [some (.ref a0)]) (st' := []) rfl ?_
      refine e_drp [false] (L' := [none]) rfl ?_
      exact x_X4_readLastDay_87  h
  · replace h := h.2 hc
    refine e_blk 2 9 _ _ (pc' := 11) (L' := [some (.ref a0)]) (st' := [.ref a0, .ref a0]) rfl ?_
    obtain ⟨ho19, h⟩ := h
    refine e_getI 4 2 rfl rfl (by decide) (aw (i := 195) (by decide +kernel) rfl) ho19 rfl ?_
    refine e_blk 2 14 _ _ (pc' := 16) (L' := [some (.ref a0)]) (st' := [.int ((mI M2 a0 2) + (1 : Int32)), .ref a0]) rfl ?_
    refine e_putI 4 2 rfl rfl (by decide) (aw (i := 195) (by decide +kernel) rfl) rfl ho19 rfl ?_
    generalize hM20 : sI M2 a0 2 ((mI M2 a0 2) + (1 : Int32)) = M20
    replace h := h M20 hM20.symm
    replace ho19 : ob M20 a0 4 := hM20 ▸ ob_sI ho19
    refine e_blk 1 19 _ _ (pc' := 20) (L' := [some (.ref a0)]) (st' := [.ref a0]) rfl ?_
    obtain ⟨b21, hbb21, h⟩ := h
    refine e_getR 4 5 rfl rfl (by decide) (aw (i := 199) (by decide +kernel) rfl) ho19 rfl hbb21 ?_
    refine e_blk 1 23 _ _ (pc' := 24) (L' := [some (.ref a0)]) (st' := [.int (1 : Int32), .ref b21]) rfl ?_
    obtain ⟨ho22, h⟩ := h
    refine e_putZ 3 7 rfl rfl (by decide) (aw (i := 154) (by decide +kernel) rfl) rfl ho22 rfl (by decide) ?_
    generalize hM23 : sI M20 b21 7 (1 : Int32) = M23
    replace h := h M23 hM23.symm
    replace ho19 : ob M23 a0 4 := hM23 ▸ ob_sI ho19
    replace ho22 : ob M23 b21 3 := hM23 ▸ ob_sI ho22
    refine e_blk 1 27 _ _ (pc' := 87) (L' := [some (.ref a0)]) (st' := []) rfl ?_
    refine e_drp [false] (L' := [none]) rfl ?_
    exact x_X4_readLastDay_87  h
def V_X4_nameLike_67 (K : Rs → Mm → Prop) (B3 : Mm → Nat → Nat → Int32 → Int32 → Int32 → Prop) (M : Mm) (l0 : Nat) (l1 : Nat) (l2 : Int32) (l3 : Int32) (l4 : Int32) (l5 : Int32) : Prop := ((¬ l5 = l3 → ∀ x1 : Int32, x1 = (l4 + (3 : Int32)) → B3 M l0 l1 l2 l3 x1) ∧ (l5 = l3 → K (.inl (some (.int (l4 / (3 : Int32))))) M))
set_option maxRecDepth 100000 in
set_option maxHeartbeats 4000000 in
theorem x_X4_nameLike_67 {G : Gx} {K : Rs → Mm → Prop} {B3 : Mm → Nat → Nat → Int32 → Int32 → Int32 → Prop} (hB3 : ∀ M l0 l1 l2 l3 l4, B3 M l0 l1 l2 l3 l4 → E G mi_X4_nameLike K M 0 0 3 [some (.ref l0), some (.ref (gS G l1)), some (.int l2), some (.int l3), some (.int l4), none, none] []) {M : Mm} {l0 : Nat} {l1 : Nat} {l2 : Int32} {l3 : Int32} {l4 : Int32} {l5 : Int32} (h : V_X4_nameLike_67 K B3 M l0 l1 l2 l3 l4 l5) : E G mi_X4_nameLike K M 0 0 67 [some (.ref l0), some (.ref (gS G l1)), some (.int l2), some (.int l3), some (.int l4), some (.int l5), none] [] := by
  unfold V_X4_nameLike_67 at h
  refine e_blk 2 67 _ _ (pc' := 70) (L' := [some (.ref l0), some (.ref (gS G l1)), some (.int l2), some (.int l3), some (.int l4), some (.int l5), none]) (st' := [.int l3, .int l5]) rfl ?_
  refine e_icmp_ne 78 rfl rfl (fun hc => ?_) (fun hc => ?_)
  · replace h := h.1 hc
    refine e_blk 2 78 _ _ (pc' := 3) (L' := [some (.ref l0), some (.ref (gS G l1)), some (.int l2), some (.int l3), some (.int (l4 + (3 : Int32))), some (.int l5), none]) (st' := []) rfl ?_
    generalize hx_x1 : ((l4 + (3 : Int32)) : Int32) = x1
    replace h := h x1 hx_x1.symm
    refine e_drp [true, true, true, true, true, false, false] (L' := [some (.ref l0), some (.ref (gS G l1)), some (.int l2), some (.int l3), some (.int x1), none, none]) rfl ?_
    exact hB3 _ _ _ _ _ _ h
  · replace h := h.2 hc
    refine e_blk 2 73 _ _ (pc' := 76) (L' := [some (.ref l0), some (.ref (gS G l1)), some (.int l2), some (.int l3), some (.int l4), some (.int l5), none]) (st' := [.int (3 : Int32), .int l4]) rfl ?_
    refine e_idiv rfl (by decide) ?_
    exact e_reti rfl rfl (by decide) (by decide) h
def V_X4_nameLike_61 (K : Rs → Mm → Prop) (B20 : Mm → Nat → Nat → Int32 → Int32 → Int32 → Int32 → Int32 → Prop) (M : Mm) (l0 : Nat) (l1 : Nat) (l2 : Int32) (l3 : Int32) (l4 : Int32) (l5 : Int32) (l6 : Int32) : Prop := ∀ x1 : Int32, x1 = (l6 + (1 : Int32)) → B20 M l0 l1 l2 l3 l4 l5 x1
set_option maxRecDepth 100000 in
set_option maxHeartbeats 4000000 in
theorem x_X4_nameLike_61 {G : Gx} {K : Rs → Mm → Prop} {B20 : Mm → Nat → Nat → Int32 → Int32 → Int32 → Int32 → Int32 → Prop} (hB20 : ∀ M l0 l1 l2 l3 l4 l5 l6, B20 M l0 l1 l2 l3 l4 l5 l6 → E G mi_X4_nameLike K M 0 0 20 [some (.ref l0), some (.ref (gS G l1)), some (.int l2), some (.int l3), some (.int l4), some (.int l5), some (.int l6)] []) {M : Mm} {l0 : Nat} {l1 : Nat} {l2 : Int32} {l3 : Int32} {l4 : Int32} {l5 : Int32} {l6 : Int32} (h : V_X4_nameLike_61 K B20 M l0 l1 l2 l3 l4 l5 l6) : E G mi_X4_nameLike K M 0 0 61 [some (.ref l0), some (.ref (gS G l1)), some (.int l2), some (.int l3), some (.int l4), some (.int l5), some (.int l6)] [] := by
  unfold V_X4_nameLike_61 at h
  refine e_blk 2 61 _ _ (pc' := 20) (L' := [some (.ref l0), some (.ref (gS G l1)), some (.int l2), some (.int l3), some (.int l4), some (.int l5), some (.int (l6 + (1 : Int32)))]) (st' := []) rfl ?_
  generalize hx_x1 : ((l6 + (1 : Int32)) : Int32) = x1
  replace h := h x1 hx_x1.symm
  refine e_drp [true, true, true, true, true, true, true] (L' := [some (.ref l0), some (.ref (gS G l1)), some (.int l2), some (.int l3), some (.int l4), some (.int l5), some (.int x1)]) rfl ?_
  exact hB20 _ _ _ _ _ _ _ _ h
def V_X4_nameLike_20 (K : Rs → Mm → Prop) (B3 : Mm → Nat → Nat → Int32 → Int32 → Int32 → Prop) : Nat → Mm → Nat → Nat → Int32 → Int32 → Int32 → Int32 → Int32 → Prop
  | 0, _, _, _, _, _, _, _, _ => False
  | z + 1, M, l0, l1, l2, l3, l4, l5, l6 => ((l3 ≤ l6 → V_X4_nameLike_67 K B3 M l0 l1 l2 l3 l4 l5) ∧ (¬ l3 ≤ l6 → (ob M l0 4 ∧ (((mI M l0 1) ≤ (l2 + l6) → V_X4_nameLike_67 K B3 M l0 l1 l2 l3 l4 l5) ∧ (¬ (mI M l0 1) ≤ (l2 + l6) → ∃ b2, mP M l0 0 = some b2 ∧ (ob M b2 9 ∧ (vp_in (l2 + l6) (mN M b2) ∧ (l1 ∈ txI ∧ V_J0_charAt_5068e (kI (fun r7 M6 => ((¬ (mI M b2 ((l2 + l6)).toNatClampNeg) = r7 → V_X4_nameLike_61 K (fun M l0 l1 l2 l3 l4 l5 l6 => V_X4_nameLike_20 K B3 z M l0 l1 l2 l3 l4 l5 l6) M6 l0 l1 l2 l3 l4 l5 l6) ∧ ((mI M b2 ((l2 + l6)).toNatClampNeg) = r7 → ∀ x8 : Int32, x8 = (l5 + (1 : Int32)) → V_X4_nameLike_61 K (fun M l0 l1 l2 l3 l4 l5 l6 => V_X4_nameLike_20 K B3 z M l0 l1 l2 l3 l4 l5 l6) M6 l0 l1 l2 l3 l4 x8 l6))) (fun _ _ => False)) M l1 (l4 + l6)))))))))
set_option maxRecDepth 100000 in
set_option maxHeartbeats 4000000 in
theorem x_X4_nameLike_20 {G : Gx} {K : Rs → Mm → Prop} {B3 : Mm → Nat → Nat → Int32 → Int32 → Int32 → Prop} (hB3 : ∀ M l0 l1 l2 l3 l4, B3 M l0 l1 l2 l3 l4 → E G mi_X4_nameLike K M 0 0 3 [some (.ref l0), some (.ref (gS G l1)), some (.int l2), some (.int l3), some (.int l4), none, none] []) : ∀ (z : Nat) (M : Mm) (l0 : Nat) (l1 : Nat) (l2 : Int32) (l3 : Int32) (l4 : Int32) (l5 : Int32) (l6 : Int32), V_X4_nameLike_20 K B3 z M l0 l1 l2 l3 l4 l5 l6 → E G mi_X4_nameLike K M 0 0 20 [some (.ref l0), some (.ref (gS G l1)), some (.int l2), some (.int l3), some (.int l4), some (.int l5), some (.int l6)] []
  | 0, M, l0, l1, l2, l3, l4, l5, l6, h => False.elim h
  | z + 1, M, l0, l1, l2, l3, l4, l5, l6, h => by
    unfold V_X4_nameLike_20 at h
    refine e_blk 2 20 _ _ (pc' := 23) (L' := [some (.ref l0), some (.ref (gS G l1)), some (.int l2), some (.int l3), some (.int l4), some (.int l5), some (.int l6)]) (st' := [.int l3, .int l6]) rfl ?_
    refine e_icmp_ge 67 rfl rfl (fun hc => ?_) (fun hc => ?_)
    · replace h := h.1 hc
      refine e_drp [true, true, true, true, true, true, false] (L' := [some (.ref l0), some (.ref (gS G l1)), some (.int l2), some (.int l3), some (.int l4), some (.int l5), none]) rfl ?_
      exact x_X4_nameLike_67 hB3 h
    · replace h := h.2 hc
      refine e_blk 4 26 _ _ (pc' := 31) (L' := [some (.ref l0), some (.ref (gS G l1)), some (.int l2), some (.int l3), some (.int l4), some (.int l5), some (.int l6)]) (st' := [.ref l0, .int (l2 + l6)]) rfl ?_
      obtain ⟨ho1, h⟩ := h
      refine e_getI 4 1 rfl rfl (by decide) (aw (i := 193) (by decide +kernel) rfl) ho1 rfl ?_
      refine e_icmp_ge 67 rfl rfl (fun hc => ?_) (fun hc => ?_)
      · replace h := h.1 hc
        refine e_drp [true, true, true, true, true, true, false] (L' := [some (.ref l0), some (.ref (gS G l1)), some (.int l2), some (.int l3), some (.int l4), some (.int l5), none]) rfl ?_
        exact x_X4_nameLike_67 hB3 h
      · replace h := h.2 hc
        refine e_blk 1 37 _ _ (pc' := 38) (L' := [some (.ref l0), some (.ref (gS G l1)), some (.int l2), some (.int l3), some (.int l4), some (.int l5), some (.int l6)]) (st' := [.ref l0]) rfl ?_
        obtain ⟨b2, hbb2, h⟩ := h
        refine e_getR 4 0 rfl rfl (by decide) (aw (i := 192) (by decide +kernel) rfl) ho1 rfl hbb2 ?_
        refine e_blk 3 41 _ _ (pc' := 45) (L' := [some (.ref l0), some (.ref (gS G l1)), some (.int l2), some (.int l3), some (.int l4), some (.int l5), some (.int l6)]) (st' := [.int (l2 + l6), .ref b2]) rfl ?_
        obtain ⟨ho3, h⟩ := h
        obtain ⟨hi4, h⟩ := h
        refine e_iald rfl ho3 hi4 ?_
        refine e_blk 4 46 _ _ (pc' := 52) (L' := [some (.ref l0), some (.ref (gS G l1)), some (.int l2), some (.int l3), some (.int l4), some (.int l5), some (.int l6)]) (st' := [.int (l4 + l6), .ref (gS G l1), .int (mI M b2 ((l2 + l6)).toNatClampNeg)]) rfl ?_
        obtain ⟨hj5, h⟩ := h
        refine e_callO (As := [.int (l4 + l6)]) (rest := [.int (mI M b2 ((l2 + l6)).toNatClampNeg)]) rfl (x_J0_charAt_5068e hj5 h) (fun X M9 hq => hq) (txO hj5) rfl (aw (i := 639) (by decide +kernel) rfl) wn_J0_charAt_5068e wv_J0_charAt_5068e wi_J0_charAt_5068e wc_J0_charAt_5068e (show cok mi_X4_nameLike mi_J0_charAt_5068e 0 0 1 = true by decide +kernel) (Nat.le_of_ble_eq_true rfl) (fun v9 M6 hq => ?_)
        obtain ⟨r7, rfl, h⟩ := kI_l hq
        refine e_icmp_ne 61 rfl rfl (fun hc => ?_) (fun hc => ?_)
        · replace h := h.1 hc
          refine e_drp [true, true, true, true, true, true, true] (L' := [some (.ref l0), some (.ref (gS G l1)), some (.int l2), some (.int l3), some (.int l4), some (.int l5), some (.int l6)]) rfl ?_
          exact x_X4_nameLike_61 (fun M l0 l1 l2 l3 l4 l5 l6 h => x_X4_nameLike_20 hB3 z M l0 l1 l2 l3 l4 l5 l6 h) h
        · replace h := h.2 hc
          refine e_blk 1 58 _ _ (pc' := 61) (L' := [some (.ref l0), some (.ref (gS G l1)), some (.int l2), some (.int l3), some (.int l4), some (.int (l5 + (1 : Int32))), some (.int l6)]) (st' := []) rfl ?_
          generalize hx_x8 : ((l5 + (1 : Int32)) : Int32) = x8
          replace h := h x8 hx_x8.symm
          refine e_drp [true, true, true, true, true, true, true] (L' := [some (.ref l0), some (.ref (gS G l1)), some (.int l2), some (.int l3), some (.int l4), some (.int x8), some (.int l6)]) rfl ?_
          exact x_X4_nameLike_61 (fun M l0 l1 l2 l3 l4 l5 l6 h => x_X4_nameLike_20 hB3 z M l0 l1 l2 l3 l4 l5 l6 h) h
def V_X4_nameLike_3 (K : Rs → Mm → Prop)  : Nat → Mm → Nat → Nat → Int32 → Int32 → Int32 → Prop
  | 0, _, _, _, _, _, _ => False
  | z + 1, M, l0, l1, l2, l3, l4 => (l1 ∈ txI ∧ V_J0_length_8abf5 (kI (fun r3 M2 => ((r3 < (l4 + l3) → K (.inl (some (.int (-1 : Int32)))) M2) ∧ (¬ r3 < (l4 + l3) → ∃ y, V_X4_nameLike_20 K (fun M l0 l1 l2 l3 l4 => V_X4_nameLike_3 K  z M l0 l1 l2 l3 l4) y M2 l0 l1 l2 l3 l4 (0 : Int32) (0 : Int32)))) (fun _ _ => False)) M l1)
set_option maxRecDepth 100000 in
set_option maxHeartbeats 4000000 in
theorem x_X4_nameLike_3 {G : Gx} {K : Rs → Mm → Prop}  : ∀ (z : Nat) (M : Mm) (l0 : Nat) (l1 : Nat) (l2 : Int32) (l3 : Int32) (l4 : Int32), V_X4_nameLike_3 K  z M l0 l1 l2 l3 l4 → E G mi_X4_nameLike K M 0 0 3 [some (.ref l0), some (.ref (gS G l1)), some (.int l2), some (.int l3), some (.int l4), none, none] []
  | 0, M, l0, l1, l2, l3, l4, h => False.elim h
  | z + 1, M, l0, l1, l2, l3, l4, h => by
    unfold V_X4_nameLike_3 at h
    refine e_blk 4 3 _ _ (pc' := 8) (L' := [some (.ref l0), some (.ref (gS G l1)), some (.int l2), some (.int l3), some (.int l4), none, none]) (st' := [.ref (gS G l1), .int (l4 + l3)]) rfl ?_
    obtain ⟨hj1, h⟩ := h
    refine e_callO (As := []) (rest := [.int (l4 + l3)]) rfl (x_J0_length_8abf5 hj1 h) (fun X M9 hq => hq) (txO hj1) rfl (aw (i := 629) (by decide +kernel) rfl) wn_J0_length_8abf5 wv_J0_length_8abf5 wi_J0_length_8abf5 wc_J0_length_8abf5 (show cok mi_X4_nameLike mi_J0_length_8abf5 0 0 0 = true by decide +kernel) (Nat.le_of_ble_eq_true rfl) (fun v9 M2 hq => ?_)
    obtain ⟨r3, rfl, h⟩ := kI_l hq
    refine e_icmp_gt 84 rfl rfl (fun hc => ?_) (fun hc => ?_)
    · replace h := h.1 hc
      refine e_blk 1 84 _ _ (pc' := 85) (L' := [some (.ref l0), some (.ref (gS G l1)), some (.int l2), some (.int l3), some (.int l4), none, none]) (st' := [.int (-1 : Int32)]) rfl ?_
      exact e_reti rfl rfl (by decide) (by decide) h
    · replace h := h.2 hc
      refine e_blk 4 14 _ _ (pc' := 20) (L' := [some (.ref l0), some (.ref (gS G l1)), some (.int l2), some (.int l3), some (.int l4), some (.int (0 : Int32)), some (.int (0 : Int32))]) (st' := []) rfl ?_
      refine e_drp [true, true, true, true, true, true, true] (L' := [some (.ref l0), some (.ref (gS G l1)), some (.int l2), some (.int l3), some (.int l4), some (.int (0 : Int32)), some (.int (0 : Int32))]) rfl ?_
      obtain ⟨y, h⟩ := h
      exact x_X4_nameLike_20 (fun M l0 l1 l2 l3 l4 h => x_X4_nameLike_3  z M l0 l1 l2 l3 l4 h) y _ _ _ _ _ _ _ _ h
def V_X4_nameLike (K : Rs → Mm → Prop) (M : Mm) (a0 : Nat) (a1 : Nat) (a2 : Int32) (a3 : Int32) : Prop := ∃ y, V_X4_nameLike_3 K  y M a0 a1 a2 a3 (0 : Int32)
set_option maxRecDepth 100000 in
set_option maxHeartbeats 4000000 in
theorem x_X4_nameLike {G : Gx} {K : Rs → Mm → Prop} {M : Mm} {a0 : Nat} {a1 : Nat} {a2 : Int32} {a3 : Int32} (h : V_X4_nameLike K M a0 a1 a2 a3) : MC G mi_X4_nameLike [.ref a0, .ref (gS G a1), .int a2, .int a3] M K := by
  unfold V_X4_nameLike at h
  refine mc_of rfl (by decide +kernel) dc_X4_nameLike (Nat.le_of_ble_eq_true rfl) 3 (Nat.le_of_ble_eq_true rfl) ?_
  show E G mi_X4_nameLike K M 0 0 0 [some (.ref a0), some (.ref (gS G a1)), some (.int a2), some (.int a3), none, none, none] []
  refine e_blk 2 0 _ _ (pc' := 3) (L' := [some (.ref a0), some (.ref (gS G a1)), some (.int a2), some (.int a3), some (.int (0 : Int32)), none, none]) (st' := []) rfl ?_
  refine e_drp [true, true, true, true, true, false, false] (L' := [some (.ref a0), some (.ref (gS G a1)), some (.int a2), some (.int a3), some (.int (0 : Int32)), none, none]) rfl ?_
  obtain ⟨y, h⟩ := h
  exact x_X4_nameLike_3  y _ _ _ _ _ _ h
def V_X4_readName_65 (K : Rs → Mm → Prop)  (M : Mm) (l3 : Int32) : Prop := K (.inl (some (.int l3))) M
set_option maxRecDepth 100000 in
set_option maxHeartbeats 4000000 in
theorem x_X4_readName_65 {G : Gx} {K : Rs → Mm → Prop}  {M : Mm} {l3 : Int32} (h : V_X4_readName_65 K  M l3) : E G mi_X4_readName K M 0 0 65 [none, none, none, some (.int l3), none] [] := by
  unfold V_X4_readName_65 at h
  refine e_blk 1 65 _ _ (pc' := 66) (L' := [none, none, none, some (.int l3), none]) (st' := [.int l3]) rfl ?_
  exact e_reti rfl rfl (by decide) (by decide) h
def V_X4_readName_59 (K : Rs → Mm → Prop) (B10 : Mm → Nat → Nat → Int32 → Int32 → Int32 → Prop) (M : Mm) (l0 : Nat) (l1 : Nat) (l2 : Int32) (l3 : Int32) (l4 : Int32) : Prop := ∀ x1 : Int32, x1 = (l4 + (1 : Int32)) → B10 M l0 l1 l2 l3 x1
set_option maxRecDepth 100000 in
set_option maxHeartbeats 4000000 in
theorem x_X4_readName_59 {G : Gx} {K : Rs → Mm → Prop} {B10 : Mm → Nat → Nat → Int32 → Int32 → Int32 → Prop} (hB10 : ∀ M l0 l1 l2 l3 l4, B10 M l0 l1 l2 l3 l4 → E G mi_X4_readName K M 0 0 10 [some (.ref l0), some (.ref (gS G l1)), some (.int l2), some (.int l3), some (.int l4)] []) {M : Mm} {l0 : Nat} {l1 : Nat} {l2 : Int32} {l3 : Int32} {l4 : Int32} (h : V_X4_readName_59 K B10 M l0 l1 l2 l3 l4) : E G mi_X4_readName K M 0 0 59 [some (.ref l0), some (.ref (gS G l1)), some (.int l2), some (.int l3), some (.int l4)] [] := by
  unfold V_X4_readName_59 at h
  refine e_blk 2 59 _ _ (pc' := 10) (L' := [some (.ref l0), some (.ref (gS G l1)), some (.int l2), some (.int l3), some (.int (l4 + (1 : Int32)))]) (st' := []) rfl ?_
  generalize hx_x1 : ((l4 + (1 : Int32)) : Int32) = x1
  replace h := h x1 hx_x1.symm
  refine e_drp [true, true, true, true, true] (L' := [some (.ref l0), some (.ref (gS G l1)), some (.int l2), some (.int l3), some (.int x1)]) rfl ?_
  exact hB10 _ _ _ _ _ _ h
def V_X4_readName_10 (K : Rs → Mm → Prop)  : Nat → Mm → Nat → Nat → Int32 → Int32 → Int32 → Prop
  | 0, _, _, _, _, _, _ => False
  | z + 1, M, l0, l1, l2, l3, l4 => (((3 : Int32) < l4 → V_X4_readName_65 K  M l3) ∧ (¬ (3 : Int32) < l4 → (ob M l0 4 ∧ ((¬ (mI M l0 3) = 0 → V_X4_readName_65 K  M l3) ∧ ((mI M l0 3) = 0 → V_X4_nameLike (kI (fun r3 M2 => ((¬ r3 = (-1 : Int32) → (ob M2 l0 4 ∧ ∀ M5, M5 = sI M2 l0 2 ((mI M2 l0 2) + (1 : Int32)) → V_X4_readName_59 K (fun M l0 l1 l2 l3 l4 => V_X4_readName_10 K  z M l0 l1 l2 l3 l4) M5 l0 l1 l2 r3 l4)) ∧ (r3 = (-1 : Int32) → (ob M2 l0 4 ∧ V_X4_fail (kV (fun M7 => V_X4_readName_59 K (fun M l0 l1 l2 l3 l4 => V_X4_readName_10 K  z M l0 l1 l2 l3 l4) M7 l0 l1 l2 r3 l4) (fun _ _ => False)) M2 l0 (1 : Int32) (mI M2 l0 2))))) (fun _ _ => False)) M l0 l1 l2 l4)))))
set_option maxRecDepth 100000 in
set_option maxHeartbeats 4000000 in
theorem x_X4_readName_10 {G : Gx} {K : Rs → Mm → Prop}  : ∀ (z : Nat) (M : Mm) (l0 : Nat) (l1 : Nat) (l2 : Int32) (l3 : Int32) (l4 : Int32), V_X4_readName_10 K  z M l0 l1 l2 l3 l4 → E G mi_X4_readName K M 0 0 10 [some (.ref l0), some (.ref (gS G l1)), some (.int l2), some (.int l3), some (.int l4)] []
  | 0, M, l0, l1, l2, l3, l4, h => False.elim h
  | z + 1, M, l0, l1, l2, l3, l4, h => by
    unfold V_X4_readName_10 at h
    refine e_blk 2 10 _ _ (pc' := 13) (L' := [some (.ref l0), some (.ref (gS G l1)), some (.int l2), some (.int l3), some (.int l4)]) (st' := [.int (3 : Int32), .int l4]) rfl ?_
    refine e_icmp_gt 65 rfl rfl (fun hc => ?_) (fun hc => ?_)
    · replace h := h.1 hc
      refine e_drp [false, false, false, true, false] (L' := [none, none, none, some (.int l3), none]) rfl ?_
      exact x_X4_readName_65  h
    · replace h := h.2 hc
      refine e_blk 1 16 _ _ (pc' := 17) (L' := [some (.ref l0), some (.ref (gS G l1)), some (.int l2), some (.int l3), some (.int l4)]) (st' := [.ref l0]) rfl ?_
      obtain ⟨ho1, h⟩ := h
      refine e_getI 4 3 rfl rfl (by decide) (aw (i := 196) (by decide +kernel) rfl) ho1 rfl ?_
      refine e_if_ne 65 rfl rfl (fun hc => ?_) (fun hc => ?_)
      · replace h := h.1 hc
        refine e_drp [false, false, false, true, false] (L' := [none, none, none, some (.int l3), none]) rfl ?_
        exact x_X4_readName_65  h
      · replace h := h.2 hc
        refine e_blk 4 23 _ _ (pc' := 28) (L' := [some (.ref l0), some (.ref (gS G l1)), some (.int l2), some (.int l3), some (.int l4)]) (st' := [.int l4, .int l2, .ref (gS G l1), .ref l0]) rfl ?_
        refine e_callV (As := [.ref (gS G l1), .int l2, .int l4]) (rest := []) (ci := 4) rfl (x_X4_nameLike h) ho1 rfl rfl rfl (aw (i := 722) (by decide +kernel) rfl) wn_X4_nameLike wv_X4_nameLike wi_X4_nameLike wc_X4_nameLike (show cok mi_X4_readName mi_X4_nameLike 0 0 3 = true by decide +kernel) (Nat.le_of_ble_eq_true rfl) (fun v9 M2 hq => ?_) (fun X M9 hq => False.elim hq)
        obtain ⟨r3, rfl, h⟩ := kI_l hq
        refine e_blk 3 31 _ _ (pc' := 34) (L' := [some (.ref l0), some (.ref (gS G l1)), some (.int l2), some (.int r3), some (.int l4)]) (st' := [.int (-1 : Int32), .int r3]) rfl ?_
        refine e_icmp_ne 49 rfl rfl (fun hc => ?_) (fun hc => ?_)
        · replace h := h.1 hc
          refine e_blk 2 49 _ _ (pc' := 51) (L' := [some (.ref l0), some (.ref (gS G l1)), some (.int l2), some (.int r3), some (.int l4)]) (st' := [.ref l0, .ref l0]) rfl ?_
          obtain ⟨ho4, h⟩ := h
          refine e_getI 4 2 rfl rfl (by decide) (aw (i := 195) (by decide +kernel) rfl) ho4 rfl ?_
          refine e_blk 2 54 _ _ (pc' := 56) (L' := [some (.ref l0), some (.ref (gS G l1)), some (.int l2), some (.int r3), some (.int l4)]) (st' := [.int ((mI M2 l0 2) + (1 : Int32)), .ref l0]) rfl ?_
          refine e_putI 4 2 rfl rfl (by decide) (aw (i := 195) (by decide +kernel) rfl) rfl ho4 rfl ?_
          generalize hM5 : sI M2 l0 2 ((mI M2 l0 2) + (1 : Int32)) = M5
          replace h := h M5 hM5.symm
          replace ho4 : ob M5 l0 4 := hM5 ▸ ob_sI ho4
          refine e_drp [true, true, true, true, true] (L' := [some (.ref l0), some (.ref (gS G l1)), some (.int l2), some (.int r3), some (.int l4)]) rfl ?_
          exact x_X4_readName_59 (fun M l0 l1 l2 l3 l4 h => x_X4_readName_10  z M l0 l1 l2 l3 l4 h) h
        · replace h := h.2 hc
          refine e_blk 3 37 _ _ (pc' := 40) (L' := [some (.ref l0), some (.ref (gS G l1)), some (.int l2), some (.int r3), some (.int l4)]) (st' := [.ref l0, .int (1 : Int32), .ref l0]) rfl ?_
          obtain ⟨ho6, h⟩ := h
          refine e_getI 4 2 rfl rfl (by decide) (aw (i := 195) (by decide +kernel) rfl) ho6 rfl ?_
          refine e_callV (As := [.int (1 : Int32), .int (mI M2 l0 2)]) (rest := []) (ci := 4) rfl (x_X4_fail h) ho6 rfl rfl rfl (aw (i := 677) (by decide +kernel) rfl) wn_X4_fail wv_X4_fail wi_X4_fail wc_X4_fail (show cok mi_X4_readName mi_X4_fail 0 0 2 = true by decide +kernel) (Nat.le_of_ble_eq_true rfl) (fun v9 M7 hq => ?_) (fun X M9 hq => False.elim hq)
          obtain ⟨rfl, h⟩ := kV_l hq
          refine e_blk 1 46 _ _ (pc' := 59) (L' := [some (.ref l0), some (.ref (gS G l1)), some (.int l2), some (.int r3), some (.int l4)]) (st' := []) rfl ?_
          refine e_drp [true, true, true, true, true] (L' := [some (.ref l0), some (.ref (gS G l1)), some (.int l2), some (.int r3), some (.int l4)]) rfl ?_
          exact x_X4_readName_59 (fun M l0 l1 l2 l3 l4 h => x_X4_readName_10  z M l0 l1 l2 l3 l4 h) h
def V_X4_readName (K : Rs → Mm → Prop) (M : Mm) (a0 : Nat) (a1 : Nat) : Prop := (ob M a0 4 ∧ ∀ x2 : Int32, x2 = (mI M a0 2) → ∃ y, V_X4_readName_10 K  y M a0 a1 x2 (0 : Int32) (1 : Int32))
set_option maxRecDepth 100000 in
set_option maxHeartbeats 4000000 in
theorem x_X4_readName {G : Gx} {K : Rs → Mm → Prop} {M : Mm} {a0 : Nat} {a1 : Nat} (h : V_X4_readName K M a0 a1) : MC G mi_X4_readName [.ref a0, .ref (gS G a1)] M K := by
  unfold V_X4_readName at h
  refine mc_of rfl (by decide +kernel) dc_X4_readName (Nat.le_of_ble_eq_true rfl) 3 (Nat.le_of_ble_eq_true rfl) ?_
  show E G mi_X4_readName K M 0 0 0 [some (.ref a0), some (.ref (gS G a1)), none, none, none] []
  refine e_blk 1 0 _ _ (pc' := 1) (L' := [some (.ref a0), some (.ref (gS G a1)), none, none, none]) (st' := [.ref a0]) rfl ?_
  obtain ⟨ho1, h⟩ := h
  refine e_getI 4 2 rfl rfl (by decide) (aw (i := 195) (by decide +kernel) rfl) ho1 rfl ?_
  refine e_blk 5 4 _ _ (pc' := 10) (L' := [some (.ref a0), some (.ref (gS G a1)), some (.int (mI M a0 2)), some (.int (0 : Int32)), some (.int (1 : Int32))]) (st' := []) rfl ?_
  generalize hx_x2 : ((mI M a0 2) : Int32) = x2
  replace h := h x2 hx_x2.symm
  refine e_drp [true, true, true, true, true] (L' := [some (.ref a0), some (.ref (gS G a1)), some (.int x2), some (.int (0 : Int32)), some (.int (1 : Int32))]) rfl ?_
  obtain ⟨y, h⟩ := h
  exact x_X4_readName_10  y _ _ _ _ _ _ h
def V_X4_readValue_58 (K : Rs → Mm → Prop)  (M : Mm) (l0 : Nat) (l1 : Int32) : Prop := (vp_in l1 6 ∧ (vp_in l1 6 ∧ (ob M l0 4 ∧ V_X4_readNumber (kI (fun r5 M4 => K (.inl (some (.int r5))) M4) (fun _ _ => False)) M l0 (4 : Int32) (tbL (l1).toNatClampNeg) (tbG (l1).toNatClampNeg))))
set_option maxRecDepth 100000 in
set_option maxHeartbeats 4000000 in
theorem x_X4_readValue_58 {G : Gx} {K : Rs → Mm → Prop}  {M : Mm} {l0 : Nat} {l1 : Int32} (h : V_X4_readValue_58 K  M l0 l1) : E G mi_X4_readValue K M 0 0 58 [some (.ref l0), some (.int l1), none] [] := by
  unfold V_X4_readValue_58 at h
  refine e_blk 2 58 _ _ (pc' := 60) (L' := [some (.ref l0), some (.int l1), none]) (st' := [.int (4 : Int32), .ref l0]) rfl ?_
  refine e_getsN (host := "CalendarOrders") (.ref (gS G 0)) rfl (fun s hs => hs.2.2.2.2.2.1) (ao (i := 697) (by decide +kernel) rfl) ?_
  refine e_blk 1 63 _ _ (pc' := 64) (L' := [some (.ref l0), some (.int l1), none]) (st' := [.int l1, .ref (gS G 0), .int (4 : Int32), .ref l0]) rfl ?_
  obtain ⟨hi1, h⟩ := h
  refine e_tI (.int (tbL (l1).toNatClampNeg)) rfl (fun s hs => hs.2.2.2.2.2.2.1) hi1 rfl ?_
  refine e_getsN (host := "CalendarOrders") (.ref (gS G 1)) rfl (fun s hs => hs.2.2.2.2.2.2.2.1) (ao (i := 699) (by decide +kernel) rfl) ?_
  refine e_blk 1 68 _ _ (pc' := 69) (L' := [some (.ref l0), some (.int l1), none]) (st' := [.int l1, .ref (gS G 1), .int (tbL (l1).toNatClampNeg), .int (4 : Int32), .ref l0]) rfl ?_
  obtain ⟨hi2, h⟩ := h
  refine e_tI (.int (tbG (l1).toNatClampNeg)) rfl (fun s hs => hs.2.2.2.2.2.2.2.2.1) hi2 rfl ?_
  obtain ⟨ho3, h⟩ := h
  refine e_callV (As := [.int (4 : Int32), .int (tbL (l1).toNatClampNeg), .int (tbG (l1).toNatClampNeg)]) (rest := []) (ci := 4) rfl (x_X4_readNumber h) ho3 rfl rfl rfl (aw (i := 705) (by decide +kernel) rfl) wn_X4_readNumber wv_X4_readNumber wi_X4_readNumber wc_X4_readNumber (show cok mi_X4_readValue mi_X4_readNumber 0 0 3 = true by decide +kernel) (Nat.le_of_ble_eq_true rfl) (fun v9 M4 hq => ?_) (fun X M9 hq => False.elim hq)
  obtain ⟨r5, rfl, h⟩ := kI_l hq
  exact e_reti rfl rfl (by decide) (by decide) h
def V_X4_readValue_42 (K : Rs → Mm → Prop)  (M : Mm) (l0 : Nat) (l1 : Int32) (l2 : Int32) : Prop := ((¬ l1 = (4 : Int32) → V_X4_readValue_58 K  M l0 l1) ∧ (l1 = (4 : Int32) → ((¬ l2 = 0 → V_X4_readValue_58 K  M l0 l1) ∧ (l2 = 0 → (ob M l0 4 ∧ V_X4_readName (kI (fun r3 M2 => K (.inl (some (.int r3))) M2) (fun _ _ => False)) M l0 20)))))
set_option maxRecDepth 100000 in
set_option maxHeartbeats 4000000 in
theorem x_X4_readValue_42 {G : Gx} {K : Rs → Mm → Prop}  {M : Mm} {l0 : Nat} {l1 : Int32} {l2 : Int32} (h : V_X4_readValue_42 K  M l0 l1 l2) : E G mi_X4_readValue K M 0 0 42 [some (.ref l0), some (.int l1), some (.int l2)] [] := by
  unfold V_X4_readValue_42 at h
  refine e_blk 2 42 _ _ (pc' := 44) (L' := [some (.ref l0), some (.int l1), some (.int l2)]) (st' := [.int (4 : Int32), .int l1]) rfl ?_
  refine e_icmp_ne 58 rfl rfl (fun hc => ?_) (fun hc => ?_)
  · replace h := h.1 hc
    refine e_drp [true, true, false] (L' := [some (.ref l0), some (.int l1), none]) rfl ?_
    exact x_X4_readValue_58  h
  · replace h := h.2 hc
    refine e_blk 1 47 _ _ (pc' := 48) (L' := [some (.ref l0), some (.int l1), some (.int l2)]) (st' := [.int l2]) rfl ?_
    refine e_if_ne 58 rfl rfl (fun hc => ?_) (fun hc => ?_)
    · replace h := h.1 hc
      refine e_drp [true, true, false] (L' := [some (.ref l0), some (.int l1), none]) rfl ?_
      exact x_X4_readValue_58  h
    · replace h := h.2 hc
      refine e_blk 1 51 _ _ (pc' := 52) (L' := [some (.ref l0), some (.int l1), some (.int l2)]) (st' := [.ref l0]) rfl ?_
      refine e_ldS (text := "sunmontuewedthufrisat") 20 rfl (by decide) ?_
      obtain ⟨ho1, h⟩ := h
      refine e_callV (As := [.ref (gS G 20)]) (rest := []) (ci := 4) rfl (x_X4_readName h) ho1 rfl rfl rfl (aw (i := 718) (by decide +kernel) rfl) wn_X4_readName wv_X4_readName wi_X4_readName wc_X4_readName (show cok mi_X4_readValue mi_X4_readName 0 0 1 = true by decide +kernel) (Nat.le_of_ble_eq_true rfl) (fun v9 M2 hq => ?_) (fun X M9 hq => False.elim hq)
      obtain ⟨r3, rfl, h⟩ := kI_l hq
      exact e_reti rfl rfl (by decide) (by decide) h
def V_X4_readValue_23 (K : Rs → Mm → Prop)  (M : Mm) (l0 : Nat) (l1 : Int32) (s0 : Int32) : Prop := ((¬ l1 = (3 : Int32) → V_X4_readValue_42 K  M l0 l1 s0) ∧ (l1 = (3 : Int32) → ((¬ s0 = 0 → V_X4_readValue_42 K  M l0 l1 s0) ∧ (s0 = 0 → (ob M l0 4 ∧ V_X4_readName (kI (fun r3 M2 => K (.inl (some (.int (r3 + (1 : Int32))))) M2) (fun _ _ => False)) M l0 19)))))
set_option maxRecDepth 100000 in
set_option maxHeartbeats 4000000 in
theorem x_X4_readValue_23 {G : Gx} {K : Rs → Mm → Prop}  {M : Mm} {l0 : Nat} {l1 : Int32} {s0 : Int32} (h : V_X4_readValue_23 K  M l0 l1 s0) : E G mi_X4_readValue K M 0 0 23 [some (.ref l0), some (.int l1), none] [.int s0] := by
  unfold V_X4_readValue_23 at h
  refine e_blk 3 23 _ _ (pc' := 26) (L' := [some (.ref l0), some (.int l1), some (.int s0)]) (st' := [.int (3 : Int32), .int l1]) rfl ?_
  refine e_icmp_ne 42 rfl rfl (fun hc => ?_) (fun hc => ?_)
  · replace h := h.1 hc
    refine e_drp [true, true, true] (L' := [some (.ref l0), some (.int l1), some (.int s0)]) rfl ?_
    exact x_X4_readValue_42  h
  · replace h := h.2 hc
    refine e_blk 1 29 _ _ (pc' := 30) (L' := [some (.ref l0), some (.int l1), some (.int s0)]) (st' := [.int s0]) rfl ?_
    refine e_if_ne 42 rfl rfl (fun hc => ?_) (fun hc => ?_)
    · replace h := h.1 hc
      refine e_drp [true, true, true] (L' := [some (.ref l0), some (.int l1), some (.int s0)]) rfl ?_
      exact x_X4_readValue_42  h
    · replace h := h.2 hc
      refine e_blk 1 33 _ _ (pc' := 34) (L' := [some (.ref l0), some (.int l1), some (.int s0)]) (st' := [.ref l0]) rfl ?_
      refine e_ldS (text := "janfebmaraprmayjunjulaugsepoctnovdec") 19 rfl (by decide) ?_
      obtain ⟨ho1, h⟩ := h
      refine e_callV (As := [.ref (gS G 19)]) (rest := []) (ci := 4) rfl (x_X4_readName h) ho1 rfl rfl rfl (aw (i := 718) (by decide +kernel) rfl) wn_X4_readName wv_X4_readName wi_X4_readName wc_X4_readName (show cok mi_X4_readValue mi_X4_readName 0 0 1 = true by decide +kernel) (Nat.le_of_ble_eq_true rfl) (fun v9 M2 hq => ?_) (fun X M9 hq => False.elim hq)
      obtain ⟨r3, rfl, h⟩ := kI_l hq
      refine e_blk 2 39 _ _ (pc' := 41) (L' := [some (.ref l0), some (.int l1), some (.int s0)]) (st' := [.int (r3 + (1 : Int32))]) rfl ?_
      exact e_reti rfl rfl (by decide) (by decide) h
def V_X4_readValue_22 (K : Rs → Mm → Prop)  (M : Mm) (l0 : Nat) (l1 : Int32) : Prop := V_X4_readValue_23 K  M l0 l1 (0 : Int32)
set_option maxRecDepth 100000 in
set_option maxHeartbeats 4000000 in
theorem x_X4_readValue_22 {G : Gx} {K : Rs → Mm → Prop}  {M : Mm} {l0 : Nat} {l1 : Int32} (h : V_X4_readValue_22 K  M l0 l1) : E G mi_X4_readValue K M 0 0 22 [some (.ref l0), some (.int l1), none] [] := by
  unfold V_X4_readValue_22 at h
  refine e_blk 1 22 _ _ (pc' := 23) (L' := [some (.ref l0), some (.int l1), none]) (st' := [.int (0 : Int32)]) rfl ?_
  refine e_drp [true, true, false] (L' := [some (.ref l0), some (.int l1), none]) rfl ?_
  exact x_X4_readValue_23  h
def V_X4_readValue (K : Rs → Mm → Prop) (M : Mm) (a0 : Nat) (a1 : Int32) : Prop := (ob M a0 4 ∧ V_X4_look (kI (fun r3 M2 => ((r3 < (48 : Int32) → V_X4_readValue_22 K  M2 a0 a1) ∧ (¬ r3 < (48 : Int32) → (ob M2 a0 4 ∧ V_X4_look (kI (fun r6 M5 => (((57 : Int32) < r6 → V_X4_readValue_22 K  M5 a0 a1) ∧ (¬ (57 : Int32) < r6 → V_X4_readValue_23 K  M5 a0 a1 (1 : Int32)))) (fun _ _ => False)) M2 a0)))) (fun _ _ => False)) M a0)
set_option maxRecDepth 100000 in
set_option maxHeartbeats 4000000 in
theorem x_X4_readValue {G : Gx} {K : Rs → Mm → Prop} {M : Mm} {a0 : Nat} {a1 : Int32} (h : V_X4_readValue K M a0 a1) : MC G mi_X4_readValue [.ref a0, .int a1] M K := by
  unfold V_X4_readValue at h
  refine mc_of rfl (by decide +kernel) dc_X4_readValue (Nat.le_of_ble_eq_true rfl) 1 (Nat.le_of_ble_eq_true rfl) ?_
  show E G mi_X4_readValue K M 0 0 0 [some (.ref a0), some (.int a1), none] []
  refine e_blk 1 0 _ _ (pc' := 1) (L' := [some (.ref a0), some (.int a1), none]) (st' := [.ref a0]) rfl ?_
  obtain ⟨ho1, h⟩ := h
  refine e_callV (As := []) (rest := []) (ci := 4) rfl (x_X4_look h) ho1 rfl rfl rfl (aw (i := 613) (by decide +kernel) rfl) wn_X4_look wv_X4_look wi_X4_look wc_X4_look (show cok mi_X4_readValue mi_X4_look 0 0 0 = true by decide +kernel) (Nat.le_of_ble_eq_true rfl) (fun v9 M2 hq => ?_) (fun X M9 hq => False.elim hq)
  obtain ⟨r3, rfl, h⟩ := kI_l hq
  refine e_blk 1 4 _ _ (pc' := 6) (L' := [some (.ref a0), some (.int a1), none]) (st' := [.int (48 : Int32), .int r3]) rfl ?_
  refine e_icmp_lt 22 rfl rfl (fun hc => ?_) (fun hc => ?_)
  · replace h := h.1 hc
    refine e_drp [true, true, false] (L' := [some (.ref a0), some (.int a1), none]) rfl ?_
    exact x_X4_readValue_22  h
  · replace h := h.2 hc
    refine e_blk 1 9 _ _ (pc' := 10) (L' := [some (.ref a0), some (.int a1), none]) (st' := [.ref a0]) rfl ?_
    obtain ⟨ho4, h⟩ := h
    refine e_callV (As := []) (rest := []) (ci := 4) rfl (x_X4_look h) ho4 rfl rfl rfl (aw (i := 613) (by decide +kernel) rfl) wn_X4_look wv_X4_look wi_X4_look wc_X4_look (show cok mi_X4_readValue mi_X4_look 0 0 0 = true by decide +kernel) (Nat.le_of_ble_eq_true rfl) (fun v9 M5 hq => ?_) (fun X M9 hq => False.elim hq)
    obtain ⟨r6, rfl, h⟩ := kI_l hq
    refine e_blk 1 13 _ _ (pc' := 15) (L' := [some (.ref a0), some (.int a1), none]) (st' := [.int (57 : Int32), .int r6]) rfl ?_
    refine e_icmp_gt 22 rfl rfl (fun hc => ?_) (fun hc => ?_)
    · replace h := h.1 hc
      refine e_drp [true, true, false] (L' := [some (.ref a0), some (.int a1), none]) rfl ?_
      exact x_X4_readValue_22  h
    · replace h := h.2 hc
      refine e_blk 2 18 _ _ (pc' := 23) (L' := [some (.ref a0), some (.int a1), none]) (st' := [.int (1 : Int32)]) rfl ?_
      refine e_drp [true, true, false] (L' := [some (.ref a0), some (.int a1), none]) rfl ?_
      exact x_X4_readValue_23  h
def V_X4_readWhichWeekday_73 (K : Rs → Mm → Prop)  (M : Mm)  : Prop := K (.inl none) M
set_option maxRecDepth 100000 in
set_option maxHeartbeats 4000000 in
theorem x_X4_readWhichWeekday_73 {G : Gx} {K : Rs → Mm → Prop}  {M : Mm}  (h : V_X4_readWhichWeekday_73 K  M ) : E G mi_X4_readWhichWeekday K M 0 0 73 [none, none, none] [] := by
  unfold V_X4_readWhichWeekday_73 at h
  exact e_ret rfl rfl (by decide) (by decide) h
def V_X4_readWhichWeekday_14 (K : Rs → Mm → Prop)  (M : Mm) (l0 : Nat) (l1 : Int32) (s0 : Int32) : Prop := (ob M l0 4 ∧ ∀ M2, M2 = sI M l0 2 ((mI M l0 2) + (1 : Int32)) → ((s0 = 0 → ∃ b3, mP M2 l0 5 = some b3 ∧ (ob M2 b3 3 ∧ V_X4_readNumber (kI (fun r6 M5 => (ob M5 b3 3 ∧ ∀ M8, M8 = sJ M5 b3 10 ((mJ M2 b3 10) ||| ((1 : Int64) <<< (((((7 : Int32) * r6) + l1)).toInt64 &&& 63))) → V_X4_readWhichWeekday_73 K  M8 )) (fun _ _ => False)) M2 l0 (1 : Int32) (1 : Int32) (5 : Int32))) ∧ (¬ s0 = 0 → ∃ b9, mP M2 l0 5 = some b9 ∧ (ob M2 b9 3 ∧ ∀ M11, M11 = sJ M2 b9 9 ((mJ M2 b9 9) ||| ((1 : Int64) <<< ((l1).toInt64 &&& 63))) → V_X4_readWhichWeekday_73 K  M11 ))))
set_option maxRecDepth 100000 in
set_option maxHeartbeats 4000000 in
theorem x_X4_readWhichWeekday_14 {G : Gx} {K : Rs → Mm → Prop}  {M : Mm} {l0 : Nat} {l1 : Int32} {s0 : Int32} (h : V_X4_readWhichWeekday_14 K  M l0 l1 s0) : E G mi_X4_readWhichWeekday K M 0 0 14 [some (.ref l0), some (.int l1), none] [.int s0] := by
  unfold V_X4_readWhichWeekday_14 at h
  refine e_blk 3 14 _ _ (pc' := 17) (L' := [some (.ref l0), some (.int l1), some (.int s0)]) (st' := [.ref l0, .ref l0]) rfl ?_
  obtain ⟨ho1, h⟩ := h
  refine e_getI 4 2 rfl rfl (by decide) (aw (i := 195) (by decide +kernel) rfl) ho1 rfl ?_
  refine e_blk 2 20 _ _ (pc' := 22) (L' := [some (.ref l0), some (.int l1), some (.int s0)]) (st' := [.int ((mI M l0 2) + (1 : Int32)), .ref l0]) rfl ?_
  refine e_putI 4 2 rfl rfl (by decide) (aw (i := 195) (by decide +kernel) rfl) rfl ho1 rfl ?_
  generalize hM2 : sI M l0 2 ((mI M l0 2) + (1 : Int32)) = M2
  replace h := h M2 hM2.symm
  replace ho1 : ob M2 l0 4 := hM2 ▸ ob_sI ho1
  refine e_blk 1 25 _ _ (pc' := 26) (L' := [some (.ref l0), some (.int l1), some (.int s0)]) (st' := [.int s0]) rfl ?_
  refine e_if_eq 47 rfl rfl (fun hc => ?_) (fun hc => ?_)
  · replace h := h.1 hc
    refine e_blk 1 47 _ _ (pc' := 48) (L' := [some (.ref l0), some (.int l1), some (.int s0)]) (st' := [.ref l0]) rfl ?_
    obtain ⟨b3, hbb3, h⟩ := h
    refine e_getR 4 5 rfl rfl (by decide) (aw (i := 199) (by decide +kernel) rfl) ho1 rfl hbb3 ?_
    refine e_blk 1 51 _ _ (pc' := 52) (L' := [some (.ref l0), some (.int l1), some (.int s0)]) (st' := [.ref b3, .ref b3]) rfl ?_
    obtain ⟨ho4, h⟩ := h
    refine e_getJ 3 10 rfl rfl (by decide) (aw (i := 160) (by decide +kernel) rfl) ho4 rfl ?_
    refine e_blk 6 55 _ _ (pc' := 62) (L' := [some (.ref l0), some (.int l1), some (.int s0)]) (st' := [.int (5 : Int32), .int (1 : Int32), .int (1 : Int32), .ref l0, .int (7 : Int32), .long (1 : Int64), .long (mJ M2 b3 10), .ref b3]) rfl ?_
    refine e_callV (As := [.int (1 : Int32), .int (1 : Int32), .int (5 : Int32)]) (rest := [.int (7 : Int32), .long (1 : Int64), .long (mJ M2 b3 10), .ref b3]) (ci := 4) rfl (x_X4_readNumber h) ho1 rfl rfl rfl (aw (i := 705) (by decide +kernel) rfl) wn_X4_readNumber wv_X4_readNumber wi_X4_readNumber wc_X4_readNumber (show cok mi_X4_readWhichWeekday mi_X4_readNumber 0 0 3 = true by decide +kernel) (Nat.le_of_ble_eq_true rfl) (fun v9 M5 hq => ?_) (fun X M9 hq => False.elim hq)
    obtain ⟨r6, rfl, h⟩ := kI_l hq
    refine e_blk 5 65 _ _ (pc' := 70) (L' := [some (.ref l0), some (.int l1), some (.int s0)]) (st' := [.long ((mJ M2 b3 10) ||| ((1 : Int64) <<< (((((7 : Int32) * r6) + l1)).toInt64 &&& 63))), .ref b3]) rfl ?_
    obtain ⟨ho7, h⟩ := h
    refine e_putJ 3 10 rfl rfl (by decide) (aw (i := 160) (by decide +kernel) rfl) rfl ho7 rfl ?_
    generalize hM8 : sJ M5 b3 10 ((mJ M2 b3 10) ||| ((1 : Int64) <<< (((((7 : Int32) * r6) + l1)).toInt64 &&& 63))) = M8
    replace h := h M8 hM8.symm
    replace ho7 : ob M8 b3 3 := hM8 ▸ ob_sJ ho7
    refine e_drp [false, false, false] (L' := [none, none, none]) rfl ?_
    exact x_X4_readWhichWeekday_73  h
  · replace h := h.2 hc
    refine e_blk 1 29 _ _ (pc' := 30) (L' := [some (.ref l0), some (.int l1), some (.int s0)]) (st' := [.ref l0]) rfl ?_
    obtain ⟨b9, hbb9, h⟩ := h
    refine e_getR 4 5 rfl rfl (by decide) (aw (i := 199) (by decide +kernel) rfl) ho1 rfl hbb9 ?_
    refine e_blk 1 33 _ _ (pc' := 34) (L' := [some (.ref l0), some (.int l1), some (.int s0)]) (st' := [.ref b9, .ref b9]) rfl ?_
    obtain ⟨ho10, h⟩ := h
    refine e_getJ 3 9 rfl rfl (by decide) (aw (i := 158) (by decide +kernel) rfl) ho10 rfl ?_
    refine e_blk 4 37 _ _ (pc' := 41) (L' := [some (.ref l0), some (.int l1), some (.int s0)]) (st' := [.long ((mJ M2 b9 9) ||| ((1 : Int64) <<< ((l1).toInt64 &&& 63))), .ref b9]) rfl ?_
    refine e_putJ 3 9 rfl rfl (by decide) (aw (i := 158) (by decide +kernel) rfl) rfl ho10 rfl ?_
    generalize hM11 : sJ M2 b9 9 ((mJ M2 b9 9) ||| ((1 : Int64) <<< ((l1).toInt64 &&& 63))) = M11
    replace h := h M11 hM11.symm
    replace ho1 : ob M11 l0 4 := hM11 ▸ ob_sJ ho1
    replace ho10 : ob M11 b9 3 := hM11 ▸ ob_sJ ho10
    refine e_blk 1 44 _ _ (pc' := 73) (L' := [some (.ref l0), some (.int l1), some (.int s0)]) (st' := []) rfl ?_
    refine e_drp [false, false, false] (L' := [none, none, none]) rfl ?_
    exact x_X4_readWhichWeekday_73  h
def V_X4_readWhichWeekday (K : Rs → Mm → Prop) (M : Mm) (a0 : Nat) (a1 : Int32) : Prop := (ob M a0 4 ∧ V_X4_look (kI (fun r3 M2 => ((¬ r3 = (76 : Int32) → V_X4_readWhichWeekday_14 K  M2 a0 a1 (0 : Int32)) ∧ (r3 = (76 : Int32) → V_X4_readWhichWeekday_14 K  M2 a0 a1 (1 : Int32)))) (fun _ _ => False)) M a0)
set_option maxRecDepth 100000 in
set_option maxHeartbeats 4000000 in
theorem x_X4_readWhichWeekday {G : Gx} {K : Rs → Mm → Prop} {M : Mm} {a0 : Nat} {a1 : Int32} (h : V_X4_readWhichWeekday K M a0 a1) : MC G mi_X4_readWhichWeekday [.ref a0, .int a1] M K := by
  unfold V_X4_readWhichWeekday at h
  refine mc_of rfl (by decide +kernel) dc_X4_readWhichWeekday (Nat.le_of_ble_eq_true rfl) 1 (Nat.le_of_ble_eq_true rfl) ?_
  show E G mi_X4_readWhichWeekday K M 0 0 0 [some (.ref a0), some (.int a1), none] []
  refine e_blk 1 0 _ _ (pc' := 1) (L' := [some (.ref a0), some (.int a1), none]) (st' := [.ref a0]) rfl ?_
  obtain ⟨ho1, h⟩ := h
  refine e_callV (As := []) (rest := []) (ci := 4) rfl (x_X4_look h) ho1 rfl rfl rfl (aw (i := 613) (by decide +kernel) rfl) wn_X4_look wv_X4_look wi_X4_look wc_X4_look (show cok mi_X4_readWhichWeekday mi_X4_look 0 0 0 = true by decide +kernel) (Nat.le_of_ble_eq_true rfl) (fun v9 M2 hq => ?_) (fun X M9 hq => False.elim hq)
  obtain ⟨r3, rfl, h⟩ := kI_l hq
  refine e_blk 1 4 _ _ (pc' := 6) (L' := [some (.ref a0), some (.int a1), none]) (st' := [.int (76 : Int32), .int r3]) rfl ?_
  refine e_icmp_ne 13 rfl rfl (fun hc => ?_) (fun hc => ?_)
  · replace h := h.1 hc
    refine e_blk 1 13 _ _ (pc' := 14) (L' := [some (.ref a0), some (.int a1), none]) (st' := [.int (0 : Int32)]) rfl ?_
    refine e_drp [true, true, false] (L' := [some (.ref a0), some (.int a1), none]) rfl ?_
    exact x_X4_readWhichWeekday_14  h
  · replace h := h.2 hc
    refine e_blk 2 9 _ _ (pc' := 14) (L' := [some (.ref a0), some (.int a1), none]) (st' := [.int (1 : Int32)]) rfl ?_
    refine e_drp [true, true, false] (L' := [some (.ref a0), some (.int a1), none]) rfl ?_
    exact x_X4_readWhichWeekday_14  h
def V_X4_readItem_258 (K : Rs → Mm → Prop)  (M : Mm)  : Prop := K (.inl none) M
set_option maxRecDepth 100000 in
set_option maxHeartbeats 4000000 in
theorem x_X4_readItem_258 {G : Gx} {K : Rs → Mm → Prop}  {M : Mm}  (h : V_X4_readItem_258 K  M ) : E G mi_X4_readItem K M 0 0 258 [none, none, none, none, none] [] := by
  unfold V_X4_readItem_258 at h
  exact e_ret rfl rfl (by decide) (by decide) h
def V_X4_readItem_247 (K : Rs → Mm → Prop)  (M : Mm) (l0 : Nat) (l1 : Int32) (l2 : Int32) : Prop := (ob M l0 4 ∧ ∃ b2, mP M l0 5 = some b2 ∧ (ob M b2 3 ∧ V_X3_add (kV (fun M4 => V_X4_readItem_258 K  M4 ) (fun _ _ => False)) M b2 l1 l2 l2 (1 : Int32)))
set_option maxRecDepth 100000 in
set_option maxHeartbeats 4000000 in
theorem x_X4_readItem_247 {G : Gx} {K : Rs → Mm → Prop}  {M : Mm} {l0 : Nat} {l1 : Int32} {l2 : Int32} (h : V_X4_readItem_247 K  M l0 l1 l2) : E G mi_X4_readItem K M 0 0 247 [some (.ref l0), some (.int l1), some (.int l2), none, none] [] := by
  unfold V_X4_readItem_247 at h
  refine e_blk 1 247 _ _ (pc' := 248) (L' := [some (.ref l0), some (.int l1), some (.int l2), none, none]) (st' := [.ref l0]) rfl ?_
  obtain ⟨ho1, h⟩ := h
  obtain ⟨b2, hbb2, h⟩ := h
  refine e_getR 4 5 rfl rfl (by decide) (aw (i := 199) (by decide +kernel) rfl) ho1 rfl hbb2 ?_
  refine e_blk 4 251 _ _ (pc' := 255) (L' := [some (.ref l0), some (.int l1), some (.int l2), none, none]) (st' := [.int (1 : Int32), .int l2, .int l2, .int l1, .ref b2]) rfl ?_
  obtain ⟨ho3, h⟩ := h
  refine e_callV (As := [.int l1, .int l2, .int l2, .int (1 : Int32)]) (rest := []) (ci := 3) rfl (x_X3_add h) ho3 rfl rfl rfl (aw (i := 681) (by decide +kernel) rfl) wn_X3_add wv_X3_add wi_X3_add wc_X3_add (show cok mi_X4_readItem mi_X3_add 0 0 4 = true by decide +kernel) (Nat.le_of_ble_eq_true rfl) (fun v9 M4 hq => ?_) (fun X M9 hq => False.elim hq)
  obtain ⟨rfl, h⟩ := kV_l hq
  refine e_drp [false, false, false, false, false] (L' := [none, none, none, none, none]) rfl ?_
  exact x_X4_readItem_258  h
def V_X4_readItem_236 (K : Rs → Mm → Prop)  (M : Mm) (l0 : Nat) (l2 : Int32) : Prop := (ob M l0 4 ∧ V_X4_readWhichWeekday (kV (fun M2 => V_X4_readItem_258 K  M2 ) (fun _ _ => False)) M l0 (l2 - l2 / (7 : Int32) * (7 : Int32)))
set_option maxRecDepth 100000 in
set_option maxHeartbeats 4000000 in
theorem x_X4_readItem_236 {G : Gx} {K : Rs → Mm → Prop}  {M : Mm} {l0 : Nat} {l2 : Int32} (h : V_X4_readItem_236 K  M l0 l2) : E G mi_X4_readItem K M 0 0 236 [some (.ref l0), none, some (.int l2), none, none] [] := by
  unfold V_X4_readItem_236 at h
  refine e_blk 3 236 _ _ (pc' := 240) (L' := [some (.ref l0), none, some (.int l2), none, none]) (st' := [.int (7 : Int32), .int l2, .ref l0]) rfl ?_
  refine e_irem rfl (by decide) ?_
  obtain ⟨ho1, h⟩ := h
  refine e_callV (As := [.int (l2 - l2 / (7 : Int32) * (7 : Int32))]) (rest := []) (ci := 4) rfl (x_X4_readWhichWeekday h) ho1 rfl rfl rfl (aw (i := 727) (by decide +kernel) rfl) wn_X4_readWhichWeekday wv_X4_readWhichWeekday wi_X4_readWhichWeekday wc_X4_readWhichWeekday (show cok mi_X4_readItem mi_X4_readWhichWeekday 0 0 1 = true by decide +kernel) (Nat.le_of_ble_eq_true rfl) (fun v9 M2 hq => ?_) (fun X M9 hq => False.elim hq)
  obtain ⟨rfl, h⟩ := kV_l hq
  refine e_blk 1 244 _ _ (pc' := 258) (L' := [some (.ref l0), none, some (.int l2), none, none]) (st' := []) rfl ?_
  refine e_drp [false, false, false, false, false] (L' := [none, none, none, none, none]) rfl ?_
  exact x_X4_readItem_258  h
def V_X4_readItem_213 (K : Rs → Mm → Prop)  (M : Mm) (l0 : Nat) (l1 : Int32) (l2 : Int32) : Prop := ((¬ l1 = (4 : Int32) → V_X4_readItem_247 K  M l0 l1 l2) ∧ (l1 = (4 : Int32) → (ob M l0 4 ∧ V_X4_look (kI (fun r3 M2 => ((r3 = (76 : Int32) → V_X4_readItem_236 K  M2 l0 l2) ∧ (¬ r3 = (76 : Int32) → (ob M2 l0 4 ∧ V_X4_look (kI (fun r6 M5 => ((¬ r6 = (35 : Int32) → V_X4_readItem_247 K  M5 l0 l1 l2) ∧ (r6 = (35 : Int32) → V_X4_readItem_236 K  M5 l0 l2))) (fun _ _ => False)) M2 l0)))) (fun _ _ => False)) M l0)))
set_option maxRecDepth 100000 in
set_option maxHeartbeats 4000000 in
theorem x_X4_readItem_213 {G : Gx} {K : Rs → Mm → Prop}  {M : Mm} {l0 : Nat} {l1 : Int32} {l2 : Int32} (h : V_X4_readItem_213 K  M l0 l1 l2) : E G mi_X4_readItem K M 0 0 213 [some (.ref l0), some (.int l1), some (.int l2), none, none] [] := by
  unfold V_X4_readItem_213 at h
  refine e_blk 2 213 _ _ (pc' := 215) (L' := [some (.ref l0), some (.int l1), some (.int l2), none, none]) (st' := [.int (4 : Int32), .int l1]) rfl ?_
  refine e_icmp_ne 247 rfl rfl (fun hc => ?_) (fun hc => ?_)
  · replace h := h.1 hc
    refine e_drp [true, true, true, false, false] (L' := [some (.ref l0), some (.int l1), some (.int l2), none, none]) rfl ?_
    exact x_X4_readItem_247  h
  · replace h := h.2 hc
    refine e_blk 1 218 _ _ (pc' := 219) (L' := [some (.ref l0), some (.int l1), some (.int l2), none, none]) (st' := [.ref l0]) rfl ?_
    obtain ⟨ho1, h⟩ := h
    refine e_callV (As := []) (rest := []) (ci := 4) rfl (x_X4_look h) ho1 rfl rfl rfl (aw (i := 613) (by decide +kernel) rfl) wn_X4_look wv_X4_look wi_X4_look wc_X4_look (show cok mi_X4_readItem mi_X4_look 0 0 0 = true by decide +kernel) (Nat.le_of_ble_eq_true rfl) (fun v9 M2 hq => ?_) (fun X M9 hq => False.elim hq)
    obtain ⟨r3, rfl, h⟩ := kI_l hq
    refine e_blk 1 222 _ _ (pc' := 224) (L' := [some (.ref l0), some (.int l1), some (.int l2), none, none]) (st' := [.int (76 : Int32), .int r3]) rfl ?_
    refine e_icmp_eq 236 rfl rfl (fun hc => ?_) (fun hc => ?_)
    · replace h := h.1 hc
      refine e_drp [true, false, true, false, false] (L' := [some (.ref l0), none, some (.int l2), none, none]) rfl ?_
      exact x_X4_readItem_236  h
    · replace h := h.2 hc
      refine e_blk 1 227 _ _ (pc' := 228) (L' := [some (.ref l0), some (.int l1), some (.int l2), none, none]) (st' := [.ref l0]) rfl ?_
      obtain ⟨ho4, h⟩ := h
      refine e_callV (As := []) (rest := []) (ci := 4) rfl (x_X4_look h) ho4 rfl rfl rfl (aw (i := 613) (by decide +kernel) rfl) wn_X4_look wv_X4_look wi_X4_look wc_X4_look (show cok mi_X4_readItem mi_X4_look 0 0 0 = true by decide +kernel) (Nat.le_of_ble_eq_true rfl) (fun v9 M5 hq => ?_) (fun X M9 hq => False.elim hq)
      obtain ⟨r6, rfl, h⟩ := kI_l hq
      refine e_blk 1 231 _ _ (pc' := 233) (L' := [some (.ref l0), some (.int l1), some (.int l2), none, none]) (st' := [.int (35 : Int32), .int r6]) rfl ?_
      refine e_icmp_ne 247 rfl rfl (fun hc => ?_) (fun hc => ?_)
      · replace h := h.1 hc
        refine e_drp [true, true, true, false, false] (L' := [some (.ref l0), some (.int l1), some (.int l2), none, none]) rfl ?_
        exact x_X4_readItem_247  h
      · replace h := h.2 hc
        refine e_drp [true, false, true, false, false] (L' := [some (.ref l0), none, some (.int l2), none, none]) rfl ?_
        exact x_X4_readItem_236  h
def V_X4_readItem_165 (K : Rs → Mm → Prop)  (M : Mm) (s0 : Nat) (s1 : Int32) (s2 : Int32) (s3 : Int32) : Prop := (ob M s0 4 ∧ V_X4_addStretch (kV (fun M2 => V_X4_readItem_258 K  M2 ) (fun _ _ => False)) M s0 s1 s2 s3)
set_option maxRecDepth 100000 in
set_option maxHeartbeats 4000000 in
theorem x_X4_readItem_165 {G : Gx} {K : Rs → Mm → Prop}  {M : Mm} {s0 : Nat} {s1 : Int32} {s2 : Int32} {s3 : Int32} (h : V_X4_readItem_165 K  M s0 s1 s2 s3) : E G mi_X4_readItem K M 0 0 165 [none, none, none, none, none] [.int s3, .int s2, .int s1, .ref s0] := by
  unfold V_X4_readItem_165 at h
  obtain ⟨ho1, h⟩ := h
  refine e_callV (As := [.int s1, .int s2, .int s3]) (rest := []) (ci := 4) rfl (x_X4_addStretch h) ho1 rfl rfl rfl (aw (i := 701) (by decide +kernel) rfl) wn_X4_addStretch wv_X4_addStretch wi_X4_addStretch wc_X4_addStretch (show cok mi_X4_readItem mi_X4_addStretch 0 0 3 = true by decide +kernel) (Nat.le_of_ble_eq_true rfl) (fun v9 M2 hq => ?_) (fun X M9 hq => False.elim hq)
  obtain ⟨rfl, h⟩ := kV_l hq
  refine e_blk 1 168 _ _ (pc' := 258) (L' := [none, none, none, none, none]) (st' := []) rfl ?_
  refine e_drp [false, false, false, false, false] (L' := [none, none, none, none, none]) rfl ?_
  exact x_X4_readItem_258  h
def V_X4_readItem_160 (K : Rs → Mm → Prop)  (M : Mm) (l1 : Int32) (s0 : Nat) (s1 : Int32) (s2 : Int32) : Prop := (vp_in l1 6 ∧ V_X4_readItem_165 K  M s0 s1 s2 (tbG (l1).toNatClampNeg))
set_option maxRecDepth 100000 in
set_option maxHeartbeats 4000000 in
theorem x_X4_readItem_160 {G : Gx} {K : Rs → Mm → Prop}  {M : Mm} {l1 : Int32} {s0 : Nat} {s1 : Int32} {s2 : Int32} (h : V_X4_readItem_160 K  M l1 s0 s1 s2) : E G mi_X4_readItem K M 0 0 160 [none, some (.int l1), none, none, none] [.int s2, .int s1, .ref s0] := by
  unfold V_X4_readItem_160 at h
  refine e_getsN (host := "CalendarOrders") (.ref (gS G 1)) rfl (fun s hs => hs.2.2.2.2.2.2.2.1) (ao (i := 699) (by decide +kernel) rfl) ?_
  refine e_blk 1 163 _ _ (pc' := 164) (L' := [none, some (.int l1), none, none, none]) (st' := [.int l1, .ref (gS G 1), .int s2, .int s1, .ref s0]) rfl ?_
  obtain ⟨hi1, h⟩ := h
  refine e_tI (.int (tbG (l1).toNatClampNeg)) rfl (fun s hs => hs.2.2.2.2.2.2.2.2.1) hi1 rfl ?_
  refine e_drp [false, false, false, false, false] (L' := [none, none, none, none, none]) rfl ?_
  exact x_X4_readItem_165  h
def V_X4_readItem_121 (K : Rs → Mm → Prop)  (M : Mm) (l0 : Nat) (l1 : Int32) (l2 : Int32) (l4 : Int32) : Prop := (ob M l0 4 ∧ V_X4_addStretch (kV (fun M2 => V_X4_readItem_258 K  M2 ) (fun _ _ => False)) M l0 l1 l2 l4)
set_option maxRecDepth 100000 in
set_option maxHeartbeats 4000000 in
theorem x_X4_readItem_121 {G : Gx} {K : Rs → Mm → Prop}  {M : Mm} {l0 : Nat} {l1 : Int32} {l2 : Int32} {l4 : Int32} (h : V_X4_readItem_121 K  M l0 l1 l2 l4) : E G mi_X4_readItem K M 0 0 121 [some (.ref l0), some (.int l1), some (.int l2), none, some (.int l4)] [] := by
  unfold V_X4_readItem_121 at h
  refine e_blk 4 121 _ _ (pc' := 126) (L' := [some (.ref l0), some (.int l1), some (.int l2), none, some (.int l4)]) (st' := [.int l4, .int l2, .int l1, .ref l0]) rfl ?_
  obtain ⟨ho1, h⟩ := h
  refine e_callV (As := [.int l1, .int l2, .int l4]) (rest := []) (ci := 4) rfl (x_X4_addStretch h) ho1 rfl rfl rfl (aw (i := 701) (by decide +kernel) rfl) wn_X4_addStretch wv_X4_addStretch wi_X4_addStretch wc_X4_addStretch (show cok mi_X4_readItem mi_X4_addStretch 0 0 3 = true by decide +kernel) (Nat.le_of_ble_eq_true rfl) (fun v9 M2 hq => ?_) (fun X M9 hq => False.elim hq)
  obtain ⟨rfl, h⟩ := kV_l hq
  refine e_blk 1 129 _ _ (pc' := 258) (L' := [some (.ref l0), some (.int l1), some (.int l2), none, some (.int l4)]) (st' := []) rfl ?_
  refine e_drp [false, false, false, false, false] (L' := [none, none, none, none, none]) rfl ?_
  exact x_X4_readItem_258  h
def V_X4_readItem_64 (K : Rs → Mm → Prop)  (M : Mm) (l0 : Nat) (l1 : Int32) : Prop := (ob M l0 4 ∧ V_X4_readValue (kI (fun r3 M2 => (ob M2 l0 4 ∧ (((mI M2 l0 3) = 0 → V_X4_look (kI (fun r6 M5 => ((¬ r6 = (45 : Int32) → (ob M5 l0 4 ∧ V_X4_look (kI (fun r9 M8 => ((¬ r9 = (47 : Int32) → ((¬ l1 = (2 : Int32) → V_X4_readItem_213 K  M8 l0 l1 r3) ∧ (l1 = (2 : Int32) → (ob M8 l0 4 ∧ V_X4_look (kI (fun r12 M11 => ((¬ r12 = (87 : Int32) → V_X4_readItem_213 K  M11 l0 l1 r3) ∧ (r12 = (87 : Int32) → (ob M11 l0 4 ∧ ∀ M14, M14 = sI M11 l0 2 ((mI M11 l0 2) + (1 : Int32)) → ∃ b15, mP M14 l0 5 = some b15 ∧ (ob M14 b15 3 ∧ ∀ M17, M17 = sJ M14 b15 8 ((mJ M14 b15 8) ||| ((1 : Int64) <<< ((r3).toInt64 &&& 63))) → V_X4_readItem_258 K  M17 ))))) (fun _ _ => False)) M8 l0)))) ∧ (r9 = (47 : Int32) → ((¬ l1 = (4 : Int32) → V_X4_readItem_160 K  M8 l1 l0 l1 r3) ∧ (l1 = (4 : Int32) → (((7 : Int32) ≤ r3 → V_X4_readItem_160 K  M8 l1 l0 l1 r3) ∧ (¬ (7 : Int32) ≤ r3 → V_X4_readItem_165 K  M8 l0 l1 r3 (6 : Int32)))))))) (fun _ _ => False)) M5 l0)) ∧ (r6 = (45 : Int32) → (ob M5 l0 4 ∧ ∀ M19, M19 = sI M5 l0 2 ((mI M5 l0 2) + (1 : Int32)) → ∀ x20 : Int32, x20 = (mI M19 l0 2) → V_X4_readValue (kI (fun r22 M21 => ((r3 ≤ r22 → V_X4_readItem_121 K  M21 l0 l1 r3 r22) ∧ (¬ r3 ≤ r22 → (ob M21 l0 4 ∧ V_X4_fail (kV (fun M24 => V_X4_readItem_121 K  M24 l0 l1 r3 r22) (fun _ _ => False)) M21 l0 (3 : Int32) x20)))) (fun _ _ => False)) M19 l0 l1)))) (fun _ _ => False)) M2 l0) ∧ (¬ (mI M2 l0 3) = 0 → K (.inl none) M2)))) (fun _ _ => False)) M l0 l1)
set_option maxRecDepth 100000 in
set_option maxHeartbeats 4000000 in
theorem x_X4_readItem_64 {G : Gx} {K : Rs → Mm → Prop}  {M : Mm} {l0 : Nat} {l1 : Int32} (h : V_X4_readItem_64 K  M l0 l1) : E G mi_X4_readItem K M 0 0 64 [some (.ref l0), some (.int l1), none, none, none] [] := by
  unfold V_X4_readItem_64 at h
  refine e_blk 2 64 _ _ (pc' := 66) (L' := [some (.ref l0), some (.int l1), none, none, none]) (st' := [.int l1, .ref l0]) rfl ?_
  obtain ⟨ho1, h⟩ := h
  refine e_callV (As := [.int l1]) (rest := []) (ci := 4) rfl (x_X4_readValue h) ho1 rfl rfl rfl (aw (i := 713) (by decide +kernel) rfl) wn_X4_readValue wv_X4_readValue wi_X4_readValue wc_X4_readValue (show cok mi_X4_readItem mi_X4_readValue 0 0 1 = true by decide +kernel) (Nat.le_of_ble_eq_true rfl) (fun v9 M2 hq => ?_) (fun X M9 hq => False.elim hq)
  obtain ⟨r3, rfl, h⟩ := kI_l hq
  refine e_blk 2 69 _ _ (pc' := 71) (L' := [some (.ref l0), some (.int l1), some (.int r3), none, none]) (st' := [.ref l0]) rfl ?_
  obtain ⟨ho4, h⟩ := h
  refine e_getI 4 3 rfl rfl (by decide) (aw (i := 196) (by decide +kernel) rfl) ho4 rfl ?_
  refine e_if_eq 78 rfl rfl (fun hc => ?_) (fun hc => ?_)
  · replace h := h.1 hc
    refine e_blk 1 78 _ _ (pc' := 79) (L' := [some (.ref l0), some (.int l1), some (.int r3), none, none]) (st' := [.ref l0]) rfl ?_
    refine e_callV (As := []) (rest := []) (ci := 4) rfl (x_X4_look h) ho4 rfl rfl rfl (aw (i := 613) (by decide +kernel) rfl) wn_X4_look wv_X4_look wi_X4_look wc_X4_look (show cok mi_X4_readItem mi_X4_look 0 0 0 = true by decide +kernel) (Nat.le_of_ble_eq_true rfl) (fun v9 M5 hq => ?_) (fun X M9 hq => False.elim hq)
    obtain ⟨r6, rfl, h⟩ := kI_l hq
    refine e_blk 1 82 _ _ (pc' := 84) (L' := [some (.ref l0), some (.int l1), some (.int r3), none, none]) (st' := [.int (45 : Int32), .int r6]) rfl ?_
    refine e_icmp_ne 132 rfl rfl (fun hc => ?_) (fun hc => ?_)
    · replace h := h.1 hc
      refine e_blk 1 132 _ _ (pc' := 133) (L' := [some (.ref l0), some (.int l1), some (.int r3), none, none]) (st' := [.ref l0]) rfl ?_
      obtain ⟨ho7, h⟩ := h
      refine e_callV (As := []) (rest := []) (ci := 4) rfl (x_X4_look h) ho7 rfl rfl rfl (aw (i := 613) (by decide +kernel) rfl) wn_X4_look wv_X4_look wi_X4_look wc_X4_look (show cok mi_X4_readItem mi_X4_look 0 0 0 = true by decide +kernel) (Nat.le_of_ble_eq_true rfl) (fun v9 M8 hq => ?_) (fun X M9 hq => False.elim hq)
      obtain ⟨r9, rfl, h⟩ := kI_l hq
      refine e_blk 1 136 _ _ (pc' := 138) (L' := [some (.ref l0), some (.int l1), some (.int r3), none, none]) (st' := [.int (47 : Int32), .int r9]) rfl ?_
      refine e_icmp_ne 171 rfl rfl (fun hc => ?_) (fun hc => ?_)
      · replace h := h.1 hc
        refine e_blk 2 171 _ _ (pc' := 173) (L' := [some (.ref l0), some (.int l1), some (.int r3), none, none]) (st' := [.int (2 : Int32), .int l1]) rfl ?_
        refine e_icmp_ne 213 rfl rfl (fun hc => ?_) (fun hc => ?_)
        · replace h := h.1 hc
          refine e_drp [true, true, true, false, false] (L' := [some (.ref l0), some (.int l1), some (.int r3), none, none]) rfl ?_
          exact x_X4_readItem_213  h
        · replace h := h.2 hc
          refine e_blk 1 176 _ _ (pc' := 177) (L' := [some (.ref l0), some (.int l1), some (.int r3), none, none]) (st' := [.ref l0]) rfl ?_
          obtain ⟨ho10, h⟩ := h
          refine e_callV (As := []) (rest := []) (ci := 4) rfl (x_X4_look h) ho10 rfl rfl rfl (aw (i := 613) (by decide +kernel) rfl) wn_X4_look wv_X4_look wi_X4_look wc_X4_look (show cok mi_X4_readItem mi_X4_look 0 0 0 = true by decide +kernel) (Nat.le_of_ble_eq_true rfl) (fun v9 M11 hq => ?_) (fun X M9 hq => False.elim hq)
          obtain ⟨r12, rfl, h⟩ := kI_l hq
          refine e_blk 1 180 _ _ (pc' := 182) (L' := [some (.ref l0), some (.int l1), some (.int r3), none, none]) (st' := [.int (87 : Int32), .int r12]) rfl ?_
          refine e_icmp_ne 213 rfl rfl (fun hc => ?_) (fun hc => ?_)
          · replace h := h.1 hc
            refine e_drp [true, true, true, false, false] (L' := [some (.ref l0), some (.int l1), some (.int r3), none, none]) rfl ?_
            exact x_X4_readItem_213  h
          · replace h := h.2 hc
            refine e_blk 2 185 _ _ (pc' := 187) (L' := [some (.ref l0), some (.int l1), some (.int r3), none, none]) (st' := [.ref l0, .ref l0]) rfl ?_
            obtain ⟨ho13, h⟩ := h
            refine e_getI 4 2 rfl rfl (by decide) (aw (i := 195) (by decide +kernel) rfl) ho13 rfl ?_
            refine e_blk 2 190 _ _ (pc' := 192) (L' := [some (.ref l0), some (.int l1), some (.int r3), none, none]) (st' := [.int ((mI M11 l0 2) + (1 : Int32)), .ref l0]) rfl ?_
            refine e_putI 4 2 rfl rfl (by decide) (aw (i := 195) (by decide +kernel) rfl) rfl ho13 rfl ?_
            generalize hM14 : sI M11 l0 2 ((mI M11 l0 2) + (1 : Int32)) = M14
            replace h := h M14 hM14.symm
            replace ho13 : ob M14 l0 4 := hM14 ▸ ob_sI ho13
            refine e_blk 1 195 _ _ (pc' := 196) (L' := [some (.ref l0), some (.int l1), some (.int r3), none, none]) (st' := [.ref l0]) rfl ?_
            obtain ⟨b15, hbb15, h⟩ := h
            refine e_getR 4 5 rfl rfl (by decide) (aw (i := 199) (by decide +kernel) rfl) ho13 rfl hbb15 ?_
            refine e_blk 1 199 _ _ (pc' := 200) (L' := [some (.ref l0), some (.int l1), some (.int r3), none, none]) (st' := [.ref b15, .ref b15]) rfl ?_
            obtain ⟨ho16, h⟩ := h
            refine e_getJ 3 8 rfl rfl (by decide) (aw (i := 156) (by decide +kernel) rfl) ho16 rfl ?_
            refine e_blk 4 203 _ _ (pc' := 207) (L' := [some (.ref l0), some (.int l1), some (.int r3), none, none]) (st' := [.long ((mJ M14 b15 8) ||| ((1 : Int64) <<< ((r3).toInt64 &&& 63))), .ref b15]) rfl ?_
            refine e_putJ 3 8 rfl rfl (by decide) (aw (i := 156) (by decide +kernel) rfl) rfl ho16 rfl ?_
            generalize hM17 : sJ M14 b15 8 ((mJ M14 b15 8) ||| ((1 : Int64) <<< ((r3).toInt64 &&& 63))) = M17
            replace h := h M17 hM17.symm
            replace ho13 : ob M17 l0 4 := hM17 ▸ ob_sJ ho13
            replace ho16 : ob M17 b15 3 := hM17 ▸ ob_sJ ho16
            refine e_blk 1 210 _ _ (pc' := 258) (L' := [some (.ref l0), some (.int l1), some (.int r3), none, none]) (st' := []) rfl ?_
            refine e_drp [false, false, false, false, false] (L' := [none, none, none, none, none]) rfl ?_
            exact x_X4_readItem_258  h
      · replace h := h.2 hc
        refine e_blk 5 141 _ _ (pc' := 146) (L' := [some (.ref l0), some (.int l1), some (.int r3), none, none]) (st' := [.int (4 : Int32), .int l1, .int r3, .int l1, .ref l0]) rfl ?_
        refine e_icmp_ne 160 rfl rfl (fun hc => ?_) (fun hc => ?_)
        · replace h := h.1 hc
          refine e_drp [false, true, false, false, false] (L' := [none, some (.int l1), none, none, none]) rfl ?_
          exact x_X4_readItem_160  h
        · replace h := h.2 hc
          refine e_blk 2 149 _ _ (pc' := 152) (L' := [some (.ref l0), some (.int l1), some (.int r3), none, none]) (st' := [.int (7 : Int32), .int r3, .int r3, .int l1, .ref l0]) rfl ?_
          refine e_icmp_ge 160 rfl rfl (fun hc => ?_) (fun hc => ?_)
          · replace h := h.1 hc
            refine e_drp [false, true, false, false, false] (L' := [none, some (.int l1), none, none, none]) rfl ?_
            exact x_X4_readItem_160  h
          · replace h := h.2 hc
            refine e_blk 2 155 _ _ (pc' := 165) (L' := [some (.ref l0), some (.int l1), some (.int r3), none, none]) (st' := [.int (6 : Int32), .int r3, .int l1, .ref l0]) rfl ?_
            refine e_drp [false, false, false, false, false] (L' := [none, none, none, none, none]) rfl ?_
            exact x_X4_readItem_165  h
    · replace h := h.2 hc
      refine e_blk 2 87 _ _ (pc' := 89) (L' := [some (.ref l0), some (.int l1), some (.int r3), none, none]) (st' := [.ref l0, .ref l0]) rfl ?_
      obtain ⟨ho18, h⟩ := h
      refine e_getI 4 2 rfl rfl (by decide) (aw (i := 195) (by decide +kernel) rfl) ho18 rfl ?_
      refine e_blk 2 92 _ _ (pc' := 94) (L' := [some (.ref l0), some (.int l1), some (.int r3), none, none]) (st' := [.int ((mI M5 l0 2) + (1 : Int32)), .ref l0]) rfl ?_
      refine e_putI 4 2 rfl rfl (by decide) (aw (i := 195) (by decide +kernel) rfl) rfl ho18 rfl ?_
      generalize hM19 : sI M5 l0 2 ((mI M5 l0 2) + (1 : Int32)) = M19
      replace h := h M19 hM19.symm
      replace ho18 : ob M19 l0 4 := hM19 ▸ ob_sI ho18
      refine e_blk 1 97 _ _ (pc' := 98) (L' := [some (.ref l0), some (.int l1), some (.int r3), none, none]) (st' := [.ref l0]) rfl ?_
      refine e_getI 4 2 rfl rfl (by decide) (aw (i := 195) (by decide +kernel) rfl) ho18 rfl ?_
      refine e_blk 3 101 _ _ (pc' := 104) (L' := [some (.ref l0), some (.int l1), some (.int r3), some (.int (mI M19 l0 2)), none]) (st' := [.int l1, .ref l0]) rfl ?_
      generalize hx_x20 : ((mI M19 l0 2) : Int32) = x20
      replace h := h x20 hx_x20.symm
      refine e_callV (As := [.int l1]) (rest := []) (ci := 4) rfl (x_X4_readValue h) ho18 rfl rfl rfl (aw (i := 713) (by decide +kernel) rfl) wn_X4_readValue wv_X4_readValue wi_X4_readValue wc_X4_readValue (show cok mi_X4_readItem mi_X4_readValue 0 0 1 = true by decide +kernel) (Nat.le_of_ble_eq_true rfl) (fun v9 M21 hq => ?_) (fun X M9 hq => False.elim hq)
      obtain ⟨r22, rfl, h⟩ := kI_l hq
      refine e_blk 3 107 _ _ (pc' := 112) (L' := [some (.ref l0), some (.int l1), some (.int r3), some (.int x20), some (.int r22)]) (st' := [.int r3, .int r22]) rfl ?_
      refine e_icmp_ge 121 rfl rfl (fun hc => ?_) (fun hc => ?_)
      · replace h := h.1 hc
        refine e_drp [true, true, true, false, true] (L' := [some (.ref l0), some (.int l1), some (.int r3), none, some (.int r22)]) rfl ?_
        exact x_X4_readItem_121  h
      · replace h := h.2 hc
        refine e_blk 3 115 _ _ (pc' := 118) (L' := [some (.ref l0), some (.int l1), some (.int r3), some (.int x20), some (.int r22)]) (st' := [.int x20, .int (3 : Int32), .ref l0]) rfl ?_
        obtain ⟨ho23, h⟩ := h
        refine e_callV (As := [.int (3 : Int32), .int x20]) (rest := []) (ci := 4) rfl (x_X4_fail h) ho23 rfl rfl rfl (aw (i := 677) (by decide +kernel) rfl) wn_X4_fail wv_X4_fail wi_X4_fail wc_X4_fail (show cok mi_X4_readItem mi_X4_fail 0 0 2 = true by decide +kernel) (Nat.le_of_ble_eq_true rfl) (fun v9 M24 hq => ?_) (fun X M9 hq => False.elim hq)
        obtain ⟨rfl, h⟩ := kV_l hq
        refine e_drp [true, true, true, false, true] (L' := [some (.ref l0), some (.int l1), some (.int r3), none, some (.int r22)]) rfl ?_
        exact x_X4_readItem_121  h
  · replace h := h.2 hc
    exact e_ret rfl rfl (by decide) (by decide) h
def V_X4_readItem (K : Rs → Mm → Prop) (M : Mm) (a0 : Nat) (a1 : Int32) : Prop := (ob M a0 4 ∧ V_X4_look (kI (fun r3 M2 => ((¬ r3 = (42 : Int32) → ((¬ a1 = (2 : Int32) → V_X4_readItem_64 K  M2 a0 a1) ∧ (a1 = (2 : Int32) → (ob M2 a0 4 ∧ V_X4_look (kI (fun r6 M5 => ((¬ r6 = (76 : Int32) → V_X4_readItem_64 K  M5 a0 a1) ∧ (r6 = (76 : Int32) → (ob M5 a0 4 ∧ ∀ M8, M8 = sI M5 a0 2 ((mI M5 a0 2) + (1 : Int32)) → V_X4_readLastDay (kV (fun M9 => K (.inl none) M9) (fun _ _ => False)) M8 a0)))) (fun _ _ => False)) M2 a0)))) ∧ (r3 = (42 : Int32) → (ob M2 a0 4 ∧ ∀ M11, M11 = sI M2 a0 2 ((mI M2 a0 2) + (1 : Int32)) → (vp_in a1 6 ∧ (vp_in a1 6 ∧ V_X4_addStretch (kV (fun M14 => K (.inl none) M14) (fun _ _ => False)) M11 a0 a1 (tbL (a1).toNatClampNeg) (tbG (a1).toNatClampNeg))))))) (fun _ _ => False)) M a0)
set_option maxRecDepth 100000 in
set_option maxHeartbeats 4000000 in
theorem x_X4_readItem {G : Gx} {K : Rs → Mm → Prop} {M : Mm} {a0 : Nat} {a1 : Int32} (h : V_X4_readItem K M a0 a1) : MC G mi_X4_readItem [.ref a0, .int a1] M K := by
  unfold V_X4_readItem at h
  refine mc_of rfl (by decide +kernel) dc_X4_readItem (Nat.le_of_ble_eq_true rfl) 3 (Nat.le_of_ble_eq_true rfl) ?_
  show E G mi_X4_readItem K M 0 0 0 [some (.ref a0), some (.int a1), none, none, none] []
  refine e_blk 1 0 _ _ (pc' := 1) (L' := [some (.ref a0), some (.int a1), none, none, none]) (st' := [.ref a0]) rfl ?_
  obtain ⟨ho1, h⟩ := h
  refine e_callV (As := []) (rest := []) (ci := 4) rfl (x_X4_look h) ho1 rfl rfl rfl (aw (i := 613) (by decide +kernel) rfl) wn_X4_look wv_X4_look wi_X4_look wc_X4_look (show cok mi_X4_readItem mi_X4_look 0 0 0 = true by decide +kernel) (Nat.le_of_ble_eq_true rfl) (fun v9 M2 hq => ?_) (fun X M9 hq => False.elim hq)
  obtain ⟨r3, rfl, h⟩ := kI_l hq
  refine e_blk 1 4 _ _ (pc' := 6) (L' := [some (.ref a0), some (.int a1), none, none, none]) (st' := [.int (42 : Int32), .int r3]) rfl ?_
  refine e_icmp_ne 35 rfl rfl (fun hc => ?_) (fun hc => ?_)
  · replace h := h.1 hc
    refine e_blk 2 35 _ _ (pc' := 37) (L' := [some (.ref a0), some (.int a1), none, none, none]) (st' := [.int (2 : Int32), .int a1]) rfl ?_
    refine e_icmp_ne 64 rfl rfl (fun hc => ?_) (fun hc => ?_)
    · replace h := h.1 hc
      refine e_drp [true, true, false, false, false] (L' := [some (.ref a0), some (.int a1), none, none, none]) rfl ?_
      exact x_X4_readItem_64  h
    · replace h := h.2 hc
      refine e_blk 1 40 _ _ (pc' := 41) (L' := [some (.ref a0), some (.int a1), none, none, none]) (st' := [.ref a0]) rfl ?_
      obtain ⟨ho4, h⟩ := h
      refine e_callV (As := []) (rest := []) (ci := 4) rfl (x_X4_look h) ho4 rfl rfl rfl (aw (i := 613) (by decide +kernel) rfl) wn_X4_look wv_X4_look wi_X4_look wc_X4_look (show cok mi_X4_readItem mi_X4_look 0 0 0 = true by decide +kernel) (Nat.le_of_ble_eq_true rfl) (fun v9 M5 hq => ?_) (fun X M9 hq => False.elim hq)
      obtain ⟨r6, rfl, h⟩ := kI_l hq
      refine e_blk 1 44 _ _ (pc' := 46) (L' := [some (.ref a0), some (.int a1), none, none, none]) (st' := [.int (76 : Int32), .int r6]) rfl ?_
      refine e_icmp_ne 64 rfl rfl (fun hc => ?_) (fun hc => ?_)
      · replace h := h.1 hc
        refine e_drp [true, true, false, false, false] (L' := [some (.ref a0), some (.int a1), none, none, none]) rfl ?_
        exact x_X4_readItem_64  h
      · replace h := h.2 hc
        refine e_blk 2 49 _ _ (pc' := 51) (L' := [some (.ref a0), some (.int a1), none, none, none]) (st' := [.ref a0, .ref a0]) rfl ?_
        obtain ⟨ho7, h⟩ := h
        refine e_getI 4 2 rfl rfl (by decide) (aw (i := 195) (by decide +kernel) rfl) ho7 rfl ?_
        refine e_blk 2 54 _ _ (pc' := 56) (L' := [some (.ref a0), some (.int a1), none, none, none]) (st' := [.int ((mI M5 a0 2) + (1 : Int32)), .ref a0]) rfl ?_
        refine e_putI 4 2 rfl rfl (by decide) (aw (i := 195) (by decide +kernel) rfl) rfl ho7 rfl ?_
        generalize hM8 : sI M5 a0 2 ((mI M5 a0 2) + (1 : Int32)) = M8
        replace h := h M8 hM8.symm
        replace ho7 : ob M8 a0 4 := hM8 ▸ ob_sI ho7
        refine e_blk 1 59 _ _ (pc' := 60) (L' := [some (.ref a0), some (.int a1), none, none, none]) (st' := [.ref a0]) rfl ?_
        refine e_callV (As := []) (rest := []) (ci := 4) rfl (x_X4_readLastDay h) ho7 rfl rfl rfl (aw (i := 709) (by decide +kernel) rfl) wn_X4_readLastDay wv_X4_readLastDay wi_X4_readLastDay wc_X4_readLastDay (show cok mi_X4_readItem mi_X4_readLastDay 0 0 0 = true by decide +kernel) (Nat.le_of_ble_eq_true rfl) (fun v9 M9 hq => ?_) (fun X M9 hq => False.elim hq)
        obtain ⟨rfl, h⟩ := kV_l hq
        exact e_ret rfl rfl (by decide) (by decide) h
  · replace h := h.2 hc
    refine e_blk 2 9 _ _ (pc' := 11) (L' := [some (.ref a0), some (.int a1), none, none, none]) (st' := [.ref a0, .ref a0]) rfl ?_
    obtain ⟨ho10, h⟩ := h
    refine e_getI 4 2 rfl rfl (by decide) (aw (i := 195) (by decide +kernel) rfl) ho10 rfl ?_
    refine e_blk 2 14 _ _ (pc' := 16) (L' := [some (.ref a0), some (.int a1), none, none, none]) (st' := [.int ((mI M2 a0 2) + (1 : Int32)), .ref a0]) rfl ?_
    refine e_putI 4 2 rfl rfl (by decide) (aw (i := 195) (by decide +kernel) rfl) rfl ho10 rfl ?_
    generalize hM11 : sI M2 a0 2 ((mI M2 a0 2) + (1 : Int32)) = M11
    replace h := h M11 hM11.symm
    replace ho10 : ob M11 a0 4 := hM11 ▸ ob_sI ho10
    refine e_blk 2 19 _ _ (pc' := 21) (L' := [some (.ref a0), some (.int a1), none, none, none]) (st' := [.int a1, .ref a0]) rfl ?_
    refine e_getsN (host := "CalendarOrders") (.ref (gS G 0)) rfl (fun s hs => hs.2.2.2.2.2.1) (ao (i := 697) (by decide +kernel) rfl) ?_
    refine e_blk 1 24 _ _ (pc' := 25) (L' := [some (.ref a0), some (.int a1), none, none, none]) (st' := [.int a1, .ref (gS G 0), .int a1, .ref a0]) rfl ?_
    obtain ⟨hi12, h⟩ := h
    refine e_tI (.int (tbL (a1).toNatClampNeg)) rfl (fun s hs => hs.2.2.2.2.2.2.1) hi12 rfl ?_
    refine e_getsN (host := "CalendarOrders") (.ref (gS G 1)) rfl (fun s hs => hs.2.2.2.2.2.2.2.1) (ao (i := 699) (by decide +kernel) rfl) ?_
    refine e_blk 1 29 _ _ (pc' := 30) (L' := [some (.ref a0), some (.int a1), none, none, none]) (st' := [.int a1, .ref (gS G 1), .int (tbL (a1).toNatClampNeg), .int a1, .ref a0]) rfl ?_
    obtain ⟨hi13, h⟩ := h
    refine e_tI (.int (tbG (a1).toNatClampNeg)) rfl (fun s hs => hs.2.2.2.2.2.2.2.2.1) hi13 rfl ?_
    refine e_callV (As := [.int a1, .int (tbL (a1).toNatClampNeg), .int (tbG (a1).toNatClampNeg)]) (rest := []) (ci := 4) rfl (x_X4_addStretch h) ho10 rfl rfl rfl (aw (i := 701) (by decide +kernel) rfl) wn_X4_addStretch wv_X4_addStretch wi_X4_addStretch wc_X4_addStretch (show cok mi_X4_readItem mi_X4_addStretch 0 0 3 = true by decide +kernel) (Nat.le_of_ble_eq_true rfl) (fun v9 M14 hq => ?_) (fun X M9 hq => False.elim hq)
    obtain ⟨rfl, h⟩ := kV_l hq
    exact e_ret rfl rfl (by decide) (by decide) h
def V_X4_readField_99 (K : Rs → Mm → Prop)  (M : Mm)  : Prop := K (.inl none) M
set_option maxRecDepth 100000 in
set_option maxHeartbeats 4000000 in
theorem x_X4_readField_99 {G : Gx} {K : Rs → Mm → Prop}  {M : Mm}  (h : V_X4_readField_99 K  M ) : E G mi_X4_readField K M 0 0 99 [none, none, none] [] := by
  unfold V_X4_readField_99 at h
  exact e_ret rfl rfl (by decide) (by decide) h
def V_X4_readField_73 (K : Rs → Mm → Prop)  (M : Mm) (l0 : Nat) : Prop := (ob M l0 4 ∧ V_X4_look (kI (fun r3 M2 => ((r3 = (32 : Int32) → V_X4_readField_99 K  M2 ) ∧ (¬ r3 = (32 : Int32) → (ob M2 l0 4 ∧ V_X4_look (kI (fun r6 M5 => ((r6 = (-1 : Int32) → V_X4_readField_99 K  M5 ) ∧ (¬ r6 = (-1 : Int32) → (ob M5 l0 4 ∧ V_X4_fail (kV (fun M8 => V_X4_readField_99 K  M8 ) (fun _ _ => False)) M5 l0 (1 : Int32) (mI M5 l0 2))))) (fun _ _ => False)) M2 l0)))) (fun _ _ => False)) M l0)
set_option maxRecDepth 100000 in
set_option maxHeartbeats 4000000 in
theorem x_X4_readField_73 {G : Gx} {K : Rs → Mm → Prop}  {M : Mm} {l0 : Nat} (h : V_X4_readField_73 K  M l0) : E G mi_X4_readField K M 0 0 73 [some (.ref l0), none, none] [] := by
  unfold V_X4_readField_73 at h
  refine e_blk 1 73 _ _ (pc' := 74) (L' := [some (.ref l0), none, none]) (st' := [.ref l0]) rfl ?_
  obtain ⟨ho1, h⟩ := h
  refine e_callV (As := []) (rest := []) (ci := 4) rfl (x_X4_look h) ho1 rfl rfl rfl (aw (i := 613) (by decide +kernel) rfl) wn_X4_look wv_X4_look wi_X4_look wc_X4_look (show cok mi_X4_readField mi_X4_look 0 0 0 = true by decide +kernel) (Nat.le_of_ble_eq_true rfl) (fun v9 M2 hq => ?_) (fun X M9 hq => False.elim hq)
  obtain ⟨r3, rfl, h⟩ := kI_l hq
  refine e_blk 1 77 _ _ (pc' := 79) (L' := [some (.ref l0), none, none]) (st' := [.int (32 : Int32), .int r3]) rfl ?_
  refine e_icmp_eq 99 rfl rfl (fun hc => ?_) (fun hc => ?_)
  · replace h := h.1 hc
    refine e_drp [false, false, false] (L' := [none, none, none]) rfl ?_
    exact x_X4_readField_99  h
  · replace h := h.2 hc
    refine e_blk 1 82 _ _ (pc' := 83) (L' := [some (.ref l0), none, none]) (st' := [.ref l0]) rfl ?_
    obtain ⟨ho4, h⟩ := h
    refine e_callV (As := []) (rest := []) (ci := 4) rfl (x_X4_look h) ho4 rfl rfl rfl (aw (i := 613) (by decide +kernel) rfl) wn_X4_look wv_X4_look wi_X4_look wc_X4_look (show cok mi_X4_readField mi_X4_look 0 0 0 = true by decide +kernel) (Nat.le_of_ble_eq_true rfl) (fun v9 M5 hq => ?_) (fun X M9 hq => False.elim hq)
    obtain ⟨r6, rfl, h⟩ := kI_l hq
    refine e_blk 1 86 _ _ (pc' := 87) (L' := [some (.ref l0), none, none]) (st' := [.int (-1 : Int32), .int r6]) rfl ?_
    refine e_icmp_eq 99 rfl rfl (fun hc => ?_) (fun hc => ?_)
    · replace h := h.1 hc
      refine e_drp [false, false, false] (L' := [none, none, none]) rfl ?_
      exact x_X4_readField_99  h
    · replace h := h.2 hc
      refine e_blk 3 90 _ _ (pc' := 93) (L' := [some (.ref l0), none, none]) (st' := [.ref l0, .int (1 : Int32), .ref l0]) rfl ?_
      obtain ⟨ho7, h⟩ := h
      refine e_getI 4 2 rfl rfl (by decide) (aw (i := 195) (by decide +kernel) rfl) ho7 rfl ?_
      refine e_callV (As := [.int (1 : Int32), .int (mI M5 l0 2)]) (rest := []) (ci := 4) rfl (x_X4_fail h) ho7 rfl rfl rfl (aw (i := 677) (by decide +kernel) rfl) wn_X4_fail wv_X4_fail wi_X4_fail wc_X4_fail (show cok mi_X4_readField mi_X4_fail 0 0 2 = true by decide +kernel) (Nat.le_of_ble_eq_true rfl) (fun v9 M8 hq => ?_) (fun X M9 hq => False.elim hq)
      obtain ⟨rfl, h⟩ := kV_l hq
      refine e_drp [false, false, false] (L' := [none, none, none]) rfl ?_
      exact x_X4_readField_99  h
def V_X4_readField_29 (K : Rs → Mm → Prop)  : Nat → Mm → Nat → Int32 → Int32 → Prop
  | 0, _, _, _, _ => False
  | z + 1, M, l0, l1, l2 => (((160 : Int32) ≤ l2 → V_X4_readField_73 K  M l0) ∧ (¬ (160 : Int32) ≤ l2 → (ob M l0 4 ∧ ((¬ (mI M l0 3) = 0 → V_X4_readField_73 K  M l0) ∧ ((mI M l0 3) = 0 → V_X4_look (kI (fun r3 M2 => ((¬ r3 = (44 : Int32) → V_X4_readField_73 K  M2 l0) ∧ (r3 = (44 : Int32) → (ob M2 l0 4 ∧ ∀ M5, M5 = sI M2 l0 2 ((mI M2 l0 2) + (1 : Int32)) → V_X4_readItem (kV (fun M6 => ∀ x7 : Int32, x7 = (l2 + (1 : Int32)) → V_X4_readField_29 K  z M6 l0 l1 x7) (fun _ _ => False)) M5 l0 l1)))) (fun _ _ => False)) M l0)))))
set_option maxRecDepth 100000 in
set_option maxHeartbeats 4000000 in
theorem x_X4_readField_29 {G : Gx} {K : Rs → Mm → Prop}  : ∀ (z : Nat) (M : Mm) (l0 : Nat) (l1 : Int32) (l2 : Int32), V_X4_readField_29 K  z M l0 l1 l2 → E G mi_X4_readField K M 0 0 29 [some (.ref l0), some (.int l1), some (.int l2)] []
  | 0, M, l0, l1, l2, h => False.elim h
  | z + 1, M, l0, l1, l2, h => by
    unfold V_X4_readField_29 at h
    refine e_blk 2 29 _ _ (pc' := 33) (L' := [some (.ref l0), some (.int l1), some (.int l2)]) (st' := [.int (160 : Int32), .int l2]) rfl ?_
    refine e_icmp_ge 73 rfl rfl (fun hc => ?_) (fun hc => ?_)
    · replace h := h.1 hc
      refine e_drp [true, false, false] (L' := [some (.ref l0), none, none]) rfl ?_
      exact x_X4_readField_73  h
    · replace h := h.2 hc
      refine e_blk 1 36 _ _ (pc' := 37) (L' := [some (.ref l0), some (.int l1), some (.int l2)]) (st' := [.ref l0]) rfl ?_
      obtain ⟨ho1, h⟩ := h
      refine e_getI 4 3 rfl rfl (by decide) (aw (i := 196) (by decide +kernel) rfl) ho1 rfl ?_
      refine e_if_ne 73 rfl rfl (fun hc => ?_) (fun hc => ?_)
      · replace h := h.1 hc
        refine e_drp [true, false, false] (L' := [some (.ref l0), none, none]) rfl ?_
        exact x_X4_readField_73  h
      · replace h := h.2 hc
        refine e_blk 1 43 _ _ (pc' := 44) (L' := [some (.ref l0), some (.int l1), some (.int l2)]) (st' := [.ref l0]) rfl ?_
        refine e_callV (As := []) (rest := []) (ci := 4) rfl (x_X4_look h) ho1 rfl rfl rfl (aw (i := 613) (by decide +kernel) rfl) wn_X4_look wv_X4_look wi_X4_look wc_X4_look (show cok mi_X4_readField mi_X4_look 0 0 0 = true by decide +kernel) (Nat.le_of_ble_eq_true rfl) (fun v9 M2 hq => ?_) (fun X M9 hq => False.elim hq)
        obtain ⟨r3, rfl, h⟩ := kI_l hq
        refine e_blk 1 47 _ _ (pc' := 49) (L' := [some (.ref l0), some (.int l1), some (.int l2)]) (st' := [.int (44 : Int32), .int r3]) rfl ?_
        refine e_icmp_ne 73 rfl rfl (fun hc => ?_) (fun hc => ?_)
        · replace h := h.1 hc
          refine e_drp [true, false, false] (L' := [some (.ref l0), none, none]) rfl ?_
          exact x_X4_readField_73  h
        · replace h := h.2 hc
          refine e_blk 2 52 _ _ (pc' := 54) (L' := [some (.ref l0), some (.int l1), some (.int l2)]) (st' := [.ref l0, .ref l0]) rfl ?_
          obtain ⟨ho4, h⟩ := h
          refine e_getI 4 2 rfl rfl (by decide) (aw (i := 195) (by decide +kernel) rfl) ho4 rfl ?_
          refine e_blk 2 57 _ _ (pc' := 59) (L' := [some (.ref l0), some (.int l1), some (.int l2)]) (st' := [.int ((mI M2 l0 2) + (1 : Int32)), .ref l0]) rfl ?_
          refine e_putI 4 2 rfl rfl (by decide) (aw (i := 195) (by decide +kernel) rfl) rfl ho4 rfl ?_
          generalize hM5 : sI M2 l0 2 ((mI M2 l0 2) + (1 : Int32)) = M5
          replace h := h M5 hM5.symm
          replace ho4 : ob M5 l0 4 := hM5 ▸ ob_sI ho4
          refine e_blk 2 62 _ _ (pc' := 64) (L' := [some (.ref l0), some (.int l1), some (.int l2)]) (st' := [.int l1, .ref l0]) rfl ?_
          refine e_callV (As := [.int l1]) (rest := []) (ci := 4) rfl (x_X4_readItem h) ho4 rfl rfl rfl (aw (i := 693) (by decide +kernel) rfl) wn_X4_readItem wv_X4_readItem wi_X4_readItem wc_X4_readItem (show cok mi_X4_readField mi_X4_readItem 0 0 1 = true by decide +kernel) (Nat.le_of_ble_eq_true rfl) (fun v9 M6 hq => ?_) (fun X M9 hq => False.elim hq)
          obtain ⟨rfl, h⟩ := kV_l hq
          refine e_blk 2 67 _ _ (pc' := 29) (L' := [some (.ref l0), some (.int l1), some (.int (l2 + (1 : Int32)))]) (st' := []) rfl ?_
          generalize hx_x7 : ((l2 + (1 : Int32)) : Int32) = x7
          replace h := h x7 hx_x7.symm
          refine e_drp [true, true, true] (L' := [some (.ref l0), some (.int l1), some (.int x7)]) rfl ?_
          exact x_X4_readField_29  z _ _ _ _ h
def V_X4_readField_19 (K : Rs → Mm → Prop)  (M : Mm) (l0 : Nat) (l1 : Int32) (s0 : Nat) (s1 : Int32) (s2 : Int32) : Prop := (ob M s0 3 ∧ V_X3_beginField (kV (fun M2 => (ob M2 l0 4 ∧ V_X4_readItem (kV (fun M4 => ∃ y, V_X4_readField_29 K  y M4 l0 l1 (0 : Int32)) (fun _ _ => False)) M2 l0 l1)) (fun _ _ => False)) M s0 s1 s2)
set_option maxRecDepth 100000 in
set_option maxHeartbeats 4000000 in
theorem x_X4_readField_19 {G : Gx} {K : Rs → Mm → Prop}  {M : Mm} {l0 : Nat} {l1 : Int32} {s0 : Nat} {s1 : Int32} {s2 : Int32} (h : V_X4_readField_19 K  M l0 l1 s0 s1 s2) : E G mi_X4_readField K M 0 0 19 [some (.ref l0), some (.int l1), none] [.int s2, .int s1, .ref s0] := by
  unfold V_X4_readField_19 at h
  obtain ⟨ho1, h⟩ := h
  refine e_callV (As := [.int s1, .int s2]) (rest := []) (ci := 3) rfl (x_X3_beginField h) ho1 rfl rfl rfl (aw (i := 689) (by decide +kernel) rfl) wn_X3_beginField wv_X3_beginField wi_X3_beginField wc_X3_beginField (show cok mi_X4_readField mi_X3_beginField 0 0 2 = true by decide +kernel) (Nat.le_of_ble_eq_true rfl) (fun v9 M2 hq => ?_) (fun X M9 hq => False.elim hq)
  obtain ⟨rfl, h⟩ := kV_l hq
  refine e_blk 2 22 _ _ (pc' := 24) (L' := [some (.ref l0), some (.int l1), none]) (st' := [.int l1, .ref l0]) rfl ?_
  obtain ⟨ho3, h⟩ := h
  refine e_callV (As := [.int l1]) (rest := []) (ci := 4) rfl (x_X4_readItem h) ho3 rfl rfl rfl (aw (i := 693) (by decide +kernel) rfl) wn_X4_readItem wv_X4_readItem wi_X4_readItem wc_X4_readItem (show cok mi_X4_readField mi_X4_readItem 0 0 1 = true by decide +kernel) (Nat.le_of_ble_eq_true rfl) (fun v9 M4 hq => ?_) (fun X M9 hq => False.elim hq)
  obtain ⟨rfl, h⟩ := kV_l hq
  refine e_blk 2 27 _ _ (pc' := 29) (L' := [some (.ref l0), some (.int l1), some (.int (0 : Int32))]) (st' := []) rfl ?_
  refine e_drp [true, true, true] (L' := [some (.ref l0), some (.int l1), some (.int (0 : Int32))]) rfl ?_
  obtain ⟨y, h⟩ := h
  exact x_X4_readField_29  y _ _ _ _ h
def V_X4_readField (K : Rs → Mm → Prop) (M : Mm) (a0 : Nat) (a1 : Int32) : Prop := (ob M a0 4 ∧ ∃ b2, mP M a0 5 = some b2 ∧ V_X4_look (kI (fun r4 M3 => ((¬ r4 = (42 : Int32) → V_X4_readField_19 K  M3 a0 a1 b2 a1 (0 : Int32)) ∧ (r4 = (42 : Int32) → V_X4_readField_19 K  M3 a0 a1 b2 a1 (1 : Int32)))) (fun _ _ => False)) M a0)
set_option maxRecDepth 100000 in
set_option maxHeartbeats 4000000 in
theorem x_X4_readField {G : Gx} {K : Rs → Mm → Prop} {M : Mm} {a0 : Nat} {a1 : Int32} (h : V_X4_readField K M a0 a1) : MC G mi_X4_readField [.ref a0, .int a1] M K := by
  unfold V_X4_readField at h
  refine mc_of rfl (by decide +kernel) dc_X4_readField (Nat.le_of_ble_eq_true rfl) 1 (Nat.le_of_ble_eq_true rfl) ?_
  show E G mi_X4_readField K M 0 0 0 [some (.ref a0), some (.int a1), none] []
  refine e_blk 1 0 _ _ (pc' := 1) (L' := [some (.ref a0), some (.int a1), none]) (st' := [.ref a0]) rfl ?_
  obtain ⟨ho1, h⟩ := h
  obtain ⟨b2, hbb2, h⟩ := h
  refine e_getR 4 5 rfl rfl (by decide) (aw (i := 199) (by decide +kernel) rfl) ho1 rfl hbb2 ?_
  refine e_blk 2 4 _ _ (pc' := 6) (L' := [some (.ref a0), some (.int a1), none]) (st' := [.ref a0, .int a1, .ref b2]) rfl ?_
  refine e_callV (As := []) (rest := [.int a1, .ref b2]) (ci := 4) rfl (x_X4_look h) ho1 rfl rfl rfl (aw (i := 613) (by decide +kernel) rfl) wn_X4_look wv_X4_look wi_X4_look wc_X4_look (show cok mi_X4_readField mi_X4_look 0 0 0 = true by decide +kernel) (Nat.le_of_ble_eq_true rfl) (fun v9 M3 hq => ?_) (fun X M9 hq => False.elim hq)
  obtain ⟨r4, rfl, h⟩ := kI_l hq
  refine e_blk 1 9 _ _ (pc' := 11) (L' := [some (.ref a0), some (.int a1), none]) (st' := [.int (42 : Int32), .int r4, .int a1, .ref b2]) rfl ?_
  refine e_icmp_ne 18 rfl rfl (fun hc => ?_) (fun hc => ?_)
  · replace h := h.1 hc
    refine e_blk 1 18 _ _ (pc' := 19) (L' := [some (.ref a0), some (.int a1), none]) (st' := [.int (0 : Int32), .int a1, .ref b2]) rfl ?_
    refine e_drp [true, true, false] (L' := [some (.ref a0), some (.int a1), none]) rfl ?_
    exact x_X4_readField_19  h
  · replace h := h.2 hc
    refine e_blk 2 14 _ _ (pc' := 19) (L' := [some (.ref a0), some (.int a1), none]) (st' := [.int (1 : Int32), .int a1, .ref b2]) rfl ?_
    refine e_drp [true, true, false] (L' := [some (.ref a0), some (.int a1), none]) rfl ?_
    exact x_X4_readField_19  h
def V_X4_read_119 (K : Rs → Mm → Prop)  (M : Mm) (l0 : Nat) : Prop := (ob M l0 4 ∧ K (.inl (some (.int (mI M l0 3)))) M)
set_option maxRecDepth 100000 in
set_option maxHeartbeats 4000000 in
theorem x_X4_read_119 {G : Gx} {K : Rs → Mm → Prop}  {M : Mm} {l0 : Nat} (h : V_X4_read_119 K  M l0) : E G mi_X4_read K M 0 0 119 [some (.ref l0), none, none] [] := by
  unfold V_X4_read_119 at h
  refine e_blk 1 119 _ _ (pc' := 120) (L' := [some (.ref l0), none, none]) (st' := [.ref l0]) rfl ?_
  obtain ⟨ho1, h⟩ := h
  refine e_getI 4 3 rfl rfl (by decide) (aw (i := 196) (by decide +kernel) rfl) ho1 rfl ?_
  exact e_reti rfl rfl (by decide) (by decide) h
def V_X4_read_95 (K : Rs → Mm → Prop)  (M : Mm) (l0 : Nat) : Prop := (ob M l0 4 ∧ V_X4_skipBlanks (kV (fun M2 => (ob M2 l0 4 ∧ (((mI M2 l0 1) ≤ (mI M2 l0 2) → V_X4_read_119 K  M2 l0) ∧ (¬ (mI M2 l0 1) ≤ (mI M2 l0 2) → V_X4_fail (kV (fun M4 => V_X4_read_119 K  M4 l0) (fun _ _ => False)) M2 l0 (1 : Int32) (mI M2 l0 2))))) (fun _ _ => False)) M l0)
set_option maxRecDepth 100000 in
set_option maxHeartbeats 4000000 in
theorem x_X4_read_95 {G : Gx} {K : Rs → Mm → Prop}  {M : Mm} {l0 : Nat} (h : V_X4_read_95 K  M l0) : E G mi_X4_read K M 0 0 95 [some (.ref l0), none, none] [] := by
  unfold V_X4_read_95 at h
  refine e_blk 1 95 _ _ (pc' := 96) (L' := [some (.ref l0), none, none]) (st' := [.ref l0]) rfl ?_
  obtain ⟨ho1, h⟩ := h
  refine e_callV (As := []) (rest := []) (ci := 4) rfl (x_X4_skipBlanks h) ho1 rfl rfl rfl (aw (i := 609) (by decide +kernel) rfl) wn_X4_skipBlanks wv_X4_skipBlanks wi_X4_skipBlanks wc_X4_skipBlanks (show cok mi_X4_read mi_X4_skipBlanks 0 0 0 = true by decide +kernel) (Nat.le_of_ble_eq_true rfl) (fun v9 M2 hq => ?_) (fun X M9 hq => False.elim hq)
  obtain ⟨rfl, h⟩ := kV_l hq
  refine e_blk 1 99 _ _ (pc' := 100) (L' := [some (.ref l0), none, none]) (st' := [.ref l0]) rfl ?_
  obtain ⟨ho3, h⟩ := h
  refine e_getI 4 2 rfl rfl (by decide) (aw (i := 195) (by decide +kernel) rfl) ho3 rfl ?_
  refine e_blk 1 103 _ _ (pc' := 104) (L' := [some (.ref l0), none, none]) (st' := [.ref l0, .int (mI M2 l0 2)]) rfl ?_
  refine e_getI 4 1 rfl rfl (by decide) (aw (i := 193) (by decide +kernel) rfl) ho3 rfl ?_
  refine e_icmp_ge 119 rfl rfl (fun hc => ?_) (fun hc => ?_)
  · replace h := h.1 hc
    refine e_drp [true, false, false] (L' := [some (.ref l0), none, none]) rfl ?_
    exact x_X4_read_119  h
  · replace h := h.2 hc
    refine e_blk 3 110 _ _ (pc' := 113) (L' := [some (.ref l0), none, none]) (st' := [.ref l0, .int (1 : Int32), .ref l0]) rfl ?_
    refine e_getI 4 2 rfl rfl (by decide) (aw (i := 195) (by decide +kernel) rfl) ho3 rfl ?_
    refine e_callV (As := [.int (1 : Int32), .int (mI M2 l0 2)]) (rest := []) (ci := 4) rfl (x_X4_fail h) ho3 rfl rfl rfl (aw (i := 677) (by decide +kernel) rfl) wn_X4_fail wv_X4_fail wi_X4_fail wc_X4_fail (show cok mi_X4_read mi_X4_fail 0 0 2 = true by decide +kernel) (Nat.le_of_ble_eq_true rfl) (fun v9 M4 hq => ?_) (fun X M9 hq => False.elim hq)
    obtain ⟨rfl, h⟩ := kV_l hq
    refine e_drp [true, false, false] (L' := [some (.ref l0), none, none]) rfl ?_
    exact x_X4_read_119  h
def V_X4_read_89 (K : Rs → Mm → Prop) (B54 : Mm → Nat → Int32 → Prop) (M : Mm) (l0 : Nat) (l2 : Int32) : Prop := ∀ x1 : Int32, x1 = (l2 + (1 : Int32)) → B54 M l0 x1
set_option maxRecDepth 100000 in
set_option maxHeartbeats 4000000 in
theorem x_X4_read_89 {G : Gx} {K : Rs → Mm → Prop} {B54 : Mm → Nat → Int32 → Prop} (hB54 : ∀ M l0 l2, B54 M l0 l2 → E G mi_X4_read K M 0 0 54 [some (.ref l0), none, some (.int l2)] []) {M : Mm} {l0 : Nat} {l2 : Int32} (h : V_X4_read_89 K B54 M l0 l2) : E G mi_X4_read K M 0 0 89 [some (.ref l0), none, some (.int l2)] [] := by
  unfold V_X4_read_89 at h
  refine e_blk 2 89 _ _ (pc' := 54) (L' := [some (.ref l0), none, some (.int (l2 + (1 : Int32)))]) (st' := []) rfl ?_
  generalize hx_x1 : ((l2 + (1 : Int32)) : Int32) = x1
  replace h := h x1 hx_x1.symm
  refine e_drp [true, false, true] (L' := [some (.ref l0), none, some (.int x1)]) rfl ?_
  exact hB54 _ _ _ h
def V_X4_read_84 (K : Rs → Mm → Prop) (B54 : Mm → Nat → Int32 → Prop) (M : Mm) (l0 : Nat) (l2 : Int32) : Prop := (ob M l0 4 ∧ V_X4_readField (kV (fun M2 => V_X4_read_89 K B54 M2 l0 l2) (fun _ _ => False)) M l0 l2)
set_option maxRecDepth 100000 in
set_option maxHeartbeats 4000000 in
theorem x_X4_read_84 {G : Gx} {K : Rs → Mm → Prop} {B54 : Mm → Nat → Int32 → Prop} (hB54 : ∀ M l0 l2, B54 M l0 l2 → E G mi_X4_read K M 0 0 54 [some (.ref l0), none, some (.int l2)] []) {M : Mm} {l0 : Nat} {l2 : Int32} (h : V_X4_read_84 K B54 M l0 l2) : E G mi_X4_read K M 0 0 84 [some (.ref l0), none, some (.int l2)] [] := by
  unfold V_X4_read_84 at h
  refine e_blk 2 84 _ _ (pc' := 86) (L' := [some (.ref l0), none, some (.int l2)]) (st' := [.int l2, .ref l0]) rfl ?_
  obtain ⟨ho1, h⟩ := h
  refine e_callV (As := [.int l2]) (rest := []) (ci := 4) rfl (x_X4_readField h) ho1 rfl rfl rfl (aw (i := 685) (by decide +kernel) rfl) wn_X4_readField wv_X4_readField wi_X4_readField wc_X4_readField (show cok mi_X4_read mi_X4_readField 0 0 1 = true by decide +kernel) (Nat.le_of_ble_eq_true rfl) (fun v9 M2 hq => ?_) (fun X M9 hq => False.elim hq)
  obtain ⟨rfl, h⟩ := kV_l hq
  refine e_drp [true, false, true] (L' := [some (.ref l0), none, some (.int l2)]) rfl ?_
  exact x_X4_read_89 hB54 h
def V_X4_read_54 (K : Rs → Mm → Prop)  : Nat → Mm → Nat → Int32 → Prop
  | 0, _, _, _ => False
  | z + 1, M, l0, l2 => (((6 : Int32) ≤ l2 → V_X4_read_95 K  M l0) ∧ (¬ (6 : Int32) ≤ l2 → (ob M l0 4 ∧ ((¬ (mI M l0 3) = 0 → V_X4_read_95 K  M l0) ∧ ((mI M l0 3) = 0 → V_X4_skipBlanks (kV (fun M2 => ((¬ l2 = (5 : Int32) → V_X4_read_84 K (fun M l0 l2 => V_X4_read_54 K  z M l0 l2) M2 l0 l2) ∧ (l2 = (5 : Int32) → (ob M2 l0 4 ∧ V_X4_look (kI (fun r5 M4 => ((r5 = (-1 : Int32) → V_X4_read_89 K (fun M l0 l2 => V_X4_read_54 K  z M l0 l2) M4 l0 l2) ∧ (¬ r5 = (-1 : Int32) → V_X4_read_84 K (fun M l0 l2 => V_X4_read_54 K  z M l0 l2) M4 l0 l2))) (fun _ _ => False)) M2 l0)))) (fun _ _ => False)) M l0)))))
set_option maxRecDepth 100000 in
set_option maxHeartbeats 4000000 in
theorem x_X4_read_54 {G : Gx} {K : Rs → Mm → Prop}  : ∀ (z : Nat) (M : Mm) (l0 : Nat) (l2 : Int32), V_X4_read_54 K  z M l0 l2 → E G mi_X4_read K M 0 0 54 [some (.ref l0), none, some (.int l2)] []
  | 0, M, l0, l2, h => False.elim h
  | z + 1, M, l0, l2, h => by
    unfold V_X4_read_54 at h
    refine e_blk 2 54 _ _ (pc' := 57) (L' := [some (.ref l0), none, some (.int l2)]) (st' := [.int (6 : Int32), .int l2]) rfl ?_
    refine e_icmp_ge 95 rfl rfl (fun hc => ?_) (fun hc => ?_)
    · replace h := h.1 hc
      refine e_drp [true, false, false] (L' := [some (.ref l0), none, none]) rfl ?_
      exact x_X4_read_95  h
    · replace h := h.2 hc
      refine e_blk 1 60 _ _ (pc' := 61) (L' := [some (.ref l0), none, some (.int l2)]) (st' := [.ref l0]) rfl ?_
      obtain ⟨ho1, h⟩ := h
      refine e_getI 4 3 rfl rfl (by decide) (aw (i := 196) (by decide +kernel) rfl) ho1 rfl ?_
      refine e_if_ne 95 rfl rfl (fun hc => ?_) (fun hc => ?_)
      · replace h := h.1 hc
        refine e_drp [true, false, false] (L' := [some (.ref l0), none, none]) rfl ?_
        exact x_X4_read_95  h
      · replace h := h.2 hc
        refine e_blk 1 67 _ _ (pc' := 68) (L' := [some (.ref l0), none, some (.int l2)]) (st' := [.ref l0]) rfl ?_
        refine e_callV (As := []) (rest := []) (ci := 4) rfl (x_X4_skipBlanks h) ho1 rfl rfl rfl (aw (i := 609) (by decide +kernel) rfl) wn_X4_skipBlanks wv_X4_skipBlanks wi_X4_skipBlanks wc_X4_skipBlanks (show cok mi_X4_read mi_X4_skipBlanks 0 0 0 = true by decide +kernel) (Nat.le_of_ble_eq_true rfl) (fun v9 M2 hq => ?_) (fun X M9 hq => False.elim hq)
        obtain ⟨rfl, h⟩ := kV_l hq
        refine e_blk 2 71 _ _ (pc' := 73) (L' := [some (.ref l0), none, some (.int l2)]) (st' := [.int (5 : Int32), .int l2]) rfl ?_
        refine e_icmp_ne 84 rfl rfl (fun hc => ?_) (fun hc => ?_)
        · replace h := h.1 hc
          refine e_drp [true, false, true] (L' := [some (.ref l0), none, some (.int l2)]) rfl ?_
          exact x_X4_read_84 (fun M l0 l2 h => x_X4_read_54  z M l0 l2 h) h
        · replace h := h.2 hc
          refine e_blk 1 76 _ _ (pc' := 77) (L' := [some (.ref l0), none, some (.int l2)]) (st' := [.ref l0]) rfl ?_
          obtain ⟨ho3, h⟩ := h
          refine e_callV (As := []) (rest := []) (ci := 4) rfl (x_X4_look h) ho3 rfl rfl rfl (aw (i := 613) (by decide +kernel) rfl) wn_X4_look wv_X4_look wi_X4_look wc_X4_look (show cok mi_X4_read mi_X4_look 0 0 0 = true by decide +kernel) (Nat.le_of_ble_eq_true rfl) (fun v9 M4 hq => ?_) (fun X M9 hq => False.elim hq)
          obtain ⟨r5, rfl, h⟩ := kI_l hq
          refine e_blk 1 80 _ _ (pc' := 81) (L' := [some (.ref l0), none, some (.int l2)]) (st' := [.int (-1 : Int32), .int r5]) rfl ?_
          refine e_icmp_eq 89 rfl rfl (fun hc => ?_) (fun hc => ?_)
          · replace h := h.1 hc
            refine e_drp [true, false, true] (L' := [some (.ref l0), none, some (.int l2)]) rfl ?_
            exact x_X4_read_89 (fun M l0 l2 h => x_X4_read_54  z M l0 l2 h) h
          · replace h := h.2 hc
            refine e_drp [true, false, true] (L' := [some (.ref l0), none, some (.int l2)]) rfl ?_
            exact x_X4_read_84 (fun M l0 l2 h => x_X4_read_54  z M l0 l2 h) h
def V_X4_read (K : Rs → Mm → Prop) (M : Mm) (a0 : Nat) (a1 : Nat) : Prop := (ob M a0 4 ∧ ∀ M2, M2 = sP M a0 5 (some a1) → ∃ b3, mP M2 a0 5 = some b3 ∧ (ob M2 b3 3 ∧ V_X3_clear (kV (fun M5 => (ob M5 a0 4 ∧ ∀ M7, M7 = sI M5 a0 2 (0 : Int32) → ∀ M8, M8 = sI M7 a0 3 (0 : Int32) → ∀ M9, M9 = sI M8 a0 4 (0 : Int32) → V_X4_skipBlanks (kV (fun M10 => (ob M10 a0 4 ∧ V_X4_look (kI (fun r13 M12 => ((¬ r13 = (64 : Int32) → (ob M12 a0 4 ∧ V_X4_readField (kV (fun M15 => ∃ y, V_X4_read_54 K  y M15 a0 (1 : Int32)) (fun _ _ => False)) M12 a0 (0 : Int32))) ∧ (r13 = (64 : Int32) → (ob M12 a0 4 ∧ V_X4_readWord (kV (fun M17 => V_X4_read_95 K  M17 a0) (fun _ _ => False)) M12 a0)))) (fun _ _ => False)) M10 a0)) (fun _ _ => False)) M9 a0)) (fun _ _ => False)) M2 b3))
set_option maxRecDepth 100000 in
set_option maxHeartbeats 4000000 in
theorem x_X4_read {G : Gx} {K : Rs → Mm → Prop} {M : Mm} {a0 : Nat} {a1 : Nat} (h : V_X4_read K M a0 a1) : MC G mi_X4_read [.ref a0, .ref a1] M K := by
  unfold V_X4_read at h
  refine mc_of rfl (by decide +kernel) dc_X4_read (Nat.le_of_ble_eq_true rfl) 1 (Nat.le_of_ble_eq_true rfl) ?_
  show E G mi_X4_read K M 0 0 0 [some (.ref a0), some (.ref a1), none] []
  refine e_blk 2 0 _ _ (pc' := 2) (L' := [some (.ref a0), some (.ref a1), none]) (st' := [.ref a1, .ref a0]) rfl ?_
  obtain ⟨ho1, h⟩ := h
  refine e_putR 4 5 rfl rfl (by decide) (aw (i := 199) (by decide +kernel) rfl) rfl ho1 rfl ?_
  generalize hM2 : sP M a0 5 (some a1) = M2
  replace h := h M2 hM2.symm
  replace ho1 : ob M2 a0 4 := hM2 ▸ ob_sP ho1
  refine e_blk 1 5 _ _ (pc' := 6) (L' := [some (.ref a0), some (.ref a1), none]) (st' := [.ref a0]) rfl ?_
  obtain ⟨b3, hbb3, h⟩ := h
  refine e_getR 4 5 rfl rfl (by decide) (aw (i := 199) (by decide +kernel) rfl) ho1 rfl hbb3 ?_
  obtain ⟨ho4, h⟩ := h
  refine e_callV (As := []) (rest := []) (ci := 3) rfl (x_X3_clear h) ho4 rfl rfl rfl (aw (i := 604) (by decide +kernel) rfl) wn_X3_clear wv_X3_clear wi_X3_clear wc_X3_clear (show cok mi_X4_read mi_X3_clear 0 0 0 = true by decide +kernel) (Nat.le_of_ble_eq_true rfl) (fun v9 M5 hq => ?_) (fun X M9 hq => False.elim hq)
  obtain ⟨rfl, h⟩ := kV_l hq
  refine e_blk 2 12 _ _ (pc' := 14) (L' := [some (.ref a0), some (.ref a1), none]) (st' := [.int (0 : Int32), .ref a0]) rfl ?_
  obtain ⟨ho6, h⟩ := h
  refine e_putI 4 2 rfl rfl (by decide) (aw (i := 195) (by decide +kernel) rfl) rfl ho6 rfl ?_
  generalize hM7 : sI M5 a0 2 (0 : Int32) = M7
  replace h := h M7 hM7.symm
  replace ho6 : ob M7 a0 4 := hM7 ▸ ob_sI ho6
  refine e_blk 2 17 _ _ (pc' := 19) (L' := [some (.ref a0), some (.ref a1), none]) (st' := [.int (0 : Int32), .ref a0]) rfl ?_
  refine e_putI 4 3 rfl rfl (by decide) (aw (i := 196) (by decide +kernel) rfl) rfl ho6 rfl ?_
  generalize hM8 : sI M7 a0 3 (0 : Int32) = M8
  replace h := h M8 hM8.symm
  replace ho6 : ob M8 a0 4 := hM8 ▸ ob_sI ho6
  refine e_blk 2 22 _ _ (pc' := 24) (L' := [some (.ref a0), some (.ref a1), none]) (st' := [.int (0 : Int32), .ref a0]) rfl ?_
  refine e_putI 4 4 rfl rfl (by decide) (aw (i := 197) (by decide +kernel) rfl) rfl ho6 rfl ?_
  generalize hM9 : sI M8 a0 4 (0 : Int32) = M9
  replace h := h M9 hM9.symm
  replace ho6 : ob M9 a0 4 := hM9 ▸ ob_sI ho6
  refine e_blk 1 27 _ _ (pc' := 28) (L' := [some (.ref a0), some (.ref a1), none]) (st' := [.ref a0]) rfl ?_
  refine e_callV (As := []) (rest := []) (ci := 4) rfl (x_X4_skipBlanks h) ho6 rfl rfl rfl (aw (i := 609) (by decide +kernel) rfl) wn_X4_skipBlanks wv_X4_skipBlanks wi_X4_skipBlanks wc_X4_skipBlanks (show cok mi_X4_read mi_X4_skipBlanks 0 0 0 = true by decide +kernel) (Nat.le_of_ble_eq_true rfl) (fun v9 M10 hq => ?_) (fun X M9 hq => False.elim hq)
  obtain ⟨rfl, h⟩ := kV_l hq
  refine e_blk 1 31 _ _ (pc' := 32) (L' := [some (.ref a0), some (.ref a1), none]) (st' := [.ref a0]) rfl ?_
  obtain ⟨ho11, h⟩ := h
  refine e_callV (As := []) (rest := []) (ci := 4) rfl (x_X4_look h) ho11 rfl rfl rfl (aw (i := 613) (by decide +kernel) rfl) wn_X4_look wv_X4_look wi_X4_look wc_X4_look (show cok mi_X4_read mi_X4_look 0 0 0 = true by decide +kernel) (Nat.le_of_ble_eq_true rfl) (fun v9 M12 hq => ?_) (fun X M9 hq => False.elim hq)
  obtain ⟨r13, rfl, h⟩ := kI_l hq
  refine e_blk 1 35 _ _ (pc' := 37) (L' := [some (.ref a0), some (.ref a1), none]) (st' := [.int (64 : Int32), .int r13]) rfl ?_
  refine e_icmp_ne 47 rfl rfl (fun hc => ?_) (fun hc => ?_)
  · replace h := h.1 hc
    refine e_blk 2 47 _ _ (pc' := 49) (L' := [some (.ref a0), some (.ref a1), none]) (st' := [.int (0 : Int32), .ref a0]) rfl ?_
    obtain ⟨ho14, h⟩ := h
    refine e_callV (As := [.int (0 : Int32)]) (rest := []) (ci := 4) rfl (x_X4_readField h) ho14 rfl rfl rfl (aw (i := 685) (by decide +kernel) rfl) wn_X4_readField wv_X4_readField wi_X4_readField wc_X4_readField (show cok mi_X4_read mi_X4_readField 0 0 1 = true by decide +kernel) (Nat.le_of_ble_eq_true rfl) (fun v9 M15 hq => ?_) (fun X M9 hq => False.elim hq)
    obtain ⟨rfl, h⟩ := kV_l hq
    refine e_blk 2 52 _ _ (pc' := 54) (L' := [some (.ref a0), some (.ref a1), some (.int (1 : Int32))]) (st' := []) rfl ?_
    refine e_drp [true, false, true] (L' := [some (.ref a0), none, some (.int (1 : Int32))]) rfl ?_
    obtain ⟨y, h⟩ := h
    exact x_X4_read_54  y _ _ _ h
  · replace h := h.2 hc
    refine e_blk 1 40 _ _ (pc' := 41) (L' := [some (.ref a0), some (.ref a1), none]) (st' := [.ref a0]) rfl ?_
    obtain ⟨ho16, h⟩ := h
    refine e_callV (As := []) (rest := []) (ci := 4) rfl (x_X4_readWord h) ho16 rfl rfl rfl (aw (i := 617) (by decide +kernel) rfl) wn_X4_readWord wv_X4_readWord wi_X4_readWord wc_X4_readWord (show cok mi_X4_read mi_X4_readWord 0 0 0 = true by decide +kernel) (Nat.le_of_ble_eq_true rfl) (fun v9 M17 hq => ?_) (fun X M9 hq => False.elim hq)
    obtain ⟨rfl, h⟩ := kV_l hq
    refine e_blk 1 44 _ _ (pc' := 95) (L' := [some (.ref a0), some (.ref a1), none]) (st' := []) rfl ?_
    refine e_drp [true, false, false] (L' := [some (.ref a0), none, none]) rfl ?_
    exact x_X4_read_95  h
