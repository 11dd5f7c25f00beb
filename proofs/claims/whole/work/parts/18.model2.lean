def is_X7_minute : List (Instr × Nat) := [(.aload_n 0, 1), (.iconst 0, 1), (.putfield 112, 3), (.iload_n 1, 1), (.i2l, 1), (.lconst 0, 1), (.ldc2_w 156, 3), (.invokestatic 150, 3), (.ifCond .ne 9, 3), (.aload_n 0, 1), (.iconst 1, 1), (.invokevirtual 162, 3), (.ireturn, 1), (.iload_n 2, 1), (.iload_n 3, 1), (.iload 4, 2), (.invokestatic 180, 3), (.ifCond .eq 29, 3), (.iload 5, 2), (.i2l, 1), (.lconst 0, 1), (.ldc2_w 184, 3), (.invokestatic 150, 3), (.ifCond .eq 16, 3), (.iload 6, 2), (.i2l, 1), (.lconst 0, 1), (.ldc2_w 186, 3), (.invokestatic 150, 3), (.ifCond .ne 9, 3), (.aload_n 0, 1), (.iconst 2, 1), (.invokevirtual 162, 3), (.ireturn, 1), (.sipush 1440, 3), (.iload_n 2, 1), (.iload_n 3, 1), (.iload 4, 2), (.invokestatic 188, 3), (.imul, 1), (.bipush 60, 2), (.iload 5, 2), (.imul, 1), (.iadd, 1), (.iload 6, 2), (.iadd, 1), (.istore 7, 2), (.iconst 0, 1), (.istore 8, 2), (.iload 8, 2), (.aload_n 0, 1), (.getfield 13, 3), (.iload_n 1, 1), (.iaload, 1), (.if_icmp .gt 48, 3), (.iload 7, 2), (.aload_n 0, 1), (.iload_n 1, 1), (.iload 8, 2), (.invokevirtual 173, 3), (.isub, 1), (.istore 9, 2), (.iload 9, 2), (.aload_n 0, 1), (.iload_n 1, 1), (.iload 8, 2), (.invokevirtual 192, 3), (.if_icmp .lt 18, 3), (.iload 9, 2), (.aload_n 0, 1), (.iload_n 1, 1), (.iload 8, 2), (.invokevirtual 195, 3), (.if_icmp .gt 6, 3), (.iload 9, 2), (.ireturn, 1), (.iinc 8 1, 3), (.goto (-53), 3), (.iconst (-1), 1), (.ireturn, 1)]
abbrev mi_X7_minute : MI := (yX7_minute, cX7_minute, 10, (some .int), [], { frames := 3, cells := 0, slots := 0, locals := 65 }, is_X7_minute)
theorem dc_X7_minute : dcb cX7_minute is_X7_minute 0 = true := by decide +kernel
theorem wc_X7_minute : cdw mi_X7_minute ∈ ALLW := aw (i := 1302) (by decide +kernel) rfl
theorem wi_X7_minute : Cond.initialized (miY mi_X7_minute).cls ∈ ALLW := aw (i := 64) (by decide +kernel) rfl
theorem wn_X7_minute : Cond.instanceMethod (miY mi_X7_minute) ∈ ALLW := aw (i := 1300) (by decide +kernel) rfl
theorem wv_X7_minute : Cond.selects (miY mi_X7_minute).cls (miY mi_X7_minute) (miY mi_X7_minute) ∈ ALLW := aw (i := 1301) (by decide +kernel) rfl
def is_X7_feed : List (Instr × Nat) := [(.aload_n 0, 1), (.iconst 0, 1), (.putfield 112, 3), (.iload_n 3, 1), (.i2l, 1), (.lconst 1, 1), (.ldc2_w 198, 3), (.invokestatic 150, 3), (.ifCond .ne 9, 3), (.aload_n 0, 1), (.iconst 1, 1), (.invokevirtual 162, 3), (.ireturn, 1), (.aload_n 0, 1), (.getfield 200, 3), (.iload_n 3, 1), (.iadd, 1), (.sipush 160, 3), (.if_icmp .le 9, 3), (.aload_n 0, 1), (.iconst 2, 1), (.invokevirtual 162, 3), (.ireturn, 1), (.iload_n 3, 1), (.iconst 1, 1), (.isub, 1), (.istore 4, 2), (.iload 4, 2), (.ifCond .lt 37, 3), (.aload_n 0, 1), (.getfield 22, 3), (.aload_n 0, 1), (.getfield 200, 3), (.lload_n 1, 1), (.bipush 8, 2), (.iload 4, 2), (.imul, 1), (.lshr, 1), (.l2i, 1), (.i2b, 1), (.bastore, 1), (.aload_n 0, 1), (.dup, 1), (.getfield 200, 3), (.iconst 1, 1), (.iadd, 1), (.putfield 200, 3), (.iinc 4 (-1), 3), (.goto (-36), 3), (.aload_n 0, 1), (.getfield 200, 3), (.ireturn, 1)]
abbrev mi_X7_feed : MI := (yX7_feed, cX7_feed, 5, (some .int), [], { frames := 1, cells := 0, slots := 0, locals := 25 }, is_X7_feed)
theorem dc_X7_feed : dcb cX7_feed is_X7_feed 0 = true := by decide +kernel
theorem wc_X7_feed : cdw mi_X7_feed ∈ ALLW := aw (i := 1326) (by decide +kernel) rfl
theorem wi_X7_feed : Cond.initialized (miY mi_X7_feed).cls ∈ ALLW := aw (i := 64) (by decide +kernel) rfl
theorem wn_X7_feed : Cond.instanceMethod (miY mi_X7_feed) ∈ ALLW := aw (i := 1324) (by decide +kernel) rfl
theorem wv_X7_feed : Cond.selects (miY mi_X7_feed).cls (miY mi_X7_feed) (miY mi_X7_feed) ∈ ALLW := aw (i := 1325) (by decide +kernel) rfl
def is_X7_fail : List (Instr × Nat) := [(.aload_n 0, 1), (.getfield 203, 3), (.ifCond .ne 13, 3), (.aload_n 0, 1), (.iload_n 1, 1), (.putfield 203, 3), (.aload_n 0, 1), (.iload_n 2, 1), (.putfield 206, 3), (.return_, 1)]
abbrev mi_X7_fail : MI := (yX7_fail, cX7_fail, 3, none, [], { frames := 0, cells := 0, slots := 0, locals := 0 }, is_X7_fail)
theorem dc_X7_fail : dcb cX7_fail is_X7_fail 0 = true := by decide +kernel
theorem wc_X7_fail : cdw mi_X7_fail ∈ ALLW := aw (i := 1360) (by decide +kernel) rfl
theorem wi_X7_fail : Cond.initialized (miY mi_X7_fail).cls ∈ ALLW := aw (i := 64) (by decide +kernel) rfl
theorem wn_X7_fail : Cond.instanceMethod (miY mi_X7_fail) ∈ ALLW := aw (i := 1359) (by decide +kernel) rfl
theorem wv_X7_fail : Cond.selects (miY mi_X7_fail).cls (miY mi_X7_fail) (miY mi_X7_fail) ∈ ALLW := aw (i := 26) (by decide +kernel) rfl
def is_X7_sign : List (Instr × Nat) := [(.aload_n 0, 1), (.getfield 209, 3), (.aload_n 0, 1), (.getfield 200, 3), (.if_icmp .ge 19, 3), (.aload_n 0, 1), (.getfield 22, 3), (.aload_n 0, 1), (.getfield 209, 3), (.baload, 1), (.sipush 255, 3), (.iand, 1), (.goto 4, 3), (.iconst (-1), 1), (.ireturn, 1)]
abbrev mi_X7_sign : MI := (yX7_sign, cX7_sign, 1, (some .int), [], { frames := 0, cells := 0, slots := 0, locals := 0 }, is_X7_sign)
theorem dc_X7_sign : dcb cX7_sign is_X7_sign 0 = true := by decide +kernel
theorem wc_X7_sign : cdw mi_X7_sign ∈ ALLW := aw (i := 1346) (by decide +kernel) rfl
theorem wi_X7_sign : Cond.initialized (miY mi_X7_sign).cls ∈ ALLW := aw (i := 64) (by decide +kernel) rfl
theorem wn_X7_sign : Cond.instanceMethod (miY mi_X7_sign) ∈ ALLW := aw (i := 1345) (by decide +kernel) rfl
theorem wv_X7_sign : Cond.selects (miY mi_X7_sign).cls (miY mi_X7_sign) (miY mi_X7_sign) ∈ ALLW := aw (i := 23) (by decide +kernel) rfl
def is_X7_isFigure : List (Instr × Nat) := [(.aload_n 0, 1), (.invokevirtual 212, 3), (.i2l, 1), (.ldc2_w 216, 3), (.ldc2_w 218, 3), (.invokestatic 150, 3), (.ireturn, 1)]
abbrev mi_X7_isFigure : MI := (yX7_isFigure, cX7_isFigure, 1, (some .boolean), [], { frames := 1, cells := 0, slots := 0, locals := 25 }, is_X7_isFigure)
theorem dc_X7_isFigure : dcb cX7_isFigure is_X7_isFigure 0 = true := by decide +kernel
theorem wc_X7_isFigure : cdw mi_X7_isFigure ∈ ALLW := aw (i := 1396) (by decide +kernel) rfl
theorem wi_X7_isFigure : Cond.initialized (miY mi_X7_isFigure).cls ∈ ALLW := aw (i := 64) (by decide +kernel) rfl
theorem wn_X7_isFigure : Cond.instanceMethod (miY mi_X7_isFigure) ∈ ALLW := aw (i := 1395) (by decide +kernel) rfl
theorem wv_X7_isFigure : Cond.selects (miY mi_X7_isFigure).cls (miY mi_X7_isFigure) (miY mi_X7_isFigure) ∈ ALLW := aw (i := 34) (by decide +kernel) rfl
def is_X7_figures : List (Instr × Nat) := [(.iconst 0, 1), (.istore_n 2, 1), (.iconst 0, 1), (.istore_n 3, 1), (.aload_n 0, 1), (.invokevirtual 220, 3), (.ifCond .ne 12, 3), (.aload_n 0, 1), (.iconst 1, 1), (.aload_n 0, 1), (.getfield 209, 3), (.invokevirtual 224, 3), (.aload_n 0, 1), (.getfield 203, 3), (.ifCond .ne 55, 3), (.aload_n 0, 1), (.invokevirtual 220, 3), (.ifCond .eq 48, 3), (.iload_n 3, 1), (.iload_n 1, 1), (.if_icmp .ne 14, 3), (.aload_n 0, 1), (.iconst 1, 1), (.aload_n 0, 1), (.getfield 209, 3), (.invokevirtual 224, 3), (.iconst 0, 1), (.ireturn, 1), (.bipush 10, 2), (.iload_n 2, 1), (.imul, 1), (.aload_n 0, 1), (.invokevirtual 212, 3), (.iadd, 1), (.bipush 48, 2), (.isub, 1), (.istore_n 2, 1), (.iinc 3 1, 3), (.aload_n 0, 1), (.dup, 1), (.getfield 209, 3), (.iconst 1, 1), (.iadd, 1), (.putfield 209, 3), (.goto (-56), 3), (.iload_n 2, 1), (.ireturn, 1)]
abbrev mi_X7_figures : MI := (yX7_figures, cX7_figures, 4, (some .int), [], { frames := 2, cells := 0, slots := 0, locals := 45 }, is_X7_figures)
theorem dc_X7_figures : dcb cX7_figures is_X7_figures 0 = true := by decide +kernel
theorem wc_X7_figures : cdw mi_X7_figures ∈ ALLW := aw (i := 1392) (by decide +kernel) rfl
theorem wi_X7_figures : Cond.initialized (miY mi_X7_figures).cls ∈ ALLW := aw (i := 64) (by decide +kernel) rfl
theorem wn_X7_figures : Cond.instanceMethod (miY mi_X7_figures) ∈ ALLW := aw (i := 1391) (by decide +kernel) rfl
theorem wv_X7_figures : Cond.selects (miY mi_X7_figures).cls (miY mi_X7_figures) (miY mi_X7_figures) ∈ ALLW := aw (i := 33) (by decide +kernel) rfl
def is_X7_bounded : List (Instr × Nat) := [(.aload_n 0, 1), (.getfield 209, 3), (.istore 4, 2), (.aload_n 0, 1), (.iload_n 1, 1), (.invokevirtual 228, 3), (.istore 5, 2), (.aload_n 0, 1), (.getfield 203, 3), (.ifCond .ne 23, 3), (.iload 5, 2), (.i2l, 1), (.iload_n 2, 1), (.i2l, 1), (.iload_n 3, 1), (.i2l, 1), (.invokestatic 150, 3), (.ifCond .ne 10, 3), (.aload_n 0, 1), (.iconst 2, 1), (.iload 4, 2), (.invokevirtual 224, 3), (.iload 5, 2), (.ireturn, 1)]
abbrev mi_X7_bounded : MI := (yX7_bounded, cX7_bounded, 6, (some .int), [], { frames := 3, cells := 0, slots := 0, locals := 68 }, is_X7_bounded)
theorem dc_X7_bounded : dcb cX7_bounded is_X7_bounded 0 = true := by decide +kernel
theorem wc_X7_bounded : cdw mi_X7_bounded ∈ ALLW := aw (i := 1388) (by decide +kernel) rfl
theorem wi_X7_bounded : Cond.initialized (miY mi_X7_bounded).cls ∈ ALLW := aw (i := 64) (by decide +kernel) rfl
theorem wn_X7_bounded : Cond.instanceMethod (miY mi_X7_bounded) ∈ ALLW := aw (i := 1387) (by decide +kernel) rfl
theorem wv_X7_bounded : Cond.selects (miY mi_X7_bounded).cls (miY mi_X7_bounded) (miY mi_X7_bounded) ∈ ALLW := aw (i := 32) (by decide +kernel) rfl
def is_X7_least : List (Instr × Nat) := [(.iload_n 0, 1), (.iconst 2, 1), (.if_icmp .eq 8, 3), (.iload_n 0, 1), (.iconst 3, 1), (.if_icmp .ne 7, 3), (.iconst 1, 1), (.goto 15, 3), (.iload_n 0, 1), (.iconst 5, 1), (.if_icmp .ne 9, 3), (.sipush 1900, 3), (.goto 4, 3), (.iconst 0, 1), (.ireturn, 1)]
abbrev mi_X7_least : MI := (yX7_least, cX7_least, 1, (some .int), [], { frames := 0, cells := 0, slots := 0, locals := 0 }, is_X7_least)
theorem dc_X7_least : dcb cX7_least is_X7_least 0 = true := by decide +kernel
theorem wc_X7_least : cdw mi_X7_least ∈ ALLW := aw (i := 1401) (by decide +kernel) rfl
theorem wi_X7_least : Cond.initialized (miY mi_X7_least).cls ∈ ALLW := aw (i := 64) (by decide +kernel) rfl
theorem ws_X7_least : Cond.static (miY mi_X7_least) ∈ ALLW := aw (i := 1400) (by decide +kernel) rfl
def is_X7_greatest : List (Instr × Nat) := [(.iload_n 0, 1), (.ifCond .ne 8, 3), (.bipush 59, 2), (.goto 46, 3), (.iload_n 0, 1), (.iconst 1, 1), (.if_icmp .ne 8, 3), (.bipush 23, 2), (.goto 36, 3), (.iload_n 0, 1), (.iconst 2, 1), (.if_icmp .ne 8, 3), (.bipush 31, 2), (.goto 26, 3), (.iload_n 0, 1), (.iconst 3, 1), (.if_icmp .ne 8, 3), (.bipush 12, 2), (.goto 16, 3), (.iload_n 0, 1), (.iconst 4, 1), (.if_icmp .ne 8, 3), (.bipush 7, 2), (.goto 6, 3), (.sipush 2199, 3), (.ireturn, 1)]
abbrev mi_X7_greatest : MI := (yX7_greatest, cX7_greatest, 1, (some .int), [], { frames := 0, cells := 0, slots := 0, locals := 0 }, is_X7_greatest)
theorem dc_X7_greatest : dcb cX7_greatest is_X7_greatest 0 = true := by decide +kernel
theorem wc_X7_greatest : cdw mi_X7_greatest ∈ ALLW := aw (i := 1404) (by decide +kernel) rfl
theorem wi_X7_greatest : Cond.initialized (miY mi_X7_greatest).cls ∈ ALLW := aw (i := 64) (by decide +kernel) rfl
theorem ws_X7_greatest : Cond.static (miY mi_X7_greatest) ∈ ALLW := aw (i := 1403) (by decide +kernel) rfl
def is_X7_mark : List (Instr × Nat) := [(.iload_n 1, 1), (.iconst 5, 1), (.if_icmp .ne 17, 3), (.aload_n 0, 1), (.getfield 30, 3), (.iload_n 2, 1), (.sipush 1900, 3), (.isub, 1), (.iconst 1, 1), (.bastore, 1), (.goto 30, 3), (.aload_n 0, 1), (.getfield 26, 3), (.iload_n 1, 1), (.dup2, 1), (.laload, 1), (.lconst 1, 1), (.iload_n 1, 1), (.iconst 4, 1), (.if_icmp .ne 13, 3), (.iload_n 2, 1), (.bipush 7, 2), (.if_icmp .ne 7, 3), (.iconst 0, 1), (.goto 4, 3), (.iload_n 2, 1), (.lshl, 1), (.lor, 1), (.lastore, 1), (.return_, 1)]
abbrev mi_X7_mark : MI := (yX7_mark, cX7_mark, 3, none, [], { frames := 0, cells := 0, slots := 0, locals := 0 }, is_X7_mark)
theorem dc_X7_mark : dcb cX7_mark is_X7_mark 0 = true := by decide +kernel
theorem wc_X7_mark : cdw mi_X7_mark ∈ ALLW := aw (i := 1372) (by decide +kernel) rfl
theorem wi_X7_mark : Cond.initialized (miY mi_X7_mark).cls ∈ ALLW := aw (i := 64) (by decide +kernel) rfl
theorem wn_X7_mark : Cond.instanceMethod (miY mi_X7_mark) ∈ ALLW := aw (i := 1371) (by decide +kernel) rfl
theorem wv_X7_mark : Cond.selects (miY mi_X7_mark).cls (miY mi_X7_mark) (miY mi_X7_mark) ∈ ALLW := aw (i := 28) (by decide +kernel) rfl
def is_X7_range : List (Instr × Nat) := [(.iload_n 2, 1), (.istore 5, 2), (.iload 5, 2), (.iload_n 3, 1), (.if_icmp .gt 20, 3), (.aload_n 0, 1), (.iload_n 1, 1), (.iload 5, 2), (.invokevirtual 269, 3), (.iload 5, 2), (.iload 4, 2), (.iadd, 1), (.istore 5, 2), (.goto (-20), 3), (.return_, 1)]
abbrev mi_X7_range : MI := (yX7_range, cX7_range, 6, none, [], { frames := 1, cells := 0, slots := 0, locals := 22 }, is_X7_range)
theorem dc_X7_range : dcb cX7_range is_X7_range 0 = true := by decide +kernel
theorem wc_X7_range : cdw mi_X7_range ∈ ALLW := aw (i := 1368) (by decide +kernel) rfl
theorem wi_X7_range : Cond.initialized (miY mi_X7_range).cls ∈ ALLW := aw (i := 64) (by decide +kernel) rfl
theorem wn_X7_range : Cond.instanceMethod (miY mi_X7_range) ∈ ALLW := aw (i := 1367) (by decide +kernel) rfl
theorem wv_X7_range : Cond.selects (miY mi_X7_range).cls (miY mi_X7_range) (miY mi_X7_range) ∈ ALLW := aw (i := 27) (by decide +kernel) rfl
def is_X7_step : List (Instr × Nat) := [(.aload_n 0, 1), (.invokevirtual 212, 3), (.bipush 47, 2), (.if_icmp .eq 5, 3), (.iconst 1, 1), (.ireturn, 1), (.aload_n 0, 1), (.dup, 1), (.getfield 209, 3), (.iconst 1, 1), (.iadd, 1), (.putfield 209, 3), (.aload_n 0, 1), (.iconst 4, 1), (.iconst 1, 1), (.sipush 1000, 3), (.invokevirtual 266, 3), (.ireturn, 1)]
abbrev mi_X7_step : MI := (yX7_step, cX7_step, 1, (some .int), [], { frames := 4, cells := 0, slots := 0, locals := 93 }, is_X7_step)
theorem dc_X7_step : dcb cX7_step is_X7_step 0 = true := by decide +kernel
theorem wc_X7_step : cdw mi_X7_step ∈ ALLW := aw (i := 1384) (by decide +kernel) rfl
theorem wi_X7_step : Cond.initialized (miY mi_X7_step).cls ∈ ALLW := aw (i := 64) (by decide +kernel) rfl
theorem wn_X7_step : Cond.instanceMethod (miY mi_X7_step) ∈ ALLW := aw (i := 1383) (by decide +kernel) rfl
theorem wv_X7_step : Cond.selects (miY mi_X7_step).cls (miY mi_X7_step) (miY mi_X7_step) ∈ ALLW := aw (i := 31) (by decide +kernel) rfl
def is_X7_lastDay : List (Instr × Nat) := [(.aload_n 0, 1), (.invokevirtual 212, 3), (.bipush 87, 2), (.if_icmp .ne 21, 3), (.aload_n 0, 1), (.dup, 1), (.getfield 209, 3), (.iconst 1, 1), (.iadd, 1), (.putfield 209, 3), (.aload_n 0, 1), (.iconst 1, 1), (.putfield 295, 3), (.goto 67, 3), (.aload_n 0, 1), (.invokevirtual 212, 3), (.bipush 45, 2), (.if_icmp .ne 48, 3), (.aload_n 0, 1), (.dup, 1), (.getfield 209, 3), (.iconst 1, 1), (.iadd, 1), (.putfield 209, 3), (.aload_n 0, 1), (.iconst 2, 1), (.iconst 1, 1), (.bipush 30, 2), (.invokevirtual 266, 3), (.istore_n 1, 1), (.aload_n 0, 1), (.dup, 1), (.getfield 299, 3), (.aload_n 0, 1), (.getfield 203, 3), (.ifCond .ne 9, 3), (.lconst 1, 1), (.iload_n 1, 1), (.lshl, 1), (.goto 4, 3), (.lconst 0, 1), (.lor, 1), (.putfield 299, 3), (.goto 13, 3), (.aload_n 0, 1), (.dup, 1), (.getfield 299, 3), (.lconst 1, 1), (.lor, 1), (.putfield 299, 3), (.return_, 1)]
abbrev mi_X7_lastDay : MI := (yX7_lastDay, cX7_lastDay, 2, none, [], { frames := 4, cells := 0, slots := 0, locals := 93 }, is_X7_lastDay)
theorem dc_X7_lastDay : dcb cX7_lastDay is_X7_lastDay 0 = true := by decide +kernel
theorem wc_X7_lastDay : cdw mi_X7_lastDay ∈ ALLW := aw (i := 1408) (by decide +kernel) rfl
theorem wi_X7_lastDay : Cond.initialized (miY mi_X7_lastDay).cls ∈ ALLW := aw (i := 64) (by decide +kernel) rfl
theorem wn_X7_lastDay : Cond.instanceMethod (miY mi_X7_lastDay) ∈ ALLW := aw (i := 1407) (by decide +kernel) rfl
theorem wv_X7_lastDay : Cond.selects (miY mi_X7_lastDay).cls (miY mi_X7_lastDay) (miY mi_X7_lastDay) ∈ ALLW := aw (i := 35) (by decide +kernel) rfl
def is_X7_word : List (Instr × Nat) := [(.iload_n 3, 1), (.iconst 1, 1), (.isub, 1), (.istore 4, 2), (.iload 4, 2), (.ifCond .lt 50, 3), (.aload_n 0, 1), (.invokevirtual 212, 3), (.i2l, 1), (.lload_n 1, 1), (.bipush 8, 2), (.iload 4, 2), (.imul, 1), (.lshr, 1), (.ldc2_w 311, 3), (.land, 1), (.lcmp, 1), (.ifCond .eq 14, 3), (.aload_n 0, 1), (.iconst 1, 1), (.aload_n 0, 1), (.getfield 209, 3), (.invokevirtual 224, 3), (.iconst 0, 1), (.ireturn, 1), (.aload_n 0, 1), (.dup, 1), (.getfield 209, 3), (.iconst 1, 1), (.iadd, 1), (.putfield 209, 3), (.iinc 4 (-1), 3), (.goto (-49), 3), (.iconst 1, 1), (.ireturn, 1)]
abbrev mi_X7_word : MI := (yX7_word, cX7_word, 5, (some .boolean), [], { frames := 1, cells := 0, slots := 0, locals := 22 }, is_X7_word)
theorem dc_X7_word : dcb cX7_word is_X7_word 0 = true := by decide +kernel
theorem wc_X7_word : cdw mi_X7_word ∈ ALLW := aw (i := 1355) (by decide +kernel) rfl
theorem wi_X7_word : Cond.initialized (miY mi_X7_word).cls ∈ ALLW := aw (i := 64) (by decide +kernel) rfl
theorem wn_X7_word : Cond.instanceMethod (miY mi_X7_word) ∈ ALLW := aw (i := 1354) (by decide +kernel) rfl
theorem wv_X7_word : Cond.selects (miY mi_X7_word).cls (miY mi_X7_word) (miY mi_X7_word) ∈ ALLW := aw (i := 25) (by decide +kernel) rfl
def is_X7_short0 : List (Instr × Nat) := [(.aload_n 0, 1), (.dup, 1), (.getfield 209, 3), (.iconst 1, 1), (.iadd, 1), (.putfield 209, 3), (.aload_n 0, 1), (.invokevirtual 212, 3), (.istore_n 1, 1), (.iload_n 1, 1), (.bipush 104, 2), (.if_icmp .ne 15, 3), (.aload_n 0, 1), (.ldc2_w 313, 3), (.bipush 6, 2), (.invokevirtual 315, 3), (.goto 79, 3), (.iload_n 1, 1), (.bipush 100, 2), (.if_icmp .ne 14, 3), (.aload_n 0, 1), (.ldc2_w 319, 3), (.iconst 5, 1), (.invokevirtual 315, 3), (.goto 62, 3), (.iload_n 1, 1), (.bipush 119, 2), (.if_icmp .ne 15, 3), (.aload_n 0, 1), (.ldc2_w 321, 3), (.bipush 6, 2), (.invokevirtual 315, 3), (.goto 44, 3), (.iload_n 1, 1), (.bipush 109, 2), (.if_icmp .ne 15, 3), (.aload_n 0, 1), (.ldc2_w 323, 3), (.bipush 7, 2), (.invokevirtual 315, 3), (.goto 26, 3), (.iload_n 1, 1), (.bipush 121, 2), (.if_icmp .ne 19, 3), (.aload_n 0, 1), (.ldc2_w 325, 3), (.bipush 6, 2), (.invokevirtual 315, 3), (.ifCond .eq 7, 3), (.iconst 1, 1), (.goto 4, 3), (.iconst 0, 1), (.istore_n 2, 1), (.iload_n 2, 1), (.ifCond .ne 13, 3), (.aload_n 0, 1), (.iconst 1, 1), (.aload_n 0, 1), (.getfield 209, 3), (.invokevirtual 224, 3), (.return_, 1), (.aload_n 0, 1), (.getfield 26, 3), (.iconst 0, 1), (.lconst 1, 1), (.lastore, 1), (.aload_n 0, 1), (.iconst 1, 1), (.iconst 0, 1), (.iload_n 1, 1), (.bipush 104, 2), (.if_icmp .ne 8, 3), (.bipush 23, 2), (.goto 4, 3), (.iconst 0, 1), (.iconst 1, 1), (.invokevirtual 275, 3), (.aload_n 0, 1), (.iconst 2, 1), (.iconst 1, 1), (.iload_n 1, 1), (.bipush 109, 2), (.if_icmp .eq 9, 3), (.iload_n 1, 1), (.bipush 121, 2), (.if_icmp .ne 7, 3), (.iconst 1, 1), (.goto 5, 3), (.bipush 31, 2), (.iconst 1, 1), (.invokevirtual 275, 3), (.aload_n 0, 1), (.iconst 3, 1), (.iconst 1, 1), (.iload_n 1, 1), (.bipush 121, 2), (.if_icmp .ne 7, 3), (.iconst 1, 1), (.goto 5, 3), (.bipush 12, 2), (.iconst 1, 1), (.invokevirtual 275, 3), (.aload_n 0, 1), (.iconst 4, 1), (.iconst 0, 1), (.iload_n 1, 1), (.bipush 119, 2), (.if_icmp .ne 7, 3), (.iconst 0, 1), (.goto 5, 3), (.bipush 6, 2), (.iconst 1, 1), (.invokevirtual 275, 3), (.aload_n 0, 1), (.iload_n 1, 1), (.bipush 109, 2), (.if_icmp .eq 13, 3), (.iload_n 1, 1), (.bipush 121, 2), (.if_icmp .eq 7, 3), (.iconst 1, 1), (.goto 4, 3), (.iconst 0, 1), (.putfield 302, 3), (.aload_n 0, 1), (.iload_n 1, 1), (.bipush 119, 2), (.if_icmp .eq 7, 3), (.iconst 1, 1), (.goto 4, 3), (.iconst 0, 1), (.putfield 305, 3), (.return_, 1)]
abbrev mi_X7_short0 : MI := (yX7_short0, cX7_short0, 3, none, [], { frames := 2, cells := 0, slots := 0, locals := 47 }, is_X7_short0)
theorem dc_X7_short0 : dcb cX7_short0 is_X7_short0 0 = true := by decide +kernel
theorem wc_X7_short0 : cdw mi_X7_short0 ∈ ALLW := aw (i := 1350) (by decide +kernel) rfl
theorem wi_X7_short0 : Cond.initialized (miY mi_X7_short0).cls ∈ ALLW := aw (i := 64) (by decide +kernel) rfl
theorem wn_X7_short0 : Cond.instanceMethod (miY mi_X7_short0) ∈ ALLW := aw (i := 1349) (by decide +kernel) rfl
theorem wv_X7_short0 : Cond.selects (miY mi_X7_short0).cls (miY mi_X7_short0) (miY mi_X7_short0) ∈ ALLW := aw (i := 24) (by decide +kernel) rfl
def is_X7_fault : List (Instr × Nat) := [(.aload_n 0, 1), (.iconst 0, 1), (.putfield 112, 3), (.aload_n 0, 1), (.getfield 348, 3), (.ireturn, 1)]
abbrev mi_X7_fault : MI := (yX7_fault, cX7_fault, 1, (some .int), [], { frames := 0, cells := 0, slots := 0, locals := 0 }, is_X7_fault)
theorem dc_X7_fault : dcb cX7_fault is_X7_fault 0 = true := by decide +kernel
theorem wc_X7_fault : cdw mi_X7_fault ∈ ALLW := aw (i := 1444) (by decide +kernel) rfl
theorem wi_X7_fault : Cond.initialized (miY mi_X7_fault).cls ∈ ALLW := aw (i := 64) (by decide +kernel) rfl
theorem wn_X7_fault : Cond.instanceMethod (miY mi_X7_fault) ∈ ALLW := aw (i := 1442) (by decide +kernel) rfl
theorem wv_X7_fault : Cond.selects (miY mi_X7_fault).cls (miY mi_X7_fault) (miY mi_X7_fault) ∈ ALLW := aw (i := 1443) (by decide +kernel) rfl
def V_X7_minute_140 (K : Rs → Mm → Prop) (B90 : Mm → Nat → Int32 → Int32 → Int32 → Prop) (M : Mm) (l0 : Nat) (l1 : Int32) (l7 : Int32) (l8 : Int32) : Prop := ∀ x1 : Int32, x1 = (l8 + (1 : Int32)) → B90 M l0 l1 l7 x1
set_option maxRecDepth 100000 in
set_option maxHeartbeats 4000000 in
theorem x_X7_minute_140 {G : Gx} {K : Rs → Mm → Prop} {B90 : Mm → Nat → Int32 → Int32 → Int32 → Prop} (hB90 : ∀ M l0 l1 l7 l8, B90 M l0 l1 l7 l8 → E G mi_X7_minute K M 0 0 90 [some (.ref l0), some (.int l1), none, none, none, none, none, some (.int l7), some (.int l8), none] []) {M : Mm} {l0 : Nat} {l1 : Int32} {l7 : Int32} {l8 : Int32} (h : V_X7_minute_140 K B90 M l0 l1 l7 l8) : E G mi_X7_minute K M 0 0 140 [some (.ref l0), some (.int l1), none, none, none, none, none, some (.int l7), some (.int l8), none] [] := by
  unfold V_X7_minute_140 at h
  refine e_blk 2 140 _ _ (pc' := 90) (L' := [some (.ref l0), some (.int l1), none, none, none, none, none, some (.int l7), some (.int (l8 + (1 : Int32))), none]) (st' := []) rfl ?_
  generalize hx_x1 : ((l8 + (1 : Int32)) : Int32) = x1
  replace h := h x1 hx_x1.symm
  refine e_drp [true, true, false, false, false, false, false, true, true, false] (L' := [some (.ref l0), some (.int l1), none, none, none, none, none, some (.int l7), some (.int x1), none]) rfl ?_
  exact hB90 _ _ _ _ _ h
def V_X7_minute_90 (K : Rs → Mm → Prop)  : Nat → Mm → Nat → Int32 → Int32 → Int32 → Prop
  | 0, _, _, _, _, _ => False
  | z + 1, M, l0, l1, l7, l8 => (ob M l0 7 ∧ ∃ b2, mP M l0 2 = some b2 ∧ (ob M b2 9 ∧ (vp_in l1 (mN M b2) ∧ (((mI M b2 (l1).toNatClampNeg) < l8 → K (.inl (some (.int (-1 : Int32)))) M) ∧ (¬ (mI M b2 (l1).toNatClampNeg) < l8 → V_X7_offsetOf (kI (fun r6 M5 => ∀ x7 : Int32, x7 = (l7 - r6) → (ob M5 l0 7 ∧ V_X7_beginOf (kI (fun r10 M9 => ((x7 < r10 → V_X7_minute_140 K (fun M l0 l1 l7 l8 => V_X7_minute_90 K  z M l0 l1 l7 l8) M9 l0 l1 l7 l8) ∧ (¬ x7 < r10 → (ob M9 l0 7 ∧ V_X7_endOf (kI (fun r13 M12 => ((r13 < x7 → V_X7_minute_140 K (fun M l0 l1 l7 l8 => V_X7_minute_90 K  z M l0 l1 l7 l8) M12 l0 l1 l7 l8) ∧ (¬ r13 < x7 → K (.inl (some (.int x7))) M12))) (fun _ _ => False)) M9 l0 l1 l8)))) (fun _ _ => False)) M5 l0 l1 l8)) (fun _ _ => False)) M l0 l1 l8)))))
set_option maxRecDepth 100000 in
set_option maxHeartbeats 4000000 in
theorem x_X7_minute_90 {G : Gx} {K : Rs → Mm → Prop}  : ∀ (z : Nat) (M : Mm) (l0 : Nat) (l1 : Int32) (l7 : Int32) (l8 : Int32), V_X7_minute_90 K  z M l0 l1 l7 l8 → E G mi_X7_minute K M 0 0 90 [some (.ref l0), some (.int l1), none, none, none, none, none, some (.int l7), some (.int l8), none] []
  | 0, M, l0, l1, l7, l8, h => False.elim h
  | z + 1, M, l0, l1, l7, l8, h => by
    unfold V_X7_minute_90 at h
    refine e_blk 2 90 _ _ (pc' := 93) (L' := [some (.ref l0), some (.int l1), none, none, none, none, none, some (.int l7), some (.int l8), none]) (st' := [.ref l0, .int l8]) rfl ?_
    obtain ⟨ho1, h⟩ := h
    obtain ⟨b2, hbb2, h⟩ := h
    refine e_getR 7 2 rfl rfl (by decide) (aw (i := 1067) (by decide +kernel) rfl) ho1 rfl hbb2 ?_
    refine e_blk 1 96 _ _ (pc' := 97) (L' := [some (.ref l0), some (.int l1), none, none, none, none, none, some (.int l7), some (.int l8), none]) (st' := [.int l1, .ref b2, .int l8]) rfl ?_
    obtain ⟨ho3, h⟩ := h
    obtain ⟨hi4, h⟩ := h
    refine e_iald rfl ho3 hi4 ?_
    refine e_icmp_gt 146 rfl rfl (fun hc => ?_) (fun hc => ?_)
    · replace h := h.1 hc
      refine e_blk 1 146 _ _ (pc' := 147) (L' := [some (.ref l0), some (.int l1), none, none, none, none, none, some (.int l7), some (.int l8), none]) (st' := [.int (-1 : Int32)]) rfl ?_
      exact e_reti rfl rfl (by decide) (by decide) h
    · replace h := h.2 hc
      refine e_blk 4 101 _ _ (pc' := 107) (L' := [some (.ref l0), some (.int l1), none, none, none, none, none, some (.int l7), some (.int l8), none]) (st' := [.int l8, .int l1, .ref l0, .int l7]) rfl ?_
      refine e_callV (As := [.int l1, .int l8]) (rest := [.int l7]) (ci := 7) rfl (x_X7_offsetOf h) ho1 rfl rfl rfl (aw (i := 1279) (by decide +kernel) rfl) wn_X7_offsetOf wv_X7_offsetOf wi_X7_offsetOf wc_X7_offsetOf (show cok mi_X7_minute mi_X7_offsetOf 0 0 2 = true by decide +kernel) (Nat.le_of_ble_eq_true rfl) (fun v9 M5 hq => ?_) (fun X M9 hq => False.elim hq)
      obtain ⟨r6, rfl, h⟩ := kI_l hq
      refine e_blk 6 110 _ _ (pc' := 119) (L' := [some (.ref l0), some (.int l1), none, none, none, none, none, some (.int l7), some (.int l8), some (.int (l7 - r6))]) (st' := [.int l8, .int l1, .ref l0, .int (l7 - r6)]) rfl ?_
      generalize hx_x7 : ((l7 - r6) : Int32) = x7
      replace h := h x7 hx_x7.symm
      obtain ⟨ho8, h⟩ := h
      refine e_callV (As := [.int l1, .int l8]) (rest := [.int x7]) (ci := 7) rfl (x_X7_beginOf h) ho8 rfl rfl rfl (aw (i := 1314) (by decide +kernel) rfl) wn_X7_beginOf wv_X7_beginOf wi_X7_beginOf wc_X7_beginOf (show cok mi_X7_minute mi_X7_beginOf 0 0 2 = true by decide +kernel) (Nat.le_of_ble_eq_true rfl) (fun v9 M9 hq => ?_) (fun X M9 hq => False.elim hq)
      obtain ⟨r10, rfl, h⟩ := kI_l hq
      refine e_icmp_lt 140 rfl rfl (fun hc => ?_) (fun hc => ?_)
      · replace h := h.1 hc
        refine e_drp [true, true, false, false, false, false, false, true, true, false] (L' := [some (.ref l0), some (.int l1), none, none, none, none, none, some (.int l7), some (.int l8), none]) rfl ?_
        exact x_X7_minute_140 (fun M l0 l1 l7 l8 h => x_X7_minute_90  z M l0 l1 l7 l8 h) h
      · replace h := h.2 hc
        refine e_blk 4 125 _ _ (pc' := 131) (L' := [some (.ref l0), some (.int l1), none, none, none, none, none, some (.int l7), some (.int l8), some (.int x7)]) (st' := [.int l8, .int l1, .ref l0, .int x7]) rfl ?_
        obtain ⟨ho11, h⟩ := h
        refine e_callV (As := [.int l1, .int l8]) (rest := [.int x7]) (ci := 7) rfl (x_X7_endOf h) ho11 rfl rfl rfl (aw (i := 1318) (by decide +kernel) rfl) wn_X7_endOf wv_X7_endOf wi_X7_endOf wc_X7_endOf (show cok mi_X7_minute mi_X7_endOf 0 0 2 = true by decide +kernel) (Nat.le_of_ble_eq_true rfl) (fun v9 M12 hq => ?_) (fun X M9 hq => False.elim hq)
        obtain ⟨r13, rfl, h⟩ := kI_l hq
        refine e_icmp_gt 140 rfl rfl (fun hc => ?_) (fun hc => ?_)
        · replace h := h.1 hc
          refine e_drp [true, true, false, false, false, false, false, true, true, false] (L' := [some (.ref l0), some (.int l1), none, none, none, none, none, some (.int l7), some (.int l8), none]) rfl ?_
          exact x_X7_minute_140 (fun M l0 l1 l7 l8 h => x_X7_minute_90  z M l0 l1 l7 l8 h) h
        · replace h := h.2 hc
          refine e_blk 1 137 _ _ (pc' := 139) (L' := [some (.ref l0), some (.int l1), none, none, none, none, none, some (.int l7), some (.int l8), some (.int x7)]) (st' := [.int x7]) rfl ?_
          exact e_reti rfl rfl (by decide) (by decide) h
def V_X7_minute_59 (K : Rs → Mm → Prop)  (M : Mm) (l0 : Nat) : Prop := (ob M l0 7 ∧ V_X7_wrong (kI (fun r3 M2 => K (.inl (some (.int r3))) M2) (fun _ _ => False)) M l0 (2 : Int32))
set_option maxRecDepth 100000 in
set_option maxHeartbeats 4000000 in
theorem x_X7_minute_59 {G : Gx} {K : Rs → Mm → Prop}  {M : Mm} {l0 : Nat} (h : V_X7_minute_59 K  M l0) : E G mi_X7_minute K M 0 0 59 [some (.ref l0), none, none, none, none, none, none, none, none, none] [] := by
  unfold V_X7_minute_59 at h
  refine e_blk 2 59 _ _ (pc' := 61) (L' := [some (.ref l0), none, none, none, none, none, none, none, none, none]) (st' := [.int (2 : Int32), .ref l0]) rfl ?_
  obtain ⟨ho1, h⟩ := h
  refine e_callV (As := [.int (2 : Int32)]) (rest := []) (ci := 7) rfl (x_X7_wrong h) ho1 rfl rfl rfl (aw (i := 1265) (by decide +kernel) rfl) wn_X7_wrong wv_X7_wrong wi_X7_wrong wc_X7_wrong (show cok mi_X7_minute mi_X7_wrong 0 0 1 = true by decide +kernel) (Nat.le_of_ble_eq_true rfl) (fun v9 M2 hq => ?_) (fun X M9 hq => False.elim hq)
  obtain ⟨r3, rfl, h⟩ := kI_l hq
  exact e_reti rfl rfl (by decide) (by decide) h
def V_X7_minute (K : Rs → Mm → Prop) (M : Mm) (a0 : Nat) (a1 : Int32) (a2 : Int32) (a3 : Int32) (a4 : Int32) (a5 : Int32) (a6 : Int32) : Prop := (ob M a0 7 ∧ ∀ M2, M2 = sI M a0 0 (0 : Int32) → V_X7_in (kI (fun r4 M3 => ((¬ r4 = 0 → V_X7_isDate (kI (fun r6 M5 => ((r6 = 0 → V_X7_minute_59 K  M5 a0) ∧ (¬ r6 = 0 → V_X7_in (kI (fun r8 M7 => ((r8 = 0 → V_X7_minute_59 K  M7 a0) ∧ (¬ r8 = 0 → V_X7_in (kI (fun r10 M9 => ((¬ r10 = 0 → V_X7_dayNumber (kI (fun r12 M11 => ∀ x13 : Int32, x13 = ((((1440 : Int32) * r12) + ((60 : Int32) * a5)) + a6) → ∃ y, V_X7_minute_90 K  y M11 a0 a1 x13 (0 : Int32)) (fun _ _ => False)) M9 a2 a3 a4) ∧ (r10 = 0 → V_X7_minute_59 K  M9 a0))) (fun _ _ => False)) M7 ((a6).toInt64) (0 : Int64) (59 : Int64)))) (fun _ _ => False)) M5 ((a5).toInt64) (0 : Int64) (23 : Int64)))) (fun _ _ => False)) M3 a2 a3 a4) ∧ (r4 = 0 → (ob M3 a0 7 ∧ V_X7_wrong (kI (fun r16 M15 => K (.inl (some (.int r16))) M15) (fun _ _ => False)) M3 a0 (1 : Int32))))) (fun _ _ => False)) M2 ((a1).toInt64) (0 : Int64) (3 : Int64))
set_option maxRecDepth 100000 in
set_option maxHeartbeats 4000000 in
theorem x_X7_minute {G : Gx} {K : Rs → Mm → Prop} {M : Mm} {a0 : Nat} {a1 : Int32} {a2 : Int32} {a3 : Int32} {a4 : Int32} {a5 : Int32} {a6 : Int32} (h : V_X7_minute K M a0 a1 a2 a3 a4 a5 a6) : MC G mi_X7_minute [.ref a0, .int a1, .int a2, .int a3, .int a4, .int a5, .int a6] M K := by
  unfold V_X7_minute at h
  refine mc_of rfl (by decide +kernel) dc_X7_minute (Nat.le_of_ble_eq_true rfl) 3 (Nat.le_of_ble_eq_true rfl) ?_
  show E G mi_X7_minute K M 0 0 0 [some (.ref a0), some (.int a1), some (.int a2), some (.int a3), some (.int a4), some (.int a5), some (.int a6), none, none, none] []
  refine e_blk 2 0 _ _ (pc' := 2) (L' := [some (.ref a0), some (.int a1), some (.int a2), some (.int a3), some (.int a4), some (.int a5), some (.int a6), none, none, none]) (st' := [.int (0 : Int32), .ref a0]) rfl ?_
  obtain ⟨ho1, h⟩ := h
  refine e_putI 7 0 rfl rfl (by decide) (aw (i := 1065) (by decide +kernel) rfl) rfl ho1 rfl ?_
  generalize hM2 : sI M a0 0 (0 : Int32) = M2
  replace h := h M2 hM2.symm
  replace ho1 : ob M2 a0 7 := hM2 ▸ ob_sI ho1
  refine e_blk 3 5 _ _ (pc' := 8) (L' := [some (.ref a0), some (.int a1), some (.int a2), some (.int a3), some (.int a4), some (.int a5), some (.int a6), none, none, none]) (st' := [.long (0 : Int64), .long ((a1).toInt64)]) rfl ?_
  refine e_ldc2 (3) rfl (aw (i := 1255) (by decide +kernel) rfl) ?_
  refine e_callS (As := [.long ((a1).toInt64), .long (0 : Int64), .long (3 : Int64)]) (rest := []) rfl (x_X7_in h) rfl (aw (i := 1256) (by decide +kernel) rfl) ws_X7_in wi_X7_in wc_X7_in (show cok mi_X7_minute mi_X7_in 0 0 3 = true by decide +kernel) (Nat.le_of_ble_eq_true rfl) (fun v9 M3 hq => ?_) (fun X M9 hq => False.elim hq)
  obtain ⟨r4, rfl, h⟩ := kI_l hq
  refine e_if_ne 23 rfl rfl (fun hc => ?_) (fun hc => ?_)
  · replace h := h.1 hc
    refine e_blk 3 23 _ _ (pc' := 27) (L' := [some (.ref a0), some (.int a1), some (.int a2), some (.int a3), some (.int a4), some (.int a5), some (.int a6), none, none, none]) (st' := [.int a4, .int a3, .int a2]) rfl ?_
    refine e_callS (As := [.int a2, .int a3, .int a4]) (rest := []) rfl (x_X7_isDate h) rfl (aw (i := 1303) (by decide +kernel) rfl) ws_X7_isDate wi_X7_isDate wc_X7_isDate (show cok mi_X7_minute mi_X7_isDate 0 0 3 = true by decide +kernel) (Nat.le_of_ble_eq_true rfl) (fun v9 M5 hq => ?_) (fun X M9 hq => False.elim hq)
    obtain ⟨r6, rfl, h⟩ := kI_l hq
    refine e_if_eq 59 rfl rfl (fun hc => ?_) (fun hc => ?_)
    · replace h := h.1 hc
      refine e_drp [true, false, false, false, false, false, false, false, false, false] (L' := [some (.ref a0), none, none, none, none, none, none, none, none, none]) rfl ?_
      exact x_X7_minute_59  h
    · replace h := h.2 hc
      refine e_blk 3 33 _ _ (pc' := 37) (L' := [some (.ref a0), some (.int a1), some (.int a2), some (.int a3), some (.int a4), some (.int a5), some (.int a6), none, none, none]) (st' := [.long (0 : Int64), .long ((a5).toInt64)]) rfl ?_
      refine e_ldc2 (23) rfl (aw (i := 1309) (by decide +kernel) rfl) ?_
      refine e_callS (As := [.long ((a5).toInt64), .long (0 : Int64), .long (23 : Int64)]) (rest := []) rfl (x_X7_in h) rfl (aw (i := 1256) (by decide +kernel) rfl) ws_X7_in wi_X7_in wc_X7_in (show cok mi_X7_minute mi_X7_in 0 0 3 = true by decide +kernel) (Nat.le_of_ble_eq_true rfl) (fun v9 M7 hq => ?_) (fun X M9 hq => False.elim hq)
      obtain ⟨r8, rfl, h⟩ := kI_l hq
      refine e_if_eq 59 rfl rfl (fun hc => ?_) (fun hc => ?_)
      · replace h := h.1 hc
        refine e_drp [true, false, false, false, false, false, false, false, false, false] (L' := [some (.ref a0), none, none, none, none, none, none, none, none, none]) rfl ?_
        exact x_X7_minute_59  h
      · replace h := h.2 hc
        refine e_blk 3 46 _ _ (pc' := 50) (L' := [some (.ref a0), some (.int a1), some (.int a2), some (.int a3), some (.int a4), some (.int a5), some (.int a6), none, none, none]) (st' := [.long (0 : Int64), .long ((a6).toInt64)]) rfl ?_
        refine e_ldc2 (59) rfl (aw (i := 1310) (by decide +kernel) rfl) ?_
        refine e_callS (As := [.long ((a6).toInt64), .long (0 : Int64), .long (59 : Int64)]) (rest := []) rfl (x_X7_in h) rfl (aw (i := 1256) (by decide +kernel) rfl) ws_X7_in wi_X7_in wc_X7_in (show cok mi_X7_minute mi_X7_in 0 0 3 = true by decide +kernel) (Nat.le_of_ble_eq_true rfl) (fun v9 M9 hq => ?_) (fun X M9 hq => False.elim hq)
        obtain ⟨r10, rfl, h⟩ := kI_l hq
        refine e_if_ne 65 rfl rfl (fun hc => ?_) (fun hc => ?_)
        · replace h := h.1 hc
          refine e_blk 4 65 _ _ (pc' := 72) (L' := [some (.ref a0), some (.int a1), some (.int a2), some (.int a3), some (.int a4), some (.int a5), some (.int a6), none, none, none]) (st' := [.int a4, .int a3, .int a2, .int (1440 : Int32)]) rfl ?_
          refine e_callS (As := [.int a2, .int a3, .int a4]) (rest := [.int (1440 : Int32)]) rfl (x_X7_dayNumber h) rfl (aw (i := 1311) (by decide +kernel) rfl) ws_X7_dayNumber wi_X7_dayNumber wc_X7_dayNumber (show cok mi_X7_minute mi_X7_dayNumber 0 0 3 = true by decide +kernel) (Nat.le_of_ble_eq_true rfl) (fun v9 M11 hq => ?_) (fun X M9 hq => False.elim hq)
          obtain ⟨r12, rfl, h⟩ := kI_l hq
          refine e_blk 10 75 _ _ (pc' := 90) (L' := [some (.ref a0), some (.int a1), some (.int a2), some (.int a3), some (.int a4), some (.int a5), some (.int a6), some (.int ((((1440 : Int32) * r12) + ((60 : Int32) * a5)) + a6)), some (.int (0 : Int32)), none]) (st' := []) rfl ?_
          generalize hx_x13 : (((((1440 : Int32) * r12) + ((60 : Int32) * a5)) + a6) : Int32) = x13
          replace h := h x13 hx_x13.symm
          refine e_drp [true, true, false, false, false, false, false, true, true, false] (L' := [some (.ref a0), some (.int a1), none, none, none, none, none, some (.int x13), some (.int (0 : Int32)), none]) rfl ?_
          obtain ⟨y, h⟩ := h
          exact x_X7_minute_90  y _ _ _ _ _ h
        · replace h := h.2 hc
          refine e_drp [true, false, false, false, false, false, false, false, false, false] (L' := [some (.ref a0), none, none, none, none, none, none, none, none, none]) rfl ?_
          exact x_X7_minute_59  h
  · replace h := h.2 hc
    refine e_blk 2 17 _ _ (pc' := 19) (L' := [some (.ref a0), some (.int a1), some (.int a2), some (.int a3), some (.int a4), some (.int a5), some (.int a6), none, none, none]) (st' := [.int (1 : Int32), .ref a0]) rfl ?_
    obtain ⟨ho14, h⟩ := h
    refine e_callV (As := [.int (1 : Int32)]) (rest := []) (ci := 7) rfl (x_X7_wrong h) ho14 rfl rfl rfl (aw (i := 1265) (by decide +kernel) rfl) wn_X7_wrong wv_X7_wrong wi_X7_wrong wc_X7_wrong (show cok mi_X7_minute mi_X7_wrong 0 0 1 = true by decide +kernel) (Nat.le_of_ble_eq_true rfl) (fun v9 M15 hq => ?_) (fun X M9 hq => False.elim hq)
    obtain ⟨r16, rfl, h⟩ := kI_l hq
    exact e_reti rfl rfl (by decide) (by decide) h
def V_X7_feed_46 (K : Rs → Mm → Prop)  : Nat → Mm → Nat → Int64 → Int32 → Prop
  | 0, _, _, _, _ => False
  | z + 1, M, l0, l1, l4 => ((l4 < 0 → (ob M l0 7 ∧ K (.inl (some (.int (mI M l0 11)))) M)) ∧ (¬ l4 < 0 → (ob M l0 7 ∧ ∃ b3, mP M l0 10 = some b3 ∧ (ob M b3 8 ∧ (vp_in (mI M l0 11) (mN M b3) ∧ ∀ M6, M6 = sI M b3 ((mI M l0 11)).toNatClampNeg (vp_nar .byte (((((l1 >>> ((((8 : Int32) * l4)).toInt64 &&& 63))).toInt32)).toInt8.toInt32)) → ∀ M7, M7 = sI M6 l0 11 ((mI M6 l0 11) + (1 : Int32)) → ∀ x8 : Int32, x8 = (l4 + (-1 : Int32)) → V_X7_feed_46 K  z M7 l0 l1 x8)))))
set_option maxRecDepth 100000 in
set_option maxHeartbeats 4000000 in
theorem x_X7_feed_46 {G : Gx} {K : Rs → Mm → Prop}  : ∀ (z : Nat) (M : Mm) (l0 : Nat) (l1 : Int64) (l4 : Int32), V_X7_feed_46 K  z M l0 l1 l4 → E G mi_X7_feed K M 0 0 46 [some (.ref l0), some (.long l1), none, none, some (.int l4)] []
  | 0, M, l0, l1, l4, h => False.elim h
  | z + 1, M, l0, l1, l4, h => by
    unfold V_X7_feed_46 at h
    refine e_blk 1 46 _ _ (pc' := 48) (L' := [some (.ref l0), some (.long l1), none, none, some (.int l4)]) (st' := [.int l4]) rfl ?_
    refine e_if_lt 85 rfl rfl (fun hc => ?_) (fun hc => ?_)
    · replace h := h.1 hc
      refine e_blk 1 85 _ _ (pc' := 86) (L' := [some (.ref l0), some (.long l1), none, none, some (.int l4)]) (st' := [.ref l0]) rfl ?_
      obtain ⟨ho1, h⟩ := h
      refine e_getI 7 11 rfl rfl (by decide) (aw (i := 1076) (by decide +kernel) rfl) ho1 rfl ?_
      exact e_reti rfl rfl (by decide) (by decide) h
    · replace h := h.2 hc
      refine e_blk 1 51 _ _ (pc' := 52) (L' := [some (.ref l0), some (.long l1), none, none, some (.int l4)]) (st' := [.ref l0]) rfl ?_
      obtain ⟨ho2, h⟩ := h
      obtain ⟨b3, hbb3, h⟩ := h
      refine e_getR 7 10 rfl rfl (by decide) (aw (i := 1075) (by decide +kernel) rfl) ho2 rfl hbb3 ?_
      refine e_blk 1 55 _ _ (pc' := 56) (L' := [some (.ref l0), some (.long l1), none, none, some (.int l4)]) (st' := [.ref l0, .ref b3]) rfl ?_
      refine e_getI 7 11 rfl rfl (by decide) (aw (i := 1076) (by decide +kernel) rfl) ho2 rfl ?_
      refine e_blk 7 59 _ _ (pc' := 68) (L' := [some (.ref l0), some (.long l1), none, none, some (.int l4)]) (st' := [.int (((((l1 >>> ((((8 : Int32) * l4)).toInt64 &&& 63))).toInt32)).toInt8.toInt32), .int (mI M l0 11), .ref b3]) rfl ?_
      obtain ⟨ho4, h⟩ := h
      obtain ⟨hi5, h⟩ := h
      refine e_bast rfl ho4 hi5 ?_
      generalize hM6 : sI M b3 ((mI M l0 11)).toNatClampNeg (vp_nar .byte (((((l1 >>> ((((8 : Int32) * l4)).toInt64 &&& 63))).toInt32)).toInt8.toInt32)) = M6
      replace h := h M6 hM6.symm
      replace ho2 : ob M6 l0 7 := hM6 ▸ ob_sI ho2
      replace ho4 : ob M6 b3 8 := hM6 ▸ ob_sI ho4
      refine e_blk 2 69 _ _ (pc' := 71) (L' := [some (.ref l0), some (.long l1), none, none, some (.int l4)]) (st' := [.ref l0, .ref l0]) rfl ?_
      refine e_getI 7 11 rfl rfl (by decide) (aw (i := 1076) (by decide +kernel) rfl) ho2 rfl ?_
      refine e_blk 2 74 _ _ (pc' := 76) (L' := [some (.ref l0), some (.long l1), none, none, some (.int l4)]) (st' := [.int ((mI M6 l0 11) + (1 : Int32)), .ref l0]) rfl ?_
      refine e_putI 7 11 rfl rfl (by decide) (aw (i := 1076) (by decide +kernel) rfl) rfl ho2 rfl ?_
      generalize hM7 : sI M6 l0 11 ((mI M6 l0 11) + (1 : Int32)) = M7
      replace h := h M7 hM7.symm
      replace ho2 : ob M7 l0 7 := hM7 ▸ ob_sI ho2
      replace ho4 : ob M7 b3 8 := hM7 ▸ ob_sI ho4
      refine e_blk 2 79 _ _ (pc' := 46) (L' := [some (.ref l0), some (.long l1), none, none, some (.int (l4 + (-1 : Int32)))]) (st' := []) rfl ?_
      generalize hx_x8 : ((l4 + (-1 : Int32)) : Int32) = x8
      replace h := h x8 hx_x8.symm
      refine e_drp [true, true, false, false, true] (L' := [some (.ref l0), some (.long l1), none, none, some (.int x8)]) rfl ?_
      exact x_X7_feed_46  z _ _ _ _ h
def V_X7_feed (K : Rs → Mm → Prop) (M : Mm) (a0 : Nat) (a1 : Int64) (a2 : Int32) : Prop := (ob M a0 7 ∧ ∀ M2, M2 = sI M a0 0 (0 : Int32) → V_X7_in (kI (fun r4 M3 => ((¬ r4 = 0 → (ob M3 a0 7 ∧ ((((mI M3 a0 11) + a2) ≤ (160 : Int32) → ∀ x6 : Int32, x6 = (a2 - (1 : Int32)) → ∃ y, V_X7_feed_46 K  y M3 a0 a1 x6) ∧ (¬ ((mI M3 a0 11) + a2) ≤ (160 : Int32) → V_X7_wrong (kI (fun r8 M7 => K (.inl (some (.int r8))) M7) (fun _ _ => False)) M3 a0 (2 : Int32))))) ∧ (r4 = 0 → (ob M3 a0 7 ∧ V_X7_wrong (kI (fun r11 M10 => K (.inl (some (.int r11))) M10) (fun _ _ => False)) M3 a0 (1 : Int32))))) (fun _ _ => False)) M2 ((a2).toInt64) (1 : Int64) (8 : Int64))
set_option maxRecDepth 100000 in
set_option maxHeartbeats 4000000 in
theorem x_X7_feed {G : Gx} {K : Rs → Mm → Prop} {M : Mm} {a0 : Nat} {a1 : Int64} {a2 : Int32} (h : V_X7_feed K M a0 a1 a2) : MC G mi_X7_feed [.ref a0, .long a1, .int a2] M K := by
  unfold V_X7_feed at h
  refine mc_of rfl (by decide +kernel) dc_X7_feed (Nat.le_of_ble_eq_true rfl) 1 (Nat.le_of_ble_eq_true rfl) ?_
  show E G mi_X7_feed K M 0 0 0 [some (.ref a0), some (.long a1), none, some (.int a2), none] []
  refine e_blk 2 0 _ _ (pc' := 2) (L' := [some (.ref a0), some (.long a1), none, some (.int a2), none]) (st' := [.int (0 : Int32), .ref a0]) rfl ?_
  obtain ⟨ho1, h⟩ := h
  refine e_putI 7 0 rfl rfl (by decide) (aw (i := 1065) (by decide +kernel) rfl) rfl ho1 rfl ?_
  generalize hM2 : sI M a0 0 (0 : Int32) = M2
  replace h := h M2 hM2.symm
  replace ho1 : ob M2 a0 7 := hM2 ▸ ob_sI ho1
  refine e_blk 3 5 _ _ (pc' := 8) (L' := [some (.ref a0), some (.long a1), none, some (.int a2), none]) (st' := [.long (1 : Int64), .long ((a2).toInt64)]) rfl ?_
  refine e_ldc2 (8) rfl (aw (i := 1327) (by decide +kernel) rfl) ?_
  refine e_callS (As := [.long ((a2).toInt64), .long (1 : Int64), .long (8 : Int64)]) (rest := []) rfl (x_X7_in h) rfl (aw (i := 1256) (by decide +kernel) rfl) ws_X7_in wi_X7_in wc_X7_in (show cok mi_X7_feed mi_X7_in 0 0 3 = true by decide +kernel) (Nat.le_of_ble_eq_true rfl) (fun v9 M3 hq => ?_) (fun X M9 hq => False.elim hq)
  obtain ⟨r4, rfl, h⟩ := kI_l hq
  refine e_if_ne 23 rfl rfl (fun hc => ?_) (fun hc => ?_)
  · replace h := h.1 hc
    refine e_blk 1 23 _ _ (pc' := 24) (L' := [some (.ref a0), some (.long a1), none, some (.int a2), none]) (st' := [.ref a0]) rfl ?_
    obtain ⟨ho5, h⟩ := h
    refine e_getI 7 11 rfl rfl (by decide) (aw (i := 1076) (by decide +kernel) rfl) ho5 rfl ?_
    refine e_blk 3 27 _ _ (pc' := 32) (L' := [some (.ref a0), some (.long a1), none, some (.int a2), none]) (st' := [.int (160 : Int32), .int ((mI M3 a0 11) + a2)]) rfl ?_
    refine e_icmp_le 41 rfl rfl (fun hc => ?_) (fun hc => ?_)
    · replace h := h.1 hc
      refine e_blk 4 41 _ _ (pc' := 46) (L' := [some (.ref a0), some (.long a1), none, some (.int a2), some (.int (a2 - (1 : Int32)))]) (st' := []) rfl ?_
      generalize hx_x6 : ((a2 - (1 : Int32)) : Int32) = x6
      replace h := h x6 hx_x6.symm
      refine e_drp [true, true, false, false, true] (L' := [some (.ref a0), some (.long a1), none, none, some (.int x6)]) rfl ?_
      obtain ⟨y, h⟩ := h
      exact x_X7_feed_46  y _ _ _ _ h
    · replace h := h.2 hc
      refine e_blk 2 35 _ _ (pc' := 37) (L' := [some (.ref a0), some (.long a1), none, some (.int a2), none]) (st' := [.int (2 : Int32), .ref a0]) rfl ?_
      refine e_callV (As := [.int (2 : Int32)]) (rest := []) (ci := 7) rfl (x_X7_wrong h) ho5 rfl rfl rfl (aw (i := 1265) (by decide +kernel) rfl) wn_X7_wrong wv_X7_wrong wi_X7_wrong wc_X7_wrong (show cok mi_X7_feed mi_X7_wrong 0 0 1 = true by decide +kernel) (Nat.le_of_ble_eq_true rfl) (fun v9 M7 hq => ?_) (fun X M9 hq => False.elim hq)
      obtain ⟨r8, rfl, h⟩ := kI_l hq
      exact e_reti rfl rfl (by decide) (by decide) h
  · replace h := h.2 hc
    refine e_blk 2 17 _ _ (pc' := 19) (L' := [some (.ref a0), some (.long a1), none, some (.int a2), none]) (st' := [.int (1 : Int32), .ref a0]) rfl ?_
    obtain ⟨ho9, h⟩ := h
    refine e_callV (As := [.int (1 : Int32)]) (rest := []) (ci := 7) rfl (x_X7_wrong h) ho9 rfl rfl rfl (aw (i := 1265) (by decide +kernel) rfl) wn_X7_wrong wv_X7_wrong wi_X7_wrong wc_X7_wrong (show cok mi_X7_feed mi_X7_wrong 0 0 1 = true by decide +kernel) (Nat.le_of_ble_eq_true rfl) (fun v9 M10 hq => ?_) (fun X M9 hq => False.elim hq)
    obtain ⟨r11, rfl, h⟩ := kI_l hq
    exact e_reti rfl rfl (by decide) (by decide) h
def V_X7_fail_17 (K : Rs → Mm → Prop)  (M : Mm)  : Prop := K (.inl none) M
set_option maxRecDepth 100000 in
set_option maxHeartbeats 4000000 in
theorem x_X7_fail_17 {G : Gx} {K : Rs → Mm → Prop}  {M : Mm}  (h : V_X7_fail_17 K  M ) : E G mi_X7_fail K M 0 0 17 [none, none, none] [] := by
  unfold V_X7_fail_17 at h
  exact e_ret rfl rfl (by decide) (by decide) h
def V_X7_fail (K : Rs → Mm → Prop) (M : Mm) (a0 : Nat) (a1 : Int32) (a2 : Int32) : Prop := (ob M a0 7 ∧ ((¬ (mI M a0 13) = 0 → V_X7_fail_17 K  M ) ∧ ((mI M a0 13) = 0 → ∀ M2, M2 = sI M a0 13 a1 → ∀ M3, M3 = sI M2 a0 14 a2 → V_X7_fail_17 K  M3 )))
set_option maxRecDepth 100000 in
set_option maxHeartbeats 4000000 in
theorem x_X7_fail {G : Gx} {K : Rs → Mm → Prop} {M : Mm} {a0 : Nat} {a1 : Int32} {a2 : Int32} (h : V_X7_fail K M a0 a1 a2) : MC G mi_X7_fail [.ref a0, .int a1, .int a2] M K := by
  unfold V_X7_fail at h
  refine mc_of rfl (by decide +kernel) dc_X7_fail (Nat.le_of_ble_eq_true rfl) 0 (Nat.le_of_ble_eq_true rfl) ?_
  show E G mi_X7_fail K M 0 0 0 [some (.ref a0), some (.int a1), some (.int a2)] []
  refine e_blk 1 0 _ _ (pc' := 1) (L' := [some (.ref a0), some (.int a1), some (.int a2)]) (st' := [.ref a0]) rfl ?_
  obtain ⟨ho1, h⟩ := h
  refine e_getI 7 13 rfl rfl (by decide) (aw (i := 1078) (by decide +kernel) rfl) ho1 rfl ?_
  refine e_if_ne 17 rfl rfl (fun hc => ?_) (fun hc => ?_)
  · replace h := h.1 hc
    refine e_drp [false, false, false] (L' := [none, none, none]) rfl ?_
    exact x_X7_fail_17  h
  · replace h := h.2 hc
    refine e_blk 2 7 _ _ (pc' := 9) (L' := [some (.ref a0), some (.int a1), some (.int a2)]) (st' := [.int a1, .ref a0]) rfl ?_
    refine e_putI 7 13 rfl rfl (by decide) (aw (i := 1078) (by decide +kernel) rfl) rfl ho1 rfl ?_
    generalize hM2 : sI M a0 13 a1 = M2
    replace h := h M2 hM2.symm
    replace ho1 : ob M2 a0 7 := hM2 ▸ ob_sI ho1
    refine e_blk 2 12 _ _ (pc' := 14) (L' := [some (.ref a0), some (.int a1), some (.int a2)]) (st' := [.int a2, .ref a0]) rfl ?_
    refine e_putI 7 14 rfl rfl (by decide) (aw (i := 1079) (by decide +kernel) rfl) rfl ho1 rfl ?_
    generalize hM3 : sI M2 a0 14 a2 = M3
    replace h := h M3 hM3.symm
    replace ho1 : ob M3 a0 7 := hM3 ▸ ob_sI ho1
    refine e_drp [false, false, false] (L' := [none, none, none]) rfl ?_
    exact x_X7_fail_17  h
def V_X7_sign_28 (K : Rs → Mm → Prop)  (M : Mm) (s0 : Int32) : Prop := K (.inl (some (.int s0))) M
set_option maxRecDepth 100000 in
set_option maxHeartbeats 4000000 in
theorem x_X7_sign_28 {G : Gx} {K : Rs → Mm → Prop}  {M : Mm} {s0 : Int32} (h : V_X7_sign_28 K  M s0) : E G mi_X7_sign K M 0 0 28 [none] [.int s0] := by
  unfold V_X7_sign_28 at h
  exact e_reti rfl rfl (by decide) (by decide) h
def V_X7_sign (K : Rs → Mm → Prop) (M : Mm) (a0 : Nat) : Prop := (ob M a0 7 ∧ (((mI M a0 11) ≤ (mI M a0 12) → V_X7_sign_28 K  M (-1 : Int32)) ∧ (¬ (mI M a0 11) ≤ (mI M a0 12) → ∃ b2, mP M a0 10 = some b2 ∧ (ob M b2 8 ∧ (vp_in (mI M a0 12) (mN M b2) ∧ V_X7_sign_28 K  M ((mI M b2 ((mI M a0 12)).toNatClampNeg) &&& (255 : Int32)))))))
set_option maxRecDepth 100000 in
set_option maxHeartbeats 4000000 in
theorem x_X7_sign {G : Gx} {K : Rs → Mm → Prop} {M : Mm} {a0 : Nat} (h : V_X7_sign K M a0) : MC G mi_X7_sign [.ref a0] M K := by
  unfold V_X7_sign at h
  refine mc_of rfl (by decide +kernel) dc_X7_sign (Nat.le_of_ble_eq_true rfl) 0 (Nat.le_of_ble_eq_true rfl) ?_
  show E G mi_X7_sign K M 0 0 0 [some (.ref a0)] []
  refine e_blk 1 0 _ _ (pc' := 1) (L' := [some (.ref a0)]) (st' := [.ref a0]) rfl ?_
  obtain ⟨ho1, h⟩ := h
  refine e_getI 7 12 rfl rfl (by decide) (aw (i := 1077) (by decide +kernel) rfl) ho1 rfl ?_
  refine e_blk 1 4 _ _ (pc' := 5) (L' := [some (.ref a0)]) (st' := [.ref a0, .int (mI M a0 12)]) rfl ?_
  refine e_getI 7 11 rfl rfl (by decide) (aw (i := 1076) (by decide +kernel) rfl) ho1 rfl ?_
  refine e_icmp_ge 27 rfl rfl (fun hc => ?_) (fun hc => ?_)
  · replace h := h.1 hc
    refine e_blk 1 27 _ _ (pc' := 28) (L' := [some (.ref a0)]) (st' := [.int (-1 : Int32)]) rfl ?_
    refine e_drp [false] (L' := [none]) rfl ?_
    exact x_X7_sign_28  h
  · replace h := h.2 hc
    refine e_blk 1 11 _ _ (pc' := 12) (L' := [some (.ref a0)]) (st' := [.ref a0]) rfl ?_
    obtain ⟨b2, hbb2, h⟩ := h
    refine e_getR 7 10 rfl rfl (by decide) (aw (i := 1075) (by decide +kernel) rfl) ho1 rfl hbb2 ?_
    refine e_blk 1 15 _ _ (pc' := 16) (L' := [some (.ref a0)]) (st' := [.ref a0, .ref b2]) rfl ?_
    refine e_getI 7 12 rfl rfl (by decide) (aw (i := 1077) (by decide +kernel) rfl) ho1 rfl ?_
    obtain ⟨ho3, h⟩ := h
    obtain ⟨hi4, h⟩ := h
    refine e_bald rfl ho3 hi4 ?_
    refine e_blk 3 20 _ _ (pc' := 28) (L' := [some (.ref a0)]) (st' := [.int ((mI M b2 ((mI M a0 12)).toNatClampNeg) &&& (255 : Int32))]) rfl ?_
    refine e_drp [false] (L' := [none]) rfl ?_
    exact x_X7_sign_28  h
def V_X7_isFigure (K : Rs → Mm → Prop) (M : Mm) (a0 : Nat) : Prop := (ob M a0 7 ∧ V_X7_sign (kI (fun r3 M2 => V_X7_in (kI (fun r5 M4 => ((r5 = 0 ∨ r5 = 1) ∧ K (.inl (some (.int r5))) M4)) (fun _ _ => False)) M2 ((r3).toInt64) (48 : Int64) (57 : Int64)) (fun _ _ => False)) M a0)
set_option maxRecDepth 100000 in
set_option maxHeartbeats 4000000 in
theorem x_X7_isFigure {G : Gx} {K : Rs → Mm → Prop} {M : Mm} {a0 : Nat} (h : V_X7_isFigure K M a0) : MC G mi_X7_isFigure [.ref a0] M K := by
  unfold V_X7_isFigure at h
  refine mc_of rfl (by decide +kernel) dc_X7_isFigure (Nat.le_of_ble_eq_true rfl) 0 (Nat.le_of_ble_eq_true rfl) ?_
  show E G mi_X7_isFigure K M 0 0 0 [some (.ref a0)] []
  refine e_blk 1 0 _ _ (pc' := 1) (L' := [some (.ref a0)]) (st' := [.ref a0]) rfl ?_
  obtain ⟨ho1, h⟩ := h
  refine e_callV (As := []) (rest := []) (ci := 7) rfl (x_X7_sign h) ho1 rfl rfl rfl (aw (i := 1343) (by decide +kernel) rfl) wn_X7_sign wv_X7_sign wi_X7_sign wc_X7_sign (show cok mi_X7_isFigure mi_X7_sign 0 0 0 = true by decide +kernel) (Nat.le_of_ble_eq_true rfl) (fun v9 M2 hq => ?_) (fun X M9 hq => False.elim hq)
  obtain ⟨r3, rfl, h⟩ := kI_l hq
  refine e_blk 1 4 _ _ (pc' := 5) (L' := [some (.ref a0)]) (st' := [.long ((r3).toInt64)]) rfl ?_
  refine e_ldc2 (48) rfl (aw (i := 1397) (by decide +kernel) rfl) ?_
  refine e_ldc2 (57) rfl (aw (i := 1398) (by decide +kernel) rfl) ?_
  refine e_callS (As := [.long ((r3).toInt64), .long (48 : Int64), .long (57 : Int64)]) (rest := []) rfl (x_X7_in h) rfl (aw (i := 1256) (by decide +kernel) rfl) ws_X7_in wi_X7_in wc_X7_in (show cok mi_X7_isFigure mi_X7_in 0 0 3 = true by decide +kernel) (Nat.le_of_ble_eq_true rfl) (fun v9 M4 hq => ?_) (fun X M9 hq => False.elim hq)
  obtain ⟨r5, rfl, h⟩ := kI_l hq
  exact e_retz rfl rfl h.1 (by decide) (by decide) h.2
def V_X7_figures_79 (K : Rs → Mm → Prop)  (M : Mm) (l2 : Int32) : Prop := K (.inl (some (.int l2))) M
set_option maxRecDepth 100000 in
set_option maxHeartbeats 4000000 in
theorem x_X7_figures_79 {G : Gx} {K : Rs → Mm → Prop}  {M : Mm} {l2 : Int32} (h : V_X7_figures_79 K  M l2) : E G mi_X7_figures K M 0 0 79 [none, none, some (.int l2), none] [] := by
  unfold V_X7_figures_79 at h
  refine e_blk 1 79 _ _ (pc' := 80) (L' := [none, none, some (.int l2), none]) (st' := [.int l2]) rfl ?_
  exact e_reti rfl rfl (by decide) (by decide) h
def V_X7_figures_20 (K : Rs → Mm → Prop)  : Nat → Mm → Nat → Int32 → Int32 → Int32 → Prop
  | 0, _, _, _, _, _ => False
  | z + 1, M, l0, l1, l2, l3 => (ob M l0 7 ∧ ((¬ (mI M l0 13) = 0 → V_X7_figures_79 K  M l2) ∧ ((mI M l0 13) = 0 → V_X7_isFigure (kI (fun r3 M2 => ((r3 = 0 → V_X7_figures_79 K  M2 l2) ∧ (¬ r3 = 0 → ((¬ l3 = l1 → (ob M2 l0 7 ∧ V_X7_sign (kI (fun r6 M5 => ∀ x7 : Int32, x7 = ((((10 : Int32) * l2) + r6) - (48 : Int32)) → ∀ x8 : Int32, x8 = (l3 + (1 : Int32)) → (ob M5 l0 7 ∧ ∀ M10, M10 = sI M5 l0 12 ((mI M5 l0 12) + (1 : Int32)) → V_X7_figures_20 K  z M10 l0 l1 x7 x8)) (fun _ _ => False)) M2 l0)) ∧ (l3 = l1 → (ob M2 l0 7 ∧ V_X7_fail (kV (fun M12 => K (.inl (some (.int (0 : Int32)))) M12) (fun _ _ => False)) M2 l0 (1 : Int32) (mI M2 l0 12))))))) (fun _ _ => False)) M l0)))
set_option maxRecDepth 100000 in
set_option maxHeartbeats 4000000 in
theorem x_X7_figures_20 {G : Gx} {K : Rs → Mm → Prop}  : ∀ (z : Nat) (M : Mm) (l0 : Nat) (l1 : Int32) (l2 : Int32) (l3 : Int32), V_X7_figures_20 K  z M l0 l1 l2 l3 → E G mi_X7_figures K M 0 0 20 [some (.ref l0), some (.int l1), some (.int l2), some (.int l3)] []
  | 0, M, l0, l1, l2, l3, h => False.elim h
  | z + 1, M, l0, l1, l2, l3, h => by
    unfold V_X7_figures_20 at h
    refine e_blk 1 20 _ _ (pc' := 21) (L' := [some (.ref l0), some (.int l1), some (.int l2), some (.int l3)]) (st' := [.ref l0]) rfl ?_
    obtain ⟨ho1, h⟩ := h
    refine e_getI 7 13 rfl rfl (by decide) (aw (i := 1078) (by decide +kernel) rfl) ho1 rfl ?_
    refine e_if_ne 79 rfl rfl (fun hc => ?_) (fun hc => ?_)
    · replace h := h.1 hc
      refine e_drp [false, false, true, false] (L' := [none, none, some (.int l2), none]) rfl ?_
      exact x_X7_figures_79  h
    · replace h := h.2 hc
      refine e_blk 1 27 _ _ (pc' := 28) (L' := [some (.ref l0), some (.int l1), some (.int l2), some (.int l3)]) (st' := [.ref l0]) rfl ?_
      refine e_callV (As := []) (rest := []) (ci := 7) rfl (x_X7_isFigure h) ho1 rfl rfl rfl (aw (i := 1393) (by decide +kernel) rfl) wn_X7_isFigure wv_X7_isFigure wi_X7_isFigure wc_X7_isFigure (show cok mi_X7_figures mi_X7_isFigure 0 0 0 = true by decide +kernel) (Nat.le_of_ble_eq_true rfl) (fun v9 M2 hq => ?_) (fun X M9 hq => False.elim hq)
      obtain ⟨r3, rfl, h⟩ := kI_l hq
      refine e_if_eq 79 rfl rfl (fun hc => ?_) (fun hc => ?_)
      · replace h := h.1 hc
        refine e_drp [false, false, true, false] (L' := [none, none, some (.int l2), none]) rfl ?_
        exact x_X7_figures_79  h
      · replace h := h.2 hc
        refine e_blk 2 34 _ _ (pc' := 36) (L' := [some (.ref l0), some (.int l1), some (.int l2), some (.int l3)]) (st' := [.int l1, .int l3]) rfl ?_
        refine e_icmp_ne 50 rfl rfl (fun hc => ?_) (fun hc => ?_)
        · replace h := h.1 hc
          refine e_blk 4 50 _ _ (pc' := 55) (L' := [some (.ref l0), some (.int l1), some (.int l2), some (.int l3)]) (st' := [.ref l0, .int ((10 : Int32) * l2)]) rfl ?_
          obtain ⟨ho4, h⟩ := h
          refine e_callV (As := []) (rest := [.int ((10 : Int32) * l2)]) (ci := 7) rfl (x_X7_sign h) ho4 rfl rfl rfl (aw (i := 1343) (by decide +kernel) rfl) wn_X7_sign wv_X7_sign wi_X7_sign wc_X7_sign (show cok mi_X7_figures mi_X7_sign 0 0 0 = true by decide +kernel) (Nat.le_of_ble_eq_true rfl) (fun v9 M5 hq => ?_) (fun X M9 hq => False.elim hq)
          obtain ⟨r6, rfl, h⟩ := kI_l hq
          refine e_blk 7 58 _ _ (pc' := 68) (L' := [some (.ref l0), some (.int l1), some (.int ((((10 : Int32) * l2) + r6) - (48 : Int32))), some (.int (l3 + (1 : Int32)))]) (st' := [.ref l0, .ref l0]) rfl ?_
          generalize hx_x7 : (((((10 : Int32) * l2) + r6) - (48 : Int32)) : Int32) = x7
          replace h := h x7 hx_x7.symm
          generalize hx_x8 : ((l3 + (1 : Int32)) : Int32) = x8
          replace h := h x8 hx_x8.symm
          obtain ⟨ho9, h⟩ := h
          refine e_getI 7 12 rfl rfl (by decide) (aw (i := 1077) (by decide +kernel) rfl) ho9 rfl ?_
          refine e_blk 2 71 _ _ (pc' := 73) (L' := [some (.ref l0), some (.int l1), some (.int x7), some (.int x8)]) (st' := [.int ((mI M5 l0 12) + (1 : Int32)), .ref l0]) rfl ?_
          refine e_putI 7 12 rfl rfl (by decide) (aw (i := 1077) (by decide +kernel) rfl) rfl ho9 rfl ?_
          generalize hM10 : sI M5 l0 12 ((mI M5 l0 12) + (1 : Int32)) = M10
          replace h := h M10 hM10.symm
          replace ho9 : ob M10 l0 7 := hM10 ▸ ob_sI ho9
          refine e_blk 1 76 _ _ (pc' := 20) (L' := [some (.ref l0), some (.int l1), some (.int x7), some (.int x8)]) (st' := []) rfl ?_
          refine e_drp [true, true, true, true] (L' := [some (.ref l0), some (.int l1), some (.int x7), some (.int x8)]) rfl ?_
          exact x_X7_figures_20  z _ _ _ _ _ h
        · replace h := h.2 hc
          refine e_blk 3 39 _ _ (pc' := 42) (L' := [some (.ref l0), some (.int l1), some (.int l2), some (.int l3)]) (st' := [.ref l0, .int (1 : Int32), .ref l0]) rfl ?_
          obtain ⟨ho11, h⟩ := h
          refine e_getI 7 12 rfl rfl (by decide) (aw (i := 1077) (by decide +kernel) rfl) ho11 rfl ?_
          refine e_callV (As := [.int (1 : Int32), .int (mI M2 l0 12)]) (rest := []) (ci := 7) rfl (x_X7_fail h) ho11 rfl rfl rfl (aw (i := 1357) (by decide +kernel) rfl) wn_X7_fail wv_X7_fail wi_X7_fail wc_X7_fail (show cok mi_X7_figures mi_X7_fail 0 0 2 = true by decide +kernel) (Nat.le_of_ble_eq_true rfl) (fun v9 M12 hq => ?_) (fun X M9 hq => False.elim hq)
          obtain ⟨rfl, h⟩ := kV_l hq
          refine e_blk 1 48 _ _ (pc' := 49) (L' := [some (.ref l0), some (.int l1), some (.int l2), some (.int l3)]) (st' := [.int (0 : Int32)]) rfl ?_
          exact e_reti rfl rfl (by decide) (by decide) h
def V_X7_figures (K : Rs → Mm → Prop) (M : Mm) (a0 : Nat) (a1 : Int32) : Prop := (ob M a0 7 ∧ V_X7_isFigure (kI (fun r3 M2 => ((¬ r3 = 0 → ∃ y, V_X7_figures_20 K  y M2 a0 a1 (0 : Int32) (0 : Int32)) ∧ (r3 = 0 → (ob M2 a0 7 ∧ V_X7_fail (kV (fun M5 => ∃ y, V_X7_figures_20 K  y M5 a0 a1 (0 : Int32) (0 : Int32)) (fun _ _ => False)) M2 a0 (1 : Int32) (mI M2 a0 12))))) (fun _ _ => False)) M a0)
set_option maxRecDepth 100000 in
set_option maxHeartbeats 4000000 in
theorem x_X7_figures {G : Gx} {K : Rs → Mm → Prop} {M : Mm} {a0 : Nat} {a1 : Int32} (h : V_X7_figures K M a0 a1) : MC G mi_X7_figures [.ref a0, .int a1] M K := by
  unfold V_X7_figures at h
  refine mc_of rfl (by decide +kernel) dc_X7_figures (Nat.le_of_ble_eq_true rfl) 2 (Nat.le_of_ble_eq_true rfl) ?_
  show E G mi_X7_figures K M 0 0 0 [some (.ref a0), some (.int a1), none, none] []
  refine e_blk 5 0 _ _ (pc' := 5) (L' := [some (.ref a0), some (.int a1), some (.int (0 : Int32)), some (.int (0 : Int32))]) (st' := [.ref a0]) rfl ?_
  obtain ⟨ho1, h⟩ := h
  refine e_callV (As := []) (rest := []) (ci := 7) rfl (x_X7_isFigure h) ho1 rfl rfl rfl (aw (i := 1393) (by decide +kernel) rfl) wn_X7_isFigure wv_X7_isFigure wi_X7_isFigure wc_X7_isFigure (show cok mi_X7_figures mi_X7_isFigure 0 0 0 = true by decide +kernel) (Nat.le_of_ble_eq_true rfl) (fun v9 M2 hq => ?_) (fun X M9 hq => False.elim hq)
  obtain ⟨r3, rfl, h⟩ := kI_l hq
  refine e_if_ne 20 rfl rfl (fun hc => ?_) (fun hc => ?_)
  · replace h := h.1 hc
    refine e_drp [true, true, true, true] (L' := [some (.ref a0), some (.int a1), some (.int (0 : Int32)), some (.int (0 : Int32))]) rfl ?_
    obtain ⟨y, h⟩ := h
    exact x_X7_figures_20  y _ _ _ _ _ h
  · replace h := h.2 hc
    refine e_blk 3 11 _ _ (pc' := 14) (L' := [some (.ref a0), some (.int a1), some (.int (0 : Int32)), some (.int (0 : Int32))]) (st' := [.ref a0, .int (1 : Int32), .ref a0]) rfl ?_
    obtain ⟨ho4, h⟩ := h
    refine e_getI 7 12 rfl rfl (by decide) (aw (i := 1077) (by decide +kernel) rfl) ho4 rfl ?_
    refine e_callV (As := [.int (1 : Int32), .int (mI M2 a0 12)]) (rest := []) (ci := 7) rfl (x_X7_fail h) ho4 rfl rfl rfl (aw (i := 1357) (by decide +kernel) rfl) wn_X7_fail wv_X7_fail wi_X7_fail wc_X7_fail (show cok mi_X7_figures mi_X7_fail 0 0 2 = true by decide +kernel) (Nat.le_of_ble_eq_true rfl) (fun v9 M5 hq => ?_) (fun X M9 hq => False.elim hq)
    obtain ⟨rfl, h⟩ := kV_l hq
    refine e_drp [true, true, true, true] (L' := [some (.ref a0), some (.int a1), some (.int (0 : Int32)), some (.int (0 : Int32))]) rfl ?_
    obtain ⟨y, h⟩ := h
    exact x_X7_figures_20  y _ _ _ _ _ h
def V_X7_bounded_40 (K : Rs → Mm → Prop)  (M : Mm) (l5 : Int32) : Prop := K (.inl (some (.int l5))) M
set_option maxRecDepth 100000 in
set_option maxHeartbeats 4000000 in
theorem x_X7_bounded_40 {G : Gx} {K : Rs → Mm → Prop}  {M : Mm} {l5 : Int32} (h : V_X7_bounded_40 K  M l5) : E G mi_X7_bounded K M 0 0 40 [none, none, none, none, none, some (.int l5)] [] := by
  unfold V_X7_bounded_40 at h
  refine e_blk 1 40 _ _ (pc' := 42) (L' := [none, none, none, none, none, some (.int l5)]) (st' := [.int l5]) rfl ?_
  exact e_reti rfl rfl (by decide) (by decide) h
def V_X7_bounded (K : Rs → Mm → Prop) (M : Mm) (a0 : Nat) (a1 : Int32) (a2 : Int32) (a3 : Int32) : Prop := (ob M a0 7 ∧ ∀ x2 : Int32, x2 = (mI M a0 12) → V_X7_figures (kI (fun r4 M3 => (ob M3 a0 7 ∧ ((¬ (mI M3 a0 13) = 0 → V_X7_bounded_40 K  M3 r4) ∧ ((mI M3 a0 13) = 0 → V_X7_in (kI (fun r7 M6 => ((¬ r7 = 0 → V_X7_bounded_40 K  M6 r4) ∧ (r7 = 0 → (ob M6 a0 7 ∧ V_X7_fail (kV (fun M9 => V_X7_bounded_40 K  M9 r4) (fun _ _ => False)) M6 a0 (2 : Int32) x2)))) (fun _ _ => False)) M3 ((r4).toInt64) ((a2).toInt64) ((a3).toInt64))))) (fun _ _ => False)) M a0 a1)
set_option maxRecDepth 100000 in
set_option maxHeartbeats 4000000 in
theorem x_X7_bounded {G : Gx} {K : Rs → Mm → Prop} {M : Mm} {a0 : Nat} {a1 : Int32} {a2 : Int32} {a3 : Int32} (h : V_X7_bounded K M a0 a1 a2 a3) : MC G mi_X7_bounded [.ref a0, .int a1, .int a2, .int a3] M K := by
  unfold V_X7_bounded at h
  refine mc_of rfl (by decide +kernel) dc_X7_bounded (Nat.le_of_ble_eq_true rfl) 2 (Nat.le_of_ble_eq_true rfl) ?_
  show E G mi_X7_bounded K M 0 0 0 [some (.ref a0), some (.int a1), some (.int a2), some (.int a3), none, none] []
  refine e_blk 1 0 _ _ (pc' := 1) (L' := [some (.ref a0), some (.int a1), some (.int a2), some (.int a3), none, none]) (st' := [.ref a0]) rfl ?_
  obtain ⟨ho1, h⟩ := h
  refine e_getI 7 12 rfl rfl (by decide) (aw (i := 1077) (by decide +kernel) rfl) ho1 rfl ?_
  refine e_blk 3 4 _ _ (pc' := 8) (L' := [some (.ref a0), some (.int a1), some (.int a2), some (.int a3), some (.int (mI M a0 12)), none]) (st' := [.int a1, .ref a0]) rfl ?_
  generalize hx_x2 : ((mI M a0 12) : Int32) = x2
  replace h := h x2 hx_x2.symm
  refine e_callV (As := [.int a1]) (rest := []) (ci := 7) rfl (x_X7_figures h) ho1 rfl rfl rfl (aw (i := 1389) (by decide +kernel) rfl) wn_X7_figures wv_X7_figures wi_X7_figures wc_X7_figures (show cok mi_X7_bounded mi_X7_figures 0 0 1 = true by decide +kernel) (Nat.le_of_ble_eq_true rfl) (fun v9 M3 hq => ?_) (fun X M9 hq => False.elim hq)
  obtain ⟨r4, rfl, h⟩ := kI_l hq
  refine e_blk 2 11 _ _ (pc' := 14) (L' := [some (.ref a0), some (.int a1), some (.int a2), some (.int a3), some (.int x2), some (.int r4)]) (st' := [.ref a0]) rfl ?_
  obtain ⟨ho5, h⟩ := h
  refine e_getI 7 13 rfl rfl (by decide) (aw (i := 1078) (by decide +kernel) rfl) ho5 rfl ?_
  refine e_if_ne 40 rfl rfl (fun hc => ?_) (fun hc => ?_)
  · replace h := h.1 hc
    refine e_drp [false, false, false, false, false, true] (L' := [none, none, none, none, none, some (.int r4)]) rfl ?_
    exact x_X7_bounded_40  h
  · replace h := h.2 hc
    refine e_blk 6 20 _ _ (pc' := 27) (L' := [some (.ref a0), some (.int a1), some (.int a2), some (.int a3), some (.int x2), some (.int r4)]) (st' := [.long ((a3).toInt64), .long ((a2).toInt64), .long ((r4).toInt64)]) rfl ?_
    refine e_callS (As := [.long ((r4).toInt64), .long ((a2).toInt64), .long ((a3).toInt64)]) (rest := []) rfl (x_X7_in h) rfl (aw (i := 1256) (by decide +kernel) rfl) ws_X7_in wi_X7_in wc_X7_in (show cok mi_X7_bounded mi_X7_in 0 0 3 = true by decide +kernel) (Nat.le_of_ble_eq_true rfl) (fun v9 M6 hq => ?_) (fun X M9 hq => False.elim hq)
    obtain ⟨r7, rfl, h⟩ := kI_l hq
    refine e_if_ne 40 rfl rfl (fun hc => ?_) (fun hc => ?_)
    · replace h := h.1 hc
      refine e_drp [false, false, false, false, false, true] (L' := [none, none, none, none, none, some (.int r4)]) rfl ?_
      exact x_X7_bounded_40  h
    · replace h := h.2 hc
      refine e_blk 3 33 _ _ (pc' := 37) (L' := [some (.ref a0), some (.int a1), some (.int a2), some (.int a3), some (.int x2), some (.int r4)]) (st' := [.int x2, .int (2 : Int32), .ref a0]) rfl ?_
      obtain ⟨ho8, h⟩ := h
      refine e_callV (As := [.int (2 : Int32), .int x2]) (rest := []) (ci := 7) rfl (x_X7_fail h) ho8 rfl rfl rfl (aw (i := 1357) (by decide +kernel) rfl) wn_X7_fail wv_X7_fail wi_X7_fail wc_X7_fail (show cok mi_X7_bounded mi_X7_fail 0 0 2 = true by decide +kernel) (Nat.le_of_ble_eq_true rfl) (fun v9 M9 hq => ?_) (fun X M9 hq => False.elim hq)
      obtain ⟨rfl, h⟩ := kV_l hq
      refine e_drp [false, false, false, false, false, true] (L' := [none, none, none, none, none, some (.int r4)]) rfl ?_
      exact x_X7_bounded_40  h
def V_X7_least_26 (K : Rs → Mm → Prop)  (M : Mm) (s0 : Int32) : Prop := K (.inl (some (.int s0))) M
set_option maxRecDepth 100000 in
set_option maxHeartbeats 4000000 in
theorem x_X7_least_26 {G : Gx} {K : Rs → Mm → Prop}  {M : Mm} {s0 : Int32} (h : V_X7_least_26 K  M s0) : E G mi_X7_least K M 0 0 26 [none] [.int s0] := by
  unfold V_X7_least_26 at h
  exact e_reti rfl rfl (by decide) (by decide) h
def V_X7_least_10 (K : Rs → Mm → Prop)  (M : Mm)  : Prop := V_X7_least_26 K  M (1 : Int32)
set_option maxRecDepth 100000 in
set_option maxHeartbeats 4000000 in
theorem x_X7_least_10 {G : Gx} {K : Rs → Mm → Prop}  {M : Mm}  (h : V_X7_least_10 K  M ) : E G mi_X7_least K M 0 0 10 [none] [] := by
  unfold V_X7_least_10 at h
  refine e_blk 2 10 _ _ (pc' := 26) (L' := [none]) (st' := [.int (1 : Int32)]) rfl ?_
  refine e_drp [false] (L' := [none]) rfl ?_
  exact x_X7_least_26  h
def V_X7_least (K : Rs → Mm → Prop) (M : Mm) (a0 : Int32) : Prop := ((a0 = (2 : Int32) → V_X7_least_10 K  M ) ∧ (¬ a0 = (2 : Int32) → ((¬ a0 = (3 : Int32) → ((¬ a0 = (5 : Int32) → V_X7_least_26 K  M (0 : Int32)) ∧ (a0 = (5 : Int32) → V_X7_least_26 K  M (1900 : Int32)))) ∧ (a0 = (3 : Int32) → V_X7_least_10 K  M ))))
set_option maxRecDepth 100000 in
set_option maxHeartbeats 4000000 in
theorem x_X7_least {G : Gx} {K : Rs → Mm → Prop} {M : Mm} {a0 : Int32} (h : V_X7_least K M a0) : MC G mi_X7_least [.int a0] M K := by
  unfold V_X7_least at h
  refine mc_of rfl (by decide +kernel) dc_X7_least (Nat.le_of_ble_eq_true rfl) 0 (Nat.le_of_ble_eq_true rfl) ?_
  show E G mi_X7_least K M 0 0 0 [some (.int a0)] []
  refine e_blk 2 0 _ _ (pc' := 2) (L' := [some (.int a0)]) (st' := [.int (2 : Int32), .int a0]) rfl ?_
  refine e_icmp_eq 10 rfl rfl (fun hc => ?_) (fun hc => ?_)
  · replace h := h.1 hc
    refine e_drp [false] (L' := [none]) rfl ?_
    exact x_X7_least_10  h
  · replace h := h.2 hc
    refine e_blk 2 5 _ _ (pc' := 7) (L' := [some (.int a0)]) (st' := [.int (3 : Int32), .int a0]) rfl ?_
    refine e_icmp_ne 14 rfl rfl (fun hc => ?_) (fun hc => ?_)
    · replace h := h.1 hc
      refine e_blk 2 14 _ _ (pc' := 16) (L' := [some (.int a0)]) (st' := [.int (5 : Int32), .int a0]) rfl ?_
      refine e_icmp_ne 25 rfl rfl (fun hc => ?_) (fun hc => ?_)
      · replace h := h.1 hc
        refine e_blk 1 25 _ _ (pc' := 26) (L' := [some (.int a0)]) (st' := [.int (0 : Int32)]) rfl ?_
        refine e_drp [false] (L' := [none]) rfl ?_
        exact x_X7_least_26  h
      · replace h := h.2 hc
        refine e_blk 2 19 _ _ (pc' := 26) (L' := [some (.int a0)]) (st' := [.int (1900 : Int32)]) rfl ?_
        refine e_drp [false] (L' := [none]) rfl ?_
        exact x_X7_least_26  h
    · replace h := h.2 hc
      refine e_drp [false] (L' := [none]) rfl ?_
      exact x_X7_least_10  h
def V_X7_greatest_52 (K : Rs → Mm → Prop)  (M : Mm) (s0 : Int32) : Prop := K (.inl (some (.int s0))) M
set_option maxRecDepth 100000 in
set_option maxHeartbeats 4000000 in
theorem x_X7_greatest_52 {G : Gx} {K : Rs → Mm → Prop}  {M : Mm} {s0 : Int32} (h : V_X7_greatest_52 K  M s0) : E G mi_X7_greatest K M 0 0 52 [none] [.int s0] := by
  unfold V_X7_greatest_52 at h
  exact e_reti rfl rfl (by decide) (by decide) h
def V_X7_greatest (K : Rs → Mm → Prop) (M : Mm) (a0 : Int32) : Prop := ((¬ a0 = 0 → ((¬ a0 = (1 : Int32) → ((¬ a0 = (2 : Int32) → ((¬ a0 = (3 : Int32) → ((¬ a0 = (4 : Int32) → V_X7_greatest_52 K  M (2199 : Int32)) ∧ (a0 = (4 : Int32) → V_X7_greatest_52 K  M (7 : Int32)))) ∧ (a0 = (3 : Int32) → V_X7_greatest_52 K  M (12 : Int32)))) ∧ (a0 = (2 : Int32) → V_X7_greatest_52 K  M (31 : Int32)))) ∧ (a0 = (1 : Int32) → V_X7_greatest_52 K  M (23 : Int32)))) ∧ (a0 = 0 → V_X7_greatest_52 K  M (59 : Int32)))
set_option maxRecDepth 100000 in
set_option maxHeartbeats 4000000 in
theorem x_X7_greatest {G : Gx} {K : Rs → Mm → Prop} {M : Mm} {a0 : Int32} (h : V_X7_greatest K M a0) : MC G mi_X7_greatest [.int a0] M K := by
  unfold V_X7_greatest at h
  refine mc_of rfl (by decide +kernel) dc_X7_greatest (Nat.le_of_ble_eq_true rfl) 0 (Nat.le_of_ble_eq_true rfl) ?_
  show E G mi_X7_greatest K M 0 0 0 [some (.int a0)] []
  refine e_blk 1 0 _ _ (pc' := 1) (L' := [some (.int a0)]) (st' := [.int a0]) rfl ?_
  refine e_if_ne 9 rfl rfl (fun hc => ?_) (fun hc => ?_)
  · replace h := h.1 hc
    refine e_blk 2 9 _ _ (pc' := 11) (L' := [some (.int a0)]) (st' := [.int (1 : Int32), .int a0]) rfl ?_
    refine e_icmp_ne 19 rfl rfl (fun hc => ?_) (fun hc => ?_)
    · replace h := h.1 hc
      refine e_blk 2 19 _ _ (pc' := 21) (L' := [some (.int a0)]) (st' := [.int (2 : Int32), .int a0]) rfl ?_
      refine e_icmp_ne 29 rfl rfl (fun hc => ?_) (fun hc => ?_)
      · replace h := h.1 hc
        refine e_blk 2 29 _ _ (pc' := 31) (L' := [some (.int a0)]) (st' := [.int (3 : Int32), .int a0]) rfl ?_
        refine e_icmp_ne 39 rfl rfl (fun hc => ?_) (fun hc => ?_)
        · replace h := h.1 hc
          refine e_blk 2 39 _ _ (pc' := 41) (L' := [some (.int a0)]) (st' := [.int (4 : Int32), .int a0]) rfl ?_
          refine e_icmp_ne 49 rfl rfl (fun hc => ?_) (fun hc => ?_)
          · replace h := h.1 hc
            refine e_blk 1 49 _ _ (pc' := 52) (L' := [some (.int a0)]) (st' := [.int (2199 : Int32)]) rfl ?_
            refine e_drp [false] (L' := [none]) rfl ?_
            exact x_X7_greatest_52  h
          · replace h := h.2 hc
            refine e_blk 2 44 _ _ (pc' := 52) (L' := [some (.int a0)]) (st' := [.int (7 : Int32)]) rfl ?_
            refine e_drp [false] (L' := [none]) rfl ?_
            exact x_X7_greatest_52  h
        · replace h := h.2 hc
          refine e_blk 2 34 _ _ (pc' := 52) (L' := [some (.int a0)]) (st' := [.int (12 : Int32)]) rfl ?_
          refine e_drp [false] (L' := [none]) rfl ?_
          exact x_X7_greatest_52  h
      · replace h := h.2 hc
        refine e_blk 2 24 _ _ (pc' := 52) (L' := [some (.int a0)]) (st' := [.int (31 : Int32)]) rfl ?_
        refine e_drp [false] (L' := [none]) rfl ?_
        exact x_X7_greatest_52  h
    · replace h := h.2 hc
      refine e_blk 2 14 _ _ (pc' := 52) (L' := [some (.int a0)]) (st' := [.int (23 : Int32)]) rfl ?_
      refine e_drp [false] (L' := [none]) rfl ?_
      exact x_X7_greatest_52  h
  · replace h := h.2 hc
    refine e_blk 2 4 _ _ (pc' := 52) (L' := [some (.int a0)]) (st' := [.int (59 : Int32)]) rfl ?_
    refine e_drp [false] (L' := [none]) rfl ?_
    exact x_X7_greatest_52  h
def V_X7_mark_46 (K : Rs → Mm → Prop)  (M : Mm)  : Prop := K (.inl none) M
set_option maxRecDepth 100000 in
set_option maxHeartbeats 4000000 in
theorem x_X7_mark_46 {G : Gx} {K : Rs → Mm → Prop}  {M : Mm}  (h : V_X7_mark_46 K  M ) : E G mi_X7_mark K M 0 0 46 [none, none, none] [] := by
  unfold V_X7_mark_46 at h
  exact e_ret rfl rfl (by decide) (by decide) h
def V_X7_mark_43 (K : Rs → Mm → Prop)  (M : Mm) (s0 : Nat) (s1 : Int32) (s2 : Int64) (s3 : Int64) (s4 : Int32) : Prop := (ob M s0 10 ∧ (vp_in s1 (mN M s0) ∧ ∀ M3, M3 = sJ M s0 (s1).toNatClampNeg (s2 ||| (s3 <<< ((s4).toInt64 &&& 63))) → V_X7_mark_46 K  M3 ))
set_option maxRecDepth 100000 in
set_option maxHeartbeats 4000000 in
theorem x_X7_mark_43 {G : Gx} {K : Rs → Mm → Prop}  {M : Mm} {s0 : Nat} {s1 : Int32} {s2 : Int64} {s3 : Int64} {s4 : Int32} (h : V_X7_mark_43 K  M s0 s1 s2 s3 s4) : E G mi_X7_mark K M 0 0 43 [none, none, none] [.int s4, .long s3, .long s2, .int s1, .ref s0] := by
  unfold V_X7_mark_43 at h
  refine e_blk 2 43 _ _ (pc' := 45) (L' := [none, none, none]) (st' := [.long (s2 ||| (s3 <<< ((s4).toInt64 &&& 63))), .int s1, .ref s0]) rfl ?_
  obtain ⟨ho1, h⟩ := h
  obtain ⟨hi2, h⟩ := h
  refine e_last rfl ho1 hi2 ?_
  generalize hM3 : sJ M s0 (s1).toNatClampNeg (s2 ||| (s3 <<< ((s4).toInt64 &&& 63))) = M3
  replace h := h M3 hM3.symm
  replace ho1 : ob M3 s0 10 := hM3 ▸ ob_sJ ho1
  refine e_drp [false, false, false] (L' := [none, none, none]) rfl ?_
  exact x_X7_mark_46  h
def V_X7_mark_42 (K : Rs → Mm → Prop)  (M : Mm) (l2 : Int32) (s0 : Nat) (s1 : Int32) (s2 : Int64) (s3 : Int64) : Prop := V_X7_mark_43 K  M s0 s1 s2 s3 l2
set_option maxRecDepth 100000 in
set_option maxHeartbeats 4000000 in
theorem x_X7_mark_42 {G : Gx} {K : Rs → Mm → Prop}  {M : Mm} {l2 : Int32} {s0 : Nat} {s1 : Int32} {s2 : Int64} {s3 : Int64} (h : V_X7_mark_42 K  M l2 s0 s1 s2 s3) : E G mi_X7_mark K M 0 0 42 [none, none, some (.int l2)] [.long s3, .long s2, .int s1, .ref s0] := by
  unfold V_X7_mark_42 at h
  refine e_blk 1 42 _ _ (pc' := 43) (L' := [none, none, some (.int l2)]) (st' := [.int l2, .long s3, .long s2, .int s1, .ref s0]) rfl ?_
  refine e_drp [false, false, false] (L' := [none, none, none]) rfl ?_
  exact x_X7_mark_43  h
def V_X7_mark (K : Rs → Mm → Prop) (M : Mm) (a0 : Nat) (a1 : Int32) (a2 : Int32) : Prop := ((¬ a1 = (5 : Int32) → (ob M a0 7 ∧ ∃ b2, mP M a0 16 = some b2 ∧ (ob M b2 10 ∧ (vp_in a1 (mN M b2) ∧ ((¬ a1 = (4 : Int32) → V_X7_mark_42 K  M a2 b2 a1 (mJ M b2 (a1).toNatClampNeg) (1 : Int64)) ∧ (a1 = (4 : Int32) → ((¬ a2 = (7 : Int32) → V_X7_mark_42 K  M a2 b2 a1 (mJ M b2 (a1).toNatClampNeg) (1 : Int64)) ∧ (a2 = (7 : Int32) → V_X7_mark_43 K  M b2 a1 (mJ M b2 (a1).toNatClampNeg) (1 : Int64) (0 : Int32))))))))) ∧ (a1 = (5 : Int32) → (ob M a0 7 ∧ ∃ b6, mP M a0 17 = some b6 ∧ (ob M b6 11 ∧ (vp_in (a2 - (1900 : Int32)) (mN M b6) ∧ ∀ M9, M9 = sI M b6 ((a2 - (1900 : Int32))).toNatClampNeg (vp_nar .boolean (1 : Int32)) → V_X7_mark_46 K  M9 )))))
set_option maxRecDepth 100000 in
set_option maxHeartbeats 4000000 in
theorem x_X7_mark {G : Gx} {K : Rs → Mm → Prop} {M : Mm} {a0 : Nat} {a1 : Int32} {a2 : Int32} (h : V_X7_mark K M a0 a1 a2) : MC G mi_X7_mark [.ref a0, .int a1, .int a2] M K := by
  unfold V_X7_mark at h
  refine mc_of rfl (by decide +kernel) dc_X7_mark (Nat.le_of_ble_eq_true rfl) 0 (Nat.le_of_ble_eq_true rfl) ?_
  show E G mi_X7_mark K M 0 0 0 [some (.ref a0), some (.int a1), some (.int a2)] []
  refine e_blk 2 0 _ _ (pc' := 2) (L' := [some (.ref a0), some (.int a1), some (.int a2)]) (st' := [.int (5 : Int32), .int a1]) rfl ?_
  refine e_icmp_ne 19 rfl rfl (fun hc => ?_) (fun hc => ?_)
  · replace h := h.1 hc
    refine e_blk 1 19 _ _ (pc' := 20) (L' := [some (.ref a0), some (.int a1), some (.int a2)]) (st' := [.ref a0]) rfl ?_
    obtain ⟨ho1, h⟩ := h
    obtain ⟨b2, hbb2, h⟩ := h
    refine e_getR 7 16 rfl rfl (by decide) (aw (i := 1081) (by decide +kernel) rfl) ho1 rfl hbb2 ?_
    refine e_blk 2 23 _ _ (pc' := 25) (L' := [some (.ref a0), some (.int a1), some (.int a2)]) (st' := [.int a1, .ref b2, .int a1, .ref b2]) rfl ?_
    obtain ⟨ho3, h⟩ := h
    obtain ⟨hi4, h⟩ := h
    refine e_lald rfl ho3 hi4 ?_
    refine e_blk 3 26 _ _ (pc' := 29) (L' := [some (.ref a0), some (.int a1), some (.int a2)]) (st' := [.int (4 : Int32), .int a1, .long (1 : Int64), .long (mJ M b2 (a1).toNatClampNeg), .int a1, .ref b2]) rfl ?_
    refine e_icmp_ne 42 rfl rfl (fun hc => ?_) (fun hc => ?_)
    · replace h := h.1 hc
      refine e_drp [false, false, true] (L' := [none, none, some (.int a2)]) rfl ?_
      exact x_X7_mark_42  h
    · replace h := h.2 hc
      refine e_blk 2 32 _ _ (pc' := 35) (L' := [some (.ref a0), some (.int a1), some (.int a2)]) (st' := [.int (7 : Int32), .int a2, .long (1 : Int64), .long (mJ M b2 (a1).toNatClampNeg), .int a1, .ref b2]) rfl ?_
      refine e_icmp_ne 42 rfl rfl (fun hc => ?_) (fun hc => ?_)
      · replace h := h.1 hc
        refine e_drp [false, false, true] (L' := [none, none, some (.int a2)]) rfl ?_
        exact x_X7_mark_42  h
      · replace h := h.2 hc
        refine e_blk 2 38 _ _ (pc' := 43) (L' := [some (.ref a0), some (.int a1), some (.int a2)]) (st' := [.int (0 : Int32), .long (1 : Int64), .long (mJ M b2 (a1).toNatClampNeg), .int a1, .ref b2]) rfl ?_
        refine e_drp [false, false, false] (L' := [none, none, none]) rfl ?_
        exact x_X7_mark_43  h
  · replace h := h.2 hc
    refine e_blk 1 5 _ _ (pc' := 6) (L' := [some (.ref a0), some (.int a1), some (.int a2)]) (st' := [.ref a0]) rfl ?_
    obtain ⟨ho5, h⟩ := h
    obtain ⟨b6, hbb6, h⟩ := h
    refine e_getR 7 17 rfl rfl (by decide) (aw (i := 1082) (by decide +kernel) rfl) ho5 rfl hbb6 ?_
    refine e_blk 4 9 _ _ (pc' := 15) (L' := [some (.ref a0), some (.int a1), some (.int a2)]) (st' := [.int (1 : Int32), .int (a2 - (1900 : Int32)), .ref b6]) rfl ?_
    obtain ⟨ho7, h⟩ := h
    obtain ⟨hi8, h⟩ := h
    refine e_zast rfl ho7 hi8 ?_
    generalize hM9 : sI M b6 ((a2 - (1900 : Int32))).toNatClampNeg (vp_nar .boolean (1 : Int32)) = M9
    replace h := h M9 hM9.symm
    replace ho5 : ob M9 a0 7 := hM9 ▸ ob_sI ho5
    replace ho7 : ob M9 b6 11 := hM9 ▸ ob_sI ho7
    refine e_blk 1 16 _ _ (pc' := 46) (L' := [some (.ref a0), some (.int a1), some (.int a2)]) (st' := []) rfl ?_
    refine e_drp [false, false, false] (L' := [none, none, none]) rfl ?_
    exact x_X7_mark_46  h
def V_X7_range_3 (K : Rs → Mm → Prop)  : Nat → Mm → Nat → Int32 → Int32 → Int32 → Int32 → Prop
  | 0, _, _, _, _, _, _ => False
  | z + 1, M, l0, l1, l3, l4, l5 => ((l3 < l5 → K (.inl none) M) ∧ (¬ l3 < l5 → (ob M l0 7 ∧ V_X7_mark (kV (fun M2 => ∀ x3 : Int32, x3 = (l5 + l4) → V_X7_range_3 K  z M2 l0 l1 l3 l4 x3) (fun _ _ => False)) M l0 l1 l5)))
set_option maxRecDepth 100000 in
set_option maxHeartbeats 4000000 in
theorem x_X7_range_3 {G : Gx} {K : Rs → Mm → Prop}  : ∀ (z : Nat) (M : Mm) (l0 : Nat) (l1 : Int32) (l3 : Int32) (l4 : Int32) (l5 : Int32), V_X7_range_3 K  z M l0 l1 l3 l4 l5 → E G mi_X7_range K M 0 0 3 [some (.ref l0), some (.int l1), none, some (.int l3), some (.int l4), some (.int l5)] []
  | 0, M, l0, l1, l3, l4, l5, h => False.elim h
  | z + 1, M, l0, l1, l3, l4, l5, h => by
    unfold V_X7_range_3 at h
    refine e_blk 2 3 _ _ (pc' := 6) (L' := [some (.ref l0), some (.int l1), none, some (.int l3), some (.int l4), some (.int l5)]) (st' := [.int l3, .int l5]) rfl ?_
    refine e_icmp_gt 26 rfl rfl (fun hc => ?_) (fun hc => ?_)
    · replace h := h.1 hc
      exact e_ret rfl rfl (by decide) (by decide) h
    · replace h := h.2 hc
      refine e_blk 3 9 _ _ (pc' := 13) (L' := [some (.ref l0), some (.int l1), none, some (.int l3), some (.int l4), some (.int l5)]) (st' := [.int l5, .int l1, .ref l0]) rfl ?_
      obtain ⟨ho1, h⟩ := h
      refine e_callV (As := [.int l1, .int l5]) (rest := []) (ci := 7) rfl (x_X7_mark h) ho1 rfl rfl rfl (aw (i := 1369) (by decide +kernel) rfl) wn_X7_mark wv_X7_mark wi_X7_mark wc_X7_mark (show cok mi_X7_range mi_X7_mark 0 0 2 = true by decide +kernel) (Nat.le_of_ble_eq_true rfl) (fun v9 M2 hq => ?_) (fun X M9 hq => False.elim hq)
      obtain ⟨rfl, h⟩ := kV_l hq
      refine e_blk 5 16 _ _ (pc' := 3) (L' := [some (.ref l0), some (.int l1), none, some (.int l3), some (.int l4), some (.int (l5 + l4))]) (st' := []) rfl ?_
      generalize hx_x3 : ((l5 + l4) : Int32) = x3
      replace h := h x3 hx_x3.symm
      refine e_drp [true, true, false, true, true, true] (L' := [some (.ref l0), some (.int l1), none, some (.int l3), some (.int l4), some (.int x3)]) rfl ?_
      exact x_X7_range_3  z _ _ _ _ _ _ h
def V_X7_range (K : Rs → Mm → Prop) (M : Mm) (a0 : Nat) (a1 : Int32) (a2 : Int32) (a3 : Int32) (a4 : Int32) : Prop := ∃ y, V_X7_range_3 K  y M a0 a1 a3 a4 a2
set_option maxRecDepth 100000 in
set_option maxHeartbeats 4000000 in
theorem x_X7_range {G : Gx} {K : Rs → Mm → Prop} {M : Mm} {a0 : Nat} {a1 : Int32} {a2 : Int32} {a3 : Int32} {a4 : Int32} (h : V_X7_range K M a0 a1 a2 a3 a4) : MC G mi_X7_range [.ref a0, .int a1, .int a2, .int a3, .int a4] M K := by
  unfold V_X7_range at h
  refine mc_of rfl (by decide +kernel) dc_X7_range (Nat.le_of_ble_eq_true rfl) 1 (Nat.le_of_ble_eq_true rfl) ?_
  show E G mi_X7_range K M 0 0 0 [some (.ref a0), some (.int a1), some (.int a2), some (.int a3), some (.int a4), none] []
  refine e_blk 2 0 _ _ (pc' := 3) (L' := [some (.ref a0), some (.int a1), some (.int a2), some (.int a3), some (.int a4), some (.int a2)]) (st' := []) rfl ?_
  refine e_drp [true, true, false, true, true, true] (L' := [some (.ref a0), some (.int a1), none, some (.int a3), some (.int a4), some (.int a2)]) rfl ?_
  obtain ⟨y, h⟩ := h
  exact x_X7_range_3  y _ _ _ _ _ _ h
def V_X7_step (K : Rs → Mm → Prop) (M : Mm) (a0 : Nat) : Prop := (ob M a0 7 ∧ V_X7_sign (kI (fun r3 M2 => ((r3 = (47 : Int32) → (ob M2 a0 7 ∧ ∀ M5, M5 = sI M2 a0 12 ((mI M2 a0 12) + (1 : Int32)) → V_X7_bounded (kI (fun r7 M6 => K (.inl (some (.int r7))) M6) (fun _ _ => False)) M5 a0 (4 : Int32) (1 : Int32) (1000 : Int32))) ∧ (¬ r3 = (47 : Int32) → K (.inl (some (.int (1 : Int32)))) M2))) (fun _ _ => False)) M a0)
set_option maxRecDepth 100000 in
set_option maxHeartbeats 4000000 in
theorem x_X7_step {G : Gx} {K : Rs → Mm → Prop} {M : Mm} {a0 : Nat} (h : V_X7_step K M a0) : MC G mi_X7_step [.ref a0] M K := by
  unfold V_X7_step at h
  refine mc_of rfl (by decide +kernel) dc_X7_step (Nat.le_of_ble_eq_true rfl) 0 (Nat.le_of_ble_eq_true rfl) ?_
  show E G mi_X7_step K M 0 0 0 [some (.ref a0)] []
  refine e_blk 1 0 _ _ (pc' := 1) (L' := [some (.ref a0)]) (st' := [.ref a0]) rfl ?_
  obtain ⟨ho1, h⟩ := h
  refine e_callV (As := []) (rest := []) (ci := 7) rfl (x_X7_sign h) ho1 rfl rfl rfl (aw (i := 1343) (by decide +kernel) rfl) wn_X7_sign wv_X7_sign wi_X7_sign wc_X7_sign (show cok mi_X7_step mi_X7_sign 0 0 0 = true by decide +kernel) (Nat.le_of_ble_eq_true rfl) (fun v9 M2 hq => ?_) (fun X M9 hq => False.elim hq)
  obtain ⟨r3, rfl, h⟩ := kI_l hq
  refine e_blk 1 4 _ _ (pc' := 6) (L' := [some (.ref a0)]) (st' := [.int (47 : Int32), .int r3]) rfl ?_
  refine e_icmp_eq 11 rfl rfl (fun hc => ?_) (fun hc => ?_)
  · replace h := h.1 hc
    refine e_blk 2 11 _ _ (pc' := 13) (L' := [some (.ref a0)]) (st' := [.ref a0, .ref a0]) rfl ?_
    obtain ⟨ho4, h⟩ := h
    refine e_getI 7 12 rfl rfl (by decide) (aw (i := 1077) (by decide +kernel) rfl) ho4 rfl ?_
    refine e_blk 2 16 _ _ (pc' := 18) (L' := [some (.ref a0)]) (st' := [.int ((mI M2 a0 12) + (1 : Int32)), .ref a0]) rfl ?_
    refine e_putI 7 12 rfl rfl (by decide) (aw (i := 1077) (by decide +kernel) rfl) rfl ho4 rfl ?_
    generalize hM5 : sI M2 a0 12 ((mI M2 a0 12) + (1 : Int32)) = M5
    replace h := h M5 hM5.symm
    replace ho4 : ob M5 a0 7 := hM5 ▸ ob_sI ho4
    refine e_blk 4 21 _ _ (pc' := 27) (L' := [some (.ref a0)]) (st' := [.int (1000 : Int32), .int (1 : Int32), .int (4 : Int32), .ref a0]) rfl ?_
    refine e_callV (As := [.int (4 : Int32), .int (1 : Int32), .int (1000 : Int32)]) (rest := []) (ci := 7) rfl (x_X7_bounded h) ho4 rfl rfl rfl (aw (i := 1385) (by decide +kernel) rfl) wn_X7_bounded wv_X7_bounded wi_X7_bounded wc_X7_bounded (show cok mi_X7_step mi_X7_bounded 0 0 3 = true by decide +kernel) (Nat.le_of_ble_eq_true rfl) (fun v9 M6 hq => ?_) (fun X M9 hq => False.elim hq)
    obtain ⟨r7, rfl, h⟩ := kI_l hq
    exact e_reti rfl rfl (by decide) (by decide) h
  · replace h := h.2 hc
    refine e_blk 1 9 _ _ (pc' := 10) (L' := [some (.ref a0)]) (st' := [.int (1 : Int32)]) rfl ?_
    exact e_reti rfl rfl (by decide) (by decide) h
def V_X7_lastDay_91 (K : Rs → Mm → Prop)  (M : Mm)  : Prop := K (.inl none) M
set_option maxRecDepth 100000 in
set_option maxHeartbeats 4000000 in
theorem x_X7_lastDay_91 {G : Gx} {K : Rs → Mm → Prop}  {M : Mm}  (h : V_X7_lastDay_91 K  M ) : E G mi_X7_lastDay K M 0 0 91 [none, none] [] := by
  unfold V_X7_lastDay_91 at h
  exact e_ret rfl rfl (by decide) (by decide) h
def V_X7_lastDay_74 (K : Rs → Mm → Prop)  (M : Mm) (s0 : Nat) (s1 : Int64) (s2 : Int64) : Prop := (ob M s0 7 ∧ ∀ M2, M2 = sJ M s0 19 (s1 ||| s2) → V_X7_lastDay_91 K  M2 )
set_option maxRecDepth 100000 in
set_option maxHeartbeats 4000000 in
theorem x_X7_lastDay_74 {G : Gx} {K : Rs → Mm → Prop}  {M : Mm} {s0 : Nat} {s1 : Int64} {s2 : Int64} (h : V_X7_lastDay_74 K  M s0 s1 s2) : E G mi_X7_lastDay K M 0 0 74 [none, none] [.long s2, .long s1, .ref s0] := by
  unfold V_X7_lastDay_74 at h
  refine e_blk 1 74 _ _ (pc' := 75) (L' := [none, none]) (st' := [.long (s1 ||| s2), .ref s0]) rfl ?_
  obtain ⟨ho1, h⟩ := h
  refine e_putJ 7 19 rfl rfl (by decide) (aw (i := 1084) (by decide +kernel) rfl) rfl ho1 rfl ?_
  generalize hM2 : sJ M s0 19 (s1 ||| s2) = M2
  replace h := h M2 hM2.symm
  replace ho1 : ob M2 s0 7 := hM2 ▸ ob_sJ ho1
  refine e_blk 1 78 _ _ (pc' := 91) (L' := [none, none]) (st' := []) rfl ?_
  refine e_drp [false, false] (L' := [none, none]) rfl ?_
  exact x_X7_lastDay_91  h
def V_X7_lastDay (K : Rs → Mm → Prop) (M : Mm) (a0 : Nat) : Prop := (ob M a0 7 ∧ V_X7_sign (kI (fun r3 M2 => ((¬ r3 = (87 : Int32) → (ob M2 a0 7 ∧ V_X7_sign (kI (fun r6 M5 => ((¬ r6 = (45 : Int32) → (ob M5 a0 7 ∧ ∀ M8, M8 = sJ M5 a0 19 ((mJ M5 a0 19) ||| (1 : Int64)) → V_X7_lastDay_91 K  M8 )) ∧ (r6 = (45 : Int32) → (ob M5 a0 7 ∧ ∀ M10, M10 = sI M5 a0 12 ((mI M5 a0 12) + (1 : Int32)) → V_X7_bounded (kI (fun r12 M11 => (ob M11 a0 7 ∧ ((¬ (mI M11 a0 13) = 0 → V_X7_lastDay_74 K  M11 a0 (mJ M11 a0 19) (0 : Int64)) ∧ ((mI M11 a0 13) = 0 → V_X7_lastDay_74 K  M11 a0 (mJ M11 a0 19) ((1 : Int64) <<< ((r12).toInt64 &&& 63)))))) (fun _ _ => False)) M10 a0 (2 : Int32) (1 : Int32) (30 : Int32))))) (fun _ _ => False)) M2 a0)) ∧ (r3 = (87 : Int32) → (ob M2 a0 7 ∧ ∀ M15, M15 = sI M2 a0 12 ((mI M2 a0 12) + (1 : Int32)) → ∀ M16, M16 = sI M15 a0 20 (1 : Int32) → V_X7_lastDay_91 K  M16 )))) (fun _ _ => False)) M a0)
set_option maxRecDepth 100000 in
set_option maxHeartbeats 4000000 in
theorem x_X7_lastDay {G : Gx} {K : Rs → Mm → Prop} {M : Mm} {a0 : Nat} (h : V_X7_lastDay K M a0) : MC G mi_X7_lastDay [.ref a0] M K := by
  unfold V_X7_lastDay at h
  refine mc_of rfl (by decide +kernel) dc_X7_lastDay (Nat.le_of_ble_eq_true rfl) 1 (Nat.le_of_ble_eq_true rfl) ?_
  show E G mi_X7_lastDay K M 0 0 0 [some (.ref a0), none] []
  refine e_blk 1 0 _ _ (pc' := 1) (L' := [some (.ref a0), none]) (st' := [.ref a0]) rfl ?_
  obtain ⟨ho1, h⟩ := h
  refine e_callV (As := []) (rest := []) (ci := 7) rfl (x_X7_sign h) ho1 rfl rfl rfl (aw (i := 1343) (by decide +kernel) rfl) wn_X7_sign wv_X7_sign wi_X7_sign wc_X7_sign (show cok mi_X7_lastDay mi_X7_sign 0 0 0 = true by decide +kernel) (Nat.le_of_ble_eq_true rfl) (fun v9 M2 hq => ?_) (fun X M9 hq => False.elim hq)
  obtain ⟨r3, rfl, h⟩ := kI_l hq
  refine e_blk 1 4 _ _ (pc' := 6) (L' := [some (.ref a0), none]) (st' := [.int (87 : Int32), .int r3]) rfl ?_
  refine e_icmp_ne 27 rfl rfl (fun hc => ?_) (fun hc => ?_)
  · replace h := h.1 hc
    refine e_blk 1 27 _ _ (pc' := 28) (L' := [some (.ref a0), none]) (st' := [.ref a0]) rfl ?_
    obtain ⟨ho4, h⟩ := h
    refine e_callV (As := []) (rest := []) (ci := 7) rfl (x_X7_sign h) ho4 rfl rfl rfl (aw (i := 1343) (by decide +kernel) rfl) wn_X7_sign wv_X7_sign wi_X7_sign wc_X7_sign (show cok mi_X7_lastDay mi_X7_sign 0 0 0 = true by decide +kernel) (Nat.le_of_ble_eq_true rfl) (fun v9 M5 hq => ?_) (fun X M9 hq => False.elim hq)
    obtain ⟨r6, rfl, h⟩ := kI_l hq
    refine e_blk 1 31 _ _ (pc' := 33) (L' := [some (.ref a0), none]) (st' := [.int (45 : Int32), .int r6]) rfl ?_
    refine e_icmp_ne 81 rfl rfl (fun hc => ?_) (fun hc => ?_)
    · replace h := h.1 hc
      refine e_blk 2 81 _ _ (pc' := 83) (L' := [some (.ref a0), none]) (st' := [.ref a0, .ref a0]) rfl ?_
      obtain ⟨ho7, h⟩ := h
      refine e_getJ 7 19 rfl rfl (by decide) (aw (i := 1084) (by decide +kernel) rfl) ho7 rfl ?_
      refine e_blk 2 86 _ _ (pc' := 88) (L' := [some (.ref a0), none]) (st' := [.long ((mJ M5 a0 19) ||| (1 : Int64)), .ref a0]) rfl ?_
      refine e_putJ 7 19 rfl rfl (by decide) (aw (i := 1084) (by decide +kernel) rfl) rfl ho7 rfl ?_
      generalize hM8 : sJ M5 a0 19 ((mJ M5 a0 19) ||| (1 : Int64)) = M8
      replace h := h M8 hM8.symm
      replace ho7 : ob M8 a0 7 := hM8 ▸ ob_sJ ho7
      refine e_drp [false, false] (L' := [none, none]) rfl ?_
      exact x_X7_lastDay_91  h
    · replace h := h.2 hc
      refine e_blk 2 36 _ _ (pc' := 38) (L' := [some (.ref a0), none]) (st' := [.ref a0, .ref a0]) rfl ?_
      obtain ⟨ho9, h⟩ := h
      refine e_getI 7 12 rfl rfl (by decide) (aw (i := 1077) (by decide +kernel) rfl) ho9 rfl ?_
      refine e_blk 2 41 _ _ (pc' := 43) (L' := [some (.ref a0), none]) (st' := [.int ((mI M5 a0 12) + (1 : Int32)), .ref a0]) rfl ?_
      refine e_putI 7 12 rfl rfl (by decide) (aw (i := 1077) (by decide +kernel) rfl) rfl ho9 rfl ?_
      generalize hM10 : sI M5 a0 12 ((mI M5 a0 12) + (1 : Int32)) = M10
      replace h := h M10 hM10.symm
      replace ho9 : ob M10 a0 7 := hM10 ▸ ob_sI ho9
      refine e_blk 4 46 _ _ (pc' := 51) (L' := [some (.ref a0), none]) (st' := [.int (30 : Int32), .int (1 : Int32), .int (2 : Int32), .ref a0]) rfl ?_
      refine e_callV (As := [.int (2 : Int32), .int (1 : Int32), .int (30 : Int32)]) (rest := []) (ci := 7) rfl (x_X7_bounded h) ho9 rfl rfl rfl (aw (i := 1385) (by decide +kernel) rfl) wn_X7_bounded wv_X7_bounded wi_X7_bounded wc_X7_bounded (show cok mi_X7_lastDay mi_X7_bounded 0 0 3 = true by decide +kernel) (Nat.le_of_ble_eq_true rfl) (fun v9 M11 hq => ?_) (fun X M9 hq => False.elim hq)
      obtain ⟨r12, rfl, h⟩ := kI_l hq
      refine e_blk 3 54 _ _ (pc' := 57) (L' := [some (.ref a0), some (.int r12)]) (st' := [.ref a0, .ref a0]) rfl ?_
      obtain ⟨ho13, h⟩ := h
      refine e_getJ 7 19 rfl rfl (by decide) (aw (i := 1084) (by decide +kernel) rfl) ho13 rfl ?_
      refine e_blk 1 60 _ _ (pc' := 61) (L' := [some (.ref a0), some (.int r12)]) (st' := [.ref a0, .long (mJ M11 a0 19), .ref a0]) rfl ?_
      refine e_getI 7 13 rfl rfl (by decide) (aw (i := 1078) (by decide +kernel) rfl) ho13 rfl ?_
      refine e_if_ne 73 rfl rfl (fun hc => ?_) (fun hc => ?_)
      · replace h := h.1 hc
        refine e_blk 1 73 _ _ (pc' := 74) (L' := [some (.ref a0), some (.int r12)]) (st' := [.long (0 : Int64), .long (mJ M11 a0 19), .ref a0]) rfl ?_
        refine e_drp [false, false] (L' := [none, none]) rfl ?_
        exact x_X7_lastDay_74  h
      · replace h := h.2 hc
        refine e_blk 4 67 _ _ (pc' := 74) (L' := [some (.ref a0), some (.int r12)]) (st' := [.long ((1 : Int64) <<< ((r12).toInt64 &&& 63)), .long (mJ M11 a0 19), .ref a0]) rfl ?_
        refine e_drp [false, false] (L' := [none, none]) rfl ?_
        exact x_X7_lastDay_74  h
  · replace h := h.2 hc
    refine e_blk 2 9 _ _ (pc' := 11) (L' := [some (.ref a0), none]) (st' := [.ref a0, .ref a0]) rfl ?_
    obtain ⟨ho14, h⟩ := h
    refine e_getI 7 12 rfl rfl (by decide) (aw (i := 1077) (by decide +kernel) rfl) ho14 rfl ?_
    refine e_blk 2 14 _ _ (pc' := 16) (L' := [some (.ref a0), none]) (st' := [.int ((mI M2 a0 12) + (1 : Int32)), .ref a0]) rfl ?_
    refine e_putI 7 12 rfl rfl (by decide) (aw (i := 1077) (by decide +kernel) rfl) rfl ho14 rfl ?_
    generalize hM15 : sI M2 a0 12 ((mI M2 a0 12) + (1 : Int32)) = M15
    replace h := h M15 hM15.symm
    replace ho14 : ob M15 a0 7 := hM15 ▸ ob_sI ho14
    refine e_blk 2 19 _ _ (pc' := 21) (L' := [some (.ref a0), none]) (st' := [.int (1 : Int32), .ref a0]) rfl ?_
    refine e_putZ 7 20 rfl rfl (by decide) (aw (i := 1085) (by decide +kernel) rfl) rfl ho14 rfl (by decide) ?_
    generalize hM16 : sI M15 a0 20 (1 : Int32) = M16
    replace h := h M16 hM16.symm
    replace ho14 : ob M16 a0 7 := hM16 ▸ ob_sI ho14
    refine e_blk 1 24 _ _ (pc' := 91) (L' := [some (.ref a0), none]) (st' := []) rfl ?_
    refine e_drp [false, false] (L' := [none, none]) rfl ?_
    exact x_X7_lastDay_91  h
def V_X7_word_5 (K : Rs → Mm → Prop)  : Nat → Mm → Nat → Int64 → Int32 → Prop
  | 0, _, _, _, _ => False
  | z + 1, M, l0, l1, l4 => ((l4 < 0 → K (.inl (some (.int (1 : Int32)))) M) ∧ (¬ l4 < 0 → (ob M l0 7 ∧ V_X7_sign (kI (fun r3 M2 => (((lg_cmp ((r3).toInt64) ((l1 >>> ((((8 : Int32) * l4)).toInt64 &&& 63)) &&& (255 : Int64))) = 0 → (ob M2 l0 7 ∧ ∀ M5, M5 = sI M2 l0 12 ((mI M2 l0 12) + (1 : Int32)) → ∀ x6 : Int32, x6 = (l4 + (-1 : Int32)) → V_X7_word_5 K  z M5 l0 l1 x6)) ∧ (¬ (lg_cmp ((r3).toInt64) ((l1 >>> ((((8 : Int32) * l4)).toInt64 &&& 63)) &&& (255 : Int64))) = 0 → (ob M2 l0 7 ∧ V_X7_fail (kV (fun M8 => K (.inl (some (.int (0 : Int32)))) M8) (fun _ _ => False)) M2 l0 (1 : Int32) (mI M2 l0 12))))) (fun _ _ => False)) M l0)))
set_option maxRecDepth 100000 in
set_option maxHeartbeats 4000000 in
theorem x_X7_word_5 {G : Gx} {K : Rs → Mm → Prop}  : ∀ (z : Nat) (M : Mm) (l0 : Nat) (l1 : Int64) (l4 : Int32), V_X7_word_5 K  z M l0 l1 l4 → E G mi_X7_word K M 0 0 5 [some (.ref l0), some (.long l1), none, none, some (.int l4)] []
  | 0, M, l0, l1, l4, h => False.elim h
  | z + 1, M, l0, l1, l4, h => by
    unfold V_X7_word_5 at h
    refine e_blk 1 5 _ _ (pc' := 7) (L' := [some (.ref l0), some (.long l1), none, none, some (.int l4)]) (st' := [.int l4]) rfl ?_
    refine e_if_lt 57 rfl rfl (fun hc => ?_) (fun hc => ?_)
    · replace h := h.1 hc
      refine e_blk 1 57 _ _ (pc' := 58) (L' := [some (.ref l0), some (.long l1), none, none, some (.int l4)]) (st' := [.int (1 : Int32)]) rfl ?_
      exact e_retz rfl rfl (by decide) (by decide) (by decide) h
    · replace h := h.2 hc
      refine e_blk 1 10 _ _ (pc' := 11) (L' := [some (.ref l0), some (.long l1), none, none, some (.int l4)]) (st' := [.ref l0]) rfl ?_
      obtain ⟨ho1, h⟩ := h
      refine e_callV (As := []) (rest := []) (ci := 7) rfl (x_X7_sign h) ho1 rfl rfl rfl (aw (i := 1343) (by decide +kernel) rfl) wn_X7_sign wv_X7_sign wi_X7_sign wc_X7_sign (show cok mi_X7_word mi_X7_sign 0 0 0 = true by decide +kernel) (Nat.le_of_ble_eq_true rfl) (fun v9 M2 hq => ?_) (fun X M9 hq => False.elim hq)
      obtain ⟨r3, rfl, h⟩ := kI_l hq
      refine e_blk 6 14 _ _ (pc' := 22) (L' := [some (.ref l0), some (.long l1), none, none, some (.int l4)]) (st' := [.long (l1 >>> ((((8 : Int32) * l4)).toInt64 &&& 63)), .long ((r3).toInt64)]) rfl ?_
      refine e_ldc2 (255) rfl (aw (i := 1356) (by decide +kernel) rfl) ?_
      refine e_blk 2 25 _ _ (pc' := 27) (L' := [some (.ref l0), some (.long l1), none, none, some (.int l4)]) (st' := [.int (lg_cmp ((r3).toInt64) ((l1 >>> ((((8 : Int32) * l4)).toInt64 &&& 63)) &&& (255 : Int64)))]) rfl ?_
      refine e_if_eq 41 rfl rfl (fun hc => ?_) (fun hc => ?_)
      · replace h := h.1 hc
        refine e_blk 2 41 _ _ (pc' := 43) (L' := [some (.ref l0), some (.long l1), none, none, some (.int l4)]) (st' := [.ref l0, .ref l0]) rfl ?_
        obtain ⟨ho4, h⟩ := h
        refine e_getI 7 12 rfl rfl (by decide) (aw (i := 1077) (by decide +kernel) rfl) ho4 rfl ?_
        refine e_blk 2 46 _ _ (pc' := 48) (L' := [some (.ref l0), some (.long l1), none, none, some (.int l4)]) (st' := [.int ((mI M2 l0 12) + (1 : Int32)), .ref l0]) rfl ?_
        refine e_putI 7 12 rfl rfl (by decide) (aw (i := 1077) (by decide +kernel) rfl) rfl ho4 rfl ?_
        generalize hM5 : sI M2 l0 12 ((mI M2 l0 12) + (1 : Int32)) = M5
        replace h := h M5 hM5.symm
        replace ho4 : ob M5 l0 7 := hM5 ▸ ob_sI ho4
        refine e_blk 2 51 _ _ (pc' := 5) (L' := [some (.ref l0), some (.long l1), none, none, some (.int (l4 + (-1 : Int32)))]) (st' := []) rfl ?_
        generalize hx_x6 : ((l4 + (-1 : Int32)) : Int32) = x6
        replace h := h x6 hx_x6.symm
        refine e_drp [true, true, false, false, true] (L' := [some (.ref l0), some (.long l1), none, none, some (.int x6)]) rfl ?_
        exact x_X7_word_5  z _ _ _ _ h
      · replace h := h.2 hc
        refine e_blk 3 30 _ _ (pc' := 33) (L' := [some (.ref l0), some (.long l1), none, none, some (.int l4)]) (st' := [.ref l0, .int (1 : Int32), .ref l0]) rfl ?_
        obtain ⟨ho7, h⟩ := h
        refine e_getI 7 12 rfl rfl (by decide) (aw (i := 1077) (by decide +kernel) rfl) ho7 rfl ?_
        refine e_callV (As := [.int (1 : Int32), .int (mI M2 l0 12)]) (rest := []) (ci := 7) rfl (x_X7_fail h) ho7 rfl rfl rfl (aw (i := 1357) (by decide +kernel) rfl) wn_X7_fail wv_X7_fail wi_X7_fail wc_X7_fail (show cok mi_X7_word mi_X7_fail 0 0 2 = true by decide +kernel) (Nat.le_of_ble_eq_true rfl) (fun v9 M8 hq => ?_) (fun X M9 hq => False.elim hq)
        obtain ⟨rfl, h⟩ := kV_l hq
        refine e_blk 1 39 _ _ (pc' := 40) (L' := [some (.ref l0), some (.long l1), none, none, some (.int l4)]) (st' := [.int (0 : Int32)]) rfl ?_
        exact e_retz rfl rfl (by decide) (by decide) (by decide) h
def V_X7_word (K : Rs → Mm → Prop) (M : Mm) (a0 : Nat) (a1 : Int64) (a2 : Int32) : Prop := ∀ x1 : Int32, x1 = (a2 - (1 : Int32)) → ∃ y, V_X7_word_5 K  y M a0 a1 x1
set_option maxRecDepth 100000 in
set_option maxHeartbeats 4000000 in
theorem x_X7_word {G : Gx} {K : Rs → Mm → Prop} {M : Mm} {a0 : Nat} {a1 : Int64} {a2 : Int32} (h : V_X7_word K M a0 a1 a2) : MC G mi_X7_word [.ref a0, .long a1, .int a2] M K := by
  unfold V_X7_word at h
  refine mc_of rfl (by decide +kernel) dc_X7_word (Nat.le_of_ble_eq_true rfl) 1 (Nat.le_of_ble_eq_true rfl) ?_
  show E G mi_X7_word K M 0 0 0 [some (.ref a0), some (.long a1), none, some (.int a2), none] []
  refine e_blk 4 0 _ _ (pc' := 5) (L' := [some (.ref a0), some (.long a1), none, some (.int a2), some (.int (a2 - (1 : Int32)))]) (st' := []) rfl ?_
  generalize hx_x1 : ((a2 - (1 : Int32)) : Int32) = x1
  replace h := h x1 hx_x1.symm
  refine e_drp [true, true, false, false, true] (L' := [some (.ref a0), some (.long a1), none, none, some (.int x1)]) rfl ?_
  obtain ⟨y, h⟩ := h
  exact x_X7_word_5  y _ _ _ _ h
def V_X7_short0_246 (K : Rs → Mm → Prop)  (M : Mm) (s0 : Nat) (s1 : Int32) : Prop := (ob M s0 7 ∧ ((s1 = 0 ∨ s1 = 1) ∧ ∀ M3, M3 = sI M s0 25 s1 → K (.inl none) M3))
set_option maxRecDepth 100000 in
set_option maxHeartbeats 4000000 in
theorem x_X7_short0_246 {G : Gx} {K : Rs → Mm → Prop}  {M : Mm} {s0 : Nat} {s1 : Int32} (h : V_X7_short0_246 K  M s0 s1) : E G mi_X7_short0 K M 0 0 246 [none, none, none] [.int s1, .ref s0] := by
  unfold V_X7_short0_246 at h
  obtain ⟨ho1, h⟩ := h
  obtain ⟨hz2, h⟩ := h
  refine e_putZ 7 25 rfl rfl (by decide) (aw (i := 1090) (by decide +kernel) rfl) rfl ho1 rfl hz2 ?_
  generalize hM3 : sI M s0 25 s1 = M3
  replace h := h M3 hM3.symm
  replace ho1 : ob M3 s0 7 := hM3 ▸ ob_sI ho1
  exact e_ret rfl rfl (by decide) (by decide) h
def V_X7_short0_231 (K : Rs → Mm → Prop)  (M : Mm) (l0 : Nat) (l1 : Int32) (s0 : Nat) (s1 : Int32) : Prop := (ob M s0 7 ∧ ((s1 = 0 ∨ s1 = 1) ∧ ∀ M3, M3 = sI M s0 24 s1 → ((l1 = (119 : Int32) → V_X7_short0_246 K  M3 l0 (0 : Int32)) ∧ (¬ l1 = (119 : Int32) → V_X7_short0_246 K  M3 l0 (1 : Int32)))))
set_option maxRecDepth 100000 in
set_option maxHeartbeats 4000000 in
theorem x_X7_short0_231 {G : Gx} {K : Rs → Mm → Prop}  {M : Mm} {l0 : Nat} {l1 : Int32} {s0 : Nat} {s1 : Int32} (h : V_X7_short0_231 K  M l0 l1 s0 s1) : E G mi_X7_short0 K M 0 0 231 [some (.ref l0), some (.int l1), none] [.int s1, .ref s0] := by
  unfold V_X7_short0_231 at h
  obtain ⟨ho1, h⟩ := h
  obtain ⟨hz2, h⟩ := h
  refine e_putZ 7 24 rfl rfl (by decide) (aw (i := 1089) (by decide +kernel) rfl) rfl ho1 rfl hz2 ?_
  generalize hM3 : sI M s0 24 s1 = M3
  replace h := h M3 hM3.symm
  replace ho1 : ob M3 s0 7 := hM3 ▸ ob_sI ho1
  refine e_blk 3 234 _ _ (pc' := 238) (L' := [some (.ref l0), some (.int l1), none]) (st' := [.int (119 : Int32), .int l1, .ref l0]) rfl ?_
  refine e_icmp_eq 245 rfl rfl (fun hc => ?_) (fun hc => ?_)
  · replace h := h.1 hc
    refine e_blk 1 245 _ _ (pc' := 246) (L' := [some (.ref l0), some (.int l1), none]) (st' := [.int (0 : Int32), .ref l0]) rfl ?_
    refine e_drp [false, false, false] (L' := [none, none, none]) rfl ?_
    exact x_X7_short0_246  h
  · replace h := h.2 hc
    refine e_blk 2 241 _ _ (pc' := 246) (L' := [some (.ref l0), some (.int l1), none]) (st' := [.int (1 : Int32), .ref l0]) rfl ?_
    refine e_drp [false, false, false] (L' := [none, none, none]) rfl ?_
    exact x_X7_short0_246  h
def V_X7_short0_230 (K : Rs → Mm → Prop)  (M : Mm) (l0 : Nat) (l1 : Int32) (s0 : Nat) : Prop := V_X7_short0_231 K  M l0 l1 s0 (0 : Int32)
set_option maxRecDepth 100000 in
set_option maxHeartbeats 4000000 in
theorem x_X7_short0_230 {G : Gx} {K : Rs → Mm → Prop}  {M : Mm} {l0 : Nat} {l1 : Int32} {s0 : Nat} (h : V_X7_short0_230 K  M l0 l1 s0) : E G mi_X7_short0 K M 0 0 230 [some (.ref l0), some (.int l1), none] [.ref s0] := by
  unfold V_X7_short0_230 at h
  refine e_blk 1 230 _ _ (pc' := 231) (L' := [some (.ref l0), some (.int l1), none]) (st' := [.int (0 : Int32), .ref s0]) rfl ?_
  refine e_drp [true, true, false] (L' := [some (.ref l0), some (.int l1), none]) rfl ?_
  exact x_X7_short0_231  h
def V_X7_short0_209 (K : Rs → Mm → Prop)  (M : Mm) (l0 : Nat) (l1 : Int32) (s0 : Nat) (s1 : Int32) (s2 : Int32) (s3 : Int32) : Prop := (ob M s0 7 ∧ V_X7_range (kV (fun M2 => ((l1 = (109 : Int32) → V_X7_short0_230 K  M2 l0 l1 l0) ∧ (¬ l1 = (109 : Int32) → ((l1 = (121 : Int32) → V_X7_short0_230 K  M2 l0 l1 l0) ∧ (¬ l1 = (121 : Int32) → V_X7_short0_231 K  M2 l0 l1 l0 (1 : Int32)))))) (fun _ _ => False)) M s0 s1 s2 s3 (1 : Int32))
set_option maxRecDepth 100000 in
set_option maxHeartbeats 4000000 in
theorem x_X7_short0_209 {G : Gx} {K : Rs → Mm → Prop}  {M : Mm} {l0 : Nat} {l1 : Int32} {s0 : Nat} {s1 : Int32} {s2 : Int32} {s3 : Int32} (h : V_X7_short0_209 K  M l0 l1 s0 s1 s2 s3) : E G mi_X7_short0 K M 0 0 209 [some (.ref l0), some (.int l1), none] [.int s3, .int s2, .int s1, .ref s0] := by
  unfold V_X7_short0_209 at h
  refine e_blk 1 209 _ _ (pc' := 210) (L' := [some (.ref l0), some (.int l1), none]) (st' := [.int (1 : Int32), .int s3, .int s2, .int s1, .ref s0]) rfl ?_
  obtain ⟨ho1, h⟩ := h
  refine e_callV (As := [.int s1, .int s2, .int s3, .int (1 : Int32)]) (rest := []) (ci := 7) rfl (x_X7_range h) ho1 rfl rfl rfl (aw (i := 1365) (by decide +kernel) rfl) wn_X7_range wv_X7_range wi_X7_range wc_X7_range (show cok mi_X7_short0 mi_X7_range 0 0 4 = true by decide +kernel) (Nat.le_of_ble_eq_true rfl) (fun v9 M2 hq => ?_) (fun X M9 hq => False.elim hq)
  obtain ⟨rfl, h⟩ := kV_l hq
  refine e_blk 3 213 _ _ (pc' := 217) (L' := [some (.ref l0), some (.int l1), none]) (st' := [.int (109 : Int32), .int l1, .ref l0]) rfl ?_
  refine e_icmp_eq 230 rfl rfl (fun hc => ?_) (fun hc => ?_)
  · replace h := h.1 hc
    refine e_drp [true, true, false] (L' := [some (.ref l0), some (.int l1), none]) rfl ?_
    exact x_X7_short0_230  h
  · replace h := h.2 hc
    refine e_blk 2 220 _ _ (pc' := 223) (L' := [some (.ref l0), some (.int l1), none]) (st' := [.int (121 : Int32), .int l1, .ref l0]) rfl ?_
    refine e_icmp_eq 230 rfl rfl (fun hc => ?_) (fun hc => ?_)
    · replace h := h.1 hc
      refine e_drp [true, true, false] (L' := [some (.ref l0), some (.int l1), none]) rfl ?_
      exact x_X7_short0_230  h
    · replace h := h.2 hc
      refine e_blk 2 226 _ _ (pc' := 231) (L' := [some (.ref l0), some (.int l1), none]) (st' := [.int (1 : Int32), .ref l0]) rfl ?_
      refine e_drp [true, true, false] (L' := [some (.ref l0), some (.int l1), none]) rfl ?_
      exact x_X7_short0_231  h
def V_X7_short0_190 (K : Rs → Mm → Prop)  (M : Mm) (l0 : Nat) (l1 : Int32) (s0 : Nat) (s1 : Int32) (s2 : Int32) (s3 : Int32) : Prop := (ob M s0 7 ∧ V_X7_range (kV (fun M2 => ((¬ l1 = (119 : Int32) → V_X7_short0_209 K  M2 l0 l1 l0 (4 : Int32) (0 : Int32) (6 : Int32)) ∧ (l1 = (119 : Int32) → V_X7_short0_209 K  M2 l0 l1 l0 (4 : Int32) (0 : Int32) (0 : Int32)))) (fun _ _ => False)) M s0 s1 s2 s3 (1 : Int32))
set_option maxRecDepth 100000 in
set_option maxHeartbeats 4000000 in
theorem x_X7_short0_190 {G : Gx} {K : Rs → Mm → Prop}  {M : Mm} {l0 : Nat} {l1 : Int32} {s0 : Nat} {s1 : Int32} {s2 : Int32} {s3 : Int32} (h : V_X7_short0_190 K  M l0 l1 s0 s1 s2 s3) : E G mi_X7_short0 K M 0 0 190 [some (.ref l0), some (.int l1), none] [.int s3, .int s2, .int s1, .ref s0] := by
  unfold V_X7_short0_190 at h
  refine e_blk 1 190 _ _ (pc' := 191) (L' := [some (.ref l0), some (.int l1), none]) (st' := [.int (1 : Int32), .int s3, .int s2, .int s1, .ref s0]) rfl ?_
  obtain ⟨ho1, h⟩ := h
  refine e_callV (As := [.int s1, .int s2, .int s3, .int (1 : Int32)]) (rest := []) (ci := 7) rfl (x_X7_range h) ho1 rfl rfl rfl (aw (i := 1365) (by decide +kernel) rfl) wn_X7_range wv_X7_range wi_X7_range wc_X7_range (show cok mi_X7_short0 mi_X7_range 0 0 4 = true by decide +kernel) (Nat.le_of_ble_eq_true rfl) (fun v9 M2 hq => ?_) (fun X M9 hq => False.elim hq)
  obtain ⟨rfl, h⟩ := kV_l hq
  refine e_blk 5 194 _ _ (pc' := 200) (L' := [some (.ref l0), some (.int l1), none]) (st' := [.int (119 : Int32), .int l1, .int (0 : Int32), .int (4 : Int32), .ref l0]) rfl ?_
  refine e_icmp_ne 207 rfl rfl (fun hc => ?_) (fun hc => ?_)
  · replace h := h.1 hc
    refine e_blk 1 207 _ _ (pc' := 209) (L' := [some (.ref l0), some (.int l1), none]) (st' := [.int (6 : Int32), .int (0 : Int32), .int (4 : Int32), .ref l0]) rfl ?_
    refine e_drp [true, true, false] (L' := [some (.ref l0), some (.int l1), none]) rfl ?_
    exact x_X7_short0_209  h
  · replace h := h.2 hc
    refine e_blk 2 203 _ _ (pc' := 209) (L' := [some (.ref l0), some (.int l1), none]) (st' := [.int (0 : Int32), .int (0 : Int32), .int (4 : Int32), .ref l0]) rfl ?_
    refine e_drp [true, true, false] (L' := [some (.ref l0), some (.int l1), none]) rfl ?_
    exact x_X7_short0_209  h
def V_X7_short0_171 (K : Rs → Mm → Prop)  (M : Mm) (l0 : Nat) (l1 : Int32) (s0 : Nat) (s1 : Int32) (s2 : Int32) (s3 : Int32) : Prop := (ob M s0 7 ∧ V_X7_range (kV (fun M2 => ((¬ l1 = (121 : Int32) → V_X7_short0_190 K  M2 l0 l1 l0 (3 : Int32) (1 : Int32) (12 : Int32)) ∧ (l1 = (121 : Int32) → V_X7_short0_190 K  M2 l0 l1 l0 (3 : Int32) (1 : Int32) (1 : Int32)))) (fun _ _ => False)) M s0 s1 s2 s3 (1 : Int32))
set_option maxRecDepth 100000 in
set_option maxHeartbeats 4000000 in
theorem x_X7_short0_171 {G : Gx} {K : Rs → Mm → Prop}  {M : Mm} {l0 : Nat} {l1 : Int32} {s0 : Nat} {s1 : Int32} {s2 : Int32} {s3 : Int32} (h : V_X7_short0_171 K  M l0 l1 s0 s1 s2 s3) : E G mi_X7_short0 K M 0 0 171 [some (.ref l0), some (.int l1), none] [.int s3, .int s2, .int s1, .ref s0] := by
  unfold V_X7_short0_171 at h
  refine e_blk 1 171 _ _ (pc' := 172) (L' := [some (.ref l0), some (.int l1), none]) (st' := [.int (1 : Int32), .int s3, .int s2, .int s1, .ref s0]) rfl ?_
  obtain ⟨ho1, h⟩ := h
  refine e_callV (As := [.int s1, .int s2, .int s3, .int (1 : Int32)]) (rest := []) (ci := 7) rfl (x_X7_range h) ho1 rfl rfl rfl (aw (i := 1365) (by decide +kernel) rfl) wn_X7_range wv_X7_range wi_X7_range wc_X7_range (show cok mi_X7_short0 mi_X7_range 0 0 4 = true by decide +kernel) (Nat.le_of_ble_eq_true rfl) (fun v9 M2 hq => ?_) (fun X M9 hq => False.elim hq)
  obtain ⟨rfl, h⟩ := kV_l hq
  refine e_blk 5 175 _ _ (pc' := 181) (L' := [some (.ref l0), some (.int l1), none]) (st' := [.int (121 : Int32), .int l1, .int (1 : Int32), .int (3 : Int32), .ref l0]) rfl ?_
  refine e_icmp_ne 188 rfl rfl (fun hc => ?_) (fun hc => ?_)
  · replace h := h.1 hc
    refine e_blk 1 188 _ _ (pc' := 190) (L' := [some (.ref l0), some (.int l1), none]) (st' := [.int (12 : Int32), .int (1 : Int32), .int (3 : Int32), .ref l0]) rfl ?_
    refine e_drp [true, true, false] (L' := [some (.ref l0), some (.int l1), none]) rfl ?_
    exact x_X7_short0_190  h
  · replace h := h.2 hc
    refine e_blk 2 184 _ _ (pc' := 190) (L' := [some (.ref l0), some (.int l1), none]) (st' := [.int (1 : Int32), .int (1 : Int32), .int (3 : Int32), .ref l0]) rfl ?_
    refine e_drp [true, true, false] (L' := [some (.ref l0), some (.int l1), none]) rfl ?_
    exact x_X7_short0_190  h
def V_X7_short0_165 (K : Rs → Mm → Prop)  (M : Mm) (l0 : Nat) (l1 : Int32) (s0 : Nat) (s1 : Int32) (s2 : Int32) : Prop := V_X7_short0_171 K  M l0 l1 s0 s1 s2 (1 : Int32)
set_option maxRecDepth 100000 in
set_option maxHeartbeats 4000000 in
theorem x_X7_short0_165 {G : Gx} {K : Rs → Mm → Prop}  {M : Mm} {l0 : Nat} {l1 : Int32} {s0 : Nat} {s1 : Int32} {s2 : Int32} (h : V_X7_short0_165 K  M l0 l1 s0 s1 s2) : E G mi_X7_short0 K M 0 0 165 [some (.ref l0), some (.int l1), none] [.int s2, .int s1, .ref s0] := by
  unfold V_X7_short0_165 at h
  refine e_blk 2 165 _ _ (pc' := 171) (L' := [some (.ref l0), some (.int l1), none]) (st' := [.int (1 : Int32), .int s2, .int s1, .ref s0]) rfl ?_
  refine e_drp [true, true, false] (L' := [some (.ref l0), some (.int l1), none]) rfl ?_
  exact x_X7_short0_171  h
def V_X7_short0_146 (K : Rs → Mm → Prop)  (M : Mm) (l0 : Nat) (l1 : Int32) (s0 : Nat) (s1 : Int32) (s2 : Int32) (s3 : Int32) : Prop := (ob M s0 7 ∧ V_X7_range (kV (fun M2 => ((l1 = (109 : Int32) → V_X7_short0_165 K  M2 l0 l1 l0 (2 : Int32) (1 : Int32)) ∧ (¬ l1 = (109 : Int32) → ((¬ l1 = (121 : Int32) → V_X7_short0_171 K  M2 l0 l1 l0 (2 : Int32) (1 : Int32) (31 : Int32)) ∧ (l1 = (121 : Int32) → V_X7_short0_165 K  M2 l0 l1 l0 (2 : Int32) (1 : Int32)))))) (fun _ _ => False)) M s0 s1 s2 s3 (1 : Int32))
set_option maxRecDepth 100000 in
set_option maxHeartbeats 4000000 in
theorem x_X7_short0_146 {G : Gx} {K : Rs → Mm → Prop}  {M : Mm} {l0 : Nat} {l1 : Int32} {s0 : Nat} {s1 : Int32} {s2 : Int32} {s3 : Int32} (h : V_X7_short0_146 K  M l0 l1 s0 s1 s2 s3) : E G mi_X7_short0 K M 0 0 146 [some (.ref l0), some (.int l1), none] [.int s3, .int s2, .int s1, .ref s0] := by
  unfold V_X7_short0_146 at h
  refine e_blk 1 146 _ _ (pc' := 147) (L' := [some (.ref l0), some (.int l1), none]) (st' := [.int (1 : Int32), .int s3, .int s2, .int s1, .ref s0]) rfl ?_
  obtain ⟨ho1, h⟩ := h
  refine e_callV (As := [.int s1, .int s2, .int s3, .int (1 : Int32)]) (rest := []) (ci := 7) rfl (x_X7_range h) ho1 rfl rfl rfl (aw (i := 1365) (by decide +kernel) rfl) wn_X7_range wv_X7_range wi_X7_range wc_X7_range (show cok mi_X7_short0 mi_X7_range 0 0 4 = true by decide +kernel) (Nat.le_of_ble_eq_true rfl) (fun v9 M2 hq => ?_) (fun X M9 hq => False.elim hq)
  obtain ⟨rfl, h⟩ := kV_l hq
  refine e_blk 5 150 _ _ (pc' := 156) (L' := [some (.ref l0), some (.int l1), none]) (st' := [.int (109 : Int32), .int l1, .int (1 : Int32), .int (2 : Int32), .ref l0]) rfl ?_
  refine e_icmp_eq 165 rfl rfl (fun hc => ?_) (fun hc => ?_)
  · replace h := h.1 hc
    refine e_drp [true, true, false] (L' := [some (.ref l0), some (.int l1), none]) rfl ?_
    exact x_X7_short0_165  h
  · replace h := h.2 hc
    refine e_blk 2 159 _ _ (pc' := 162) (L' := [some (.ref l0), some (.int l1), none]) (st' := [.int (121 : Int32), .int l1, .int (1 : Int32), .int (2 : Int32), .ref l0]) rfl ?_
    refine e_icmp_ne 169 rfl rfl (fun hc => ?_) (fun hc => ?_)
    · replace h := h.1 hc
      refine e_blk 1 169 _ _ (pc' := 171) (L' := [some (.ref l0), some (.int l1), none]) (st' := [.int (31 : Int32), .int (1 : Int32), .int (2 : Int32), .ref l0]) rfl ?_
      refine e_drp [true, true, false] (L' := [some (.ref l0), some (.int l1), none]) rfl ?_
      exact x_X7_short0_171  h
    · replace h := h.2 hc
      refine e_drp [true, true, false] (L' := [some (.ref l0), some (.int l1), none]) rfl ?_
      exact x_X7_short0_165  h
def V_X7_short0_109 (K : Rs → Mm → Prop)  (M : Mm) (l0 : Nat) (l1 : Int32) (s0 : Int32) : Prop := ((¬ s0 = 0 → (ob M l0 7 ∧ ∃ b2, mP M l0 16 = some b2 ∧ (ob M b2 10 ∧ (vp_in (0 : Int32) (mN M b2) ∧ ∀ M5, M5 = sJ M b2 ((0 : Int32)).toNatClampNeg (1 : Int64) → ((¬ l1 = (104 : Int32) → V_X7_short0_146 K  M5 l0 l1 l0 (1 : Int32) (0 : Int32) (0 : Int32)) ∧ (l1 = (104 : Int32) → V_X7_short0_146 K  M5 l0 l1 l0 (1 : Int32) (0 : Int32) (23 : Int32))))))) ∧ (s0 = 0 → (ob M l0 7 ∧ V_X7_fail (kV (fun M7 => K (.inl none) M7) (fun _ _ => False)) M l0 (1 : Int32) (mI M l0 12))))
set_option maxRecDepth 100000 in
set_option maxHeartbeats 4000000 in
theorem x_X7_short0_109 {G : Gx} {K : Rs → Mm → Prop}  {M : Mm} {l0 : Nat} {l1 : Int32} {s0 : Int32} (h : V_X7_short0_109 K  M l0 l1 s0) : E G mi_X7_short0 K M 0 0 109 [some (.ref l0), some (.int l1), none] [.int s0] := by
  unfold V_X7_short0_109 at h
  refine e_blk 2 109 _ _ (pc' := 111) (L' := [some (.ref l0), some (.int l1), some (.int s0)]) (st' := [.int s0]) rfl ?_
  refine e_if_ne 124 rfl rfl (fun hc => ?_) (fun hc => ?_)
  · replace h := h.1 hc
    refine e_blk 1 124 _ _ (pc' := 125) (L' := [some (.ref l0), some (.int l1), some (.int s0)]) (st' := [.ref l0]) rfl ?_
    obtain ⟨ho1, h⟩ := h
    obtain ⟨b2, hbb2, h⟩ := h
    refine e_getR 7 16 rfl rfl (by decide) (aw (i := 1081) (by decide +kernel) rfl) ho1 rfl hbb2 ?_
    refine e_blk 2 128 _ _ (pc' := 130) (L' := [some (.ref l0), some (.int l1), some (.int s0)]) (st' := [.long (1 : Int64), .int (0 : Int32), .ref b2]) rfl ?_
    obtain ⟨ho3, h⟩ := h
    obtain ⟨hi4, h⟩ := h
    refine e_last rfl ho3 hi4 ?_
    generalize hM5 : sJ M b2 ((0 : Int32)).toNatClampNeg (1 : Int64) = M5
    replace h := h M5 hM5.symm
    replace ho1 : ob M5 l0 7 := hM5 ▸ ob_sJ ho1
    replace ho3 : ob M5 b2 10 := hM5 ▸ ob_sJ ho3
    refine e_blk 5 131 _ _ (pc' := 137) (L' := [some (.ref l0), some (.int l1), some (.int s0)]) (st' := [.int (104 : Int32), .int l1, .int (0 : Int32), .int (1 : Int32), .ref l0]) rfl ?_
    refine e_icmp_ne 145 rfl rfl (fun hc => ?_) (fun hc => ?_)
    · replace h := h.1 hc
      refine e_blk 1 145 _ _ (pc' := 146) (L' := [some (.ref l0), some (.int l1), some (.int s0)]) (st' := [.int (0 : Int32), .int (0 : Int32), .int (1 : Int32), .ref l0]) rfl ?_
      refine e_drp [true, true, false] (L' := [some (.ref l0), some (.int l1), none]) rfl ?_
      exact x_X7_short0_146  h
    · replace h := h.2 hc
      refine e_blk 2 140 _ _ (pc' := 146) (L' := [some (.ref l0), some (.int l1), some (.int s0)]) (st' := [.int (23 : Int32), .int (0 : Int32), .int (1 : Int32), .ref l0]) rfl ?_
      refine e_drp [true, true, false] (L' := [some (.ref l0), some (.int l1), none]) rfl ?_
      exact x_X7_short0_146  h
  · replace h := h.2 hc
    refine e_blk 3 114 _ _ (pc' := 117) (L' := [some (.ref l0), some (.int l1), some (.int s0)]) (st' := [.ref l0, .int (1 : Int32), .ref l0]) rfl ?_
    obtain ⟨ho6, h⟩ := h
    refine e_getI 7 12 rfl rfl (by decide) (aw (i := 1077) (by decide +kernel) rfl) ho6 rfl ?_
    refine e_callV (As := [.int (1 : Int32), .int (mI M l0 12)]) (rest := []) (ci := 7) rfl (x_X7_fail h) ho6 rfl rfl rfl (aw (i := 1357) (by decide +kernel) rfl) wn_X7_fail wv_X7_fail wi_X7_fail wc_X7_fail (show cok mi_X7_short0 mi_X7_fail 0 0 2 = true by decide +kernel) (Nat.le_of_ble_eq_true rfl) (fun v9 M7 hq => ?_) (fun X M9 hq => False.elim hq)
    obtain ⟨rfl, h⟩ := kV_l hq
    exact e_ret rfl rfl (by decide) (by decide) h
def V_X7_short0_108 (K : Rs → Mm → Prop)  (M : Mm) (l0 : Nat) (l1 : Int32) : Prop := V_X7_short0_109 K  M l0 l1 (0 : Int32)
set_option maxRecDepth 100000 in
set_option maxHeartbeats 4000000 in
theorem x_X7_short0_108 {G : Gx} {K : Rs → Mm → Prop}  {M : Mm} {l0 : Nat} {l1 : Int32} (h : V_X7_short0_108 K  M l0 l1) : E G mi_X7_short0 K M 0 0 108 [some (.ref l0), some (.int l1), none] [] := by
  unfold V_X7_short0_108 at h
  refine e_blk 1 108 _ _ (pc' := 109) (L' := [some (.ref l0), some (.int l1), none]) (st' := [.int (0 : Int32)]) rfl ?_
  refine e_drp [true, true, false] (L' := [some (.ref l0), some (.int l1), none]) rfl ?_
  exact x_X7_short0_109  h
def V_X7_short0 (K : Rs → Mm → Prop) (M : Mm) (a0 : Nat) : Prop := (ob M a0 7 ∧ ∀ M2, M2 = sI M a0 12 ((mI M a0 12) + (1 : Int32)) → V_X7_sign (kI (fun r4 M3 => ((¬ r4 = (104 : Int32) → ((¬ r4 = (100 : Int32) → ((¬ r4 = (119 : Int32) → ((¬ r4 = (109 : Int32) → ((¬ r4 = (121 : Int32) → V_X7_short0_108 K  M3 a0 r4) ∧ (r4 = (121 : Int32) → (ob M3 a0 7 ∧ V_X7_word (kI (fun r7 M6 => ((r7 = 0 → V_X7_short0_108 K  M6 a0 r4) ∧ (¬ r7 = 0 → V_X7_short0_109 K  M6 a0 r4 (1 : Int32)))) (fun _ _ => False)) M3 a0 (133476333546617 : Int64) (6 : Int32))))) ∧ (r4 = (109 : Int32) → (ob M3 a0 7 ∧ V_X7_word (kI (fun r10 M9 => V_X7_short0_109 K  M9 a0 r4 r10) (fun _ _ => False)) M3 a0 (30803292651547769 : Int64) (7 : Int32))))) ∧ (r4 = (119 : Int32) → (ob M3 a0 7 ∧ V_X7_word (kI (fun r13 M12 => V_X7_short0_109 K  M12 a0 r4 r13) (fun _ _ => False)) M3 a0 (131277376941177 : Int64) (6 : Int32))))) ∧ (r4 = (100 : Int32) → (ob M3 a0 7 ∧ V_X7_word (kI (fun r16 M15 => V_X7_short0_109 K  M15 a0 r4 r16) (fun _ _ => False)) M3 a0 (431131028601 : Int64) (5 : Int32))))) ∧ (r4 = (104 : Int32) → (ob M3 a0 7 ∧ V_X7_word (kI (fun r19 M18 => V_X7_short0_109 K  M18 a0 r4 r19) (fun _ _ => False)) M3 a0 (114827921091705 : Int64) (6 : Int32))))) (fun _ _ => False)) M2 a0)
set_option maxRecDepth 100000 in
set_option maxHeartbeats 4000000 in
theorem x_X7_short0 {G : Gx} {K : Rs → Mm → Prop} {M : Mm} {a0 : Nat} (h : V_X7_short0 K M a0) : MC G mi_X7_short0 [.ref a0] M K := by
  unfold V_X7_short0 at h
  refine mc_of rfl (by decide +kernel) dc_X7_short0 (Nat.le_of_ble_eq_true rfl) 2 (Nat.le_of_ble_eq_true rfl) ?_
  show E G mi_X7_short0 K M 0 0 0 [some (.ref a0), none, none] []
  refine e_blk 2 0 _ _ (pc' := 2) (L' := [some (.ref a0), none, none]) (st' := [.ref a0, .ref a0]) rfl ?_
  obtain ⟨ho1, h⟩ := h
  refine e_getI 7 12 rfl rfl (by decide) (aw (i := 1077) (by decide +kernel) rfl) ho1 rfl ?_
  refine e_blk 2 5 _ _ (pc' := 7) (L' := [some (.ref a0), none, none]) (st' := [.int ((mI M a0 12) + (1 : Int32)), .ref a0]) rfl ?_
  refine e_putI 7 12 rfl rfl (by decide) (aw (i := 1077) (by decide +kernel) rfl) rfl ho1 rfl ?_
  generalize hM2 : sI M a0 12 ((mI M a0 12) + (1 : Int32)) = M2
  replace h := h M2 hM2.symm
  replace ho1 : ob M2 a0 7 := hM2 ▸ ob_sI ho1
  refine e_blk 1 10 _ _ (pc' := 11) (L' := [some (.ref a0), none, none]) (st' := [.ref a0]) rfl ?_
  refine e_callV (As := []) (rest := []) (ci := 7) rfl (x_X7_sign h) ho1 rfl rfl rfl (aw (i := 1343) (by decide +kernel) rfl) wn_X7_sign wv_X7_sign wi_X7_sign wc_X7_sign (show cok mi_X7_short0 mi_X7_sign 0 0 0 = true by decide +kernel) (Nat.le_of_ble_eq_true rfl) (fun v9 M3 hq => ?_) (fun X M9 hq => False.elim hq)
  obtain ⟨r4, rfl, h⟩ := kI_l hq
  refine e_blk 3 14 _ _ (pc' := 18) (L' := [some (.ref a0), some (.int r4), none]) (st' := [.int (104 : Int32), .int r4]) rfl ?_
  refine e_icmp_ne 33 rfl rfl (fun hc => ?_) (fun hc => ?_)
  · replace h := h.1 hc
    refine e_blk 2 33 _ _ (pc' := 36) (L' := [some (.ref a0), some (.int r4), none]) (st' := [.int (100 : Int32), .int r4]) rfl ?_
    refine e_icmp_ne 50 rfl rfl (fun hc => ?_) (fun hc => ?_)
    · replace h := h.1 hc
      refine e_blk 2 50 _ _ (pc' := 53) (L' := [some (.ref a0), some (.int r4), none]) (st' := [.int (119 : Int32), .int r4]) rfl ?_
      refine e_icmp_ne 68 rfl rfl (fun hc => ?_) (fun hc => ?_)
      · replace h := h.1 hc
        refine e_blk 2 68 _ _ (pc' := 71) (L' := [some (.ref a0), some (.int r4), none]) (st' := [.int (109 : Int32), .int r4]) rfl ?_
        refine e_icmp_ne 86 rfl rfl (fun hc => ?_) (fun hc => ?_)
        · replace h := h.1 hc
          refine e_blk 2 86 _ _ (pc' := 89) (L' := [some (.ref a0), some (.int r4), none]) (st' := [.int (121 : Int32), .int r4]) rfl ?_
          refine e_icmp_ne 108 rfl rfl (fun hc => ?_) (fun hc => ?_)
          · replace h := h.1 hc
            refine e_drp [true, true, false] (L' := [some (.ref a0), some (.int r4), none]) rfl ?_
            exact x_X7_short0_108  h
          · replace h := h.2 hc
            refine e_blk 1 92 _ _ (pc' := 93) (L' := [some (.ref a0), some (.int r4), none]) (st' := [.ref a0]) rfl ?_
            refine e_ldc2 (133476333546617) rfl (aw (i := 1364) (by decide +kernel) rfl) ?_
            refine e_blk 1 96 _ _ (pc' := 98) (L' := [some (.ref a0), some (.int r4), none]) (st' := [.int (6 : Int32), .long (133476333546617 : Int64), .ref a0]) rfl ?_
            obtain ⟨ho5, h⟩ := h
            refine e_callV (As := [.long (133476333546617 : Int64), .int (6 : Int32)]) (rest := []) (ci := 7) rfl (x_X7_word h) ho5 rfl rfl rfl (aw (i := 1352) (by decide +kernel) rfl) wn_X7_word wv_X7_word wi_X7_word wc_X7_word (show cok mi_X7_short0 mi_X7_word 0 0 2 = true by decide +kernel) (Nat.le_of_ble_eq_true rfl) (fun v9 M6 hq => ?_) (fun X M9 hq => False.elim hq)
            obtain ⟨r7, rfl, h⟩ := kI_l hq
            refine e_if_eq 108 rfl rfl (fun hc => ?_) (fun hc => ?_)
            · replace h := h.1 hc
              refine e_drp [true, true, false] (L' := [some (.ref a0), some (.int r4), none]) rfl ?_
              exact x_X7_short0_108  h
            · replace h := h.2 hc
              refine e_blk 2 104 _ _ (pc' := 109) (L' := [some (.ref a0), some (.int r4), none]) (st' := [.int (1 : Int32)]) rfl ?_
              refine e_drp [true, true, false] (L' := [some (.ref a0), some (.int r4), none]) rfl ?_
              exact x_X7_short0_109  h
        · replace h := h.2 hc
          refine e_blk 1 74 _ _ (pc' := 75) (L' := [some (.ref a0), some (.int r4), none]) (st' := [.ref a0]) rfl ?_
          refine e_ldc2 (30803292651547769) rfl (aw (i := 1363) (by decide +kernel) rfl) ?_
          refine e_blk 1 78 _ _ (pc' := 80) (L' := [some (.ref a0), some (.int r4), none]) (st' := [.int (7 : Int32), .long (30803292651547769 : Int64), .ref a0]) rfl ?_
          obtain ⟨ho8, h⟩ := h
          refine e_callV (As := [.long (30803292651547769 : Int64), .int (7 : Int32)]) (rest := []) (ci := 7) rfl (x_X7_word h) ho8 rfl rfl rfl (aw (i := 1352) (by decide +kernel) rfl) wn_X7_word wv_X7_word wi_X7_word wc_X7_word (show cok mi_X7_short0 mi_X7_word 0 0 2 = true by decide +kernel) (Nat.le_of_ble_eq_true rfl) (fun v9 M9 hq => ?_) (fun X M9 hq => False.elim hq)
          obtain ⟨r10, rfl, h⟩ := kI_l hq
          refine e_blk 1 83 _ _ (pc' := 109) (L' := [some (.ref a0), some (.int r4), none]) (st' := [.int r10]) rfl ?_
          refine e_drp [true, true, false] (L' := [some (.ref a0), some (.int r4), none]) rfl ?_
          exact x_X7_short0_109  h
      · replace h := h.2 hc
        refine e_blk 1 56 _ _ (pc' := 57) (L' := [some (.ref a0), some (.int r4), none]) (st' := [.ref a0]) rfl ?_
        refine e_ldc2 (131277376941177) rfl (aw (i := 1362) (by decide +kernel) rfl) ?_
        refine e_blk 1 60 _ _ (pc' := 62) (L' := [some (.ref a0), some (.int r4), none]) (st' := [.int (6 : Int32), .long (131277376941177 : Int64), .ref a0]) rfl ?_
        obtain ⟨ho11, h⟩ := h
        refine e_callV (As := [.long (131277376941177 : Int64), .int (6 : Int32)]) (rest := []) (ci := 7) rfl (x_X7_word h) ho11 rfl rfl rfl (aw (i := 1352) (by decide +kernel) rfl) wn_X7_word wv_X7_word wi_X7_word wc_X7_word (show cok mi_X7_short0 mi_X7_word 0 0 2 = true by decide +kernel) (Nat.le_of_ble_eq_true rfl) (fun v9 M12 hq => ?_) (fun X M9 hq => False.elim hq)
        obtain ⟨r13, rfl, h⟩ := kI_l hq
        refine e_blk 1 65 _ _ (pc' := 109) (L' := [some (.ref a0), some (.int r4), none]) (st' := [.int r13]) rfl ?_
        refine e_drp [true, true, false] (L' := [some (.ref a0), some (.int r4), none]) rfl ?_
        exact x_X7_short0_109  h
    · replace h := h.2 hc
      refine e_blk 1 39 _ _ (pc' := 40) (L' := [some (.ref a0), some (.int r4), none]) (st' := [.ref a0]) rfl ?_
      refine e_ldc2 (431131028601) rfl (aw (i := 1361) (by decide +kernel) rfl) ?_
      refine e_blk 1 43 _ _ (pc' := 44) (L' := [some (.ref a0), some (.int r4), none]) (st' := [.int (5 : Int32), .long (431131028601 : Int64), .ref a0]) rfl ?_
      obtain ⟨ho14, h⟩ := h
      refine e_callV (As := [.long (431131028601 : Int64), .int (5 : Int32)]) (rest := []) (ci := 7) rfl (x_X7_word h) ho14 rfl rfl rfl (aw (i := 1352) (by decide +kernel) rfl) wn_X7_word wv_X7_word wi_X7_word wc_X7_word (show cok mi_X7_short0 mi_X7_word 0 0 2 = true by decide +kernel) (Nat.le_of_ble_eq_true rfl) (fun v9 M15 hq => ?_) (fun X M9 hq => False.elim hq)
      obtain ⟨r16, rfl, h⟩ := kI_l hq
      refine e_blk 1 47 _ _ (pc' := 109) (L' := [some (.ref a0), some (.int r4), none]) (st' := [.int r16]) rfl ?_
      refine e_drp [true, true, false] (L' := [some (.ref a0), some (.int r4), none]) rfl ?_
      exact x_X7_short0_109  h
  · replace h := h.2 hc
    refine e_blk 1 21 _ _ (pc' := 22) (L' := [some (.ref a0), some (.int r4), none]) (st' := [.ref a0]) rfl ?_
    refine e_ldc2 (114827921091705) rfl (aw (i := 1351) (by decide +kernel) rfl) ?_
    refine e_blk 1 25 _ _ (pc' := 27) (L' := [some (.ref a0), some (.int r4), none]) (st' := [.int (6 : Int32), .long (114827921091705 : Int64), .ref a0]) rfl ?_
    obtain ⟨ho17, h⟩ := h
    refine e_callV (As := [.long (114827921091705 : Int64), .int (6 : Int32)]) (rest := []) (ci := 7) rfl (x_X7_word h) ho17 rfl rfl rfl (aw (i := 1352) (by decide +kernel) rfl) wn_X7_word wv_X7_word wi_X7_word wc_X7_word (show cok mi_X7_short0 mi_X7_word 0 0 2 = true by decide +kernel) (Nat.le_of_ble_eq_true rfl) (fun v9 M18 hq => ?_) (fun X M9 hq => False.elim hq)
    obtain ⟨r19, rfl, h⟩ := kI_l hq
    refine e_blk 1 30 _ _ (pc' := 109) (L' := [some (.ref a0), some (.int r4), none]) (st' := [.int r19]) rfl ?_
    refine e_drp [true, true, false] (L' := [some (.ref a0), some (.int r4), none]) rfl ?_
    exact x_X7_short0_109  h
def V_X7_fault (K : Rs → Mm → Prop) (M : Mm) (a0 : Nat) : Prop := (ob M a0 7 ∧ ∀ M2, M2 = sI M a0 0 (0 : Int32) → K (.inl (some (.int (mI M2 a0 15)))) M2)
set_option maxRecDepth 100000 in
set_option maxHeartbeats 4000000 in
theorem x_X7_fault {G : Gx} {K : Rs → Mm → Prop} {M : Mm} {a0 : Nat} (h : V_X7_fault K M a0) : MC G mi_X7_fault [.ref a0] M K := by
  unfold V_X7_fault at h
  refine mc_of rfl (by decide +kernel) dc_X7_fault (Nat.le_of_ble_eq_true rfl) 0 (Nat.le_of_ble_eq_true rfl) ?_
  show E G mi_X7_fault K M 0 0 0 [some (.ref a0)] []
  refine e_blk 2 0 _ _ (pc' := 2) (L' := [some (.ref a0)]) (st' := [.int (0 : Int32), .ref a0]) rfl ?_
  obtain ⟨ho1, h⟩ := h
  refine e_putI 7 0 rfl rfl (by decide) (aw (i := 1065) (by decide +kernel) rfl) rfl ho1 rfl ?_
  generalize hM2 : sI M a0 0 (0 : Int32) = M2
  replace h := h M2 hM2.symm
  replace ho1 : ob M2 a0 7 := hM2 ▸ ob_sI ho1
  refine e_blk 1 5 _ _ (pc' := 6) (L' := [some (.ref a0)]) (st' := [.ref a0]) rfl ?_
  refine e_getI 7 15 rfl rfl (by decide) (aw (i := 1080) (by decide +kernel) rfl) ho1 rfl ?_
  exact e_reti rfl rfl (by decide) (by decide) h
