def is_X7_fail : List (Instr × Nat) := [(.aload_n 0, 1), (.getfield 203, 3), (.ifCond .ne 13, 3), (.aload_n 0, 1), (.iload_n 1, 1), (.putfield 203, 3), (.aload_n 0, 1), (.iload_n 2, 1), (.putfield 206, 3), (.return_, 1)]
abbrev mi_X7_fail : MI := (yX7_fail, cX7_fail, 3, none, [], { frames := 0, cells := 0, slots := 0, locals := 0 }, is_X7_fail)
theorem dc_X7_fail : dcb cX7_fail is_X7_fail 0 = true := by decide +kernel
theorem wc_X7_fail : cdw mi_X7_fail ∈ ALLW := aw (i := 1360) (by decide +kernel) rfl
theorem wi_X7_fail : Cond.initialized (miY mi_X7_fail).cls ∈ ALLW := aw (i := 64) (by decide +kernel) rfl
theorem wn_X7_fail : Cond.instanceMethod (miY mi_X7_fail) ∈ ALLW := aw (i := 1359) (by decide +kernel) rfl
theorem wv_X7_fail : Cond.selects (miY mi_X7_fail).cls (miY mi_X7_fail) (miY mi_X7_fail) ∈ ALLW := aw (i := 26) (by decide +kernel) rfl
def is_X7_sign : List (Instr × Nat) := [(.aload_n 0, 1), (.getfield 209, 3), (.aload_n 0, 1), (.getfield 200, 3), (.if_icmp .ge 19, 3), (.aload_n 0, 1), (.getfield 22, 3), (.aload_n 0, 1), (.getfield 209, 3), (.baload, 1), (.sipush 255, 3), (.iand, 1), (.goto 4, 3), (.iconst (-1), 1), (.ireturn, 1)]
abbrev mi_X7_sign : MI := (yX7_sign, cX7_sign, 1, (some .int), [], { frames := 0, cells := 0, slots := 0, locals := 0 }, is_X7_sign)
theorem dc_X7_sign : dcb cX7_sign is_X7_sign 0 = true := by decide +kernel
theorem wc_X7_sign : cdw mi_X7_sign ∈ ALLW := aw (i := 1346) (by decide +kernel) rfl
theorem wi_X7_sign : Cond.initialized (miY mi_X7_sign).cls ∈ ALLW := aw (i := 64) (by decide +kernel) rfl
theorem wn_X7_sign : Cond.instanceMethod (miY mi_X7_sign) ∈ ALLW := aw (i := 1345) (by decide +kernel) rfl
theorem wv_X7_sign : Cond.selects (miY mi_X7_sign).cls (miY mi_X7_sign) (miY mi_X7_sign) ∈ ALLW := aw (i := 23) (by decide +kernel) rfl
def is_X7_isFigure : List (Instr × Nat) := [(.aload_n 0, 1), (.invokevirtual 212, 3), (.i2l, 1), (.ldc2_w 216, 3), (.ldc2_w 218, 3), (.invokestatic 150, 3), (.ireturn, 1)]
abbrev mi_X7_isFigure : MI := (yX7_isFigure, cX7_isFigure, 1, (some .boolean), [], { frames := 1, cells := 0, slots := 0, locals := 25 }, is_X7_isFigure)
theorem dc_X7_isFigure : dcb cX7_isFigure is_X7_isFigure 0 = true := by decide +kernel
theorem wc_X7_isFigure : cdw mi_X7_isFigure ∈ ALLW := aw (i := 1396) (by decide +kernel) rfl
theorem wi_X7_isFigure : Cond.initialized (miY mi_X7_isFigure).cls ∈ ALLW := aw (i := 64) (by decide +kernel) rfl
theorem wn_X7_isFigure : Cond.instanceMethod (miY mi_X7_isFigure) ∈ ALLW := aw (i := 1395) (by decide +kernel) rfl
theorem wv_X7_isFigure : Cond.selects (miY mi_X7_isFigure).cls (miY mi_X7_isFigure) (miY mi_X7_isFigure) ∈ ALLW := aw (i := 34) (by decide +kernel) rfl
def is_X7_figures : List (Instr × Nat) := [(.iconst 0, 1), (.istore_n 2, 1), (.iconst 0, 1), (.istore_n 3, 1), (.aload_n 0, 1), (.invokevirtual 220, 3), (.ifCond .ne 12, 3), (.aload_n 0, 1), (.iconst 1, 1), (.aload_n 0, 1), (.getfield 209, 3), (.invokevirtual 224, 3), (.aload_n 0, 1), (.getfield 203, 3), (.ifCond .ne 55, 3), (.aload_n 0, 1), (.invokevirtual 220, 3), (.ifCond .eq 48, 3), (.iload_n 3, 1), (.iload_n 1, 1), (.if_icmp .ne 14, 3), (.aload_n 0, 1), (.iconst 1, 1), (.aload_n 0, 1), (.getfield 209, 3), (.invokevirtual 224, 3), (.iconst 0, 1), (.ireturn, 1), (.bipush 10, 2), (.iload_n 2, 1), (.imul, 1), (.aload_n 0, 1), (.invokevirtual 212, 3), (.iadd, 1), (.bipush 48, 2), (.isub, 1), (.istore_n 2, 1), (.iinc 3 1, 3), (.aload_n 0, 1), (.dup, 1), (.getfield 209, 3), (.iconst 1, 1), (.iadd, 1), (.putfield 209, 3), (.goto (-56), 3), (.iload_n 2, 1), (.ireturn, 1)]
abbrev mi_X7_figures : MI := (yX7_figures, cX7_figures, 4, (some .int), [], { frames := 2, cells := 0, slots := 0, locals := 45 }, is_X7_figures)
theorem dc_X7_figures : dcb cX7_figures is_X7_figures 0 = true := by decide +kernel
theorem wc_X7_figures : cdw mi_X7_figures ∈ ALLW := aw (i := 1392) (by decide +kernel) rfl
theorem wi_X7_figures : Cond.initialized (miY mi_X7_figures).cls ∈ ALLW := aw (i := 64) (by decide +kernel) rfl
theorem wn_X7_figures : Cond.instanceMethod (miY mi_X7_figures) ∈ ALLW := aw (i := 1391) (by decide +kernel) rfl
theorem wv_X7_figures : Cond.selects (miY mi_X7_figures).cls (miY mi_X7_figures) (miY mi_X7_figures) ∈ ALLW := aw (i := 33) (by decide +kernel) rfl
def is_X7_bounded : List (Instr × Nat) := [(.aload_n 0, 1), (.getfield 209, 3), (.istore 4, 2), (.aload_n 0, 1), (.iload_n 1, 1), (.invokevirtual 228, 3), (.istore 5, 2), (.aload_n 0, 1), (.getfield 203, 3), (.ifCond .ne 23, 3), (.iload 5, 2), (.i2l, 1), (.iload_n 2, 1), (.i2l, 1), (.iload_n 3, 1), (.i2l, 1), (.invokestatic 150, 3), (.ifCond .ne 10, 3), (.aload_n 0, 1), (.iconst 2, 1), (.iload 4, 2), (.invokevirtual 224, 3), (.iload 5, 2), (.ireturn, 1)]
abbrev mi_X7_bounded : MI := (yX7_bounded, cX7_bounded, 6, (some .int), [], { frames := 3, cells := 0, slots := 0, locals := 68 }, is_X7_bounded)
theorem dc_X7_bounded : dcb cX7_bounded is_X7_bounded 0 = true := by decide +kernel
theorem wc_X7_bounded : cdw mi_X7_bounded ∈ ALLW := aw (i := 1388) (by decide +kernel) rfl
theorem wi_X7_bounded : Cond.initialized (miY mi_X7_bounded).cls ∈ ALLW := aw (i := 64) (by decide +kernel) rfl
theorem wn_X7_bounded : Cond.instanceMethod (miY mi_X7_bounded) ∈ ALLW := aw (i := 1387) (by decide +kernel) rfl
theorem wv_X7_bounded : Cond.selects (miY mi_X7_bounded).cls (miY mi_X7_bounded) (miY mi_X7_bounded) ∈ ALLW := aw (i := 32) (by decide +kernel) rfl
def is_X7_letter : List (Instr × Nat) := [(.iload_n 0, 1), (.tableswitch 195 0 17 #[87, 93, 99, 105, 111, 117, 123, 129, 135, 141, 147, 153, 159, 165, 171, 177, 183, 189], 87), (.ldc 231, 2), (.istore_n 2, 1), (.goto 108, 3), (.ldc 232, 2), (.istore_n 2, 1), (.goto 102, 3), (.ldc 233, 2), (.istore_n 2, 1), (.goto 96, 3), (.ldc 234, 2), (.istore_n 2, 1), (.goto 90, 3), (.ldc 235, 2), (.istore_n 2, 1), (.goto 84, 3), (.ldc 236, 2), (.istore_n 2, 1), (.goto 78, 3), (.ldc 237, 2), (.istore_n 2, 1), (.goto 72, 3), (.ldc 238, 2), (.istore_n 2, 1), (.goto 66, 3), (.ldc 239, 2), (.istore_n 2, 1), (.goto 60, 3), (.ldc 240, 2), (.istore_n 2, 1), (.goto 54, 3), (.ldc 241, 2), (.istore_n 2, 1), (.goto 48, 3), (.ldc 242, 2), (.istore_n 2, 1), (.goto 42, 3), (.ldc 243, 2), (.istore_n 2, 1), (.goto 36, 3), (.ldc 244, 2), (.istore_n 2, 1), (.goto 30, 3), (.ldc 245, 2), (.istore_n 2, 1), (.goto 24, 3), (.ldc 246, 2), (.istore_n 2, 1), (.goto 18, 3), (.ldc 247, 2), (.istore_n 2, 1), (.goto 12, 3), (.ldc 248, 2), (.istore_n 2, 1), (.goto 6, 3), (.ldc 249, 2), (.istore_n 2, 1), (.iload_n 2, 1), (.bipush 16, 2), (.bipush 8, 2), (.iload_n 1, 1), (.imul, 1), (.isub, 1), (.ishr, 1), (.sipush 255, 3), (.iand, 1), (.ireturn, 1)]
abbrev mi_X7_letter : MI := (yX7_letter, cX7_letter, 3, (some .int), [], { frames := 0, cells := 0, slots := 0, locals := 0 }, is_X7_letter)
theorem dc_X7_letter : dcb cX7_letter is_X7_letter 0 = true := by decide +kernel
theorem wc_X7_letter : cdw mi_X7_letter ∈ ALLW := aw (i := 1421) (by decide +kernel) rfl
theorem wi_X7_letter : Cond.initialized (miY mi_X7_letter).cls ∈ ALLW := aw (i := 64) (by decide +kernel) rfl
theorem ws_X7_letter : Cond.static (miY mi_X7_letter) ∈ ALLW := aw (i := 1420) (by decide +kernel) rfl
def is_X7_named : List (Instr × Nat) := [(.iconst 0, 1), (.istore 4, 2), (.iload 4, 2), (.iconst 3, 1), (.if_icmp .ge 139, 3), (.iconst 0, 1), (.istore 5, 2), (.iload_n 1, 1), (.istore 6, 2), (.iload 6, 2), (.iload_n 2, 1), (.if_icmp .ge 95, 3), (.iload 5, 2), (.ifCond .ne 90, 3), (.iconst 1, 1), (.istore 7, 2), (.iconst 0, 1), (.istore 8, 2), (.iload 8, 2), (.iload 4, 2), (.if_icmp .gt 67, 3), (.iload 7, 2), (.ifCond .eq 62, 3), (.aload_n 0, 1), (.getfield 209, 3), (.iload 4, 2), (.isub, 1), (.iload 8, 2), (.iadd, 1), (.aload_n 0, 1), (.getfield 200, 3), (.if_icmp .ge 36, 3), (.aload_n 0, 1), (.getfield 22, 3), (.aload_n 0, 1), (.getfield 209, 3), (.iload 4, 2), (.isub, 1), (.iload 8, 2), (.iadd, 1), (.baload, 1), (.sipush 255, 3), (.iand, 1), (.iload 6, 2), (.iload 8, 2), (.invokestatic 250, 3), (.if_icmp .ne 7, 3), (.iconst 1, 1), (.goto 4, 3), (.iconst 0, 1), (.istore 7, 2), (.iinc 8 1, 3), (.goto (-68), 3), (.iload 7, 2), (.istore 5, 2), (.iinc 6 1, 3), (.goto (-95), 3), (.iload 5, 2), (.ifCond .ne 14, 3), (.aload_n 0, 1), (.iconst 1, 1), (.aload_n 0, 1), (.getfield 209, 3), (.invokevirtual 224, 3), (.iconst 0, 1), (.ireturn, 1), (.aload_n 0, 1), (.dup, 1), (.getfield 209, 3), (.iconst 1, 1), (.iadd, 1), (.putfield 209, 3), (.iinc 4 1, 3), (.goto (-139), 3), (.iload_n 1, 1), (.istore 4, 2), (.iload 4, 2), (.iload_n 2, 1), (.if_icmp .ge 79, 3), (.iconst 1, 1), (.istore 5, 2), (.iconst 0, 1), (.istore 6, 2), (.iload 6, 2), (.iconst 3, 1), (.if_icmp .ge 49, 3), (.iload 5, 2), (.ifCond .eq 35, 3), (.aload_n 0, 1), (.getfield 22, 3), (.aload_n 0, 1), (.getfield 209, 3), (.iconst 3, 1), (.isub, 1), (.iload 6, 2), (.iadd, 1), (.baload, 1), (.sipush 255, 3), (.iand, 1), (.iload 4, 2), (.iload 6, 2), (.invokestatic 250, 3), (.if_icmp .ne 7, 3), (.iconst 1, 1), (.goto 4, 3), (.iconst 0, 1), (.istore 5, 2), (.iinc 6 1, 3), (.goto (-49), 3), (.iload 5, 2), (.ifCond .eq 10, 3), (.iload_n 3, 1), (.iload 4, 2), (.iadd, 1), (.iload_n 1, 1), (.isub, 1), (.ireturn, 1), (.iinc 4 1, 3), (.goto (-79), 3), (.iconst 0, 1), (.ireturn, 1)]
abbrev mi_X7_named : MI := (yX7_named, cX7_named, 9, (some .int), [], { frames := 1, cells := 0, slots := 0, locals := 22 }, is_X7_named)
theorem dc_X7_named : dcb cX7_named is_X7_named 0 = true := by decide +kernel
theorem wc_X7_named : cdw mi_X7_named ∈ ALLW := aw (i := 1418) (by decide +kernel) rfl
theorem wi_X7_named : Cond.initialized (miY mi_X7_named).cls ∈ ALLW := aw (i := 64) (by decide +kernel) rfl
theorem wn_X7_named : Cond.instanceMethod (miY mi_X7_named) ∈ ALLW := aw (i := 1417) (by decide +kernel) rfl
theorem wv_X7_named : Cond.selects (miY mi_X7_named).cls (miY mi_X7_named) (miY mi_X7_named) ∈ ALLW := aw (i := 37) (by decide +kernel) rfl
def is_X7_least : List (Instr × Nat) := [(.iload_n 0, 1), (.iconst 2, 1), (.if_icmp .eq 8, 3), (.iload_n 0, 1), (.iconst 3, 1), (.if_icmp .ne 7, 3), (.iconst 1, 1), (.goto 15, 3), (.iload_n 0, 1), (.iconst 5, 1), (.if_icmp .ne 9, 3), (.sipush 1900, 3), (.goto 4, 3), (.iconst 0, 1), (.ireturn, 1)]
abbrev mi_X7_least : MI := (yX7_least, cX7_least, 1, (some .int), [], { frames := 0, cells := 0, slots := 0, locals := 0 }, is_X7_least)
theorem dc_X7_least : dcb cX7_least is_X7_least 0 = true := by decide +kernel
theorem wc_X7_least : cdw mi_X7_least ∈ ALLW := aw (i := 1401) (by decide +kernel) rfl
theorem wi_X7_least : Cond.initialized (miY mi_X7_least).cls ∈ ALLW := aw (i := 64) (by decide +kernel) rfl
theorem ws_X7_least : Cond.static (miY mi_X7_least) ∈ ALLW := aw (i := 1400) (by decide +kernel) rfl
def is_X7_greatest : List (Instr × Nat) := [(.iload_n 0, 1), (.ifCond .ne 8, 3), (.bipush 59, 2), (.goto 46, 3), (.iload_n 0, 1), (.iconst 1, 1), (.if_icmp .ne 8, 3), (.bipush 23, 2), (.goto 36, 3), (.iload_n 0, 1), (.iconst 2, 1), (.if_icmp .ne 8, 3), (.bipush 31, 2), (.goto 26, 3), (.iload_n 0, 1), (.iconst 3, 1), (.if_icmp .ne 8, 3), (.bipush 12, 2), (.goto 16, 3), (.iload_n 0, 1), (.iconst 4, 1), (.if_icmp .ne 8, 3), (.bipush 7, 2), (.goto 6, 3), (.sipush 2199, 3), (.ireturn, 1)]
abbrev mi_X7_greatest : MI := (yX7_greatest, cX7_greatest, 1, (some .int), [], { frames := 0, cells := 0, slots := 0, locals := 0 }, is_X7_greatest)
theorem dc_X7_greatest : dcb cX7_greatest is_X7_greatest 0 = true := by decide +kernel
theorem wc_X7_greatest : cdw mi_X7_greatest ∈ ALLW := aw (i := 1404) (by decide +kernel) rfl
theorem wi_X7_greatest : Cond.initialized (miY mi_X7_greatest).cls ∈ ALLW := aw (i := 64) (by decide +kernel) rfl
theorem ws_X7_greatest : Cond.static (miY mi_X7_greatest) ∈ ALLW := aw (i := 1403) (by decide +kernel) rfl
def is_X7_valueOf : List (Instr × Nat) := [(.aload_n 0, 1), (.invokevirtual 212, 3), (.i2l, 1), (.ldc2_w 253, 3), (.ldc2_w 255, 3), (.invokestatic 150, 3), (.istore_n 2, 1), (.iload_n 2, 1), (.ifCond .eq 17, 3), (.iload_n 1, 1), (.iconst 3, 1), (.if_icmp .ne 12, 3), (.aload_n 0, 1), (.iconst 0, 1), (.bipush 12, 2), (.iconst 1, 1), (.invokevirtual 257, 3), (.ireturn, 1), (.iload_n 2, 1), (.ifCond .eq 18, 3), (.iload_n 1, 1), (.iconst 4, 1), (.if_icmp .ne 13, 3), (.aload_n 0, 1), (.bipush 12, 2), (.bipush 19, 2), (.iconst 0, 1), (.invokevirtual 257, 3), (.ireturn, 1), (.aload_n 0, 1), (.iconst 4, 1), (.iload_n 1, 1), (.invokestatic 260, 3), (.iload_n 1, 1), (.invokestatic 263, 3), (.invokevirtual 266, 3), (.ireturn, 1)]
abbrev mi_X7_valueOf : MI := (yX7_valueOf, cX7_valueOf, 3, (some .int), [], { frames := 4, cells := 0, slots := 0, locals := 93 }, is_X7_valueOf)
theorem dc_X7_valueOf : dcb cX7_valueOf is_X7_valueOf 0 = true := by decide +kernel
theorem wc_X7_valueOf : cdw mi_X7_valueOf ∈ ALLW := aw (i := 1412) (by decide +kernel) rfl
theorem wi_X7_valueOf : Cond.initialized (miY mi_X7_valueOf).cls ∈ ALLW := aw (i := 64) (by decide +kernel) rfl
theorem wn_X7_valueOf : Cond.instanceMethod (miY mi_X7_valueOf) ∈ ALLW := aw (i := 1411) (by decide +kernel) rfl
theorem wv_X7_valueOf : Cond.selects (miY mi_X7_valueOf).cls (miY mi_X7_valueOf) (miY mi_X7_valueOf) ∈ ALLW := aw (i := 36) (by decide +kernel) rfl
def is_X7_mark : List (Instr × Nat) := [(.iload_n 1, 1), (.iconst 5, 1), (.if_icmp .ne 17, 3), (.aload_n 0, 1), (.getfield 30, 3), (.iload_n 2, 1), (.sipush 1900, 3), (.isub, 1), (.iconst 1, 1), (.bastore, 1), (.goto 30, 3), (.aload_n 0, 1), (.getfield 26, 3), (.iload_n 1, 1), (.dup2, 1), (.laload, 1), (.lconst 1, 1), (.iload_n 1, 1), (.iconst 4, 1), (.if_icmp .ne 13, 3), (.iload_n 2, 1), (.bipush 7, 2), (.if_icmp .ne 7, 3), (.iconst 0, 1), (.goto 4, 3), (.iload_n 2, 1), (.lshl, 1), (.lor, 1), (.lastore, 1), (.return_, 1)]
abbrev mi_X7_mark : MI := (yX7_mark, cX7_mark, 3, none, [], { frames := 0, cells := 0, slots := 0, locals := 0 }, is_X7_mark)
theorem dc_X7_mark : dcb cX7_mark is_X7_mark 0 = true := by decide +kernel
theorem wc_X7_mark : cdw mi_X7_mark ∈ ALLW := aw (i := 1372) (by decide +kernel) rfl
theorem wi_X7_mark : Cond.initialized (miY mi_X7_mark).cls ∈ ALLW := aw (i := 64) (by decide +kernel) rfl
theorem wn_X7_mark : Cond.instanceMethod (miY mi_X7_mark) ∈ ALLW := aw (i := 1371) (by decide +kernel) rfl
theorem wv_X7_mark : Cond.selects (miY mi_X7_mark).cls (miY mi_X7_mark) (miY mi_X7_mark) ∈ ALLW := aw (i := 28) (by decide +kernel) rfl
def is_X7_range : List (Instr × Nat) := [(.iload_n 2, 1), (.istore 5, 2), (.iload 5, 2), (.iload_n 3, 1), (.if_icmp .gt 20, 3), (.aload_n 0, 1), (.iload_n 1, 1), (.iload 5, 2), (.invokevirtual 269, 3), (.iload 5, 2), (.iload 4, 2), (.iadd, 1), (.istore 5, 2), (.goto (-20), 3), (.return_, 1)]
abbrev mi_X7_range : MI := (yX7_range, cX7_range, 6, none, [], { frames := 1, cells := 0, slots := 0, locals := 22 }, is_X7_range)
theorem dc_X7_range : dcb cX7_range is_X7_range 0 = true := by decide +kernel
theorem wc_X7_range : cdw mi_X7_range ∈ ALLW := aw (i := 1368) (by decide +kernel) rfl
theorem wi_X7_range : Cond.initialized (miY mi_X7_range).cls ∈ ALLW := aw (i := 64) (by decide +kernel) rfl
theorem wn_X7_range : Cond.instanceMethod (miY mi_X7_range) ∈ ALLW := aw (i := 1367) (by decide +kernel) rfl
theorem wv_X7_range : Cond.selects (miY mi_X7_range).cls (miY mi_X7_range) (miY mi_X7_range) ∈ ALLW := aw (i := 27) (by decide +kernel) rfl
def is_X7_step : List (Instr × Nat) := [(.aload_n 0, 1), (.invokevirtual 212, 3), (.bipush 47, 2), (.if_icmp .eq 5, 3), (.iconst 1, 1), (.ireturn, 1), (.aload_n 0, 1), (.dup, 1), (.getfield 209, 3), (.iconst 1, 1), (.iadd, 1), (.putfield 209, 3), (.aload_n 0, 1), (.iconst 4, 1), (.iconst 1, 1), (.sipush 1000, 3), (.invokevirtual 266, 3), (.ireturn, 1)]
abbrev mi_X7_step : MI := (yX7_step, cX7_step, 1, (some .int), [], { frames := 4, cells := 0, slots := 0, locals := 93 }, is_X7_step)
theorem dc_X7_step : dcb cX7_step is_X7_step 0 = true := by decide +kernel
theorem wc_X7_step : cdw mi_X7_step ∈ ALLW := aw (i := 1384) (by decide +kernel) rfl
theorem wi_X7_step : Cond.initialized (miY mi_X7_step).cls ∈ ALLW := aw (i := 64) (by decide +kernel) rfl
theorem wn_X7_step : Cond.instanceMethod (miY mi_X7_step) ∈ ALLW := aw (i := 1383) (by decide +kernel) rfl
theorem wv_X7_step : Cond.selects (miY mi_X7_step).cls (miY mi_X7_step) (miY mi_X7_step) ∈ ALLW := aw (i := 31) (by decide +kernel) rfl
def is_X7_lastDay : List (Instr × Nat) := [(.aload_n 0, 1), (.invokevirtual 212, 3), (.bipush 87, 2), (.if_icmp .ne 21, 3), (.aload_n 0, 1), (.dup, 1), (.getfield 209, 3), (.iconst 1, 1), (.iadd, 1), (.putfield 209, 3), (.aload_n 0, 1), (.iconst 1, 1), (.putfield 295, 3), (.goto 67, 3), (.aload_n 0, 1), (.invokevirtual 212, 3), (.bipush 45, 2), (.if_icmp .ne 48, 3), (.aload_n 0, 1), (.dup, 1), (.getfield 209, 3), (.iconst 1, 1), (.iadd, 1), (.putfield 209, 3), (.aload_n 0, 1), (.iconst 2, 1), (.iconst 1, 1), (.bipush 30, 2), (.invokevirtual 266, 3), (.istore_n 1, 1), (.aload_n 0, 1), (.dup, 1), (.getfield 299, 3), (.aload_n 0, 1), (.getfield 203, 3), (.ifCond .ne 9, 3), (.lconst 1, 1), (.iload_n 1, 1), (.lshl, 1), (.goto 4, 3), (.lconst 0, 1), (.lor, 1), (.putfield 299, 3), (.goto 13, 3), (.aload_n 0, 1), (.dup, 1), (.getfield 299, 3), (.lconst 1, 1), (.lor, 1), (.putfield 299, 3), (.return_, 1)]
abbrev mi_X7_lastDay : MI := (yX7_lastDay, cX7_lastDay, 2, none, [], { frames := 4, cells := 0, slots := 0, locals := 93 }, is_X7_lastDay)
theorem dc_X7_lastDay : dcb cX7_lastDay is_X7_lastDay 0 = true := by decide +kernel
theorem wc_X7_lastDay : cdw mi_X7_lastDay ∈ ALLW := aw (i := 1408) (by decide +kernel) rfl
theorem wi_X7_lastDay : Cond.initialized (miY mi_X7_lastDay).cls ∈ ALLW := aw (i := 64) (by decide +kernel) rfl
theorem wn_X7_lastDay : Cond.instanceMethod (miY mi_X7_lastDay) ∈ ALLW := aw (i := 1407) (by decide +kernel) rfl
theorem wv_X7_lastDay : Cond.selects (miY mi_X7_lastDay).cls (miY mi_X7_lastDay) (miY mi_X7_lastDay) ∈ ALLW := aw (i := 35) (by decide +kernel) rfl
def is_X7_item : List (Instr × Nat) := [(.aload_n 0, 1), (.invokevirtual 212, 3), (.istore_n 2, 1), (.iload_n 2, 1), (.bipush 42, 2), (.if_icmp .ne 50, 3), (.aload_n 0, 1), (.dup, 1), (.getfield 209, 3), (.iconst 1, 1), (.iadd, 1), (.putfield 209, 3), (.aload_n 0, 1), (.invokevirtual 272, 3), (.istore_n 3, 1), (.aload_n 0, 1), (.getfield 203, 3), (.ifCond .ne 27, 3), (.aload_n 0, 1), (.iload_n 1, 1), (.iload_n 1, 1), (.invokestatic 260, 3), (.iload_n 1, 1), (.iconst 4, 1), (.if_icmp .ne 8, 3), (.bipush 6, 2), (.goto 7, 3), (.iload_n 1, 1), (.invokestatic 263, 3), (.iload_n 3, 1), (.invokevirtual 275, 3), (.return_, 1), (.iload_n 2, 1), (.bipush 76, 2), (.if_icmp .ne 23, 3), (.iload_n 1, 1), (.iconst 2, 1), (.if_icmp .ne 18, 3), (.aload_n 0, 1), (.dup, 1), (.getfield 209, 3), (.iconst 1, 1), (.iadd, 1), (.putfield 209, 3), (.aload_n 0, 1), (.invokevirtual 279, 3), (.return_, 1), (.aload_n 0, 1), (.iload_n 1, 1), (.invokevirtual 282, 3), (.istore_n 3, 1), (.aload_n 0, 1), (.getfield 203, 3), (.ifCond .le 4, 3), (.return_, 1), (.aload_n 0, 1), (.invokevirtual 212, 3), (.istore 4, 2), (.iload 4, 2), (.bipush 45, 2), (.if_icmp .ne 72, 3), (.aload_n 0, 1), (.dup, 1), (.getfield 209, 3), (.iconst 1, 1), (.iadd, 1), (.putfield 209, 3), (.aload_n 0, 1), (.getfield 209, 3), (.istore 5, 2), (.aload_n 0, 1), (.iload_n 1, 1), (.invokevirtual 282, 3), (.istore 6, 2), (.aload_n 0, 1), (.getfield 203, 3), (.ifCond .ne 16, 3), (.iload 6, 2), (.iload_n 3, 1), (.if_icmp .ge 10, 3), (.aload_n 0, 1), (.iconst 3, 1), (.iload 5, 2), (.invokevirtual 224, 3), (.aload_n 0, 1), (.invokevirtual 272, 3), (.istore 7, 2), (.aload_n 0, 1), (.getfield 203, 3), (.ifCond .ne 13, 3), (.aload_n 0, 1), (.iload_n 1, 1), (.iload_n 3, 1), (.iload 6, 2), (.iload 7, 2), (.invokevirtual 275, 3), (.goto 203, 3), (.iload 4, 2), (.bipush 47, 2), (.if_icmp .ne 47, 3), (.aload_n 0, 1), (.invokevirtual 272, 3), (.istore 5, 2), (.aload_n 0, 1), (.getfield 203, 3), (.ifCond .ne 31, 3), (.aload_n 0, 1), (.iload_n 1, 1), (.iload_n 3, 1), (.iload_n 1, 1), (.iconst 4, 1), (.if_icmp .ne 14, 3), (.iload_n 3, 1), (.bipush 7, 2), (.if_icmp .ge 8, 3), (.bipush 6, 2), (.goto 7, 3), (.iload_n 1, 1), (.invokestatic 263, 3), (.iload 5, 2), (.invokevirtual 275, 3), (.goto 152, 3), (.iload 4, 2), (.bipush 87, 2), (.if_icmp .ne 33, 3), (.iload_n 1, 1), (.iconst 2, 1), (.if_icmp .ne 28, 3), (.aload_n 0, 1), (.dup, 1), (.getfield 209, 3), (.iconst 1, 1), (.iadd, 1), (.putfield 209, 3), (.aload_n 0, 1), (.dup, 1), (.getfield 285, 3), (.lconst 1, 1), (.iload_n 3, 1), (.lshl, 1), (.lor, 1), (.putfield 285, 3), (.goto 115, 3), (.iload 4, 2), (.bipush 76, 2), (.if_icmp .ne 36, 3), (.iload_n 1, 1), (.iconst 4, 1), (.if_icmp .ne 31, 3), (.aload_n 0, 1), (.dup, 1), (.getfield 209, 3), (.iconst 1, 1), (.iadd, 1), (.putfield 209, 3), (.aload_n 0, 1), (.dup, 1), (.getfield 289, 3), (.lconst 1, 1), (.iload_n 3, 1), (.bipush 7, 2), (.irem, 1), (.lshl, 1), (.lor, 1), (.putfield 289, 3), (.goto 75, 3), (.iload 4, 2), (.bipush 35, 2), (.if_icmp .ne 62, 3), (.iload_n 1, 1), (.iconst 4, 1), (.if_icmp .ne 57, 3), (.aload_n 0, 1), (.dup, 1), (.getfield 209, 3), (.iconst 1, 1), (.iadd, 1), (.putfield 209, 3), (.aload_n 0, 1), (.iconst 1, 1), (.iconst 1, 1), (.iconst 5, 1), (.invokevirtual 266, 3), (.istore 5, 2), (.aload_n 0, 1), (.dup, 1), (.getfield 292, 3), (.aload_n 0, 1), (.getfield 203, 3), (.ifCond .ne 18, 3), (.lconst 1, 1), (.bipush 6, 2), (.iload_n 3, 1), (.bipush 7, 2), (.irem, 1), (.imul, 1), (.iload 5, 2), (.iadd, 1), (.lshl, 1), (.goto 4, 3), (.lconst 0, 1), (.lor, 1), (.putfield 292, 3), (.goto 9, 3), (.aload_n 0, 1), (.iload_n 1, 1), (.iload_n 3, 1), (.invokevirtual 269, 3), (.return_, 1)]
abbrev mi_X7_item : MI := (yX7_item, cX7_item, 8, none, [], { frames := 5, cells := 0, slots := 0, locals := 115 }, is_X7_item)
theorem dc_X7_item : dcb cX7_item is_X7_item 0 = true := by decide +kernel
theorem wc_X7_item : cdw mi_X7_item ∈ ALLW := aw (i := 1380) (by decide +kernel) rfl
theorem wi_X7_item : Cond.initialized (miY mi_X7_item).cls ∈ ALLW := aw (i := 64) (by decide +kernel) rfl
theorem wn_X7_item : Cond.instanceMethod (miY mi_X7_item) ∈ ALLW := aw (i := 1379) (by decide +kernel) rfl
theorem wv_X7_item : Cond.selects (miY mi_X7_item).cls (miY mi_X7_item) (miY mi_X7_item) ∈ ALLW := aw (i := 30) (by decide +kernel) rfl
def is_X7_readField : List (Instr × Nat) := [(.aload_n 0, 1), (.iload_n 1, 1), (.iconst 2, 1), (.if_icmp .ne 20, 3), (.aload_n 0, 1), (.invokevirtual 212, 3), (.bipush 42, 2), (.if_icmp .ne 7, 3), (.iconst 1, 1), (.goto 11, 3), (.iconst 0, 1), (.goto 7, 3), (.aload_n 0, 1), (.getfield 302, 3), (.putfield 302, 3), (.aload_n 0, 1), (.iload_n 1, 1), (.iconst 4, 1), (.if_icmp .ne 20, 3), (.aload_n 0, 1), (.invokevirtual 212, 3), (.bipush 42, 2), (.if_icmp .ne 7, 3), (.iconst 1, 1), (.goto 11, 3), (.iconst 0, 1), (.goto 7, 3), (.aload_n 0, 1), (.getfield 305, 3), (.putfield 305, 3), (.aload_n 0, 1), (.iload_n 1, 1), (.invokevirtual 308, 3), (.aload_n 0, 1), (.getfield 203, 3), (.ifCond .ne 30, 3), (.aload_n 0, 1), (.invokevirtual 212, 3), (.bipush 44, 2), (.if_icmp .ne 21, 3), (.aload_n 0, 1), (.dup, 1), (.getfield 209, 3), (.iconst 1, 1), (.iadd, 1), (.putfield 209, 3), (.aload_n 0, 1), (.iload_n 1, 1), (.invokevirtual 308, 3), (.goto (-31), 3), (.return_, 1)]
abbrev mi_X7_readField : MI := (yX7_readField, cX7_readField, 2, none, [], { frames := 6, cells := 0, slots := 0, locals := 142 }, is_X7_readField)
theorem dc_X7_readField : dcb cX7_readField is_X7_readField 0 = true := by decide +kernel
theorem wc_X7_readField : cdw mi_X7_readField ∈ ALLW := aw (i := 1376) (by decide +kernel) rfl
theorem wi_X7_readField : Cond.initialized (miY mi_X7_readField).cls ∈ ALLW := aw (i := 64) (by decide +kernel) rfl
theorem wn_X7_readField : Cond.instanceMethod (miY mi_X7_readField) ∈ ALLW := aw (i := 1375) (by decide +kernel) rfl
theorem wv_X7_readField : Cond.selects (miY mi_X7_readField).cls (miY mi_X7_readField) (miY mi_X7_readField) ∈ ALLW := aw (i := 29) (by decide +kernel) rfl
def is_X7_blanks : List (Instr × Nat) := [(.aload_n 0, 1), (.invokevirtual 212, 3), (.bipush 32, 2), (.if_icmp .ne 16, 3), (.aload_n 0, 1), (.dup, 1), (.getfield 209, 3), (.iconst 1, 1), (.iadd, 1), (.putfield 209, 3), (.goto (-19), 3), (.return_, 1)]
abbrev mi_X7_blanks : MI := (yX7_blanks, cX7_blanks, 1, none, [], { frames := 1, cells := 0, slots := 0, locals := 20 }, is_X7_blanks)
theorem dc_X7_blanks : dcb cX7_blanks is_X7_blanks 0 = true := by decide +kernel
theorem wc_X7_blanks : cdw mi_X7_blanks ∈ ALLW := aw (i := 1342) (by decide +kernel) rfl
theorem wi_X7_blanks : Cond.initialized (miY mi_X7_blanks).cls ∈ ALLW := aw (i := 64) (by decide +kernel) rfl
theorem wn_X7_blanks : Cond.instanceMethod (miY mi_X7_blanks) ∈ ALLW := aw (i := 1341) (by decide +kernel) rfl
theorem wv_X7_blanks : Cond.selects (miY mi_X7_blanks).cls (miY mi_X7_blanks) (miY mi_X7_blanks) ∈ ALLW := aw (i := 22) (by decide +kernel) rfl
def is_X7_word : List (Instr × Nat) := [(.iload_n 3, 1), (.iconst 1, 1), (.isub, 1), (.istore 4, 2), (.iload 4, 2), (.ifCond .lt 50, 3), (.aload_n 0, 1), (.invokevirtual 212, 3), (.i2l, 1), (.lload_n 1, 1), (.bipush 8, 2), (.iload 4, 2), (.imul, 1), (.lshr, 1), (.ldc2_w 311, 3), (.land, 1), (.lcmp, 1), (.ifCond .eq 14, 3), (.aload_n 0, 1), (.iconst 1, 1), (.aload_n 0, 1), (.getfield 209, 3), (.invokevirtual 224, 3), (.iconst 0, 1), (.ireturn, 1), (.aload_n 0, 1), (.dup, 1), (.getfield 209, 3), (.iconst 1, 1), (.iadd, 1), (.putfield 209, 3), (.iinc 4 (-1), 3), (.goto (-49), 3), (.iconst 1, 1), (.ireturn, 1)]
abbrev mi_X7_word : MI := (yX7_word, cX7_word, 5, (some .boolean), [], { frames := 1, cells := 0, slots := 0, locals := 22 }, is_X7_word)
theorem dc_X7_word : dcb cX7_word is_X7_word 0 = true := by decide +kernel
theorem wc_X7_word : cdw mi_X7_word ∈ ALLW := aw (i := 1355) (by decide +kernel) rfl
theorem wi_X7_word : Cond.initialized (miY mi_X7_word).cls ∈ ALLW := aw (i := 64) (by decide +kernel) rfl
theorem wn_X7_word : Cond.instanceMethod (miY mi_X7_word) ∈ ALLW := aw (i := 1354) (by decide +kernel) rfl
theorem wv_X7_word : Cond.selects (miY mi_X7_word).cls (miY mi_X7_word) (miY mi_X7_word) ∈ ALLW := aw (i := 25) (by decide +kernel) rfl
def is_X7_short0 : List (Instr × Nat) := [(.aload_n 0, 1), (.dup, 1), (.getfield 209, 3), (.iconst 1, 1), (.iadd, 1), (.putfield 209, 3), (.aload_n 0, 1), (.invokevirtual 212, 3), (.istore_n 1, 1), (.iload_n 1, 1), (.bipush 104, 2), (.if_icmp .ne 15, 3), (.aload_n 0, 1), (.ldc2_w 313, 3), (.bipush 6, 2), (.invokevirtual 315, 3), (.goto 79, 3), (.iload_n 1, 1), (.bipush 100, 2), (.if_icmp .ne 14, 3), (.aload_n 0, 1), (.ldc2_w 319, 3), (.iconst 5, 1), (.invokevirtual 315, 3), (.goto 62, 3), (.iload_n 1, 1), (.bipush 119, 2), (.if_icmp .ne 15, 3), (.aload_n 0, 1), (.ldc2_w 321, 3), (.bipush 6, 2), (.invokevirtual 315, 3), (.goto 44, 3), (.iload_n 1, 1), (.bipush 109, 2), (.if_icmp .ne 15, 3), (.aload_n 0, 1), (.ldc2_w 323, 3), (.bipush 7, 2), (.invokevirtual 315, 3), (.goto 26, 3), (.iload_n 1, 1), (.bipush 121, 2), (.if_icmp .ne 19, 3), (.aload_n 0, 1), (.ldc2_w 325, 3), (.bipush 6, 2), (.invokevirtual 315, 3), (.ifCond .eq 7, 3), (.iconst 1, 1), (.goto 4, 3), (.iconst 0, 1), (.istore_n 2, 1), (.iload_n 2, 1), (.ifCond .ne 13, 3), (.aload_n 0, 1), (.iconst 1, 1), (.aload_n 0, 1), (.getfield 209, 3), (.invokevirtual 224, 3), (.return_, 1), (.aload_n 0, 1), (.getfield 26, 3), (.iconst 0, 1), (.lconst 1, 1), (.lastore, 1), (.aload_n 0, 1), (.iconst 1, 1), (.iconst 0, 1), (.iload_n 1, 1), (.bipush 104, 2), (.if_icmp .ne 8, 3), (.bipush 23, 2), (.goto 4, 3), (.iconst 0, 1), (.iconst 1, 1), (.invokevirtual 275, 3), (.aload_n 0, 1), (.iconst 2, 1), (.iconst 1, 1), (.iload_n 1, 1), (.bipush 109, 2), (.if_icmp .eq 9, 3), (.iload_n 1, 1), (.bipush 121, 2), (.if_icmp .ne 7, 3), (.iconst 1, 1), (.goto 5, 3), (.bipush 31, 2), (.iconst 1, 1), (.invokevirtual 275, 3), (.aload_n 0, 1), (.iconst 3, 1), (.iconst 1, 1), (.iload_n 1, 1), (.bipush 121, 2), (.if_icmp .ne 7, 3), (.iconst 1, 1), (.goto 5, 3), (.bipush 12, 2), (.iconst 1, 1), (.invokevirtual 275, 3), (.aload_n 0, 1), (.iconst 4, 1), (.iconst 0, 1), (.iload_n 1, 1), (.bipush 119, 2), (.if_icmp .ne 7, 3), (.iconst 0, 1), (.goto 5, 3), (.bipush 6, 2), (.iconst 1, 1), (.invokevirtual 275, 3), (.aload_n 0, 1), (.iload_n 1, 1), (.bipush 109, 2), (.if_icmp .eq 13, 3), (.iload_n 1, 1), (.bipush 121, 2), (.if_icmp .eq 7, 3), (.iconst 1, 1), (.goto 4, 3), (.iconst 0, 1), (.putfield 302, 3), (.aload_n 0, 1), (.iload_n 1, 1), (.bipush 119, 2), (.if_icmp .eq 7, 3), (.iconst 1, 1), (.goto 4, 3), (.iconst 0, 1), (.putfield 305, 3), (.return_, 1)]
abbrev mi_X7_short0 : MI := (yX7_short0, cX7_short0, 3, none, [], { frames := 2, cells := 0, slots := 0, locals := 47 }, is_X7_short0)
theorem dc_X7_short0 : dcb cX7_short0 is_X7_short0 0 = true := by decide +kernel
theorem wc_X7_short0 : cdw mi_X7_short0 ∈ ALLW := aw (i := 1350) (by decide +kernel) rfl
theorem wi_X7_short0 : Cond.initialized (miY mi_X7_short0).cls ∈ ALLW := aw (i := 64) (by decide +kernel) rfl
theorem wn_X7_short0 : Cond.instanceMethod (miY mi_X7_short0) ∈ ALLW := aw (i := 1349) (by decide +kernel) rfl
theorem wv_X7_short0 : Cond.selects (miY mi_X7_short0).cls (miY mi_X7_short0) (miY mi_X7_short0) ∈ ALLW := aw (i := 24) (by decide +kernel) rfl
def is_X7_readText : List (Instr × Nat) := [(.aload_n 0, 1), (.iconst 0, 1), (.putfield 209, 3), (.aload_n 0, 1), (.iconst 0, 1), (.putfield 203, 3), (.aload_n 0, 1), (.iconst 0, 1), (.putfield 206, 3), (.iconst 0, 1), (.istore_n 1, 1), (.iload_n 1, 1), (.iconst 5, 1), (.if_icmp .ge 16, 3), (.aload_n 0, 1), (.getfield 26, 3), (.iload_n 1, 1), (.lconst 0, 1), (.lastore, 1), (.iinc 1 1, 3), (.goto (-15), 3), (.iconst 0, 1), (.istore_n 1, 1), (.iload_n 1, 1), (.sipush 300, 3), (.if_icmp .ge 16, 3), (.aload_n 0, 1), (.getfield 30, 3), (.iload_n 1, 1), (.iconst 0, 1), (.bastore, 1), (.iinc 1 1, 3), (.goto (-17), 3), (.aload_n 0, 1), (.iconst 1, 1), (.putfield 327, 3), (.aload_n 0, 1), (.lconst 0, 1), (.putfield 299, 3), (.aload_n 0, 1), (.iconst 0, 1), (.putfield 295, 3), (.aload_n 0, 1), (.lconst 0, 1), (.putfield 285, 3), (.aload_n 0, 1), (.lconst 0, 1), (.putfield 289, 3), (.aload_n 0, 1), (.lconst 0, 1), (.putfield 292, 3), (.aload_n 0, 1), (.iconst 0, 1), (.putfield 302, 3), (.aload_n 0, 1), (.iconst 0, 1), (.putfield 305, 3), (.aload_n 0, 1), (.invokevirtual 330, 3), (.aload_n 0, 1), (.invokevirtual 212, 3), (.bipush 64, 2), (.if_icmp .ne 10, 3), (.aload_n 0, 1), (.invokevirtual 333, 3), (.goto 98, 3), (.iconst 0, 1), (.istore_n 1, 1), (.iload_n 1, 1), (.iconst 5, 1), (.if_icmp .ge 54, 3), (.aload_n 0, 1), (.getfield 203, 3), (.ifCond .ne 47, 3), (.iload_n 1, 1), (.ifCond .le 25, 3), (.aload_n 0, 1), (.invokevirtual 212, 3), (.bipush 32, 2), (.if_icmp .eq 12, 3), (.aload_n 0, 1), (.iconst 1, 1), (.aload_n 0, 1), (.getfield 209, 3), (.invokevirtual 224, 3), (.aload_n 0, 1), (.invokevirtual 330, 3), (.aload_n 0, 1), (.getfield 203, 3), (.ifCond .ne 8, 3), (.aload_n 0, 1), (.iload_n 1, 1), (.invokevirtual 336, 3), (.iinc 1 1, 3), (.goto (-53), 3), (.aload_n 0, 1), (.getfield 203, 3), (.ifCond .ne 33, 3), (.aload_n 0, 1), (.invokevirtual 212, 3), (.bipush 32, 2), (.if_icmp .ne 24, 3), (.aload_n 0, 1), (.invokevirtual 330, 3), (.aload_n 0, 1), (.invokevirtual 212, 3), (.ifCond .lt 13, 3), (.aload_n 0, 1), (.iconst 0, 1), (.putfield 327, 3), (.aload_n 0, 1), (.iconst 5, 1), (.invokevirtual 336, 3), (.aload_n 0, 1), (.invokevirtual 330, 3), (.aload_n 0, 1), (.getfield 209, 3), (.aload_n 0, 1), (.getfield 200, 3), (.if_icmp .ge 12, 3), (.aload_n 0, 1), (.iconst 1, 1), (.aload_n 0, 1), (.getfield 209, 3), (.invokevirtual 224, 3), (.return_, 1)]
abbrev mi_X7_readText : MI := (yX7_readText, cX7_readText, 2, none, [], { frames := 7, cells := 0, slots := 0, locals := 163 }, is_X7_readText)
theorem dc_X7_readText : dcb cX7_readText is_X7_readText 0 = true := by decide +kernel
theorem wc_X7_readText : cdw mi_X7_readText ∈ ALLW := aw (i := 1338) (by decide +kernel) rfl
theorem wi_X7_readText : Cond.initialized (miY mi_X7_readText).cls ∈ ALLW := aw (i := 64) (by decide +kernel) rfl
theorem wn_X7_readText : Cond.instanceMethod (miY mi_X7_readText) ∈ ALLW := aw (i := 1337) (by decide +kernel) rfl
theorem wv_X7_readText : Cond.selects (miY mi_X7_readText).cls (miY mi_X7_readText) (miY mi_X7_readText) ∈ ALLW := aw (i := 21) (by decide +kernel) rfl
def V_X7_fail_17 (K : Rs → Mm → Prop)  (M : Mm)  : Prop := K (.inl none) M
set_option maxRecDepth 100000 in
set_option maxHeartbeats 4000000 in
theorem x_X7_fail_17 {G : Gx} {K : Rs → Mm → Prop}  {M : Mm}  (h : V_X7_fail_17 K  M ) : E G mi_X7_fail K M 0 0 17 [none, none, none] [] := by
  unfold V_X7_fail_17 at h
  exact e_ret rfl rfl (by decide) (by decide) h
def V_X7_fail (K : Rs → Mm → Prop) (M : Mm) (a0 : Nat) (a1 : Int32) (a2 : Int32) : Prop := (ob M a0 7 ∧ ((¬ (mI M a0 13) = 0 → V_X7_fail_17 K  M ) ∧ ((mI M a0 13) = 0 → ∀ M2, M2 = sI M a0 13 a1 → ∀ M3, M3 = sI M2 a0 14 a2 → V_X7_fail_17 K  M3 )))
set_option maxRecDepth 100000 in
set_option maxHeartbeats 4000000 in
theorem x_X7_fail {G : Gx} {K : Rs → Mm → Prop} {M : Mm} {a0 : Nat} {a1 : Int32} {a2 : Int32} (h : V_X7_fail K M a0 a1 a2) : MC G mi_X7_fail [.ref a0, .int a1, .int a2] M K := by
  unfold V_X7_fail at h
  refine mc_of rfl (by decide +kernel) dc_X7_fail (Nat.le_of_ble_eq_true rfl) 0 (Nat.le_of_ble_eq_true rfl) ?_
  show E G mi_X7_fail K M 0 0 0 [some (.ref a0), some (.int a1), some (.int a2)] []
  refine e_blk 1 0 _ _ (pc' := 1) (L' := [some (.ref a0), some (.int a1), some (.int a2)]) (st' := [.ref a0]) rfl ?_
  obtain ⟨ho1, h⟩ := h
  refine e_getI 7 13 rfl rfl (by decide) (aw (i := 1078) (by decide +kernel) rfl) ho1 rfl ?_
  refine e_if_ne 17 rfl rfl (fun hc => ?_) (fun hc => ?_)
  · replace h := h.1 hc
    refine e_drp [false, false, false] (L' := [none, none, none]) rfl ?_
    exact x_X7_fail_17  h
  · replace h := h.2 hc
    refine e_blk 2 7 _ _ (pc' := 9) (L' := [some (.ref a0), some (.int a1), some (.int a2)]) (st' := [.int a1, .ref a0]) rfl ?_
    refine e_putI 7 13 rfl rfl (by decide) (aw (i := 1078) (by decide +kernel) rfl) rfl ho1 rfl ?_
    generalize hM2 : sI M a0 13 a1 = M2
    replace h := h M2 hM2.symm
    replace ho1 : ob M2 a0 7 := hM2 ▸ ob_sI ho1
    refine e_blk 2 12 _ _ (pc' := 14) (L' := [some (.ref a0), some (.int a1), some (.int a2)]) (st' := [.int a2, .ref a0]) rfl ?_
    refine e_putI 7 14 rfl rfl (by decide) (aw (i := 1079) (by decide +kernel) rfl) rfl ho1 rfl ?_
    generalize hM3 : sI M2 a0 14 a2 = M3
    replace h := h M3 hM3.symm
    replace ho1 : ob M3 a0 7 := hM3 ▸ ob_sI ho1
    refine e_drp [false, false, false] (L' := [none, none, none]) rfl ?_
    exact x_X7_fail_17  h
def V_X7_sign_28 (K : Rs → Mm → Prop)  (M : Mm) (s0 : Int32) : Prop := K (.inl (some (.int s0))) M
set_option maxRecDepth 100000 in
set_option maxHeartbeats 4000000 in
theorem x_X7_sign_28 {G : Gx} {K : Rs → Mm → Prop}  {M : Mm} {s0 : Int32} (h : V_X7_sign_28 K  M s0) : E G mi_X7_sign K M 0 0 28 [none] [.int s0] := by
  unfold V_X7_sign_28 at h
  exact e_reti rfl rfl (by decide) (by decide) h
def V_X7_sign (K : Rs → Mm → Prop) (M : Mm) (a0 : Nat) : Prop := (ob M a0 7 ∧ (((mI M a0 11) ≤ (mI M a0 12) → V_X7_sign_28 K  M (-1 : Int32)) ∧ (¬ (mI M a0 11) ≤ (mI M a0 12) → ∃ b2, mP M a0 10 = some b2 ∧ (ob M b2 8 ∧ (vp_in (mI M a0 12) (mN M b2) ∧ V_X7_sign_28 K  M ((mI M b2 ((mI M a0 12)).toNatClampNeg) &&& (255 : Int32)))))))
set_option maxRecDepth 100000 in
set_option maxHeartbeats 4000000 in
theorem x_X7_sign {G : Gx} {K : Rs → Mm → Prop} {M : Mm} {a0 : Nat} (h : V_X7_sign K M a0) : MC G mi_X7_sign [.ref a0] M K := by
  unfold V_X7_sign at h
  refine mc_of rfl (by decide +kernel) dc_X7_sign (Nat.le_of_ble_eq_true rfl) 0 (Nat.le_of_ble_eq_true rfl) ?_
  show E G mi_X7_sign K M 0 0 0 [some (.ref a0)] []
  refine e_blk 1 0 _ _ (pc' := 1) (L' := [some (.ref a0)]) (st' := [.ref a0]) rfl ?_
  obtain ⟨ho1, h⟩ := h
  refine e_getI 7 12 rfl rfl (by decide) (aw (i := 1077) (by decide +kernel) rfl) ho1 rfl ?_
  refine e_blk 1 4 _ _ (pc' := 5) (L' := [some (.ref a0)]) (st' := [.ref a0, .int (mI M a0 12)]) rfl ?_
  refine e_getI 7 11 rfl rfl (by decide) (aw (i := 1076) (by decide +kernel) rfl) ho1 rfl ?_
  refine e_icmp_ge 27 rfl rfl (fun hc => ?_) (fun hc => ?_)
  · replace h := h.1 hc
    refine e_blk 1 27 _ _ (pc' := 28) (L' := [some (.ref a0)]) (st' := [.int (-1 : Int32)]) rfl ?_
    refine e_drp [false] (L' := [none]) rfl ?_
    exact x_X7_sign_28  h
  · replace h := h.2 hc
    refine e_blk 1 11 _ _ (pc' := 12) (L' := [some (.ref a0)]) (st' := [.ref a0]) rfl ?_
    obtain ⟨b2, hbb2, h⟩ := h
    refine e_getR 7 10 rfl rfl (by decide) (aw (i := 1075) (by decide +kernel) rfl) ho1 rfl hbb2 ?_
    refine e_blk 1 15 _ _ (pc' := 16) (L' := [some (.ref a0)]) (st' := [.ref a0, .ref b2]) rfl ?_
    refine e_getI 7 12 rfl rfl (by decide) (aw (i := 1077) (by decide +kernel) rfl) ho1 rfl ?_
    obtain ⟨ho3, h⟩ := h
    obtain ⟨hi4, h⟩ := h
    refine e_bald rfl ho3 hi4 ?_
    refine e_blk 3 20 _ _ (pc' := 28) (L' := [some (.ref a0)]) (st' := [.int ((mI M b2 ((mI M a0 12)).toNatClampNeg) &&& (255 : Int32))]) rfl ?_
    refine e_drp [false] (L' := [none]) rfl ?_
    exact x_X7_sign_28  h
def V_X7_isFigure (K : Rs → Mm → Prop) (M : Mm) (a0 : Nat) : Prop := (ob M a0 7 ∧ V_X7_sign (kI (fun r3 M2 => V_X7_in (kI (fun r5 M4 => ((r5 = 0 ∨ r5 = 1) ∧ K (.inl (some (.int r5))) M4)) (fun _ _ => False)) M2 ((r3).toInt64) (48 : Int64) (57 : Int64)) (fun _ _ => False)) M a0)
set_option maxRecDepth 100000 in
set_option maxHeartbeats 4000000 in
theorem x_X7_isFigure {G : Gx} {K : Rs → Mm → Prop} {M : Mm} {a0 : Nat} (h : V_X7_isFigure K M a0) : MC G mi_X7_isFigure [.ref a0] M K := by
  unfold V_X7_isFigure at h
  refine mc_of rfl (by decide +kernel) dc_X7_isFigure (Nat.le_of_ble_eq_true rfl) 0 (Nat.le_of_ble_eq_true rfl) ?_
  show E G mi_X7_isFigure K M 0 0 0 [some (.ref a0)] []
  refine e_blk 1 0 _ _ (pc' := 1) (L' := [some (.ref a0)]) (st' := [.ref a0]) rfl ?_
  obtain ⟨ho1, h⟩ := h
  refine e_callV (As := []) (rest := []) (ci := 7) rfl (x_X7_sign h) ho1 rfl rfl rfl (aw (i := 1343) (by decide +kernel) rfl) wn_X7_sign wv_X7_sign wi_X7_sign wc_X7_sign (show cok mi_X7_isFigure mi_X7_sign 0 0 0 = true by decide +kernel) (Nat.le_of_ble_eq_true rfl) (fun v9 M2 hq => ?_) (fun X M9 hq => False.elim hq)
  obtain ⟨r3, rfl, h⟩ := kI_l hq
  refine e_blk 1 4 _ _ (pc' := 5) (L' := [some (.ref a0)]) (st' := [.long ((r3).toInt64)]) rfl ?_
  refine e_ldc2 (48) rfl (aw (i := 1397) (by decide +kernel) rfl) ?_
  refine e_ldc2 (57) rfl (aw (i := 1398) (by decide +kernel) rfl) ?_
  refine e_callS (As := [.long ((r3).toInt64), .long (48 : Int64), .long (57 : Int64)]) (rest := []) rfl (x_X7_in h) rfl (aw (i := 1256) (by decide +kernel) rfl) ws_X7_in wi_X7_in wc_X7_in (show cok mi_X7_isFigure mi_X7_in 0 0 3 = true by decide +kernel) (Nat.le_of_ble_eq_true rfl) (fun v9 M4 hq => ?_) (fun X M9 hq => False.elim hq)
  obtain ⟨r5, rfl, h⟩ := kI_l hq
  exact e_retz rfl rfl h.1 (by decide) (by decide) h.2
def V_X7_figures_79 (K : Rs → Mm → Prop)  (M : Mm) (l2 : Int32) : Prop := K (.inl (some (.int l2))) M
set_option maxRecDepth 100000 in
set_option maxHeartbeats 4000000 in
theorem x_X7_figures_79 {G : Gx} {K : Rs → Mm → Prop}  {M : Mm} {l2 : Int32} (h : V_X7_figures_79 K  M l2) : E G mi_X7_figures K M 0 0 79 [none, none, some (.int l2), none] [] := by
  unfold V_X7_figures_79 at h
  refine e_blk 1 79 _ _ (pc' := 80) (L' := [none, none, some (.int l2), none]) (st' := [.int l2]) rfl ?_
  exact e_reti rfl rfl (by decide) (by decide) h
def V_X7_figures_20 (K : Rs → Mm → Prop)  : Nat → Mm → Nat → Int32 → Int32 → Int32 → Prop
  | 0, _, _, _, _, _ => False
  | z + 1, M, l0, l1, l2, l3 => (ob M l0 7 ∧ ((¬ (mI M l0 13) = 0 → V_X7_figures_79 K  M l2) ∧ ((mI M l0 13) = 0 → V_X7_isFigure (kI (fun r3 M2 => ((r3 = 0 → V_X7_figures_79 K  M2 l2) ∧ (¬ r3 = 0 → ((¬ l3 = l1 → (ob M2 l0 7 ∧ V_X7_sign (kI (fun r6 M5 => ∀ x7 : Int32, x7 = ((((10 : Int32) * l2) + r6) - (48 : Int32)) → ∀ x8 : Int32, x8 = (l3 + (1 : Int32)) → (ob M5 l0 7 ∧ ∀ M10, M10 = sI M5 l0 12 ((mI M5 l0 12) + (1 : Int32)) → V_X7_figures_20 K  z M10 l0 l1 x7 x8)) (fun _ _ => False)) M2 l0)) ∧ (l3 = l1 → (ob M2 l0 7 ∧ V_X7_fail (kV (fun M12 => K (.inl (some (.int (0 : Int32)))) M12) (fun _ _ => False)) M2 l0 (1 : Int32) (mI M2 l0 12))))))) (fun _ _ => False)) M l0)))
set_option maxRecDepth 100000 in
set_option maxHeartbeats 4000000 in
theorem x_X7_figures_20 {G : Gx} {K : Rs → Mm → Prop}  : ∀ (z : Nat) (M : Mm) (l0 : Nat) (l1 : Int32) (l2 : Int32) (l3 : Int32), V_X7_figures_20 K  z M l0 l1 l2 l3 → E G mi_X7_figures K M 0 0 20 [some (.ref l0), some (.int l1), some (.int l2), some (.int l3)] []
  | 0, M, l0, l1, l2, l3, h => False.elim h
  | z + 1, M, l0, l1, l2, l3, h => by
    unfold V_X7_figures_20 at h
    refine e_blk 1 20 _ _ (pc' := 21) (L' := [some (.ref l0), some (.int l1), some (.int l2), some (.int l3)]) (st' := [.ref l0]) rfl ?_
    obtain ⟨ho1, h⟩ := h
    refine e_getI 7 13 rfl rfl (by decide) (aw (i := 1078) (by decide +kernel) rfl) ho1 rfl ?_
    refine e_if_ne 79 rfl rfl (fun hc => ?_) (fun hc => ?_)
    · replace h := h.1 hc
      refine e_drp [false, false, true, false] (L' := [none, none, some (.int l2), none]) rfl ?_
      exact x_X7_figures_79  h
    · replace h := h.2 hc
      refine e_blk 1 27 _ _ (pc' := 28) (L' := [some (.ref l0), some (.int l1), some (.int l2), some (.int l3)]) (st' := [.ref l0]) rfl ?_
      refine e_callV (As := []) (rest := []) (ci := 7) rfl (x_X7_isFigure h) ho1 rfl rfl rfl (aw (i := 1393) (by decide +kernel) rfl) wn_X7_isFigure wv_X7_isFigure wi_X7_isFigure wc_X7_isFigure (show cok mi_X7_figures mi_X7_isFigure 0 0 0 = true by decide +kernel) (Nat.le_of_ble_eq_true rfl) (fun v9 M2 hq => ?_) (fun X M9 hq => False.elim hq)
      obtain ⟨r3, rfl, h⟩ := kI_l hq
      refine e_if_eq 79 rfl rfl (fun hc => ?_) (fun hc => ?_)
      · replace h := h.1 hc
        refine e_drp [false, false, true, false] (L' := [none, none, some (.int l2), none]) rfl ?_
        exact x_X7_figures_79  h
      · replace h := h.2 hc
        refine e_blk 2 34 _ _ (pc' := 36) (L' := [some (.ref l0), some (.int l1), some (.int l2), some (.int l3)]) (st' := [.int l1, .int l3]) rfl ?_
        refine e_icmp_ne 50 rfl rfl (fun hc => ?_) (fun hc => ?_)
        · replace h := h.1 hc
          refine e_blk 4 50 _ _ (pc' := 55) (L' := [some (.ref l0), some (.int l1), some (.int l2), some (.int l3)]) (st' := [.ref l0, .int ((10 : Int32) * l2)]) rfl ?_
          obtain ⟨ho4, h⟩ := h
          refine e_callV (As := []) (rest := [.int ((10 : Int32) * l2)]) (ci := 7) rfl (x_X7_sign h) ho4 rfl rfl rfl (aw (i := 1343) (by decide +kernel) rfl) wn_X7_sign wv_X7_sign wi_X7_sign wc_X7_sign (show cok mi_X7_figures mi_X7_sign 0 0 0 = true by decide +kernel) (Nat.le_of_ble_eq_true rfl) (fun v9 M5 hq => ?_) (fun X M9 hq => False.elim hq)
          obtain ⟨r6, rfl, h⟩ := kI_l hq
          refine e_blk 7 58 _ _ (pc' := 68) (L' := [some (.ref l0), some (.int l1), some (.int ((((10 : Int32) * l2) + r6) - (48 : Int32))), some (.int (l3 + (1 : Int32)))]) (st' := [.ref l0, .ref l0]) rfl ?_
          generalize hx_x7 : (((((10 : Int32) * l2) + r6) - (48 : Int32)) : Int32) = x7
          replace h := h x7 hx_x7.symm
          generalize hx_x8 : ((l3 + (1 : Int32)) : Int32) = x8
          replace h := h x8 hx_x8.symm
          obtain ⟨ho9, h⟩ := h
          refine e_getI 7 12 rfl rfl (by decide) (aw (i := 1077) (by decide +kernel) rfl) ho9 rfl ?_
          refine e_blk 2 71 _ _ (pc' := 73) (L' := [some (.ref l0), some (.int l1), some (.int x7), some (.int x8)]) (st' := [.int ((mI M5 l0 12) + (1 : Int32)), .ref l0]) rfl ?_
          refine e_putI 7 12 rfl rfl (by decide) (aw (i := 1077) (by decide +kernel) rfl) rfl ho9 rfl ?_
          generalize hM10 : sI M5 l0 12 ((mI M5 l0 12) + (1 : Int32)) = M10
          replace h := h M10 hM10.symm
          replace ho9 : ob M10 l0 7 := hM10 ▸ ob_sI ho9
          refine e_blk 1 76 _ _ (pc' := 20) (L' := [some (.ref l0), some (.int l1), some (.int x7), some (.int x8)]) (st' := []) rfl ?_
          refine e_drp [true, true, true, true] (L' := [some (.ref l0), some (.int l1), some (.int x7), some (.int x8)]) rfl ?_
          exact x_X7_figures_20  z _ _ _ _ _ h
        · replace h := h.2 hc
          refine e_blk 3 39 _ _ (pc' := 42) (L' := [some (.ref l0), some (.int l1), some (.int l2), some (.int l3)]) (st' := [.ref l0, .int (1 : Int32), .ref l0]) rfl ?_
          obtain ⟨ho11, h⟩ := h
          refine e_getI 7 12 rfl rfl (by decide) (aw (i := 1077) (by decide +kernel) rfl) ho11 rfl ?_
          refine e_callV (As := [.int (1 : Int32), .int (mI M2 l0 12)]) (rest := []) (ci := 7) rfl (x_X7_fail h) ho11 rfl rfl rfl (aw (i := 1357) (by decide +kernel) rfl) wn_X7_fail wv_X7_fail wi_X7_fail wc_X7_fail (show cok mi_X7_figures mi_X7_fail 0 0 2 = true by decide +kernel) (Nat.le_of_ble_eq_true rfl) (fun v9 M12 hq => ?_) (fun X M9 hq => False.elim hq)
          obtain ⟨rfl, h⟩ := kV_l hq
          refine e_blk 1 48 _ _ (pc' := 49) (L' := [some (.ref l0), some (.int l1), some (.int l2), some (.int l3)]) (st' := [.int (0 : Int32)]) rfl ?_
          exact e_reti rfl rfl (by decide) (by decide) h
def V_X7_figures (K : Rs → Mm → Prop) (M : Mm) (a0 : Nat) (a1 : Int32) : Prop := (ob M a0 7 ∧ V_X7_isFigure (kI (fun r3 M2 => ((¬ r3 = 0 → ∃ y, V_X7_figures_20 K  y M2 a0 a1 (0 : Int32) (0 : Int32)) ∧ (r3 = 0 → (ob M2 a0 7 ∧ V_X7_fail (kV (fun M5 => ∃ y, V_X7_figures_20 K  y M5 a0 a1 (0 : Int32) (0 : Int32)) (fun _ _ => False)) M2 a0 (1 : Int32) (mI M2 a0 12))))) (fun _ _ => False)) M a0)
set_option maxRecDepth 100000 in
set_option maxHeartbeats 4000000 in
theorem x_X7_figures {G : Gx} {K : Rs → Mm → Prop} {M : Mm} {a0 : Nat} {a1 : Int32} (h : V_X7_figures K M a0 a1) : MC G mi_X7_figures [.ref a0, .int a1] M K := by
  unfold V_X7_figures at h
  refine mc_of rfl (by decide +kernel) dc_X7_figures (Nat.le_of_ble_eq_true rfl) 2 (Nat.le_of_ble_eq_true rfl) ?_
  show E G mi_X7_figures K M 0 0 0 [some (.ref a0), some (.int a1), none, none] []
  refine e_blk 5 0 _ _ (pc' := 5) (L' := [some (.ref a0), some (.int a1), some (.int (0 : Int32)), some (.int (0 : Int32))]) (st' := [.ref a0]) rfl ?_
  obtain ⟨ho1, h⟩ := h
  refine e_callV (As := []) (rest := []) (ci := 7) rfl (x_X7_isFigure h) ho1 rfl rfl rfl (aw (i := 1393) (by decide +kernel) rfl) wn_X7_isFigure wv_X7_isFigure wi_X7_isFigure wc_X7_isFigure (show cok mi_X7_figures mi_X7_isFigure 0 0 0 = true by decide +kernel) (Nat.le_of_ble_eq_true rfl) (fun v9 M2 hq => ?_) (fun X M9 hq => False.elim hq)
  obtain ⟨r3, rfl, h⟩ := kI_l hq
  refine e_if_ne 20 rfl rfl (fun hc => ?_) (fun hc => ?_)
  · replace h := h.1 hc
    refine e_drp [true, true, true, true] (L' := [some (.ref a0), some (.int a1), some (.int (0 : Int32)), some (.int (0 : Int32))]) rfl ?_
    obtain ⟨y, h⟩ := h
    exact x_X7_figures_20  y _ _ _ _ _ h
  · replace h := h.2 hc
    refine e_blk 3 11 _ _ (pc' := 14) (L' := [some (.ref a0), some (.int a1), some (.int (0 : Int32)), some (.int (0 : Int32))]) (st' := [.ref a0, .int (1 : Int32), .ref a0]) rfl ?_
    obtain ⟨ho4, h⟩ := h
    refine e_getI 7 12 rfl rfl (by decide) (aw (i := 1077) (by decide +kernel) rfl) ho4 rfl ?_
    refine e_callV (As := [.int (1 : Int32), .int (mI M2 a0 12)]) (rest := []) (ci := 7) rfl (x_X7_fail h) ho4 rfl rfl rfl (aw (i := 1357) (by decide +kernel) rfl) wn_X7_fail wv_X7_fail wi_X7_fail wc_X7_fail (show cok mi_X7_figures mi_X7_fail 0 0 2 = true by decide +kernel) (Nat.le_of_ble_eq_true rfl) (fun v9 M5 hq => ?_) (fun X M9 hq => False.elim hq)
    obtain ⟨rfl, h⟩ := kV_l hq
    refine e_drp [true, true, true, true] (L' := [some (.ref a0), some (.int a1), some (.int (0 : Int32)), some (.int (0 : Int32))]) rfl ?_
    obtain ⟨y, h⟩ := h
    exact x_X7_figures_20  y _ _ _ _ _ h
def V_X7_bounded_40 (K : Rs → Mm → Prop)  (M : Mm) (l5 : Int32) : Prop := K (.inl (some (.int l5))) M
set_option maxRecDepth 100000 in
set_option maxHeartbeats 4000000 in
theorem x_X7_bounded_40 {G : Gx} {K : Rs → Mm → Prop}  {M : Mm} {l5 : Int32} (h : V_X7_bounded_40 K  M l5) : E G mi_X7_bounded K M 0 0 40 [none, none, none, none, none, some (.int l5)] [] := by
  unfold V_X7_bounded_40 at h
  refine e_blk 1 40 _ _ (pc' := 42) (L' := [none, none, none, none, none, some (.int l5)]) (st' := [.int l5]) rfl ?_
  exact e_reti rfl rfl (by decide) (by decide) h
def V_X7_bounded (K : Rs → Mm → Prop) (M : Mm) (a0 : Nat) (a1 : Int32) (a2 : Int32) (a3 : Int32) : Prop := (ob M a0 7 ∧ ∀ x2 : Int32, x2 = (mI M a0 12) → V_X7_figures (kI (fun r4 M3 => (ob M3 a0 7 ∧ ((¬ (mI M3 a0 13) = 0 → V_X7_bounded_40 K  M3 r4) ∧ ((mI M3 a0 13) = 0 → V_X7_in (kI (fun r7 M6 => ((¬ r7 = 0 → V_X7_bounded_40 K  M6 r4) ∧ (r7 = 0 → (ob M6 a0 7 ∧ V_X7_fail (kV (fun M9 => V_X7_bounded_40 K  M9 r4) (fun _ _ => False)) M6 a0 (2 : Int32) x2)))) (fun _ _ => False)) M3 ((r4).toInt64) ((a2).toInt64) ((a3).toInt64))))) (fun _ _ => False)) M a0 a1)
set_option maxRecDepth 100000 in
set_option maxHeartbeats 4000000 in
theorem x_X7_bounded {G : Gx} {K : Rs → Mm → Prop} {M : Mm} {a0 : Nat} {a1 : Int32} {a2 : Int32} {a3 : Int32} (h : V_X7_bounded K M a0 a1 a2 a3) : MC G mi_X7_bounded [.ref a0, .int a1, .int a2, .int a3] M K := by
  unfold V_X7_bounded at h
  refine mc_of rfl (by decide +kernel) dc_X7_bounded (Nat.le_of_ble_eq_true rfl) 2 (Nat.le_of_ble_eq_true rfl) ?_
  show E G mi_X7_bounded K M 0 0 0 [some (.ref a0), some (.int a1), some (.int a2), some (.int a3), none, none] []
  refine e_blk 1 0 _ _ (pc' := 1) (L' := [some (.ref a0), some (.int a1), some (.int a2), some (.int a3), none, none]) (st' := [.ref a0]) rfl ?_
  obtain ⟨ho1, h⟩ := h
  refine e_getI 7 12 rfl rfl (by decide) (aw (i := 1077) (by decide +kernel) rfl) ho1 rfl ?_
  refine e_blk 3 4 _ _ (pc' := 8) (L' := [some (.ref a0), some (.int a1), some (.int a2), some (.int a3), some (.int (mI M a0 12)), none]) (st' := [.int a1, .ref a0]) rfl ?_
  generalize hx_x2 : ((mI M a0 12) : Int32) = x2
  replace h := h x2 hx_x2.symm
  refine e_callV (As := [.int a1]) (rest := []) (ci := 7) rfl (x_X7_figures h) ho1 rfl rfl rfl (aw (i := 1389) (by decide +kernel) rfl) wn_X7_figures wv_X7_figures wi_X7_figures wc_X7_figures (show cok mi_X7_bounded mi_X7_figures 0 0 1 = true by decide +kernel) (Nat.le_of_ble_eq_true rfl) (fun v9 M3 hq => ?_) (fun X M9 hq => False.elim hq)
  obtain ⟨r4, rfl, h⟩ := kI_l hq
  refine e_blk 2 11 _ _ (pc' := 14) (L' := [some (.ref a0), some (.int a1), some (.int a2), some (.int a3), some (.int x2), some (.int r4)]) (st' := [.ref a0]) rfl ?_
  obtain ⟨ho5, h⟩ := h
  refine e_getI 7 13 rfl rfl (by decide) (aw (i := 1078) (by decide +kernel) rfl) ho5 rfl ?_
  refine e_if_ne 40 rfl rfl (fun hc => ?_) (fun hc => ?_)
  · replace h := h.1 hc
    refine e_drp [false, false, false, false, false, true] (L' := [none, none, none, none, none, some (.int r4)]) rfl ?_
    exact x_X7_bounded_40  h
  · replace h := h.2 hc
    refine e_blk 6 20 _ _ (pc' := 27) (L' := [some (.ref a0), some (.int a1), some (.int a2), some (.int a3), some (.int x2), some (.int r4)]) (st' := [.long ((a3).toInt64), .long ((a2).toInt64), .long ((r4).toInt64)]) rfl ?_
    refine e_callS (As := [.long ((r4).toInt64), .long ((a2).toInt64), .long ((a3).toInt64)]) (rest := []) rfl (x_X7_in h) rfl (aw (i := 1256) (by decide +kernel) rfl) ws_X7_in wi_X7_in wc_X7_in (show cok mi_X7_bounded mi_X7_in 0 0 3 = true by decide +kernel) (Nat.le_of_ble_eq_true rfl) (fun v9 M6 hq => ?_) (fun X M9 hq => False.elim hq)
    obtain ⟨r7, rfl, h⟩ := kI_l hq
    refine e_if_ne 40 rfl rfl (fun hc => ?_) (fun hc => ?_)
    · replace h := h.1 hc
      refine e_drp [false, false, false, false, false, true] (L' := [none, none, none, none, none, some (.int r4)]) rfl ?_
      exact x_X7_bounded_40  h
    · replace h := h.2 hc
      refine e_blk 3 33 _ _ (pc' := 37) (L' := [some (.ref a0), some (.int a1), some (.int a2), some (.int a3), some (.int x2), some (.int r4)]) (st' := [.int x2, .int (2 : Int32), .ref a0]) rfl ?_
      obtain ⟨ho8, h⟩ := h
      refine e_callV (As := [.int (2 : Int32), .int x2]) (rest := []) (ci := 7) rfl (x_X7_fail h) ho8 rfl rfl rfl (aw (i := 1357) (by decide +kernel) rfl) wn_X7_fail wv_X7_fail wi_X7_fail wc_X7_fail (show cok mi_X7_bounded mi_X7_fail 0 0 2 = true by decide +kernel) (Nat.le_of_ble_eq_true rfl) (fun v9 M9 hq => ?_) (fun X M9 hq => False.elim hq)
      obtain ⟨rfl, h⟩ := kV_l hq
      refine e_drp [false, false, false, false, false, true] (L' := [none, none, none, none, none, some (.int r4)]) rfl ?_
      exact x_X7_bounded_40  h
def V_X7_letter_199 (K : Rs → Mm → Prop)  (M : Mm) (l1 : Int32) (l2 : Int32) : Prop := K (.inl (some (.int ((l2 >>> (((16 : Int32) - ((8 : Int32) * l1)) &&& 31)) &&& (255 : Int32))))) M
set_option maxRecDepth 100000 in
set_option maxHeartbeats 4000000 in
theorem x_X7_letter_199 {G : Gx} {K : Rs → Mm → Prop}  {M : Mm} {l1 : Int32} {l2 : Int32} (h : V_X7_letter_199 K  M l1 l2) : E G mi_X7_letter K M 0 0 199 [none, some (.int l1), some (.int l2)] [] := by
  unfold V_X7_letter_199 at h
  refine e_blk 9 199 _ _ (pc' := 212) (L' := [none, some (.int l1), some (.int l2)]) (st' := [.int ((l2 >>> (((16 : Int32) - ((8 : Int32) * l1)) &&& 31)) &&& (255 : Int32))]) rfl ?_
  exact e_reti rfl rfl (by decide) (by decide) h
def V_X7_letter (K : Rs → Mm → Prop) (M : Mm) (a0 : Int32) (a1 : Int32) : Prop := ((((a0).toInt < 0 ∨ 17 < (a0).toInt) → V_X7_letter_199 K  M a1 (7561588 : Int32)) ∧ ((a0 = 0 → V_X7_letter_199 K  M a1 (6971758 : Int32)) ∧ ((a0 = 1 → V_X7_letter_199 K  M a1 (6710626 : Int32)) ∧ ((a0 = 2 → V_X7_letter_199 K  M a1 (7168370 : Int32)) ∧ ((a0 = 3 → V_X7_letter_199 K  M a1 (6385778 : Int32)) ∧ ((a0 = 4 → V_X7_letter_199 K  M a1 (7168377 : Int32)) ∧ ((a0 = 5 → V_X7_letter_199 K  M a1 (6976878 : Int32)) ∧ ((a0 = 6 → V_X7_letter_199 K  M a1 (6976876 : Int32)) ∧ ((a0 = 7 → V_X7_letter_199 K  M a1 (6387047 : Int32)) ∧ ((a0 = 8 → V_X7_letter_199 K  M a1 (7562608 : Int32)) ∧ ((a0 = 9 → V_X7_letter_199 K  M a1 (7299956 : Int32)) ∧ ((a0 = 10 → V_X7_letter_199 K  M a1 (7237494 : Int32)) ∧ ((a0 = 11 → V_X7_letter_199 K  M a1 (6579555 : Int32)) ∧ ((a0 = 12 → V_X7_letter_199 K  M a1 (7566702 : Int32)) ∧ ((a0 = 13 → V_X7_letter_199 K  M a1 (7171950 : Int32)) ∧ ((a0 = 14 → V_X7_letter_199 K  M a1 (7632229 : Int32)) ∧ ((a0 = 15 → V_X7_letter_199 K  M a1 (7824740 : Int32)) ∧ ((a0 = 16 → V_X7_letter_199 K  M a1 (7628917 : Int32)) ∧ ((a0 = 17 → V_X7_letter_199 K  M a1 (6713961 : Int32)) ∧ True)))))))))))))))))))
set_option maxRecDepth 100000 in
set_option maxHeartbeats 4000000 in
theorem x_X7_letter {G : Gx} {K : Rs → Mm → Prop} {M : Mm} {a0 : Int32} {a1 : Int32} (h : V_X7_letter K M a0 a1) : MC G mi_X7_letter [.int a0, .int a1] M K := by
  unfold V_X7_letter at h
  refine mc_of rfl (by decide +kernel) dc_X7_letter (Nat.le_of_ble_eq_true rfl) 1 (Nat.le_of_ble_eq_true rfl) ?_
  show E G mi_X7_letter K M 0 0 0 [some (.int a0), some (.int a1), none] []
  refine e_blk 1 0 _ _ (pc' := 1) (L' := [some (.int a0), some (.int a1), none]) (st' := [.int a0]) rfl ?_
  by_cases hs1 : (a0).toInt < 0 ∨ 17 < (a0).toInt
  · replace h := h.1 hs1
    refine e_swO 196 rfl hs1 rfl ?_
    refine e_ldc (7561588) rfl (aw (i := 1440) (by decide +kernel) rfl) ?_
    refine e_blk 1 198 _ _ (pc' := 199) (L' := [some (.int a0), some (.int a1), some (.int (7561588 : Int32))]) (st' := []) rfl ?_
    refine e_drp [false, true, true] (L' := [none, some (.int a1), some (.int (7561588 : Int32))]) rfl ?_
    exact x_X7_letter_199  h
  replace h := h.2
  by_cases he2 : a0 = 0
  · replace h := h.1 he2
    refine e_swI (87) 88 rfl (fun q => hs1 (Or.inl q)) (fun q => hs1 (Or.inr q)) (by rw [he2]; decide) rfl ?_
    refine e_ldc (6971758) rfl (aw (i := 1422) (by decide +kernel) rfl) ?_
    refine e_blk 2 90 _ _ (pc' := 199) (L' := [some (.int a0), some (.int a1), some (.int (6971758 : Int32))]) (st' := []) rfl ?_
    refine e_drp [false, true, true] (L' := [none, some (.int a1), some (.int (6971758 : Int32))]) rfl ?_
    exact x_X7_letter_199  h
  replace h := h.2
  by_cases he3 : a0 = 1
  · replace h := h.1 he3
    refine e_swI (93) 94 rfl (fun q => hs1 (Or.inl q)) (fun q => hs1 (Or.inr q)) (by rw [he3]; decide) rfl ?_
    refine e_ldc (6710626) rfl (aw (i := 1423) (by decide +kernel) rfl) ?_
    refine e_blk 2 96 _ _ (pc' := 199) (L' := [some (.int a0), some (.int a1), some (.int (6710626 : Int32))]) (st' := []) rfl ?_
    refine e_drp [false, true, true] (L' := [none, some (.int a1), some (.int (6710626 : Int32))]) rfl ?_
    exact x_X7_letter_199  h
  replace h := h.2
  by_cases he4 : a0 = 2
  · replace h := h.1 he4
    refine e_swI (99) 100 rfl (fun q => hs1 (Or.inl q)) (fun q => hs1 (Or.inr q)) (by rw [he4]; decide) rfl ?_
    refine e_ldc (7168370) rfl (aw (i := 1424) (by decide +kernel) rfl) ?_
    refine e_blk 2 102 _ _ (pc' := 199) (L' := [some (.int a0), some (.int a1), some (.int (7168370 : Int32))]) (st' := []) rfl ?_
    refine e_drp [false, true, true] (L' := [none, some (.int a1), some (.int (7168370 : Int32))]) rfl ?_
    exact x_X7_letter_199  h
  replace h := h.2
  by_cases he5 : a0 = 3
  · replace h := h.1 he5
    refine e_swI (105) 106 rfl (fun q => hs1 (Or.inl q)) (fun q => hs1 (Or.inr q)) (by rw [he5]; decide) rfl ?_
    refine e_ldc (6385778) rfl (aw (i := 1425) (by decide +kernel) rfl) ?_
    refine e_blk 2 108 _ _ (pc' := 199) (L' := [some (.int a0), some (.int a1), some (.int (6385778 : Int32))]) (st' := []) rfl ?_
    refine e_drp [false, true, true] (L' := [none, some (.int a1), some (.int (6385778 : Int32))]) rfl ?_
    exact x_X7_letter_199  h
  replace h := h.2
  by_cases he6 : a0 = 4
  · replace h := h.1 he6
    refine e_swI (111) 112 rfl (fun q => hs1 (Or.inl q)) (fun q => hs1 (Or.inr q)) (by rw [he6]; decide) rfl ?_
    refine e_ldc (7168377) rfl (aw (i := 1426) (by decide +kernel) rfl) ?_
    refine e_blk 2 114 _ _ (pc' := 199) (L' := [some (.int a0), some (.int a1), some (.int (7168377 : Int32))]) (st' := []) rfl ?_
    refine e_drp [false, true, true] (L' := [none, some (.int a1), some (.int (7168377 : Int32))]) rfl ?_
    exact x_X7_letter_199  h
  replace h := h.2
  by_cases he7 : a0 = 5
  · replace h := h.1 he7
    refine e_swI (117) 118 rfl (fun q => hs1 (Or.inl q)) (fun q => hs1 (Or.inr q)) (by rw [he7]; decide) rfl ?_
    refine e_ldc (6976878) rfl (aw (i := 1427) (by decide +kernel) rfl) ?_
    refine e_blk 2 120 _ _ (pc' := 199) (L' := [some (.int a0), some (.int a1), some (.int (6976878 : Int32))]) (st' := []) rfl ?_
    refine e_drp [false, true, true] (L' := [none, some (.int a1), some (.int (6976878 : Int32))]) rfl ?_
    exact x_X7_letter_199  h
  replace h := h.2
  by_cases he8 : a0 = 6
  · replace h := h.1 he8
    refine e_swI (123) 124 rfl (fun q => hs1 (Or.inl q)) (fun q => hs1 (Or.inr q)) (by rw [he8]; decide) rfl ?_
    refine e_ldc (6976876) rfl (aw (i := 1428) (by decide +kernel) rfl) ?_
    refine e_blk 2 126 _ _ (pc' := 199) (L' := [some (.int a0), some (.int a1), some (.int (6976876 : Int32))]) (st' := []) rfl ?_
    refine e_drp [false, true, true] (L' := [none, some (.int a1), some (.int (6976876 : Int32))]) rfl ?_
    exact x_X7_letter_199  h
  replace h := h.2
  by_cases he9 : a0 = 7
  · replace h := h.1 he9
    refine e_swI (129) 130 rfl (fun q => hs1 (Or.inl q)) (fun q => hs1 (Or.inr q)) (by rw [he9]; decide) rfl ?_
    refine e_ldc (6387047) rfl (aw (i := 1429) (by decide +kernel) rfl) ?_
    refine e_blk 2 132 _ _ (pc' := 199) (L' := [some (.int a0), some (.int a1), some (.int (6387047 : Int32))]) (st' := []) rfl ?_
    refine e_drp [false, true, true] (L' := [none, some (.int a1), some (.int (6387047 : Int32))]) rfl ?_
    exact x_X7_letter_199  h
  replace h := h.2
  by_cases he10 : a0 = 8
  · replace h := h.1 he10
    refine e_swI (135) 136 rfl (fun q => hs1 (Or.inl q)) (fun q => hs1 (Or.inr q)) (by rw [he10]; decide) rfl ?_
    refine e_ldc (7562608) rfl (aw (i := 1430) (by decide +kernel) rfl) ?_
    refine e_blk 2 138 _ _ (pc' := 199) (L' := [some (.int a0), some (.int a1), some (.int (7562608 : Int32))]) (st' := []) rfl ?_
    refine e_drp [false, true, true] (L' := [none, some (.int a1), some (.int (7562608 : Int32))]) rfl ?_
    exact x_X7_letter_199  h
  replace h := h.2
  by_cases he11 : a0 = 9
  · replace h := h.1 he11
    refine e_swI (141) 142 rfl (fun q => hs1 (Or.inl q)) (fun q => hs1 (Or.inr q)) (by rw [he11]; decide) rfl ?_
    refine e_ldc (7299956) rfl (aw (i := 1431) (by decide +kernel) rfl) ?_
    refine e_blk 2 144 _ _ (pc' := 199) (L' := [some (.int a0), some (.int a1), some (.int (7299956 : Int32))]) (st' := []) rfl ?_
    refine e_drp [false, true, true] (L' := [none, some (.int a1), some (.int (7299956 : Int32))]) rfl ?_
    exact x_X7_letter_199  h
  replace h := h.2
  by_cases he12 : a0 = 10
  · replace h := h.1 he12
    refine e_swI (147) 148 rfl (fun q => hs1 (Or.inl q)) (fun q => hs1 (Or.inr q)) (by rw [he12]; decide) rfl ?_
    refine e_ldc (7237494) rfl (aw (i := 1432) (by decide +kernel) rfl) ?_
    refine e_blk 2 150 _ _ (pc' := 199) (L' := [some (.int a0), some (.int a1), some (.int (7237494 : Int32))]) (st' := []) rfl ?_
    refine e_drp [false, true, true] (L' := [none, some (.int a1), some (.int (7237494 : Int32))]) rfl ?_
    exact x_X7_letter_199  h
  replace h := h.2
  by_cases he13 : a0 = 11
  · replace h := h.1 he13
    refine e_swI (153) 154 rfl (fun q => hs1 (Or.inl q)) (fun q => hs1 (Or.inr q)) (by rw [he13]; decide) rfl ?_
    refine e_ldc (6579555) rfl (aw (i := 1433) (by decide +kernel) rfl) ?_
    refine e_blk 2 156 _ _ (pc' := 199) (L' := [some (.int a0), some (.int a1), some (.int (6579555 : Int32))]) (st' := []) rfl ?_
    refine e_drp [false, true, true] (L' := [none, some (.int a1), some (.int (6579555 : Int32))]) rfl ?_
    exact x_X7_letter_199  h
  replace h := h.2
  by_cases he14 : a0 = 12
  · replace h := h.1 he14
    refine e_swI (159) 160 rfl (fun q => hs1 (Or.inl q)) (fun q => hs1 (Or.inr q)) (by rw [he14]; decide) rfl ?_
    refine e_ldc (7566702) rfl (aw (i := 1434) (by decide +kernel) rfl) ?_
    refine e_blk 2 162 _ _ (pc' := 199) (L' := [some (.int a0), some (.int a1), some (.int (7566702 : Int32))]) (st' := []) rfl ?_
    refine e_drp [false, true, true] (L' := [none, some (.int a1), some (.int (7566702 : Int32))]) rfl ?_
    exact x_X7_letter_199  h
  replace h := h.2
  by_cases he15 : a0 = 13
  · replace h := h.1 he15
    refine e_swI (165) 166 rfl (fun q => hs1 (Or.inl q)) (fun q => hs1 (Or.inr q)) (by rw [he15]; decide) rfl ?_
    refine e_ldc (7171950) rfl (aw (i := 1435) (by decide +kernel) rfl) ?_
    refine e_blk 2 168 _ _ (pc' := 199) (L' := [some (.int a0), some (.int a1), some (.int (7171950 : Int32))]) (st' := []) rfl ?_
    refine e_drp [false, true, true] (L' := [none, some (.int a1), some (.int (7171950 : Int32))]) rfl ?_
    exact x_X7_letter_199  h
  replace h := h.2
  by_cases he16 : a0 = 14
  · replace h := h.1 he16
    refine e_swI (171) 172 rfl (fun q => hs1 (Or.inl q)) (fun q => hs1 (Or.inr q)) (by rw [he16]; decide) rfl ?_
    refine e_ldc (7632229) rfl (aw (i := 1436) (by decide +kernel) rfl) ?_
    refine e_blk 2 174 _ _ (pc' := 199) (L' := [some (.int a0), some (.int a1), some (.int (7632229 : Int32))]) (st' := []) rfl ?_
    refine e_drp [false, true, true] (L' := [none, some (.int a1), some (.int (7632229 : Int32))]) rfl ?_
    exact x_X7_letter_199  h
  replace h := h.2
  by_cases he17 : a0 = 15
  · replace h := h.1 he17
    refine e_swI (177) 178 rfl (fun q => hs1 (Or.inl q)) (fun q => hs1 (Or.inr q)) (by rw [he17]; decide) rfl ?_
    refine e_ldc (7824740) rfl (aw (i := 1437) (by decide +kernel) rfl) ?_
    refine e_blk 2 180 _ _ (pc' := 199) (L' := [some (.int a0), some (.int a1), some (.int (7824740 : Int32))]) (st' := []) rfl ?_
    refine e_drp [false, true, true] (L' := [none, some (.int a1), some (.int (7824740 : Int32))]) rfl ?_
    exact x_X7_letter_199  h
  replace h := h.2
  by_cases he18 : a0 = 16
  · replace h := h.1 he18
    refine e_swI (183) 184 rfl (fun q => hs1 (Or.inl q)) (fun q => hs1 (Or.inr q)) (by rw [he18]; decide) rfl ?_
    refine e_ldc (7628917) rfl (aw (i := 1438) (by decide +kernel) rfl) ?_
    refine e_blk 2 186 _ _ (pc' := 199) (L' := [some (.int a0), some (.int a1), some (.int (7628917 : Int32))]) (st' := []) rfl ?_
    refine e_drp [false, true, true] (L' := [none, some (.int a1), some (.int (7628917 : Int32))]) rfl ?_
    exact x_X7_letter_199  h
  replace h := h.2
  by_cases he19 : a0 = 17
  · replace h := h.1 he19
    refine e_swI (189) 190 rfl (fun q => hs1 (Or.inl q)) (fun q => hs1 (Or.inr q)) (by rw [he19]; decide) rfl ?_
    refine e_ldc (6713961) rfl (aw (i := 1439) (by decide +kernel) rfl) ?_
    refine e_blk 2 192 _ _ (pc' := 199) (L' := [some (.int a0), some (.int a1), some (.int (6713961 : Int32))]) (st' := []) rfl ?_
    refine e_drp [false, true, true] (L' := [none, some (.int a1), some (.int (6713961 : Int32))]) rfl ?_
    exact x_X7_letter_199  h
  replace h := h.2
  exfalso
  have the2 : (a0).toInt ≠ 0 := fun q => he2 (Int32.toInt_inj.mp (q.trans (by decide)))
  have the3 : (a0).toInt ≠ 1 := fun q => he3 (Int32.toInt_inj.mp (q.trans (by decide)))
  have the4 : (a0).toInt ≠ 2 := fun q => he4 (Int32.toInt_inj.mp (q.trans (by decide)))
  have the5 : (a0).toInt ≠ 3 := fun q => he5 (Int32.toInt_inj.mp (q.trans (by decide)))
  have the6 : (a0).toInt ≠ 4 := fun q => he6 (Int32.toInt_inj.mp (q.trans (by decide)))
  have the7 : (a0).toInt ≠ 5 := fun q => he7 (Int32.toInt_inj.mp (q.trans (by decide)))
  have the8 : (a0).toInt ≠ 6 := fun q => he8 (Int32.toInt_inj.mp (q.trans (by decide)))
  have the9 : (a0).toInt ≠ 7 := fun q => he9 (Int32.toInt_inj.mp (q.trans (by decide)))
  have the10 : (a0).toInt ≠ 8 := fun q => he10 (Int32.toInt_inj.mp (q.trans (by decide)))
  have the11 : (a0).toInt ≠ 9 := fun q => he11 (Int32.toInt_inj.mp (q.trans (by decide)))
  have the12 : (a0).toInt ≠ 10 := fun q => he12 (Int32.toInt_inj.mp (q.trans (by decide)))
  have the13 : (a0).toInt ≠ 11 := fun q => he13 (Int32.toInt_inj.mp (q.trans (by decide)))
  have the14 : (a0).toInt ≠ 12 := fun q => he14 (Int32.toInt_inj.mp (q.trans (by decide)))
  have the15 : (a0).toInt ≠ 13 := fun q => he15 (Int32.toInt_inj.mp (q.trans (by decide)))
  have the16 : (a0).toInt ≠ 14 := fun q => he16 (Int32.toInt_inj.mp (q.trans (by decide)))
  have the17 : (a0).toInt ≠ 15 := fun q => he17 (Int32.toInt_inj.mp (q.trans (by decide)))
  have the18 : (a0).toInt ≠ 16 := fun q => he18 (Int32.toInt_inj.mp (q.trans (by decide)))
  have the19 : (a0).toInt ≠ 17 := fun q => he19 (Int32.toInt_inj.mp (q.trans (by decide)))
  omega
def V_X7_named_204 (K : Rs → Mm → Prop) (B160 : Mm → Nat → Int32 → Int32 → Int32 → Int32 → Int32 → Int32 → Prop) (M : Mm) (l0 : Nat) (l1 : Int32) (l2 : Int32) (l3 : Int32) (l4 : Int32) (l6 : Int32) (s0 : Int32) : Prop := ∀ x1 : Int32, x1 = (l6 + (1 : Int32)) → B160 M l0 l1 l2 l3 l4 s0 x1
set_option maxRecDepth 100000 in
set_option maxHeartbeats 4000000 in
theorem x_X7_named_204 {G : Gx} {K : Rs → Mm → Prop} {B160 : Mm → Nat → Int32 → Int32 → Int32 → Int32 → Int32 → Int32 → Prop} (hB160 : ∀ M l0 l1 l2 l3 l4 l5 l6, B160 M l0 l1 l2 l3 l4 l5 l6 → E G mi_X7_named K M 0 0 160 [some (.ref l0), some (.int l1), some (.int l2), some (.int l3), some (.int l4), some (.int l5), some (.int l6), none, none] []) {M : Mm} {l0 : Nat} {l1 : Int32} {l2 : Int32} {l3 : Int32} {l4 : Int32} {l6 : Int32} {s0 : Int32} (h : V_X7_named_204 K B160 M l0 l1 l2 l3 l4 l6 s0) : E G mi_X7_named K M 0 0 204 [some (.ref l0), some (.int l1), some (.int l2), some (.int l3), some (.int l4), none, some (.int l6), none, none] [.int s0] := by
  unfold V_X7_named_204 at h
  refine e_blk 3 204 _ _ (pc' := 160) (L' := [some (.ref l0), some (.int l1), some (.int l2), some (.int l3), some (.int l4), some (.int s0), some (.int (l6 + (1 : Int32))), none, none]) (st' := []) rfl ?_
  generalize hx_x1 : ((l6 + (1 : Int32)) : Int32) = x1
  replace h := h x1 hx_x1.symm
  refine e_drp [true, true, true, true, true, true, true, false, false] (L' := [some (.ref l0), some (.int l1), some (.int l2), some (.int l3), some (.int l4), some (.int s0), some (.int x1), none, none]) rfl ?_
  exact hB160 _ _ _ _ _ _ _ _ h
def V_X7_named_203 (K : Rs → Mm → Prop) (B160 : Mm → Nat → Int32 → Int32 → Int32 → Int32 → Int32 → Int32 → Prop) (M : Mm) (l0 : Nat) (l1 : Int32) (l2 : Int32) (l3 : Int32) (l4 : Int32) (l6 : Int32) : Prop := V_X7_named_204 K B160 M l0 l1 l2 l3 l4 l6 (0 : Int32)
set_option maxRecDepth 100000 in
set_option maxHeartbeats 4000000 in
theorem x_X7_named_203 {G : Gx} {K : Rs → Mm → Prop} {B160 : Mm → Nat → Int32 → Int32 → Int32 → Int32 → Int32 → Int32 → Prop} (hB160 : ∀ M l0 l1 l2 l3 l4 l5 l6, B160 M l0 l1 l2 l3 l4 l5 l6 → E G mi_X7_named K M 0 0 160 [some (.ref l0), some (.int l1), some (.int l2), some (.int l3), some (.int l4), some (.int l5), some (.int l6), none, none] []) {M : Mm} {l0 : Nat} {l1 : Int32} {l2 : Int32} {l3 : Int32} {l4 : Int32} {l6 : Int32} (h : V_X7_named_203 K B160 M l0 l1 l2 l3 l4 l6) : E G mi_X7_named K M 0 0 203 [some (.ref l0), some (.int l1), some (.int l2), some (.int l3), some (.int l4), none, some (.int l6), none, none] [] := by
  unfold V_X7_named_203 at h
  refine e_blk 1 203 _ _ (pc' := 204) (L' := [some (.ref l0), some (.int l1), some (.int l2), some (.int l3), some (.int l4), none, some (.int l6), none, none]) (st' := [.int (0 : Int32)]) rfl ?_
  refine e_drp [true, true, true, true, true, false, true, false, false] (L' := [some (.ref l0), some (.int l1), some (.int l2), some (.int l3), some (.int l4), none, some (.int l6), none, none]) rfl ?_
  exact x_X7_named_204 hB160 h
def V_X7_named_160 (K : Rs → Mm → Prop) (B148 : Mm → Nat → Int32 → Int32 → Int32 → Int32 → Prop) : Nat → Mm → Nat → Int32 → Int32 → Int32 → Int32 → Int32 → Int32 → Prop
  | 0, _, _, _, _, _, _, _, _ => False
  | z + 1, M, l0, l1, l2, l3, l4, l5, l6 => (((3 : Int32) ≤ l6 → ((l5 = 0 → ∀ x1 : Int32, x1 = (l4 + (1 : Int32)) → B148 M l0 l1 l2 l3 x1) ∧ (¬ l5 = 0 → K (.inl (some (.int ((l3 + l4) - l1)))) M))) ∧ (¬ (3 : Int32) ≤ l6 → ((l5 = 0 → V_X7_named_203 K (fun M l0 l1 l2 l3 l4 l5 l6 => V_X7_named_160 K B148 z M l0 l1 l2 l3 l4 l5 l6) M l0 l1 l2 l3 l4 l6) ∧ (¬ l5 = 0 → (ob M l0 7 ∧ ∃ b3, mP M l0 10 = some b3 ∧ (ob M b3 8 ∧ (vp_in (((mI M l0 12) - (3 : Int32)) + l6) (mN M b3) ∧ V_X7_letter (kI (fun r7 M6 => ((¬ ((mI M b3 ((((mI M l0 12) - (3 : Int32)) + l6)).toNatClampNeg) &&& (255 : Int32)) = r7 → V_X7_named_203 K (fun M l0 l1 l2 l3 l4 l5 l6 => V_X7_named_160 K B148 z M l0 l1 l2 l3 l4 l5 l6) M6 l0 l1 l2 l3 l4 l6) ∧ (((mI M b3 ((((mI M l0 12) - (3 : Int32)) + l6)).toNatClampNeg) &&& (255 : Int32)) = r7 → V_X7_named_204 K (fun M l0 l1 l2 l3 l4 l5 l6 => V_X7_named_160 K B148 z M l0 l1 l2 l3 l4 l5 l6) M6 l0 l1 l2 l3 l4 l6 (1 : Int32)))) (fun _ _ => False)) M l4 l6)))))))
set_option maxRecDepth 100000 in
set_option maxHeartbeats 4000000 in
theorem x_X7_named_160 {G : Gx} {K : Rs → Mm → Prop} {B148 : Mm → Nat → Int32 → Int32 → Int32 → Int32 → Prop} (hB148 : ∀ M l0 l1 l2 l3 l4, B148 M l0 l1 l2 l3 l4 → E G mi_X7_named K M 0 0 148 [some (.ref l0), some (.int l1), some (.int l2), some (.int l3), some (.int l4), none, none, none, none] []) : ∀ (z : Nat) (M : Mm) (l0 : Nat) (l1 : Int32) (l2 : Int32) (l3 : Int32) (l4 : Int32) (l5 : Int32) (l6 : Int32), V_X7_named_160 K B148 z M l0 l1 l2 l3 l4 l5 l6 → E G mi_X7_named K M 0 0 160 [some (.ref l0), some (.int l1), some (.int l2), some (.int l3), some (.int l4), some (.int l5), some (.int l6), none, none] []
  | 0, M, l0, l1, l2, l3, l4, l5, l6, h => False.elim h
  | z + 1, M, l0, l1, l2, l3, l4, l5, l6, h => by
    unfold V_X7_named_160 at h
    refine e_blk 2 160 _ _ (pc' := 163) (L' := [some (.ref l0), some (.int l1), some (.int l2), some (.int l3), some (.int l4), some (.int l5), some (.int l6), none, none]) (st' := [.int (3 : Int32), .int l6]) rfl ?_
    refine e_icmp_ge 212 rfl rfl (fun hc => ?_) (fun hc => ?_)
    · replace h := h.1 hc
      refine e_blk 1 212 _ _ (pc' := 214) (L' := [some (.ref l0), some (.int l1), some (.int l2), some (.int l3), some (.int l4), some (.int l5), some (.int l6), none, none]) (st' := [.int l5]) rfl ?_
      refine e_if_eq 224 rfl rfl (fun hc => ?_) (fun hc => ?_)
      · replace h := h.1 hc
        refine e_blk 2 224 _ _ (pc' := 148) (L' := [some (.ref l0), some (.int l1), some (.int l2), some (.int l3), some (.int (l4 + (1 : Int32))), some (.int l5), some (.int l6), none, none]) (st' := []) rfl ?_
        generalize hx_x1 : ((l4 + (1 : Int32)) : Int32) = x1
        replace h := h x1 hx_x1.symm
        refine e_drp [true, true, true, true, true, false, false, false, false] (L' := [some (.ref l0), some (.int l1), some (.int l2), some (.int l3), some (.int x1), none, none, none, none]) rfl ?_
        exact hB148 _ _ _ _ _ _ h
      · replace h := h.2 hc
        refine e_blk 5 217 _ _ (pc' := 223) (L' := [some (.ref l0), some (.int l1), some (.int l2), some (.int l3), some (.int l4), some (.int l5), some (.int l6), none, none]) (st' := [.int ((l3 + l4) - l1)]) rfl ?_
        exact e_reti rfl rfl (by decide) (by decide) h
    · replace h := h.2 hc
      refine e_blk 1 166 _ _ (pc' := 168) (L' := [some (.ref l0), some (.int l1), some (.int l2), some (.int l3), some (.int l4), some (.int l5), some (.int l6), none, none]) (st' := [.int l5]) rfl ?_
      refine e_if_eq 203 rfl rfl (fun hc => ?_) (fun hc => ?_)
      · replace h := h.1 hc
        refine e_drp [true, true, true, true, true, false, true, false, false] (L' := [some (.ref l0), some (.int l1), some (.int l2), some (.int l3), some (.int l4), none, some (.int l6), none, none]) rfl ?_
        exact x_X7_named_203 (fun M l0 l1 l2 l3 l4 l5 l6 h => x_X7_named_160 hB148 z M l0 l1 l2 l3 l4 l5 l6 h) h
      · replace h := h.2 hc
        refine e_blk 1 171 _ _ (pc' := 172) (L' := [some (.ref l0), some (.int l1), some (.int l2), some (.int l3), some (.int l4), some (.int l5), some (.int l6), none, none]) (st' := [.ref l0]) rfl ?_
        obtain ⟨ho2, h⟩ := h
        obtain ⟨b3, hbb3, h⟩ := h
        refine e_getR 7 10 rfl rfl (by decide) (aw (i := 1075) (by decide +kernel) rfl) ho2 rfl hbb3 ?_
        refine e_blk 1 175 _ _ (pc' := 176) (L' := [some (.ref l0), some (.int l1), some (.int l2), some (.int l3), some (.int l4), some (.int l5), some (.int l6), none, none]) (st' := [.ref l0, .ref b3]) rfl ?_
        refine e_getI 7 12 rfl rfl (by decide) (aw (i := 1077) (by decide +kernel) rfl) ho2 rfl ?_
        refine e_blk 4 179 _ _ (pc' := 184) (L' := [some (.ref l0), some (.int l1), some (.int l2), some (.int l3), some (.int l4), some (.int l5), some (.int l6), none, none]) (st' := [.int (((mI M l0 12) - (3 : Int32)) + l6), .ref b3]) rfl ?_
        obtain ⟨ho4, h⟩ := h
        obtain ⟨hi5, h⟩ := h
        refine e_bald rfl ho4 hi5 ?_
        refine e_blk 4 185 _ _ (pc' := 193) (L' := [some (.ref l0), some (.int l1), some (.int l2), some (.int l3), some (.int l4), some (.int l5), some (.int l6), none, none]) (st' := [.int l6, .int l4, .int ((mI M b3 ((((mI M l0 12) - (3 : Int32)) + l6)).toNatClampNeg) &&& (255 : Int32))]) rfl ?_
        refine e_callS (As := [.int l4, .int l6]) (rest := [.int ((mI M b3 ((((mI M l0 12) - (3 : Int32)) + l6)).toNatClampNeg) &&& (255 : Int32))]) rfl (x_X7_letter h) rfl (aw (i := 1419) (by decide +kernel) rfl) ws_X7_letter wi_X7_letter wc_X7_letter (show cok mi_X7_named mi_X7_letter 0 0 2 = true by decide +kernel) (Nat.le_of_ble_eq_true rfl) (fun v9 M6 hq => ?_) (fun X M9 hq => False.elim hq)
        obtain ⟨r7, rfl, h⟩ := kI_l hq
        refine e_icmp_ne 203 rfl rfl (fun hc => ?_) (fun hc => ?_)
        · replace h := h.1 hc
          refine e_drp [true, true, true, true, true, false, true, false, false] (L' := [some (.ref l0), some (.int l1), some (.int l2), some (.int l3), some (.int l4), none, some (.int l6), none, none]) rfl ?_
          exact x_X7_named_203 (fun M l0 l1 l2 l3 l4 l5 l6 h => x_X7_named_160 hB148 z M l0 l1 l2 l3 l4 l5 l6 h) h
        · replace h := h.2 hc
          refine e_blk 2 199 _ _ (pc' := 204) (L' := [some (.ref l0), some (.int l1), some (.int l2), some (.int l3), some (.int l4), some (.int l5), some (.int l6), none, none]) (st' := [.int (1 : Int32)]) rfl ?_
          refine e_drp [true, true, true, true, true, false, true, false, false] (L' := [some (.ref l0), some (.int l1), some (.int l2), some (.int l3), some (.int l4), none, some (.int l6), none, none]) rfl ?_
          exact x_X7_named_204 (fun M l0 l1 l2 l3 l4 l5 l6 h => x_X7_named_160 hB148 z M l0 l1 l2 l3 l4 l5 l6 h) h
def V_X7_named_148 (K : Rs → Mm → Prop)  : Nat → Mm → Nat → Int32 → Int32 → Int32 → Int32 → Prop
  | 0, _, _, _, _, _, _ => False
  | z + 1, M, l0, l1, l2, l3, l4 => ((l2 ≤ l4 → K (.inl (some (.int (0 : Int32)))) M) ∧ (¬ l2 ≤ l4 → ∃ y, V_X7_named_160 K (fun M l0 l1 l2 l3 l4 => V_X7_named_148 K  z M l0 l1 l2 l3 l4) y M l0 l1 l2 l3 l4 (1 : Int32) (0 : Int32)))
set_option maxRecDepth 100000 in
set_option maxHeartbeats 4000000 in
theorem x_X7_named_148 {G : Gx} {K : Rs → Mm → Prop}  : ∀ (z : Nat) (M : Mm) (l0 : Nat) (l1 : Int32) (l2 : Int32) (l3 : Int32) (l4 : Int32), V_X7_named_148 K  z M l0 l1 l2 l3 l4 → E G mi_X7_named K M 0 0 148 [some (.ref l0), some (.int l1), some (.int l2), some (.int l3), some (.int l4), none, none, none, none] []
  | 0, M, l0, l1, l2, l3, l4, h => False.elim h
  | z + 1, M, l0, l1, l2, l3, l4, h => by
    unfold V_X7_named_148 at h
    refine e_blk 2 148 _ _ (pc' := 151) (L' := [some (.ref l0), some (.int l1), some (.int l2), some (.int l3), some (.int l4), none, none, none, none]) (st' := [.int l2, .int l4]) rfl ?_
    refine e_icmp_ge 230 rfl rfl (fun hc => ?_) (fun hc => ?_)
    · replace h := h.1 hc
      refine e_blk 1 230 _ _ (pc' := 231) (L' := [some (.ref l0), some (.int l1), some (.int l2), some (.int l3), some (.int l4), none, none, none, none]) (st' := [.int (0 : Int32)]) rfl ?_
      exact e_reti rfl rfl (by decide) (by decide) h
    · replace h := h.2 hc
      refine e_blk 4 154 _ _ (pc' := 160) (L' := [some (.ref l0), some (.int l1), some (.int l2), some (.int l3), some (.int l4), some (.int (1 : Int32)), some (.int (0 : Int32)), none, none]) (st' := []) rfl ?_
      refine e_drp [true, true, true, true, true, true, true, false, false] (L' := [some (.ref l0), some (.int l1), some (.int l2), some (.int l3), some (.int l4), some (.int (1 : Int32)), some (.int (0 : Int32)), none, none]) rfl ?_
      obtain ⟨y, h⟩ := h
      exact x_X7_named_160 (fun M l0 l1 l2 l3 l4 h => x_X7_named_148  z M l0 l1 l2 l3 l4 h) y _ _ _ _ _ _ _ _ h
def V_X7_named_113 (K : Rs → Mm → Prop) (B3 : Mm → Nat → Int32 → Int32 → Int32 → Int32 → Prop) (M : Mm) (l0 : Nat) (l1 : Int32) (l2 : Int32) (l3 : Int32) (l4 : Int32) (l5 : Int32) : Prop := ((¬ l5 = 0 → (ob M l0 7 ∧ ∀ M2, M2 = sI M l0 12 ((mI M l0 12) + (1 : Int32)) → ∀ x3 : Int32, x3 = (l4 + (1 : Int32)) → B3 M2 l0 l1 l2 l3 x3)) ∧ (l5 = 0 → (ob M l0 7 ∧ V_X7_fail (kV (fun M5 => K (.inl (some (.int (0 : Int32)))) M5) (fun _ _ => False)) M l0 (1 : Int32) (mI M l0 12))))
set_option maxRecDepth 100000 in
set_option maxHeartbeats 4000000 in
theorem x_X7_named_113 {G : Gx} {K : Rs → Mm → Prop} {B3 : Mm → Nat → Int32 → Int32 → Int32 → Int32 → Prop} (hB3 : ∀ M l0 l1 l2 l3 l4, B3 M l0 l1 l2 l3 l4 → E G mi_X7_named K M 0 0 3 [some (.ref l0), some (.int l1), some (.int l2), some (.int l3), some (.int l4), none, none, none, none] []) {M : Mm} {l0 : Nat} {l1 : Int32} {l2 : Int32} {l3 : Int32} {l4 : Int32} {l5 : Int32} (h : V_X7_named_113 K B3 M l0 l1 l2 l3 l4 l5) : E G mi_X7_named K M 0 0 113 [some (.ref l0), some (.int l1), some (.int l2), some (.int l3), some (.int l4), some (.int l5), none, none, none] [] := by
  unfold V_X7_named_113 at h
  refine e_blk 1 113 _ _ (pc' := 115) (L' := [some (.ref l0), some (.int l1), some (.int l2), some (.int l3), some (.int l4), some (.int l5), none, none, none]) (st' := [.int l5]) rfl ?_
  refine e_if_ne 129 rfl rfl (fun hc => ?_) (fun hc => ?_)
  · replace h := h.1 hc
    refine e_blk 2 129 _ _ (pc' := 131) (L' := [some (.ref l0), some (.int l1), some (.int l2), some (.int l3), some (.int l4), some (.int l5), none, none, none]) (st' := [.ref l0, .ref l0]) rfl ?_
    obtain ⟨ho1, h⟩ := h
    refine e_getI 7 12 rfl rfl (by decide) (aw (i := 1077) (by decide +kernel) rfl) ho1 rfl ?_
    refine e_blk 2 134 _ _ (pc' := 136) (L' := [some (.ref l0), some (.int l1), some (.int l2), some (.int l3), some (.int l4), some (.int l5), none, none, none]) (st' := [.int ((mI M l0 12) + (1 : Int32)), .ref l0]) rfl ?_
    refine e_putI 7 12 rfl rfl (by decide) (aw (i := 1077) (by decide +kernel) rfl) rfl ho1 rfl ?_
    generalize hM2 : sI M l0 12 ((mI M l0 12) + (1 : Int32)) = M2
    replace h := h M2 hM2.symm
    replace ho1 : ob M2 l0 7 := hM2 ▸ ob_sI ho1
    refine e_blk 2 139 _ _ (pc' := 3) (L' := [some (.ref l0), some (.int l1), some (.int l2), some (.int l3), some (.int (l4 + (1 : Int32))), some (.int l5), none, none, none]) (st' := []) rfl ?_
    generalize hx_x3 : ((l4 + (1 : Int32)) : Int32) = x3
    replace h := h x3 hx_x3.symm
    refine e_drp [true, true, true, true, true, false, false, false, false] (L' := [some (.ref l0), some (.int l1), some (.int l2), some (.int l3), some (.int x3), none, none, none, none]) rfl ?_
    exact hB3 _ _ _ _ _ _ h
  · replace h := h.2 hc
    refine e_blk 3 118 _ _ (pc' := 121) (L' := [some (.ref l0), some (.int l1), some (.int l2), some (.int l3), some (.int l4), some (.int l5), none, none, none]) (st' := [.ref l0, .int (1 : Int32), .ref l0]) rfl ?_
    obtain ⟨ho4, h⟩ := h
    refine e_getI 7 12 rfl rfl (by decide) (aw (i := 1077) (by decide +kernel) rfl) ho4 rfl ?_
    refine e_callV (As := [.int (1 : Int32), .int (mI M l0 12)]) (rest := []) (ci := 7) rfl (x_X7_fail h) ho4 rfl rfl rfl (aw (i := 1357) (by decide +kernel) rfl) wn_X7_fail wv_X7_fail wi_X7_fail wc_X7_fail (show cok mi_X7_named mi_X7_fail 0 0 2 = true by decide +kernel) (Nat.le_of_ble_eq_true rfl) (fun v9 M5 hq => ?_) (fun X M9 hq => False.elim hq)
    obtain ⟨rfl, h⟩ := kV_l hq
    refine e_blk 1 127 _ _ (pc' := 128) (L' := [some (.ref l0), some (.int l1), some (.int l2), some (.int l3), some (.int l4), some (.int l5), none, none, none]) (st' := [.int (0 : Int32)]) rfl ?_
    exact e_reti rfl rfl (by decide) (by decide) h
def V_X7_named_103 (K : Rs → Mm → Prop) (B15 : Mm → Nat → Int32 → Int32 → Int32 → Int32 → Int32 → Int32 → Prop) (M : Mm) (l0 : Nat) (l1 : Int32) (l2 : Int32) (l3 : Int32) (l4 : Int32) (l6 : Int32) (l7 : Int32) : Prop := ∀ x1 : Int32, x1 = (l6 + (1 : Int32)) → B15 M l0 l1 l2 l3 l4 l7 x1
set_option maxRecDepth 100000 in
set_option maxHeartbeats 4000000 in
theorem x_X7_named_103 {G : Gx} {K : Rs → Mm → Prop} {B15 : Mm → Nat → Int32 → Int32 → Int32 → Int32 → Int32 → Int32 → Prop} (hB15 : ∀ M l0 l1 l2 l3 l4 l5 l6, B15 M l0 l1 l2 l3 l4 l5 l6 → E G mi_X7_named K M 0 0 15 [some (.ref l0), some (.int l1), some (.int l2), some (.int l3), some (.int l4), some (.int l5), some (.int l6), none, none] []) {M : Mm} {l0 : Nat} {l1 : Int32} {l2 : Int32} {l3 : Int32} {l4 : Int32} {l6 : Int32} {l7 : Int32} (h : V_X7_named_103 K B15 M l0 l1 l2 l3 l4 l6 l7) : E G mi_X7_named K M 0 0 103 [some (.ref l0), some (.int l1), some (.int l2), some (.int l3), some (.int l4), none, some (.int l6), some (.int l7), none] [] := by
  unfold V_X7_named_103 at h
  refine e_blk 4 103 _ _ (pc' := 15) (L' := [some (.ref l0), some (.int l1), some (.int l2), some (.int l3), some (.int l4), some (.int l7), some (.int (l6 + (1 : Int32))), some (.int l7), none]) (st' := []) rfl ?_
  generalize hx_x1 : ((l6 + (1 : Int32)) : Int32) = x1
  replace h := h x1 hx_x1.symm
  refine e_drp [true, true, true, true, true, true, true, false, false] (L' := [some (.ref l0), some (.int l1), some (.int l2), some (.int l3), some (.int l4), some (.int l7), some (.int x1), none, none]) rfl ?_
  exact hB15 _ _ _ _ _ _ _ _ h
def V_X7_named_95 (K : Rs → Mm → Prop) (B32 : Mm → Nat → Int32 → Int32 → Int32 → Int32 → Int32 → Int32 → Int32 → Prop) (M : Mm) (l0 : Nat) (l1 : Int32) (l2 : Int32) (l3 : Int32) (l4 : Int32) (l6 : Int32) (l8 : Int32) (s0 : Int32) : Prop := ∀ x1 : Int32, x1 = (l8 + (1 : Int32)) → B32 M l0 l1 l2 l3 l4 l6 s0 x1
set_option maxRecDepth 100000 in
set_option maxHeartbeats 4000000 in
theorem x_X7_named_95 {G : Gx} {K : Rs → Mm → Prop} {B32 : Mm → Nat → Int32 → Int32 → Int32 → Int32 → Int32 → Int32 → Int32 → Prop} (hB32 : ∀ M l0 l1 l2 l3 l4 l6 l7 l8, B32 M l0 l1 l2 l3 l4 l6 l7 l8 → E G mi_X7_named K M 0 0 32 [some (.ref l0), some (.int l1), some (.int l2), some (.int l3), some (.int l4), none, some (.int l6), some (.int l7), some (.int l8)] []) {M : Mm} {l0 : Nat} {l1 : Int32} {l2 : Int32} {l3 : Int32} {l4 : Int32} {l6 : Int32} {l8 : Int32} {s0 : Int32} (h : V_X7_named_95 K B32 M l0 l1 l2 l3 l4 l6 l8 s0) : E G mi_X7_named K M 0 0 95 [some (.ref l0), some (.int l1), some (.int l2), some (.int l3), some (.int l4), none, some (.int l6), none, some (.int l8)] [.int s0] := by
  unfold V_X7_named_95 at h
  refine e_blk 3 95 _ _ (pc' := 32) (L' := [some (.ref l0), some (.int l1), some (.int l2), some (.int l3), some (.int l4), none, some (.int l6), some (.int s0), some (.int (l8 + (1 : Int32)))]) (st' := []) rfl ?_
  generalize hx_x1 : ((l8 + (1 : Int32)) : Int32) = x1
  replace h := h x1 hx_x1.symm
  refine e_drp [true, true, true, true, true, false, true, true, true] (L' := [some (.ref l0), some (.int l1), some (.int l2), some (.int l3), some (.int l4), none, some (.int l6), some (.int s0), some (.int x1)]) rfl ?_
  exact hB32 _ _ _ _ _ _ _ _ _ h
def V_X7_named_94 (K : Rs → Mm → Prop) (B32 : Mm → Nat → Int32 → Int32 → Int32 → Int32 → Int32 → Int32 → Int32 → Prop) (M : Mm) (l0 : Nat) (l1 : Int32) (l2 : Int32) (l3 : Int32) (l4 : Int32) (l6 : Int32) (l8 : Int32) : Prop := V_X7_named_95 K B32 M l0 l1 l2 l3 l4 l6 l8 (0 : Int32)
set_option maxRecDepth 100000 in
set_option maxHeartbeats 4000000 in
theorem x_X7_named_94 {G : Gx} {K : Rs → Mm → Prop} {B32 : Mm → Nat → Int32 → Int32 → Int32 → Int32 → Int32 → Int32 → Int32 → Prop} (hB32 : ∀ M l0 l1 l2 l3 l4 l6 l7 l8, B32 M l0 l1 l2 l3 l4 l6 l7 l8 → E G mi_X7_named K M 0 0 32 [some (.ref l0), some (.int l1), some (.int l2), some (.int l3), some (.int l4), none, some (.int l6), some (.int l7), some (.int l8)] []) {M : Mm} {l0 : Nat} {l1 : Int32} {l2 : Int32} {l3 : Int32} {l4 : Int32} {l6 : Int32} {l8 : Int32} (h : V_X7_named_94 K B32 M l0 l1 l2 l3 l4 l6 l8) : E G mi_X7_named K M 0 0 94 [some (.ref l0), some (.int l1), some (.int l2), some (.int l3), some (.int l4), none, some (.int l6), none, some (.int l8)] [] := by
  unfold V_X7_named_94 at h
  refine e_blk 1 94 _ _ (pc' := 95) (L' := [some (.ref l0), some (.int l1), some (.int l2), some (.int l3), some (.int l4), none, some (.int l6), none, some (.int l8)]) (st' := [.int (0 : Int32)]) rfl ?_
  refine e_drp [true, true, true, true, true, false, true, false, true] (L' := [some (.ref l0), some (.int l1), some (.int l2), some (.int l3), some (.int l4), none, some (.int l6), none, some (.int l8)]) rfl ?_
  exact x_X7_named_95 hB32 h
def V_X7_named_32 (K : Rs → Mm → Prop) (B15 : Mm → Nat → Int32 → Int32 → Int32 → Int32 → Int32 → Int32 → Prop) : Nat → Mm → Nat → Int32 → Int32 → Int32 → Int32 → Int32 → Int32 → Int32 → Prop
  | 0, _, _, _, _, _, _, _, _, _ => False
  | z + 1, M, l0, l1, l2, l3, l4, l6, l7, l8 => ((l4 < l8 → V_X7_named_103 K B15 M l0 l1 l2 l3 l4 l6 l7) ∧ (¬ l4 < l8 → ((l7 = 0 → V_X7_named_103 K B15 M l0 l1 l2 l3 l4 l6 l7) ∧ (¬ l7 = 0 → (ob M l0 7 ∧ (((mI M l0 11) ≤ (((mI M l0 12) - l4) + l8) → V_X7_named_94 K (fun M l0 l1 l2 l3 l4 l6 l7 l8 => V_X7_named_32 K B15 z M l0 l1 l2 l3 l4 l6 l7 l8) M l0 l1 l2 l3 l4 l6 l8) ∧ (¬ (mI M l0 11) ≤ (((mI M l0 12) - l4) + l8) → ∃ b2, mP M l0 10 = some b2 ∧ (ob M b2 8 ∧ (vp_in (((mI M l0 12) - l4) + l8) (mN M b2) ∧ V_X7_letter (kI (fun r6 M5 => ((¬ ((mI M b2 ((((mI M l0 12) - l4) + l8)).toNatClampNeg) &&& (255 : Int32)) = r6 → V_X7_named_94 K (fun M l0 l1 l2 l3 l4 l6 l7 l8 => V_X7_named_32 K B15 z M l0 l1 l2 l3 l4 l6 l7 l8) M5 l0 l1 l2 l3 l4 l6 l8) ∧ (((mI M b2 ((((mI M l0 12) - l4) + l8)).toNatClampNeg) &&& (255 : Int32)) = r6 → V_X7_named_95 K (fun M l0 l1 l2 l3 l4 l6 l7 l8 => V_X7_named_32 K B15 z M l0 l1 l2 l3 l4 l6 l7 l8) M5 l0 l1 l2 l3 l4 l6 l8 (1 : Int32)))) (fun _ _ => False)) M l6 l8)))))))))
set_option maxRecDepth 100000 in
set_option maxHeartbeats 4000000 in
theorem x_X7_named_32 {G : Gx} {K : Rs → Mm → Prop} {B15 : Mm → Nat → Int32 → Int32 → Int32 → Int32 → Int32 → Int32 → Prop} (hB15 : ∀ M l0 l1 l2 l3 l4 l5 l6, B15 M l0 l1 l2 l3 l4 l5 l6 → E G mi_X7_named K M 0 0 15 [some (.ref l0), some (.int l1), some (.int l2), some (.int l3), some (.int l4), some (.int l5), some (.int l6), none, none] []) : ∀ (z : Nat) (M : Mm) (l0 : Nat) (l1 : Int32) (l2 : Int32) (l3 : Int32) (l4 : Int32) (l6 : Int32) (l7 : Int32) (l8 : Int32), V_X7_named_32 K B15 z M l0 l1 l2 l3 l4 l6 l7 l8 → E G mi_X7_named K M 0 0 32 [some (.ref l0), some (.int l1), some (.int l2), some (.int l3), some (.int l4), none, some (.int l6), some (.int l7), some (.int l8)] []
  | 0, M, l0, l1, l2, l3, l4, l6, l7, l8, h => False.elim h
  | z + 1, M, l0, l1, l2, l3, l4, l6, l7, l8, h => by
    unfold V_X7_named_32 at h
    refine e_blk 2 32 _ _ (pc' := 36) (L' := [some (.ref l0), some (.int l1), some (.int l2), some (.int l3), some (.int l4), none, some (.int l6), some (.int l7), some (.int l8)]) (st' := [.int l4, .int l8]) rfl ?_
    refine e_icmp_gt 103 rfl rfl (fun hc => ?_) (fun hc => ?_)
    · replace h := h.1 hc
      refine e_drp [true, true, true, true, true, false, true, true, false] (L' := [some (.ref l0), some (.int l1), some (.int l2), some (.int l3), some (.int l4), none, some (.int l6), some (.int l7), none]) rfl ?_
      exact x_X7_named_103 hB15 h
    · replace h := h.2 hc
      refine e_blk 1 39 _ _ (pc' := 41) (L' := [some (.ref l0), some (.int l1), some (.int l2), some (.int l3), some (.int l4), none, some (.int l6), some (.int l7), some (.int l8)]) (st' := [.int l7]) rfl ?_
      refine e_if_eq 103 rfl rfl (fun hc => ?_) (fun hc => ?_)
      · replace h := h.1 hc
        refine e_drp [true, true, true, true, true, false, true, true, false] (L' := [some (.ref l0), some (.int l1), some (.int l2), some (.int l3), some (.int l4), none, some (.int l6), some (.int l7), none]) rfl ?_
        exact x_X7_named_103 hB15 h
      · replace h := h.2 hc
        refine e_blk 1 44 _ _ (pc' := 45) (L' := [some (.ref l0), some (.int l1), some (.int l2), some (.int l3), some (.int l4), none, some (.int l6), some (.int l7), some (.int l8)]) (st' := [.ref l0]) rfl ?_
        obtain ⟨ho1, h⟩ := h
        refine e_getI 7 12 rfl rfl (by decide) (aw (i := 1077) (by decide +kernel) rfl) ho1 rfl ?_
        refine e_blk 5 48 _ _ (pc' := 55) (L' := [some (.ref l0), some (.int l1), some (.int l2), some (.int l3), some (.int l4), none, some (.int l6), some (.int l7), some (.int l8)]) (st' := [.ref l0, .int (((mI M l0 12) - l4) + l8)]) rfl ?_
        refine e_getI 7 11 rfl rfl (by decide) (aw (i := 1076) (by decide +kernel) rfl) ho1 rfl ?_
        refine e_icmp_ge 94 rfl rfl (fun hc => ?_) (fun hc => ?_)
        · replace h := h.1 hc
          refine e_drp [true, true, true, true, true, false, true, false, true] (L' := [some (.ref l0), some (.int l1), some (.int l2), some (.int l3), some (.int l4), none, some (.int l6), none, some (.int l8)]) rfl ?_
          exact x_X7_named_94 (fun M l0 l1 l2 l3 l4 l6 l7 l8 h => x_X7_named_32 hB15 z M l0 l1 l2 l3 l4 l6 l7 l8 h) h
        · replace h := h.2 hc
          refine e_blk 1 61 _ _ (pc' := 62) (L' := [some (.ref l0), some (.int l1), some (.int l2), some (.int l3), some (.int l4), none, some (.int l6), some (.int l7), some (.int l8)]) (st' := [.ref l0]) rfl ?_
          obtain ⟨b2, hbb2, h⟩ := h
          refine e_getR 7 10 rfl rfl (by decide) (aw (i := 1075) (by decide +kernel) rfl) ho1 rfl hbb2 ?_
          refine e_blk 1 65 _ _ (pc' := 66) (L' := [some (.ref l0), some (.int l1), some (.int l2), some (.int l3), some (.int l4), none, some (.int l6), some (.int l7), some (.int l8)]) (st' := [.ref l0, .ref b2]) rfl ?_
          refine e_getI 7 12 rfl rfl (by decide) (aw (i := 1077) (by decide +kernel) rfl) ho1 rfl ?_
          refine e_blk 4 69 _ _ (pc' := 75) (L' := [some (.ref l0), some (.int l1), some (.int l2), some (.int l3), some (.int l4), none, some (.int l6), some (.int l7), some (.int l8)]) (st' := [.int (((mI M l0 12) - l4) + l8), .ref b2]) rfl ?_
          obtain ⟨ho3, h⟩ := h
          obtain ⟨hi4, h⟩ := h
          refine e_bald rfl ho3 hi4 ?_
          refine e_blk 4 76 _ _ (pc' := 84) (L' := [some (.ref l0), some (.int l1), some (.int l2), some (.int l3), some (.int l4), none, some (.int l6), some (.int l7), some (.int l8)]) (st' := [.int l8, .int l6, .int ((mI M b2 ((((mI M l0 12) - l4) + l8)).toNatClampNeg) &&& (255 : Int32))]) rfl ?_
          refine e_callS (As := [.int l6, .int l8]) (rest := [.int ((mI M b2 ((((mI M l0 12) - l4) + l8)).toNatClampNeg) &&& (255 : Int32))]) rfl (x_X7_letter h) rfl (aw (i := 1419) (by decide +kernel) rfl) ws_X7_letter wi_X7_letter wc_X7_letter (show cok mi_X7_named mi_X7_letter 0 0 2 = true by decide +kernel) (Nat.le_of_ble_eq_true rfl) (fun v9 M5 hq => ?_) (fun X M9 hq => False.elim hq)
          obtain ⟨r6, rfl, h⟩ := kI_l hq
          refine e_icmp_ne 94 rfl rfl (fun hc => ?_) (fun hc => ?_)
          · replace h := h.1 hc
            refine e_drp [true, true, true, true, true, false, true, false, true] (L' := [some (.ref l0), some (.int l1), some (.int l2), some (.int l3), some (.int l4), none, some (.int l6), none, some (.int l8)]) rfl ?_
            exact x_X7_named_94 (fun M l0 l1 l2 l3 l4 l6 l7 l8 h => x_X7_named_32 hB15 z M l0 l1 l2 l3 l4 l6 l7 l8 h) h
          · replace h := h.2 hc
            refine e_blk 2 90 _ _ (pc' := 95) (L' := [some (.ref l0), some (.int l1), some (.int l2), some (.int l3), some (.int l4), none, some (.int l6), some (.int l7), some (.int l8)]) (st' := [.int (1 : Int32)]) rfl ?_
            refine e_drp [true, true, true, true, true, false, true, false, true] (L' := [some (.ref l0), some (.int l1), some (.int l2), some (.int l3), some (.int l4), none, some (.int l6), none, some (.int l8)]) rfl ?_
            exact x_X7_named_95 (fun M l0 l1 l2 l3 l4 l6 l7 l8 h => x_X7_named_32 hB15 z M l0 l1 l2 l3 l4 l6 l7 l8 h) h
def V_X7_named_15 (K : Rs → Mm → Prop) (B3 : Mm → Nat → Int32 → Int32 → Int32 → Int32 → Prop) : Nat → Mm → Nat → Int32 → Int32 → Int32 → Int32 → Int32 → Int32 → Prop
  | 0, _, _, _, _, _, _, _, _ => False
  | z + 1, M, l0, l1, l2, l3, l4, l5, l6 => ((l2 ≤ l6 → V_X7_named_113 K B3 M l0 l1 l2 l3 l4 l5) ∧ (¬ l2 ≤ l6 → ((¬ l5 = 0 → V_X7_named_113 K B3 M l0 l1 l2 l3 l4 l5) ∧ (l5 = 0 → ∃ y, V_X7_named_32 K (fun M l0 l1 l2 l3 l4 l5 l6 => V_X7_named_15 K B3 z M l0 l1 l2 l3 l4 l5 l6) y M l0 l1 l2 l3 l4 l6 (1 : Int32) (0 : Int32)))))
set_option maxRecDepth 100000 in
set_option maxHeartbeats 4000000 in
theorem x_X7_named_15 {G : Gx} {K : Rs → Mm → Prop} {B3 : Mm → Nat → Int32 → Int32 → Int32 → Int32 → Prop} (hB3 : ∀ M l0 l1 l2 l3 l4, B3 M l0 l1 l2 l3 l4 → E G mi_X7_named K M 0 0 3 [some (.ref l0), some (.int l1), some (.int l2), some (.int l3), some (.int l4), none, none, none, none] []) : ∀ (z : Nat) (M : Mm) (l0 : Nat) (l1 : Int32) (l2 : Int32) (l3 : Int32) (l4 : Int32) (l5 : Int32) (l6 : Int32), V_X7_named_15 K B3 z M l0 l1 l2 l3 l4 l5 l6 → E G mi_X7_named K M 0 0 15 [some (.ref l0), some (.int l1), some (.int l2), some (.int l3), some (.int l4), some (.int l5), some (.int l6), none, none] []
  | 0, M, l0, l1, l2, l3, l4, l5, l6, h => False.elim h
  | z + 1, M, l0, l1, l2, l3, l4, l5, l6, h => by
    unfold V_X7_named_15 at h
    refine e_blk 2 15 _ _ (pc' := 18) (L' := [some (.ref l0), some (.int l1), some (.int l2), some (.int l3), some (.int l4), some (.int l5), some (.int l6), none, none]) (st' := [.int l2, .int l6]) rfl ?_
    refine e_icmp_ge 113 rfl rfl (fun hc => ?_) (fun hc => ?_)
    · replace h := h.1 hc
      refine e_drp [true, true, true, true, true, true, false, false, false] (L' := [some (.ref l0), some (.int l1), some (.int l2), some (.int l3), some (.int l4), some (.int l5), none, none, none]) rfl ?_
      exact x_X7_named_113 hB3 h
    · replace h := h.2 hc
      refine e_blk 1 21 _ _ (pc' := 23) (L' := [some (.ref l0), some (.int l1), some (.int l2), some (.int l3), some (.int l4), some (.int l5), some (.int l6), none, none]) (st' := [.int l5]) rfl ?_
      refine e_if_ne 113 rfl rfl (fun hc => ?_) (fun hc => ?_)
      · replace h := h.1 hc
        refine e_drp [true, true, true, true, true, true, false, false, false] (L' := [some (.ref l0), some (.int l1), some (.int l2), some (.int l3), some (.int l4), some (.int l5), none, none, none]) rfl ?_
        exact x_X7_named_113 hB3 h
      · replace h := h.2 hc
        refine e_blk 4 26 _ _ (pc' := 32) (L' := [some (.ref l0), some (.int l1), some (.int l2), some (.int l3), some (.int l4), some (.int l5), some (.int l6), some (.int (1 : Int32)), some (.int (0 : Int32))]) (st' := []) rfl ?_
        refine e_drp [true, true, true, true, true, false, true, true, true] (L' := [some (.ref l0), some (.int l1), some (.int l2), some (.int l3), some (.int l4), none, some (.int l6), some (.int (1 : Int32)), some (.int (0 : Int32))]) rfl ?_
        obtain ⟨y, h⟩ := h
        exact x_X7_named_32 (fun M l0 l1 l2 l3 l4 l5 l6 h => x_X7_named_15 hB3 z M l0 l1 l2 l3 l4 l5 l6 h) y _ _ _ _ _ _ _ _ _ h
def V_X7_named_3 (K : Rs → Mm → Prop)  : Nat → Mm → Nat → Int32 → Int32 → Int32 → Int32 → Prop
  | 0, _, _, _, _, _, _ => False
  | z + 1, M, l0, l1, l2, l3, l4 => (((3 : Int32) ≤ l4 → ∃ y, V_X7_named_148 K  y M l0 l1 l2 l3 l1) ∧ (¬ (3 : Int32) ≤ l4 → ∃ y, V_X7_named_15 K (fun M l0 l1 l2 l3 l4 => V_X7_named_3 K  z M l0 l1 l2 l3 l4) y M l0 l1 l2 l3 l4 (0 : Int32) l1))
set_option maxRecDepth 100000 in
set_option maxHeartbeats 4000000 in
theorem x_X7_named_3 {G : Gx} {K : Rs → Mm → Prop}  : ∀ (z : Nat) (M : Mm) (l0 : Nat) (l1 : Int32) (l2 : Int32) (l3 : Int32) (l4 : Int32), V_X7_named_3 K  z M l0 l1 l2 l3 l4 → E G mi_X7_named K M 0 0 3 [some (.ref l0), some (.int l1), some (.int l2), some (.int l3), some (.int l4), none, none, none, none] []
  | 0, M, l0, l1, l2, l3, l4, h => False.elim h
  | z + 1, M, l0, l1, l2, l3, l4, h => by
    unfold V_X7_named_3 at h
    refine e_blk 2 3 _ _ (pc' := 6) (L' := [some (.ref l0), some (.int l1), some (.int l2), some (.int l3), some (.int l4), none, none, none, none]) (st' := [.int (3 : Int32), .int l4]) rfl ?_
    refine e_icmp_ge 145 rfl rfl (fun hc => ?_) (fun hc => ?_)
    · replace h := h.1 hc
      refine e_blk 2 145 _ _ (pc' := 148) (L' := [some (.ref l0), some (.int l1), some (.int l2), some (.int l3), some (.int l1), none, none, none, none]) (st' := []) rfl ?_
      refine e_drp [true, true, true, true, true, false, false, false, false] (L' := [some (.ref l0), some (.int l1), some (.int l2), some (.int l3), some (.int l1), none, none, none, none]) rfl ?_
      obtain ⟨y, h⟩ := h
      exact x_X7_named_148  y _ _ _ _ _ _ h
    · replace h := h.2 hc
      refine e_blk 4 9 _ _ (pc' := 15) (L' := [some (.ref l0), some (.int l1), some (.int l2), some (.int l3), some (.int l4), some (.int (0 : Int32)), some (.int l1), none, none]) (st' := []) rfl ?_
      refine e_drp [true, true, true, true, true, true, true, false, false] (L' := [some (.ref l0), some (.int l1), some (.int l2), some (.int l3), some (.int l4), some (.int (0 : Int32)), some (.int l1), none, none]) rfl ?_
      obtain ⟨y, h⟩ := h
      exact x_X7_named_15 (fun M l0 l1 l2 l3 l4 h => x_X7_named_3  z M l0 l1 l2 l3 l4 h) y _ _ _ _ _ _ _ _ h
def V_X7_named (K : Rs → Mm → Prop) (M : Mm) (a0 : Nat) (a1 : Int32) (a2 : Int32) (a3 : Int32) : Prop := ∃ y, V_X7_named_3 K  y M a0 a1 a2 a3 (0 : Int32)
set_option maxRecDepth 100000 in
set_option maxHeartbeats 4000000 in
theorem x_X7_named {G : Gx} {K : Rs → Mm → Prop} {M : Mm} {a0 : Nat} {a1 : Int32} {a2 : Int32} {a3 : Int32} (h : V_X7_named K M a0 a1 a2 a3) : MC G mi_X7_named [.ref a0, .int a1, .int a2, .int a3] M K := by
  unfold V_X7_named at h
  refine mc_of rfl (by decide +kernel) dc_X7_named (Nat.le_of_ble_eq_true rfl) 5 (Nat.le_of_ble_eq_true rfl) ?_
  show E G mi_X7_named K M 0 0 0 [some (.ref a0), some (.int a1), some (.int a2), some (.int a3), none, none, none, none, none] []
  refine e_blk 2 0 _ _ (pc' := 3) (L' := [some (.ref a0), some (.int a1), some (.int a2), some (.int a3), some (.int (0 : Int32)), none, none, none, none]) (st' := []) rfl ?_
  refine e_drp [true, true, true, true, true, false, false, false, false] (L' := [some (.ref a0), some (.int a1), some (.int a2), some (.int a3), some (.int (0 : Int32)), none, none, none, none]) rfl ?_
  obtain ⟨y, h⟩ := h
  exact x_X7_named_3  y _ _ _ _ _ _ h
def V_X7_least_26 (K : Rs → Mm → Prop)  (M : Mm) (s0 : Int32) : Prop := K (.inl (some (.int s0))) M
set_option maxRecDepth 100000 in
set_option maxHeartbeats 4000000 in
theorem x_X7_least_26 {G : Gx} {K : Rs → Mm → Prop}  {M : Mm} {s0 : Int32} (h : V_X7_least_26 K  M s0) : E G mi_X7_least K M 0 0 26 [none] [.int s0] := by
  unfold V_X7_least_26 at h
  exact e_reti rfl rfl (by decide) (by decide) h
def V_X7_least_10 (K : Rs → Mm → Prop)  (M : Mm)  : Prop := V_X7_least_26 K  M (1 : Int32)
set_option maxRecDepth 100000 in
set_option maxHeartbeats 4000000 in
theorem x_X7_least_10 {G : Gx} {K : Rs → Mm → Prop}  {M : Mm}  (h : V_X7_least_10 K  M ) : E G mi_X7_least K M 0 0 10 [none] [] := by
  unfold V_X7_least_10 at h
  refine e_blk 2 10 _ _ (pc' := 26) (L' := [none]) (st' := [.int (1 : Int32)]) rfl ?_
  refine e_drp [false] (L' := [none]) rfl ?_
  exact x_X7_least_26  h
def V_X7_least (K : Rs → Mm → Prop) (M : Mm) (a0 : Int32) : Prop := ((a0 = (2 : Int32) → V_X7_least_10 K  M ) ∧ (¬ a0 = (2 : Int32) → ((¬ a0 = (3 : Int32) → ((¬ a0 = (5 : Int32) → V_X7_least_26 K  M (0 : Int32)) ∧ (a0 = (5 : Int32) → V_X7_least_26 K  M (1900 : Int32)))) ∧ (a0 = (3 : Int32) → V_X7_least_10 K  M ))))
set_option maxRecDepth 100000 in
set_option maxHeartbeats 4000000 in
theorem x_X7_least {G : Gx} {K : Rs → Mm → Prop} {M : Mm} {a0 : Int32} (h : V_X7_least K M a0) : MC G mi_X7_least [.int a0] M K := by
  unfold V_X7_least at h
  refine mc_of rfl (by decide +kernel) dc_X7_least (Nat.le_of_ble_eq_true rfl) 0 (Nat.le_of_ble_eq_true rfl) ?_
  show E G mi_X7_least K M 0 0 0 [some (.int a0)] []
  refine e_blk 2 0 _ _ (pc' := 2) (L' := [some (.int a0)]) (st' := [.int (2 : Int32), .int a0]) rfl ?_
  refine e_icmp_eq 10 rfl rfl (fun hc => ?_) (fun hc => ?_)
  · replace h := h.1 hc
    refine e_drp [false] (L' := [none]) rfl ?_
    exact x_X7_least_10  h
  · replace h := h.2 hc
    refine e_blk 2 5 _ _ (pc' := 7) (L' := [some (.int a0)]) (st' := [.int (3 : Int32), .int a0]) rfl ?_
    refine e_icmp_ne 14 rfl rfl (fun hc => ?_) (fun hc => ?_)
    · replace h := h.1 hc
      refine e_blk 2 14 _ _ (pc' := 16) (L' := [some (.int a0)]) (st' := [.int (5 : Int32), .int a0]) rfl ?_
      refine e_icmp_ne 25 rfl rfl (fun hc => ?_) (fun hc => ?_)
      · replace h := h.1 hc
        refine e_blk 1 25 _ _ (pc' := 26) (L' := [some (.int a0)]) (st' := [.int (0 : Int32)]) rfl ?_
        refine e_drp [false] (L' := [none]) rfl ?_
        exact x_X7_least_26  h
      · replace h := h.2 hc
        refine e_blk 2 19 _ _ (pc' := 26) (L' := [some (.int a0)]) (st' := [.int (1900 : Int32)]) rfl ?_
        refine e_drp [false] (L' := [none]) rfl ?_
        exact x_X7_least_26  h
    · replace h := h.2 hc
      refine e_drp [false] (L' := [none]) rfl ?_
      exact x_X7_least_10  h
def V_X7_greatest_52 (K : Rs → Mm → Prop)  (M : Mm) (s0 : Int32) : Prop := K (.inl (some (.int s0))) M
set_option maxRecDepth 100000 in
set_option maxHeartbeats 4000000 in
theorem x_X7_greatest_52 {G : Gx} {K : Rs → Mm → Prop}  {M : Mm} {s0 : Int32} (h : V_X7_greatest_52 K  M s0) : E G mi_X7_greatest K M 0 0 52 [none] [.int s0] := by
  unfold V_X7_greatest_52 at h
  exact e_reti rfl rfl (by decide) (by decide) h
def V_X7_greatest (K : Rs → Mm → Prop) (M : Mm) (a0 : Int32) : Prop := ((¬ a0 = 0 → ((¬ a0 = (1 : Int32) → ((¬ a0 = (2 : Int32) → ((¬ a0 = (3 : Int32) → ((¬ a0 = (4 : Int32) → V_X7_greatest_52 K  M (2199 : Int32)) ∧ (a0 = (4 : Int32) → V_X7_greatest_52 K  M (7 : Int32)))) ∧ (a0 = (3 : Int32) → V_X7_greatest_52 K  M (12 : Int32)))) ∧ (a0 = (2 : Int32) → V_X7_greatest_52 K  M (31 : Int32)))) ∧ (a0 = (1 : Int32) → V_X7_greatest_52 K  M (23 : Int32)))) ∧ (a0 = 0 → V_X7_greatest_52 K  M (59 : Int32)))
set_option maxRecDepth 100000 in
set_option maxHeartbeats 4000000 in
theorem x_X7_greatest {G : Gx} {K : Rs → Mm → Prop} {M : Mm} {a0 : Int32} (h : V_X7_greatest K M a0) : MC G mi_X7_greatest [.int a0] M K := by
  unfold V_X7_greatest at h
  refine mc_of rfl (by decide +kernel) dc_X7_greatest (Nat.le_of_ble_eq_true rfl) 0 (Nat.le_of_ble_eq_true rfl) ?_
  show E G mi_X7_greatest K M 0 0 0 [some (.int a0)] []
  refine e_blk 1 0 _ _ (pc' := 1) (L' := [some (.int a0)]) (st' := [.int a0]) rfl ?_
  refine e_if_ne 9 rfl rfl (fun hc => ?_) (fun hc => ?_)
  · replace h := h.1 hc
    refine e_blk 2 9 _ _ (pc' := 11) (L' := [some (.int a0)]) (st' := [.int (1 : Int32), .int a0]) rfl ?_
    refine e_icmp_ne 19 rfl rfl (fun hc => ?_) (fun hc => ?_)
    · replace h := h.1 hc
      refine e_blk 2 19 _ _ (pc' := 21) (L' := [some (.int a0)]) (st' := [.int (2 : Int32), .int a0]) rfl ?_
      refine e_icmp_ne 29 rfl rfl (fun hc => ?_) (fun hc => ?_)
      · replace h := h.1 hc
        refine e_blk 2 29 _ _ (pc' := 31) (L' := [some (.int a0)]) (st' := [.int (3 : Int32), .int a0]) rfl ?_
        refine e_icmp_ne 39 rfl rfl (fun hc => ?_) (fun hc => ?_)
        · replace h := h.1 hc
          refine e_blk 2 39 _ _ (pc' := 41) (L' := [some (.int a0)]) (st' := [.int (4 : Int32), .int a0]) rfl ?_
          refine e_icmp_ne 49 rfl rfl (fun hc => ?_) (fun hc => ?_)
          · replace h := h.1 hc
            refine e_blk 1 49 _ _ (pc' := 52) (L' := [some (.int a0)]) (st' := [.int (2199 : Int32)]) rfl ?_
            refine e_drp [false] (L' := [none]) rfl ?_
            exact x_X7_greatest_52  h
          · replace h := h.2 hc
            refine e_blk 2 44 _ _ (pc' := 52) (L' := [some (.int a0)]) (st' := [.int (7 : Int32)]) rfl ?_
            refine e_drp [false] (L' := [none]) rfl ?_
            exact x_X7_greatest_52  h
        · replace h := h.2 hc
          refine e_blk 2 34 _ _ (pc' := 52) (L' := [some (.int a0)]) (st' := [.int (12 : Int32)]) rfl ?_
          refine e_drp [false] (L' := [none]) rfl ?_
          exact x_X7_greatest_52  h
      · replace h := h.2 hc
        refine e_blk 2 24 _ _ (pc' := 52) (L' := [some (.int a0)]) (st' := [.int (31 : Int32)]) rfl ?_
        refine e_drp [false] (L' := [none]) rfl ?_
        exact x_X7_greatest_52  h
    · replace h := h.2 hc
      refine e_blk 2 14 _ _ (pc' := 52) (L' := [some (.int a0)]) (st' := [.int (23 : Int32)]) rfl ?_
      refine e_drp [false] (L' := [none]) rfl ?_
      exact x_X7_greatest_52  h
  · replace h := h.2 hc
    refine e_blk 2 4 _ _ (pc' := 52) (L' := [some (.int a0)]) (st' := [.int (59 : Int32)]) rfl ?_
    refine e_drp [false] (L' := [none]) rfl ?_
    exact x_X7_greatest_52  h
def V_X7_valueOf_52 (K : Rs → Mm → Prop)  (M : Mm) (l0 : Nat) (l1 : Int32) : Prop := V_X7_least (kI (fun r2 M1 => V_X7_greatest (kI (fun r4 M3 => (ob M3 l0 7 ∧ V_X7_bounded (kI (fun r7 M6 => K (.inl (some (.int r7))) M6) (fun _ _ => False)) M3 l0 (4 : Int32) r2 r4)) (fun _ _ => False)) M1 l1) (fun _ _ => False)) M l1
set_option maxRecDepth 100000 in
set_option maxHeartbeats 4000000 in
theorem x_X7_valueOf_52 {G : Gx} {K : Rs → Mm → Prop}  {M : Mm} {l0 : Nat} {l1 : Int32} (h : V_X7_valueOf_52 K  M l0 l1) : E G mi_X7_valueOf K M 0 0 52 [some (.ref l0), some (.int l1), none] [] := by
  unfold V_X7_valueOf_52 at h
  refine e_blk 3 52 _ _ (pc' := 55) (L' := [some (.ref l0), some (.int l1), none]) (st' := [.int l1, .int (4 : Int32), .ref l0]) rfl ?_
  refine e_callS (As := [.int l1]) (rest := [.int (4 : Int32), .ref l0]) rfl (x_X7_least h) rfl (aw (i := 1399) (by decide +kernel) rfl) ws_X7_least wi_X7_least wc_X7_least (show cok mi_X7_valueOf mi_X7_least 0 0 1 = true by decide +kernel) (Nat.le_of_ble_eq_true rfl) (fun v9 M1 hq => ?_) (fun X M9 hq => False.elim hq)
  obtain ⟨r2, rfl, h⟩ := kI_l hq
  refine e_blk 1 58 _ _ (pc' := 59) (L' := [some (.ref l0), some (.int l1), none]) (st' := [.int l1, .int r2, .int (4 : Int32), .ref l0]) rfl ?_
  refine e_callS (As := [.int l1]) (rest := [.int r2, .int (4 : Int32), .ref l0]) rfl (x_X7_greatest h) rfl (aw (i := 1402) (by decide +kernel) rfl) ws_X7_greatest wi_X7_greatest wc_X7_greatest (show cok mi_X7_valueOf mi_X7_greatest 0 0 1 = true by decide +kernel) (Nat.le_of_ble_eq_true rfl) (fun v9 M3 hq => ?_) (fun X M9 hq => False.elim hq)
  obtain ⟨r4, rfl, h⟩ := kI_l hq
  obtain ⟨ho5, h⟩ := h
  refine e_callV (As := [.int (4 : Int32), .int r2, .int r4]) (rest := []) (ci := 7) rfl (x_X7_bounded h) ho5 rfl rfl rfl (aw (i := 1385) (by decide +kernel) rfl) wn_X7_bounded wv_X7_bounded wi_X7_bounded wc_X7_bounded (show cok mi_X7_valueOf mi_X7_bounded 0 0 3 = true by decide +kernel) (Nat.le_of_ble_eq_true rfl) (fun v9 M6 hq => ?_) (fun X M9 hq => False.elim hq)
  obtain ⟨r7, rfl, h⟩ := kI_l hq
  exact e_reti rfl rfl (by decide) (by decide) h
def V_X7_valueOf_33 (K : Rs → Mm → Prop)  (M : Mm) (l0 : Nat) (l1 : Int32) (l2 : Int32) : Prop := ((l2 = 0 → V_X7_valueOf_52 K  M l0 l1) ∧ (¬ l2 = 0 → ((¬ l1 = (4 : Int32) → V_X7_valueOf_52 K  M l0 l1) ∧ (l1 = (4 : Int32) → (ob M l0 7 ∧ V_X7_named (kI (fun r3 M2 => K (.inl (some (.int r3))) M2) (fun _ _ => False)) M l0 (12 : Int32) (19 : Int32) (0 : Int32))))))
set_option maxRecDepth 100000 in
set_option maxHeartbeats 4000000 in
theorem x_X7_valueOf_33 {G : Gx} {K : Rs → Mm → Prop}  {M : Mm} {l0 : Nat} {l1 : Int32} {l2 : Int32} (h : V_X7_valueOf_33 K  M l0 l1 l2) : E G mi_X7_valueOf K M 0 0 33 [some (.ref l0), some (.int l1), some (.int l2)] [] := by
  unfold V_X7_valueOf_33 at h
  refine e_blk 1 33 _ _ (pc' := 34) (L' := [some (.ref l0), some (.int l1), some (.int l2)]) (st' := [.int l2]) rfl ?_
  refine e_if_eq 52 rfl rfl (fun hc => ?_) (fun hc => ?_)
  · replace h := h.1 hc
    refine e_drp [true, true, false] (L' := [some (.ref l0), some (.int l1), none]) rfl ?_
    exact x_X7_valueOf_52  h
  · replace h := h.2 hc
    refine e_blk 2 37 _ _ (pc' := 39) (L' := [some (.ref l0), some (.int l1), some (.int l2)]) (st' := [.int (4 : Int32), .int l1]) rfl ?_
    refine e_icmp_ne 52 rfl rfl (fun hc => ?_) (fun hc => ?_)
    · replace h := h.1 hc
      refine e_drp [true, true, false] (L' := [some (.ref l0), some (.int l1), none]) rfl ?_
      exact x_X7_valueOf_52  h
    · replace h := h.2 hc
      refine e_blk 4 42 _ _ (pc' := 48) (L' := [some (.ref l0), some (.int l1), some (.int l2)]) (st' := [.int (0 : Int32), .int (19 : Int32), .int (12 : Int32), .ref l0]) rfl ?_
      obtain ⟨ho1, h⟩ := h
      refine e_callV (As := [.int (12 : Int32), .int (19 : Int32), .int (0 : Int32)]) (rest := []) (ci := 7) rfl (x_X7_named h) ho1 rfl rfl rfl (aw (i := 1415) (by decide +kernel) rfl) wn_X7_named wv_X7_named wi_X7_named wc_X7_named (show cok mi_X7_valueOf mi_X7_named 0 0 3 = true by decide +kernel) (Nat.le_of_ble_eq_true rfl) (fun v9 M2 hq => ?_) (fun X M9 hq => False.elim hq)
      obtain ⟨r3, rfl, h⟩ := kI_l hq
      exact e_reti rfl rfl (by decide) (by decide) h
def V_X7_valueOf (K : Rs → Mm → Prop) (M : Mm) (a0 : Nat) (a1 : Int32) : Prop := (ob M a0 7 ∧ V_X7_sign (kI (fun r3 M2 => V_X7_in (kI (fun r5 M4 => ((r5 = 0 → V_X7_valueOf_33 K  M4 a0 a1 r5) ∧ (¬ r5 = 0 → ((¬ a1 = (3 : Int32) → V_X7_valueOf_33 K  M4 a0 a1 r5) ∧ (a1 = (3 : Int32) → (ob M4 a0 7 ∧ V_X7_named (kI (fun r8 M7 => K (.inl (some (.int r8))) M7) (fun _ _ => False)) M4 a0 (0 : Int32) (12 : Int32) (1 : Int32))))))) (fun _ _ => False)) M2 ((r3).toInt64) (97 : Int64) (122 : Int64)) (fun _ _ => False)) M a0)
set_option maxRecDepth 100000 in
set_option maxHeartbeats 4000000 in
theorem x_X7_valueOf {G : Gx} {K : Rs → Mm → Prop} {M : Mm} {a0 : Nat} {a1 : Int32} (h : V_X7_valueOf K M a0 a1) : MC G mi_X7_valueOf [.ref a0, .int a1] M K := by
  unfold V_X7_valueOf at h
  refine mc_of rfl (by decide +kernel) dc_X7_valueOf (Nat.le_of_ble_eq_true rfl) 1 (Nat.le_of_ble_eq_true rfl) ?_
  show E G mi_X7_valueOf K M 0 0 0 [some (.ref a0), some (.int a1), none] []
  refine e_blk 1 0 _ _ (pc' := 1) (L' := [some (.ref a0), some (.int a1), none]) (st' := [.ref a0]) rfl ?_
  obtain ⟨ho1, h⟩ := h
  refine e_callV (As := []) (rest := []) (ci := 7) rfl (x_X7_sign h) ho1 rfl rfl rfl (aw (i := 1343) (by decide +kernel) rfl) wn_X7_sign wv_X7_sign wi_X7_sign wc_X7_sign (show cok mi_X7_valueOf mi_X7_sign 0 0 0 = true by decide +kernel) (Nat.le_of_ble_eq_true rfl) (fun v9 M2 hq => ?_) (fun X M9 hq => False.elim hq)
  obtain ⟨r3, rfl, h⟩ := kI_l hq
  refine e_blk 1 4 _ _ (pc' := 5) (L' := [some (.ref a0), some (.int a1), none]) (st' := [.long ((r3).toInt64)]) rfl ?_
  refine e_ldc2 (97) rfl (aw (i := 1413) (by decide +kernel) rfl) ?_
  refine e_ldc2 (122) rfl (aw (i := 1414) (by decide +kernel) rfl) ?_
  refine e_callS (As := [.long ((r3).toInt64), .long (97 : Int64), .long (122 : Int64)]) (rest := []) rfl (x_X7_in h) rfl (aw (i := 1256) (by decide +kernel) rfl) ws_X7_in wi_X7_in wc_X7_in (show cok mi_X7_valueOf mi_X7_in 0 0 3 = true by decide +kernel) (Nat.le_of_ble_eq_true rfl) (fun v9 M4 hq => ?_) (fun X M9 hq => False.elim hq)
  obtain ⟨r5, rfl, h⟩ := kI_l hq
  refine e_blk 2 14 _ _ (pc' := 16) (L' := [some (.ref a0), some (.int a1), some (.int r5)]) (st' := [.int r5]) rfl ?_
  refine e_if_eq 33 rfl rfl (fun hc => ?_) (fun hc => ?_)
  · replace h := h.1 hc
    refine e_drp [true, true, true] (L' := [some (.ref a0), some (.int a1), some (.int r5)]) rfl ?_
    exact x_X7_valueOf_33  h
  · replace h := h.2 hc
    refine e_blk 2 19 _ _ (pc' := 21) (L' := [some (.ref a0), some (.int a1), some (.int r5)]) (st' := [.int (3 : Int32), .int a1]) rfl ?_
    refine e_icmp_ne 33 rfl rfl (fun hc => ?_) (fun hc => ?_)
    · replace h := h.1 hc
      refine e_drp [true, true, true] (L' := [some (.ref a0), some (.int a1), some (.int r5)]) rfl ?_
      exact x_X7_valueOf_33  h
    · replace h := h.2 hc
      refine e_blk 4 24 _ _ (pc' := 29) (L' := [some (.ref a0), some (.int a1), some (.int r5)]) (st' := [.int (1 : Int32), .int (12 : Int32), .int (0 : Int32), .ref a0]) rfl ?_
      obtain ⟨ho6, h⟩ := h
      refine e_callV (As := [.int (0 : Int32), .int (12 : Int32), .int (1 : Int32)]) (rest := []) (ci := 7) rfl (x_X7_named h) ho6 rfl rfl rfl (aw (i := 1415) (by decide +kernel) rfl) wn_X7_named wv_X7_named wi_X7_named wc_X7_named (show cok mi_X7_valueOf mi_X7_named 0 0 3 = true by decide +kernel) (Nat.le_of_ble_eq_true rfl) (fun v9 M7 hq => ?_) (fun X M9 hq => False.elim hq)
      obtain ⟨r8, rfl, h⟩ := kI_l hq
      exact e_reti rfl rfl (by decide) (by decide) h
def V_X7_mark_46 (K : Rs → Mm → Prop)  (M : Mm)  : Prop := K (.inl none) M
set_option maxRecDepth 100000 in
set_option maxHeartbeats 4000000 in
theorem x_X7_mark_46 {G : Gx} {K : Rs → Mm → Prop}  {M : Mm}  (h : V_X7_mark_46 K  M ) : E G mi_X7_mark K M 0 0 46 [none, none, none] [] := by
  unfold V_X7_mark_46 at h
  exact e_ret rfl rfl (by decide) (by decide) h
def V_X7_mark_43 (K : Rs → Mm → Prop)  (M : Mm) (s0 : Nat) (s1 : Int32) (s2 : Int64) (s3 : Int64) (s4 : Int32) : Prop := (ob M s0 10 ∧ (vp_in s1 (mN M s0) ∧ ∀ M3, M3 = sJ M s0 (s1).toNatClampNeg (s2 ||| (s3 <<< ((s4).toInt64 &&& 63))) → V_X7_mark_46 K  M3 ))
set_option maxRecDepth 100000 in
set_option maxHeartbeats 4000000 in
theorem x_X7_mark_43 {G : Gx} {K : Rs → Mm → Prop}  {M : Mm} {s0 : Nat} {s1 : Int32} {s2 : Int64} {s3 : Int64} {s4 : Int32} (h : V_X7_mark_43 K  M s0 s1 s2 s3 s4) : E G mi_X7_mark K M 0 0 43 [none, none, none] [.int s4, .long s3, .long s2, .int s1, .ref s0] := by
  unfold V_X7_mark_43 at h
  refine e_blk 2 43 _ _ (pc' := 45) (L' := [none, none, none]) (st' := [.long (s2 ||| (s3 <<< ((s4).toInt64 &&& 63))), .int s1, .ref s0]) rfl ?_
  obtain ⟨ho1, h⟩ := h
  obtain ⟨hi2, h⟩ := h
  refine e_last rfl ho1 hi2 ?_
  generalize hM3 : sJ M s0 (s1).toNatClampNeg (s2 ||| (s3 <<< ((s4).toInt64 &&& 63))) = M3
  replace h := h M3 hM3.symm
  replace ho1 : ob M3 s0 10 := hM3 ▸ ob_sJ ho1
  refine e_drp [false, false, false] (L' := [none, none, none]) rfl ?_
  exact x_X7_mark_46  h
def V_X7_mark_42 (K : Rs → Mm → Prop)  (M : Mm) (l2 : Int32) (s0 : Nat) (s1 : Int32) (s2 : Int64) (s3 : Int64) : Prop := V_X7_mark_43 K  M s0 s1 s2 s3 l2
set_option maxRecDepth 100000 in
set_option maxHeartbeats 4000000 in
theorem x_X7_mark_42 {G : Gx} {K : Rs → Mm → Prop}  {M : Mm} {l2 : Int32} {s0 : Nat} {s1 : Int32} {s2 : Int64} {s3 : Int64} (h : V_X7_mark_42 K  M l2 s0 s1 s2 s3) : E G mi_X7_mark K M 0 0 42 [none, none, some (.int l2)] [.long s3, .long s2, .int s1, .ref s0] := by
  unfold V_X7_mark_42 at h
  refine e_blk 1 42 _ _ (pc' := 43) (L' := [none, none, some (.int l2)]) (st' := [.int l2, .long s3, .long s2, .int s1, .ref s0]) rfl ?_
  refine e_drp [false, false, false] (L' := [none, none, none]) rfl ?_
  exact x_X7_mark_43  h
def V_X7_mark (K : Rs → Mm → Prop) (M : Mm) (a0 : Nat) (a1 : Int32) (a2 : Int32) : Prop := ((¬ a1 = (5 : Int32) → (ob M a0 7 ∧ ∃ b2, mP M a0 16 = some b2 ∧ (ob M b2 10 ∧ (vp_in a1 (mN M b2) ∧ ((¬ a1 = (4 : Int32) → V_X7_mark_42 K  M a2 b2 a1 (mJ M b2 (a1).toNatClampNeg) (1 : Int64)) ∧ (a1 = (4 : Int32) → ((¬ a2 = (7 : Int32) → V_X7_mark_42 K  M a2 b2 a1 (mJ M b2 (a1).toNatClampNeg) (1 : Int64)) ∧ (a2 = (7 : Int32) → V_X7_mark_43 K  M b2 a1 (mJ M b2 (a1).toNatClampNeg) (1 : Int64) (0 : Int32))))))))) ∧ (a1 = (5 : Int32) → (ob M a0 7 ∧ ∃ b6, mP M a0 17 = some b6 ∧ (ob M b6 11 ∧ (vp_in (a2 - (1900 : Int32)) (mN M b6) ∧ ∀ M9, M9 = sI M b6 ((a2 - (1900 : Int32))).toNatClampNeg (vp_nar .boolean (1 : Int32)) → V_X7_mark_46 K  M9 )))))
set_option maxRecDepth 100000 in
set_option maxHeartbeats 4000000 in
theorem x_X7_mark {G : Gx} {K : Rs → Mm → Prop} {M : Mm} {a0 : Nat} {a1 : Int32} {a2 : Int32} (h : V_X7_mark K M a0 a1 a2) : MC G mi_X7_mark [.ref a0, .int a1, .int a2] M K := by
  unfold V_X7_mark at h
  refine mc_of rfl (by decide +kernel) dc_X7_mark (Nat.le_of_ble_eq_true rfl) 0 (Nat.le_of_ble_eq_true rfl) ?_
  show E G mi_X7_mark K M 0 0 0 [some (.ref a0), some (.int a1), some (.int a2)] []
  refine e_blk 2 0 _ _ (pc' := 2) (L' := [some (.ref a0), some (.int a1), some (.int a2)]) (st' := [.int (5 : Int32), .int a1]) rfl ?_
  refine e_icmp_ne 19 rfl rfl (fun hc => ?_) (fun hc => ?_)
  · replace h := h.1 hc
    refine e_blk 1 19 _ _ (pc' := 20) (L' := [some (.ref a0), some (.int a1), some (.int a2)]) (st' := [.ref a0]) rfl ?_
    obtain ⟨ho1, h⟩ := h
    obtain ⟨b2, hbb2, h⟩ := h
    refine e_getR 7 16 rfl rfl (by decide) (aw (i := 1081) (by decide +kernel) rfl) ho1 rfl hbb2 ?_
    refine e_blk 2 23 _ _ (pc' := 25) (L' := [some (.ref a0), some (.int a1), some (.int a2)]) (st' := [.int a1, .ref b2, .int a1, .ref b2]) rfl ?_
    obtain ⟨ho3, h⟩ := h
    obtain ⟨hi4, h⟩ := h
    refine e_lald rfl ho3 hi4 ?_
    refine e_blk 3 26 _ _ (pc' := 29) (L' := [some (.ref a0), some (.int a1), some (.int a2)]) (st' := [.int (4 : Int32), .int a1, .long (1 : Int64), .long (mJ M b2 (a1).toNatClampNeg), .int a1, .ref b2]) rfl ?_
    refine e_icmp_ne 42 rfl rfl (fun hc => ?_) (fun hc => ?_)
    · replace h := h.1 hc
      refine e_drp [false, false, true] (L' := [none, none, some (.int a2)]) rfl ?_
      exact x_X7_mark_42  h
    · replace h := h.2 hc
      refine e_blk 2 32 _ _ (pc' := 35) (L' := [some (.ref a0), some (.int a1), some (.int a2)]) (st' := [.int (7 : Int32), .int a2, .long (1 : Int64), .long (mJ M b2 (a1).toNatClampNeg), .int a1, .ref b2]) rfl ?_
      refine e_icmp_ne 42 rfl rfl (fun hc => ?_) (fun hc => ?_)
      · replace h := h.1 hc
        refine e_drp [false, false, true] (L' := [none, none, some (.int a2)]) rfl ?_
        exact x_X7_mark_42  h
      · replace h := h.2 hc
        refine e_blk 2 38 _ _ (pc' := 43) (L' := [some (.ref a0), some (.int a1), some (.int a2)]) (st' := [.int (0 : Int32), .long (1 : Int64), .long (mJ M b2 (a1).toNatClampNeg), .int a1, .ref b2]) rfl ?_
        refine e_drp [false, false, false] (L' := [none, none, none]) rfl ?_
        exact x_X7_mark_43  h
  · replace h := h.2 hc
    refine e_blk 1 5 _ _ (pc' := 6) (L' := [some (.ref a0), some (.int a1), some (.int a2)]) (st' := [.ref a0]) rfl ?_
    obtain ⟨ho5, h⟩ := h
    obtain ⟨b6, hbb6, h⟩ := h
    refine e_getR 7 17 rfl rfl (by decide) (aw (i := 1082) (by decide +kernel) rfl) ho5 rfl hbb6 ?_
    refine e_blk 4 9 _ _ (pc' := 15) (L' := [some (.ref a0), some (.int a1), some (.int a2)]) (st' := [.int (1 : Int32), .int (a2 - (1900 : Int32)), .ref b6]) rfl ?_
    obtain ⟨ho7, h⟩ := h
    obtain ⟨hi8, h⟩ := h
    refine e_zast rfl ho7 hi8 ?_
    generalize hM9 : sI M b6 ((a2 - (1900 : Int32))).toNatClampNeg (vp_nar .boolean (1 : Int32)) = M9
    replace h := h M9 hM9.symm
    replace ho5 : ob M9 a0 7 := hM9 ▸ ob_sI ho5
    replace ho7 : ob M9 b6 11 := hM9 ▸ ob_sI ho7
    refine e_blk 1 16 _ _ (pc' := 46) (L' := [some (.ref a0), some (.int a1), some (.int a2)]) (st' := []) rfl ?_
    refine e_drp [false, false, false] (L' := [none, none, none]) rfl ?_
    exact x_X7_mark_46  h
def V_X7_range_3 (K : Rs → Mm → Prop)  : Nat → Mm → Nat → Int32 → Int32 → Int32 → Int32 → Prop
  | 0, _, _, _, _, _, _ => False
  | z + 1, M, l0, l1, l3, l4, l5 => ((l3 < l5 → K (.inl none) M) ∧ (¬ l3 < l5 → (ob M l0 7 ∧ V_X7_mark (kV (fun M2 => ∀ x3 : Int32, x3 = (l5 + l4) → V_X7_range_3 K  z M2 l0 l1 l3 l4 x3) (fun _ _ => False)) M l0 l1 l5)))
set_option maxRecDepth 100000 in
set_option maxHeartbeats 4000000 in
theorem x_X7_range_3 {G : Gx} {K : Rs → Mm → Prop}  : ∀ (z : Nat) (M : Mm) (l0 : Nat) (l1 : Int32) (l3 : Int32) (l4 : Int32) (l5 : Int32), V_X7_range_3 K  z M l0 l1 l3 l4 l5 → E G mi_X7_range K M 0 0 3 [some (.ref l0), some (.int l1), none, some (.int l3), some (.int l4), some (.int l5)] []
  | 0, M, l0, l1, l3, l4, l5, h => False.elim h
  | z + 1, M, l0, l1, l3, l4, l5, h => by
    unfold V_X7_range_3 at h
    refine e_blk 2 3 _ _ (pc' := 6) (L' := [some (.ref l0), some (.int l1), none, some (.int l3), some (.int l4), some (.int l5)]) (st' := [.int l3, .int l5]) rfl ?_
    refine e_icmp_gt 26 rfl rfl (fun hc => ?_) (fun hc => ?_)
    · replace h := h.1 hc
      exact e_ret rfl rfl (by decide) (by decide) h
    · replace h := h.2 hc
      refine e_blk 3 9 _ _ (pc' := 13) (L' := [some (.ref l0), some (.int l1), none, some (.int l3), some (.int l4), some (.int l5)]) (st' := [.int l5, .int l1, .ref l0]) rfl ?_
      obtain ⟨ho1, h⟩ := h
      refine e_callV (As := [.int l1, .int l5]) (rest := []) (ci := 7) rfl (x_X7_mark h) ho1 rfl rfl rfl (aw (i := 1369) (by decide +kernel) rfl) wn_X7_mark wv_X7_mark wi_X7_mark wc_X7_mark (show cok mi_X7_range mi_X7_mark 0 0 2 = true by decide +kernel) (Nat.le_of_ble_eq_true rfl) (fun v9 M2 hq => ?_) (fun X M9 hq => False.elim hq)
      obtain ⟨rfl, h⟩ := kV_l hq
      refine e_blk 5 16 _ _ (pc' := 3) (L' := [some (.ref l0), some (.int l1), none, some (.int l3), some (.int l4), some (.int (l5 + l4))]) (st' := []) rfl ?_
      generalize hx_x3 : ((l5 + l4) : Int32) = x3
      replace h := h x3 hx_x3.symm
      refine e_drp [true, true, false, true, true, true] (L' := [some (.ref l0), some (.int l1), none, some (.int l3), some (.int l4), some (.int x3)]) rfl ?_
      exact x_X7_range_3  z _ _ _ _ _ _ h
def V_X7_range (K : Rs → Mm → Prop) (M : Mm) (a0 : Nat) (a1 : Int32) (a2 : Int32) (a3 : Int32) (a4 : Int32) : Prop := ∃ y, V_X7_range_3 K  y M a0 a1 a3 a4 a2
set_option maxRecDepth 100000 in
set_option maxHeartbeats 4000000 in
theorem x_X7_range {G : Gx} {K : Rs → Mm → Prop} {M : Mm} {a0 : Nat} {a1 : Int32} {a2 : Int32} {a3 : Int32} {a4 : Int32} (h : V_X7_range K M a0 a1 a2 a3 a4) : MC G mi_X7_range [.ref a0, .int a1, .int a2, .int a3, .int a4] M K := by
  unfold V_X7_range at h
  refine mc_of rfl (by decide +kernel) dc_X7_range (Nat.le_of_ble_eq_true rfl) 1 (Nat.le_of_ble_eq_true rfl) ?_
  show E G mi_X7_range K M 0 0 0 [some (.ref a0), some (.int a1), some (.int a2), some (.int a3), some (.int a4), none] []
  refine e_blk 2 0 _ _ (pc' := 3) (L' := [some (.ref a0), some (.int a1), some (.int a2), some (.int a3), some (.int a4), some (.int a2)]) (st' := []) rfl ?_
  refine e_drp [true, true, false, true, true, true] (L' := [some (.ref a0), some (.int a1), none, some (.int a3), some (.int a4), some (.int a2)]) rfl ?_
  obtain ⟨y, h⟩ := h
  exact x_X7_range_3  y _ _ _ _ _ _ h
def V_X7_step (K : Rs → Mm → Prop) (M : Mm) (a0 : Nat) : Prop := (ob M a0 7 ∧ V_X7_sign (kI (fun r3 M2 => ((r3 = (47 : Int32) → (ob M2 a0 7 ∧ ∀ M5, M5 = sI M2 a0 12 ((mI M2 a0 12) + (1 : Int32)) → V_X7_bounded (kI (fun r7 M6 => K (.inl (some (.int r7))) M6) (fun _ _ => False)) M5 a0 (4 : Int32) (1 : Int32) (1000 : Int32))) ∧ (¬ r3 = (47 : Int32) → K (.inl (some (.int (1 : Int32)))) M2))) (fun _ _ => False)) M a0)
set_option maxRecDepth 100000 in
set_option maxHeartbeats 4000000 in
theorem x_X7_step {G : Gx} {K : Rs → Mm → Prop} {M : Mm} {a0 : Nat} (h : V_X7_step K M a0) : MC G mi_X7_step [.ref a0] M K := by
  unfold V_X7_step at h
  refine mc_of rfl (by decide +kernel) dc_X7_step (Nat.le_of_ble_eq_true rfl) 0 (Nat.le_of_ble_eq_true rfl) ?_
  show E G mi_X7_step K M 0 0 0 [some (.ref a0)] []
  refine e_blk 1 0 _ _ (pc' := 1) (L' := [some (.ref a0)]) (st' := [.ref a0]) rfl ?_
  obtain ⟨ho1, h⟩ := h
  refine e_callV (As := []) (rest := []) (ci := 7) rfl (x_X7_sign h) ho1 rfl rfl rfl (aw (i := 1343) (by decide +kernel) rfl) wn_X7_sign wv_X7_sign wi_X7_sign wc_X7_sign (show cok mi_X7_step mi_X7_sign 0 0 0 = true by decide +kernel) (Nat.le_of_ble_eq_true rfl) (fun v9 M2 hq => ?_) (fun X M9 hq => False.elim hq)
  obtain ⟨r3, rfl, h⟩ := kI_l hq
  refine e_blk 1 4 _ _ (pc' := 6) (L' := [some (.ref a0)]) (st' := [.int (47 : Int32), .int r3]) rfl ?_
  refine e_icmp_eq 11 rfl rfl (fun hc => ?_) (fun hc => ?_)
  · replace h := h.1 hc
    refine e_blk 2 11 _ _ (pc' := 13) (L' := [some (.ref a0)]) (st' := [.ref a0, .ref a0]) rfl ?_
    obtain ⟨ho4, h⟩ := h
    refine e_getI 7 12 rfl rfl (by decide) (aw (i := 1077) (by decide +kernel) rfl) ho4 rfl ?_
    refine e_blk 2 16 _ _ (pc' := 18) (L' := [some (.ref a0)]) (st' := [.int ((mI M2 a0 12) + (1 : Int32)), .ref a0]) rfl ?_
    refine e_putI 7 12 rfl rfl (by decide) (aw (i := 1077) (by decide +kernel) rfl) rfl ho4 rfl ?_
    generalize hM5 : sI M2 a0 12 ((mI M2 a0 12) + (1 : Int32)) = M5
    replace h := h M5 hM5.symm
    replace ho4 : ob M5 a0 7 := hM5 ▸ ob_sI ho4
    refine e_blk 4 21 _ _ (pc' := 27) (L' := [some (.ref a0)]) (st' := [.int (1000 : Int32), .int (1 : Int32), .int (4 : Int32), .ref a0]) rfl ?_
    refine e_callV (As := [.int (4 : Int32), .int (1 : Int32), .int (1000 : Int32)]) (rest := []) (ci := 7) rfl (x_X7_bounded h) ho4 rfl rfl rfl (aw (i := 1385) (by decide +kernel) rfl) wn_X7_bounded wv_X7_bounded wi_X7_bounded wc_X7_bounded (show cok mi_X7_step mi_X7_bounded 0 0 3 = true by decide +kernel) (Nat.le_of_ble_eq_true rfl) (fun v9 M6 hq => ?_) (fun X M9 hq => False.elim hq)
    obtain ⟨r7, rfl, h⟩ := kI_l hq
    exact e_reti rfl rfl (by decide) (by decide) h
  · replace h := h.2 hc
    refine e_blk 1 9 _ _ (pc' := 10) (L' := [some (.ref a0)]) (st' := [.int (1 : Int32)]) rfl ?_
    exact e_reti rfl rfl (by decide) (by decide) h
def V_X7_lastDay_91 (K : Rs → Mm → Prop)  (M : Mm)  : Prop := K (.inl none) M
set_option maxRecDepth 100000 in
set_option maxHeartbeats 4000000 in
theorem x_X7_lastDay_91 {G : Gx} {K : Rs → Mm → Prop}  {M : Mm}  (h : V_X7_lastDay_91 K  M ) : E G mi_X7_lastDay K M 0 0 91 [none, none] [] := by
  unfold V_X7_lastDay_91 at h
  exact e_ret rfl rfl (by decide) (by decide) h
def V_X7_lastDay_74 (K : Rs → Mm → Prop)  (M : Mm) (s0 : Nat) (s1 : Int64) (s2 : Int64) : Prop := (ob M s0 7 ∧ ∀ M2, M2 = sJ M s0 19 (s1 ||| s2) → V_X7_lastDay_91 K  M2 )
set_option maxRecDepth 100000 in
set_option maxHeartbeats 4000000 in
theorem x_X7_lastDay_74 {G : Gx} {K : Rs → Mm → Prop}  {M : Mm} {s0 : Nat} {s1 : Int64} {s2 : Int64} (h : V_X7_lastDay_74 K  M s0 s1 s2) : E G mi_X7_lastDay K M 0 0 74 [none, none] [.long s2, .long s1, .ref s0] := by
  unfold V_X7_lastDay_74 at h
  refine e_blk 1 74 _ _ (pc' := 75) (L' := [none, none]) (st' := [.long (s1 ||| s2), .ref s0]) rfl ?_
  obtain ⟨ho1, h⟩ := h
  refine e_putJ 7 19 rfl rfl (by decide) (aw (i := 1084) (by decide +kernel) rfl) rfl ho1 rfl ?_
  generalize hM2 : sJ M s0 19 (s1 ||| s2) = M2
  replace h := h M2 hM2.symm
  replace ho1 : ob M2 s0 7 := hM2 ▸ ob_sJ ho1
  refine e_blk 1 78 _ _ (pc' := 91) (L' := [none, none]) (st' := []) rfl ?_
  refine e_drp [false, false] (L' := [none, none]) rfl ?_
  exact x_X7_lastDay_91  h
def V_X7_lastDay (K : Rs → Mm → Prop) (M : Mm) (a0 : Nat) : Prop := (ob M a0 7 ∧ V_X7_sign (kI (fun r3 M2 => ((¬ r3 = (87 : Int32) → (ob M2 a0 7 ∧ V_X7_sign (kI (fun r6 M5 => ((¬ r6 = (45 : Int32) → (ob M5 a0 7 ∧ ∀ M8, M8 = sJ M5 a0 19 ((mJ M5 a0 19) ||| (1 : Int64)) → V_X7_lastDay_91 K  M8 )) ∧ (r6 = (45 : Int32) → (ob M5 a0 7 ∧ ∀ M10, M10 = sI M5 a0 12 ((mI M5 a0 12) + (1 : Int32)) → V_X7_bounded (kI (fun r12 M11 => (ob M11 a0 7 ∧ ((¬ (mI M11 a0 13) = 0 → V_X7_lastDay_74 K  M11 a0 (mJ M11 a0 19) (0 : Int64)) ∧ ((mI M11 a0 13) = 0 → V_X7_lastDay_74 K  M11 a0 (mJ M11 a0 19) ((1 : Int64) <<< ((r12).toInt64 &&& 63)))))) (fun _ _ => False)) M10 a0 (2 : Int32) (1 : Int32) (30 : Int32))))) (fun _ _ => False)) M2 a0)) ∧ (r3 = (87 : Int32) → (ob M2 a0 7 ∧ ∀ M15, M15 = sI M2 a0 12 ((mI M2 a0 12) + (1 : Int32)) → ∀ M16, M16 = sI M15 a0 20 (1 : Int32) → V_X7_lastDay_91 K  M16 )))) (fun _ _ => False)) M a0)
set_option maxRecDepth 100000 in
set_option maxHeartbeats 4000000 in
theorem x_X7_lastDay {G : Gx} {K : Rs → Mm → Prop} {M : Mm} {a0 : Nat} (h : V_X7_lastDay K M a0) : MC G mi_X7_lastDay [.ref a0] M K := by
  unfold V_X7_lastDay at h
  refine mc_of rfl (by decide +kernel) dc_X7_lastDay (Nat.le_of_ble_eq_true rfl) 1 (Nat.le_of_ble_eq_true rfl) ?_
  show E G mi_X7_lastDay K M 0 0 0 [some (.ref a0), none] []
  refine e_blk 1 0 _ _ (pc' := 1) (L' := [some (.ref a0), none]) (st' := [.ref a0]) rfl ?_
  obtain ⟨ho1, h⟩ := h
  refine e_callV (As := []) (rest := []) (ci := 7) rfl (x_X7_sign h) ho1 rfl rfl rfl (aw (i := 1343) (by decide +kernel) rfl) wn_X7_sign wv_X7_sign wi_X7_sign wc_X7_sign (show cok mi_X7_lastDay mi_X7_sign 0 0 0 = true by decide +kernel) (Nat.le_of_ble_eq_true rfl) (fun v9 M2 hq => ?_) (fun X M9 hq => False.elim hq)
  obtain ⟨r3, rfl, h⟩ := kI_l hq
  refine e_blk 1 4 _ _ (pc' := 6) (L' := [some (.ref a0), none]) (st' := [.int (87 : Int32), .int r3]) rfl ?_
  refine e_icmp_ne 27 rfl rfl (fun hc => ?_) (fun hc => ?_)
  · replace h := h.1 hc
    refine e_blk 1 27 _ _ (pc' := 28) (L' := [some (.ref a0), none]) (st' := [.ref a0]) rfl ?_
    obtain ⟨ho4, h⟩ := h
    refine e_callV (As := []) (rest := []) (ci := 7) rfl (x_X7_sign h) ho4 rfl rfl rfl (aw (i := 1343) (by decide +kernel) rfl) wn_X7_sign wv_X7_sign wi_X7_sign wc_X7_sign (show cok mi_X7_lastDay mi_X7_sign 0 0 0 = true by decide +kernel) (Nat.le_of_ble_eq_true rfl) (fun v9 M5 hq => ?_) (fun X M9 hq => False.elim hq)
    obtain ⟨r6, rfl, h⟩ := kI_l hq
    refine e_blk 1 31 _ _ (pc' := 33) (L' := [some (.ref a0), none]) (st' := [.int (45 : Int32), .int r6]) rfl ?_
    refine e_icmp_ne 81 rfl rfl (fun hc => ?_) (fun hc => ?_)
    · replace h := h.1 hc
      refine e_blk 2 81 _ _ (pc' := 83) (L' := [some (.ref a0), none]) (st' := [.ref a0, .ref a0]) rfl ?_
      obtain ⟨ho7, h⟩ := h
      refine e_getJ 7 19 rfl rfl (by decide) (aw (i := 1084) (by decide +kernel) rfl) ho7 rfl ?_
      refine e_blk 2 86 _ _ (pc' := 88) (L' := [some (.ref a0), none]) (st' := [.long ((mJ M5 a0 19) ||| (1 : Int64)), .ref a0]) rfl ?_
      refine e_putJ 7 19 rfl rfl (by decide) (aw (i := 1084) (by decide +kernel) rfl) rfl ho7 rfl ?_
      generalize hM8 : sJ M5 a0 19 ((mJ M5 a0 19) ||| (1 : Int64)) = M8
      replace h := h M8 hM8.symm
      replace ho7 : ob M8 a0 7 := hM8 ▸ ob_sJ ho7
      refine e_drp [false, false] (L' := [none, none]) rfl ?_
      exact x_X7_lastDay_91  h
    · replace h := h.2 hc
      refine e_blk 2 36 _ _ (pc' := 38) (L' := [some (.ref a0), none]) (st' := [.ref a0, .ref a0]) rfl ?_
      obtain ⟨ho9, h⟩ := h
      refine e_getI 7 12 rfl rfl (by decide) (aw (i := 1077) (by decide +kernel) rfl) ho9 rfl ?_
      refine e_blk 2 41 _ _ (pc' := 43) (L' := [some (.ref a0), none]) (st' := [.int ((mI M5 a0 12) + (1 : Int32)), .ref a0]) rfl ?_
      refine e_putI 7 12 rfl rfl (by decide) (aw (i := 1077) (by decide +kernel) rfl) rfl ho9 rfl ?_
      generalize hM10 : sI M5 a0 12 ((mI M5 a0 12) + (1 : Int32)) = M10
      replace h := h M10 hM10.symm
      replace ho9 : ob M10 a0 7 := hM10 ▸ ob_sI ho9
      refine e_blk 4 46 _ _ (pc' := 51) (L' := [some (.ref a0), none]) (st' := [.int (30 : Int32), .int (1 : Int32), .int (2 : Int32), .ref a0]) rfl ?_
      refine e_callV (As := [.int (2 : Int32), .int (1 : Int32), .int (30 : Int32)]) (rest := []) (ci := 7) rfl (x_X7_bounded h) ho9 rfl rfl rfl (aw (i := 1385) (by decide +kernel) rfl) wn_X7_bounded wv_X7_bounded wi_X7_bounded wc_X7_bounded (show cok mi_X7_lastDay mi_X7_bounded 0 0 3 = true by decide +kernel) (Nat.le_of_ble_eq_true rfl) (fun v9 M11 hq => ?_) (fun X M9 hq => False.elim hq)
      obtain ⟨r12, rfl, h⟩ := kI_l hq
      refine e_blk 3 54 _ _ (pc' := 57) (L' := [some (.ref a0), some (.int r12)]) (st' := [.ref a0, .ref a0]) rfl ?_
      obtain ⟨ho13, h⟩ := h
      refine e_getJ 7 19 rfl rfl (by decide) (aw (i := 1084) (by decide +kernel) rfl) ho13 rfl ?_
      refine e_blk 1 60 _ _ (pc' := 61) (L' := [some (.ref a0), some (.int r12)]) (st' := [.ref a0, .long (mJ M11 a0 19), .ref a0]) rfl ?_
      refine e_getI 7 13 rfl rfl (by decide) (aw (i := 1078) (by decide +kernel) rfl) ho13 rfl ?_
      refine e_if_ne 73 rfl rfl (fun hc => ?_) (fun hc => ?_)
      · replace h := h.1 hc
        refine e_blk 1 73 _ _ (pc' := 74) (L' := [some (.ref a0), some (.int r12)]) (st' := [.long (0 : Int64), .long (mJ M11 a0 19), .ref a0]) rfl ?_
        refine e_drp [false, false] (L' := [none, none]) rfl ?_
        exact x_X7_lastDay_74  h
      · replace h := h.2 hc
        refine e_blk 4 67 _ _ (pc' := 74) (L' := [some (.ref a0), some (.int r12)]) (st' := [.long ((1 : Int64) <<< ((r12).toInt64 &&& 63)), .long (mJ M11 a0 19), .ref a0]) rfl ?_
        refine e_drp [false, false] (L' := [none, none]) rfl ?_
        exact x_X7_lastDay_74  h
  · replace h := h.2 hc
    refine e_blk 2 9 _ _ (pc' := 11) (L' := [some (.ref a0), none]) (st' := [.ref a0, .ref a0]) rfl ?_
    obtain ⟨ho14, h⟩ := h
    refine e_getI 7 12 rfl rfl (by decide) (aw (i := 1077) (by decide +kernel) rfl) ho14 rfl ?_
    refine e_blk 2 14 _ _ (pc' := 16) (L' := [some (.ref a0), none]) (st' := [.int ((mI M2 a0 12) + (1 : Int32)), .ref a0]) rfl ?_
    refine e_putI 7 12 rfl rfl (by decide) (aw (i := 1077) (by decide +kernel) rfl) rfl ho14 rfl ?_
    generalize hM15 : sI M2 a0 12 ((mI M2 a0 12) + (1 : Int32)) = M15
    replace h := h M15 hM15.symm
    replace ho14 : ob M15 a0 7 := hM15 ▸ ob_sI ho14
    refine e_blk 2 19 _ _ (pc' := 21) (L' := [some (.ref a0), none]) (st' := [.int (1 : Int32), .ref a0]) rfl ?_
    refine e_putZ 7 20 rfl rfl (by decide) (aw (i := 1085) (by decide +kernel) rfl) rfl ho14 rfl (by decide) ?_
    generalize hM16 : sI M15 a0 20 (1 : Int32) = M16
    replace h := h M16 hM16.symm
    replace ho14 : ob M16 a0 7 := hM16 ▸ ob_sI ho14
    refine e_blk 1 24 _ _ (pc' := 91) (L' := [some (.ref a0), none]) (st' := []) rfl ?_
    refine e_drp [false, false] (L' := [none, none]) rfl ?_
    exact x_X7_lastDay_91  h
def V_X7_item_380 (K : Rs → Mm → Prop)  (M : Mm)  : Prop := K (.inl none) M
set_option maxRecDepth 100000 in
set_option maxHeartbeats 4000000 in
theorem x_X7_item_380 {G : Gx} {K : Rs → Mm → Prop}  {M : Mm}  (h : V_X7_item_380 K  M ) : E G mi_X7_item K M 0 0 380 [none, none, none, none, none, none, none, none] [] := by
  unfold V_X7_item_380 at h
  exact e_ret rfl rfl (by decide) (by decide) h
def V_X7_item_374 (K : Rs → Mm → Prop)  (M : Mm) (l0 : Nat) (l1 : Int32) (l3 : Int32) : Prop := (ob M l0 7 ∧ V_X7_mark (kV (fun M2 => V_X7_item_380 K  M2 ) (fun _ _ => False)) M l0 l1 l3)
set_option maxRecDepth 100000 in
set_option maxHeartbeats 4000000 in
theorem x_X7_item_374 {G : Gx} {K : Rs → Mm → Prop}  {M : Mm} {l0 : Nat} {l1 : Int32} {l3 : Int32} (h : V_X7_item_374 K  M l0 l1 l3) : E G mi_X7_item K M 0 0 374 [some (.ref l0), some (.int l1), none, some (.int l3), none, none, none, none] [] := by
  unfold V_X7_item_374 at h
  refine e_blk 3 374 _ _ (pc' := 377) (L' := [some (.ref l0), some (.int l1), none, some (.int l3), none, none, none, none]) (st' := [.int l3, .int l1, .ref l0]) rfl ?_
  obtain ⟨ho1, h⟩ := h
  refine e_callV (As := [.int l1, .int l3]) (rest := []) (ci := 7) rfl (x_X7_mark h) ho1 rfl rfl rfl (aw (i := 1369) (by decide +kernel) rfl) wn_X7_mark wv_X7_mark wi_X7_mark wc_X7_mark (show cok mi_X7_item mi_X7_mark 0 0 2 = true by decide +kernel) (Nat.le_of_ble_eq_true rfl) (fun v9 M2 hq => ?_) (fun X M9 hq => False.elim hq)
  obtain ⟨rfl, h⟩ := kV_l hq
  refine e_drp [false, false, false, false, false, false, false, false] (L' := [none, none, none, none, none, none, none, none]) rfl ?_
  exact x_X7_item_380  h
def V_X7_item_367 (K : Rs → Mm → Prop)  (M : Mm) (s0 : Nat) (s1 : Int64) (s2 : Int64) : Prop := (ob M s0 7 ∧ ∀ M2, M2 = sJ M s0 23 (s1 ||| s2) → V_X7_item_380 K  M2 )
set_option maxRecDepth 100000 in
set_option maxHeartbeats 4000000 in
theorem x_X7_item_367 {G : Gx} {K : Rs → Mm → Prop}  {M : Mm} {s0 : Nat} {s1 : Int64} {s2 : Int64} (h : V_X7_item_367 K  M s0 s1 s2) : E G mi_X7_item K M 0 0 367 [none, none, none, none, none, none, none, none] [.long s2, .long s1, .ref s0] := by
  unfold V_X7_item_367 at h
  refine e_blk 1 367 _ _ (pc' := 368) (L' := [none, none, none, none, none, none, none, none]) (st' := [.long (s1 ||| s2), .ref s0]) rfl ?_
  obtain ⟨ho1, h⟩ := h
  refine e_putJ 7 23 rfl rfl (by decide) (aw (i := 1088) (by decide +kernel) rfl) rfl ho1 rfl ?_
  generalize hM2 : sJ M s0 23 (s1 ||| s2) = M2
  replace h := h M2 hM2.symm
  replace ho1 : ob M2 s0 7 := hM2 ▸ ob_sJ ho1
  refine e_blk 1 371 _ _ (pc' := 380) (L' := [none, none, none, none, none, none, none, none]) (st' := []) rfl ?_
  refine e_drp [false, false, false, false, false, false, false, false] (L' := [none, none, none, none, none, none, none, none]) rfl ?_
  exact x_X7_item_380  h
def V_X7_item_308 (K : Rs → Mm → Prop)  (M : Mm) (l0 : Nat) (l1 : Int32) (l3 : Int32) (l4 : Int32) : Prop := ((¬ l4 = (35 : Int32) → V_X7_item_374 K  M l0 l1 l3) ∧ (l4 = (35 : Int32) → ((¬ l1 = (4 : Int32) → V_X7_item_374 K  M l0 l1 l3) ∧ (l1 = (4 : Int32) → (ob M l0 7 ∧ ∀ M2, M2 = sI M l0 12 ((mI M l0 12) + (1 : Int32)) → V_X7_bounded (kI (fun r4 M3 => (ob M3 l0 7 ∧ ((¬ (mI M3 l0 13) = 0 → V_X7_item_367 K  M3 l0 (mJ M3 l0 23) (0 : Int64)) ∧ ((mI M3 l0 13) = 0 → V_X7_item_367 K  M3 l0 (mJ M3 l0 23) ((1 : Int64) <<< (((((6 : Int32) * (l3 - l3 / (7 : Int32) * (7 : Int32))) + r4)).toInt64 &&& 63)))))) (fun _ _ => False)) M2 l0 (1 : Int32) (1 : Int32) (5 : Int32))))))
set_option maxRecDepth 100000 in
set_option maxHeartbeats 4000000 in
theorem x_X7_item_308 {G : Gx} {K : Rs → Mm → Prop}  {M : Mm} {l0 : Nat} {l1 : Int32} {l3 : Int32} {l4 : Int32} (h : V_X7_item_308 K  M l0 l1 l3 l4) : E G mi_X7_item K M 0 0 308 [some (.ref l0), some (.int l1), none, some (.int l3), some (.int l4), none, none, none] [] := by
  unfold V_X7_item_308 at h
  refine e_blk 2 308 _ _ (pc' := 312) (L' := [some (.ref l0), some (.int l1), none, some (.int l3), some (.int l4), none, none, none]) (st' := [.int (35 : Int32), .int l4]) rfl ?_
  refine e_icmp_ne 374 rfl rfl (fun hc => ?_) (fun hc => ?_)
  · replace h := h.1 hc
    refine e_drp [true, true, false, true, false, false, false, false] (L' := [some (.ref l0), some (.int l1), none, some (.int l3), none, none, none, none]) rfl ?_
    exact x_X7_item_374  h
  · replace h := h.2 hc
    refine e_blk 2 315 _ _ (pc' := 317) (L' := [some (.ref l0), some (.int l1), none, some (.int l3), some (.int l4), none, none, none]) (st' := [.int (4 : Int32), .int l1]) rfl ?_
    refine e_icmp_ne 374 rfl rfl (fun hc => ?_) (fun hc => ?_)
    · replace h := h.1 hc
      refine e_drp [true, true, false, true, false, false, false, false] (L' := [some (.ref l0), some (.int l1), none, some (.int l3), none, none, none, none]) rfl ?_
      exact x_X7_item_374  h
    · replace h := h.2 hc
      refine e_blk 2 320 _ _ (pc' := 322) (L' := [some (.ref l0), some (.int l1), none, some (.int l3), some (.int l4), none, none, none]) (st' := [.ref l0, .ref l0]) rfl ?_
      obtain ⟨ho1, h⟩ := h
      refine e_getI 7 12 rfl rfl (by decide) (aw (i := 1077) (by decide +kernel) rfl) ho1 rfl ?_
      refine e_blk 2 325 _ _ (pc' := 327) (L' := [some (.ref l0), some (.int l1), none, some (.int l3), some (.int l4), none, none, none]) (st' := [.int ((mI M l0 12) + (1 : Int32)), .ref l0]) rfl ?_
      refine e_putI 7 12 rfl rfl (by decide) (aw (i := 1077) (by decide +kernel) rfl) rfl ho1 rfl ?_
      generalize hM2 : sI M l0 12 ((mI M l0 12) + (1 : Int32)) = M2
      replace h := h M2 hM2.symm
      replace ho1 : ob M2 l0 7 := hM2 ▸ ob_sI ho1
      refine e_blk 4 330 _ _ (pc' := 334) (L' := [some (.ref l0), some (.int l1), none, some (.int l3), some (.int l4), none, none, none]) (st' := [.int (5 : Int32), .int (1 : Int32), .int (1 : Int32), .ref l0]) rfl ?_
      refine e_callV (As := [.int (1 : Int32), .int (1 : Int32), .int (5 : Int32)]) (rest := []) (ci := 7) rfl (x_X7_bounded h) ho1 rfl rfl rfl (aw (i := 1385) (by decide +kernel) rfl) wn_X7_bounded wv_X7_bounded wi_X7_bounded wc_X7_bounded (show cok mi_X7_item mi_X7_bounded 0 0 3 = true by decide +kernel) (Nat.le_of_ble_eq_true rfl) (fun v9 M3 hq => ?_) (fun X M9 hq => False.elim hq)
      obtain ⟨r4, rfl, h⟩ := kI_l hq
      refine e_blk 3 337 _ _ (pc' := 341) (L' := [some (.ref l0), some (.int l1), none, some (.int l3), some (.int l4), some (.int r4), none, none]) (st' := [.ref l0, .ref l0]) rfl ?_
      obtain ⟨ho5, h⟩ := h
      refine e_getJ 7 23 rfl rfl (by decide) (aw (i := 1088) (by decide +kernel) rfl) ho5 rfl ?_
      refine e_blk 1 344 _ _ (pc' := 345) (L' := [some (.ref l0), some (.int l1), none, some (.int l3), some (.int l4), some (.int r4), none, none]) (st' := [.ref l0, .long (mJ M3 l0 23), .ref l0]) rfl ?_
      refine e_getI 7 13 rfl rfl (by decide) (aw (i := 1078) (by decide +kernel) rfl) ho5 rfl ?_
      refine e_if_ne 366 rfl rfl (fun hc => ?_) (fun hc => ?_)
      · replace h := h.1 hc
        refine e_blk 1 366 _ _ (pc' := 367) (L' := [some (.ref l0), some (.int l1), none, some (.int l3), some (.int l4), some (.int r4), none, none]) (st' := [.long (0 : Int64), .long (mJ M3 l0 23), .ref l0]) rfl ?_
        refine e_drp [false, false, false, false, false, false, false, false] (L' := [none, none, none, none, none, none, none, none]) rfl ?_
        exact x_X7_item_367  h
      · replace h := h.2 hc
        refine e_blk 4 351 _ _ (pc' := 357) (L' := [some (.ref l0), some (.int l1), none, some (.int l3), some (.int l4), some (.int r4), none, none]) (st' := [.int (7 : Int32), .int l3, .int (6 : Int32), .long (1 : Int64), .long (mJ M3 l0 23), .ref l0]) rfl ?_
        refine e_irem rfl (by decide) ?_
        refine e_blk 5 358 _ _ (pc' := 367) (L' := [some (.ref l0), some (.int l1), none, some (.int l3), some (.int l4), some (.int r4), none, none]) (st' := [.long ((1 : Int64) <<< (((((6 : Int32) * (l3 - l3 / (7 : Int32) * (7 : Int32))) + r4)).toInt64 &&& 63)), .long (mJ M3 l0 23), .ref l0]) rfl ?_
        refine e_drp [false, false, false, false, false, false, false, false] (L' := [none, none, none, none, none, none, none, none]) rfl ?_
        exact x_X7_item_367  h
def V_X7_item_268 (K : Rs → Mm → Prop)  (M : Mm) (l0 : Nat) (l1 : Int32) (l3 : Int32) (l4 : Int32) : Prop := ((¬ l4 = (76 : Int32) → V_X7_item_308 K  M l0 l1 l3 l4) ∧ (l4 = (76 : Int32) → ((¬ l1 = (4 : Int32) → V_X7_item_308 K  M l0 l1 l3 l4) ∧ (l1 = (4 : Int32) → (ob M l0 7 ∧ ∀ M2, M2 = sI M l0 12 ((mI M l0 12) + (1 : Int32)) → ∀ M3, M3 = sJ M2 l0 22 ((mJ M2 l0 22) ||| ((1 : Int64) <<< (((l3 - l3 / (7 : Int32) * (7 : Int32))).toInt64 &&& 63))) → V_X7_item_380 K  M3 )))))
set_option maxRecDepth 100000 in
set_option maxHeartbeats 4000000 in
theorem x_X7_item_268 {G : Gx} {K : Rs → Mm → Prop}  {M : Mm} {l0 : Nat} {l1 : Int32} {l3 : Int32} {l4 : Int32} (h : V_X7_item_268 K  M l0 l1 l3 l4) : E G mi_X7_item K M 0 0 268 [some (.ref l0), some (.int l1), none, some (.int l3), some (.int l4), none, none, none] [] := by
  unfold V_X7_item_268 at h
  refine e_blk 2 268 _ _ (pc' := 272) (L' := [some (.ref l0), some (.int l1), none, some (.int l3), some (.int l4), none, none, none]) (st' := [.int (76 : Int32), .int l4]) rfl ?_
  refine e_icmp_ne 308 rfl rfl (fun hc => ?_) (fun hc => ?_)
  · replace h := h.1 hc
    refine e_drp [true, true, false, true, true, false, false, false] (L' := [some (.ref l0), some (.int l1), none, some (.int l3), some (.int l4), none, none, none]) rfl ?_
    exact x_X7_item_308  h
  · replace h := h.2 hc
    refine e_blk 2 275 _ _ (pc' := 277) (L' := [some (.ref l0), some (.int l1), none, some (.int l3), some (.int l4), none, none, none]) (st' := [.int (4 : Int32), .int l1]) rfl ?_
    refine e_icmp_ne 308 rfl rfl (fun hc => ?_) (fun hc => ?_)
    · replace h := h.1 hc
      refine e_drp [true, true, false, true, true, false, false, false] (L' := [some (.ref l0), some (.int l1), none, some (.int l3), some (.int l4), none, none, none]) rfl ?_
      exact x_X7_item_308  h
    · replace h := h.2 hc
      refine e_blk 2 280 _ _ (pc' := 282) (L' := [some (.ref l0), some (.int l1), none, some (.int l3), some (.int l4), none, none, none]) (st' := [.ref l0, .ref l0]) rfl ?_
      obtain ⟨ho1, h⟩ := h
      refine e_getI 7 12 rfl rfl (by decide) (aw (i := 1077) (by decide +kernel) rfl) ho1 rfl ?_
      refine e_blk 2 285 _ _ (pc' := 287) (L' := [some (.ref l0), some (.int l1), none, some (.int l3), some (.int l4), none, none, none]) (st' := [.int ((mI M l0 12) + (1 : Int32)), .ref l0]) rfl ?_
      refine e_putI 7 12 rfl rfl (by decide) (aw (i := 1077) (by decide +kernel) rfl) rfl ho1 rfl ?_
      generalize hM2 : sI M l0 12 ((mI M l0 12) + (1 : Int32)) = M2
      replace h := h M2 hM2.symm
      replace ho1 : ob M2 l0 7 := hM2 ▸ ob_sI ho1
      refine e_blk 2 290 _ _ (pc' := 292) (L' := [some (.ref l0), some (.int l1), none, some (.int l3), some (.int l4), none, none, none]) (st' := [.ref l0, .ref l0]) rfl ?_
      refine e_getJ 7 22 rfl rfl (by decide) (aw (i := 1087) (by decide +kernel) rfl) ho1 rfl ?_
      refine e_blk 3 295 _ _ (pc' := 299) (L' := [some (.ref l0), some (.int l1), none, some (.int l3), some (.int l4), none, none, none]) (st' := [.int (7 : Int32), .int l3, .long (1 : Int64), .long (mJ M2 l0 22), .ref l0]) rfl ?_
      refine e_irem rfl (by decide) ?_
      refine e_blk 2 300 _ _ (pc' := 302) (L' := [some (.ref l0), some (.int l1), none, some (.int l3), some (.int l4), none, none, none]) (st' := [.long ((mJ M2 l0 22) ||| ((1 : Int64) <<< (((l3 - l3 / (7 : Int32) * (7 : Int32))).toInt64 &&& 63))), .ref l0]) rfl ?_
      refine e_putJ 7 22 rfl rfl (by decide) (aw (i := 1087) (by decide +kernel) rfl) rfl ho1 rfl ?_
      generalize hM3 : sJ M2 l0 22 ((mJ M2 l0 22) ||| ((1 : Int64) <<< (((l3 - l3 / (7 : Int32) * (7 : Int32))).toInt64 &&& 63))) = M3
      replace h := h M3 hM3.symm
      replace ho1 : ob M3 l0 7 := hM3 ▸ ob_sJ ho1
      refine e_blk 1 305 _ _ (pc' := 380) (L' := [some (.ref l0), some (.int l1), none, some (.int l3), some (.int l4), none, none, none]) (st' := []) rfl ?_
      refine e_drp [false, false, false, false, false, false, false, false] (L' := [none, none, none, none, none, none, none, none]) rfl ?_
      exact x_X7_item_380  h
def V_X7_item_228 (K : Rs → Mm → Prop)  (M : Mm)  : Prop := V_X7_item_380 K  M 
set_option maxRecDepth 100000 in
set_option maxHeartbeats 4000000 in
theorem x_X7_item_228 {G : Gx} {K : Rs → Mm → Prop}  {M : Mm}  (h : V_X7_item_228 K  M ) : E G mi_X7_item K M 0 0 228 [none, none, none, none, none, none, none, none] [] := by
  unfold V_X7_item_228 at h
  refine e_blk 1 228 _ _ (pc' := 380) (L' := [none, none, none, none, none, none, none, none]) (st' := []) rfl ?_
  refine e_drp [false, false, false, false, false, false, false, false] (L' := [none, none, none, none, none, none, none, none]) rfl ?_
  exact x_X7_item_380  h
def V_X7_item_223 (K : Rs → Mm → Prop)  (M : Mm) (l5 : Int32) (s0 : Nat) (s1 : Int32) (s2 : Int32) (s3 : Int32) : Prop := (ob M s0 7 ∧ V_X7_range (kV (fun M2 => V_X7_item_228 K  M2 ) (fun _ _ => False)) M s0 s1 s2 s3 l5)
set_option maxRecDepth 100000 in
set_option maxHeartbeats 4000000 in
theorem x_X7_item_223 {G : Gx} {K : Rs → Mm → Prop}  {M : Mm} {l5 : Int32} {s0 : Nat} {s1 : Int32} {s2 : Int32} {s3 : Int32} (h : V_X7_item_223 K  M l5 s0 s1 s2 s3) : E G mi_X7_item K M 0 0 223 [none, none, none, none, none, some (.int l5), none, none] [.int s3, .int s2, .int s1, .ref s0] := by
  unfold V_X7_item_223 at h
  refine e_blk 1 223 _ _ (pc' := 225) (L' := [none, none, none, none, none, some (.int l5), none, none]) (st' := [.int l5, .int s3, .int s2, .int s1, .ref s0]) rfl ?_
  obtain ⟨ho1, h⟩ := h
  refine e_callV (As := [.int s1, .int s2, .int s3, .int l5]) (rest := []) (ci := 7) rfl (x_X7_range h) ho1 rfl rfl rfl (aw (i := 1365) (by decide +kernel) rfl) wn_X7_range wv_X7_range wi_X7_range wc_X7_range (show cok mi_X7_item mi_X7_range 0 0 4 = true by decide +kernel) (Nat.le_of_ble_eq_true rfl) (fun v9 M2 hq => ?_) (fun X M9 hq => False.elim hq)
  obtain ⟨rfl, h⟩ := kV_l hq
  refine e_drp [false, false, false, false, false, false, false, false] (L' := [none, none, none, none, none, none, none, none]) rfl ?_
  exact x_X7_item_228  h
def V_X7_item_219 (K : Rs → Mm → Prop)  (M : Mm) (l1 : Int32) (l5 : Int32) (s0 : Nat) (s1 : Int32) (s2 : Int32) : Prop := V_X7_greatest (kI (fun r2 M1 => V_X7_item_223 K  M1 l5 s0 s1 s2 r2) (fun _ _ => False)) M l1
set_option maxRecDepth 100000 in
set_option maxHeartbeats 4000000 in
theorem x_X7_item_219 {G : Gx} {K : Rs → Mm → Prop}  {M : Mm} {l1 : Int32} {l5 : Int32} {s0 : Nat} {s1 : Int32} {s2 : Int32} (h : V_X7_item_219 K  M l1 l5 s0 s1 s2) : E G mi_X7_item K M 0 0 219 [none, some (.int l1), none, none, none, some (.int l5), none, none] [.int s2, .int s1, .ref s0] := by
  unfold V_X7_item_219 at h
  refine e_blk 1 219 _ _ (pc' := 220) (L' := [none, some (.int l1), none, none, none, some (.int l5), none, none]) (st' := [.int l1, .int s2, .int s1, .ref s0]) rfl ?_
  refine e_callS (As := [.int l1]) (rest := [.int s2, .int s1, .ref s0]) rfl (x_X7_greatest h) rfl (aw (i := 1402) (by decide +kernel) rfl) ws_X7_greatest wi_X7_greatest wc_X7_greatest (show cok mi_X7_item mi_X7_greatest 0 0 1 = true by decide +kernel) (Nat.le_of_ble_eq_true rfl) (fun v9 M1 hq => ?_) (fun X M9 hq => False.elim hq)
  obtain ⟨r2, rfl, h⟩ := kI_l hq
  refine e_drp [false, false, false, false, false, true, false, false] (L' := [none, none, none, none, none, some (.int l5), none, none]) rfl ?_
  exact x_X7_item_223  h
def V_X7_item_177 (K : Rs → Mm → Prop)  (M : Mm)  : Prop := V_X7_item_380 K  M 
set_option maxRecDepth 100000 in
set_option maxHeartbeats 4000000 in
theorem x_X7_item_177 {G : Gx} {K : Rs → Mm → Prop}  {M : Mm}  (h : V_X7_item_177 K  M ) : E G mi_X7_item K M 0 0 177 [none, none, none, none, none, none, none, none] [] := by
  unfold V_X7_item_177 at h
  refine e_blk 1 177 _ _ (pc' := 380) (L' := [none, none, none, none, none, none, none, none]) (st' := []) rfl ?_
  refine e_drp [false, false, false, false, false, false, false, false] (L' := [none, none, none, none, none, none, none, none]) rfl ?_
  exact x_X7_item_380  h
def V_X7_item_154 (K : Rs → Mm → Prop)  (M : Mm) (l0 : Nat) (l1 : Int32) (l3 : Int32) (l6 : Int32) : Prop := (ob M l0 7 ∧ V_X7_step (kI (fun r3 M2 => (ob M2 l0 7 ∧ ((¬ (mI M2 l0 13) = 0 → V_X7_item_177 K  M2 ) ∧ ((mI M2 l0 13) = 0 → V_X7_range (kV (fun M5 => V_X7_item_177 K  M5 ) (fun _ _ => False)) M2 l0 l1 l3 l6 r3)))) (fun _ _ => False)) M l0)
set_option maxRecDepth 100000 in
set_option maxHeartbeats 4000000 in
theorem x_X7_item_154 {G : Gx} {K : Rs → Mm → Prop}  {M : Mm} {l0 : Nat} {l1 : Int32} {l3 : Int32} {l6 : Int32} (h : V_X7_item_154 K  M l0 l1 l3 l6) : E G mi_X7_item K M 0 0 154 [some (.ref l0), some (.int l1), none, some (.int l3), none, none, some (.int l6), none] [] := by
  unfold V_X7_item_154 at h
  refine e_blk 1 154 _ _ (pc' := 155) (L' := [some (.ref l0), some (.int l1), none, some (.int l3), none, none, some (.int l6), none]) (st' := [.ref l0]) rfl ?_
  obtain ⟨ho1, h⟩ := h
  refine e_callV (As := []) (rest := []) (ci := 7) rfl (x_X7_step h) ho1 rfl rfl rfl (aw (i := 1381) (by decide +kernel) rfl) wn_X7_step wv_X7_step wi_X7_step wc_X7_step (show cok mi_X7_item mi_X7_step 0 0 0 = true by decide +kernel) (Nat.le_of_ble_eq_true rfl) (fun v9 M2 hq => ?_) (fun X M9 hq => False.elim hq)
  obtain ⟨r3, rfl, h⟩ := kI_l hq
  refine e_blk 2 158 _ _ (pc' := 161) (L' := [some (.ref l0), some (.int l1), none, some (.int l3), none, none, some (.int l6), some (.int r3)]) (st' := [.ref l0]) rfl ?_
  obtain ⟨ho4, h⟩ := h
  refine e_getI 7 13 rfl rfl (by decide) (aw (i := 1078) (by decide +kernel) rfl) ho4 rfl ?_
  refine e_if_ne 177 rfl rfl (fun hc => ?_) (fun hc => ?_)
  · replace h := h.1 hc
    refine e_drp [false, false, false, false, false, false, false, false] (L' := [none, none, none, none, none, none, none, none]) rfl ?_
    exact x_X7_item_177  h
  · replace h := h.2 hc
    refine e_blk 5 167 _ _ (pc' := 174) (L' := [some (.ref l0), some (.int l1), none, some (.int l3), none, none, some (.int l6), some (.int r3)]) (st' := [.int r3, .int l6, .int l3, .int l1, .ref l0]) rfl ?_
    refine e_callV (As := [.int l1, .int l3, .int l6, .int r3]) (rest := []) (ci := 7) rfl (x_X7_range h) ho4 rfl rfl rfl (aw (i := 1365) (by decide +kernel) rfl) wn_X7_range wv_X7_range wi_X7_range wc_X7_range (show cok mi_X7_item mi_X7_range 0 0 4 = true by decide +kernel) (Nat.le_of_ble_eq_true rfl) (fun v9 M5 hq => ?_) (fun X M9 hq => False.elim hq)
    obtain ⟨rfl, h⟩ := kV_l hq
    refine e_drp [false, false, false, false, false, false, false, false] (L' := [none, none, none, none, none, none, none, none]) rfl ?_
    exact x_X7_item_177  h
def V_X7_item_84 (K : Rs → Mm → Prop)  (M : Mm) (l0 : Nat) (l1 : Int32) : Prop := (ob M l0 7 ∧ V_X7_valueOf (kI (fun r3 M2 => (ob M2 l0 7 ∧ (((mI M2 l0 13) ≤ 0 → V_X7_sign (kI (fun r6 M5 => ((¬ r6 = (45 : Int32) → ((¬ r6 = (47 : Int32) → ((¬ r6 = (87 : Int32) → V_X7_item_268 K  M5 l0 l1 r3 r6) ∧ (r6 = (87 : Int32) → ((¬ l1 = (2 : Int32) → V_X7_item_268 K  M5 l0 l1 r3 r6) ∧ (l1 = (2 : Int32) → (ob M5 l0 7 ∧ ∀ M8, M8 = sI M5 l0 12 ((mI M5 l0 12) + (1 : Int32)) → ∀ M9, M9 = sJ M8 l0 21 ((mJ M8 l0 21) ||| ((1 : Int64) <<< ((r3).toInt64 &&& 63))) → V_X7_item_380 K  M9 )))))) ∧ (r6 = (47 : Int32) → (ob M5 l0 7 ∧ V_X7_step (kI (fun r12 M11 => (ob M11 l0 7 ∧ ((¬ (mI M11 l0 13) = 0 → V_X7_item_228 K  M11 ) ∧ ((mI M11 l0 13) = 0 → ((¬ l1 = (4 : Int32) → V_X7_item_219 K  M11 l1 r12 l0 l1 r3) ∧ (l1 = (4 : Int32) → (((7 : Int32) ≤ r3 → V_X7_item_219 K  M11 l1 r12 l0 l1 r3) ∧ (¬ (7 : Int32) ≤ r3 → V_X7_item_223 K  M11 r12 l0 l1 r3 (6 : Int32))))))))) (fun _ _ => False)) M5 l0)))) ∧ (r6 = (45 : Int32) → (ob M5 l0 7 ∧ ∀ M15, M15 = sI M5 l0 12 ((mI M5 l0 12) + (1 : Int32)) → ∀ x16 : Int32, x16 = (mI M15 l0 12) → V_X7_valueOf (kI (fun r18 M17 => (ob M17 l0 7 ∧ ((¬ (mI M17 l0 13) = 0 → V_X7_item_154 K  M17 l0 l1 r3 r18) ∧ ((mI M17 l0 13) = 0 → ((r3 ≤ r18 → V_X7_item_154 K  M17 l0 l1 r3 r18) ∧ (¬ r3 ≤ r18 → V_X7_fail (kV (fun M20 => V_X7_item_154 K  M20 l0 l1 r3 r18) (fun _ _ => False)) M17 l0 (3 : Int32) x16)))))) (fun _ _ => False)) M15 l0 l1)))) (fun _ _ => False)) M2 l0) ∧ (¬ (mI M2 l0 13) ≤ 0 → K (.inl none) M2)))) (fun _ _ => False)) M l0 l1)
set_option maxRecDepth 100000 in
set_option maxHeartbeats 4000000 in
theorem x_X7_item_84 {G : Gx} {K : Rs → Mm → Prop}  {M : Mm} {l0 : Nat} {l1 : Int32} (h : V_X7_item_84 K  M l0 l1) : E G mi_X7_item K M 0 0 84 [some (.ref l0), some (.int l1), none, none, none, none, none, none] [] := by
  unfold V_X7_item_84 at h
  refine e_blk 2 84 _ _ (pc' := 86) (L' := [some (.ref l0), some (.int l1), none, none, none, none, none, none]) (st' := [.int l1, .ref l0]) rfl ?_
  obtain ⟨ho1, h⟩ := h
  refine e_callV (As := [.int l1]) (rest := []) (ci := 7) rfl (x_X7_valueOf h) ho1 rfl rfl rfl (aw (i := 1409) (by decide +kernel) rfl) wn_X7_valueOf wv_X7_valueOf wi_X7_valueOf wc_X7_valueOf (show cok mi_X7_item mi_X7_valueOf 0 0 1 = true by decide +kernel) (Nat.le_of_ble_eq_true rfl) (fun v9 M2 hq => ?_) (fun X M9 hq => False.elim hq)
  obtain ⟨r3, rfl, h⟩ := kI_l hq
  refine e_blk 2 89 _ _ (pc' := 91) (L' := [some (.ref l0), some (.int l1), none, some (.int r3), none, none, none, none]) (st' := [.ref l0]) rfl ?_
  obtain ⟨ho4, h⟩ := h
  refine e_getI 7 13 rfl rfl (by decide) (aw (i := 1078) (by decide +kernel) rfl) ho4 rfl ?_
  refine e_if_le 98 rfl rfl (fun hc => ?_) (fun hc => ?_)
  · replace h := h.1 hc
    refine e_blk 1 98 _ _ (pc' := 99) (L' := [some (.ref l0), some (.int l1), none, some (.int r3), none, none, none, none]) (st' := [.ref l0]) rfl ?_
    refine e_callV (As := []) (rest := []) (ci := 7) rfl (x_X7_sign h) ho4 rfl rfl rfl (aw (i := 1343) (by decide +kernel) rfl) wn_X7_sign wv_X7_sign wi_X7_sign wc_X7_sign (show cok mi_X7_item mi_X7_sign 0 0 0 = true by decide +kernel) (Nat.le_of_ble_eq_true rfl) (fun v9 M5 hq => ?_) (fun X M9 hq => False.elim hq)
    obtain ⟨r6, rfl, h⟩ := kI_l hq
    refine e_blk 3 102 _ _ (pc' := 108) (L' := [some (.ref l0), some (.int l1), none, some (.int r3), some (.int r6), none, none, none]) (st' := [.int (45 : Int32), .int r6]) rfl ?_
    refine e_icmp_ne 180 rfl rfl (fun hc => ?_) (fun hc => ?_)
    · replace h := h.1 hc
      refine e_blk 2 180 _ _ (pc' := 184) (L' := [some (.ref l0), some (.int l1), none, some (.int r3), some (.int r6), none, none, none]) (st' := [.int (47 : Int32), .int r6]) rfl ?_
      refine e_icmp_ne 231 rfl rfl (fun hc => ?_) (fun hc => ?_)
      · replace h := h.1 hc
        refine e_blk 2 231 _ _ (pc' := 235) (L' := [some (.ref l0), some (.int l1), none, some (.int r3), some (.int r6), none, none, none]) (st' := [.int (87 : Int32), .int r6]) rfl ?_
        refine e_icmp_ne 268 rfl rfl (fun hc => ?_) (fun hc => ?_)
        · replace h := h.1 hc
          refine e_drp [true, true, false, true, true, false, false, false] (L' := [some (.ref l0), some (.int l1), none, some (.int r3), some (.int r6), none, none, none]) rfl ?_
          exact x_X7_item_268  h
        · replace h := h.2 hc
          refine e_blk 2 238 _ _ (pc' := 240) (L' := [some (.ref l0), some (.int l1), none, some (.int r3), some (.int r6), none, none, none]) (st' := [.int (2 : Int32), .int l1]) rfl ?_
          refine e_icmp_ne 268 rfl rfl (fun hc => ?_) (fun hc => ?_)
          · replace h := h.1 hc
            refine e_drp [true, true, false, true, true, false, false, false] (L' := [some (.ref l0), some (.int l1), none, some (.int r3), some (.int r6), none, none, none]) rfl ?_
            exact x_X7_item_268  h
          · replace h := h.2 hc
            refine e_blk 2 243 _ _ (pc' := 245) (L' := [some (.ref l0), some (.int l1), none, some (.int r3), some (.int r6), none, none, none]) (st' := [.ref l0, .ref l0]) rfl ?_
            obtain ⟨ho7, h⟩ := h
            refine e_getI 7 12 rfl rfl (by decide) (aw (i := 1077) (by decide +kernel) rfl) ho7 rfl ?_
            refine e_blk 2 248 _ _ (pc' := 250) (L' := [some (.ref l0), some (.int l1), none, some (.int r3), some (.int r6), none, none, none]) (st' := [.int ((mI M5 l0 12) + (1 : Int32)), .ref l0]) rfl ?_
            refine e_putI 7 12 rfl rfl (by decide) (aw (i := 1077) (by decide +kernel) rfl) rfl ho7 rfl ?_
            generalize hM8 : sI M5 l0 12 ((mI M5 l0 12) + (1 : Int32)) = M8
            replace h := h M8 hM8.symm
            replace ho7 : ob M8 l0 7 := hM8 ▸ ob_sI ho7
            refine e_blk 2 253 _ _ (pc' := 255) (L' := [some (.ref l0), some (.int l1), none, some (.int r3), some (.int r6), none, none, none]) (st' := [.ref l0, .ref l0]) rfl ?_
            refine e_getJ 7 21 rfl rfl (by decide) (aw (i := 1086) (by decide +kernel) rfl) ho7 rfl ?_
            refine e_blk 4 258 _ _ (pc' := 262) (L' := [some (.ref l0), some (.int l1), none, some (.int r3), some (.int r6), none, none, none]) (st' := [.long ((mJ M8 l0 21) ||| ((1 : Int64) <<< ((r3).toInt64 &&& 63))), .ref l0]) rfl ?_
            refine e_putJ 7 21 rfl rfl (by decide) (aw (i := 1086) (by decide +kernel) rfl) rfl ho7 rfl ?_
            generalize hM9 : sJ M8 l0 21 ((mJ M8 l0 21) ||| ((1 : Int64) <<< ((r3).toInt64 &&& 63))) = M9
            replace h := h M9 hM9.symm
            replace ho7 : ob M9 l0 7 := hM9 ▸ ob_sJ ho7
            refine e_blk 1 265 _ _ (pc' := 380) (L' := [some (.ref l0), some (.int l1), none, some (.int r3), some (.int r6), none, none, none]) (st' := []) rfl ?_
            refine e_drp [false, false, false, false, false, false, false, false] (L' := [none, none, none, none, none, none, none, none]) rfl ?_
            exact x_X7_item_380  h
      · replace h := h.2 hc
        refine e_blk 1 187 _ _ (pc' := 188) (L' := [some (.ref l0), some (.int l1), none, some (.int r3), some (.int r6), none, none, none]) (st' := [.ref l0]) rfl ?_
        obtain ⟨ho10, h⟩ := h
        refine e_callV (As := []) (rest := []) (ci := 7) rfl (x_X7_step h) ho10 rfl rfl rfl (aw (i := 1381) (by decide +kernel) rfl) wn_X7_step wv_X7_step wi_X7_step wc_X7_step (show cok mi_X7_item mi_X7_step 0 0 0 = true by decide +kernel) (Nat.le_of_ble_eq_true rfl) (fun v9 M11 hq => ?_) (fun X M9 hq => False.elim hq)
        obtain ⟨r12, rfl, h⟩ := kI_l hq
        refine e_blk 2 191 _ _ (pc' := 194) (L' := [some (.ref l0), some (.int l1), none, some (.int r3), some (.int r6), some (.int r12), none, none]) (st' := [.ref l0]) rfl ?_
        obtain ⟨ho13, h⟩ := h
        refine e_getI 7 13 rfl rfl (by decide) (aw (i := 1078) (by decide +kernel) rfl) ho13 rfl ?_
        refine e_if_ne 228 rfl rfl (fun hc => ?_) (fun hc => ?_)
        · replace h := h.1 hc
          refine e_drp [false, false, false, false, false, false, false, false] (L' := [none, none, none, none, none, none, none, none]) rfl ?_
          exact x_X7_item_228  h
        · replace h := h.2 hc
          refine e_blk 5 200 _ _ (pc' := 205) (L' := [some (.ref l0), some (.int l1), none, some (.int r3), some (.int r6), some (.int r12), none, none]) (st' := [.int (4 : Int32), .int l1, .int r3, .int l1, .ref l0]) rfl ?_
          refine e_icmp_ne 219 rfl rfl (fun hc => ?_) (fun hc => ?_)
          · replace h := h.1 hc
            refine e_drp [false, true, false, false, false, true, false, false] (L' := [none, some (.int l1), none, none, none, some (.int r12), none, none]) rfl ?_
            exact x_X7_item_219  h
          · replace h := h.2 hc
            refine e_blk 2 208 _ _ (pc' := 211) (L' := [some (.ref l0), some (.int l1), none, some (.int r3), some (.int r6), some (.int r12), none, none]) (st' := [.int (7 : Int32), .int r3, .int r3, .int l1, .ref l0]) rfl ?_
            refine e_icmp_ge 219 rfl rfl (fun hc => ?_) (fun hc => ?_)
            · replace h := h.1 hc
              refine e_drp [false, true, false, false, false, true, false, false] (L' := [none, some (.int l1), none, none, none, some (.int r12), none, none]) rfl ?_
              exact x_X7_item_219  h
            · replace h := h.2 hc
              refine e_blk 2 214 _ _ (pc' := 223) (L' := [some (.ref l0), some (.int l1), none, some (.int r3), some (.int r6), some (.int r12), none, none]) (st' := [.int (6 : Int32), .int r3, .int l1, .ref l0]) rfl ?_
              refine e_drp [false, false, false, false, false, true, false, false] (L' := [none, none, none, none, none, some (.int r12), none, none]) rfl ?_
              exact x_X7_item_223  h
    · replace h := h.2 hc
      refine e_blk 2 111 _ _ (pc' := 113) (L' := [some (.ref l0), some (.int l1), none, some (.int r3), some (.int r6), none, none, none]) (st' := [.ref l0, .ref l0]) rfl ?_
      obtain ⟨ho14, h⟩ := h
      refine e_getI 7 12 rfl rfl (by decide) (aw (i := 1077) (by decide +kernel) rfl) ho14 rfl ?_
      refine e_blk 2 116 _ _ (pc' := 118) (L' := [some (.ref l0), some (.int l1), none, some (.int r3), some (.int r6), none, none, none]) (st' := [.int ((mI M5 l0 12) + (1 : Int32)), .ref l0]) rfl ?_
      refine e_putI 7 12 rfl rfl (by decide) (aw (i := 1077) (by decide +kernel) rfl) rfl ho14 rfl ?_
      generalize hM15 : sI M5 l0 12 ((mI M5 l0 12) + (1 : Int32)) = M15
      replace h := h M15 hM15.symm
      replace ho14 : ob M15 l0 7 := hM15 ▸ ob_sI ho14
      refine e_blk 1 121 _ _ (pc' := 122) (L' := [some (.ref l0), some (.int l1), none, some (.int r3), some (.int r6), none, none, none]) (st' := [.ref l0]) rfl ?_
      refine e_getI 7 12 rfl rfl (by decide) (aw (i := 1077) (by decide +kernel) rfl) ho14 rfl ?_
      refine e_blk 3 125 _ _ (pc' := 129) (L' := [some (.ref l0), some (.int l1), none, some (.int r3), some (.int r6), some (.int (mI M15 l0 12)), none, none]) (st' := [.int l1, .ref l0]) rfl ?_
      generalize hx_x16 : ((mI M15 l0 12) : Int32) = x16
      replace h := h x16 hx_x16.symm
      refine e_callV (As := [.int l1]) (rest := []) (ci := 7) rfl (x_X7_valueOf h) ho14 rfl rfl rfl (aw (i := 1409) (by decide +kernel) rfl) wn_X7_valueOf wv_X7_valueOf wi_X7_valueOf wc_X7_valueOf (show cok mi_X7_item mi_X7_valueOf 0 0 1 = true by decide +kernel) (Nat.le_of_ble_eq_true rfl) (fun v9 M17 hq => ?_) (fun X M9 hq => False.elim hq)
      obtain ⟨r18, rfl, h⟩ := kI_l hq
      refine e_blk 2 132 _ _ (pc' := 135) (L' := [some (.ref l0), some (.int l1), none, some (.int r3), some (.int r6), some (.int x16), some (.int r18), none]) (st' := [.ref l0]) rfl ?_
      obtain ⟨ho19, h⟩ := h
      refine e_getI 7 13 rfl rfl (by decide) (aw (i := 1078) (by decide +kernel) rfl) ho19 rfl ?_
      refine e_if_ne 154 rfl rfl (fun hc => ?_) (fun hc => ?_)
      · replace h := h.1 hc
        refine e_drp [true, true, false, true, false, false, true, false] (L' := [some (.ref l0), some (.int l1), none, some (.int r3), none, none, some (.int r18), none]) rfl ?_
        exact x_X7_item_154  h
      · replace h := h.2 hc
        refine e_blk 2 141 _ _ (pc' := 144) (L' := [some (.ref l0), some (.int l1), none, some (.int r3), some (.int r6), some (.int x16), some (.int r18), none]) (st' := [.int r3, .int r18]) rfl ?_
        refine e_icmp_ge 154 rfl rfl (fun hc => ?_) (fun hc => ?_)
        · replace h := h.1 hc
          refine e_drp [true, true, false, true, false, false, true, false] (L' := [some (.ref l0), some (.int l1), none, some (.int r3), none, none, some (.int r18), none]) rfl ?_
          exact x_X7_item_154  h
        · replace h := h.2 hc
          refine e_blk 3 147 _ _ (pc' := 151) (L' := [some (.ref l0), some (.int l1), none, some (.int r3), some (.int r6), some (.int x16), some (.int r18), none]) (st' := [.int x16, .int (3 : Int32), .ref l0]) rfl ?_
          refine e_callV (As := [.int (3 : Int32), .int x16]) (rest := []) (ci := 7) rfl (x_X7_fail h) ho19 rfl rfl rfl (aw (i := 1357) (by decide +kernel) rfl) wn_X7_fail wv_X7_fail wi_X7_fail wc_X7_fail (show cok mi_X7_item mi_X7_fail 0 0 2 = true by decide +kernel) (Nat.le_of_ble_eq_true rfl) (fun v9 M20 hq => ?_) (fun X M9 hq => False.elim hq)
          obtain ⟨rfl, h⟩ := kV_l hq
          refine e_drp [true, true, false, true, false, false, true, false] (L' := [some (.ref l0), some (.int l1), none, some (.int r3), none, none, some (.int r18), none]) rfl ?_
          exact x_X7_item_154  h
  · replace h := h.2 hc
    exact e_ret rfl rfl (by decide) (by decide) h
def V_X7_item_57 (K : Rs → Mm → Prop)  (M : Mm)  : Prop := K (.inl none) M
set_option maxRecDepth 100000 in
set_option maxHeartbeats 4000000 in
theorem x_X7_item_57 {G : Gx} {K : Rs → Mm → Prop}  {M : Mm}  (h : V_X7_item_57 K  M ) : E G mi_X7_item K M 0 0 57 [none, none, none, none, none, none, none, none] [] := by
  unfold V_X7_item_57 at h
  exact e_ret rfl rfl (by decide) (by decide) h
def V_X7_item_53 (K : Rs → Mm → Prop)  (M : Mm) (l3 : Int32) (s0 : Nat) (s1 : Int32) (s2 : Int32) (s3 : Int32) : Prop := (ob M s0 7 ∧ V_X7_range (kV (fun M2 => V_X7_item_57 K  M2 ) (fun _ _ => False)) M s0 s1 s2 s3 l3)
set_option maxRecDepth 100000 in
set_option maxHeartbeats 4000000 in
theorem x_X7_item_53 {G : Gx} {K : Rs → Mm → Prop}  {M : Mm} {l3 : Int32} {s0 : Nat} {s1 : Int32} {s2 : Int32} {s3 : Int32} (h : V_X7_item_53 K  M l3 s0 s1 s2 s3) : E G mi_X7_item K M 0 0 53 [none, none, none, some (.int l3), none, none, none, none] [.int s3, .int s2, .int s1, .ref s0] := by
  unfold V_X7_item_53 at h
  refine e_blk 1 53 _ _ (pc' := 54) (L' := [none, none, none, some (.int l3), none, none, none, none]) (st' := [.int l3, .int s3, .int s2, .int s1, .ref s0]) rfl ?_
  obtain ⟨ho1, h⟩ := h
  refine e_callV (As := [.int s1, .int s2, .int s3, .int l3]) (rest := []) (ci := 7) rfl (x_X7_range h) ho1 rfl rfl rfl (aw (i := 1365) (by decide +kernel) rfl) wn_X7_range wv_X7_range wi_X7_range wc_X7_range (show cok mi_X7_item mi_X7_range 0 0 4 = true by decide +kernel) (Nat.le_of_ble_eq_true rfl) (fun v9 M2 hq => ?_) (fun X M9 hq => False.elim hq)
  obtain ⟨rfl, h⟩ := kV_l hq
  refine e_drp [false, false, false, false, false, false, false, false] (L' := [none, none, none, none, none, none, none, none]) rfl ?_
  exact x_X7_item_57  h
def V_X7_item (K : Rs → Mm → Prop) (M : Mm) (a0 : Nat) (a1 : Int32) : Prop := (ob M a0 7 ∧ V_X7_sign (kI (fun r3 M2 => ((¬ r3 = (42 : Int32) → ((¬ r3 = (76 : Int32) → V_X7_item_84 K  M2 a0 a1) ∧ (r3 = (76 : Int32) → ((¬ a1 = (2 : Int32) → V_X7_item_84 K  M2 a0 a1) ∧ (a1 = (2 : Int32) → (ob M2 a0 7 ∧ ∀ M5, M5 = sI M2 a0 12 ((mI M2 a0 12) + (1 : Int32)) → V_X7_lastDay (kV (fun M6 => K (.inl none) M6) (fun _ _ => False)) M5 a0)))))) ∧ (r3 = (42 : Int32) → (ob M2 a0 7 ∧ ∀ M8, M8 = sI M2 a0 12 ((mI M2 a0 12) + (1 : Int32)) → V_X7_step (kI (fun r10 M9 => (ob M9 a0 7 ∧ ((¬ (mI M9 a0 13) = 0 → V_X7_item_57 K  M9 ) ∧ ((mI M9 a0 13) = 0 → V_X7_least (kI (fun r13 M12 => ((¬ a1 = (4 : Int32) → V_X7_greatest (kI (fun r15 M14 => V_X7_item_53 K  M14 r10 a0 a1 r13 r15) (fun _ _ => False)) M12 a1) ∧ (a1 = (4 : Int32) → V_X7_item_53 K  M12 r10 a0 a1 r13 (6 : Int32)))) (fun _ _ => False)) M9 a1)))) (fun _ _ => False)) M8 a0)))) (fun _ _ => False)) M a0)
set_option maxRecDepth 100000 in
set_option maxHeartbeats 4000000 in
theorem x_X7_item {G : Gx} {K : Rs → Mm → Prop} {M : Mm} {a0 : Nat} {a1 : Int32} (h : V_X7_item K M a0 a1) : MC G mi_X7_item [.ref a0, .int a1] M K := by
  unfold V_X7_item at h
  refine mc_of rfl (by decide +kernel) dc_X7_item (Nat.le_of_ble_eq_true rfl) 6 (Nat.le_of_ble_eq_true rfl) ?_
  show E G mi_X7_item K M 0 0 0 [some (.ref a0), some (.int a1), none, none, none, none, none, none] []
  refine e_blk 1 0 _ _ (pc' := 1) (L' := [some (.ref a0), some (.int a1), none, none, none, none, none, none]) (st' := [.ref a0]) rfl ?_
  obtain ⟨ho1, h⟩ := h
  refine e_callV (As := []) (rest := []) (ci := 7) rfl (x_X7_sign h) ho1 rfl rfl rfl (aw (i := 1343) (by decide +kernel) rfl) wn_X7_sign wv_X7_sign wi_X7_sign wc_X7_sign (show cok mi_X7_item mi_X7_sign 0 0 0 = true by decide +kernel) (Nat.le_of_ble_eq_true rfl) (fun v9 M2 hq => ?_) (fun X M9 hq => False.elim hq)
  obtain ⟨r3, rfl, h⟩ := kI_l hq
  refine e_blk 3 4 _ _ (pc' := 8) (L' := [some (.ref a0), some (.int a1), some (.int r3), none, none, none, none, none]) (st' := [.int (42 : Int32), .int r3]) rfl ?_
  refine e_icmp_ne 58 rfl rfl (fun hc => ?_) (fun hc => ?_)
  · replace h := h.1 hc
    refine e_blk 2 58 _ _ (pc' := 61) (L' := [some (.ref a0), some (.int a1), some (.int r3), none, none, none, none, none]) (st' := [.int (76 : Int32), .int r3]) rfl ?_
    refine e_icmp_ne 84 rfl rfl (fun hc => ?_) (fun hc => ?_)
    · replace h := h.1 hc
      refine e_drp [true, true, false, false, false, false, false, false] (L' := [some (.ref a0), some (.int a1), none, none, none, none, none, none]) rfl ?_
      exact x_X7_item_84  h
    · replace h := h.2 hc
      refine e_blk 2 64 _ _ (pc' := 66) (L' := [some (.ref a0), some (.int a1), some (.int r3), none, none, none, none, none]) (st' := [.int (2 : Int32), .int a1]) rfl ?_
      refine e_icmp_ne 84 rfl rfl (fun hc => ?_) (fun hc => ?_)
      · replace h := h.1 hc
        refine e_drp [true, true, false, false, false, false, false, false] (L' := [some (.ref a0), some (.int a1), none, none, none, none, none, none]) rfl ?_
        exact x_X7_item_84  h
      · replace h := h.2 hc
        refine e_blk 2 69 _ _ (pc' := 71) (L' := [some (.ref a0), some (.int a1), some (.int r3), none, none, none, none, none]) (st' := [.ref a0, .ref a0]) rfl ?_
        obtain ⟨ho4, h⟩ := h
        refine e_getI 7 12 rfl rfl (by decide) (aw (i := 1077) (by decide +kernel) rfl) ho4 rfl ?_
        refine e_blk 2 74 _ _ (pc' := 76) (L' := [some (.ref a0), some (.int a1), some (.int r3), none, none, none, none, none]) (st' := [.int ((mI M2 a0 12) + (1 : Int32)), .ref a0]) rfl ?_
        refine e_putI 7 12 rfl rfl (by decide) (aw (i := 1077) (by decide +kernel) rfl) rfl ho4 rfl ?_
        generalize hM5 : sI M2 a0 12 ((mI M2 a0 12) + (1 : Int32)) = M5
        replace h := h M5 hM5.symm
        replace ho4 : ob M5 a0 7 := hM5 ▸ ob_sI ho4
        refine e_blk 1 79 _ _ (pc' := 80) (L' := [some (.ref a0), some (.int a1), some (.int r3), none, none, none, none, none]) (st' := [.ref a0]) rfl ?_
        refine e_callV (As := []) (rest := []) (ci := 7) rfl (x_X7_lastDay h) ho4 rfl rfl rfl (aw (i := 1405) (by decide +kernel) rfl) wn_X7_lastDay wv_X7_lastDay wi_X7_lastDay wc_X7_lastDay (show cok mi_X7_item mi_X7_lastDay 0 0 0 = true by decide +kernel) (Nat.le_of_ble_eq_true rfl) (fun v9 M6 hq => ?_) (fun X M9 hq => False.elim hq)
        obtain ⟨rfl, h⟩ := kV_l hq
        exact e_ret rfl rfl (by decide) (by decide) h
  · replace h := h.2 hc
    refine e_blk 2 11 _ _ (pc' := 13) (L' := [some (.ref a0), some (.int a1), some (.int r3), none, none, none, none, none]) (st' := [.ref a0, .ref a0]) rfl ?_
    obtain ⟨ho7, h⟩ := h
    refine e_getI 7 12 rfl rfl (by decide) (aw (i := 1077) (by decide +kernel) rfl) ho7 rfl ?_
    refine e_blk 2 16 _ _ (pc' := 18) (L' := [some (.ref a0), some (.int a1), some (.int r3), none, none, none, none, none]) (st' := [.int ((mI M2 a0 12) + (1 : Int32)), .ref a0]) rfl ?_
    refine e_putI 7 12 rfl rfl (by decide) (aw (i := 1077) (by decide +kernel) rfl) rfl ho7 rfl ?_
    generalize hM8 : sI M2 a0 12 ((mI M2 a0 12) + (1 : Int32)) = M8
    replace h := h M8 hM8.symm
    replace ho7 : ob M8 a0 7 := hM8 ▸ ob_sI ho7
    refine e_blk 1 21 _ _ (pc' := 22) (L' := [some (.ref a0), some (.int a1), some (.int r3), none, none, none, none, none]) (st' := [.ref a0]) rfl ?_
    refine e_callV (As := []) (rest := []) (ci := 7) rfl (x_X7_step h) ho7 rfl rfl rfl (aw (i := 1381) (by decide +kernel) rfl) wn_X7_step wv_X7_step wi_X7_step wc_X7_step (show cok mi_X7_item mi_X7_step 0 0 0 = true by decide +kernel) (Nat.le_of_ble_eq_true rfl) (fun v9 M9 hq => ?_) (fun X M9 hq => False.elim hq)
    obtain ⟨r10, rfl, h⟩ := kI_l hq
    refine e_blk 2 25 _ _ (pc' := 27) (L' := [some (.ref a0), some (.int a1), some (.int r3), some (.int r10), none, none, none, none]) (st' := [.ref a0]) rfl ?_
    obtain ⟨ho11, h⟩ := h
    refine e_getI 7 13 rfl rfl (by decide) (aw (i := 1078) (by decide +kernel) rfl) ho11 rfl ?_
    refine e_if_ne 57 rfl rfl (fun hc => ?_) (fun hc => ?_)
    · replace h := h.1 hc
      refine e_drp [false, false, false, false, false, false, false, false] (L' := [none, none, none, none, none, none, none, none]) rfl ?_
      exact x_X7_item_57  h
    · replace h := h.2 hc
      refine e_blk 3 33 _ _ (pc' := 36) (L' := [some (.ref a0), some (.int a1), some (.int r3), some (.int r10), none, none, none, none]) (st' := [.int a1, .int a1, .ref a0]) rfl ?_
      refine e_callS (As := [.int a1]) (rest := [.int a1, .ref a0]) rfl (x_X7_least h) rfl (aw (i := 1399) (by decide +kernel) rfl) ws_X7_least wi_X7_least wc_X7_least (show cok mi_X7_item mi_X7_least 0 0 1 = true by decide +kernel) (Nat.le_of_ble_eq_true rfl) (fun v9 M12 hq => ?_) (fun X M9 hq => False.elim hq)
      obtain ⟨r13, rfl, h⟩ := kI_l hq
      refine e_blk 2 39 _ _ (pc' := 41) (L' := [some (.ref a0), some (.int a1), some (.int r3), some (.int r10), none, none, none, none]) (st' := [.int (4 : Int32), .int a1, .int r13, .int a1, .ref a0]) rfl ?_
      refine e_icmp_ne 49 rfl rfl (fun hc => ?_) (fun hc => ?_)
      · replace h := h.1 hc
        refine e_blk 1 49 _ _ (pc' := 50) (L' := [some (.ref a0), some (.int a1), some (.int r3), some (.int r10), none, none, none, none]) (st' := [.int a1, .int r13, .int a1, .ref a0]) rfl ?_
        refine e_callS (As := [.int a1]) (rest := [.int r13, .int a1, .ref a0]) rfl (x_X7_greatest h) rfl (aw (i := 1402) (by decide +kernel) rfl) ws_X7_greatest wi_X7_greatest wc_X7_greatest (show cok mi_X7_item mi_X7_greatest 0 0 1 = true by decide +kernel) (Nat.le_of_ble_eq_true rfl) (fun v9 M14 hq => ?_) (fun X M9 hq => False.elim hq)
        obtain ⟨r15, rfl, h⟩ := kI_l hq
        refine e_drp [false, false, false, true, false, false, false, false] (L' := [none, none, none, some (.int r10), none, none, none, none]) rfl ?_
        exact x_X7_item_53  h
      · replace h := h.2 hc
        refine e_blk 2 44 _ _ (pc' := 53) (L' := [some (.ref a0), some (.int a1), some (.int r3), some (.int r10), none, none, none, none]) (st' := [.int (6 : Int32), .int r13, .int a1, .ref a0]) rfl ?_
        refine e_drp [false, false, false, true, false, false, false, false] (L' := [none, none, none, some (.int r10), none, none, none, none]) rfl ?_
        exact x_X7_item_53  h
def V_X7_readField_99 (K : Rs → Mm → Prop)  (M : Mm)  : Prop := K (.inl none) M
set_option maxRecDepth 100000 in
set_option maxHeartbeats 4000000 in
theorem x_X7_readField_99 {G : Gx} {K : Rs → Mm → Prop}  {M : Mm}  (h : V_X7_readField_99 K  M ) : E G mi_X7_readField K M 0 0 99 [none, none] [] := by
  unfold V_X7_readField_99 at h
  exact e_ret rfl rfl (by decide) (by decide) h
def V_X7_readField_65 (K : Rs → Mm → Prop)  : Nat → Mm → Nat → Int32 → Prop
  | 0, _, _, _ => False
  | z + 1, M, l0, l1 => (ob M l0 7 ∧ ((¬ (mI M l0 13) = 0 → V_X7_readField_99 K  M ) ∧ ((mI M l0 13) = 0 → V_X7_sign (kI (fun r3 M2 => ((¬ r3 = (44 : Int32) → V_X7_readField_99 K  M2 ) ∧ (r3 = (44 : Int32) → (ob M2 l0 7 ∧ ∀ M5, M5 = sI M2 l0 12 ((mI M2 l0 12) + (1 : Int32)) → V_X7_item (kV (fun M6 => V_X7_readField_65 K  z M6 l0 l1) (fun _ _ => False)) M5 l0 l1)))) (fun _ _ => False)) M l0)))
set_option maxRecDepth 100000 in
set_option maxHeartbeats 4000000 in
theorem x_X7_readField_65 {G : Gx} {K : Rs → Mm → Prop}  : ∀ (z : Nat) (M : Mm) (l0 : Nat) (l1 : Int32), V_X7_readField_65 K  z M l0 l1 → E G mi_X7_readField K M 0 0 65 [some (.ref l0), some (.int l1)] []
  | 0, M, l0, l1, h => False.elim h
  | z + 1, M, l0, l1, h => by
    unfold V_X7_readField_65 at h
    refine e_blk 1 65 _ _ (pc' := 66) (L' := [some (.ref l0), some (.int l1)]) (st' := [.ref l0]) rfl ?_
    obtain ⟨ho1, h⟩ := h
    refine e_getI 7 13 rfl rfl (by decide) (aw (i := 1078) (by decide +kernel) rfl) ho1 rfl ?_
    refine e_if_ne 99 rfl rfl (fun hc => ?_) (fun hc => ?_)
    · replace h := h.1 hc
      refine e_drp [false, false] (L' := [none, none]) rfl ?_
      exact x_X7_readField_99  h
    · replace h := h.2 hc
      refine e_blk 1 72 _ _ (pc' := 73) (L' := [some (.ref l0), some (.int l1)]) (st' := [.ref l0]) rfl ?_
      refine e_callV (As := []) (rest := []) (ci := 7) rfl (x_X7_sign h) ho1 rfl rfl rfl (aw (i := 1343) (by decide +kernel) rfl) wn_X7_sign wv_X7_sign wi_X7_sign wc_X7_sign (show cok mi_X7_readField mi_X7_sign 0 0 0 = true by decide +kernel) (Nat.le_of_ble_eq_true rfl) (fun v9 M2 hq => ?_) (fun X M9 hq => False.elim hq)
      obtain ⟨r3, rfl, h⟩ := kI_l hq
      refine e_blk 1 76 _ _ (pc' := 78) (L' := [some (.ref l0), some (.int l1)]) (st' := [.int (44 : Int32), .int r3]) rfl ?_
      refine e_icmp_ne 99 rfl rfl (fun hc => ?_) (fun hc => ?_)
      · replace h := h.1 hc
        refine e_drp [false, false] (L' := [none, none]) rfl ?_
        exact x_X7_readField_99  h
      · replace h := h.2 hc
        refine e_blk 2 81 _ _ (pc' := 83) (L' := [some (.ref l0), some (.int l1)]) (st' := [.ref l0, .ref l0]) rfl ?_
        obtain ⟨ho4, h⟩ := h
        refine e_getI 7 12 rfl rfl (by decide) (aw (i := 1077) (by decide +kernel) rfl) ho4 rfl ?_
        refine e_blk 2 86 _ _ (pc' := 88) (L' := [some (.ref l0), some (.int l1)]) (st' := [.int ((mI M2 l0 12) + (1 : Int32)), .ref l0]) rfl ?_
        refine e_putI 7 12 rfl rfl (by decide) (aw (i := 1077) (by decide +kernel) rfl) rfl ho4 rfl ?_
        generalize hM5 : sI M2 l0 12 ((mI M2 l0 12) + (1 : Int32)) = M5
        replace h := h M5 hM5.symm
        replace ho4 : ob M5 l0 7 := hM5 ▸ ob_sI ho4
        refine e_blk 2 91 _ _ (pc' := 93) (L' := [some (.ref l0), some (.int l1)]) (st' := [.int l1, .ref l0]) rfl ?_
        refine e_callV (As := [.int l1]) (rest := []) (ci := 7) rfl (x_X7_item h) ho4 rfl rfl rfl (aw (i := 1377) (by decide +kernel) rfl) wn_X7_item wv_X7_item wi_X7_item wc_X7_item (show cok mi_X7_readField mi_X7_item 0 0 1 = true by decide +kernel) (Nat.le_of_ble_eq_true rfl) (fun v9 M6 hq => ?_) (fun X M9 hq => False.elim hq)
        obtain ⟨rfl, h⟩ := kV_l hq
        refine e_blk 1 96 _ _ (pc' := 65) (L' := [some (.ref l0), some (.int l1)]) (st' := []) rfl ?_
        refine e_drp [true, true] (L' := [some (.ref l0), some (.int l1)]) rfl ?_
        exact x_X7_readField_65  z _ _ _ h
def V_X7_readField_57 (K : Rs → Mm → Prop)  (M : Mm) (l0 : Nat) (l1 : Int32) (s0 : Nat) (s1 : Int32) : Prop := (ob M s0 7 ∧ ((s1 = 0 ∨ s1 = 1) ∧ ∀ M3, M3 = sI M s0 25 s1 → (ob M3 l0 7 ∧ V_X7_item (kV (fun M5 => ∃ y, V_X7_readField_65 K  y M5 l0 l1) (fun _ _ => False)) M3 l0 l1)))
set_option maxRecDepth 100000 in
set_option maxHeartbeats 4000000 in
theorem x_X7_readField_57 {G : Gx} {K : Rs → Mm → Prop}  {M : Mm} {l0 : Nat} {l1 : Int32} {s0 : Nat} {s1 : Int32} (h : V_X7_readField_57 K  M l0 l1 s0 s1) : E G mi_X7_readField K M 0 0 57 [some (.ref l0), some (.int l1)] [.int s1, .ref s0] := by
  unfold V_X7_readField_57 at h
  obtain ⟨ho1, h⟩ := h
  obtain ⟨hz2, h⟩ := h
  refine e_putZ 7 25 rfl rfl (by decide) (aw (i := 1090) (by decide +kernel) rfl) rfl ho1 rfl hz2 ?_
  generalize hM3 : sI M s0 25 s1 = M3
  replace h := h M3 hM3.symm
  replace ho1 : ob M3 s0 7 := hM3 ▸ ob_sI ho1
  refine e_blk 2 60 _ _ (pc' := 62) (L' := [some (.ref l0), some (.int l1)]) (st' := [.int l1, .ref l0]) rfl ?_
  obtain ⟨ho4, h⟩ := h
  refine e_callV (As := [.int l1]) (rest := []) (ci := 7) rfl (x_X7_item h) ho4 rfl rfl rfl (aw (i := 1377) (by decide +kernel) rfl) wn_X7_item wv_X7_item wi_X7_item wc_X7_item (show cok mi_X7_readField mi_X7_item 0 0 1 = true by decide +kernel) (Nat.le_of_ble_eq_true rfl) (fun v9 M5 hq => ?_) (fun X M9 hq => False.elim hq)
  obtain ⟨rfl, h⟩ := kV_l hq
  refine e_drp [true, true] (L' := [some (.ref l0), some (.int l1)]) rfl ?_
  obtain ⟨y, h⟩ := h
  exact x_X7_readField_65  y _ _ _ h
def V_X7_readField_27 (K : Rs → Mm → Prop)  (M : Mm) (l0 : Nat) (l1 : Int32) (s0 : Nat) (s1 : Int32) : Prop := (ob M s0 7 ∧ ((s1 = 0 ∨ s1 = 1) ∧ ∀ M3, M3 = sI M s0 24 s1 → ((¬ l1 = (4 : Int32) → (ob M3 l0 7 ∧ V_X7_readField_57 K  M3 l0 l1 l0 (mI M3 l0 25))) ∧ (l1 = (4 : Int32) → (ob M3 l0 7 ∧ V_X7_sign (kI (fun r7 M6 => ((¬ r7 = (42 : Int32) → V_X7_readField_57 K  M6 l0 l1 l0 (0 : Int32)) ∧ (r7 = (42 : Int32) → V_X7_readField_57 K  M6 l0 l1 l0 (1 : Int32)))) (fun _ _ => False)) M3 l0)))))
set_option maxRecDepth 100000 in
set_option maxHeartbeats 4000000 in
theorem x_X7_readField_27 {G : Gx} {K : Rs → Mm → Prop}  {M : Mm} {l0 : Nat} {l1 : Int32} {s0 : Nat} {s1 : Int32} (h : V_X7_readField_27 K  M l0 l1 s0 s1) : E G mi_X7_readField K M 0 0 27 [some (.ref l0), some (.int l1)] [.int s1, .ref s0] := by
  unfold V_X7_readField_27 at h
  obtain ⟨ho1, h⟩ := h
  obtain ⟨hz2, h⟩ := h
  refine e_putZ 7 24 rfl rfl (by decide) (aw (i := 1089) (by decide +kernel) rfl) rfl ho1 rfl hz2 ?_
  generalize hM3 : sI M s0 24 s1 = M3
  replace h := h M3 hM3.symm
  replace ho1 : ob M3 s0 7 := hM3 ▸ ob_sI ho1
  refine e_blk 3 30 _ _ (pc' := 33) (L' := [some (.ref l0), some (.int l1)]) (st' := [.int (4 : Int32), .int l1, .ref l0]) rfl ?_
  refine e_icmp_ne 53 rfl rfl (fun hc => ?_) (fun hc => ?_)
  · replace h := h.1 hc
    refine e_blk 1 53 _ _ (pc' := 54) (L' := [some (.ref l0), some (.int l1)]) (st' := [.ref l0, .ref l0]) rfl ?_
    obtain ⟨ho4, h⟩ := h
    refine e_getI 7 25 rfl rfl (by decide) (aw (i := 1090) (by decide +kernel) rfl) ho4 rfl ?_
    refine e_drp [true, true] (L' := [some (.ref l0), some (.int l1)]) rfl ?_
    exact x_X7_readField_57  h
  · replace h := h.2 hc
    refine e_blk 1 36 _ _ (pc' := 37) (L' := [some (.ref l0), some (.int l1)]) (st' := [.ref l0, .ref l0]) rfl ?_
    obtain ⟨ho5, h⟩ := h
    refine e_callV (As := []) (rest := [.ref l0]) (ci := 7) rfl (x_X7_sign h) ho5 rfl rfl rfl (aw (i := 1343) (by decide +kernel) rfl) wn_X7_sign wv_X7_sign wi_X7_sign wc_X7_sign (show cok mi_X7_readField mi_X7_sign 0 0 0 = true by decide +kernel) (Nat.le_of_ble_eq_true rfl) (fun v9 M6 hq => ?_) (fun X M9 hq => False.elim hq)
    obtain ⟨r7, rfl, h⟩ := kI_l hq
    refine e_blk 1 40 _ _ (pc' := 42) (L' := [some (.ref l0), some (.int l1)]) (st' := [.int (42 : Int32), .int r7, .ref l0]) rfl ?_
    refine e_icmp_ne 49 rfl rfl (fun hc => ?_) (fun hc => ?_)
    · replace h := h.1 hc
      refine e_blk 2 49 _ _ (pc' := 57) (L' := [some (.ref l0), some (.int l1)]) (st' := [.int (0 : Int32), .ref l0]) rfl ?_
      refine e_drp [true, true] (L' := [some (.ref l0), some (.int l1)]) rfl ?_
      exact x_X7_readField_57  h
    · replace h := h.2 hc
      refine e_blk 2 45 _ _ (pc' := 57) (L' := [some (.ref l0), some (.int l1)]) (st' := [.int (1 : Int32), .ref l0]) rfl ?_
      refine e_drp [true, true] (L' := [some (.ref l0), some (.int l1)]) rfl ?_
      exact x_X7_readField_57  h
def V_X7_readField (K : Rs → Mm → Prop) (M : Mm) (a0 : Nat) (a1 : Int32) : Prop := ((¬ a1 = (2 : Int32) → (ob M a0 7 ∧ V_X7_readField_27 K  M a0 a1 a0 (mI M a0 24))) ∧ (a1 = (2 : Int32) → (ob M a0 7 ∧ V_X7_sign (kI (fun r4 M3 => ((¬ r4 = (42 : Int32) → V_X7_readField_27 K  M3 a0 a1 a0 (0 : Int32)) ∧ (r4 = (42 : Int32) → V_X7_readField_27 K  M3 a0 a1 a0 (1 : Int32)))) (fun _ _ => False)) M a0)))
set_option maxRecDepth 100000 in
set_option maxHeartbeats 4000000 in
theorem x_X7_readField {G : Gx} {K : Rs → Mm → Prop} {M : Mm} {a0 : Nat} {a1 : Int32} (h : V_X7_readField K M a0 a1) : MC G mi_X7_readField [.ref a0, .int a1] M K := by
  unfold V_X7_readField at h
  refine mc_of rfl (by decide +kernel) dc_X7_readField (Nat.le_of_ble_eq_true rfl) 0 (Nat.le_of_ble_eq_true rfl) ?_
  show E G mi_X7_readField K M 0 0 0 [some (.ref a0), some (.int a1)] []
  refine e_blk 3 0 _ _ (pc' := 3) (L' := [some (.ref a0), some (.int a1)]) (st' := [.int (2 : Int32), .int a1, .ref a0]) rfl ?_
  refine e_icmp_ne 23 rfl rfl (fun hc => ?_) (fun hc => ?_)
  · replace h := h.1 hc
    refine e_blk 1 23 _ _ (pc' := 24) (L' := [some (.ref a0), some (.int a1)]) (st' := [.ref a0, .ref a0]) rfl ?_
    obtain ⟨ho1, h⟩ := h
    refine e_getI 7 24 rfl rfl (by decide) (aw (i := 1089) (by decide +kernel) rfl) ho1 rfl ?_
    refine e_drp [true, true] (L' := [some (.ref a0), some (.int a1)]) rfl ?_
    exact x_X7_readField_27  h
  · replace h := h.2 hc
    refine e_blk 1 6 _ _ (pc' := 7) (L' := [some (.ref a0), some (.int a1)]) (st' := [.ref a0, .ref a0]) rfl ?_
    obtain ⟨ho2, h⟩ := h
    refine e_callV (As := []) (rest := [.ref a0]) (ci := 7) rfl (x_X7_sign h) ho2 rfl rfl rfl (aw (i := 1343) (by decide +kernel) rfl) wn_X7_sign wv_X7_sign wi_X7_sign wc_X7_sign (show cok mi_X7_readField mi_X7_sign 0 0 0 = true by decide +kernel) (Nat.le_of_ble_eq_true rfl) (fun v9 M3 hq => ?_) (fun X M9 hq => False.elim hq)
    obtain ⟨r4, rfl, h⟩ := kI_l hq
    refine e_blk 1 10 _ _ (pc' := 12) (L' := [some (.ref a0), some (.int a1)]) (st' := [.int (42 : Int32), .int r4, .ref a0]) rfl ?_
    refine e_icmp_ne 19 rfl rfl (fun hc => ?_) (fun hc => ?_)
    · replace h := h.1 hc
      refine e_blk 2 19 _ _ (pc' := 27) (L' := [some (.ref a0), some (.int a1)]) (st' := [.int (0 : Int32), .ref a0]) rfl ?_
      refine e_drp [true, true] (L' := [some (.ref a0), some (.int a1)]) rfl ?_
      exact x_X7_readField_27  h
    · replace h := h.2 hc
      refine e_blk 2 15 _ _ (pc' := 27) (L' := [some (.ref a0), some (.int a1)]) (st' := [.int (1 : Int32), .ref a0]) rfl ?_
      refine e_drp [true, true] (L' := [some (.ref a0), some (.int a1)]) rfl ?_
      exact x_X7_readField_27  h
def V_X7_blanks_0 (K : Rs → Mm → Prop)  : Nat → Mm → Nat → Prop
  | 0, _, _ => False
  | z + 1, M, l0 => (ob M l0 7 ∧ V_X7_sign (kI (fun r3 M2 => ((¬ r3 = (32 : Int32) → K (.inl none) M2) ∧ (r3 = (32 : Int32) → (ob M2 l0 7 ∧ ∀ M5, M5 = sI M2 l0 12 ((mI M2 l0 12) + (1 : Int32)) → V_X7_blanks_0 K  z M5 l0)))) (fun _ _ => False)) M l0)
set_option maxRecDepth 100000 in
set_option maxHeartbeats 4000000 in
theorem x_X7_blanks_0 {G : Gx} {K : Rs → Mm → Prop}  : ∀ (z : Nat) (M : Mm) (l0 : Nat), V_X7_blanks_0 K  z M l0 → E G mi_X7_blanks K M 0 0 0 [some (.ref l0)] []
  | 0, M, l0, h => False.elim h
  | z + 1, M, l0, h => by
    unfold V_X7_blanks_0 at h
    refine e_blk 1 0 _ _ (pc' := 1) (L' := [some (.ref l0)]) (st' := [.ref l0]) rfl ?_
    obtain ⟨ho1, h⟩ := h
    refine e_callV (As := []) (rest := []) (ci := 7) rfl (x_X7_sign h) ho1 rfl rfl rfl (aw (i := 1343) (by decide +kernel) rfl) wn_X7_sign wv_X7_sign wi_X7_sign wc_X7_sign (show cok mi_X7_blanks mi_X7_sign 0 0 0 = true by decide +kernel) (Nat.le_of_ble_eq_true rfl) (fun v9 M2 hq => ?_) (fun X M9 hq => False.elim hq)
    obtain ⟨r3, rfl, h⟩ := kI_l hq
    refine e_blk 1 4 _ _ (pc' := 6) (L' := [some (.ref l0)]) (st' := [.int (32 : Int32), .int r3]) rfl ?_
    refine e_icmp_ne 22 rfl rfl (fun hc => ?_) (fun hc => ?_)
    · replace h := h.1 hc
      exact e_ret rfl rfl (by decide) (by decide) h
    · replace h := h.2 hc
      refine e_blk 2 9 _ _ (pc' := 11) (L' := [some (.ref l0)]) (st' := [.ref l0, .ref l0]) rfl ?_
      obtain ⟨ho4, h⟩ := h
      refine e_getI 7 12 rfl rfl (by decide) (aw (i := 1077) (by decide +kernel) rfl) ho4 rfl ?_
      refine e_blk 2 14 _ _ (pc' := 16) (L' := [some (.ref l0)]) (st' := [.int ((mI M2 l0 12) + (1 : Int32)), .ref l0]) rfl ?_
      refine e_putI 7 12 rfl rfl (by decide) (aw (i := 1077) (by decide +kernel) rfl) rfl ho4 rfl ?_
      generalize hM5 : sI M2 l0 12 ((mI M2 l0 12) + (1 : Int32)) = M5
      replace h := h M5 hM5.symm
      replace ho4 : ob M5 l0 7 := hM5 ▸ ob_sI ho4
      refine e_blk 1 19 _ _ (pc' := 0) (L' := [some (.ref l0)]) (st' := []) rfl ?_
      refine e_drp [true] (L' := [some (.ref l0)]) rfl ?_
      exact x_X7_blanks_0  z _ _ h
def V_X7_blanks (K : Rs → Mm → Prop) (M : Mm) (a0 : Nat) : Prop := ∃ y, V_X7_blanks_0 K  y M a0
set_option maxRecDepth 100000 in
set_option maxHeartbeats 4000000 in
theorem x_X7_blanks {G : Gx} {K : Rs → Mm → Prop} {M : Mm} {a0 : Nat} (h : V_X7_blanks K M a0) : MC G mi_X7_blanks [.ref a0] M K := by
  unfold V_X7_blanks at h
  refine mc_of rfl (by decide +kernel) dc_X7_blanks (Nat.le_of_ble_eq_true rfl) 0 (Nat.le_of_ble_eq_true rfl) ?_
  show E G mi_X7_blanks K M 0 0 0 [some (.ref a0)] []
  refine e_drp [true] (L' := [some (.ref a0)]) rfl ?_
  obtain ⟨y, h⟩ := h
  exact x_X7_blanks_0  y _ _ h
def V_X7_word_5 (K : Rs → Mm → Prop)  : Nat → Mm → Nat → Int64 → Int32 → Prop
  | 0, _, _, _, _ => False
  | z + 1, M, l0, l1, l4 => ((l4 < 0 → K (.inl (some (.int (1 : Int32)))) M) ∧ (¬ l4 < 0 → (ob M l0 7 ∧ V_X7_sign (kI (fun r3 M2 => (((lg_cmp ((r3).toInt64) ((l1 >>> ((((8 : Int32) * l4)).toInt64 &&& 63)) &&& (255 : Int64))) = 0 → (ob M2 l0 7 ∧ ∀ M5, M5 = sI M2 l0 12 ((mI M2 l0 12) + (1 : Int32)) → ∀ x6 : Int32, x6 = (l4 + (-1 : Int32)) → V_X7_word_5 K  z M5 l0 l1 x6)) ∧ (¬ (lg_cmp ((r3).toInt64) ((l1 >>> ((((8 : Int32) * l4)).toInt64 &&& 63)) &&& (255 : Int64))) = 0 → (ob M2 l0 7 ∧ V_X7_fail (kV (fun M8 => K (.inl (some (.int (0 : Int32)))) M8) (fun _ _ => False)) M2 l0 (1 : Int32) (mI M2 l0 12))))) (fun _ _ => False)) M l0)))
set_option maxRecDepth 100000 in
set_option maxHeartbeats 4000000 in
theorem x_X7_word_5 {G : Gx} {K : Rs → Mm → Prop}  : ∀ (z : Nat) (M : Mm) (l0 : Nat) (l1 : Int64) (l4 : Int32), V_X7_word_5 K  z M l0 l1 l4 → E G mi_X7_word K M 0 0 5 [some (.ref l0), some (.long l1), none, none, some (.int l4)] []
  | 0, M, l0, l1, l4, h => False.elim h
  | z + 1, M, l0, l1, l4, h => by
    unfold V_X7_word_5 at h
    refine e_blk 1 5 _ _ (pc' := 7) (L' := [some (.ref l0), some (.long l1), none, none, some (.int l4)]) (st' := [.int l4]) rfl ?_
    refine e_if_lt 57 rfl rfl (fun hc => ?_) (fun hc => ?_)
    · replace h := h.1 hc
      refine e_blk 1 57 _ _ (pc' := 58) (L' := [some (.ref l0), some (.long l1), none, none, some (.int l4)]) (st' := [.int (1 : Int32)]) rfl ?_
      exact e_retz rfl rfl (by decide) (by decide) (by decide) h
    · replace h := h.2 hc
      refine e_blk 1 10 _ _ (pc' := 11) (L' := [some (.ref l0), some (.long l1), none, none, some (.int l4)]) (st' := [.ref l0]) rfl ?_
      obtain ⟨ho1, h⟩ := h
      refine e_callV (As := []) (rest := []) (ci := 7) rfl (x_X7_sign h) ho1 rfl rfl rfl (aw (i := 1343) (by decide +kernel) rfl) wn_X7_sign wv_X7_sign wi_X7_sign wc_X7_sign (show cok mi_X7_word mi_X7_sign 0 0 0 = true by decide +kernel) (Nat.le_of_ble_eq_true rfl) (fun v9 M2 hq => ?_) (fun X M9 hq => False.elim hq)
      obtain ⟨r3, rfl, h⟩ := kI_l hq
      refine e_blk 6 14 _ _ (pc' := 22) (L' := [some (.ref l0), some (.long l1), none, none, some (.int l4)]) (st' := [.long (l1 >>> ((((8 : Int32) * l4)).toInt64 &&& 63)), .long ((r3).toInt64)]) rfl ?_
      refine e_ldc2 (255) rfl (aw (i := 1356) (by decide +kernel) rfl) ?_
      refine e_blk 2 25 _ _ (pc' := 27) (L' := [some (.ref l0), some (.long l1), none, none, some (.int l4)]) (st' := [.int (lg_cmp ((r3).toInt64) ((l1 >>> ((((8 : Int32) * l4)).toInt64 &&& 63)) &&& (255 : Int64)))]) rfl ?_
      refine e_if_eq 41 rfl rfl (fun hc => ?_) (fun hc => ?_)
      · replace h := h.1 hc
        refine e_blk 2 41 _ _ (pc' := 43) (L' := [some (.ref l0), some (.long l1), none, none, some (.int l4)]) (st' := [.ref l0, .ref l0]) rfl ?_
        obtain ⟨ho4, h⟩ := h
        refine e_getI 7 12 rfl rfl (by decide) (aw (i := 1077) (by decide +kernel) rfl) ho4 rfl ?_
        refine e_blk 2 46 _ _ (pc' := 48) (L' := [some (.ref l0), some (.long l1), none, none, some (.int l4)]) (st' := [.int ((mI M2 l0 12) + (1 : Int32)), .ref l0]) rfl ?_
        refine e_putI 7 12 rfl rfl (by decide) (aw (i := 1077) (by decide +kernel) rfl) rfl ho4 rfl ?_
        generalize hM5 : sI M2 l0 12 ((mI M2 l0 12) + (1 : Int32)) = M5
        replace h := h M5 hM5.symm
        replace ho4 : ob M5 l0 7 := hM5 ▸ ob_sI ho4
        refine e_blk 2 51 _ _ (pc' := 5) (L' := [some (.ref l0), some (.long l1), none, none, some (.int (l4 + (-1 : Int32)))]) (st' := []) rfl ?_
        generalize hx_x6 : ((l4 + (-1 : Int32)) : Int32) = x6
        replace h := h x6 hx_x6.symm
        refine e_drp [true, true, false, false, true] (L' := [some (.ref l0), some (.long l1), none, none, some (.int x6)]) rfl ?_
        exact x_X7_word_5  z _ _ _ _ h
      · replace h := h.2 hc
        refine e_blk 3 30 _ _ (pc' := 33) (L' := [some (.ref l0), some (.long l1), none, none, some (.int l4)]) (st' := [.ref l0, .int (1 : Int32), .ref l0]) rfl ?_
        obtain ⟨ho7, h⟩ := h
        refine e_getI 7 12 rfl rfl (by decide) (aw (i := 1077) (by decide +kernel) rfl) ho7 rfl ?_
        refine e_callV (As := [.int (1 : Int32), .int (mI M2 l0 12)]) (rest := []) (ci := 7) rfl (x_X7_fail h) ho7 rfl rfl rfl (aw (i := 1357) (by decide +kernel) rfl) wn_X7_fail wv_X7_fail wi_X7_fail wc_X7_fail (show cok mi_X7_word mi_X7_fail 0 0 2 = true by decide +kernel) (Nat.le_of_ble_eq_true rfl) (fun v9 M8 hq => ?_) (fun X M9 hq => False.elim hq)
        obtain ⟨rfl, h⟩ := kV_l hq
        refine e_blk 1 39 _ _ (pc' := 40) (L' := [some (.ref l0), some (.long l1), none, none, some (.int l4)]) (st' := [.int (0 : Int32)]) rfl ?_
        exact e_retz rfl rfl (by decide) (by decide) (by decide) h
def V_X7_word (K : Rs → Mm → Prop) (M : Mm) (a0 : Nat) (a1 : Int64) (a2 : Int32) : Prop := ∀ x1 : Int32, x1 = (a2 - (1 : Int32)) → ∃ y, V_X7_word_5 K  y M a0 a1 x1
set_option maxRecDepth 100000 in
set_option maxHeartbeats 4000000 in
theorem x_X7_word {G : Gx} {K : Rs → Mm → Prop} {M : Mm} {a0 : Nat} {a1 : Int64} {a2 : Int32} (h : V_X7_word K M a0 a1 a2) : MC G mi_X7_word [.ref a0, .long a1, .int a2] M K := by
  unfold V_X7_word at h
  refine mc_of rfl (by decide +kernel) dc_X7_word (Nat.le_of_ble_eq_true rfl) 1 (Nat.le_of_ble_eq_true rfl) ?_
  show E G mi_X7_word K M 0 0 0 [some (.ref a0), some (.long a1), none, some (.int a2), none] []
  refine e_blk 4 0 _ _ (pc' := 5) (L' := [some (.ref a0), some (.long a1), none, some (.int a2), some (.int (a2 - (1 : Int32)))]) (st' := []) rfl ?_
  generalize hx_x1 : ((a2 - (1 : Int32)) : Int32) = x1
  replace h := h x1 hx_x1.symm
  refine e_drp [true, true, false, false, true] (L' := [some (.ref a0), some (.long a1), none, none, some (.int x1)]) rfl ?_
  obtain ⟨y, h⟩ := h
  exact x_X7_word_5  y _ _ _ _ h
def V_X7_short0_246 (K : Rs → Mm → Prop)  (M : Mm) (s0 : Nat) (s1 : Int32) : Prop := (ob M s0 7 ∧ ((s1 = 0 ∨ s1 = 1) ∧ ∀ M3, M3 = sI M s0 25 s1 → K (.inl none) M3))
set_option maxRecDepth 100000 in
set_option maxHeartbeats 4000000 in
theorem x_X7_short0_246 {G : Gx} {K : Rs → Mm → Prop}  {M : Mm} {s0 : Nat} {s1 : Int32} (h : V_X7_short0_246 K  M s0 s1) : E G mi_X7_short0 K M 0 0 246 [none, none, none] [.int s1, .ref s0] := by
  unfold V_X7_short0_246 at h
  obtain ⟨ho1, h⟩ := h
  obtain ⟨hz2, h⟩ := h
  refine e_putZ 7 25 rfl rfl (by decide) (aw (i := 1090) (by decide +kernel) rfl) rfl ho1 rfl hz2 ?_
  generalize hM3 : sI M s0 25 s1 = M3
  replace h := h M3 hM3.symm
  replace ho1 : ob M3 s0 7 := hM3 ▸ ob_sI ho1
  exact e_ret rfl rfl (by decide) (by decide) h
def V_X7_short0_231 (K : Rs → Mm → Prop)  (M : Mm) (l0 : Nat) (l1 : Int32) (s0 : Nat) (s1 : Int32) : Prop := (ob M s0 7 ∧ ((s1 = 0 ∨ s1 = 1) ∧ ∀ M3, M3 = sI M s0 24 s1 → ((l1 = (119 : Int32) → V_X7_short0_246 K  M3 l0 (0 : Int32)) ∧ (¬ l1 = (119 : Int32) → V_X7_short0_246 K  M3 l0 (1 : Int32)))))
set_option maxRecDepth 100000 in
set_option maxHeartbeats 4000000 in
theorem x_X7_short0_231 {G : Gx} {K : Rs → Mm → Prop}  {M : Mm} {l0 : Nat} {l1 : Int32} {s0 : Nat} {s1 : Int32} (h : V_X7_short0_231 K  M l0 l1 s0 s1) : E G mi_X7_short0 K M 0 0 231 [some (.ref l0), some (.int l1), none] [.int s1, .ref s0] := by
  unfold V_X7_short0_231 at h
  obtain ⟨ho1, h⟩ := h
  obtain ⟨hz2, h⟩ := h
  refine e_putZ 7 24 rfl rfl (by decide) (aw (i := 1089) (by decide +kernel) rfl) rfl ho1 rfl hz2 ?_
  generalize hM3 : sI M s0 24 s1 = M3
  replace h := h M3 hM3.symm
  replace ho1 : ob M3 s0 7 := hM3 ▸ ob_sI ho1
  refine e_blk 3 234 _ _ (pc' := 238) (L' := [some (.ref l0), some (.int l1), none]) (st' := [.int (119 : Int32), .int l1, .ref l0]) rfl ?_
  refine e_icmp_eq 245 rfl rfl (fun hc => ?_) (fun hc => ?_)
  · replace h := h.1 hc
    refine e_blk 1 245 _ _ (pc' := 246) (L' := [some (.ref l0), some (.int l1), none]) (st' := [.int (0 : Int32), .ref l0]) rfl ?_
    refine e_drp [false, false, false] (L' := [none, none, none]) rfl ?_
    exact x_X7_short0_246  h
  · replace h := h.2 hc
    refine e_blk 2 241 _ _ (pc' := 246) (L' := [some (.ref l0), some (.int l1), none]) (st' := [.int (1 : Int32), .ref l0]) rfl ?_
    refine e_drp [false, false, false] (L' := [none, none, none]) rfl ?_
    exact x_X7_short0_246  h
def V_X7_short0_230 (K : Rs → Mm → Prop)  (M : Mm) (l0 : Nat) (l1 : Int32) (s0 : Nat) : Prop := V_X7_short0_231 K  M l0 l1 s0 (0 : Int32)
set_option maxRecDepth 100000 in
set_option maxHeartbeats 4000000 in
theorem x_X7_short0_230 {G : Gx} {K : Rs → Mm → Prop}  {M : Mm} {l0 : Nat} {l1 : Int32} {s0 : Nat} (h : V_X7_short0_230 K  M l0 l1 s0) : E G mi_X7_short0 K M 0 0 230 [some (.ref l0), some (.int l1), none] [.ref s0] := by
  unfold V_X7_short0_230 at h
  refine e_blk 1 230 _ _ (pc' := 231) (L' := [some (.ref l0), some (.int l1), none]) (st' := [.int (0 : Int32), .ref s0]) rfl ?_
  refine e_drp [true, true, false] (L' := [some (.ref l0), some (.int l1), none]) rfl ?_
  exact x_X7_short0_231  h
def V_X7_short0_209 (K : Rs → Mm → Prop)  (M : Mm) (l0 : Nat) (l1 : Int32) (s0 : Nat) (s1 : Int32) (s2 : Int32) (s3 : Int32) : Prop := (ob M s0 7 ∧ V_X7_range (kV (fun M2 => ((l1 = (109 : Int32) → V_X7_short0_230 K  M2 l0 l1 l0) ∧ (¬ l1 = (109 : Int32) → ((l1 = (121 : Int32) → V_X7_short0_230 K  M2 l0 l1 l0) ∧ (¬ l1 = (121 : Int32) → V_X7_short0_231 K  M2 l0 l1 l0 (1 : Int32)))))) (fun _ _ => False)) M s0 s1 s2 s3 (1 : Int32))
set_option maxRecDepth 100000 in
set_option maxHeartbeats 4000000 in
theorem x_X7_short0_209 {G : Gx} {K : Rs → Mm → Prop}  {M : Mm} {l0 : Nat} {l1 : Int32} {s0 : Nat} {s1 : Int32} {s2 : Int32} {s3 : Int32} (h : V_X7_short0_209 K  M l0 l1 s0 s1 s2 s3) : E G mi_X7_short0 K M 0 0 209 [some (.ref l0), some (.int l1), none] [.int s3, .int s2, .int s1, .ref s0] := by
  unfold V_X7_short0_209 at h
  refine e_blk 1 209 _ _ (pc' := 210) (L' := [some (.ref l0), some (.int l1), none]) (st' := [.int (1 : Int32), .int s3, .int s2, .int s1, .ref s0]) rfl ?_
  obtain ⟨ho1, h⟩ := h
  refine e_callV (As := [.int s1, .int s2, .int s3, .int (1 : Int32)]) (rest := []) (ci := 7) rfl (x_X7_range h) ho1 rfl rfl rfl (aw (i := 1365) (by decide +kernel) rfl) wn_X7_range wv_X7_range wi_X7_range wc_X7_range (show cok mi_X7_short0 mi_X7_range 0 0 4 = true by decide +kernel) (Nat.le_of_ble_eq_true rfl) (fun v9 M2 hq => ?_) (fun X M9 hq => False.elim hq)
  obtain ⟨rfl, h⟩ := kV_l hq
  refine e_blk 3 213 _ _ (pc' := 217) (L' := [some (.ref l0), some (.int l1), none]) (st' := [.int (109 : Int32), .int l1, .ref l0]) rfl ?_
  refine e_icmp_eq 230 rfl rfl (fun hc => ?_) (fun hc => ?_)
  · replace h := h.1 hc
    refine e_drp [true, true, false] (L' := [some (.ref l0), some (.int l1), none]) rfl ?_
    exact x_X7_short0_230  h
  · replace h := h.2 hc
    refine e_blk 2 220 _ _ (pc' := 223) (L' := [some (.ref l0), some (.int l1), none]) (st' := [.int (121 : Int32), .int l1, .ref l0]) rfl ?_
    refine e_icmp_eq 230 rfl rfl (fun hc => ?_) (fun hc => ?_)
    · replace h := h.1 hc
      refine e_drp [true, true, false] (L' := [some (.ref l0), some (.int l1), none]) rfl ?_
      exact x_X7_short0_230  h
    · replace h := h.2 hc
      refine e_blk 2 226 _ _ (pc' := 231) (L' := [some (.ref l0), some (.int l1), none]) (st' := [.int (1 : Int32), .ref l0]) rfl ?_
      refine e_drp [true, true, false] (L' := [some (.ref l0), some (.int l1), none]) rfl ?_
      exact x_X7_short0_231  h
def V_X7_short0_190 (K : Rs → Mm → Prop)  (M : Mm) (l0 : Nat) (l1 : Int32) (s0 : Nat) (s1 : Int32) (s2 : Int32) (s3 : Int32) : Prop := (ob M s0 7 ∧ V_X7_range (kV (fun M2 => ((¬ l1 = (119 : Int32) → V_X7_short0_209 K  M2 l0 l1 l0 (4 : Int32) (0 : Int32) (6 : Int32)) ∧ (l1 = (119 : Int32) → V_X7_short0_209 K  M2 l0 l1 l0 (4 : Int32) (0 : Int32) (0 : Int32)))) (fun _ _ => False)) M s0 s1 s2 s3 (1 : Int32))
set_option maxRecDepth 100000 in
set_option maxHeartbeats 4000000 in
theorem x_X7_short0_190 {G : Gx} {K : Rs → Mm → Prop}  {M : Mm} {l0 : Nat} {l1 : Int32} {s0 : Nat} {s1 : Int32} {s2 : Int32} {s3 : Int32} (h : V_X7_short0_190 K  M l0 l1 s0 s1 s2 s3) : E G mi_X7_short0 K M 0 0 190 [some (.ref l0), some (.int l1), none] [.int s3, .int s2, .int s1, .ref s0] := by
  unfold V_X7_short0_190 at h
  refine e_blk 1 190 _ _ (pc' := 191) (L' := [some (.ref l0), some (.int l1), none]) (st' := [.int (1 : Int32), .int s3, .int s2, .int s1, .ref s0]) rfl ?_
  obtain ⟨ho1, h⟩ := h
  refine e_callV (As := [.int s1, .int s2, .int s3, .int (1 : Int32)]) (rest := []) (ci := 7) rfl (x_X7_range h) ho1 rfl rfl rfl (aw (i := 1365) (by decide +kernel) rfl) wn_X7_range wv_X7_range wi_X7_range wc_X7_range (show cok mi_X7_short0 mi_X7_range 0 0 4 = true by decide +kernel) (Nat.le_of_ble_eq_true rfl) (fun v9 M2 hq => ?_) (fun X M9 hq => False.elim hq)
  obtain ⟨rfl, h⟩ := kV_l hq
  refine e_blk 5 194 _ _ (pc' := 200) (L' := [some (.ref l0), some (.int l1), none]) (st' := [.int (119 : Int32), .int l1, .int (0 : Int32), .int (4 : Int32), .ref l0]) rfl ?_
  refine e_icmp_ne 207 rfl rfl (fun hc => ?_) (fun hc => ?_)
  · replace h := h.1 hc
    refine e_blk 1 207 _ _ (pc' := 209) (L' := [some (.ref l0), some (.int l1), none]) (st' := [.int (6 : Int32), .int (0 : Int32), .int (4 : Int32), .ref l0]) rfl ?_
    refine e_drp [true, true, false] (L' := [some (.ref l0), some (.int l1), none]) rfl ?_
    exact x_X7_short0_209  h
  · replace h := h.2 hc
    refine e_blk 2 203 _ _ (pc' := 209) (L' := [some (.ref l0), some (.int l1), none]) (st' := [.int (0 : Int32), .int (0 : Int32), .int (4 : Int32), .ref l0]) rfl ?_
    refine e_drp [true, true, false] (L' := [some (.ref l0), some (.int l1), none]) rfl ?_
    exact x_X7_short0_209  h
def V_X7_short0_171 (K : Rs → Mm → Prop)  (M : Mm) (l0 : Nat) (l1 : Int32) (s0 : Nat) (s1 : Int32) (s2 : Int32) (s3 : Int32) : Prop := (ob M s0 7 ∧ V_X7_range (kV (fun M2 => ((¬ l1 = (121 : Int32) → V_X7_short0_190 K  M2 l0 l1 l0 (3 : Int32) (1 : Int32) (12 : Int32)) ∧ (l1 = (121 : Int32) → V_X7_short0_190 K  M2 l0 l1 l0 (3 : Int32) (1 : Int32) (1 : Int32)))) (fun _ _ => False)) M s0 s1 s2 s3 (1 : Int32))
set_option maxRecDepth 100000 in
set_option maxHeartbeats 4000000 in
theorem x_X7_short0_171 {G : Gx} {K : Rs → Mm → Prop}  {M : Mm} {l0 : Nat} {l1 : Int32} {s0 : Nat} {s1 : Int32} {s2 : Int32} {s3 : Int32} (h : V_X7_short0_171 K  M l0 l1 s0 s1 s2 s3) : E G mi_X7_short0 K M 0 0 171 [some (.ref l0), some (.int l1), none] [.int s3, .int s2, .int s1, .ref s0] := by
  unfold V_X7_short0_171 at h
  refine e_blk 1 171 _ _ (pc' := 172) (L' := [some (.ref l0), some (.int l1), none]) (st' := [.int (1 : Int32), .int s3, .int s2, .int s1, .ref s0]) rfl ?_
  obtain ⟨ho1, h⟩ := h
  refine e_callV (As := [.int s1, .int s2, .int s3, .int (1 : Int32)]) (rest := []) (ci := 7) rfl (x_X7_range h) ho1 rfl rfl rfl (aw (i := 1365) (by decide +kernel) rfl) wn_X7_range wv_X7_range wi_X7_range wc_X7_range (show cok mi_X7_short0 mi_X7_range 0 0 4 = true by decide +kernel) (Nat.le_of_ble_eq_true rfl) (fun v9 M2 hq => ?_) (fun X M9 hq => False.elim hq)
  obtain ⟨rfl, h⟩ := kV_l hq
  refine e_blk 5 175 _ _ (pc' := 181) (L' := [some (.ref l0), some (.int l1), none]) (st' := [.int (121 : Int32), .int l1, .int (1 : Int32), .int (3 : Int32), .ref l0]) rfl ?_
  refine e_icmp_ne 188 rfl rfl (fun hc => ?_) (fun hc => ?_)
  · replace h := h.1 hc
    refine e_blk 1 188 _ _ (pc' := 190) (L' := [some (.ref l0), some (.int l1), none]) (st' := [.int (12 : Int32), .int (1 : Int32), .int (3 : Int32), .ref l0]) rfl ?_
    refine e_drp [true, true, false] (L' := [some (.ref l0), some (.int l1), none]) rfl ?_
    exact x_X7_short0_190  h
  · replace h := h.2 hc
    refine e_blk 2 184 _ _ (pc' := 190) (L' := [some (.ref l0), some (.int l1), none]) (st' := [.int (1 : Int32), .int (1 : Int32), .int (3 : Int32), .ref l0]) rfl ?_
    refine e_drp [true, true, false] (L' := [some (.ref l0), some (.int l1), none]) rfl ?_
    exact x_X7_short0_190  h
def V_X7_short0_165 (K : Rs → Mm → Prop)  (M : Mm) (l0 : Nat) (l1 : Int32) (s0 : Nat) (s1 : Int32) (s2 : Int32) : Prop := V_X7_short0_171 K  M l0 l1 s0 s1 s2 (1 : Int32)
set_option maxRecDepth 100000 in
set_option maxHeartbeats 4000000 in
theorem x_X7_short0_165 {G : Gx} {K : Rs → Mm → Prop}  {M : Mm} {l0 : Nat} {l1 : Int32} {s0 : Nat} {s1 : Int32} {s2 : Int32} (h : V_X7_short0_165 K  M l0 l1 s0 s1 s2) : E G mi_X7_short0 K M 0 0 165 [some (.ref l0), some (.int l1), none] [.int s2, .int s1, .ref s0] := by
  unfold V_X7_short0_165 at h
  refine e_blk 2 165 _ _ (pc' := 171) (L' := [some (.ref l0), some (.int l1), none]) (st' := [.int (1 : Int32), .int s2, .int s1, .ref s0]) rfl ?_
  refine e_drp [true, true, false] (L' := [some (.ref l0), some (.int l1), none]) rfl ?_
  exact x_X7_short0_171  h
def V_X7_short0_146 (K : Rs → Mm → Prop)  (M : Mm) (l0 : Nat) (l1 : Int32) (s0 : Nat) (s1 : Int32) (s2 : Int32) (s3 : Int32) : Prop := (ob M s0 7 ∧ V_X7_range (kV (fun M2 => ((l1 = (109 : Int32) → V_X7_short0_165 K  M2 l0 l1 l0 (2 : Int32) (1 : Int32)) ∧ (¬ l1 = (109 : Int32) → ((¬ l1 = (121 : Int32) → V_X7_short0_171 K  M2 l0 l1 l0 (2 : Int32) (1 : Int32) (31 : Int32)) ∧ (l1 = (121 : Int32) → V_X7_short0_165 K  M2 l0 l1 l0 (2 : Int32) (1 : Int32)))))) (fun _ _ => False)) M s0 s1 s2 s3 (1 : Int32))
set_option maxRecDepth 100000 in
set_option maxHeartbeats 4000000 in
theorem x_X7_short0_146 {G : Gx} {K : Rs → Mm → Prop}  {M : Mm} {l0 : Nat} {l1 : Int32} {s0 : Nat} {s1 : Int32} {s2 : Int32} {s3 : Int32} (h : V_X7_short0_146 K  M l0 l1 s0 s1 s2 s3) : E G mi_X7_short0 K M 0 0 146 [some (.ref l0), some (.int l1), none] [.int s3, .int s2, .int s1, .ref s0] := by
  unfold V_X7_short0_146 at h
  refine e_blk 1 146 _ _ (pc' := 147) (L' := [some (.ref l0), some (.int l1), none]) (st' := [.int (1 : Int32), .int s3, .int s2, .int s1, .ref s0]) rfl ?_
  obtain ⟨ho1, h⟩ := h
  refine e_callV (As := [.int s1, .int s2, .int s3, .int (1 : Int32)]) (rest := []) (ci := 7) rfl (x_X7_range h) ho1 rfl rfl rfl (aw (i := 1365) (by decide +kernel) rfl) wn_X7_range wv_X7_range wi_X7_range wc_X7_range (show cok mi_X7_short0 mi_X7_range 0 0 4 = true by decide +kernel) (Nat.le_of_ble_eq_true rfl) (fun v9 M2 hq => ?_) (fun X M9 hq => False.elim hq)
  obtain ⟨rfl, h⟩ := kV_l hq
  refine e_blk 5 150 _ _ (pc' := 156) (L' := [some (.ref l0), some (.int l1), none]) (st' := [.int (109 : Int32), .int l1, .int (1 : Int32), .int (2 : Int32), .ref l0]) rfl ?_
  refine e_icmp_eq 165 rfl rfl (fun hc => ?_) (fun hc => ?_)
  · replace h := h.1 hc
    refine e_drp [true, true, false] (L' := [some (.ref l0), some (.int l1), none]) rfl ?_
    exact x_X7_short0_165  h
  · replace h := h.2 hc
    refine e_blk 2 159 _ _ (pc' := 162) (L' := [some (.ref l0), some (.int l1), none]) (st' := [.int (121 : Int32), .int l1, .int (1 : Int32), .int (2 : Int32), .ref l0]) rfl ?_
    refine e_icmp_ne 169 rfl rfl (fun hc => ?_) (fun hc => ?_)
    · replace h := h.1 hc
      refine e_blk 1 169 _ _ (pc' := 171) (L' := [some (.ref l0), some (.int l1), none]) (st' := [.int (31 : Int32), .int (1 : Int32), .int (2 : Int32), .ref l0]) rfl ?_
      refine e_drp [true, true, false] (L' := [some (.ref l0), some (.int l1), none]) rfl ?_
      exact x_X7_short0_171  h
    · replace h := h.2 hc
      refine e_drp [true, true, false] (L' := [some (.ref l0), some (.int l1), none]) rfl ?_
      exact x_X7_short0_165  h
def V_X7_short0_109 (K : Rs → Mm → Prop)  (M : Mm) (l0 : Nat) (l1 : Int32) (s0 : Int32) : Prop := ((¬ s0 = 0 → (ob M l0 7 ∧ ∃ b2, mP M l0 16 = some b2 ∧ (ob M b2 10 ∧ (vp_in (0 : Int32) (mN M b2) ∧ ∀ M5, M5 = sJ M b2 ((0 : Int32)).toNatClampNeg (1 : Int64) → ((¬ l1 = (104 : Int32) → V_X7_short0_146 K  M5 l0 l1 l0 (1 : Int32) (0 : Int32) (0 : Int32)) ∧ (l1 = (104 : Int32) → V_X7_short0_146 K  M5 l0 l1 l0 (1 : Int32) (0 : Int32) (23 : Int32))))))) ∧ (s0 = 0 → (ob M l0 7 ∧ V_X7_fail (kV (fun M7 => K (.inl none) M7) (fun _ _ => False)) M l0 (1 : Int32) (mI M l0 12))))
set_option maxRecDepth 100000 in
set_option maxHeartbeats 4000000 in
theorem x_X7_short0_109 {G : Gx} {K : Rs → Mm → Prop}  {M : Mm} {l0 : Nat} {l1 : Int32} {s0 : Int32} (h : V_X7_short0_109 K  M l0 l1 s0) : E G mi_X7_short0 K M 0 0 109 [some (.ref l0), some (.int l1), none] [.int s0] := by
  unfold V_X7_short0_109 at h
  refine e_blk 2 109 _ _ (pc' := 111) (L' := [some (.ref l0), some (.int l1), some (.int s0)]) (st' := [.int s0]) rfl ?_
  refine e_if_ne 124 rfl rfl (fun hc => ?_) (fun hc => ?_)
  · replace h := h.1 hc
    refine e_blk 1 124 _ _ (pc' := 125) (L' := [some (.ref l0), some (.int l1), some (.int s0)]) (st' := [.ref l0]) rfl ?_
    obtain ⟨ho1, h⟩ := h
    obtain ⟨b2, hbb2, h⟩ := h
    refine e_getR 7 16 rfl rfl (by decide) (aw (i := 1081) (by decide +kernel) rfl) ho1 rfl hbb2 ?_
    refine e_blk 2 128 _ _ (pc' := 130) (L' := [some (.ref l0), some (.int l1), some (.int s0)]) (st' := [.long (1 : Int64), .int (0 : Int32), .ref b2]) rfl ?_
    obtain ⟨ho3, h⟩ := h
    obtain ⟨hi4, h⟩ := h
    refine e_last rfl ho3 hi4 ?_
    generalize hM5 : sJ M b2 ((0 : Int32)).toNatClampNeg (1 : Int64) = M5
    replace h := h M5 hM5.symm
    replace ho1 : ob M5 l0 7 := hM5 ▸ ob_sJ ho1
    replace ho3 : ob M5 b2 10 := hM5 ▸ ob_sJ ho3
    refine e_blk 5 131 _ _ (pc' := 137) (L' := [some (.ref l0), some (.int l1), some (.int s0)]) (st' := [.int (104 : Int32), .int l1, .int (0 : Int32), .int (1 : Int32), .ref l0]) rfl ?_
    refine e_icmp_ne 145 rfl rfl (fun hc => ?_) (fun hc => ?_)
    · replace h := h.1 hc
      refine e_blk 1 145 _ _ (pc' := 146) (L' := [some (.ref l0), some (.int l1), some (.int s0)]) (st' := [.int (0 : Int32), .int (0 : Int32), .int (1 : Int32), .ref l0]) rfl ?_
      refine e_drp [true, true, false] (L' := [some (.ref l0), some (.int l1), none]) rfl ?_
      exact x_X7_short0_146  h
    · replace h := h.2 hc
      refine e_blk 2 140 _ _ (pc' := 146) (L' := [some (.ref l0), some (.int l1), some (.int s0)]) (st' := [.int (23 : Int32), .int (0 : Int32), .int (1 : Int32), .ref l0]) rfl ?_
      refine e_drp [true, true, false] (L' := [some (.ref l0), some (.int l1), none]) rfl ?_
      exact x_X7_short0_146  h
  · replace h := h.2 hc
    refine e_blk 3 114 _ _ (pc' := 117) (L' := [some (.ref l0), some (.int l1), some (.int s0)]) (st' := [.ref l0, .int (1 : Int32), .ref l0]) rfl ?_
    obtain ⟨ho6, h⟩ := h
    refine e_getI 7 12 rfl rfl (by decide) (aw (i := 1077) (by decide +kernel) rfl) ho6 rfl ?_
    refine e_callV (As := [.int (1 : Int32), .int (mI M l0 12)]) (rest := []) (ci := 7) rfl (x_X7_fail h) ho6 rfl rfl rfl (aw (i := 1357) (by decide +kernel) rfl) wn_X7_fail wv_X7_fail wi_X7_fail wc_X7_fail (show cok mi_X7_short0 mi_X7_fail 0 0 2 = true by decide +kernel) (Nat.le_of_ble_eq_true rfl) (fun v9 M7 hq => ?_) (fun X M9 hq => False.elim hq)
    obtain ⟨rfl, h⟩ := kV_l hq
    exact e_ret rfl rfl (by decide) (by decide) h
def V_X7_short0_108 (K : Rs → Mm → Prop)  (M : Mm) (l0 : Nat) (l1 : Int32) : Prop := V_X7_short0_109 K  M l0 l1 (0 : Int32)
set_option maxRecDepth 100000 in
set_option maxHeartbeats 4000000 in
theorem x_X7_short0_108 {G : Gx} {K : Rs → Mm → Prop}  {M : Mm} {l0 : Nat} {l1 : Int32} (h : V_X7_short0_108 K  M l0 l1) : E G mi_X7_short0 K M 0 0 108 [some (.ref l0), some (.int l1), none] [] := by
  unfold V_X7_short0_108 at h
  refine e_blk 1 108 _ _ (pc' := 109) (L' := [some (.ref l0), some (.int l1), none]) (st' := [.int (0 : Int32)]) rfl ?_
  refine e_drp [true, true, false] (L' := [some (.ref l0), some (.int l1), none]) rfl ?_
  exact x_X7_short0_109  h
def V_X7_short0 (K : Rs → Mm → Prop) (M : Mm) (a0 : Nat) : Prop := (ob M a0 7 ∧ ∀ M2, M2 = sI M a0 12 ((mI M a0 12) + (1 : Int32)) → V_X7_sign (kI (fun r4 M3 => ((¬ r4 = (104 : Int32) → ((¬ r4 = (100 : Int32) → ((¬ r4 = (119 : Int32) → ((¬ r4 = (109 : Int32) → ((¬ r4 = (121 : Int32) → V_X7_short0_108 K  M3 a0 r4) ∧ (r4 = (121 : Int32) → (ob M3 a0 7 ∧ V_X7_word (kI (fun r7 M6 => ((r7 = 0 → V_X7_short0_108 K  M6 a0 r4) ∧ (¬ r7 = 0 → V_X7_short0_109 K  M6 a0 r4 (1 : Int32)))) (fun _ _ => False)) M3 a0 (133476333546617 : Int64) (6 : Int32))))) ∧ (r4 = (109 : Int32) → (ob M3 a0 7 ∧ V_X7_word (kI (fun r10 M9 => V_X7_short0_109 K  M9 a0 r4 r10) (fun _ _ => False)) M3 a0 (30803292651547769 : Int64) (7 : Int32))))) ∧ (r4 = (119 : Int32) → (ob M3 a0 7 ∧ V_X7_word (kI (fun r13 M12 => V_X7_short0_109 K  M12 a0 r4 r13) (fun _ _ => False)) M3 a0 (131277376941177 : Int64) (6 : Int32))))) ∧ (r4 = (100 : Int32) → (ob M3 a0 7 ∧ V_X7_word (kI (fun r16 M15 => V_X7_short0_109 K  M15 a0 r4 r16) (fun _ _ => False)) M3 a0 (431131028601 : Int64) (5 : Int32))))) ∧ (r4 = (104 : Int32) → (ob M3 a0 7 ∧ V_X7_word (kI (fun r19 M18 => V_X7_short0_109 K  M18 a0 r4 r19) (fun _ _ => False)) M3 a0 (114827921091705 : Int64) (6 : Int32))))) (fun _ _ => False)) M2 a0)
set_option maxRecDepth 100000 in
set_option maxHeartbeats 4000000 in
theorem x_X7_short0 {G : Gx} {K : Rs → Mm → Prop} {M : Mm} {a0 : Nat} (h : V_X7_short0 K M a0) : MC G mi_X7_short0 [.ref a0] M K := by
  unfold V_X7_short0 at h
  refine mc_of rfl (by decide +kernel) dc_X7_short0 (Nat.le_of_ble_eq_true rfl) 2 (Nat.le_of_ble_eq_true rfl) ?_
  show E G mi_X7_short0 K M 0 0 0 [some (.ref a0), none, none] []
  refine e_blk 2 0 _ _ (pc' := 2) (L' := [some (.ref a0), none, none]) (st' := [.ref a0, .ref a0]) rfl ?_
  obtain ⟨ho1, h⟩ := h
  refine e_getI 7 12 rfl rfl (by decide) (aw (i := 1077) (by decide +kernel) rfl) ho1 rfl ?_
  refine e_blk 2 5 _ _ (pc' := 7) (L' := [some (.ref a0), none, none]) (st' := [.int ((mI M a0 12) + (1 : Int32)), .ref a0]) rfl ?_
  refine e_putI 7 12 rfl rfl (by decide) (aw (i := 1077) (by decide +kernel) rfl) rfl ho1 rfl ?_
  generalize hM2 : sI M a0 12 ((mI M a0 12) + (1 : Int32)) = M2
  replace h := h M2 hM2.symm
  replace ho1 : ob M2 a0 7 := hM2 ▸ ob_sI ho1
  refine e_blk 1 10 _ _ (pc' := 11) (L' := [some (.ref a0), none, none]) (st' := [.ref a0]) rfl ?_
  refine e_callV (As := []) (rest := []) (ci := 7) rfl (x_X7_sign h) ho1 rfl rfl rfl (aw (i := 1343) (by decide +kernel) rfl) wn_X7_sign wv_X7_sign wi_X7_sign wc_X7_sign (show cok mi_X7_short0 mi_X7_sign 0 0 0 = true by decide +kernel) (Nat.le_of_ble_eq_true rfl) (fun v9 M3 hq => ?_) (fun X M9 hq => False.elim hq)
  obtain ⟨r4, rfl, h⟩ := kI_l hq
  refine e_blk 3 14 _ _ (pc' := 18) (L' := [some (.ref a0), some (.int r4), none]) (st' := [.int (104 : Int32), .int r4]) rfl ?_
  refine e_icmp_ne 33 rfl rfl (fun hc => ?_) (fun hc => ?_)
  · replace h := h.1 hc
    refine e_blk 2 33 _ _ (pc' := 36) (L' := [some (.ref a0), some (.int r4), none]) (st' := [.int (100 : Int32), .int r4]) rfl ?_
    refine e_icmp_ne 50 rfl rfl (fun hc => ?_) (fun hc => ?_)
    · replace h := h.1 hc
      refine e_blk 2 50 _ _ (pc' := 53) (L' := [some (.ref a0), some (.int r4), none]) (st' := [.int (119 : Int32), .int r4]) rfl ?_
      refine e_icmp_ne 68 rfl rfl (fun hc => ?_) (fun hc => ?_)
      · replace h := h.1 hc
        refine e_blk 2 68 _ _ (pc' := 71) (L' := [some (.ref a0), some (.int r4), none]) (st' := [.int (109 : Int32), .int r4]) rfl ?_
        refine e_icmp_ne 86 rfl rfl (fun hc => ?_) (fun hc => ?_)
        · replace h := h.1 hc
          refine e_blk 2 86 _ _ (pc' := 89) (L' := [some (.ref a0), some (.int r4), none]) (st' := [.int (121 : Int32), .int r4]) rfl ?_
          refine e_icmp_ne 108 rfl rfl (fun hc => ?_) (fun hc => ?_)
          · replace h := h.1 hc
            refine e_drp [true, true, false] (L' := [some (.ref a0), some (.int r4), none]) rfl ?_
            exact x_X7_short0_108  h
          · replace h := h.2 hc
            refine e_blk 1 92 _ _ (pc' := 93) (L' := [some (.ref a0), some (.int r4), none]) (st' := [.ref a0]) rfl ?_
            refine e_ldc2 (133476333546617) rfl (aw (i := 1364) (by decide +kernel) rfl) ?_
            refine e_blk 1 96 _ _ (pc' := 98) (L' := [some (.ref a0), some (.int r4), none]) (st' := [.int (6 : Int32), .long (133476333546617 : Int64), .ref a0]) rfl ?_
            obtain ⟨ho5, h⟩ := h
            refine e_callV (As := [.long (133476333546617 : Int64), .int (6 : Int32)]) (rest := []) (ci := 7) rfl (x_X7_word h) ho5 rfl rfl rfl (aw (i := 1352) (by decide +kernel) rfl) wn_X7_word wv_X7_word wi_X7_word wc_X7_word (show cok mi_X7_short0 mi_X7_word 0 0 2 = true by decide +kernel) (Nat.le_of_ble_eq_true rfl) (fun v9 M6 hq => ?_) (fun X M9 hq => False.elim hq)
            obtain ⟨r7, rfl, h⟩ := kI_l hq
            refine e_if_eq 108 rfl rfl (fun hc => ?_) (fun hc => ?_)
            · replace h := h.1 hc
              refine e_drp [true, true, false] (L' := [some (.ref a0), some (.int r4), none]) rfl ?_
              exact x_X7_short0_108  h
            · replace h := h.2 hc
              refine e_blk 2 104 _ _ (pc' := 109) (L' := [some (.ref a0), some (.int r4), none]) (st' := [.int (1 : Int32)]) rfl ?_
              refine e_drp [true, true, false] (L' := [some (.ref a0), some (.int r4), none]) rfl ?_
              exact x_X7_short0_109  h
        · replace h := h.2 hc
          refine e_blk 1 74 _ _ (pc' := 75) (L' := [some (.ref a0), some (.int r4), none]) (st' := [.ref a0]) rfl ?_
          refine e_ldc2 (30803292651547769) rfl (aw (i := 1363) (by decide +kernel) rfl) ?_
          refine e_blk 1 78 _ _ (pc' := 80) (L' := [some (.ref a0), some (.int r4), none]) (st' := [.int (7 : Int32), .long (30803292651547769 : Int64), .ref a0]) rfl ?_
          obtain ⟨ho8, h⟩ := h
          refine e_callV (As := [.long (30803292651547769 : Int64), .int (7 : Int32)]) (rest := []) (ci := 7) rfl (x_X7_word h) ho8 rfl rfl rfl (aw (i := 1352) (by decide +kernel) rfl) wn_X7_word wv_X7_word wi_X7_word wc_X7_word (show cok mi_X7_short0 mi_X7_word 0 0 2 = true by decide +kernel) (Nat.le_of_ble_eq_true rfl) (fun v9 M9 hq => ?_) (fun X M9 hq => False.elim hq)
          obtain ⟨r10, rfl, h⟩ := kI_l hq
          refine e_blk 1 83 _ _ (pc' := 109) (L' := [some (.ref a0), some (.int r4), none]) (st' := [.int r10]) rfl ?_
          refine e_drp [true, true, false] (L' := [some (.ref a0), some (.int r4), none]) rfl ?_
          exact x_X7_short0_109  h
      · replace h := h.2 hc
        refine e_blk 1 56 _ _ (pc' := 57) (L' := [some (.ref a0), some (.int r4), none]) (st' := [.ref a0]) rfl ?_
        refine e_ldc2 (131277376941177) rfl (aw (i := 1362) (by decide +kernel) rfl) ?_
        refine e_blk 1 60 _ _ (pc' := 62) (L' := [some (.ref a0), some (.int r4), none]) (st' := [.int (6 : Int32), .long (131277376941177 : Int64), .ref a0]) rfl ?_
        obtain ⟨ho11, h⟩ := h
        refine e_callV (As := [.long (131277376941177 : Int64), .int (6 : Int32)]) (rest := []) (ci := 7) rfl (x_X7_word h) ho11 rfl rfl rfl (aw (i := 1352) (by decide +kernel) rfl) wn_X7_word wv_X7_word wi_X7_word wc_X7_word (show cok mi_X7_short0 mi_X7_word 0 0 2 = true by decide +kernel) (Nat.le_of_ble_eq_true rfl) (fun v9 M12 hq => ?_) (fun X M9 hq => False.elim hq)
        obtain ⟨r13, rfl, h⟩ := kI_l hq
        refine e_blk 1 65 _ _ (pc' := 109) (L' := [some (.ref a0), some (.int r4), none]) (st' := [.int r13]) rfl ?_
        refine e_drp [true, true, false] (L' := [some (.ref a0), some (.int r4), none]) rfl ?_
        exact x_X7_short0_109  h
    · replace h := h.2 hc
      refine e_blk 1 39 _ _ (pc' := 40) (L' := [some (.ref a0), some (.int r4), none]) (st' := [.ref a0]) rfl ?_
      refine e_ldc2 (431131028601) rfl (aw (i := 1361) (by decide +kernel) rfl) ?_
      refine e_blk 1 43 _ _ (pc' := 44) (L' := [some (.ref a0), some (.int r4), none]) (st' := [.int (5 : Int32), .long (431131028601 : Int64), .ref a0]) rfl ?_
      obtain ⟨ho14, h⟩ := h
      refine e_callV (As := [.long (431131028601 : Int64), .int (5 : Int32)]) (rest := []) (ci := 7) rfl (x_X7_word h) ho14 rfl rfl rfl (aw (i := 1352) (by decide +kernel) rfl) wn_X7_word wv_X7_word wi_X7_word wc_X7_word (show cok mi_X7_short0 mi_X7_word 0 0 2 = true by decide +kernel) (Nat.le_of_ble_eq_true rfl) (fun v9 M15 hq => ?_) (fun X M9 hq => False.elim hq)
      obtain ⟨r16, rfl, h⟩ := kI_l hq
      refine e_blk 1 47 _ _ (pc' := 109) (L' := [some (.ref a0), some (.int r4), none]) (st' := [.int r16]) rfl ?_
      refine e_drp [true, true, false] (L' := [some (.ref a0), some (.int r4), none]) rfl ?_
      exact x_X7_short0_109  h
  · replace h := h.2 hc
    refine e_blk 1 21 _ _ (pc' := 22) (L' := [some (.ref a0), some (.int r4), none]) (st' := [.ref a0]) rfl ?_
    refine e_ldc2 (114827921091705) rfl (aw (i := 1351) (by decide +kernel) rfl) ?_
    refine e_blk 1 25 _ _ (pc' := 27) (L' := [some (.ref a0), some (.int r4), none]) (st' := [.int (6 : Int32), .long (114827921091705 : Int64), .ref a0]) rfl ?_
    obtain ⟨ho17, h⟩ := h
    refine e_callV (As := [.long (114827921091705 : Int64), .int (6 : Int32)]) (rest := []) (ci := 7) rfl (x_X7_word h) ho17 rfl rfl rfl (aw (i := 1352) (by decide +kernel) rfl) wn_X7_word wv_X7_word wi_X7_word wc_X7_word (show cok mi_X7_short0 mi_X7_word 0 0 2 = true by decide +kernel) (Nat.le_of_ble_eq_true rfl) (fun v9 M18 hq => ?_) (fun X M9 hq => False.elim hq)
    obtain ⟨r19, rfl, h⟩ := kI_l hq
    refine e_blk 1 30 _ _ (pc' := 109) (L' := [some (.ref a0), some (.int r4), none]) (st' := [.int r19]) rfl ?_
    refine e_drp [true, true, false] (L' := [some (.ref a0), some (.int r4), none]) rfl ?_
    exact x_X7_short0_109  h
def V_X7_readText_236 (K : Rs → Mm → Prop)  (M : Mm)  : Prop := K (.inl none) M
set_option maxRecDepth 100000 in
set_option maxHeartbeats 4000000 in
theorem x_X7_readText_236 {G : Gx} {K : Rs → Mm → Prop}  {M : Mm}  (h : V_X7_readText_236 K  M ) : E G mi_X7_readText K M 0 0 236 [none, none] [] := by
  unfold V_X7_readText_236 at h
  exact e_ret rfl rfl (by decide) (by decide) h
def V_X7_readText_212 (K : Rs → Mm → Prop)  (M : Mm) (l0 : Nat) : Prop := (ob M l0 7 ∧ V_X7_blanks (kV (fun M2 => (ob M2 l0 7 ∧ (((mI M2 l0 11) ≤ (mI M2 l0 12) → V_X7_readText_236 K  M2 ) ∧ (¬ (mI M2 l0 11) ≤ (mI M2 l0 12) → V_X7_fail (kV (fun M4 => V_X7_readText_236 K  M4 ) (fun _ _ => False)) M2 l0 (1 : Int32) (mI M2 l0 12))))) (fun _ _ => False)) M l0)
set_option maxRecDepth 100000 in
set_option maxHeartbeats 4000000 in
theorem x_X7_readText_212 {G : Gx} {K : Rs → Mm → Prop}  {M : Mm} {l0 : Nat} (h : V_X7_readText_212 K  M l0) : E G mi_X7_readText K M 0 0 212 [some (.ref l0), none] [] := by
  unfold V_X7_readText_212 at h
  refine e_blk 1 212 _ _ (pc' := 213) (L' := [some (.ref l0), none]) (st' := [.ref l0]) rfl ?_
  obtain ⟨ho1, h⟩ := h
  refine e_callV (As := []) (rest := []) (ci := 7) rfl (x_X7_blanks h) ho1 rfl rfl rfl (aw (i := 1339) (by decide +kernel) rfl) wn_X7_blanks wv_X7_blanks wi_X7_blanks wc_X7_blanks (show cok mi_X7_readText mi_X7_blanks 0 0 0 = true by decide +kernel) (Nat.le_of_ble_eq_true rfl) (fun v9 M2 hq => ?_) (fun X M9 hq => False.elim hq)
  obtain ⟨rfl, h⟩ := kV_l hq
  refine e_blk 1 216 _ _ (pc' := 217) (L' := [some (.ref l0), none]) (st' := [.ref l0]) rfl ?_
  obtain ⟨ho3, h⟩ := h
  refine e_getI 7 12 rfl rfl (by decide) (aw (i := 1077) (by decide +kernel) rfl) ho3 rfl ?_
  refine e_blk 1 220 _ _ (pc' := 221) (L' := [some (.ref l0), none]) (st' := [.ref l0, .int (mI M2 l0 12)]) rfl ?_
  refine e_getI 7 11 rfl rfl (by decide) (aw (i := 1076) (by decide +kernel) rfl) ho3 rfl ?_
  refine e_icmp_ge 236 rfl rfl (fun hc => ?_) (fun hc => ?_)
  · replace h := h.1 hc
    refine e_drp [false, false] (L' := [none, none]) rfl ?_
    exact x_X7_readText_236  h
  · replace h := h.2 hc
    refine e_blk 3 227 _ _ (pc' := 230) (L' := [some (.ref l0), none]) (st' := [.ref l0, .int (1 : Int32), .ref l0]) rfl ?_
    refine e_getI 7 12 rfl rfl (by decide) (aw (i := 1077) (by decide +kernel) rfl) ho3 rfl ?_
    refine e_callV (As := [.int (1 : Int32), .int (mI M2 l0 12)]) (rest := []) (ci := 7) rfl (x_X7_fail h) ho3 rfl rfl rfl (aw (i := 1357) (by decide +kernel) rfl) wn_X7_fail wv_X7_fail wi_X7_fail wc_X7_fail (show cok mi_X7_readText mi_X7_fail 0 0 2 = true by decide +kernel) (Nat.le_of_ble_eq_true rfl) (fun v9 M4 hq => ?_) (fun X M9 hq => False.elim hq)
    obtain ⟨rfl, h⟩ := kV_l hq
    refine e_drp [false, false] (L' := [none, none]) rfl ?_
    exact x_X7_readText_236  h
def V_X7_readText_175 (K : Rs → Mm → Prop)  (M : Mm) (l0 : Nat) : Prop := (ob M l0 7 ∧ ((¬ (mI M l0 13) = 0 → V_X7_readText_212 K  M l0) ∧ ((mI M l0 13) = 0 → V_X7_sign (kI (fun r3 M2 => ((¬ r3 = (32 : Int32) → V_X7_readText_212 K  M2 l0) ∧ (r3 = (32 : Int32) → (ob M2 l0 7 ∧ V_X7_blanks (kV (fun M5 => (ob M5 l0 7 ∧ V_X7_sign (kI (fun r8 M7 => ((r8 < 0 → V_X7_readText_212 K  M7 l0) ∧ (¬ r8 < 0 → (ob M7 l0 7 ∧ ∀ M10, M10 = sI M7 l0 18 (0 : Int32) → V_X7_readField (kV (fun M11 => V_X7_readText_212 K  M11 l0) (fun _ _ => False)) M10 l0 (5 : Int32))))) (fun _ _ => False)) M5 l0)) (fun _ _ => False)) M2 l0)))) (fun _ _ => False)) M l0)))
set_option maxRecDepth 100000 in
set_option maxHeartbeats 4000000 in
theorem x_X7_readText_175 {G : Gx} {K : Rs → Mm → Prop}  {M : Mm} {l0 : Nat} (h : V_X7_readText_175 K  M l0) : E G mi_X7_readText K M 0 0 175 [some (.ref l0), none] [] := by
  unfold V_X7_readText_175 at h
  refine e_blk 1 175 _ _ (pc' := 176) (L' := [some (.ref l0), none]) (st' := [.ref l0]) rfl ?_
  obtain ⟨ho1, h⟩ := h
  refine e_getI 7 13 rfl rfl (by decide) (aw (i := 1078) (by decide +kernel) rfl) ho1 rfl ?_
  refine e_if_ne 212 rfl rfl (fun hc => ?_) (fun hc => ?_)
  · replace h := h.1 hc
    refine e_drp [true, false] (L' := [some (.ref l0), none]) rfl ?_
    exact x_X7_readText_212  h
  · replace h := h.2 hc
    refine e_blk 1 182 _ _ (pc' := 183) (L' := [some (.ref l0), none]) (st' := [.ref l0]) rfl ?_
    refine e_callV (As := []) (rest := []) (ci := 7) rfl (x_X7_sign h) ho1 rfl rfl rfl (aw (i := 1343) (by decide +kernel) rfl) wn_X7_sign wv_X7_sign wi_X7_sign wc_X7_sign (show cok mi_X7_readText mi_X7_sign 0 0 0 = true by decide +kernel) (Nat.le_of_ble_eq_true rfl) (fun v9 M2 hq => ?_) (fun X M9 hq => False.elim hq)
    obtain ⟨r3, rfl, h⟩ := kI_l hq
    refine e_blk 1 186 _ _ (pc' := 188) (L' := [some (.ref l0), none]) (st' := [.int (32 : Int32), .int r3]) rfl ?_
    refine e_icmp_ne 212 rfl rfl (fun hc => ?_) (fun hc => ?_)
    · replace h := h.1 hc
      refine e_drp [true, false] (L' := [some (.ref l0), none]) rfl ?_
      exact x_X7_readText_212  h
    · replace h := h.2 hc
      refine e_blk 1 191 _ _ (pc' := 192) (L' := [some (.ref l0), none]) (st' := [.ref l0]) rfl ?_
      obtain ⟨ho4, h⟩ := h
      refine e_callV (As := []) (rest := []) (ci := 7) rfl (x_X7_blanks h) ho4 rfl rfl rfl (aw (i := 1339) (by decide +kernel) rfl) wn_X7_blanks wv_X7_blanks wi_X7_blanks wc_X7_blanks (show cok mi_X7_readText mi_X7_blanks 0 0 0 = true by decide +kernel) (Nat.le_of_ble_eq_true rfl) (fun v9 M5 hq => ?_) (fun X M9 hq => False.elim hq)
      obtain ⟨rfl, h⟩ := kV_l hq
      refine e_blk 1 195 _ _ (pc' := 196) (L' := [some (.ref l0), none]) (st' := [.ref l0]) rfl ?_
      obtain ⟨ho6, h⟩ := h
      refine e_callV (As := []) (rest := []) (ci := 7) rfl (x_X7_sign h) ho6 rfl rfl rfl (aw (i := 1343) (by decide +kernel) rfl) wn_X7_sign wv_X7_sign wi_X7_sign wc_X7_sign (show cok mi_X7_readText mi_X7_sign 0 0 0 = true by decide +kernel) (Nat.le_of_ble_eq_true rfl) (fun v9 M7 hq => ?_) (fun X M9 hq => False.elim hq)
      obtain ⟨r8, rfl, h⟩ := kI_l hq
      refine e_if_lt 212 rfl rfl (fun hc => ?_) (fun hc => ?_)
      · replace h := h.1 hc
        refine e_drp [true, false] (L' := [some (.ref l0), none]) rfl ?_
        exact x_X7_readText_212  h
      · replace h := h.2 hc
        refine e_blk 2 202 _ _ (pc' := 204) (L' := [some (.ref l0), none]) (st' := [.int (0 : Int32), .ref l0]) rfl ?_
        obtain ⟨ho9, h⟩ := h
        refine e_putZ 7 18 rfl rfl (by decide) (aw (i := 1083) (by decide +kernel) rfl) rfl ho9 rfl (by decide) ?_
        generalize hM10 : sI M7 l0 18 (0 : Int32) = M10
        replace h := h M10 hM10.symm
        replace ho9 : ob M10 l0 7 := hM10 ▸ ob_sI ho9
        refine e_blk 2 207 _ _ (pc' := 209) (L' := [some (.ref l0), none]) (st' := [.int (5 : Int32), .ref l0]) rfl ?_
        refine e_callV (As := [.int (5 : Int32)]) (rest := []) (ci := 7) rfl (x_X7_readField h) ho9 rfl rfl rfl (aw (i := 1373) (by decide +kernel) rfl) wn_X7_readField wv_X7_readField wi_X7_readField wc_X7_readField (show cok mi_X7_readText mi_X7_readField 0 0 1 = true by decide +kernel) (Nat.le_of_ble_eq_true rfl) (fun v9 M11 hq => ?_) (fun X M9 hq => False.elim hq)
        obtain ⟨rfl, h⟩ := kV_l hq
        refine e_drp [true, false] (L' := [some (.ref l0), none]) rfl ?_
        exact x_X7_readText_212  h
def V_X7_readText_169 (K : Rs → Mm → Prop) (B119 : Mm → Nat → Int32 → Prop) (M : Mm) (l0 : Nat) (l1 : Int32) : Prop := ∀ x1 : Int32, x1 = (l1 + (1 : Int32)) → B119 M l0 x1
set_option maxRecDepth 100000 in
set_option maxHeartbeats 4000000 in
theorem x_X7_readText_169 {G : Gx} {K : Rs → Mm → Prop} {B119 : Mm → Nat → Int32 → Prop} (hB119 : ∀ M l0 l1, B119 M l0 l1 → E G mi_X7_readText K M 0 0 119 [some (.ref l0), some (.int l1)] []) {M : Mm} {l0 : Nat} {l1 : Int32} (h : V_X7_readText_169 K B119 M l0 l1) : E G mi_X7_readText K M 0 0 169 [some (.ref l0), some (.int l1)] [] := by
  unfold V_X7_readText_169 at h
  refine e_blk 2 169 _ _ (pc' := 119) (L' := [some (.ref l0), some (.int (l1 + (1 : Int32)))]) (st' := []) rfl ?_
  generalize hx_x1 : ((l1 + (1 : Int32)) : Int32) = x1
  replace h := h x1 hx_x1.symm
  refine e_drp [true, true] (L' := [some (.ref l0), some (.int x1)]) rfl ?_
  exact hB119 _ _ _ h
def V_X7_readText_157 (K : Rs → Mm → Prop) (B119 : Mm → Nat → Int32 → Prop) (M : Mm) (l0 : Nat) (l1 : Int32) : Prop := (ob M l0 7 ∧ ((¬ (mI M l0 13) = 0 → V_X7_readText_169 K B119 M l0 l1) ∧ ((mI M l0 13) = 0 → V_X7_readField (kV (fun M2 => V_X7_readText_169 K B119 M2 l0 l1) (fun _ _ => False)) M l0 l1)))
set_option maxRecDepth 100000 in
set_option maxHeartbeats 4000000 in
theorem x_X7_readText_157 {G : Gx} {K : Rs → Mm → Prop} {B119 : Mm → Nat → Int32 → Prop} (hB119 : ∀ M l0 l1, B119 M l0 l1 → E G mi_X7_readText K M 0 0 119 [some (.ref l0), some (.int l1)] []) {M : Mm} {l0 : Nat} {l1 : Int32} (h : V_X7_readText_157 K B119 M l0 l1) : E G mi_X7_readText K M 0 0 157 [some (.ref l0), some (.int l1)] [] := by
  unfold V_X7_readText_157 at h
  refine e_blk 1 157 _ _ (pc' := 158) (L' := [some (.ref l0), some (.int l1)]) (st' := [.ref l0]) rfl ?_
  obtain ⟨ho1, h⟩ := h
  refine e_getI 7 13 rfl rfl (by decide) (aw (i := 1078) (by decide +kernel) rfl) ho1 rfl ?_
  refine e_if_ne 169 rfl rfl (fun hc => ?_) (fun hc => ?_)
  · replace h := h.1 hc
    refine e_drp [true, true] (L' := [some (.ref l0), some (.int l1)]) rfl ?_
    exact x_X7_readText_169 hB119 h
  · replace h := h.2 hc
    refine e_blk 2 164 _ _ (pc' := 166) (L' := [some (.ref l0), some (.int l1)]) (st' := [.int l1, .ref l0]) rfl ?_
    refine e_callV (As := [.int l1]) (rest := []) (ci := 7) rfl (x_X7_readField h) ho1 rfl rfl rfl (aw (i := 1373) (by decide +kernel) rfl) wn_X7_readField wv_X7_readField wi_X7_readField wc_X7_readField (show cok mi_X7_readText mi_X7_readField 0 0 1 = true by decide +kernel) (Nat.le_of_ble_eq_true rfl) (fun v9 M2 hq => ?_) (fun X M9 hq => False.elim hq)
    obtain ⟨rfl, h⟩ := kV_l hq
    refine e_drp [true, true] (L' := [some (.ref l0), some (.int l1)]) rfl ?_
    exact x_X7_readText_169 hB119 h
def V_X7_readText_153 (K : Rs → Mm → Prop) (B119 : Mm → Nat → Int32 → Prop) (M : Mm) (l0 : Nat) (l1 : Int32) : Prop := (ob M l0 7 ∧ V_X7_blanks (kV (fun M2 => V_X7_readText_157 K B119 M2 l0 l1) (fun _ _ => False)) M l0)
set_option maxRecDepth 100000 in
set_option maxHeartbeats 4000000 in
theorem x_X7_readText_153 {G : Gx} {K : Rs → Mm → Prop} {B119 : Mm → Nat → Int32 → Prop} (hB119 : ∀ M l0 l1, B119 M l0 l1 → E G mi_X7_readText K M 0 0 119 [some (.ref l0), some (.int l1)] []) {M : Mm} {l0 : Nat} {l1 : Int32} (h : V_X7_readText_153 K B119 M l0 l1) : E G mi_X7_readText K M 0 0 153 [some (.ref l0), some (.int l1)] [] := by
  unfold V_X7_readText_153 at h
  refine e_blk 1 153 _ _ (pc' := 154) (L' := [some (.ref l0), some (.int l1)]) (st' := [.ref l0]) rfl ?_
  obtain ⟨ho1, h⟩ := h
  refine e_callV (As := []) (rest := []) (ci := 7) rfl (x_X7_blanks h) ho1 rfl rfl rfl (aw (i := 1339) (by decide +kernel) rfl) wn_X7_blanks wv_X7_blanks wi_X7_blanks wc_X7_blanks (show cok mi_X7_readText mi_X7_blanks 0 0 0 = true by decide +kernel) (Nat.le_of_ble_eq_true rfl) (fun v9 M2 hq => ?_) (fun X M9 hq => False.elim hq)
  obtain ⟨rfl, h⟩ := kV_l hq
  refine e_drp [true, true] (L' := [some (.ref l0), some (.int l1)]) rfl ?_
  exact x_X7_readText_157 hB119 h
def V_X7_readText_119 (K : Rs → Mm → Prop)  : Nat → Mm → Nat → Int32 → Prop
  | 0, _, _, _ => False
  | z + 1, M, l0, l1 => (((5 : Int32) ≤ l1 → V_X7_readText_175 K  M l0) ∧ (¬ (5 : Int32) ≤ l1 → (ob M l0 7 ∧ ((¬ (mI M l0 13) = 0 → V_X7_readText_175 K  M l0) ∧ ((mI M l0 13) = 0 → ((l1 ≤ 0 → V_X7_readText_157 K (fun M l0 l1 => V_X7_readText_119 K  z M l0 l1) M l0 l1) ∧ (¬ l1 ≤ 0 → V_X7_sign (kI (fun r3 M2 => ((r3 = (32 : Int32) → V_X7_readText_153 K (fun M l0 l1 => V_X7_readText_119 K  z M l0 l1) M2 l0 l1) ∧ (¬ r3 = (32 : Int32) → (ob M2 l0 7 ∧ V_X7_fail (kV (fun M5 => V_X7_readText_153 K (fun M l0 l1 => V_X7_readText_119 K  z M l0 l1) M5 l0 l1) (fun _ _ => False)) M2 l0 (1 : Int32) (mI M2 l0 12))))) (fun _ _ => False)) M l0)))))))
set_option maxRecDepth 100000 in
set_option maxHeartbeats 4000000 in
theorem x_X7_readText_119 {G : Gx} {K : Rs → Mm → Prop}  : ∀ (z : Nat) (M : Mm) (l0 : Nat) (l1 : Int32), V_X7_readText_119 K  z M l0 l1 → E G mi_X7_readText K M 0 0 119 [some (.ref l0), some (.int l1)] []
  | 0, M, l0, l1, h => False.elim h
  | z + 1, M, l0, l1, h => by
    unfold V_X7_readText_119 at h
    refine e_blk 2 119 _ _ (pc' := 121) (L' := [some (.ref l0), some (.int l1)]) (st' := [.int (5 : Int32), .int l1]) rfl ?_
    refine e_icmp_ge 175 rfl rfl (fun hc => ?_) (fun hc => ?_)
    · replace h := h.1 hc
      refine e_drp [true, false] (L' := [some (.ref l0), none]) rfl ?_
      exact x_X7_readText_175  h
    · replace h := h.2 hc
      refine e_blk 1 124 _ _ (pc' := 125) (L' := [some (.ref l0), some (.int l1)]) (st' := [.ref l0]) rfl ?_
      obtain ⟨ho1, h⟩ := h
      refine e_getI 7 13 rfl rfl (by decide) (aw (i := 1078) (by decide +kernel) rfl) ho1 rfl ?_
      refine e_if_ne 175 rfl rfl (fun hc => ?_) (fun hc => ?_)
      · replace h := h.1 hc
        refine e_drp [true, false] (L' := [some (.ref l0), none]) rfl ?_
        exact x_X7_readText_175  h
      · replace h := h.2 hc
        refine e_blk 1 131 _ _ (pc' := 132) (L' := [some (.ref l0), some (.int l1)]) (st' := [.int l1]) rfl ?_
        refine e_if_le 157 rfl rfl (fun hc => ?_) (fun hc => ?_)
        · replace h := h.1 hc
          refine e_drp [true, true] (L' := [some (.ref l0), some (.int l1)]) rfl ?_
          exact x_X7_readText_157 (fun M l0 l1 h => x_X7_readText_119  z M l0 l1 h) h
        · replace h := h.2 hc
          refine e_blk 1 135 _ _ (pc' := 136) (L' := [some (.ref l0), some (.int l1)]) (st' := [.ref l0]) rfl ?_
          refine e_callV (As := []) (rest := []) (ci := 7) rfl (x_X7_sign h) ho1 rfl rfl rfl (aw (i := 1343) (by decide +kernel) rfl) wn_X7_sign wv_X7_sign wi_X7_sign wc_X7_sign (show cok mi_X7_readText mi_X7_sign 0 0 0 = true by decide +kernel) (Nat.le_of_ble_eq_true rfl) (fun v9 M2 hq => ?_) (fun X M9 hq => False.elim hq)
          obtain ⟨r3, rfl, h⟩ := kI_l hq
          refine e_blk 1 139 _ _ (pc' := 141) (L' := [some (.ref l0), some (.int l1)]) (st' := [.int (32 : Int32), .int r3]) rfl ?_
          refine e_icmp_eq 153 rfl rfl (fun hc => ?_) (fun hc => ?_)
          · replace h := h.1 hc
            refine e_drp [true, true] (L' := [some (.ref l0), some (.int l1)]) rfl ?_
            exact x_X7_readText_153 (fun M l0 l1 h => x_X7_readText_119  z M l0 l1 h) h
          · replace h := h.2 hc
            refine e_blk 3 144 _ _ (pc' := 147) (L' := [some (.ref l0), some (.int l1)]) (st' := [.ref l0, .int (1 : Int32), .ref l0]) rfl ?_
            obtain ⟨ho4, h⟩ := h
            refine e_getI 7 12 rfl rfl (by decide) (aw (i := 1077) (by decide +kernel) rfl) ho4 rfl ?_
            refine e_callV (As := [.int (1 : Int32), .int (mI M2 l0 12)]) (rest := []) (ci := 7) rfl (x_X7_fail h) ho4 rfl rfl rfl (aw (i := 1357) (by decide +kernel) rfl) wn_X7_fail wv_X7_fail wi_X7_fail wc_X7_fail (show cok mi_X7_readText mi_X7_fail 0 0 2 = true by decide +kernel) (Nat.le_of_ble_eq_true rfl) (fun v9 M5 hq => ?_) (fun X M9 hq => False.elim hq)
            obtain ⟨rfl, h⟩ := kV_l hq
            refine e_drp [true, true] (L' := [some (.ref l0), some (.int l1)]) rfl ?_
            exact x_X7_readText_153 (fun M l0 l1 h => x_X7_readText_119  z M l0 l1 h) h
def V_X7_readText_37 (K : Rs → Mm → Prop)  : Nat → Mm → Nat → Int32 → Prop
  | 0, _, _, _ => False
  | z + 1, M, l0, l1 => (((300 : Int32) ≤ l1 → (ob M l0 7 ∧ ∀ M2, M2 = sI M l0 18 (1 : Int32) → ∀ M3, M3 = sJ M2 l0 19 (0 : Int64) → ∀ M4, M4 = sI M3 l0 20 (0 : Int32) → ∀ M5, M5 = sJ M4 l0 21 (0 : Int64) → ∀ M6, M6 = sJ M5 l0 22 (0 : Int64) → ∀ M7, M7 = sJ M6 l0 23 (0 : Int64) → ∀ M8, M8 = sI M7 l0 24 (0 : Int32) → ∀ M9, M9 = sI M8 l0 25 (0 : Int32) → V_X7_blanks (kV (fun M10 => (ob M10 l0 7 ∧ V_X7_sign (kI (fun r13 M12 => ((¬ r13 = (64 : Int32) → ∃ y, V_X7_readText_119 K  y M12 l0 (0 : Int32)) ∧ (r13 = (64 : Int32) → (ob M12 l0 7 ∧ V_X7_short0 (kV (fun M15 => V_X7_readText_212 K  M15 l0) (fun _ _ => False)) M12 l0)))) (fun _ _ => False)) M10 l0)) (fun _ _ => False)) M9 l0)) ∧ (¬ (300 : Int32) ≤ l1 → (ob M l0 7 ∧ ∃ b17, mP M l0 17 = some b17 ∧ (ob M b17 11 ∧ (vp_in l1 (mN M b17) ∧ ∀ M20, M20 = sI M b17 (l1).toNatClampNeg (vp_nar .boolean (0 : Int32)) → ∀ x21 : Int32, x21 = (l1 + (1 : Int32)) → V_X7_readText_37 K  z M20 l0 x21)))))
set_option maxRecDepth 100000 in
set_option maxHeartbeats 4000000 in
theorem x_X7_readText_37 {G : Gx} {K : Rs → Mm → Prop}  : ∀ (z : Nat) (M : Mm) (l0 : Nat) (l1 : Int32), V_X7_readText_37 K  z M l0 l1 → E G mi_X7_readText K M 0 0 37 [some (.ref l0), some (.int l1)] []
  | 0, M, l0, l1, h => False.elim h
  | z + 1, M, l0, l1, h => by
    unfold V_X7_readText_37 at h
    refine e_blk 2 37 _ _ (pc' := 41) (L' := [some (.ref l0), some (.int l1)]) (st' := [.int (300 : Int32), .int l1]) rfl ?_
    refine e_icmp_ge 57 rfl rfl (fun hc => ?_) (fun hc => ?_)
    · replace h := h.1 hc
      refine e_blk 2 57 _ _ (pc' := 59) (L' := [some (.ref l0), some (.int l1)]) (st' := [.int (1 : Int32), .ref l0]) rfl ?_
      obtain ⟨ho1, h⟩ := h
      refine e_putZ 7 18 rfl rfl (by decide) (aw (i := 1083) (by decide +kernel) rfl) rfl ho1 rfl (by decide) ?_
      generalize hM2 : sI M l0 18 (1 : Int32) = M2
      replace h := h M2 hM2.symm
      replace ho1 : ob M2 l0 7 := hM2 ▸ ob_sI ho1
      refine e_blk 2 62 _ _ (pc' := 64) (L' := [some (.ref l0), some (.int l1)]) (st' := [.long (0 : Int64), .ref l0]) rfl ?_
      refine e_putJ 7 19 rfl rfl (by decide) (aw (i := 1084) (by decide +kernel) rfl) rfl ho1 rfl ?_
      generalize hM3 : sJ M2 l0 19 (0 : Int64) = M3
      replace h := h M3 hM3.symm
      replace ho1 : ob M3 l0 7 := hM3 ▸ ob_sJ ho1
      refine e_blk 2 67 _ _ (pc' := 69) (L' := [some (.ref l0), some (.int l1)]) (st' := [.int (0 : Int32), .ref l0]) rfl ?_
      refine e_putZ 7 20 rfl rfl (by decide) (aw (i := 1085) (by decide +kernel) rfl) rfl ho1 rfl (by decide) ?_
      generalize hM4 : sI M3 l0 20 (0 : Int32) = M4
      replace h := h M4 hM4.symm
      replace ho1 : ob M4 l0 7 := hM4 ▸ ob_sI ho1
      refine e_blk 2 72 _ _ (pc' := 74) (L' := [some (.ref l0), some (.int l1)]) (st' := [.long (0 : Int64), .ref l0]) rfl ?_
      refine e_putJ 7 21 rfl rfl (by decide) (aw (i := 1086) (by decide +kernel) rfl) rfl ho1 rfl ?_
      generalize hM5 : sJ M4 l0 21 (0 : Int64) = M5
      replace h := h M5 hM5.symm
      replace ho1 : ob M5 l0 7 := hM5 ▸ ob_sJ ho1
      refine e_blk 2 77 _ _ (pc' := 79) (L' := [some (.ref l0), some (.int l1)]) (st' := [.long (0 : Int64), .ref l0]) rfl ?_
      refine e_putJ 7 22 rfl rfl (by decide) (aw (i := 1087) (by decide +kernel) rfl) rfl ho1 rfl ?_
      generalize hM6 : sJ M5 l0 22 (0 : Int64) = M6
      replace h := h M6 hM6.symm
      replace ho1 : ob M6 l0 7 := hM6 ▸ ob_sJ ho1
      refine e_blk 2 82 _ _ (pc' := 84) (L' := [some (.ref l0), some (.int l1)]) (st' := [.long (0 : Int64), .ref l0]) rfl ?_
      refine e_putJ 7 23 rfl rfl (by decide) (aw (i := 1088) (by decide +kernel) rfl) rfl ho1 rfl ?_
      generalize hM7 : sJ M6 l0 23 (0 : Int64) = M7
      replace h := h M7 hM7.symm
      replace ho1 : ob M7 l0 7 := hM7 ▸ ob_sJ ho1
      refine e_blk 2 87 _ _ (pc' := 89) (L' := [some (.ref l0), some (.int l1)]) (st' := [.int (0 : Int32), .ref l0]) rfl ?_
      refine e_putZ 7 24 rfl rfl (by decide) (aw (i := 1089) (by decide +kernel) rfl) rfl ho1 rfl (by decide) ?_
      generalize hM8 : sI M7 l0 24 (0 : Int32) = M8
      replace h := h M8 hM8.symm
      replace ho1 : ob M8 l0 7 := hM8 ▸ ob_sI ho1
      refine e_blk 2 92 _ _ (pc' := 94) (L' := [some (.ref l0), some (.int l1)]) (st' := [.int (0 : Int32), .ref l0]) rfl ?_
      refine e_putZ 7 25 rfl rfl (by decide) (aw (i := 1090) (by decide +kernel) rfl) rfl ho1 rfl (by decide) ?_
      generalize hM9 : sI M8 l0 25 (0 : Int32) = M9
      replace h := h M9 hM9.symm
      replace ho1 : ob M9 l0 7 := hM9 ▸ ob_sI ho1
      refine e_blk 1 97 _ _ (pc' := 98) (L' := [some (.ref l0), some (.int l1)]) (st' := [.ref l0]) rfl ?_
      refine e_callV (As := []) (rest := []) (ci := 7) rfl (x_X7_blanks h) ho1 rfl rfl rfl (aw (i := 1339) (by decide +kernel) rfl) wn_X7_blanks wv_X7_blanks wi_X7_blanks wc_X7_blanks (show cok mi_X7_readText mi_X7_blanks 0 0 0 = true by decide +kernel) (Nat.le_of_ble_eq_true rfl) (fun v9 M10 hq => ?_) (fun X M9 hq => False.elim hq)
      obtain ⟨rfl, h⟩ := kV_l hq
      refine e_blk 1 101 _ _ (pc' := 102) (L' := [some (.ref l0), some (.int l1)]) (st' := [.ref l0]) rfl ?_
      obtain ⟨ho11, h⟩ := h
      refine e_callV (As := []) (rest := []) (ci := 7) rfl (x_X7_sign h) ho11 rfl rfl rfl (aw (i := 1343) (by decide +kernel) rfl) wn_X7_sign wv_X7_sign wi_X7_sign wc_X7_sign (show cok mi_X7_readText mi_X7_sign 0 0 0 = true by decide +kernel) (Nat.le_of_ble_eq_true rfl) (fun v9 M12 hq => ?_) (fun X M9 hq => False.elim hq)
      obtain ⟨r13, rfl, h⟩ := kI_l hq
      refine e_blk 1 105 _ _ (pc' := 107) (L' := [some (.ref l0), some (.int l1)]) (st' := [.int (64 : Int32), .int r13]) rfl ?_
      refine e_icmp_ne 117 rfl rfl (fun hc => ?_) (fun hc => ?_)
      · replace h := h.1 hc
        refine e_blk 2 117 _ _ (pc' := 119) (L' := [some (.ref l0), some (.int (0 : Int32))]) (st' := []) rfl ?_
        refine e_drp [true, true] (L' := [some (.ref l0), some (.int (0 : Int32))]) rfl ?_
        obtain ⟨y, h⟩ := h
        exact x_X7_readText_119  y _ _ _ h
      · replace h := h.2 hc
        refine e_blk 1 110 _ _ (pc' := 111) (L' := [some (.ref l0), some (.int l1)]) (st' := [.ref l0]) rfl ?_
        obtain ⟨ho14, h⟩ := h
        refine e_callV (As := []) (rest := []) (ci := 7) rfl (x_X7_short0 h) ho14 rfl rfl rfl (aw (i := 1347) (by decide +kernel) rfl) wn_X7_short0 wv_X7_short0 wi_X7_short0 wc_X7_short0 (show cok mi_X7_readText mi_X7_short0 0 0 0 = true by decide +kernel) (Nat.le_of_ble_eq_true rfl) (fun v9 M15 hq => ?_) (fun X M9 hq => False.elim hq)
        obtain ⟨rfl, h⟩ := kV_l hq
        refine e_blk 1 114 _ _ (pc' := 212) (L' := [some (.ref l0), some (.int l1)]) (st' := []) rfl ?_
        refine e_drp [true, false] (L' := [some (.ref l0), none]) rfl ?_
        exact x_X7_readText_212  h
    · replace h := h.2 hc
      refine e_blk 1 44 _ _ (pc' := 45) (L' := [some (.ref l0), some (.int l1)]) (st' := [.ref l0]) rfl ?_
      obtain ⟨ho16, h⟩ := h
      obtain ⟨b17, hbb17, h⟩ := h
      refine e_getR 7 17 rfl rfl (by decide) (aw (i := 1082) (by decide +kernel) rfl) ho16 rfl hbb17 ?_
      refine e_blk 2 48 _ _ (pc' := 50) (L' := [some (.ref l0), some (.int l1)]) (st' := [.int (0 : Int32), .int l1, .ref b17]) rfl ?_
      obtain ⟨ho18, h⟩ := h
      obtain ⟨hi19, h⟩ := h
      refine e_zast rfl ho18 hi19 ?_
      generalize hM20 : sI M b17 (l1).toNatClampNeg (vp_nar .boolean (0 : Int32)) = M20
      replace h := h M20 hM20.symm
      replace ho16 : ob M20 l0 7 := hM20 ▸ ob_sI ho16
      replace ho18 : ob M20 b17 11 := hM20 ▸ ob_sI ho18
      refine e_blk 2 51 _ _ (pc' := 37) (L' := [some (.ref l0), some (.int (l1 + (1 : Int32)))]) (st' := []) rfl ?_
      generalize hx_x21 : ((l1 + (1 : Int32)) : Int32) = x21
      replace h := h x21 hx_x21.symm
      refine e_drp [true, true] (L' := [some (.ref l0), some (.int x21)]) rfl ?_
      exact x_X7_readText_37  z _ _ _ h
def V_X7_readText_17 (K : Rs → Mm → Prop)  : Nat → Mm → Nat → Int32 → Prop
  | 0, _, _, _ => False
  | z + 1, M, l0, l1 => (((5 : Int32) ≤ l1 → ∃ y, V_X7_readText_37 K  y M l0 (0 : Int32)) ∧ (¬ (5 : Int32) ≤ l1 → (ob M l0 7 ∧ ∃ b2, mP M l0 16 = some b2 ∧ (ob M b2 10 ∧ (vp_in l1 (mN M b2) ∧ ∀ M5, M5 = sJ M b2 (l1).toNatClampNeg (0 : Int64) → ∀ x6 : Int32, x6 = (l1 + (1 : Int32)) → V_X7_readText_17 K  z M5 l0 x6)))))
set_option maxRecDepth 100000 in
set_option maxHeartbeats 4000000 in
theorem x_X7_readText_17 {G : Gx} {K : Rs → Mm → Prop}  : ∀ (z : Nat) (M : Mm) (l0 : Nat) (l1 : Int32), V_X7_readText_17 K  z M l0 l1 → E G mi_X7_readText K M 0 0 17 [some (.ref l0), some (.int l1)] []
  | 0, M, l0, l1, h => False.elim h
  | z + 1, M, l0, l1, h => by
    unfold V_X7_readText_17 at h
    refine e_blk 2 17 _ _ (pc' := 19) (L' := [some (.ref l0), some (.int l1)]) (st' := [.int (5 : Int32), .int l1]) rfl ?_
    refine e_icmp_ge 35 rfl rfl (fun hc => ?_) (fun hc => ?_)
    · replace h := h.1 hc
      refine e_blk 2 35 _ _ (pc' := 37) (L' := [some (.ref l0), some (.int (0 : Int32))]) (st' := []) rfl ?_
      refine e_drp [true, true] (L' := [some (.ref l0), some (.int (0 : Int32))]) rfl ?_
      obtain ⟨y, h⟩ := h
      exact x_X7_readText_37  y _ _ _ h
    · replace h := h.2 hc
      refine e_blk 1 22 _ _ (pc' := 23) (L' := [some (.ref l0), some (.int l1)]) (st' := [.ref l0]) rfl ?_
      obtain ⟨ho1, h⟩ := h
      obtain ⟨b2, hbb2, h⟩ := h
      refine e_getR 7 16 rfl rfl (by decide) (aw (i := 1081) (by decide +kernel) rfl) ho1 rfl hbb2 ?_
      refine e_blk 2 26 _ _ (pc' := 28) (L' := [some (.ref l0), some (.int l1)]) (st' := [.long (0 : Int64), .int l1, .ref b2]) rfl ?_
      obtain ⟨ho3, h⟩ := h
      obtain ⟨hi4, h⟩ := h
      refine e_last rfl ho3 hi4 ?_
      generalize hM5 : sJ M b2 (l1).toNatClampNeg (0 : Int64) = M5
      replace h := h M5 hM5.symm
      replace ho1 : ob M5 l0 7 := hM5 ▸ ob_sJ ho1
      replace ho3 : ob M5 b2 10 := hM5 ▸ ob_sJ ho3
      refine e_blk 2 29 _ _ (pc' := 17) (L' := [some (.ref l0), some (.int (l1 + (1 : Int32)))]) (st' := []) rfl ?_
      generalize hx_x6 : ((l1 + (1 : Int32)) : Int32) = x6
      replace h := h x6 hx_x6.symm
      refine e_drp [true, true] (L' := [some (.ref l0), some (.int x6)]) rfl ?_
      exact x_X7_readText_17  z _ _ _ h
def V_X7_readText (K : Rs → Mm → Prop) (M : Mm) (a0 : Nat) : Prop := (ob M a0 7 ∧ ∀ M2, M2 = sI M a0 12 (0 : Int32) → ∀ M3, M3 = sI M2 a0 13 (0 : Int32) → ∀ M4, M4 = sI M3 a0 14 (0 : Int32) → ∃ y, V_X7_readText_17 K  y M4 a0 (0 : Int32))
set_option maxRecDepth 100000 in
set_option maxHeartbeats 4000000 in
theorem x_X7_readText {G : Gx} {K : Rs → Mm → Prop} {M : Mm} {a0 : Nat} (h : V_X7_readText K M a0) : MC G mi_X7_readText [.ref a0] M K := by
  unfold V_X7_readText at h
  refine mc_of rfl (by decide +kernel) dc_X7_readText (Nat.le_of_ble_eq_true rfl) 1 (Nat.le_of_ble_eq_true rfl) ?_
  show E G mi_X7_readText K M 0 0 0 [some (.ref a0), none] []
  refine e_blk 2 0 _ _ (pc' := 2) (L' := [some (.ref a0), none]) (st' := [.int (0 : Int32), .ref a0]) rfl ?_
  obtain ⟨ho1, h⟩ := h
  refine e_putI 7 12 rfl rfl (by decide) (aw (i := 1077) (by decide +kernel) rfl) rfl ho1 rfl ?_
  generalize hM2 : sI M a0 12 (0 : Int32) = M2
  replace h := h M2 hM2.symm
  replace ho1 : ob M2 a0 7 := hM2 ▸ ob_sI ho1
  refine e_blk 2 5 _ _ (pc' := 7) (L' := [some (.ref a0), none]) (st' := [.int (0 : Int32), .ref a0]) rfl ?_
  refine e_putI 7 13 rfl rfl (by decide) (aw (i := 1078) (by decide +kernel) rfl) rfl ho1 rfl ?_
  generalize hM3 : sI M2 a0 13 (0 : Int32) = M3
  replace h := h M3 hM3.symm
  replace ho1 : ob M3 a0 7 := hM3 ▸ ob_sI ho1
  refine e_blk 2 10 _ _ (pc' := 12) (L' := [some (.ref a0), none]) (st' := [.int (0 : Int32), .ref a0]) rfl ?_
  refine e_putI 7 14 rfl rfl (by decide) (aw (i := 1079) (by decide +kernel) rfl) rfl ho1 rfl ?_
  generalize hM4 : sI M3 a0 14 (0 : Int32) = M4
  replace h := h M4 hM4.symm
  replace ho1 : ob M4 a0 7 := hM4 ▸ ob_sI ho1
  refine e_blk 2 15 _ _ (pc' := 17) (L' := [some (.ref a0), some (.int (0 : Int32))]) (st' := []) rfl ?_
  refine e_drp [true, true] (L' := [some (.ref a0), some (.int (0 : Int32))]) rfl ?_
  obtain ⟨y, h⟩ := h
  exact x_X7_readText_17  y _ _ _ h
