def is_X7_thrown : List (Instr × Nat) := [(.aload_n 0, 1), (.getfield 112, 3), (.ireturn, 1)]
abbrev mi_X7_thrown : MI := (yX7_thrown, cX7_thrown, 1, (some .int), [], { frames := 0, cells := 0, slots := 0, locals := 0 }, is_X7_thrown)
theorem dc_X7_thrown : dcb cX7_thrown is_X7_thrown 0 = true := by decide +kernel
theorem wc_X7_thrown : cdw mi_X7_thrown ∈ ALLW := aw (i := 1250) (by decide +kernel) rfl
theorem wi_X7_thrown : Cond.initialized (miY mi_X7_thrown).cls ∈ ALLW := aw (i := 64) (by decide +kernel) rfl
theorem wn_X7_thrown : Cond.instanceMethod (miY mi_X7_thrown) ∈ ALLW := aw (i := 1248) (by decide +kernel) rfl
theorem wv_X7_thrown : Cond.selects (miY mi_X7_thrown).cls (miY mi_X7_thrown) (miY mi_X7_thrown) ∈ ALLW := aw (i := 1249) (by decide +kernel) rfl
def is_X7_in : List (Instr × Nat) := [(.lload_n 0, 1), (.lload_n 2, 1), (.lcmp, 1), (.ifCond .lt 14, 3), (.lload_n 0, 1), (.lload 4, 2), (.lcmp, 1), (.ifCond .gt 7, 3), (.iconst 1, 1), (.goto 4, 3), (.iconst 0, 1), (.ireturn, 1)]
abbrev mi_X7_in : MI := (yX7_in, cX7_in, 6, (some .boolean), [], { frames := 0, cells := 0, slots := 0, locals := 0 }, is_X7_in)
theorem dc_X7_in : dcb cX7_in is_X7_in 0 = true := by decide +kernel
theorem wc_X7_in : cdw mi_X7_in ∈ ALLW := aw (i := 1258) (by decide +kernel) rfl
theorem wi_X7_in : Cond.initialized (miY mi_X7_in).cls ∈ ALLW := aw (i := 64) (by decide +kernel) rfl
theorem ws_X7_in : Cond.static (miY mi_X7_in) ∈ ALLW := aw (i := 1257) (by decide +kernel) rfl
def is_X7_wrong : List (Instr × Nat) := [(.aload_n 0, 1), (.iload_n 1, 1), (.putfield 112, 3), (.iconst 0, 1), (.ireturn, 1)]
abbrev mi_X7_wrong : MI := (yX7_wrong, cX7_wrong, 2, (some .int), [], { frames := 0, cells := 0, slots := 0, locals := 0 }, is_X7_wrong)
theorem dc_X7_wrong : dcb cX7_wrong is_X7_wrong 0 = true := by decide +kernel
theorem wc_X7_wrong : cdw mi_X7_wrong ∈ ALLW := aw (i := 1268) (by decide +kernel) rfl
theorem wi_X7_wrong : Cond.initialized (miY mi_X7_wrong).cls ∈ ALLW := aw (i := 64) (by decide +kernel) rfl
theorem wn_X7_wrong : Cond.instanceMethod (miY mi_X7_wrong) ∈ ALLW := aw (i := 1267) (by decide +kernel) rfl
theorem wv_X7_wrong : Cond.selects (miY mi_X7_wrong).cls (miY mi_X7_wrong) (miY mi_X7_wrong) ∈ ALLW := aw (i := 15) (by decide +kernel) rfl
def is_X7_isLeap : List (Instr × Nat) := [(.iload_n 0, 1), (.iconst 4, 1), (.irem, 1), (.ifCond .ne 22, 3), (.iload_n 0, 1), (.bipush 100, 2), (.irem, 1), (.ifCond .ne 11, 3), (.iload_n 0, 1), (.sipush 400, 3), (.irem, 1), (.ifCond .ne 7, 3), (.iconst 1, 1), (.goto 4, 3), (.iconst 0, 1), (.ireturn, 1)]
abbrev mi_X7_isLeap : MI := (yX7_isLeap, cX7_isLeap, 1, (some .boolean), [], { frames := 0, cells := 0, slots := 0, locals := 0 }, is_X7_isLeap)
theorem dc_X7_isLeap : dcb cX7_isLeap is_X7_isLeap 0 = true := by decide +kernel
theorem wc_X7_isLeap : cdw mi_X7_isLeap ∈ ALLW := aw (i := 1298) (by decide +kernel) rfl
theorem wi_X7_isLeap : Cond.initialized (miY mi_X7_isLeap).cls ∈ ALLW := aw (i := 64) (by decide +kernel) rfl
theorem ws_X7_isLeap : Cond.static (miY mi_X7_isLeap) ∈ ALLW := aw (i := 1297) (by decide +kernel) rfl
def is_X7_daysOf : List (Instr × Nat) := [(.iload_n 1, 1), (.iconst 2, 1), (.if_icmp .ne 20, 3), (.iload_n 0, 1), (.invokestatic 116, 3), (.ifCond .eq 8, 3), (.bipush 29, 2), (.goto 38, 3), (.bipush 28, 2), (.goto 33, 3), (.iload_n 1, 1), (.iconst 4, 1), (.if_icmp .eq 21, 3), (.iload_n 1, 1), (.bipush 6, 2), (.if_icmp .eq 15, 3), (.iload_n 1, 1), (.bipush 9, 2), (.if_icmp .eq 9, 3), (.iload_n 1, 1), (.bipush 11, 2), (.if_icmp .ne 8, 3), (.bipush 30, 2), (.goto 5, 3), (.bipush 31, 2), (.ireturn, 1)]
abbrev mi_X7_daysOf : MI := (yX7_daysOf, cX7_daysOf, 2, (some .int), [], { frames := 1, cells := 0, slots := 0, locals := 20 }, is_X7_daysOf)
theorem dc_X7_daysOf : dcb cX7_daysOf is_X7_daysOf 0 = true := by decide +kernel
theorem wc_X7_daysOf : cdw mi_X7_daysOf ∈ ALLW := aw (i := 1295) (by decide +kernel) rfl
theorem wi_X7_daysOf : Cond.initialized (miY mi_X7_daysOf).cls ∈ ALLW := aw (i := 64) (by decide +kernel) rfl
theorem ws_X7_daysOf : Cond.static (miY mi_X7_daysOf) ∈ ALLW := aw (i := 1294) (by decide +kernel) rfl
def is_X7_daysTo : List (Instr × Nat) := [(.iload_n 0, 1), (.sipush 1900, 3), (.if_icmp .ge 7, 3), (.sipush (-365), 3), (.ireturn, 1), (.iload_n 0, 1), (.iconst 1, 1), (.isub, 1), (.istore_n 1, 1), (.sipush 365, 3), (.iload_n 0, 1), (.sipush 1900, 3), (.isub, 1), (.imul, 1), (.iload_n 1, 1), (.iconst 4, 1), (.idiv, 1), (.iload_n 1, 1), (.bipush 100, 2), (.idiv, 1), (.isub, 1), (.iload_n 1, 1), (.sipush 400, 3), (.idiv, 1), (.iadd, 1), (.iadd, 1), (.sipush 460, 3), (.isub, 1), (.ireturn, 1)]
abbrev mi_X7_daysTo : MI := (yX7_daysTo, cX7_daysTo, 2, (some .int), [], { frames := 0, cells := 0, slots := 0, locals := 0 }, is_X7_daysTo)
theorem dc_X7_daysTo : dcb cX7_daysTo is_X7_daysTo 0 = true := by decide +kernel
theorem wc_X7_daysTo : cdw mi_X7_daysTo ∈ ALLW := aw (i := 1292) (by decide +kernel) rfl
theorem wi_X7_daysTo : Cond.initialized (miY mi_X7_daysTo).cls ∈ ALLW := aw (i := 64) (by decide +kernel) rfl
theorem ws_X7_daysTo : Cond.static (miY mi_X7_daysTo) ∈ ALLW := aw (i := 1291) (by decide +kernel) rfl
def is_X7_floor : List (Instr × Nat) := [(.iload_n 0, 1), (.iload_n 1, 1), (.idiv, 1), (.istore_n 2, 1), (.iload_n 0, 1), (.iload_n 1, 1), (.irem, 1), (.ifCond .ge 9, 3), (.iload_n 2, 1), (.iconst 1, 1), (.isub, 1), (.goto 4, 3), (.iload_n 2, 1), (.ireturn, 1)]
abbrev mi_X7_floor : MI := (yX7_floor, cX7_floor, 3, (some .int), [], { frames := 0, cells := 0, slots := 0, locals := 0 }, is_X7_floor)
theorem dc_X7_floor : dcb cX7_floor is_X7_floor 0 = true := by decide +kernel
theorem wc_X7_floor : cdw mi_X7_floor ∈ ALLW := aw (i := 1285) (by decide +kernel) rfl
theorem wi_X7_floor : Cond.initialized (miY mi_X7_floor).cls ∈ ALLW := aw (i := 64) (by decide +kernel) rfl
theorem ws_X7_floor : Cond.static (miY mi_X7_floor) ∈ ALLW := aw (i := 1284) (by decide +kernel) rfl
def is_X7_date : List (Instr × Nat) := [(.sipush 1900, 3), (.iload_n 1, 1), (.sipush 366, 3), (.invokestatic 120, 3), (.iadd, 1), (.istore_n 2, 1), (.iload_n 2, 1), (.sipush 2200, 3), (.if_icmp .ge 19, 3), (.iload_n 2, 1), (.iconst 1, 1), (.iadd, 1), (.invokestatic 124, 3), (.iload_n 1, 1), (.if_icmp .gt 9, 3), (.iinc 2 1, 3), (.goto (-20), 3), (.iload_n 1, 1), (.iload_n 2, 1), (.invokestatic 124, 3), (.isub, 1), (.istore_n 3, 1), (.aload_n 0, 1), (.iload_n 2, 1), (.putfield 128, 3), (.aload_n 0, 1), (.iload_n 3, 1), (.iconst 1, 1), (.iadd, 1), (.putfield 131, 3), (.aload_n 0, 1), (.iconst 1, 1), (.putfield 134, 3), (.iload_n 3, 1), (.iload_n 2, 1), (.aload_n 0, 1), (.getfield 134, 3), (.invokestatic 137, 3), (.if_icmp .lt 27, 3), (.iload_n 3, 1), (.iload_n 2, 1), (.aload_n 0, 1), (.getfield 134, 3), (.invokestatic 137, 3), (.isub, 1), (.istore_n 3, 1), (.aload_n 0, 1), (.dup, 1), (.getfield 134, 3), (.iconst 1, 1), (.iadd, 1), (.putfield 134, 3), (.goto (-33), 3), (.aload_n 0, 1), (.iload_n 3, 1), (.iconst 1, 1), (.iadd, 1), (.putfield 140, 3), (.aload_n 0, 1), (.iload_n 1, 1), (.iconst 1, 1), (.iadd, 1), (.bipush 7, 2), (.iload_n 1, 1), (.iconst 1, 1), (.iadd, 1), (.bipush 7, 2), (.invokestatic 120, 3), (.imul, 1), (.isub, 1), (.putfield 143, 3), (.return_, 1)]
abbrev mi_X7_date : MI := (yX7_date, cX7_date, 4, none, [], { frames := 2, cells := 0, slots := 0, locals := 41 }, is_X7_date)
theorem dc_X7_date : dcb cX7_date is_X7_date 0 = true := by decide +kernel
theorem wc_X7_date : cdw mi_X7_date ∈ ALLW := aw (i := 1289) (by decide +kernel) rfl
theorem wi_X7_date : Cond.initialized (miY mi_X7_date).cls ∈ ALLW := aw (i := 64) (by decide +kernel) rfl
theorem wn_X7_date : Cond.instanceMethod (miY mi_X7_date) ∈ ALLW := aw (i := 1288) (by decide +kernel) rfl
theorem wv_X7_date : Cond.selects (miY mi_X7_date).cls (miY mi_X7_date) (miY mi_X7_date) ∈ ALLW := aw (i := 18) (by decide +kernel) rfl
def is_X7_dayNumber : List (Instr × Nat) := [(.iload_n 0, 1), (.invokestatic 124, 3), (.iload_n 2, 1), (.iadd, 1), (.iconst 1, 1), (.isub, 1), (.istore_n 3, 1), (.iconst 1, 1), (.istore 4, 2), (.iload 4, 2), (.iload_n 1, 1), (.if_icmp .ge 18, 3), (.iload_n 3, 1), (.iload_n 0, 1), (.iload 4, 2), (.invokestatic 137, 3), (.iadd, 1), (.istore_n 3, 1), (.iinc 4 1, 3), (.goto (-18), 3), (.iload_n 3, 1), (.ireturn, 1)]
abbrev mi_X7_dayNumber : MI := (yX7_dayNumber, cX7_dayNumber, 5, (some .int), [], { frames := 2, cells := 0, slots := 0, locals := 41 }, is_X7_dayNumber)
theorem dc_X7_dayNumber : dcb cX7_dayNumber is_X7_dayNumber 0 = true := by decide +kernel
theorem wc_X7_dayNumber : cdw mi_X7_dayNumber ∈ ALLW := aw (i := 1313) (by decide +kernel) rfl
theorem wi_X7_dayNumber : Cond.initialized (miY mi_X7_dayNumber).cls ∈ ALLW := aw (i := 64) (by decide +kernel) rfl
theorem ws_X7_dayNumber : Cond.static (miY mi_X7_dayNumber) ∈ ALLW := aw (i := 1312) (by decide +kernel) rfl
def is_X7_isDate : List (Instr × Nat) := [(.iload_n 0, 1), (.i2l, 1), (.ldc2_w 146, 3), (.ldc2_w 148, 3), (.invokestatic 150, 3), (.ifCond .eq 34, 3), (.iload_n 1, 1), (.i2l, 1), (.lconst 1, 1), (.ldc2_w 154, 3), (.invokestatic 150, 3), (.ifCond .eq 22, 3), (.iload_n 2, 1), (.i2l, 1), (.lconst 1, 1), (.iload_n 0, 1), (.iload_n 1, 1), (.invokestatic 137, 3), (.i2l, 1), (.invokestatic 150, 3), (.ifCond .eq 7, 3), (.iconst 1, 1), (.goto 4, 3), (.iconst 0, 1), (.ireturn, 1)]
abbrev mi_X7_isDate : MI := (yX7_isDate, cX7_isDate, 3, (some .boolean), [], { frames := 2, cells := 0, slots := 0, locals := 41 }, is_X7_isDate)
theorem dc_X7_isDate : dcb cX7_isDate is_X7_isDate 0 = true := by decide +kernel
theorem wc_X7_isDate : cdw mi_X7_isDate ∈ ALLW := aw (i := 1305) (by decide +kernel) rfl
theorem wi_X7_isDate : Cond.initialized (miY mi_X7_isDate).cls ∈ ALLW := aw (i := 64) (by decide +kernel) rfl
theorem ws_X7_isDate : Cond.static (miY mi_X7_isDate) ∈ ALLW := aw (i := 1304) (by decide +kernel) rfl
def is_X7_zone : List (Instr × Nat) := [(.aload_n 0, 1), (.iload_n 1, 1), (.i2l, 1), (.lconst 0, 1), (.ldc2_w 156, 3), (.invokestatic 150, 3), (.ifCond .ne 7, 3), (.iconst 1, 1), (.goto 22, 3), (.iload_n 2, 1), (.i2l, 1), (.ldc2_w 158, 3), (.ldc2_w 160, 3), (.invokestatic 150, 3), (.ifCond .ne 7, 3), (.iconst 2, 1), (.goto 4, 3), (.iconst 0, 1), (.putfield 112, 3), (.aload_n 0, 1), (.getfield 112, 3), (.ifCond .ne 17, 3), (.aload_n 0, 1), (.getfield 7, 3), (.iload_n 1, 1), (.iload_n 2, 1), (.iastore, 1), (.aload_n 0, 1), (.getfield 13, 3), (.iload_n 1, 1), (.iconst 0, 1), (.iastore, 1), (.return_, 1)]
abbrev mi_X7_zone : MI := (yX7_zone, cX7_zone, 3, none, [], { frames := 1, cells := 0, slots := 0, locals := 25 }, is_X7_zone)
theorem dc_X7_zone : dcb cX7_zone is_X7_zone 0 = true := by decide +kernel
theorem wc_X7_zone : cdw mi_X7_zone ∈ ALLW := aw (i := 1254) (by decide +kernel) rfl
theorem wi_X7_zone : Cond.initialized (miY mi_X7_zone).cls ∈ ALLW := aw (i := 64) (by decide +kernel) rfl
theorem wn_X7_zone : Cond.instanceMethod (miY mi_X7_zone) ∈ ALLW := aw (i := 1252) (by decide +kernel) rfl
theorem wv_X7_zone : Cond.selects (miY mi_X7_zone).cls (miY mi_X7_zone) (miY mi_X7_zone) ∈ ALLW := aw (i := 1253) (by decide +kernel) rfl
def is_X7_change : List (Instr × Nat) := [(.aload_n 0, 1), (.iconst 0, 1), (.putfield 112, 3), (.iload_n 1, 1), (.i2l, 1), (.lconst 0, 1), (.ldc2_w 156, 3), (.invokestatic 150, 3), (.ifCond .ne 9, 3), (.aload_n 0, 1), (.iconst 1, 1), (.invokevirtual 162, 3), (.ireturn, 1), (.aload_n 0, 1), (.getfield 13, 3), (.iload_n 1, 1), (.iaload, 1), (.istore 4, 2), (.iload_n 2, 1), (.i2l, 1), (.lconst 0, 1), (.ldc2_w 165, 3), (.invokestatic 150, 3), (.ifCond .eq 40, 3), (.iload 4, 2), (.ifCond .le 21, 3), (.iload_n 2, 1), (.aload_n 0, 1), (.getfield 16, 3), (.bipush 20, 2), (.iload_n 1, 1), (.imul, 1), (.iload 4, 2), (.iadd, 1), (.iconst 1, 1), (.isub, 1), (.iaload, 1), (.if_icmp .le 17, 3), (.iload_n 3, 1), (.i2l, 1), (.ldc2_w 158, 3), (.ldc2_w 160, 3), (.invokestatic 150, 3), (.ifCond .ne 9, 3), (.aload_n 0, 1), (.iconst 2, 1), (.invokevirtual 162, 3), (.ireturn, 1), (.iload 4, 2), (.bipush 20, 2), (.if_icmp .ne 9, 3), (.aload_n 0, 1), (.iconst 3, 1), (.invokevirtual 162, 3), (.ireturn, 1), (.aload_n 0, 1), (.getfield 16, 3), (.bipush 20, 2), (.iload_n 1, 1), (.imul, 1), (.iload 4, 2), (.iadd, 1), (.iload_n 2, 1), (.iastore, 1), (.aload_n 0, 1), (.getfield 19, 3), (.bipush 20, 2), (.iload_n 1, 1), (.imul, 1), (.iload 4, 2), (.iadd, 1), (.iload_n 3, 1), (.iastore, 1), (.aload_n 0, 1), (.getfield 13, 3), (.iload_n 1, 1), (.dup2, 1), (.iaload, 1), (.iconst 1, 1), (.iadd, 1), (.iastore, 1), (.aload_n 0, 1), (.getfield 13, 3), (.iload_n 1, 1), (.iaload, 1), (.ireturn, 1)]
abbrev mi_X7_change : MI := (yX7_change, cX7_change, 5, (some .int), [], { frames := 1, cells := 0, slots := 0, locals := 25 }, is_X7_change)
theorem dc_X7_change : dcb cX7_change is_X7_change 0 = true := by decide +kernel
theorem wc_X7_change : cdw mi_X7_change ∈ ALLW := aw (i := 1264) (by decide +kernel) rfl
theorem wi_X7_change : Cond.initialized (miY mi_X7_change).cls ∈ ALLW := aw (i := 64) (by decide +kernel) rfl
theorem wn_X7_change : Cond.instanceMethod (miY mi_X7_change) ∈ ALLW := aw (i := 1262) (by decide +kernel) rfl
theorem wv_X7_change : Cond.selects (miY mi_X7_change).cls (miY mi_X7_change) (miY mi_X7_change) ∈ ALLW := aw (i := 1263) (by decide +kernel) rfl
def is_X7_stretch : List (Instr × Nat) := [(.aload_n 0, 1), (.getfield 13, 3), (.iload_n 1, 1), (.iaload, 1), (.istore_n 3, 1), (.iload_n 3, 1), (.ifCond .le 26, 3), (.aload_n 0, 1), (.getfield 16, 3), (.bipush 20, 2), (.iload_n 1, 1), (.imul, 1), (.iload_n 3, 1), (.iadd, 1), (.iconst 1, 1), (.isub, 1), (.iaload, 1), (.iload_n 2, 1), (.if_icmp .le 9, 3), (.iinc 3 (-1), 3), (.goto (-24), 3), (.iload_n 3, 1), (.ireturn, 1)]
abbrev mi_X7_stretch : MI := (yX7_stretch, cX7_stretch, 4, (some .int), [], { frames := 0, cells := 0, slots := 0, locals := 0 }, is_X7_stretch)
theorem dc_X7_stretch : dcb cX7_stretch is_X7_stretch 0 = true := by decide +kernel
theorem wc_X7_stretch : cdw mi_X7_stretch ∈ ALLW := aw (i := 1278) (by decide +kernel) rfl
theorem wi_X7_stretch : Cond.initialized (miY mi_X7_stretch).cls ∈ ALLW := aw (i := 64) (by decide +kernel) rfl
theorem wn_X7_stretch : Cond.instanceMethod (miY mi_X7_stretch) ∈ ALLW := aw (i := 1277) (by decide +kernel) rfl
theorem wv_X7_stretch : Cond.selects (miY mi_X7_stretch).cls (miY mi_X7_stretch) (miY mi_X7_stretch) ∈ ALLW := aw (i := 16) (by decide +kernel) rfl
def is_X7_offsetOf : List (Instr × Nat) := [(.iload_n 2, 1), (.ifCond .ne 12, 3), (.aload_n 0, 1), (.getfield 7, 3), (.iload_n 1, 1), (.iaload, 1), (.goto 16, 3), (.aload_n 0, 1), (.getfield 19, 3), (.bipush 20, 2), (.iload_n 1, 1), (.imul, 1), (.iload_n 2, 1), (.iadd, 1), (.iconst 1, 1), (.isub, 1), (.iaload, 1), (.ireturn, 1)]
abbrev mi_X7_offsetOf : MI := (yX7_offsetOf, cX7_offsetOf, 3, (some .int), [], { frames := 0, cells := 0, slots := 0, locals := 0 }, is_X7_offsetOf)
theorem dc_X7_offsetOf : dcb cX7_offsetOf is_X7_offsetOf 0 = true := by decide +kernel
theorem wc_X7_offsetOf : cdw mi_X7_offsetOf ∈ ALLW := aw (i := 1282) (by decide +kernel) rfl
theorem wi_X7_offsetOf : Cond.initialized (miY mi_X7_offsetOf).cls ∈ ALLW := aw (i := 64) (by decide +kernel) rfl
theorem wn_X7_offsetOf : Cond.instanceMethod (miY mi_X7_offsetOf) ∈ ALLW := aw (i := 1281) (by decide +kernel) rfl
theorem wv_X7_offsetOf : Cond.selects (miY mi_X7_offsetOf).cls (miY mi_X7_offsetOf) (miY mi_X7_offsetOf) ∈ ALLW := aw (i := 17) (by decide +kernel) rfl
def is_X7_beginOf : List (Instr × Nat) := [(.iload_n 2, 1), (.ifCond .ne 7, 3), (.iconst 0, 1), (.goto 16, 3), (.aload_n 0, 1), (.getfield 16, 3), (.bipush 20, 2), (.iload_n 1, 1), (.imul, 1), (.iload_n 2, 1), (.iadd, 1), (.iconst 1, 1), (.isub, 1), (.iaload, 1), (.ireturn, 1)]
abbrev mi_X7_beginOf : MI := (yX7_beginOf, cX7_beginOf, 3, (some .int), [], { frames := 0, cells := 0, slots := 0, locals := 0 }, is_X7_beginOf)
theorem dc_X7_beginOf : dcb cX7_beginOf is_X7_beginOf 0 = true := by decide +kernel
theorem wc_X7_beginOf : cdw mi_X7_beginOf ∈ ALLW := aw (i := 1317) (by decide +kernel) rfl
theorem wi_X7_beginOf : Cond.initialized (miY mi_X7_beginOf).cls ∈ ALLW := aw (i := 64) (by decide +kernel) rfl
theorem wn_X7_beginOf : Cond.instanceMethod (miY mi_X7_beginOf) ∈ ALLW := aw (i := 1316) (by decide +kernel) rfl
theorem wv_X7_beginOf : Cond.selects (miY mi_X7_beginOf).cls (miY mi_X7_beginOf) (miY mi_X7_beginOf) ∈ ALLW := aw (i := 19) (by decide +kernel) rfl
def is_X7_endOf : List (Instr × Nat) := [(.iload_n 2, 1), (.aload_n 0, 1), (.getfield 13, 3), (.iload_n 1, 1), (.iaload, 1), (.if_icmp .ne 8, 3), (.ldc 167, 2), (.goto 16, 3), (.aload_n 0, 1), (.getfield 16, 3), (.bipush 20, 2), (.iload_n 1, 1), (.imul, 1), (.iload_n 2, 1), (.iadd, 1), (.iaload, 1), (.iconst 1, 1), (.isub, 1), (.ireturn, 1)]
abbrev mi_X7_endOf : MI := (yX7_endOf, cX7_endOf, 3, (some .int), [], { frames := 0, cells := 0, slots := 0, locals := 0 }, is_X7_endOf)
theorem dc_X7_endOf : dcb cX7_endOf is_X7_endOf 0 = true := by decide +kernel
theorem wc_X7_endOf : cdw mi_X7_endOf ∈ ALLW := aw (i := 1321) (by decide +kernel) rfl
theorem wi_X7_endOf : Cond.initialized (miY mi_X7_endOf).cls ∈ ALLW := aw (i := 64) (by decide +kernel) rfl
theorem wn_X7_endOf : Cond.instanceMethod (miY mi_X7_endOf) ∈ ALLW := aw (i := 1320) (by decide +kernel) rfl
theorem wv_X7_endOf : Cond.selects (miY mi_X7_endOf).cls (miY mi_X7_endOf) (miY mi_X7_endOf) ∈ ALLW := aw (i := 20) (by decide +kernel) rfl
def is_X7_civil : List (Instr × Nat) := [(.aload_n 0, 1), (.iconst 0, 1), (.putfield 112, 3), (.iload_n 1, 1), (.i2l, 1), (.lconst 0, 1), (.ldc2_w 156, 3), (.invokestatic 150, 3), (.ifCond .ne 9, 3), (.aload_n 0, 1), (.iconst 1, 1), (.invokevirtual 162, 3), (.ireturn, 1), (.iload_n 2, 1), (.i2l, 1), (.lconst 0, 1), (.ldc2_w 165, 3), (.invokestatic 150, 3), (.ifCond .eq 15, 3), (.iload_n 3, 1), (.i2l, 1), (.lconst 0, 1), (.ldc2_w 168, 3), (.invokestatic 150, 3), (.ifCond .ne 9, 3), (.aload_n 0, 1), (.iconst 2, 1), (.invokevirtual 162, 3), (.ireturn, 1), (.iload_n 2, 1), (.aload_n 0, 1), (.iload_n 1, 1), (.aload_n 0, 1), (.iload_n 1, 1), (.iload_n 2, 1), (.invokevirtual 170, 3), (.invokevirtual 173, 3), (.iadd, 1), (.istore 4, 2), (.iload 4, 2), (.sipush 1440, 3), (.invokestatic 120, 3), (.istore 5, 2), (.aload_n 0, 1), (.iload 5, 2), (.invokevirtual 176, 3), (.iload 4, 2), (.sipush 1440, 3), (.iload 5, 2), (.imul, 1), (.isub, 1), (.istore 6, 2), (.iload_n 3, 1), (.tableswitch 81 0 6 #[44, 49, 54, 59, 64, 70, 76], 44), (.aload_n 0, 1), (.getfield 128, 3), (.ireturn, 1), (.aload_n 0, 1), (.getfield 134, 3), (.ireturn, 1), (.aload_n 0, 1), (.getfield 140, 3), (.ireturn, 1), (.aload_n 0, 1), (.getfield 143, 3), (.ireturn, 1), (.iload 6, 2), (.bipush 60, 2), (.idiv, 1), (.ireturn, 1), (.iload 6, 2), (.bipush 60, 2), (.irem, 1), (.ireturn, 1), (.aload_n 0, 1), (.getfield 131, 3), (.ireturn, 1), (.aload_n 0, 1), (.getfield 128, 3), (.aload_n 0, 1), (.getfield 134, 3), (.invokestatic 137, 3), (.ireturn, 1)]
abbrev mi_X7_civil : MI := (yX7_civil, cX7_civil, 7, (some .int), [], { frames := 3, cells := 0, slots := 0, locals := 64 }, is_X7_civil)
theorem dc_X7_civil : dcb cX7_civil is_X7_civil 0 = true := by decide +kernel
theorem wc_X7_civil : cdw mi_X7_civil ∈ ALLW := aw (i := 1273) (by decide +kernel) rfl
theorem wi_X7_civil : Cond.initialized (miY mi_X7_civil).cls ∈ ALLW := aw (i := 64) (by decide +kernel) rfl
theorem wn_X7_civil : Cond.instanceMethod (miY mi_X7_civil) ∈ ALLW := aw (i := 1271) (by decide +kernel) rfl
theorem wv_X7_civil : Cond.selects (miY mi_X7_civil).cls (miY mi_X7_civil) (miY mi_X7_civil) ∈ ALLW := aw (i := 1272) (by decide +kernel) rfl
def is_X7_minute : List (Instr × Nat) := [(.aload_n 0, 1), (.iconst 0, 1), (.putfield 112, 3), (.iload_n 1, 1), (.i2l, 1), (.lconst 0, 1), (.ldc2_w 156, 3), (.invokestatic 150, 3), (.ifCond .ne 9, 3), (.aload_n 0, 1), (.iconst 1, 1), (.invokevirtual 162, 3), (.ireturn, 1), (.iload_n 2, 1), (.iload_n 3, 1), (.iload 4, 2), (.invokestatic 180, 3), (.ifCond .eq 29, 3), (.iload 5, 2), (.i2l, 1), (.lconst 0, 1), (.ldc2_w 184, 3), (.invokestatic 150, 3), (.ifCond .eq 16, 3), (.iload 6, 2), (.i2l, 1), (.lconst 0, 1), (.ldc2_w 186, 3), (.invokestatic 150, 3), (.ifCond .ne 9, 3), (.aload_n 0, 1), (.iconst 2, 1), (.invokevirtual 162, 3), (.ireturn, 1), (.sipush 1440, 3), (.iload_n 2, 1), (.iload_n 3, 1), (.iload 4, 2), (.invokestatic 188, 3), (.imul, 1), (.bipush 60, 2), (.iload 5, 2), (.imul, 1), (.iadd, 1), (.iload 6, 2), (.iadd, 1), (.istore 7, 2), (.iconst 0, 1), (.istore 8, 2), (.iload 8, 2), (.aload_n 0, 1), (.getfield 13, 3), (.iload_n 1, 1), (.iaload, 1), (.if_icmp .gt 48, 3), (.iload 7, 2), (.aload_n 0, 1), (.iload_n 1, 1), (.iload 8, 2), (.invokevirtual 173, 3), (.isub, 1), (.istore 9, 2), (.iload 9, 2), (.aload_n 0, 1), (.iload_n 1, 1), (.iload 8, 2), (.invokevirtual 192, 3), (.if_icmp .lt 18, 3), (.iload 9, 2), (.aload_n 0, 1), (.iload_n 1, 1), (.iload 8, 2), (.invokevirtual 195, 3), (.if_icmp .gt 6, 3), (.iload 9, 2), (.ireturn, 1), (.iinc 8 1, 3), (.goto (-53), 3), (.iconst (-1), 1), (.ireturn, 1)]
abbrev mi_X7_minute : MI := (yX7_minute, cX7_minute, 10, (some .int), [], { frames := 3, cells := 0, slots := 0, locals := 65 }, is_X7_minute)
theorem dc_X7_minute : dcb cX7_minute is_X7_minute 0 = true := by decide +kernel
theorem wc_X7_minute : cdw mi_X7_minute ∈ ALLW := aw (i := 1302) (by decide +kernel) rfl
theorem wi_X7_minute : Cond.initialized (miY mi_X7_minute).cls ∈ ALLW := aw (i := 64) (by decide +kernel) rfl
theorem wn_X7_minute : Cond.instanceMethod (miY mi_X7_minute) ∈ ALLW := aw (i := 1300) (by decide +kernel) rfl
theorem wv_X7_minute : Cond.selects (miY mi_X7_minute).cls (miY mi_X7_minute) (miY mi_X7_minute) ∈ ALLW := aw (i := 1301) (by decide +kernel) rfl
def is_X7_feed : List (Instr × Nat) := [(.aload_n 0, 1), (.iconst 0, 1), (.putfield 112, 3), (.iload_n 3, 1), (.i2l, 1), (.lconst 1, 1), (.ldc2_w 198, 3), (.invokestatic 150, 3), (.ifCond .ne 9, 3), (.aload_n 0, 1), (.iconst 1, 1), (.invokevirtual 162, 3), (.ireturn, 1), (.aload_n 0, 1), (.getfield 200, 3), (.iload_n 3, 1), (.iadd, 1), (.sipush 160, 3), (.if_icmp .le 9, 3), (.aload_n 0, 1), (.iconst 2, 1), (.invokevirtual 162, 3), (.ireturn, 1), (.iload_n 3, 1), (.iconst 1, 1), (.isub, 1), (.istore 4, 2), (.iload 4, 2), (.ifCond .lt 37, 3), (.aload_n 0, 1), (.getfield 22, 3), (.aload_n 0, 1), (.getfield 200, 3), (.lload_n 1, 1), (.bipush 8, 2), (.iload 4, 2), (.imul, 1), (.lshr, 1), (.l2i, 1), (.i2b, 1), (.bastore, 1), (.aload_n 0, 1), (.dup, 1), (.getfield 200, 3), (.iconst 1, 1), (.iadd, 1), (.putfield 200, 3), (.iinc 4 (-1), 3), (.goto (-36), 3), (.aload_n 0, 1), (.getfield 200, 3), (.ireturn, 1)]
abbrev mi_X7_feed : MI := (yX7_feed, cX7_feed, 5, (some .int), [], { frames := 1, cells := 0, slots := 0, locals := 25 }, is_X7_feed)
theorem dc_X7_feed : dcb cX7_feed is_X7_feed 0 = true := by decide +kernel
theorem wc_X7_feed : cdw mi_X7_feed ∈ ALLW := aw (i := 1326) (by decide +kernel) rfl
theorem wi_X7_feed : Cond.initialized (miY mi_X7_feed).cls ∈ ALLW := aw (i := 64) (by decide +kernel) rfl
theorem wn_X7_feed : Cond.instanceMethod (miY mi_X7_feed) ∈ ALLW := aw (i := 1324) (by decide +kernel) rfl
theorem wv_X7_feed : Cond.selects (miY mi_X7_feed).cls (miY mi_X7_feed) (miY mi_X7_feed) ∈ ALLW := aw (i := 1325) (by decide +kernel) rfl
def V_X7_thrown (K : Rs → Mm → Prop) (M : Mm) (a0 : Nat) : Prop := (ob M a0 7 ∧ K (.inl (some (.int (mI M a0 0)))) M)
set_option maxRecDepth 100000 in
set_option maxHeartbeats 4000000 in
theorem x_X7_thrown {G : Gx} {K : Rs → Mm → Prop} {M : Mm} {a0 : Nat} (h : V_X7_thrown K M a0) : MC G mi_X7_thrown [.ref a0] M K := by
  unfold V_X7_thrown at h
  refine mc_of rfl (by decide +kernel) dc_X7_thrown (Nat.le_of_ble_eq_true rfl) 0 (Nat.le_of_ble_eq_true rfl) ?_
  show E G mi_X7_thrown K M 0 0 0 [some (.ref a0)] []
  refine e_blk 1 0 _ _ (pc' := 1) (L' := [some (.ref a0)]) (st' := [.ref a0]) rfl ?_
  obtain ⟨ho1, h⟩ := h
  refine e_getI 7 0 rfl rfl (by decide) (aw (i := 1065) (by decide +kernel) rfl) ho1 rfl ?_
  exact e_reti rfl rfl (by decide) (by decide) h
def V_X7_in_18 (K : Rs → Mm → Prop)  (M : Mm) (s0 : Int32) : Prop := ((s0 = 0 ∨ s0 = 1) ∧ K (.inl (some (.int s0))) M)
set_option maxRecDepth 100000 in
set_option maxHeartbeats 4000000 in
theorem x_X7_in_18 {G : Gx} {K : Rs → Mm → Prop}  {M : Mm} {s0 : Int32} (h : V_X7_in_18 K  M s0) : E G mi_X7_in K M 0 0 18 [none, none, none, none, none, none] [.int s0] := by
  unfold V_X7_in_18 at h
  exact e_retz rfl rfl h.1 (by decide) (by decide) h.2
def V_X7_in_17 (K : Rs → Mm → Prop)  (M : Mm)  : Prop := V_X7_in_18 K  M (0 : Int32)
set_option maxRecDepth 100000 in
set_option maxHeartbeats 4000000 in
theorem x_X7_in_17 {G : Gx} {K : Rs → Mm → Prop}  {M : Mm}  (h : V_X7_in_17 K  M ) : E G mi_X7_in K M 0 0 17 [none, none, none, none, none, none] [] := by
  unfold V_X7_in_17 at h
  refine e_blk 1 17 _ _ (pc' := 18) (L' := [none, none, none, none, none, none]) (st' := [.int (0 : Int32)]) rfl ?_
  refine e_drp [false, false, false, false, false, false] (L' := [none, none, none, none, none, none]) rfl ?_
  exact x_X7_in_18  h
def V_X7_in (K : Rs → Mm → Prop) (M : Mm) (a0 : Int64) (a1 : Int64) (a2 : Int64) : Prop := (((lg_cmp a0 a1) < 0 → V_X7_in_17 K  M ) ∧ (¬ (lg_cmp a0 a1) < 0 → ((0 < (lg_cmp a0 a2) → V_X7_in_17 K  M ) ∧ (¬ 0 < (lg_cmp a0 a2) → V_X7_in_18 K  M (1 : Int32)))))
set_option maxRecDepth 100000 in
set_option maxHeartbeats 4000000 in
theorem x_X7_in {G : Gx} {K : Rs → Mm → Prop} {M : Mm} {a0 : Int64} {a1 : Int64} {a2 : Int64} (h : V_X7_in K M a0 a1 a2) : MC G mi_X7_in [.long a0, .long a1, .long a2] M K := by
  unfold V_X7_in at h
  refine mc_of rfl (by decide +kernel) dc_X7_in (Nat.le_of_ble_eq_true rfl) 0 (Nat.le_of_ble_eq_true rfl) ?_
  show E G mi_X7_in K M 0 0 0 [some (.long a0), none, some (.long a1), none, some (.long a2), none] []
  refine e_blk 3 0 _ _ (pc' := 3) (L' := [some (.long a0), none, some (.long a1), none, some (.long a2), none]) (st' := [.int (lg_cmp a0 a1)]) rfl ?_
  refine e_if_lt 17 rfl rfl (fun hc => ?_) (fun hc => ?_)
  · replace h := h.1 hc
    refine e_drp [false, false, false, false, false, false] (L' := [none, none, none, none, none, none]) rfl ?_
    exact x_X7_in_17  h
  · replace h := h.2 hc
    refine e_blk 3 6 _ _ (pc' := 10) (L' := [some (.long a0), none, some (.long a1), none, some (.long a2), none]) (st' := [.int (lg_cmp a0 a2)]) rfl ?_
    refine e_if_gt 17 rfl rfl (fun hc => ?_) (fun hc => ?_)
    · replace h := h.1 hc
      refine e_drp [false, false, false, false, false, false] (L' := [none, none, none, none, none, none]) rfl ?_
      exact x_X7_in_17  h
    · replace h := h.2 hc
      refine e_blk 2 13 _ _ (pc' := 18) (L' := [some (.long a0), none, some (.long a1), none, some (.long a2), none]) (st' := [.int (1 : Int32)]) rfl ?_
      refine e_drp [false, false, false, false, false, false] (L' := [none, none, none, none, none, none]) rfl ?_
      exact x_X7_in_18  h
def V_X7_wrong (K : Rs → Mm → Prop) (M : Mm) (a0 : Nat) (a1 : Int32) : Prop := (ob M a0 7 ∧ ∀ M2, M2 = sI M a0 0 a1 → K (.inl (some (.int (0 : Int32)))) M2)
set_option maxRecDepth 100000 in
set_option maxHeartbeats 4000000 in
theorem x_X7_wrong {G : Gx} {K : Rs → Mm → Prop} {M : Mm} {a0 : Nat} {a1 : Int32} (h : V_X7_wrong K M a0 a1) : MC G mi_X7_wrong [.ref a0, .int a1] M K := by
  unfold V_X7_wrong at h
  refine mc_of rfl (by decide +kernel) dc_X7_wrong (Nat.le_of_ble_eq_true rfl) 0 (Nat.le_of_ble_eq_true rfl) ?_
  show E G mi_X7_wrong K M 0 0 0 [some (.ref a0), some (.int a1)] []
  refine e_blk 2 0 _ _ (pc' := 2) (L' := [some (.ref a0), some (.int a1)]) (st' := [.int a1, .ref a0]) rfl ?_
  obtain ⟨ho1, h⟩ := h
  refine e_putI 7 0 rfl rfl (by decide) (aw (i := 1065) (by decide +kernel) rfl) rfl ho1 rfl ?_
  generalize hM2 : sI M a0 0 a1 = M2
  replace h := h M2 hM2.symm
  replace ho1 : ob M2 a0 7 := hM2 ▸ ob_sI ho1
  refine e_blk 1 5 _ _ (pc' := 6) (L' := [some (.ref a0), some (.int a1)]) (st' := [.int (0 : Int32)]) rfl ?_
  exact e_reti rfl rfl (by decide) (by decide) h
def V_X7_isLeap_26 (K : Rs → Mm → Prop)  (M : Mm) (s0 : Int32) : Prop := ((s0 = 0 ∨ s0 = 1) ∧ K (.inl (some (.int s0))) M)
set_option maxRecDepth 100000 in
set_option maxHeartbeats 4000000 in
theorem x_X7_isLeap_26 {G : Gx} {K : Rs → Mm → Prop}  {M : Mm} {s0 : Int32} (h : V_X7_isLeap_26 K  M s0) : E G mi_X7_isLeap K M 0 0 26 [none] [.int s0] := by
  unfold V_X7_isLeap_26 at h
  exact e_retz rfl rfl h.1 (by decide) (by decide) h.2
def V_X7_isLeap_25 (K : Rs → Mm → Prop)  (M : Mm)  : Prop := V_X7_isLeap_26 K  M (0 : Int32)
set_option maxRecDepth 100000 in
set_option maxHeartbeats 4000000 in
theorem x_X7_isLeap_25 {G : Gx} {K : Rs → Mm → Prop}  {M : Mm}  (h : V_X7_isLeap_25 K  M ) : E G mi_X7_isLeap K M 0 0 25 [none] [] := by
  unfold V_X7_isLeap_25 at h
  refine e_blk 1 25 _ _ (pc' := 26) (L' := [none]) (st' := [.int (0 : Int32)]) rfl ?_
  refine e_drp [false] (L' := [none]) rfl ?_
  exact x_X7_isLeap_26  h
def V_X7_isLeap_21 (K : Rs → Mm → Prop)  (M : Mm)  : Prop := V_X7_isLeap_26 K  M (1 : Int32)
set_option maxRecDepth 100000 in
set_option maxHeartbeats 4000000 in
theorem x_X7_isLeap_21 {G : Gx} {K : Rs → Mm → Prop}  {M : Mm}  (h : V_X7_isLeap_21 K  M ) : E G mi_X7_isLeap K M 0 0 21 [none] [] := by
  unfold V_X7_isLeap_21 at h
  refine e_blk 2 21 _ _ (pc' := 26) (L' := [none]) (st' := [.int (1 : Int32)]) rfl ?_
  refine e_drp [false] (L' := [none]) rfl ?_
  exact x_X7_isLeap_26  h
def V_X7_isLeap (K : Rs → Mm → Prop) (M : Mm) (a0 : Int32) : Prop := ((¬ (a0 - a0 / (4 : Int32) * (4 : Int32)) = 0 → V_X7_isLeap_25 K  M ) ∧ ((a0 - a0 / (4 : Int32) * (4 : Int32)) = 0 → ((¬ (a0 - a0 / (100 : Int32) * (100 : Int32)) = 0 → V_X7_isLeap_21 K  M ) ∧ ((a0 - a0 / (100 : Int32) * (100 : Int32)) = 0 → ((¬ (a0 - a0 / (400 : Int32) * (400 : Int32)) = 0 → V_X7_isLeap_25 K  M ) ∧ ((a0 - a0 / (400 : Int32) * (400 : Int32)) = 0 → V_X7_isLeap_21 K  M ))))))
set_option maxRecDepth 100000 in
set_option maxHeartbeats 4000000 in
theorem x_X7_isLeap {G : Gx} {K : Rs → Mm → Prop} {M : Mm} {a0 : Int32} (h : V_X7_isLeap K M a0) : MC G mi_X7_isLeap [.int a0] M K := by
  unfold V_X7_isLeap at h
  refine mc_of rfl (by decide +kernel) dc_X7_isLeap (Nat.le_of_ble_eq_true rfl) 0 (Nat.le_of_ble_eq_true rfl) ?_
  show E G mi_X7_isLeap K M 0 0 0 [some (.int a0)] []
  refine e_blk 2 0 _ _ (pc' := 2) (L' := [some (.int a0)]) (st' := [.int (4 : Int32), .int a0]) rfl ?_
  refine e_irem rfl (by decide) ?_
  refine e_if_ne 25 rfl rfl (fun hc => ?_) (fun hc => ?_)
  · replace h := h.1 hc
    refine e_drp [false] (L' := [none]) rfl ?_
    exact x_X7_isLeap_25  h
  · replace h := h.2 hc
    refine e_blk 2 6 _ _ (pc' := 9) (L' := [some (.int a0)]) (st' := [.int (100 : Int32), .int a0]) rfl ?_
    refine e_irem rfl (by decide) ?_
    refine e_if_ne 21 rfl rfl (fun hc => ?_) (fun hc => ?_)
    · replace h := h.1 hc
      refine e_drp [false] (L' := [none]) rfl ?_
      exact x_X7_isLeap_21  h
    · replace h := h.2 hc
      refine e_blk 2 13 _ _ (pc' := 17) (L' := [some (.int a0)]) (st' := [.int (400 : Int32), .int a0]) rfl ?_
      refine e_irem rfl (by decide) ?_
      refine e_if_ne 25 rfl rfl (fun hc => ?_) (fun hc => ?_)
      · replace h := h.1 hc
        refine e_drp [false] (L' := [none]) rfl ?_
        exact x_X7_isLeap_25  h
      · replace h := h.2 hc
        refine e_drp [false] (L' := [none]) rfl ?_
        exact x_X7_isLeap_21  h
def V_X7_daysOf_52 (K : Rs → Mm → Prop)  (M : Mm) (s0 : Int32) : Prop := K (.inl (some (.int s0))) M
set_option maxRecDepth 100000 in
set_option maxHeartbeats 4000000 in
theorem x_X7_daysOf_52 {G : Gx} {K : Rs → Mm → Prop}  {M : Mm} {s0 : Int32} (h : V_X7_daysOf_52 K  M s0) : E G mi_X7_daysOf K M 0 0 52 [none, none] [.int s0] := by
  unfold V_X7_daysOf_52 at h
  exact e_reti rfl rfl (by decide) (by decide) h
def V_X7_daysOf_45 (K : Rs → Mm → Prop)  (M : Mm)  : Prop := V_X7_daysOf_52 K  M (30 : Int32)
set_option maxRecDepth 100000 in
set_option maxHeartbeats 4000000 in
theorem x_X7_daysOf_45 {G : Gx} {K : Rs → Mm → Prop}  {M : Mm}  (h : V_X7_daysOf_45 K  M ) : E G mi_X7_daysOf K M 0 0 45 [none, none] [] := by
  unfold V_X7_daysOf_45 at h
  refine e_blk 2 45 _ _ (pc' := 52) (L' := [none, none]) (st' := [.int (30 : Int32)]) rfl ?_
  refine e_drp [false, false] (L' := [none, none]) rfl ?_
  exact x_X7_daysOf_52  h
def V_X7_daysOf (K : Rs → Mm → Prop) (M : Mm) (a0 : Int32) (a1 : Int32) : Prop := ((¬ a1 = (2 : Int32) → ((a1 = (4 : Int32) → V_X7_daysOf_45 K  M ) ∧ (¬ a1 = (4 : Int32) → ((a1 = (6 : Int32) → V_X7_daysOf_45 K  M ) ∧ (¬ a1 = (6 : Int32) → ((a1 = (9 : Int32) → V_X7_daysOf_45 K  M ) ∧ (¬ a1 = (9 : Int32) → ((¬ a1 = (11 : Int32) → V_X7_daysOf_52 K  M (31 : Int32)) ∧ (a1 = (11 : Int32) → V_X7_daysOf_45 K  M ))))))))) ∧ (a1 = (2 : Int32) → V_X7_isLeap (kI (fun r2 M1 => ((r2 = 0 → V_X7_daysOf_52 K  M1 (28 : Int32)) ∧ (¬ r2 = 0 → V_X7_daysOf_52 K  M1 (29 : Int32)))) (fun _ _ => False)) M a0))
set_option maxRecDepth 100000 in
set_option maxHeartbeats 4000000 in
theorem x_X7_daysOf {G : Gx} {K : Rs → Mm → Prop} {M : Mm} {a0 : Int32} {a1 : Int32} (h : V_X7_daysOf K M a0 a1) : MC G mi_X7_daysOf [.int a0, .int a1] M K := by
  unfold V_X7_daysOf at h
  refine mc_of rfl (by decide +kernel) dc_X7_daysOf (Nat.le_of_ble_eq_true rfl) 0 (Nat.le_of_ble_eq_true rfl) ?_
  show E G mi_X7_daysOf K M 0 0 0 [some (.int a0), some (.int a1)] []
  refine e_blk 2 0 _ _ (pc' := 2) (L' := [some (.int a0), some (.int a1)]) (st' := [.int (2 : Int32), .int a1]) rfl ?_
  refine e_icmp_ne 22 rfl rfl (fun hc => ?_) (fun hc => ?_)
  · replace h := h.1 hc
    refine e_blk 2 22 _ _ (pc' := 24) (L' := [some (.int a0), some (.int a1)]) (st' := [.int (4 : Int32), .int a1]) rfl ?_
    refine e_icmp_eq 45 rfl rfl (fun hc => ?_) (fun hc => ?_)
    · replace h := h.1 hc
      refine e_drp [false, false] (L' := [none, none]) rfl ?_
      exact x_X7_daysOf_45  h
    · replace h := h.2 hc
      refine e_blk 2 27 _ _ (pc' := 30) (L' := [some (.int a0), some (.int a1)]) (st' := [.int (6 : Int32), .int a1]) rfl ?_
      refine e_icmp_eq 45 rfl rfl (fun hc => ?_) (fun hc => ?_)
      · replace h := h.1 hc
        refine e_drp [false, false] (L' := [none, none]) rfl ?_
        exact x_X7_daysOf_45  h
      · replace h := h.2 hc
        refine e_blk 2 33 _ _ (pc' := 36) (L' := [some (.int a0), some (.int a1)]) (st' := [.int (9 : Int32), .int a1]) rfl ?_
        refine e_icmp_eq 45 rfl rfl (fun hc => ?_) (fun hc => ?_)
        · replace h := h.1 hc
          refine e_drp [false, false] (L' := [none, none]) rfl ?_
          exact x_X7_daysOf_45  h
        · replace h := h.2 hc
          refine e_blk 2 39 _ _ (pc' := 42) (L' := [some (.int a0), some (.int a1)]) (st' := [.int (11 : Int32), .int a1]) rfl ?_
          refine e_icmp_ne 50 rfl rfl (fun hc => ?_) (fun hc => ?_)
          · replace h := h.1 hc
            refine e_blk 1 50 _ _ (pc' := 52) (L' := [some (.int a0), some (.int a1)]) (st' := [.int (31 : Int32)]) rfl ?_
            refine e_drp [false, false] (L' := [none, none]) rfl ?_
            exact x_X7_daysOf_52  h
          · replace h := h.2 hc
            refine e_drp [false, false] (L' := [none, none]) rfl ?_
            exact x_X7_daysOf_45  h
  · replace h := h.2 hc
    refine e_blk 1 5 _ _ (pc' := 6) (L' := [some (.int a0), some (.int a1)]) (st' := [.int a0]) rfl ?_
    refine e_callS (As := [.int a0]) (rest := []) rfl (x_X7_isLeap h) rfl (aw (i := 1296) (by decide +kernel) rfl) ws_X7_isLeap wi_X7_isLeap wc_X7_isLeap (show cok mi_X7_daysOf mi_X7_isLeap 0 0 1 = true by decide +kernel) (Nat.le_of_ble_eq_true rfl) (fun v9 M1 hq => ?_) (fun X M9 hq => False.elim hq)
    obtain ⟨r2, rfl, h⟩ := kI_l hq
    refine e_if_eq 17 rfl rfl (fun hc => ?_) (fun hc => ?_)
    · replace h := h.1 hc
      refine e_blk 2 17 _ _ (pc' := 52) (L' := [some (.int a0), some (.int a1)]) (st' := [.int (28 : Int32)]) rfl ?_
      refine e_drp [false, false] (L' := [none, none]) rfl ?_
      exact x_X7_daysOf_52  h
    · replace h := h.2 hc
      refine e_blk 2 12 _ _ (pc' := 52) (L' := [some (.int a0), some (.int a1)]) (st' := [.int (29 : Int32)]) rfl ?_
      refine e_drp [false, false] (L' := [none, none]) rfl ?_
      exact x_X7_daysOf_52  h
def V_X7_daysTo (K : Rs → Mm → Prop) (M : Mm) (a0 : Int32) : Prop := (((1900 : Int32) ≤ a0 → ∀ x1 : Int32, x1 = (a0 - (1 : Int32)) → K (.inl (some (.int ((((365 : Int32) * (a0 - (1900 : Int32))) + (((x1 / (4 : Int32)) - (x1 / (100 : Int32))) + (x1 / (400 : Int32)))) - (460 : Int32))))) M) ∧ (¬ (1900 : Int32) ≤ a0 → K (.inl (some (.int (-365 : Int32)))) M))
set_option maxRecDepth 100000 in
set_option maxHeartbeats 4000000 in
theorem x_X7_daysTo {G : Gx} {K : Rs → Mm → Prop} {M : Mm} {a0 : Int32} (h : V_X7_daysTo K M a0) : MC G mi_X7_daysTo [.int a0] M K := by
  unfold V_X7_daysTo at h
  refine mc_of rfl (by decide +kernel) dc_X7_daysTo (Nat.le_of_ble_eq_true rfl) 1 (Nat.le_of_ble_eq_true rfl) ?_
  show E G mi_X7_daysTo K M 0 0 0 [some (.int a0), none] []
  refine e_blk 2 0 _ _ (pc' := 4) (L' := [some (.int a0), none]) (st' := [.int (1900 : Int32), .int a0]) rfl ?_
  refine e_icmp_ge 11 rfl rfl (fun hc => ?_) (fun hc => ?_)
  · replace h := h.1 hc
    refine e_blk 11 11 _ _ (pc' := 26) (L' := [some (.int a0), some (.int (a0 - (1 : Int32)))]) (st' := [.int (4 : Int32), .int (a0 - (1 : Int32)), .int ((365 : Int32) * (a0 - (1900 : Int32)))]) rfl ?_
    generalize hx_x1 : ((a0 - (1 : Int32)) : Int32) = x1
    replace h := h x1 hx_x1.symm
    refine e_idiv rfl (by decide) ?_
    refine e_blk 2 27 _ _ (pc' := 30) (L' := [some (.int a0), some (.int x1)]) (st' := [.int (100 : Int32), .int x1, .int (x1 / (4 : Int32)), .int ((365 : Int32) * (a0 - (1900 : Int32)))]) rfl ?_
    refine e_idiv rfl (by decide) ?_
    refine e_blk 3 31 _ _ (pc' := 36) (L' := [some (.int a0), some (.int x1)]) (st' := [.int (400 : Int32), .int x1, .int ((x1 / (4 : Int32)) - (x1 / (100 : Int32))), .int ((365 : Int32) * (a0 - (1900 : Int32)))]) rfl ?_
    refine e_idiv rfl (by decide) ?_
    refine e_blk 4 37 _ _ (pc' := 43) (L' := [some (.int a0), some (.int x1)]) (st' := [.int ((((365 : Int32) * (a0 - (1900 : Int32))) + (((x1 / (4 : Int32)) - (x1 / (100 : Int32))) + (x1 / (400 : Int32)))) - (460 : Int32))]) rfl ?_
    exact e_reti rfl rfl (by decide) (by decide) h
  · replace h := h.2 hc
    refine e_blk 1 7 _ _ (pc' := 10) (L' := [some (.int a0), none]) (st' := [.int (-365 : Int32)]) rfl ?_
    exact e_reti rfl rfl (by decide) (by decide) h
def V_X7_floor_17 (K : Rs → Mm → Prop)  (M : Mm) (s0 : Int32) : Prop := K (.inl (some (.int s0))) M
set_option maxRecDepth 100000 in
set_option maxHeartbeats 4000000 in
theorem x_X7_floor_17 {G : Gx} {K : Rs → Mm → Prop}  {M : Mm} {s0 : Int32} (h : V_X7_floor_17 K  M s0) : E G mi_X7_floor K M 0 0 17 [none, none, none] [.int s0] := by
  unfold V_X7_floor_17 at h
  exact e_reti rfl rfl (by decide) (by decide) h
def V_X7_floor (K : Rs → Mm → Prop) (M : Mm) (a0 : Int32) (a1 : Int32) : Prop := (¬ a1 = 0 ∧ ∀ x1 : Int32, x1 = (a0 / a1) → (¬ a1 = 0 ∧ ((0 ≤ (a0 - a0 / a1 * a1) → V_X7_floor_17 K  M x1) ∧ (¬ 0 ≤ (a0 - a0 / a1 * a1) → V_X7_floor_17 K  M (x1 - (1 : Int32))))))
set_option maxRecDepth 100000 in
set_option maxHeartbeats 4000000 in
theorem x_X7_floor {G : Gx} {K : Rs → Mm → Prop} {M : Mm} {a0 : Int32} {a1 : Int32} (h : V_X7_floor K M a0 a1) : MC G mi_X7_floor [.int a0, .int a1] M K := by
  unfold V_X7_floor at h
  refine mc_of rfl (by decide +kernel) dc_X7_floor (Nat.le_of_ble_eq_true rfl) 1 (Nat.le_of_ble_eq_true rfl) ?_
  show E G mi_X7_floor K M 0 0 0 [some (.int a0), some (.int a1), none] []
  refine e_blk 2 0 _ _ (pc' := 2) (L' := [some (.int a0), some (.int a1), none]) (st' := [.int a1, .int a0]) rfl ?_
  refine e_idiv rfl h.1 ?_
  replace h := h.2
  refine e_blk 3 3 _ _ (pc' := 6) (L' := [some (.int a0), some (.int a1), some (.int (a0 / a1))]) (st' := [.int a1, .int a0]) rfl ?_
  generalize hx_x1 : ((a0 / a1) : Int32) = x1
  replace h := h x1 hx_x1.symm
  refine e_irem rfl h.1 ?_
  replace h := h.2
  refine e_if_ge 16 rfl rfl (fun hc => ?_) (fun hc => ?_)
  · replace h := h.1 hc
    refine e_blk 1 16 _ _ (pc' := 17) (L' := [some (.int a0), some (.int a1), some (.int x1)]) (st' := [.int x1]) rfl ?_
    refine e_drp [false, false, false] (L' := [none, none, none]) rfl ?_
    exact x_X7_floor_17  h
  · replace h := h.2 hc
    refine e_blk 4 10 _ _ (pc' := 17) (L' := [some (.int a0), some (.int a1), some (.int x1)]) (st' := [.int (x1 - (1 : Int32))]) rfl ?_
    refine e_drp [false, false, false] (L' := [none, none, none]) rfl ?_
    exact x_X7_floor_17  h
def V_X7_date_59 (K : Rs → Mm → Prop)  : Nat → Mm → Nat → Int32 → Int32 → Int32 → Prop
  | 0, _, _, _, _, _ => False
  | z + 1, M, l0, l1, l2, l3 => (ob M l0 7 ∧ V_X7_daysOf (kI (fun r3 M2 => ((l3 < r3 → (ob M2 l0 7 ∧ ∀ M5, M5 = sI M2 l0 7 (l3 + (1 : Int32)) → V_X7_floor (kI (fun r7 M6 => (ob M6 l0 7 ∧ ∀ M9, M9 = sI M6 l0 8 ((l1 + (1 : Int32)) - ((7 : Int32) * r7)) → K (.inl none) M9)) (fun _ _ => False)) M5 (l1 + (1 : Int32)) (7 : Int32))) ∧ (¬ l3 < r3 → (ob M2 l0 7 ∧ V_X7_daysOf (kI (fun r12 M11 => ∀ x13 : Int32, x13 = (l3 - r12) → (ob M11 l0 7 ∧ ∀ M15, M15 = sI M11 l0 6 ((mI M11 l0 6) + (1 : Int32)) → V_X7_date_59 K  z M15 l0 l1 l2 x13)) (fun _ _ => False)) M2 l2 (mI M2 l0 6))))) (fun _ _ => False)) M l2 (mI M l0 6))
set_option maxRecDepth 100000 in
set_option maxHeartbeats 4000000 in
theorem x_X7_date_59 {G : Gx} {K : Rs → Mm → Prop}  : ∀ (z : Nat) (M : Mm) (l0 : Nat) (l1 : Int32) (l2 : Int32) (l3 : Int32), V_X7_date_59 K  z M l0 l1 l2 l3 → E G mi_X7_date K M 0 0 59 [some (.ref l0), some (.int l1), some (.int l2), some (.int l3)] []
  | 0, M, l0, l1, l2, l3, h => False.elim h
  | z + 1, M, l0, l1, l2, l3, h => by
    unfold V_X7_date_59 at h
    refine e_blk 3 59 _ _ (pc' := 62) (L' := [some (.ref l0), some (.int l1), some (.int l2), some (.int l3)]) (st' := [.ref l0, .int l2, .int l3]) rfl ?_
    obtain ⟨ho1, h⟩ := h
    refine e_getI 7 6 rfl rfl (by decide) (aw (i := 1071) (by decide +kernel) rfl) ho1 rfl ?_
    refine e_callS (As := [.int l2, .int (mI M l0 6)]) (rest := [.int l3]) rfl (x_X7_daysOf h) rfl (aw (i := 1293) (by decide +kernel) rfl) ws_X7_daysOf wi_X7_daysOf wc_X7_daysOf (show cok mi_X7_date mi_X7_daysOf 0 0 2 = true by decide +kernel) (Nat.le_of_ble_eq_true rfl) (fun v9 M2 hq => ?_) (fun X M9 hq => False.elim hq)
    obtain ⟨r3, rfl, h⟩ := kI_l hq
    refine e_icmp_lt 95 rfl rfl (fun hc => ?_) (fun hc => ?_)
    · replace h := h.1 hc
      refine e_blk 4 95 _ _ (pc' := 99) (L' := [some (.ref l0), some (.int l1), some (.int l2), some (.int l3)]) (st' := [.int (l3 + (1 : Int32)), .ref l0]) rfl ?_
      obtain ⟨ho4, h⟩ := h
      refine e_putI 7 7 rfl rfl (by decide) (aw (i := 1072) (by decide +kernel) rfl) rfl ho4 rfl ?_
      generalize hM5 : sI M2 l0 7 (l3 + (1 : Int32)) = M5
      replace h := h M5 hM5.symm
      replace ho4 : ob M5 l0 7 := hM5 ▸ ob_sI ho4
      refine e_blk 9 102 _ _ (pc' := 113) (L' := [some (.ref l0), some (.int l1), some (.int l2), some (.int l3)]) (st' := [.int (7 : Int32), .int (l1 + (1 : Int32)), .int (7 : Int32), .int (l1 + (1 : Int32)), .ref l0]) rfl ?_
      refine e_callS (As := [.int (l1 + (1 : Int32)), .int (7 : Int32)]) (rest := [.int (7 : Int32), .int (l1 + (1 : Int32)), .ref l0]) rfl (x_X7_floor h) rfl (aw (i := 1283) (by decide +kernel) rfl) ws_X7_floor wi_X7_floor wc_X7_floor (show cok mi_X7_date mi_X7_floor 0 0 2 = true by decide +kernel) (Nat.le_of_ble_eq_true rfl) (fun v9 M6 hq => ?_) (fun X M9 hq => False.elim hq)
      obtain ⟨r7, rfl, h⟩ := kI_l hq
      refine e_blk 2 116 _ _ (pc' := 118) (L' := [some (.ref l0), some (.int l1), some (.int l2), some (.int l3)]) (st' := [.int ((l1 + (1 : Int32)) - ((7 : Int32) * r7)), .ref l0]) rfl ?_
      obtain ⟨ho8, h⟩ := h
      refine e_putI 7 8 rfl rfl (by decide) (aw (i := 1073) (by decide +kernel) rfl) rfl ho8 rfl ?_
      generalize hM9 : sI M6 l0 8 ((l1 + (1 : Int32)) - ((7 : Int32) * r7)) = M9
      replace h := h M9 hM9.symm
      replace ho8 : ob M9 l0 7 := hM9 ▸ ob_sI ho8
      exact e_ret rfl rfl (by decide) (by decide) h
    · replace h := h.2 hc
      refine e_blk 3 71 _ _ (pc' := 74) (L' := [some (.ref l0), some (.int l1), some (.int l2), some (.int l3)]) (st' := [.ref l0, .int l2, .int l3]) rfl ?_
      obtain ⟨ho10, h⟩ := h
      refine e_getI 7 6 rfl rfl (by decide) (aw (i := 1071) (by decide +kernel) rfl) ho10 rfl ?_
      refine e_callS (As := [.int l2, .int (mI M2 l0 6)]) (rest := [.int l3]) rfl (x_X7_daysOf h) rfl (aw (i := 1293) (by decide +kernel) rfl) ws_X7_daysOf wi_X7_daysOf wc_X7_daysOf (show cok mi_X7_date mi_X7_daysOf 0 0 2 = true by decide +kernel) (Nat.le_of_ble_eq_true rfl) (fun v9 M11 hq => ?_) (fun X M9 hq => False.elim hq)
      obtain ⟨r12, rfl, h⟩ := kI_l hq
      refine e_blk 4 80 _ _ (pc' := 84) (L' := [some (.ref l0), some (.int l1), some (.int l2), some (.int (l3 - r12))]) (st' := [.ref l0, .ref l0]) rfl ?_
      generalize hx_x13 : ((l3 - r12) : Int32) = x13
      replace h := h x13 hx_x13.symm
      obtain ⟨ho14, h⟩ := h
      refine e_getI 7 6 rfl rfl (by decide) (aw (i := 1071) (by decide +kernel) rfl) ho14 rfl ?_
      refine e_blk 2 87 _ _ (pc' := 89) (L' := [some (.ref l0), some (.int l1), some (.int l2), some (.int x13)]) (st' := [.int ((mI M11 l0 6) + (1 : Int32)), .ref l0]) rfl ?_
      refine e_putI 7 6 rfl rfl (by decide) (aw (i := 1071) (by decide +kernel) rfl) rfl ho14 rfl ?_
      generalize hM15 : sI M11 l0 6 ((mI M11 l0 6) + (1 : Int32)) = M15
      replace h := h M15 hM15.symm
      replace ho14 : ob M15 l0 7 := hM15 ▸ ob_sI ho14
      refine e_blk 1 92 _ _ (pc' := 59) (L' := [some (.ref l0), some (.int l1), some (.int l2), some (.int x13)]) (st' := []) rfl ?_
      refine e_drp [true, true, true, true] (L' := [some (.ref l0), some (.int l1), some (.int l2), some (.int x13)]) rfl ?_
      exact x_X7_date_59  z _ _ _ _ _ h
def V_X7_date_35 (K : Rs → Mm → Prop)  (M : Mm) (l0 : Nat) (l1 : Int32) (l2 : Int32) : Prop := V_X7_daysTo (kI (fun r2 M1 => ∀ x3 : Int32, x3 = (l1 - r2) → (ob M1 l0 7 ∧ ∀ M5, M5 = sI M1 l0 5 l2 → ∀ M6, M6 = sI M5 l0 9 (x3 + (1 : Int32)) → ∀ M7, M7 = sI M6 l0 6 (1 : Int32) → ∃ y, V_X7_date_59 K  y M7 l0 l1 l2 x3)) (fun _ _ => False)) M l2
set_option maxRecDepth 100000 in
set_option maxHeartbeats 4000000 in
theorem x_X7_date_35 {G : Gx} {K : Rs → Mm → Prop}  {M : Mm} {l0 : Nat} {l1 : Int32} {l2 : Int32} (h : V_X7_date_35 K  M l0 l1 l2) : E G mi_X7_date K M 0 0 35 [some (.ref l0), some (.int l1), some (.int l2), none] [] := by
  unfold V_X7_date_35 at h
  refine e_blk 2 35 _ _ (pc' := 37) (L' := [some (.ref l0), some (.int l1), some (.int l2), none]) (st' := [.int l2, .int l1]) rfl ?_
  refine e_callS (As := [.int l2]) (rest := [.int l1]) rfl (x_X7_daysTo h) rfl (aw (i := 1290) (by decide +kernel) rfl) ws_X7_daysTo wi_X7_daysTo wc_X7_daysTo (show cok mi_X7_date mi_X7_daysTo 0 0 1 = true by decide +kernel) (Nat.le_of_ble_eq_true rfl) (fun v9 M1 hq => ?_) (fun X M9 hq => False.elim hq)
  obtain ⟨r2, rfl, h⟩ := kI_l hq
  refine e_blk 4 40 _ _ (pc' := 44) (L' := [some (.ref l0), some (.int l1), some (.int l2), some (.int (l1 - r2))]) (st' := [.int l2, .ref l0]) rfl ?_
  generalize hx_x3 : ((l1 - r2) : Int32) = x3
  replace h := h x3 hx_x3.symm
  obtain ⟨ho4, h⟩ := h
  refine e_putI 7 5 rfl rfl (by decide) (aw (i := 1070) (by decide +kernel) rfl) rfl ho4 rfl ?_
  generalize hM5 : sI M1 l0 5 l2 = M5
  replace h := h M5 hM5.symm
  replace ho4 : ob M5 l0 7 := hM5 ▸ ob_sI ho4
  refine e_blk 4 47 _ _ (pc' := 51) (L' := [some (.ref l0), some (.int l1), some (.int l2), some (.int x3)]) (st' := [.int (x3 + (1 : Int32)), .ref l0]) rfl ?_
  refine e_putI 7 9 rfl rfl (by decide) (aw (i := 1074) (by decide +kernel) rfl) rfl ho4 rfl ?_
  generalize hM6 : sI M5 l0 9 (x3 + (1 : Int32)) = M6
  replace h := h M6 hM6.symm
  replace ho4 : ob M6 l0 7 := hM6 ▸ ob_sI ho4
  refine e_blk 2 54 _ _ (pc' := 56) (L' := [some (.ref l0), some (.int l1), some (.int l2), some (.int x3)]) (st' := [.int (1 : Int32), .ref l0]) rfl ?_
  refine e_putI 7 6 rfl rfl (by decide) (aw (i := 1071) (by decide +kernel) rfl) rfl ho4 rfl ?_
  generalize hM7 : sI M6 l0 6 (1 : Int32) = M7
  replace h := h M7 hM7.symm
  replace ho4 : ob M7 l0 7 := hM7 ▸ ob_sI ho4
  refine e_drp [true, true, true, true] (L' := [some (.ref l0), some (.int l1), some (.int l2), some (.int x3)]) rfl ?_
  obtain ⟨y, h⟩ := h
  exact x_X7_date_59  y _ _ _ _ _ h
def V_X7_date_12 (K : Rs → Mm → Prop)  : Nat → Mm → Nat → Int32 → Int32 → Prop
  | 0, _, _, _, _ => False
  | z + 1, M, l0, l1, l2 => (((2200 : Int32) ≤ l2 → V_X7_date_35 K  M l0 l1 l2) ∧ (¬ (2200 : Int32) ≤ l2 → V_X7_daysTo (kI (fun r2 M1 => ((l1 < r2 → V_X7_date_35 K  M1 l0 l1 l2) ∧ (¬ l1 < r2 → ∀ x3 : Int32, x3 = (l2 + (1 : Int32)) → V_X7_date_12 K  z M1 l0 l1 x3))) (fun _ _ => False)) M (l2 + (1 : Int32))))
set_option maxRecDepth 100000 in
set_option maxHeartbeats 4000000 in
theorem x_X7_date_12 {G : Gx} {K : Rs → Mm → Prop}  : ∀ (z : Nat) (M : Mm) (l0 : Nat) (l1 : Int32) (l2 : Int32), V_X7_date_12 K  z M l0 l1 l2 → E G mi_X7_date K M 0 0 12 [some (.ref l0), some (.int l1), some (.int l2), none] []
  | 0, M, l0, l1, l2, h => False.elim h
  | z + 1, M, l0, l1, l2, h => by
    unfold V_X7_date_12 at h
    refine e_blk 2 12 _ _ (pc' := 16) (L' := [some (.ref l0), some (.int l1), some (.int l2), none]) (st' := [.int (2200 : Int32), .int l2]) rfl ?_
    refine e_icmp_ge 35 rfl rfl (fun hc => ?_) (fun hc => ?_)
    · replace h := h.1 hc
      refine e_drp [true, true, true, false] (L' := [some (.ref l0), some (.int l1), some (.int l2), none]) rfl ?_
      exact x_X7_date_35  h
    · replace h := h.2 hc
      refine e_blk 3 19 _ _ (pc' := 22) (L' := [some (.ref l0), some (.int l1), some (.int l2), none]) (st' := [.int (l2 + (1 : Int32))]) rfl ?_
      refine e_callS (As := [.int (l2 + (1 : Int32))]) (rest := []) rfl (x_X7_daysTo h) rfl (aw (i := 1290) (by decide +kernel) rfl) ws_X7_daysTo wi_X7_daysTo wc_X7_daysTo (show cok mi_X7_date mi_X7_daysTo 0 0 1 = true by decide +kernel) (Nat.le_of_ble_eq_true rfl) (fun v9 M1 hq => ?_) (fun X M9 hq => False.elim hq)
      obtain ⟨r2, rfl, h⟩ := kI_l hq
      refine e_blk 1 25 _ _ (pc' := 26) (L' := [some (.ref l0), some (.int l1), some (.int l2), none]) (st' := [.int l1, .int r2]) rfl ?_
      refine e_icmp_gt 35 rfl rfl (fun hc => ?_) (fun hc => ?_)
      · replace h := h.1 hc
        refine e_drp [true, true, true, false] (L' := [some (.ref l0), some (.int l1), some (.int l2), none]) rfl ?_
        exact x_X7_date_35  h
      · replace h := h.2 hc
        refine e_blk 2 29 _ _ (pc' := 12) (L' := [some (.ref l0), some (.int l1), some (.int (l2 + (1 : Int32))), none]) (st' := []) rfl ?_
        generalize hx_x3 : ((l2 + (1 : Int32)) : Int32) = x3
        replace h := h x3 hx_x3.symm
        refine e_drp [true, true, true, false] (L' := [some (.ref l0), some (.int l1), some (.int x3), none]) rfl ?_
        exact x_X7_date_12  z _ _ _ _ h
def V_X7_date (K : Rs → Mm → Prop) (M : Mm) (a0 : Nat) (a1 : Int32) : Prop := V_X7_floor (kI (fun r2 M1 => ∀ x3 : Int32, x3 = ((1900 : Int32) + r2) → ∃ y, V_X7_date_12 K  y M1 a0 a1 x3) (fun _ _ => False)) M a1 (366 : Int32)
set_option maxRecDepth 100000 in
set_option maxHeartbeats 4000000 in
theorem x_X7_date {G : Gx} {K : Rs → Mm → Prop} {M : Mm} {a0 : Nat} {a1 : Int32} (h : V_X7_date K M a0 a1) : MC G mi_X7_date [.ref a0, .int a1] M K := by
  unfold V_X7_date at h
  refine mc_of rfl (by decide +kernel) dc_X7_date (Nat.le_of_ble_eq_true rfl) 2 (Nat.le_of_ble_eq_true rfl) ?_
  show E G mi_X7_date K M 0 0 0 [some (.ref a0), some (.int a1), none, none] []
  refine e_blk 3 0 _ _ (pc' := 7) (L' := [some (.ref a0), some (.int a1), none, none]) (st' := [.int (366 : Int32), .int a1, .int (1900 : Int32)]) rfl ?_
  refine e_callS (As := [.int a1, .int (366 : Int32)]) (rest := [.int (1900 : Int32)]) rfl (x_X7_floor h) rfl (aw (i := 1283) (by decide +kernel) rfl) ws_X7_floor wi_X7_floor wc_X7_floor (show cok mi_X7_date mi_X7_floor 0 0 2 = true by decide +kernel) (Nat.le_of_ble_eq_true rfl) (fun v9 M1 hq => ?_) (fun X M9 hq => False.elim hq)
  obtain ⟨r2, rfl, h⟩ := kI_l hq
  refine e_blk 2 10 _ _ (pc' := 12) (L' := [some (.ref a0), some (.int a1), some (.int ((1900 : Int32) + r2)), none]) (st' := []) rfl ?_
  generalize hx_x3 : (((1900 : Int32) + r2) : Int32) = x3
  replace h := h x3 hx_x3.symm
  refine e_drp [true, true, true, false] (L' := [some (.ref a0), some (.int a1), some (.int x3), none]) rfl ?_
  obtain ⟨y, h⟩ := h
  exact x_X7_date_12  y _ _ _ _ h
def V_X7_dayNumber_12 (K : Rs → Mm → Prop)  : Nat → Mm → Int32 → Int32 → Int32 → Int32 → Prop
  | 0, _, _, _, _, _ => False
  | z + 1, M, l0, l1, l3, l4 => ((l1 ≤ l4 → K (.inl (some (.int l3))) M) ∧ (¬ l1 ≤ l4 → V_X7_daysOf (kI (fun r2 M1 => ∀ x3 : Int32, x3 = (l3 + r2) → ∀ x4 : Int32, x4 = (l4 + (1 : Int32)) → V_X7_dayNumber_12 K  z M1 l0 l1 x3 x4) (fun _ _ => False)) M l0 l4))
set_option maxRecDepth 100000 in
set_option maxHeartbeats 4000000 in
theorem x_X7_dayNumber_12 {G : Gx} {K : Rs → Mm → Prop}  : ∀ (z : Nat) (M : Mm) (l0 : Int32) (l1 : Int32) (l3 : Int32) (l4 : Int32), V_X7_dayNumber_12 K  z M l0 l1 l3 l4 → E G mi_X7_dayNumber K M 0 0 12 [some (.int l0), some (.int l1), none, some (.int l3), some (.int l4)] []
  | 0, M, l0, l1, l3, l4, h => False.elim h
  | z + 1, M, l0, l1, l3, l4, h => by
    unfold V_X7_dayNumber_12 at h
    refine e_blk 2 12 _ _ (pc' := 15) (L' := [some (.int l0), some (.int l1), none, some (.int l3), some (.int l4)]) (st' := [.int l1, .int l4]) rfl ?_
    refine e_icmp_ge 33 rfl rfl (fun hc => ?_) (fun hc => ?_)
    · replace h := h.1 hc
      refine e_blk 1 33 _ _ (pc' := 34) (L' := [some (.int l0), some (.int l1), none, some (.int l3), some (.int l4)]) (st' := [.int l3]) rfl ?_
      exact e_reti rfl rfl (by decide) (by decide) h
    · replace h := h.2 hc
      refine e_blk 3 18 _ _ (pc' := 22) (L' := [some (.int l0), some (.int l1), none, some (.int l3), some (.int l4)]) (st' := [.int l4, .int l0, .int l3]) rfl ?_
      refine e_callS (As := [.int l0, .int l4]) (rest := [.int l3]) rfl (x_X7_daysOf h) rfl (aw (i := 1293) (by decide +kernel) rfl) ws_X7_daysOf wi_X7_daysOf wc_X7_daysOf (show cok mi_X7_dayNumber mi_X7_daysOf 0 0 2 = true by decide +kernel) (Nat.le_of_ble_eq_true rfl) (fun v9 M1 hq => ?_) (fun X M9 hq => False.elim hq)
      obtain ⟨r2, rfl, h⟩ := kI_l hq
      refine e_blk 4 25 _ _ (pc' := 12) (L' := [some (.int l0), some (.int l1), none, some (.int (l3 + r2)), some (.int (l4 + (1 : Int32)))]) (st' := []) rfl ?_
      generalize hx_x3 : ((l3 + r2) : Int32) = x3
      replace h := h x3 hx_x3.symm
      generalize hx_x4 : ((l4 + (1 : Int32)) : Int32) = x4
      replace h := h x4 hx_x4.symm
      refine e_drp [true, true, false, true, true] (L' := [some (.int l0), some (.int l1), none, some (.int x3), some (.int x4)]) rfl ?_
      exact x_X7_dayNumber_12  z _ _ _ _ _ h
def V_X7_dayNumber (K : Rs → Mm → Prop) (M : Mm) (a0 : Int32) (a1 : Int32) (a2 : Int32) : Prop := V_X7_daysTo (kI (fun r2 M1 => ∀ x3 : Int32, x3 = ((r2 + a2) - (1 : Int32)) → ∃ y, V_X7_dayNumber_12 K  y M1 a0 a1 x3 (1 : Int32)) (fun _ _ => False)) M a0
set_option maxRecDepth 100000 in
set_option maxHeartbeats 4000000 in
theorem x_X7_dayNumber {G : Gx} {K : Rs → Mm → Prop} {M : Mm} {a0 : Int32} {a1 : Int32} {a2 : Int32} (h : V_X7_dayNumber K M a0 a1 a2) : MC G mi_X7_dayNumber [.int a0, .int a1, .int a2] M K := by
  unfold V_X7_dayNumber at h
  refine mc_of rfl (by decide +kernel) dc_X7_dayNumber (Nat.le_of_ble_eq_true rfl) 2 (Nat.le_of_ble_eq_true rfl) ?_
  show E G mi_X7_dayNumber K M 0 0 0 [some (.int a0), some (.int a1), some (.int a2), none, none] []
  refine e_blk 1 0 _ _ (pc' := 1) (L' := [some (.int a0), some (.int a1), some (.int a2), none, none]) (st' := [.int a0]) rfl ?_
  refine e_callS (As := [.int a0]) (rest := []) rfl (x_X7_daysTo h) rfl (aw (i := 1290) (by decide +kernel) rfl) ws_X7_daysTo wi_X7_daysTo wc_X7_daysTo (show cok mi_X7_dayNumber mi_X7_daysTo 0 0 1 = true by decide +kernel) (Nat.le_of_ble_eq_true rfl) (fun v9 M1 hq => ?_) (fun X M9 hq => False.elim hq)
  obtain ⟨r2, rfl, h⟩ := kI_l hq
  refine e_blk 7 4 _ _ (pc' := 12) (L' := [some (.int a0), some (.int a1), some (.int a2), some (.int ((r2 + a2) - (1 : Int32))), some (.int (1 : Int32))]) (st' := []) rfl ?_
  generalize hx_x3 : (((r2 + a2) - (1 : Int32)) : Int32) = x3
  replace h := h x3 hx_x3.symm
  refine e_drp [true, true, false, true, true] (L' := [some (.int a0), some (.int a1), none, some (.int x3), some (.int (1 : Int32))]) rfl ?_
  obtain ⟨y, h⟩ := h
  exact x_X7_dayNumber_12  y _ _ _ _ _ h
def V_X7_isDate_46 (K : Rs → Mm → Prop)  (M : Mm) (s0 : Int32) : Prop := ((s0 = 0 ∨ s0 = 1) ∧ K (.inl (some (.int s0))) M)
set_option maxRecDepth 100000 in
set_option maxHeartbeats 4000000 in
theorem x_X7_isDate_46 {G : Gx} {K : Rs → Mm → Prop}  {M : Mm} {s0 : Int32} (h : V_X7_isDate_46 K  M s0) : E G mi_X7_isDate K M 0 0 46 [none, none, none] [.int s0] := by
  unfold V_X7_isDate_46 at h
  exact e_retz rfl rfl h.1 (by decide) (by decide) h.2
def V_X7_isDate_45 (K : Rs → Mm → Prop)  (M : Mm)  : Prop := V_X7_isDate_46 K  M (0 : Int32)
set_option maxRecDepth 100000 in
set_option maxHeartbeats 4000000 in
theorem x_X7_isDate_45 {G : Gx} {K : Rs → Mm → Prop}  {M : Mm}  (h : V_X7_isDate_45 K  M ) : E G mi_X7_isDate K M 0 0 45 [none, none, none] [] := by
  unfold V_X7_isDate_45 at h
  refine e_blk 1 45 _ _ (pc' := 46) (L' := [none, none, none]) (st' := [.int (0 : Int32)]) rfl ?_
  refine e_drp [false, false, false] (L' := [none, none, none]) rfl ?_
  exact x_X7_isDate_46  h
def V_X7_isDate (K : Rs → Mm → Prop) (M : Mm) (a0 : Int32) (a1 : Int32) (a2 : Int32) : Prop := V_X7_in (kI (fun r2 M1 => ((r2 = 0 → V_X7_isDate_45 K  M1 ) ∧ (¬ r2 = 0 → V_X7_in (kI (fun r4 M3 => ((r4 = 0 → V_X7_isDate_45 K  M3 ) ∧ (¬ r4 = 0 → V_X7_daysOf (kI (fun r6 M5 => V_X7_in (kI (fun r8 M7 => ((r8 = 0 → V_X7_isDate_45 K  M7 ) ∧ (¬ r8 = 0 → V_X7_isDate_46 K  M7 (1 : Int32)))) (fun _ _ => False)) M5 ((a2).toInt64) (1 : Int64) ((r6).toInt64)) (fun _ _ => False)) M3 a0 a1))) (fun _ _ => False)) M1 ((a1).toInt64) (1 : Int64) (12 : Int64)))) (fun _ _ => False)) M ((a0).toInt64) (1899 : Int64) (2200 : Int64)
set_option maxRecDepth 100000 in
set_option maxHeartbeats 4000000 in
theorem x_X7_isDate {G : Gx} {K : Rs → Mm → Prop} {M : Mm} {a0 : Int32} {a1 : Int32} {a2 : Int32} (h : V_X7_isDate K M a0 a1 a2) : MC G mi_X7_isDate [.int a0, .int a1, .int a2] M K := by
  unfold V_X7_isDate at h
  refine mc_of rfl (by decide +kernel) dc_X7_isDate (Nat.le_of_ble_eq_true rfl) 0 (Nat.le_of_ble_eq_true rfl) ?_
  show E G mi_X7_isDate K M 0 0 0 [some (.int a0), some (.int a1), some (.int a2)] []
  refine e_blk 2 0 _ _ (pc' := 2) (L' := [some (.int a0), some (.int a1), some (.int a2)]) (st' := [.long ((a0).toInt64)]) rfl ?_
  refine e_ldc2 (1899) rfl (aw (i := 1306) (by decide +kernel) rfl) ?_
  refine e_ldc2 (2200) rfl (aw (i := 1307) (by decide +kernel) rfl) ?_
  refine e_callS (As := [.long ((a0).toInt64), .long (1899 : Int64), .long (2200 : Int64)]) (rest := []) rfl (x_X7_in h) rfl (aw (i := 1256) (by decide +kernel) rfl) ws_X7_in wi_X7_in wc_X7_in (show cok mi_X7_isDate mi_X7_in 0 0 3 = true by decide +kernel) (Nat.le_of_ble_eq_true rfl) (fun v9 M1 hq => ?_) (fun X M9 hq => False.elim hq)
  obtain ⟨r2, rfl, h⟩ := kI_l hq
  refine e_if_eq 45 rfl rfl (fun hc => ?_) (fun hc => ?_)
  · replace h := h.1 hc
    refine e_drp [false, false, false] (L' := [none, none, none]) rfl ?_
    exact x_X7_isDate_45  h
  · replace h := h.2 hc
    refine e_blk 3 14 _ _ (pc' := 17) (L' := [some (.int a0), some (.int a1), some (.int a2)]) (st' := [.long (1 : Int64), .long ((a1).toInt64)]) rfl ?_
    refine e_ldc2 (12) rfl (aw (i := 1308) (by decide +kernel) rfl) ?_
    refine e_callS (As := [.long ((a1).toInt64), .long (1 : Int64), .long (12 : Int64)]) (rest := []) rfl (x_X7_in h) rfl (aw (i := 1256) (by decide +kernel) rfl) ws_X7_in wi_X7_in wc_X7_in (show cok mi_X7_isDate mi_X7_in 0 0 3 = true by decide +kernel) (Nat.le_of_ble_eq_true rfl) (fun v9 M3 hq => ?_) (fun X M9 hq => False.elim hq)
    obtain ⟨r4, rfl, h⟩ := kI_l hq
    refine e_if_eq 45 rfl rfl (fun hc => ?_) (fun hc => ?_)
    · replace h := h.1 hc
      refine e_drp [false, false, false] (L' := [none, none, none]) rfl ?_
      exact x_X7_isDate_45  h
    · replace h := h.2 hc
      refine e_blk 5 26 _ _ (pc' := 31) (L' := [some (.int a0), some (.int a1), some (.int a2)]) (st' := [.int a1, .int a0, .long (1 : Int64), .long ((a2).toInt64)]) rfl ?_
      refine e_callS (As := [.int a0, .int a1]) (rest := [.long (1 : Int64), .long ((a2).toInt64)]) rfl (x_X7_daysOf h) rfl (aw (i := 1293) (by decide +kernel) rfl) ws_X7_daysOf wi_X7_daysOf wc_X7_daysOf (show cok mi_X7_isDate mi_X7_daysOf 0 0 2 = true by decide +kernel) (Nat.le_of_ble_eq_true rfl) (fun v9 M5 hq => ?_) (fun X M9 hq => False.elim hq)
      obtain ⟨r6, rfl, h⟩ := kI_l hq
      refine e_blk 1 34 _ _ (pc' := 35) (L' := [some (.int a0), some (.int a1), some (.int a2)]) (st' := [.long ((r6).toInt64), .long (1 : Int64), .long ((a2).toInt64)]) rfl ?_
      refine e_callS (As := [.long ((a2).toInt64), .long (1 : Int64), .long ((r6).toInt64)]) (rest := []) rfl (x_X7_in h) rfl (aw (i := 1256) (by decide +kernel) rfl) ws_X7_in wi_X7_in wc_X7_in (show cok mi_X7_isDate mi_X7_in 0 0 3 = true by decide +kernel) (Nat.le_of_ble_eq_true rfl) (fun v9 M7 hq => ?_) (fun X M9 hq => False.elim hq)
      obtain ⟨r8, rfl, h⟩ := kI_l hq
      refine e_if_eq 45 rfl rfl (fun hc => ?_) (fun hc => ?_)
      · replace h := h.1 hc
        refine e_drp [false, false, false] (L' := [none, none, none]) rfl ?_
        exact x_X7_isDate_45  h
      · replace h := h.2 hc
        refine e_blk 2 41 _ _ (pc' := 46) (L' := [some (.int a0), some (.int a1), some (.int a2)]) (st' := [.int (1 : Int32)]) rfl ?_
        refine e_drp [false, false, false] (L' := [none, none, none]) rfl ?_
        exact x_X7_isDate_46  h
def V_X7_zone_60 (K : Rs → Mm → Prop)  (M : Mm)  : Prop := K (.inl none) M
set_option maxRecDepth 100000 in
set_option maxHeartbeats 4000000 in
theorem x_X7_zone_60 {G : Gx} {K : Rs → Mm → Prop}  {M : Mm}  (h : V_X7_zone_60 K  M ) : E G mi_X7_zone K M 0 0 60 [none, none, none] [] := by
  unfold V_X7_zone_60 at h
  exact e_ret rfl rfl (by decide) (by decide) h
def V_X7_zone_36 (K : Rs → Mm → Prop)  (M : Mm) (l0 : Nat) (l1 : Int32) (l2 : Int32) (s0 : Nat) (s1 : Int32) : Prop := (ob M s0 7 ∧ ∀ M2, M2 = sI M s0 0 s1 → (ob M2 l0 7 ∧ ((¬ (mI M2 l0 0) = 0 → V_X7_zone_60 K  M2 ) ∧ ((mI M2 l0 0) = 0 → ∃ b4, mP M2 l0 1 = some b4 ∧ (ob M2 b4 9 ∧ (vp_in l1 (mN M2 b4) ∧ ∀ M7, M7 = sI M2 b4 (l1).toNatClampNeg l2 → ∃ b8, mP M7 l0 2 = some b8 ∧ (ob M7 b8 9 ∧ (vp_in l1 (mN M7 b8) ∧ ∀ M11, M11 = sI M7 b8 (l1).toNatClampNeg (0 : Int32) → V_X7_zone_60 K  M11 ))))))))
set_option maxRecDepth 100000 in
set_option maxHeartbeats 4000000 in
theorem x_X7_zone_36 {G : Gx} {K : Rs → Mm → Prop}  {M : Mm} {l0 : Nat} {l1 : Int32} {l2 : Int32} {s0 : Nat} {s1 : Int32} (h : V_X7_zone_36 K  M l0 l1 l2 s0 s1) : E G mi_X7_zone K M 0 0 36 [some (.ref l0), some (.int l1), some (.int l2)] [.int s1, .ref s0] := by
  unfold V_X7_zone_36 at h
  obtain ⟨ho1, h⟩ := h
  refine e_putI 7 0 rfl rfl (by decide) (aw (i := 1065) (by decide +kernel) rfl) rfl ho1 rfl ?_
  generalize hM2 : sI M s0 0 s1 = M2
  replace h := h M2 hM2.symm
  replace ho1 : ob M2 s0 7 := hM2 ▸ ob_sI ho1
  refine e_blk 1 39 _ _ (pc' := 40) (L' := [some (.ref l0), some (.int l1), some (.int l2)]) (st' := [.ref l0]) rfl ?_
  obtain ⟨ho3, h⟩ := h
  refine e_getI 7 0 rfl rfl (by decide) (aw (i := 1065) (by decide +kernel) rfl) ho3 rfl ?_
  refine e_if_ne 60 rfl rfl (fun hc => ?_) (fun hc => ?_)
  · replace h := h.1 hc
    refine e_drp [false, false, false] (L' := [none, none, none]) rfl ?_
    exact x_X7_zone_60  h
  · replace h := h.2 hc
    refine e_blk 1 46 _ _ (pc' := 47) (L' := [some (.ref l0), some (.int l1), some (.int l2)]) (st' := [.ref l0]) rfl ?_
    obtain ⟨b4, hbb4, h⟩ := h
    refine e_getR 7 1 rfl rfl (by decide) (aw (i := 1066) (by decide +kernel) rfl) ho3 rfl hbb4 ?_
    refine e_blk 2 50 _ _ (pc' := 52) (L' := [some (.ref l0), some (.int l1), some (.int l2)]) (st' := [.int l2, .int l1, .ref b4]) rfl ?_
    obtain ⟨ho5, h⟩ := h
    obtain ⟨hi6, h⟩ := h
    refine e_iast rfl ho5 hi6 ?_
    generalize hM7 : sI M2 b4 (l1).toNatClampNeg l2 = M7
    replace h := h M7 hM7.symm
    replace ho1 : ob M7 s0 7 := hM7 ▸ ob_sI ho1
    replace ho3 : ob M7 l0 7 := hM7 ▸ ob_sI ho3
    replace ho5 : ob M7 b4 9 := hM7 ▸ ob_sI ho5
    refine e_blk 1 53 _ _ (pc' := 54) (L' := [some (.ref l0), some (.int l1), some (.int l2)]) (st' := [.ref l0]) rfl ?_
    obtain ⟨b8, hbb8, h⟩ := h
    refine e_getR 7 2 rfl rfl (by decide) (aw (i := 1067) (by decide +kernel) rfl) ho3 rfl hbb8 ?_
    refine e_blk 2 57 _ _ (pc' := 59) (L' := [some (.ref l0), some (.int l1), some (.int l2)]) (st' := [.int (0 : Int32), .int l1, .ref b8]) rfl ?_
    obtain ⟨ho9, h⟩ := h
    obtain ⟨hi10, h⟩ := h
    refine e_iast rfl ho9 hi10 ?_
    generalize hM11 : sI M7 b8 (l1).toNatClampNeg (0 : Int32) = M11
    replace h := h M11 hM11.symm
    replace ho1 : ob M11 s0 7 := hM11 ▸ ob_sI ho1
    replace ho3 : ob M11 l0 7 := hM11 ▸ ob_sI ho3
    replace ho5 : ob M11 b4 9 := hM11 ▸ ob_sI ho5
    replace ho9 : ob M11 b8 9 := hM11 ▸ ob_sI ho9
    refine e_drp [false, false, false] (L' := [none, none, none]) rfl ?_
    exact x_X7_zone_60  h
def V_X7_zone (K : Rs → Mm → Prop) (M : Mm) (a0 : Nat) (a1 : Int32) (a2 : Int32) : Prop := V_X7_in (kI (fun r2 M1 => ((¬ r2 = 0 → V_X7_in (kI (fun r4 M3 => ((¬ r4 = 0 → V_X7_zone_36 K  M3 a0 a1 a2 a0 (0 : Int32)) ∧ (r4 = 0 → V_X7_zone_36 K  M3 a0 a1 a2 a0 (2 : Int32)))) (fun _ _ => False)) M1 ((a2).toInt64) (-1439 : Int64) (1439 : Int64)) ∧ (r2 = 0 → V_X7_zone_36 K  M1 a0 a1 a2 a0 (1 : Int32)))) (fun _ _ => False)) M ((a1).toInt64) (0 : Int64) (3 : Int64)
set_option maxRecDepth 100000 in
set_option maxHeartbeats 4000000 in
theorem x_X7_zone {G : Gx} {K : Rs → Mm → Prop} {M : Mm} {a0 : Nat} {a1 : Int32} {a2 : Int32} (h : V_X7_zone K M a0 a1 a2) : MC G mi_X7_zone [.ref a0, .int a1, .int a2] M K := by
  unfold V_X7_zone at h
  refine mc_of rfl (by decide +kernel) dc_X7_zone (Nat.le_of_ble_eq_true rfl) 0 (Nat.le_of_ble_eq_true rfl) ?_
  show E G mi_X7_zone K M 0 0 0 [some (.ref a0), some (.int a1), some (.int a2)] []
  refine e_blk 4 0 _ _ (pc' := 4) (L' := [some (.ref a0), some (.int a1), some (.int a2)]) (st' := [.long (0 : Int64), .long ((a1).toInt64), .ref a0]) rfl ?_
  refine e_ldc2 (3) rfl (aw (i := 1255) (by decide +kernel) rfl) ?_
  refine e_callS (As := [.long ((a1).toInt64), .long (0 : Int64), .long (3 : Int64)]) (rest := [.ref a0]) rfl (x_X7_in h) rfl (aw (i := 1256) (by decide +kernel) rfl) ws_X7_in wi_X7_in wc_X7_in (show cok mi_X7_zone mi_X7_in 0 0 3 = true by decide +kernel) (Nat.le_of_ble_eq_true rfl) (fun v9 M1 hq => ?_) (fun X M9 hq => False.elim hq)
  obtain ⟨r2, rfl, h⟩ := kI_l hq
  refine e_if_ne 17 rfl rfl (fun hc => ?_) (fun hc => ?_)
  · replace h := h.1 hc
    refine e_blk 2 17 _ _ (pc' := 19) (L' := [some (.ref a0), some (.int a1), some (.int a2)]) (st' := [.long ((a2).toInt64), .ref a0]) rfl ?_
    refine e_ldc2 (-1439) rfl (aw (i := 1259) (by decide +kernel) rfl) ?_
    refine e_ldc2 (1439) rfl (aw (i := 1260) (by decide +kernel) rfl) ?_
    refine e_callS (As := [.long ((a2).toInt64), .long (-1439 : Int64), .long (1439 : Int64)]) (rest := [.ref a0]) rfl (x_X7_in h) rfl (aw (i := 1256) (by decide +kernel) rfl) ws_X7_in wi_X7_in wc_X7_in (show cok mi_X7_zone mi_X7_in 0 0 3 = true by decide +kernel) (Nat.le_of_ble_eq_true rfl) (fun v9 M3 hq => ?_) (fun X M9 hq => False.elim hq)
    obtain ⟨r4, rfl, h⟩ := kI_l hq
    refine e_if_ne 35 rfl rfl (fun hc => ?_) (fun hc => ?_)
    · replace h := h.1 hc
      refine e_blk 1 35 _ _ (pc' := 36) (L' := [some (.ref a0), some (.int a1), some (.int a2)]) (st' := [.int (0 : Int32), .ref a0]) rfl ?_
      refine e_drp [true, true, true] (L' := [some (.ref a0), some (.int a1), some (.int a2)]) rfl ?_
      exact x_X7_zone_36  h
    · replace h := h.2 hc
      refine e_blk 2 31 _ _ (pc' := 36) (L' := [some (.ref a0), some (.int a1), some (.int a2)]) (st' := [.int (2 : Int32), .ref a0]) rfl ?_
      refine e_drp [true, true, true] (L' := [some (.ref a0), some (.int a1), some (.int a2)]) rfl ?_
      exact x_X7_zone_36  h
  · replace h := h.2 hc
    refine e_blk 2 13 _ _ (pc' := 36) (L' := [some (.ref a0), some (.int a1), some (.int a2)]) (st' := [.int (1 : Int32), .ref a0]) rfl ?_
    refine e_drp [true, true, true] (L' := [some (.ref a0), some (.int a1), some (.int a2)]) rfl ?_
    exact x_X7_zone_36  h
def V_X7_change_80 (K : Rs → Mm → Prop)  (M : Mm) (l0 : Nat) : Prop := (ob M l0 7 ∧ V_X7_wrong (kI (fun r3 M2 => K (.inl (some (.int r3))) M2) (fun _ _ => False)) M l0 (2 : Int32))
set_option maxRecDepth 100000 in
set_option maxHeartbeats 4000000 in
theorem x_X7_change_80 {G : Gx} {K : Rs → Mm → Prop}  {M : Mm} {l0 : Nat} (h : V_X7_change_80 K  M l0) : E G mi_X7_change K M 0 0 80 [some (.ref l0), none, none, none, none] [] := by
  unfold V_X7_change_80 at h
  refine e_blk 2 80 _ _ (pc' := 82) (L' := [some (.ref l0), none, none, none, none]) (st' := [.int (2 : Int32), .ref l0]) rfl ?_
  obtain ⟨ho1, h⟩ := h
  refine e_callV (As := [.int (2 : Int32)]) (rest := []) (ci := 7) rfl (x_X7_wrong h) ho1 rfl rfl rfl (aw (i := 1265) (by decide +kernel) rfl) wn_X7_wrong wv_X7_wrong wi_X7_wrong wc_X7_wrong (show cok mi_X7_change mi_X7_wrong 0 0 1 = true by decide +kernel) (Nat.le_of_ble_eq_true rfl) (fun v9 M2 hq => ?_) (fun X M9 hq => False.elim hq)
  obtain ⟨r3, rfl, h⟩ := kI_l hq
  exact e_reti rfl rfl (by decide) (by decide) h
def V_X7_change_66 (K : Rs → Mm → Prop)  (M : Mm) (l0 : Nat) (l1 : Int32) (l2 : Int32) (l3 : Int32) (l4 : Int32) : Prop := V_X7_in (kI (fun r2 M1 => ((¬ r2 = 0 → ((¬ l4 = (20 : Int32) → (ob M1 l0 7 ∧ ∃ b4, mP M1 l0 3 = some b4 ∧ (ob M1 b4 9 ∧ (vp_in (((20 : Int32) * l1) + l4) (mN M1 b4) ∧ ∀ M7, M7 = sI M1 b4 ((((20 : Int32) * l1) + l4)).toNatClampNeg l2 → ∃ b8, mP M7 l0 4 = some b8 ∧ (ob M7 b8 9 ∧ (vp_in (((20 : Int32) * l1) + l4) (mN M7 b8) ∧ ∀ M11, M11 = sI M7 b8 ((((20 : Int32) * l1) + l4)).toNatClampNeg l3 → ∃ b12, mP M11 l0 2 = some b12 ∧ (ob M11 b12 9 ∧ (vp_in l1 (mN M11 b12) ∧ (vp_in l1 (mN M11 b12) ∧ ∀ M16, M16 = sI M11 b12 (l1).toNatClampNeg ((mI M11 b12 (l1).toNatClampNeg) + (1 : Int32)) → ∃ b17, mP M16 l0 2 = some b17 ∧ (ob M16 b17 9 ∧ (vp_in l1 (mN M16 b17) ∧ K (.inl (some (.int (mI M16 b17 (l1).toNatClampNeg)))) M16))))))))))) ∧ (l4 = (20 : Int32) → (ob M1 l0 7 ∧ V_X7_wrong (kI (fun r22 M21 => K (.inl (some (.int r22))) M21) (fun _ _ => False)) M1 l0 (3 : Int32))))) ∧ (r2 = 0 → V_X7_change_80 K  M1 l0))) (fun _ _ => False)) M ((l3).toInt64) (-1439 : Int64) (1439 : Int64)
set_option maxRecDepth 100000 in
set_option maxHeartbeats 4000000 in
theorem x_X7_change_66 {G : Gx} {K : Rs → Mm → Prop}  {M : Mm} {l0 : Nat} {l1 : Int32} {l2 : Int32} {l3 : Int32} {l4 : Int32} (h : V_X7_change_66 K  M l0 l1 l2 l3 l4) : E G mi_X7_change K M 0 0 66 [some (.ref l0), some (.int l1), some (.int l2), some (.int l3), some (.int l4)] [] := by
  unfold V_X7_change_66 at h
  refine e_blk 2 66 _ _ (pc' := 68) (L' := [some (.ref l0), some (.int l1), some (.int l2), some (.int l3), some (.int l4)]) (st' := [.long ((l3).toInt64)]) rfl ?_
  refine e_ldc2 (-1439) rfl (aw (i := 1259) (by decide +kernel) rfl) ?_
  refine e_ldc2 (1439) rfl (aw (i := 1260) (by decide +kernel) rfl) ?_
  refine e_callS (As := [.long ((l3).toInt64), .long (-1439 : Int64), .long (1439 : Int64)]) (rest := []) rfl (x_X7_in h) rfl (aw (i := 1256) (by decide +kernel) rfl) ws_X7_in wi_X7_in wc_X7_in (show cok mi_X7_change mi_X7_in 0 0 3 = true by decide +kernel) (Nat.le_of_ble_eq_true rfl) (fun v9 M1 hq => ?_) (fun X M9 hq => False.elim hq)
  obtain ⟨r2, rfl, h⟩ := kI_l hq
  refine e_if_ne 86 rfl rfl (fun hc => ?_) (fun hc => ?_)
  · replace h := h.1 hc
    refine e_blk 2 86 _ _ (pc' := 90) (L' := [some (.ref l0), some (.int l1), some (.int l2), some (.int l3), some (.int l4)]) (st' := [.int (20 : Int32), .int l4]) rfl ?_
    refine e_icmp_ne 99 rfl rfl (fun hc => ?_) (fun hc => ?_)
    · replace h := h.1 hc
      refine e_blk 1 99 _ _ (pc' := 100) (L' := [some (.ref l0), some (.int l1), some (.int l2), some (.int l3), some (.int l4)]) (st' := [.ref l0]) rfl ?_
      obtain ⟨ho3, h⟩ := h
      obtain ⟨b4, hbb4, h⟩ := h
      refine e_getR 7 3 rfl rfl (by decide) (aw (i := 1068) (by decide +kernel) rfl) ho3 rfl hbb4 ?_
      refine e_blk 6 103 _ _ (pc' := 111) (L' := [some (.ref l0), some (.int l1), some (.int l2), some (.int l3), some (.int l4)]) (st' := [.int l2, .int (((20 : Int32) * l1) + l4), .ref b4]) rfl ?_
      obtain ⟨ho5, h⟩ := h
      obtain ⟨hi6, h⟩ := h
      refine e_iast rfl ho5 hi6 ?_
      generalize hM7 : sI M1 b4 ((((20 : Int32) * l1) + l4)).toNatClampNeg l2 = M7
      replace h := h M7 hM7.symm
      replace ho3 : ob M7 l0 7 := hM7 ▸ ob_sI ho3
      replace ho5 : ob M7 b4 9 := hM7 ▸ ob_sI ho5
      refine e_blk 1 112 _ _ (pc' := 113) (L' := [some (.ref l0), some (.int l1), some (.int l2), some (.int l3), some (.int l4)]) (st' := [.ref l0]) rfl ?_
      obtain ⟨b8, hbb8, h⟩ := h
      refine e_getR 7 4 rfl rfl (by decide) (aw (i := 1069) (by decide +kernel) rfl) ho3 rfl hbb8 ?_
      refine e_blk 6 116 _ _ (pc' := 124) (L' := [some (.ref l0), some (.int l1), some (.int l2), some (.int l3), some (.int l4)]) (st' := [.int l3, .int (((20 : Int32) * l1) + l4), .ref b8]) rfl ?_
      obtain ⟨ho9, h⟩ := h
      obtain ⟨hi10, h⟩ := h
      refine e_iast rfl ho9 hi10 ?_
      generalize hM11 : sI M7 b8 ((((20 : Int32) * l1) + l4)).toNatClampNeg l3 = M11
      replace h := h M11 hM11.symm
      replace ho3 : ob M11 l0 7 := hM11 ▸ ob_sI ho3
      replace ho5 : ob M11 b4 9 := hM11 ▸ ob_sI ho5
      replace ho9 : ob M11 b8 9 := hM11 ▸ ob_sI ho9
      refine e_blk 1 125 _ _ (pc' := 126) (L' := [some (.ref l0), some (.int l1), some (.int l2), some (.int l3), some (.int l4)]) (st' := [.ref l0]) rfl ?_
      obtain ⟨b12, hbb12, h⟩ := h
      refine e_getR 7 2 rfl rfl (by decide) (aw (i := 1067) (by decide +kernel) rfl) ho3 rfl hbb12 ?_
      refine e_blk 2 129 _ _ (pc' := 131) (L' := [some (.ref l0), some (.int l1), some (.int l2), some (.int l3), some (.int l4)]) (st' := [.int l1, .ref b12, .int l1, .ref b12]) rfl ?_
      obtain ⟨ho13, h⟩ := h
      obtain ⟨hi14, h⟩ := h
      refine e_iald rfl ho13 hi14 ?_
      refine e_blk 2 132 _ _ (pc' := 134) (L' := [some (.ref l0), some (.int l1), some (.int l2), some (.int l3), some (.int l4)]) (st' := [.int ((mI M11 b12 (l1).toNatClampNeg) + (1 : Int32)), .int l1, .ref b12]) rfl ?_
      obtain ⟨hi15, h⟩ := h
      refine e_iast rfl ho13 hi15 ?_
      generalize hM16 : sI M11 b12 (l1).toNatClampNeg ((mI M11 b12 (l1).toNatClampNeg) + (1 : Int32)) = M16
      replace h := h M16 hM16.symm
      replace ho3 : ob M16 l0 7 := hM16 ▸ ob_sI ho3
      replace ho5 : ob M16 b4 9 := hM16 ▸ ob_sI ho5
      replace ho9 : ob M16 b8 9 := hM16 ▸ ob_sI ho9
      replace ho13 : ob M16 b12 9 := hM16 ▸ ob_sI ho13
      refine e_blk 1 135 _ _ (pc' := 136) (L' := [some (.ref l0), some (.int l1), some (.int l2), some (.int l3), some (.int l4)]) (st' := [.ref l0]) rfl ?_
      obtain ⟨b17, hbb17, h⟩ := h
      refine e_getR 7 2 rfl rfl (by decide) (aw (i := 1067) (by decide +kernel) rfl) ho3 rfl hbb17 ?_
      refine e_blk 1 139 _ _ (pc' := 140) (L' := [some (.ref l0), some (.int l1), some (.int l2), some (.int l3), some (.int l4)]) (st' := [.int l1, .ref b17]) rfl ?_
      obtain ⟨ho18, h⟩ := h
      obtain ⟨hi19, h⟩ := h
      refine e_iald rfl ho18 hi19 ?_
      exact e_reti rfl rfl (by decide) (by decide) h
    · replace h := h.2 hc
      refine e_blk 2 93 _ _ (pc' := 95) (L' := [some (.ref l0), some (.int l1), some (.int l2), some (.int l3), some (.int l4)]) (st' := [.int (3 : Int32), .ref l0]) rfl ?_
      obtain ⟨ho20, h⟩ := h
      refine e_callV (As := [.int (3 : Int32)]) (rest := []) (ci := 7) rfl (x_X7_wrong h) ho20 rfl rfl rfl (aw (i := 1265) (by decide +kernel) rfl) wn_X7_wrong wv_X7_wrong wi_X7_wrong wc_X7_wrong (show cok mi_X7_change mi_X7_wrong 0 0 1 = true by decide +kernel) (Nat.le_of_ble_eq_true rfl) (fun v9 M21 hq => ?_) (fun X M9 hq => False.elim hq)
      obtain ⟨r22, rfl, h⟩ := kI_l hq
      exact e_reti rfl rfl (by decide) (by decide) h
  · replace h := h.2 hc
    refine e_drp [true, false, false, false, false] (L' := [some (.ref l0), none, none, none, none]) rfl ?_
    exact x_X7_change_80  h
def V_X7_change (K : Rs → Mm → Prop) (M : Mm) (a0 : Nat) (a1 : Int32) (a2 : Int32) (a3 : Int32) : Prop := (ob M a0 7 ∧ ∀ M2, M2 = sI M a0 0 (0 : Int32) → V_X7_in (kI (fun r4 M3 => ((¬ r4 = 0 → (ob M3 a0 7 ∧ ∃ b6, mP M3 a0 2 = some b6 ∧ (ob M3 b6 9 ∧ (vp_in a1 (mN M3 b6) ∧ ∀ x9 : Int32, x9 = (mI M3 b6 (a1).toNatClampNeg) → V_X7_in (kI (fun r11 M10 => ((r11 = 0 → V_X7_change_80 K  M10 a0) ∧ (¬ r11 = 0 → ((x9 ≤ 0 → V_X7_change_66 K  M10 a0 a1 a2 a3 x9) ∧ (¬ x9 ≤ 0 → (ob M10 a0 7 ∧ ∃ b13, mP M10 a0 3 = some b13 ∧ (ob M10 b13 9 ∧ (vp_in ((((20 : Int32) * a1) + x9) - (1 : Int32)) (mN M10 b13) ∧ ((a2 ≤ (mI M10 b13 (((((20 : Int32) * a1) + x9) - (1 : Int32))).toNatClampNeg) → V_X7_change_80 K  M10 a0) ∧ (¬ a2 ≤ (mI M10 b13 (((((20 : Int32) * a1) + x9) - (1 : Int32))).toNatClampNeg) → V_X7_change_66 K  M10 a0 a1 a2 a3 x9)))))))))) (fun _ _ => False)) M3 ((a2).toInt64) (0 : Int64) (157785119 : Int64))))) ∧ (r4 = 0 → (ob M3 a0 7 ∧ V_X7_wrong (kI (fun r18 M17 => K (.inl (some (.int r18))) M17) (fun _ _ => False)) M3 a0 (1 : Int32))))) (fun _ _ => False)) M2 ((a1).toInt64) (0 : Int64) (3 : Int64))
set_option maxRecDepth 100000 in
set_option maxHeartbeats 4000000 in
theorem x_X7_change {G : Gx} {K : Rs → Mm → Prop} {M : Mm} {a0 : Nat} {a1 : Int32} {a2 : Int32} {a3 : Int32} (h : V_X7_change K M a0 a1 a2 a3) : MC G mi_X7_change [.ref a0, .int a1, .int a2, .int a3] M K := by
  unfold V_X7_change at h
  refine mc_of rfl (by decide +kernel) dc_X7_change (Nat.le_of_ble_eq_true rfl) 1 (Nat.le_of_ble_eq_true rfl) ?_
  show E G mi_X7_change K M 0 0 0 [some (.ref a0), some (.int a1), some (.int a2), some (.int a3), none] []
  refine e_blk 2 0 _ _ (pc' := 2) (L' := [some (.ref a0), some (.int a1), some (.int a2), some (.int a3), none]) (st' := [.int (0 : Int32), .ref a0]) rfl ?_
  obtain ⟨ho1, h⟩ := h
  refine e_putI 7 0 rfl rfl (by decide) (aw (i := 1065) (by decide +kernel) rfl) rfl ho1 rfl ?_
  generalize hM2 : sI M a0 0 (0 : Int32) = M2
  replace h := h M2 hM2.symm
  replace ho1 : ob M2 a0 7 := hM2 ▸ ob_sI ho1
  refine e_blk 3 5 _ _ (pc' := 8) (L' := [some (.ref a0), some (.int a1), some (.int a2), some (.int a3), none]) (st' := [.long (0 : Int64), .long ((a1).toInt64)]) rfl ?_
  refine e_ldc2 (3) rfl (aw (i := 1255) (by decide +kernel) rfl) ?_
  refine e_callS (As := [.long ((a1).toInt64), .long (0 : Int64), .long (3 : Int64)]) (rest := []) rfl (x_X7_in h) rfl (aw (i := 1256) (by decide +kernel) rfl) ws_X7_in wi_X7_in wc_X7_in (show cok mi_X7_change mi_X7_in 0 0 3 = true by decide +kernel) (Nat.le_of_ble_eq_true rfl) (fun v9 M3 hq => ?_) (fun X M9 hq => False.elim hq)
  obtain ⟨r4, rfl, h⟩ := kI_l hq
  refine e_if_ne 23 rfl rfl (fun hc => ?_) (fun hc => ?_)
  · replace h := h.1 hc
    refine e_blk 1 23 _ _ (pc' := 24) (L' := [some (.ref a0), some (.int a1), some (.int a2), some (.int a3), none]) (st' := [.ref a0]) rfl ?_
    obtain ⟨ho5, h⟩ := h
    obtain ⟨b6, hbb6, h⟩ := h
    refine e_getR 7 2 rfl rfl (by decide) (aw (i := 1067) (by decide +kernel) rfl) ho5 rfl hbb6 ?_
    refine e_blk 1 27 _ _ (pc' := 28) (L' := [some (.ref a0), some (.int a1), some (.int a2), some (.int a3), none]) (st' := [.int a1, .ref b6]) rfl ?_
    obtain ⟨ho7, h⟩ := h
    obtain ⟨hi8, h⟩ := h
    refine e_iald rfl ho7 hi8 ?_
    refine e_blk 4 29 _ _ (pc' := 34) (L' := [some (.ref a0), some (.int a1), some (.int a2), some (.int a3), some (.int (mI M3 b6 (a1).toNatClampNeg))]) (st' := [.long (0 : Int64), .long ((a2).toInt64)]) rfl ?_
    generalize hx_x9 : ((mI M3 b6 (a1).toNatClampNeg) : Int32) = x9
    replace h := h x9 hx_x9.symm
    refine e_ldc2 (157785119) rfl (aw (i := 1269) (by decide +kernel) rfl) ?_
    refine e_callS (As := [.long ((a2).toInt64), .long (0 : Int64), .long (157785119 : Int64)]) (rest := []) rfl (x_X7_in h) rfl (aw (i := 1256) (by decide +kernel) rfl) ws_X7_in wi_X7_in wc_X7_in (show cok mi_X7_change mi_X7_in 0 0 3 = true by decide +kernel) (Nat.le_of_ble_eq_true rfl) (fun v9 M10 hq => ?_) (fun X M9 hq => False.elim hq)
    obtain ⟨r11, rfl, h⟩ := kI_l hq
    refine e_if_eq 80 rfl rfl (fun hc => ?_) (fun hc => ?_)
    · replace h := h.1 hc
      refine e_drp [true, false, false, false, false] (L' := [some (.ref a0), none, none, none, none]) rfl ?_
      exact x_X7_change_80  h
    · replace h := h.2 hc
      refine e_blk 1 43 _ _ (pc' := 45) (L' := [some (.ref a0), some (.int a1), some (.int a2), some (.int a3), some (.int x9)]) (st' := [.int x9]) rfl ?_
      refine e_if_le 66 rfl rfl (fun hc => ?_) (fun hc => ?_)
      · replace h := h.1 hc
        refine e_drp [true, true, true, true, true] (L' := [some (.ref a0), some (.int a1), some (.int a2), some (.int a3), some (.int x9)]) rfl ?_
        exact x_X7_change_66  h
      · replace h := h.2 hc
        refine e_blk 2 48 _ _ (pc' := 50) (L' := [some (.ref a0), some (.int a1), some (.int a2), some (.int a3), some (.int x9)]) (st' := [.ref a0, .int a2]) rfl ?_
        obtain ⟨ho12, h⟩ := h
        obtain ⟨b13, hbb13, h⟩ := h
        refine e_getR 7 3 rfl rfl (by decide) (aw (i := 1068) (by decide +kernel) rfl) ho12 rfl hbb13 ?_
        refine e_blk 7 53 _ _ (pc' := 62) (L' := [some (.ref a0), some (.int a1), some (.int a2), some (.int a3), some (.int x9)]) (st' := [.int ((((20 : Int32) * a1) + x9) - (1 : Int32)), .ref b13, .int a2]) rfl ?_
        obtain ⟨ho14, h⟩ := h
        obtain ⟨hi15, h⟩ := h
        refine e_iald rfl ho14 hi15 ?_
        refine e_icmp_le 80 rfl rfl (fun hc => ?_) (fun hc => ?_)
        · replace h := h.1 hc
          refine e_drp [true, false, false, false, false] (L' := [some (.ref a0), none, none, none, none]) rfl ?_
          exact x_X7_change_80  h
        · replace h := h.2 hc
          refine e_drp [true, true, true, true, true] (L' := [some (.ref a0), some (.int a1), some (.int a2), some (.int a3), some (.int x9)]) rfl ?_
          exact x_X7_change_66  h
  · replace h := h.2 hc
    refine e_blk 2 17 _ _ (pc' := 19) (L' := [some (.ref a0), some (.int a1), some (.int a2), some (.int a3), none]) (st' := [.int (1 : Int32), .ref a0]) rfl ?_
    obtain ⟨ho16, h⟩ := h
    refine e_callV (As := [.int (1 : Int32)]) (rest := []) (ci := 7) rfl (x_X7_wrong h) ho16 rfl rfl rfl (aw (i := 1265) (by decide +kernel) rfl) wn_X7_wrong wv_X7_wrong wi_X7_wrong wc_X7_wrong (show cok mi_X7_change mi_X7_wrong 0 0 1 = true by decide +kernel) (Nat.le_of_ble_eq_true rfl) (fun v9 M17 hq => ?_) (fun X M9 hq => False.elim hq)
    obtain ⟨r18, rfl, h⟩ := kI_l hq
    exact e_reti rfl rfl (by decide) (by decide) h
def V_X7_stretch_34 (K : Rs → Mm → Prop)  (M : Mm) (l3 : Int32) : Prop := K (.inl (some (.int l3))) M
set_option maxRecDepth 100000 in
set_option maxHeartbeats 4000000 in
theorem x_X7_stretch_34 {G : Gx} {K : Rs → Mm → Prop}  {M : Mm} {l3 : Int32} (h : V_X7_stretch_34 K  M l3) : E G mi_X7_stretch K M 0 0 34 [none, none, none, some (.int l3)] [] := by
  unfold V_X7_stretch_34 at h
  refine e_blk 1 34 _ _ (pc' := 35) (L' := [none, none, none, some (.int l3)]) (st' := [.int l3]) rfl ?_
  exact e_reti rfl rfl (by decide) (by decide) h
def V_X7_stretch_7 (K : Rs → Mm → Prop)  : Nat → Mm → Nat → Int32 → Int32 → Int32 → Prop
  | 0, _, _, _, _, _ => False
  | z + 1, M, l0, l1, l2, l3 => ((l3 ≤ 0 → V_X7_stretch_34 K  M l3) ∧ (¬ l3 ≤ 0 → (ob M l0 7 ∧ ∃ b2, mP M l0 3 = some b2 ∧ (ob M b2 9 ∧ (vp_in ((((20 : Int32) * l1) + l3) - (1 : Int32)) (mN M b2) ∧ (((mI M b2 (((((20 : Int32) * l1) + l3) - (1 : Int32))).toNatClampNeg) ≤ l2 → V_X7_stretch_34 K  M l3) ∧ (¬ (mI M b2 (((((20 : Int32) * l1) + l3) - (1 : Int32))).toNatClampNeg) ≤ l2 → ∀ x5 : Int32, x5 = (l3 + (-1 : Int32)) → V_X7_stretch_7 K  z M l0 l1 l2 x5)))))))
set_option maxRecDepth 100000 in
set_option maxHeartbeats 4000000 in
theorem x_X7_stretch_7 {G : Gx} {K : Rs → Mm → Prop}  : ∀ (z : Nat) (M : Mm) (l0 : Nat) (l1 : Int32) (l2 : Int32) (l3 : Int32), V_X7_stretch_7 K  z M l0 l1 l2 l3 → E G mi_X7_stretch K M 0 0 7 [some (.ref l0), some (.int l1), some (.int l2), some (.int l3)] []
  | 0, M, l0, l1, l2, l3, h => False.elim h
  | z + 1, M, l0, l1, l2, l3, h => by
    unfold V_X7_stretch_7 at h
    refine e_blk 1 7 _ _ (pc' := 8) (L' := [some (.ref l0), some (.int l1), some (.int l2), some (.int l3)]) (st' := [.int l3]) rfl ?_
    refine e_if_le 34 rfl rfl (fun hc => ?_) (fun hc => ?_)
    · replace h := h.1 hc
      refine e_drp [false, false, false, true] (L' := [none, none, none, some (.int l3)]) rfl ?_
      exact x_X7_stretch_34  h
    · replace h := h.2 hc
      refine e_blk 1 11 _ _ (pc' := 12) (L' := [some (.ref l0), some (.int l1), some (.int l2), some (.int l3)]) (st' := [.ref l0]) rfl ?_
      obtain ⟨ho1, h⟩ := h
      obtain ⟨b2, hbb2, h⟩ := h
      refine e_getR 7 3 rfl rfl (by decide) (aw (i := 1068) (by decide +kernel) rfl) ho1 rfl hbb2 ?_
      refine e_blk 7 15 _ _ (pc' := 23) (L' := [some (.ref l0), some (.int l1), some (.int l2), some (.int l3)]) (st' := [.int ((((20 : Int32) * l1) + l3) - (1 : Int32)), .ref b2]) rfl ?_
      obtain ⟨ho3, h⟩ := h
      obtain ⟨hi4, h⟩ := h
      refine e_iald rfl ho3 hi4 ?_
      refine e_blk 1 24 _ _ (pc' := 25) (L' := [some (.ref l0), some (.int l1), some (.int l2), some (.int l3)]) (st' := [.int l2, .int (mI M b2 (((((20 : Int32) * l1) + l3) - (1 : Int32))).toNatClampNeg)]) rfl ?_
      refine e_icmp_le 34 rfl rfl (fun hc => ?_) (fun hc => ?_)
      · replace h := h.1 hc
        refine e_drp [false, false, false, true] (L' := [none, none, none, some (.int l3)]) rfl ?_
        exact x_X7_stretch_34  h
      · replace h := h.2 hc
        refine e_blk 2 28 _ _ (pc' := 7) (L' := [some (.ref l0), some (.int l1), some (.int l2), some (.int (l3 + (-1 : Int32)))]) (st' := []) rfl ?_
        generalize hx_x5 : ((l3 + (-1 : Int32)) : Int32) = x5
        replace h := h x5 hx_x5.symm
        refine e_drp [true, true, true, true] (L' := [some (.ref l0), some (.int l1), some (.int l2), some (.int x5)]) rfl ?_
        exact x_X7_stretch_7  z _ _ _ _ _ h
def V_X7_stretch (K : Rs → Mm → Prop) (M : Mm) (a0 : Nat) (a1 : Int32) (a2 : Int32) : Prop := (ob M a0 7 ∧ ∃ b2, mP M a0 2 = some b2 ∧ (ob M b2 9 ∧ (vp_in a1 (mN M b2) ∧ ∀ x5 : Int32, x5 = (mI M b2 (a1).toNatClampNeg) → ∃ y, V_X7_stretch_7 K  y M a0 a1 a2 x5)))
set_option maxRecDepth 100000 in
set_option maxHeartbeats 4000000 in
theorem x_X7_stretch {G : Gx} {K : Rs → Mm → Prop} {M : Mm} {a0 : Nat} {a1 : Int32} {a2 : Int32} (h : V_X7_stretch K M a0 a1 a2) : MC G mi_X7_stretch [.ref a0, .int a1, .int a2] M K := by
  unfold V_X7_stretch at h
  refine mc_of rfl (by decide +kernel) dc_X7_stretch (Nat.le_of_ble_eq_true rfl) 1 (Nat.le_of_ble_eq_true rfl) ?_
  show E G mi_X7_stretch K M 0 0 0 [some (.ref a0), some (.int a1), some (.int a2), none] []
  refine e_blk 1 0 _ _ (pc' := 1) (L' := [some (.ref a0), some (.int a1), some (.int a2), none]) (st' := [.ref a0]) rfl ?_
  obtain ⟨ho1, h⟩ := h
  obtain ⟨b2, hbb2, h⟩ := h
  refine e_getR 7 2 rfl rfl (by decide) (aw (i := 1067) (by decide +kernel) rfl) ho1 rfl hbb2 ?_
  refine e_blk 1 4 _ _ (pc' := 5) (L' := [some (.ref a0), some (.int a1), some (.int a2), none]) (st' := [.int a1, .ref b2]) rfl ?_
  obtain ⟨ho3, h⟩ := h
  obtain ⟨hi4, h⟩ := h
  refine e_iald rfl ho3 hi4 ?_
  refine e_blk 1 6 _ _ (pc' := 7) (L' := [some (.ref a0), some (.int a1), some (.int a2), some (.int (mI M b2 (a1).toNatClampNeg))]) (st' := []) rfl ?_
  generalize hx_x5 : ((mI M b2 (a1).toNatClampNeg) : Int32) = x5
  replace h := h x5 hx_x5.symm
  refine e_drp [true, true, true, true] (L' := [some (.ref a0), some (.int a1), some (.int a2), some (.int x5)]) rfl ?_
  obtain ⟨y, h⟩ := h
  exact x_X7_stretch_7  y _ _ _ _ _ h
def V_X7_offsetOf_26 (K : Rs → Mm → Prop)  (M : Mm) (s0 : Int32) : Prop := K (.inl (some (.int s0))) M
set_option maxRecDepth 100000 in
set_option maxHeartbeats 4000000 in
theorem x_X7_offsetOf_26 {G : Gx} {K : Rs → Mm → Prop}  {M : Mm} {s0 : Int32} (h : V_X7_offsetOf_26 K  M s0) : E G mi_X7_offsetOf K M 0 0 26 [none, none, none] [.int s0] := by
  unfold V_X7_offsetOf_26 at h
  exact e_reti rfl rfl (by decide) (by decide) h
def V_X7_offsetOf (K : Rs → Mm → Prop) (M : Mm) (a0 : Nat) (a1 : Int32) (a2 : Int32) : Prop := ((¬ a2 = 0 → (ob M a0 7 ∧ ∃ b2, mP M a0 4 = some b2 ∧ (ob M b2 9 ∧ (vp_in ((((20 : Int32) * a1) + a2) - (1 : Int32)) (mN M b2) ∧ V_X7_offsetOf_26 K  M (mI M b2 (((((20 : Int32) * a1) + a2) - (1 : Int32))).toNatClampNeg))))) ∧ (a2 = 0 → (ob M a0 7 ∧ ∃ b6, mP M a0 1 = some b6 ∧ (ob M b6 9 ∧ (vp_in a1 (mN M b6) ∧ V_X7_offsetOf_26 K  M (mI M b6 (a1).toNatClampNeg))))))
set_option maxRecDepth 100000 in
set_option maxHeartbeats 4000000 in
theorem x_X7_offsetOf {G : Gx} {K : Rs → Mm → Prop} {M : Mm} {a0 : Nat} {a1 : Int32} {a2 : Int32} (h : V_X7_offsetOf K M a0 a1 a2) : MC G mi_X7_offsetOf [.ref a0, .int a1, .int a2] M K := by
  unfold V_X7_offsetOf at h
  refine mc_of rfl (by decide +kernel) dc_X7_offsetOf (Nat.le_of_ble_eq_true rfl) 0 (Nat.le_of_ble_eq_true rfl) ?_
  show E G mi_X7_offsetOf K M 0 0 0 [some (.ref a0), some (.int a1), some (.int a2)] []
  refine e_blk 1 0 _ _ (pc' := 1) (L' := [some (.ref a0), some (.int a1), some (.int a2)]) (st' := [.int a2]) rfl ?_
  refine e_if_ne 13 rfl rfl (fun hc => ?_) (fun hc => ?_)
  · replace h := h.1 hc
    refine e_blk 1 13 _ _ (pc' := 14) (L' := [some (.ref a0), some (.int a1), some (.int a2)]) (st' := [.ref a0]) rfl ?_
    obtain ⟨ho1, h⟩ := h
    obtain ⟨b2, hbb2, h⟩ := h
    refine e_getR 7 4 rfl rfl (by decide) (aw (i := 1069) (by decide +kernel) rfl) ho1 rfl hbb2 ?_
    refine e_blk 7 17 _ _ (pc' := 25) (L' := [some (.ref a0), some (.int a1), some (.int a2)]) (st' := [.int ((((20 : Int32) * a1) + a2) - (1 : Int32)), .ref b2]) rfl ?_
    obtain ⟨ho3, h⟩ := h
    obtain ⟨hi4, h⟩ := h
    refine e_iald rfl ho3 hi4 ?_
    refine e_drp [false, false, false] (L' := [none, none, none]) rfl ?_
    exact x_X7_offsetOf_26  h
  · replace h := h.2 hc
    refine e_blk 1 4 _ _ (pc' := 5) (L' := [some (.ref a0), some (.int a1), some (.int a2)]) (st' := [.ref a0]) rfl ?_
    obtain ⟨ho5, h⟩ := h
    obtain ⟨b6, hbb6, h⟩ := h
    refine e_getR 7 1 rfl rfl (by decide) (aw (i := 1066) (by decide +kernel) rfl) ho5 rfl hbb6 ?_
    refine e_blk 1 8 _ _ (pc' := 9) (L' := [some (.ref a0), some (.int a1), some (.int a2)]) (st' := [.int a1, .ref b6]) rfl ?_
    obtain ⟨ho7, h⟩ := h
    obtain ⟨hi8, h⟩ := h
    refine e_iald rfl ho7 hi8 ?_
    refine e_blk 1 10 _ _ (pc' := 26) (L' := [some (.ref a0), some (.int a1), some (.int a2)]) (st' := [.int (mI M b6 (a1).toNatClampNeg)]) rfl ?_
    refine e_drp [false, false, false] (L' := [none, none, none]) rfl ?_
    exact x_X7_offsetOf_26  h
def V_X7_beginOf_21 (K : Rs → Mm → Prop)  (M : Mm) (s0 : Int32) : Prop := K (.inl (some (.int s0))) M
set_option maxRecDepth 100000 in
set_option maxHeartbeats 4000000 in
theorem x_X7_beginOf_21 {G : Gx} {K : Rs → Mm → Prop}  {M : Mm} {s0 : Int32} (h : V_X7_beginOf_21 K  M s0) : E G mi_X7_beginOf K M 0 0 21 [none, none, none] [.int s0] := by
  unfold V_X7_beginOf_21 at h
  exact e_reti rfl rfl (by decide) (by decide) h
def V_X7_beginOf (K : Rs → Mm → Prop) (M : Mm) (a0 : Nat) (a1 : Int32) (a2 : Int32) : Prop := ((¬ a2 = 0 → (ob M a0 7 ∧ ∃ b2, mP M a0 3 = some b2 ∧ (ob M b2 9 ∧ (vp_in ((((20 : Int32) * a1) + a2) - (1 : Int32)) (mN M b2) ∧ V_X7_beginOf_21 K  M (mI M b2 (((((20 : Int32) * a1) + a2) - (1 : Int32))).toNatClampNeg))))) ∧ (a2 = 0 → V_X7_beginOf_21 K  M (0 : Int32)))
set_option maxRecDepth 100000 in
set_option maxHeartbeats 4000000 in
theorem x_X7_beginOf {G : Gx} {K : Rs → Mm → Prop} {M : Mm} {a0 : Nat} {a1 : Int32} {a2 : Int32} (h : V_X7_beginOf K M a0 a1 a2) : MC G mi_X7_beginOf [.ref a0, .int a1, .int a2] M K := by
  unfold V_X7_beginOf at h
  refine mc_of rfl (by decide +kernel) dc_X7_beginOf (Nat.le_of_ble_eq_true rfl) 0 (Nat.le_of_ble_eq_true rfl) ?_
  show E G mi_X7_beginOf K M 0 0 0 [some (.ref a0), some (.int a1), some (.int a2)] []
  refine e_blk 1 0 _ _ (pc' := 1) (L' := [some (.ref a0), some (.int a1), some (.int a2)]) (st' := [.int a2]) rfl ?_
  refine e_if_ne 8 rfl rfl (fun hc => ?_) (fun hc => ?_)
  · replace h := h.1 hc
    refine e_blk 1 8 _ _ (pc' := 9) (L' := [some (.ref a0), some (.int a1), some (.int a2)]) (st' := [.ref a0]) rfl ?_
    obtain ⟨ho1, h⟩ := h
    obtain ⟨b2, hbb2, h⟩ := h
    refine e_getR 7 3 rfl rfl (by decide) (aw (i := 1068) (by decide +kernel) rfl) ho1 rfl hbb2 ?_
    refine e_blk 7 12 _ _ (pc' := 20) (L' := [some (.ref a0), some (.int a1), some (.int a2)]) (st' := [.int ((((20 : Int32) * a1) + a2) - (1 : Int32)), .ref b2]) rfl ?_
    obtain ⟨ho3, h⟩ := h
    obtain ⟨hi4, h⟩ := h
    refine e_iald rfl ho3 hi4 ?_
    refine e_drp [false, false, false] (L' := [none, none, none]) rfl ?_
    exact x_X7_beginOf_21  h
  · replace h := h.2 hc
    refine e_blk 2 4 _ _ (pc' := 21) (L' := [some (.ref a0), some (.int a1), some (.int a2)]) (st' := [.int (0 : Int32)]) rfl ?_
    refine e_drp [false, false, false] (L' := [none, none, none]) rfl ?_
    exact x_X7_beginOf_21  h
def V_X7_endOf_28 (K : Rs → Mm → Prop)  (M : Mm) (s0 : Int32) : Prop := K (.inl (some (.int s0))) M
set_option maxRecDepth 100000 in
set_option maxHeartbeats 4000000 in
theorem x_X7_endOf_28 {G : Gx} {K : Rs → Mm → Prop}  {M : Mm} {s0 : Int32} (h : V_X7_endOf_28 K  M s0) : E G mi_X7_endOf K M 0 0 28 [none, none, none] [.int s0] := by
  unfold V_X7_endOf_28 at h
  exact e_reti rfl rfl (by decide) (by decide) h
def V_X7_endOf (K : Rs → Mm → Prop) (M : Mm) (a0 : Nat) (a1 : Int32) (a2 : Int32) : Prop := (ob M a0 7 ∧ ∃ b2, mP M a0 2 = some b2 ∧ (ob M b2 9 ∧ (vp_in a1 (mN M b2) ∧ ((¬ a2 = (mI M b2 (a1).toNatClampNeg) → ∃ b5, mP M a0 3 = some b5 ∧ (ob M b5 9 ∧ (vp_in (((20 : Int32) * a1) + a2) (mN M b5) ∧ V_X7_endOf_28 K  M ((mI M b5 ((((20 : Int32) * a1) + a2)).toNatClampNeg) - (1 : Int32))))) ∧ (a2 = (mI M b2 (a1).toNatClampNeg) → V_X7_endOf_28 K  M (157785119 : Int32))))))
set_option maxRecDepth 100000 in
set_option maxHeartbeats 4000000 in
theorem x_X7_endOf {G : Gx} {K : Rs → Mm → Prop} {M : Mm} {a0 : Nat} {a1 : Int32} {a2 : Int32} (h : V_X7_endOf K M a0 a1 a2) : MC G mi_X7_endOf [.ref a0, .int a1, .int a2] M K := by
  unfold V_X7_endOf at h
  refine mc_of rfl (by decide +kernel) dc_X7_endOf (Nat.le_of_ble_eq_true rfl) 0 (Nat.le_of_ble_eq_true rfl) ?_
  show E G mi_X7_endOf K M 0 0 0 [some (.ref a0), some (.int a1), some (.int a2)] []
  refine e_blk 2 0 _ _ (pc' := 2) (L' := [some (.ref a0), some (.int a1), some (.int a2)]) (st' := [.ref a0, .int a2]) rfl ?_
  obtain ⟨ho1, h⟩ := h
  obtain ⟨b2, hbb2, h⟩ := h
  refine e_getR 7 2 rfl rfl (by decide) (aw (i := 1067) (by decide +kernel) rfl) ho1 rfl hbb2 ?_
  refine e_blk 1 5 _ _ (pc' := 6) (L' := [some (.ref a0), some (.int a1), some (.int a2)]) (st' := [.int a1, .ref b2, .int a2]) rfl ?_
  obtain ⟨ho3, h⟩ := h
  obtain ⟨hi4, h⟩ := h
  refine e_iald rfl ho3 hi4 ?_
  refine e_icmp_ne 15 rfl rfl (fun hc => ?_) (fun hc => ?_)
  · replace h := h.1 hc
    refine e_blk 1 15 _ _ (pc' := 16) (L' := [some (.ref a0), some (.int a1), some (.int a2)]) (st' := [.ref a0]) rfl ?_
    obtain ⟨b5, hbb5, h⟩ := h
    refine e_getR 7 3 rfl rfl (by decide) (aw (i := 1068) (by decide +kernel) rfl) ho1 rfl hbb5 ?_
    refine e_blk 5 19 _ _ (pc' := 25) (L' := [some (.ref a0), some (.int a1), some (.int a2)]) (st' := [.int (((20 : Int32) * a1) + a2), .ref b5]) rfl ?_
    obtain ⟨ho6, h⟩ := h
    obtain ⟨hi7, h⟩ := h
    refine e_iald rfl ho6 hi7 ?_
    refine e_blk 2 26 _ _ (pc' := 28) (L' := [some (.ref a0), some (.int a1), some (.int a2)]) (st' := [.int ((mI M b5 ((((20 : Int32) * a1) + a2)).toNatClampNeg) - (1 : Int32))]) rfl ?_
    refine e_drp [false, false, false] (L' := [none, none, none]) rfl ?_
    exact x_X7_endOf_28  h
  · replace h := h.2 hc
    refine e_ldc (157785119) rfl (aw (i := 1322) (by decide +kernel) rfl) ?_
    refine e_blk 1 12 _ _ (pc' := 28) (L' := [some (.ref a0), some (.int a1), some (.int a2)]) (st' := [.int (157785119 : Int32)]) rfl ?_
    refine e_drp [false, false, false] (L' := [none, none, none]) rfl ?_
    exact x_X7_endOf_28  h
def V_X7_civil_47 (K : Rs → Mm → Prop)  (M : Mm) (l0 : Nat) : Prop := (ob M l0 7 ∧ V_X7_wrong (kI (fun r3 M2 => K (.inl (some (.int r3))) M2) (fun _ _ => False)) M l0 (2 : Int32))
set_option maxRecDepth 100000 in
set_option maxHeartbeats 4000000 in
theorem x_X7_civil_47 {G : Gx} {K : Rs → Mm → Prop}  {M : Mm} {l0 : Nat} (h : V_X7_civil_47 K  M l0) : E G mi_X7_civil K M 0 0 47 [some (.ref l0), none, none, none, none, none, none] [] := by
  unfold V_X7_civil_47 at h
  refine e_blk 2 47 _ _ (pc' := 49) (L' := [some (.ref l0), none, none, none, none, none, none]) (st' := [.int (2 : Int32), .ref l0]) rfl ?_
  obtain ⟨ho1, h⟩ := h
  refine e_callV (As := [.int (2 : Int32)]) (rest := []) (ci := 7) rfl (x_X7_wrong h) ho1 rfl rfl rfl (aw (i := 1265) (by decide +kernel) rfl) wn_X7_wrong wv_X7_wrong wi_X7_wrong wc_X7_wrong (show cok mi_X7_civil mi_X7_wrong 0 0 1 = true by decide +kernel) (Nat.le_of_ble_eq_true rfl) (fun v9 M2 hq => ?_) (fun X M9 hq => False.elim hq)
  obtain ⟨r3, rfl, h⟩ := kI_l hq
  exact e_reti rfl rfl (by decide) (by decide) h
def V_X7_civil (K : Rs → Mm → Prop) (M : Mm) (a0 : Nat) (a1 : Int32) (a2 : Int32) (a3 : Int32) : Prop := (ob M a0 7 ∧ ∀ M2, M2 = sI M a0 0 (0 : Int32) → V_X7_in (kI (fun r4 M3 => ((¬ r4 = 0 → V_X7_in (kI (fun r6 M5 => ((r6 = 0 → V_X7_civil_47 K  M5 a0) ∧ (¬ r6 = 0 → V_X7_in (kI (fun r8 M7 => ((¬ r8 = 0 → (ob M7 a0 7 ∧ V_X7_stretch (kI (fun r11 M10 => (ob M10 a0 7 ∧ V_X7_offsetOf (kI (fun r14 M13 => ∀ x15 : Int32, x15 = (a2 + r14) → V_X7_floor (kI (fun r17 M16 => (ob M16 a0 7 ∧ V_X7_date (kV (fun M19 => ∀ x20 : Int32, x20 = (x15 - ((1440 : Int32) * r17)) → ((((a3).toInt < 0 ∨ 6 < (a3).toInt) → (ob M19 a0 7 ∧ V_X7_daysOf (kI (fun r24 M23 => K (.inl (some (.int r24))) M23) (fun _ _ => False)) M19 (mI M19 a0 5) (mI M19 a0 6))) ∧ ((a3 = 0 → (ob M19 a0 7 ∧ K (.inl (some (.int (mI M19 a0 5)))) M19)) ∧ ((a3 = 1 → (ob M19 a0 7 ∧ K (.inl (some (.int (mI M19 a0 6)))) M19)) ∧ ((a3 = 2 → (ob M19 a0 7 ∧ K (.inl (some (.int (mI M19 a0 7)))) M19)) ∧ ((a3 = 3 → (ob M19 a0 7 ∧ K (.inl (some (.int (mI M19 a0 8)))) M19)) ∧ ((a3 = 4 → K (.inl (some (.int (x20 / (60 : Int32))))) M19) ∧ ((a3 = 5 → K (.inl (some (.int (x20 - x20 / (60 : Int32) * (60 : Int32))))) M19) ∧ ((a3 = 6 → (ob M19 a0 7 ∧ K (.inl (some (.int (mI M19 a0 9)))) M19)) ∧ True))))))))) (fun _ _ => False)) M16 a0 r17)) (fun _ _ => False)) M13 x15 (1440 : Int32)) (fun _ _ => False)) M10 a0 a1 r11)) (fun _ _ => False)) M7 a0 a1 a2)) ∧ (r8 = 0 → V_X7_civil_47 K  M7 a0))) (fun _ _ => False)) M5 ((a3).toInt64) (0 : Int64) (7 : Int64)))) (fun _ _ => False)) M3 ((a2).toInt64) (0 : Int64) (157785119 : Int64)) ∧ (r4 = 0 → (ob M3 a0 7 ∧ V_X7_wrong (kI (fun r39 M38 => K (.inl (some (.int r39))) M38) (fun _ _ => False)) M3 a0 (1 : Int32))))) (fun _ _ => False)) M2 ((a1).toInt64) (0 : Int64) (3 : Int64))
set_option maxRecDepth 100000 in
set_option maxHeartbeats 4000000 in
theorem x_X7_civil {G : Gx} {K : Rs → Mm → Prop} {M : Mm} {a0 : Nat} {a1 : Int32} {a2 : Int32} {a3 : Int32} (h : V_X7_civil K M a0 a1 a2 a3) : MC G mi_X7_civil [.ref a0, .int a1, .int a2, .int a3] M K := by
  unfold V_X7_civil at h
  refine mc_of rfl (by decide +kernel) dc_X7_civil (Nat.le_of_ble_eq_true rfl) 3 (Nat.le_of_ble_eq_true rfl) ?_
  show E G mi_X7_civil K M 0 0 0 [some (.ref a0), some (.int a1), some (.int a2), some (.int a3), none, none, none] []
  refine e_blk 2 0 _ _ (pc' := 2) (L' := [some (.ref a0), some (.int a1), some (.int a2), some (.int a3), none, none, none]) (st' := [.int (0 : Int32), .ref a0]) rfl ?_
  obtain ⟨ho1, h⟩ := h
  refine e_putI 7 0 rfl rfl (by decide) (aw (i := 1065) (by decide +kernel) rfl) rfl ho1 rfl ?_
  generalize hM2 : sI M a0 0 (0 : Int32) = M2
  replace h := h M2 hM2.symm
  replace ho1 : ob M2 a0 7 := hM2 ▸ ob_sI ho1
  refine e_blk 3 5 _ _ (pc' := 8) (L' := [some (.ref a0), some (.int a1), some (.int a2), some (.int a3), none, none, none]) (st' := [.long (0 : Int64), .long ((a1).toInt64)]) rfl ?_
  refine e_ldc2 (3) rfl (aw (i := 1255) (by decide +kernel) rfl) ?_
  refine e_callS (As := [.long ((a1).toInt64), .long (0 : Int64), .long (3 : Int64)]) (rest := []) rfl (x_X7_in h) rfl (aw (i := 1256) (by decide +kernel) rfl) ws_X7_in wi_X7_in wc_X7_in (show cok mi_X7_civil mi_X7_in 0 0 3 = true by decide +kernel) (Nat.le_of_ble_eq_true rfl) (fun v9 M3 hq => ?_) (fun X M9 hq => False.elim hq)
  obtain ⟨r4, rfl, h⟩ := kI_l hq
  refine e_if_ne 23 rfl rfl (fun hc => ?_) (fun hc => ?_)
  · replace h := h.1 hc
    refine e_blk 3 23 _ _ (pc' := 26) (L' := [some (.ref a0), some (.int a1), some (.int a2), some (.int a3), none, none, none]) (st' := [.long (0 : Int64), .long ((a2).toInt64)]) rfl ?_
    refine e_ldc2 (157785119) rfl (aw (i := 1269) (by decide +kernel) rfl) ?_
    refine e_callS (As := [.long ((a2).toInt64), .long (0 : Int64), .long (157785119 : Int64)]) (rest := []) rfl (x_X7_in h) rfl (aw (i := 1256) (by decide +kernel) rfl) ws_X7_in wi_X7_in wc_X7_in (show cok mi_X7_civil mi_X7_in 0 0 3 = true by decide +kernel) (Nat.le_of_ble_eq_true rfl) (fun v9 M5 hq => ?_) (fun X M9 hq => False.elim hq)
    obtain ⟨r6, rfl, h⟩ := kI_l hq
    refine e_if_eq 47 rfl rfl (fun hc => ?_) (fun hc => ?_)
    · replace h := h.1 hc
      refine e_drp [true, false, false, false, false, false, false] (L' := [some (.ref a0), none, none, none, none, none, none]) rfl ?_
      exact x_X7_civil_47  h
    · replace h := h.2 hc
      refine e_blk 3 35 _ _ (pc' := 38) (L' := [some (.ref a0), some (.int a1), some (.int a2), some (.int a3), none, none, none]) (st' := [.long (0 : Int64), .long ((a3).toInt64)]) rfl ?_
      refine e_ldc2 (7) rfl (aw (i := 1274) (by decide +kernel) rfl) ?_
      refine e_callS (As := [.long ((a3).toInt64), .long (0 : Int64), .long (7 : Int64)]) (rest := []) rfl (x_X7_in h) rfl (aw (i := 1256) (by decide +kernel) rfl) ws_X7_in wi_X7_in wc_X7_in (show cok mi_X7_civil mi_X7_in 0 0 3 = true by decide +kernel) (Nat.le_of_ble_eq_true rfl) (fun v9 M7 hq => ?_) (fun X M9 hq => False.elim hq)
      obtain ⟨r8, rfl, h⟩ := kI_l hq
      refine e_if_ne 53 rfl rfl (fun hc => ?_) (fun hc => ?_)
      · replace h := h.1 hc
        refine e_blk 6 53 _ _ (pc' := 59) (L' := [some (.ref a0), some (.int a1), some (.int a2), some (.int a3), none, none, none]) (st' := [.int a2, .int a1, .ref a0, .int a1, .ref a0, .int a2]) rfl ?_
        obtain ⟨ho9, h⟩ := h
        refine e_callV (As := [.int a1, .int a2]) (rest := [.int a1, .ref a0, .int a2]) (ci := 7) rfl (x_X7_stretch h) ho9 rfl rfl rfl (aw (i := 1275) (by decide +kernel) rfl) wn_X7_stretch wv_X7_stretch wi_X7_stretch wc_X7_stretch (show cok mi_X7_civil mi_X7_stretch 0 0 2 = true by decide +kernel) (Nat.le_of_ble_eq_true rfl) (fun v9 M10 hq => ?_) (fun X M9 hq => False.elim hq)
        obtain ⟨r11, rfl, h⟩ := kI_l hq
        obtain ⟨ho12, h⟩ := h
        refine e_callV (As := [.int a1, .int r11]) (rest := [.int a2]) (ci := 7) rfl (x_X7_offsetOf h) ho12 rfl rfl rfl (aw (i := 1279) (by decide +kernel) rfl) wn_X7_offsetOf wv_X7_offsetOf wi_X7_offsetOf wc_X7_offsetOf (show cok mi_X7_civil mi_X7_offsetOf 0 0 2 = true by decide +kernel) (Nat.le_of_ble_eq_true rfl) (fun v9 M13 hq => ?_) (fun X M9 hq => False.elim hq)
        obtain ⟨r14, rfl, h⟩ := kI_l hq
        refine e_blk 4 65 _ _ (pc' := 73) (L' := [some (.ref a0), some (.int a1), some (.int a2), some (.int a3), some (.int (a2 + r14)), none, none]) (st' := [.int (1440 : Int32), .int (a2 + r14)]) rfl ?_
        generalize hx_x15 : ((a2 + r14) : Int32) = x15
        replace h := h x15 hx_x15.symm
        refine e_callS (As := [.int x15, .int (1440 : Int32)]) (rest := []) rfl (x_X7_floor h) rfl (aw (i := 1283) (by decide +kernel) rfl) ws_X7_floor wi_X7_floor wc_X7_floor (show cok mi_X7_civil mi_X7_floor 0 0 2 = true by decide +kernel) (Nat.le_of_ble_eq_true rfl) (fun v9 M16 hq => ?_) (fun X M9 hq => False.elim hq)
        obtain ⟨r17, rfl, h⟩ := kI_l hq
        refine e_blk 3 76 _ _ (pc' := 81) (L' := [some (.ref a0), some (.int a1), some (.int a2), some (.int a3), some (.int x15), some (.int r17), none]) (st' := [.int r17, .ref a0]) rfl ?_
        obtain ⟨ho18, h⟩ := h
        refine e_callV (As := [.int r17]) (rest := []) (ci := 7) rfl (x_X7_date h) ho18 rfl rfl rfl (aw (i := 1286) (by decide +kernel) rfl) wn_X7_date wv_X7_date wi_X7_date wc_X7_date (show cok mi_X7_civil mi_X7_date 0 0 1 = true by decide +kernel) (Nat.le_of_ble_eq_true rfl) (fun v9 M19 hq => ?_) (fun X M9 hq => False.elim hq)
        obtain ⟨rfl, h⟩ := kV_l hq
        refine e_blk 7 84 _ _ (pc' := 96) (L' := [some (.ref a0), some (.int a1), some (.int a2), some (.int a3), some (.int x15), some (.int r17), some (.int (x15 - ((1440 : Int32) * r17)))]) (st' := [.int a3]) rfl ?_
        generalize hx_x20 : ((x15 - ((1440 : Int32) * r17)) : Int32) = x20
        replace h := h x20 hx_x20.symm
        by_cases hs21 : (a3).toInt < 0 ∨ 6 < (a3).toInt
        · replace h := h.1 hs21
          refine e_swO 177 rfl hs21 rfl ?_
          refine e_blk 1 177 _ _ (pc' := 178) (L' := [some (.ref a0), some (.int a1), some (.int a2), some (.int a3), some (.int x15), some (.int r17), some (.int x20)]) (st' := [.ref a0]) rfl ?_
          obtain ⟨ho22, h⟩ := h
          refine e_getI 7 5 rfl rfl (by decide) (aw (i := 1070) (by decide +kernel) rfl) ho22 rfl ?_
          refine e_blk 1 181 _ _ (pc' := 182) (L' := [some (.ref a0), some (.int a1), some (.int a2), some (.int a3), some (.int x15), some (.int r17), some (.int x20)]) (st' := [.ref a0, .int (mI M19 a0 5)]) rfl ?_
          refine e_getI 7 6 rfl rfl (by decide) (aw (i := 1071) (by decide +kernel) rfl) ho22 rfl ?_
          refine e_callS (As := [.int (mI M19 a0 5), .int (mI M19 a0 6)]) (rest := []) rfl (x_X7_daysOf h) rfl (aw (i := 1293) (by decide +kernel) rfl) ws_X7_daysOf wi_X7_daysOf wc_X7_daysOf (show cok mi_X7_civil mi_X7_daysOf 0 0 2 = true by decide +kernel) (Nat.le_of_ble_eq_true rfl) (fun v9 M23 hq => ?_) (fun X M9 hq => False.elim hq)
          obtain ⟨r24, rfl, h⟩ := kI_l hq
          exact e_reti rfl rfl (by decide) (by decide) h
        replace h := h.2
        by_cases he25 : a3 = 0
        · replace h := h.1 he25
          refine e_swI (44) 140 rfl (fun q => hs21 (Or.inl q)) (fun q => hs21 (Or.inr q)) (by rw [he25]; decide) rfl ?_
          refine e_blk 1 140 _ _ (pc' := 141) (L' := [some (.ref a0), some (.int a1), some (.int a2), some (.int a3), some (.int x15), some (.int r17), some (.int x20)]) (st' := [.ref a0]) rfl ?_
          obtain ⟨ho26, h⟩ := h
          refine e_getI 7 5 rfl rfl (by decide) (aw (i := 1070) (by decide +kernel) rfl) ho26 rfl ?_
          exact e_reti rfl rfl (by decide) (by decide) h
        replace h := h.2
        by_cases he27 : a3 = 1
        · replace h := h.1 he27
          refine e_swI (49) 145 rfl (fun q => hs21 (Or.inl q)) (fun q => hs21 (Or.inr q)) (by rw [he27]; decide) rfl ?_
          refine e_blk 1 145 _ _ (pc' := 146) (L' := [some (.ref a0), some (.int a1), some (.int a2), some (.int a3), some (.int x15), some (.int r17), some (.int x20)]) (st' := [.ref a0]) rfl ?_
          obtain ⟨ho28, h⟩ := h
          refine e_getI 7 6 rfl rfl (by decide) (aw (i := 1071) (by decide +kernel) rfl) ho28 rfl ?_
          exact e_reti rfl rfl (by decide) (by decide) h
        replace h := h.2
        by_cases he29 : a3 = 2
        · replace h := h.1 he29
          refine e_swI (54) 150 rfl (fun q => hs21 (Or.inl q)) (fun q => hs21 (Or.inr q)) (by rw [he29]; decide) rfl ?_
          refine e_blk 1 150 _ _ (pc' := 151) (L' := [some (.ref a0), some (.int a1), some (.int a2), some (.int a3), some (.int x15), some (.int r17), some (.int x20)]) (st' := [.ref a0]) rfl ?_
          obtain ⟨ho30, h⟩ := h
          refine e_getI 7 7 rfl rfl (by decide) (aw (i := 1072) (by decide +kernel) rfl) ho30 rfl ?_
          exact e_reti rfl rfl (by decide) (by decide) h
        replace h := h.2
        by_cases he31 : a3 = 3
        · replace h := h.1 he31
          refine e_swI (59) 155 rfl (fun q => hs21 (Or.inl q)) (fun q => hs21 (Or.inr q)) (by rw [he31]; decide) rfl ?_
          refine e_blk 1 155 _ _ (pc' := 156) (L' := [some (.ref a0), some (.int a1), some (.int a2), some (.int a3), some (.int x15), some (.int r17), some (.int x20)]) (st' := [.ref a0]) rfl ?_
          obtain ⟨ho32, h⟩ := h
          refine e_getI 7 8 rfl rfl (by decide) (aw (i := 1073) (by decide +kernel) rfl) ho32 rfl ?_
          exact e_reti rfl rfl (by decide) (by decide) h
        replace h := h.2
        by_cases he33 : a3 = 4
        · replace h := h.1 he33
          refine e_swI (64) 160 rfl (fun q => hs21 (Or.inl q)) (fun q => hs21 (Or.inr q)) (by rw [he33]; decide) rfl ?_
          refine e_blk 2 160 _ _ (pc' := 164) (L' := [some (.ref a0), some (.int a1), some (.int a2), some (.int a3), some (.int x15), some (.int r17), some (.int x20)]) (st' := [.int (60 : Int32), .int x20]) rfl ?_
          refine e_idiv rfl (by decide) ?_
          exact e_reti rfl rfl (by decide) (by decide) h
        replace h := h.2
        by_cases he34 : a3 = 5
        · replace h := h.1 he34
          refine e_swI (70) 166 rfl (fun q => hs21 (Or.inl q)) (fun q => hs21 (Or.inr q)) (by rw [he34]; decide) rfl ?_
          refine e_blk 2 166 _ _ (pc' := 170) (L' := [some (.ref a0), some (.int a1), some (.int a2), some (.int a3), some (.int x15), some (.int r17), some (.int x20)]) (st' := [.int (60 : Int32), .int x20]) rfl ?_
          refine e_irem rfl (by decide) ?_
          exact e_reti rfl rfl (by decide) (by decide) h
        replace h := h.2
        by_cases he35 : a3 = 6
        · replace h := h.1 he35
          refine e_swI (76) 172 rfl (fun q => hs21 (Or.inl q)) (fun q => hs21 (Or.inr q)) (by rw [he35]; decide) rfl ?_
          refine e_blk 1 172 _ _ (pc' := 173) (L' := [some (.ref a0), some (.int a1), some (.int a2), some (.int a3), some (.int x15), some (.int r17), some (.int x20)]) (st' := [.ref a0]) rfl ?_
          obtain ⟨ho36, h⟩ := h
          refine e_getI 7 9 rfl rfl (by decide) (aw (i := 1074) (by decide +kernel) rfl) ho36 rfl ?_
          exact e_reti rfl rfl (by decide) (by decide) h
        replace h := h.2
        exfalso
        have the25 : (a3).toInt ≠ 0 := fun q => he25 (Int32.toInt_inj.mp (q.trans (by decide)))
        have the27 : (a3).toInt ≠ 1 := fun q => he27 (Int32.toInt_inj.mp (q.trans (by decide)))
        have the29 : (a3).toInt ≠ 2 := fun q => he29 (Int32.toInt_inj.mp (q.trans (by decide)))
        have the31 : (a3).toInt ≠ 3 := fun q => he31 (Int32.toInt_inj.mp (q.trans (by decide)))
        have the33 : (a3).toInt ≠ 4 := fun q => he33 (Int32.toInt_inj.mp (q.trans (by decide)))
        have the34 : (a3).toInt ≠ 5 := fun q => he34 (Int32.toInt_inj.mp (q.trans (by decide)))
        have the35 : (a3).toInt ≠ 6 := fun q => he35 (Int32.toInt_inj.mp (q.trans (by decide)))
        omega
      · replace h := h.2 hc
        refine e_drp [true, false, false, false, false, false, false] (L' := [some (.ref a0), none, none, none, none, none, none]) rfl ?_
        exact x_X7_civil_47  h
  · replace h := h.2 hc
    refine e_blk 2 17 _ _ (pc' := 19) (L' := [some (.ref a0), some (.int a1), some (.int a2), some (.int a3), none, none, none]) (st' := [.int (1 : Int32), .ref a0]) rfl ?_
    obtain ⟨ho37, h⟩ := h
    refine e_callV (As := [.int (1 : Int32)]) (rest := []) (ci := 7) rfl (x_X7_wrong h) ho37 rfl rfl rfl (aw (i := 1265) (by decide +kernel) rfl) wn_X7_wrong wv_X7_wrong wi_X7_wrong wc_X7_wrong (show cok mi_X7_civil mi_X7_wrong 0 0 1 = true by decide +kernel) (Nat.le_of_ble_eq_true rfl) (fun v9 M38 hq => ?_) (fun X M9 hq => False.elim hq)
    obtain ⟨r39, rfl, h⟩ := kI_l hq
    exact e_reti rfl rfl (by decide) (by decide) h
def V_X7_minute_140 (K : Rs → Mm → Prop) (B90 : Mm → Nat → Int32 → Int32 → Int32 → Prop) (M : Mm) (l0 : Nat) (l1 : Int32) (l7 : Int32) (l8 : Int32) : Prop := ∀ x1 : Int32, x1 = (l8 + (1 : Int32)) → B90 M l0 l1 l7 x1
set_option maxRecDepth 100000 in
set_option maxHeartbeats 4000000 in
theorem x_X7_minute_140 {G : Gx} {K : Rs → Mm → Prop} {B90 : Mm → Nat → Int32 → Int32 → Int32 → Prop} (hB90 : ∀ M l0 l1 l7 l8, B90 M l0 l1 l7 l8 → E G mi_X7_minute K M 0 0 90 [some (.ref l0), some (.int l1), none, none, none, none, none, some (.int l7), some (.int l8), none] []) {M : Mm} {l0 : Nat} {l1 : Int32} {l7 : Int32} {l8 : Int32} (h : V_X7_minute_140 K B90 M l0 l1 l7 l8) : E G mi_X7_minute K M 0 0 140 [some (.ref l0), some (.int l1), none, none, none, none, none, some (.int l7), some (.int l8), none] [] := by
  unfold V_X7_minute_140 at h
  refine e_blk 2 140 _ _ (pc' := 90) (L' := [some (.ref l0), some (.int l1), none, none, none, none, none, some (.int l7), some (.int (l8 + (1 : Int32))), none]) (st' := []) rfl ?_
  generalize hx_x1 : ((l8 + (1 : Int32)) : Int32) = x1
  replace h := h x1 hx_x1.symm
  refine e_drp [true, true, false, false, false, false, false, true, true, false] (L' := [some (.ref l0), some (.int l1), none, none, none, none, none, some (.int l7), some (.int x1), none]) rfl ?_
  exact hB90 _ _ _ _ _ h
def V_X7_minute_90 (K : Rs → Mm → Prop)  : Nat → Mm → Nat → Int32 → Int32 → Int32 → Prop
  | 0, _, _, _, _, _ => False
  | z + 1, M, l0, l1, l7, l8 => (ob M l0 7 ∧ ∃ b2, mP M l0 2 = some b2 ∧ (ob M b2 9 ∧ (vp_in l1 (mN M b2) ∧ (((mI M b2 (l1).toNatClampNeg) < l8 → K (.inl (some (.int (-1 : Int32)))) M) ∧ (¬ (mI M b2 (l1).toNatClampNeg) < l8 → V_X7_offsetOf (kI (fun r6 M5 => ∀ x7 : Int32, x7 = (l7 - r6) → (ob M5 l0 7 ∧ V_X7_beginOf (kI (fun r10 M9 => ((x7 < r10 → V_X7_minute_140 K (fun M l0 l1 l7 l8 => V_X7_minute_90 K  z M l0 l1 l7 l8) M9 l0 l1 l7 l8) ∧ (¬ x7 < r10 → (ob M9 l0 7 ∧ V_X7_endOf (kI (fun r13 M12 => ((r13 < x7 → V_X7_minute_140 K (fun M l0 l1 l7 l8 => V_X7_minute_90 K  z M l0 l1 l7 l8) M12 l0 l1 l7 l8) ∧ (¬ r13 < x7 → K (.inl (some (.int x7))) M12))) (fun _ _ => False)) M9 l0 l1 l8)))) (fun _ _ => False)) M5 l0 l1 l8)) (fun _ _ => False)) M l0 l1 l8)))))
set_option maxRecDepth 100000 in
set_option maxHeartbeats 4000000 in
theorem x_X7_minute_90 {G : Gx} {K : Rs → Mm → Prop}  : ∀ (z : Nat) (M : Mm) (l0 : Nat) (l1 : Int32) (l7 : Int32) (l8 : Int32), V_X7_minute_90 K  z M l0 l1 l7 l8 → E G mi_X7_minute K M 0 0 90 [some (.ref l0), some (.int l1), none, none, none, none, none, some (.int l7), some (.int l8), none] []
  | 0, M, l0, l1, l7, l8, h => False.elim h
  | z + 1, M, l0, l1, l7, l8, h => by
    unfold V_X7_minute_90 at h
    refine e_blk 2 90 _ _ (pc' := 93) (L' := [some (.ref l0), some (.int l1), none, none, none, none, none, some (.int l7), some (.int l8), none]) (st' := [.ref l0, .int l8]) rfl ?_
    obtain ⟨ho1, h⟩ := h
    obtain ⟨b2, hbb2, h⟩ := h
    refine e_getR 7 2 rfl rfl (by decide) (aw (i := 1067) (by decide +kernel) rfl) ho1 rfl hbb2 ?_
    refine e_blk 1 96 _ _ (pc' := 97) (L' := [some (.ref l0), some (.int l1), none, none, none, none, none, some (.int l7), some (.int l8), none]) (st' := [.int l1, .ref b2, .int l8]) rfl ?_
    obtain ⟨ho3, h⟩ := h
    obtain ⟨hi4, h⟩ := h
    refine e_iald rfl ho3 hi4 ?_
    refine e_icmp_gt 146 rfl rfl (fun hc => ?_) (fun hc => ?_)
    · replace h := h.1 hc
      refine e_blk 1 146 _ _ (pc' := 147) (L' := [some (.ref l0), some (.int l1), none, none, none, none, none, some (.int l7), some (.int l8), none]) (st' := [.int (-1 : Int32)]) rfl ?_
      exact e_reti rfl rfl (by decide) (by decide) h
    · replace h := h.2 hc
      refine e_blk 4 101 _ _ (pc' := 107) (L' := [some (.ref l0), some (.int l1), none, none, none, none, none, some (.int l7), some (.int l8), none]) (st' := [.int l8, .int l1, .ref l0, .int l7]) rfl ?_
      refine e_callV (As := [.int l1, .int l8]) (rest := [.int l7]) (ci := 7) rfl (x_X7_offsetOf h) ho1 rfl rfl rfl (aw (i := 1279) (by decide +kernel) rfl) wn_X7_offsetOf wv_X7_offsetOf wi_X7_offsetOf wc_X7_offsetOf (show cok mi_X7_minute mi_X7_offsetOf 0 0 2 = true by decide +kernel) (Nat.le_of_ble_eq_true rfl) (fun v9 M5 hq => ?_) (fun X M9 hq => False.elim hq)
      obtain ⟨r6, rfl, h⟩ := kI_l hq
      refine e_blk 6 110 _ _ (pc' := 119) (L' := [some (.ref l0), some (.int l1), none, none, none, none, none, some (.int l7), some (.int l8), some (.int (l7 - r6))]) (st' := [.int l8, .int l1, .ref l0, .int (l7 - r6)]) rfl ?_
      generalize hx_x7 : ((l7 - r6) : Int32) = x7
      replace h := h x7 hx_x7.symm
      obtain ⟨ho8, h⟩ := h
      refine e_callV (As := [.int l1, .int l8]) (rest := [.int x7]) (ci := 7) rfl (x_X7_beginOf h) ho8 rfl rfl rfl (aw (i := 1314) (by decide +kernel) rfl) wn_X7_beginOf wv_X7_beginOf wi_X7_beginOf wc_X7_beginOf (show cok mi_X7_minute mi_X7_beginOf 0 0 2 = true by decide +kernel) (Nat.le_of_ble_eq_true rfl) (fun v9 M9 hq => ?_) (fun X M9 hq => False.elim hq)
      obtain ⟨r10, rfl, h⟩ := kI_l hq
      refine e_icmp_lt 140 rfl rfl (fun hc => ?_) (fun hc => ?_)
      · replace h := h.1 hc
        refine e_drp [true, true, false, false, false, false, false, true, true, false] (L' := [some (.ref l0), some (.int l1), none, none, none, none, none, some (.int l7), some (.int l8), none]) rfl ?_
        exact x_X7_minute_140 (fun M l0 l1 l7 l8 h => x_X7_minute_90  z M l0 l1 l7 l8 h) h
      · replace h := h.2 hc
        refine e_blk 4 125 _ _ (pc' := 131) (L' := [some (.ref l0), some (.int l1), none, none, none, none, none, some (.int l7), some (.int l8), some (.int x7)]) (st' := [.int l8, .int l1, .ref l0, .int x7]) rfl ?_
        obtain ⟨ho11, h⟩ := h
        refine e_callV (As := [.int l1, .int l8]) (rest := [.int x7]) (ci := 7) rfl (x_X7_endOf h) ho11 rfl rfl rfl (aw (i := 1318) (by decide +kernel) rfl) wn_X7_endOf wv_X7_endOf wi_X7_endOf wc_X7_endOf (show cok mi_X7_minute mi_X7_endOf 0 0 2 = true by decide +kernel) (Nat.le_of_ble_eq_true rfl) (fun v9 M12 hq => ?_) (fun X M9 hq => False.elim hq)
        obtain ⟨r13, rfl, h⟩ := kI_l hq
        refine e_icmp_gt 140 rfl rfl (fun hc => ?_) (fun hc => ?_)
        · replace h := h.1 hc
          refine e_drp [true, true, false, false, false, false, false, true, true, false] (L' := [some (.ref l0), some (.int l1), none, none, none, none, none, some (.int l7), some (.int l8), none]) rfl ?_
          exact x_X7_minute_140 (fun M l0 l1 l7 l8 h => x_X7_minute_90  z M l0 l1 l7 l8 h) h
        · replace h := h.2 hc
          refine e_blk 1 137 _ _ (pc' := 139) (L' := [some (.ref l0), some (.int l1), none, none, none, none, none, some (.int l7), some (.int l8), some (.int x7)]) (st' := [.int x7]) rfl ?_
          exact e_reti rfl rfl (by decide) (by decide) h
def V_X7_minute_59 (K : Rs → Mm → Prop)  (M : Mm) (l0 : Nat) : Prop := (ob M l0 7 ∧ V_X7_wrong (kI (fun r3 M2 => K (.inl (some (.int r3))) M2) (fun _ _ => False)) M l0 (2 : Int32))
set_option maxRecDepth 100000 in
set_option maxHeartbeats 4000000 in
theorem x_X7_minute_59 {G : Gx} {K : Rs → Mm → Prop}  {M : Mm} {l0 : Nat} (h : V_X7_minute_59 K  M l0) : E G mi_X7_minute K M 0 0 59 [some (.ref l0), none, none, none, none, none, none, none, none, none] [] := by
  unfold V_X7_minute_59 at h
  refine e_blk 2 59 _ _ (pc' := 61) (L' := [some (.ref l0), none, none, none, none, none, none, none, none, none]) (st' := [.int (2 : Int32), .ref l0]) rfl ?_
  obtain ⟨ho1, h⟩ := h
  refine e_callV (As := [.int (2 : Int32)]) (rest := []) (ci := 7) rfl (x_X7_wrong h) ho1 rfl rfl rfl (aw (i := 1265) (by decide +kernel) rfl) wn_X7_wrong wv_X7_wrong wi_X7_wrong wc_X7_wrong (show cok mi_X7_minute mi_X7_wrong 0 0 1 = true by decide +kernel) (Nat.le_of_ble_eq_true rfl) (fun v9 M2 hq => ?_) (fun X M9 hq => False.elim hq)
  obtain ⟨r3, rfl, h⟩ := kI_l hq
  exact e_reti rfl rfl (by decide) (by decide) h
def V_X7_minute (K : Rs → Mm → Prop) (M : Mm) (a0 : Nat) (a1 : Int32) (a2 : Int32) (a3 : Int32) (a4 : Int32) (a5 : Int32) (a6 : Int32) : Prop := (ob M a0 7 ∧ ∀ M2, M2 = sI M a0 0 (0 : Int32) → V_X7_in (kI (fun r4 M3 => ((¬ r4 = 0 → V_X7_isDate (kI (fun r6 M5 => ((r6 = 0 → V_X7_minute_59 K  M5 a0) ∧ (¬ r6 = 0 → V_X7_in (kI (fun r8 M7 => ((r8 = 0 → V_X7_minute_59 K  M7 a0) ∧ (¬ r8 = 0 → V_X7_in (kI (fun r10 M9 => ((¬ r10 = 0 → V_X7_dayNumber (kI (fun r12 M11 => ∀ x13 : Int32, x13 = ((((1440 : Int32) * r12) + ((60 : Int32) * a5)) + a6) → ∃ y, V_X7_minute_90 K  y M11 a0 a1 x13 (0 : Int32)) (fun _ _ => False)) M9 a2 a3 a4) ∧ (r10 = 0 → V_X7_minute_59 K  M9 a0))) (fun _ _ => False)) M7 ((a6).toInt64) (0 : Int64) (59 : Int64)))) (fun _ _ => False)) M5 ((a5).toInt64) (0 : Int64) (23 : Int64)))) (fun _ _ => False)) M3 a2 a3 a4) ∧ (r4 = 0 → (ob M3 a0 7 ∧ V_X7_wrong (kI (fun r16 M15 => K (.inl (some (.int r16))) M15) (fun _ _ => False)) M3 a0 (1 : Int32))))) (fun _ _ => False)) M2 ((a1).toInt64) (0 : Int64) (3 : Int64))
set_option maxRecDepth 100000 in
set_option maxHeartbeats 4000000 in
theorem x_X7_minute {G : Gx} {K : Rs → Mm → Prop} {M : Mm} {a0 : Nat} {a1 : Int32} {a2 : Int32} {a3 : Int32} {a4 : Int32} {a5 : Int32} {a6 : Int32} (h : V_X7_minute K M a0 a1 a2 a3 a4 a5 a6) : MC G mi_X7_minute [.ref a0, .int a1, .int a2, .int a3, .int a4, .int a5, .int a6] M K := by
  unfold V_X7_minute at h
  refine mc_of rfl (by decide +kernel) dc_X7_minute (Nat.le_of_ble_eq_true rfl) 3 (Nat.le_of_ble_eq_true rfl) ?_
  show E G mi_X7_minute K M 0 0 0 [some (.ref a0), some (.int a1), some (.int a2), some (.int a3), some (.int a4), some (.int a5), some (.int a6), none, none, none] []
  refine e_blk 2 0 _ _ (pc' := 2) (L' := [some (.ref a0), some (.int a1), some (.int a2), some (.int a3), some (.int a4), some (.int a5), some (.int a6), none, none, none]) (st' := [.int (0 : Int32), .ref a0]) rfl ?_
  obtain ⟨ho1, h⟩ := h
  refine e_putI 7 0 rfl rfl (by decide) (aw (i := 1065) (by decide +kernel) rfl) rfl ho1 rfl ?_
  generalize hM2 : sI M a0 0 (0 : Int32) = M2
  replace h := h M2 hM2.symm
  replace ho1 : ob M2 a0 7 := hM2 ▸ ob_sI ho1
  refine e_blk 3 5 _ _ (pc' := 8) (L' := [some (.ref a0), some (.int a1), some (.int a2), some (.int a3), some (.int a4), some (.int a5), some (.int a6), none, none, none]) (st' := [.long (0 : Int64), .long ((a1).toInt64)]) rfl ?_
  refine e_ldc2 (3) rfl (aw (i := 1255) (by decide +kernel) rfl) ?_
  refine e_callS (As := [.long ((a1).toInt64), .long (0 : Int64), .long (3 : Int64)]) (rest := []) rfl (x_X7_in h) rfl (aw (i := 1256) (by decide +kernel) rfl) ws_X7_in wi_X7_in wc_X7_in (show cok mi_X7_minute mi_X7_in 0 0 3 = true by decide +kernel) (Nat.le_of_ble_eq_true rfl) (fun v9 M3 hq => ?_) (fun X M9 hq => False.elim hq)
  obtain ⟨r4, rfl, h⟩ := kI_l hq
  refine e_if_ne 23 rfl rfl (fun hc => ?_) (fun hc => ?_)
  · replace h := h.1 hc
    refine e_blk 3 23 _ _ (pc' := 27) (L' := [some (.ref a0), some (.int a1), some (.int a2), some (.int a3), some (.int a4), some (.int a5), some (.int a6), none, none, none]) (st' := [.int a4, .int a3, .int a2]) rfl ?_
    refine e_callS (As := [.int a2, .int a3, .int a4]) (rest := []) rfl (x_X7_isDate h) rfl (aw (i := 1303) (by decide +kernel) rfl) ws_X7_isDate wi_X7_isDate wc_X7_isDate (show cok mi_X7_minute mi_X7_isDate 0 0 3 = true by decide +kernel) (Nat.le_of_ble_eq_true rfl) (fun v9 M5 hq => ?_) (fun X M9 hq => False.elim hq)
    obtain ⟨r6, rfl, h⟩ := kI_l hq
    refine e_if_eq 59 rfl rfl (fun hc => ?_) (fun hc => ?_)
    · replace h := h.1 hc
      refine e_drp [true, false, false, false, false, false, false, false, false, false] (L' := [some (.ref a0), none, none, none, none, none, none, none, none, none]) rfl ?_
      exact x_X7_minute_59  h
    · replace h := h.2 hc
      refine e_blk 3 33 _ _ (pc' := 37) (L' := [some (.ref a0), some (.int a1), some (.int a2), some (.int a3), some (.int a4), some (.int a5), some (.int a6), none, none, none]) (st' := [.long (0 : Int64), .long ((a5).toInt64)]) rfl ?_
      refine e_ldc2 (23) rfl (aw (i := 1309) (by decide +kernel) rfl) ?_
      refine e_callS (As := [.long ((a5).toInt64), .long (0 : Int64), .long (23 : Int64)]) (rest := []) rfl (x_X7_in h) rfl (aw (i := 1256) (by decide +kernel) rfl) ws_X7_in wi_X7_in wc_X7_in (show cok mi_X7_minute mi_X7_in 0 0 3 = true by decide +kernel) (Nat.le_of_ble_eq_true rfl) (fun v9 M7 hq => ?_) (fun X M9 hq => False.elim hq)
      obtain ⟨r8, rfl, h⟩ := kI_l hq
      refine e_if_eq 59 rfl rfl (fun hc => ?_) (fun hc => ?_)
      · replace h := h.1 hc
        refine e_drp [true, false, false, false, false, false, false, false, false, false] (L' := [some (.ref a0), none, none, none, none, none, none, none, none, none]) rfl ?_
        exact x_X7_minute_59  h
      · replace h := h.2 hc
        refine e_blk 3 46 _ _ (pc' := 50) (L' := [some (.ref a0), some (.int a1), some (.int a2), some (.int a3), some (.int a4), some (.int a5), some (.int a6), none, none, none]) (st' := [.long (0 : Int64), .long ((a6).toInt64)]) rfl ?_
        refine e_ldc2 (59) rfl (aw (i := 1310) (by decide +kernel) rfl) ?_
        refine e_callS (As := [.long ((a6).toInt64), .long (0 : Int64), .long (59 : Int64)]) (rest := []) rfl (x_X7_in h) rfl (aw (i := 1256) (by decide +kernel) rfl) ws_X7_in wi_X7_in wc_X7_in (show cok mi_X7_minute mi_X7_in 0 0 3 = true by decide +kernel) (Nat.le_of_ble_eq_true rfl) (fun v9 M9 hq => ?_) (fun X M9 hq => False.elim hq)
        obtain ⟨r10, rfl, h⟩ := kI_l hq
        refine e_if_ne 65 rfl rfl (fun hc => ?_) (fun hc => ?_)
        · replace h := h.1 hc
          refine e_blk 4 65 _ _ (pc' := 72) (L' := [some (.ref a0), some (.int a1), some (.int a2), some (.int a3), some (.int a4), some (.int a5), some (.int a6), none, none, none]) (st' := [.int a4, .int a3, .int a2, .int (1440 : Int32)]) rfl ?_
          refine e_callS (As := [.int a2, .int a3, .int a4]) (rest := [.int (1440 : Int32)]) rfl (x_X7_dayNumber h) rfl (aw (i := 1311) (by decide +kernel) rfl) ws_X7_dayNumber wi_X7_dayNumber wc_X7_dayNumber (show cok mi_X7_minute mi_X7_dayNumber 0 0 3 = true by decide +kernel) (Nat.le_of_ble_eq_true rfl) (fun v9 M11 hq => ?_) (fun X M9 hq => False.elim hq)
          obtain ⟨r12, rfl, h⟩ := kI_l hq
          refine e_blk 10 75 _ _ (pc' := 90) (L' := [some (.ref a0), some (.int a1), some (.int a2), some (.int a3), some (.int a4), some (.int a5), some (.int a6), some (.int ((((1440 : Int32) * r12) + ((60 : Int32) * a5)) + a6)), some (.int (0 : Int32)), none]) (st' := []) rfl ?_
          generalize hx_x13 : (((((1440 : Int32) * r12) + ((60 : Int32) * a5)) + a6) : Int32) = x13
          replace h := h x13 hx_x13.symm
          refine e_drp [true, true, false, false, false, false, false, true, true, false] (L' := [some (.ref a0), some (.int a1), none, none, none, none, none, some (.int x13), some (.int (0 : Int32)), none]) rfl ?_
          obtain ⟨y, h⟩ := h
          exact x_X7_minute_90  y _ _ _ _ _ h
        · replace h := h.2 hc
          refine e_drp [true, false, false, false, false, false, false, false, false, false] (L' := [some (.ref a0), none, none, none, none, none, none, none, none, none]) rfl ?_
          exact x_X7_minute_59  h
  · replace h := h.2 hc
    refine e_blk 2 17 _ _ (pc' := 19) (L' := [some (.ref a0), some (.int a1), some (.int a2), some (.int a3), some (.int a4), some (.int a5), some (.int a6), none, none, none]) (st' := [.int (1 : Int32), .ref a0]) rfl ?_
    obtain ⟨ho14, h⟩ := h
    refine e_callV (As := [.int (1 : Int32)]) (rest := []) (ci := 7) rfl (x_X7_wrong h) ho14 rfl rfl rfl (aw (i := 1265) (by decide +kernel) rfl) wn_X7_wrong wv_X7_wrong wi_X7_wrong wc_X7_wrong (show cok mi_X7_minute mi_X7_wrong 0 0 1 = true by decide +kernel) (Nat.le_of_ble_eq_true rfl) (fun v9 M15 hq => ?_) (fun X M9 hq => False.elim hq)
    obtain ⟨r16, rfl, h⟩ := kI_l hq
    exact e_reti rfl rfl (by decide) (by decide) h
def V_X7_feed_46 (K : Rs → Mm → Prop)  : Nat → Mm → Nat → Int64 → Int32 → Prop
  | 0, _, _, _, _ => False
  | z + 1, M, l0, l1, l4 => ((l4 < 0 → (ob M l0 7 ∧ K (.inl (some (.int (mI M l0 11)))) M)) ∧ (¬ l4 < 0 → (ob M l0 7 ∧ ∃ b3, mP M l0 10 = some b3 ∧ (ob M b3 8 ∧ (vp_in (mI M l0 11) (mN M b3) ∧ ∀ M6, M6 = sI M b3 ((mI M l0 11)).toNatClampNeg (vp_nar .byte (((((l1 >>> ((((8 : Int32) * l4)).toInt64 &&& 63))).toInt32)).toInt8.toInt32)) → ∀ M7, M7 = sI M6 l0 11 ((mI M6 l0 11) + (1 : Int32)) → ∀ x8 : Int32, x8 = (l4 + (-1 : Int32)) → V_X7_feed_46 K  z M7 l0 l1 x8)))))
set_option maxRecDepth 100000 in
set_option maxHeartbeats 4000000 in
theorem x_X7_feed_46 {G : Gx} {K : Rs → Mm → Prop}  : ∀ (z : Nat) (M : Mm) (l0 : Nat) (l1 : Int64) (l4 : Int32), V_X7_feed_46 K  z M l0 l1 l4 → E G mi_X7_feed K M 0 0 46 [some (.ref l0), some (.long l1), none, none, some (.int l4)] []
  | 0, M, l0, l1, l4, h => False.elim h
  | z + 1, M, l0, l1, l4, h => by
    unfold V_X7_feed_46 at h
    refine e_blk 1 46 _ _ (pc' := 48) (L' := [some (.ref l0), some (.long l1), none, none, some (.int l4)]) (st' := [.int l4]) rfl ?_
    refine e_if_lt 85 rfl rfl (fun hc => ?_) (fun hc => ?_)
    · replace h := h.1 hc
      refine e_blk 1 85 _ _ (pc' := 86) (L' := [some (.ref l0), some (.long l1), none, none, some (.int l4)]) (st' := [.ref l0]) rfl ?_
      obtain ⟨ho1, h⟩ := h
      refine e_getI 7 11 rfl rfl (by decide) (aw (i := 1076) (by decide +kernel) rfl) ho1 rfl ?_
      exact e_reti rfl rfl (by decide) (by decide) h
    · replace h := h.2 hc
      refine e_blk 1 51 _ _ (pc' := 52) (L' := [some (.ref l0), some (.long l1), none, none, some (.int l4)]) (st' := [.ref l0]) rfl ?_
      obtain ⟨ho2, h⟩ := h
      obtain ⟨b3, hbb3, h⟩ := h
      refine e_getR 7 10 rfl rfl (by decide) (aw (i := 1075) (by decide +kernel) rfl) ho2 rfl hbb3 ?_
      refine e_blk 1 55 _ _ (pc' := 56) (L' := [some (.ref l0), some (.long l1), none, none, some (.int l4)]) (st' := [.ref l0, .ref b3]) rfl ?_
      refine e_getI 7 11 rfl rfl (by decide) (aw (i := 1076) (by decide +kernel) rfl) ho2 rfl ?_
      refine e_blk 7 59 _ _ (pc' := 68) (L' := [some (.ref l0), some (.long l1), none, none, some (.int l4)]) (st' := [.int (((((l1 >>> ((((8 : Int32) * l4)).toInt64 &&& 63))).toInt32)).toInt8.toInt32), .int (mI M l0 11), .ref b3]) rfl ?_
      obtain ⟨ho4, h⟩ := h
      obtain ⟨hi5, h⟩ := h
      refine e_bast rfl ho4 hi5 ?_
      generalize hM6 : sI M b3 ((mI M l0 11)).toNatClampNeg (vp_nar .byte (((((l1 >>> ((((8 : Int32) * l4)).toInt64 &&& 63))).toInt32)).toInt8.toInt32)) = M6
      replace h := h M6 hM6.symm
      replace ho2 : ob M6 l0 7 := hM6 ▸ ob_sI ho2
      replace ho4 : ob M6 b3 8 := hM6 ▸ ob_sI ho4
      refine e_blk 2 69 _ _ (pc' := 71) (L' := [some (.ref l0), some (.long l1), none, none, some (.int l4)]) (st' := [.ref l0, .ref l0]) rfl ?_
      refine e_getI 7 11 rfl rfl (by decide) (aw (i := 1076) (by decide +kernel) rfl) ho2 rfl ?_
      refine e_blk 2 74 _ _ (pc' := 76) (L' := [some (.ref l0), some (.long l1), none, none, some (.int l4)]) (st' := [.int ((mI M6 l0 11) + (1 : Int32)), .ref l0]) rfl ?_
      refine e_putI 7 11 rfl rfl (by decide) (aw (i := 1076) (by decide +kernel) rfl) rfl ho2 rfl ?_
      generalize hM7 : sI M6 l0 11 ((mI M6 l0 11) + (1 : Int32)) = M7
      replace h := h M7 hM7.symm
      replace ho2 : ob M7 l0 7 := hM7 ▸ ob_sI ho2
      replace ho4 : ob M7 b3 8 := hM7 ▸ ob_sI ho4
      refine e_blk 2 79 _ _ (pc' := 46) (L' := [some (.ref l0), some (.long l1), none, none, some (.int (l4 + (-1 : Int32)))]) (st' := []) rfl ?_
      generalize hx_x8 : ((l4 + (-1 : Int32)) : Int32) = x8
      replace h := h x8 hx_x8.symm
      refine e_drp [true, true, false, false, true] (L' := [some (.ref l0), some (.long l1), none, none, some (.int x8)]) rfl ?_
      exact x_X7_feed_46  z _ _ _ _ h
def V_X7_feed (K : Rs → Mm → Prop) (M : Mm) (a0 : Nat) (a1 : Int64) (a2 : Int32) : Prop := (ob M a0 7 ∧ ∀ M2, M2 = sI M a0 0 (0 : Int32) → V_X7_in (kI (fun r4 M3 => ((¬ r4 = 0 → (ob M3 a0 7 ∧ ((((mI M3 a0 11) + a2) ≤ (160 : Int32) → ∀ x6 : Int32, x6 = (a2 - (1 : Int32)) → ∃ y, V_X7_feed_46 K  y M3 a0 a1 x6) ∧ (¬ ((mI M3 a0 11) + a2) ≤ (160 : Int32) → V_X7_wrong (kI (fun r8 M7 => K (.inl (some (.int r8))) M7) (fun _ _ => False)) M3 a0 (2 : Int32))))) ∧ (r4 = 0 → (ob M3 a0 7 ∧ V_X7_wrong (kI (fun r11 M10 => K (.inl (some (.int r11))) M10) (fun _ _ => False)) M3 a0 (1 : Int32))))) (fun _ _ => False)) M2 ((a2).toInt64) (1 : Int64) (8 : Int64))
set_option maxRecDepth 100000 in
set_option maxHeartbeats 4000000 in
theorem x_X7_feed {G : Gx} {K : Rs → Mm → Prop} {M : Mm} {a0 : Nat} {a1 : Int64} {a2 : Int32} (h : V_X7_feed K M a0 a1 a2) : MC G mi_X7_feed [.ref a0, .long a1, .int a2] M K := by
  unfold V_X7_feed at h
  refine mc_of rfl (by decide +kernel) dc_X7_feed (Nat.le_of_ble_eq_true rfl) 1 (Nat.le_of_ble_eq_true rfl) ?_
  show E G mi_X7_feed K M 0 0 0 [some (.ref a0), some (.long a1), none, some (.int a2), none] []
  refine e_blk 2 0 _ _ (pc' := 2) (L' := [some (.ref a0), some (.long a1), none, some (.int a2), none]) (st' := [.int (0 : Int32), .ref a0]) rfl ?_
  obtain ⟨ho1, h⟩ := h
  refine e_putI 7 0 rfl rfl (by decide) (aw (i := 1065) (by decide +kernel) rfl) rfl ho1 rfl ?_
  generalize hM2 : sI M a0 0 (0 : Int32) = M2
  replace h := h M2 hM2.symm
  replace ho1 : ob M2 a0 7 := hM2 ▸ ob_sI ho1
  refine e_blk 3 5 _ _ (pc' := 8) (L' := [some (.ref a0), some (.long a1), none, some (.int a2), none]) (st' := [.long (1 : Int64), .long ((a2).toInt64)]) rfl ?_
  refine e_ldc2 (8) rfl (aw (i := 1327) (by decide +kernel) rfl) ?_
  refine e_callS (As := [.long ((a2).toInt64), .long (1 : Int64), .long (8 : Int64)]) (rest := []) rfl (x_X7_in h) rfl (aw (i := 1256) (by decide +kernel) rfl) ws_X7_in wi_X7_in wc_X7_in (show cok mi_X7_feed mi_X7_in 0 0 3 = true by decide +kernel) (Nat.le_of_ble_eq_true rfl) (fun v9 M3 hq => ?_) (fun X M9 hq => False.elim hq)
  obtain ⟨r4, rfl, h⟩ := kI_l hq
  refine e_if_ne 23 rfl rfl (fun hc => ?_) (fun hc => ?_)
  · replace h := h.1 hc
    refine e_blk 1 23 _ _ (pc' := 24) (L' := [some (.ref a0), some (.long a1), none, some (.int a2), none]) (st' := [.ref a0]) rfl ?_
    obtain ⟨ho5, h⟩ := h
    refine e_getI 7 11 rfl rfl (by decide) (aw (i := 1076) (by decide +kernel) rfl) ho5 rfl ?_
    refine e_blk 3 27 _ _ (pc' := 32) (L' := [some (.ref a0), some (.long a1), none, some (.int a2), none]) (st' := [.int (160 : Int32), .int ((mI M3 a0 11) + a2)]) rfl ?_
    refine e_icmp_le 41 rfl rfl (fun hc => ?_) (fun hc => ?_)
    · replace h := h.1 hc
      refine e_blk 4 41 _ _ (pc' := 46) (L' := [some (.ref a0), some (.long a1), none, some (.int a2), some (.int (a2 - (1 : Int32)))]) (st' := []) rfl ?_
      generalize hx_x6 : ((a2 - (1 : Int32)) : Int32) = x6
      replace h := h x6 hx_x6.symm
      refine e_drp [true, true, false, false, true] (L' := [some (.ref a0), some (.long a1), none, none, some (.int x6)]) rfl ?_
      obtain ⟨y, h⟩ := h
      exact x_X7_feed_46  y _ _ _ _ h
    · replace h := h.2 hc
      refine e_blk 2 35 _ _ (pc' := 37) (L' := [some (.ref a0), some (.long a1), none, some (.int a2), none]) (st' := [.int (2 : Int32), .ref a0]) rfl ?_
      refine e_callV (As := [.int (2 : Int32)]) (rest := []) (ci := 7) rfl (x_X7_wrong h) ho5 rfl rfl rfl (aw (i := 1265) (by decide +kernel) rfl) wn_X7_wrong wv_X7_wrong wi_X7_wrong wc_X7_wrong (show cok mi_X7_feed mi_X7_wrong 0 0 1 = true by decide +kernel) (Nat.le_of_ble_eq_true rfl) (fun v9 M7 hq => ?_) (fun X M9 hq => False.elim hq)
      obtain ⟨r8, rfl, h⟩ := kI_l hq
      exact e_reti rfl rfl (by decide) (by decide) h
  · replace h := h.2 hc
    refine e_blk 2 17 _ _ (pc' := 19) (L' := [some (.ref a0), some (.long a1), none, some (.int a2), none]) (st' := [.int (1 : Int32), .ref a0]) rfl ?_
    obtain ⟨ho9, h⟩ := h
    refine e_callV (As := [.int (1 : Int32)]) (rest := []) (ci := 7) rfl (x_X7_wrong h) ho9 rfl rfl rfl (aw (i := 1265) (by decide +kernel) rfl) wn_X7_wrong wv_X7_wrong wi_X7_wrong wc_X7_wrong (show cok mi_X7_feed mi_X7_wrong 0 0 1 = true by decide +kernel) (Nat.le_of_ble_eq_true rfl) (fun v9 M10 hq => ?_) (fun X M9 hq => False.elim hq)
    obtain ⟨r11, rfl, h⟩ := kI_l hq
    exact e_reti rfl rfl (by decide) (by decide) h
