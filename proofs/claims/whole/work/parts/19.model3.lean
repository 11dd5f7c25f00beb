def is_X7_order : List (Instr × Nat) := [(.aload_n 0, 1), (.iconst 0, 1), (.putfield 112, 3), (.iload_n 1, 1), (.i2l, 1), (.lconst 0, 1), (.ldc2_w 156, 3), (.invokestatic 150, 3), (.ifCond .ne 9, 3), (.aload_n 0, 1), (.iconst 1, 1), (.invokevirtual 162, 3), (.ireturn, 1), (.iload_n 2, 1), (.i2l, 1), (.lconst 0, 1), (.ldc2_w 339, 3), (.invokestatic 150, 3), (.ifCond .eq 41, 3), (.iload_n 3, 1), (.i2l, 1), (.lconst 0, 1), (.ldc2_w 341, 3), (.invokestatic 150, 3), (.ifCond .eq 29, 3), (.iload 4, 2), (.i2l, 1), (.lconst 0, 1), (.ldc2_w 339, 3), (.invokestatic 150, 3), (.ifCond .eq 16, 3), (.iload 5, 2), (.i2l, 1), (.lconst 1, 1), (.ldc2_w 343, 3), (.invokestatic 150, 3), (.ifCond .ne 9, 3), (.aload_n 0, 1), (.iconst 2, 1), (.invokevirtual 162, 3), (.ireturn, 1), (.iconst 0, 1), (.istore 6, 2), (.iload 6, 2), (.bipush 12, 2), (.if_icmp .ge 19, 3), (.aload_n 0, 1), (.getfield 34, 3), (.iload 6, 2), (.baload, 1), (.ifCond .eq 9, 3), (.iinc 6 1, 3), (.goto (-20), 3), (.iload 6, 2), (.bipush 12, 2), (.if_icmp .ne 9, 3), (.aload_n 0, 1), (.iconst 3, 1), (.invokevirtual 162, 3), (.ireturn, 1), (.aload_n 0, 1), (.invokevirtual 345, 3), (.aload_n 0, 1), (.iconst 0, 1), (.putfield 200, 3), (.aload_n 0, 1), (.aload_n 0, 1), (.getfield 203, 3), (.putfield 348, 3), (.aload_n 0, 1), (.getfield 203, 3), (.ifCond .le 11, 3), (.bipush (-2), 2), (.aload_n 0, 1), (.getfield 206, 3), (.isub, 1), (.ireturn, 1), (.aload_n 0, 1), (.getfield 34, 3), (.iload 6, 2), (.iconst 1, 1), (.bastore, 1), (.aload_n 0, 1), (.getfield 37, 3), (.iload 6, 2), (.iload_n 1, 1), (.iastore, 1), (.aload_n 0, 1), (.getfield 40, 3), (.iload 6, 2), (.iload_n 2, 1), (.iastore, 1), (.aload_n 0, 1), (.getfield 43, 3), (.iload 6, 2), (.iload_n 3, 1), (.iastore, 1), (.aload_n 0, 1), (.getfield 46, 3), (.iload 6, 2), (.iload 4, 2), (.iastore, 1), (.aload_n 0, 1), (.getfield 49, 3), (.iload 6, 2), (.iload 5, 2), (.iastore, 1), (.iconst 0, 1), (.istore 7, 2), (.iload 7, 2), (.iconst 5, 1), (.if_icmp .ge 28, 3), (.aload_n 0, 1), (.getfield 52, 3), (.iconst 5, 1), (.iload 6, 2), (.imul, 1), (.iload 7, 2), (.iadd, 1), (.aload_n 0, 1), (.getfield 26, 3), (.iload 7, 2), (.laload, 1), (.lastore, 1), (.iinc 7 1, 3), (.goto (-28), 3), (.iconst 0, 1), (.istore 7, 2), (.iload 7, 2), (.sipush 300, 3), (.if_icmp .ge 30, 3), (.aload_n 0, 1), (.getfield 55, 3), (.sipush 300, 3), (.iload 6, 2), (.imul, 1), (.iload 7, 2), (.iadd, 1), (.aload_n 0, 1), (.getfield 30, 3), (.iload 7, 2), (.baload, 1), (.bastore, 1), (.iinc 7 1, 3), (.goto (-32), 3), (.aload_n 0, 1), (.getfield 58, 3), (.iload 6, 2), (.aload_n 0, 1), (.getfield 327, 3), (.bastore, 1), (.aload_n 0, 1), (.getfield 61, 3), (.iload 6, 2), (.aload_n 0, 1), (.getfield 299, 3), (.lastore, 1), (.aload_n 0, 1), (.getfield 64, 3), (.iload 6, 2), (.aload_n 0, 1), (.getfield 295, 3), (.bastore, 1), (.aload_n 0, 1), (.getfield 67, 3), (.iload 6, 2), (.aload_n 0, 1), (.getfield 285, 3), (.lastore, 1), (.aload_n 0, 1), (.getfield 70, 3), (.iload 6, 2), (.aload_n 0, 1), (.getfield 289, 3), (.lastore, 1), (.aload_n 0, 1), (.getfield 73, 3), (.iload 6, 2), (.aload_n 0, 1), (.getfield 292, 3), (.lastore, 1), (.aload_n 0, 1), (.getfield 76, 3), (.iload 6, 2), (.aload_n 0, 1), (.getfield 302, 3), (.bastore, 1), (.aload_n 0, 1), (.getfield 79, 3), (.iload 6, 2), (.aload_n 0, 1), (.getfield 305, 3), (.bastore, 1), (.aload_n 0, 1), (.getfield 82, 3), (.iload 6, 2), (.iconst 0, 1), (.iastore, 1), (.aload_n 0, 1), (.getfield 85, 3), (.iload 6, 2), (.iconst 0, 1), (.iastore, 1), (.aload_n 0, 1), (.getfield 88, 3), (.iload 6, 2), (.iconst (-1), 1), (.iastore, 1), (.iload 6, 2), (.ireturn, 1)]
abbrev mi_X7_order : MI := (yX7_order, cX7_order, 8, (some .int), [], { frames := 8, cells := 0, slots := 0, locals := 184 }, is_X7_order)
theorem dc_X7_order : dcb cX7_order is_X7_order 0 = true := by decide +kernel
theorem wc_X7_order : cdw mi_X7_order ∈ ALLW := aw (i := 1331) (by decide +kernel) rfl
theorem wi_X7_order : Cond.initialized (miY mi_X7_order).cls ∈ ALLW := aw (i := 64) (by decide +kernel) rfl
theorem wn_X7_order : Cond.instanceMethod (miY mi_X7_order) ∈ ALLW := aw (i := 1329) (by decide +kernel) rfl
theorem wv_X7_order : Cond.selects (miY mi_X7_order).cls (miY mi_X7_order) (miY mi_X7_order) ∈ ALLW := aw (i := 1330) (by decide +kernel) rfl
def is_X7_fault : List (Instr × Nat) := [(.aload_n 0, 1), (.iconst 0, 1), (.putfield 112, 3), (.aload_n 0, 1), (.getfield 348, 3), (.ireturn, 1)]
abbrev mi_X7_fault : MI := (yX7_fault, cX7_fault, 1, (some .int), [], { frames := 0, cells := 0, slots := 0, locals := 0 }, is_X7_fault)
theorem dc_X7_fault : dcb cX7_fault is_X7_fault 0 = true := by decide +kernel
theorem wc_X7_fault : cdw mi_X7_fault ∈ ALLW := aw (i := 1444) (by decide +kernel) rfl
theorem wi_X7_fault : Cond.initialized (miY mi_X7_fault).cls ∈ ALLW := aw (i := 64) (by decide +kernel) rfl
theorem wn_X7_fault : Cond.instanceMethod (miY mi_X7_fault) ∈ ALLW := aw (i := 1442) (by decide +kernel) rfl
theorem wv_X7_fault : Cond.selects (miY mi_X7_fault).cls (miY mi_X7_fault) (miY mi_X7_fault) ∈ ALLW := aw (i := 1443) (by decide +kernel) rfl
def is_X7_none : List (Instr × Nat) := [(.iload_n 1, 1), (.i2l, 1), (.lconst 0, 1), (.ldc2_w 351, 3), (.invokestatic 150, 3), (.ifCond .eq 12, 3), (.aload_n 0, 1), (.getfield 34, 3), (.iload_n 1, 1), (.baload, 1), (.ifCond .ne 7, 3), (.iconst 1, 1), (.goto 4, 3), (.iconst 0, 1), (.ireturn, 1)]
abbrev mi_X7_none : MI := (yX7_none, cX7_none, 2, (some .boolean), [], { frames := 1, cells := 0, slots := 0, locals := 25 }, is_X7_none)
theorem dc_X7_none : dcb cX7_none is_X7_none 0 = true := by decide +kernel
theorem wc_X7_none : cdw mi_X7_none ∈ ALLW := aw (i := 1452) (by decide +kernel) rfl
theorem wi_X7_none : Cond.initialized (miY mi_X7_none).cls ∈ ALLW := aw (i := 64) (by decide +kernel) rfl
theorem wn_X7_none : Cond.instanceMethod (miY mi_X7_none) ∈ ALLW := aw (i := 1451) (by decide +kernel) rfl
theorem wv_X7_none : Cond.selects (miY mi_X7_none).cls (miY mi_X7_none) (miY mi_X7_none) ∈ ALLW := aw (i := 38) (by decide +kernel) rfl
def is_X7_orders : List (Instr × Nat) := [(.iconst 0, 1), (.istore_n 1, 1), (.iconst 0, 1), (.istore_n 2, 1), (.iload_n 2, 1), (.bipush 12, 2), (.if_icmp .ge 26, 3), (.iload_n 1, 1), (.aload_n 0, 1), (.getfield 34, 3), (.iload_n 2, 1), (.baload, 1), (.ifCond .eq 7, 3), (.iconst 1, 1), (.goto 4, 3), (.iconst 0, 1), (.iadd, 1), (.istore_n 1, 1), (.iinc 2 1, 3), (.goto (-26), 3), (.iload_n 1, 1), (.ireturn, 1)]
abbrev mi_X7_orders : MI := (yX7_orders, cX7_orders, 3, (some .int), [], { frames := 0, cells := 0, slots := 0, locals := 0 }, is_X7_orders)
theorem dc_X7_orders : dcb cX7_orders is_X7_orders 0 = true := by decide +kernel
theorem wc_X7_orders : cdw mi_X7_orders ∈ ALLW := aw (i := 1461) (by decide +kernel) rfl
theorem wi_X7_orders : Cond.initialized (miY mi_X7_orders).cls ∈ ALLW := aw (i := 64) (by decide +kernel) rfl
theorem wn_X7_orders : Cond.instanceMethod (miY mi_X7_orders) ∈ ALLW := aw (i := 1460) (by decide +kernel) rfl
theorem wv_X7_orders : Cond.selects (miY mi_X7_orders).cls (miY mi_X7_orders) (miY mi_X7_orders) ∈ ALLW := aw (i := 40) (by decide +kernel) rfl
def is_X7_dropRun : List (Instr × Nat) := [(.aload_n 0, 1), (.dup, 1), (.getfield 353, 3), (.iconst 1, 1), (.isub, 1), (.putfield 353, 3), (.iload_n 1, 1), (.istore_n 2, 1), (.iload_n 2, 1), (.aload_n 0, 1), (.getfield 353, 3), (.if_icmp .ge 51, 3), (.aload_n 0, 1), (.getfield 91, 3), (.iload_n 2, 1), (.aload_n 0, 1), (.getfield 91, 3), (.iload_n 2, 1), (.iconst 1, 1), (.iadd, 1), (.iaload, 1), (.iastore, 1), (.aload_n 0, 1), (.getfield 94, 3), (.iload_n 2, 1), (.aload_n 0, 1), (.getfield 94, 3), (.iload_n 2, 1), (.iconst 1, 1), (.iadd, 1), (.iaload, 1), (.iastore, 1), (.aload_n 0, 1), (.getfield 97, 3), (.iload_n 2, 1), (.aload_n 0, 1), (.getfield 97, 3), (.iload_n 2, 1), (.iconst 1, 1), (.iadd, 1), (.iaload, 1), (.iastore, 1), (.iinc 2 1, 3), (.goto (-53), 3), (.return_, 1)]
abbrev mi_X7_dropRun : MI := (yX7_dropRun, cX7_dropRun, 3, none, [], { frames := 0, cells := 0, slots := 0, locals := 0 }, is_X7_dropRun)
theorem dc_X7_dropRun : dcb cX7_dropRun is_X7_dropRun 0 = true := by decide +kernel
theorem wc_X7_dropRun : cdw mi_X7_dropRun ∈ ALLW := aw (i := 1457) (by decide +kernel) rfl
theorem wi_X7_dropRun : Cond.initialized (miY mi_X7_dropRun).cls ∈ ALLW := aw (i := 64) (by decide +kernel) rfl
theorem wn_X7_dropRun : Cond.instanceMethod (miY mi_X7_dropRun) ∈ ALLW := aw (i := 1456) (by decide +kernel) rfl
theorem wv_X7_dropRun : Cond.selects (miY mi_X7_dropRun).cls (miY mi_X7_dropRun) (miY mi_X7_dropRun) ∈ ALLW := aw (i := 39) (by decide +kernel) rfl
def is_X7_cancel : List (Instr × Nat) := [(.aload_n 0, 1), (.iconst 0, 1), (.putfield 112, 3), (.aload_n 0, 1), (.iload_n 1, 1), (.invokevirtual 356, 3), (.ifCond .eq 9, 3), (.aload_n 0, 1), (.iconst 1, 1), (.invokevirtual 162, 3), (.ireturn, 1), (.aload_n 0, 1), (.getfield 34, 3), (.iload_n 1, 1), (.iconst 0, 1), (.bastore, 1), (.aload_n 0, 1), (.getfield 353, 3), (.iconst 1, 1), (.isub, 1), (.istore_n 2, 1), (.iload_n 2, 1), (.ifCond .lt 24, 3), (.aload_n 0, 1), (.getfield 91, 3), (.iload_n 2, 1), (.iaload, 1), (.iload_n 1, 1), (.if_icmp .ne 8, 3), (.aload_n 0, 1), (.iload_n 2, 1), (.invokevirtual 359, 3), (.iinc 2 (-1), 3), (.goto (-22), 3), (.aload_n 0, 1), (.invokevirtual 362, 3), (.ireturn, 1)]
abbrev mi_X7_cancel : MI := (yX7_cancel, cX7_cancel, 3, (some .int), [], { frames := 2, cells := 0, slots := 0, locals := 46 }, is_X7_cancel)
theorem dc_X7_cancel : dcb cX7_cancel is_X7_cancel 0 = true := by decide +kernel
theorem wc_X7_cancel : cdw mi_X7_cancel ∈ ALLW := aw (i := 1448) (by decide +kernel) rfl
theorem wi_X7_cancel : Cond.initialized (miY mi_X7_cancel).cls ∈ ALLW := aw (i := 64) (by decide +kernel) rfl
theorem wn_X7_cancel : Cond.instanceMethod (miY mi_X7_cancel) ∈ ALLW := aw (i := 1446) (by decide +kernel) rfl
theorem wv_X7_cancel : Cond.selects (miY mi_X7_cancel).cls (miY mi_X7_cancel) (miY mi_X7_cancel) ∈ ALLW := aw (i := 1447) (by decide +kernel) rfl
def is_X7_runsOf : List (Instr × Nat) := [(.iconst 0, 1), (.istore_n 2, 1), (.iconst 0, 1), (.istore_n 3, 1), (.iload_n 3, 1), (.aload_n 0, 1), (.getfield 353, 3), (.if_icmp .ge 27, 3), (.iload_n 2, 1), (.aload_n 0, 1), (.getfield 91, 3), (.iload_n 3, 1), (.iaload, 1), (.iload_n 1, 1), (.if_icmp .ne 7, 3), (.iconst 1, 1), (.goto 4, 3), (.iconst 0, 1), (.iadd, 1), (.istore_n 2, 1), (.iinc 3 1, 3), (.goto (-29), 3), (.iload_n 2, 1), (.ireturn, 1)]
abbrev mi_X7_runsOf : MI := (yX7_runsOf, cX7_runsOf, 4, (some .int), [], { frames := 0, cells := 0, slots := 0, locals := 0 }, is_X7_runsOf)
theorem dc_X7_runsOf : dcb cX7_runsOf is_X7_runsOf 0 = true := by decide +kernel
theorem wc_X7_runsOf : cdw mi_X7_runsOf ∈ ALLW := aw (i := 1469) (by decide +kernel) rfl
theorem wi_X7_runsOf : Cond.initialized (miY mi_X7_runsOf).cls ∈ ALLW := aw (i := 64) (by decide +kernel) rfl
theorem wn_X7_runsOf : Cond.instanceMethod (miY mi_X7_runsOf) ∈ ALLW := aw (i := 1468) (by decide +kernel) rfl
theorem wv_X7_runsOf : Cond.selects (miY mi_X7_runsOf).cls (miY mi_X7_runsOf) (miY mi_X7_runsOf) ∈ ALLW := aw (i := 41) (by decide +kernel) rfl
def is_X7_told : List (Instr × Nat) := [(.aload_n 0, 1), (.iconst 0, 1), (.putfield 112, 3), (.aload_n 0, 1), (.iload_n 1, 1), (.invokevirtual 356, 3), (.ifCond .eq 9, 3), (.aload_n 0, 1), (.iconst 1, 1), (.invokevirtual 162, 3), (.ireturn, 1), (.iload_n 2, 1), (.tableswitch 160 0 10 #[60, 67, 74, 81, 88, 95, 101, 116, 123, 130, 145], 60), (.aload_n 0, 1), (.getfield 37, 3), (.iload_n 1, 1), (.iaload, 1), (.ireturn, 1), (.aload_n 0, 1), (.getfield 40, 3), (.iload_n 1, 1), (.iaload, 1), (.ireturn, 1), (.aload_n 0, 1), (.getfield 43, 3), (.iload_n 1, 1), (.iaload, 1), (.ireturn, 1), (.aload_n 0, 1), (.getfield 46, 3), (.iload_n 1, 1), (.iaload, 1), (.ireturn, 1), (.aload_n 0, 1), (.getfield 49, 3), (.iload_n 1, 1), (.iaload, 1), (.ireturn, 1), (.aload_n 0, 1), (.iload_n 1, 1), (.invokevirtual 365, 3), (.ireturn, 1), (.aload_n 0, 1), (.getfield 88, 3), (.iload_n 1, 1), (.iaload, 1), (.ifCond .lt 7, 3), (.iconst 1, 1), (.goto 4, 3), (.iconst 0, 1), (.ireturn, 1), (.aload_n 0, 1), (.getfield 82, 3), (.iload_n 1, 1), (.iaload, 1), (.ireturn, 1), (.aload_n 0, 1), (.getfield 85, 3), (.iload_n 1, 1), (.iaload, 1), (.ireturn, 1), (.aload_n 0, 1), (.getfield 76, 3), (.iload_n 1, 1), (.baload, 1), (.ifCond .eq 7, 3), (.iconst 1, 1), (.goto 4, 3), (.iconst 0, 1), (.ireturn, 1), (.aload_n 0, 1), (.getfield 79, 3), (.iload_n 1, 1), (.baload, 1), (.ifCond .eq 7, 3), (.iconst 1, 1), (.goto 4, 3), (.iconst 0, 1), (.ireturn, 1), (.aload_n 0, 1), (.iconst 2, 1), (.invokevirtual 162, 3), (.ireturn, 1)]
abbrev mi_X7_told : MI := (yX7_told, cX7_told, 3, (some .int), [], { frames := 2, cells := 0, slots := 0, locals := 46 }, is_X7_told)
theorem dc_X7_told : dcb cX7_told is_X7_told 0 = true := by decide +kernel
theorem wc_X7_told : cdw mi_X7_told ∈ ALLW := aw (i := 1465) (by decide +kernel) rfl
theorem wi_X7_told : Cond.initialized (miY mi_X7_told).cls ∈ ALLW := aw (i := 64) (by decide +kernel) rfl
theorem wn_X7_told : Cond.instanceMethod (miY mi_X7_told) ∈ ALLW := aw (i := 1463) (by decide +kernel) rfl
theorem wv_X7_told : Cond.selects (miY mi_X7_told).cls (miY mi_X7_told) (miY mi_X7_told) ∈ ALLW := aw (i := 1464) (by decide +kernel) rfl
def is_X7_field : List (Instr × Nat) := [(.aload_n 0, 1), (.aload_n 0, 1), (.iload_n 1, 1), (.invokevirtual 356, 3), (.ifCond .eq 7, 3), (.iconst 1, 1), (.goto 20, 3), (.iload_n 2, 1), (.i2l, 1), (.lconst 0, 1), (.ldc2_w 368, 3), (.invokestatic 150, 3), (.ifCond .ne 7, 3), (.iconst 2, 1), (.goto 4, 3), (.iconst 0, 1), (.putfield 112, 3), (.aload_n 0, 1), (.getfield 112, 3), (.ifCond .le 7, 3), (.lconst 0, 1), (.goto 13, 3), (.aload_n 0, 1), (.getfield 52, 3), (.iconst 5, 1), (.iload_n 1, 1), (.imul, 1), (.iload_n 2, 1), (.iadd, 1), (.laload, 1), (.lreturn, 1)]
abbrev mi_X7_field : MI := (yX7_field, cX7_field, 3, (some .long), [], { frames := 2, cells := 0, slots := 0, locals := 46 }, is_X7_field)
theorem dc_X7_field : dcb cX7_field is_X7_field 0 = true := by decide +kernel
theorem wc_X7_field : cdw mi_X7_field ∈ ALLW := aw (i := 1473) (by decide +kernel) rfl
theorem wi_X7_field : Cond.initialized (miY mi_X7_field).cls ∈ ALLW := aw (i := 64) (by decide +kernel) rfl
theorem wn_X7_field : Cond.instanceMethod (miY mi_X7_field) ∈ ALLW := aw (i := 1471) (by decide +kernel) rfl
theorem wv_X7_field : Cond.selects (miY mi_X7_field).cls (miY mi_X7_field) (miY mi_X7_field) ∈ ALLW := aw (i := 1472) (by decide +kernel) rfl
def is_X7_weekOf : List (Instr × Nat) := [(.iload_n 0, 1), (.iload_n 1, 1), (.iload_n 2, 1), (.invokestatic 188, 3), (.iconst 1, 1), (.iadd, 1), (.istore_n 3, 1), (.iload_n 3, 1), (.bipush 7, 2), (.iload_n 3, 1), (.bipush 7, 2), (.invokestatic 120, 3), (.imul, 1), (.isub, 1), (.ireturn, 1)]
abbrev mi_X7_weekOf : MI := (yX7_weekOf, cX7_weekOf, 4, (some .int), [], { frames := 3, cells := 0, slots := 0, locals := 65 }, is_X7_weekOf)
theorem dc_X7_weekOf : dcb cX7_weekOf is_X7_weekOf 0 = true := by decide +kernel
theorem wc_X7_weekOf : cdw mi_X7_weekOf ∈ ALLW := aw (i := 1485) (by decide +kernel) rfl
theorem wi_X7_weekOf : Cond.initialized (miY mi_X7_weekOf).cls ∈ ALLW := aw (i := 64) (by decide +kernel) rfl
theorem ws_X7_weekOf : Cond.static (miY mi_X7_weekOf) ∈ ALLW := aw (i := 1484) (by decide +kernel) rfl
def is_X7_nearest : List (Instr × Nat) := [(.iload_n 0, 1), (.iload_n 1, 1), (.iload_n 2, 1), (.invokestatic 370, 3), (.istore_n 3, 1), (.iload_n 3, 1), (.bipush 6, 2), (.if_icmp .ne 18, 3), (.iload_n 2, 1), (.iconst 1, 1), (.if_icmp .ne 7, 3), (.iconst 3, 1), (.goto 35, 3), (.iload_n 2, 1), (.iconst 1, 1), (.isub, 1), (.goto 29, 3), (.iload_n 3, 1), (.ifCond .ne 24, 3), (.iload_n 2, 1), (.iload_n 0, 1), (.iload_n 1, 1), (.invokestatic 137, 3), (.if_icmp .ne 9, 3), (.iload_n 2, 1), (.iconst 2, 1), (.isub, 1), (.goto 10, 3), (.iload_n 2, 1), (.iconst 1, 1), (.iadd, 1), (.goto 4, 3), (.iload_n 2, 1), (.ireturn, 1)]
abbrev mi_X7_nearest : MI := (yX7_nearest, cX7_nearest, 4, (some .int), [], { frames := 4, cells := 0, slots := 0, locals := 88 }, is_X7_nearest)
theorem dc_X7_nearest : dcb cX7_nearest is_X7_nearest 0 = true := by decide +kernel
theorem wc_X7_nearest : cdw mi_X7_nearest ∈ ALLW := aw (i := 1488) (by decide +kernel) rfl
theorem wi_X7_nearest : Cond.initialized (miY mi_X7_nearest).cls ∈ ALLW := aw (i := 64) (by decide +kernel) rfl
theorem ws_X7_nearest : Cond.static (miY mi_X7_nearest) ∈ ALLW := aw (i := 1487) (by decide +kernel) rfl
def is_X7_dayAlone : List (Instr × Nat) := [(.iload_n 2, 1), (.iload_n 3, 1), (.invokestatic 137, 3), (.istore 5, 2), (.aload_n 0, 1), (.getfield 52, 3), (.iconst 5, 1), (.iload_n 1, 1), (.imul, 1), (.iconst 2, 1), (.iadd, 1), (.laload, 1), (.iload 4, 2), (.lshr, 1), (.lconst 1, 1), (.land, 1), (.lconst 1, 1), (.lcmp, 1), (.ifCond .eq 22, 3), (.aload_n 0, 1), (.getfield 61, 3), (.iload_n 1, 1), (.laload, 1), (.iload 5, 2), (.iload 4, 2), (.isub, 1), (.lshr, 1), (.lconst 1, 1), (.land, 1), (.lconst 1, 1), (.lcmp, 1), (.ifCond .ne 7, 3), (.iconst 1, 1), (.goto 4, 3), (.iconst 0, 1), (.istore 6, 2), (.iload 5, 2), (.istore 7, 2), (.aload_n 0, 1), (.getfield 64, 3), (.iload_n 1, 1), (.baload, 1), (.ifCond .eq 31, 3), (.iload_n 2, 1), (.iload_n 3, 1), (.iload 7, 2), (.invokestatic 370, 3), (.ifCond .eq 15, 3), (.iload_n 2, 1), (.iload_n 3, 1), (.iload 7, 2), (.invokestatic 370, 3), (.bipush 6, 2), (.if_icmp .ne 9, 3), (.iinc 7 (-1), 3), (.goto (-34), 3), (.iload 6, 2), (.ifCond .ne 19, 3), (.aload_n 0, 1), (.getfield 64, 3), (.iload_n 1, 1), (.baload, 1), (.ifCond .eq 14, 3), (.iload 4, 2), (.iload 7, 2), (.if_icmp .ne 7, 3), (.iconst 1, 1), (.goto 4, 3), (.iconst 0, 1), (.istore 6, 2), (.iconst 1, 1), (.istore 8, 2), (.iload 8, 2), (.iload 5, 2), (.if_icmp .gt 49, 3), (.iload 6, 2), (.ifCond .ne 44, 3), (.aload_n 0, 1), (.getfield 67, 3), (.iload_n 1, 1), (.laload, 1), (.iload 8, 2), (.lshr, 1), (.lconst 1, 1), (.land, 1), (.lconst 1, 1), (.lcmp, 1), (.ifCond .ne 19, 3), (.iload_n 2, 1), (.iload_n 3, 1), (.iload 8, 2), (.invokestatic 373, 3), (.iload 4, 2), (.if_icmp .ne 7, 3), (.iconst 1, 1), (.goto 4, 3), (.iconst 0, 1), (.istore 6, 2), (.iinc 8 1, 3), (.goto (-50), 3), (.iload 6, 2), (.ireturn, 1)]
abbrev mi_X7_dayAlone : MI := (yX7_dayAlone, cX7_dayAlone, 9, (some .boolean), [], { frames := 5, cells := 0, slots := 0, locals := 111 }, is_X7_dayAlone)
theorem dc_X7_dayAlone : dcb cX7_dayAlone is_X7_dayAlone 0 = true := by decide +kernel
theorem wc_X7_dayAlone : cdw mi_X7_dayAlone ∈ ALLW := aw (i := 1482) (by decide +kernel) rfl
theorem wi_X7_dayAlone : Cond.initialized (miY mi_X7_dayAlone).cls ∈ ALLW := aw (i := 64) (by decide +kernel) rfl
theorem wn_X7_dayAlone : Cond.instanceMethod (miY mi_X7_dayAlone) ∈ ALLW := aw (i := 1481) (by decide +kernel) rfl
theorem wv_X7_dayAlone : Cond.selects (miY mi_X7_dayAlone).cls (miY mi_X7_dayAlone) (miY mi_X7_dayAlone) ∈ ALLW := aw (i := 42) (by decide +kernel) rfl
def is_X7_weekAlone : List (Instr × Nat) := [(.iload_n 2, 1), (.iload_n 3, 1), (.iload 4, 2), (.invokestatic 370, 3), (.istore 5, 2), (.aload_n 0, 1), (.getfield 52, 3), (.iconst 5, 1), (.iload_n 1, 1), (.imul, 1), (.iconst 4, 1), (.iadd, 1), (.laload, 1), (.iload 5, 2), (.lshr, 1), (.lconst 1, 1), (.land, 1), (.lconst 1, 1), (.lcmp, 1), (.ifCond .eq 60, 3), (.aload_n 0, 1), (.getfield 70, 3), (.iload_n 1, 1), (.laload, 1), (.iload 5, 2), (.lshr, 1), (.lconst 1, 1), (.land, 1), (.lconst 1, 1), (.lcmp, 1), (.ifCond .ne 16, 3), (.iload 4, 2), (.bipush 7, 2), (.iadd, 1), (.iload_n 2, 1), (.iload_n 3, 1), (.invokestatic 137, 3), (.if_icmp .gt 31, 3), (.aload_n 0, 1), (.getfield 73, 3), (.iload_n 1, 1), (.laload, 1), (.bipush 6, 2), (.iload 5, 2), (.imul, 1), (.iload 4, 2), (.bipush 6, 2), (.iadd, 1), (.bipush 7, 2), (.idiv, 1), (.iadd, 1), (.lshr, 1), (.lconst 1, 1), (.land, 1), (.lconst 1, 1), (.lcmp, 1), (.ifCond .ne 7, 3), (.iconst 1, 1), (.goto 4, 3), (.iconst 0, 1), (.ireturn, 1)]
abbrev mi_X7_weekAlone : MI := (yX7_weekAlone, cX7_weekAlone, 6, (some .boolean), [], { frames := 4, cells := 0, slots := 0, locals := 88 }, is_X7_weekAlone)
theorem dc_X7_weekAlone : dcb cX7_weekAlone is_X7_weekAlone 0 = true := by decide +kernel
theorem wc_X7_weekAlone : cdw mi_X7_weekAlone ∈ ALLW := aw (i := 1492) (by decide +kernel) rfl
theorem wi_X7_weekAlone : Cond.initialized (miY mi_X7_weekAlone).cls ∈ ALLW := aw (i := 64) (by decide +kernel) rfl
theorem wn_X7_weekAlone : Cond.instanceMethod (miY mi_X7_weekAlone) ∈ ALLW := aw (i := 1491) (by decide +kernel) rfl
theorem wv_X7_weekAlone : Cond.selects (miY mi_X7_weekAlone).cls (miY mi_X7_weekAlone) (miY mi_X7_weekAlone) ∈ ALLW := aw (i := 43) (by decide +kernel) rfl
def is_X7_bothDay : List (Instr × Nat) := [(.aload_n 0, 1), (.iload_n 1, 1), (.iload_n 2, 1), (.iload_n 3, 1), (.iload 4, 2), (.invokevirtual 376, 3), (.istore 5, 2), (.aload_n 0, 1), (.iload_n 1, 1), (.iload_n 2, 1), (.iload_n 3, 1), (.iload 4, 2), (.invokevirtual 380, 3), (.istore 6, 2), (.aload_n 0, 1), (.getfield 76, 3), (.iload_n 1, 1), (.baload, 1), (.ifCond .ne 12, 3), (.aload_n 0, 1), (.getfield 79, 3), (.iload_n 1, 1), (.baload, 1), (.ifCond .eq 21, 3), (.iload 5, 2), (.ifCond .eq 12, 3), (.iload 6, 2), (.ifCond .eq 7, 3), (.iconst 1, 1), (.goto 22, 3), (.iconst 0, 1), (.goto 18, 3), (.iload 5, 2), (.ifCond .ne 8, 3), (.iload 6, 2), (.ifCond .eq 7, 3), (.iconst 1, 1), (.goto 4, 3), (.iconst 0, 1), (.ireturn, 1)]
abbrev mi_X7_bothDay : MI := (yX7_bothDay, cX7_bothDay, 7, (some .boolean), [], { frames := 6, cells := 0, slots := 0, locals := 139 }, is_X7_bothDay)
theorem dc_X7_bothDay : dcb cX7_bothDay is_X7_bothDay 0 = true := by decide +kernel
theorem wc_X7_bothDay : cdw mi_X7_bothDay ∈ ALLW := aw (i := 1496) (by decide +kernel) rfl
theorem wi_X7_bothDay : Cond.initialized (miY mi_X7_bothDay).cls ∈ ALLW := aw (i := 64) (by decide +kernel) rfl
theorem wn_X7_bothDay : Cond.instanceMethod (miY mi_X7_bothDay) ∈ ALLW := aw (i := 1495) (by decide +kernel) rfl
theorem wv_X7_bothDay : Cond.selects (miY mi_X7_bothDay).cls (miY mi_X7_bothDay) (miY mi_X7_bothDay) ∈ ALLW := aw (i := 44) (by decide +kernel) rfl
def is_X7_whole : List (Instr × Nat) := [(.aload_n 0, 1), (.getfield 58, 3), (.iload_n 1, 1), (.baload, 1), (.ifCond .ne 36, 3), (.iload_n 2, 1), (.i2l, 1), (.ldc2_w 383, 3), (.ldc2_w 385, 3), (.invokestatic 150, 3), (.ifCond .eq 26, 3), (.aload_n 0, 1), (.getfield 55, 3), (.sipush 300, 3), (.iload_n 1, 1), (.imul, 1), (.iload_n 2, 1), (.iadd, 1), (.sipush 1900, 3), (.isub, 1), (.baload, 1), (.ifCond .eq 7, 3), (.iconst 1, 1), (.goto 4, 3), (.iconst 0, 1), (.istore 5, 2), (.iload 5, 2), (.ifCond .eq 38, 3), (.aload_n 0, 1), (.getfield 52, 3), (.iconst 5, 1), (.iload_n 1, 1), (.imul, 1), (.iconst 3, 1), (.iadd, 1), (.laload, 1), (.iload_n 3, 1), (.lshr, 1), (.lconst 1, 1), (.land, 1), (.lconst 1, 1), (.lcmp, 1), (.ifCond .ne 19, 3), (.aload_n 0, 1), (.iload_n 1, 1), (.iload_n 2, 1), (.iload_n 3, 1), (.iload 4, 2), (.invokevirtual 387, 3), (.ifCond .eq 7, 3), (.iconst 1, 1), (.goto 4, 3), (.iconst 0, 1), (.ireturn, 1)]
abbrev mi_X7_whole : MI := (yX7_whole, cX7_whole, 6, (some .boolean), [], { frames := 7, cells := 0, slots := 0, locals := 165 }, is_X7_whole)
theorem dc_X7_whole : dcb cX7_whole is_X7_whole 0 = true := by decide +kernel
theorem wc_X7_whole : cdw mi_X7_whole ∈ ALLW := aw (i := 1500) (by decide +kernel) rfl
theorem wi_X7_whole : Cond.initialized (miY mi_X7_whole).cls ∈ ALLW := aw (i := 64) (by decide +kernel) rfl
theorem wn_X7_whole : Cond.instanceMethod (miY mi_X7_whole) ∈ ALLW := aw (i := 1499) (by decide +kernel) rfl
theorem wv_X7_whole : Cond.selects (miY mi_X7_whole).cls (miY mi_X7_whole) (miY mi_X7_whole) ∈ ALLW := aw (i := 45) (by decide +kernel) rfl
def is_X7_day : List (Instr × Nat) := [(.aload_n 0, 1), (.aload_n 0, 1), (.iload_n 1, 1), (.invokevirtual 356, 3), (.ifCond .eq 7, 3), (.iconst 1, 1), (.goto 31, 3), (.iload_n 2, 1), (.i2l, 1), (.lconst 0, 1), (.ldc2_w 156, 3), (.invokestatic 150, 3), (.ifCond .eq 14, 3), (.iload_n 3, 1), (.iload 4, 2), (.iload 5, 2), (.invokestatic 180, 3), (.ifCond .ne 7, 3), (.iconst 2, 1), (.goto 4, 3), (.iconst 0, 1), (.putfield 112, 3), (.aload_n 0, 1), (.getfield 112, 3), (.ifCond .le 5, 3), (.iconst 0, 1), (.ireturn, 1), (.iload_n 2, 1), (.ifCond .ne 16, 3), (.aload_n 0, 1), (.iload_n 1, 1), (.iload_n 3, 1), (.iload 4, 2), (.iload 5, 2), (.invokevirtual 376, 3), (.goto 49, 3), (.iload_n 2, 1), (.iconst 1, 1), (.if_icmp .ne 16, 3), (.aload_n 0, 1), (.iload_n 1, 1), (.iload_n 3, 1), (.iload 4, 2), (.iload 5, 2), (.invokevirtual 380, 3), (.goto 31, 3), (.iload_n 2, 1), (.iconst 2, 1), (.if_icmp .ne 16, 3), (.aload_n 0, 1), (.iload_n 1, 1), (.iload_n 3, 1), (.iload 4, 2), (.iload 5, 2), (.invokevirtual 387, 3), (.goto 13, 3), (.aload_n 0, 1), (.iload_n 1, 1), (.iload_n 3, 1), (.iload 4, 2), (.iload 5, 2), (.invokevirtual 390, 3), (.ireturn, 1)]
abbrev mi_X7_day : MI := (yX7_day, cX7_day, 6, (some .boolean), [], { frames := 8, cells := 0, slots := 0, locals := 190 }, is_X7_day)
theorem dc_X7_day : dcb cX7_day is_X7_day 0 = true := by decide +kernel
theorem wc_X7_day : cdw mi_X7_day ∈ ALLW := aw (i := 1478) (by decide +kernel) rfl
theorem wi_X7_day : Cond.initialized (miY mi_X7_day).cls ∈ ALLW := aw (i := 64) (by decide +kernel) rfl
theorem wn_X7_day : Cond.instanceMethod (miY mi_X7_day) ∈ ALLW := aw (i := 1476) (by decide +kernel) rfl
theorem wv_X7_day : Cond.selects (miY mi_X7_day).cls (miY mi_X7_day) (miY mi_X7_day) ∈ ALLW := aw (i := 1477) (by decide +kernel) rfl
def is_X7_isTime : List (Instr × Nat) := [(.aload_n 0, 1), (.getfield 52, 3), (.iconst 5, 1), (.iload_n 1, 1), (.imul, 1), (.iconst 1, 1), (.iadd, 1), (.laload, 1), (.iload_n 2, 1), (.bipush 60, 2), (.idiv, 1), (.lshr, 1), (.lconst 1, 1), (.land, 1), (.lconst 1, 1), (.lcmp, 1), (.ifCond .ne 27, 3), (.aload_n 0, 1), (.getfield 52, 3), (.iconst 5, 1), (.iload_n 1, 1), (.imul, 1), (.laload, 1), (.iload_n 2, 1), (.bipush 60, 2), (.irem, 1), (.lshr, 1), (.lconst 1, 1), (.land, 1), (.lconst 1, 1), (.lcmp, 1), (.ifCond .ne 7, 3), (.iconst 1, 1), (.goto 4, 3), (.iconst 0, 1), (.ireturn, 1)]
abbrev mi_X7_isTime : MI := (yX7_isTime, cX7_isTime, 3, (some .boolean), [], { frames := 0, cells := 0, slots := 0, locals := 0 }, is_X7_isTime)
theorem dc_X7_isTime : dcb cX7_isTime is_X7_isTime 0 = true := by decide +kernel
theorem wc_X7_isTime : cdw mi_X7_isTime ∈ ALLW := aw (i := 1514) (by decide +kernel) rfl
theorem wi_X7_isTime : Cond.initialized (miY mi_X7_isTime).cls ∈ ALLW := aw (i := 64) (by decide +kernel) rfl
theorem wn_X7_isTime : Cond.instanceMethod (miY mi_X7_isTime) ∈ ALLW := aw (i := 1513) (by decide +kernel) rfl
theorem wv_X7_isTime : Cond.selects (miY mi_X7_isTime).cls (miY mi_X7_isTime) (miY mi_X7_isTime) ∈ ALLW := aw (i := 47) (by decide +kernel) rfl
def is_X7_isMatch : List (Instr × Nat) := [(.aload_n 0, 1), (.getfield 37, 3), (.iload_n 1, 1), (.iaload, 1), (.istore_n 3, 1), (.iload_n 2, 1), (.aload_n 0, 1), (.iload_n 3, 1), (.aload_n 0, 1), (.iload_n 3, 1), (.iload_n 2, 1), (.invokevirtual 170, 3), (.invokevirtual 173, 3), (.iadd, 1), (.istore 4, 2), (.iload 4, 2), (.sipush 1440, 3), (.invokestatic 120, 3), (.istore 5, 2), (.aload_n 0, 1), (.iload_n 1, 1), (.iload 4, 2), (.sipush 1440, 3), (.iload 5, 2), (.imul, 1), (.isub, 1), (.invokevirtual 393, 3), (.ifCond .ne 5, 3), (.iconst 0, 1), (.ireturn, 1), (.aload_n 0, 1), (.iload 5, 2), (.invokevirtual 176, 3), (.aload_n 0, 1), (.iload_n 1, 1), (.aload_n 0, 1), (.getfield 128, 3), (.aload_n 0, 1), (.getfield 134, 3), (.aload_n 0, 1), (.getfield 140, 3), (.invokevirtual 390, 3), (.ireturn, 1)]
abbrev mi_X7_isMatch : MI := (yX7_isMatch, cX7_isMatch, 6, (some .boolean), [], { frames := 8, cells := 0, slots := 0, locals := 190 }, is_X7_isMatch)
theorem dc_X7_isMatch : dcb cX7_isMatch is_X7_isMatch 0 = true := by decide +kernel
theorem wc_X7_isMatch : cdw mi_X7_isMatch ∈ ALLW := aw (i := 1510) (by decide +kernel) rfl
theorem wi_X7_isMatch : Cond.initialized (miY mi_X7_isMatch).cls ∈ ALLW := aw (i := 64) (by decide +kernel) rfl
theorem wn_X7_isMatch : Cond.instanceMethod (miY mi_X7_isMatch) ∈ ALLW := aw (i := 1509) (by decide +kernel) rfl
theorem wv_X7_isMatch : Cond.selects (miY mi_X7_isMatch).cls (miY mi_X7_isMatch) (miY mi_X7_isMatch) ∈ ALLW := aw (i := 46) (by decide +kernel) rfl
def is_X7_matches : List (Instr × Nat) := [(.aload_n 0, 1), (.aload_n 0, 1), (.iload_n 1, 1), (.invokevirtual 356, 3), (.ifCond .eq 7, 3), (.iconst 1, 1), (.goto 20, 3), (.iload_n 2, 1), (.i2l, 1), (.lconst 0, 1), (.ldc2_w 165, 3), (.invokestatic 150, 3), (.ifCond .ne 7, 3), (.iconst 2, 1), (.goto 4, 3), (.iconst 0, 1), (.putfield 112, 3), (.aload_n 0, 1), (.getfield 112, 3), (.ifCond .ne 16, 3), (.aload_n 0, 1), (.iload_n 1, 1), (.iload_n 2, 1), (.invokevirtual 397, 3), (.ifCond .eq 7, 3), (.iconst 1, 1), (.goto 4, 3), (.iconst 0, 1), (.ireturn, 1)]
abbrev mi_X7_matches : MI := (yX7_matches, cX7_matches, 3, (some .boolean), [], { frames := 9, cells := 0, slots := 0, locals := 215 }, is_X7_matches)
theorem dc_X7_matches : dcb cX7_matches is_X7_matches 0 = true := by decide +kernel
theorem wc_X7_matches : cdw mi_X7_matches ∈ ALLW := aw (i := 1506) (by decide +kernel) rfl
theorem wi_X7_matches : Cond.initialized (miY mi_X7_matches).cls ∈ ALLW := aw (i := 64) (by decide +kernel) rfl
theorem wn_X7_matches : Cond.instanceMethod (miY mi_X7_matches) ∈ ALLW := aw (i := 1504) (by decide +kernel) rfl
theorem wv_X7_matches : Cond.selects (miY mi_X7_matches).cls (miY mi_X7_matches) (miY mi_X7_matches) ∈ ALLW := aw (i := 1505) (by decide +kernel) rfl
def is_X7_look : List (Instr × Nat) := [(.iload_n 2, 1), (.iload 4, 2), (.iadd, 1), (.istore 6, 2), (.iload_n 3, 1), (.iload 4, 2), (.iadd, 1), (.istore 7, 2), (.iconst 0, 1), (.istore 8, 2), (.iload 8, 2), (.iload 7, 2), (.bipush 60, 2), (.idiv, 1), (.iload 6, 2), (.bipush 60, 2), (.idiv, 1), (.isub, 1), (.if_icmp .gt 234, 3), (.iload 5, 2), (.iconst 2, 1), (.if_icmp .eq 10, 3), (.aload_n 0, 1), (.getfield 400, 3), (.ifCond .ne 221, 3), (.iload 5, 2), (.iconst 1, 1), (.if_icmp .ne 14, 3), (.iload 7, 2), (.bipush 60, 2), (.idiv, 1), (.iload 8, 2), (.isub, 1), (.goto 11, 3), (.iload 6, 2), (.bipush 60, 2), (.idiv, 1), (.iload 8, 2), (.iadd, 1), (.istore 9, 2), (.aload_n 0, 1), (.getfield 52, 3), (.iconst 5, 1), (.iload_n 1, 1), (.imul, 1), (.iconst 1, 1), (.iadd, 1), (.laload, 1), (.iload 9, 2), (.lshr, 1), (.lconst 1, 1), (.land, 1), (.lconst 0, 1), (.lcmp, 1), (.ifCond .ne 6, 3), (.goto 165, 3), (.iload 9, 2), (.iload 6, 2), (.bipush 60, 2), (.idiv, 1), (.if_icmp .ne 11, 3), (.iload 6, 2), (.bipush 60, 2), (.irem, 1), (.goto 4, 3), (.iconst 0, 1), (.istore 10, 2), (.iload 9, 2), (.iload 7, 2), (.bipush 60, 2), (.idiv, 1), (.if_icmp .ne 11, 3), (.iload 7, 2), (.bipush 60, 2), (.irem, 1), (.goto 5, 3), (.bipush 59, 2), (.istore 11, 2), (.iconst 0, 1), (.istore 12, 2), (.iload 12, 2), (.iload 11, 2), (.iload 10, 2), (.isub, 1), (.if_icmp .gt 109, 3), (.iload 5, 2), (.iconst 2, 1), (.if_icmp .eq 10, 3), (.aload_n 0, 1), (.getfield 400, 3), (.ifCond .ne 96, 3), (.iload 5, 2), (.iconst 1, 1), (.if_icmp .ne 11, 3), (.iload 11, 2), (.iload 12, 2), (.isub, 1), (.goto 8, 3), (.iload 10, 2), (.iload 12, 2), (.iadd, 1), (.istore 13, 2), (.aload_n 0, 1), (.getfield 52, 3), (.iconst 5, 1), (.iload_n 1, 1), (.imul, 1), (.laload, 1), (.iload 13, 2), (.lshr, 1), (.lconst 1, 1), (.land, 1), (.lconst 1, 1), (.lcmp, 1), (.ifCond .ne 51, 3), (.aload_n 0, 1), (.dup, 1), (.getfield 400, 3), (.iconst 1, 1), (.iadd, 1), (.putfield 400, 3), (.aload_n 0, 1), (.bipush 60, 2), (.iload 9, 2), (.imul, 1), (.iload 13, 2), (.iadd, 1), (.iload 4, 2), (.isub, 1), (.putfield 406, 3), (.aload_n 0, 1), (.aload_n 0, 1), (.getfield 400, 3), (.iconst 1, 1), (.if_icmp .ne 10, 3), (.aload_n 0, 1), (.getfield 406, 3), (.goto 7, 3), (.aload_n 0, 1), (.getfield 403, 3), (.putfield 403, 3), (.iinc 12 1, 3), (.goto (-113), 3), (.iinc 8 1, 3), (.goto (-244), 3), (.return_, 1)]
abbrev mi_X7_look : MI := (yX7_look, cX7_look, 14, none, [], { frames := 0, cells := 0, slots := 0, locals := 0 }, is_X7_look)
theorem dc_X7_look : dcb cX7_look is_X7_look 0 = true := by decide +kernel
theorem wc_X7_look : cdw mi_X7_look ∈ ALLW := aw (i := 1528) (by decide +kernel) rfl
theorem wi_X7_look : Cond.initialized (miY mi_X7_look).cls ∈ ALLW := aw (i := 64) (by decide +kernel) rfl
theorem wn_X7_look : Cond.instanceMethod (miY mi_X7_look) ∈ ALLW := aw (i := 1527) (by decide +kernel) rfl
theorem wv_X7_look : Cond.selects (miY mi_X7_look).cls (miY mi_X7_look) (miY mi_X7_look) ∈ ALLW := aw (i := 49) (by decide +kernel) rfl
def V_X7_order_237 (K : Rs → Mm → Prop)  : Nat → Mm → Nat → Int32 → Int32 → Prop
  | 0, _, _, _, _ => False
  | z + 1, M, l0, l6, l7 => (((300 : Int32) ≤ l7 → (ob M l0 7 ∧ ∃ b2, mP M l0 34 = some b2 ∧ (ob M b2 11 ∧ (vp_in l6 (mN M b2) ∧ ∀ M5, M5 = sI M b2 (l6).toNatClampNeg (vp_nar .boolean (mI M l0 18)) → ∃ b6, mP M5 l0 35 = some b6 ∧ (ob M5 b6 10 ∧ (vp_in l6 (mN M5 b6) ∧ ∀ M9, M9 = sJ M5 b6 (l6).toNatClampNeg (mJ M5 l0 19) → ∃ b10, mP M9 l0 36 = some b10 ∧ (ob M9 b10 11 ∧ (vp_in l6 (mN M9 b10) ∧ ∀ M13, M13 = sI M9 b10 (l6).toNatClampNeg (vp_nar .boolean (mI M9 l0 20)) → ∃ b14, mP M13 l0 37 = some b14 ∧ (ob M13 b14 10 ∧ (vp_in l6 (mN M13 b14) ∧ ∀ M17, M17 = sJ M13 b14 (l6).toNatClampNeg (mJ M13 l0 21) → ∃ b18, mP M17 l0 38 = some b18 ∧ (ob M17 b18 10 ∧ (vp_in l6 (mN M17 b18) ∧ ∀ M21, M21 = sJ M17 b18 (l6).toNatClampNeg (mJ M17 l0 22) → ∃ b22, mP M21 l0 39 = some b22 ∧ (ob M21 b22 10 ∧ (vp_in l6 (mN M21 b22) ∧ ∀ M25, M25 = sJ M21 b22 (l6).toNatClampNeg (mJ M21 l0 23) → ∃ b26, mP M25 l0 40 = some b26 ∧ (ob M25 b26 11 ∧ (vp_in l6 (mN M25 b26) ∧ ∀ M29, M29 = sI M25 b26 (l6).toNatClampNeg (vp_nar .boolean (mI M25 l0 24)) → ∃ b30, mP M29 l0 41 = some b30 ∧ (ob M29 b30 11 ∧ (vp_in l6 (mN M29 b30) ∧ ∀ M33, M33 = sI M29 b30 (l6).toNatClampNeg (vp_nar .boolean (mI M29 l0 25)) → ∃ b34, mP M33 l0 42 = some b34 ∧ (ob M33 b34 9 ∧ (vp_in l6 (mN M33 b34) ∧ ∀ M37, M37 = sI M33 b34 (l6).toNatClampNeg (0 : Int32) → ∃ b38, mP M37 l0 43 = some b38 ∧ (ob M37 b38 9 ∧ (vp_in l6 (mN M37 b38) ∧ ∀ M41, M41 = sI M37 b38 (l6).toNatClampNeg (0 : Int32) → ∃ b42, mP M41 l0 44 = some b42 ∧ (ob M41 b42 9 ∧ (vp_in l6 (mN M41 b42) ∧ ∀ M45, M45 = sI M41 b42 (l6).toNatClampNeg (-1 : Int32) → K (.inl (some (.int l6))) M45)))))))))))))))))))))))) ∧ (¬ (300 : Int32) ≤ l7 → (ob M l0 7 ∧ ∃ b47, mP M l0 33 = some b47 ∧ ∃ b48, mP M l0 17 = some b48 ∧ (ob M b48 11 ∧ (vp_in l7 (mN M b48) ∧ (ob M b47 11 ∧ (vp_in (((300 : Int32) * l6) + l7) (mN M b47) ∧ ∀ M53, M53 = sI M b47 ((((300 : Int32) * l6) + l7)).toNatClampNeg (vp_nar .boolean (mI M b48 (l7).toNatClampNeg)) → ∀ x54 : Int32, x54 = (l7 + (1 : Int32)) → V_X7_order_237 K  z M53 l0 l6 x54)))))))
set_option maxRecDepth 100000 in
set_option maxHeartbeats 4000000 in
theorem x_X7_order_237 {G : Gx} {K : Rs → Mm → Prop}  : ∀ (z : Nat) (M : Mm) (l0 : Nat) (l6 : Int32) (l7 : Int32), V_X7_order_237 K  z M l0 l6 l7 → E G mi_X7_order K M 0 0 237 [some (.ref l0), none, none, none, none, none, some (.int l6), some (.int l7)] []
  | 0, M, l0, l6, l7, h => False.elim h
  | z + 1, M, l0, l6, l7, h => by
    unfold V_X7_order_237 at h
    refine e_blk 2 237 _ _ (pc' := 242) (L' := [some (.ref l0), none, none, none, none, none, some (.int l6), some (.int l7)]) (st' := [.int (300 : Int32), .int l7]) rfl ?_
    refine e_icmp_ge 272 rfl rfl (fun hc => ?_) (fun hc => ?_)
    · replace h := h.1 hc
      refine e_blk 1 272 _ _ (pc' := 273) (L' := [some (.ref l0), none, none, none, none, none, some (.int l6), some (.int l7)]) (st' := [.ref l0]) rfl ?_
      obtain ⟨ho1, h⟩ := h
      obtain ⟨b2, hbb2, h⟩ := h
      refine e_getR 7 34 rfl rfl (by decide) (aw (i := 1099) (by decide +kernel) rfl) ho1 rfl hbb2 ?_
      refine e_blk 2 276 _ _ (pc' := 279) (L' := [some (.ref l0), none, none, none, none, none, some (.int l6), some (.int l7)]) (st' := [.ref l0, .int l6, .ref b2]) rfl ?_
      refine e_getI 7 18 rfl rfl (by decide) (aw (i := 1083) (by decide +kernel) rfl) ho1 rfl ?_
      obtain ⟨ho3, h⟩ := h
      obtain ⟨hi4, h⟩ := h
      refine e_zast rfl ho3 hi4 ?_
      generalize hM5 : sI M b2 (l6).toNatClampNeg (vp_nar .boolean (mI M l0 18)) = M5
      replace h := h M5 hM5.symm
      replace ho1 : ob M5 l0 7 := hM5 ▸ ob_sI ho1
      replace ho3 : ob M5 b2 11 := hM5 ▸ ob_sI ho3
      refine e_blk 1 283 _ _ (pc' := 284) (L' := [some (.ref l0), none, none, none, none, none, some (.int l6), some (.int l7)]) (st' := [.ref l0]) rfl ?_
      obtain ⟨b6, hbb6, h⟩ := h
      refine e_getR 7 35 rfl rfl (by decide) (aw (i := 1100) (by decide +kernel) rfl) ho1 rfl hbb6 ?_
      refine e_blk 2 287 _ _ (pc' := 290) (L' := [some (.ref l0), none, none, none, none, none, some (.int l6), some (.int l7)]) (st' := [.ref l0, .int l6, .ref b6]) rfl ?_
      refine e_getJ 7 19 rfl rfl (by decide) (aw (i := 1084) (by decide +kernel) rfl) ho1 rfl ?_
      obtain ⟨ho7, h⟩ := h
      obtain ⟨hi8, h⟩ := h
      refine e_last rfl ho7 hi8 ?_
      generalize hM9 : sJ M5 b6 (l6).toNatClampNeg (mJ M5 l0 19) = M9
      replace h := h M9 hM9.symm
      replace ho1 : ob M9 l0 7 := hM9 ▸ ob_sJ ho1
      replace ho3 : ob M9 b2 11 := hM9 ▸ ob_sJ ho3
      replace ho7 : ob M9 b6 10 := hM9 ▸ ob_sJ ho7
      refine e_blk 1 294 _ _ (pc' := 295) (L' := [some (.ref l0), none, none, none, none, none, some (.int l6), some (.int l7)]) (st' := [.ref l0]) rfl ?_
      obtain ⟨b10, hbb10, h⟩ := h
      refine e_getR 7 36 rfl rfl (by decide) (aw (i := 1101) (by decide +kernel) rfl) ho1 rfl hbb10 ?_
      refine e_blk 2 298 _ _ (pc' := 301) (L' := [some (.ref l0), none, none, none, none, none, some (.int l6), some (.int l7)]) (st' := [.ref l0, .int l6, .ref b10]) rfl ?_
      refine e_getI 7 20 rfl rfl (by decide) (aw (i := 1085) (by decide +kernel) rfl) ho1 rfl ?_
      obtain ⟨ho11, h⟩ := h
      obtain ⟨hi12, h⟩ := h
      refine e_zast rfl ho11 hi12 ?_
      generalize hM13 : sI M9 b10 (l6).toNatClampNeg (vp_nar .boolean (mI M9 l0 20)) = M13
      replace h := h M13 hM13.symm
      replace ho1 : ob M13 l0 7 := hM13 ▸ ob_sI ho1
      replace ho3 : ob M13 b2 11 := hM13 ▸ ob_sI ho3
      replace ho7 : ob M13 b6 10 := hM13 ▸ ob_sI ho7
      replace ho11 : ob M13 b10 11 := hM13 ▸ ob_sI ho11
      refine e_blk 1 305 _ _ (pc' := 306) (L' := [some (.ref l0), none, none, none, none, none, some (.int l6), some (.int l7)]) (st' := [.ref l0]) rfl ?_
      obtain ⟨b14, hbb14, h⟩ := h
      refine e_getR 7 37 rfl rfl (by decide) (aw (i := 1102) (by decide +kernel) rfl) ho1 rfl hbb14 ?_
      refine e_blk 2 309 _ _ (pc' := 312) (L' := [some (.ref l0), none, none, none, none, none, some (.int l6), some (.int l7)]) (st' := [.ref l0, .int l6, .ref b14]) rfl ?_
      refine e_getJ 7 21 rfl rfl (by decide) (aw (i := 1086) (by decide +kernel) rfl) ho1 rfl ?_
      obtain ⟨ho15, h⟩ := h
      obtain ⟨hi16, h⟩ := h
      refine e_last rfl ho15 hi16 ?_
      generalize hM17 : sJ M13 b14 (l6).toNatClampNeg (mJ M13 l0 21) = M17
      replace h := h M17 hM17.symm
      replace ho1 : ob M17 l0 7 := hM17 ▸ ob_sJ ho1
      replace ho3 : ob M17 b2 11 := hM17 ▸ ob_sJ ho3
      replace ho7 : ob M17 b6 10 := hM17 ▸ ob_sJ ho7
      replace ho11 : ob M17 b10 11 := hM17 ▸ ob_sJ ho11
      replace ho15 : ob M17 b14 10 := hM17 ▸ ob_sJ ho15
      refine e_blk 1 316 _ _ (pc' := 317) (L' := [some (.ref l0), none, none, none, none, none, some (.int l6), some (.int l7)]) (st' := [.ref l0]) rfl ?_
      obtain ⟨b18, hbb18, h⟩ := h
      refine e_getR 7 38 rfl rfl (by decide) (aw (i := 1103) (by decide +kernel) rfl) ho1 rfl hbb18 ?_
      refine e_blk 2 320 _ _ (pc' := 323) (L' := [some (.ref l0), none, none, none, none, none, some (.int l6), some (.int l7)]) (st' := [.ref l0, .int l6, .ref b18]) rfl ?_
      refine e_getJ 7 22 rfl rfl (by decide) (aw (i := 1087) (by decide +kernel) rfl) ho1 rfl ?_
      obtain ⟨ho19, h⟩ := h
      obtain ⟨hi20, h⟩ := h
      refine e_last rfl ho19 hi20 ?_
      generalize hM21 : sJ M17 b18 (l6).toNatClampNeg (mJ M17 l0 22) = M21
      replace h := h M21 hM21.symm
      replace ho1 : ob M21 l0 7 := hM21 ▸ ob_sJ ho1
      replace ho3 : ob M21 b2 11 := hM21 ▸ ob_sJ ho3
      replace ho7 : ob M21 b6 10 := hM21 ▸ ob_sJ ho7
      replace ho11 : ob M21 b10 11 := hM21 ▸ ob_sJ ho11
      replace ho15 : ob M21 b14 10 := hM21 ▸ ob_sJ ho15
      replace ho19 : ob M21 b18 10 := hM21 ▸ ob_sJ ho19
      refine e_blk 1 327 _ _ (pc' := 328) (L' := [some (.ref l0), none, none, none, none, none, some (.int l6), some (.int l7)]) (st' := [.ref l0]) rfl ?_
      obtain ⟨b22, hbb22, h⟩ := h
      refine e_getR 7 39 rfl rfl (by decide) (aw (i := 1104) (by decide +kernel) rfl) ho1 rfl hbb22 ?_
      refine e_blk 2 331 _ _ (pc' := 334) (L' := [some (.ref l0), none, none, none, none, none, some (.int l6), some (.int l7)]) (st' := [.ref l0, .int l6, .ref b22]) rfl ?_
      refine e_getJ 7 23 rfl rfl (by decide) (aw (i := 1088) (by decide +kernel) rfl) ho1 rfl ?_
      obtain ⟨ho23, h⟩ := h
      obtain ⟨hi24, h⟩ := h
      refine e_last rfl ho23 hi24 ?_
      generalize hM25 : sJ M21 b22 (l6).toNatClampNeg (mJ M21 l0 23) = M25
      replace h := h M25 hM25.symm
      replace ho1 : ob M25 l0 7 := hM25 ▸ ob_sJ ho1
      replace ho3 : ob M25 b2 11 := hM25 ▸ ob_sJ ho3
      replace ho7 : ob M25 b6 10 := hM25 ▸ ob_sJ ho7
      replace ho11 : ob M25 b10 11 := hM25 ▸ ob_sJ ho11
      replace ho15 : ob M25 b14 10 := hM25 ▸ ob_sJ ho15
      replace ho19 : ob M25 b18 10 := hM25 ▸ ob_sJ ho19
      replace ho23 : ob M25 b22 10 := hM25 ▸ ob_sJ ho23
      refine e_blk 1 338 _ _ (pc' := 339) (L' := [some (.ref l0), none, none, none, none, none, some (.int l6), some (.int l7)]) (st' := [.ref l0]) rfl ?_
      obtain ⟨b26, hbb26, h⟩ := h
      refine e_getR 7 40 rfl rfl (by decide) (aw (i := 1105) (by decide +kernel) rfl) ho1 rfl hbb26 ?_
      refine e_blk 2 342 _ _ (pc' := 345) (L' := [some (.ref l0), none, none, none, none, none, some (.int l6), some (.int l7)]) (st' := [.ref l0, .int l6, .ref b26]) rfl ?_
      refine e_getI 7 24 rfl rfl (by decide) (aw (i := 1089) (by decide +kernel) rfl) ho1 rfl ?_
      obtain ⟨ho27, h⟩ := h
      obtain ⟨hi28, h⟩ := h
      refine e_zast rfl ho27 hi28 ?_
      generalize hM29 : sI M25 b26 (l6).toNatClampNeg (vp_nar .boolean (mI M25 l0 24)) = M29
      replace h := h M29 hM29.symm
      replace ho1 : ob M29 l0 7 := hM29 ▸ ob_sI ho1
      replace ho3 : ob M29 b2 11 := hM29 ▸ ob_sI ho3
      replace ho7 : ob M29 b6 10 := hM29 ▸ ob_sI ho7
      replace ho11 : ob M29 b10 11 := hM29 ▸ ob_sI ho11
      replace ho15 : ob M29 b14 10 := hM29 ▸ ob_sI ho15
      replace ho19 : ob M29 b18 10 := hM29 ▸ ob_sI ho19
      replace ho23 : ob M29 b22 10 := hM29 ▸ ob_sI ho23
      replace ho27 : ob M29 b26 11 := hM29 ▸ ob_sI ho27
      refine e_blk 1 349 _ _ (pc' := 350) (L' := [some (.ref l0), none, none, none, none, none, some (.int l6), some (.int l7)]) (st' := [.ref l0]) rfl ?_
      obtain ⟨b30, hbb30, h⟩ := h
      refine e_getR 7 41 rfl rfl (by decide) (aw (i := 1106) (by decide +kernel) rfl) ho1 rfl hbb30 ?_
      refine e_blk 2 353 _ _ (pc' := 356) (L' := [some (.ref l0), none, none, none, none, none, some (.int l6), some (.int l7)]) (st' := [.ref l0, .int l6, .ref b30]) rfl ?_
      refine e_getI 7 25 rfl rfl (by decide) (aw (i := 1090) (by decide +kernel) rfl) ho1 rfl ?_
      obtain ⟨ho31, h⟩ := h
      obtain ⟨hi32, h⟩ := h
      refine e_zast rfl ho31 hi32 ?_
      generalize hM33 : sI M29 b30 (l6).toNatClampNeg (vp_nar .boolean (mI M29 l0 25)) = M33
      replace h := h M33 hM33.symm
      replace ho1 : ob M33 l0 7 := hM33 ▸ ob_sI ho1
      replace ho3 : ob M33 b2 11 := hM33 ▸ ob_sI ho3
      replace ho7 : ob M33 b6 10 := hM33 ▸ ob_sI ho7
      replace ho11 : ob M33 b10 11 := hM33 ▸ ob_sI ho11
      replace ho15 : ob M33 b14 10 := hM33 ▸ ob_sI ho15
      replace ho19 : ob M33 b18 10 := hM33 ▸ ob_sI ho19
      replace ho23 : ob M33 b22 10 := hM33 ▸ ob_sI ho23
      replace ho27 : ob M33 b26 11 := hM33 ▸ ob_sI ho27
      replace ho31 : ob M33 b30 11 := hM33 ▸ ob_sI ho31
      refine e_blk 1 360 _ _ (pc' := 361) (L' := [some (.ref l0), none, none, none, none, none, some (.int l6), some (.int l7)]) (st' := [.ref l0]) rfl ?_
      obtain ⟨b34, hbb34, h⟩ := h
      refine e_getR 7 42 rfl rfl (by decide) (aw (i := 1107) (by decide +kernel) rfl) ho1 rfl hbb34 ?_
      refine e_blk 2 364 _ _ (pc' := 367) (L' := [some (.ref l0), none, none, none, none, none, some (.int l6), some (.int l7)]) (st' := [.int (0 : Int32), .int l6, .ref b34]) rfl ?_
      obtain ⟨ho35, h⟩ := h
      obtain ⟨hi36, h⟩ := h
      refine e_iast rfl ho35 hi36 ?_
      generalize hM37 : sI M33 b34 (l6).toNatClampNeg (0 : Int32) = M37
      replace h := h M37 hM37.symm
      replace ho1 : ob M37 l0 7 := hM37 ▸ ob_sI ho1
      replace ho3 : ob M37 b2 11 := hM37 ▸ ob_sI ho3
      replace ho7 : ob M37 b6 10 := hM37 ▸ ob_sI ho7
      replace ho11 : ob M37 b10 11 := hM37 ▸ ob_sI ho11
      replace ho15 : ob M37 b14 10 := hM37 ▸ ob_sI ho15
      replace ho19 : ob M37 b18 10 := hM37 ▸ ob_sI ho19
      replace ho23 : ob M37 b22 10 := hM37 ▸ ob_sI ho23
      replace ho27 : ob M37 b26 11 := hM37 ▸ ob_sI ho27
      replace ho31 : ob M37 b30 11 := hM37 ▸ ob_sI ho31
      replace ho35 : ob M37 b34 9 := hM37 ▸ ob_sI ho35
      refine e_blk 1 368 _ _ (pc' := 369) (L' := [some (.ref l0), none, none, none, none, none, some (.int l6), some (.int l7)]) (st' := [.ref l0]) rfl ?_
      obtain ⟨b38, hbb38, h⟩ := h
      refine e_getR 7 43 rfl rfl (by decide) (aw (i := 1108) (by decide +kernel) rfl) ho1 rfl hbb38 ?_
      refine e_blk 2 372 _ _ (pc' := 375) (L' := [some (.ref l0), none, none, none, none, none, some (.int l6), some (.int l7)]) (st' := [.int (0 : Int32), .int l6, .ref b38]) rfl ?_
      obtain ⟨ho39, h⟩ := h
      obtain ⟨hi40, h⟩ := h
      refine e_iast rfl ho39 hi40 ?_
      generalize hM41 : sI M37 b38 (l6).toNatClampNeg (0 : Int32) = M41
      replace h := h M41 hM41.symm
      replace ho1 : ob M41 l0 7 := hM41 ▸ ob_sI ho1
      replace ho3 : ob M41 b2 11 := hM41 ▸ ob_sI ho3
      replace ho7 : ob M41 b6 10 := hM41 ▸ ob_sI ho7
      replace ho11 : ob M41 b10 11 := hM41 ▸ ob_sI ho11
      replace ho15 : ob M41 b14 10 := hM41 ▸ ob_sI ho15
      replace ho19 : ob M41 b18 10 := hM41 ▸ ob_sI ho19
      replace ho23 : ob M41 b22 10 := hM41 ▸ ob_sI ho23
      replace ho27 : ob M41 b26 11 := hM41 ▸ ob_sI ho27
      replace ho31 : ob M41 b30 11 := hM41 ▸ ob_sI ho31
      replace ho35 : ob M41 b34 9 := hM41 ▸ ob_sI ho35
      replace ho39 : ob M41 b38 9 := hM41 ▸ ob_sI ho39
      refine e_blk 1 376 _ _ (pc' := 377) (L' := [some (.ref l0), none, none, none, none, none, some (.int l6), some (.int l7)]) (st' := [.ref l0]) rfl ?_
      obtain ⟨b42, hbb42, h⟩ := h
      refine e_getR 7 44 rfl rfl (by decide) (aw (i := 1109) (by decide +kernel) rfl) ho1 rfl hbb42 ?_
      refine e_blk 2 380 _ _ (pc' := 383) (L' := [some (.ref l0), none, none, none, none, none, some (.int l6), some (.int l7)]) (st' := [.int (-1 : Int32), .int l6, .ref b42]) rfl ?_
      obtain ⟨ho43, h⟩ := h
      obtain ⟨hi44, h⟩ := h
      refine e_iast rfl ho43 hi44 ?_
      generalize hM45 : sI M41 b42 (l6).toNatClampNeg (-1 : Int32) = M45
      replace h := h M45 hM45.symm
      replace ho1 : ob M45 l0 7 := hM45 ▸ ob_sI ho1
      replace ho3 : ob M45 b2 11 := hM45 ▸ ob_sI ho3
      replace ho7 : ob M45 b6 10 := hM45 ▸ ob_sI ho7
      replace ho11 : ob M45 b10 11 := hM45 ▸ ob_sI ho11
      replace ho15 : ob M45 b14 10 := hM45 ▸ ob_sI ho15
      replace ho19 : ob M45 b18 10 := hM45 ▸ ob_sI ho19
      replace ho23 : ob M45 b22 10 := hM45 ▸ ob_sI ho23
      replace ho27 : ob M45 b26 11 := hM45 ▸ ob_sI ho27
      replace ho31 : ob M45 b30 11 := hM45 ▸ ob_sI ho31
      replace ho35 : ob M45 b34 9 := hM45 ▸ ob_sI ho35
      replace ho39 : ob M45 b38 9 := hM45 ▸ ob_sI ho39
      replace ho43 : ob M45 b42 9 := hM45 ▸ ob_sI ho43
      refine e_blk 1 384 _ _ (pc' := 386) (L' := [some (.ref l0), none, none, none, none, none, some (.int l6), some (.int l7)]) (st' := [.int l6]) rfl ?_
      exact e_reti rfl rfl (by decide) (by decide) h
    · replace h := h.2 hc
      refine e_blk 1 245 _ _ (pc' := 246) (L' := [some (.ref l0), none, none, none, none, none, some (.int l6), some (.int l7)]) (st' := [.ref l0]) rfl ?_
      obtain ⟨ho46, h⟩ := h
      obtain ⟨b47, hbb47, h⟩ := h
      refine e_getR 7 33 rfl rfl (by decide) (aw (i := 1098) (by decide +kernel) rfl) ho46 rfl hbb47 ?_
      refine e_blk 6 249 _ _ (pc' := 259) (L' := [some (.ref l0), none, none, none, none, none, some (.int l6), some (.int l7)]) (st' := [.ref l0, .int (((300 : Int32) * l6) + l7), .ref b47]) rfl ?_
      obtain ⟨b48, hbb48, h⟩ := h
      refine e_getR 7 17 rfl rfl (by decide) (aw (i := 1082) (by decide +kernel) rfl) ho46 rfl hbb48 ?_
      refine e_blk 1 262 _ _ (pc' := 264) (L' := [some (.ref l0), none, none, none, none, none, some (.int l6), some (.int l7)]) (st' := [.int l7, .ref b48, .int (((300 : Int32) * l6) + l7), .ref b47]) rfl ?_
      obtain ⟨ho49, h⟩ := h
      obtain ⟨hi50, h⟩ := h
      refine e_zald rfl ho49 hi50 ?_
      obtain ⟨ho51, h⟩ := h
      obtain ⟨hi52, h⟩ := h
      refine e_zast rfl ho51 hi52 ?_
      generalize hM53 : sI M b47 ((((300 : Int32) * l6) + l7)).toNatClampNeg (vp_nar .boolean (mI M b48 (l7).toNatClampNeg)) = M53
      replace h := h M53 hM53.symm
      replace ho46 : ob M53 l0 7 := hM53 ▸ ob_sI ho46
      replace ho49 : ob M53 b48 11 := hM53 ▸ ob_sI ho49
      replace ho51 : ob M53 b47 11 := hM53 ▸ ob_sI ho51
      refine e_blk 2 266 _ _ (pc' := 237) (L' := [some (.ref l0), none, none, none, none, none, some (.int l6), some (.int (l7 + (1 : Int32)))]) (st' := []) rfl ?_
      generalize hx_x54 : ((l7 + (1 : Int32)) : Int32) = x54
      replace h := h x54 hx_x54.symm
      refine e_drp [true, false, false, false, false, false, true, true] (L' := [some (.ref l0), none, none, none, none, none, some (.int l6), some (.int x54)]) rfl ?_
      exact x_X7_order_237  z _ _ _ _ h
def V_X7_order_203 (K : Rs → Mm → Prop)  : Nat → Mm → Nat → Int32 → Int32 → Prop
  | 0, _, _, _, _ => False
  | z + 1, M, l0, l6, l7 => (((5 : Int32) ≤ l7 → ∃ y, V_X7_order_237 K  y M l0 l6 (0 : Int32)) ∧ (¬ (5 : Int32) ≤ l7 → (ob M l0 7 ∧ ∃ b2, mP M l0 32 = some b2 ∧ ∃ b3, mP M l0 16 = some b3 ∧ (ob M b3 10 ∧ (vp_in l7 (mN M b3) ∧ (ob M b2 10 ∧ (vp_in (((5 : Int32) * l6) + l7) (mN M b2) ∧ ∀ M8, M8 = sJ M b2 ((((5 : Int32) * l6) + l7)).toNatClampNeg (mJ M b3 (l7).toNatClampNeg) → ∀ x9 : Int32, x9 = (l7 + (1 : Int32)) → V_X7_order_203 K  z M8 l0 l6 x9)))))))
set_option maxRecDepth 100000 in
set_option maxHeartbeats 4000000 in
theorem x_X7_order_203 {G : Gx} {K : Rs → Mm → Prop}  : ∀ (z : Nat) (M : Mm) (l0 : Nat) (l6 : Int32) (l7 : Int32), V_X7_order_203 K  z M l0 l6 l7 → E G mi_X7_order K M 0 0 203 [some (.ref l0), none, none, none, none, none, some (.int l6), some (.int l7)] []
  | 0, M, l0, l6, l7, h => False.elim h
  | z + 1, M, l0, l6, l7, h => by
    unfold V_X7_order_203 at h
    refine e_blk 2 203 _ _ (pc' := 206) (L' := [some (.ref l0), none, none, none, none, none, some (.int l6), some (.int l7)]) (st' := [.int (5 : Int32), .int l7]) rfl ?_
    refine e_icmp_ge 234 rfl rfl (fun hc => ?_) (fun hc => ?_)
    · replace h := h.1 hc
      refine e_blk 2 234 _ _ (pc' := 237) (L' := [some (.ref l0), none, none, none, none, none, some (.int l6), some (.int (0 : Int32))]) (st' := []) rfl ?_
      refine e_drp [true, false, false, false, false, false, true, true] (L' := [some (.ref l0), none, none, none, none, none, some (.int l6), some (.int (0 : Int32))]) rfl ?_
      obtain ⟨y, h⟩ := h
      exact x_X7_order_237  y _ _ _ _ h
    · replace h := h.2 hc
      refine e_blk 1 209 _ _ (pc' := 210) (L' := [some (.ref l0), none, none, none, none, none, some (.int l6), some (.int l7)]) (st' := [.ref l0]) rfl ?_
      obtain ⟨ho1, h⟩ := h
      obtain ⟨b2, hbb2, h⟩ := h
      refine e_getR 7 32 rfl rfl (by decide) (aw (i := 1097) (by decide +kernel) rfl) ho1 rfl hbb2 ?_
      refine e_blk 6 213 _ _ (pc' := 221) (L' := [some (.ref l0), none, none, none, none, none, some (.int l6), some (.int l7)]) (st' := [.ref l0, .int (((5 : Int32) * l6) + l7), .ref b2]) rfl ?_
      obtain ⟨b3, hbb3, h⟩ := h
      refine e_getR 7 16 rfl rfl (by decide) (aw (i := 1081) (by decide +kernel) rfl) ho1 rfl hbb3 ?_
      refine e_blk 1 224 _ _ (pc' := 226) (L' := [some (.ref l0), none, none, none, none, none, some (.int l6), some (.int l7)]) (st' := [.int l7, .ref b3, .int (((5 : Int32) * l6) + l7), .ref b2]) rfl ?_
      obtain ⟨ho4, h⟩ := h
      obtain ⟨hi5, h⟩ := h
      refine e_lald rfl ho4 hi5 ?_
      obtain ⟨ho6, h⟩ := h
      obtain ⟨hi7, h⟩ := h
      refine e_last rfl ho6 hi7 ?_
      generalize hM8 : sJ M b2 ((((5 : Int32) * l6) + l7)).toNatClampNeg (mJ M b3 (l7).toNatClampNeg) = M8
      replace h := h M8 hM8.symm
      replace ho1 : ob M8 l0 7 := hM8 ▸ ob_sJ ho1
      replace ho4 : ob M8 b3 10 := hM8 ▸ ob_sJ ho4
      replace ho6 : ob M8 b2 10 := hM8 ▸ ob_sJ ho6
      refine e_blk 2 228 _ _ (pc' := 203) (L' := [some (.ref l0), none, none, none, none, none, some (.int l6), some (.int (l7 + (1 : Int32)))]) (st' := []) rfl ?_
      generalize hx_x9 : ((l7 + (1 : Int32)) : Int32) = x9
      replace h := h x9 hx_x9.symm
      refine e_drp [true, false, false, false, false, false, true, true] (L' := [some (.ref l0), none, none, none, none, none, some (.int l6), some (.int x9)]) rfl ?_
      exact x_X7_order_203  z _ _ _ _ h
def V_X7_order_105 (K : Rs → Mm → Prop)  (M : Mm) (l0 : Nat) (l1 : Int32) (l2 : Int32) (l3 : Int32) (l4 : Int32) (l5 : Int32) (l6 : Int32) : Prop := ((¬ l6 = (12 : Int32) → (ob M l0 7 ∧ V_X7_readText (kV (fun M2 => (ob M2 l0 7 ∧ ∀ M4, M4 = sI M2 l0 11 (0 : Int32) → ∀ M5, M5 = sI M4 l0 15 (mI M4 l0 13) → (((mI M5 l0 13) ≤ 0 → ∃ b6, mP M5 l0 26 = some b6 ∧ (ob M5 b6 11 ∧ (vp_in l6 (mN M5 b6) ∧ ∀ M9, M9 = sI M5 b6 (l6).toNatClampNeg (vp_nar .boolean (1 : Int32)) → ∃ b10, mP M9 l0 27 = some b10 ∧ (ob M9 b10 9 ∧ (vp_in l6 (mN M9 b10) ∧ ∀ M13, M13 = sI M9 b10 (l6).toNatClampNeg l1 → ∃ b14, mP M13 l0 28 = some b14 ∧ (ob M13 b14 9 ∧ (vp_in l6 (mN M13 b14) ∧ ∀ M17, M17 = sI M13 b14 (l6).toNatClampNeg l2 → ∃ b18, mP M17 l0 29 = some b18 ∧ (ob M17 b18 9 ∧ (vp_in l6 (mN M17 b18) ∧ ∀ M21, M21 = sI M17 b18 (l6).toNatClampNeg l3 → ∃ b22, mP M21 l0 30 = some b22 ∧ (ob M21 b22 9 ∧ (vp_in l6 (mN M21 b22) ∧ ∀ M25, M25 = sI M21 b22 (l6).toNatClampNeg l4 → ∃ b26, mP M25 l0 31 = some b26 ∧ (ob M25 b26 9 ∧ (vp_in l6 (mN M25 b26) ∧ ∀ M29, M29 = sI M25 b26 (l6).toNatClampNeg l5 → ∃ y, V_X7_order_203 K  y M29 l0 l6 (0 : Int32)))))))))))))) ∧ (¬ (mI M5 l0 13) ≤ 0 → K (.inl (some (.int ((-2 : Int32) - (mI M5 l0 14))))) M5)))) (fun _ _ => False)) M l0)) ∧ (l6 = (12 : Int32) → (ob M l0 7 ∧ V_X7_wrong (kI (fun r32 M31 => K (.inl (some (.int r32))) M31) (fun _ _ => False)) M l0 (3 : Int32))))
set_option maxRecDepth 100000 in
set_option maxHeartbeats 4000000 in
theorem x_X7_order_105 {G : Gx} {K : Rs → Mm → Prop}  {M : Mm} {l0 : Nat} {l1 : Int32} {l2 : Int32} {l3 : Int32} {l4 : Int32} {l5 : Int32} {l6 : Int32} (h : V_X7_order_105 K  M l0 l1 l2 l3 l4 l5 l6) : E G mi_X7_order K M 0 0 105 [some (.ref l0), some (.int l1), some (.int l2), some (.int l3), some (.int l4), some (.int l5), some (.int l6), none] [] := by
  unfold V_X7_order_105 at h
  refine e_blk 2 105 _ _ (pc' := 109) (L' := [some (.ref l0), some (.int l1), some (.int l2), some (.int l3), some (.int l4), some (.int l5), some (.int l6), none]) (st' := [.int (12 : Int32), .int l6]) rfl ?_
  refine e_icmp_ne 118 rfl rfl (fun hc => ?_) (fun hc => ?_)
  · replace h := h.1 hc
    refine e_blk 1 118 _ _ (pc' := 119) (L' := [some (.ref l0), some (.int l1), some (.int l2), some (.int l3), some (.int l4), some (.int l5), some (.int l6), none]) (st' := [.ref l0]) rfl ?_
    obtain ⟨ho1, h⟩ := h
    refine e_callV (As := []) (rest := []) (ci := 7) rfl (x_X7_readText h) ho1 rfl rfl rfl (aw (i := 1335) (by decide +kernel) rfl) wn_X7_readText wv_X7_readText wi_X7_readText wc_X7_readText (show cok mi_X7_order mi_X7_readText 0 0 0 = true by decide +kernel) (Nat.le_of_ble_eq_true rfl) (fun v9 M2 hq => ?_) (fun X M9 hq => False.elim hq)
    obtain ⟨rfl, h⟩ := kV_l hq
    refine e_blk 2 122 _ _ (pc' := 124) (L' := [some (.ref l0), some (.int l1), some (.int l2), some (.int l3), some (.int l4), some (.int l5), some (.int l6), none]) (st' := [.int (0 : Int32), .ref l0]) rfl ?_
    obtain ⟨ho3, h⟩ := h
    refine e_putI 7 11 rfl rfl (by decide) (aw (i := 1076) (by decide +kernel) rfl) rfl ho3 rfl ?_
    generalize hM4 : sI M2 l0 11 (0 : Int32) = M4
    replace h := h M4 hM4.symm
    replace ho3 : ob M4 l0 7 := hM4 ▸ ob_sI ho3
    refine e_blk 2 127 _ _ (pc' := 129) (L' := [some (.ref l0), some (.int l1), some (.int l2), some (.int l3), some (.int l4), some (.int l5), some (.int l6), none]) (st' := [.ref l0, .ref l0]) rfl ?_
    refine e_getI 7 13 rfl rfl (by decide) (aw (i := 1078) (by decide +kernel) rfl) ho3 rfl ?_
    refine e_putI 7 15 rfl rfl (by decide) (aw (i := 1080) (by decide +kernel) rfl) rfl ho3 rfl ?_
    generalize hM5 : sI M4 l0 15 (mI M4 l0 13) = M5
    replace h := h M5 hM5.symm
    replace ho3 : ob M5 l0 7 := hM5 ▸ ob_sI ho3
    refine e_blk 1 135 _ _ (pc' := 136) (L' := [some (.ref l0), some (.int l1), some (.int l2), some (.int l3), some (.int l4), some (.int l5), some (.int l6), none]) (st' := [.ref l0]) rfl ?_
    refine e_getI 7 13 rfl rfl (by decide) (aw (i := 1078) (by decide +kernel) rfl) ho3 rfl ?_
    refine e_if_le 150 rfl rfl (fun hc => ?_) (fun hc => ?_)
    · replace h := h.1 hc
      refine e_blk 1 150 _ _ (pc' := 151) (L' := [some (.ref l0), some (.int l1), some (.int l2), some (.int l3), some (.int l4), some (.int l5), some (.int l6), none]) (st' := [.ref l0]) rfl ?_
      obtain ⟨b6, hbb6, h⟩ := h
      refine e_getR 7 26 rfl rfl (by decide) (aw (i := 1091) (by decide +kernel) rfl) ho3 rfl hbb6 ?_
      refine e_blk 2 154 _ _ (pc' := 157) (L' := [some (.ref l0), some (.int l1), some (.int l2), some (.int l3), some (.int l4), some (.int l5), some (.int l6), none]) (st' := [.int (1 : Int32), .int l6, .ref b6]) rfl ?_
      obtain ⟨ho7, h⟩ := h
      obtain ⟨hi8, h⟩ := h
      refine e_zast rfl ho7 hi8 ?_
      generalize hM9 : sI M5 b6 (l6).toNatClampNeg (vp_nar .boolean (1 : Int32)) = M9
      replace h := h M9 hM9.symm
      replace ho3 : ob M9 l0 7 := hM9 ▸ ob_sI ho3
      replace ho7 : ob M9 b6 11 := hM9 ▸ ob_sI ho7
      refine e_blk 1 158 _ _ (pc' := 159) (L' := [some (.ref l0), some (.int l1), some (.int l2), some (.int l3), some (.int l4), some (.int l5), some (.int l6), none]) (st' := [.ref l0]) rfl ?_
      obtain ⟨b10, hbb10, h⟩ := h
      refine e_getR 7 27 rfl rfl (by decide) (aw (i := 1092) (by decide +kernel) rfl) ho3 rfl hbb10 ?_
      refine e_blk 2 162 _ _ (pc' := 165) (L' := [some (.ref l0), some (.int l1), some (.int l2), some (.int l3), some (.int l4), some (.int l5), some (.int l6), none]) (st' := [.int l1, .int l6, .ref b10]) rfl ?_
      obtain ⟨ho11, h⟩ := h
      obtain ⟨hi12, h⟩ := h
      refine e_iast rfl ho11 hi12 ?_
      generalize hM13 : sI M9 b10 (l6).toNatClampNeg l1 = M13
      replace h := h M13 hM13.symm
      replace ho3 : ob M13 l0 7 := hM13 ▸ ob_sI ho3
      replace ho7 : ob M13 b6 11 := hM13 ▸ ob_sI ho7
      replace ho11 : ob M13 b10 9 := hM13 ▸ ob_sI ho11
      refine e_blk 1 166 _ _ (pc' := 167) (L' := [some (.ref l0), some (.int l1), some (.int l2), some (.int l3), some (.int l4), some (.int l5), some (.int l6), none]) (st' := [.ref l0]) rfl ?_
      obtain ⟨b14, hbb14, h⟩ := h
      refine e_getR 7 28 rfl rfl (by decide) (aw (i := 1093) (by decide +kernel) rfl) ho3 rfl hbb14 ?_
      refine e_blk 2 170 _ _ (pc' := 173) (L' := [some (.ref l0), some (.int l1), some (.int l2), some (.int l3), some (.int l4), some (.int l5), some (.int l6), none]) (st' := [.int l2, .int l6, .ref b14]) rfl ?_
      obtain ⟨ho15, h⟩ := h
      obtain ⟨hi16, h⟩ := h
      refine e_iast rfl ho15 hi16 ?_
      generalize hM17 : sI M13 b14 (l6).toNatClampNeg l2 = M17
      replace h := h M17 hM17.symm
      replace ho3 : ob M17 l0 7 := hM17 ▸ ob_sI ho3
      replace ho7 : ob M17 b6 11 := hM17 ▸ ob_sI ho7
      replace ho11 : ob M17 b10 9 := hM17 ▸ ob_sI ho11
      replace ho15 : ob M17 b14 9 := hM17 ▸ ob_sI ho15
      refine e_blk 1 174 _ _ (pc' := 175) (L' := [some (.ref l0), some (.int l1), some (.int l2), some (.int l3), some (.int l4), some (.int l5), some (.int l6), none]) (st' := [.ref l0]) rfl ?_
      obtain ⟨b18, hbb18, h⟩ := h
      refine e_getR 7 29 rfl rfl (by decide) (aw (i := 1094) (by decide +kernel) rfl) ho3 rfl hbb18 ?_
      refine e_blk 2 178 _ _ (pc' := 181) (L' := [some (.ref l0), some (.int l1), some (.int l2), some (.int l3), some (.int l4), some (.int l5), some (.int l6), none]) (st' := [.int l3, .int l6, .ref b18]) rfl ?_
      obtain ⟨ho19, h⟩ := h
      obtain ⟨hi20, h⟩ := h
      refine e_iast rfl ho19 hi20 ?_
      generalize hM21 : sI M17 b18 (l6).toNatClampNeg l3 = M21
      replace h := h M21 hM21.symm
      replace ho3 : ob M21 l0 7 := hM21 ▸ ob_sI ho3
      replace ho7 : ob M21 b6 11 := hM21 ▸ ob_sI ho7
      replace ho11 : ob M21 b10 9 := hM21 ▸ ob_sI ho11
      replace ho15 : ob M21 b14 9 := hM21 ▸ ob_sI ho15
      replace ho19 : ob M21 b18 9 := hM21 ▸ ob_sI ho19
      refine e_blk 1 182 _ _ (pc' := 183) (L' := [some (.ref l0), some (.int l1), some (.int l2), some (.int l3), some (.int l4), some (.int l5), some (.int l6), none]) (st' := [.ref l0]) rfl ?_
      obtain ⟨b22, hbb22, h⟩ := h
      refine e_getR 7 30 rfl rfl (by decide) (aw (i := 1095) (by decide +kernel) rfl) ho3 rfl hbb22 ?_
      refine e_blk 2 186 _ _ (pc' := 190) (L' := [some (.ref l0), some (.int l1), some (.int l2), some (.int l3), some (.int l4), some (.int l5), some (.int l6), none]) (st' := [.int l4, .int l6, .ref b22]) rfl ?_
      obtain ⟨ho23, h⟩ := h
      obtain ⟨hi24, h⟩ := h
      refine e_iast rfl ho23 hi24 ?_
      generalize hM25 : sI M21 b22 (l6).toNatClampNeg l4 = M25
      replace h := h M25 hM25.symm
      replace ho3 : ob M25 l0 7 := hM25 ▸ ob_sI ho3
      replace ho7 : ob M25 b6 11 := hM25 ▸ ob_sI ho7
      replace ho11 : ob M25 b10 9 := hM25 ▸ ob_sI ho11
      replace ho15 : ob M25 b14 9 := hM25 ▸ ob_sI ho15
      replace ho19 : ob M25 b18 9 := hM25 ▸ ob_sI ho19
      replace ho23 : ob M25 b22 9 := hM25 ▸ ob_sI ho23
      refine e_blk 1 191 _ _ (pc' := 192) (L' := [some (.ref l0), some (.int l1), some (.int l2), some (.int l3), some (.int l4), some (.int l5), some (.int l6), none]) (st' := [.ref l0]) rfl ?_
      obtain ⟨b26, hbb26, h⟩ := h
      refine e_getR 7 31 rfl rfl (by decide) (aw (i := 1096) (by decide +kernel) rfl) ho3 rfl hbb26 ?_
      refine e_blk 2 195 _ _ (pc' := 199) (L' := [some (.ref l0), some (.int l1), some (.int l2), some (.int l3), some (.int l4), some (.int l5), some (.int l6), none]) (st' := [.int l5, .int l6, .ref b26]) rfl ?_
      obtain ⟨ho27, h⟩ := h
      obtain ⟨hi28, h⟩ := h
      refine e_iast rfl ho27 hi28 ?_
      generalize hM29 : sI M25 b26 (l6).toNatClampNeg l5 = M29
      replace h := h M29 hM29.symm
      replace ho3 : ob M29 l0 7 := hM29 ▸ ob_sI ho3
      replace ho7 : ob M29 b6 11 := hM29 ▸ ob_sI ho7
      replace ho11 : ob M29 b10 9 := hM29 ▸ ob_sI ho11
      replace ho15 : ob M29 b14 9 := hM29 ▸ ob_sI ho15
      replace ho19 : ob M29 b18 9 := hM29 ▸ ob_sI ho19
      replace ho23 : ob M29 b22 9 := hM29 ▸ ob_sI ho23
      replace ho27 : ob M29 b26 9 := hM29 ▸ ob_sI ho27
      refine e_blk 2 200 _ _ (pc' := 203) (L' := [some (.ref l0), some (.int l1), some (.int l2), some (.int l3), some (.int l4), some (.int l5), some (.int l6), some (.int (0 : Int32))]) (st' := []) rfl ?_
      refine e_drp [true, false, false, false, false, false, true, true] (L' := [some (.ref l0), none, none, none, none, none, some (.int l6), some (.int (0 : Int32))]) rfl ?_
      obtain ⟨y, h⟩ := h
      exact x_X7_order_203  y _ _ _ _ h
    · replace h := h.2 hc
      refine e_blk 2 142 _ _ (pc' := 145) (L' := [some (.ref l0), some (.int l1), some (.int l2), some (.int l3), some (.int l4), some (.int l5), some (.int l6), none]) (st' := [.ref l0, .int (-2 : Int32)]) rfl ?_
      refine e_getI 7 14 rfl rfl (by decide) (aw (i := 1079) (by decide +kernel) rfl) ho3 rfl ?_
      refine e_blk 1 148 _ _ (pc' := 149) (L' := [some (.ref l0), some (.int l1), some (.int l2), some (.int l3), some (.int l4), some (.int l5), some (.int l6), none]) (st' := [.int ((-2 : Int32) - (mI M5 l0 14))]) rfl ?_
      exact e_reti rfl rfl (by decide) (by decide) h
  · replace h := h.2 hc
    refine e_blk 2 112 _ _ (pc' := 114) (L' := [some (.ref l0), some (.int l1), some (.int l2), some (.int l3), some (.int l4), some (.int l5), some (.int l6), none]) (st' := [.int (3 : Int32), .ref l0]) rfl ?_
    obtain ⟨ho30, h⟩ := h
    refine e_callV (As := [.int (3 : Int32)]) (rest := []) (ci := 7) rfl (x_X7_wrong h) ho30 rfl rfl rfl (aw (i := 1265) (by decide +kernel) rfl) wn_X7_wrong wv_X7_wrong wi_X7_wrong wc_X7_wrong (show cok mi_X7_order mi_X7_wrong 0 0 1 = true by decide +kernel) (Nat.le_of_ble_eq_true rfl) (fun v9 M31 hq => ?_) (fun X M9 hq => False.elim hq)
    obtain ⟨r32, rfl, h⟩ := kI_l hq
    exact e_reti rfl rfl (by decide) (by decide) h
def V_X7_order_82 (K : Rs → Mm → Prop)  : Nat → Mm → Nat → Int32 → Int32 → Int32 → Int32 → Int32 → Int32 → Prop
  | 0, _, _, _, _, _, _, _, _ => False
  | z + 1, M, l0, l1, l2, l3, l4, l5, l6 => (((12 : Int32) ≤ l6 → V_X7_order_105 K  M l0 l1 l2 l3 l4 l5 l6) ∧ (¬ (12 : Int32) ≤ l6 → (ob M l0 7 ∧ ∃ b2, mP M l0 26 = some b2 ∧ (ob M b2 11 ∧ (vp_in l6 (mN M b2) ∧ (((mI M b2 (l6).toNatClampNeg) = 0 → V_X7_order_105 K  M l0 l1 l2 l3 l4 l5 l6) ∧ (¬ (mI M b2 (l6).toNatClampNeg) = 0 → ∀ x5 : Int32, x5 = (l6 + (1 : Int32)) → V_X7_order_82 K  z M l0 l1 l2 l3 l4 l5 x5)))))))
set_option maxRecDepth 100000 in
set_option maxHeartbeats 4000000 in
theorem x_X7_order_82 {G : Gx} {K : Rs → Mm → Prop}  : ∀ (z : Nat) (M : Mm) (l0 : Nat) (l1 : Int32) (l2 : Int32) (l3 : Int32) (l4 : Int32) (l5 : Int32) (l6 : Int32), V_X7_order_82 K  z M l0 l1 l2 l3 l4 l5 l6 → E G mi_X7_order K M 0 0 82 [some (.ref l0), some (.int l1), some (.int l2), some (.int l3), some (.int l4), some (.int l5), some (.int l6), none] []
  | 0, M, l0, l1, l2, l3, l4, l5, l6, h => False.elim h
  | z + 1, M, l0, l1, l2, l3, l4, l5, l6, h => by
    unfold V_X7_order_82 at h
    refine e_blk 2 82 _ _ (pc' := 86) (L' := [some (.ref l0), some (.int l1), some (.int l2), some (.int l3), some (.int l4), some (.int l5), some (.int l6), none]) (st' := [.int (12 : Int32), .int l6]) rfl ?_
    refine e_icmp_ge 105 rfl rfl (fun hc => ?_) (fun hc => ?_)
    · replace h := h.1 hc
      refine e_drp [true, true, true, true, true, true, true, false] (L' := [some (.ref l0), some (.int l1), some (.int l2), some (.int l3), some (.int l4), some (.int l5), some (.int l6), none]) rfl ?_
      exact x_X7_order_105  h
    · replace h := h.2 hc
      refine e_blk 1 89 _ _ (pc' := 90) (L' := [some (.ref l0), some (.int l1), some (.int l2), some (.int l3), some (.int l4), some (.int l5), some (.int l6), none]) (st' := [.ref l0]) rfl ?_
      obtain ⟨ho1, h⟩ := h
      obtain ⟨b2, hbb2, h⟩ := h
      refine e_getR 7 26 rfl rfl (by decide) (aw (i := 1091) (by decide +kernel) rfl) ho1 rfl hbb2 ?_
      refine e_blk 1 93 _ _ (pc' := 95) (L' := [some (.ref l0), some (.int l1), some (.int l2), some (.int l3), some (.int l4), some (.int l5), some (.int l6), none]) (st' := [.int l6, .ref b2]) rfl ?_
      obtain ⟨ho3, h⟩ := h
      obtain ⟨hi4, h⟩ := h
      refine e_zald rfl ho3 hi4 ?_
      refine e_if_eq 105 rfl rfl (fun hc => ?_) (fun hc => ?_)
      · replace h := h.1 hc
        refine e_drp [true, true, true, true, true, true, true, false] (L' := [some (.ref l0), some (.int l1), some (.int l2), some (.int l3), some (.int l4), some (.int l5), some (.int l6), none]) rfl ?_
        exact x_X7_order_105  h
      · replace h := h.2 hc
        refine e_blk 2 99 _ _ (pc' := 82) (L' := [some (.ref l0), some (.int l1), some (.int l2), some (.int l3), some (.int l4), some (.int l5), some (.int (l6 + (1 : Int32))), none]) (st' := []) rfl ?_
        generalize hx_x5 : ((l6 + (1 : Int32)) : Int32) = x5
        replace h := h x5 hx_x5.symm
        refine e_drp [true, true, true, true, true, true, true, false] (L' := [some (.ref l0), some (.int l1), some (.int l2), some (.int l3), some (.int l4), some (.int l5), some (.int x5), none]) rfl ?_
        exact x_X7_order_82  z _ _ _ _ _ _ _ _ h
def V_X7_order_73 (K : Rs → Mm → Prop)  (M : Mm) (l0 : Nat) : Prop := (ob M l0 7 ∧ V_X7_wrong (kI (fun r3 M2 => K (.inl (some (.int r3))) M2) (fun _ _ => False)) M l0 (2 : Int32))
set_option maxRecDepth 100000 in
set_option maxHeartbeats 4000000 in
theorem x_X7_order_73 {G : Gx} {K : Rs → Mm → Prop}  {M : Mm} {l0 : Nat} (h : V_X7_order_73 K  M l0) : E G mi_X7_order K M 0 0 73 [some (.ref l0), none, none, none, none, none, none, none] [] := by
  unfold V_X7_order_73 at h
  refine e_blk 2 73 _ _ (pc' := 75) (L' := [some (.ref l0), none, none, none, none, none, none, none]) (st' := [.int (2 : Int32), .ref l0]) rfl ?_
  obtain ⟨ho1, h⟩ := h
  refine e_callV (As := [.int (2 : Int32)]) (rest := []) (ci := 7) rfl (x_X7_wrong h) ho1 rfl rfl rfl (aw (i := 1265) (by decide +kernel) rfl) wn_X7_wrong wv_X7_wrong wi_X7_wrong wc_X7_wrong (show cok mi_X7_order mi_X7_wrong 0 0 1 = true by decide +kernel) (Nat.le_of_ble_eq_true rfl) (fun v9 M2 hq => ?_) (fun X M9 hq => False.elim hq)
  obtain ⟨r3, rfl, h⟩ := kI_l hq
  exact e_reti rfl rfl (by decide) (by decide) h
def V_X7_order (K : Rs → Mm → Prop) (M : Mm) (a0 : Nat) (a1 : Int32) (a2 : Int32) (a3 : Int32) (a4 : Int32) (a5 : Int32) : Prop := (ob M a0 7 ∧ ∀ M2, M2 = sI M a0 0 (0 : Int32) → V_X7_in (kI (fun r4 M3 => ((¬ r4 = 0 → V_X7_in (kI (fun r6 M5 => ((r6 = 0 → V_X7_order_73 K  M5 a0) ∧ (¬ r6 = 0 → V_X7_in (kI (fun r8 M7 => ((r8 = 0 → V_X7_order_73 K  M7 a0) ∧ (¬ r8 = 0 → V_X7_in (kI (fun r10 M9 => ((r10 = 0 → V_X7_order_73 K  M9 a0) ∧ (¬ r10 = 0 → V_X7_in (kI (fun r12 M11 => ((¬ r12 = 0 → ∃ y, V_X7_order_82 K  y M11 a0 a1 a2 a3 a4 a5 (0 : Int32)) ∧ (r12 = 0 → V_X7_order_73 K  M11 a0))) (fun _ _ => False)) M9 ((a5).toInt64) (1 : Int64) (10000 : Int64)))) (fun _ _ => False)) M7 ((a4).toInt64) (0 : Int64) (2 : Int64)))) (fun _ _ => False)) M5 ((a3).toInt64) (0 : Int64) (100000 : Int64)))) (fun _ _ => False)) M3 ((a2).toInt64) (0 : Int64) (2 : Int64)) ∧ (r4 = 0 → (ob M3 a0 7 ∧ V_X7_wrong (kI (fun r15 M14 => K (.inl (some (.int r15))) M14) (fun _ _ => False)) M3 a0 (1 : Int32))))) (fun _ _ => False)) M2 ((a1).toInt64) (0 : Int64) (3 : Int64))
set_option maxRecDepth 100000 in
set_option maxHeartbeats 4000000 in
theorem x_X7_order {G : Gx} {K : Rs → Mm → Prop} {M : Mm} {a0 : Nat} {a1 : Int32} {a2 : Int32} {a3 : Int32} {a4 : Int32} {a5 : Int32} (h : V_X7_order K M a0 a1 a2 a3 a4 a5) : MC G mi_X7_order [.ref a0, .int a1, .int a2, .int a3, .int a4, .int a5] M K := by
  unfold V_X7_order at h
  refine mc_of rfl (by decide +kernel) dc_X7_order (Nat.le_of_ble_eq_true rfl) 2 (Nat.le_of_ble_eq_true rfl) ?_
  show E G mi_X7_order K M 0 0 0 [some (.ref a0), some (.int a1), some (.int a2), some (.int a3), some (.int a4), some (.int a5), none, none] []
  refine e_blk 2 0 _ _ (pc' := 2) (L' := [some (.ref a0), some (.int a1), some (.int a2), some (.int a3), some (.int a4), some (.int a5), none, none]) (st' := [.int (0 : Int32), .ref a0]) rfl ?_
  obtain ⟨ho1, h⟩ := h
  refine e_putI 7 0 rfl rfl (by decide) (aw (i := 1065) (by decide +kernel) rfl) rfl ho1 rfl ?_
  generalize hM2 : sI M a0 0 (0 : Int32) = M2
  replace h := h M2 hM2.symm
  replace ho1 : ob M2 a0 7 := hM2 ▸ ob_sI ho1
  refine e_blk 3 5 _ _ (pc' := 8) (L' := [some (.ref a0), some (.int a1), some (.int a2), some (.int a3), some (.int a4), some (.int a5), none, none]) (st' := [.long (0 : Int64), .long ((a1).toInt64)]) rfl ?_
  refine e_ldc2 (3) rfl (aw (i := 1255) (by decide +kernel) rfl) ?_
  refine e_callS (As := [.long ((a1).toInt64), .long (0 : Int64), .long (3 : Int64)]) (rest := []) rfl (x_X7_in h) rfl (aw (i := 1256) (by decide +kernel) rfl) ws_X7_in wi_X7_in wc_X7_in (show cok mi_X7_order mi_X7_in 0 0 3 = true by decide +kernel) (Nat.le_of_ble_eq_true rfl) (fun v9 M3 hq => ?_) (fun X M9 hq => False.elim hq)
  obtain ⟨r4, rfl, h⟩ := kI_l hq
  refine e_if_ne 23 rfl rfl (fun hc => ?_) (fun hc => ?_)
  · replace h := h.1 hc
    refine e_blk 3 23 _ _ (pc' := 26) (L' := [some (.ref a0), some (.int a1), some (.int a2), some (.int a3), some (.int a4), some (.int a5), none, none]) (st' := [.long (0 : Int64), .long ((a2).toInt64)]) rfl ?_
    refine e_ldc2 (2) rfl (aw (i := 1332) (by decide +kernel) rfl) ?_
    refine e_callS (As := [.long ((a2).toInt64), .long (0 : Int64), .long (2 : Int64)]) (rest := []) rfl (x_X7_in h) rfl (aw (i := 1256) (by decide +kernel) rfl) ws_X7_in wi_X7_in wc_X7_in (show cok mi_X7_order mi_X7_in 0 0 3 = true by decide +kernel) (Nat.le_of_ble_eq_true rfl) (fun v9 M5 hq => ?_) (fun X M9 hq => False.elim hq)
    obtain ⟨r6, rfl, h⟩ := kI_l hq
    refine e_if_eq 73 rfl rfl (fun hc => ?_) (fun hc => ?_)
    · replace h := h.1 hc
      refine e_drp [true, false, false, false, false, false, false, false] (L' := [some (.ref a0), none, none, none, none, none, none, none]) rfl ?_
      exact x_X7_order_73  h
    · replace h := h.2 hc
      refine e_blk 3 35 _ _ (pc' := 38) (L' := [some (.ref a0), some (.int a1), some (.int a2), some (.int a3), some (.int a4), some (.int a5), none, none]) (st' := [.long (0 : Int64), .long ((a3).toInt64)]) rfl ?_
      refine e_ldc2 (100000) rfl (aw (i := 1333) (by decide +kernel) rfl) ?_
      refine e_callS (As := [.long ((a3).toInt64), .long (0 : Int64), .long (100000 : Int64)]) (rest := []) rfl (x_X7_in h) rfl (aw (i := 1256) (by decide +kernel) rfl) ws_X7_in wi_X7_in wc_X7_in (show cok mi_X7_order mi_X7_in 0 0 3 = true by decide +kernel) (Nat.le_of_ble_eq_true rfl) (fun v9 M7 hq => ?_) (fun X M9 hq => False.elim hq)
      obtain ⟨r8, rfl, h⟩ := kI_l hq
      refine e_if_eq 73 rfl rfl (fun hc => ?_) (fun hc => ?_)
      · replace h := h.1 hc
        refine e_drp [true, false, false, false, false, false, false, false] (L' := [some (.ref a0), none, none, none, none, none, none, none]) rfl ?_
        exact x_X7_order_73  h
      · replace h := h.2 hc
        refine e_blk 3 47 _ _ (pc' := 51) (L' := [some (.ref a0), some (.int a1), some (.int a2), some (.int a3), some (.int a4), some (.int a5), none, none]) (st' := [.long (0 : Int64), .long ((a4).toInt64)]) rfl ?_
        refine e_ldc2 (2) rfl (aw (i := 1332) (by decide +kernel) rfl) ?_
        refine e_callS (As := [.long ((a4).toInt64), .long (0 : Int64), .long (2 : Int64)]) (rest := []) rfl (x_X7_in h) rfl (aw (i := 1256) (by decide +kernel) rfl) ws_X7_in wi_X7_in wc_X7_in (show cok mi_X7_order mi_X7_in 0 0 3 = true by decide +kernel) (Nat.le_of_ble_eq_true rfl) (fun v9 M9 hq => ?_) (fun X M9 hq => False.elim hq)
        obtain ⟨r10, rfl, h⟩ := kI_l hq
        refine e_if_eq 73 rfl rfl (fun hc => ?_) (fun hc => ?_)
        · replace h := h.1 hc
          refine e_drp [true, false, false, false, false, false, false, false] (L' := [some (.ref a0), none, none, none, none, none, none, none]) rfl ?_
          exact x_X7_order_73  h
        · replace h := h.2 hc
          refine e_blk 3 60 _ _ (pc' := 64) (L' := [some (.ref a0), some (.int a1), some (.int a2), some (.int a3), some (.int a4), some (.int a5), none, none]) (st' := [.long (1 : Int64), .long ((a5).toInt64)]) rfl ?_
          refine e_ldc2 (10000) rfl (aw (i := 1334) (by decide +kernel) rfl) ?_
          refine e_callS (As := [.long ((a5).toInt64), .long (1 : Int64), .long (10000 : Int64)]) (rest := []) rfl (x_X7_in h) rfl (aw (i := 1256) (by decide +kernel) rfl) ws_X7_in wi_X7_in wc_X7_in (show cok mi_X7_order mi_X7_in 0 0 3 = true by decide +kernel) (Nat.le_of_ble_eq_true rfl) (fun v9 M11 hq => ?_) (fun X M9 hq => False.elim hq)
          obtain ⟨r12, rfl, h⟩ := kI_l hq
          refine e_if_ne 79 rfl rfl (fun hc => ?_) (fun hc => ?_)
          · replace h := h.1 hc
            refine e_blk 2 79 _ _ (pc' := 82) (L' := [some (.ref a0), some (.int a1), some (.int a2), some (.int a3), some (.int a4), some (.int a5), some (.int (0 : Int32)), none]) (st' := []) rfl ?_
            refine e_drp [true, true, true, true, true, true, true, false] (L' := [some (.ref a0), some (.int a1), some (.int a2), some (.int a3), some (.int a4), some (.int a5), some (.int (0 : Int32)), none]) rfl ?_
            obtain ⟨y, h⟩ := h
            exact x_X7_order_82  y _ _ _ _ _ _ _ _ h
          · replace h := h.2 hc
            refine e_drp [true, false, false, false, false, false, false, false] (L' := [some (.ref a0), none, none, none, none, none, none, none]) rfl ?_
            exact x_X7_order_73  h
  · replace h := h.2 hc
    refine e_blk 2 17 _ _ (pc' := 19) (L' := [some (.ref a0), some (.int a1), some (.int a2), some (.int a3), some (.int a4), some (.int a5), none, none]) (st' := [.int (1 : Int32), .ref a0]) rfl ?_
    obtain ⟨ho13, h⟩ := h
    refine e_callV (As := [.int (1 : Int32)]) (rest := []) (ci := 7) rfl (x_X7_wrong h) ho13 rfl rfl rfl (aw (i := 1265) (by decide +kernel) rfl) wn_X7_wrong wv_X7_wrong wi_X7_wrong wc_X7_wrong (show cok mi_X7_order mi_X7_wrong 0 0 1 = true by decide +kernel) (Nat.le_of_ble_eq_true rfl) (fun v9 M14 hq => ?_) (fun X M9 hq => False.elim hq)
    obtain ⟨r15, rfl, h⟩ := kI_l hq
    exact e_reti rfl rfl (by decide) (by decide) h
def V_X7_fault (K : Rs → Mm → Prop) (M : Mm) (a0 : Nat) : Prop := (ob M a0 7 ∧ ∀ M2, M2 = sI M a0 0 (0 : Int32) → K (.inl (some (.int (mI M2 a0 15)))) M2)
set_option maxRecDepth 100000 in
set_option maxHeartbeats 4000000 in
theorem x_X7_fault {G : Gx} {K : Rs → Mm → Prop} {M : Mm} {a0 : Nat} (h : V_X7_fault K M a0) : MC G mi_X7_fault [.ref a0] M K := by
  unfold V_X7_fault at h
  refine mc_of rfl (by decide +kernel) dc_X7_fault (Nat.le_of_ble_eq_true rfl) 0 (Nat.le_of_ble_eq_true rfl) ?_
  show E G mi_X7_fault K M 0 0 0 [some (.ref a0)] []
  refine e_blk 2 0 _ _ (pc' := 2) (L' := [some (.ref a0)]) (st' := [.int (0 : Int32), .ref a0]) rfl ?_
  obtain ⟨ho1, h⟩ := h
  refine e_putI 7 0 rfl rfl (by decide) (aw (i := 1065) (by decide +kernel) rfl) rfl ho1 rfl ?_
  generalize hM2 : sI M a0 0 (0 : Int32) = M2
  replace h := h M2 hM2.symm
  replace ho1 : ob M2 a0 7 := hM2 ▸ ob_sI ho1
  refine e_blk 1 5 _ _ (pc' := 6) (L' := [some (.ref a0)]) (st' := [.ref a0]) rfl ?_
  refine e_getI 7 15 rfl rfl (by decide) (aw (i := 1080) (by decide +kernel) rfl) ho1 rfl ?_
  exact e_reti rfl rfl (by decide) (by decide) h
def V_X7_none_26 (K : Rs → Mm → Prop)  (M : Mm) (s0 : Int32) : Prop := ((s0 = 0 ∨ s0 = 1) ∧ K (.inl (some (.int s0))) M)
set_option maxRecDepth 100000 in
set_option maxHeartbeats 4000000 in
theorem x_X7_none_26 {G : Gx} {K : Rs → Mm → Prop}  {M : Mm} {s0 : Int32} (h : V_X7_none_26 K  M s0) : E G mi_X7_none K M 0 0 26 [none, none] [.int s0] := by
  unfold V_X7_none_26 at h
  exact e_retz rfl rfl h.1 (by decide) (by decide) h.2
def V_X7_none_21 (K : Rs → Mm → Prop)  (M : Mm)  : Prop := V_X7_none_26 K  M (1 : Int32)
set_option maxRecDepth 100000 in
set_option maxHeartbeats 4000000 in
theorem x_X7_none_21 {G : Gx} {K : Rs → Mm → Prop}  {M : Mm}  (h : V_X7_none_21 K  M ) : E G mi_X7_none K M 0 0 21 [none, none] [] := by
  unfold V_X7_none_21 at h
  refine e_blk 2 21 _ _ (pc' := 26) (L' := [none, none]) (st' := [.int (1 : Int32)]) rfl ?_
  refine e_drp [false, false] (L' := [none, none]) rfl ?_
  exact x_X7_none_26  h
def V_X7_none (K : Rs → Mm → Prop) (M : Mm) (a0 : Nat) (a1 : Int32) : Prop := V_X7_in (kI (fun r2 M1 => ((r2 = 0 → V_X7_none_21 K  M1 ) ∧ (¬ r2 = 0 → (ob M1 a0 7 ∧ ∃ b4, mP M1 a0 26 = some b4 ∧ (ob M1 b4 11 ∧ (vp_in a1 (mN M1 b4) ∧ ((¬ (mI M1 b4 (a1).toNatClampNeg) = 0 → V_X7_none_26 K  M1 (0 : Int32)) ∧ ((mI M1 b4 (a1).toNatClampNeg) = 0 → V_X7_none_21 K  M1 )))))))) (fun _ _ => False)) M ((a1).toInt64) (0 : Int64) (11 : Int64)
set_option maxRecDepth 100000 in
set_option maxHeartbeats 4000000 in
theorem x_X7_none {G : Gx} {K : Rs → Mm → Prop} {M : Mm} {a0 : Nat} {a1 : Int32} (h : V_X7_none K M a0 a1) : MC G mi_X7_none [.ref a0, .int a1] M K := by
  unfold V_X7_none at h
  refine mc_of rfl (by decide +kernel) dc_X7_none (Nat.le_of_ble_eq_true rfl) 0 (Nat.le_of_ble_eq_true rfl) ?_
  show E G mi_X7_none K M 0 0 0 [some (.ref a0), some (.int a1)] []
  refine e_blk 3 0 _ _ (pc' := 3) (L' := [some (.ref a0), some (.int a1)]) (st' := [.long (0 : Int64), .long ((a1).toInt64)]) rfl ?_
  refine e_ldc2 (11) rfl (aw (i := 1453) (by decide +kernel) rfl) ?_
  refine e_callS (As := [.long ((a1).toInt64), .long (0 : Int64), .long (11 : Int64)]) (rest := []) rfl (x_X7_in h) rfl (aw (i := 1256) (by decide +kernel) rfl) ws_X7_in wi_X7_in wc_X7_in (show cok mi_X7_none mi_X7_in 0 0 3 = true by decide +kernel) (Nat.le_of_ble_eq_true rfl) (fun v9 M1 hq => ?_) (fun X M9 hq => False.elim hq)
  obtain ⟨r2, rfl, h⟩ := kI_l hq
  refine e_if_eq 21 rfl rfl (fun hc => ?_) (fun hc => ?_)
  · replace h := h.1 hc
    refine e_drp [false, false] (L' := [none, none]) rfl ?_
    exact x_X7_none_21  h
  · replace h := h.2 hc
    refine e_blk 1 12 _ _ (pc' := 13) (L' := [some (.ref a0), some (.int a1)]) (st' := [.ref a0]) rfl ?_
    obtain ⟨ho3, h⟩ := h
    obtain ⟨b4, hbb4, h⟩ := h
    refine e_getR 7 26 rfl rfl (by decide) (aw (i := 1091) (by decide +kernel) rfl) ho3 rfl hbb4 ?_
    refine e_blk 1 16 _ _ (pc' := 17) (L' := [some (.ref a0), some (.int a1)]) (st' := [.int a1, .ref b4]) rfl ?_
    obtain ⟨ho5, h⟩ := h
    obtain ⟨hi6, h⟩ := h
    refine e_zald rfl ho5 hi6 ?_
    refine e_if_ne 25 rfl rfl (fun hc => ?_) (fun hc => ?_)
    · replace h := h.1 hc
      refine e_blk 1 25 _ _ (pc' := 26) (L' := [some (.ref a0), some (.int a1)]) (st' := [.int (0 : Int32)]) rfl ?_
      refine e_drp [false, false] (L' := [none, none]) rfl ?_
      exact x_X7_none_26  h
    · replace h := h.2 hc
      refine e_drp [false, false] (L' := [none, none]) rfl ?_
      exact x_X7_none_21  h
def V_X7_orders_25 (K : Rs → Mm → Prop) (B4 : Mm → Nat → Int32 → Int32 → Prop) (M : Mm) (l0 : Nat) (l2 : Int32) (s0 : Int32) (s1 : Int32) : Prop := ∀ x1 : Int32, x1 = (s0 + s1) → ∀ x2 : Int32, x2 = (l2 + (1 : Int32)) → B4 M l0 x1 x2
set_option maxRecDepth 100000 in
set_option maxHeartbeats 4000000 in
theorem x_X7_orders_25 {G : Gx} {K : Rs → Mm → Prop} {B4 : Mm → Nat → Int32 → Int32 → Prop} (hB4 : ∀ M l0 l1 l2, B4 M l0 l1 l2 → E G mi_X7_orders K M 0 0 4 [some (.ref l0), some (.int l1), some (.int l2)] []) {M : Mm} {l0 : Nat} {l2 : Int32} {s0 : Int32} {s1 : Int32} (h : V_X7_orders_25 K B4 M l0 l2 s0 s1) : E G mi_X7_orders K M 0 0 25 [some (.ref l0), none, some (.int l2)] [.int s1, .int s0] := by
  unfold V_X7_orders_25 at h
  refine e_blk 4 25 _ _ (pc' := 4) (L' := [some (.ref l0), some (.int (s0 + s1)), some (.int (l2 + (1 : Int32)))]) (st' := []) rfl ?_
  generalize hx_x1 : ((s0 + s1) : Int32) = x1
  replace h := h x1 hx_x1.symm
  generalize hx_x2 : ((l2 + (1 : Int32)) : Int32) = x2
  replace h := h x2 hx_x2.symm
  refine e_drp [true, true, true] (L' := [some (.ref l0), some (.int x1), some (.int x2)]) rfl ?_
  exact hB4 _ _ _ _ h
def V_X7_orders_4 (K : Rs → Mm → Prop)  : Nat → Mm → Nat → Int32 → Int32 → Prop
  | 0, _, _, _, _ => False
  | z + 1, M, l0, l1, l2 => (((12 : Int32) ≤ l2 → K (.inl (some (.int l1))) M) ∧ (¬ (12 : Int32) ≤ l2 → (ob M l0 7 ∧ ∃ b2, mP M l0 26 = some b2 ∧ (ob M b2 11 ∧ (vp_in l2 (mN M b2) ∧ (((mI M b2 (l2).toNatClampNeg) = 0 → V_X7_orders_25 K (fun M l0 l1 l2 => V_X7_orders_4 K  z M l0 l1 l2) M l0 l2 l1 (0 : Int32)) ∧ (¬ (mI M b2 (l2).toNatClampNeg) = 0 → V_X7_orders_25 K (fun M l0 l1 l2 => V_X7_orders_4 K  z M l0 l1 l2) M l0 l2 l1 (1 : Int32))))))))
set_option maxRecDepth 100000 in
set_option maxHeartbeats 4000000 in
theorem x_X7_orders_4 {G : Gx} {K : Rs → Mm → Prop}  : ∀ (z : Nat) (M : Mm) (l0 : Nat) (l1 : Int32) (l2 : Int32), V_X7_orders_4 K  z M l0 l1 l2 → E G mi_X7_orders K M 0 0 4 [some (.ref l0), some (.int l1), some (.int l2)] []
  | 0, M, l0, l1, l2, h => False.elim h
  | z + 1, M, l0, l1, l2, h => by
    unfold V_X7_orders_4 at h
    refine e_blk 2 4 _ _ (pc' := 7) (L' := [some (.ref l0), some (.int l1), some (.int l2)]) (st' := [.int (12 : Int32), .int l2]) rfl ?_
    refine e_icmp_ge 33 rfl rfl (fun hc => ?_) (fun hc => ?_)
    · replace h := h.1 hc
      refine e_blk 1 33 _ _ (pc' := 34) (L' := [some (.ref l0), some (.int l1), some (.int l2)]) (st' := [.int l1]) rfl ?_
      exact e_reti rfl rfl (by decide) (by decide) h
    · replace h := h.2 hc
      refine e_blk 2 10 _ _ (pc' := 12) (L' := [some (.ref l0), some (.int l1), some (.int l2)]) (st' := [.ref l0, .int l1]) rfl ?_
      obtain ⟨ho1, h⟩ := h
      obtain ⟨b2, hbb2, h⟩ := h
      refine e_getR 7 26 rfl rfl (by decide) (aw (i := 1091) (by decide +kernel) rfl) ho1 rfl hbb2 ?_
      refine e_blk 1 15 _ _ (pc' := 16) (L' := [some (.ref l0), some (.int l1), some (.int l2)]) (st' := [.int l2, .ref b2, .int l1]) rfl ?_
      obtain ⟨ho3, h⟩ := h
      obtain ⟨hi4, h⟩ := h
      refine e_zald rfl ho3 hi4 ?_
      refine e_if_eq 24 rfl rfl (fun hc => ?_) (fun hc => ?_)
      · replace h := h.1 hc
        refine e_blk 1 24 _ _ (pc' := 25) (L' := [some (.ref l0), some (.int l1), some (.int l2)]) (st' := [.int (0 : Int32), .int l1]) rfl ?_
        refine e_drp [true, false, true] (L' := [some (.ref l0), none, some (.int l2)]) rfl ?_
        exact x_X7_orders_25 (fun M l0 l1 l2 h => x_X7_orders_4  z M l0 l1 l2 h) h
      · replace h := h.2 hc
        refine e_blk 2 20 _ _ (pc' := 25) (L' := [some (.ref l0), some (.int l1), some (.int l2)]) (st' := [.int (1 : Int32), .int l1]) rfl ?_
        refine e_drp [true, false, true] (L' := [some (.ref l0), none, some (.int l2)]) rfl ?_
        exact x_X7_orders_25 (fun M l0 l1 l2 h => x_X7_orders_4  z M l0 l1 l2 h) h
def V_X7_orders (K : Rs → Mm → Prop) (M : Mm) (a0 : Nat) : Prop := ∃ y, V_X7_orders_4 K  y M a0 (0 : Int32) (0 : Int32)
set_option maxRecDepth 100000 in
set_option maxHeartbeats 4000000 in
theorem x_X7_orders {G : Gx} {K : Rs → Mm → Prop} {M : Mm} {a0 : Nat} (h : V_X7_orders K M a0) : MC G mi_X7_orders [.ref a0] M K := by
  unfold V_X7_orders at h
  refine mc_of rfl (by decide +kernel) dc_X7_orders (Nat.le_of_ble_eq_true rfl) 2 (Nat.le_of_ble_eq_true rfl) ?_
  show E G mi_X7_orders K M 0 0 0 [some (.ref a0), none, none] []
  refine e_blk 4 0 _ _ (pc' := 4) (L' := [some (.ref a0), some (.int (0 : Int32)), some (.int (0 : Int32))]) (st' := []) rfl ?_
  refine e_drp [true, true, true] (L' := [some (.ref a0), some (.int (0 : Int32)), some (.int (0 : Int32))]) rfl ?_
  obtain ⟨y, h⟩ := h
  exact x_X7_orders_4  y _ _ _ _ h
def V_X7_dropRun_12 (K : Rs → Mm → Prop)  : Nat → Mm → Nat → Int32 → Prop
  | 0, _, _, _ => False
  | z + 1, M, l0, l2 => (ob M l0 7 ∧ (((mI M l0 45) ≤ l2 → K (.inl none) M) ∧ (¬ (mI M l0 45) ≤ l2 → ∃ b2, mP M l0 46 = some b2 ∧ ∃ b3, mP M l0 46 = some b3 ∧ (ob M b3 9 ∧ (vp_in (l2 + (1 : Int32)) (mN M b3) ∧ (ob M b2 9 ∧ (vp_in l2 (mN M b2) ∧ ∀ M8, M8 = sI M b2 (l2).toNatClampNeg (mI M b3 ((l2 + (1 : Int32))).toNatClampNeg) → ∃ b9, mP M8 l0 47 = some b9 ∧ ∃ b10, mP M8 l0 47 = some b10 ∧ (ob M8 b10 9 ∧ (vp_in (l2 + (1 : Int32)) (mN M8 b10) ∧ (ob M8 b9 9 ∧ (vp_in l2 (mN M8 b9) ∧ ∀ M15, M15 = sI M8 b9 (l2).toNatClampNeg (mI M8 b10 ((l2 + (1 : Int32))).toNatClampNeg) → ∃ b16, mP M15 l0 48 = some b16 ∧ ∃ b17, mP M15 l0 48 = some b17 ∧ (ob M15 b17 9 ∧ (vp_in (l2 + (1 : Int32)) (mN M15 b17) ∧ (ob M15 b16 9 ∧ (vp_in l2 (mN M15 b16) ∧ ∀ M22, M22 = sI M15 b16 (l2).toNatClampNeg (mI M15 b17 ((l2 + (1 : Int32))).toNatClampNeg) → ∀ x23 : Int32, x23 = (l2 + (1 : Int32)) → V_X7_dropRun_12 K  z M22 l0 x23)))))))))))))))
set_option maxRecDepth 100000 in
set_option maxHeartbeats 4000000 in
theorem x_X7_dropRun_12 {G : Gx} {K : Rs → Mm → Prop}  : ∀ (z : Nat) (M : Mm) (l0 : Nat) (l2 : Int32), V_X7_dropRun_12 K  z M l0 l2 → E G mi_X7_dropRun K M 0 0 12 [some (.ref l0), none, some (.int l2)] []
  | 0, M, l0, l2, h => False.elim h
  | z + 1, M, l0, l2, h => by
    unfold V_X7_dropRun_12 at h
    refine e_blk 2 12 _ _ (pc' := 14) (L' := [some (.ref l0), none, some (.int l2)]) (st' := [.ref l0, .int l2]) rfl ?_
    obtain ⟨ho1, h⟩ := h
    refine e_getI 7 45 rfl rfl (by decide) (aw (i := 1110) (by decide +kernel) rfl) ho1 rfl ?_
    refine e_icmp_ge 68 rfl rfl (fun hc => ?_) (fun hc => ?_)
    · replace h := h.1 hc
      exact e_ret rfl rfl (by decide) (by decide) h
    · replace h := h.2 hc
      refine e_blk 1 20 _ _ (pc' := 21) (L' := [some (.ref l0), none, some (.int l2)]) (st' := [.ref l0]) rfl ?_
      obtain ⟨b2, hbb2, h⟩ := h
      refine e_getR 7 46 rfl rfl (by decide) (aw (i := 1111) (by decide +kernel) rfl) ho1 rfl hbb2 ?_
      refine e_blk 2 24 _ _ (pc' := 26) (L' := [some (.ref l0), none, some (.int l2)]) (st' := [.ref l0, .int l2, .ref b2]) rfl ?_
      obtain ⟨b3, hbb3, h⟩ := h
      refine e_getR 7 46 rfl rfl (by decide) (aw (i := 1111) (by decide +kernel) rfl) ho1 rfl hbb3 ?_
      refine e_blk 3 29 _ _ (pc' := 32) (L' := [some (.ref l0), none, some (.int l2)]) (st' := [.int (l2 + (1 : Int32)), .ref b3, .int l2, .ref b2]) rfl ?_
      obtain ⟨ho4, h⟩ := h
      obtain ⟨hi5, h⟩ := h
      refine e_iald rfl ho4 hi5 ?_
      obtain ⟨ho6, h⟩ := h
      obtain ⟨hi7, h⟩ := h
      refine e_iast rfl ho6 hi7 ?_
      generalize hM8 : sI M b2 (l2).toNatClampNeg (mI M b3 ((l2 + (1 : Int32))).toNatClampNeg) = M8
      replace h := h M8 hM8.symm
      replace ho1 : ob M8 l0 7 := hM8 ▸ ob_sI ho1
      replace ho4 : ob M8 b3 9 := hM8 ▸ ob_sI ho4
      replace ho6 : ob M8 b2 9 := hM8 ▸ ob_sI ho6
      refine e_blk 1 34 _ _ (pc' := 35) (L' := [some (.ref l0), none, some (.int l2)]) (st' := [.ref l0]) rfl ?_
      obtain ⟨b9, hbb9, h⟩ := h
      refine e_getR 7 47 rfl rfl (by decide) (aw (i := 1112) (by decide +kernel) rfl) ho1 rfl hbb9 ?_
      refine e_blk 2 38 _ _ (pc' := 40) (L' := [some (.ref l0), none, some (.int l2)]) (st' := [.ref l0, .int l2, .ref b9]) rfl ?_
      obtain ⟨b10, hbb10, h⟩ := h
      refine e_getR 7 47 rfl rfl (by decide) (aw (i := 1112) (by decide +kernel) rfl) ho1 rfl hbb10 ?_
      refine e_blk 3 43 _ _ (pc' := 46) (L' := [some (.ref l0), none, some (.int l2)]) (st' := [.int (l2 + (1 : Int32)), .ref b10, .int l2, .ref b9]) rfl ?_
      obtain ⟨ho11, h⟩ := h
      obtain ⟨hi12, h⟩ := h
      refine e_iald rfl ho11 hi12 ?_
      obtain ⟨ho13, h⟩ := h
      obtain ⟨hi14, h⟩ := h
      refine e_iast rfl ho13 hi14 ?_
      generalize hM15 : sI M8 b9 (l2).toNatClampNeg (mI M8 b10 ((l2 + (1 : Int32))).toNatClampNeg) = M15
      replace h := h M15 hM15.symm
      replace ho1 : ob M15 l0 7 := hM15 ▸ ob_sI ho1
      replace ho4 : ob M15 b3 9 := hM15 ▸ ob_sI ho4
      replace ho6 : ob M15 b2 9 := hM15 ▸ ob_sI ho6
      replace ho11 : ob M15 b10 9 := hM15 ▸ ob_sI ho11
      replace ho13 : ob M15 b9 9 := hM15 ▸ ob_sI ho13
      refine e_blk 1 48 _ _ (pc' := 49) (L' := [some (.ref l0), none, some (.int l2)]) (st' := [.ref l0]) rfl ?_
      obtain ⟨b16, hbb16, h⟩ := h
      refine e_getR 7 48 rfl rfl (by decide) (aw (i := 1113) (by decide +kernel) rfl) ho1 rfl hbb16 ?_
      refine e_blk 2 52 _ _ (pc' := 54) (L' := [some (.ref l0), none, some (.int l2)]) (st' := [.ref l0, .int l2, .ref b16]) rfl ?_
      obtain ⟨b17, hbb17, h⟩ := h
      refine e_getR 7 48 rfl rfl (by decide) (aw (i := 1113) (by decide +kernel) rfl) ho1 rfl hbb17 ?_
      refine e_blk 3 57 _ _ (pc' := 60) (L' := [some (.ref l0), none, some (.int l2)]) (st' := [.int (l2 + (1 : Int32)), .ref b17, .int l2, .ref b16]) rfl ?_
      obtain ⟨ho18, h⟩ := h
      obtain ⟨hi19, h⟩ := h
      refine e_iald rfl ho18 hi19 ?_
      obtain ⟨ho20, h⟩ := h
      obtain ⟨hi21, h⟩ := h
      refine e_iast rfl ho20 hi21 ?_
      generalize hM22 : sI M15 b16 (l2).toNatClampNeg (mI M15 b17 ((l2 + (1 : Int32))).toNatClampNeg) = M22
      replace h := h M22 hM22.symm
      replace ho1 : ob M22 l0 7 := hM22 ▸ ob_sI ho1
      replace ho4 : ob M22 b3 9 := hM22 ▸ ob_sI ho4
      replace ho6 : ob M22 b2 9 := hM22 ▸ ob_sI ho6
      replace ho11 : ob M22 b10 9 := hM22 ▸ ob_sI ho11
      replace ho13 : ob M22 b9 9 := hM22 ▸ ob_sI ho13
      replace ho18 : ob M22 b17 9 := hM22 ▸ ob_sI ho18
      replace ho20 : ob M22 b16 9 := hM22 ▸ ob_sI ho20
      refine e_blk 2 62 _ _ (pc' := 12) (L' := [some (.ref l0), none, some (.int (l2 + (1 : Int32)))]) (st' := []) rfl ?_
      generalize hx_x23 : ((l2 + (1 : Int32)) : Int32) = x23
      replace h := h x23 hx_x23.symm
      refine e_drp [true, false, true] (L' := [some (.ref l0), none, some (.int x23)]) rfl ?_
      exact x_X7_dropRun_12  z _ _ _ h
def V_X7_dropRun (K : Rs → Mm → Prop) (M : Mm) (a0 : Nat) (a1 : Int32) : Prop := (ob M a0 7 ∧ ∀ M2, M2 = sI M a0 45 ((mI M a0 45) - (1 : Int32)) → ∃ y, V_X7_dropRun_12 K  y M2 a0 a1)
set_option maxRecDepth 100000 in
set_option maxHeartbeats 4000000 in
theorem x_X7_dropRun {G : Gx} {K : Rs → Mm → Prop} {M : Mm} {a0 : Nat} {a1 : Int32} (h : V_X7_dropRun K M a0 a1) : MC G mi_X7_dropRun [.ref a0, .int a1] M K := by
  unfold V_X7_dropRun at h
  refine mc_of rfl (by decide +kernel) dc_X7_dropRun (Nat.le_of_ble_eq_true rfl) 1 (Nat.le_of_ble_eq_true rfl) ?_
  show E G mi_X7_dropRun K M 0 0 0 [some (.ref a0), some (.int a1), none] []
  refine e_blk 2 0 _ _ (pc' := 2) (L' := [some (.ref a0), some (.int a1), none]) (st' := [.ref a0, .ref a0]) rfl ?_
  obtain ⟨ho1, h⟩ := h
  refine e_getI 7 45 rfl rfl (by decide) (aw (i := 1110) (by decide +kernel) rfl) ho1 rfl ?_
  refine e_blk 2 5 _ _ (pc' := 7) (L' := [some (.ref a0), some (.int a1), none]) (st' := [.int ((mI M a0 45) - (1 : Int32)), .ref a0]) rfl ?_
  refine e_putI 7 45 rfl rfl (by decide) (aw (i := 1110) (by decide +kernel) rfl) rfl ho1 rfl ?_
  generalize hM2 : sI M a0 45 ((mI M a0 45) - (1 : Int32)) = M2
  replace h := h M2 hM2.symm
  replace ho1 : ob M2 a0 7 := hM2 ▸ ob_sI ho1
  refine e_blk 2 10 _ _ (pc' := 12) (L' := [some (.ref a0), some (.int a1), some (.int a1)]) (st' := []) rfl ?_
  refine e_drp [true, false, true] (L' := [some (.ref a0), none, some (.int a1)]) rfl ?_
  obtain ⟨y, h⟩ := h
  exact x_X7_dropRun_12  y _ _ _ h
def V_X7_cancel_52 (K : Rs → Mm → Prop) (B33 : Mm → Nat → Int32 → Int32 → Prop) (M : Mm) (l0 : Nat) (l1 : Int32) (l2 : Int32) : Prop := ∀ x1 : Int32, x1 = (l2 + (-1 : Int32)) → B33 M l0 l1 x1
set_option maxRecDepth 100000 in
set_option maxHeartbeats 4000000 in
theorem x_X7_cancel_52 {G : Gx} {K : Rs → Mm → Prop} {B33 : Mm → Nat → Int32 → Int32 → Prop} (hB33 : ∀ M l0 l1 l2, B33 M l0 l1 l2 → E G mi_X7_cancel K M 0 0 33 [some (.ref l0), some (.int l1), some (.int l2)] []) {M : Mm} {l0 : Nat} {l1 : Int32} {l2 : Int32} (h : V_X7_cancel_52 K B33 M l0 l1 l2) : E G mi_X7_cancel K M 0 0 52 [some (.ref l0), some (.int l1), some (.int l2)] [] := by
  unfold V_X7_cancel_52 at h
  refine e_blk 2 52 _ _ (pc' := 33) (L' := [some (.ref l0), some (.int l1), some (.int (l2 + (-1 : Int32)))]) (st' := []) rfl ?_
  generalize hx_x1 : ((l2 + (-1 : Int32)) : Int32) = x1
  replace h := h x1 hx_x1.symm
  refine e_drp [true, true, true] (L' := [some (.ref l0), some (.int l1), some (.int x1)]) rfl ?_
  exact hB33 _ _ _ _ h
def V_X7_cancel_33 (K : Rs → Mm → Prop)  : Nat → Mm → Nat → Int32 → Int32 → Prop
  | 0, _, _, _, _ => False
  | z + 1, M, l0, l1, l2 => ((l2 < 0 → (ob M l0 7 ∧ V_X7_orders (kI (fun r3 M2 => K (.inl (some (.int r3))) M2) (fun _ _ => False)) M l0)) ∧ (¬ l2 < 0 → (ob M l0 7 ∧ ∃ b5, mP M l0 46 = some b5 ∧ (ob M b5 9 ∧ (vp_in l2 (mN M b5) ∧ ((¬ (mI M b5 (l2).toNatClampNeg) = l1 → V_X7_cancel_52 K (fun M l0 l1 l2 => V_X7_cancel_33 K  z M l0 l1 l2) M l0 l1 l2) ∧ ((mI M b5 (l2).toNatClampNeg) = l1 → V_X7_dropRun (kV (fun M8 => V_X7_cancel_52 K (fun M l0 l1 l2 => V_X7_cancel_33 K  z M l0 l1 l2) M8 l0 l1 l2) (fun _ _ => False)) M l0 l2)))))))
set_option maxRecDepth 100000 in
set_option maxHeartbeats 4000000 in
theorem x_X7_cancel_33 {G : Gx} {K : Rs → Mm → Prop}  : ∀ (z : Nat) (M : Mm) (l0 : Nat) (l1 : Int32) (l2 : Int32), V_X7_cancel_33 K  z M l0 l1 l2 → E G mi_X7_cancel K M 0 0 33 [some (.ref l0), some (.int l1), some (.int l2)] []
  | 0, M, l0, l1, l2, h => False.elim h
  | z + 1, M, l0, l1, l2, h => by
    unfold V_X7_cancel_33 at h
    refine e_blk 1 33 _ _ (pc' := 34) (L' := [some (.ref l0), some (.int l1), some (.int l2)]) (st' := [.int l2]) rfl ?_
    refine e_if_lt 58 rfl rfl (fun hc => ?_) (fun hc => ?_)
    · replace h := h.1 hc
      refine e_blk 1 58 _ _ (pc' := 59) (L' := [some (.ref l0), some (.int l1), some (.int l2)]) (st' := [.ref l0]) rfl ?_
      obtain ⟨ho1, h⟩ := h
      refine e_callV (As := []) (rest := []) (ci := 7) rfl (x_X7_orders h) ho1 rfl rfl rfl (aw (i := 1458) (by decide +kernel) rfl) wn_X7_orders wv_X7_orders wi_X7_orders wc_X7_orders (show cok mi_X7_cancel mi_X7_orders 0 0 0 = true by decide +kernel) (Nat.le_of_ble_eq_true rfl) (fun v9 M2 hq => ?_) (fun X M9 hq => False.elim hq)
      obtain ⟨r3, rfl, h⟩ := kI_l hq
      exact e_reti rfl rfl (by decide) (by decide) h
    · replace h := h.2 hc
      refine e_blk 1 37 _ _ (pc' := 38) (L' := [some (.ref l0), some (.int l1), some (.int l2)]) (st' := [.ref l0]) rfl ?_
      obtain ⟨ho4, h⟩ := h
      obtain ⟨b5, hbb5, h⟩ := h
      refine e_getR 7 46 rfl rfl (by decide) (aw (i := 1111) (by decide +kernel) rfl) ho4 rfl hbb5 ?_
      refine e_blk 1 41 _ _ (pc' := 42) (L' := [some (.ref l0), some (.int l1), some (.int l2)]) (st' := [.int l2, .ref b5]) rfl ?_
      obtain ⟨ho6, h⟩ := h
      obtain ⟨hi7, h⟩ := h
      refine e_iald rfl ho6 hi7 ?_
      refine e_blk 1 43 _ _ (pc' := 44) (L' := [some (.ref l0), some (.int l1), some (.int l2)]) (st' := [.int l1, .int (mI M b5 (l2).toNatClampNeg)]) rfl ?_
      refine e_icmp_ne 52 rfl rfl (fun hc => ?_) (fun hc => ?_)
      · replace h := h.1 hc
        refine e_drp [true, true, true] (L' := [some (.ref l0), some (.int l1), some (.int l2)]) rfl ?_
        exact x_X7_cancel_52 (fun M l0 l1 l2 h => x_X7_cancel_33  z M l0 l1 l2 h) h
      · replace h := h.2 hc
        refine e_blk 2 47 _ _ (pc' := 49) (L' := [some (.ref l0), some (.int l1), some (.int l2)]) (st' := [.int l2, .ref l0]) rfl ?_
        refine e_callV (As := [.int l2]) (rest := []) (ci := 7) rfl (x_X7_dropRun h) ho4 rfl rfl rfl (aw (i := 1454) (by decide +kernel) rfl) wn_X7_dropRun wv_X7_dropRun wi_X7_dropRun wc_X7_dropRun (show cok mi_X7_cancel mi_X7_dropRun 0 0 1 = true by decide +kernel) (Nat.le_of_ble_eq_true rfl) (fun v9 M8 hq => ?_) (fun X M9 hq => False.elim hq)
        obtain ⟨rfl, h⟩ := kV_l hq
        refine e_drp [true, true, true] (L' := [some (.ref l0), some (.int l1), some (.int l2)]) rfl ?_
        exact x_X7_cancel_52 (fun M l0 l1 l2 h => x_X7_cancel_33  z M l0 l1 l2 h) h
def V_X7_cancel (K : Rs → Mm → Prop) (M : Mm) (a0 : Nat) (a1 : Int32) : Prop := (ob M a0 7 ∧ ∀ M2, M2 = sI M a0 0 (0 : Int32) → V_X7_none (kI (fun r4 M3 => ((r4 = 0 → (ob M3 a0 7 ∧ ∃ b6, mP M3 a0 26 = some b6 ∧ (ob M3 b6 11 ∧ (vp_in a1 (mN M3 b6) ∧ ∀ M9, M9 = sI M3 b6 (a1).toNatClampNeg (vp_nar .boolean (0 : Int32)) → ∀ x10 : Int32, x10 = ((mI M9 a0 45) - (1 : Int32)) → ∃ y, V_X7_cancel_33 K  y M9 a0 a1 x10)))) ∧ (¬ r4 = 0 → (ob M3 a0 7 ∧ V_X7_wrong (kI (fun r13 M12 => K (.inl (some (.int r13))) M12) (fun _ _ => False)) M3 a0 (1 : Int32))))) (fun _ _ => False)) M2 a0 a1)
set_option maxRecDepth 100000 in
set_option maxHeartbeats 4000000 in
theorem x_X7_cancel {G : Gx} {K : Rs → Mm → Prop} {M : Mm} {a0 : Nat} {a1 : Int32} (h : V_X7_cancel K M a0 a1) : MC G mi_X7_cancel [.ref a0, .int a1] M K := by
  unfold V_X7_cancel at h
  refine mc_of rfl (by decide +kernel) dc_X7_cancel (Nat.le_of_ble_eq_true rfl) 1 (Nat.le_of_ble_eq_true rfl) ?_
  show E G mi_X7_cancel K M 0 0 0 [some (.ref a0), some (.int a1), none] []
  refine e_blk 2 0 _ _ (pc' := 2) (L' := [some (.ref a0), some (.int a1), none]) (st' := [.int (0 : Int32), .ref a0]) rfl ?_
  obtain ⟨ho1, h⟩ := h
  refine e_putI 7 0 rfl rfl (by decide) (aw (i := 1065) (by decide +kernel) rfl) rfl ho1 rfl ?_
  generalize hM2 : sI M a0 0 (0 : Int32) = M2
  replace h := h M2 hM2.symm
  replace ho1 : ob M2 a0 7 := hM2 ▸ ob_sI ho1
  refine e_blk 2 5 _ _ (pc' := 7) (L' := [some (.ref a0), some (.int a1), none]) (st' := [.int a1, .ref a0]) rfl ?_
  refine e_callV (As := [.int a1]) (rest := []) (ci := 7) rfl (x_X7_none h) ho1 rfl rfl rfl (aw (i := 1449) (by decide +kernel) rfl) wn_X7_none wv_X7_none wi_X7_none wc_X7_none (show cok mi_X7_cancel mi_X7_none 0 0 1 = true by decide +kernel) (Nat.le_of_ble_eq_true rfl) (fun v9 M3 hq => ?_) (fun X M9 hq => False.elim hq)
  obtain ⟨r4, rfl, h⟩ := kI_l hq
  refine e_if_eq 19 rfl rfl (fun hc => ?_) (fun hc => ?_)
  · replace h := h.1 hc
    refine e_blk 1 19 _ _ (pc' := 20) (L' := [some (.ref a0), some (.int a1), none]) (st' := [.ref a0]) rfl ?_
    obtain ⟨ho5, h⟩ := h
    obtain ⟨b6, hbb6, h⟩ := h
    refine e_getR 7 26 rfl rfl (by decide) (aw (i := 1091) (by decide +kernel) rfl) ho5 rfl hbb6 ?_
    refine e_blk 2 23 _ _ (pc' := 25) (L' := [some (.ref a0), some (.int a1), none]) (st' := [.int (0 : Int32), .int a1, .ref b6]) rfl ?_
    obtain ⟨ho7, h⟩ := h
    obtain ⟨hi8, h⟩ := h
    refine e_zast rfl ho7 hi8 ?_
    generalize hM9 : sI M3 b6 (a1).toNatClampNeg (vp_nar .boolean (0 : Int32)) = M9
    replace h := h M9 hM9.symm
    replace ho5 : ob M9 a0 7 := hM9 ▸ ob_sI ho5
    replace ho7 : ob M9 b6 11 := hM9 ▸ ob_sI ho7
    refine e_blk 1 26 _ _ (pc' := 27) (L' := [some (.ref a0), some (.int a1), none]) (st' := [.ref a0]) rfl ?_
    refine e_getI 7 45 rfl rfl (by decide) (aw (i := 1110) (by decide +kernel) rfl) ho5 rfl ?_
    refine e_blk 3 30 _ _ (pc' := 33) (L' := [some (.ref a0), some (.int a1), some (.int ((mI M9 a0 45) - (1 : Int32)))]) (st' := []) rfl ?_
    generalize hx_x10 : (((mI M9 a0 45) - (1 : Int32)) : Int32) = x10
    replace h := h x10 hx_x10.symm
    refine e_drp [true, true, true] (L' := [some (.ref a0), some (.int a1), some (.int x10)]) rfl ?_
    obtain ⟨y, h⟩ := h
    exact x_X7_cancel_33  y _ _ _ _ h
  · replace h := h.2 hc
    refine e_blk 2 13 _ _ (pc' := 15) (L' := [some (.ref a0), some (.int a1), none]) (st' := [.int (1 : Int32), .ref a0]) rfl ?_
    obtain ⟨ho11, h⟩ := h
    refine e_callV (As := [.int (1 : Int32)]) (rest := []) (ci := 7) rfl (x_X7_wrong h) ho11 rfl rfl rfl (aw (i := 1265) (by decide +kernel) rfl) wn_X7_wrong wv_X7_wrong wi_X7_wrong wc_X7_wrong (show cok mi_X7_cancel mi_X7_wrong 0 0 1 = true by decide +kernel) (Nat.le_of_ble_eq_true rfl) (fun v9 M12 hq => ?_) (fun X M9 hq => False.elim hq)
    obtain ⟨r13, rfl, h⟩ := kI_l hq
    exact e_reti rfl rfl (by decide) (by decide) h
def V_X7_runsOf_28 (K : Rs → Mm → Prop) (B4 : Mm → Nat → Int32 → Int32 → Int32 → Prop) (M : Mm) (l0 : Nat) (l1 : Int32) (l3 : Int32) (s0 : Int32) (s1 : Int32) : Prop := ∀ x1 : Int32, x1 = (s0 + s1) → ∀ x2 : Int32, x2 = (l3 + (1 : Int32)) → B4 M l0 l1 x1 x2
set_option maxRecDepth 100000 in
set_option maxHeartbeats 4000000 in
theorem x_X7_runsOf_28 {G : Gx} {K : Rs → Mm → Prop} {B4 : Mm → Nat → Int32 → Int32 → Int32 → Prop} (hB4 : ∀ M l0 l1 l2 l3, B4 M l0 l1 l2 l3 → E G mi_X7_runsOf K M 0 0 4 [some (.ref l0), some (.int l1), some (.int l2), some (.int l3)] []) {M : Mm} {l0 : Nat} {l1 : Int32} {l3 : Int32} {s0 : Int32} {s1 : Int32} (h : V_X7_runsOf_28 K B4 M l0 l1 l3 s0 s1) : E G mi_X7_runsOf K M 0 0 28 [some (.ref l0), some (.int l1), none, some (.int l3)] [.int s1, .int s0] := by
  unfold V_X7_runsOf_28 at h
  refine e_blk 4 28 _ _ (pc' := 4) (L' := [some (.ref l0), some (.int l1), some (.int (s0 + s1)), some (.int (l3 + (1 : Int32)))]) (st' := []) rfl ?_
  generalize hx_x1 : ((s0 + s1) : Int32) = x1
  replace h := h x1 hx_x1.symm
  generalize hx_x2 : ((l3 + (1 : Int32)) : Int32) = x2
  replace h := h x2 hx_x2.symm
  refine e_drp [true, true, true, true] (L' := [some (.ref l0), some (.int l1), some (.int x1), some (.int x2)]) rfl ?_
  exact hB4 _ _ _ _ _ h
def V_X7_runsOf_4 (K : Rs → Mm → Prop)  : Nat → Mm → Nat → Int32 → Int32 → Int32 → Prop
  | 0, _, _, _, _, _ => False
  | z + 1, M, l0, l1, l2, l3 => (ob M l0 7 ∧ (((mI M l0 45) ≤ l3 → K (.inl (some (.int l2))) M) ∧ (¬ (mI M l0 45) ≤ l3 → ∃ b2, mP M l0 46 = some b2 ∧ (ob M b2 9 ∧ (vp_in l3 (mN M b2) ∧ ((¬ (mI M b2 (l3).toNatClampNeg) = l1 → V_X7_runsOf_28 K (fun M l0 l1 l2 l3 => V_X7_runsOf_4 K  z M l0 l1 l2 l3) M l0 l1 l3 l2 (0 : Int32)) ∧ ((mI M b2 (l3).toNatClampNeg) = l1 → V_X7_runsOf_28 K (fun M l0 l1 l2 l3 => V_X7_runsOf_4 K  z M l0 l1 l2 l3) M l0 l1 l3 l2 (1 : Int32))))))))
set_option maxRecDepth 100000 in
set_option maxHeartbeats 4000000 in
theorem x_X7_runsOf_4 {G : Gx} {K : Rs → Mm → Prop}  : ∀ (z : Nat) (M : Mm) (l0 : Nat) (l1 : Int32) (l2 : Int32) (l3 : Int32), V_X7_runsOf_4 K  z M l0 l1 l2 l3 → E G mi_X7_runsOf K M 0 0 4 [some (.ref l0), some (.int l1), some (.int l2), some (.int l3)] []
  | 0, M, l0, l1, l2, l3, h => False.elim h
  | z + 1, M, l0, l1, l2, l3, h => by
    unfold V_X7_runsOf_4 at h
    refine e_blk 2 4 _ _ (pc' := 6) (L' := [some (.ref l0), some (.int l1), some (.int l2), some (.int l3)]) (st' := [.ref l0, .int l3]) rfl ?_
    obtain ⟨ho1, h⟩ := h
    refine e_getI 7 45 rfl rfl (by decide) (aw (i := 1110) (by decide +kernel) rfl) ho1 rfl ?_
    refine e_icmp_ge 36 rfl rfl (fun hc => ?_) (fun hc => ?_)
    · replace h := h.1 hc
      refine e_blk 1 36 _ _ (pc' := 37) (L' := [some (.ref l0), some (.int l1), some (.int l2), some (.int l3)]) (st' := [.int l2]) rfl ?_
      exact e_reti rfl rfl (by decide) (by decide) h
    · replace h := h.2 hc
      refine e_blk 2 12 _ _ (pc' := 14) (L' := [some (.ref l0), some (.int l1), some (.int l2), some (.int l3)]) (st' := [.ref l0, .int l2]) rfl ?_
      obtain ⟨b2, hbb2, h⟩ := h
      refine e_getR 7 46 rfl rfl (by decide) (aw (i := 1111) (by decide +kernel) rfl) ho1 rfl hbb2 ?_
      refine e_blk 1 17 _ _ (pc' := 18) (L' := [some (.ref l0), some (.int l1), some (.int l2), some (.int l3)]) (st' := [.int l3, .ref b2, .int l2]) rfl ?_
      obtain ⟨ho3, h⟩ := h
      obtain ⟨hi4, h⟩ := h
      refine e_iald rfl ho3 hi4 ?_
      refine e_blk 1 19 _ _ (pc' := 20) (L' := [some (.ref l0), some (.int l1), some (.int l2), some (.int l3)]) (st' := [.int l1, .int (mI M b2 (l3).toNatClampNeg), .int l2]) rfl ?_
      refine e_icmp_ne 27 rfl rfl (fun hc => ?_) (fun hc => ?_)
      · replace h := h.1 hc
        refine e_blk 1 27 _ _ (pc' := 28) (L' := [some (.ref l0), some (.int l1), some (.int l2), some (.int l3)]) (st' := [.int (0 : Int32), .int l2]) rfl ?_
        refine e_drp [true, true, false, true] (L' := [some (.ref l0), some (.int l1), none, some (.int l3)]) rfl ?_
        exact x_X7_runsOf_28 (fun M l0 l1 l2 l3 h => x_X7_runsOf_4  z M l0 l1 l2 l3 h) h
      · replace h := h.2 hc
        refine e_blk 2 23 _ _ (pc' := 28) (L' := [some (.ref l0), some (.int l1), some (.int l2), some (.int l3)]) (st' := [.int (1 : Int32), .int l2]) rfl ?_
        refine e_drp [true, true, false, true] (L' := [some (.ref l0), some (.int l1), none, some (.int l3)]) rfl ?_
        exact x_X7_runsOf_28 (fun M l0 l1 l2 l3 h => x_X7_runsOf_4  z M l0 l1 l2 l3 h) h
def V_X7_runsOf (K : Rs → Mm → Prop) (M : Mm) (a0 : Nat) (a1 : Int32) : Prop := ∃ y, V_X7_runsOf_4 K  y M a0 a1 (0 : Int32) (0 : Int32)
set_option maxRecDepth 100000 in
set_option maxHeartbeats 4000000 in
theorem x_X7_runsOf {G : Gx} {K : Rs → Mm → Prop} {M : Mm} {a0 : Nat} {a1 : Int32} (h : V_X7_runsOf K M a0 a1) : MC G mi_X7_runsOf [.ref a0, .int a1] M K := by
  unfold V_X7_runsOf at h
  refine mc_of rfl (by decide +kernel) dc_X7_runsOf (Nat.le_of_ble_eq_true rfl) 2 (Nat.le_of_ble_eq_true rfl) ?_
  show E G mi_X7_runsOf K M 0 0 0 [some (.ref a0), some (.int a1), none, none] []
  refine e_blk 4 0 _ _ (pc' := 4) (L' := [some (.ref a0), some (.int a1), some (.int (0 : Int32)), some (.int (0 : Int32))]) (st' := []) rfl ?_
  refine e_drp [true, true, true, true] (L' := [some (.ref a0), some (.int a1), some (.int (0 : Int32)), some (.int (0 : Int32))]) rfl ?_
  obtain ⟨y, h⟩ := h
  exact x_X7_runsOf_4  y _ _ _ _ _ h
def V_X7_told_179 (K : Rs → Mm → Prop)  (M : Mm) (s0 : Int32) : Prop := K (.inl (some (.int s0))) M
set_option maxRecDepth 100000 in
set_option maxHeartbeats 4000000 in
theorem x_X7_told_179 {G : Gx} {K : Rs → Mm → Prop}  {M : Mm} {s0 : Int32} (h : V_X7_told_179 K  M s0) : E G mi_X7_told K M 0 0 179 [none, none, none] [.int s0] := by
  unfold V_X7_told_179 at h
  exact e_reti rfl rfl (by decide) (by decide) h
def V_X7_told_164 (K : Rs → Mm → Prop)  (M : Mm) (s0 : Int32) : Prop := K (.inl (some (.int s0))) M
set_option maxRecDepth 100000 in
set_option maxHeartbeats 4000000 in
theorem x_X7_told_164 {G : Gx} {K : Rs → Mm → Prop}  {M : Mm} {s0 : Int32} (h : V_X7_told_164 K  M s0) : E G mi_X7_told K M 0 0 164 [none, none, none] [.int s0] := by
  unfold V_X7_told_164 at h
  exact e_reti rfl rfl (by decide) (by decide) h
def V_X7_told_135 (K : Rs → Mm → Prop)  (M : Mm) (s0 : Int32) : Prop := K (.inl (some (.int s0))) M
set_option maxRecDepth 100000 in
set_option maxHeartbeats 4000000 in
theorem x_X7_told_135 {G : Gx} {K : Rs → Mm → Prop}  {M : Mm} {s0 : Int32} (h : V_X7_told_135 K  M s0) : E G mi_X7_told K M 0 0 135 [none, none, none] [.int s0] := by
  unfold V_X7_told_135 at h
  exact e_reti rfl rfl (by decide) (by decide) h
def V_X7_told (K : Rs → Mm → Prop) (M : Mm) (a0 : Nat) (a1 : Int32) (a2 : Int32) : Prop := (ob M a0 7 ∧ ∀ M2, M2 = sI M a0 0 (0 : Int32) → V_X7_none (kI (fun r4 M3 => ((r4 = 0 → ((((a2).toInt < 0 ∨ 10 < (a2).toInt) → (ob M3 a0 7 ∧ V_X7_wrong (kI (fun r8 M7 => K (.inl (some (.int r8))) M7) (fun _ _ => False)) M3 a0 (2 : Int32))) ∧ ((a2 = 0 → (ob M3 a0 7 ∧ ∃ b11, mP M3 a0 27 = some b11 ∧ (ob M3 b11 9 ∧ (vp_in a1 (mN M3 b11) ∧ K (.inl (some (.int (mI M3 b11 (a1).toNatClampNeg)))) M3)))) ∧ ((a2 = 1 → (ob M3 a0 7 ∧ ∃ b16, mP M3 a0 28 = some b16 ∧ (ob M3 b16 9 ∧ (vp_in a1 (mN M3 b16) ∧ K (.inl (some (.int (mI M3 b16 (a1).toNatClampNeg)))) M3)))) ∧ ((a2 = 2 → (ob M3 a0 7 ∧ ∃ b21, mP M3 a0 29 = some b21 ∧ (ob M3 b21 9 ∧ (vp_in a1 (mN M3 b21) ∧ K (.inl (some (.int (mI M3 b21 (a1).toNatClampNeg)))) M3)))) ∧ ((a2 = 3 → (ob M3 a0 7 ∧ ∃ b26, mP M3 a0 30 = some b26 ∧ (ob M3 b26 9 ∧ (vp_in a1 (mN M3 b26) ∧ K (.inl (some (.int (mI M3 b26 (a1).toNatClampNeg)))) M3)))) ∧ ((a2 = 4 → (ob M3 a0 7 ∧ ∃ b31, mP M3 a0 31 = some b31 ∧ (ob M3 b31 9 ∧ (vp_in a1 (mN M3 b31) ∧ K (.inl (some (.int (mI M3 b31 (a1).toNatClampNeg)))) M3)))) ∧ ((a2 = 5 → (ob M3 a0 7 ∧ V_X7_runsOf (kI (fun r37 M36 => K (.inl (some (.int r37))) M36) (fun _ _ => False)) M3 a0 a1)) ∧ ((a2 = 6 → (ob M3 a0 7 ∧ ∃ b40, mP M3 a0 44 = some b40 ∧ (ob M3 b40 9 ∧ (vp_in a1 (mN M3 b40) ∧ (((mI M3 b40 (a1).toNatClampNeg) < 0 → V_X7_told_135 K  M3 (0 : Int32)) ∧ (¬ (mI M3 b40 (a1).toNatClampNeg) < 0 → V_X7_told_135 K  M3 (1 : Int32))))))) ∧ ((a2 = 7 → (ob M3 a0 7 ∧ ∃ b45, mP M3 a0 42 = some b45 ∧ (ob M3 b45 9 ∧ (vp_in a1 (mN M3 b45) ∧ K (.inl (some (.int (mI M3 b45 (a1).toNatClampNeg)))) M3)))) ∧ ((a2 = 8 → (ob M3 a0 7 ∧ ∃ b50, mP M3 a0 43 = some b50 ∧ (ob M3 b50 9 ∧ (vp_in a1 (mN M3 b50) ∧ K (.inl (some (.int (mI M3 b50 (a1).toNatClampNeg)))) M3)))) ∧ ((a2 = 9 → (ob M3 a0 7 ∧ ∃ b55, mP M3 a0 40 = some b55 ∧ (ob M3 b55 11 ∧ (vp_in a1 (mN M3 b55) ∧ (((mI M3 b55 (a1).toNatClampNeg) = 0 → V_X7_told_164 K  M3 (0 : Int32)) ∧ (¬ (mI M3 b55 (a1).toNatClampNeg) = 0 → V_X7_told_164 K  M3 (1 : Int32))))))) ∧ ((a2 = 10 → (ob M3 a0 7 ∧ ∃ b60, mP M3 a0 41 = some b60 ∧ (ob M3 b60 11 ∧ (vp_in a1 (mN M3 b60) ∧ (((mI M3 b60 (a1).toNatClampNeg) = 0 → V_X7_told_179 K  M3 (0 : Int32)) ∧ (¬ (mI M3 b60 (a1).toNatClampNeg) = 0 → V_X7_told_179 K  M3 (1 : Int32))))))) ∧ True))))))))))))) ∧ (¬ r4 = 0 → (ob M3 a0 7 ∧ V_X7_wrong (kI (fun r65 M64 => K (.inl (some (.int r65))) M64) (fun _ _ => False)) M3 a0 (1 : Int32))))) (fun _ _ => False)) M2 a0 a1)
set_option maxRecDepth 100000 in
set_option maxHeartbeats 4000000 in
theorem x_X7_told {G : Gx} {K : Rs → Mm → Prop} {M : Mm} {a0 : Nat} {a1 : Int32} {a2 : Int32} (h : V_X7_told K M a0 a1 a2) : MC G mi_X7_told [.ref a0, .int a1, .int a2] M K := by
  unfold V_X7_told at h
  refine mc_of rfl (by decide +kernel) dc_X7_told (Nat.le_of_ble_eq_true rfl) 0 (Nat.le_of_ble_eq_true rfl) ?_
  show E G mi_X7_told K M 0 0 0 [some (.ref a0), some (.int a1), some (.int a2)] []
  refine e_blk 2 0 _ _ (pc' := 2) (L' := [some (.ref a0), some (.int a1), some (.int a2)]) (st' := [.int (0 : Int32), .ref a0]) rfl ?_
  obtain ⟨ho1, h⟩ := h
  refine e_putI 7 0 rfl rfl (by decide) (aw (i := 1065) (by decide +kernel) rfl) rfl ho1 rfl ?_
  generalize hM2 : sI M a0 0 (0 : Int32) = M2
  replace h := h M2 hM2.symm
  replace ho1 : ob M2 a0 7 := hM2 ▸ ob_sI ho1
  refine e_blk 2 5 _ _ (pc' := 7) (L' := [some (.ref a0), some (.int a1), some (.int a2)]) (st' := [.int a1, .ref a0]) rfl ?_
  refine e_callV (As := [.int a1]) (rest := []) (ci := 7) rfl (x_X7_none h) ho1 rfl rfl rfl (aw (i := 1449) (by decide +kernel) rfl) wn_X7_none wv_X7_none wi_X7_none wc_X7_none (show cok mi_X7_told mi_X7_none 0 0 1 = true by decide +kernel) (Nat.le_of_ble_eq_true rfl) (fun v9 M3 hq => ?_) (fun X M9 hq => False.elim hq)
  obtain ⟨r4, rfl, h⟩ := kI_l hq
  refine e_if_eq 19 rfl rfl (fun hc => ?_) (fun hc => ?_)
  · replace h := h.1 hc
    refine e_blk 1 19 _ _ (pc' := 20) (L' := [some (.ref a0), some (.int a1), some (.int a2)]) (st' := [.int a2]) rfl ?_
    by_cases hs5 : (a2).toInt < 0 ∨ 10 < (a2).toInt
    · replace h := h.1 hs5
      refine e_swO 180 rfl hs5 rfl ?_
      refine e_blk 2 180 _ _ (pc' := 182) (L' := [some (.ref a0), some (.int a1), some (.int a2)]) (st' := [.int (2 : Int32), .ref a0]) rfl ?_
      obtain ⟨ho6, h⟩ := h
      refine e_callV (As := [.int (2 : Int32)]) (rest := []) (ci := 7) rfl (x_X7_wrong h) ho6 rfl rfl rfl (aw (i := 1265) (by decide +kernel) rfl) wn_X7_wrong wv_X7_wrong wi_X7_wrong wc_X7_wrong (show cok mi_X7_told mi_X7_wrong 0 0 1 = true by decide +kernel) (Nat.le_of_ble_eq_true rfl) (fun v9 M7 hq => ?_) (fun X M9 hq => False.elim hq)
      obtain ⟨r8, rfl, h⟩ := kI_l hq
      exact e_reti rfl rfl (by decide) (by decide) h
    replace h := h.2
    by_cases he9 : a2 = 0
    · replace h := h.1 he9
      refine e_swI (60) 80 rfl (fun q => hs5 (Or.inl q)) (fun q => hs5 (Or.inr q)) (by rw [he9]; decide) rfl ?_
      refine e_blk 1 80 _ _ (pc' := 81) (L' := [some (.ref a0), some (.int a1), some (.int a2)]) (st' := [.ref a0]) rfl ?_
      obtain ⟨ho10, h⟩ := h
      obtain ⟨b11, hbb11, h⟩ := h
      refine e_getR 7 27 rfl rfl (by decide) (aw (i := 1092) (by decide +kernel) rfl) ho10 rfl hbb11 ?_
      refine e_blk 1 84 _ _ (pc' := 85) (L' := [some (.ref a0), some (.int a1), some (.int a2)]) (st' := [.int a1, .ref b11]) rfl ?_
      obtain ⟨ho12, h⟩ := h
      obtain ⟨hi13, h⟩ := h
      refine e_iald rfl ho12 hi13 ?_
      exact e_reti rfl rfl (by decide) (by decide) h
    replace h := h.2
    by_cases he14 : a2 = 1
    · replace h := h.1 he14
      refine e_swI (67) 87 rfl (fun q => hs5 (Or.inl q)) (fun q => hs5 (Or.inr q)) (by rw [he14]; decide) rfl ?_
      refine e_blk 1 87 _ _ (pc' := 88) (L' := [some (.ref a0), some (.int a1), some (.int a2)]) (st' := [.ref a0]) rfl ?_
      obtain ⟨ho15, h⟩ := h
      obtain ⟨b16, hbb16, h⟩ := h
      refine e_getR 7 28 rfl rfl (by decide) (aw (i := 1093) (by decide +kernel) rfl) ho15 rfl hbb16 ?_
      refine e_blk 1 91 _ _ (pc' := 92) (L' := [some (.ref a0), some (.int a1), some (.int a2)]) (st' := [.int a1, .ref b16]) rfl ?_
      obtain ⟨ho17, h⟩ := h
      obtain ⟨hi18, h⟩ := h
      refine e_iald rfl ho17 hi18 ?_
      exact e_reti rfl rfl (by decide) (by decide) h
    replace h := h.2
    by_cases he19 : a2 = 2
    · replace h := h.1 he19
      refine e_swI (74) 94 rfl (fun q => hs5 (Or.inl q)) (fun q => hs5 (Or.inr q)) (by rw [he19]; decide) rfl ?_
      refine e_blk 1 94 _ _ (pc' := 95) (L' := [some (.ref a0), some (.int a1), some (.int a2)]) (st' := [.ref a0]) rfl ?_
      obtain ⟨ho20, h⟩ := h
      obtain ⟨b21, hbb21, h⟩ := h
      refine e_getR 7 29 rfl rfl (by decide) (aw (i := 1094) (by decide +kernel) rfl) ho20 rfl hbb21 ?_
      refine e_blk 1 98 _ _ (pc' := 99) (L' := [some (.ref a0), some (.int a1), some (.int a2)]) (st' := [.int a1, .ref b21]) rfl ?_
      obtain ⟨ho22, h⟩ := h
      obtain ⟨hi23, h⟩ := h
      refine e_iald rfl ho22 hi23 ?_
      exact e_reti rfl rfl (by decide) (by decide) h
    replace h := h.2
    by_cases he24 : a2 = 3
    · replace h := h.1 he24
      refine e_swI (81) 101 rfl (fun q => hs5 (Or.inl q)) (fun q => hs5 (Or.inr q)) (by rw [he24]; decide) rfl ?_
      refine e_blk 1 101 _ _ (pc' := 102) (L' := [some (.ref a0), some (.int a1), some (.int a2)]) (st' := [.ref a0]) rfl ?_
      obtain ⟨ho25, h⟩ := h
      obtain ⟨b26, hbb26, h⟩ := h
      refine e_getR 7 30 rfl rfl (by decide) (aw (i := 1095) (by decide +kernel) rfl) ho25 rfl hbb26 ?_
      refine e_blk 1 105 _ _ (pc' := 106) (L' := [some (.ref a0), some (.int a1), some (.int a2)]) (st' := [.int a1, .ref b26]) rfl ?_
      obtain ⟨ho27, h⟩ := h
      obtain ⟨hi28, h⟩ := h
      refine e_iald rfl ho27 hi28 ?_
      exact e_reti rfl rfl (by decide) (by decide) h
    replace h := h.2
    by_cases he29 : a2 = 4
    · replace h := h.1 he29
      refine e_swI (88) 108 rfl (fun q => hs5 (Or.inl q)) (fun q => hs5 (Or.inr q)) (by rw [he29]; decide) rfl ?_
      refine e_blk 1 108 _ _ (pc' := 109) (L' := [some (.ref a0), some (.int a1), some (.int a2)]) (st' := [.ref a0]) rfl ?_
      obtain ⟨ho30, h⟩ := h
      obtain ⟨b31, hbb31, h⟩ := h
      refine e_getR 7 31 rfl rfl (by decide) (aw (i := 1096) (by decide +kernel) rfl) ho30 rfl hbb31 ?_
      refine e_blk 1 112 _ _ (pc' := 113) (L' := [some (.ref a0), some (.int a1), some (.int a2)]) (st' := [.int a1, .ref b31]) rfl ?_
      obtain ⟨ho32, h⟩ := h
      obtain ⟨hi33, h⟩ := h
      refine e_iald rfl ho32 hi33 ?_
      exact e_reti rfl rfl (by decide) (by decide) h
    replace h := h.2
    by_cases he34 : a2 = 5
    · replace h := h.1 he34
      refine e_swI (95) 115 rfl (fun q => hs5 (Or.inl q)) (fun q => hs5 (Or.inr q)) (by rw [he34]; decide) rfl ?_
      refine e_blk 2 115 _ _ (pc' := 117) (L' := [some (.ref a0), some (.int a1), some (.int a2)]) (st' := [.int a1, .ref a0]) rfl ?_
      obtain ⟨ho35, h⟩ := h
      refine e_callV (As := [.int a1]) (rest := []) (ci := 7) rfl (x_X7_runsOf h) ho35 rfl rfl rfl (aw (i := 1466) (by decide +kernel) rfl) wn_X7_runsOf wv_X7_runsOf wi_X7_runsOf wc_X7_runsOf (show cok mi_X7_told mi_X7_runsOf 0 0 1 = true by decide +kernel) (Nat.le_of_ble_eq_true rfl) (fun v9 M36 hq => ?_) (fun X M9 hq => False.elim hq)
      obtain ⟨r37, rfl, h⟩ := kI_l hq
      exact e_reti rfl rfl (by decide) (by decide) h
    replace h := h.2
    by_cases he38 : a2 = 6
    · replace h := h.1 he38
      refine e_swI (101) 121 rfl (fun q => hs5 (Or.inl q)) (fun q => hs5 (Or.inr q)) (by rw [he38]; decide) rfl ?_
      refine e_blk 1 121 _ _ (pc' := 122) (L' := [some (.ref a0), some (.int a1), some (.int a2)]) (st' := [.ref a0]) rfl ?_
      obtain ⟨ho39, h⟩ := h
      obtain ⟨b40, hbb40, h⟩ := h
      refine e_getR 7 44 rfl rfl (by decide) (aw (i := 1109) (by decide +kernel) rfl) ho39 rfl hbb40 ?_
      refine e_blk 1 125 _ _ (pc' := 126) (L' := [some (.ref a0), some (.int a1), some (.int a2)]) (st' := [.int a1, .ref b40]) rfl ?_
      obtain ⟨ho41, h⟩ := h
      obtain ⟨hi42, h⟩ := h
      refine e_iald rfl ho41 hi42 ?_
      refine e_if_lt 134 rfl rfl (fun hc => ?_) (fun hc => ?_)
      · replace h := h.1 hc
        refine e_blk 1 134 _ _ (pc' := 135) (L' := [some (.ref a0), some (.int a1), some (.int a2)]) (st' := [.int (0 : Int32)]) rfl ?_
        refine e_drp [false, false, false] (L' := [none, none, none]) rfl ?_
        exact x_X7_told_135  h
      · replace h := h.2 hc
        refine e_blk 2 130 _ _ (pc' := 135) (L' := [some (.ref a0), some (.int a1), some (.int a2)]) (st' := [.int (1 : Int32)]) rfl ?_
        refine e_drp [false, false, false] (L' := [none, none, none]) rfl ?_
        exact x_X7_told_135  h
    replace h := h.2
    by_cases he43 : a2 = 7
    · replace h := h.1 he43
      refine e_swI (116) 136 rfl (fun q => hs5 (Or.inl q)) (fun q => hs5 (Or.inr q)) (by rw [he43]; decide) rfl ?_
      refine e_blk 1 136 _ _ (pc' := 137) (L' := [some (.ref a0), some (.int a1), some (.int a2)]) (st' := [.ref a0]) rfl ?_
      obtain ⟨ho44, h⟩ := h
      obtain ⟨b45, hbb45, h⟩ := h
      refine e_getR 7 42 rfl rfl (by decide) (aw (i := 1107) (by decide +kernel) rfl) ho44 rfl hbb45 ?_
      refine e_blk 1 140 _ _ (pc' := 141) (L' := [some (.ref a0), some (.int a1), some (.int a2)]) (st' := [.int a1, .ref b45]) rfl ?_
      obtain ⟨ho46, h⟩ := h
      obtain ⟨hi47, h⟩ := h
      refine e_iald rfl ho46 hi47 ?_
      exact e_reti rfl rfl (by decide) (by decide) h
    replace h := h.2
    by_cases he48 : a2 = 8
    · replace h := h.1 he48
      refine e_swI (123) 143 rfl (fun q => hs5 (Or.inl q)) (fun q => hs5 (Or.inr q)) (by rw [he48]; decide) rfl ?_
      refine e_blk 1 143 _ _ (pc' := 144) (L' := [some (.ref a0), some (.int a1), some (.int a2)]) (st' := [.ref a0]) rfl ?_
      obtain ⟨ho49, h⟩ := h
      obtain ⟨b50, hbb50, h⟩ := h
      refine e_getR 7 43 rfl rfl (by decide) (aw (i := 1108) (by decide +kernel) rfl) ho49 rfl hbb50 ?_
      refine e_blk 1 147 _ _ (pc' := 148) (L' := [some (.ref a0), some (.int a1), some (.int a2)]) (st' := [.int a1, .ref b50]) rfl ?_
      obtain ⟨ho51, h⟩ := h
      obtain ⟨hi52, h⟩ := h
      refine e_iald rfl ho51 hi52 ?_
      exact e_reti rfl rfl (by decide) (by decide) h
    replace h := h.2
    by_cases he53 : a2 = 9
    · replace h := h.1 he53
      refine e_swI (130) 150 rfl (fun q => hs5 (Or.inl q)) (fun q => hs5 (Or.inr q)) (by rw [he53]; decide) rfl ?_
      refine e_blk 1 150 _ _ (pc' := 151) (L' := [some (.ref a0), some (.int a1), some (.int a2)]) (st' := [.ref a0]) rfl ?_
      obtain ⟨ho54, h⟩ := h
      obtain ⟨b55, hbb55, h⟩ := h
      refine e_getR 7 40 rfl rfl (by decide) (aw (i := 1105) (by decide +kernel) rfl) ho54 rfl hbb55 ?_
      refine e_blk 1 154 _ _ (pc' := 155) (L' := [some (.ref a0), some (.int a1), some (.int a2)]) (st' := [.int a1, .ref b55]) rfl ?_
      obtain ⟨ho56, h⟩ := h
      obtain ⟨hi57, h⟩ := h
      refine e_zald rfl ho56 hi57 ?_
      refine e_if_eq 163 rfl rfl (fun hc => ?_) (fun hc => ?_)
      · replace h := h.1 hc
        refine e_blk 1 163 _ _ (pc' := 164) (L' := [some (.ref a0), some (.int a1), some (.int a2)]) (st' := [.int (0 : Int32)]) rfl ?_
        refine e_drp [false, false, false] (L' := [none, none, none]) rfl ?_
        exact x_X7_told_164  h
      · replace h := h.2 hc
        refine e_blk 2 159 _ _ (pc' := 164) (L' := [some (.ref a0), some (.int a1), some (.int a2)]) (st' := [.int (1 : Int32)]) rfl ?_
        refine e_drp [false, false, false] (L' := [none, none, none]) rfl ?_
        exact x_X7_told_164  h
    replace h := h.2
    by_cases he58 : a2 = 10
    · replace h := h.1 he58
      refine e_swI (145) 165 rfl (fun q => hs5 (Or.inl q)) (fun q => hs5 (Or.inr q)) (by rw [he58]; decide) rfl ?_
      refine e_blk 1 165 _ _ (pc' := 166) (L' := [some (.ref a0), some (.int a1), some (.int a2)]) (st' := [.ref a0]) rfl ?_
      obtain ⟨ho59, h⟩ := h
      obtain ⟨b60, hbb60, h⟩ := h
      refine e_getR 7 41 rfl rfl (by decide) (aw (i := 1106) (by decide +kernel) rfl) ho59 rfl hbb60 ?_
      refine e_blk 1 169 _ _ (pc' := 170) (L' := [some (.ref a0), some (.int a1), some (.int a2)]) (st' := [.int a1, .ref b60]) rfl ?_
      obtain ⟨ho61, h⟩ := h
      obtain ⟨hi62, h⟩ := h
      refine e_zald rfl ho61 hi62 ?_
      refine e_if_eq 178 rfl rfl (fun hc => ?_) (fun hc => ?_)
      · replace h := h.1 hc
        refine e_blk 1 178 _ _ (pc' := 179) (L' := [some (.ref a0), some (.int a1), some (.int a2)]) (st' := [.int (0 : Int32)]) rfl ?_
        refine e_drp [false, false, false] (L' := [none, none, none]) rfl ?_
        exact x_X7_told_179  h
      · replace h := h.2 hc
        refine e_blk 2 174 _ _ (pc' := 179) (L' := [some (.ref a0), some (.int a1), some (.int a2)]) (st' := [.int (1 : Int32)]) rfl ?_
        refine e_drp [false, false, false] (L' := [none, none, none]) rfl ?_
        exact x_X7_told_179  h
    replace h := h.2
    exfalso
    have the9 : (a2).toInt ≠ 0 := fun q => he9 (Int32.toInt_inj.mp (q.trans (by decide)))
    have the14 : (a2).toInt ≠ 1 := fun q => he14 (Int32.toInt_inj.mp (q.trans (by decide)))
    have the19 : (a2).toInt ≠ 2 := fun q => he19 (Int32.toInt_inj.mp (q.trans (by decide)))
    have the24 : (a2).toInt ≠ 3 := fun q => he24 (Int32.toInt_inj.mp (q.trans (by decide)))
    have the29 : (a2).toInt ≠ 4 := fun q => he29 (Int32.toInt_inj.mp (q.trans (by decide)))
    have the34 : (a2).toInt ≠ 5 := fun q => he34 (Int32.toInt_inj.mp (q.trans (by decide)))
    have the38 : (a2).toInt ≠ 6 := fun q => he38 (Int32.toInt_inj.mp (q.trans (by decide)))
    have the43 : (a2).toInt ≠ 7 := fun q => he43 (Int32.toInt_inj.mp (q.trans (by decide)))
    have the48 : (a2).toInt ≠ 8 := fun q => he48 (Int32.toInt_inj.mp (q.trans (by decide)))
    have the53 : (a2).toInt ≠ 9 := fun q => he53 (Int32.toInt_inj.mp (q.trans (by decide)))
    have the58 : (a2).toInt ≠ 10 := fun q => he58 (Int32.toInt_inj.mp (q.trans (by decide)))
    omega
  · replace h := h.2 hc
    refine e_blk 2 13 _ _ (pc' := 15) (L' := [some (.ref a0), some (.int a1), some (.int a2)]) (st' := [.int (1 : Int32), .ref a0]) rfl ?_
    obtain ⟨ho63, h⟩ := h
    refine e_callV (As := [.int (1 : Int32)]) (rest := []) (ci := 7) rfl (x_X7_wrong h) ho63 rfl rfl rfl (aw (i := 1265) (by decide +kernel) rfl) wn_X7_wrong wv_X7_wrong wi_X7_wrong wc_X7_wrong (show cok mi_X7_told mi_X7_wrong 0 0 1 = true by decide +kernel) (Nat.le_of_ble_eq_true rfl) (fun v9 M64 hq => ?_) (fun X M9 hq => False.elim hq)
    obtain ⟨r65, rfl, h⟩ := kI_l hq
    exact e_reti rfl rfl (by decide) (by decide) h
def V_X7_field_54 (K : Rs → Mm → Prop)  (M : Mm) (s0 : Int64) : Prop := K (.inl (some (.long s0))) M
set_option maxRecDepth 100000 in
set_option maxHeartbeats 4000000 in
theorem x_X7_field_54 {G : Gx} {K : Rs → Mm → Prop}  {M : Mm} {s0 : Int64} (h : V_X7_field_54 K  M s0) : E G mi_X7_field K M 0 0 54 [none, none, none] [.long s0] := by
  unfold V_X7_field_54 at h
  exact e_retl rfl rfl (by decide) (by decide) h
def V_X7_field_30 (K : Rs → Mm → Prop)  (M : Mm) (l0 : Nat) (l1 : Int32) (l2 : Int32) (s0 : Nat) (s1 : Int32) : Prop := (ob M s0 7 ∧ ∀ M2, M2 = sI M s0 0 s1 → (ob M2 l0 7 ∧ (((mI M2 l0 0) ≤ 0 → ∃ b4, mP M2 l0 32 = some b4 ∧ (ob M2 b4 10 ∧ (vp_in (((5 : Int32) * l1) + l2) (mN M2 b4) ∧ V_X7_field_54 K  M2 (mJ M2 b4 ((((5 : Int32) * l1) + l2)).toNatClampNeg)))) ∧ (¬ (mI M2 l0 0) ≤ 0 → V_X7_field_54 K  M2 (0 : Int64)))))
set_option maxRecDepth 100000 in
set_option maxHeartbeats 4000000 in
theorem x_X7_field_30 {G : Gx} {K : Rs → Mm → Prop}  {M : Mm} {l0 : Nat} {l1 : Int32} {l2 : Int32} {s0 : Nat} {s1 : Int32} (h : V_X7_field_30 K  M l0 l1 l2 s0 s1) : E G mi_X7_field K M 0 0 30 [some (.ref l0), some (.int l1), some (.int l2)] [.int s1, .ref s0] := by
  unfold V_X7_field_30 at h
  obtain ⟨ho1, h⟩ := h
  refine e_putI 7 0 rfl rfl (by decide) (aw (i := 1065) (by decide +kernel) rfl) rfl ho1 rfl ?_
  generalize hM2 : sI M s0 0 s1 = M2
  replace h := h M2 hM2.symm
  replace ho1 : ob M2 s0 7 := hM2 ▸ ob_sI ho1
  refine e_blk 1 33 _ _ (pc' := 34) (L' := [some (.ref l0), some (.int l1), some (.int l2)]) (st' := [.ref l0]) rfl ?_
  obtain ⟨ho3, h⟩ := h
  refine e_getI 7 0 rfl rfl (by decide) (aw (i := 1065) (by decide +kernel) rfl) ho3 rfl ?_
  refine e_if_le 44 rfl rfl (fun hc => ?_) (fun hc => ?_)
  · replace h := h.1 hc
    refine e_blk 1 44 _ _ (pc' := 45) (L' := [some (.ref l0), some (.int l1), some (.int l2)]) (st' := [.ref l0]) rfl ?_
    obtain ⟨b4, hbb4, h⟩ := h
    refine e_getR 7 32 rfl rfl (by decide) (aw (i := 1097) (by decide +kernel) rfl) ho3 rfl hbb4 ?_
    refine e_blk 5 48 _ _ (pc' := 53) (L' := [some (.ref l0), some (.int l1), some (.int l2)]) (st' := [.int (((5 : Int32) * l1) + l2), .ref b4]) rfl ?_
    obtain ⟨ho5, h⟩ := h
    obtain ⟨hi6, h⟩ := h
    refine e_lald rfl ho5 hi6 ?_
    refine e_drp [false, false, false] (L' := [none, none, none]) rfl ?_
    exact x_X7_field_54  h
  · replace h := h.2 hc
    refine e_blk 2 40 _ _ (pc' := 54) (L' := [some (.ref l0), some (.int l1), some (.int l2)]) (st' := [.long (0 : Int64)]) rfl ?_
    refine e_drp [false, false, false] (L' := [none, none, none]) rfl ?_
    exact x_X7_field_54  h
def V_X7_field (K : Rs → Mm → Prop) (M : Mm) (a0 : Nat) (a1 : Int32) (a2 : Int32) : Prop := (ob M a0 7 ∧ V_X7_none (kI (fun r3 M2 => ((r3 = 0 → V_X7_in (kI (fun r5 M4 => ((¬ r5 = 0 → V_X7_field_30 K  M4 a0 a1 a2 a0 (0 : Int32)) ∧ (r5 = 0 → V_X7_field_30 K  M4 a0 a1 a2 a0 (2 : Int32)))) (fun _ _ => False)) M2 ((a2).toInt64) (0 : Int64) (4 : Int64)) ∧ (¬ r3 = 0 → V_X7_field_30 K  M2 a0 a1 a2 a0 (1 : Int32)))) (fun _ _ => False)) M a0 a1)
set_option maxRecDepth 100000 in
set_option maxHeartbeats 4000000 in
theorem x_X7_field {G : Gx} {K : Rs → Mm → Prop} {M : Mm} {a0 : Nat} {a1 : Int32} {a2 : Int32} (h : V_X7_field K M a0 a1 a2) : MC G mi_X7_field [.ref a0, .int a1, .int a2] M K := by
  unfold V_X7_field at h
  refine mc_of rfl (by decide +kernel) dc_X7_field (Nat.le_of_ble_eq_true rfl) 0 (Nat.le_of_ble_eq_true rfl) ?_
  show E G mi_X7_field K M 0 0 0 [some (.ref a0), some (.int a1), some (.int a2)] []
  refine e_blk 3 0 _ _ (pc' := 3) (L' := [some (.ref a0), some (.int a1), some (.int a2)]) (st' := [.int a1, .ref a0, .ref a0]) rfl ?_
  obtain ⟨ho1, h⟩ := h
  refine e_callV (As := [.int a1]) (rest := [.ref a0]) (ci := 7) rfl (x_X7_none h) ho1 rfl rfl rfl (aw (i := 1449) (by decide +kernel) rfl) wn_X7_none wv_X7_none wi_X7_none wc_X7_none (show cok mi_X7_field mi_X7_none 0 0 1 = true by decide +kernel) (Nat.le_of_ble_eq_true rfl) (fun v9 M2 hq => ?_) (fun X M9 hq => False.elim hq)
  obtain ⟨r3, rfl, h⟩ := kI_l hq
  refine e_if_eq 13 rfl rfl (fun hc => ?_) (fun hc => ?_)
  · replace h := h.1 hc
    refine e_blk 3 13 _ _ (pc' := 16) (L' := [some (.ref a0), some (.int a1), some (.int a2)]) (st' := [.long (0 : Int64), .long ((a2).toInt64), .ref a0]) rfl ?_
    refine e_ldc2 (4) rfl (aw (i := 1474) (by decide +kernel) rfl) ?_
    refine e_callS (As := [.long ((a2).toInt64), .long (0 : Int64), .long (4 : Int64)]) (rest := [.ref a0]) rfl (x_X7_in h) rfl (aw (i := 1256) (by decide +kernel) rfl) ws_X7_in wi_X7_in wc_X7_in (show cok mi_X7_field mi_X7_in 0 0 3 = true by decide +kernel) (Nat.le_of_ble_eq_true rfl) (fun v9 M4 hq => ?_) (fun X M9 hq => False.elim hq)
    obtain ⟨r5, rfl, h⟩ := kI_l hq
    refine e_if_ne 29 rfl rfl (fun hc => ?_) (fun hc => ?_)
    · replace h := h.1 hc
      refine e_blk 1 29 _ _ (pc' := 30) (L' := [some (.ref a0), some (.int a1), some (.int a2)]) (st' := [.int (0 : Int32), .ref a0]) rfl ?_
      refine e_drp [true, true, true] (L' := [some (.ref a0), some (.int a1), some (.int a2)]) rfl ?_
      exact x_X7_field_30  h
    · replace h := h.2 hc
      refine e_blk 2 25 _ _ (pc' := 30) (L' := [some (.ref a0), some (.int a1), some (.int a2)]) (st' := [.int (2 : Int32), .ref a0]) rfl ?_
      refine e_drp [true, true, true] (L' := [some (.ref a0), some (.int a1), some (.int a2)]) rfl ?_
      exact x_X7_field_30  h
  · replace h := h.2 hc
    refine e_blk 2 9 _ _ (pc' := 30) (L' := [some (.ref a0), some (.int a1), some (.int a2)]) (st' := [.int (1 : Int32), .ref a0]) rfl ?_
    refine e_drp [true, true, true] (L' := [some (.ref a0), some (.int a1), some (.int a2)]) rfl ?_
    exact x_X7_field_30  h
def V_X7_weekOf (K : Rs → Mm → Prop) (M : Mm) (a0 : Int32) (a1 : Int32) (a2 : Int32) : Prop := V_X7_dayNumber (kI (fun r2 M1 => ∀ x3 : Int32, x3 = (r2 + (1 : Int32)) → V_X7_floor (kI (fun r5 M4 => K (.inl (some (.int (x3 - ((7 : Int32) * r5))))) M4) (fun _ _ => False)) M1 x3 (7 : Int32)) (fun _ _ => False)) M a0 a1 a2
set_option maxRecDepth 100000 in
set_option maxHeartbeats 4000000 in
theorem x_X7_weekOf {G : Gx} {K : Rs → Mm → Prop} {M : Mm} {a0 : Int32} {a1 : Int32} {a2 : Int32} (h : V_X7_weekOf K M a0 a1 a2) : MC G mi_X7_weekOf [.int a0, .int a1, .int a2] M K := by
  unfold V_X7_weekOf at h
  refine mc_of rfl (by decide +kernel) dc_X7_weekOf (Nat.le_of_ble_eq_true rfl) 1 (Nat.le_of_ble_eq_true rfl) ?_
  show E G mi_X7_weekOf K M 0 0 0 [some (.int a0), some (.int a1), some (.int a2), none] []
  refine e_blk 3 0 _ _ (pc' := 3) (L' := [some (.int a0), some (.int a1), some (.int a2), none]) (st' := [.int a2, .int a1, .int a0]) rfl ?_
  refine e_callS (As := [.int a0, .int a1, .int a2]) (rest := []) rfl (x_X7_dayNumber h) rfl (aw (i := 1311) (by decide +kernel) rfl) ws_X7_dayNumber wi_X7_dayNumber wc_X7_dayNumber (show cok mi_X7_weekOf mi_X7_dayNumber 0 0 3 = true by decide +kernel) (Nat.le_of_ble_eq_true rfl) (fun v9 M1 hq => ?_) (fun X M9 hq => False.elim hq)
  obtain ⟨r2, rfl, h⟩ := kI_l hq
  refine e_blk 7 6 _ _ (pc' := 15) (L' := [some (.int a0), some (.int a1), some (.int a2), some (.int (r2 + (1 : Int32)))]) (st' := [.int (7 : Int32), .int (r2 + (1 : Int32)), .int (7 : Int32), .int (r2 + (1 : Int32))]) rfl ?_
  generalize hx_x3 : ((r2 + (1 : Int32)) : Int32) = x3
  replace h := h x3 hx_x3.symm
  refine e_callS (As := [.int x3, .int (7 : Int32)]) (rest := [.int (7 : Int32), .int x3]) rfl (x_X7_floor h) rfl (aw (i := 1283) (by decide +kernel) rfl) ws_X7_floor wi_X7_floor wc_X7_floor (show cok mi_X7_weekOf mi_X7_floor 0 0 2 = true by decide +kernel) (Nat.le_of_ble_eq_true rfl) (fun v9 M4 hq => ?_) (fun X M9 hq => False.elim hq)
  obtain ⟨r5, rfl, h⟩ := kI_l hq
  refine e_blk 2 18 _ _ (pc' := 20) (L' := [some (.int a0), some (.int a1), some (.int a2), some (.int x3)]) (st' := [.int (x3 - ((7 : Int32) * r5))]) rfl ?_
  exact e_reti rfl rfl (by decide) (by decide) h
def V_X7_nearest_54 (K : Rs → Mm → Prop)  (M : Mm) (s0 : Int32) : Prop := K (.inl (some (.int s0))) M
set_option maxRecDepth 100000 in
set_option maxHeartbeats 4000000 in
theorem x_X7_nearest_54 {G : Gx} {K : Rs → Mm → Prop}  {M : Mm} {s0 : Int32} (h : V_X7_nearest_54 K  M s0) : E G mi_X7_nearest K M 0 0 54 [none, none, none, none] [.int s0] := by
  unfold V_X7_nearest_54 at h
  exact e_reti rfl rfl (by decide) (by decide) h
def V_X7_nearest (K : Rs → Mm → Prop) (M : Mm) (a0 : Int32) (a1 : Int32) (a2 : Int32) : Prop := V_X7_weekOf (kI (fun r2 M1 => ((¬ r2 = (6 : Int32) → ((¬ r2 = 0 → V_X7_nearest_54 K  M1 a2) ∧ (r2 = 0 → V_X7_daysOf (kI (fun r4 M3 => ((¬ a2 = r4 → V_X7_nearest_54 K  M3 (a2 + (1 : Int32))) ∧ (a2 = r4 → V_X7_nearest_54 K  M3 (a2 - (2 : Int32))))) (fun _ _ => False)) M1 a0 a1))) ∧ (r2 = (6 : Int32) → ((¬ a2 = (1 : Int32) → V_X7_nearest_54 K  M1 (a2 - (1 : Int32))) ∧ (a2 = (1 : Int32) → V_X7_nearest_54 K  M1 (3 : Int32)))))) (fun _ _ => False)) M a0 a1 a2
set_option maxRecDepth 100000 in
set_option maxHeartbeats 4000000 in
theorem x_X7_nearest {G : Gx} {K : Rs → Mm → Prop} {M : Mm} {a0 : Int32} {a1 : Int32} {a2 : Int32} (h : V_X7_nearest K M a0 a1 a2) : MC G mi_X7_nearest [.int a0, .int a1, .int a2] M K := by
  unfold V_X7_nearest at h
  refine mc_of rfl (by decide +kernel) dc_X7_nearest (Nat.le_of_ble_eq_true rfl) 1 (Nat.le_of_ble_eq_true rfl) ?_
  show E G mi_X7_nearest K M 0 0 0 [some (.int a0), some (.int a1), some (.int a2), none] []
  refine e_blk 3 0 _ _ (pc' := 3) (L' := [some (.int a0), some (.int a1), some (.int a2), none]) (st' := [.int a2, .int a1, .int a0]) rfl ?_
  refine e_callS (As := [.int a0, .int a1, .int a2]) (rest := []) rfl (x_X7_weekOf h) rfl (aw (i := 1483) (by decide +kernel) rfl) ws_X7_weekOf wi_X7_weekOf wc_X7_weekOf (show cok mi_X7_nearest mi_X7_weekOf 0 0 3 = true by decide +kernel) (Nat.le_of_ble_eq_true rfl) (fun v9 M1 hq => ?_) (fun X M9 hq => False.elim hq)
  obtain ⟨r2, rfl, h⟩ := kI_l hq
  refine e_blk 3 6 _ _ (pc' := 10) (L' := [some (.int a0), some (.int a1), some (.int a2), some (.int r2)]) (st' := [.int (6 : Int32), .int r2]) rfl ?_
  refine e_icmp_ne 28 rfl rfl (fun hc => ?_) (fun hc => ?_)
  · replace h := h.1 hc
    refine e_blk 1 28 _ _ (pc' := 29) (L' := [some (.int a0), some (.int a1), some (.int a2), some (.int r2)]) (st' := [.int r2]) rfl ?_
    refine e_if_ne 53 rfl rfl (fun hc => ?_) (fun hc => ?_)
    · replace h := h.1 hc
      refine e_blk 1 53 _ _ (pc' := 54) (L' := [some (.int a0), some (.int a1), some (.int a2), some (.int r2)]) (st' := [.int a2]) rfl ?_
      refine e_drp [false, false, false, false] (L' := [none, none, none, none]) rfl ?_
      exact x_X7_nearest_54  h
    · replace h := h.2 hc
      refine e_blk 3 32 _ _ (pc' := 35) (L' := [some (.int a0), some (.int a1), some (.int a2), some (.int r2)]) (st' := [.int a1, .int a0, .int a2]) rfl ?_
      refine e_callS (As := [.int a0, .int a1]) (rest := [.int a2]) rfl (x_X7_daysOf h) rfl (aw (i := 1293) (by decide +kernel) rfl) ws_X7_daysOf wi_X7_daysOf wc_X7_daysOf (show cok mi_X7_nearest mi_X7_daysOf 0 0 2 = true by decide +kernel) (Nat.le_of_ble_eq_true rfl) (fun v9 M3 hq => ?_) (fun X M9 hq => False.elim hq)
      obtain ⟨r4, rfl, h⟩ := kI_l hq
      refine e_icmp_ne 47 rfl rfl (fun hc => ?_) (fun hc => ?_)
      · replace h := h.1 hc
        refine e_blk 4 47 _ _ (pc' := 54) (L' := [some (.int a0), some (.int a1), some (.int a2), some (.int r2)]) (st' := [.int (a2 + (1 : Int32))]) rfl ?_
        refine e_drp [false, false, false, false] (L' := [none, none, none, none]) rfl ?_
        exact x_X7_nearest_54  h
      · replace h := h.2 hc
        refine e_blk 4 41 _ _ (pc' := 54) (L' := [some (.int a0), some (.int a1), some (.int a2), some (.int r2)]) (st' := [.int (a2 - (2 : Int32))]) rfl ?_
        refine e_drp [false, false, false, false] (L' := [none, none, none, none]) rfl ?_
        exact x_X7_nearest_54  h
  · replace h := h.2 hc
    refine e_blk 2 13 _ _ (pc' := 15) (L' := [some (.int a0), some (.int a1), some (.int a2), some (.int r2)]) (st' := [.int (1 : Int32), .int a2]) rfl ?_
    refine e_icmp_ne 22 rfl rfl (fun hc => ?_) (fun hc => ?_)
    · replace h := h.1 hc
      refine e_blk 4 22 _ _ (pc' := 54) (L' := [some (.int a0), some (.int a1), some (.int a2), some (.int r2)]) (st' := [.int (a2 - (1 : Int32))]) rfl ?_
      refine e_drp [false, false, false, false] (L' := [none, none, none, none]) rfl ?_
      exact x_X7_nearest_54  h
    · replace h := h.2 hc
      refine e_blk 2 18 _ _ (pc' := 54) (L' := [some (.int a0), some (.int a1), some (.int a2), some (.int r2)]) (st' := [.int (3 : Int32)]) rfl ?_
      refine e_drp [false, false, false, false] (L' := [none, none, none, none]) rfl ?_
      exact x_X7_nearest_54  h
def V_X7_dayAlone_178 (K : Rs → Mm → Prop)  (M : Mm) (l6 : Int32) : Prop := ((l6 = 0 ∨ l6 = 1) ∧ K (.inl (some (.int l6))) M)
set_option maxRecDepth 100000 in
set_option maxHeartbeats 4000000 in
theorem x_X7_dayAlone_178 {G : Gx} {K : Rs → Mm → Prop}  {M : Mm} {l6 : Int32} (h : V_X7_dayAlone_178 K  M l6) : E G mi_X7_dayAlone K M 0 0 178 [none, none, none, none, none, none, some (.int l6), none, none] [] := by
  unfold V_X7_dayAlone_178 at h
  refine e_blk 1 178 _ _ (pc' := 180) (L' := [none, none, none, none, none, none, some (.int l6), none, none]) (st' := [.int l6]) rfl ?_
  exact e_retz rfl rfl h.1 (by decide) (by decide) h.2
def V_X7_dayAlone_170 (K : Rs → Mm → Prop) (B125 : Mm → Nat → Int32 → Int32 → Int32 → Int32 → Int32 → Int32 → Int32 → Prop) (M : Mm) (l0 : Nat) (l1 : Int32) (l2 : Int32) (l3 : Int32) (l4 : Int32) (l5 : Int32) (l8 : Int32) (s0 : Int32) : Prop := ∀ x1 : Int32, x1 = (l8 + (1 : Int32)) → B125 M l0 l1 l2 l3 l4 l5 s0 x1
set_option maxRecDepth 100000 in
set_option maxHeartbeats 4000000 in
theorem x_X7_dayAlone_170 {G : Gx} {K : Rs → Mm → Prop} {B125 : Mm → Nat → Int32 → Int32 → Int32 → Int32 → Int32 → Int32 → Int32 → Prop} (hB125 : ∀ M l0 l1 l2 l3 l4 l5 l6 l8, B125 M l0 l1 l2 l3 l4 l5 l6 l8 → E G mi_X7_dayAlone K M 0 0 125 [some (.ref l0), some (.int l1), some (.int l2), some (.int l3), some (.int l4), some (.int l5), some (.int l6), none, some (.int l8)] []) {M : Mm} {l0 : Nat} {l1 : Int32} {l2 : Int32} {l3 : Int32} {l4 : Int32} {l5 : Int32} {l8 : Int32} {s0 : Int32} (h : V_X7_dayAlone_170 K B125 M l0 l1 l2 l3 l4 l5 l8 s0) : E G mi_X7_dayAlone K M 0 0 170 [some (.ref l0), some (.int l1), some (.int l2), some (.int l3), some (.int l4), some (.int l5), none, none, some (.int l8)] [.int s0] := by
  unfold V_X7_dayAlone_170 at h
  refine e_blk 3 170 _ _ (pc' := 125) (L' := [some (.ref l0), some (.int l1), some (.int l2), some (.int l3), some (.int l4), some (.int l5), some (.int s0), none, some (.int (l8 + (1 : Int32)))]) (st' := []) rfl ?_
  generalize hx_x1 : ((l8 + (1 : Int32)) : Int32) = x1
  replace h := h x1 hx_x1.symm
  refine e_drp [true, true, true, true, true, true, true, false, true] (L' := [some (.ref l0), some (.int l1), some (.int l2), some (.int l3), some (.int l4), some (.int l5), some (.int s0), none, some (.int x1)]) rfl ?_
  exact hB125 _ _ _ _ _ _ _ _ _ h
def V_X7_dayAlone_169 (K : Rs → Mm → Prop) (B125 : Mm → Nat → Int32 → Int32 → Int32 → Int32 → Int32 → Int32 → Int32 → Prop) (M : Mm) (l0 : Nat) (l1 : Int32) (l2 : Int32) (l3 : Int32) (l4 : Int32) (l5 : Int32) (l8 : Int32) : Prop := V_X7_dayAlone_170 K B125 M l0 l1 l2 l3 l4 l5 l8 (0 : Int32)
set_option maxRecDepth 100000 in
set_option maxHeartbeats 4000000 in
theorem x_X7_dayAlone_169 {G : Gx} {K : Rs → Mm → Prop} {B125 : Mm → Nat → Int32 → Int32 → Int32 → Int32 → Int32 → Int32 → Int32 → Prop} (hB125 : ∀ M l0 l1 l2 l3 l4 l5 l6 l8, B125 M l0 l1 l2 l3 l4 l5 l6 l8 → E G mi_X7_dayAlone K M 0 0 125 [some (.ref l0), some (.int l1), some (.int l2), some (.int l3), some (.int l4), some (.int l5), some (.int l6), none, some (.int l8)] []) {M : Mm} {l0 : Nat} {l1 : Int32} {l2 : Int32} {l3 : Int32} {l4 : Int32} {l5 : Int32} {l8 : Int32} (h : V_X7_dayAlone_169 K B125 M l0 l1 l2 l3 l4 l5 l8) : E G mi_X7_dayAlone K M 0 0 169 [some (.ref l0), some (.int l1), some (.int l2), some (.int l3), some (.int l4), some (.int l5), none, none, some (.int l8)] [] := by
  unfold V_X7_dayAlone_169 at h
  refine e_blk 1 169 _ _ (pc' := 170) (L' := [some (.ref l0), some (.int l1), some (.int l2), some (.int l3), some (.int l4), some (.int l5), none, none, some (.int l8)]) (st' := [.int (0 : Int32)]) rfl ?_
  refine e_drp [true, true, true, true, true, true, false, false, true] (L' := [some (.ref l0), some (.int l1), some (.int l2), some (.int l3), some (.int l4), some (.int l5), none, none, some (.int l8)]) rfl ?_
  exact x_X7_dayAlone_170 hB125 h
def V_X7_dayAlone_125 (K : Rs → Mm → Prop)  : Nat → Mm → Nat → Int32 → Int32 → Int32 → Int32 → Int32 → Int32 → Int32 → Prop
  | 0, _, _, _, _, _, _, _, _, _ => False
  | z + 1, M, l0, l1, l2, l3, l4, l5, l6, l8 => ((l5 < l8 → V_X7_dayAlone_178 K  M l6) ∧ (¬ l5 < l8 → ((¬ l6 = 0 → V_X7_dayAlone_178 K  M l6) ∧ (l6 = 0 → (ob M l0 7 ∧ ∃ b2, mP M l0 37 = some b2 ∧ (ob M b2 10 ∧ (vp_in l1 (mN M b2) ∧ ((¬ (lg_cmp (((mJ M b2 (l1).toNatClampNeg) >>> ((l8).toInt64 &&& 63)) &&& (1 : Int64)) (1 : Int64)) = 0 → V_X7_dayAlone_169 K (fun M l0 l1 l2 l3 l4 l5 l6 l8 => V_X7_dayAlone_125 K  z M l0 l1 l2 l3 l4 l5 l6 l8) M l0 l1 l2 l3 l4 l5 l8) ∧ ((lg_cmp (((mJ M b2 (l1).toNatClampNeg) >>> ((l8).toInt64 &&& 63)) &&& (1 : Int64)) (1 : Int64)) = 0 → V_X7_nearest (kI (fun r6 M5 => ((¬ r6 = l4 → V_X7_dayAlone_169 K (fun M l0 l1 l2 l3 l4 l5 l6 l8 => V_X7_dayAlone_125 K  z M l0 l1 l2 l3 l4 l5 l6 l8) M5 l0 l1 l2 l3 l4 l5 l8) ∧ (r6 = l4 → V_X7_dayAlone_170 K (fun M l0 l1 l2 l3 l4 l5 l6 l8 => V_X7_dayAlone_125 K  z M l0 l1 l2 l3 l4 l5 l6 l8) M5 l0 l1 l2 l3 l4 l5 l8 (1 : Int32)))) (fun _ _ => False)) M l2 l3 l8)))))))))
set_option maxRecDepth 100000 in
set_option maxHeartbeats 4000000 in
theorem x_X7_dayAlone_125 {G : Gx} {K : Rs → Mm → Prop}  : ∀ (z : Nat) (M : Mm) (l0 : Nat) (l1 : Int32) (l2 : Int32) (l3 : Int32) (l4 : Int32) (l5 : Int32) (l6 : Int32) (l8 : Int32), V_X7_dayAlone_125 K  z M l0 l1 l2 l3 l4 l5 l6 l8 → E G mi_X7_dayAlone K M 0 0 125 [some (.ref l0), some (.int l1), some (.int l2), some (.int l3), some (.int l4), some (.int l5), some (.int l6), none, some (.int l8)] []
  | 0, M, l0, l1, l2, l3, l4, l5, l6, l8, h => False.elim h
  | z + 1, M, l0, l1, l2, l3, l4, l5, l6, l8, h => by
    unfold V_X7_dayAlone_125 at h
    refine e_blk 2 125 _ _ (pc' := 129) (L' := [some (.ref l0), some (.int l1), some (.int l2), some (.int l3), some (.int l4), some (.int l5), some (.int l6), none, some (.int l8)]) (st' := [.int l5, .int l8]) rfl ?_
    refine e_icmp_gt 178 rfl rfl (fun hc => ?_) (fun hc => ?_)
    · replace h := h.1 hc
      refine e_drp [false, false, false, false, false, false, true, false, false] (L' := [none, none, none, none, none, none, some (.int l6), none, none]) rfl ?_
      exact x_X7_dayAlone_178  h
    · replace h := h.2 hc
      refine e_blk 1 132 _ _ (pc' := 134) (L' := [some (.ref l0), some (.int l1), some (.int l2), some (.int l3), some (.int l4), some (.int l5), some (.int l6), none, some (.int l8)]) (st' := [.int l6]) rfl ?_
      refine e_if_ne 178 rfl rfl (fun hc => ?_) (fun hc => ?_)
      · replace h := h.1 hc
        refine e_drp [false, false, false, false, false, false, true, false, false] (L' := [none, none, none, none, none, none, some (.int l6), none, none]) rfl ?_
        exact x_X7_dayAlone_178  h
      · replace h := h.2 hc
        refine e_blk 1 137 _ _ (pc' := 138) (L' := [some (.ref l0), some (.int l1), some (.int l2), some (.int l3), some (.int l4), some (.int l5), some (.int l6), none, some (.int l8)]) (st' := [.ref l0]) rfl ?_
        obtain ⟨ho1, h⟩ := h
        obtain ⟨b2, hbb2, h⟩ := h
        refine e_getR 7 37 rfl rfl (by decide) (aw (i := 1102) (by decide +kernel) rfl) ho1 rfl hbb2 ?_
        refine e_blk 1 141 _ _ (pc' := 142) (L' := [some (.ref l0), some (.int l1), some (.int l2), some (.int l3), some (.int l4), some (.int l5), some (.int l6), none, some (.int l8)]) (st' := [.int l1, .ref b2]) rfl ?_
        obtain ⟨ho3, h⟩ := h
        obtain ⟨hi4, h⟩ := h
        refine e_lald rfl ho3 hi4 ?_
        refine e_blk 6 143 _ _ (pc' := 150) (L' := [some (.ref l0), some (.int l1), some (.int l2), some (.int l3), some (.int l4), some (.int l5), some (.int l6), none, some (.int l8)]) (st' := [.int (lg_cmp (((mJ M b2 (l1).toNatClampNeg) >>> ((l8).toInt64 &&& 63)) &&& (1 : Int64)) (1 : Int64))]) rfl ?_
        refine e_if_ne 169 rfl rfl (fun hc => ?_) (fun hc => ?_)
        · replace h := h.1 hc
          refine e_drp [true, true, true, true, true, true, false, false, true] (L' := [some (.ref l0), some (.int l1), some (.int l2), some (.int l3), some (.int l4), some (.int l5), none, none, some (.int l8)]) rfl ?_
          exact x_X7_dayAlone_169 (fun M l0 l1 l2 l3 l4 l5 l6 l8 h => x_X7_dayAlone_125  z M l0 l1 l2 l3 l4 l5 l6 l8 h) h
        · replace h := h.2 hc
          refine e_blk 3 153 _ _ (pc' := 157) (L' := [some (.ref l0), some (.int l1), some (.int l2), some (.int l3), some (.int l4), some (.int l5), some (.int l6), none, some (.int l8)]) (st' := [.int l8, .int l3, .int l2]) rfl ?_
          refine e_callS (As := [.int l2, .int l3, .int l8]) (rest := []) rfl (x_X7_nearest h) rfl (aw (i := 1486) (by decide +kernel) rfl) ws_X7_nearest wi_X7_nearest wc_X7_nearest (show cok mi_X7_dayAlone mi_X7_nearest 0 0 3 = true by decide +kernel) (Nat.le_of_ble_eq_true rfl) (fun v9 M5 hq => ?_) (fun X M9 hq => False.elim hq)
          obtain ⟨r6, rfl, h⟩ := kI_l hq
          refine e_blk 1 160 _ _ (pc' := 162) (L' := [some (.ref l0), some (.int l1), some (.int l2), some (.int l3), some (.int l4), some (.int l5), some (.int l6), none, some (.int l8)]) (st' := [.int l4, .int r6]) rfl ?_
          refine e_icmp_ne 169 rfl rfl (fun hc => ?_) (fun hc => ?_)
          · replace h := h.1 hc
            refine e_drp [true, true, true, true, true, true, false, false, true] (L' := [some (.ref l0), some (.int l1), some (.int l2), some (.int l3), some (.int l4), some (.int l5), none, none, some (.int l8)]) rfl ?_
            exact x_X7_dayAlone_169 (fun M l0 l1 l2 l3 l4 l5 l6 l8 h => x_X7_dayAlone_125  z M l0 l1 l2 l3 l4 l5 l6 l8 h) h
          · replace h := h.2 hc
            refine e_blk 2 165 _ _ (pc' := 170) (L' := [some (.ref l0), some (.int l1), some (.int l2), some (.int l3), some (.int l4), some (.int l5), some (.int l6), none, some (.int l8)]) (st' := [.int (1 : Int32)]) rfl ?_
            refine e_drp [true, true, true, true, true, true, false, false, true] (L' := [some (.ref l0), some (.int l1), some (.int l2), some (.int l3), some (.int l4), some (.int l5), none, none, some (.int l8)]) rfl ?_
            exact x_X7_dayAlone_170 (fun M l0 l1 l2 l3 l4 l5 l6 l8 h => x_X7_dayAlone_125  z M l0 l1 l2 l3 l4 l5 l6 l8 h) h
def V_X7_dayAlone_120 (K : Rs → Mm → Prop)  (M : Mm) (l0 : Nat) (l1 : Int32) (l2 : Int32) (l3 : Int32) (l4 : Int32) (l5 : Int32) (s0 : Int32) : Prop := ∃ y, V_X7_dayAlone_125 K  y M l0 l1 l2 l3 l4 l5 s0 (1 : Int32)
set_option maxRecDepth 100000 in
set_option maxHeartbeats 4000000 in
theorem x_X7_dayAlone_120 {G : Gx} {K : Rs → Mm → Prop}  {M : Mm} {l0 : Nat} {l1 : Int32} {l2 : Int32} {l3 : Int32} {l4 : Int32} {l5 : Int32} {s0 : Int32} (h : V_X7_dayAlone_120 K  M l0 l1 l2 l3 l4 l5 s0) : E G mi_X7_dayAlone K M 0 0 120 [some (.ref l0), some (.int l1), some (.int l2), some (.int l3), some (.int l4), some (.int l5), none, none, none] [.int s0] := by
  unfold V_X7_dayAlone_120 at h
  refine e_blk 3 120 _ _ (pc' := 125) (L' := [some (.ref l0), some (.int l1), some (.int l2), some (.int l3), some (.int l4), some (.int l5), some (.int s0), none, some (.int (1 : Int32))]) (st' := []) rfl ?_
  refine e_drp [true, true, true, true, true, true, true, false, true] (L' := [some (.ref l0), some (.int l1), some (.int l2), some (.int l3), some (.int l4), some (.int l5), some (.int s0), none, some (.int (1 : Int32))]) rfl ?_
  obtain ⟨y, h⟩ := h
  exact x_X7_dayAlone_125  y _ _ _ _ _ _ _ _ _ h
def V_X7_dayAlone_119 (K : Rs → Mm → Prop)  (M : Mm) (l0 : Nat) (l1 : Int32) (l2 : Int32) (l3 : Int32) (l4 : Int32) (l5 : Int32) : Prop := V_X7_dayAlone_120 K  M l0 l1 l2 l3 l4 l5 (0 : Int32)
set_option maxRecDepth 100000 in
set_option maxHeartbeats 4000000 in
theorem x_X7_dayAlone_119 {G : Gx} {K : Rs → Mm → Prop}  {M : Mm} {l0 : Nat} {l1 : Int32} {l2 : Int32} {l3 : Int32} {l4 : Int32} {l5 : Int32} (h : V_X7_dayAlone_119 K  M l0 l1 l2 l3 l4 l5) : E G mi_X7_dayAlone K M 0 0 119 [some (.ref l0), some (.int l1), some (.int l2), some (.int l3), some (.int l4), some (.int l5), none, none, none] [] := by
  unfold V_X7_dayAlone_119 at h
  refine e_blk 1 119 _ _ (pc' := 120) (L' := [some (.ref l0), some (.int l1), some (.int l2), some (.int l3), some (.int l4), some (.int l5), none, none, none]) (st' := [.int (0 : Int32)]) rfl ?_
  refine e_drp [true, true, true, true, true, true, false, false, false] (L' := [some (.ref l0), some (.int l1), some (.int l2), some (.int l3), some (.int l4), some (.int l5), none, none, none]) rfl ?_
  exact x_X7_dayAlone_120  h
def V_X7_dayAlone_115 (K : Rs → Mm → Prop)  (M : Mm) (l0 : Nat) (l1 : Int32) (l2 : Int32) (l3 : Int32) (l4 : Int32) (l5 : Int32) : Prop := V_X7_dayAlone_120 K  M l0 l1 l2 l3 l4 l5 (1 : Int32)
set_option maxRecDepth 100000 in
set_option maxHeartbeats 4000000 in
theorem x_X7_dayAlone_115 {G : Gx} {K : Rs → Mm → Prop}  {M : Mm} {l0 : Nat} {l1 : Int32} {l2 : Int32} {l3 : Int32} {l4 : Int32} {l5 : Int32} (h : V_X7_dayAlone_115 K  M l0 l1 l2 l3 l4 l5) : E G mi_X7_dayAlone K M 0 0 115 [some (.ref l0), some (.int l1), some (.int l2), some (.int l3), some (.int l4), some (.int l5), none, none, none] [] := by
  unfold V_X7_dayAlone_115 at h
  refine e_blk 2 115 _ _ (pc' := 120) (L' := [some (.ref l0), some (.int l1), some (.int l2), some (.int l3), some (.int l4), some (.int l5), none, none, none]) (st' := [.int (1 : Int32)]) rfl ?_
  refine e_drp [true, true, true, true, true, true, false, false, false] (L' := [some (.ref l0), some (.int l1), some (.int l2), some (.int l3), some (.int l4), some (.int l5), none, none, none]) rfl ?_
  exact x_X7_dayAlone_120  h
def V_X7_dayAlone_94 (K : Rs → Mm → Prop)  (M : Mm) (l0 : Nat) (l1 : Int32) (l2 : Int32) (l3 : Int32) (l4 : Int32) (l5 : Int32) (l6 : Int32) (l7 : Int32) : Prop := ((¬ l6 = 0 → V_X7_dayAlone_115 K  M l0 l1 l2 l3 l4 l5) ∧ (l6 = 0 → (ob M l0 7 ∧ ∃ b2, mP M l0 36 = some b2 ∧ (ob M b2 11 ∧ (vp_in l1 (mN M b2) ∧ (((mI M b2 (l1).toNatClampNeg) = 0 → V_X7_dayAlone_119 K  M l0 l1 l2 l3 l4 l5) ∧ (¬ (mI M b2 (l1).toNatClampNeg) = 0 → ((¬ l4 = l7 → V_X7_dayAlone_119 K  M l0 l1 l2 l3 l4 l5) ∧ (l4 = l7 → V_X7_dayAlone_115 K  M l0 l1 l2 l3 l4 l5)))))))))
set_option maxRecDepth 100000 in
set_option maxHeartbeats 4000000 in
theorem x_X7_dayAlone_94 {G : Gx} {K : Rs → Mm → Prop}  {M : Mm} {l0 : Nat} {l1 : Int32} {l2 : Int32} {l3 : Int32} {l4 : Int32} {l5 : Int32} {l6 : Int32} {l7 : Int32} (h : V_X7_dayAlone_94 K  M l0 l1 l2 l3 l4 l5 l6 l7) : E G mi_X7_dayAlone K M 0 0 94 [some (.ref l0), some (.int l1), some (.int l2), some (.int l3), some (.int l4), some (.int l5), some (.int l6), some (.int l7), none] [] := by
  unfold V_X7_dayAlone_94 at h
  refine e_blk 1 94 _ _ (pc' := 96) (L' := [some (.ref l0), some (.int l1), some (.int l2), some (.int l3), some (.int l4), some (.int l5), some (.int l6), some (.int l7), none]) (st' := [.int l6]) rfl ?_
  refine e_if_ne 115 rfl rfl (fun hc => ?_) (fun hc => ?_)
  · replace h := h.1 hc
    refine e_drp [true, true, true, true, true, true, false, false, false] (L' := [some (.ref l0), some (.int l1), some (.int l2), some (.int l3), some (.int l4), some (.int l5), none, none, none]) rfl ?_
    exact x_X7_dayAlone_115  h
  · replace h := h.2 hc
    refine e_blk 1 99 _ _ (pc' := 100) (L' := [some (.ref l0), some (.int l1), some (.int l2), some (.int l3), some (.int l4), some (.int l5), some (.int l6), some (.int l7), none]) (st' := [.ref l0]) rfl ?_
    obtain ⟨ho1, h⟩ := h
    obtain ⟨b2, hbb2, h⟩ := h
    refine e_getR 7 36 rfl rfl (by decide) (aw (i := 1101) (by decide +kernel) rfl) ho1 rfl hbb2 ?_
    refine e_blk 1 103 _ _ (pc' := 104) (L' := [some (.ref l0), some (.int l1), some (.int l2), some (.int l3), some (.int l4), some (.int l5), some (.int l6), some (.int l7), none]) (st' := [.int l1, .ref b2]) rfl ?_
    obtain ⟨ho3, h⟩ := h
    obtain ⟨hi4, h⟩ := h
    refine e_zald rfl ho3 hi4 ?_
    refine e_if_eq 119 rfl rfl (fun hc => ?_) (fun hc => ?_)
    · replace h := h.1 hc
      refine e_drp [true, true, true, true, true, true, false, false, false] (L' := [some (.ref l0), some (.int l1), some (.int l2), some (.int l3), some (.int l4), some (.int l5), none, none, none]) rfl ?_
      exact x_X7_dayAlone_119  h
    · replace h := h.2 hc
      refine e_blk 2 108 _ _ (pc' := 112) (L' := [some (.ref l0), some (.int l1), some (.int l2), some (.int l3), some (.int l4), some (.int l5), some (.int l6), some (.int l7), none]) (st' := [.int l7, .int l4]) rfl ?_
      refine e_icmp_ne 119 rfl rfl (fun hc => ?_) (fun hc => ?_)
      · replace h := h.1 hc
        refine e_drp [true, true, true, true, true, true, false, false, false] (L' := [some (.ref l0), some (.int l1), some (.int l2), some (.int l3), some (.int l4), some (.int l5), none, none, none]) rfl ?_
        exact x_X7_dayAlone_119  h
      · replace h := h.2 hc
        refine e_drp [true, true, true, true, true, true, false, false, false] (L' := [some (.ref l0), some (.int l1), some (.int l2), some (.int l3), some (.int l4), some (.int l5), none, none, none]) rfl ?_
        exact x_X7_dayAlone_115  h
def V_X7_dayAlone_88 (K : Rs → Mm → Prop) (B57 : Mm → Nat → Int32 → Int32 → Int32 → Int32 → Int32 → Int32 → Int32 → Prop) (M : Mm) (l0 : Nat) (l1 : Int32) (l2 : Int32) (l3 : Int32) (l4 : Int32) (l5 : Int32) (l6 : Int32) (l7 : Int32) : Prop := ∀ x1 : Int32, x1 = (l7 + (-1 : Int32)) → B57 M l0 l1 l2 l3 l4 l5 l6 x1
set_option maxRecDepth 100000 in
set_option maxHeartbeats 4000000 in
theorem x_X7_dayAlone_88 {G : Gx} {K : Rs → Mm → Prop} {B57 : Mm → Nat → Int32 → Int32 → Int32 → Int32 → Int32 → Int32 → Int32 → Prop} (hB57 : ∀ M l0 l1 l2 l3 l4 l5 l6 l7, B57 M l0 l1 l2 l3 l4 l5 l6 l7 → E G mi_X7_dayAlone K M 0 0 57 [some (.ref l0), some (.int l1), some (.int l2), some (.int l3), some (.int l4), some (.int l5), some (.int l6), some (.int l7), none] []) {M : Mm} {l0 : Nat} {l1 : Int32} {l2 : Int32} {l3 : Int32} {l4 : Int32} {l5 : Int32} {l6 : Int32} {l7 : Int32} (h : V_X7_dayAlone_88 K B57 M l0 l1 l2 l3 l4 l5 l6 l7) : E G mi_X7_dayAlone K M 0 0 88 [some (.ref l0), some (.int l1), some (.int l2), some (.int l3), some (.int l4), some (.int l5), some (.int l6), some (.int l7), none] [] := by
  unfold V_X7_dayAlone_88 at h
  refine e_blk 2 88 _ _ (pc' := 57) (L' := [some (.ref l0), some (.int l1), some (.int l2), some (.int l3), some (.int l4), some (.int l5), some (.int l6), some (.int (l7 + (-1 : Int32))), none]) (st' := []) rfl ?_
  generalize hx_x1 : ((l7 + (-1 : Int32)) : Int32) = x1
  replace h := h x1 hx_x1.symm
  refine e_drp [true, true, true, true, true, true, true, true, false] (L' := [some (.ref l0), some (.int l1), some (.int l2), some (.int l3), some (.int l4), some (.int l5), some (.int l6), some (.int x1), none]) rfl ?_
  exact hB57 _ _ _ _ _ _ _ _ _ h
def V_X7_dayAlone_57 (K : Rs → Mm → Prop)  : Nat → Mm → Nat → Int32 → Int32 → Int32 → Int32 → Int32 → Int32 → Int32 → Prop
  | 0, _, _, _, _, _, _, _, _, _ => False
  | z + 1, M, l0, l1, l2, l3, l4, l5, l6, l7 => (ob M l0 7 ∧ ∃ b2, mP M l0 36 = some b2 ∧ (ob M b2 11 ∧ (vp_in l1 (mN M b2) ∧ (((mI M b2 (l1).toNatClampNeg) = 0 → V_X7_dayAlone_94 K  M l0 l1 l2 l3 l4 l5 l6 l7) ∧ (¬ (mI M b2 (l1).toNatClampNeg) = 0 → V_X7_weekOf (kI (fun r6 M5 => ((r6 = 0 → V_X7_dayAlone_88 K (fun M l0 l1 l2 l3 l4 l5 l6 l7 => V_X7_dayAlone_57 K  z M l0 l1 l2 l3 l4 l5 l6 l7) M5 l0 l1 l2 l3 l4 l5 l6 l7) ∧ (¬ r6 = 0 → V_X7_weekOf (kI (fun r8 M7 => ((¬ r8 = (6 : Int32) → V_X7_dayAlone_94 K  M7 l0 l1 l2 l3 l4 l5 l6 l7) ∧ (r8 = (6 : Int32) → V_X7_dayAlone_88 K (fun M l0 l1 l2 l3 l4 l5 l6 l7 => V_X7_dayAlone_57 K  z M l0 l1 l2 l3 l4 l5 l6 l7) M7 l0 l1 l2 l3 l4 l5 l6 l7))) (fun _ _ => False)) M5 l2 l3 l7))) (fun _ _ => False)) M l2 l3 l7)))))
set_option maxRecDepth 100000 in
set_option maxHeartbeats 4000000 in
theorem x_X7_dayAlone_57 {G : Gx} {K : Rs → Mm → Prop}  : ∀ (z : Nat) (M : Mm) (l0 : Nat) (l1 : Int32) (l2 : Int32) (l3 : Int32) (l4 : Int32) (l5 : Int32) (l6 : Int32) (l7 : Int32), V_X7_dayAlone_57 K  z M l0 l1 l2 l3 l4 l5 l6 l7 → E G mi_X7_dayAlone K M 0 0 57 [some (.ref l0), some (.int l1), some (.int l2), some (.int l3), some (.int l4), some (.int l5), some (.int l6), some (.int l7), none] []
  | 0, M, l0, l1, l2, l3, l4, l5, l6, l7, h => False.elim h
  | z + 1, M, l0, l1, l2, l3, l4, l5, l6, l7, h => by
    unfold V_X7_dayAlone_57 at h
    refine e_blk 1 57 _ _ (pc' := 58) (L' := [some (.ref l0), some (.int l1), some (.int l2), some (.int l3), some (.int l4), some (.int l5), some (.int l6), some (.int l7), none]) (st' := [.ref l0]) rfl ?_
    obtain ⟨ho1, h⟩ := h
    obtain ⟨b2, hbb2, h⟩ := h
    refine e_getR 7 36 rfl rfl (by decide) (aw (i := 1101) (by decide +kernel) rfl) ho1 rfl hbb2 ?_
    refine e_blk 1 61 _ _ (pc' := 62) (L' := [some (.ref l0), some (.int l1), some (.int l2), some (.int l3), some (.int l4), some (.int l5), some (.int l6), some (.int l7), none]) (st' := [.int l1, .ref b2]) rfl ?_
    obtain ⟨ho3, h⟩ := h
    obtain ⟨hi4, h⟩ := h
    refine e_zald rfl ho3 hi4 ?_
    refine e_if_eq 94 rfl rfl (fun hc => ?_) (fun hc => ?_)
    · replace h := h.1 hc
      refine e_drp [true, true, true, true, true, true, true, true, false] (L' := [some (.ref l0), some (.int l1), some (.int l2), some (.int l3), some (.int l4), some (.int l5), some (.int l6), some (.int l7), none]) rfl ?_
      exact x_X7_dayAlone_94  h
    · replace h := h.2 hc
      refine e_blk 3 66 _ _ (pc' := 70) (L' := [some (.ref l0), some (.int l1), some (.int l2), some (.int l3), some (.int l4), some (.int l5), some (.int l6), some (.int l7), none]) (st' := [.int l7, .int l3, .int l2]) rfl ?_
      refine e_callS (As := [.int l2, .int l3, .int l7]) (rest := []) rfl (x_X7_weekOf h) rfl (aw (i := 1483) (by decide +kernel) rfl) ws_X7_weekOf wi_X7_weekOf wc_X7_weekOf (show cok mi_X7_dayAlone mi_X7_weekOf 0 0 3 = true by decide +kernel) (Nat.le_of_ble_eq_true rfl) (fun v9 M5 hq => ?_) (fun X M9 hq => False.elim hq)
      obtain ⟨r6, rfl, h⟩ := kI_l hq
      refine e_if_eq 88 rfl rfl (fun hc => ?_) (fun hc => ?_)
      · replace h := h.1 hc
        refine e_drp [true, true, true, true, true, true, true, true, false] (L' := [some (.ref l0), some (.int l1), some (.int l2), some (.int l3), some (.int l4), some (.int l5), some (.int l6), some (.int l7), none]) rfl ?_
        exact x_X7_dayAlone_88 (fun M l0 l1 l2 l3 l4 l5 l6 l7 h => x_X7_dayAlone_57  z M l0 l1 l2 l3 l4 l5 l6 l7 h) h
      · replace h := h.2 hc
        refine e_blk 3 76 _ _ (pc' := 80) (L' := [some (.ref l0), some (.int l1), some (.int l2), some (.int l3), some (.int l4), some (.int l5), some (.int l6), some (.int l7), none]) (st' := [.int l7, .int l3, .int l2]) rfl ?_
        refine e_callS (As := [.int l2, .int l3, .int l7]) (rest := []) rfl (x_X7_weekOf h) rfl (aw (i := 1483) (by decide +kernel) rfl) ws_X7_weekOf wi_X7_weekOf wc_X7_weekOf (show cok mi_X7_dayAlone mi_X7_weekOf 0 0 3 = true by decide +kernel) (Nat.le_of_ble_eq_true rfl) (fun v9 M7 hq => ?_) (fun X M9 hq => False.elim hq)
        obtain ⟨r8, rfl, h⟩ := kI_l hq
        refine e_blk 1 83 _ _ (pc' := 85) (L' := [some (.ref l0), some (.int l1), some (.int l2), some (.int l3), some (.int l4), some (.int l5), some (.int l6), some (.int l7), none]) (st' := [.int (6 : Int32), .int r8]) rfl ?_
        refine e_icmp_ne 94 rfl rfl (fun hc => ?_) (fun hc => ?_)
        · replace h := h.1 hc
          refine e_drp [true, true, true, true, true, true, true, true, false] (L' := [some (.ref l0), some (.int l1), some (.int l2), some (.int l3), some (.int l4), some (.int l5), some (.int l6), some (.int l7), none]) rfl ?_
          exact x_X7_dayAlone_94  h
        · replace h := h.2 hc
          refine e_drp [true, true, true, true, true, true, true, true, false] (L' := [some (.ref l0), some (.int l1), some (.int l2), some (.int l3), some (.int l4), some (.int l5), some (.int l6), some (.int l7), none]) rfl ?_
          exact x_X7_dayAlone_88 (fun M l0 l1 l2 l3 l4 l5 l6 l7 h => x_X7_dayAlone_57  z M l0 l1 l2 l3 l4 l5 l6 l7 h) h
def V_X7_dayAlone_51 (K : Rs → Mm → Prop)  (M : Mm) (l0 : Nat) (l1 : Int32) (l2 : Int32) (l3 : Int32) (l4 : Int32) (l5 : Int32) (s0 : Int32) : Prop := ∃ y, V_X7_dayAlone_57 K  y M l0 l1 l2 l3 l4 l5 s0 l5
set_option maxRecDepth 100000 in
set_option maxHeartbeats 4000000 in
theorem x_X7_dayAlone_51 {G : Gx} {K : Rs → Mm → Prop}  {M : Mm} {l0 : Nat} {l1 : Int32} {l2 : Int32} {l3 : Int32} {l4 : Int32} {l5 : Int32} {s0 : Int32} (h : V_X7_dayAlone_51 K  M l0 l1 l2 l3 l4 l5 s0) : E G mi_X7_dayAlone K M 0 0 51 [some (.ref l0), some (.int l1), some (.int l2), some (.int l3), some (.int l4), some (.int l5), none, none, none] [.int s0] := by
  unfold V_X7_dayAlone_51 at h
  refine e_blk 3 51 _ _ (pc' := 57) (L' := [some (.ref l0), some (.int l1), some (.int l2), some (.int l3), some (.int l4), some (.int l5), some (.int s0), some (.int l5), none]) (st' := []) rfl ?_
  refine e_drp [true, true, true, true, true, true, true, true, false] (L' := [some (.ref l0), some (.int l1), some (.int l2), some (.int l3), some (.int l4), some (.int l5), some (.int s0), some (.int l5), none]) rfl ?_
  obtain ⟨y, h⟩ := h
  exact x_X7_dayAlone_57  y _ _ _ _ _ _ _ _ _ h
def V_X7_dayAlone_46 (K : Rs → Mm → Prop)  (M : Mm) (l0 : Nat) (l1 : Int32) (l2 : Int32) (l3 : Int32) (l4 : Int32) (l5 : Int32) : Prop := V_X7_dayAlone_51 K  M l0 l1 l2 l3 l4 l5 (1 : Int32)
set_option maxRecDepth 100000 in
set_option maxHeartbeats 4000000 in
theorem x_X7_dayAlone_46 {G : Gx} {K : Rs → Mm → Prop}  {M : Mm} {l0 : Nat} {l1 : Int32} {l2 : Int32} {l3 : Int32} {l4 : Int32} {l5 : Int32} (h : V_X7_dayAlone_46 K  M l0 l1 l2 l3 l4 l5) : E G mi_X7_dayAlone K M 0 0 46 [some (.ref l0), some (.int l1), some (.int l2), some (.int l3), some (.int l4), some (.int l5), none, none, none] [] := by
  unfold V_X7_dayAlone_46 at h
  refine e_blk 2 46 _ _ (pc' := 51) (L' := [some (.ref l0), some (.int l1), some (.int l2), some (.int l3), some (.int l4), some (.int l5), none, none, none]) (st' := [.int (1 : Int32)]) rfl ?_
  refine e_drp [true, true, true, true, true, true, false, false, false] (L' := [some (.ref l0), some (.int l1), some (.int l2), some (.int l3), some (.int l4), some (.int l5), none, none, none]) rfl ?_
  exact x_X7_dayAlone_51  h
def V_X7_dayAlone (K : Rs → Mm → Prop) (M : Mm) (a0 : Nat) (a1 : Int32) (a2 : Int32) (a3 : Int32) (a4 : Int32) : Prop := V_X7_daysOf (kI (fun r2 M1 => (ob M1 a0 7 ∧ ∃ b4, mP M1 a0 32 = some b4 ∧ (ob M1 b4 10 ∧ (vp_in (((5 : Int32) * a1) + (2 : Int32)) (mN M1 b4) ∧ (((lg_cmp (((mJ M1 b4 ((((5 : Int32) * a1) + (2 : Int32))).toNatClampNeg) >>> ((a4).toInt64 &&& 63)) &&& (1 : Int64)) (1 : Int64)) = 0 → V_X7_dayAlone_46 K  M1 a0 a1 a2 a3 a4 r2) ∧ (¬ (lg_cmp (((mJ M1 b4 ((((5 : Int32) * a1) + (2 : Int32))).toNatClampNeg) >>> ((a4).toInt64 &&& 63)) &&& (1 : Int64)) (1 : Int64)) = 0 → ∃ b7, mP M1 a0 35 = some b7 ∧ (ob M1 b7 10 ∧ (vp_in a1 (mN M1 b7) ∧ ((¬ (lg_cmp (((mJ M1 b7 (a1).toNatClampNeg) >>> (((r2 - a4)).toInt64 &&& 63)) &&& (1 : Int64)) (1 : Int64)) = 0 → V_X7_dayAlone_51 K  M1 a0 a1 a2 a3 a4 r2 (0 : Int32)) ∧ ((lg_cmp (((mJ M1 b7 (a1).toNatClampNeg) >>> (((r2 - a4)).toInt64 &&& 63)) &&& (1 : Int64)) (1 : Int64)) = 0 → V_X7_dayAlone_46 K  M1 a0 a1 a2 a3 a4 r2)))))))))) (fun _ _ => False)) M a2 a3
set_option maxRecDepth 100000 in
set_option maxHeartbeats 4000000 in
theorem x_X7_dayAlone {G : Gx} {K : Rs → Mm → Prop} {M : Mm} {a0 : Nat} {a1 : Int32} {a2 : Int32} {a3 : Int32} {a4 : Int32} (h : V_X7_dayAlone K M a0 a1 a2 a3 a4) : MC G mi_X7_dayAlone [.ref a0, .int a1, .int a2, .int a3, .int a4] M K := by
  unfold V_X7_dayAlone at h
  refine mc_of rfl (by decide +kernel) dc_X7_dayAlone (Nat.le_of_ble_eq_true rfl) 4 (Nat.le_of_ble_eq_true rfl) ?_
  show E G mi_X7_dayAlone K M 0 0 0 [some (.ref a0), some (.int a1), some (.int a2), some (.int a3), some (.int a4), none, none, none, none] []
  refine e_blk 2 0 _ _ (pc' := 2) (L' := [some (.ref a0), some (.int a1), some (.int a2), some (.int a3), some (.int a4), none, none, none, none]) (st' := [.int a3, .int a2]) rfl ?_
  refine e_callS (As := [.int a2, .int a3]) (rest := []) rfl (x_X7_daysOf h) rfl (aw (i := 1293) (by decide +kernel) rfl) ws_X7_daysOf wi_X7_daysOf wc_X7_daysOf (show cok mi_X7_dayAlone mi_X7_daysOf 0 0 2 = true by decide +kernel) (Nat.le_of_ble_eq_true rfl) (fun v9 M1 hq => ?_) (fun X M9 hq => False.elim hq)
  obtain ⟨r2, rfl, h⟩ := kI_l hq
  refine e_blk 2 5 _ _ (pc' := 8) (L' := [some (.ref a0), some (.int a1), some (.int a2), some (.int a3), some (.int a4), some (.int r2), none, none, none]) (st' := [.ref a0]) rfl ?_
  obtain ⟨ho3, h⟩ := h
  obtain ⟨b4, hbb4, h⟩ := h
  refine e_getR 7 32 rfl rfl (by decide) (aw (i := 1097) (by decide +kernel) rfl) ho3 rfl hbb4 ?_
  refine e_blk 5 11 _ _ (pc' := 16) (L' := [some (.ref a0), some (.int a1), some (.int a2), some (.int a3), some (.int a4), some (.int r2), none, none, none]) (st' := [.int (((5 : Int32) * a1) + (2 : Int32)), .ref b4]) rfl ?_
  obtain ⟨ho5, h⟩ := h
  obtain ⟨hi6, h⟩ := h
  refine e_lald rfl ho5 hi6 ?_
  refine e_blk 6 17 _ _ (pc' := 24) (L' := [some (.ref a0), some (.int a1), some (.int a2), some (.int a3), some (.int a4), some (.int r2), none, none, none]) (st' := [.int (lg_cmp (((mJ M1 b4 ((((5 : Int32) * a1) + (2 : Int32))).toNatClampNeg) >>> ((a4).toInt64 &&& 63)) &&& (1 : Int64)) (1 : Int64))]) rfl ?_
  refine e_if_eq 46 rfl rfl (fun hc => ?_) (fun hc => ?_)
  · replace h := h.1 hc
    refine e_drp [true, true, true, true, true, true, false, false, false] (L' := [some (.ref a0), some (.int a1), some (.int a2), some (.int a3), some (.int a4), some (.int r2), none, none, none]) rfl ?_
    exact x_X7_dayAlone_46  h
  · replace h := h.2 hc
    refine e_blk 1 27 _ _ (pc' := 28) (L' := [some (.ref a0), some (.int a1), some (.int a2), some (.int a3), some (.int a4), some (.int r2), none, none, none]) (st' := [.ref a0]) rfl ?_
    obtain ⟨b7, hbb7, h⟩ := h
    refine e_getR 7 35 rfl rfl (by decide) (aw (i := 1100) (by decide +kernel) rfl) ho3 rfl hbb7 ?_
    refine e_blk 1 31 _ _ (pc' := 32) (L' := [some (.ref a0), some (.int a1), some (.int a2), some (.int a3), some (.int a4), some (.int r2), none, none, none]) (st' := [.int a1, .ref b7]) rfl ?_
    obtain ⟨ho8, h⟩ := h
    obtain ⟨hi9, h⟩ := h
    refine e_lald rfl ho8 hi9 ?_
    refine e_blk 8 33 _ _ (pc' := 43) (L' := [some (.ref a0), some (.int a1), some (.int a2), some (.int a3), some (.int a4), some (.int r2), none, none, none]) (st' := [.int (lg_cmp (((mJ M1 b7 (a1).toNatClampNeg) >>> (((r2 - a4)).toInt64 &&& 63)) &&& (1 : Int64)) (1 : Int64))]) rfl ?_
    refine e_if_ne 50 rfl rfl (fun hc => ?_) (fun hc => ?_)
    · replace h := h.1 hc
      refine e_blk 1 50 _ _ (pc' := 51) (L' := [some (.ref a0), some (.int a1), some (.int a2), some (.int a3), some (.int a4), some (.int r2), none, none, none]) (st' := [.int (0 : Int32)]) rfl ?_
      refine e_drp [true, true, true, true, true, true, false, false, false] (L' := [some (.ref a0), some (.int a1), some (.int a2), some (.int a3), some (.int a4), some (.int r2), none, none, none]) rfl ?_
      exact x_X7_dayAlone_51  h
    · replace h := h.2 hc
      refine e_drp [true, true, true, true, true, true, false, false, false] (L' := [some (.ref a0), some (.int a1), some (.int a2), some (.int a3), some (.int a4), some (.int r2), none, none, none]) rfl ?_
      exact x_X7_dayAlone_46  h
def V_X7_weekAlone_91 (K : Rs → Mm → Prop)  (M : Mm) (s0 : Int32) : Prop := ((s0 = 0 ∨ s0 = 1) ∧ K (.inl (some (.int s0))) M)
set_option maxRecDepth 100000 in
set_option maxHeartbeats 4000000 in
theorem x_X7_weekAlone_91 {G : Gx} {K : Rs → Mm → Prop}  {M : Mm} {s0 : Int32} (h : V_X7_weekAlone_91 K  M s0) : E G mi_X7_weekAlone K M 0 0 91 [none, none, none, none, none, none] [.int s0] := by
  unfold V_X7_weekAlone_91 at h
  exact e_retz rfl rfl h.1 (by decide) (by decide) h.2
def V_X7_weekAlone_86 (K : Rs → Mm → Prop)  (M : Mm)  : Prop := V_X7_weekAlone_91 K  M (1 : Int32)
set_option maxRecDepth 100000 in
set_option maxHeartbeats 4000000 in
theorem x_X7_weekAlone_86 {G : Gx} {K : Rs → Mm → Prop}  {M : Mm}  (h : V_X7_weekAlone_86 K  M ) : E G mi_X7_weekAlone K M 0 0 86 [none, none, none, none, none, none] [] := by
  unfold V_X7_weekAlone_86 at h
  refine e_blk 2 86 _ _ (pc' := 91) (L' := [none, none, none, none, none, none]) (st' := [.int (1 : Int32)]) rfl ?_
  refine e_drp [false, false, false, false, false, false] (L' := [none, none, none, none, none, none]) rfl ?_
  exact x_X7_weekAlone_91  h
def V_X7_weekAlone_58 (K : Rs → Mm → Prop)  (M : Mm) (l0 : Nat) (l1 : Int32) (l4 : Int32) (l5 : Int32) : Prop := (ob M l0 7 ∧ ∃ b2, mP M l0 39 = some b2 ∧ (ob M b2 10 ∧ (vp_in l1 (mN M b2) ∧ ((¬ (lg_cmp (((mJ M b2 (l1).toNatClampNeg) >>> (((((6 : Int32) * l5) + ((l4 + (6 : Int32)) / (7 : Int32)))).toInt64 &&& 63)) &&& (1 : Int64)) (1 : Int64)) = 0 → V_X7_weekAlone_91 K  M (0 : Int32)) ∧ ((lg_cmp (((mJ M b2 (l1).toNatClampNeg) >>> (((((6 : Int32) * l5) + ((l4 + (6 : Int32)) / (7 : Int32)))).toInt64 &&& 63)) &&& (1 : Int64)) (1 : Int64)) = 0 → V_X7_weekAlone_86 K  M )))))
set_option maxRecDepth 100000 in
set_option maxHeartbeats 4000000 in
theorem x_X7_weekAlone_58 {G : Gx} {K : Rs → Mm → Prop}  {M : Mm} {l0 : Nat} {l1 : Int32} {l4 : Int32} {l5 : Int32} (h : V_X7_weekAlone_58 K  M l0 l1 l4 l5) : E G mi_X7_weekAlone K M 0 0 58 [some (.ref l0), some (.int l1), none, none, some (.int l4), some (.int l5)] [] := by
  unfold V_X7_weekAlone_58 at h
  refine e_blk 1 58 _ _ (pc' := 59) (L' := [some (.ref l0), some (.int l1), none, none, some (.int l4), some (.int l5)]) (st' := [.ref l0]) rfl ?_
  obtain ⟨ho1, h⟩ := h
  obtain ⟨b2, hbb2, h⟩ := h
  refine e_getR 7 39 rfl rfl (by decide) (aw (i := 1104) (by decide +kernel) rfl) ho1 rfl hbb2 ?_
  refine e_blk 1 62 _ _ (pc' := 63) (L' := [some (.ref l0), some (.int l1), none, none, some (.int l4), some (.int l5)]) (st' := [.int l1, .ref b2]) rfl ?_
  obtain ⟨ho3, h⟩ := h
  obtain ⟨hi4, h⟩ := h
  refine e_lald rfl ho3 hi4 ?_
  refine e_blk 7 64 _ _ (pc' := 76) (L' := [some (.ref l0), some (.int l1), none, none, some (.int l4), some (.int l5)]) (st' := [.int (7 : Int32), .int (l4 + (6 : Int32)), .int ((6 : Int32) * l5), .long (mJ M b2 (l1).toNatClampNeg)]) rfl ?_
  refine e_idiv rfl (by decide) ?_
  refine e_blk 6 77 _ _ (pc' := 83) (L' := [some (.ref l0), some (.int l1), none, none, some (.int l4), some (.int l5)]) (st' := [.int (lg_cmp (((mJ M b2 (l1).toNatClampNeg) >>> (((((6 : Int32) * l5) + ((l4 + (6 : Int32)) / (7 : Int32)))).toInt64 &&& 63)) &&& (1 : Int64)) (1 : Int64))]) rfl ?_
  refine e_if_ne 90 rfl rfl (fun hc => ?_) (fun hc => ?_)
  · replace h := h.1 hc
    refine e_blk 1 90 _ _ (pc' := 91) (L' := [some (.ref l0), some (.int l1), none, none, some (.int l4), some (.int l5)]) (st' := [.int (0 : Int32)]) rfl ?_
    refine e_drp [false, false, false, false, false, false] (L' := [none, none, none, none, none, none]) rfl ?_
    exact x_X7_weekAlone_91  h
  · replace h := h.2 hc
    refine e_drp [false, false, false, false, false, false] (L' := [none, none, none, none, none, none]) rfl ?_
    exact x_X7_weekAlone_86  h
def V_X7_weekAlone (K : Rs → Mm → Prop) (M : Mm) (a0 : Nat) (a1 : Int32) (a2 : Int32) (a3 : Int32) (a4 : Int32) : Prop := V_X7_weekOf (kI (fun r2 M1 => (ob M1 a0 7 ∧ ∃ b4, mP M1 a0 32 = some b4 ∧ (ob M1 b4 10 ∧ (vp_in (((5 : Int32) * a1) + (4 : Int32)) (mN M1 b4) ∧ (((lg_cmp (((mJ M1 b4 ((((5 : Int32) * a1) + (4 : Int32))).toNatClampNeg) >>> ((r2).toInt64 &&& 63)) &&& (1 : Int64)) (1 : Int64)) = 0 → V_X7_weekAlone_86 K  M1 ) ∧ (¬ (lg_cmp (((mJ M1 b4 ((((5 : Int32) * a1) + (4 : Int32))).toNatClampNeg) >>> ((r2).toInt64 &&& 63)) &&& (1 : Int64)) (1 : Int64)) = 0 → ∃ b7, mP M1 a0 38 = some b7 ∧ (ob M1 b7 10 ∧ (vp_in a1 (mN M1 b7) ∧ ((¬ (lg_cmp (((mJ M1 b7 (a1).toNatClampNeg) >>> ((r2).toInt64 &&& 63)) &&& (1 : Int64)) (1 : Int64)) = 0 → V_X7_weekAlone_58 K  M1 a0 a1 a4 r2) ∧ ((lg_cmp (((mJ M1 b7 (a1).toNatClampNeg) >>> ((r2).toInt64 &&& 63)) &&& (1 : Int64)) (1 : Int64)) = 0 → V_X7_daysOf (kI (fun r11 M10 => ((r11 < (a4 + (7 : Int32)) → V_X7_weekAlone_86 K  M10 ) ∧ (¬ r11 < (a4 + (7 : Int32)) → V_X7_weekAlone_58 K  M10 a0 a1 a4 r2))) (fun _ _ => False)) M1 a2 a3)))))))))) (fun _ _ => False)) M a2 a3 a4
set_option maxRecDepth 100000 in
set_option maxHeartbeats 4000000 in
theorem x_X7_weekAlone {G : Gx} {K : Rs → Mm → Prop} {M : Mm} {a0 : Nat} {a1 : Int32} {a2 : Int32} {a3 : Int32} {a4 : Int32} (h : V_X7_weekAlone K M a0 a1 a2 a3 a4) : MC G mi_X7_weekAlone [.ref a0, .int a1, .int a2, .int a3, .int a4] M K := by
  unfold V_X7_weekAlone at h
  refine mc_of rfl (by decide +kernel) dc_X7_weekAlone (Nat.le_of_ble_eq_true rfl) 1 (Nat.le_of_ble_eq_true rfl) ?_
  show E G mi_X7_weekAlone K M 0 0 0 [some (.ref a0), some (.int a1), some (.int a2), some (.int a3), some (.int a4), none] []
  refine e_blk 3 0 _ _ (pc' := 4) (L' := [some (.ref a0), some (.int a1), some (.int a2), some (.int a3), some (.int a4), none]) (st' := [.int a4, .int a3, .int a2]) rfl ?_
  refine e_callS (As := [.int a2, .int a3, .int a4]) (rest := []) rfl (x_X7_weekOf h) rfl (aw (i := 1483) (by decide +kernel) rfl) ws_X7_weekOf wi_X7_weekOf wc_X7_weekOf (show cok mi_X7_weekAlone mi_X7_weekOf 0 0 3 = true by decide +kernel) (Nat.le_of_ble_eq_true rfl) (fun v9 M1 hq => ?_) (fun X M9 hq => False.elim hq)
  obtain ⟨r2, rfl, h⟩ := kI_l hq
  refine e_blk 2 7 _ _ (pc' := 10) (L' := [some (.ref a0), some (.int a1), some (.int a2), some (.int a3), some (.int a4), some (.int r2)]) (st' := [.ref a0]) rfl ?_
  obtain ⟨ho3, h⟩ := h
  obtain ⟨b4, hbb4, h⟩ := h
  refine e_getR 7 32 rfl rfl (by decide) (aw (i := 1097) (by decide +kernel) rfl) ho3 rfl hbb4 ?_
  refine e_blk 5 13 _ _ (pc' := 18) (L' := [some (.ref a0), some (.int a1), some (.int a2), some (.int a3), some (.int a4), some (.int r2)]) (st' := [.int (((5 : Int32) * a1) + (4 : Int32)), .ref b4]) rfl ?_
  obtain ⟨ho5, h⟩ := h
  obtain ⟨hi6, h⟩ := h
  refine e_lald rfl ho5 hi6 ?_
  refine e_blk 6 19 _ _ (pc' := 26) (L' := [some (.ref a0), some (.int a1), some (.int a2), some (.int a3), some (.int a4), some (.int r2)]) (st' := [.int (lg_cmp (((mJ M1 b4 ((((5 : Int32) * a1) + (4 : Int32))).toNatClampNeg) >>> ((r2).toInt64 &&& 63)) &&& (1 : Int64)) (1 : Int64))]) rfl ?_
  refine e_if_eq 86 rfl rfl (fun hc => ?_) (fun hc => ?_)
  · replace h := h.1 hc
    refine e_drp [false, false, false, false, false, false] (L' := [none, none, none, none, none, none]) rfl ?_
    exact x_X7_weekAlone_86  h
  · replace h := h.2 hc
    refine e_blk 1 29 _ _ (pc' := 30) (L' := [some (.ref a0), some (.int a1), some (.int a2), some (.int a3), some (.int a4), some (.int r2)]) (st' := [.ref a0]) rfl ?_
    obtain ⟨b7, hbb7, h⟩ := h
    refine e_getR 7 38 rfl rfl (by decide) (aw (i := 1103) (by decide +kernel) rfl) ho3 rfl hbb7 ?_
    refine e_blk 1 33 _ _ (pc' := 34) (L' := [some (.ref a0), some (.int a1), some (.int a2), some (.int a3), some (.int a4), some (.int r2)]) (st' := [.int a1, .ref b7]) rfl ?_
    obtain ⟨ho8, h⟩ := h
    obtain ⟨hi9, h⟩ := h
    refine e_lald rfl ho8 hi9 ?_
    refine e_blk 6 35 _ _ (pc' := 42) (L' := [some (.ref a0), some (.int a1), some (.int a2), some (.int a3), some (.int a4), some (.int r2)]) (st' := [.int (lg_cmp (((mJ M1 b7 (a1).toNatClampNeg) >>> ((r2).toInt64 &&& 63)) &&& (1 : Int64)) (1 : Int64))]) rfl ?_
    refine e_if_ne 58 rfl rfl (fun hc => ?_) (fun hc => ?_)
    · replace h := h.1 hc
      refine e_drp [true, true, false, false, true, true] (L' := [some (.ref a0), some (.int a1), none, none, some (.int a4), some (.int r2)]) rfl ?_
      exact x_X7_weekAlone_58  h
    · replace h := h.2 hc
      refine e_blk 5 45 _ _ (pc' := 52) (L' := [some (.ref a0), some (.int a1), some (.int a2), some (.int a3), some (.int a4), some (.int r2)]) (st' := [.int a3, .int a2, .int (a4 + (7 : Int32))]) rfl ?_
      refine e_callS (As := [.int a2, .int a3]) (rest := [.int (a4 + (7 : Int32))]) rfl (x_X7_daysOf h) rfl (aw (i := 1293) (by decide +kernel) rfl) ws_X7_daysOf wi_X7_daysOf wc_X7_daysOf (show cok mi_X7_weekAlone mi_X7_daysOf 0 0 2 = true by decide +kernel) (Nat.le_of_ble_eq_true rfl) (fun v9 M10 hq => ?_) (fun X M9 hq => False.elim hq)
      obtain ⟨r11, rfl, h⟩ := kI_l hq
      refine e_icmp_gt 86 rfl rfl (fun hc => ?_) (fun hc => ?_)
      · replace h := h.1 hc
        refine e_drp [false, false, false, false, false, false] (L' := [none, none, none, none, none, none]) rfl ?_
        exact x_X7_weekAlone_86  h
      · replace h := h.2 hc
        refine e_drp [true, true, false, false, true, true] (L' := [some (.ref a0), some (.int a1), none, none, some (.int a4), some (.int r2)]) rfl ?_
        exact x_X7_weekAlone_58  h
def V_X7_bothDay_73 (K : Rs → Mm → Prop)  (M : Mm) (s0 : Int32) : Prop := ((s0 = 0 ∨ s0 = 1) ∧ K (.inl (some (.int s0))) M)
set_option maxRecDepth 100000 in
set_option maxHeartbeats 4000000 in
theorem x_X7_bothDay_73 {G : Gx} {K : Rs → Mm → Prop}  {M : Mm} {s0 : Int32} (h : V_X7_bothDay_73 K  M s0) : E G mi_X7_bothDay K M 0 0 73 [none, none, none, none, none, none, none] [.int s0] := by
  unfold V_X7_bothDay_73 at h
  exact e_retz rfl rfl h.1 (by decide) (by decide) h.2
def V_X7_bothDay_68 (K : Rs → Mm → Prop)  (M : Mm)  : Prop := V_X7_bothDay_73 K  M (1 : Int32)
set_option maxRecDepth 100000 in
set_option maxHeartbeats 4000000 in
theorem x_X7_bothDay_68 {G : Gx} {K : Rs → Mm → Prop}  {M : Mm}  (h : V_X7_bothDay_68 K  M ) : E G mi_X7_bothDay K M 0 0 68 [none, none, none, none, none, none, none] [] := by
  unfold V_X7_bothDay_68 at h
  refine e_blk 2 68 _ _ (pc' := 73) (L' := [none, none, none, none, none, none, none]) (st' := [.int (1 : Int32)]) rfl ?_
  refine e_drp [false, false, false, false, false, false, false] (L' := [none, none, none, none, none, none, none]) rfl ?_
  exact x_X7_bothDay_73  h
def V_X7_bothDay_54 (K : Rs → Mm → Prop)  (M : Mm)  : Prop := V_X7_bothDay_73 K  M (0 : Int32)
set_option maxRecDepth 100000 in
set_option maxHeartbeats 4000000 in
theorem x_X7_bothDay_54 {G : Gx} {K : Rs → Mm → Prop}  {M : Mm}  (h : V_X7_bothDay_54 K  M ) : E G mi_X7_bothDay K M 0 0 54 [none, none, none, none, none, none, none] [] := by
  unfold V_X7_bothDay_54 at h
  refine e_blk 2 54 _ _ (pc' := 73) (L' := [none, none, none, none, none, none, none]) (st' := [.int (0 : Int32)]) rfl ?_
  refine e_drp [false, false, false, false, false, false, false] (L' := [none, none, none, none, none, none, none]) rfl ?_
  exact x_X7_bothDay_73  h
def V_X7_bothDay_40 (K : Rs → Mm → Prop)  (M : Mm) (l5 : Int32) (l6 : Int32) : Prop := ((l5 = 0 → V_X7_bothDay_54 K  M ) ∧ (¬ l5 = 0 → ((l6 = 0 → V_X7_bothDay_54 K  M ) ∧ (¬ l6 = 0 → V_X7_bothDay_73 K  M (1 : Int32)))))
set_option maxRecDepth 100000 in
set_option maxHeartbeats 4000000 in
theorem x_X7_bothDay_40 {G : Gx} {K : Rs → Mm → Prop}  {M : Mm} {l5 : Int32} {l6 : Int32} (h : V_X7_bothDay_40 K  M l5 l6) : E G mi_X7_bothDay K M 0 0 40 [none, none, none, none, none, some (.int l5), some (.int l6)] [] := by
  unfold V_X7_bothDay_40 at h
  refine e_blk 1 40 _ _ (pc' := 42) (L' := [none, none, none, none, none, some (.int l5), some (.int l6)]) (st' := [.int l5]) rfl ?_
  refine e_if_eq 54 rfl rfl (fun hc => ?_) (fun hc => ?_)
  · replace h := h.1 hc
    refine e_drp [false, false, false, false, false, false, false] (L' := [none, none, none, none, none, none, none]) rfl ?_
    exact x_X7_bothDay_54  h
  · replace h := h.2 hc
    refine e_blk 1 45 _ _ (pc' := 47) (L' := [none, none, none, none, none, some (.int l5), some (.int l6)]) (st' := [.int l6]) rfl ?_
    refine e_if_eq 54 rfl rfl (fun hc => ?_) (fun hc => ?_)
    · replace h := h.1 hc
      refine e_drp [false, false, false, false, false, false, false] (L' := [none, none, none, none, none, none, none]) rfl ?_
      exact x_X7_bothDay_54  h
    · replace h := h.2 hc
      refine e_blk 2 50 _ _ (pc' := 73) (L' := [none, none, none, none, none, some (.int l5), some (.int l6)]) (st' := [.int (1 : Int32)]) rfl ?_
      refine e_drp [false, false, false, false, false, false, false] (L' := [none, none, none, none, none, none, none]) rfl ?_
      exact x_X7_bothDay_73  h
def V_X7_bothDay (K : Rs → Mm → Prop) (M : Mm) (a0 : Nat) (a1 : Int32) (a2 : Int32) (a3 : Int32) (a4 : Int32) : Prop := (ob M a0 7 ∧ V_X7_dayAlone (kI (fun r3 M2 => (ob M2 a0 7 ∧ V_X7_weekAlone (kI (fun r6 M5 => (ob M5 a0 7 ∧ ∃ b8, mP M5 a0 40 = some b8 ∧ (ob M5 b8 11 ∧ (vp_in a1 (mN M5 b8) ∧ ((¬ (mI M5 b8 (a1).toNatClampNeg) = 0 → V_X7_bothDay_40 K  M5 r3 r6) ∧ ((mI M5 b8 (a1).toNatClampNeg) = 0 → ∃ b11, mP M5 a0 41 = some b11 ∧ (ob M5 b11 11 ∧ (vp_in a1 (mN M5 b11) ∧ (((mI M5 b11 (a1).toNatClampNeg) = 0 → ((¬ r3 = 0 → V_X7_bothDay_68 K  M5 ) ∧ (r3 = 0 → ((r6 = 0 → V_X7_bothDay_73 K  M5 (0 : Int32)) ∧ (¬ r6 = 0 → V_X7_bothDay_68 K  M5 ))))) ∧ (¬ (mI M5 b11 (a1).toNatClampNeg) = 0 → V_X7_bothDay_40 K  M5 r3 r6)))))))))) (fun _ _ => False)) M2 a0 a1 a2 a3 a4)) (fun _ _ => False)) M a0 a1 a2 a3 a4)
set_option maxRecDepth 100000 in
set_option maxHeartbeats 4000000 in
theorem x_X7_bothDay {G : Gx} {K : Rs → Mm → Prop} {M : Mm} {a0 : Nat} {a1 : Int32} {a2 : Int32} {a3 : Int32} {a4 : Int32} (h : V_X7_bothDay K M a0 a1 a2 a3 a4) : MC G mi_X7_bothDay [.ref a0, .int a1, .int a2, .int a3, .int a4] M K := by
  unfold V_X7_bothDay at h
  refine mc_of rfl (by decide +kernel) dc_X7_bothDay (Nat.le_of_ble_eq_true rfl) 2 (Nat.le_of_ble_eq_true rfl) ?_
  show E G mi_X7_bothDay K M 0 0 0 [some (.ref a0), some (.int a1), some (.int a2), some (.int a3), some (.int a4), none, none] []
  refine e_blk 5 0 _ _ (pc' := 6) (L' := [some (.ref a0), some (.int a1), some (.int a2), some (.int a3), some (.int a4), none, none]) (st' := [.int a4, .int a3, .int a2, .int a1, .ref a0]) rfl ?_
  obtain ⟨ho1, h⟩ := h
  refine e_callV (As := [.int a1, .int a2, .int a3, .int a4]) (rest := []) (ci := 7) rfl (x_X7_dayAlone h) ho1 rfl rfl rfl (aw (i := 1479) (by decide +kernel) rfl) wn_X7_dayAlone wv_X7_dayAlone wi_X7_dayAlone wc_X7_dayAlone (show cok mi_X7_bothDay mi_X7_dayAlone 0 0 4 = true by decide +kernel) (Nat.le_of_ble_eq_true rfl) (fun v9 M2 hq => ?_) (fun X M9 hq => False.elim hq)
  obtain ⟨r3, rfl, h⟩ := kI_l hq
  refine e_blk 6 9 _ _ (pc' := 17) (L' := [some (.ref a0), some (.int a1), some (.int a2), some (.int a3), some (.int a4), some (.int r3), none]) (st' := [.int a4, .int a3, .int a2, .int a1, .ref a0]) rfl ?_
  obtain ⟨ho4, h⟩ := h
  refine e_callV (As := [.int a1, .int a2, .int a3, .int a4]) (rest := []) (ci := 7) rfl (x_X7_weekAlone h) ho4 rfl rfl rfl (aw (i := 1489) (by decide +kernel) rfl) wn_X7_weekAlone wv_X7_weekAlone wi_X7_weekAlone wc_X7_weekAlone (show cok mi_X7_bothDay mi_X7_weekAlone 0 0 4 = true by decide +kernel) (Nat.le_of_ble_eq_true rfl) (fun v9 M5 hq => ?_) (fun X M9 hq => False.elim hq)
  obtain ⟨r6, rfl, h⟩ := kI_l hq
  refine e_blk 2 20 _ _ (pc' := 23) (L' := [some (.ref a0), some (.int a1), some (.int a2), some (.int a3), some (.int a4), some (.int r3), some (.int r6)]) (st' := [.ref a0]) rfl ?_
  obtain ⟨ho7, h⟩ := h
  obtain ⟨b8, hbb8, h⟩ := h
  refine e_getR 7 40 rfl rfl (by decide) (aw (i := 1105) (by decide +kernel) rfl) ho7 rfl hbb8 ?_
  refine e_blk 1 26 _ _ (pc' := 27) (L' := [some (.ref a0), some (.int a1), some (.int a2), some (.int a3), some (.int a4), some (.int r3), some (.int r6)]) (st' := [.int a1, .ref b8]) rfl ?_
  obtain ⟨ho9, h⟩ := h
  obtain ⟨hi10, h⟩ := h
  refine e_zald rfl ho9 hi10 ?_
  refine e_if_ne 40 rfl rfl (fun hc => ?_) (fun hc => ?_)
  · replace h := h.1 hc
    refine e_drp [false, false, false, false, false, true, true] (L' := [none, none, none, none, none, some (.int r3), some (.int r6)]) rfl ?_
    exact x_X7_bothDay_40  h
  · replace h := h.2 hc
    refine e_blk 1 31 _ _ (pc' := 32) (L' := [some (.ref a0), some (.int a1), some (.int a2), some (.int a3), some (.int a4), some (.int r3), some (.int r6)]) (st' := [.ref a0]) rfl ?_
    obtain ⟨b11, hbb11, h⟩ := h
    refine e_getR 7 41 rfl rfl (by decide) (aw (i := 1106) (by decide +kernel) rfl) ho7 rfl hbb11 ?_
    refine e_blk 1 35 _ _ (pc' := 36) (L' := [some (.ref a0), some (.int a1), some (.int a2), some (.int a3), some (.int a4), some (.int r3), some (.int r6)]) (st' := [.int a1, .ref b11]) rfl ?_
    obtain ⟨ho12, h⟩ := h
    obtain ⟨hi13, h⟩ := h
    refine e_zald rfl ho12 hi13 ?_
    refine e_if_eq 58 rfl rfl (fun hc => ?_) (fun hc => ?_)
    · replace h := h.1 hc
      refine e_blk 1 58 _ _ (pc' := 60) (L' := [some (.ref a0), some (.int a1), some (.int a2), some (.int a3), some (.int a4), some (.int r3), some (.int r6)]) (st' := [.int r3]) rfl ?_
      refine e_if_ne 68 rfl rfl (fun hc => ?_) (fun hc => ?_)
      · replace h := h.1 hc
        refine e_drp [false, false, false, false, false, false, false] (L' := [none, none, none, none, none, none, none]) rfl ?_
        exact x_X7_bothDay_68  h
      · replace h := h.2 hc
        refine e_blk 1 63 _ _ (pc' := 65) (L' := [some (.ref a0), some (.int a1), some (.int a2), some (.int a3), some (.int a4), some (.int r3), some (.int r6)]) (st' := [.int r6]) rfl ?_
        refine e_if_eq 72 rfl rfl (fun hc => ?_) (fun hc => ?_)
        · replace h := h.1 hc
          refine e_blk 1 72 _ _ (pc' := 73) (L' := [some (.ref a0), some (.int a1), some (.int a2), some (.int a3), some (.int a4), some (.int r3), some (.int r6)]) (st' := [.int (0 : Int32)]) rfl ?_
          refine e_drp [false, false, false, false, false, false, false] (L' := [none, none, none, none, none, none, none]) rfl ?_
          exact x_X7_bothDay_73  h
        · replace h := h.2 hc
          refine e_drp [false, false, false, false, false, false, false] (L' := [none, none, none, none, none, none, none]) rfl ?_
          exact x_X7_bothDay_68  h
    · replace h := h.2 hc
      refine e_drp [false, false, false, false, false, true, true] (L' := [none, none, none, none, none, some (.int r3), some (.int r6)]) rfl ?_
      exact x_X7_bothDay_40  h
def V_X7_whole_90 (K : Rs → Mm → Prop)  (M : Mm) (s0 : Int32) : Prop := ((s0 = 0 ∨ s0 = 1) ∧ K (.inl (some (.int s0))) M)
set_option maxRecDepth 100000 in
set_option maxHeartbeats 4000000 in
theorem x_X7_whole_90 {G : Gx} {K : Rs → Mm → Prop}  {M : Mm} {s0 : Int32} (h : V_X7_whole_90 K  M s0) : E G mi_X7_whole K M 0 0 90 [none, none, none, none, none, none] [.int s0] := by
  unfold V_X7_whole_90 at h
  exact e_retz rfl rfl h.1 (by decide) (by decide) h.2
def V_X7_whole_89 (K : Rs → Mm → Prop)  (M : Mm)  : Prop := V_X7_whole_90 K  M (0 : Int32)
set_option maxRecDepth 100000 in
set_option maxHeartbeats 4000000 in
theorem x_X7_whole_89 {G : Gx} {K : Rs → Mm → Prop}  {M : Mm}  (h : V_X7_whole_89 K  M ) : E G mi_X7_whole K M 0 0 89 [none, none, none, none, none, none] [] := by
  unfold V_X7_whole_89 at h
  refine e_blk 1 89 _ _ (pc' := 90) (L' := [none, none, none, none, none, none]) (st' := [.int (0 : Int32)]) rfl ?_
  refine e_drp [false, false, false, false, false, false] (L' := [none, none, none, none, none, none]) rfl ?_
  exact x_X7_whole_90  h
def V_X7_whole_47 (K : Rs → Mm → Prop)  (M : Mm) (l0 : Nat) (l1 : Int32) (l2 : Int32) (l3 : Int32) (l4 : Int32) (s0 : Int32) : Prop := ((s0 = 0 → V_X7_whole_89 K  M ) ∧ (¬ s0 = 0 → (ob M l0 7 ∧ ∃ b2, mP M l0 32 = some b2 ∧ (ob M b2 10 ∧ (vp_in (((5 : Int32) * l1) + (3 : Int32)) (mN M b2) ∧ ((¬ (lg_cmp (((mJ M b2 ((((5 : Int32) * l1) + (3 : Int32))).toNatClampNeg) >>> ((l3).toInt64 &&& 63)) &&& (1 : Int64)) (1 : Int64)) = 0 → V_X7_whole_89 K  M ) ∧ ((lg_cmp (((mJ M b2 ((((5 : Int32) * l1) + (3 : Int32))).toNatClampNeg) >>> ((l3).toInt64 &&& 63)) &&& (1 : Int64)) (1 : Int64)) = 0 → V_X7_bothDay (kI (fun r6 M5 => ((r6 = 0 → V_X7_whole_89 K  M5 ) ∧ (¬ r6 = 0 → V_X7_whole_90 K  M5 (1 : Int32)))) (fun _ _ => False)) M l0 l1 l2 l3 l4)))))))
set_option maxRecDepth 100000 in
set_option maxHeartbeats 4000000 in
theorem x_X7_whole_47 {G : Gx} {K : Rs → Mm → Prop}  {M : Mm} {l0 : Nat} {l1 : Int32} {l2 : Int32} {l3 : Int32} {l4 : Int32} {s0 : Int32} (h : V_X7_whole_47 K  M l0 l1 l2 l3 l4 s0) : E G mi_X7_whole K M 0 0 47 [some (.ref l0), some (.int l1), some (.int l2), some (.int l3), some (.int l4), none] [.int s0] := by
  unfold V_X7_whole_47 at h
  refine e_blk 2 47 _ _ (pc' := 51) (L' := [some (.ref l0), some (.int l1), some (.int l2), some (.int l3), some (.int l4), some (.int s0)]) (st' := [.int s0]) rfl ?_
  refine e_if_eq 89 rfl rfl (fun hc => ?_) (fun hc => ?_)
  · replace h := h.1 hc
    refine e_drp [false, false, false, false, false, false] (L' := [none, none, none, none, none, none]) rfl ?_
    exact x_X7_whole_89  h
  · replace h := h.2 hc
    refine e_blk 1 54 _ _ (pc' := 55) (L' := [some (.ref l0), some (.int l1), some (.int l2), some (.int l3), some (.int l4), some (.int s0)]) (st' := [.ref l0]) rfl ?_
    obtain ⟨ho1, h⟩ := h
    obtain ⟨b2, hbb2, h⟩ := h
    refine e_getR 7 32 rfl rfl (by decide) (aw (i := 1097) (by decide +kernel) rfl) ho1 rfl hbb2 ?_
    refine e_blk 5 58 _ _ (pc' := 63) (L' := [some (.ref l0), some (.int l1), some (.int l2), some (.int l3), some (.int l4), some (.int s0)]) (st' := [.int (((5 : Int32) * l1) + (3 : Int32)), .ref b2]) rfl ?_
    obtain ⟨ho3, h⟩ := h
    obtain ⟨hi4, h⟩ := h
    refine e_lald rfl ho3 hi4 ?_
    refine e_blk 6 64 _ _ (pc' := 70) (L' := [some (.ref l0), some (.int l1), some (.int l2), some (.int l3), some (.int l4), some (.int s0)]) (st' := [.int (lg_cmp (((mJ M b2 ((((5 : Int32) * l1) + (3 : Int32))).toNatClampNeg) >>> ((l3).toInt64 &&& 63)) &&& (1 : Int64)) (1 : Int64))]) rfl ?_
    refine e_if_ne 89 rfl rfl (fun hc => ?_) (fun hc => ?_)
    · replace h := h.1 hc
      refine e_drp [false, false, false, false, false, false] (L' := [none, none, none, none, none, none]) rfl ?_
      exact x_X7_whole_89  h
    · replace h := h.2 hc
      refine e_blk 5 73 _ _ (pc' := 79) (L' := [some (.ref l0), some (.int l1), some (.int l2), some (.int l3), some (.int l4), some (.int s0)]) (st' := [.int l4, .int l3, .int l2, .int l1, .ref l0]) rfl ?_
      refine e_callV (As := [.int l1, .int l2, .int l3, .int l4]) (rest := []) (ci := 7) rfl (x_X7_bothDay h) ho1 rfl rfl rfl (aw (i := 1493) (by decide +kernel) rfl) wn_X7_bothDay wv_X7_bothDay wi_X7_bothDay wc_X7_bothDay (show cok mi_X7_whole mi_X7_bothDay 0 0 4 = true by decide +kernel) (Nat.le_of_ble_eq_true rfl) (fun v9 M5 hq => ?_) (fun X M9 hq => False.elim hq)
      obtain ⟨r6, rfl, h⟩ := kI_l hq
      refine e_if_eq 89 rfl rfl (fun hc => ?_) (fun hc => ?_)
      · replace h := h.1 hc
        refine e_drp [false, false, false, false, false, false] (L' := [none, none, none, none, none, none]) rfl ?_
        exact x_X7_whole_89  h
      · replace h := h.2 hc
        refine e_blk 2 85 _ _ (pc' := 90) (L' := [some (.ref l0), some (.int l1), some (.int l2), some (.int l3), some (.int l4), some (.int s0)]) (st' := [.int (1 : Int32)]) rfl ?_
        refine e_drp [false, false, false, false, false, false] (L' := [none, none, none, none, none, none]) rfl ?_
        exact x_X7_whole_90  h
def V_X7_whole_46 (K : Rs → Mm → Prop)  (M : Mm) (l0 : Nat) (l1 : Int32) (l2 : Int32) (l3 : Int32) (l4 : Int32) : Prop := V_X7_whole_47 K  M l0 l1 l2 l3 l4 (0 : Int32)
set_option maxRecDepth 100000 in
set_option maxHeartbeats 4000000 in
theorem x_X7_whole_46 {G : Gx} {K : Rs → Mm → Prop}  {M : Mm} {l0 : Nat} {l1 : Int32} {l2 : Int32} {l3 : Int32} {l4 : Int32} (h : V_X7_whole_46 K  M l0 l1 l2 l3 l4) : E G mi_X7_whole K M 0 0 46 [some (.ref l0), some (.int l1), some (.int l2), some (.int l3), some (.int l4), none] [] := by
  unfold V_X7_whole_46 at h
  refine e_blk 1 46 _ _ (pc' := 47) (L' := [some (.ref l0), some (.int l1), some (.int l2), some (.int l3), some (.int l4), none]) (st' := [.int (0 : Int32)]) rfl ?_
  refine e_drp [true, true, true, true, true, false] (L' := [some (.ref l0), some (.int l1), some (.int l2), some (.int l3), some (.int l4), none]) rfl ?_
  exact x_X7_whole_47  h
def V_X7_whole_42 (K : Rs → Mm → Prop)  (M : Mm) (l0 : Nat) (l1 : Int32) (l2 : Int32) (l3 : Int32) (l4 : Int32) : Prop := V_X7_whole_47 K  M l0 l1 l2 l3 l4 (1 : Int32)
set_option maxRecDepth 100000 in
set_option maxHeartbeats 4000000 in
theorem x_X7_whole_42 {G : Gx} {K : Rs → Mm → Prop}  {M : Mm} {l0 : Nat} {l1 : Int32} {l2 : Int32} {l3 : Int32} {l4 : Int32} (h : V_X7_whole_42 K  M l0 l1 l2 l3 l4) : E G mi_X7_whole K M 0 0 42 [some (.ref l0), some (.int l1), some (.int l2), some (.int l3), some (.int l4), none] [] := by
  unfold V_X7_whole_42 at h
  refine e_blk 2 42 _ _ (pc' := 47) (L' := [some (.ref l0), some (.int l1), some (.int l2), some (.int l3), some (.int l4), none]) (st' := [.int (1 : Int32)]) rfl ?_
  refine e_drp [true, true, true, true, true, false] (L' := [some (.ref l0), some (.int l1), some (.int l2), some (.int l3), some (.int l4), none]) rfl ?_
  exact x_X7_whole_47  h
def V_X7_whole (K : Rs → Mm → Prop) (M : Mm) (a0 : Nat) (a1 : Int32) (a2 : Int32) (a3 : Int32) (a4 : Int32) : Prop := (ob M a0 7 ∧ ∃ b2, mP M a0 34 = some b2 ∧ (ob M b2 11 ∧ (vp_in a1 (mN M b2) ∧ ((¬ (mI M b2 (a1).toNatClampNeg) = 0 → V_X7_whole_42 K  M a0 a1 a2 a3 a4) ∧ ((mI M b2 (a1).toNatClampNeg) = 0 → V_X7_in (kI (fun r6 M5 => ((r6 = 0 → V_X7_whole_46 K  M5 a0 a1 a2 a3 a4) ∧ (¬ r6 = 0 → (ob M5 a0 7 ∧ ∃ b8, mP M5 a0 33 = some b8 ∧ (ob M5 b8 11 ∧ (vp_in ((((300 : Int32) * a1) + a2) - (1900 : Int32)) (mN M5 b8) ∧ (((mI M5 b8 (((((300 : Int32) * a1) + a2) - (1900 : Int32))).toNatClampNeg) = 0 → V_X7_whole_46 K  M5 a0 a1 a2 a3 a4) ∧ (¬ (mI M5 b8 (((((300 : Int32) * a1) + a2) - (1900 : Int32))).toNatClampNeg) = 0 → V_X7_whole_42 K  M5 a0 a1 a2 a3 a4)))))))) (fun _ _ => False)) M ((a2).toInt64) (1900 : Int64) (2199 : Int64))))))
set_option maxRecDepth 100000 in
set_option maxHeartbeats 4000000 in
theorem x_X7_whole {G : Gx} {K : Rs → Mm → Prop} {M : Mm} {a0 : Nat} {a1 : Int32} {a2 : Int32} {a3 : Int32} {a4 : Int32} (h : V_X7_whole K M a0 a1 a2 a3 a4) : MC G mi_X7_whole [.ref a0, .int a1, .int a2, .int a3, .int a4] M K := by
  unfold V_X7_whole at h
  refine mc_of rfl (by decide +kernel) dc_X7_whole (Nat.le_of_ble_eq_true rfl) 1 (Nat.le_of_ble_eq_true rfl) ?_
  show E G mi_X7_whole K M 0 0 0 [some (.ref a0), some (.int a1), some (.int a2), some (.int a3), some (.int a4), none] []
  refine e_blk 1 0 _ _ (pc' := 1) (L' := [some (.ref a0), some (.int a1), some (.int a2), some (.int a3), some (.int a4), none]) (st' := [.ref a0]) rfl ?_
  obtain ⟨ho1, h⟩ := h
  obtain ⟨b2, hbb2, h⟩ := h
  refine e_getR 7 34 rfl rfl (by decide) (aw (i := 1099) (by decide +kernel) rfl) ho1 rfl hbb2 ?_
  refine e_blk 1 4 _ _ (pc' := 5) (L' := [some (.ref a0), some (.int a1), some (.int a2), some (.int a3), some (.int a4), none]) (st' := [.int a1, .ref b2]) rfl ?_
  obtain ⟨ho3, h⟩ := h
  obtain ⟨hi4, h⟩ := h
  refine e_zald rfl ho3 hi4 ?_
  refine e_if_ne 42 rfl rfl (fun hc => ?_) (fun hc => ?_)
  · replace h := h.1 hc
    refine e_drp [true, true, true, true, true, false] (L' := [some (.ref a0), some (.int a1), some (.int a2), some (.int a3), some (.int a4), none]) rfl ?_
    exact x_X7_whole_42  h
  · replace h := h.2 hc
    refine e_blk 2 9 _ _ (pc' := 11) (L' := [some (.ref a0), some (.int a1), some (.int a2), some (.int a3), some (.int a4), none]) (st' := [.long ((a2).toInt64)]) rfl ?_
    refine e_ldc2 (1900) rfl (aw (i := 1501) (by decide +kernel) rfl) ?_
    refine e_ldc2 (2199) rfl (aw (i := 1502) (by decide +kernel) rfl) ?_
    refine e_callS (As := [.long ((a2).toInt64), .long (1900 : Int64), .long (2199 : Int64)]) (rest := []) rfl (x_X7_in h) rfl (aw (i := 1256) (by decide +kernel) rfl) ws_X7_in wi_X7_in wc_X7_in (show cok mi_X7_whole mi_X7_in 0 0 3 = true by decide +kernel) (Nat.le_of_ble_eq_true rfl) (fun v9 M5 hq => ?_) (fun X M9 hq => False.elim hq)
    obtain ⟨r6, rfl, h⟩ := kI_l hq
    refine e_if_eq 46 rfl rfl (fun hc => ?_) (fun hc => ?_)
    · replace h := h.1 hc
      refine e_drp [true, true, true, true, true, false] (L' := [some (.ref a0), some (.int a1), some (.int a2), some (.int a3), some (.int a4), none]) rfl ?_
      exact x_X7_whole_46  h
    · replace h := h.2 hc
      refine e_blk 1 23 _ _ (pc' := 24) (L' := [some (.ref a0), some (.int a1), some (.int a2), some (.int a3), some (.int a4), none]) (st' := [.ref a0]) rfl ?_
      obtain ⟨ho7, h⟩ := h
      obtain ⟨b8, hbb8, h⟩ := h
      refine e_getR 7 33 rfl rfl (by decide) (aw (i := 1098) (by decide +kernel) rfl) ho7 rfl hbb8 ?_
      refine e_blk 7 27 _ _ (pc' := 38) (L' := [some (.ref a0), some (.int a1), some (.int a2), some (.int a3), some (.int a4), none]) (st' := [.int ((((300 : Int32) * a1) + a2) - (1900 : Int32)), .ref b8]) rfl ?_
      obtain ⟨ho9, h⟩ := h
      obtain ⟨hi10, h⟩ := h
      refine e_zald rfl ho9 hi10 ?_
      refine e_if_eq 46 rfl rfl (fun hc => ?_) (fun hc => ?_)
      · replace h := h.1 hc
        refine e_drp [true, true, true, true, true, false] (L' := [some (.ref a0), some (.int a1), some (.int a2), some (.int a3), some (.int a4), none]) rfl ?_
        exact x_X7_whole_46  h
      · replace h := h.2 hc
        refine e_drp [true, true, true, true, true, false] (L' := [some (.ref a0), some (.int a1), some (.int a2), some (.int a3), some (.int a4), none]) rfl ?_
        exact x_X7_whole_42  h
def V_X7_day_116 (K : Rs → Mm → Prop)  (M : Mm) (s0 : Int32) : Prop := ((s0 = 0 ∨ s0 = 1) ∧ K (.inl (some (.int s0))) M)
set_option maxRecDepth 100000 in
set_option maxHeartbeats 4000000 in
theorem x_X7_day_116 {G : Gx} {K : Rs → Mm → Prop}  {M : Mm} {s0 : Int32} (h : V_X7_day_116 K  M s0) : E G mi_X7_day K M 0 0 116 [none, none, none, none, none, none] [.int s0] := by
  unfold V_X7_day_116 at h
  exact e_retz rfl rfl h.1 (by decide) (by decide) h.2
def V_X7_day_41 (K : Rs → Mm → Prop)  (M : Mm) (l0 : Nat) (l1 : Int32) (l2 : Int32) (l3 : Int32) (l4 : Int32) (l5 : Int32) (s0 : Nat) (s1 : Int32) : Prop := (ob M s0 7 ∧ ∀ M2, M2 = sI M s0 0 s1 → (ob M2 l0 7 ∧ (((mI M2 l0 0) ≤ 0 → ((¬ l2 = 0 → ((¬ l2 = (1 : Int32) → ((¬ l2 = (2 : Int32) → V_X7_whole (kI (fun r5 M4 => V_X7_day_116 K  M4 r5) (fun _ _ => False)) M2 l0 l1 l3 l4 l5) ∧ (l2 = (2 : Int32) → V_X7_bothDay (kI (fun r7 M6 => V_X7_day_116 K  M6 r7) (fun _ _ => False)) M2 l0 l1 l3 l4 l5))) ∧ (l2 = (1 : Int32) → V_X7_weekAlone (kI (fun r9 M8 => V_X7_day_116 K  M8 r9) (fun _ _ => False)) M2 l0 l1 l3 l4 l5))) ∧ (l2 = 0 → V_X7_dayAlone (kI (fun r11 M10 => V_X7_day_116 K  M10 r11) (fun _ _ => False)) M2 l0 l1 l3 l4 l5))) ∧ (¬ (mI M2 l0 0) ≤ 0 → K (.inl (some (.int (0 : Int32)))) M2))))
set_option maxRecDepth 100000 in
set_option maxHeartbeats 4000000 in
theorem x_X7_day_41 {G : Gx} {K : Rs → Mm → Prop}  {M : Mm} {l0 : Nat} {l1 : Int32} {l2 : Int32} {l3 : Int32} {l4 : Int32} {l5 : Int32} {s0 : Nat} {s1 : Int32} (h : V_X7_day_41 K  M l0 l1 l2 l3 l4 l5 s0 s1) : E G mi_X7_day K M 0 0 41 [some (.ref l0), some (.int l1), some (.int l2), some (.int l3), some (.int l4), some (.int l5)] [.int s1, .ref s0] := by
  unfold V_X7_day_41 at h
  obtain ⟨ho1, h⟩ := h
  refine e_putI 7 0 rfl rfl (by decide) (aw (i := 1065) (by decide +kernel) rfl) rfl ho1 rfl ?_
  generalize hM2 : sI M s0 0 s1 = M2
  replace h := h M2 hM2.symm
  replace ho1 : ob M2 s0 7 := hM2 ▸ ob_sI ho1
  refine e_blk 1 44 _ _ (pc' := 45) (L' := [some (.ref l0), some (.int l1), some (.int l2), some (.int l3), some (.int l4), some (.int l5)]) (st' := [.ref l0]) rfl ?_
  obtain ⟨ho3, h⟩ := h
  refine e_getI 7 0 rfl rfl (by decide) (aw (i := 1065) (by decide +kernel) rfl) ho3 rfl ?_
  refine e_if_le 53 rfl rfl (fun hc => ?_) (fun hc => ?_)
  · replace h := h.1 hc
    refine e_blk 1 53 _ _ (pc' := 54) (L' := [some (.ref l0), some (.int l1), some (.int l2), some (.int l3), some (.int l4), some (.int l5)]) (st' := [.int l2]) rfl ?_
    refine e_if_ne 70 rfl rfl (fun hc => ?_) (fun hc => ?_)
    · replace h := h.1 hc
      refine e_blk 2 70 _ _ (pc' := 72) (L' := [some (.ref l0), some (.int l1), some (.int l2), some (.int l3), some (.int l4), some (.int l5)]) (st' := [.int (1 : Int32), .int l2]) rfl ?_
      refine e_icmp_ne 88 rfl rfl (fun hc => ?_) (fun hc => ?_)
      · replace h := h.1 hc
        refine e_blk 2 88 _ _ (pc' := 90) (L' := [some (.ref l0), some (.int l1), some (.int l2), some (.int l3), some (.int l4), some (.int l5)]) (st' := [.int (2 : Int32), .int l2]) rfl ?_
        refine e_icmp_ne 106 rfl rfl (fun hc => ?_) (fun hc => ?_)
        · replace h := h.1 hc
          refine e_blk 5 106 _ _ (pc' := 113) (L' := [some (.ref l0), some (.int l1), some (.int l2), some (.int l3), some (.int l4), some (.int l5)]) (st' := [.int l5, .int l4, .int l3, .int l1, .ref l0]) rfl ?_
          refine e_callV (As := [.int l1, .int l3, .int l4, .int l5]) (rest := []) (ci := 7) rfl (x_X7_whole h) ho3 rfl rfl rfl (aw (i := 1497) (by decide +kernel) rfl) wn_X7_whole wv_X7_whole wi_X7_whole wc_X7_whole (show cok mi_X7_day mi_X7_whole 0 0 4 = true by decide +kernel) (Nat.le_of_ble_eq_true rfl) (fun v9 M4 hq => ?_) (fun X M9 hq => False.elim hq)
          obtain ⟨r5, rfl, h⟩ := kI_l hq
          refine e_drp [false, false, false, false, false, false] (L' := [none, none, none, none, none, none]) rfl ?_
          exact x_X7_day_116  h
        · replace h := h.2 hc
          refine e_blk 5 93 _ _ (pc' := 100) (L' := [some (.ref l0), some (.int l1), some (.int l2), some (.int l3), some (.int l4), some (.int l5)]) (st' := [.int l5, .int l4, .int l3, .int l1, .ref l0]) rfl ?_
          refine e_callV (As := [.int l1, .int l3, .int l4, .int l5]) (rest := []) (ci := 7) rfl (x_X7_bothDay h) ho3 rfl rfl rfl (aw (i := 1493) (by decide +kernel) rfl) wn_X7_bothDay wv_X7_bothDay wi_X7_bothDay wc_X7_bothDay (show cok mi_X7_day mi_X7_bothDay 0 0 4 = true by decide +kernel) (Nat.le_of_ble_eq_true rfl) (fun v9 M6 hq => ?_) (fun X M9 hq => False.elim hq)
          obtain ⟨r7, rfl, h⟩ := kI_l hq
          refine e_blk 1 103 _ _ (pc' := 116) (L' := [some (.ref l0), some (.int l1), some (.int l2), some (.int l3), some (.int l4), some (.int l5)]) (st' := [.int r7]) rfl ?_
          refine e_drp [false, false, false, false, false, false] (L' := [none, none, none, none, none, none]) rfl ?_
          exact x_X7_day_116  h
      · replace h := h.2 hc
        refine e_blk 5 75 _ _ (pc' := 82) (L' := [some (.ref l0), some (.int l1), some (.int l2), some (.int l3), some (.int l4), some (.int l5)]) (st' := [.int l5, .int l4, .int l3, .int l1, .ref l0]) rfl ?_
        refine e_callV (As := [.int l1, .int l3, .int l4, .int l5]) (rest := []) (ci := 7) rfl (x_X7_weekAlone h) ho3 rfl rfl rfl (aw (i := 1489) (by decide +kernel) rfl) wn_X7_weekAlone wv_X7_weekAlone wi_X7_weekAlone wc_X7_weekAlone (show cok mi_X7_day mi_X7_weekAlone 0 0 4 = true by decide +kernel) (Nat.le_of_ble_eq_true rfl) (fun v9 M8 hq => ?_) (fun X M9 hq => False.elim hq)
        obtain ⟨r9, rfl, h⟩ := kI_l hq
        refine e_blk 1 85 _ _ (pc' := 116) (L' := [some (.ref l0), some (.int l1), some (.int l2), some (.int l3), some (.int l4), some (.int l5)]) (st' := [.int r9]) rfl ?_
        refine e_drp [false, false, false, false, false, false] (L' := [none, none, none, none, none, none]) rfl ?_
        exact x_X7_day_116  h
    · replace h := h.2 hc
      refine e_blk 5 57 _ _ (pc' := 64) (L' := [some (.ref l0), some (.int l1), some (.int l2), some (.int l3), some (.int l4), some (.int l5)]) (st' := [.int l5, .int l4, .int l3, .int l1, .ref l0]) rfl ?_
      refine e_callV (As := [.int l1, .int l3, .int l4, .int l5]) (rest := []) (ci := 7) rfl (x_X7_dayAlone h) ho3 rfl rfl rfl (aw (i := 1479) (by decide +kernel) rfl) wn_X7_dayAlone wv_X7_dayAlone wi_X7_dayAlone wc_X7_dayAlone (show cok mi_X7_day mi_X7_dayAlone 0 0 4 = true by decide +kernel) (Nat.le_of_ble_eq_true rfl) (fun v9 M10 hq => ?_) (fun X M9 hq => False.elim hq)
      obtain ⟨r11, rfl, h⟩ := kI_l hq
      refine e_blk 1 67 _ _ (pc' := 116) (L' := [some (.ref l0), some (.int l1), some (.int l2), some (.int l3), some (.int l4), some (.int l5)]) (st' := [.int r11]) rfl ?_
      refine e_drp [false, false, false, false, false, false] (L' := [none, none, none, none, none, none]) rfl ?_
      exact x_X7_day_116  h
  · replace h := h.2 hc
    refine e_blk 1 51 _ _ (pc' := 52) (L' := [some (.ref l0), some (.int l1), some (.int l2), some (.int l3), some (.int l4), some (.int l5)]) (st' := [.int (0 : Int32)]) rfl ?_
    exact e_retz rfl rfl (by decide) (by decide) (by decide) h
def V_X7_day_36 (K : Rs → Mm → Prop)  (M : Mm) (l0 : Nat) (l1 : Int32) (l2 : Int32) (l3 : Int32) (l4 : Int32) (l5 : Int32) (s0 : Nat) : Prop := V_X7_day_41 K  M l0 l1 l2 l3 l4 l5 s0 (2 : Int32)
set_option maxRecDepth 100000 in
set_option maxHeartbeats 4000000 in
theorem x_X7_day_36 {G : Gx} {K : Rs → Mm → Prop}  {M : Mm} {l0 : Nat} {l1 : Int32} {l2 : Int32} {l3 : Int32} {l4 : Int32} {l5 : Int32} {s0 : Nat} (h : V_X7_day_36 K  M l0 l1 l2 l3 l4 l5 s0) : E G mi_X7_day K M 0 0 36 [some (.ref l0), some (.int l1), some (.int l2), some (.int l3), some (.int l4), some (.int l5)] [.ref s0] := by
  unfold V_X7_day_36 at h
  refine e_blk 2 36 _ _ (pc' := 41) (L' := [some (.ref l0), some (.int l1), some (.int l2), some (.int l3), some (.int l4), some (.int l5)]) (st' := [.int (2 : Int32), .ref s0]) rfl ?_
  refine e_drp [true, true, true, true, true, true] (L' := [some (.ref l0), some (.int l1), some (.int l2), some (.int l3), some (.int l4), some (.int l5)]) rfl ?_
  exact x_X7_day_41  h
def V_X7_day (K : Rs → Mm → Prop) (M : Mm) (a0 : Nat) (a1 : Int32) (a2 : Int32) (a3 : Int32) (a4 : Int32) (a5 : Int32) : Prop := (ob M a0 7 ∧ V_X7_none (kI (fun r3 M2 => ((r3 = 0 → V_X7_in (kI (fun r5 M4 => ((r5 = 0 → V_X7_day_36 K  M4 a0 a1 a2 a3 a4 a5 a0) ∧ (¬ r5 = 0 → V_X7_isDate (kI (fun r7 M6 => ((¬ r7 = 0 → V_X7_day_41 K  M6 a0 a1 a2 a3 a4 a5 a0 (0 : Int32)) ∧ (r7 = 0 → V_X7_day_36 K  M6 a0 a1 a2 a3 a4 a5 a0))) (fun _ _ => False)) M4 a3 a4 a5))) (fun _ _ => False)) M2 ((a2).toInt64) (0 : Int64) (3 : Int64)) ∧ (¬ r3 = 0 → V_X7_day_41 K  M2 a0 a1 a2 a3 a4 a5 a0 (1 : Int32)))) (fun _ _ => False)) M a0 a1)
set_option maxRecDepth 100000 in
set_option maxHeartbeats 4000000 in
theorem x_X7_day {G : Gx} {K : Rs → Mm → Prop} {M : Mm} {a0 : Nat} {a1 : Int32} {a2 : Int32} {a3 : Int32} {a4 : Int32} {a5 : Int32} (h : V_X7_day K M a0 a1 a2 a3 a4 a5) : MC G mi_X7_day [.ref a0, .int a1, .int a2, .int a3, .int a4, .int a5] M K := by
  unfold V_X7_day at h
  refine mc_of rfl (by decide +kernel) dc_X7_day (Nat.le_of_ble_eq_true rfl) 0 (Nat.le_of_ble_eq_true rfl) ?_
  show E G mi_X7_day K M 0 0 0 [some (.ref a0), some (.int a1), some (.int a2), some (.int a3), some (.int a4), some (.int a5)] []
  refine e_blk 3 0 _ _ (pc' := 3) (L' := [some (.ref a0), some (.int a1), some (.int a2), some (.int a3), some (.int a4), some (.int a5)]) (st' := [.int a1, .ref a0, .ref a0]) rfl ?_
  obtain ⟨ho1, h⟩ := h
  refine e_callV (As := [.int a1]) (rest := [.ref a0]) (ci := 7) rfl (x_X7_none h) ho1 rfl rfl rfl (aw (i := 1449) (by decide +kernel) rfl) wn_X7_none wv_X7_none wi_X7_none wc_X7_none (show cok mi_X7_day mi_X7_none 0 0 1 = true by decide +kernel) (Nat.le_of_ble_eq_true rfl) (fun v9 M2 hq => ?_) (fun X M9 hq => False.elim hq)
  obtain ⟨r3, rfl, h⟩ := kI_l hq
  refine e_if_eq 13 rfl rfl (fun hc => ?_) (fun hc => ?_)
  · replace h := h.1 hc
    refine e_blk 3 13 _ _ (pc' := 16) (L' := [some (.ref a0), some (.int a1), some (.int a2), some (.int a3), some (.int a4), some (.int a5)]) (st' := [.long (0 : Int64), .long ((a2).toInt64), .ref a0]) rfl ?_
    refine e_ldc2 (3) rfl (aw (i := 1255) (by decide +kernel) rfl) ?_
    refine e_callS (As := [.long ((a2).toInt64), .long (0 : Int64), .long (3 : Int64)]) (rest := [.ref a0]) rfl (x_X7_in h) rfl (aw (i := 1256) (by decide +kernel) rfl) ws_X7_in wi_X7_in wc_X7_in (show cok mi_X7_day mi_X7_in 0 0 3 = true by decide +kernel) (Nat.le_of_ble_eq_true rfl) (fun v9 M4 hq => ?_) (fun X M9 hq => False.elim hq)
    obtain ⟨r5, rfl, h⟩ := kI_l hq
    refine e_if_eq 36 rfl rfl (fun hc => ?_) (fun hc => ?_)
    · replace h := h.1 hc
      refine e_drp [true, true, true, true, true, true] (L' := [some (.ref a0), some (.int a1), some (.int a2), some (.int a3), some (.int a4), some (.int a5)]) rfl ?_
      exact x_X7_day_36  h
    · replace h := h.2 hc
      refine e_blk 3 25 _ _ (pc' := 30) (L' := [some (.ref a0), some (.int a1), some (.int a2), some (.int a3), some (.int a4), some (.int a5)]) (st' := [.int a5, .int a4, .int a3, .ref a0]) rfl ?_
      refine e_callS (As := [.int a3, .int a4, .int a5]) (rest := [.ref a0]) rfl (x_X7_isDate h) rfl (aw (i := 1303) (by decide +kernel) rfl) ws_X7_isDate wi_X7_isDate wc_X7_isDate (show cok mi_X7_day mi_X7_isDate 0 0 3 = true by decide +kernel) (Nat.le_of_ble_eq_true rfl) (fun v9 M6 hq => ?_) (fun X M9 hq => False.elim hq)
      obtain ⟨r7, rfl, h⟩ := kI_l hq
      refine e_if_ne 40 rfl rfl (fun hc => ?_) (fun hc => ?_)
      · replace h := h.1 hc
        refine e_blk 1 40 _ _ (pc' := 41) (L' := [some (.ref a0), some (.int a1), some (.int a2), some (.int a3), some (.int a4), some (.int a5)]) (st' := [.int (0 : Int32), .ref a0]) rfl ?_
        refine e_drp [true, true, true, true, true, true] (L' := [some (.ref a0), some (.int a1), some (.int a2), some (.int a3), some (.int a4), some (.int a5)]) rfl ?_
        exact x_X7_day_41  h
      · replace h := h.2 hc
        refine e_drp [true, true, true, true, true, true] (L' := [some (.ref a0), some (.int a1), some (.int a2), some (.int a3), some (.int a4), some (.int a5)]) rfl ?_
        exact x_X7_day_36  h
  · replace h := h.2 hc
    refine e_blk 2 9 _ _ (pc' := 41) (L' := [some (.ref a0), some (.int a1), some (.int a2), some (.int a3), some (.int a4), some (.int a5)]) (st' := [.int (1 : Int32), .ref a0]) rfl ?_
    refine e_drp [true, true, true, true, true, true] (L' := [some (.ref a0), some (.int a1), some (.int a2), some (.int a3), some (.int a4), some (.int a5)]) rfl ?_
    exact x_X7_day_41  h
def V_X7_isTime_47 (K : Rs → Mm → Prop)  (M : Mm) (s0 : Int32) : Prop := ((s0 = 0 ∨ s0 = 1) ∧ K (.inl (some (.int s0))) M)
set_option maxRecDepth 100000 in
set_option maxHeartbeats 4000000 in
theorem x_X7_isTime_47 {G : Gx} {K : Rs → Mm → Prop}  {M : Mm} {s0 : Int32} (h : V_X7_isTime_47 K  M s0) : E G mi_X7_isTime K M 0 0 47 [none, none, none] [.int s0] := by
  unfold V_X7_isTime_47 at h
  exact e_retz rfl rfl h.1 (by decide) (by decide) h.2
def V_X7_isTime_46 (K : Rs → Mm → Prop)  (M : Mm)  : Prop := V_X7_isTime_47 K  M (0 : Int32)
set_option maxRecDepth 100000 in
set_option maxHeartbeats 4000000 in
theorem x_X7_isTime_46 {G : Gx} {K : Rs → Mm → Prop}  {M : Mm}  (h : V_X7_isTime_46 K  M ) : E G mi_X7_isTime K M 0 0 46 [none, none, none] [] := by
  unfold V_X7_isTime_46 at h
  refine e_blk 1 46 _ _ (pc' := 47) (L' := [none, none, none]) (st' := [.int (0 : Int32)]) rfl ?_
  refine e_drp [false, false, false] (L' := [none, none, none]) rfl ?_
  exact x_X7_isTime_47  h
def V_X7_isTime (K : Rs → Mm → Prop) (M : Mm) (a0 : Nat) (a1 : Int32) (a2 : Int32) : Prop := (ob M a0 7 ∧ ∃ b2, mP M a0 32 = some b2 ∧ (ob M b2 10 ∧ (vp_in (((5 : Int32) * a1) + (1 : Int32)) (mN M b2) ∧ ((¬ (lg_cmp (((mJ M b2 ((((5 : Int32) * a1) + (1 : Int32))).toNatClampNeg) >>> (((a2 / (60 : Int32))).toInt64 &&& 63)) &&& (1 : Int64)) (1 : Int64)) = 0 → V_X7_isTime_46 K  M ) ∧ ((lg_cmp (((mJ M b2 ((((5 : Int32) * a1) + (1 : Int32))).toNatClampNeg) >>> (((a2 / (60 : Int32))).toInt64 &&& 63)) &&& (1 : Int64)) (1 : Int64)) = 0 → ∃ b5, mP M a0 32 = some b5 ∧ (ob M b5 10 ∧ (vp_in ((5 : Int32) * a1) (mN M b5) ∧ ((¬ (lg_cmp (((mJ M b5 (((5 : Int32) * a1)).toNatClampNeg) >>> (((a2 - a2 / (60 : Int32) * (60 : Int32))).toInt64 &&& 63)) &&& (1 : Int64)) (1 : Int64)) = 0 → V_X7_isTime_46 K  M ) ∧ ((lg_cmp (((mJ M b5 (((5 : Int32) * a1)).toNatClampNeg) >>> (((a2 - a2 / (60 : Int32) * (60 : Int32))).toInt64 &&& 63)) &&& (1 : Int64)) (1 : Int64)) = 0 → V_X7_isTime_47 K  M (1 : Int32))))))))))
set_option maxRecDepth 100000 in
set_option maxHeartbeats 4000000 in
theorem x_X7_isTime {G : Gx} {K : Rs → Mm → Prop} {M : Mm} {a0 : Nat} {a1 : Int32} {a2 : Int32} (h : V_X7_isTime K M a0 a1 a2) : MC G mi_X7_isTime [.ref a0, .int a1, .int a2] M K := by
  unfold V_X7_isTime at h
  refine mc_of rfl (by decide +kernel) dc_X7_isTime (Nat.le_of_ble_eq_true rfl) 0 (Nat.le_of_ble_eq_true rfl) ?_
  show E G mi_X7_isTime K M 0 0 0 [some (.ref a0), some (.int a1), some (.int a2)] []
  refine e_blk 1 0 _ _ (pc' := 1) (L' := [some (.ref a0), some (.int a1), some (.int a2)]) (st' := [.ref a0]) rfl ?_
  obtain ⟨ho1, h⟩ := h
  obtain ⟨b2, hbb2, h⟩ := h
  refine e_getR 7 32 rfl rfl (by decide) (aw (i := 1097) (by decide +kernel) rfl) ho1 rfl hbb2 ?_
  refine e_blk 5 4 _ _ (pc' := 9) (L' := [some (.ref a0), some (.int a1), some (.int a2)]) (st' := [.int (((5 : Int32) * a1) + (1 : Int32)), .ref b2]) rfl ?_
  obtain ⟨ho3, h⟩ := h
  obtain ⟨hi4, h⟩ := h
  refine e_lald rfl ho3 hi4 ?_
  refine e_blk 2 10 _ _ (pc' := 13) (L' := [some (.ref a0), some (.int a1), some (.int a2)]) (st' := [.int (60 : Int32), .int a2, .long (mJ M b2 ((((5 : Int32) * a1) + (1 : Int32))).toNatClampNeg)]) rfl ?_
  refine e_idiv rfl (by decide) ?_
  refine e_blk 5 14 _ _ (pc' := 19) (L' := [some (.ref a0), some (.int a1), some (.int a2)]) (st' := [.int (lg_cmp (((mJ M b2 ((((5 : Int32) * a1) + (1 : Int32))).toNatClampNeg) >>> (((a2 / (60 : Int32))).toInt64 &&& 63)) &&& (1 : Int64)) (1 : Int64))]) rfl ?_
  refine e_if_ne 46 rfl rfl (fun hc => ?_) (fun hc => ?_)
  · replace h := h.1 hc
    refine e_drp [false, false, false] (L' := [none, none, none]) rfl ?_
    exact x_X7_isTime_46  h
  · replace h := h.2 hc
    refine e_blk 1 22 _ _ (pc' := 23) (L' := [some (.ref a0), some (.int a1), some (.int a2)]) (st' := [.ref a0]) rfl ?_
    obtain ⟨b5, hbb5, h⟩ := h
    refine e_getR 7 32 rfl rfl (by decide) (aw (i := 1097) (by decide +kernel) rfl) ho1 rfl hbb5 ?_
    refine e_blk 3 26 _ _ (pc' := 29) (L' := [some (.ref a0), some (.int a1), some (.int a2)]) (st' := [.int ((5 : Int32) * a1), .ref b5]) rfl ?_
    obtain ⟨ho6, h⟩ := h
    obtain ⟨hi7, h⟩ := h
    refine e_lald rfl ho6 hi7 ?_
    refine e_blk 2 30 _ _ (pc' := 33) (L' := [some (.ref a0), some (.int a1), some (.int a2)]) (st' := [.int (60 : Int32), .int a2, .long (mJ M b5 (((5 : Int32) * a1)).toNatClampNeg)]) rfl ?_
    refine e_irem rfl (by decide) ?_
    refine e_blk 5 34 _ _ (pc' := 39) (L' := [some (.ref a0), some (.int a1), some (.int a2)]) (st' := [.int (lg_cmp (((mJ M b5 (((5 : Int32) * a1)).toNatClampNeg) >>> (((a2 - a2 / (60 : Int32) * (60 : Int32))).toInt64 &&& 63)) &&& (1 : Int64)) (1 : Int64))]) rfl ?_
    refine e_if_ne 46 rfl rfl (fun hc => ?_) (fun hc => ?_)
    · replace h := h.1 hc
      refine e_drp [false, false, false] (L' := [none, none, none]) rfl ?_
      exact x_X7_isTime_46  h
    · replace h := h.2 hc
      refine e_blk 2 42 _ _ (pc' := 47) (L' := [some (.ref a0), some (.int a1), some (.int a2)]) (st' := [.int (1 : Int32)]) rfl ?_
      refine e_drp [false, false, false] (L' := [none, none, none]) rfl ?_
      exact x_X7_isTime_47  h
def V_X7_isMatch (K : Rs → Mm → Prop) (M : Mm) (a0 : Nat) (a1 : Int32) (a2 : Int32) : Prop := (ob M a0 7 ∧ ∃ b2, mP M a0 27 = some b2 ∧ (ob M b2 9 ∧ (vp_in a1 (mN M b2) ∧ ∀ x5 : Int32, x5 = (mI M b2 (a1).toNatClampNeg) → V_X7_stretch (kI (fun r7 M6 => (ob M6 a0 7 ∧ V_X7_offsetOf (kI (fun r10 M9 => ∀ x11 : Int32, x11 = (a2 + r10) → V_X7_floor (kI (fun r13 M12 => (ob M12 a0 7 ∧ V_X7_isTime (kI (fun r16 M15 => ((¬ r16 = 0 → (ob M15 a0 7 ∧ V_X7_date (kV (fun M18 => (ob M18 a0 7 ∧ V_X7_whole (kI (fun r21 M20 => ((r21 = 0 ∨ r21 = 1) ∧ K (.inl (some (.int r21))) M20)) (fun _ _ => False)) M18 a0 a1 (mI M18 a0 5) (mI M18 a0 6) (mI M18 a0 7))) (fun _ _ => False)) M15 a0 r13)) ∧ (r16 = 0 → K (.inl (some (.int (0 : Int32)))) M15))) (fun _ _ => False)) M12 a0 a1 (x11 - ((1440 : Int32) * r13)))) (fun _ _ => False)) M9 x11 (1440 : Int32)) (fun _ _ => False)) M6 a0 x5 r7)) (fun _ _ => False)) M a0 x5 a2)))
set_option maxRecDepth 100000 in
set_option maxHeartbeats 4000000 in
theorem x_X7_isMatch {G : Gx} {K : Rs → Mm → Prop} {M : Mm} {a0 : Nat} {a1 : Int32} {a2 : Int32} (h : V_X7_isMatch K M a0 a1 a2) : MC G mi_X7_isMatch [.ref a0, .int a1, .int a2] M K := by
  unfold V_X7_isMatch at h
  refine mc_of rfl (by decide +kernel) dc_X7_isMatch (Nat.le_of_ble_eq_true rfl) 3 (Nat.le_of_ble_eq_true rfl) ?_
  show E G mi_X7_isMatch K M 0 0 0 [some (.ref a0), some (.int a1), some (.int a2), none, none, none] []
  refine e_blk 1 0 _ _ (pc' := 1) (L' := [some (.ref a0), some (.int a1), some (.int a2), none, none, none]) (st' := [.ref a0]) rfl ?_
  obtain ⟨ho1, h⟩ := h
  obtain ⟨b2, hbb2, h⟩ := h
  refine e_getR 7 27 rfl rfl (by decide) (aw (i := 1092) (by decide +kernel) rfl) ho1 rfl hbb2 ?_
  refine e_blk 1 4 _ _ (pc' := 5) (L' := [some (.ref a0), some (.int a1), some (.int a2), none, none, none]) (st' := [.int a1, .ref b2]) rfl ?_
  obtain ⟨ho3, h⟩ := h
  obtain ⟨hi4, h⟩ := h
  refine e_iald rfl ho3 hi4 ?_
  refine e_blk 7 6 _ _ (pc' := 13) (L' := [some (.ref a0), some (.int a1), some (.int a2), some (.int (mI M b2 (a1).toNatClampNeg)), none, none]) (st' := [.int a2, .int (mI M b2 (a1).toNatClampNeg), .ref a0, .int (mI M b2 (a1).toNatClampNeg), .ref a0, .int a2]) rfl ?_
  generalize hx_x5 : ((mI M b2 (a1).toNatClampNeg) : Int32) = x5
  replace h := h x5 hx_x5.symm
  refine e_callV (As := [.int x5, .int a2]) (rest := [.int x5, .ref a0, .int a2]) (ci := 7) rfl (x_X7_stretch h) ho1 rfl rfl rfl (aw (i := 1275) (by decide +kernel) rfl) wn_X7_stretch wv_X7_stretch wi_X7_stretch wc_X7_stretch (show cok mi_X7_isMatch mi_X7_stretch 0 0 2 = true by decide +kernel) (Nat.le_of_ble_eq_true rfl) (fun v9 M6 hq => ?_) (fun X M9 hq => False.elim hq)
  obtain ⟨r7, rfl, h⟩ := kI_l hq
  obtain ⟨ho8, h⟩ := h
  refine e_callV (As := [.int x5, .int r7]) (rest := [.int a2]) (ci := 7) rfl (x_X7_offsetOf h) ho8 rfl rfl rfl (aw (i := 1279) (by decide +kernel) rfl) wn_X7_offsetOf wv_X7_offsetOf wi_X7_offsetOf wc_X7_offsetOf (show cok mi_X7_isMatch mi_X7_offsetOf 0 0 2 = true by decide +kernel) (Nat.le_of_ble_eq_true rfl) (fun v9 M9 hq => ?_) (fun X M9 hq => False.elim hq)
  obtain ⟨r10, rfl, h⟩ := kI_l hq
  refine e_blk 4 19 _ _ (pc' := 27) (L' := [some (.ref a0), some (.int a1), some (.int a2), some (.int x5), some (.int (a2 + r10)), none]) (st' := [.int (1440 : Int32), .int (a2 + r10)]) rfl ?_
  generalize hx_x11 : ((a2 + r10) : Int32) = x11
  replace h := h x11 hx_x11.symm
  refine e_callS (As := [.int x11, .int (1440 : Int32)]) (rest := []) rfl (x_X7_floor h) rfl (aw (i := 1283) (by decide +kernel) rfl) ws_X7_floor wi_X7_floor wc_X7_floor (show cok mi_X7_isMatch mi_X7_floor 0 0 2 = true by decide +kernel) (Nat.le_of_ble_eq_true rfl) (fun v9 M12 hq => ?_) (fun X M9 hq => False.elim hq)
  obtain ⟨r13, rfl, h⟩ := kI_l hq
  refine e_blk 8 30 _ _ (pc' := 43) (L' := [some (.ref a0), some (.int a1), some (.int a2), some (.int x5), some (.int x11), some (.int r13)]) (st' := [.int (x11 - ((1440 : Int32) * r13)), .int a1, .ref a0]) rfl ?_
  obtain ⟨ho14, h⟩ := h
  refine e_callV (As := [.int a1, .int (x11 - ((1440 : Int32) * r13))]) (rest := []) (ci := 7) rfl (x_X7_isTime h) ho14 rfl rfl rfl (aw (i := 1511) (by decide +kernel) rfl) wn_X7_isTime wv_X7_isTime wi_X7_isTime wc_X7_isTime (show cok mi_X7_isMatch mi_X7_isTime 0 0 2 = true by decide +kernel) (Nat.le_of_ble_eq_true rfl) (fun v9 M15 hq => ?_) (fun X M9 hq => False.elim hq)
  obtain ⟨r16, rfl, h⟩ := kI_l hq
  refine e_if_ne 51 rfl rfl (fun hc => ?_) (fun hc => ?_)
  · replace h := h.1 hc
    refine e_blk 2 51 _ _ (pc' := 54) (L' := [some (.ref a0), some (.int a1), some (.int a2), some (.int x5), some (.int x11), some (.int r13)]) (st' := [.int r13, .ref a0]) rfl ?_
    obtain ⟨ho17, h⟩ := h
    refine e_callV (As := [.int r13]) (rest := []) (ci := 7) rfl (x_X7_date h) ho17 rfl rfl rfl (aw (i := 1286) (by decide +kernel) rfl) wn_X7_date wv_X7_date wi_X7_date wc_X7_date (show cok mi_X7_isMatch mi_X7_date 0 0 1 = true by decide +kernel) (Nat.le_of_ble_eq_true rfl) (fun v9 M18 hq => ?_) (fun X M9 hq => False.elim hq)
    obtain ⟨rfl, h⟩ := kV_l hq
    refine e_blk 3 57 _ _ (pc' := 60) (L' := [some (.ref a0), some (.int a1), some (.int a2), some (.int x5), some (.int x11), some (.int r13)]) (st' := [.ref a0, .int a1, .ref a0]) rfl ?_
    obtain ⟨ho19, h⟩ := h
    refine e_getI 7 5 rfl rfl (by decide) (aw (i := 1070) (by decide +kernel) rfl) ho19 rfl ?_
    refine e_blk 1 63 _ _ (pc' := 64) (L' := [some (.ref a0), some (.int a1), some (.int a2), some (.int x5), some (.int x11), some (.int r13)]) (st' := [.ref a0, .int (mI M18 a0 5), .int a1, .ref a0]) rfl ?_
    refine e_getI 7 6 rfl rfl (by decide) (aw (i := 1071) (by decide +kernel) rfl) ho19 rfl ?_
    refine e_blk 1 67 _ _ (pc' := 68) (L' := [some (.ref a0), some (.int a1), some (.int a2), some (.int x5), some (.int x11), some (.int r13)]) (st' := [.ref a0, .int (mI M18 a0 6), .int (mI M18 a0 5), .int a1, .ref a0]) rfl ?_
    refine e_getI 7 7 rfl rfl (by decide) (aw (i := 1072) (by decide +kernel) rfl) ho19 rfl ?_
    refine e_callV (As := [.int a1, .int (mI M18 a0 5), .int (mI M18 a0 6), .int (mI M18 a0 7)]) (rest := []) (ci := 7) rfl (x_X7_whole h) ho19 rfl rfl rfl (aw (i := 1497) (by decide +kernel) rfl) wn_X7_whole wv_X7_whole wi_X7_whole wc_X7_whole (show cok mi_X7_isMatch mi_X7_whole 0 0 4 = true by decide +kernel) (Nat.le_of_ble_eq_true rfl) (fun v9 M20 hq => ?_) (fun X M9 hq => False.elim hq)
    obtain ⟨r21, rfl, h⟩ := kI_l hq
    exact e_retz rfl rfl h.1 (by decide) (by decide) h.2
  · replace h := h.2 hc
    refine e_blk 1 49 _ _ (pc' := 50) (L' := [some (.ref a0), some (.int a1), some (.int a2), some (.int x5), some (.int x11), some (.int r13)]) (st' := [.int (0 : Int32)]) rfl ?_
    exact e_retz rfl rfl (by decide) (by decide) (by decide) h
def V_X7_matches_54 (K : Rs → Mm → Prop)  (M : Mm) (s0 : Int32) : Prop := ((s0 = 0 ∨ s0 = 1) ∧ K (.inl (some (.int s0))) M)
set_option maxRecDepth 100000 in
set_option maxHeartbeats 4000000 in
theorem x_X7_matches_54 {G : Gx} {K : Rs → Mm → Prop}  {M : Mm} {s0 : Int32} (h : V_X7_matches_54 K  M s0) : E G mi_X7_matches K M 0 0 54 [none, none, none] [.int s0] := by
  unfold V_X7_matches_54 at h
  exact e_retz rfl rfl h.1 (by decide) (by decide) h.2
def V_X7_matches_53 (K : Rs → Mm → Prop)  (M : Mm)  : Prop := V_X7_matches_54 K  M (0 : Int32)
set_option maxRecDepth 100000 in
set_option maxHeartbeats 4000000 in
theorem x_X7_matches_53 {G : Gx} {K : Rs → Mm → Prop}  {M : Mm}  (h : V_X7_matches_53 K  M ) : E G mi_X7_matches K M 0 0 53 [none, none, none] [] := by
  unfold V_X7_matches_53 at h
  refine e_blk 1 53 _ _ (pc' := 54) (L' := [none, none, none]) (st' := [.int (0 : Int32)]) rfl ?_
  refine e_drp [false, false, false] (L' := [none, none, none]) rfl ?_
  exact x_X7_matches_54  h
def V_X7_matches_30 (K : Rs → Mm → Prop)  (M : Mm) (l0 : Nat) (l1 : Int32) (l2 : Int32) (s0 : Nat) (s1 : Int32) : Prop := (ob M s0 7 ∧ ∀ M2, M2 = sI M s0 0 s1 → (ob M2 l0 7 ∧ ((¬ (mI M2 l0 0) = 0 → V_X7_matches_53 K  M2 ) ∧ ((mI M2 l0 0) = 0 → V_X7_isMatch (kI (fun r5 M4 => ((r5 = 0 → V_X7_matches_53 K  M4 ) ∧ (¬ r5 = 0 → V_X7_matches_54 K  M4 (1 : Int32)))) (fun _ _ => False)) M2 l0 l1 l2))))
set_option maxRecDepth 100000 in
set_option maxHeartbeats 4000000 in
theorem x_X7_matches_30 {G : Gx} {K : Rs → Mm → Prop}  {M : Mm} {l0 : Nat} {l1 : Int32} {l2 : Int32} {s0 : Nat} {s1 : Int32} (h : V_X7_matches_30 K  M l0 l1 l2 s0 s1) : E G mi_X7_matches K M 0 0 30 [some (.ref l0), some (.int l1), some (.int l2)] [.int s1, .ref s0] := by
  unfold V_X7_matches_30 at h
  obtain ⟨ho1, h⟩ := h
  refine e_putI 7 0 rfl rfl (by decide) (aw (i := 1065) (by decide +kernel) rfl) rfl ho1 rfl ?_
  generalize hM2 : sI M s0 0 s1 = M2
  replace h := h M2 hM2.symm
  replace ho1 : ob M2 s0 7 := hM2 ▸ ob_sI ho1
  refine e_blk 1 33 _ _ (pc' := 34) (L' := [some (.ref l0), some (.int l1), some (.int l2)]) (st' := [.ref l0]) rfl ?_
  obtain ⟨ho3, h⟩ := h
  refine e_getI 7 0 rfl rfl (by decide) (aw (i := 1065) (by decide +kernel) rfl) ho3 rfl ?_
  refine e_if_ne 53 rfl rfl (fun hc => ?_) (fun hc => ?_)
  · replace h := h.1 hc
    refine e_drp [false, false, false] (L' := [none, none, none]) rfl ?_
    exact x_X7_matches_53  h
  · replace h := h.2 hc
    refine e_blk 3 40 _ _ (pc' := 43) (L' := [some (.ref l0), some (.int l1), some (.int l2)]) (st' := [.int l2, .int l1, .ref l0]) rfl ?_
    refine e_callV (As := [.int l1, .int l2]) (rest := []) (ci := 7) rfl (x_X7_isMatch h) ho3 rfl rfl rfl (aw (i := 1507) (by decide +kernel) rfl) wn_X7_isMatch wv_X7_isMatch wi_X7_isMatch wc_X7_isMatch (show cok mi_X7_matches mi_X7_isMatch 0 0 2 = true by decide +kernel) (Nat.le_of_ble_eq_true rfl) (fun v9 M4 hq => ?_) (fun X M9 hq => False.elim hq)
    obtain ⟨r5, rfl, h⟩ := kI_l hq
    refine e_if_eq 53 rfl rfl (fun hc => ?_) (fun hc => ?_)
    · replace h := h.1 hc
      refine e_drp [false, false, false] (L' := [none, none, none]) rfl ?_
      exact x_X7_matches_53  h
    · replace h := h.2 hc
      refine e_blk 2 49 _ _ (pc' := 54) (L' := [some (.ref l0), some (.int l1), some (.int l2)]) (st' := [.int (1 : Int32)]) rfl ?_
      refine e_drp [false, false, false] (L' := [none, none, none]) rfl ?_
      exact x_X7_matches_54  h
def V_X7_matches (K : Rs → Mm → Prop) (M : Mm) (a0 : Nat) (a1 : Int32) (a2 : Int32) : Prop := (ob M a0 7 ∧ V_X7_none (kI (fun r3 M2 => ((r3 = 0 → V_X7_in (kI (fun r5 M4 => ((¬ r5 = 0 → V_X7_matches_30 K  M4 a0 a1 a2 a0 (0 : Int32)) ∧ (r5 = 0 → V_X7_matches_30 K  M4 a0 a1 a2 a0 (2 : Int32)))) (fun _ _ => False)) M2 ((a2).toInt64) (0 : Int64) (157785119 : Int64)) ∧ (¬ r3 = 0 → V_X7_matches_30 K  M2 a0 a1 a2 a0 (1 : Int32)))) (fun _ _ => False)) M a0 a1)
set_option maxRecDepth 100000 in
set_option maxHeartbeats 4000000 in
theorem x_X7_matches {G : Gx} {K : Rs → Mm → Prop} {M : Mm} {a0 : Nat} {a1 : Int32} {a2 : Int32} (h : V_X7_matches K M a0 a1 a2) : MC G mi_X7_matches [.ref a0, .int a1, .int a2] M K := by
  unfold V_X7_matches at h
  refine mc_of rfl (by decide +kernel) dc_X7_matches (Nat.le_of_ble_eq_true rfl) 0 (Nat.le_of_ble_eq_true rfl) ?_
  show E G mi_X7_matches K M 0 0 0 [some (.ref a0), some (.int a1), some (.int a2)] []
  refine e_blk 3 0 _ _ (pc' := 3) (L' := [some (.ref a0), some (.int a1), some (.int a2)]) (st' := [.int a1, .ref a0, .ref a0]) rfl ?_
  obtain ⟨ho1, h⟩ := h
  refine e_callV (As := [.int a1]) (rest := [.ref a0]) (ci := 7) rfl (x_X7_none h) ho1 rfl rfl rfl (aw (i := 1449) (by decide +kernel) rfl) wn_X7_none wv_X7_none wi_X7_none wc_X7_none (show cok mi_X7_matches mi_X7_none 0 0 1 = true by decide +kernel) (Nat.le_of_ble_eq_true rfl) (fun v9 M2 hq => ?_) (fun X M9 hq => False.elim hq)
  obtain ⟨r3, rfl, h⟩ := kI_l hq
  refine e_if_eq 13 rfl rfl (fun hc => ?_) (fun hc => ?_)
  · replace h := h.1 hc
    refine e_blk 3 13 _ _ (pc' := 16) (L' := [some (.ref a0), some (.int a1), some (.int a2)]) (st' := [.long (0 : Int64), .long ((a2).toInt64), .ref a0]) rfl ?_
    refine e_ldc2 (157785119) rfl (aw (i := 1269) (by decide +kernel) rfl) ?_
    refine e_callS (As := [.long ((a2).toInt64), .long (0 : Int64), .long (157785119 : Int64)]) (rest := [.ref a0]) rfl (x_X7_in h) rfl (aw (i := 1256) (by decide +kernel) rfl) ws_X7_in wi_X7_in wc_X7_in (show cok mi_X7_matches mi_X7_in 0 0 3 = true by decide +kernel) (Nat.le_of_ble_eq_true rfl) (fun v9 M4 hq => ?_) (fun X M9 hq => False.elim hq)
    obtain ⟨r5, rfl, h⟩ := kI_l hq
    refine e_if_ne 29 rfl rfl (fun hc => ?_) (fun hc => ?_)
    · replace h := h.1 hc
      refine e_blk 1 29 _ _ (pc' := 30) (L' := [some (.ref a0), some (.int a1), some (.int a2)]) (st' := [.int (0 : Int32), .ref a0]) rfl ?_
      refine e_drp [true, true, true] (L' := [some (.ref a0), some (.int a1), some (.int a2)]) rfl ?_
      exact x_X7_matches_30  h
    · replace h := h.2 hc
      refine e_blk 2 25 _ _ (pc' := 30) (L' := [some (.ref a0), some (.int a1), some (.int a2)]) (st' := [.int (2 : Int32), .ref a0]) rfl ?_
      refine e_drp [true, true, true] (L' := [some (.ref a0), some (.int a1), some (.int a2)]) rfl ?_
      exact x_X7_matches_30  h
  · replace h := h.2 hc
    refine e_blk 2 9 _ _ (pc' := 30) (L' := [some (.ref a0), some (.int a1), some (.int a2)]) (st' := [.int (1 : Int32), .ref a0]) rfl ?_
    refine e_drp [true, true, true] (L' := [some (.ref a0), some (.int a1), some (.int a2)]) rfl ?_
    exact x_X7_matches_30  h
def V_X7_look_262 (K : Rs → Mm → Prop)  (M : Mm)  : Prop := K (.inl none) M
set_option maxRecDepth 100000 in
set_option maxHeartbeats 4000000 in
theorem x_X7_look_262 {G : Gx} {K : Rs → Mm → Prop}  {M : Mm}  (h : V_X7_look_262 K  M ) : E G mi_X7_look K M 0 0 262 [none, none, none, none, none, none, none, none, none, none, none, none, none, none] [] := by
  unfold V_X7_look_262 at h
  exact e_ret rfl rfl (by decide) (by decide) h
def V_X7_look_256 (K : Rs → Mm → Prop) (B15 : Mm → Nat → Int32 → Int32 → Int32 → Int32 → Int32 → Int32 → Prop) (M : Mm) (l0 : Nat) (l1 : Int32) (l4 : Int32) (l5 : Int32) (l6 : Int32) (l7 : Int32) (l8 : Int32) : Prop := ∀ x1 : Int32, x1 = (l8 + (1 : Int32)) → B15 M l0 l1 l4 l5 l6 l7 x1
set_option maxRecDepth 100000 in
set_option maxHeartbeats 4000000 in
theorem x_X7_look_256 {G : Gx} {K : Rs → Mm → Prop} {B15 : Mm → Nat → Int32 → Int32 → Int32 → Int32 → Int32 → Int32 → Prop} (hB15 : ∀ M l0 l1 l4 l5 l6 l7 l8, B15 M l0 l1 l4 l5 l6 l7 l8 → E G mi_X7_look K M 0 0 15 [some (.ref l0), some (.int l1), none, none, some (.int l4), some (.int l5), some (.int l6), some (.int l7), some (.int l8), none, none, none, none, none] []) {M : Mm} {l0 : Nat} {l1 : Int32} {l4 : Int32} {l5 : Int32} {l6 : Int32} {l7 : Int32} {l8 : Int32} (h : V_X7_look_256 K B15 M l0 l1 l4 l5 l6 l7 l8) : E G mi_X7_look K M 0 0 256 [some (.ref l0), some (.int l1), none, none, some (.int l4), some (.int l5), some (.int l6), some (.int l7), some (.int l8), none, none, none, none, none] [] := by
  unfold V_X7_look_256 at h
  refine e_blk 2 256 _ _ (pc' := 15) (L' := [some (.ref l0), some (.int l1), none, none, some (.int l4), some (.int l5), some (.int l6), some (.int l7), some (.int (l8 + (1 : Int32))), none, none, none, none, none]) (st' := []) rfl ?_
  generalize hx_x1 : ((l8 + (1 : Int32)) : Int32) = x1
  replace h := h x1 hx_x1.symm
  refine e_drp [true, true, false, false, true, true, true, true, true, false, false, false, false, false] (L' := [some (.ref l0), some (.int l1), none, none, some (.int l4), some (.int l5), some (.int l6), some (.int l7), some (.int x1), none, none, none, none, none]) rfl ?_
  exact hB15 _ _ _ _ _ _ _ _ h
def V_X7_look_250 (K : Rs → Mm → Prop) (B140 : Mm → Nat → Int32 → Int32 → Int32 → Int32 → Int32 → Int32 → Int32 → Int32 → Int32 → Int32 → Prop) (M : Mm) (l0 : Nat) (l1 : Int32) (l4 : Int32) (l5 : Int32) (l6 : Int32) (l7 : Int32) (l8 : Int32) (l9 : Int32) (l10 : Int32) (l11 : Int32) (l12 : Int32) : Prop := ∀ x1 : Int32, x1 = (l12 + (1 : Int32)) → B140 M l0 l1 l4 l5 l6 l7 l8 l9 l10 l11 x1
set_option maxRecDepth 100000 in
set_option maxHeartbeats 4000000 in
theorem x_X7_look_250 {G : Gx} {K : Rs → Mm → Prop} {B140 : Mm → Nat → Int32 → Int32 → Int32 → Int32 → Int32 → Int32 → Int32 → Int32 → Int32 → Int32 → Prop} (hB140 : ∀ M l0 l1 l4 l5 l6 l7 l8 l9 l10 l11 l12, B140 M l0 l1 l4 l5 l6 l7 l8 l9 l10 l11 l12 → E G mi_X7_look K M 0 0 140 [some (.ref l0), some (.int l1), none, none, some (.int l4), some (.int l5), some (.int l6), some (.int l7), some (.int l8), some (.int l9), some (.int l10), some (.int l11), some (.int l12), none] []) {M : Mm} {l0 : Nat} {l1 : Int32} {l4 : Int32} {l5 : Int32} {l6 : Int32} {l7 : Int32} {l8 : Int32} {l9 : Int32} {l10 : Int32} {l11 : Int32} {l12 : Int32} (h : V_X7_look_250 K B140 M l0 l1 l4 l5 l6 l7 l8 l9 l10 l11 l12) : E G mi_X7_look K M 0 0 250 [some (.ref l0), some (.int l1), none, none, some (.int l4), some (.int l5), some (.int l6), some (.int l7), some (.int l8), some (.int l9), some (.int l10), some (.int l11), some (.int l12), none] [] := by
  unfold V_X7_look_250 at h
  refine e_blk 2 250 _ _ (pc' := 140) (L' := [some (.ref l0), some (.int l1), none, none, some (.int l4), some (.int l5), some (.int l6), some (.int l7), some (.int l8), some (.int l9), some (.int l10), some (.int l11), some (.int (l12 + (1 : Int32))), none]) (st' := []) rfl ?_
  generalize hx_x1 : ((l12 + (1 : Int32)) : Int32) = x1
  replace h := h x1 hx_x1.symm
  refine e_drp [true, true, false, false, true, true, true, true, true, true, true, true, true, false] (L' := [some (.ref l0), some (.int l1), none, none, some (.int l4), some (.int l5), some (.int l6), some (.int l7), some (.int l8), some (.int l9), some (.int l10), some (.int l11), some (.int x1), none]) rfl ?_
  exact hB140 _ _ _ _ _ _ _ _ _ _ _ _ h
def V_X7_look_247 (K : Rs → Mm → Prop) (B140 : Mm → Nat → Int32 → Int32 → Int32 → Int32 → Int32 → Int32 → Int32 → Int32 → Int32 → Int32 → Prop) (M : Mm) (l0 : Nat) (l1 : Int32) (l4 : Int32) (l5 : Int32) (l6 : Int32) (l7 : Int32) (l8 : Int32) (l9 : Int32) (l10 : Int32) (l11 : Int32) (l12 : Int32) (s0 : Nat) (s1 : Int32) : Prop := (ob M s0 7 ∧ ∀ M2, M2 = sI M s0 50 s1 → V_X7_look_250 K B140 M2 l0 l1 l4 l5 l6 l7 l8 l9 l10 l11 l12)
set_option maxRecDepth 100000 in
set_option maxHeartbeats 4000000 in
theorem x_X7_look_247 {G : Gx} {K : Rs → Mm → Prop} {B140 : Mm → Nat → Int32 → Int32 → Int32 → Int32 → Int32 → Int32 → Int32 → Int32 → Int32 → Int32 → Prop} (hB140 : ∀ M l0 l1 l4 l5 l6 l7 l8 l9 l10 l11 l12, B140 M l0 l1 l4 l5 l6 l7 l8 l9 l10 l11 l12 → E G mi_X7_look K M 0 0 140 [some (.ref l0), some (.int l1), none, none, some (.int l4), some (.int l5), some (.int l6), some (.int l7), some (.int l8), some (.int l9), some (.int l10), some (.int l11), some (.int l12), none] []) {M : Mm} {l0 : Nat} {l1 : Int32} {l4 : Int32} {l5 : Int32} {l6 : Int32} {l7 : Int32} {l8 : Int32} {l9 : Int32} {l10 : Int32} {l11 : Int32} {l12 : Int32} {s0 : Nat} {s1 : Int32} (h : V_X7_look_247 K B140 M l0 l1 l4 l5 l6 l7 l8 l9 l10 l11 l12 s0 s1) : E G mi_X7_look K M 0 0 247 [some (.ref l0), some (.int l1), none, none, some (.int l4), some (.int l5), some (.int l6), some (.int l7), some (.int l8), some (.int l9), some (.int l10), some (.int l11), some (.int l12), none] [.int s1, .ref s0] := by
  unfold V_X7_look_247 at h
  obtain ⟨ho1, h⟩ := h
  refine e_putI 7 50 rfl rfl (by decide) (aw (i := 1115) (by decide +kernel) rfl) rfl ho1 rfl ?_
  generalize hM2 : sI M s0 50 s1 = M2
  replace h := h M2 hM2.symm
  replace ho1 : ob M2 s0 7 := hM2 ▸ ob_sI ho1
  refine e_drp [true, true, false, false, true, true, true, true, true, true, true, true, true, false] (L' := [some (.ref l0), some (.int l1), none, none, some (.int l4), some (.int l5), some (.int l6), some (.int l7), some (.int l8), some (.int l9), some (.int l10), some (.int l11), some (.int l12), none]) rfl ?_
  exact x_X7_look_250 hB140 h
def V_X7_look_182 (K : Rs → Mm → Prop) (B140 : Mm → Nat → Int32 → Int32 → Int32 → Int32 → Int32 → Int32 → Int32 → Int32 → Int32 → Int32 → Prop) (M : Mm) (l0 : Nat) (l1 : Int32) (l4 : Int32) (l5 : Int32) (l6 : Int32) (l7 : Int32) (l8 : Int32) (l9 : Int32) (l10 : Int32) (l11 : Int32) (l12 : Int32) (s0 : Int32) : Prop := (ob M l0 7 ∧ ∃ b2, mP M l0 32 = some b2 ∧ (ob M b2 10 ∧ (vp_in ((5 : Int32) * l1) (mN M b2) ∧ ((¬ (lg_cmp (((mJ M b2 (((5 : Int32) * l1)).toNatClampNeg) >>> ((s0).toInt64 &&& 63)) &&& (1 : Int64)) (1 : Int64)) = 0 → V_X7_look_250 K B140 M l0 l1 l4 l5 l6 l7 l8 l9 l10 l11 l12) ∧ ((lg_cmp (((mJ M b2 (((5 : Int32) * l1)).toNatClampNeg) >>> ((s0).toInt64 &&& 63)) &&& (1 : Int64)) (1 : Int64)) = 0 → ∀ M5, M5 = sI M l0 49 ((mI M l0 49) + (1 : Int32)) → ∀ M6, M6 = sI M5 l0 51 ((((60 : Int32) * l9) + s0) - l4) → ((¬ (mI M6 l0 49) = (1 : Int32) → V_X7_look_247 K B140 M6 l0 l1 l4 l5 l6 l7 l8 l9 l10 l11 l12 l0 (mI M6 l0 50)) ∧ ((mI M6 l0 49) = (1 : Int32) → V_X7_look_247 K B140 M6 l0 l1 l4 l5 l6 l7 l8 l9 l10 l11 l12 l0 (mI M6 l0 51))))))))
set_option maxRecDepth 100000 in
set_option maxHeartbeats 4000000 in
theorem x_X7_look_182 {G : Gx} {K : Rs → Mm → Prop} {B140 : Mm → Nat → Int32 → Int32 → Int32 → Int32 → Int32 → Int32 → Int32 → Int32 → Int32 → Int32 → Prop} (hB140 : ∀ M l0 l1 l4 l5 l6 l7 l8 l9 l10 l11 l12, B140 M l0 l1 l4 l5 l6 l7 l8 l9 l10 l11 l12 → E G mi_X7_look K M 0 0 140 [some (.ref l0), some (.int l1), none, none, some (.int l4), some (.int l5), some (.int l6), some (.int l7), some (.int l8), some (.int l9), some (.int l10), some (.int l11), some (.int l12), none] []) {M : Mm} {l0 : Nat} {l1 : Int32} {l4 : Int32} {l5 : Int32} {l6 : Int32} {l7 : Int32} {l8 : Int32} {l9 : Int32} {l10 : Int32} {l11 : Int32} {l12 : Int32} {s0 : Int32} (h : V_X7_look_182 K B140 M l0 l1 l4 l5 l6 l7 l8 l9 l10 l11 l12 s0) : E G mi_X7_look K M 0 0 182 [some (.ref l0), some (.int l1), none, none, some (.int l4), some (.int l5), some (.int l6), some (.int l7), some (.int l8), some (.int l9), some (.int l10), some (.int l11), some (.int l12), none] [.int s0] := by
  unfold V_X7_look_182 at h
  refine e_blk 2 182 _ _ (pc' := 185) (L' := [some (.ref l0), some (.int l1), none, none, some (.int l4), some (.int l5), some (.int l6), some (.int l7), some (.int l8), some (.int l9), some (.int l10), some (.int l11), some (.int l12), some (.int s0)]) (st' := [.ref l0]) rfl ?_
  obtain ⟨ho1, h⟩ := h
  obtain ⟨b2, hbb2, h⟩ := h
  refine e_getR 7 32 rfl rfl (by decide) (aw (i := 1097) (by decide +kernel) rfl) ho1 rfl hbb2 ?_
  refine e_blk 3 188 _ _ (pc' := 191) (L' := [some (.ref l0), some (.int l1), none, none, some (.int l4), some (.int l5), some (.int l6), some (.int l7), some (.int l8), some (.int l9), some (.int l10), some (.int l11), some (.int l12), some (.int s0)]) (st' := [.int ((5 : Int32) * l1), .ref b2]) rfl ?_
  obtain ⟨ho3, h⟩ := h
  obtain ⟨hi4, h⟩ := h
  refine e_lald rfl ho3 hi4 ?_
  refine e_blk 6 192 _ _ (pc' := 199) (L' := [some (.ref l0), some (.int l1), none, none, some (.int l4), some (.int l5), some (.int l6), some (.int l7), some (.int l8), some (.int l9), some (.int l10), some (.int l11), some (.int l12), some (.int s0)]) (st' := [.int (lg_cmp (((mJ M b2 (((5 : Int32) * l1)).toNatClampNeg) >>> ((s0).toInt64 &&& 63)) &&& (1 : Int64)) (1 : Int64))]) rfl ?_
  refine e_if_ne 250 rfl rfl (fun hc => ?_) (fun hc => ?_)
  · replace h := h.1 hc
    refine e_drp [true, true, false, false, true, true, true, true, true, true, true, true, true, false] (L' := [some (.ref l0), some (.int l1), none, none, some (.int l4), some (.int l5), some (.int l6), some (.int l7), some (.int l8), some (.int l9), some (.int l10), some (.int l11), some (.int l12), none]) rfl ?_
    exact x_X7_look_250 hB140 h
  · replace h := h.2 hc
    refine e_blk 2 202 _ _ (pc' := 204) (L' := [some (.ref l0), some (.int l1), none, none, some (.int l4), some (.int l5), some (.int l6), some (.int l7), some (.int l8), some (.int l9), some (.int l10), some (.int l11), some (.int l12), some (.int s0)]) (st' := [.ref l0, .ref l0]) rfl ?_
    refine e_getI 7 49 rfl rfl (by decide) (aw (i := 1114) (by decide +kernel) rfl) ho1 rfl ?_
    refine e_blk 2 207 _ _ (pc' := 209) (L' := [some (.ref l0), some (.int l1), none, none, some (.int l4), some (.int l5), some (.int l6), some (.int l7), some (.int l8), some (.int l9), some (.int l10), some (.int l11), some (.int l12), some (.int s0)]) (st' := [.int ((mI M l0 49) + (1 : Int32)), .ref l0]) rfl ?_
    refine e_putI 7 49 rfl rfl (by decide) (aw (i := 1114) (by decide +kernel) rfl) rfl ho1 rfl ?_
    generalize hM5 : sI M l0 49 ((mI M l0 49) + (1 : Int32)) = M5
    replace h := h M5 hM5.symm
    replace ho1 : ob M5 l0 7 := hM5 ▸ ob_sI ho1
    replace ho3 : ob M5 b2 10 := hM5 ▸ ob_sI ho3
    refine e_blk 8 212 _ _ (pc' := 224) (L' := [some (.ref l0), some (.int l1), none, none, some (.int l4), some (.int l5), some (.int l6), some (.int l7), some (.int l8), some (.int l9), some (.int l10), some (.int l11), some (.int l12), some (.int s0)]) (st' := [.int ((((60 : Int32) * l9) + s0) - l4), .ref l0]) rfl ?_
    refine e_putI 7 51 rfl rfl (by decide) (aw (i := 1116) (by decide +kernel) rfl) rfl ho1 rfl ?_
    generalize hM6 : sI M5 l0 51 ((((60 : Int32) * l9) + s0) - l4) = M6
    replace h := h M6 hM6.symm
    replace ho1 : ob M6 l0 7 := hM6 ▸ ob_sI ho1
    replace ho3 : ob M6 b2 10 := hM6 ▸ ob_sI ho3
    refine e_blk 2 227 _ _ (pc' := 229) (L' := [some (.ref l0), some (.int l1), none, none, some (.int l4), some (.int l5), some (.int l6), some (.int l7), some (.int l8), some (.int l9), some (.int l10), some (.int l11), some (.int l12), some (.int s0)]) (st' := [.ref l0, .ref l0]) rfl ?_
    refine e_getI 7 49 rfl rfl (by decide) (aw (i := 1114) (by decide +kernel) rfl) ho1 rfl ?_
    refine e_blk 1 232 _ _ (pc' := 233) (L' := [some (.ref l0), some (.int l1), none, none, some (.int l4), some (.int l5), some (.int l6), some (.int l7), some (.int l8), some (.int l9), some (.int l10), some (.int l11), some (.int l12), some (.int s0)]) (st' := [.int (1 : Int32), .int (mI M6 l0 49), .ref l0]) rfl ?_
    refine e_icmp_ne 243 rfl rfl (fun hc => ?_) (fun hc => ?_)
    · replace h := h.1 hc
      refine e_blk 1 243 _ _ (pc' := 244) (L' := [some (.ref l0), some (.int l1), none, none, some (.int l4), some (.int l5), some (.int l6), some (.int l7), some (.int l8), some (.int l9), some (.int l10), some (.int l11), some (.int l12), some (.int s0)]) (st' := [.ref l0, .ref l0]) rfl ?_
      refine e_getI 7 50 rfl rfl (by decide) (aw (i := 1115) (by decide +kernel) rfl) ho1 rfl ?_
      refine e_drp [true, true, false, false, true, true, true, true, true, true, true, true, true, false] (L' := [some (.ref l0), some (.int l1), none, none, some (.int l4), some (.int l5), some (.int l6), some (.int l7), some (.int l8), some (.int l9), some (.int l10), some (.int l11), some (.int l12), none]) rfl ?_
      exact x_X7_look_247 hB140 h
    · replace h := h.2 hc
      refine e_blk 1 236 _ _ (pc' := 237) (L' := [some (.ref l0), some (.int l1), none, none, some (.int l4), some (.int l5), some (.int l6), some (.int l7), some (.int l8), some (.int l9), some (.int l10), some (.int l11), some (.int l12), some (.int s0)]) (st' := [.ref l0, .ref l0]) rfl ?_
      refine e_getI 7 51 rfl rfl (by decide) (aw (i := 1116) (by decide +kernel) rfl) ho1 rfl ?_
      refine e_blk 1 240 _ _ (pc' := 247) (L' := [some (.ref l0), some (.int l1), none, none, some (.int l4), some (.int l5), some (.int l6), some (.int l7), some (.int l8), some (.int l9), some (.int l10), some (.int l11), some (.int l12), some (.int s0)]) (st' := [.int (mI M6 l0 51), .ref l0]) rfl ?_
      refine e_drp [true, true, false, false, true, true, true, true, true, true, true, true, true, false] (L' := [some (.ref l0), some (.int l1), none, none, some (.int l4), some (.int l5), some (.int l6), some (.int l7), some (.int l8), some (.int l9), some (.int l10), some (.int l11), some (.int l12), none]) rfl ?_
      exact x_X7_look_247 hB140 h
def V_X7_look_163 (K : Rs → Mm → Prop) (B140 : Mm → Nat → Int32 → Int32 → Int32 → Int32 → Int32 → Int32 → Int32 → Int32 → Int32 → Int32 → Prop) (M : Mm) (l0 : Nat) (l1 : Int32) (l4 : Int32) (l5 : Int32) (l6 : Int32) (l7 : Int32) (l8 : Int32) (l9 : Int32) (l10 : Int32) (l11 : Int32) (l12 : Int32) : Prop := ((¬ l5 = (1 : Int32) → V_X7_look_182 K B140 M l0 l1 l4 l5 l6 l7 l8 l9 l10 l11 l12 (l10 + l12)) ∧ (l5 = (1 : Int32) → V_X7_look_182 K B140 M l0 l1 l4 l5 l6 l7 l8 l9 l10 l11 l12 (l11 - l12)))
set_option maxRecDepth 100000 in
set_option maxHeartbeats 4000000 in
theorem x_X7_look_163 {G : Gx} {K : Rs → Mm → Prop} {B140 : Mm → Nat → Int32 → Int32 → Int32 → Int32 → Int32 → Int32 → Int32 → Int32 → Int32 → Int32 → Prop} (hB140 : ∀ M l0 l1 l4 l5 l6 l7 l8 l9 l10 l11 l12, B140 M l0 l1 l4 l5 l6 l7 l8 l9 l10 l11 l12 → E G mi_X7_look K M 0 0 140 [some (.ref l0), some (.int l1), none, none, some (.int l4), some (.int l5), some (.int l6), some (.int l7), some (.int l8), some (.int l9), some (.int l10), some (.int l11), some (.int l12), none] []) {M : Mm} {l0 : Nat} {l1 : Int32} {l4 : Int32} {l5 : Int32} {l6 : Int32} {l7 : Int32} {l8 : Int32} {l9 : Int32} {l10 : Int32} {l11 : Int32} {l12 : Int32} (h : V_X7_look_163 K B140 M l0 l1 l4 l5 l6 l7 l8 l9 l10 l11 l12) : E G mi_X7_look K M 0 0 163 [some (.ref l0), some (.int l1), none, none, some (.int l4), some (.int l5), some (.int l6), some (.int l7), some (.int l8), some (.int l9), some (.int l10), some (.int l11), some (.int l12), none] [] := by
  unfold V_X7_look_163 at h
  refine e_blk 2 163 _ _ (pc' := 166) (L' := [some (.ref l0), some (.int l1), none, none, some (.int l4), some (.int l5), some (.int l6), some (.int l7), some (.int l8), some (.int l9), some (.int l10), some (.int l11), some (.int l12), none]) (st' := [.int (1 : Int32), .int l5]) rfl ?_
  refine e_icmp_ne 177 rfl rfl (fun hc => ?_) (fun hc => ?_)
  · replace h := h.1 hc
    refine e_blk 3 177 _ _ (pc' := 182) (L' := [some (.ref l0), some (.int l1), none, none, some (.int l4), some (.int l5), some (.int l6), some (.int l7), some (.int l8), some (.int l9), some (.int l10), some (.int l11), some (.int l12), none]) (st' := [.int (l10 + l12)]) rfl ?_
    refine e_drp [true, true, false, false, true, true, true, true, true, true, true, true, true, false] (L' := [some (.ref l0), some (.int l1), none, none, some (.int l4), some (.int l5), some (.int l6), some (.int l7), some (.int l8), some (.int l9), some (.int l10), some (.int l11), some (.int l12), none]) rfl ?_
    exact x_X7_look_182 hB140 h
  · replace h := h.2 hc
    refine e_blk 4 169 _ _ (pc' := 182) (L' := [some (.ref l0), some (.int l1), none, none, some (.int l4), some (.int l5), some (.int l6), some (.int l7), some (.int l8), some (.int l9), some (.int l10), some (.int l11), some (.int l12), none]) (st' := [.int (l11 - l12)]) rfl ?_
    refine e_drp [true, true, false, false, true, true, true, true, true, true, true, true, true, false] (L' := [some (.ref l0), some (.int l1), none, none, some (.int l4), some (.int l5), some (.int l6), some (.int l7), some (.int l8), some (.int l9), some (.int l10), some (.int l11), some (.int l12), none]) rfl ?_
    exact x_X7_look_182 hB140 h
def V_X7_look_140 (K : Rs → Mm → Prop) (B15 : Mm → Nat → Int32 → Int32 → Int32 → Int32 → Int32 → Int32 → Prop) : Nat → Mm → Nat → Int32 → Int32 → Int32 → Int32 → Int32 → Int32 → Int32 → Int32 → Int32 → Int32 → Prop
  | 0, _, _, _, _, _, _, _, _, _, _, _, _ => False
  | z + 1, M, l0, l1, l4, l5, l6, l7, l8, l9, l10, l11, l12 => (((l11 - l10) < l12 → V_X7_look_256 K B15 M l0 l1 l4 l5 l6 l7 l8) ∧ (¬ (l11 - l10) < l12 → ((l5 = (2 : Int32) → V_X7_look_163 K (fun M l0 l1 l4 l5 l6 l7 l8 l9 l10 l11 l12 => V_X7_look_140 K B15 z M l0 l1 l4 l5 l6 l7 l8 l9 l10 l11 l12) M l0 l1 l4 l5 l6 l7 l8 l9 l10 l11 l12) ∧ (¬ l5 = (2 : Int32) → (ob M l0 7 ∧ ((¬ (mI M l0 49) = 0 → V_X7_look_256 K B15 M l0 l1 l4 l5 l6 l7 l8) ∧ ((mI M l0 49) = 0 → V_X7_look_163 K (fun M l0 l1 l4 l5 l6 l7 l8 l9 l10 l11 l12 => V_X7_look_140 K B15 z M l0 l1 l4 l5 l6 l7 l8 l9 l10 l11 l12) M l0 l1 l4 l5 l6 l7 l8 l9 l10 l11 l12)))))))
set_option maxRecDepth 100000 in
set_option maxHeartbeats 4000000 in
theorem x_X7_look_140 {G : Gx} {K : Rs → Mm → Prop} {B15 : Mm → Nat → Int32 → Int32 → Int32 → Int32 → Int32 → Int32 → Prop} (hB15 : ∀ M l0 l1 l4 l5 l6 l7 l8, B15 M l0 l1 l4 l5 l6 l7 l8 → E G mi_X7_look K M 0 0 15 [some (.ref l0), some (.int l1), none, none, some (.int l4), some (.int l5), some (.int l6), some (.int l7), some (.int l8), none, none, none, none, none] []) : ∀ (z : Nat) (M : Mm) (l0 : Nat) (l1 : Int32) (l4 : Int32) (l5 : Int32) (l6 : Int32) (l7 : Int32) (l8 : Int32) (l9 : Int32) (l10 : Int32) (l11 : Int32) (l12 : Int32), V_X7_look_140 K B15 z M l0 l1 l4 l5 l6 l7 l8 l9 l10 l11 l12 → E G mi_X7_look K M 0 0 140 [some (.ref l0), some (.int l1), none, none, some (.int l4), some (.int l5), some (.int l6), some (.int l7), some (.int l8), some (.int l9), some (.int l10), some (.int l11), some (.int l12), none] []
  | 0, M, l0, l1, l4, l5, l6, l7, l8, l9, l10, l11, l12, h => False.elim h
  | z + 1, M, l0, l1, l4, l5, l6, l7, l8, l9, l10, l11, l12, h => by
    unfold V_X7_look_140 at h
    refine e_blk 4 140 _ _ (pc' := 147) (L' := [some (.ref l0), some (.int l1), none, none, some (.int l4), some (.int l5), some (.int l6), some (.int l7), some (.int l8), some (.int l9), some (.int l10), some (.int l11), some (.int l12), none]) (st' := [.int (l11 - l10), .int l12]) rfl ?_
    refine e_icmp_gt 256 rfl rfl (fun hc => ?_) (fun hc => ?_)
    · replace h := h.1 hc
      refine e_drp [true, true, false, false, true, true, true, true, true, false, false, false, false, false] (L' := [some (.ref l0), some (.int l1), none, none, some (.int l4), some (.int l5), some (.int l6), some (.int l7), some (.int l8), none, none, none, none, none]) rfl ?_
      exact x_X7_look_256 hB15 h
    · replace h := h.2 hc
      refine e_blk 2 150 _ _ (pc' := 153) (L' := [some (.ref l0), some (.int l1), none, none, some (.int l4), some (.int l5), some (.int l6), some (.int l7), some (.int l8), some (.int l9), some (.int l10), some (.int l11), some (.int l12), none]) (st' := [.int (2 : Int32), .int l5]) rfl ?_
      refine e_icmp_eq 163 rfl rfl (fun hc => ?_) (fun hc => ?_)
      · replace h := h.1 hc
        refine e_drp [true, true, false, false, true, true, true, true, true, true, true, true, true, false] (L' := [some (.ref l0), some (.int l1), none, none, some (.int l4), some (.int l5), some (.int l6), some (.int l7), some (.int l8), some (.int l9), some (.int l10), some (.int l11), some (.int l12), none]) rfl ?_
        exact x_X7_look_163 (fun M l0 l1 l4 l5 l6 l7 l8 l9 l10 l11 l12 h => x_X7_look_140 hB15 z M l0 l1 l4 l5 l6 l7 l8 l9 l10 l11 l12 h) h
      · replace h := h.2 hc
        refine e_blk 1 156 _ _ (pc' := 157) (L' := [some (.ref l0), some (.int l1), none, none, some (.int l4), some (.int l5), some (.int l6), some (.int l7), some (.int l8), some (.int l9), some (.int l10), some (.int l11), some (.int l12), none]) (st' := [.ref l0]) rfl ?_
        obtain ⟨ho1, h⟩ := h
        refine e_getI 7 49 rfl rfl (by decide) (aw (i := 1114) (by decide +kernel) rfl) ho1 rfl ?_
        refine e_if_ne 256 rfl rfl (fun hc => ?_) (fun hc => ?_)
        · replace h := h.1 hc
          refine e_drp [true, true, false, false, true, true, true, true, true, false, false, false, false, false] (L' := [some (.ref l0), some (.int l1), none, none, some (.int l4), some (.int l5), some (.int l6), some (.int l7), some (.int l8), none, none, none, none, none]) rfl ?_
          exact x_X7_look_256 hB15 h
        · replace h := h.2 hc
          refine e_drp [true, true, false, false, true, true, true, true, true, true, true, true, true, false] (L' := [some (.ref l0), some (.int l1), none, none, some (.int l4), some (.int l5), some (.int l6), some (.int l7), some (.int l8), some (.int l9), some (.int l10), some (.int l11), some (.int l12), none]) rfl ?_
          exact x_X7_look_163 (fun M l0 l1 l4 l5 l6 l7 l8 l9 l10 l11 l12 h => x_X7_look_140 hB15 z M l0 l1 l4 l5 l6 l7 l8 l9 l10 l11 l12 h) h
def V_X7_look_135 (K : Rs → Mm → Prop) (B15 : Mm → Nat → Int32 → Int32 → Int32 → Int32 → Int32 → Int32 → Prop) (M : Mm) (l0 : Nat) (l1 : Int32) (l4 : Int32) (l5 : Int32) (l6 : Int32) (l7 : Int32) (l8 : Int32) (l9 : Int32) (l10 : Int32) (s0 : Int32) : Prop := ∃ y, V_X7_look_140 K B15 y M l0 l1 l4 l5 l6 l7 l8 l9 l10 s0 (0 : Int32)
set_option maxRecDepth 100000 in
set_option maxHeartbeats 4000000 in
theorem x_X7_look_135 {G : Gx} {K : Rs → Mm → Prop} {B15 : Mm → Nat → Int32 → Int32 → Int32 → Int32 → Int32 → Int32 → Prop} (hB15 : ∀ M l0 l1 l4 l5 l6 l7 l8, B15 M l0 l1 l4 l5 l6 l7 l8 → E G mi_X7_look K M 0 0 15 [some (.ref l0), some (.int l1), none, none, some (.int l4), some (.int l5), some (.int l6), some (.int l7), some (.int l8), none, none, none, none, none] []) {M : Mm} {l0 : Nat} {l1 : Int32} {l4 : Int32} {l5 : Int32} {l6 : Int32} {l7 : Int32} {l8 : Int32} {l9 : Int32} {l10 : Int32} {s0 : Int32} (h : V_X7_look_135 K B15 M l0 l1 l4 l5 l6 l7 l8 l9 l10 s0) : E G mi_X7_look K M 0 0 135 [some (.ref l0), some (.int l1), none, none, some (.int l4), some (.int l5), some (.int l6), some (.int l7), some (.int l8), some (.int l9), some (.int l10), none, none, none] [.int s0] := by
  unfold V_X7_look_135 at h
  refine e_blk 3 135 _ _ (pc' := 140) (L' := [some (.ref l0), some (.int l1), none, none, some (.int l4), some (.int l5), some (.int l6), some (.int l7), some (.int l8), some (.int l9), some (.int l10), some (.int s0), some (.int (0 : Int32)), none]) (st' := []) rfl ?_
  refine e_drp [true, true, false, false, true, true, true, true, true, true, true, true, true, false] (L' := [some (.ref l0), some (.int l1), none, none, some (.int l4), some (.int l5), some (.int l6), some (.int l7), some (.int l8), some (.int l9), some (.int l10), some (.int s0), some (.int (0 : Int32)), none]) rfl ?_
  obtain ⟨y, h⟩ := h
  exact x_X7_look_140 hB15 y _ _ _ _ _ _ _ _ _ _ _ _ h
def V_X7_look_113 (K : Rs → Mm → Prop) (B15 : Mm → Nat → Int32 → Int32 → Int32 → Int32 → Int32 → Int32 → Prop) (M : Mm) (l0 : Nat) (l1 : Int32) (l4 : Int32) (l5 : Int32) (l6 : Int32) (l7 : Int32) (l8 : Int32) (l9 : Int32) (s0 : Int32) : Prop := ((¬ l9 = (l7 / (60 : Int32)) → V_X7_look_135 K B15 M l0 l1 l4 l5 l6 l7 l8 l9 s0 (59 : Int32)) ∧ (l9 = (l7 / (60 : Int32)) → V_X7_look_135 K B15 M l0 l1 l4 l5 l6 l7 l8 l9 s0 (l7 - l7 / (60 : Int32) * (60 : Int32))))
set_option maxRecDepth 100000 in
set_option maxHeartbeats 4000000 in
theorem x_X7_look_113 {G : Gx} {K : Rs → Mm → Prop} {B15 : Mm → Nat → Int32 → Int32 → Int32 → Int32 → Int32 → Int32 → Prop} (hB15 : ∀ M l0 l1 l4 l5 l6 l7 l8, B15 M l0 l1 l4 l5 l6 l7 l8 → E G mi_X7_look K M 0 0 15 [some (.ref l0), some (.int l1), none, none, some (.int l4), some (.int l5), some (.int l6), some (.int l7), some (.int l8), none, none, none, none, none] []) {M : Mm} {l0 : Nat} {l1 : Int32} {l4 : Int32} {l5 : Int32} {l6 : Int32} {l7 : Int32} {l8 : Int32} {l9 : Int32} {s0 : Int32} (h : V_X7_look_113 K B15 M l0 l1 l4 l5 l6 l7 l8 l9 s0) : E G mi_X7_look K M 0 0 113 [some (.ref l0), some (.int l1), none, none, some (.int l4), some (.int l5), some (.int l6), some (.int l7), some (.int l8), some (.int l9), none, none, none, none] [.int s0] := by
  unfold V_X7_look_113 at h
  refine e_blk 4 113 _ _ (pc' := 121) (L' := [some (.ref l0), some (.int l1), none, none, some (.int l4), some (.int l5), some (.int l6), some (.int l7), some (.int l8), some (.int l9), some (.int s0), none, none, none]) (st' := [.int (60 : Int32), .int l7, .int l9]) rfl ?_
  refine e_idiv rfl (by decide) ?_
  refine e_icmp_ne 133 rfl rfl (fun hc => ?_) (fun hc => ?_)
  · replace h := h.1 hc
    refine e_blk 1 133 _ _ (pc' := 135) (L' := [some (.ref l0), some (.int l1), none, none, some (.int l4), some (.int l5), some (.int l6), some (.int l7), some (.int l8), some (.int l9), some (.int s0), none, none, none]) (st' := [.int (59 : Int32)]) rfl ?_
    refine e_drp [true, true, false, false, true, true, true, true, true, true, true, false, false, false] (L' := [some (.ref l0), some (.int l1), none, none, some (.int l4), some (.int l5), some (.int l6), some (.int l7), some (.int l8), some (.int l9), some (.int s0), none, none, none]) rfl ?_
    exact x_X7_look_135 hB15 h
  · replace h := h.2 hc
    refine e_blk 2 125 _ _ (pc' := 129) (L' := [some (.ref l0), some (.int l1), none, none, some (.int l4), some (.int l5), some (.int l6), some (.int l7), some (.int l8), some (.int l9), some (.int s0), none, none, none]) (st' := [.int (60 : Int32), .int l7]) rfl ?_
    refine e_irem rfl (by decide) ?_
    refine e_blk 1 130 _ _ (pc' := 135) (L' := [some (.ref l0), some (.int l1), none, none, some (.int l4), some (.int l5), some (.int l6), some (.int l7), some (.int l8), some (.int l9), some (.int s0), none, none, none]) (st' := [.int (l7 - l7 / (60 : Int32) * (60 : Int32))]) rfl ?_
    refine e_drp [true, true, false, false, true, true, true, true, true, true, true, false, false, false] (L' := [some (.ref l0), some (.int l1), none, none, some (.int l4), some (.int l5), some (.int l6), some (.int l7), some (.int l8), some (.int l9), some (.int s0), none, none, none]) rfl ?_
    exact x_X7_look_135 hB15 h
def V_X7_look_69 (K : Rs → Mm → Prop) (B15 : Mm → Nat → Int32 → Int32 → Int32 → Int32 → Int32 → Int32 → Prop) (M : Mm) (l0 : Nat) (l1 : Int32) (l4 : Int32) (l5 : Int32) (l6 : Int32) (l7 : Int32) (l8 : Int32) (s0 : Int32) : Prop := (ob M l0 7 ∧ ∃ b2, mP M l0 32 = some b2 ∧ (ob M b2 10 ∧ (vp_in (((5 : Int32) * l1) + (1 : Int32)) (mN M b2) ∧ ((¬ (lg_cmp (((mJ M b2 ((((5 : Int32) * l1) + (1 : Int32))).toNatClampNeg) >>> ((s0).toInt64 &&& 63)) &&& (1 : Int64)) (0 : Int64)) = 0 → ((¬ s0 = (l6 / (60 : Int32)) → V_X7_look_113 K B15 M l0 l1 l4 l5 l6 l7 l8 s0 (0 : Int32)) ∧ (s0 = (l6 / (60 : Int32)) → V_X7_look_113 K B15 M l0 l1 l4 l5 l6 l7 l8 s0 (l6 - l6 / (60 : Int32) * (60 : Int32))))) ∧ ((lg_cmp (((mJ M b2 ((((5 : Int32) * l1) + (1 : Int32))).toNatClampNeg) >>> ((s0).toInt64 &&& 63)) &&& (1 : Int64)) (0 : Int64)) = 0 → V_X7_look_256 K B15 M l0 l1 l4 l5 l6 l7 l8)))))
set_option maxRecDepth 100000 in
set_option maxHeartbeats 4000000 in
theorem x_X7_look_69 {G : Gx} {K : Rs → Mm → Prop} {B15 : Mm → Nat → Int32 → Int32 → Int32 → Int32 → Int32 → Int32 → Prop} (hB15 : ∀ M l0 l1 l4 l5 l6 l7 l8, B15 M l0 l1 l4 l5 l6 l7 l8 → E G mi_X7_look K M 0 0 15 [some (.ref l0), some (.int l1), none, none, some (.int l4), some (.int l5), some (.int l6), some (.int l7), some (.int l8), none, none, none, none, none] []) {M : Mm} {l0 : Nat} {l1 : Int32} {l4 : Int32} {l5 : Int32} {l6 : Int32} {l7 : Int32} {l8 : Int32} {s0 : Int32} (h : V_X7_look_69 K B15 M l0 l1 l4 l5 l6 l7 l8 s0) : E G mi_X7_look K M 0 0 69 [some (.ref l0), some (.int l1), none, none, some (.int l4), some (.int l5), some (.int l6), some (.int l7), some (.int l8), none, none, none, none, none] [.int s0] := by
  unfold V_X7_look_69 at h
  refine e_blk 2 69 _ _ (pc' := 72) (L' := [some (.ref l0), some (.int l1), none, none, some (.int l4), some (.int l5), some (.int l6), some (.int l7), some (.int l8), some (.int s0), none, none, none, none]) (st' := [.ref l0]) rfl ?_
  obtain ⟨ho1, h⟩ := h
  obtain ⟨b2, hbb2, h⟩ := h
  refine e_getR 7 32 rfl rfl (by decide) (aw (i := 1097) (by decide +kernel) rfl) ho1 rfl hbb2 ?_
  refine e_blk 5 75 _ _ (pc' := 80) (L' := [some (.ref l0), some (.int l1), none, none, some (.int l4), some (.int l5), some (.int l6), some (.int l7), some (.int l8), some (.int s0), none, none, none, none]) (st' := [.int (((5 : Int32) * l1) + (1 : Int32)), .ref b2]) rfl ?_
  obtain ⟨ho3, h⟩ := h
  obtain ⟨hi4, h⟩ := h
  refine e_lald rfl ho3 hi4 ?_
  refine e_blk 6 81 _ _ (pc' := 88) (L' := [some (.ref l0), some (.int l1), none, none, some (.int l4), some (.int l5), some (.int l6), some (.int l7), some (.int l8), some (.int s0), none, none, none, none]) (st' := [.int (lg_cmp (((mJ M b2 ((((5 : Int32) * l1) + (1 : Int32))).toNatClampNeg) >>> ((s0).toInt64 &&& 63)) &&& (1 : Int64)) (0 : Int64))]) rfl ?_
  refine e_if_ne 94 rfl rfl (fun hc => ?_) (fun hc => ?_)
  · replace h := h.1 hc
    refine e_blk 3 94 _ _ (pc' := 100) (L' := [some (.ref l0), some (.int l1), none, none, some (.int l4), some (.int l5), some (.int l6), some (.int l7), some (.int l8), some (.int s0), none, none, none, none]) (st' := [.int (60 : Int32), .int l6, .int s0]) rfl ?_
    refine e_idiv rfl (by decide) ?_
    refine e_icmp_ne 112 rfl rfl (fun hc => ?_) (fun hc => ?_)
    · replace h := h.1 hc
      refine e_blk 1 112 _ _ (pc' := 113) (L' := [some (.ref l0), some (.int l1), none, none, some (.int l4), some (.int l5), some (.int l6), some (.int l7), some (.int l8), some (.int s0), none, none, none, none]) (st' := [.int (0 : Int32)]) rfl ?_
      refine e_drp [true, true, false, false, true, true, true, true, true, true, false, false, false, false] (L' := [some (.ref l0), some (.int l1), none, none, some (.int l4), some (.int l5), some (.int l6), some (.int l7), some (.int l8), some (.int s0), none, none, none, none]) rfl ?_
      exact x_X7_look_113 hB15 h
    · replace h := h.2 hc
      refine e_blk 2 104 _ _ (pc' := 108) (L' := [some (.ref l0), some (.int l1), none, none, some (.int l4), some (.int l5), some (.int l6), some (.int l7), some (.int l8), some (.int s0), none, none, none, none]) (st' := [.int (60 : Int32), .int l6]) rfl ?_
      refine e_irem rfl (by decide) ?_
      refine e_blk 1 109 _ _ (pc' := 113) (L' := [some (.ref l0), some (.int l1), none, none, some (.int l4), some (.int l5), some (.int l6), some (.int l7), some (.int l8), some (.int s0), none, none, none, none]) (st' := [.int (l6 - l6 / (60 : Int32) * (60 : Int32))]) rfl ?_
      refine e_drp [true, true, false, false, true, true, true, true, true, true, false, false, false, false] (L' := [some (.ref l0), some (.int l1), none, none, some (.int l4), some (.int l5), some (.int l6), some (.int l7), some (.int l8), some (.int s0), none, none, none, none]) rfl ?_
      exact x_X7_look_113 hB15 h
  · replace h := h.2 hc
    refine e_blk 1 91 _ _ (pc' := 256) (L' := [some (.ref l0), some (.int l1), none, none, some (.int l4), some (.int l5), some (.int l6), some (.int l7), some (.int l8), some (.int s0), none, none, none, none]) (st' := []) rfl ?_
    refine e_drp [true, true, false, false, true, true, true, true, true, false, false, false, false, false] (L' := [some (.ref l0), some (.int l1), none, none, some (.int l4), some (.int l5), some (.int l6), some (.int l7), some (.int l8), none, none, none, none, none]) rfl ?_
    exact x_X7_look_256 hB15 h
def V_X7_look_44 (K : Rs → Mm → Prop) (B15 : Mm → Nat → Int32 → Int32 → Int32 → Int32 → Int32 → Int32 → Prop) (M : Mm) (l0 : Nat) (l1 : Int32) (l4 : Int32) (l5 : Int32) (l6 : Int32) (l7 : Int32) (l8 : Int32) : Prop := ((¬ l5 = (1 : Int32) → V_X7_look_69 K B15 M l0 l1 l4 l5 l6 l7 l8 ((l6 / (60 : Int32)) + l8)) ∧ (l5 = (1 : Int32) → V_X7_look_69 K B15 M l0 l1 l4 l5 l6 l7 l8 ((l7 / (60 : Int32)) - l8)))
set_option maxRecDepth 100000 in
set_option maxHeartbeats 4000000 in
theorem x_X7_look_44 {G : Gx} {K : Rs → Mm → Prop} {B15 : Mm → Nat → Int32 → Int32 → Int32 → Int32 → Int32 → Int32 → Prop} (hB15 : ∀ M l0 l1 l4 l5 l6 l7 l8, B15 M l0 l1 l4 l5 l6 l7 l8 → E G mi_X7_look K M 0 0 15 [some (.ref l0), some (.int l1), none, none, some (.int l4), some (.int l5), some (.int l6), some (.int l7), some (.int l8), none, none, none, none, none] []) {M : Mm} {l0 : Nat} {l1 : Int32} {l4 : Int32} {l5 : Int32} {l6 : Int32} {l7 : Int32} {l8 : Int32} (h : V_X7_look_44 K B15 M l0 l1 l4 l5 l6 l7 l8) : E G mi_X7_look K M 0 0 44 [some (.ref l0), some (.int l1), none, none, some (.int l4), some (.int l5), some (.int l6), some (.int l7), some (.int l8), none, none, none, none, none] [] := by
  unfold V_X7_look_44 at h
  refine e_blk 2 44 _ _ (pc' := 47) (L' := [some (.ref l0), some (.int l1), none, none, some (.int l4), some (.int l5), some (.int l6), some (.int l7), some (.int l8), none, none, none, none, none]) (st' := [.int (1 : Int32), .int l5]) rfl ?_
  refine e_icmp_ne 61 rfl rfl (fun hc => ?_) (fun hc => ?_)
  · replace h := h.1 hc
    refine e_blk 2 61 _ _ (pc' := 65) (L' := [some (.ref l0), some (.int l1), none, none, some (.int l4), some (.int l5), some (.int l6), some (.int l7), some (.int l8), none, none, none, none, none]) (st' := [.int (60 : Int32), .int l6]) rfl ?_
    refine e_idiv rfl (by decide) ?_
    refine e_blk 2 66 _ _ (pc' := 69) (L' := [some (.ref l0), some (.int l1), none, none, some (.int l4), some (.int l5), some (.int l6), some (.int l7), some (.int l8), none, none, none, none, none]) (st' := [.int ((l6 / (60 : Int32)) + l8)]) rfl ?_
    refine e_drp [true, true, false, false, true, true, true, true, true, false, false, false, false, false] (L' := [some (.ref l0), some (.int l1), none, none, some (.int l4), some (.int l5), some (.int l6), some (.int l7), some (.int l8), none, none, none, none, none]) rfl ?_
    exact x_X7_look_69 hB15 h
  · replace h := h.2 hc
    refine e_blk 2 50 _ _ (pc' := 54) (L' := [some (.ref l0), some (.int l1), none, none, some (.int l4), some (.int l5), some (.int l6), some (.int l7), some (.int l8), none, none, none, none, none]) (st' := [.int (60 : Int32), .int l7]) rfl ?_
    refine e_idiv rfl (by decide) ?_
    refine e_blk 3 55 _ _ (pc' := 69) (L' := [some (.ref l0), some (.int l1), none, none, some (.int l4), some (.int l5), some (.int l6), some (.int l7), some (.int l8), none, none, none, none, none]) (st' := [.int ((l7 / (60 : Int32)) - l8)]) rfl ?_
    refine e_drp [true, true, false, false, true, true, true, true, true, false, false, false, false, false] (L' := [some (.ref l0), some (.int l1), none, none, some (.int l4), some (.int l5), some (.int l6), some (.int l7), some (.int l8), none, none, none, none, none]) rfl ?_
    exact x_X7_look_69 hB15 h
def V_X7_look_15 (K : Rs → Mm → Prop)  : Nat → Mm → Nat → Int32 → Int32 → Int32 → Int32 → Int32 → Int32 → Prop
  | 0, _, _, _, _, _, _, _, _ => False
  | z + 1, M, l0, l1, l4, l5, l6, l7, l8 => ((((l7 / (60 : Int32)) - (l6 / (60 : Int32))) < l8 → V_X7_look_262 K  M ) ∧ (¬ ((l7 / (60 : Int32)) - (l6 / (60 : Int32))) < l8 → ((l5 = (2 : Int32) → V_X7_look_44 K (fun M l0 l1 l4 l5 l6 l7 l8 => V_X7_look_15 K  z M l0 l1 l4 l5 l6 l7 l8) M l0 l1 l4 l5 l6 l7 l8) ∧ (¬ l5 = (2 : Int32) → (ob M l0 7 ∧ ((¬ (mI M l0 49) = 0 → V_X7_look_262 K  M ) ∧ ((mI M l0 49) = 0 → V_X7_look_44 K (fun M l0 l1 l4 l5 l6 l7 l8 => V_X7_look_15 K  z M l0 l1 l4 l5 l6 l7 l8) M l0 l1 l4 l5 l6 l7 l8)))))))
set_option maxRecDepth 100000 in
set_option maxHeartbeats 4000000 in
theorem x_X7_look_15 {G : Gx} {K : Rs → Mm → Prop}  : ∀ (z : Nat) (M : Mm) (l0 : Nat) (l1 : Int32) (l4 : Int32) (l5 : Int32) (l6 : Int32) (l7 : Int32) (l8 : Int32), V_X7_look_15 K  z M l0 l1 l4 l5 l6 l7 l8 → E G mi_X7_look K M 0 0 15 [some (.ref l0), some (.int l1), none, none, some (.int l4), some (.int l5), some (.int l6), some (.int l7), some (.int l8), none, none, none, none, none] []
  | 0, M, l0, l1, l4, l5, l6, l7, l8, h => False.elim h
  | z + 1, M, l0, l1, l4, l5, l6, l7, l8, h => by
    unfold V_X7_look_15 at h
    refine e_blk 3 15 _ _ (pc' := 21) (L' := [some (.ref l0), some (.int l1), none, none, some (.int l4), some (.int l5), some (.int l6), some (.int l7), some (.int l8), none, none, none, none, none]) (st' := [.int (60 : Int32), .int l7, .int l8]) rfl ?_
    refine e_idiv rfl (by decide) ?_
    refine e_blk 2 22 _ _ (pc' := 26) (L' := [some (.ref l0), some (.int l1), none, none, some (.int l4), some (.int l5), some (.int l6), some (.int l7), some (.int l8), none, none, none, none, none]) (st' := [.int (60 : Int32), .int l6, .int (l7 / (60 : Int32)), .int l8]) rfl ?_
    refine e_idiv rfl (by decide) ?_
    refine e_blk 1 27 _ _ (pc' := 28) (L' := [some (.ref l0), some (.int l1), none, none, some (.int l4), some (.int l5), some (.int l6), some (.int l7), some (.int l8), none, none, none, none, none]) (st' := [.int ((l7 / (60 : Int32)) - (l6 / (60 : Int32))), .int l8]) rfl ?_
    refine e_icmp_gt 262 rfl rfl (fun hc => ?_) (fun hc => ?_)
    · replace h := h.1 hc
      refine e_drp [false, false, false, false, false, false, false, false, false, false, false, false, false, false] (L' := [none, none, none, none, none, none, none, none, none, none, none, none, none, none]) rfl ?_
      exact x_X7_look_262  h
    · replace h := h.2 hc
      refine e_blk 2 31 _ _ (pc' := 34) (L' := [some (.ref l0), some (.int l1), none, none, some (.int l4), some (.int l5), some (.int l6), some (.int l7), some (.int l8), none, none, none, none, none]) (st' := [.int (2 : Int32), .int l5]) rfl ?_
      refine e_icmp_eq 44 rfl rfl (fun hc => ?_) (fun hc => ?_)
      · replace h := h.1 hc
        refine e_drp [true, true, false, false, true, true, true, true, true, false, false, false, false, false] (L' := [some (.ref l0), some (.int l1), none, none, some (.int l4), some (.int l5), some (.int l6), some (.int l7), some (.int l8), none, none, none, none, none]) rfl ?_
        exact x_X7_look_44 (fun M l0 l1 l4 l5 l6 l7 l8 h => x_X7_look_15  z M l0 l1 l4 l5 l6 l7 l8 h) h
      · replace h := h.2 hc
        refine e_blk 1 37 _ _ (pc' := 38) (L' := [some (.ref l0), some (.int l1), none, none, some (.int l4), some (.int l5), some (.int l6), some (.int l7), some (.int l8), none, none, none, none, none]) (st' := [.ref l0]) rfl ?_
        obtain ⟨ho1, h⟩ := h
        refine e_getI 7 49 rfl rfl (by decide) (aw (i := 1114) (by decide +kernel) rfl) ho1 rfl ?_
        refine e_if_ne 262 rfl rfl (fun hc => ?_) (fun hc => ?_)
        · replace h := h.1 hc
          refine e_drp [false, false, false, false, false, false, false, false, false, false, false, false, false, false] (L' := [none, none, none, none, none, none, none, none, none, none, none, none, none, none]) rfl ?_
          exact x_X7_look_262  h
        · replace h := h.2 hc
          refine e_drp [true, true, false, false, true, true, true, true, true, false, false, false, false, false] (L' := [some (.ref l0), some (.int l1), none, none, some (.int l4), some (.int l5), some (.int l6), some (.int l7), some (.int l8), none, none, none, none, none]) rfl ?_
          exact x_X7_look_44 (fun M l0 l1 l4 l5 l6 l7 l8 h => x_X7_look_15  z M l0 l1 l4 l5 l6 l7 l8 h) h
def V_X7_look (K : Rs → Mm → Prop) (M : Mm) (a0 : Nat) (a1 : Int32) (a2 : Int32) (a3 : Int32) (a4 : Int32) (a5 : Int32) : Prop := ∀ x1 : Int32, x1 = (a2 + a4) → ∀ x2 : Int32, x2 = (a3 + a4) → ∃ y, V_X7_look_15 K  y M a0 a1 a4 a5 x1 x2 (0 : Int32)
set_option maxRecDepth 100000 in
set_option maxHeartbeats 4000000 in
theorem x_X7_look {G : Gx} {K : Rs → Mm → Prop} {M : Mm} {a0 : Nat} {a1 : Int32} {a2 : Int32} {a3 : Int32} {a4 : Int32} {a5 : Int32} (h : V_X7_look K M a0 a1 a2 a3 a4 a5) : MC G mi_X7_look [.ref a0, .int a1, .int a2, .int a3, .int a4, .int a5] M K := by
  unfold V_X7_look at h
  refine mc_of rfl (by decide +kernel) dc_X7_look (Nat.le_of_ble_eq_true rfl) 8 (Nat.le_of_ble_eq_true rfl) ?_
  show E G mi_X7_look K M 0 0 0 [some (.ref a0), some (.int a1), some (.int a2), some (.int a3), some (.int a4), some (.int a5), none, none, none, none, none, none, none, none] []
  refine e_blk 10 0 _ _ (pc' := 15) (L' := [some (.ref a0), some (.int a1), some (.int a2), some (.int a3), some (.int a4), some (.int a5), some (.int (a2 + a4)), some (.int (a3 + a4)), some (.int (0 : Int32)), none, none, none, none, none]) (st' := []) rfl ?_
  generalize hx_x1 : ((a2 + a4) : Int32) = x1
  replace h := h x1 hx_x1.symm
  generalize hx_x2 : ((a3 + a4) : Int32) = x2
  replace h := h x2 hx_x2.symm
  refine e_drp [true, true, false, false, true, true, true, true, true, false, false, false, false, false] (L' := [some (.ref a0), some (.int a1), none, none, some (.int a4), some (.int a5), some (.int x1), some (.int x2), some (.int (0 : Int32)), none, none, none, none, none]) rfl ?_
  obtain ⟨y, h⟩ := h
  exact x_X7_look_15  y _ _ _ _ _ _ _ _ h
