def is_X6_zoneOf : List (Instr × Nat) := [(.iload_n 1, 1), (.ifCond .lt 8, 3), (.iload_n 1, 1), (.iconst 4, 1), (.if_icmp .lt 14, 3), (.new 291, 3), (.dup, 1), (.ldc_w 311, 3), (.invokespecial 295, 3), (.athrow, 1), (.aload_n 0, 1), (.getfield 18, 3), (.iload_n 1, 1), (.aaload, 1), (.areturn, 1)]
abbrev mi_X6_zoneOf : MI := (yX6_zoneOf, cX6_zoneOf, 2, (some (.object "CalendarOrders$Zone")), [], { frames := 6, cells := 1, slots := 6, locals := 90 }, is_X6_zoneOf)
theorem dc_X6_zoneOf : dcb cX6_zoneOf is_X6_zoneOf 0 = true := by decide +kernel
theorem wc_X6_zoneOf : cdw mi_X6_zoneOf ∈ ALLW := aw (i := 381) (by decide +kernel) rfl
theorem wi_X6_zoneOf : Cond.initialized (miY mi_X6_zoneOf).cls ∈ ALLW := aw (i := 57) (by decide +kernel) rfl
theorem wn_X6_zoneOf : Cond.instanceMethod (miY mi_X6_zoneOf) ∈ ALLW := aw (i := 380) (by decide +kernel) rfl
theorem wv_X6_zoneOf : Cond.selects (miY mi_X6_zoneOf).cls (miY mi_X6_zoneOf) (miY mi_X6_zoneOf) ∈ ALLW := aw (i := 0) (by decide +kernel) rfl
def is_X6_checkOffset : List (Instr × Nat) := [(.iload_n 0, 1), (.sipush (-1439), 3), (.if_icmp .lt 10, 3), (.iload_n 0, 1), (.sipush 1439, 3), (.if_icmp .le 14, 3), (.new 67, 3), (.dup, 1), (.ldc_w 315, 3), (.invokespecial 71, 3), (.athrow, 1), (.return_, 1)]
abbrev mi_X6_checkOffset : MI := (yX6_checkOffset, cX6_checkOffset, 1, none, [], { frames := 6, cells := 1, slots := 6, locals := 90 }, is_X6_checkOffset)
theorem dc_X6_checkOffset : dcb cX6_checkOffset is_X6_checkOffset 0 = true := by decide +kernel
theorem wc_X6_checkOffset : cdw mi_X6_checkOffset ∈ ALLW := aw (i := 452) (by decide +kernel) rfl
theorem wi_X6_checkOffset : Cond.initialized (miY mi_X6_checkOffset).cls ∈ ALLW := aw (i := 57) (by decide +kernel) rfl
theorem ws_X6_checkOffset : Cond.static (miY mi_X6_checkOffset) ∈ ALLW := aw (i := 451) (by decide +kernel) rfl
def is_X6_zone : List (Instr × Nat) := [(.aload_n 0, 1), (.iload_n 1, 1), (.invokevirtual 50, 3), (.astore_n 3, 1), (.iload_n 2, 1), (.invokestatic 54, 3), (.aload_n 3, 1), (.iload_n 2, 1), (.invokevirtual 57, 3), (.return_, 1)]
abbrev mi_X6_zone : MI := (yX6_zone, cX6_zone, 4, none, [], { frames := 7, cells := 2, slots := 12, locals := 111 }, is_X6_zone)
theorem dc_X6_zone : dcb cX6_zone is_X6_zone 0 = true := by decide +kernel
theorem wc_X6_zone : cdw mi_X6_zone ∈ ALLW := aw (i := 377) (by decide +kernel) rfl
theorem wi_X6_zone : Cond.initialized (miY mi_X6_zone).cls ∈ ALLW := aw (i := 57) (by decide +kernel) rfl
theorem wn_X6_zone : Cond.instanceMethod (miY mi_X6_zone) ∈ ALLW := aw (i := 375) (by decide +kernel) rfl
theorem wv_X6_zone : Cond.selects (miY mi_X6_zone).cls (miY mi_X6_zone) (miY mi_X6_zone) ∈ ALLW := aw (i := 376) (by decide +kernel) rfl
def is_X6_checkMinute : List (Instr × Nat) := [(.iload_n 0, 1), (.ifCond .lt 9, 3), (.iload_n 0, 1), (.ldc 244, 2), (.if_icmp .le 14, 3), (.new 67, 3), (.dup, 1), (.ldc_w 317, 3), (.invokespecial 71, 3), (.athrow, 1), (.return_, 1)]
abbrev mi_X6_checkMinute : MI := (yX6_checkMinute, cX6_checkMinute, 1, none, [], { frames := 6, cells := 1, slots := 6, locals := 90 }, is_X6_checkMinute)
theorem dc_X6_checkMinute : dcb cX6_checkMinute is_X6_checkMinute 0 = true := by decide +kernel
theorem wc_X6_checkMinute : cdw mi_X6_checkMinute ∈ ALLW := aw (i := 483) (by decide +kernel) rfl
theorem wi_X6_checkMinute : Cond.initialized (miY mi_X6_checkMinute).cls ∈ ALLW := aw (i := 57) (by decide +kernel) rfl
theorem ws_X6_checkMinute : Cond.static (miY mi_X6_checkMinute) ∈ ALLW := aw (i := 482) (by decide +kernel) rfl
def is_X6_change : List (Instr × Nat) := [(.aload_n 0, 1), (.iload_n 1, 1), (.invokevirtual 50, 3), (.astore 4, 2), (.iload_n 2, 1), (.invokestatic 60, 3), (.iload_n 3, 1), (.invokestatic 54, 3), (.aload 4, 2), (.iload_n 2, 1), (.invokevirtual 63, 3), (.ifCond .ne 13, 3), (.new 67, 3), (.dup, 1), (.ldc 69, 2), (.invokespecial 71, 3), (.athrow, 1), (.aload 4, 2), (.getfield 74, 3), (.bipush 20, 2), (.if_icmp .lt 13, 3), (.new 78, 3), (.dup, 1), (.ldc 80, 2), (.invokespecial 82, 3), (.athrow, 1), (.aload 4, 2), (.iload_n 2, 1), (.iload_n 3, 1), (.invokevirtual 83, 3), (.aload 4, 2), (.getfield 74, 3), (.ireturn, 1)]
abbrev mi_X6_change : MI := (yX6_change, cX6_change, 5, (some .int), [], { frames := 7, cells := 5, slots := 30, locals := 111 }, is_X6_change)
theorem dc_X6_change : dcb cX6_change is_X6_change 0 = true := by decide +kernel
theorem wc_X6_change : cdw mi_X6_change ∈ ALLW := aw (i := 480) (by decide +kernel) rfl
theorem wi_X6_change : Cond.initialized (miY mi_X6_change).cls ∈ ALLW := aw (i := 57) (by decide +kernel) rfl
theorem wn_X6_change : Cond.instanceMethod (miY mi_X6_change) ∈ ALLW := aw (i := 478) (by decide +kernel) rfl
theorem wv_X6_change : Cond.selects (miY mi_X6_change).cls (miY mi_X6_change) (miY mi_X6_change) ∈ ALLW := aw (i := 479) (by decide +kernel) rfl
def is_X6_checkWhat : List (Instr × Nat) := [(.iload_n 0, 1), (.ifCond .lt 8, 3), (.iload_n 0, 1), (.iload_n 1, 1), (.if_icmp .le 14, 3), (.new 67, 3), (.dup, 1), (.ldc_w 321, 3), (.invokespecial 71, 3), (.athrow, 1), (.return_, 1)]
abbrev mi_X6_checkWhat : MI := (yX6_checkWhat, cX6_checkWhat, 2, none, [], { frames := 6, cells := 1, slots := 6, locals := 90 }, is_X6_checkWhat)
theorem dc_X6_checkWhat : dcb cX6_checkWhat is_X6_checkWhat 0 = true := by decide +kernel
theorem wc_X6_checkWhat : cdw mi_X6_checkWhat ∈ ALLW := aw (i := 520) (by decide +kernel) rfl
theorem wi_X6_checkWhat : Cond.initialized (miY mi_X6_checkWhat).cls ∈ ALLW := aw (i := 57) (by decide +kernel) rfl
theorem ws_X6_checkWhat : Cond.static (miY mi_X6_checkWhat) ∈ ALLW := aw (i := 519) (by decide +kernel) rfl
def is_X6_civil : List (Instr × Nat) := [(.aload_n 0, 1), (.iload_n 1, 1), (.invokevirtual 50, 3), (.astore 4, 2), (.iload_n 2, 1), (.invokestatic 60, 3), (.iload_n 3, 1), (.bipush 7, 2), (.invokestatic 87, 3), (.iload_n 2, 1), (.aload 4, 2), (.iload_n 2, 1), (.invokevirtual 90, 3), (.iadd, 1), (.istore 5, 2), (.iload 5, 2), (.sipush 1440, 3), (.invokestatic 94, 3), (.istore 6, 2), (.iload 5, 2), (.iload 6, 2), (.sipush 1440, 3), (.imul, 1), (.isub, 1), (.istore 7, 2), (.aload_n 0, 1), (.getfield 12, 3), (.iload 6, 2), (.invokevirtual 100, 3), (.iload_n 3, 1), (.tableswitch 115 0 6 #[42, 50, 58, 66, 87, 93, 99], 42), (.aload_n 0, 1), (.getfield 12, 3), (.getfield 103, 3), (.ireturn, 1), (.aload_n 0, 1), (.getfield 12, 3), (.getfield 106, 3), (.ireturn, 1), (.aload_n 0, 1), (.getfield 12, 3), (.getfield 109, 3), (.ireturn, 1), (.aload_n 0, 1), (.getfield 12, 3), (.getfield 112, 3), (.aload_n 0, 1), (.getfield 12, 3), (.getfield 109, 3), (.iadd, 1), (.iconst 1, 1), (.isub, 1), (.bipush 7, 2), (.irem, 1), (.ireturn, 1), (.iload 7, 2), (.bipush 60, 2), (.idiv, 1), (.ireturn, 1), (.iload 7, 2), (.bipush 60, 2), (.irem, 1), (.ireturn, 1), (.iload 6, 2), (.aload_n 0, 1), (.getfield 12, 3), (.getfield 103, 3), (.invokestatic 115, 3), (.isub, 1), (.iconst 1, 1), (.iadd, 1), (.ireturn, 1), (.aload_n 0, 1), (.getfield 12, 3), (.getfield 118, 3), (.ireturn, 1)]
abbrev mi_X6_civil : MI := (yX6_civil, cX6_civil, 8, (some .int), [], { frames := 7, cells := 3, slots := 18, locals := 111 }, is_X6_civil)
theorem dc_X6_civil : dcb cX6_civil is_X6_civil 0 = true := by decide +kernel
theorem wc_X6_civil : cdw mi_X6_civil ∈ ALLW := aw (i := 517) (by decide +kernel) rfl
theorem wi_X6_civil : Cond.initialized (miY mi_X6_civil).cls ∈ ALLW := aw (i := 57) (by decide +kernel) rfl
theorem wn_X6_civil : Cond.instanceMethod (miY mi_X6_civil) ∈ ALLW := aw (i := 515) (by decide +kernel) rfl
theorem wv_X6_civil : Cond.selects (miY mi_X6_civil).cls (miY mi_X6_civil) (miY mi_X6_civil) ∈ ALLW := aw (i := 516) (by decide +kernel) rfl
def is_X6_checkDate : List (Instr × Nat) := [(.iload_n 0, 1), (.sipush 1899, 3), (.if_icmp .lt 35, 3), (.iload_n 0, 1), (.sipush 2200, 3), (.if_icmp .gt 28, 3), (.iload_n 1, 1), (.iconst 1, 1), (.if_icmp .lt 23, 3), (.iload_n 1, 1), (.bipush 12, 2), (.if_icmp .gt 17, 3), (.iload_n 2, 1), (.iconst 1, 1), (.if_icmp .lt 12, 3), (.iload_n 2, 1), (.iload_n 0, 1), (.iload_n 1, 1), (.invokestatic 323, 3), (.if_icmp .le 14, 3), (.new 67, 3), (.dup, 1), (.ldc_w 326, 3), (.invokespecial 71, 3), (.athrow, 1), (.return_, 1)]
abbrev mi_X6_checkDate : MI := (yX6_checkDate, cX6_checkDate, 3, none, [], { frames := 6, cells := 1, slots := 6, locals := 90 }, is_X6_checkDate)
theorem dc_X6_checkDate : dcb cX6_checkDate is_X6_checkDate 0 = true := by decide +kernel
theorem wc_X6_checkDate : cdw mi_X6_checkDate ∈ ALLW := aw (i := 557) (by decide +kernel) rfl
theorem wi_X6_checkDate : Cond.initialized (miY mi_X6_checkDate).cls ∈ ALLW := aw (i := 57) (by decide +kernel) rfl
theorem ws_X6_checkDate : Cond.static (miY mi_X6_checkDate) ∈ ALLW := aw (i := 556) (by decide +kernel) rfl
def is_X6_minute : List (Instr × Nat) := [(.aload_n 0, 1), (.iload_n 1, 1), (.invokevirtual 50, 3), (.astore 7, 2), (.iload_n 2, 1), (.iload_n 3, 1), (.iload 4, 2), (.invokestatic 121, 3), (.iload 5, 2), (.ifCond .lt 22, 3), (.iload 5, 2), (.bipush 23, 2), (.if_icmp .gt 15, 3), (.iload 6, 2), (.ifCond .lt 10, 3), (.iload 6, 2), (.bipush 59, 2), (.if_icmp .le 13, 3), (.new 67, 3), (.dup, 1), (.ldc 125, 2), (.invokespecial 71, 3), (.athrow, 1), (.iload_n 2, 1), (.iload_n 3, 1), (.invokestatic 127, 3), (.iload 4, 2), (.iadd, 1), (.iconst 1, 1), (.isub, 1), (.istore 8, 2), (.aload 7, 2), (.iload 8, 2), (.sipush 1440, 3), (.imul, 1), (.iload 5, 2), (.bipush 60, 2), (.imul, 1), (.iadd, 1), (.iload 6, 2), (.iadd, 1), (.invokevirtual 130, 3), (.ireturn, 1)]
abbrev mi_X6_minute : MI := (yX6_minute, cX6_minute, 9, (some .int), [], { frames := 7, cells := 3, slots := 18, locals := 112 }, is_X6_minute)
theorem dc_X6_minute : dcb cX6_minute is_X6_minute 0 = true := by decide +kernel
theorem wc_X6_minute : cdw mi_X6_minute ∈ ALLW := aw (i := 554) (by decide +kernel) rfl
theorem wi_X6_minute : Cond.initialized (miY mi_X6_minute).cls ∈ ALLW := aw (i := 57) (by decide +kernel) rfl
theorem wn_X6_minute : Cond.instanceMethod (miY mi_X6_minute) ∈ ALLW := aw (i := 552) (by decide +kernel) rfl
theorem wv_X6_minute : Cond.selects (miY mi_X6_minute).cls (miY mi_X6_minute) (miY mi_X6_minute) ∈ ALLW := aw (i := 553) (by decide +kernel) rfl
def is_X6_feed : List (Instr × Nat) := [(.iload_n 3, 1), (.iconst 1, 1), (.if_icmp .lt 9, 3), (.iload_n 3, 1), (.bipush 8, 2), (.if_icmp .le 13, 3), (.new 67, 3), (.dup, 1), (.ldc 133, 2), (.invokespecial 71, 3), (.athrow, 1), (.aload_n 0, 1), (.getfield 31, 3), (.getfield 135, 3), (.iload_n 3, 1), (.iadd, 1), (.sipush 160, 3), (.if_icmp .le 13, 3), (.new 78, 3), (.dup, 1), (.ldc 138, 2), (.invokespecial 82, 3), (.athrow, 1), (.iload_n 3, 1), (.iconst 1, 1), (.isub, 1), (.istore 4, 2), (.iload 4, 2), (.ifCond .lt 28, 3), (.aload_n 0, 1), (.getfield 31, 3), (.lload_n 1, 1), (.bipush 8, 2), (.iload 4, 2), (.imul, 1), (.lushr, 1), (.l2i, 1), (.sipush 255, 3), (.iand, 1), (.invokevirtual 140, 3), (.iinc 4 (-1), 3), (.goto (-27), 3), (.aload_n 0, 1), (.getfield 31, 3), (.getfield 135, 3), (.ireturn, 1)]
abbrev mi_X6_feed : MI := (yX6_feed, cX6_feed, 5, (some .int), [], { frames := 6, cells := 2, slots := 12, locals := 90 }, is_X6_feed)
theorem dc_X6_feed : dcb cX6_feed is_X6_feed 0 = true := by decide +kernel
theorem wc_X6_feed : cdw mi_X6_feed ∈ ALLW := aw (i := 579) (by decide +kernel) rfl
theorem wi_X6_feed : Cond.initialized (miY mi_X6_feed).cls ∈ ALLW := aw (i := 57) (by decide +kernel) rfl
theorem wn_X6_feed : Cond.instanceMethod (miY mi_X6_feed) ∈ ALLW := aw (i := 577) (by decide +kernel) rfl
theorem wv_X6_feed : Cond.selects (miY mi_X6_feed).cls (miY mi_X6_feed) (miY mi_X6_feed) ∈ ALLW := aw (i := 578) (by decide +kernel) rfl
def is_X6_leastFreeNumber : List (Instr × Nat) := [(.iconst 0, 1), (.istore_n 1, 1), (.iload_n 1, 1), (.bipush 12, 2), (.if_icmp .ge 23, 3), (.aload_n 0, 1), (.getfield 24, 3), (.iload_n 1, 1), (.aaload, 1), (.getfield 176, 3), (.ifCond .ne 5, 3), (.iload_n 1, 1), (.ireturn, 1), (.iinc 1 1, 3), (.goto (-23), 3), (.iconst (-1), 1), (.ireturn, 1)]
abbrev mi_X6_leastFreeNumber : MI := (yX6_leastFreeNumber, cX6_leastFreeNumber, 2, (some .int), [], { frames := 0, cells := 0, slots := 0, locals := 0 }, is_X6_leastFreeNumber)
theorem dc_X6_leastFreeNumber : dcb cX6_leastFreeNumber is_X6_leastFreeNumber 0 = true := by decide +kernel
theorem wc_X6_leastFreeNumber : cdw mi_X6_leastFreeNumber ∈ ALLW := aw (i := 598) (by decide +kernel) rfl
theorem wi_X6_leastFreeNumber : Cond.initialized (miY mi_X6_leastFreeNumber).cls ∈ ALLW := aw (i := 57) (by decide +kernel) rfl
theorem wn_X6_leastFreeNumber : Cond.instanceMethod (miY mi_X6_leastFreeNumber) ∈ ALLW := aw (i := 597) (by decide +kernel) rfl
theorem wv_X6_leastFreeNumber : Cond.selects (miY mi_X6_leastFreeNumber).cls (miY mi_X6_leastFreeNumber) (miY mi_X6_leastFreeNumber) ∈ ALLW := aw (i := 2) (by decide +kernel) rfl
def is_X6_order : List (Instr × Nat) := [(.aload_n 0, 1), (.iload_n 1, 1), (.invokevirtual 50, 3), (.astore 6, 2), (.iload_n 2, 1), (.ifCond .lt 43, 3), (.iload_n 2, 1), (.iconst 2, 1), (.if_icmp .gt 38, 3), (.iload_n 3, 1), (.ifCond .lt 34, 3), (.iload_n 3, 1), (.ldc 142, 2), (.if_icmp .gt 28, 3), (.iload 4, 2), (.ifCond .lt 23, 3), (.iload 4, 2), (.iconst 2, 1), (.if_icmp .gt 17, 3), (.iload 5, 2), (.iconst 1, 1), (.if_icmp .lt 11, 3), (.iload 5, 2), (.sipush 10000, 3), (.if_icmp .le 13, 3), (.new 67, 3), (.dup, 1), (.ldc 143, 2), (.invokespecial 71, 3), (.athrow, 1), (.aload_n 0, 1), (.invokevirtual 145, 3), (.istore 7, 2), (.iload 7, 2), (.ifCond .lt 10, 3), (.iload 7, 2), (.bipush 12, 2), (.if_icmp .lt 13, 3), (.new 78, 3), (.dup, 1), (.ldc 149, 2), (.invokespecial 82, 3), (.athrow, 1), (.aload_n 0, 1), (.getfield 24, 3), (.iload 7, 2), (.aaload, 1), (.astore 8, 2), (.aload_n 0, 1), (.aload_n 0, 1), (.getfield 31, 3), (.aload 8, 2), (.getfield 151, 3), (.invokevirtual 155, 3), (.putfield 159, 3), (.aload_n 0, 1), (.getfield 31, 3), (.iconst 0, 1), (.putfield 135, 3), (.aload_n 0, 1), (.getfield 159, 3), (.ifCond .eq 14, 3), (.bipush (-2), 2), (.aload_n 0, 1), (.getfield 31, 3), (.getfield 162, 3), (.isub, 1), (.ireturn, 1), (.aload 8, 2), (.iload_n 1, 1), (.aload 6, 2), (.invokevirtual 165, 3), (.aload 8, 2), (.iload_n 2, 1), (.iload_n 3, 1), (.iload 4, 2), (.iload 5, 2), (.invokevirtual 168, 3), (.iload 7, 2), (.ireturn, 1)]
abbrev mi_X6_order : MI := (yX6_order, cX6_order, 9, (some .int), [], { frames := 11, cells := 3, slots := 18, locals := 246 }, is_X6_order)
theorem dc_X6_order : dcb cX6_order is_X6_order 0 = true := by decide +kernel
theorem wc_X6_order : cdw mi_X6_order ∈ ALLW := aw (i := 592) (by decide +kernel) rfl
theorem wi_X6_order : Cond.initialized (miY mi_X6_order).cls ∈ ALLW := aw (i := 57) (by decide +kernel) rfl
theorem wn_X6_order : Cond.instanceMethod (miY mi_X6_order) ∈ ALLW := aw (i := 590) (by decide +kernel) rfl
theorem wv_X6_order : Cond.selects (miY mi_X6_order).cls (miY mi_X6_order) (miY mi_X6_order) ∈ ALLW := aw (i := 591) (by decide +kernel) rfl
def is_X6_fault : List (Instr × Nat) := [(.aload_n 0, 1), (.getfield 159, 3), (.ireturn, 1)]
abbrev mi_X6_fault : MI := (yX6_fault, cX6_fault, 1, (some .int), [], { frames := 0, cells := 0, slots := 0, locals := 0 }, is_X6_fault)
theorem dc_X6_fault : dcb cX6_fault is_X6_fault 0 = true := by decide +kernel
theorem wc_X6_fault : cdw mi_X6_fault ∈ ALLW := aw (i := 364) (by decide +kernel) rfl
theorem wi_X6_fault : Cond.initialized (miY mi_X6_fault).cls ∈ ALLW := aw (i := 57) (by decide +kernel) rfl
theorem wn_X6_fault : Cond.instanceMethod (miY mi_X6_fault) ∈ ALLW := aw (i := 362) (by decide +kernel) rfl
theorem wv_X6_fault : Cond.selects (miY mi_X6_fault).cls (miY mi_X6_fault) (miY mi_X6_fault) ∈ ALLW := aw (i := 363) (by decide +kernel) rfl
def is_X6_orderOf : List (Instr × Nat) := [(.iload_n 1, 1), (.ifCond .lt 21, 3), (.iload_n 1, 1), (.bipush 12, 2), (.if_icmp .ge 15, 3), (.aload_n 0, 1), (.getfield 24, 3), (.iload_n 1, 1), (.aaload, 1), (.getfield 176, 3), (.ifCond .ne 14, 3), (.new 291, 3), (.dup, 1), (.ldc_w 313, 3), (.invokespecial 295, 3), (.athrow, 1), (.aload_n 0, 1), (.getfield 24, 3), (.iload_n 1, 1), (.aaload, 1), (.areturn, 1)]
abbrev mi_X6_orderOf : MI := (yX6_orderOf, cX6_orderOf, 2, (some (.object "CalendarOrders$Order")), [], { frames := 6, cells := 1, slots := 6, locals := 90 }, is_X6_orderOf)
theorem dc_X6_orderOf : dcb cX6_orderOf is_X6_orderOf 0 = true := by decide +kernel
theorem wc_X6_orderOf : cdw mi_X6_orderOf ∈ ALLW := aw (i := 753) (by decide +kernel) rfl
theorem wi_X6_orderOf : Cond.initialized (miY mi_X6_orderOf).cls ∈ ALLW := aw (i := 57) (by decide +kernel) rfl
theorem wn_X6_orderOf : Cond.instanceMethod (miY mi_X6_orderOf) ∈ ALLW := aw (i := 752) (by decide +kernel) rfl
theorem wv_X6_orderOf : Cond.selects (miY mi_X6_orderOf).cls (miY mi_X6_orderOf) (miY mi_X6_orderOf) ∈ ALLW := aw (i := 3) (by decide +kernel) rfl
def is_X6_ordersInUse : List (Instr × Nat) := [(.iconst 0, 1), (.istore_n 1, 1), (.iconst 0, 1), (.istore_n 2, 1), (.iload_n 2, 1), (.bipush 12, 2), (.if_icmp .ge 24, 3), (.aload_n 0, 1), (.getfield 24, 3), (.iload_n 2, 1), (.aaload, 1), (.getfield 176, 3), (.ifCond .eq 6, 3), (.iinc 1 1, 3), (.iinc 2 1, 3), (.goto (-24), 3), (.iload_n 1, 1), (.ireturn, 1)]
abbrev mi_X6_ordersInUse : MI := (yX6_ordersInUse, cX6_ordersInUse, 3, (some .int), [], { frames := 0, cells := 0, slots := 0, locals := 0 }, is_X6_ordersInUse)
theorem dc_X6_ordersInUse : dcb cX6_ordersInUse is_X6_ordersInUse 0 = true := by decide +kernel
theorem wc_X6_ordersInUse : cdw mi_X6_ordersInUse ∈ ALLW := aw (i := 759) (by decide +kernel) rfl
theorem wi_X6_ordersInUse : Cond.initialized (miY mi_X6_ordersInUse).cls ∈ ALLW := aw (i := 57) (by decide +kernel) rfl
theorem wn_X6_ordersInUse : Cond.instanceMethod (miY mi_X6_ordersInUse) ∈ ALLW := aw (i := 758) (by decide +kernel) rfl
theorem wv_X6_ordersInUse : Cond.selects (miY mi_X6_ordersInUse).cls (miY mi_X6_ordersInUse) (miY mi_X6_ordersInUse) ∈ ALLW := aw (i := 4) (by decide +kernel) rfl
def is_X6_cancel : List (Instr × Nat) := [(.aload_n 0, 1), (.iload_n 1, 1), (.invokevirtual 172, 3), (.astore_n 2, 1), (.aload_n 2, 1), (.iconst 0, 1), (.putfield 176, 3), (.aload_n 2, 1), (.invokevirtual 179, 3), (.aload_n 0, 1), (.invokevirtual 182, 3), (.ireturn, 1)]
abbrev mi_X6_cancel : MI := (yX6_cancel, cX6_cancel, 3, (some .int), [], { frames := 7, cells := 1, slots := 6, locals := 111 }, is_X6_cancel)
theorem dc_X6_cancel : dcb cX6_cancel is_X6_cancel 0 = true := by decide +kernel
theorem wc_X6_cancel : cdw mi_X6_cancel ∈ ALLW := aw (i := 749) (by decide +kernel) rfl
theorem wi_X6_cancel : Cond.initialized (miY mi_X6_cancel).cls ∈ ALLW := aw (i := 57) (by decide +kernel) rfl
theorem wn_X6_cancel : Cond.instanceMethod (miY mi_X6_cancel) ∈ ALLW := aw (i := 747) (by decide +kernel) rfl
theorem wv_X6_cancel : Cond.selects (miY mi_X6_cancel).cls (miY mi_X6_cancel) (miY mi_X6_cancel) ∈ ALLW := aw (i := 748) (by decide +kernel) rfl
def is_X6_told : List (Instr × Nat) := [(.aload_n 0, 1), (.iload_n 1, 1), (.invokevirtual 172, 3), (.astore_n 3, 1), (.iload_n 2, 1), (.bipush 10, 2), (.invokestatic 87, 3), (.iload_n 2, 1), (.tableswitch 124 0 9 #[55, 60, 65, 70, 75, 80, 85, 98, 103, 108], 55), (.aload_n 3, 1), (.getfield 185, 3), (.ireturn, 1), (.aload_n 3, 1), (.getfield 188, 3), (.ireturn, 1), (.aload_n 3, 1), (.getfield 191, 3), (.ireturn, 1), (.aload_n 3, 1), (.getfield 194, 3), (.ireturn, 1), (.aload_n 3, 1), (.getfield 197, 3), (.ireturn, 1), (.aload_n 3, 1), (.getfield 200, 3), (.ireturn, 1), (.aload_n 3, 1), (.getfield 203, 3), (.ifCond .eq 7, 3), (.iconst 1, 1), (.goto 4, 3), (.iconst 0, 1), (.ireturn, 1), (.aload_n 3, 1), (.getfield 206, 3), (.ireturn, 1), (.aload_n 3, 1), (.getfield 209, 3), (.ireturn, 1), (.aload_n 3, 1), (.getfield 151, 3), (.getfield 212, 3), (.ifCond .eq 7, 3), (.iconst 1, 1), (.goto 4, 3), (.iconst 0, 1), (.ireturn, 1), (.aload_n 3, 1), (.getfield 151, 3), (.getfield 217, 3), (.ifCond .eq 7, 3), (.iconst 1, 1), (.goto 4, 3), (.iconst 0, 1), (.ireturn, 1)]
abbrev mi_X6_told : MI := (yX6_told, cX6_told, 4, (some .int), [], { frames := 7, cells := 2, slots := 12, locals := 111 }, is_X6_told)
theorem dc_X6_told : dcb cX6_told is_X6_told 0 = true := by decide +kernel
theorem wc_X6_told : cdw mi_X6_told ∈ ALLW := aw (i := 766) (by decide +kernel) rfl
theorem wi_X6_told : Cond.initialized (miY mi_X6_told).cls ∈ ALLW := aw (i := 57) (by decide +kernel) rfl
theorem wn_X6_told : Cond.instanceMethod (miY mi_X6_told) ∈ ALLW := aw (i := 764) (by decide +kernel) rfl
theorem wv_X6_told : Cond.selects (miY mi_X6_told).cls (miY mi_X6_told) (miY mi_X6_told) ∈ ALLW := aw (i := 765) (by decide +kernel) rfl
def is_X6_field : List (Instr × Nat) := [(.aload_n 0, 1), (.iload_n 1, 1), (.invokevirtual 172, 3), (.astore_n 3, 1), (.iload_n 2, 1), (.ifCond .lt 8, 3), (.iload_n 2, 1), (.iconst 4, 1), (.if_icmp .le 13, 3), (.new 67, 3), (.dup, 1), (.ldc 220, 2), (.invokespecial 71, 3), (.athrow, 1), (.aload_n 3, 1), (.getfield 151, 3), (.getfield 222, 3), (.iload_n 2, 1), (.laload, 1), (.lreturn, 1)]
abbrev mi_X6_field : MI := (yX6_field, cX6_field, 4, (some .long), [], { frames := 7, cells := 2, slots := 12, locals := 111 }, is_X6_field)
theorem dc_X6_field : dcb cX6_field is_X6_field 0 = true := by decide +kernel
theorem wc_X6_field : cdw mi_X6_field ∈ ALLW := aw (i := 773) (by decide +kernel) rfl
theorem wi_X6_field : Cond.initialized (miY mi_X6_field).cls ∈ ALLW := aw (i := 57) (by decide +kernel) rfl
theorem wn_X6_field : Cond.instanceMethod (miY mi_X6_field) ∈ ALLW := aw (i := 771) (by decide +kernel) rfl
theorem wv_X6_field : Cond.selects (miY mi_X6_field).cls (miY mi_X6_field) (miY mi_X6_field) ∈ ALLW := aw (i := 772) (by decide +kernel) rfl
def is_X6_day : List (Instr × Nat) := [(.aload_n 0, 1), (.iload_n 1, 1), (.invokevirtual 172, 3), (.astore 6, 2), (.iload_n 2, 1), (.iconst 3, 1), (.invokestatic 87, 3), (.iload_n 3, 1), (.iload 4, 2), (.iload 5, 2), (.invokestatic 121, 3), (.aload 6, 2), (.getfield 151, 3), (.getfield 226, 3), (.iload_n 3, 1), (.iload 4, 2), (.invokevirtual 227, 3), (.aload 6, 2), (.getfield 151, 3), (.iload_n 2, 1), (.invokevirtual 230, 3), (.iload 5, 2), (.invokestatic 234, 3), (.ireturn, 1)]
abbrev mi_X6_day : MI := (yX6_day, cX6_day, 7, (some .boolean), [], { frames := 7, cells := 3, slots := 18, locals := 112 }, is_X6_day)
theorem dc_X6_day : dcb cX6_day is_X6_day 0 = true := by decide +kernel
theorem wc_X6_day : cdw mi_X6_day ∈ ALLW := aw (i := 781) (by decide +kernel) rfl
theorem wi_X6_day : Cond.initialized (miY mi_X6_day).cls ∈ ALLW := aw (i := 57) (by decide +kernel) rfl
theorem wn_X6_day : Cond.instanceMethod (miY mi_X6_day) ∈ ALLW := aw (i := 779) (by decide +kernel) rfl
theorem wv_X6_day : Cond.selects (miY mi_X6_day).cls (miY mi_X6_day) (miY mi_X6_day) ∈ ALLW := aw (i := 780) (by decide +kernel) rfl
def is_X6_matches : List (Instr × Nat) := [(.aload_n 0, 1), (.iload_n 1, 1), (.invokevirtual 172, 3), (.astore_n 3, 1), (.iload_n 2, 1), (.invokestatic 60, 3), (.aload_n 3, 1), (.iload_n 2, 1), (.iload_n 2, 1), (.invokevirtual 238, 3), (.iload_n 2, 1), (.if_icmp .ne 7, 3), (.iconst 1, 1), (.goto 4, 3), (.iconst 0, 1), (.ireturn, 1)]
abbrev mi_X6_matches : MI := (yX6_matches, cX6_matches, 4, (some .boolean), [], { frames := 7, cells := 2, slots := 12, locals := 148 }, is_X6_matches)
theorem dc_X6_matches : dcb cX6_matches is_X6_matches 0 = true := by decide +kernel
theorem wc_X6_matches : cdw mi_X6_matches ∈ ALLW := aw (i := 820) (by decide +kernel) rfl
theorem wi_X6_matches : Cond.initialized (miY mi_X6_matches).cls ∈ ALLW := aw (i := 57) (by decide +kernel) rfl
theorem wn_X6_matches : Cond.instanceMethod (miY mi_X6_matches) ∈ ALLW := aw (i := 818) (by decide +kernel) rfl
theorem wv_X6_matches : Cond.selects (miY mi_X6_matches).cls (miY mi_X6_matches) (miY mi_X6_matches) ∈ ALLW := aw (i := 819) (by decide +kernel) rfl
def is_X6_checkDays : List (Instr × Nat) := [(.iload_n 0, 1), (.ifCond .lt 10, 3), (.iload_n 0, 1), (.sipush 20000, 3), (.if_icmp .le 14, 3), (.new 67, 3), (.dup, 1), (.ldc_w 319, 3), (.invokespecial 71, 3), (.athrow, 1), (.return_, 1)]
abbrev mi_X6_checkDays : MI := (yX6_checkDays, cX6_checkDays, 1, none, [], { frames := 6, cells := 1, slots := 6, locals := 90 }, is_X6_checkDays)
theorem dc_X6_checkDays : dcb cX6_checkDays is_X6_checkDays 0 = true := by decide +kernel
theorem wc_X6_checkDays : cdw mi_X6_checkDays ∈ ALLW := aw (i := 883) (by decide +kernel) rfl
theorem wi_X6_checkDays : Cond.initialized (miY mi_X6_checkDays).cls ∈ ALLW := aw (i := 57) (by decide +kernel) rfl
theorem ws_X6_checkDays : Cond.static (miY mi_X6_checkDays) ∈ ALLW := aw (i := 882) (by decide +kernel) rfl
def is_X6_next : List (Instr × Nat) := [(.aload_n 0, 1), (.iload_n 1, 1), (.invokevirtual 172, 3), (.astore 4, 2), (.iload_n 2, 1), (.invokestatic 60, 3), (.iload_n 3, 1), (.invokestatic 241, 3), (.aload 4, 2), (.iload_n 2, 1), (.iconst 1, 1), (.iadd, 1), (.ldc 244, 2), (.iload_n 2, 1), (.iload_n 3, 1), (.sipush 1440, 3), (.imul, 1), (.iadd, 1), (.invokestatic 245, 3), (.invokevirtual 238, 3), (.ireturn, 1)]
abbrev mi_X6_next : MI := (yX6_next, cX6_next, 5, (some .int), [], { frames := 7, cells := 3, slots := 18, locals := 148 }, is_X6_next)
theorem dc_X6_next : dcb cX6_next is_X6_next 0 = true := by decide +kernel
theorem wc_X6_next : cdw mi_X6_next ∈ ALLW := aw (i := 880) (by decide +kernel) rfl
theorem wi_X6_next : Cond.initialized (miY mi_X6_next).cls ∈ ALLW := aw (i := 57) (by decide +kernel) rfl
theorem wn_X6_next : Cond.instanceMethod (miY mi_X6_next) ∈ ALLW := aw (i := 878) (by decide +kernel) rfl
theorem wv_X6_next : Cond.selects (miY mi_X6_next).cls (miY mi_X6_next) (miY mi_X6_next) ∈ ALLW := aw (i := 879) (by decide +kernel) rfl
def is_X6_before : List (Instr × Nat) := [(.aload_n 0, 1), (.iload_n 1, 1), (.invokevirtual 172, 3), (.astore 4, 2), (.iload_n 2, 1), (.invokestatic 60, 3), (.iload_n 3, 1), (.invokestatic 241, 3), (.aload 4, 2), (.iconst 0, 1), (.iload_n 2, 1), (.iload_n 3, 1), (.sipush 1440, 3), (.imul, 1), (.isub, 1), (.invokestatic 248, 3), (.iload_n 2, 1), (.iconst 1, 1), (.isub, 1), (.invokevirtual 251, 3), (.ireturn, 1)]
abbrev mi_X6_before : MI := (yX6_before, cX6_before, 5, (some .int), [], { frames := 7, cells := 3, slots := 18, locals := 148 }, is_X6_before)
theorem dc_X6_before : dcb cX6_before is_X6_before 0 = true := by decide +kernel
theorem wc_X6_before : cdw mi_X6_before ∈ ALLW := aw (i := 892) (by decide +kernel) rfl
theorem wi_X6_before : Cond.initialized (miY mi_X6_before).cls ∈ ALLW := aw (i := 57) (by decide +kernel) rfl
theorem wn_X6_before : Cond.instanceMethod (miY mi_X6_before) ∈ ALLW := aw (i := 890) (by decide +kernel) rfl
theorem wv_X6_before : Cond.selects (miY mi_X6_before).cls (miY mi_X6_before) (miY mi_X6_before) ∈ ALLW := aw (i := 891) (by decide +kernel) rfl
def is_X6_between : List (Instr × Nat) := [(.aload_n 0, 1), (.iload_n 1, 1), (.invokevirtual 172, 3), (.astore 4, 2), (.iload_n 2, 1), (.invokestatic 60, 3), (.iload_n 3, 1), (.invokestatic 60, 3), (.iload_n 3, 1), (.iload_n 2, 1), (.if_icmp .lt 11, 3), (.iload_n 3, 1), (.iload_n 2, 1), (.isub, 1), (.ldc 254, 2), (.if_icmp .le 13, 3), (.new 67, 3), (.dup, 1), (.ldc 255, 2), (.invokespecial 71, 3), (.athrow, 1), (.aload 4, 2), (.iload_n 2, 1), (.iconst 1, 1), (.iadd, 1), (.iload_n 3, 1), (.invokevirtual 257, 3), (.ireturn, 1)]
abbrev mi_X6_between : MI := (yX6_between, cX6_between, 5, (some .int), [], { frames := 7, cells := 4, slots := 24, locals := 148 }, is_X6_between)
theorem dc_X6_between : dcb cX6_between is_X6_between 0 = true := by decide +kernel
theorem wc_X6_between : cdw mi_X6_between ∈ ALLW := aw (i := 923) (by decide +kernel) rfl
theorem wi_X6_between : Cond.initialized (miY mi_X6_between).cls ∈ ALLW := aw (i := 57) (by decide +kernel) rfl
theorem wn_X6_between : Cond.instanceMethod (miY mi_X6_between) ∈ ALLW := aw (i := 921) (by decide +kernel) rfl
theorem wv_X6_between : Cond.selects (miY mi_X6_between).cls (miY mi_X6_between) (miY mi_X6_between) ∈ ALLW := aw (i := 922) (by decide +kernel) rfl
def is_X6_put : List (Instr × Nat) := [(.iload_n 1, 1), (.invokestatic 60, 3), (.aload_n 0, 1), (.getfield 42, 3), (.ifCond .ne 14, 3), (.new 78, 3), (.dup, 1), (.ldc_w 260, 3), (.invokespecial 82, 3), (.athrow, 1), (.iconst 0, 1), (.istore_n 2, 1), (.iload_n 2, 1), (.bipush 12, 2), (.if_icmp .ge 18, 3), (.aload_n 0, 1), (.getfield 24, 3), (.iload_n 2, 1), (.aaload, 1), (.invokevirtual 179, 3), (.iinc 2 1, 3), (.goto (-18), 3), (.aload_n 0, 1), (.iload_n 1, 1), (.putfield 262, 3), (.return_, 1)]
abbrev mi_X6_put : MI := (yX6_put, cX6_put, 3, none, [], { frames := 7, cells := 2, slots := 12, locals := 110 }, is_X6_put)
theorem dc_X6_put : dcb cX6_put is_X6_put 0 = true := by decide +kernel
theorem wc_X6_put : cdw mi_X6_put ∈ ALLW := aw (i := 949) (by decide +kernel) rfl
theorem wi_X6_put : Cond.initialized (miY mi_X6_put).cls ∈ ALLW := aw (i := 57) (by decide +kernel) rfl
theorem wn_X6_put : Cond.instanceMethod (miY mi_X6_put) ∈ ALLW := aw (i := 947) (by decide +kernel) rfl
theorem wv_X6_put : Cond.selects (miY mi_X6_put).cls (miY mi_X6_put) (miY mi_X6_put) ∈ ALLW := aw (i := 948) (by decide +kernel) rfl
def is_X6_leastDue : List (Instr × Nat) := [(.iload_n 1, 1), (.istore_n 2, 1), (.iconst 0, 1), (.istore_n 3, 1), (.iload_n 3, 1), (.bipush 12, 2), (.if_icmp .ge 36, 3), (.aload_n 0, 1), (.getfield 24, 3), (.iload_n 3, 1), (.aaload, 1), (.astore 4, 2), (.aload 4, 2), (.getfield 328, 3), (.iconst (-1), 1), (.if_icmp .eq 13, 3), (.iload_n 2, 1), (.aload 4, 2), (.getfield 328, 3), (.invokestatic 245, 3), (.istore_n 2, 1), (.iinc 3 1, 3), (.goto (-36), 3), (.iload_n 2, 1), (.ireturn, 1)]
abbrev mi_X6_leastDue : MI := (yX6_leastDue, cX6_leastDue, 5, (some .int), [], { frames := 1, cells := 0, slots := 0, locals := 21 }, is_X6_leastDue)
theorem dc_X6_leastDue : dcb cX6_leastDue is_X6_leastDue 0 = true := by decide +kernel
theorem wc_X6_leastDue : cdw mi_X6_leastDue ∈ ALLW := aw (i := 967) (by decide +kernel) rfl
theorem wi_X6_leastDue : Cond.initialized (miY mi_X6_leastDue).cls ∈ ALLW := aw (i := 57) (by decide +kernel) rfl
theorem wn_X6_leastDue : Cond.instanceMethod (miY mi_X6_leastDue) ∈ ALLW := aw (i := 966) (by decide +kernel) rfl
theorem wv_X6_leastDue : Cond.selects (miY mi_X6_leastDue).cls (miY mi_X6_leastDue) (miY mi_X6_leastDue) ∈ ALLW := aw (i := 6) (by decide +kernel) rfl
def is_X6_firstToEnd : List (Instr × Nat) := [(.aconst_null, 1), (.astore_n 1, 1), (.aload_n 0, 1), (.getfield 262, 3), (.iconst 1, 1), (.iadd, 1), (.istore_n 2, 1), (.iconst 0, 1), (.istore_n 3, 1), (.iload_n 3, 1), (.bipush 12, 2), (.if_icmp .ge 43, 3), (.aload_n 0, 1), (.getfield 24, 3), (.iload_n 3, 1), (.aaload, 1), (.astore 4, 2), (.aload 4, 2), (.getfield 200, 3), (.ifCond .le 21, 3), (.aload 4, 2), (.invokevirtual 342, 3), (.iload_n 2, 1), (.if_icmp .ge 12, 3), (.aload 4, 2), (.astore_n 1, 1), (.aload 4, 2), (.invokevirtual 342, 3), (.istore_n 2, 1), (.iinc 3 1, 3), (.goto (-43), 3), (.aload_n 1, 1), (.areturn, 1)]
abbrev mi_X6_firstToEnd : MI := (yX6_firstToEnd, cX6_firstToEnd, 5, (some (.object "CalendarOrders$Order")), [], { frames := 1, cells := 0, slots := 0, locals := 20 }, is_X6_firstToEnd)
theorem dc_X6_firstToEnd : dcb cX6_firstToEnd is_X6_firstToEnd 0 = true := by decide +kernel
theorem wc_X6_firstToEnd : cdw mi_X6_firstToEnd ∈ ALLW := aw (i := 975) (by decide +kernel) rfl
theorem wi_X6_firstToEnd : Cond.initialized (miY mi_X6_firstToEnd).cls ∈ ALLW := aw (i := 57) (by decide +kernel) rfl
theorem wn_X6_firstToEnd : Cond.instanceMethod (miY mi_X6_firstToEnd) ∈ ALLW := aw (i := 974) (by decide +kernel) rfl
theorem wv_X6_firstToEnd : Cond.selects (miY mi_X6_firstToEnd).cls (miY mi_X6_firstToEnd) (miY mi_X6_firstToEnd) ∈ ALLW := aw (i := 8) (by decide +kernel) rfl
def is_X6_begin : List (Instr × Nat) := [(.aload_n 1, 1), (.iload_n 2, 1), (.iload_n 3, 1), (.invokevirtual 367, 3), (.aload_n 0, 1), (.getfield 38, 3), (.iconst 0, 1), (.aload_n 1, 1), (.getfield 345, 3), (.iload_n 2, 1), (.iload_n 3, 1), (.invokevirtual 349, 3), (.return_, 1)]
abbrev mi_X6_begin : MI := (yX6_begin, cX6_begin, 4, none, [], { frames := 1, cells := 0, slots := 0, locals := 24 }, is_X6_begin)
theorem dc_X6_begin : dcb cX6_begin is_X6_begin 0 = true := by decide +kernel
theorem wc_X6_begin : cdw mi_X6_begin ∈ ALLW := aw (i := 991) (by decide +kernel) rfl
theorem wi_X6_begin : Cond.initialized (miY mi_X6_begin).cls ∈ ALLW := aw (i := 57) (by decide +kernel) rfl
theorem wn_X6_begin : Cond.instanceMethod (miY mi_X6_begin) ∈ ALLW := aw (i := 990) (by decide +kernel) rfl
theorem wv_X6_begin : Cond.selects (miY mi_X6_begin).cls (miY mi_X6_begin) (miY mi_X6_begin) ∈ ALLW := aw (i := 9) (by decide +kernel) rfl
def is_X6_endRuns : List (Instr × Nat) := [(.iconst 0, 1), (.istore_n 1, 1), (.iload_n 1, 1), (.bipush 108, 2), (.if_icmp .ge 76, 3), (.aload_n 0, 1), (.invokevirtual 338, 3), (.astore_n 2, 1), (.aload_n 2, 1), (.ifnonnull 4, 3), (.return_, 1), (.aload_n 2, 1), (.invokevirtual 342, 3), (.istore_n 3, 1), (.aload_n 0, 1), (.getfield 38, 3), (.iconst 1, 1), (.aload_n 2, 1), (.getfield 345, 3), (.iload_n 3, 1), (.aload_n 2, 1), (.getfield 348, 3), (.iconst 0, 1), (.iaload, 1), (.invokevirtual 349, 3), (.aload_n 2, 1), (.invokevirtual 351, 3), (.aload_n 2, 1), (.getfield 203, 3), (.ifCond .eq 25, 3), (.aload_n 2, 1), (.getfield 200, 3), (.ifCond .ne 18, 3), (.aload_n 2, 1), (.iconst 0, 1), (.putfield 203, 3), (.aload_n 0, 1), (.aload_n 2, 1), (.iload_n 3, 1), (.aload_n 2, 1), (.getfield 354, 3), (.invokevirtual 357, 3), (.iinc 1 1, 3), (.goto (-76), 3), (.return_, 1)]
abbrev mi_X6_endRuns : MI := (yX6_endRuns, cX6_endRuns, 4, none, [], { frames := 2, cells := 0, slots := 0, locals := 47 }, is_X6_endRuns)
theorem dc_X6_endRuns : dcb cX6_endRuns is_X6_endRuns 0 = true := by decide +kernel
theorem wc_X6_endRuns : cdw mi_X6_endRuns ∈ ALLW := aw (i := 971) (by decide +kernel) rfl
theorem wi_X6_endRuns : Cond.initialized (miY mi_X6_endRuns).cls ∈ ALLW := aw (i := 57) (by decide +kernel) rfl
theorem wn_X6_endRuns : Cond.instanceMethod (miY mi_X6_endRuns) ∈ ALLW := aw (i := 970) (by decide +kernel) rfl
theorem wv_X6_endRuns : Cond.selects (miY mi_X6_endRuns).cls (miY mi_X6_endRuns) (miY mi_X6_endRuns) ∈ ALLW := aw (i := 7) (by decide +kernel) rfl
def is_X6_becomeDue : List (Instr × Nat) := [(.aload_n 1, 1), (.invokevirtual 360, 3), (.ifCond .eq 16, 3), (.aload_n 0, 1), (.aload_n 1, 1), (.aload_n 0, 1), (.getfield 262, 3), (.iload_n 2, 1), (.invokevirtual 357, 3), (.goto 67, 3), (.aload_n 1, 1), (.invokevirtual 364, 3), (.ifCond .eq 33, 3), (.aload_n 1, 1), (.iconst 1, 1), (.putfield 203, 3), (.aload_n 1, 1), (.iload_n 2, 1), (.putfield 354, 3), (.aload_n 0, 1), (.getfield 38, 3), (.iconst 3, 1), (.aload_n 1, 1), (.getfield 345, 3), (.aload_n 0, 1), (.getfield 262, 3), (.iload_n 2, 1), (.invokevirtual 349, 3), (.goto 30, 3), (.aload_n 1, 1), (.dup, 1), (.getfield 209, 3), (.iconst 1, 1), (.iadd, 1), (.putfield 209, 3), (.aload_n 0, 1), (.getfield 38, 3), (.iconst 2, 1), (.aload_n 1, 1), (.getfield 345, 3), (.aload_n 0, 1), (.getfield 262, 3), (.iload_n 2, 1), (.invokevirtual 349, 3), (.return_, 1)]
abbrev mi_X6_becomeDue : MI := (yX6_becomeDue, cX6_becomeDue, 3, none, [], { frames := 2, cells := 0, slots := 0, locals := 47 }, is_X6_becomeDue)
theorem dc_X6_becomeDue : dcb cX6_becomeDue is_X6_becomeDue 0 = true := by decide +kernel
theorem wc_X6_becomeDue : cdw mi_X6_becomeDue ∈ ALLW := aw (i := 999) (by decide +kernel) rfl
theorem wi_X6_becomeDue : Cond.initialized (miY mi_X6_becomeDue).cls ∈ ALLW := aw (i := 57) (by decide +kernel) rfl
theorem wn_X6_becomeDue : Cond.instanceMethod (miY mi_X6_becomeDue) ∈ ALLW := aw (i := 998) (by decide +kernel) rfl
theorem wv_X6_becomeDue : Cond.selects (miY mi_X6_becomeDue).cls (miY mi_X6_becomeDue) (miY mi_X6_becomeDue) ∈ ALLW := aw (i := 10) (by decide +kernel) rfl
def is_X6_workUntil : List (Instr × Nat) := [(.iconst 0, 1), (.istore_n 2, 1), (.iload_n 2, 1), (.bipush 12, 2), (.if_icmp .ge 42, 3), (.aload_n 0, 1), (.getfield 24, 3), (.iload_n 2, 1), (.aaload, 1), (.astore_n 3, 1), (.aload_n 3, 1), (.aload_n 3, 1), (.getfield 176, 3), (.ifCond .eq 17, 3), (.aload_n 3, 1), (.aload_n 0, 1), (.getfield 262, 3), (.iconst 1, 1), (.iadd, 1), (.iload_n 1, 1), (.invokevirtual 238, 3), (.goto 4, 3), (.iconst (-1), 1), (.putfield 328, 3), (.iinc 2 1, 3), (.goto (-42), 3), (.iconst 0, 1), (.istore_n 2, 1), (.iload_n 2, 1), (.sipush 3000, 3), (.if_icmp .ge 91, 3), (.aload_n 0, 1), (.getfield 262, 3), (.iload_n 1, 1), (.if_icmp .ge 83, 3), (.aload_n 0, 1), (.aload_n 0, 1), (.iload_n 1, 1), (.invokevirtual 331, 3), (.putfield 262, 3), (.aload_n 0, 1), (.invokevirtual 278, 3), (.iconst 0, 1), (.istore_n 3, 1), (.iload_n 3, 1), (.bipush 12, 2), (.if_icmp .ge 56, 3), (.aload_n 0, 1), (.getfield 24, 3), (.iload_n 3, 1), (.aaload, 1), (.astore 4, 2), (.aload 4, 2), (.getfield 328, 3), (.aload_n 0, 1), (.getfield 262, 3), (.if_icmp .ne 30, 3), (.aload_n 0, 1), (.aload 4, 2), (.aload_n 0, 1), (.getfield 262, 3), (.invokevirtual 334, 3), (.aload 4, 2), (.aload 4, 2), (.aload_n 0, 1), (.getfield 262, 3), (.iconst 1, 1), (.iadd, 1), (.iload_n 1, 1), (.invokevirtual 238, 3), (.putfield 328, 3), (.iinc 3 1, 3), (.goto (-56), 3), (.iinc 2 1, 3), (.goto (-92), 3), (.return_, 1)]
abbrev mi_X6_workUntil : MI := (yX6_workUntil, cX6_workUntil, 5, none, [], { frames := 6, cells := 0, slots := 0, locals := 148 }, is_X6_workUntil)
theorem dc_X6_workUntil : dcb cX6_workUntil is_X6_workUntil 0 = true := by decide +kernel
theorem wc_X6_workUntil : cdw mi_X6_workUntil ∈ ALLW := aw (i := 963) (by decide +kernel) rfl
theorem wi_X6_workUntil : Cond.initialized (miY mi_X6_workUntil).cls ∈ ALLW := aw (i := 57) (by decide +kernel) rfl
theorem wn_X6_workUntil : Cond.instanceMethod (miY mi_X6_workUntil) ∈ ALLW := aw (i := 962) (by decide +kernel) rfl
theorem wv_X6_workUntil : Cond.selects (miY mi_X6_workUntil).cls (miY mi_X6_workUntil) (miY mi_X6_workUntil) ∈ ALLW := aw (i := 5) (by decide +kernel) rfl
def is_X6_pass : List (Instr × Nat) := [(.aload_n 0, 1), (.getfield 42, 3), (.ifCond .eq 9, 3), (.sipush 3000, 3), (.goto 6, 3), (.ldc_w 265, 3), (.istore_n 2, 1), (.iload_n 1, 1), (.ifCond .lt 19, 3), (.iload_n 1, 1), (.iload_n 2, 1), (.if_icmp .gt 14, 3), (.iload_n 1, 1), (.ldc 244, 2), (.aload_n 0, 1), (.getfield 262, 3), (.isub, 1), (.if_icmp .le 14, 3), (.new 67, 3), (.dup, 1), (.ldc_w 266, 3), (.invokespecial 71, 3), (.athrow, 1), (.aload_n 0, 1), (.getfield 262, 3), (.iload_n 1, 1), (.iadd, 1), (.istore_n 3, 1), (.aload_n 0, 1), (.getfield 42, 3), (.ifCond .eq 8, 3), (.aload_n 0, 1), (.iload_n 3, 1), (.invokevirtual 268, 3), (.aload_n 0, 1), (.iload_n 3, 1), (.putfield 262, 3), (.aload_n 0, 1), (.getfield 262, 3), (.ireturn, 1)]
abbrev mi_X6_pass : MI := (yX6_pass, cX6_pass, 4, (some .int), [], { frames := 7, cells := 1, slots := 6, locals := 172 }, is_X6_pass)
theorem dc_X6_pass : dcb cX6_pass is_X6_pass 0 = true := by decide +kernel
theorem wc_X6_pass : cdw mi_X6_pass ∈ ALLW := aw (i := 957) (by decide +kernel) rfl
theorem wi_X6_pass : Cond.initialized (miY mi_X6_pass).cls ∈ ALLW := aw (i := 57) (by decide +kernel) rfl
theorem wn_X6_pass : Cond.instanceMethod (miY mi_X6_pass) ∈ ALLW := aw (i := 955) (by decide +kernel) rfl
theorem wv_X6_pass : Cond.selects (miY mi_X6_pass).cls (miY mi_X6_pass) (miY mi_X6_pass) ∈ ALLW := aw (i := 956) (by decide +kernel) rfl
def is_X6_sleep : List (Instr × Nat) := [(.aload_n 0, 1), (.getfield 42, 3), (.ifCond .ne 14, 3), (.new 78, 3), (.dup, 1), (.ldc_w 260, 3), (.invokespecial 82, 3), (.athrow, 1), (.aload_n 0, 1), (.iconst 0, 1), (.putfield 42, 3), (.aload_n 0, 1), (.aload_n 0, 1), (.getfield 262, 3), (.putfield 271, 3), (.return_, 1)]
abbrev mi_X6_sleep : MI := (yX6_sleep, cX6_sleep, 1, none, [], { frames := 6, cells := 1, slots := 6, locals := 90 }, is_X6_sleep)
theorem dc_X6_sleep : dcb cX6_sleep is_X6_sleep 0 = true := by decide +kernel
theorem wc_X6_sleep : cdw mi_X6_sleep ∈ ALLW := aw (i := 1014) (by decide +kernel) rfl
theorem wi_X6_sleep : Cond.initialized (miY mi_X6_sleep).cls ∈ ALLW := aw (i := 57) (by decide +kernel) rfl
theorem wn_X6_sleep : Cond.instanceMethod (miY mi_X6_sleep) ∈ ALLW := aw (i := 1012) (by decide +kernel) rfl
theorem wv_X6_sleep : Cond.selects (miY mi_X6_sleep).cls (miY mi_X6_sleep) (miY mi_X6_sleep) ∈ ALLW := aw (i := 1013) (by decide +kernel) rfl
def is_X6_firstMissed : List (Instr × Nat) := [(.aload_n 0, 1), (.getfield 271, 3), (.iconst 1, 1), (.iadd, 1), (.aload_n 0, 1), (.getfield 262, 3), (.aload_n 1, 1), (.getfield 191, 3), (.isub, 1), (.invokestatic 248, 3), (.ireturn, 1)]
abbrev mi_X6_firstMissed : MI := (yX6_firstMissed, cX6_firstMissed, 2, (some .int), [], { frames := 1, cells := 0, slots := 0, locals := 21 }, is_X6_firstMissed)
theorem dc_X6_firstMissed : dcb cX6_firstMissed is_X6_firstMissed 0 = true := by decide +kernel
theorem wc_X6_firstMissed : cdw mi_X6_firstMissed ∈ ALLW := aw (i := 1030) (by decide +kernel) rfl
theorem wi_X6_firstMissed : Cond.initialized (miY mi_X6_firstMissed).cls ∈ ALLW := aw (i := 57) (by decide +kernel) rfl
theorem wn_X6_firstMissed : Cond.instanceMethod (miY mi_X6_firstMissed) ∈ ALLW := aw (i := 1029) (by decide +kernel) rfl
theorem wv_X6_firstMissed : Cond.selects (miY mi_X6_firstMissed).cls (miY mi_X6_firstMissed) (miY mi_X6_firstMissed) ∈ ALLW := aw (i := 12) (by decide +kernel) rfl
def is_X6_makeUpLatest : List (Instr × Nat) := [(.aload_n 1, 1), (.aload_n 0, 1), (.aload_n 1, 1), (.invokevirtual 370, 3), (.aload_n 0, 1), (.getfield 262, 3), (.invokevirtual 251, 3), (.istore_n 2, 1), (.iload_n 2, 1), (.iconst (-1), 1), (.if_icmp .eq 9, 3), (.aload_n 0, 1), (.aload_n 1, 1), (.iload_n 2, 1), (.invokevirtual 334, 3), (.return_, 1)]
abbrev mi_X6_makeUpLatest : MI := (yX6_makeUpLatest, cX6_makeUpLatest, 3, none, [], { frames := 6, cells := 0, slots := 0, locals := 148 }, is_X6_makeUpLatest)
theorem dc_X6_makeUpLatest : dcb cX6_makeUpLatest is_X6_makeUpLatest 0 = true := by decide +kernel
theorem wc_X6_makeUpLatest : cdw mi_X6_makeUpLatest ∈ ALLW := aw (i := 1026) (by decide +kernel) rfl
theorem wi_X6_makeUpLatest : Cond.initialized (miY mi_X6_makeUpLatest).cls ∈ ALLW := aw (i := 57) (by decide +kernel) rfl
theorem wn_X6_makeUpLatest : Cond.instanceMethod (miY mi_X6_makeUpLatest) ∈ ALLW := aw (i := 1025) (by decide +kernel) rfl
theorem wv_X6_makeUpLatest : Cond.selects (miY mi_X6_makeUpLatest).cls (miY mi_X6_makeUpLatest) (miY mi_X6_makeUpLatest) ∈ ALLW := aw (i := 11) (by decide +kernel) rfl
def is_X6_makeUpAll : List (Instr × Nat) := [(.aload_n 0, 1), (.aload_n 1, 1), (.invokevirtual 370, 3), (.istore_n 2, 1), (.iconst 0, 1), (.istore_n 3, 1), (.iload_n 3, 1), (.ldc 142, 2), (.if_icmp .gt 111, 3), (.iload_n 2, 1), (.aload_n 0, 1), (.getfield 262, 3), (.if_icmp .gt 103, 3), (.aload_n 0, 1), (.getfield 38, 3), (.getfield 275, 3), (.sipush 300, 3), (.if_icmp .lt 54, 3), (.aload_n 1, 1), (.invokevirtual 360, 3), (.ifCond .ne 47, 3), (.aload_n 1, 1), (.invokevirtual 364, 3), (.ifCond .ne 40, 3), (.aload_n 1, 1), (.iload_n 2, 1), (.aload_n 0, 1), (.getfield 262, 3), (.invokevirtual 257, 3), (.istore 4, 2), (.aload_n 1, 1), (.dup, 1), (.getfield 209, 3), (.iload 4, 2), (.iadd, 1), (.putfield 209, 3), (.aload_n 0, 1), (.getfield 38, 3), (.dup, 1), (.getfield 275, 3), (.iload 4, 2), (.iadd, 1), (.putfield 275, 3), (.return_, 1), (.aload_n 1, 1), (.iload_n 2, 1), (.aload_n 0, 1), (.getfield 262, 3), (.invokevirtual 238, 3), (.istore 4, 2), (.iload 4, 2), (.iconst (-1), 1), (.if_icmp .ne 4, 3), (.return_, 1), (.aload_n 0, 1), (.aload_n 1, 1), (.iload 4, 2), (.invokevirtual 334, 3), (.iload 4, 2), (.iconst 1, 1), (.iadd, 1), (.istore_n 2, 1), (.iinc 3 1, 3), (.goto (-111), 3), (.return_, 1)]
abbrev mi_X6_makeUpAll : MI := (yX6_makeUpAll, cX6_makeUpAll, 5, none, [], { frames := 6, cells := 0, slots := 0, locals := 148 }, is_X6_makeUpAll)
theorem dc_X6_makeUpAll : dcb cX6_makeUpAll is_X6_makeUpAll 0 = true := by decide +kernel
theorem wc_X6_makeUpAll : cdw mi_X6_makeUpAll ∈ ALLW := aw (i := 1034) (by decide +kernel) rfl
theorem wi_X6_makeUpAll : Cond.initialized (miY mi_X6_makeUpAll).cls ∈ ALLW := aw (i := 57) (by decide +kernel) rfl
theorem wn_X6_makeUpAll : Cond.instanceMethod (miY mi_X6_makeUpAll) ∈ ALLW := aw (i := 1033) (by decide +kernel) rfl
theorem wv_X6_makeUpAll : Cond.selects (miY mi_X6_makeUpAll).cls (miY mi_X6_makeUpAll) (miY mi_X6_makeUpAll) ∈ ALLW := aw (i := 13) (by decide +kernel) rfl
def is_X6_wake : List (Instr × Nat) := [(.aload_n 0, 1), (.getfield 42, 3), (.ifCond .eq 14, 3), (.new 78, 3), (.dup, 1), (.ldc_w 274, 3), (.invokespecial 82, 3), (.athrow, 1), (.aload_n 0, 1), (.iconst 1, 1), (.putfield 42, 3), (.aload_n 0, 1), (.getfield 38, 3), (.getfield 275, 3), (.istore_n 1, 1), (.aload_n 0, 1), (.invokevirtual 278, 3), (.iconst 0, 1), (.istore_n 2, 1), (.iload_n 2, 1), (.bipush 12, 2), (.if_icmp .ge 59, 3), (.aload_n 0, 1), (.getfield 24, 3), (.iload_n 2, 1), (.aaload, 1), (.astore_n 3, 1), (.aload_n 3, 1), (.getfield 176, 3), (.ifCond .eq 19, 3), (.aload_n 3, 1), (.getfield 188, 3), (.iconst 1, 1), (.if_icmp .ne 11, 3), (.aload_n 0, 1), (.aload_n 3, 1), (.invokevirtual 281, 3), (.goto 23, 3), (.aload_n 3, 1), (.getfield 176, 3), (.ifCond .eq 16, 3), (.aload_n 3, 1), (.getfield 188, 3), (.iconst 2, 1), (.if_icmp .ne 8, 3), (.aload_n 0, 1), (.aload_n 3, 1), (.invokevirtual 285, 3), (.iinc 2 1, 3), (.goto (-59), 3), (.aload_n 0, 1), (.getfield 38, 3), (.getfield 275, 3), (.iload_n 1, 1), (.isub, 1), (.ireturn, 1)]
abbrev mi_X6_wake : MI := (yX6_wake, cX6_wake, 4, (some .int), [], { frames := 7, cells := 1, slots := 6, locals := 172 }, is_X6_wake)
theorem dc_X6_wake : dcb cX6_wake is_X6_wake 0 = true := by decide +kernel
theorem wc_X6_wake : cdw mi_X6_wake ∈ ALLW := aw (i := 1021) (by decide +kernel) rfl
theorem wi_X6_wake : Cond.initialized (miY mi_X6_wake).cls ∈ ALLW := aw (i := 57) (by decide +kernel) rfl
theorem wn_X6_wake : Cond.instanceMethod (miY mi_X6_wake) ∈ ALLW := aw (i := 1019) (by decide +kernel) rfl
theorem wv_X6_wake : Cond.selects (miY mi_X6_wake).cls (miY mi_X6_wake) (miY mi_X6_wake) ∈ ALLW := aw (i := 1020) (by decide +kernel) rfl
def is_X6_log : List (Instr × Nat) := [(.iload_n 1, 1), (.ifCond .lt 14, 3), (.iload_n 1, 1), (.aload_n 0, 1), (.getfield 38, 3), (.invokevirtual 288, 3), (.if_icmp .lt 14, 3), (.new 291, 3), (.dup, 1), (.ldc_w 293, 3), (.invokespecial 295, 3), (.athrow, 1), (.iload_n 2, 1), (.iconst 3, 1), (.invokestatic 87, 3), (.iload_n 2, 1), (.tableswitch 58 0 2 #[28, 38, 48], 28), (.aload_n 0, 1), (.getfield 38, 3), (.getfield 296, 3), (.iload_n 1, 1), (.iaload, 1), (.ireturn, 1), (.aload_n 0, 1), (.getfield 38, 3), (.getfield 300, 3), (.iload_n 1, 1), (.iaload, 1), (.ireturn, 1), (.aload_n 0, 1), (.getfield 38, 3), (.getfield 302, 3), (.iload_n 1, 1), (.iaload, 1), (.ireturn, 1), (.aload_n 0, 1), (.getfield 38, 3), (.getfield 305, 3), (.iload_n 1, 1), (.iaload, 1), (.ireturn, 1)]
abbrev mi_X6_log : MI := (yX6_log, cX6_log, 3, (some .int), [], { frames := 7, cells := 2, slots := 12, locals := 111 }, is_X6_log)
theorem dc_X6_log : dcb cX6_log is_X6_log 0 = true := by decide +kernel
theorem wc_X6_log : cdw mi_X6_log ∈ ALLW := aw (i := 1041) (by decide +kernel) rfl
theorem wi_X6_log : Cond.initialized (miY mi_X6_log).cls ∈ ALLW := aw (i := 57) (by decide +kernel) rfl
theorem wn_X6_log : Cond.instanceMethod (miY mi_X6_log) ∈ ALLW := aw (i := 1039) (by decide +kernel) rfl
theorem wv_X6_log : Cond.selects (miY mi_X6_log).cls (miY mi_X6_log) (miY mi_X6_log) ∈ ALLW := aw (i := 1040) (by decide +kernel) rfl
def is_X6_tear : List (Instr × Nat) := [(.aload_n 0, 1), (.getfield 38, 3), (.getfield 275, 3), (.istore_n 1, 1), (.aload_n 0, 1), (.getfield 38, 3), (.iconst 0, 1), (.putfield 275, 3), (.iload_n 1, 1), (.ireturn, 1)]
abbrev mi_X6_tear : MI := (yX6_tear, cX6_tear, 2, (some .int), [], { frames := 0, cells := 0, slots := 0, locals := 0 }, is_X6_tear)
theorem dc_X6_tear : dcb cX6_tear is_X6_tear 0 = true := by decide +kernel
theorem wc_X6_tear : cdw mi_X6_tear ∈ ALLW := aw (i := 368) (by decide +kernel) rfl
theorem wi_X6_tear : Cond.initialized (miY mi_X6_tear).cls ∈ ALLW := aw (i := 57) (by decide +kernel) rfl
theorem wn_X6_tear : Cond.instanceMethod (miY mi_X6_tear) ∈ ALLW := aw (i := 366) (by decide +kernel) rfl
theorem wv_X6_tear : Cond.selects (miY mi_X6_tear).cls (miY mi_X6_tear) (miY mi_X6_tear) ∈ ALLW := aw (i := 367) (by decide +kernel) rfl
def is_X6_runsUnderWay : List (Instr × Nat) := [(.iconst 0, 1), (.istore_n 1, 1), (.iconst 0, 1), (.istore_n 2, 1), (.iload_n 2, 1), (.bipush 12, 2), (.if_icmp .ge 21, 3), (.iload_n 1, 1), (.aload_n 0, 1), (.getfield 24, 3), (.iload_n 2, 1), (.aaload, 1), (.getfield 200, 3), (.iadd, 1), (.istore_n 1, 1), (.iinc 2 1, 3), (.goto (-21), 3), (.iload_n 1, 1), (.ireturn, 1)]
abbrev mi_X6_runsUnderWay : MI := (yX6_runsUnderWay, cX6_runsUnderWay, 3, (some .int), [], { frames := 0, cells := 0, slots := 0, locals := 0 }, is_X6_runsUnderWay)
theorem dc_X6_runsUnderWay : dcb cX6_runsUnderWay is_X6_runsUnderWay 0 = true := by decide +kernel
theorem wc_X6_runsUnderWay : cdw mi_X6_runsUnderWay ∈ ALLW := aw (i := 1058) (by decide +kernel) rfl
theorem wi_X6_runsUnderWay : Cond.initialized (miY mi_X6_runsUnderWay).cls ∈ ALLW := aw (i := 57) (by decide +kernel) rfl
theorem wn_X6_runsUnderWay : Cond.instanceMethod (miY mi_X6_runsUnderWay) ∈ ALLW := aw (i := 1057) (by decide +kernel) rfl
theorem wv_X6_runsUnderWay : Cond.selects (miY mi_X6_runsUnderWay).cls (miY mi_X6_runsUnderWay) (miY mi_X6_runsUnderWay) ∈ ALLW := aw (i := 14) (by decide +kernel) rfl
def is_X6_count : List (Instr × Nat) := [(.iload_n 1, 1), (.iconst 5, 1), (.invokestatic 87, 3), (.iload_n 1, 1), (.tableswitch 73 0 4 #[34, 39, 52, 57, 65], 34), (.aload_n 0, 1), (.getfield 262, 3), (.ireturn, 1), (.aload_n 0, 1), (.getfield 42, 3), (.ifCond .eq 7, 3), (.iconst 1, 1), (.goto 4, 3), (.iconst 0, 1), (.ireturn, 1), (.aload_n 0, 1), (.invokevirtual 182, 3), (.ireturn, 1), (.aload_n 0, 1), (.getfield 38, 3), (.getfield 275, 3), (.ireturn, 1), (.aload_n 0, 1), (.getfield 31, 3), (.getfield 135, 3), (.ireturn, 1), (.aload_n 0, 1), (.invokevirtual 308, 3), (.ireturn, 1)]
abbrev mi_X6_count : MI := (yX6_count, cX6_count, 2, (some .int), [], { frames := 7, cells := 1, slots := 6, locals := 111 }, is_X6_count)
theorem dc_X6_count : dcb cX6_count is_X6_count 0 = true := by decide +kernel
theorem wc_X6_count : cdw mi_X6_count ∈ ALLW := aw (i := 1054) (by decide +kernel) rfl
theorem wi_X6_count : Cond.initialized (miY mi_X6_count).cls ∈ ALLW := aw (i := 57) (by decide +kernel) rfl
theorem wn_X6_count : Cond.instanceMethod (miY mi_X6_count) ∈ ALLW := aw (i := 1052) (by decide +kernel) rfl
theorem wv_X6_count : Cond.selects (miY mi_X6_count).cls (miY mi_X6_count) (miY mi_X6_count) ∈ ALLW := aw (i := 1053) (by decide +kernel) rfl
def V_X6_zoneOf_9 (K : Rs → Mm → Prop)  (M : Mm)  : Prop := K (.inr "java/lang/IndexOutOfBoundsException") M
set_option maxRecDepth 100000 in
set_option maxHeartbeats 4000000 in
theorem x_X6_zoneOf_9 {G : Gx} {K : Rs → Mm → Prop}  {M : Mm}  (h : V_X6_zoneOf_9 K  M ) : E G mi_X6_zoneOf K M 0 0 9 [none, none] [] := by
  unfold V_X6_zoneOf_9 at h
  exact e_thrW (j := 2) "java/lang/IndexOutOfBoundsException" "no such zone" rfl rfl rfl rfl rfl (by decide +kernel) rfl (aw (i := 382) (by decide +kernel) rfl) (aw (i := 68) (by decide +kernel) rfl) (by decide) at_IndexOutOfBoundsException gd_IndexOutOfBoundsException (by decide) (Nat.le_of_ble_eq_true rfl) (by decide) (by decide) h
def V_X6_zoneOf (K : Rs → Mm → Prop) (M : Mm) (a0 : Nat) (a1 : Int32) : Prop := ((a1 < 0 → V_X6_zoneOf_9 K  M ) ∧ (¬ a1 < 0 → ((a1 < (4 : Int32) → (ob M a0 6 ∧ ∃ b2, mP M a0 1 = some b2 ∧ (ob M b2 13 ∧ (vp_in a1 (mN M b2) ∧ ∃ b5, mP M b2 (a1).toNatClampNeg = some b5 ∧ K (.inl (some (va_rf (some b5)))) M)))) ∧ (¬ a1 < (4 : Int32) → V_X6_zoneOf_9 K  M ))))
set_option maxRecDepth 100000 in
set_option maxHeartbeats 4000000 in
theorem x_X6_zoneOf {G : Gx} {K : Rs → Mm → Prop} {M : Mm} {a0 : Nat} {a1 : Int32} (h : V_X6_zoneOf K M a0 a1) : MC G mi_X6_zoneOf [.ref a0, .int a1] M K := by
  unfold V_X6_zoneOf at h
  refine mc_of rfl (by decide +kernel) dc_X6_zoneOf (Nat.le_of_ble_eq_true rfl) 0 (Nat.le_of_ble_eq_true rfl) ?_
  show E G mi_X6_zoneOf K M 0 0 0 [some (.ref a0), some (.int a1)] []
  refine e_blk 1 0 _ _ (pc' := 1) (L' := [some (.ref a0), some (.int a1)]) (st' := [.int a1]) rfl ?_
  refine e_if_lt 9 rfl rfl (fun hc => ?_) (fun hc => ?_)
  · replace h := h.1 hc
    refine e_drp [false, false] (L' := [none, none]) rfl ?_
    exact x_X6_zoneOf_9  h
  · replace h := h.2 hc
    refine e_blk 2 4 _ _ (pc' := 6) (L' := [some (.ref a0), some (.int a1)]) (st' := [.int (4 : Int32), .int a1]) rfl ?_
    refine e_icmp_lt 20 rfl rfl (fun hc => ?_) (fun hc => ?_)
    · replace h := h.1 hc
      refine e_blk 1 20 _ _ (pc' := 21) (L' := [some (.ref a0), some (.int a1)]) (st' := [.ref a0]) rfl ?_
      obtain ⟨ho1, h⟩ := h
      obtain ⟨b2, hbb2, h⟩ := h
      refine e_getR 6 1 rfl rfl (by decide) (aw (i := 334) (by decide +kernel) rfl) ho1 rfl hbb2 ?_
      refine e_blk 1 24 _ _ (pc' := 25) (L' := [some (.ref a0), some (.int a1)]) (st' := [.int a1, .ref b2]) rfl ?_
      obtain ⟨ho3, h⟩ := h
      obtain ⟨hi4, h⟩ := h
      obtain ⟨b5, hbb5, h⟩ := h
      refine e_aaldZR rfl ho3 hi4 hbb5 ?_
      exact e_reta (v := (some b5)) rfl rfl (by decide) (by decide) h
    · replace h := h.2 hc
      refine e_drp [false, false] (L' := [none, none]) rfl ?_
      exact x_X6_zoneOf_9  h
def V_X6_checkOffset_14 (K : Rs → Mm → Prop)  (M : Mm)  : Prop := K (.inr "java/lang/IllegalArgumentException") M
set_option maxRecDepth 100000 in
set_option maxHeartbeats 4000000 in
theorem x_X6_checkOffset_14 {G : Gx} {K : Rs → Mm → Prop}  {M : Mm}  (h : V_X6_checkOffset_14 K  M ) : E G mi_X6_checkOffset K M 0 0 14 [none] [] := by
  unfold V_X6_checkOffset_14 at h
  exact e_thrW (j := 3) "java/lang/IllegalArgumentException" "no such offset" rfl rfl rfl rfl rfl (by decide +kernel) rfl (aw (i := 453) (by decide +kernel) rfl) (aw (i := 69) (by decide +kernel) rfl) (by decide) at_IllegalArgumentException gd_IllegalArgumentException (by decide) (Nat.le_of_ble_eq_true rfl) (by decide) (by decide) h
def V_X6_checkOffset (K : Rs → Mm → Prop) (M : Mm) (a0 : Int32) : Prop := ((a0 < (-1439 : Int32) → V_X6_checkOffset_14 K  M ) ∧ (¬ a0 < (-1439 : Int32) → ((a0 ≤ (1439 : Int32) → K (.inl none) M) ∧ (¬ a0 ≤ (1439 : Int32) → V_X6_checkOffset_14 K  M ))))
set_option maxRecDepth 100000 in
set_option maxHeartbeats 4000000 in
theorem x_X6_checkOffset {G : Gx} {K : Rs → Mm → Prop} {M : Mm} {a0 : Int32} (h : V_X6_checkOffset K M a0) : MC G mi_X6_checkOffset [.int a0] M K := by
  unfold V_X6_checkOffset at h
  refine mc_of rfl (by decide +kernel) dc_X6_checkOffset (Nat.le_of_ble_eq_true rfl) 0 (Nat.le_of_ble_eq_true rfl) ?_
  show E G mi_X6_checkOffset K M 0 0 0 [some (.int a0)] []
  refine e_blk 2 0 _ _ (pc' := 4) (L' := [some (.int a0)]) (st' := [.int (-1439 : Int32), .int a0]) rfl ?_
  refine e_icmp_lt 14 rfl rfl (fun hc => ?_) (fun hc => ?_)
  · replace h := h.1 hc
    refine e_drp [false] (L' := [none]) rfl ?_
    exact x_X6_checkOffset_14  h
  · replace h := h.2 hc
    refine e_blk 2 7 _ _ (pc' := 11) (L' := [some (.int a0)]) (st' := [.int (1439 : Int32), .int a0]) rfl ?_
    refine e_icmp_le 25 rfl rfl (fun hc => ?_) (fun hc => ?_)
    · replace h := h.1 hc
      exact e_ret rfl rfl (by decide) (by decide) h
    · replace h := h.2 hc
      refine e_drp [false] (L' := [none]) rfl ?_
      exact x_X6_checkOffset_14  h
def V_X6_zone (K : Rs → Mm → Prop) (M : Mm) (a0 : Nat) (a1 : Int32) (a2 : Int32) : Prop := (ob M a0 6 ∧ V_X6_zoneOf (kR (fun r3 M2 => V_X6_checkOffset (kV (fun M4 => (ob M4 r3 5 ∧ V_X5_begin (kV (fun M6 => K (.inl none) M6) (fun _ _ => False)) M4 r3 a2)) (fun X M => K (.inr X) M)) M2 a2) (fun X M => K (.inr X) M)) M a0 a1)
set_option maxRecDepth 100000 in
set_option maxHeartbeats 4000000 in
theorem x_X6_zone {G : Gx} {K : Rs → Mm → Prop} {M : Mm} {a0 : Nat} {a1 : Int32} {a2 : Int32} (h : V_X6_zone K M a0 a1 a2) : MC G mi_X6_zone [.ref a0, .int a1, .int a2] M K := by
  unfold V_X6_zone at h
  refine mc_of rfl (by decide +kernel) dc_X6_zone (Nat.le_of_ble_eq_true rfl) 1 (Nat.le_of_ble_eq_true rfl) ?_
  show E G mi_X6_zone K M 0 0 0 [some (.ref a0), some (.int a1), some (.int a2), none] []
  refine e_blk 2 0 _ _ (pc' := 2) (L' := [some (.ref a0), some (.int a1), some (.int a2), none]) (st' := [.int a1, .ref a0]) rfl ?_
  obtain ⟨ho1, h⟩ := h
  refine e_callV (As := [.int a1]) (rest := []) (ci := 6) rfl (x_X6_zoneOf h) ho1 rfl rfl rfl (aw (i := 378) (by decide +kernel) rfl) wn_X6_zoneOf wv_X6_zoneOf wi_X6_zoneOf wc_X6_zoneOf (show cok mi_X6_zone mi_X6_zoneOf 0 0 1 = true by decide +kernel) (Nat.le_of_ble_eq_true rfl) (fun v9 M2 hq => ?_) (fun X M9 hq => et_out rfl (by decide) (by decide) hq)
  obtain ⟨r3, rfl, h⟩ := kR_l hq
  refine e_blk 2 5 _ _ (pc' := 7) (L' := [some (.ref a0), some (.int a1), some (.int a2), some (.ref r3)]) (st' := [.int a2]) rfl ?_
  refine e_callS (As := [.int a2]) (rest := []) rfl (x_X6_checkOffset h) rfl (aw (i := 450) (by decide +kernel) rfl) ws_X6_checkOffset wi_X6_checkOffset wc_X6_checkOffset (show cok mi_X6_zone mi_X6_checkOffset 1 6 1 = true by decide +kernel) (Nat.le_of_ble_eq_true rfl) (fun v9 M4 hq => ?_) (fun X M9 hq => et_out rfl (by decide) (by decide) hq)
  obtain ⟨rfl, h⟩ := kV_l hq
  refine e_blk 2 10 _ _ (pc' := 12) (L' := [some (.ref a0), some (.int a1), some (.int a2), some (.ref r3)]) (st' := [.int a2, .ref r3]) rfl ?_
  obtain ⟨ho5, h⟩ := h
  refine e_callV (As := [.int a2]) (rest := []) (ci := 5) rfl (x_X5_begin h) ho5 rfl rfl rfl (aw (i := 469) (by decide +kernel) rfl) wn_X5_begin wv_X5_begin wi_X5_begin wc_X5_begin (show cok mi_X6_zone mi_X5_begin 2 12 1 = true by decide +kernel) (Nat.le_of_ble_eq_true rfl) (fun v9 M6 hq => ?_) (fun X M9 hq => False.elim hq)
  obtain ⟨rfl, h⟩ := kV_l hq
  exact e_ret rfl rfl (by decide) (by decide) h
def V_X6_checkMinute_10 (K : Rs → Mm → Prop)  (M : Mm)  : Prop := K (.inr "java/lang/IllegalArgumentException") M
set_option maxRecDepth 100000 in
set_option maxHeartbeats 4000000 in
theorem x_X6_checkMinute_10 {G : Gx} {K : Rs → Mm → Prop}  {M : Mm}  (h : V_X6_checkMinute_10 K  M ) : E G mi_X6_checkMinute K M 0 0 10 [none] [] := by
  unfold V_X6_checkMinute_10 at h
  exact e_thrW (j := 4) "java/lang/IllegalArgumentException" "no such minute" rfl rfl rfl rfl rfl (by decide +kernel) rfl (aw (i := 453) (by decide +kernel) rfl) (aw (i := 69) (by decide +kernel) rfl) (by decide) at_IllegalArgumentException gd_IllegalArgumentException (by decide) (Nat.le_of_ble_eq_true rfl) (by decide) (by decide) h
def V_X6_checkMinute (K : Rs → Mm → Prop) (M : Mm) (a0 : Int32) : Prop := ((a0 < 0 → V_X6_checkMinute_10 K  M ) ∧ (¬ a0 < 0 → ((a0 ≤ (157785119 : Int32) → K (.inl none) M) ∧ (¬ a0 ≤ (157785119 : Int32) → V_X6_checkMinute_10 K  M ))))
set_option maxRecDepth 100000 in
set_option maxHeartbeats 4000000 in
theorem x_X6_checkMinute {G : Gx} {K : Rs → Mm → Prop} {M : Mm} {a0 : Int32} (h : V_X6_checkMinute K M a0) : MC G mi_X6_checkMinute [.int a0] M K := by
  unfold V_X6_checkMinute at h
  refine mc_of rfl (by decide +kernel) dc_X6_checkMinute (Nat.le_of_ble_eq_true rfl) 0 (Nat.le_of_ble_eq_true rfl) ?_
  show E G mi_X6_checkMinute K M 0 0 0 [some (.int a0)] []
  refine e_blk 1 0 _ _ (pc' := 1) (L' := [some (.int a0)]) (st' := [.int a0]) rfl ?_
  refine e_if_lt 10 rfl rfl (fun hc => ?_) (fun hc => ?_)
  · replace h := h.1 hc
    refine e_drp [false] (L' := [none]) rfl ?_
    exact x_X6_checkMinute_10  h
  · replace h := h.2 hc
    refine e_blk 1 4 _ _ (pc' := 5) (L' := [some (.int a0)]) (st' := [.int a0]) rfl ?_
    refine e_ldc (157785119) rfl (aw (i := 484) (by decide +kernel) rfl) ?_
    refine e_icmp_le 21 rfl rfl (fun hc => ?_) (fun hc => ?_)
    · replace h := h.1 hc
      exact e_ret rfl rfl (by decide) (by decide) h
    · replace h := h.2 hc
      refine e_drp [false] (L' := [none]) rfl ?_
      exact x_X6_checkMinute_10  h
def V_X6_change (K : Rs → Mm → Prop) (M : Mm) (a0 : Nat) (a1 : Int32) (a2 : Int32) (a3 : Int32) : Prop := (ob M a0 6 ∧ V_X6_zoneOf (kR (fun r3 M2 => V_X6_checkMinute (kV (fun M4 => V_X6_checkOffset (kV (fun M5 => (ob M5 r3 5 ∧ V_X5_isBehindLatest (kI (fun r8 M7 => ((¬ r8 = 0 → (ob M7 r3 5 ∧ (((mI M7 r3 2) < (20 : Int32) → V_X5_add (kV (fun M10 => (ob M10 r3 5 ∧ K (.inl (some (.int (mI M10 r3 2)))) M10)) (fun _ _ => False)) M7 r3 a2 a3) ∧ (¬ (mI M7 r3 2) < (20 : Int32) → K (.inr "java/lang/IllegalStateException") M7)))) ∧ (r8 = 0 → K (.inr "java/lang/IllegalArgumentException") M7))) (fun _ _ => False)) M5 r3 a2)) (fun X M => K (.inr X) M)) M4 a3) (fun X M => K (.inr X) M)) M2 a2) (fun X M => K (.inr X) M)) M a0 a1)
set_option maxRecDepth 100000 in
set_option maxHeartbeats 4000000 in
theorem x_X6_change {G : Gx} {K : Rs → Mm → Prop} {M : Mm} {a0 : Nat} {a1 : Int32} {a2 : Int32} {a3 : Int32} (h : V_X6_change K M a0 a1 a2 a3) : MC G mi_X6_change [.ref a0, .int a1, .int a2, .int a3] M K := by
  unfold V_X6_change at h
  refine mc_of rfl (by decide +kernel) dc_X6_change (Nat.le_of_ble_eq_true rfl) 1 (Nat.le_of_ble_eq_true rfl) ?_
  show E G mi_X6_change K M 0 0 0 [some (.ref a0), some (.int a1), some (.int a2), some (.int a3), none] []
  refine e_blk 2 0 _ _ (pc' := 2) (L' := [some (.ref a0), some (.int a1), some (.int a2), some (.int a3), none]) (st' := [.int a1, .ref a0]) rfl ?_
  obtain ⟨ho1, h⟩ := h
  refine e_callV (As := [.int a1]) (rest := []) (ci := 6) rfl (x_X6_zoneOf h) ho1 rfl rfl rfl (aw (i := 378) (by decide +kernel) rfl) wn_X6_zoneOf wv_X6_zoneOf wi_X6_zoneOf wc_X6_zoneOf (show cok mi_X6_change mi_X6_zoneOf 0 0 1 = true by decide +kernel) (Nat.le_of_ble_eq_true rfl) (fun v9 M2 hq => ?_) (fun X M9 hq => et_out rfl (by decide) (by decide) hq)
  obtain ⟨r3, rfl, h⟩ := kR_l hq
  refine e_blk 2 5 _ _ (pc' := 8) (L' := [some (.ref a0), some (.int a1), some (.int a2), some (.int a3), some (.ref r3)]) (st' := [.int a2]) rfl ?_
  refine e_callS (As := [.int a2]) (rest := []) rfl (x_X6_checkMinute h) rfl (aw (i := 481) (by decide +kernel) rfl) ws_X6_checkMinute wi_X6_checkMinute wc_X6_checkMinute (show cok mi_X6_change mi_X6_checkMinute 1 6 1 = true by decide +kernel) (Nat.le_of_ble_eq_true rfl) (fun v9 M4 hq => ?_) (fun X M9 hq => et_out rfl (by decide) (by decide) hq)
  obtain ⟨rfl, h⟩ := kV_l hq
  refine e_blk 1 11 _ _ (pc' := 12) (L' := [some (.ref a0), some (.int a1), some (.int a2), some (.int a3), some (.ref r3)]) (st' := [.int a3]) rfl ?_
  refine e_callS (As := [.int a3]) (rest := []) rfl (x_X6_checkOffset h) rfl (aw (i := 450) (by decide +kernel) rfl) ws_X6_checkOffset wi_X6_checkOffset wc_X6_checkOffset (show cok mi_X6_change mi_X6_checkOffset 2 12 1 = true by decide +kernel) (Nat.le_of_ble_eq_true rfl) (fun v9 M5 hq => ?_) (fun X M9 hq => et_out rfl (by decide) (by decide) hq)
  obtain ⟨rfl, h⟩ := kV_l hq
  refine e_blk 2 15 _ _ (pc' := 18) (L' := [some (.ref a0), some (.int a1), some (.int a2), some (.int a3), some (.ref r3)]) (st' := [.int a2, .ref r3]) rfl ?_
  obtain ⟨ho6, h⟩ := h
  refine e_callV (As := [.int a2]) (rest := []) (ci := 5) rfl (x_X5_isBehindLatest h) ho6 rfl rfl rfl (aw (i := 486) (by decide +kernel) rfl) wn_X5_isBehindLatest wv_X5_isBehindLatest wi_X5_isBehindLatest wc_X5_isBehindLatest (show cok mi_X6_change mi_X5_isBehindLatest 3 18 1 = true by decide +kernel) (Nat.le_of_ble_eq_true rfl) (fun v9 M7 hq => ?_) (fun X M9 hq => False.elim hq)
  obtain ⟨r8, rfl, h⟩ := kI_l hq
  refine e_if_ne 34 rfl rfl (fun hc => ?_) (fun hc => ?_)
  · replace h := h.1 hc
    refine e_blk 1 34 _ _ (pc' := 36) (L' := [some (.ref a0), some (.int a1), some (.int a2), some (.int a3), some (.ref r3)]) (st' := [.ref r3]) rfl ?_
    obtain ⟨ho9, h⟩ := h
    refine e_getI 5 2 rfl rfl (by decide) (aw (i := 250) (by decide +kernel) rfl) ho9 rfl ?_
    refine e_blk 1 39 _ _ (pc' := 41) (L' := [some (.ref a0), some (.int a1), some (.int a2), some (.int a3), some (.ref r3)]) (st' := [.int (20 : Int32), .int (mI M7 r3 2)]) rfl ?_
    refine e_icmp_lt 54 rfl rfl (fun hc => ?_) (fun hc => ?_)
    · replace h := h.1 hc
      refine e_blk 3 54 _ _ (pc' := 58) (L' := [some (.ref a0), some (.int a1), some (.int a2), some (.int a3), some (.ref r3)]) (st' := [.int a3, .int a2, .ref r3]) rfl ?_
      refine e_callV (As := [.int a2, .int a3]) (rest := []) (ci := 5) rfl (x_X5_add h) ho9 rfl rfl rfl (aw (i := 507) (by decide +kernel) rfl) wn_X5_add wv_X5_add wi_X5_add wc_X5_add (show cok mi_X6_change mi_X5_add 3 18 2 = true by decide +kernel) (Nat.le_of_ble_eq_true rfl) (fun v9 M10 hq => ?_) (fun X M9 hq => False.elim hq)
      obtain ⟨rfl, h⟩ := kV_l hq
      refine e_blk 1 61 _ _ (pc' := 63) (L' := [some (.ref a0), some (.int a1), some (.int a2), some (.int a3), some (.ref r3)]) (st' := [.ref r3]) rfl ?_
      obtain ⟨ho11, h⟩ := h
      refine e_getI 5 2 rfl rfl (by decide) (aw (i := 250) (by decide +kernel) rfl) ho11 rfl ?_
      exact e_reti rfl rfl (by decide) (by decide) h
    · replace h := h.2 hc
      exact e_thr (j := 6) "java/lang/IllegalStateException" "no more changes" rfl rfl rfl rfl rfl (by decide +kernel) rfl (aw (i := 491) (by decide +kernel) rfl) (aw (i := 70) (by decide +kernel) rfl) (by decide) at_IllegalStateException gd_IllegalStateException (by decide) (Nat.le_of_ble_eq_true rfl) (by decide) (by decide) h
  · replace h := h.2 hc
    exact e_thr (j := 5) "java/lang/IllegalArgumentException" "not behind the latest change" rfl rfl rfl rfl rfl (by decide +kernel) rfl (aw (i := 453) (by decide +kernel) rfl) (aw (i := 69) (by decide +kernel) rfl) (by decide) at_IllegalArgumentException gd_IllegalArgumentException (by decide) (Nat.le_of_ble_eq_true rfl) (by decide) (by decide) h
def V_X6_checkWhat_9 (K : Rs → Mm → Prop)  (M : Mm)  : Prop := K (.inr "java/lang/IllegalArgumentException") M
set_option maxRecDepth 100000 in
set_option maxHeartbeats 4000000 in
theorem x_X6_checkWhat_9 {G : Gx} {K : Rs → Mm → Prop}  {M : Mm}  (h : V_X6_checkWhat_9 K  M ) : E G mi_X6_checkWhat K M 0 0 9 [none, none] [] := by
  unfold V_X6_checkWhat_9 at h
  exact e_thrW (j := 7) "java/lang/IllegalArgumentException" "nothing is told by that number" rfl rfl rfl rfl rfl (by decide +kernel) rfl (aw (i := 453) (by decide +kernel) rfl) (aw (i := 69) (by decide +kernel) rfl) (by decide) at_IllegalArgumentException gd_IllegalArgumentException (by decide) (Nat.le_of_ble_eq_true rfl) (by decide) (by decide) h
def V_X6_checkWhat (K : Rs → Mm → Prop) (M : Mm) (a0 : Int32) (a1 : Int32) : Prop := ((a0 < 0 → V_X6_checkWhat_9 K  M ) ∧ (¬ a0 < 0 → ((a0 ≤ a1 → K (.inl none) M) ∧ (¬ a0 ≤ a1 → V_X6_checkWhat_9 K  M ))))
set_option maxRecDepth 100000 in
set_option maxHeartbeats 4000000 in
theorem x_X6_checkWhat {G : Gx} {K : Rs → Mm → Prop} {M : Mm} {a0 : Int32} {a1 : Int32} (h : V_X6_checkWhat K M a0 a1) : MC G mi_X6_checkWhat [.int a0, .int a1] M K := by
  unfold V_X6_checkWhat at h
  refine mc_of rfl (by decide +kernel) dc_X6_checkWhat (Nat.le_of_ble_eq_true rfl) 0 (Nat.le_of_ble_eq_true rfl) ?_
  show E G mi_X6_checkWhat K M 0 0 0 [some (.int a0), some (.int a1)] []
  refine e_blk 1 0 _ _ (pc' := 1) (L' := [some (.int a0), some (.int a1)]) (st' := [.int a0]) rfl ?_
  refine e_if_lt 9 rfl rfl (fun hc => ?_) (fun hc => ?_)
  · replace h := h.1 hc
    refine e_drp [false, false] (L' := [none, none]) rfl ?_
    exact x_X6_checkWhat_9  h
  · replace h := h.2 hc
    refine e_blk 2 4 _ _ (pc' := 6) (L' := [some (.int a0), some (.int a1)]) (st' := [.int a1, .int a0]) rfl ?_
    refine e_icmp_le 20 rfl rfl (fun hc => ?_) (fun hc => ?_)
    · replace h := h.1 hc
      exact e_ret rfl rfl (by decide) (by decide) h
    · replace h := h.2 hc
      refine e_drp [false, false] (L' := [none, none]) rfl ?_
      exact x_X6_checkWhat_9  h
def V_X6_civil (K : Rs → Mm → Prop) (M : Mm) (a0 : Nat) (a1 : Int32) (a2 : Int32) (a3 : Int32) : Prop := (ob M a0 6 ∧ V_X6_zoneOf (kR (fun r3 M2 => V_X6_checkMinute (kV (fun M4 => V_X6_checkWhat (kV (fun M5 => (ob M5 r3 5 ∧ V_X5_offsetAt (kI (fun r8 M7 => ∀ x9 : Int32, x9 = (a2 + r8) → V_J9_floorDiv_7cf53 (kI (fun r11 M10 => ∀ x12 : Int32, x12 = (x9 - (r11 * (1440 : Int32))) → (ob M10 a0 6 ∧ ∃ b14, mP M10 a0 0 = some b14 ∧ (ob M10 b14 0 ∧ V_X0_goToDay (kV (fun M16 => ((((a3).toInt < 0 ∨ 6 < (a3).toInt) → (ob M16 a0 6 ∧ ∃ b19, mP M16 a0 0 = some b19 ∧ (ob M16 b19 0 ∧ K (.inl (some (.int (mI M16 b19 4)))) M16))) ∧ ((a3 = 0 → (ob M16 a0 6 ∧ ∃ b23, mP M16 a0 0 = some b23 ∧ (ob M16 b23 0 ∧ K (.inl (some (.int (mI M16 b23 0)))) M16))) ∧ ((a3 = 1 → (ob M16 a0 6 ∧ ∃ b27, mP M16 a0 0 = some b27 ∧ (ob M16 b27 0 ∧ K (.inl (some (.int (mI M16 b27 1)))) M16))) ∧ ((a3 = 2 → (ob M16 a0 6 ∧ ∃ b31, mP M16 a0 0 = some b31 ∧ (ob M16 b31 0 ∧ K (.inl (some (.int (mI M16 b31 2)))) M16))) ∧ ((a3 = 3 → (ob M16 a0 6 ∧ ∃ b35, mP M16 a0 0 = some b35 ∧ (ob M16 b35 0 ∧ ∃ b37, mP M16 a0 0 = some b37 ∧ (ob M16 b37 0 ∧ K (.inl (some (.int ((((mI M16 b35 5) + (mI M16 b37 2)) - (1 : Int32)) - (((mI M16 b35 5) + (mI M16 b37 2)) - (1 : Int32)) / (7 : Int32) * (7 : Int32))))) M16)))) ∧ ((a3 = 4 → K (.inl (some (.int (x12 / (60 : Int32))))) M16) ∧ ((a3 = 5 → K (.inl (some (.int (x12 - x12 / (60 : Int32) * (60 : Int32))))) M16) ∧ ((a3 = 6 → (ob M16 a0 6 ∧ ∃ b43, mP M16 a0 0 = some b43 ∧ (ob M16 b43 0 ∧ V_X6_yearStart (kI (fun r46 M45 => K (.inl (some (.int ((r11 - r46) + (1 : Int32))))) M45) (fun _ _ => False)) M16 (mI M16 b43 0)))) ∧ True))))))))) (fun _ _ => False)) M10 b14 r11))) (fun _ _ => False)) M7 x9 (1440 : Int32)) (fun _ _ => False)) M5 r3 a2)) (fun X M => K (.inr X) M)) M4 a3 (7 : Int32)) (fun X M => K (.inr X) M)) M2 a2) (fun X M => K (.inr X) M)) M a0 a1)
set_option maxRecDepth 100000 in
set_option maxHeartbeats 4000000 in
theorem x_X6_civil {G : Gx} {K : Rs → Mm → Prop} {M : Mm} {a0 : Nat} {a1 : Int32} {a2 : Int32} {a3 : Int32} (h : V_X6_civil K M a0 a1 a2 a3) : MC G mi_X6_civil [.ref a0, .int a1, .int a2, .int a3] M K := by
  unfold V_X6_civil at h
  refine mc_of rfl (by decide +kernel) dc_X6_civil (Nat.le_of_ble_eq_true rfl) 4 (Nat.le_of_ble_eq_true rfl) ?_
  show E G mi_X6_civil K M 0 0 0 [some (.ref a0), some (.int a1), some (.int a2), some (.int a3), none, none, none, none] []
  refine e_blk 2 0 _ _ (pc' := 2) (L' := [some (.ref a0), some (.int a1), some (.int a2), some (.int a3), none, none, none, none]) (st' := [.int a1, .ref a0]) rfl ?_
  obtain ⟨ho1, h⟩ := h
  refine e_callV (As := [.int a1]) (rest := []) (ci := 6) rfl (x_X6_zoneOf h) ho1 rfl rfl rfl (aw (i := 378) (by decide +kernel) rfl) wn_X6_zoneOf wv_X6_zoneOf wi_X6_zoneOf wc_X6_zoneOf (show cok mi_X6_civil mi_X6_zoneOf 0 0 1 = true by decide +kernel) (Nat.le_of_ble_eq_true rfl) (fun v9 M2 hq => ?_) (fun X M9 hq => et_out rfl (by decide) (by decide) hq)
  obtain ⟨r3, rfl, h⟩ := kR_l hq
  refine e_blk 2 5 _ _ (pc' := 8) (L' := [some (.ref a0), some (.int a1), some (.int a2), some (.int a3), some (.ref r3), none, none, none]) (st' := [.int a2]) rfl ?_
  refine e_callS (As := [.int a2]) (rest := []) rfl (x_X6_checkMinute h) rfl (aw (i := 481) (by decide +kernel) rfl) ws_X6_checkMinute wi_X6_checkMinute wc_X6_checkMinute (show cok mi_X6_civil mi_X6_checkMinute 1 6 1 = true by decide +kernel) (Nat.le_of_ble_eq_true rfl) (fun v9 M4 hq => ?_) (fun X M9 hq => et_out rfl (by decide) (by decide) hq)
  obtain ⟨rfl, h⟩ := kV_l hq
  refine e_blk 2 11 _ _ (pc' := 14) (L' := [some (.ref a0), some (.int a1), some (.int a2), some (.int a3), some (.ref r3), none, none, none]) (st' := [.int (7 : Int32), .int a3]) rfl ?_
  refine e_callS (As := [.int a3, .int (7 : Int32)]) (rest := []) rfl (x_X6_checkWhat h) rfl (aw (i := 518) (by decide +kernel) rfl) ws_X6_checkWhat wi_X6_checkWhat wc_X6_checkWhat (show cok mi_X6_civil mi_X6_checkWhat 2 12 2 = true by decide +kernel) (Nat.le_of_ble_eq_true rfl) (fun v9 M5 hq => ?_) (fun X M9 hq => et_out rfl (by decide) (by decide) hq)
  obtain ⟨rfl, h⟩ := kV_l hq
  refine e_blk 3 17 _ _ (pc' := 21) (L' := [some (.ref a0), some (.int a1), some (.int a2), some (.int a3), some (.ref r3), none, none, none]) (st' := [.int a2, .ref r3, .int a2]) rfl ?_
  obtain ⟨ho6, h⟩ := h
  refine e_callV (As := [.int a2]) (rest := [.int a2]) (ci := 5) rfl (x_X5_offsetAt h) ho6 rfl rfl rfl (aw (i := 522) (by decide +kernel) rfl) wn_X5_offsetAt wv_X5_offsetAt wi_X5_offsetAt wc_X5_offsetAt (show cok mi_X6_civil mi_X5_offsetAt 3 18 1 = true by decide +kernel) (Nat.le_of_ble_eq_true rfl) (fun v9 M7 hq => ?_) (fun X M9 hq => False.elim hq)
  obtain ⟨r8, rfl, h⟩ := kI_l hq
  refine e_blk 4 24 _ _ (pc' := 32) (L' := [some (.ref a0), some (.int a1), some (.int a2), some (.int a3), some (.ref r3), some (.int (a2 + r8)), none, none]) (st' := [.int (1440 : Int32), .int (a2 + r8)]) rfl ?_
  generalize hx_x9 : ((a2 + r8) : Int32) = x9
  replace h := h x9 hx_x9.symm
  refine e_callS (As := [.int x9, .int (1440 : Int32)]) (rest := []) rfl (x_J9_floorDiv_7cf53 h) rfl (aw (i := 526) (by decide +kernel) rfl) ws_J9_floorDiv_7cf53 wi_J9_floorDiv_7cf53 wc_J9_floorDiv_7cf53 (show cok mi_X6_civil mi_J9_floorDiv_7cf53 3 18 2 = true by decide +kernel) (Nat.le_of_ble_eq_true rfl) (fun v9 M10 hq => ?_) (fun X M9 hq => False.elim hq)
  obtain ⟨r11, rfl, h⟩ := kI_l hq
  refine e_blk 8 35 _ _ (pc' := 49) (L' := [some (.ref a0), some (.int a1), some (.int a2), some (.int a3), some (.ref r3), some (.int x9), some (.int r11), some (.int (x9 - (r11 * (1440 : Int32))))]) (st' := [.ref a0]) rfl ?_
  generalize hx_x12 : ((x9 - (r11 * (1440 : Int32))) : Int32) = x12
  replace h := h x12 hx_x12.symm
  obtain ⟨ho13, h⟩ := h
  obtain ⟨b14, hbb14, h⟩ := h
  refine e_getR 6 0 rfl rfl (by decide) (aw (i := 333) (by decide +kernel) rfl) ho13 rfl hbb14 ?_
  refine e_blk 1 52 _ _ (pc' := 54) (L' := [some (.ref a0), some (.int a1), some (.int a2), some (.int a3), some (.ref r3), some (.int x9), some (.int r11), some (.int x12)]) (st' := [.int r11, .ref b14]) rfl ?_
  obtain ⟨ho15, h⟩ := h
  refine e_callV (As := [.int r11]) (rest := []) (ci := 0) rfl (x_X0_goToDay h) ho15 rfl rfl rfl (aw (i := 529) (by decide +kernel) rfl) wn_X0_goToDay wv_X0_goToDay wi_X0_goToDay wc_X0_goToDay (show cok mi_X6_civil mi_X0_goToDay 3 18 1 = true by decide +kernel) (Nat.le_of_ble_eq_true rfl) (fun v9 M16 hq => ?_) (fun X M9 hq => False.elim hq)
  obtain ⟨rfl, h⟩ := kV_l hq
  refine e_blk 1 57 _ _ (pc' := 58) (L' := [some (.ref a0), some (.int a1), some (.int a2), some (.int a3), some (.ref r3), some (.int x9), some (.int r11), some (.int x12)]) (st' := [.int a3]) rfl ?_
  by_cases hs17 : (a3).toInt < 0 ∨ 6 < (a3).toInt
  · replace h := h.1 hs17
    refine e_swO 173 rfl hs17 rfl ?_
    refine e_blk 1 173 _ _ (pc' := 174) (L' := [some (.ref a0), some (.int a1), some (.int a2), some (.int a3), some (.ref r3), some (.int x9), some (.int r11), some (.int x12)]) (st' := [.ref a0]) rfl ?_
    obtain ⟨ho18, h⟩ := h
    obtain ⟨b19, hbb19, h⟩ := h
    refine e_getR 6 0 rfl rfl (by decide) (aw (i := 333) (by decide +kernel) rfl) ho18 rfl hbb19 ?_
    obtain ⟨ho20, h⟩ := h
    refine e_getI 0 4 rfl rfl (by decide) (aw (i := 103) (by decide +kernel) rfl) ho20 rfl ?_
    exact e_reti rfl rfl (by decide) (by decide) h
  replace h := h.2
  by_cases he21 : a3 = 0
  · replace h := h.1 he21
    refine e_swI (42) 100 rfl (fun q => hs17 (Or.inl q)) (fun q => hs17 (Or.inr q)) (by rw [he21]; decide) rfl ?_
    refine e_blk 1 100 _ _ (pc' := 101) (L' := [some (.ref a0), some (.int a1), some (.int a2), some (.int a3), some (.ref r3), some (.int x9), some (.int r11), some (.int x12)]) (st' := [.ref a0]) rfl ?_
    obtain ⟨ho22, h⟩ := h
    obtain ⟨b23, hbb23, h⟩ := h
    refine e_getR 6 0 rfl rfl (by decide) (aw (i := 333) (by decide +kernel) rfl) ho22 rfl hbb23 ?_
    obtain ⟨ho24, h⟩ := h
    refine e_getI 0 0 rfl rfl (by decide) (aw (i := 92) (by decide +kernel) rfl) ho24 rfl ?_
    exact e_reti rfl rfl (by decide) (by decide) h
  replace h := h.2
  by_cases he25 : a3 = 1
  · replace h := h.1 he25
    refine e_swI (50) 108 rfl (fun q => hs17 (Or.inl q)) (fun q => hs17 (Or.inr q)) (by rw [he25]; decide) rfl ?_
    refine e_blk 1 108 _ _ (pc' := 109) (L' := [some (.ref a0), some (.int a1), some (.int a2), some (.int a3), some (.ref r3), some (.int x9), some (.int r11), some (.int x12)]) (st' := [.ref a0]) rfl ?_
    obtain ⟨ho26, h⟩ := h
    obtain ⟨b27, hbb27, h⟩ := h
    refine e_getR 6 0 rfl rfl (by decide) (aw (i := 333) (by decide +kernel) rfl) ho26 rfl hbb27 ?_
    obtain ⟨ho28, h⟩ := h
    refine e_getI 0 1 rfl rfl (by decide) (aw (i := 95) (by decide +kernel) rfl) ho28 rfl ?_
    exact e_reti rfl rfl (by decide) (by decide) h
  replace h := h.2
  by_cases he29 : a3 = 2
  · replace h := h.1 he29
    refine e_swI (58) 116 rfl (fun q => hs17 (Or.inl q)) (fun q => hs17 (Or.inr q)) (by rw [he29]; decide) rfl ?_
    refine e_blk 1 116 _ _ (pc' := 117) (L' := [some (.ref a0), some (.int a1), some (.int a2), some (.int a3), some (.ref r3), some (.int x9), some (.int r11), some (.int x12)]) (st' := [.ref a0]) rfl ?_
    obtain ⟨ho30, h⟩ := h
    obtain ⟨b31, hbb31, h⟩ := h
    refine e_getR 6 0 rfl rfl (by decide) (aw (i := 333) (by decide +kernel) rfl) ho30 rfl hbb31 ?_
    obtain ⟨ho32, h⟩ := h
    refine e_getI 0 2 rfl rfl (by decide) (aw (i := 98) (by decide +kernel) rfl) ho32 rfl ?_
    exact e_reti rfl rfl (by decide) (by decide) h
  replace h := h.2
  by_cases he33 : a3 = 3
  · replace h := h.1 he33
    refine e_swI (66) 124 rfl (fun q => hs17 (Or.inl q)) (fun q => hs17 (Or.inr q)) (by rw [he33]; decide) rfl ?_
    refine e_blk 1 124 _ _ (pc' := 125) (L' := [some (.ref a0), some (.int a1), some (.int a2), some (.int a3), some (.ref r3), some (.int x9), some (.int r11), some (.int x12)]) (st' := [.ref a0]) rfl ?_
    obtain ⟨ho34, h⟩ := h
    obtain ⟨b35, hbb35, h⟩ := h
    refine e_getR 6 0 rfl rfl (by decide) (aw (i := 333) (by decide +kernel) rfl) ho34 rfl hbb35 ?_
    obtain ⟨ho36, h⟩ := h
    refine e_getI 0 5 rfl rfl (by decide) (aw (i := 105) (by decide +kernel) rfl) ho36 rfl ?_
    refine e_blk 1 131 _ _ (pc' := 132) (L' := [some (.ref a0), some (.int a1), some (.int a2), some (.int a3), some (.ref r3), some (.int x9), some (.int r11), some (.int x12)]) (st' := [.ref a0, .int (mI M16 b35 5)]) rfl ?_
    obtain ⟨b37, hbb37, h⟩ := h
    refine e_getR 6 0 rfl rfl (by decide) (aw (i := 333) (by decide +kernel) rfl) ho34 rfl hbb37 ?_
    obtain ⟨ho38, h⟩ := h
    refine e_getI 0 2 rfl rfl (by decide) (aw (i := 98) (by decide +kernel) rfl) ho38 rfl ?_
    refine e_blk 4 138 _ _ (pc' := 143) (L' := [some (.ref a0), some (.int a1), some (.int a2), some (.int a3), some (.ref r3), some (.int x9), some (.int r11), some (.int x12)]) (st' := [.int (7 : Int32), .int (((mI M16 b35 5) + (mI M16 b37 2)) - (1 : Int32))]) rfl ?_
    refine e_irem rfl (by decide) ?_
    exact e_reti rfl rfl (by decide) (by decide) h
  replace h := h.2
  by_cases he39 : a3 = 4
  · replace h := h.1 he39
    refine e_swI (87) 145 rfl (fun q => hs17 (Or.inl q)) (fun q => hs17 (Or.inr q)) (by rw [he39]; decide) rfl ?_
    refine e_blk 2 145 _ _ (pc' := 149) (L' := [some (.ref a0), some (.int a1), some (.int a2), some (.int a3), some (.ref r3), some (.int x9), some (.int r11), some (.int x12)]) (st' := [.int (60 : Int32), .int x12]) rfl ?_
    refine e_idiv rfl (by decide) ?_
    exact e_reti rfl rfl (by decide) (by decide) h
  replace h := h.2
  by_cases he40 : a3 = 5
  · replace h := h.1 he40
    refine e_swI (93) 151 rfl (fun q => hs17 (Or.inl q)) (fun q => hs17 (Or.inr q)) (by rw [he40]; decide) rfl ?_
    refine e_blk 2 151 _ _ (pc' := 155) (L' := [some (.ref a0), some (.int a1), some (.int a2), some (.int a3), some (.ref r3), some (.int x9), some (.int r11), some (.int x12)]) (st' := [.int (60 : Int32), .int x12]) rfl ?_
    refine e_irem rfl (by decide) ?_
    exact e_reti rfl rfl (by decide) (by decide) h
  replace h := h.2
  by_cases he41 : a3 = 6
  · replace h := h.1 he41
    refine e_swI (99) 157 rfl (fun q => hs17 (Or.inl q)) (fun q => hs17 (Or.inr q)) (by rw [he41]; decide) rfl ?_
    refine e_blk 2 157 _ _ (pc' := 160) (L' := [some (.ref a0), some (.int a1), some (.int a2), some (.int a3), some (.ref r3), some (.int x9), some (.int r11), some (.int x12)]) (st' := [.ref a0, .int r11]) rfl ?_
    obtain ⟨ho42, h⟩ := h
    obtain ⟨b43, hbb43, h⟩ := h
    refine e_getR 6 0 rfl rfl (by decide) (aw (i := 333) (by decide +kernel) rfl) ho42 rfl hbb43 ?_
    obtain ⟨ho44, h⟩ := h
    refine e_getI 0 0 rfl rfl (by decide) (aw (i := 92) (by decide +kernel) rfl) ho44 rfl ?_
    refine e_callS (As := [.int (mI M16 b43 0)]) (rest := [.int r11]) rfl (x_X6_yearStart h) rfl (aw (i := 547) (by decide +kernel) rfl) ws_X6_yearStart wi_X6_yearStart wc_X6_yearStart (show cok mi_X6_civil mi_X6_yearStart 3 18 1 = true by decide +kernel) (Nat.le_of_ble_eq_true rfl) (fun v9 M45 hq => ?_) (fun X M9 hq => False.elim hq)
    obtain ⟨r46, rfl, h⟩ := kI_l hq
    refine e_blk 3 169 _ _ (pc' := 172) (L' := [some (.ref a0), some (.int a1), some (.int a2), some (.int a3), some (.ref r3), some (.int x9), some (.int r11), some (.int x12)]) (st' := [.int ((r11 - r46) + (1 : Int32))]) rfl ?_
    exact e_reti rfl rfl (by decide) (by decide) h
  replace h := h.2
  exfalso
  have the21 : (a3).toInt ≠ 0 := fun q => he21 (Int32.toInt_inj.mp (q.trans (by decide)))
  have the25 : (a3).toInt ≠ 1 := fun q => he25 (Int32.toInt_inj.mp (q.trans (by decide)))
  have the29 : (a3).toInt ≠ 2 := fun q => he29 (Int32.toInt_inj.mp (q.trans (by decide)))
  have the33 : (a3).toInt ≠ 3 := fun q => he33 (Int32.toInt_inj.mp (q.trans (by decide)))
  have the39 : (a3).toInt ≠ 4 := fun q => he39 (Int32.toInt_inj.mp (q.trans (by decide)))
  have the40 : (a3).toInt ≠ 5 := fun q => he40 (Int32.toInt_inj.mp (q.trans (by decide)))
  have the41 : (a3).toInt ≠ 6 := fun q => he41 (Int32.toInt_inj.mp (q.trans (by decide)))
  omega
def V_X6_checkDate_39 (K : Rs → Mm → Prop)  (M : Mm)  : Prop := K (.inr "java/lang/IllegalArgumentException") M
set_option maxRecDepth 100000 in
set_option maxHeartbeats 4000000 in
theorem x_X6_checkDate_39 {G : Gx} {K : Rs → Mm → Prop}  {M : Mm}  (h : V_X6_checkDate_39 K  M ) : E G mi_X6_checkDate K M 0 0 39 [none, none, none] [] := by
  unfold V_X6_checkDate_39 at h
  exact e_thrW (j := 8) "java/lang/IllegalArgumentException" "no such date" rfl rfl rfl rfl rfl (by decide +kernel) rfl (aw (i := 453) (by decide +kernel) rfl) (aw (i := 69) (by decide +kernel) rfl) (by decide) at_IllegalArgumentException gd_IllegalArgumentException (by decide) (Nat.le_of_ble_eq_true rfl) (by decide) (by decide) h
def V_X6_checkDate (K : Rs → Mm → Prop) (M : Mm) (a0 : Int32) (a1 : Int32) (a2 : Int32) : Prop := ((a0 < (1899 : Int32) → V_X6_checkDate_39 K  M ) ∧ (¬ a0 < (1899 : Int32) → (((2200 : Int32) < a0 → V_X6_checkDate_39 K  M ) ∧ (¬ (2200 : Int32) < a0 → ((a1 < (1 : Int32) → V_X6_checkDate_39 K  M ) ∧ (¬ a1 < (1 : Int32) → (((12 : Int32) < a1 → V_X6_checkDate_39 K  M ) ∧ (¬ (12 : Int32) < a1 → ((a2 < (1 : Int32) → V_X6_checkDate_39 K  M ) ∧ (¬ a2 < (1 : Int32) → V_X6_daysOfMonth (kI (fun r2 M1 => ((a2 ≤ r2 → K (.inl none) M1) ∧ (¬ a2 ≤ r2 → V_X6_checkDate_39 K  M1 ))) (fun _ _ => False)) M a0 a1))))))))))
set_option maxRecDepth 100000 in
set_option maxHeartbeats 4000000 in
theorem x_X6_checkDate {G : Gx} {K : Rs → Mm → Prop} {M : Mm} {a0 : Int32} {a1 : Int32} {a2 : Int32} (h : V_X6_checkDate K M a0 a1 a2) : MC G mi_X6_checkDate [.int a0, .int a1, .int a2] M K := by
  unfold V_X6_checkDate at h
  refine mc_of rfl (by decide +kernel) dc_X6_checkDate (Nat.le_of_ble_eq_true rfl) 0 (Nat.le_of_ble_eq_true rfl) ?_
  show E G mi_X6_checkDate K M 0 0 0 [some (.int a0), some (.int a1), some (.int a2)] []
  refine e_blk 2 0 _ _ (pc' := 4) (L' := [some (.int a0), some (.int a1), some (.int a2)]) (st' := [.int (1899 : Int32), .int a0]) rfl ?_
  refine e_icmp_lt 39 rfl rfl (fun hc => ?_) (fun hc => ?_)
  · replace h := h.1 hc
    refine e_drp [false, false, false] (L' := [none, none, none]) rfl ?_
    exact x_X6_checkDate_39  h
  · replace h := h.2 hc
    refine e_blk 2 7 _ _ (pc' := 11) (L' := [some (.int a0), some (.int a1), some (.int a2)]) (st' := [.int (2200 : Int32), .int a0]) rfl ?_
    refine e_icmp_gt 39 rfl rfl (fun hc => ?_) (fun hc => ?_)
    · replace h := h.1 hc
      refine e_drp [false, false, false] (L' := [none, none, none]) rfl ?_
      exact x_X6_checkDate_39  h
    · replace h := h.2 hc
      refine e_blk 2 14 _ _ (pc' := 16) (L' := [some (.int a0), some (.int a1), some (.int a2)]) (st' := [.int (1 : Int32), .int a1]) rfl ?_
      refine e_icmp_lt 39 rfl rfl (fun hc => ?_) (fun hc => ?_)
      · replace h := h.1 hc
        refine e_drp [false, false, false] (L' := [none, none, none]) rfl ?_
        exact x_X6_checkDate_39  h
      · replace h := h.2 hc
        refine e_blk 2 19 _ _ (pc' := 22) (L' := [some (.int a0), some (.int a1), some (.int a2)]) (st' := [.int (12 : Int32), .int a1]) rfl ?_
        refine e_icmp_gt 39 rfl rfl (fun hc => ?_) (fun hc => ?_)
        · replace h := h.1 hc
          refine e_drp [false, false, false] (L' := [none, none, none]) rfl ?_
          exact x_X6_checkDate_39  h
        · replace h := h.2 hc
          refine e_blk 2 25 _ _ (pc' := 27) (L' := [some (.int a0), some (.int a1), some (.int a2)]) (st' := [.int (1 : Int32), .int a2]) rfl ?_
          refine e_icmp_lt 39 rfl rfl (fun hc => ?_) (fun hc => ?_)
          · replace h := h.1 hc
            refine e_drp [false, false, false] (L' := [none, none, none]) rfl ?_
            exact x_X6_checkDate_39  h
          · replace h := h.2 hc
            refine e_blk 3 30 _ _ (pc' := 33) (L' := [some (.int a0), some (.int a1), some (.int a2)]) (st' := [.int a1, .int a0, .int a2]) rfl ?_
            refine e_callS (As := [.int a0, .int a1]) (rest := [.int a2]) rfl (x_X6_daysOfMonth h) rfl (aw (i := 558) (by decide +kernel) rfl) ws_X6_daysOfMonth wi_X6_daysOfMonth wc_X6_daysOfMonth (show cok mi_X6_checkDate mi_X6_daysOfMonth 0 0 2 = true by decide +kernel) (Nat.le_of_ble_eq_true rfl) (fun v9 M1 hq => ?_) (fun X M9 hq => False.elim hq)
            obtain ⟨r2, rfl, h⟩ := kI_l hq
            refine e_icmp_le 50 rfl rfl (fun hc => ?_) (fun hc => ?_)
            · replace h := h.1 hc
              exact e_ret rfl rfl (by decide) (by decide) h
            · replace h := h.2 hc
              refine e_drp [false, false, false] (L' := [none, none, none]) rfl ?_
              exact x_X6_checkDate_39  h
def V_X6_minute_38 (K : Rs → Mm → Prop)  (M : Mm)  : Prop := K (.inr "java/lang/IllegalArgumentException") M
set_option maxRecDepth 100000 in
set_option maxHeartbeats 4000000 in
theorem x_X6_minute_38 {G : Gx} {K : Rs → Mm → Prop}  {M : Mm}  (h : V_X6_minute_38 K  M ) : E G mi_X6_minute K M 2 12 38 [none, none, none, none, none, none, none, none, none] [] := by
  unfold V_X6_minute_38 at h
  exact e_thr (j := 9) "java/lang/IllegalArgumentException" "no such time of a day" rfl rfl rfl rfl rfl (by decide +kernel) rfl (aw (i := 453) (by decide +kernel) rfl) (aw (i := 69) (by decide +kernel) rfl) (by decide) at_IllegalArgumentException gd_IllegalArgumentException (by decide) (Nat.le_of_ble_eq_true rfl) (by decide) (by decide) h
def V_X6_minute (K : Rs → Mm → Prop) (M : Mm) (a0 : Nat) (a1 : Int32) (a2 : Int32) (a3 : Int32) (a4 : Int32) (a5 : Int32) (a6 : Int32) : Prop := (ob M a0 6 ∧ V_X6_zoneOf (kR (fun r3 M2 => V_X6_checkDate (kV (fun M4 => ((a5 < 0 → V_X6_minute_38 K  M4 ) ∧ (¬ a5 < 0 → (((23 : Int32) < a5 → V_X6_minute_38 K  M4 ) ∧ (¬ (23 : Int32) < a5 → ((a6 < 0 → V_X6_minute_38 K  M4 ) ∧ (¬ a6 < 0 → ((a6 ≤ (59 : Int32) → V_X6_monthStart (kI (fun r6 M5 => ∀ x7 : Int32, x7 = ((r6 + a4) - (1 : Int32)) → (ob M5 r3 5 ∧ V_X5_leastMinuteOf (kI (fun r10 M9 => K (.inl (some (.int r10))) M9) (fun _ _ => False)) M5 r3 (((x7 * (1440 : Int32)) + (a5 * (60 : Int32))) + a6))) (fun _ _ => False)) M4 a2 a3) ∧ (¬ a6 ≤ (59 : Int32) → V_X6_minute_38 K  M4 ))))))))) (fun X M => K (.inr X) M)) M2 a2 a3 a4) (fun X M => K (.inr X) M)) M a0 a1)
set_option maxRecDepth 100000 in
set_option maxHeartbeats 4000000 in
theorem x_X6_minute {G : Gx} {K : Rs → Mm → Prop} {M : Mm} {a0 : Nat} {a1 : Int32} {a2 : Int32} {a3 : Int32} {a4 : Int32} {a5 : Int32} {a6 : Int32} (h : V_X6_minute K M a0 a1 a2 a3 a4 a5 a6) : MC G mi_X6_minute [.ref a0, .int a1, .int a2, .int a3, .int a4, .int a5, .int a6] M K := by
  unfold V_X6_minute at h
  refine mc_of rfl (by decide +kernel) dc_X6_minute (Nat.le_of_ble_eq_true rfl) 2 (Nat.le_of_ble_eq_true rfl) ?_
  show E G mi_X6_minute K M 0 0 0 [some (.ref a0), some (.int a1), some (.int a2), some (.int a3), some (.int a4), some (.int a5), some (.int a6), none, none] []
  refine e_blk 2 0 _ _ (pc' := 2) (L' := [some (.ref a0), some (.int a1), some (.int a2), some (.int a3), some (.int a4), some (.int a5), some (.int a6), none, none]) (st' := [.int a1, .ref a0]) rfl ?_
  obtain ⟨ho1, h⟩ := h
  refine e_callV (As := [.int a1]) (rest := []) (ci := 6) rfl (x_X6_zoneOf h) ho1 rfl rfl rfl (aw (i := 378) (by decide +kernel) rfl) wn_X6_zoneOf wv_X6_zoneOf wi_X6_zoneOf wc_X6_zoneOf (show cok mi_X6_minute mi_X6_zoneOf 0 0 1 = true by decide +kernel) (Nat.le_of_ble_eq_true rfl) (fun v9 M2 hq => ?_) (fun X M9 hq => et_out rfl (by decide) (by decide) hq)
  obtain ⟨r3, rfl, h⟩ := kR_l hq
  refine e_blk 4 5 _ _ (pc' := 11) (L' := [some (.ref a0), some (.int a1), some (.int a2), some (.int a3), some (.int a4), some (.int a5), some (.int a6), some (.ref r3), none]) (st' := [.int a4, .int a3, .int a2]) rfl ?_
  refine e_callS (As := [.int a2, .int a3, .int a4]) (rest := []) rfl (x_X6_checkDate h) rfl (aw (i := 555) (by decide +kernel) rfl) ws_X6_checkDate wi_X6_checkDate wc_X6_checkDate (show cok mi_X6_minute mi_X6_checkDate 1 6 3 = true by decide +kernel) (Nat.le_of_ble_eq_true rfl) (fun v9 M4 hq => ?_) (fun X M9 hq => et_out rfl (by decide) (by decide) hq)
  obtain ⟨rfl, h⟩ := kV_l hq
  refine e_blk 1 14 _ _ (pc' := 16) (L' := [some (.ref a0), some (.int a1), some (.int a2), some (.int a3), some (.int a4), some (.int a5), some (.int a6), some (.ref r3), none]) (st' := [.int a5]) rfl ?_
  refine e_if_lt 38 rfl rfl (fun hc => ?_) (fun hc => ?_)
  · replace h := h.1 hc
    refine e_drp [false, false, false, false, false, false, false, false, false] (L' := [none, none, none, none, none, none, none, none, none]) rfl ?_
    exact x_X6_minute_38  h
  · replace h := h.2 hc
    refine e_blk 2 19 _ _ (pc' := 23) (L' := [some (.ref a0), some (.int a1), some (.int a2), some (.int a3), some (.int a4), some (.int a5), some (.int a6), some (.ref r3), none]) (st' := [.int (23 : Int32), .int a5]) rfl ?_
    refine e_icmp_gt 38 rfl rfl (fun hc => ?_) (fun hc => ?_)
    · replace h := h.1 hc
      refine e_drp [false, false, false, false, false, false, false, false, false] (L' := [none, none, none, none, none, none, none, none, none]) rfl ?_
      exact x_X6_minute_38  h
    · replace h := h.2 hc
      refine e_blk 1 26 _ _ (pc' := 28) (L' := [some (.ref a0), some (.int a1), some (.int a2), some (.int a3), some (.int a4), some (.int a5), some (.int a6), some (.ref r3), none]) (st' := [.int a6]) rfl ?_
      refine e_if_lt 38 rfl rfl (fun hc => ?_) (fun hc => ?_)
      · replace h := h.1 hc
        refine e_drp [false, false, false, false, false, false, false, false, false] (L' := [none, none, none, none, none, none, none, none, none]) rfl ?_
        exact x_X6_minute_38  h
      · replace h := h.2 hc
        refine e_blk 2 31 _ _ (pc' := 35) (L' := [some (.ref a0), some (.int a1), some (.int a2), some (.int a3), some (.int a4), some (.int a5), some (.int a6), some (.ref r3), none]) (st' := [.int (59 : Int32), .int a6]) rfl ?_
        refine e_icmp_le 48 rfl rfl (fun hc => ?_) (fun hc => ?_)
        · replace h := h.1 hc
          refine e_blk 2 48 _ _ (pc' := 50) (L' := [some (.ref a0), some (.int a1), some (.int a2), some (.int a3), some (.int a4), some (.int a5), some (.int a6), some (.ref r3), none]) (st' := [.int a3, .int a2]) rfl ?_
          refine e_callS (As := [.int a2, .int a3]) (rest := []) rfl (x_X6_monthStart h) rfl (aw (i := 561) (by decide +kernel) rfl) ws_X6_monthStart wi_X6_monthStart wc_X6_monthStart (show cok mi_X6_minute mi_X6_monthStart 2 12 2 = true by decide +kernel) (Nat.le_of_ble_eq_true rfl) (fun v9 M5 hq => ?_) (fun X M9 hq => False.elim hq)
          obtain ⟨r6, rfl, h⟩ := kI_l hq
          refine e_blk 15 53 _ _ (pc' := 77) (L' := [some (.ref a0), some (.int a1), some (.int a2), some (.int a3), some (.int a4), some (.int a5), some (.int a6), some (.ref r3), some (.int ((r6 + a4) - (1 : Int32)))]) (st' := [.int (((((r6 + a4) - (1 : Int32)) * (1440 : Int32)) + (a5 * (60 : Int32))) + a6), .ref r3]) rfl ?_
          generalize hx_x7 : (((r6 + a4) - (1 : Int32)) : Int32) = x7
          replace h := h x7 hx_x7.symm
          obtain ⟨ho8, h⟩ := h
          refine e_callV (As := [.int (((x7 * (1440 : Int32)) + (a5 * (60 : Int32))) + a6)]) (rest := []) (ci := 5) rfl (x_X5_leastMinuteOf h) ho8 rfl rfl rfl (aw (i := 564) (by decide +kernel) rfl) wn_X5_leastMinuteOf wv_X5_leastMinuteOf wi_X5_leastMinuteOf wc_X5_leastMinuteOf (show cok mi_X6_minute mi_X5_leastMinuteOf 2 12 1 = true by decide +kernel) (Nat.le_of_ble_eq_true rfl) (fun v9 M9 hq => ?_) (fun X M9 hq => False.elim hq)
          obtain ⟨r10, rfl, h⟩ := kI_l hq
          exact e_reti rfl rfl (by decide) (by decide) h
        · replace h := h.2 hc
          refine e_drp [false, false, false, false, false, false, false, false, false] (L' := [none, none, none, none, none, none, none, none, none]) rfl ?_
          exact x_X6_minute_38  h
def V_X6_feed_51 (K : Rs → Mm → Prop)  : Nat → Mm → Nat → Int64 → Int32 → Prop
  | 0, _, _, _, _ => False
  | z + 1, M, l0, l1, l4 => ((l4 < 0 → (ob M l0 6 ∧ ∃ b2, mP M l0 3 = some b2 ∧ (ob M b2 4 ∧ K (.inl (some (.int (mI M b2 1)))) M))) ∧ (¬ l4 < 0 → (ob M l0 6 ∧ ∃ b5, mP M l0 3 = some b5 ∧ (ob M b5 4 ∧ V_X4_add (kV (fun M7 => ∀ x8 : Int32, x8 = (l4 + (-1 : Int32)) → V_X6_feed_51 K  z M7 l0 l1 x8) (fun _ _ => False)) M b5 ((((((l1).toUInt64 >>> ((((8 : Int32) * l4)).toInt64.toUInt64 &&& Int64.toUInt64 63)).toInt64)).toInt32) &&& (255 : Int32))))))
set_option maxRecDepth 100000 in
set_option maxHeartbeats 4000000 in
theorem x_X6_feed_51 {G : Gx} {K : Rs → Mm → Prop}  : ∀ (z : Nat) (M : Mm) (l0 : Nat) (l1 : Int64) (l4 : Int32), V_X6_feed_51 K  z M l0 l1 l4 → E G mi_X6_feed K M 0 0 51 [some (.ref l0), some (.long l1), none, none, some (.int l4)] []
  | 0, M, l0, l1, l4, h => False.elim h
  | z + 1, M, l0, l1, l4, h => by
    unfold V_X6_feed_51 at h
    refine e_blk 1 51 _ _ (pc' := 53) (L' := [some (.ref l0), some (.long l1), none, none, some (.int l4)]) (st' := [.int l4]) rfl ?_
    refine e_if_lt 81 rfl rfl (fun hc => ?_) (fun hc => ?_)
    · replace h := h.1 hc
      refine e_blk 1 81 _ _ (pc' := 82) (L' := [some (.ref l0), some (.long l1), none, none, some (.int l4)]) (st' := [.ref l0]) rfl ?_
      obtain ⟨ho1, h⟩ := h
      obtain ⟨b2, hbb2, h⟩ := h
      refine e_getR 6 3 rfl rfl (by decide) (aw (i := 336) (by decide +kernel) rfl) ho1 rfl hbb2 ?_
      obtain ⟨ho3, h⟩ := h
      refine e_getI 4 1 rfl rfl (by decide) (aw (i := 194) (by decide +kernel) rfl) ho3 rfl ?_
      exact e_reti rfl rfl (by decide) (by decide) h
    · replace h := h.2 hc
      refine e_blk 1 56 _ _ (pc' := 57) (L' := [some (.ref l0), some (.long l1), none, none, some (.int l4)]) (st' := [.ref l0]) rfl ?_
      obtain ⟨ho4, h⟩ := h
      obtain ⟨b5, hbb5, h⟩ := h
      refine e_getR 6 3 rfl rfl (by decide) (aw (i := 336) (by decide +kernel) rfl) ho4 rfl hbb5 ?_
      refine e_blk 8 60 _ _ (pc' := 72) (L' := [some (.ref l0), some (.long l1), none, none, some (.int l4)]) (st' := [.int ((((((l1).toUInt64 >>> ((((8 : Int32) * l4)).toInt64.toUInt64 &&& Int64.toUInt64 63)).toInt64)).toInt32) &&& (255 : Int32)), .ref b5]) rfl ?_
      obtain ⟨ho6, h⟩ := h
      refine e_callV (As := [.int ((((((l1).toUInt64 >>> ((((8 : Int32) * l4)).toInt64.toUInt64 &&& Int64.toUInt64 63)).toInt64)).toInt32) &&& (255 : Int32))]) (rest := []) (ci := 4) rfl (x_X4_add h) ho6 rfl rfl rfl (aw (i := 582) (by decide +kernel) rfl) wn_X4_add wv_X4_add wi_X4_add wc_X4_add (show cok mi_X6_feed mi_X4_add 0 0 1 = true by decide +kernel) (Nat.le_of_ble_eq_true rfl) (fun v9 M7 hq => ?_) (fun X M9 hq => False.elim hq)
      obtain ⟨rfl, h⟩ := kV_l hq
      refine e_blk 2 75 _ _ (pc' := 51) (L' := [some (.ref l0), some (.long l1), none, none, some (.int (l4 + (-1 : Int32)))]) (st' := []) rfl ?_
      generalize hx_x8 : ((l4 + (-1 : Int32)) : Int32) = x8
      replace h := h x8 hx_x8.symm
      refine e_drp [true, true, false, false, true] (L' := [some (.ref l0), some (.long l1), none, none, some (.int x8)]) rfl ?_
      exact x_X6_feed_51  z _ _ _ _ h
def V_X6_feed_11 (K : Rs → Mm → Prop)  (M : Mm)  : Prop := K (.inr "java/lang/IllegalArgumentException") M
set_option maxRecDepth 100000 in
set_option maxHeartbeats 4000000 in
theorem x_X6_feed_11 {G : Gx} {K : Rs → Mm → Prop}  {M : Mm}  (h : V_X6_feed_11 K  M ) : E G mi_X6_feed K M 0 0 11 [none, none, none, none, none] [] := by
  unfold V_X6_feed_11 at h
  exact e_thr (j := 10) "java/lang/IllegalArgumentException" "not 1 to 8 bytes" rfl rfl rfl rfl rfl (by decide +kernel) rfl (aw (i := 453) (by decide +kernel) rfl) (aw (i := 69) (by decide +kernel) rfl) (by decide) at_IllegalArgumentException gd_IllegalArgumentException (by decide) (Nat.le_of_ble_eq_true rfl) (by decide) (by decide) h
def V_X6_feed (K : Rs → Mm → Prop) (M : Mm) (a0 : Nat) (a1 : Int64) (a2 : Int32) : Prop := ((a2 < (1 : Int32) → V_X6_feed_11 K  M ) ∧ (¬ a2 < (1 : Int32) → ((a2 ≤ (8 : Int32) → (ob M a0 6 ∧ ∃ b2, mP M a0 3 = some b2 ∧ (ob M b2 4 ∧ ((((mI M b2 1) + a2) ≤ (160 : Int32) → ∀ x4 : Int32, x4 = (a2 - (1 : Int32)) → ∃ y, V_X6_feed_51 K  y M a0 a1 x4) ∧ (¬ ((mI M b2 1) + a2) ≤ (160 : Int32) → K (.inr "java/lang/IllegalStateException") M))))) ∧ (¬ a2 ≤ (8 : Int32) → V_X6_feed_11 K  M ))))
set_option maxRecDepth 100000 in
set_option maxHeartbeats 4000000 in
theorem x_X6_feed {G : Gx} {K : Rs → Mm → Prop} {M : Mm} {a0 : Nat} {a1 : Int64} {a2 : Int32} (h : V_X6_feed K M a0 a1 a2) : MC G mi_X6_feed [.ref a0, .long a1, .int a2] M K := by
  unfold V_X6_feed at h
  refine mc_of rfl (by decide +kernel) dc_X6_feed (Nat.le_of_ble_eq_true rfl) 1 (Nat.le_of_ble_eq_true rfl) ?_
  show E G mi_X6_feed K M 0 0 0 [some (.ref a0), some (.long a1), none, some (.int a2), none] []
  refine e_blk 2 0 _ _ (pc' := 2) (L' := [some (.ref a0), some (.long a1), none, some (.int a2), none]) (st' := [.int (1 : Int32), .int a2]) rfl ?_
  refine e_icmp_lt 11 rfl rfl (fun hc => ?_) (fun hc => ?_)
  · replace h := h.1 hc
    refine e_drp [false, false, false, false, false] (L' := [none, none, none, none, none]) rfl ?_
    exact x_X6_feed_11  h
  · replace h := h.2 hc
    refine e_blk 2 5 _ _ (pc' := 8) (L' := [some (.ref a0), some (.long a1), none, some (.int a2), none]) (st' := [.int (8 : Int32), .int a2]) rfl ?_
    refine e_icmp_le 21 rfl rfl (fun hc => ?_) (fun hc => ?_)
    · replace h := h.1 hc
      refine e_blk 1 21 _ _ (pc' := 22) (L' := [some (.ref a0), some (.long a1), none, some (.int a2), none]) (st' := [.ref a0]) rfl ?_
      obtain ⟨ho1, h⟩ := h
      obtain ⟨b2, hbb2, h⟩ := h
      refine e_getR 6 3 rfl rfl (by decide) (aw (i := 336) (by decide +kernel) rfl) ho1 rfl hbb2 ?_
      obtain ⟨ho3, h⟩ := h
      refine e_getI 4 1 rfl rfl (by decide) (aw (i := 194) (by decide +kernel) rfl) ho3 rfl ?_
      refine e_blk 3 28 _ _ (pc' := 33) (L' := [some (.ref a0), some (.long a1), none, some (.int a2), none]) (st' := [.int (160 : Int32), .int ((mI M b2 1) + a2)]) rfl ?_
      refine e_icmp_le 46 rfl rfl (fun hc => ?_) (fun hc => ?_)
      · replace h := h.1 hc
        refine e_blk 4 46 _ _ (pc' := 51) (L' := [some (.ref a0), some (.long a1), none, some (.int a2), some (.int (a2 - (1 : Int32)))]) (st' := []) rfl ?_
        generalize hx_x4 : ((a2 - (1 : Int32)) : Int32) = x4
        replace h := h x4 hx_x4.symm
        refine e_drp [true, true, false, false, true] (L' := [some (.ref a0), some (.long a1), none, none, some (.int x4)]) rfl ?_
        obtain ⟨y, h⟩ := h
        exact x_X6_feed_51  y _ _ _ _ h
      · replace h := h.2 hc
        exact e_thr (j := 11) "java/lang/IllegalStateException" "the tape is full" rfl rfl rfl rfl rfl (by decide +kernel) rfl (aw (i := 491) (by decide +kernel) rfl) (aw (i := 70) (by decide +kernel) rfl) (by decide) at_IllegalStateException gd_IllegalStateException (by decide) (Nat.le_of_ble_eq_true rfl) (by decide) (by decide) h
    · replace h := h.2 hc
      refine e_drp [false, false, false, false, false] (L' := [none, none, none, none, none]) rfl ?_
      exact x_X6_feed_11  h
def V_X6_leastFreeNumber_2 (K : Rs → Mm → Prop)  : Nat → Mm → Nat → Int32 → Prop
  | 0, _, _, _ => False
  | z + 1, M, l0, l1 => (((12 : Int32) ≤ l1 → K (.inl (some (.int (-1 : Int32)))) M) ∧ (¬ (12 : Int32) ≤ l1 → (ob M l0 6 ∧ ∃ b2, mP M l0 2 = some b2 ∧ (ob M b2 12 ∧ (vp_in l1 (mN M b2) ∧ ∃ b5, mP M b2 (l1).toNatClampNeg = some b5 ∧ (ob M b5 2 ∧ ((¬ (mI M b5 4) = 0 → ∀ x7 : Int32, x7 = (l1 + (1 : Int32)) → V_X6_leastFreeNumber_2 K  z M l0 x7) ∧ ((mI M b5 4) = 0 → K (.inl (some (.int l1))) M))))))))
set_option maxRecDepth 100000 in
set_option maxHeartbeats 4000000 in
theorem x_X6_leastFreeNumber_2 {G : Gx} {K : Rs → Mm → Prop}  : ∀ (z : Nat) (M : Mm) (l0 : Nat) (l1 : Int32), V_X6_leastFreeNumber_2 K  z M l0 l1 → E G mi_X6_leastFreeNumber K M 0 0 2 [some (.ref l0), some (.int l1)] []
  | 0, M, l0, l1, h => False.elim h
  | z + 1, M, l0, l1, h => by
    unfold V_X6_leastFreeNumber_2 at h
    refine e_blk 2 2 _ _ (pc' := 5) (L' := [some (.ref l0), some (.int l1)]) (st' := [.int (12 : Int32), .int l1]) rfl ?_
    refine e_icmp_ge 28 rfl rfl (fun hc => ?_) (fun hc => ?_)
    · replace h := h.1 hc
      refine e_blk 1 28 _ _ (pc' := 29) (L' := [some (.ref l0), some (.int l1)]) (st' := [.int (-1 : Int32)]) rfl ?_
      exact e_reti rfl rfl (by decide) (by decide) h
    · replace h := h.2 hc
      refine e_blk 1 8 _ _ (pc' := 9) (L' := [some (.ref l0), some (.int l1)]) (st' := [.ref l0]) rfl ?_
      obtain ⟨ho1, h⟩ := h
      obtain ⟨b2, hbb2, h⟩ := h
      refine e_getR 6 2 rfl rfl (by decide) (aw (i := 335) (by decide +kernel) rfl) ho1 rfl hbb2 ?_
      refine e_blk 1 12 _ _ (pc' := 13) (L' := [some (.ref l0), some (.int l1)]) (st' := [.int l1, .ref b2]) rfl ?_
      obtain ⟨ho3, h⟩ := h
      obtain ⟨hi4, h⟩ := h
      obtain ⟨b5, hbb5, h⟩ := h
      refine e_aaldOR rfl ho3 hi4 hbb5 ?_
      obtain ⟨ho6, h⟩ := h
      refine e_getI 2 4 rfl rfl (by decide) (aw (i := 276) (by decide +kernel) rfl) ho6 rfl ?_
      refine e_if_ne 22 rfl rfl (fun hc => ?_) (fun hc => ?_)
      · replace h := h.1 hc
        refine e_blk 2 22 _ _ (pc' := 2) (L' := [some (.ref l0), some (.int (l1 + (1 : Int32)))]) (st' := []) rfl ?_
        generalize hx_x7 : ((l1 + (1 : Int32)) : Int32) = x7
        replace h := h x7 hx_x7.symm
        refine e_drp [true, true] (L' := [some (.ref l0), some (.int x7)]) rfl ?_
        exact x_X6_leastFreeNumber_2  z _ _ _ h
      · replace h := h.2 hc
        refine e_blk 1 20 _ _ (pc' := 21) (L' := [some (.ref l0), some (.int l1)]) (st' := [.int l1]) rfl ?_
        exact e_reti rfl rfl (by decide) (by decide) h
def V_X6_leastFreeNumber (K : Rs → Mm → Prop) (M : Mm) (a0 : Nat) : Prop := ∃ y, V_X6_leastFreeNumber_2 K  y M a0 (0 : Int32)
set_option maxRecDepth 100000 in
set_option maxHeartbeats 4000000 in
theorem x_X6_leastFreeNumber {G : Gx} {K : Rs → Mm → Prop} {M : Mm} {a0 : Nat} (h : V_X6_leastFreeNumber K M a0) : MC G mi_X6_leastFreeNumber [.ref a0] M K := by
  unfold V_X6_leastFreeNumber at h
  refine mc_of rfl (by decide +kernel) dc_X6_leastFreeNumber (Nat.le_of_ble_eq_true rfl) 1 (Nat.le_of_ble_eq_true rfl) ?_
  show E G mi_X6_leastFreeNumber K M 0 0 0 [some (.ref a0), none] []
  refine e_blk 2 0 _ _ (pc' := 2) (L' := [some (.ref a0), some (.int (0 : Int32))]) (st' := []) rfl ?_
  refine e_drp [true, true] (L' := [some (.ref a0), some (.int (0 : Int32))]) rfl ?_
  obtain ⟨y, h⟩ := h
  exact x_X6_leastFreeNumber_2  y _ _ _ h
def V_X6_order_79 (K : Rs → Mm → Prop)  (M : Mm)  : Prop := K (.inr "java/lang/IllegalStateException") M
set_option maxRecDepth 100000 in
set_option maxHeartbeats 4000000 in
theorem x_X6_order_79 {G : Gx} {K : Rs → Mm → Prop}  {M : Mm}  (h : V_X6_order_79 K  M ) : E G mi_X6_order K M 1 6 79 [none, none, none, none, none, none, none, none, none] [] := by
  unfold V_X6_order_79 at h
  exact e_thr (j := 13) "java/lang/IllegalStateException" "no more orders" rfl rfl rfl rfl rfl (by decide +kernel) rfl (aw (i := 491) (by decide +kernel) rfl) (aw (i := 70) (by decide +kernel) rfl) (by decide) at_IllegalStateException gd_IllegalStateException (by decide) (Nat.le_of_ble_eq_true rfl) (by decide) (by decide) h
def V_X6_order_51 (K : Rs → Mm → Prop)  (M : Mm)  : Prop := K (.inr "java/lang/IllegalArgumentException") M
set_option maxRecDepth 100000 in
set_option maxHeartbeats 4000000 in
theorem x_X6_order_51 {G : Gx} {K : Rs → Mm → Prop}  {M : Mm}  (h : V_X6_order_51 K  M ) : E G mi_X6_order K M 1 6 51 [none, none, none, none, none, none, none, none, none] [] := by
  unfold V_X6_order_51 at h
  exact e_thr (j := 12) "java/lang/IllegalArgumentException" "no such way, grace, overlap or length" rfl rfl rfl rfl rfl (by decide +kernel) rfl (aw (i := 453) (by decide +kernel) rfl) (aw (i := 69) (by decide +kernel) rfl) (by decide) at_IllegalArgumentException gd_IllegalArgumentException (by decide) (Nat.le_of_ble_eq_true rfl) (by decide) (by decide) h
def V_X6_order (K : Rs → Mm → Prop) (M : Mm) (a0 : Nat) (a1 : Int32) (a2 : Int32) (a3 : Int32) (a4 : Int32) (a5 : Int32) : Prop := (ob M a0 6 ∧ V_X6_zoneOf (kR (fun r3 M2 => ((a2 < 0 → V_X6_order_51 K  M2 ) ∧ (¬ a2 < 0 → (((2 : Int32) < a2 → V_X6_order_51 K  M2 ) ∧ (¬ (2 : Int32) < a2 → ((a3 < 0 → V_X6_order_51 K  M2 ) ∧ (¬ a3 < 0 → (((100000 : Int32) < a3 → V_X6_order_51 K  M2 ) ∧ (¬ (100000 : Int32) < a3 → ((a4 < 0 → V_X6_order_51 K  M2 ) ∧ (¬ a4 < 0 → (((2 : Int32) < a4 → V_X6_order_51 K  M2 ) ∧ (¬ (2 : Int32) < a4 → ((a5 < (1 : Int32) → V_X6_order_51 K  M2 ) ∧ (¬ a5 < (1 : Int32) → ((a5 ≤ (10000 : Int32) → (ob M2 a0 6 ∧ V_X6_leastFreeNumber (kI (fun r6 M5 => ((r6 < 0 → V_X6_order_79 K  M5 ) ∧ (¬ r6 < 0 → ((r6 < (12 : Int32) → (ob M5 a0 6 ∧ ∃ b8, mP M5 a0 2 = some b8 ∧ (ob M5 b8 12 ∧ (vp_in r6 (mN M5 b8) ∧ ∃ b11, mP M5 b8 (r6).toNatClampNeg = some b11 ∧ ∃ b12, mP M5 a0 3 = some b12 ∧ (ob M5 b11 2 ∧ ∃ b14, mP M5 b11 1 = some b14 ∧ (ob M5 b12 4 ∧ V_X4_read (kI (fun r17 M16 => (ob M16 a0 6 ∧ ∀ M19, M19 = sI M16 a0 5 r17 → ∃ b20, mP M19 a0 3 = some b20 ∧ (ob M19 b20 4 ∧ ∀ M22, M22 = sI M19 b20 1 (0 : Int32) → (((mI M22 a0 5) = 0 → (ob M22 b11 2 ∧ V_X2_begin (kV (fun M24 => (ob M24 b11 2 ∧ V_X2_settle (kV (fun M26 => K (.inl (some (.int r6))) M26) (fun _ _ => False)) M24 b11 a2 a3 a4 a5)) (fun _ _ => False)) M22 b11 a1 r3)) ∧ (¬ (mI M22 a0 5) = 0 → ∃ b27, mP M22 a0 3 = some b27 ∧ (ob M22 b27 4 ∧ K (.inl (some (.int ((-2 : Int32) - (mI M22 b27 4))))) M22)))))) (fun _ _ => False)) M5 b12 b14)))))) ∧ (¬ r6 < (12 : Int32) → V_X6_order_79 K  M5 ))))) (fun _ _ => False)) M2 a0)) ∧ (¬ a5 ≤ (10000 : Int32) → V_X6_order_51 K  M2 ))))))))))))))))) (fun X M => K (.inr X) M)) M a0 a1)
set_option maxRecDepth 100000 in
set_option maxHeartbeats 4000000 in
theorem x_X6_order {G : Gx} {K : Rs → Mm → Prop} {M : Mm} {a0 : Nat} {a1 : Int32} {a2 : Int32} {a3 : Int32} {a4 : Int32} {a5 : Int32} (h : V_X6_order K M a0 a1 a2 a3 a4 a5) : MC G mi_X6_order [.ref a0, .int a1, .int a2, .int a3, .int a4, .int a5] M K := by
  unfold V_X6_order at h
  refine mc_of rfl (by decide +kernel) dc_X6_order (Nat.le_of_ble_eq_true rfl) 3 (Nat.le_of_ble_eq_true rfl) ?_
  show E G mi_X6_order K M 0 0 0 [some (.ref a0), some (.int a1), some (.int a2), some (.int a3), some (.int a4), some (.int a5), none, none, none] []
  refine e_blk 2 0 _ _ (pc' := 2) (L' := [some (.ref a0), some (.int a1), some (.int a2), some (.int a3), some (.int a4), some (.int a5), none, none, none]) (st' := [.int a1, .ref a0]) rfl ?_
  obtain ⟨ho1, h⟩ := h
  refine e_callV (As := [.int a1]) (rest := []) (ci := 6) rfl (x_X6_zoneOf h) ho1 rfl rfl rfl (aw (i := 378) (by decide +kernel) rfl) wn_X6_zoneOf wv_X6_zoneOf wi_X6_zoneOf wc_X6_zoneOf (show cok mi_X6_order mi_X6_zoneOf 0 0 1 = true by decide +kernel) (Nat.le_of_ble_eq_true rfl) (fun v9 M2 hq => ?_) (fun X M9 hq => et_out rfl (by decide) (by decide) hq)
  obtain ⟨r3, rfl, h⟩ := kR_l hq
  refine e_blk 2 5 _ _ (pc' := 8) (L' := [some (.ref a0), some (.int a1), some (.int a2), some (.int a3), some (.int a4), some (.int a5), some (.ref r3), none, none]) (st' := [.int a2]) rfl ?_
  refine e_if_lt 51 rfl rfl (fun hc => ?_) (fun hc => ?_)
  · replace h := h.1 hc
    refine e_drp [false, false, false, false, false, false, false, false, false] (L' := [none, none, none, none, none, none, none, none, none]) rfl ?_
    exact x_X6_order_51  h
  · replace h := h.2 hc
    refine e_blk 2 11 _ _ (pc' := 13) (L' := [some (.ref a0), some (.int a1), some (.int a2), some (.int a3), some (.int a4), some (.int a5), some (.ref r3), none, none]) (st' := [.int (2 : Int32), .int a2]) rfl ?_
    refine e_icmp_gt 51 rfl rfl (fun hc => ?_) (fun hc => ?_)
    · replace h := h.1 hc
      refine e_drp [false, false, false, false, false, false, false, false, false] (L' := [none, none, none, none, none, none, none, none, none]) rfl ?_
      exact x_X6_order_51  h
    · replace h := h.2 hc
      refine e_blk 1 16 _ _ (pc' := 17) (L' := [some (.ref a0), some (.int a1), some (.int a2), some (.int a3), some (.int a4), some (.int a5), some (.ref r3), none, none]) (st' := [.int a3]) rfl ?_
      refine e_if_lt 51 rfl rfl (fun hc => ?_) (fun hc => ?_)
      · replace h := h.1 hc
        refine e_drp [false, false, false, false, false, false, false, false, false] (L' := [none, none, none, none, none, none, none, none, none]) rfl ?_
        exact x_X6_order_51  h
      · replace h := h.2 hc
        refine e_blk 1 20 _ _ (pc' := 21) (L' := [some (.ref a0), some (.int a1), some (.int a2), some (.int a3), some (.int a4), some (.int a5), some (.ref r3), none, none]) (st' := [.int a3]) rfl ?_
        refine e_ldc (100000) rfl (aw (i := 593) (by decide +kernel) rfl) ?_
        refine e_icmp_gt 51 rfl rfl (fun hc => ?_) (fun hc => ?_)
        · replace h := h.1 hc
          refine e_drp [false, false, false, false, false, false, false, false, false] (L' := [none, none, none, none, none, none, none, none, none]) rfl ?_
          exact x_X6_order_51  h
        · replace h := h.2 hc
          refine e_blk 1 26 _ _ (pc' := 28) (L' := [some (.ref a0), some (.int a1), some (.int a2), some (.int a3), some (.int a4), some (.int a5), some (.ref r3), none, none]) (st' := [.int a4]) rfl ?_
          refine e_if_lt 51 rfl rfl (fun hc => ?_) (fun hc => ?_)
          · replace h := h.1 hc
            refine e_drp [false, false, false, false, false, false, false, false, false] (L' := [none, none, none, none, none, none, none, none, none]) rfl ?_
            exact x_X6_order_51  h
          · replace h := h.2 hc
            refine e_blk 2 31 _ _ (pc' := 34) (L' := [some (.ref a0), some (.int a1), some (.int a2), some (.int a3), some (.int a4), some (.int a5), some (.ref r3), none, none]) (st' := [.int (2 : Int32), .int a4]) rfl ?_
            refine e_icmp_gt 51 rfl rfl (fun hc => ?_) (fun hc => ?_)
            · replace h := h.1 hc
              refine e_drp [false, false, false, false, false, false, false, false, false] (L' := [none, none, none, none, none, none, none, none, none]) rfl ?_
              exact x_X6_order_51  h
            · replace h := h.2 hc
              refine e_blk 2 37 _ _ (pc' := 40) (L' := [some (.ref a0), some (.int a1), some (.int a2), some (.int a3), some (.int a4), some (.int a5), some (.ref r3), none, none]) (st' := [.int (1 : Int32), .int a5]) rfl ?_
              refine e_icmp_lt 51 rfl rfl (fun hc => ?_) (fun hc => ?_)
              · replace h := h.1 hc
                refine e_drp [false, false, false, false, false, false, false, false, false] (L' := [none, none, none, none, none, none, none, none, none]) rfl ?_
                exact x_X6_order_51  h
              · replace h := h.2 hc
                refine e_blk 2 43 _ _ (pc' := 48) (L' := [some (.ref a0), some (.int a1), some (.int a2), some (.int a3), some (.int a4), some (.int a5), some (.ref r3), none, none]) (st' := [.int (10000 : Int32), .int a5]) rfl ?_
                refine e_icmp_le 61 rfl rfl (fun hc => ?_) (fun hc => ?_)
                · replace h := h.1 hc
                  refine e_blk 1 61 _ _ (pc' := 62) (L' := [some (.ref a0), some (.int a1), some (.int a2), some (.int a3), some (.int a4), some (.int a5), some (.ref r3), none, none]) (st' := [.ref a0]) rfl ?_
                  obtain ⟨ho4, h⟩ := h
                  refine e_callV (As := []) (rest := []) (ci := 6) rfl (x_X6_leastFreeNumber h) ho4 rfl rfl rfl (aw (i := 595) (by decide +kernel) rfl) wn_X6_leastFreeNumber wv_X6_leastFreeNumber wi_X6_leastFreeNumber wc_X6_leastFreeNumber (show cok mi_X6_order mi_X6_leastFreeNumber 1 6 0 = true by decide +kernel) (Nat.le_of_ble_eq_true rfl) (fun v9 M5 hq => ?_) (fun X M9 hq => False.elim hq)
                  obtain ⟨r6, rfl, h⟩ := kI_l hq
                  refine e_blk 2 65 _ _ (pc' := 69) (L' := [some (.ref a0), some (.int a1), some (.int a2), some (.int a3), some (.int a4), some (.int a5), some (.ref r3), some (.int r6), none]) (st' := [.int r6]) rfl ?_
                  refine e_if_lt 79 rfl rfl (fun hc => ?_) (fun hc => ?_)
                  · replace h := h.1 hc
                    refine e_drp [false, false, false, false, false, false, false, false, false] (L' := [none, none, none, none, none, none, none, none, none]) rfl ?_
                    exact x_X6_order_79  h
                  · replace h := h.2 hc
                    refine e_blk 2 72 _ _ (pc' := 76) (L' := [some (.ref a0), some (.int a1), some (.int a2), some (.int a3), some (.int a4), some (.int a5), some (.ref r3), some (.int r6), none]) (st' := [.int (12 : Int32), .int r6]) rfl ?_
                    refine e_icmp_lt 89 rfl rfl (fun hc => ?_) (fun hc => ?_)
                    · replace h := h.1 hc
                      refine e_blk 1 89 _ _ (pc' := 90) (L' := [some (.ref a0), some (.int a1), some (.int a2), some (.int a3), some (.int a4), some (.int a5), some (.ref r3), some (.int r6), none]) (st' := [.ref a0]) rfl ?_
                      obtain ⟨ho7, h⟩ := h
                      obtain ⟨b8, hbb8, h⟩ := h
                      refine e_getR 6 2 rfl rfl (by decide) (aw (i := 335) (by decide +kernel) rfl) ho7 rfl hbb8 ?_
                      refine e_blk 1 93 _ _ (pc' := 95) (L' := [some (.ref a0), some (.int a1), some (.int a2), some (.int a3), some (.int a4), some (.int a5), some (.ref r3), some (.int r6), none]) (st' := [.int r6, .ref b8]) rfl ?_
                      obtain ⟨ho9, h⟩ := h
                      obtain ⟨hi10, h⟩ := h
                      obtain ⟨b11, hbb11, h⟩ := h
                      refine e_aaldOR rfl ho9 hi10 hbb11 ?_
                      refine e_blk 3 96 _ _ (pc' := 100) (L' := [some (.ref a0), some (.int a1), some (.int a2), some (.int a3), some (.int a4), some (.int a5), some (.ref r3), some (.int r6), some (.ref b11)]) (st' := [.ref a0, .ref a0]) rfl ?_
                      obtain ⟨b12, hbb12, h⟩ := h
                      refine e_getR 6 3 rfl rfl (by decide) (aw (i := 336) (by decide +kernel) rfl) ho7 rfl hbb12 ?_
                      refine e_blk 1 103 _ _ (pc' := 105) (L' := [some (.ref a0), some (.int a1), some (.int a2), some (.int a3), some (.int a4), some (.int a5), some (.ref r3), some (.int r6), some (.ref b11)]) (st' := [.ref b11, .ref b12, .ref a0]) rfl ?_
                      obtain ⟨ho13, h⟩ := h
                      obtain ⟨b14, hbb14, h⟩ := h
                      refine e_getR 2 1 rfl rfl (by decide) (aw (i := 271) (by decide +kernel) rfl) ho13 rfl hbb14 ?_
                      obtain ⟨ho15, h⟩ := h
                      refine e_callV (As := [.ref b14]) (rest := [.ref a0]) (ci := 4) rfl (x_X4_read h) ho15 rfl rfl rfl (aw (i := 600) (by decide +kernel) rfl) wn_X4_read wv_X4_read wi_X4_read wc_X4_read (show cok mi_X6_order mi_X4_read 1 6 1 = true by decide +kernel) (Nat.le_of_ble_eq_true rfl) (fun v9 M16 hq => ?_) (fun X M9 hq => False.elim hq)
                      obtain ⟨r17, rfl, h⟩ := kI_l hq
                      obtain ⟨ho18, h⟩ := h
                      refine e_putI 6 5 rfl rfl (by decide) (aw (i := 338) (by decide +kernel) rfl) rfl ho18 rfl ?_
                      generalize hM19 : sI M16 a0 5 r17 = M19
                      replace h := h M19 hM19.symm
                      replace ho18 : ob M19 a0 6 := hM19 ▸ ob_sI ho18
                      refine e_blk 1 114 _ _ (pc' := 115) (L' := [some (.ref a0), some (.int a1), some (.int a2), some (.int a3), some (.int a4), some (.int a5), some (.ref r3), some (.int r6), some (.ref b11)]) (st' := [.ref a0]) rfl ?_
                      obtain ⟨b20, hbb20, h⟩ := h
                      refine e_getR 6 3 rfl rfl (by decide) (aw (i := 336) (by decide +kernel) rfl) ho18 rfl hbb20 ?_
                      refine e_blk 1 118 _ _ (pc' := 119) (L' := [some (.ref a0), some (.int a1), some (.int a2), some (.int a3), some (.int a4), some (.int a5), some (.ref r3), some (.int r6), some (.ref b11)]) (st' := [.int (0 : Int32), .ref b20]) rfl ?_
                      obtain ⟨ho21, h⟩ := h
                      refine e_putI 4 1 rfl rfl (by decide) (aw (i := 194) (by decide +kernel) rfl) rfl ho21 rfl ?_
                      generalize hM22 : sI M19 b20 1 (0 : Int32) = M22
                      replace h := h M22 hM22.symm
                      replace ho18 : ob M22 a0 6 := hM22 ▸ ob_sI ho18
                      replace ho21 : ob M22 b20 4 := hM22 ▸ ob_sI ho21
                      refine e_blk 1 122 _ _ (pc' := 123) (L' := [some (.ref a0), some (.int a1), some (.int a2), some (.int a3), some (.int a4), some (.int a5), some (.ref r3), some (.int r6), some (.ref b11)]) (st' := [.ref a0]) rfl ?_
                      refine e_getI 6 5 rfl rfl (by decide) (aw (i := 338) (by decide +kernel) rfl) ho18 rfl ?_
                      refine e_if_eq 140 rfl rfl (fun hc => ?_) (fun hc => ?_)
                      · replace h := h.1 hc
                        refine e_blk 3 140 _ _ (pc' := 145) (L' := [some (.ref a0), some (.int a1), some (.int a2), some (.int a3), some (.int a4), some (.int a5), some (.ref r3), some (.int r6), some (.ref b11)]) (st' := [.ref r3, .int a1, .ref b11]) rfl ?_
                        obtain ⟨ho23, h⟩ := h
                        refine e_callV (As := [.int a1, .ref r3]) (rest := []) (ci := 2) rfl (x_X2_begin h) ho23 rfl rfl rfl (aw (i := 731) (by decide +kernel) rfl) wn_X2_begin wv_X2_begin wi_X2_begin wc_X2_begin (show cok mi_X6_order mi_X2_begin 1 6 2 = true by decide +kernel) (Nat.le_of_ble_eq_true rfl) (fun v9 M24 hq => ?_) (fun X M9 hq => False.elim hq)
                        obtain ⟨rfl, h⟩ := kV_l hq
                        refine e_blk 5 148 _ _ (pc' := 156) (L' := [some (.ref a0), some (.int a1), some (.int a2), some (.int a3), some (.int a4), some (.int a5), some (.ref r3), some (.int r6), some (.ref b11)]) (st' := [.int a5, .int a4, .int a3, .int a2, .ref b11]) rfl ?_
                        obtain ⟨ho25, h⟩ := h
                        refine e_callV (As := [.int a2, .int a3, .int a4, .int a5]) (rest := []) (ci := 2) rfl (x_X2_settle h) ho25 rfl rfl rfl (aw (i := 739) (by decide +kernel) rfl) wn_X2_settle wv_X2_settle wi_X2_settle wc_X2_settle (show cok mi_X6_order mi_X2_settle 1 6 4 = true by decide +kernel) (Nat.le_of_ble_eq_true rfl) (fun v9 M26 hq => ?_) (fun X M9 hq => False.elim hq)
                        obtain ⟨rfl, h⟩ := kV_l hq
                        refine e_blk 1 159 _ _ (pc' := 161) (L' := [some (.ref a0), some (.int a1), some (.int a2), some (.int a3), some (.int a4), some (.int a5), some (.ref r3), some (.int r6), some (.ref b11)]) (st' := [.int r6]) rfl ?_
                        exact e_reti rfl rfl (by decide) (by decide) h
                      · replace h := h.2 hc
                        refine e_blk 2 129 _ _ (pc' := 132) (L' := [some (.ref a0), some (.int a1), some (.int a2), some (.int a3), some (.int a4), some (.int a5), some (.ref r3), some (.int r6), some (.ref b11)]) (st' := [.ref a0, .int (-2 : Int32)]) rfl ?_
                        obtain ⟨b27, hbb27, h⟩ := h
                        refine e_getR 6 3 rfl rfl (by decide) (aw (i := 336) (by decide +kernel) rfl) ho18 rfl hbb27 ?_
                        obtain ⟨ho28, h⟩ := h
                        refine e_getI 4 4 rfl rfl (by decide) (aw (i := 198) (by decide +kernel) rfl) ho28 rfl ?_
                        refine e_blk 1 138 _ _ (pc' := 139) (L' := [some (.ref a0), some (.int a1), some (.int a2), some (.int a3), some (.int a4), some (.int a5), some (.ref r3), some (.int r6), some (.ref b11)]) (st' := [.int ((-2 : Int32) - (mI M22 b27 4))]) rfl ?_
                        exact e_reti rfl rfl (by decide) (by decide) h
                    · replace h := h.2 hc
                      refine e_drp [false, false, false, false, false, false, false, false, false] (L' := [none, none, none, none, none, none, none, none, none]) rfl ?_
                      exact x_X6_order_79  h
                · replace h := h.2 hc
                  refine e_drp [false, false, false, false, false, false, false, false, false] (L' := [none, none, none, none, none, none, none, none, none]) rfl ?_
                  exact x_X6_order_51  h
def V_X6_fault (K : Rs → Mm → Prop) (M : Mm) (a0 : Nat) : Prop := (ob M a0 6 ∧ K (.inl (some (.int (mI M a0 5)))) M)
set_option maxRecDepth 100000 in
set_option maxHeartbeats 4000000 in
theorem x_X6_fault {G : Gx} {K : Rs → Mm → Prop} {M : Mm} {a0 : Nat} (h : V_X6_fault K M a0) : MC G mi_X6_fault [.ref a0] M K := by
  unfold V_X6_fault at h
  refine mc_of rfl (by decide +kernel) dc_X6_fault (Nat.le_of_ble_eq_true rfl) 0 (Nat.le_of_ble_eq_true rfl) ?_
  show E G mi_X6_fault K M 0 0 0 [some (.ref a0)] []
  refine e_blk 1 0 _ _ (pc' := 1) (L' := [some (.ref a0)]) (st' := [.ref a0]) rfl ?_
  obtain ⟨ho1, h⟩ := h
  refine e_getI 6 5 rfl rfl (by decide) (aw (i := 338) (by decide +kernel) rfl) ho1 rfl ?_
  exact e_reti rfl rfl (by decide) (by decide) h
def V_X6_orderOf_22 (K : Rs → Mm → Prop)  (M : Mm)  : Prop := K (.inr "java/lang/IndexOutOfBoundsException") M
set_option maxRecDepth 100000 in
set_option maxHeartbeats 4000000 in
theorem x_X6_orderOf_22 {G : Gx} {K : Rs → Mm → Prop}  {M : Mm}  (h : V_X6_orderOf_22 K  M ) : E G mi_X6_orderOf K M 0 0 22 [none, none] [] := by
  unfold V_X6_orderOf_22 at h
  exact e_thrW (j := 21) "java/lang/IndexOutOfBoundsException" "no such order" rfl rfl rfl rfl rfl (by decide +kernel) rfl (aw (i := 382) (by decide +kernel) rfl) (aw (i := 68) (by decide +kernel) rfl) (by decide) at_IndexOutOfBoundsException gd_IndexOutOfBoundsException (by decide) (Nat.le_of_ble_eq_true rfl) (by decide) (by decide) h
def V_X6_orderOf (K : Rs → Mm → Prop) (M : Mm) (a0 : Nat) (a1 : Int32) : Prop := ((a1 < 0 → V_X6_orderOf_22 K  M ) ∧ (¬ a1 < 0 → (((12 : Int32) ≤ a1 → V_X6_orderOf_22 K  M ) ∧ (¬ (12 : Int32) ≤ a1 → (ob M a0 6 ∧ ∃ b2, mP M a0 2 = some b2 ∧ (ob M b2 12 ∧ (vp_in a1 (mN M b2) ∧ ∃ b5, mP M b2 (a1).toNatClampNeg = some b5 ∧ (ob M b5 2 ∧ ((¬ (mI M b5 4) = 0 → ∃ b7, mP M a0 2 = some b7 ∧ (ob M b7 12 ∧ (vp_in a1 (mN M b7) ∧ ∃ b10, mP M b7 (a1).toNatClampNeg = some b10 ∧ K (.inl (some (va_rf (some b10)))) M))) ∧ ((mI M b5 4) = 0 → V_X6_orderOf_22 K  M ))))))))))
set_option maxRecDepth 100000 in
set_option maxHeartbeats 4000000 in
theorem x_X6_orderOf {G : Gx} {K : Rs → Mm → Prop} {M : Mm} {a0 : Nat} {a1 : Int32} (h : V_X6_orderOf K M a0 a1) : MC G mi_X6_orderOf [.ref a0, .int a1] M K := by
  unfold V_X6_orderOf at h
  refine mc_of rfl (by decide +kernel) dc_X6_orderOf (Nat.le_of_ble_eq_true rfl) 0 (Nat.le_of_ble_eq_true rfl) ?_
  show E G mi_X6_orderOf K M 0 0 0 [some (.ref a0), some (.int a1)] []
  refine e_blk 1 0 _ _ (pc' := 1) (L' := [some (.ref a0), some (.int a1)]) (st' := [.int a1]) rfl ?_
  refine e_if_lt 22 rfl rfl (fun hc => ?_) (fun hc => ?_)
  · replace h := h.1 hc
    refine e_drp [false, false] (L' := [none, none]) rfl ?_
    exact x_X6_orderOf_22  h
  · replace h := h.2 hc
    refine e_blk 2 4 _ _ (pc' := 7) (L' := [some (.ref a0), some (.int a1)]) (st' := [.int (12 : Int32), .int a1]) rfl ?_
    refine e_icmp_ge 22 rfl rfl (fun hc => ?_) (fun hc => ?_)
    · replace h := h.1 hc
      refine e_drp [false, false] (L' := [none, none]) rfl ?_
      exact x_X6_orderOf_22  h
    · replace h := h.2 hc
      refine e_blk 1 10 _ _ (pc' := 11) (L' := [some (.ref a0), some (.int a1)]) (st' := [.ref a0]) rfl ?_
      obtain ⟨ho1, h⟩ := h
      obtain ⟨b2, hbb2, h⟩ := h
      refine e_getR 6 2 rfl rfl (by decide) (aw (i := 335) (by decide +kernel) rfl) ho1 rfl hbb2 ?_
      refine e_blk 1 14 _ _ (pc' := 15) (L' := [some (.ref a0), some (.int a1)]) (st' := [.int a1, .ref b2]) rfl ?_
      obtain ⟨ho3, h⟩ := h
      obtain ⟨hi4, h⟩ := h
      obtain ⟨b5, hbb5, h⟩ := h
      refine e_aaldOR rfl ho3 hi4 hbb5 ?_
      obtain ⟨ho6, h⟩ := h
      refine e_getI 2 4 rfl rfl (by decide) (aw (i := 276) (by decide +kernel) rfl) ho6 rfl ?_
      refine e_if_ne 33 rfl rfl (fun hc => ?_) (fun hc => ?_)
      · replace h := h.1 hc
        refine e_blk 1 33 _ _ (pc' := 34) (L' := [some (.ref a0), some (.int a1)]) (st' := [.ref a0]) rfl ?_
        obtain ⟨b7, hbb7, h⟩ := h
        refine e_getR 6 2 rfl rfl (by decide) (aw (i := 335) (by decide +kernel) rfl) ho1 rfl hbb7 ?_
        refine e_blk 1 37 _ _ (pc' := 38) (L' := [some (.ref a0), some (.int a1)]) (st' := [.int a1, .ref b7]) rfl ?_
        obtain ⟨ho8, h⟩ := h
        obtain ⟨hi9, h⟩ := h
        obtain ⟨b10, hbb10, h⟩ := h
        refine e_aaldOR rfl ho8 hi9 hbb10 ?_
        exact e_reta (v := (some b10)) rfl rfl (by decide) (by decide) h
      · replace h := h.2 hc
        refine e_drp [false, false] (L' := [none, none]) rfl ?_
        exact x_X6_orderOf_22  h
def V_X6_ordersInUse_25 (K : Rs → Mm → Prop) (B4 : Mm → Nat → Int32 → Int32 → Prop) (M : Mm) (l0 : Nat) (l1 : Int32) (l2 : Int32) : Prop := ∀ x1 : Int32, x1 = (l2 + (1 : Int32)) → B4 M l0 l1 x1
set_option maxRecDepth 100000 in
set_option maxHeartbeats 4000000 in
theorem x_X6_ordersInUse_25 {G : Gx} {K : Rs → Mm → Prop} {B4 : Mm → Nat → Int32 → Int32 → Prop} (hB4 : ∀ M l0 l1 l2, B4 M l0 l1 l2 → E G mi_X6_ordersInUse K M 0 0 4 [some (.ref l0), some (.int l1), some (.int l2)] []) {M : Mm} {l0 : Nat} {l1 : Int32} {l2 : Int32} (h : V_X6_ordersInUse_25 K B4 M l0 l1 l2) : E G mi_X6_ordersInUse K M 0 0 25 [some (.ref l0), some (.int l1), some (.int l2)] [] := by
  unfold V_X6_ordersInUse_25 at h
  refine e_blk 2 25 _ _ (pc' := 4) (L' := [some (.ref l0), some (.int l1), some (.int (l2 + (1 : Int32)))]) (st' := []) rfl ?_
  generalize hx_x1 : ((l2 + (1 : Int32)) : Int32) = x1
  replace h := h x1 hx_x1.symm
  refine e_drp [true, true, true] (L' := [some (.ref l0), some (.int l1), some (.int x1)]) rfl ?_
  exact hB4 _ _ _ _ h
def V_X6_ordersInUse_4 (K : Rs → Mm → Prop)  : Nat → Mm → Nat → Int32 → Int32 → Prop
  | 0, _, _, _, _ => False
  | z + 1, M, l0, l1, l2 => (((12 : Int32) ≤ l2 → K (.inl (some (.int l1))) M) ∧ (¬ (12 : Int32) ≤ l2 → (ob M l0 6 ∧ ∃ b2, mP M l0 2 = some b2 ∧ (ob M b2 12 ∧ (vp_in l2 (mN M b2) ∧ ∃ b5, mP M b2 (l2).toNatClampNeg = some b5 ∧ (ob M b5 2 ∧ (((mI M b5 4) = 0 → V_X6_ordersInUse_25 K (fun M l0 l1 l2 => V_X6_ordersInUse_4 K  z M l0 l1 l2) M l0 l1 l2) ∧ (¬ (mI M b5 4) = 0 → ∀ x7 : Int32, x7 = (l1 + (1 : Int32)) → V_X6_ordersInUse_25 K (fun M l0 l1 l2 => V_X6_ordersInUse_4 K  z M l0 l1 l2) M l0 x7 l2))))))))
set_option maxRecDepth 100000 in
set_option maxHeartbeats 4000000 in
theorem x_X6_ordersInUse_4 {G : Gx} {K : Rs → Mm → Prop}  : ∀ (z : Nat) (M : Mm) (l0 : Nat) (l1 : Int32) (l2 : Int32), V_X6_ordersInUse_4 K  z M l0 l1 l2 → E G mi_X6_ordersInUse K M 0 0 4 [some (.ref l0), some (.int l1), some (.int l2)] []
  | 0, M, l0, l1, l2, h => False.elim h
  | z + 1, M, l0, l1, l2, h => by
    unfold V_X6_ordersInUse_4 at h
    refine e_blk 2 4 _ _ (pc' := 7) (L' := [some (.ref l0), some (.int l1), some (.int l2)]) (st' := [.int (12 : Int32), .int l2]) rfl ?_
    refine e_icmp_ge 31 rfl rfl (fun hc => ?_) (fun hc => ?_)
    · replace h := h.1 hc
      refine e_blk 1 31 _ _ (pc' := 32) (L' := [some (.ref l0), some (.int l1), some (.int l2)]) (st' := [.int l1]) rfl ?_
      exact e_reti rfl rfl (by decide) (by decide) h
    · replace h := h.2 hc
      refine e_blk 1 10 _ _ (pc' := 11) (L' := [some (.ref l0), some (.int l1), some (.int l2)]) (st' := [.ref l0]) rfl ?_
      obtain ⟨ho1, h⟩ := h
      obtain ⟨b2, hbb2, h⟩ := h
      refine e_getR 6 2 rfl rfl (by decide) (aw (i := 335) (by decide +kernel) rfl) ho1 rfl hbb2 ?_
      refine e_blk 1 14 _ _ (pc' := 15) (L' := [some (.ref l0), some (.int l1), some (.int l2)]) (st' := [.int l2, .ref b2]) rfl ?_
      obtain ⟨ho3, h⟩ := h
      obtain ⟨hi4, h⟩ := h
      obtain ⟨b5, hbb5, h⟩ := h
      refine e_aaldOR rfl ho3 hi4 hbb5 ?_
      obtain ⟨ho6, h⟩ := h
      refine e_getI 2 4 rfl rfl (by decide) (aw (i := 276) (by decide +kernel) rfl) ho6 rfl ?_
      refine e_if_eq 25 rfl rfl (fun hc => ?_) (fun hc => ?_)
      · replace h := h.1 hc
        refine e_drp [true, true, true] (L' := [some (.ref l0), some (.int l1), some (.int l2)]) rfl ?_
        exact x_X6_ordersInUse_25 (fun M l0 l1 l2 h => x_X6_ordersInUse_4  z M l0 l1 l2 h) h
      · replace h := h.2 hc
        refine e_blk 1 22 _ _ (pc' := 25) (L' := [some (.ref l0), some (.int (l1 + (1 : Int32))), some (.int l2)]) (st' := []) rfl ?_
        generalize hx_x7 : ((l1 + (1 : Int32)) : Int32) = x7
        replace h := h x7 hx_x7.symm
        refine e_drp [true, true, true] (L' := [some (.ref l0), some (.int x7), some (.int l2)]) rfl ?_
        exact x_X6_ordersInUse_25 (fun M l0 l1 l2 h => x_X6_ordersInUse_4  z M l0 l1 l2 h) h
def V_X6_ordersInUse (K : Rs → Mm → Prop) (M : Mm) (a0 : Nat) : Prop := ∃ y, V_X6_ordersInUse_4 K  y M a0 (0 : Int32) (0 : Int32)
set_option maxRecDepth 100000 in
set_option maxHeartbeats 4000000 in
theorem x_X6_ordersInUse {G : Gx} {K : Rs → Mm → Prop} {M : Mm} {a0 : Nat} (h : V_X6_ordersInUse K M a0) : MC G mi_X6_ordersInUse [.ref a0] M K := by
  unfold V_X6_ordersInUse at h
  refine mc_of rfl (by decide +kernel) dc_X6_ordersInUse (Nat.le_of_ble_eq_true rfl) 2 (Nat.le_of_ble_eq_true rfl) ?_
  show E G mi_X6_ordersInUse K M 0 0 0 [some (.ref a0), none, none] []
  refine e_blk 4 0 _ _ (pc' := 4) (L' := [some (.ref a0), some (.int (0 : Int32)), some (.int (0 : Int32))]) (st' := []) rfl ?_
  refine e_drp [true, true, true] (L' := [some (.ref a0), some (.int (0 : Int32)), some (.int (0 : Int32))]) rfl ?_
  obtain ⟨y, h⟩ := h
  exact x_X6_ordersInUse_4  y _ _ _ _ h
def V_X6_cancel (K : Rs → Mm → Prop) (M : Mm) (a0 : Nat) (a1 : Int32) : Prop := (ob M a0 6 ∧ V_X6_orderOf (kR (fun r3 M2 => (ob M2 r3 2 ∧ ∀ M5, M5 = sI M2 r3 4 (0 : Int32) → V_X2_clearRuns (kV (fun M6 => (ob M6 a0 6 ∧ V_X6_ordersInUse (kI (fun r9 M8 => K (.inl (some (.int r9))) M8) (fun _ _ => False)) M6 a0)) (fun _ _ => False)) M5 r3)) (fun X M => K (.inr X) M)) M a0 a1)
set_option maxRecDepth 100000 in
set_option maxHeartbeats 4000000 in
theorem x_X6_cancel {G : Gx} {K : Rs → Mm → Prop} {M : Mm} {a0 : Nat} {a1 : Int32} (h : V_X6_cancel K M a0 a1) : MC G mi_X6_cancel [.ref a0, .int a1] M K := by
  unfold V_X6_cancel at h
  refine mc_of rfl (by decide +kernel) dc_X6_cancel (Nat.le_of_ble_eq_true rfl) 1 (Nat.le_of_ble_eq_true rfl) ?_
  show E G mi_X6_cancel K M 0 0 0 [some (.ref a0), some (.int a1), none] []
  refine e_blk 2 0 _ _ (pc' := 2) (L' := [some (.ref a0), some (.int a1), none]) (st' := [.int a1, .ref a0]) rfl ?_
  obtain ⟨ho1, h⟩ := h
  refine e_callV (As := [.int a1]) (rest := []) (ci := 6) rfl (x_X6_orderOf h) ho1 rfl rfl rfl (aw (i := 750) (by decide +kernel) rfl) wn_X6_orderOf wv_X6_orderOf wi_X6_orderOf wc_X6_orderOf (show cok mi_X6_cancel mi_X6_orderOf 0 0 1 = true by decide +kernel) (Nat.le_of_ble_eq_true rfl) (fun v9 M2 hq => ?_) (fun X M9 hq => et_out rfl (by decide) (by decide) hq)
  obtain ⟨r3, rfl, h⟩ := kR_l hq
  refine e_blk 3 5 _ _ (pc' := 8) (L' := [some (.ref a0), some (.int a1), some (.ref r3)]) (st' := [.int (0 : Int32), .ref r3]) rfl ?_
  obtain ⟨ho4, h⟩ := h
  refine e_putZ 2 4 rfl rfl (by decide) (aw (i := 276) (by decide +kernel) rfl) rfl ho4 rfl (by decide) ?_
  generalize hM5 : sI M2 r3 4 (0 : Int32) = M5
  replace h := h M5 hM5.symm
  replace ho4 : ob M5 r3 2 := hM5 ▸ ob_sI ho4
  refine e_blk 1 11 _ _ (pc' := 12) (L' := [some (.ref a0), some (.int a1), some (.ref r3)]) (st' := [.ref r3]) rfl ?_
  refine e_callV (As := []) (rest := []) (ci := 2) rfl (x_X2_clearRuns h) ho4 rfl rfl rfl (aw (i := 755) (by decide +kernel) rfl) wn_X2_clearRuns wv_X2_clearRuns wi_X2_clearRuns wc_X2_clearRuns (show cok mi_X6_cancel mi_X2_clearRuns 1 6 0 = true by decide +kernel) (Nat.le_of_ble_eq_true rfl) (fun v9 M6 hq => ?_) (fun X M9 hq => False.elim hq)
  obtain ⟨rfl, h⟩ := kV_l hq
  refine e_blk 1 15 _ _ (pc' := 16) (L' := [some (.ref a0), some (.int a1), some (.ref r3)]) (st' := [.ref a0]) rfl ?_
  obtain ⟨ho7, h⟩ := h
  refine e_callV (As := []) (rest := []) (ci := 6) rfl (x_X6_ordersInUse h) ho7 rfl rfl rfl (aw (i := 756) (by decide +kernel) rfl) wn_X6_ordersInUse wv_X6_ordersInUse wi_X6_ordersInUse wc_X6_ordersInUse (show cok mi_X6_cancel mi_X6_ordersInUse 1 6 0 = true by decide +kernel) (Nat.le_of_ble_eq_true rfl) (fun v9 M8 hq => ?_) (fun X M9 hq => False.elim hq)
  obtain ⟨r9, rfl, h⟩ := kI_l hq
  exact e_reti rfl rfl (by decide) (by decide) h
def V_X6_told_152 (K : Rs → Mm → Prop)  (M : Mm) (s0 : Int32) : Prop := K (.inl (some (.int s0))) M
set_option maxRecDepth 100000 in
set_option maxHeartbeats 4000000 in
theorem x_X6_told_152 {G : Gx} {K : Rs → Mm → Prop}  {M : Mm} {s0 : Int32} (h : V_X6_told_152 K  M s0) : E G mi_X6_told K M 2 12 152 [none, none, none, none] [.int s0] := by
  unfold V_X6_told_152 at h
  exact e_reti rfl rfl (by decide) (by decide) h
def V_X6_told_136 (K : Rs → Mm → Prop)  (M : Mm) (s0 : Int32) : Prop := K (.inl (some (.int s0))) M
set_option maxRecDepth 100000 in
set_option maxHeartbeats 4000000 in
theorem x_X6_told_136 {G : Gx} {K : Rs → Mm → Prop}  {M : Mm} {s0 : Int32} (h : V_X6_told_136 K  M s0) : E G mi_X6_told K M 2 12 136 [none, none, none, none] [.int s0] := by
  unfold V_X6_told_136 at h
  exact e_reti rfl rfl (by decide) (by decide) h
def V_X6_told_110 (K : Rs → Mm → Prop)  (M : Mm) (s0 : Int32) : Prop := K (.inl (some (.int s0))) M
set_option maxRecDepth 100000 in
set_option maxHeartbeats 4000000 in
theorem x_X6_told_110 {G : Gx} {K : Rs → Mm → Prop}  {M : Mm} {s0 : Int32} (h : V_X6_told_110 K  M s0) : E G mi_X6_told K M 2 12 110 [none, none, none, none] [.int s0] := by
  unfold V_X6_told_110 at h
  exact e_reti rfl rfl (by decide) (by decide) h
def V_X6_told (K : Rs → Mm → Prop) (M : Mm) (a0 : Nat) (a1 : Int32) (a2 : Int32) : Prop := (ob M a0 6 ∧ V_X6_orderOf (kR (fun r3 M2 => V_X6_checkWhat (kV (fun M4 => ((((a2).toInt < 0 ∨ 9 < (a2).toInt) → (ob M4 r3 2 ∧ ∃ b7, mP M4 r3 1 = some b7 ∧ (ob M4 b7 3 ∧ (((mI M4 b7 5) = 0 → V_X6_told_152 K  M4 (0 : Int32)) ∧ (¬ (mI M4 b7 5) = 0 → V_X6_told_152 K  M4 (1 : Int32)))))) ∧ ((a2 = 0 → (ob M4 r3 2 ∧ K (.inl (some (.int (mI M4 r3 6)))) M4)) ∧ ((a2 = 1 → (ob M4 r3 2 ∧ K (.inl (some (.int (mI M4 r3 7)))) M4)) ∧ ((a2 = 2 → (ob M4 r3 2 ∧ K (.inl (some (.int (mI M4 r3 8)))) M4)) ∧ ((a2 = 3 → (ob M4 r3 2 ∧ K (.inl (some (.int (mI M4 r3 9)))) M4)) ∧ ((a2 = 4 → (ob M4 r3 2 ∧ K (.inl (some (.int (mI M4 r3 10)))) M4)) ∧ ((a2 = 5 → (ob M4 r3 2 ∧ K (.inl (some (.int (mI M4 r3 11)))) M4)) ∧ ((a2 = 6 → (ob M4 r3 2 ∧ (((mI M4 r3 12) = 0 → V_X6_told_110 K  M4 (0 : Int32)) ∧ (¬ (mI M4 r3 12) = 0 → V_X6_told_110 K  M4 (1 : Int32))))) ∧ ((a2 = 7 → (ob M4 r3 2 ∧ K (.inl (some (.int (mI M4 r3 14)))) M4)) ∧ ((a2 = 8 → (ob M4 r3 2 ∧ K (.inl (some (.int (mI M4 r3 15)))) M4)) ∧ ((a2 = 9 → (ob M4 r3 2 ∧ ∃ b29, mP M4 r3 1 = some b29 ∧ (ob M4 b29 3 ∧ (((mI M4 b29 4) = 0 → V_X6_told_136 K  M4 (0 : Int32)) ∧ (¬ (mI M4 b29 4) = 0 → V_X6_told_136 K  M4 (1 : Int32)))))) ∧ True)))))))))))) (fun X M => K (.inr X) M)) M2 a2 (10 : Int32)) (fun X M => K (.inr X) M)) M a0 a1)
set_option maxRecDepth 100000 in
set_option maxHeartbeats 4000000 in
theorem x_X6_told {G : Gx} {K : Rs → Mm → Prop} {M : Mm} {a0 : Nat} {a1 : Int32} {a2 : Int32} (h : V_X6_told K M a0 a1 a2) : MC G mi_X6_told [.ref a0, .int a1, .int a2] M K := by
  unfold V_X6_told at h
  refine mc_of rfl (by decide +kernel) dc_X6_told (Nat.le_of_ble_eq_true rfl) 1 (Nat.le_of_ble_eq_true rfl) ?_
  show E G mi_X6_told K M 0 0 0 [some (.ref a0), some (.int a1), some (.int a2), none] []
  refine e_blk 2 0 _ _ (pc' := 2) (L' := [some (.ref a0), some (.int a1), some (.int a2), none]) (st' := [.int a1, .ref a0]) rfl ?_
  obtain ⟨ho1, h⟩ := h
  refine e_callV (As := [.int a1]) (rest := []) (ci := 6) rfl (x_X6_orderOf h) ho1 rfl rfl rfl (aw (i := 750) (by decide +kernel) rfl) wn_X6_orderOf wv_X6_orderOf wi_X6_orderOf wc_X6_orderOf (show cok mi_X6_told mi_X6_orderOf 0 0 1 = true by decide +kernel) (Nat.le_of_ble_eq_true rfl) (fun v9 M2 hq => ?_) (fun X M9 hq => et_out rfl (by decide) (by decide) hq)
  obtain ⟨r3, rfl, h⟩ := kR_l hq
  refine e_blk 3 5 _ _ (pc' := 9) (L' := [some (.ref a0), some (.int a1), some (.int a2), some (.ref r3)]) (st' := [.int (10 : Int32), .int a2]) rfl ?_
  refine e_callS (As := [.int a2, .int (10 : Int32)]) (rest := []) rfl (x_X6_checkWhat h) rfl (aw (i := 518) (by decide +kernel) rfl) ws_X6_checkWhat wi_X6_checkWhat wc_X6_checkWhat (show cok mi_X6_told mi_X6_checkWhat 1 6 2 = true by decide +kernel) (Nat.le_of_ble_eq_true rfl) (fun v9 M4 hq => ?_) (fun X M9 hq => et_out rfl (by decide) (by decide) hq)
  obtain ⟨rfl, h⟩ := kV_l hq
  refine e_blk 1 12 _ _ (pc' := 13) (L' := [some (.ref a0), some (.int a1), some (.int a2), some (.ref r3)]) (st' := [.int a2]) rfl ?_
  by_cases hs5 : (a2).toInt < 0 ∨ 9 < (a2).toInt
  · replace h := h.1 hs5
    refine e_swO 137 rfl hs5 rfl ?_
    refine e_blk 1 137 _ _ (pc' := 138) (L' := [some (.ref a0), some (.int a1), some (.int a2), some (.ref r3)]) (st' := [.ref r3]) rfl ?_
    obtain ⟨ho6, h⟩ := h
    obtain ⟨b7, hbb7, h⟩ := h
    refine e_getR 2 1 rfl rfl (by decide) (aw (i := 271) (by decide +kernel) rfl) ho6 rfl hbb7 ?_
    obtain ⟨ho8, h⟩ := h
    refine e_getI 3 5 rfl rfl (by decide) (aw (i := 150) (by decide +kernel) rfl) ho8 rfl ?_
    refine e_if_eq 151 rfl rfl (fun hc => ?_) (fun hc => ?_)
    · replace h := h.1 hc
      refine e_blk 1 151 _ _ (pc' := 152) (L' := [some (.ref a0), some (.int a1), some (.int a2), some (.ref r3)]) (st' := [.int (0 : Int32)]) rfl ?_
      refine e_drp [false, false, false, false] (L' := [none, none, none, none]) rfl ?_
      exact x_X6_told_152  h
    · replace h := h.2 hc
      refine e_blk 2 147 _ _ (pc' := 152) (L' := [some (.ref a0), some (.int a1), some (.int a2), some (.ref r3)]) (st' := [.int (1 : Int32)]) rfl ?_
      refine e_drp [false, false, false, false] (L' := [none, none, none, none]) rfl ?_
      exact x_X6_told_152  h
  replace h := h.2
  by_cases he9 : a2 = 0
  · replace h := h.1 he9
    refine e_swI (55) 68 rfl (fun q => hs5 (Or.inl q)) (fun q => hs5 (Or.inr q)) (by rw [he9]; decide) rfl ?_
    refine e_blk 1 68 _ _ (pc' := 69) (L' := [some (.ref a0), some (.int a1), some (.int a2), some (.ref r3)]) (st' := [.ref r3]) rfl ?_
    obtain ⟨ho10, h⟩ := h
    refine e_getI 2 6 rfl rfl (by decide) (aw (i := 279) (by decide +kernel) rfl) ho10 rfl ?_
    exact e_reti rfl rfl (by decide) (by decide) h
  replace h := h.2
  by_cases he11 : a2 = 1
  · replace h := h.1 he11
    refine e_swI (60) 73 rfl (fun q => hs5 (Or.inl q)) (fun q => hs5 (Or.inr q)) (by rw [he11]; decide) rfl ?_
    refine e_blk 1 73 _ _ (pc' := 74) (L' := [some (.ref a0), some (.int a1), some (.int a2), some (.ref r3)]) (st' := [.ref r3]) rfl ?_
    obtain ⟨ho12, h⟩ := h
    refine e_getI 2 7 rfl rfl (by decide) (aw (i := 281) (by decide +kernel) rfl) ho12 rfl ?_
    exact e_reti rfl rfl (by decide) (by decide) h
  replace h := h.2
  by_cases he13 : a2 = 2
  · replace h := h.1 he13
    refine e_swI (65) 78 rfl (fun q => hs5 (Or.inl q)) (fun q => hs5 (Or.inr q)) (by rw [he13]; decide) rfl ?_
    refine e_blk 1 78 _ _ (pc' := 79) (L' := [some (.ref a0), some (.int a1), some (.int a2), some (.ref r3)]) (st' := [.ref r3]) rfl ?_
    obtain ⟨ho14, h⟩ := h
    refine e_getI 2 8 rfl rfl (by decide) (aw (i := 283) (by decide +kernel) rfl) ho14 rfl ?_
    exact e_reti rfl rfl (by decide) (by decide) h
  replace h := h.2
  by_cases he15 : a2 = 3
  · replace h := h.1 he15
    refine e_swI (70) 83 rfl (fun q => hs5 (Or.inl q)) (fun q => hs5 (Or.inr q)) (by rw [he15]; decide) rfl ?_
    refine e_blk 1 83 _ _ (pc' := 84) (L' := [some (.ref a0), some (.int a1), some (.int a2), some (.ref r3)]) (st' := [.ref r3]) rfl ?_
    obtain ⟨ho16, h⟩ := h
    refine e_getI 2 9 rfl rfl (by decide) (aw (i := 285) (by decide +kernel) rfl) ho16 rfl ?_
    exact e_reti rfl rfl (by decide) (by decide) h
  replace h := h.2
  by_cases he17 : a2 = 4
  · replace h := h.1 he17
    refine e_swI (75) 88 rfl (fun q => hs5 (Or.inl q)) (fun q => hs5 (Or.inr q)) (by rw [he17]; decide) rfl ?_
    refine e_blk 1 88 _ _ (pc' := 89) (L' := [some (.ref a0), some (.int a1), some (.int a2), some (.ref r3)]) (st' := [.ref r3]) rfl ?_
    obtain ⟨ho18, h⟩ := h
    refine e_getI 2 10 rfl rfl (by decide) (aw (i := 287) (by decide +kernel) rfl) ho18 rfl ?_
    exact e_reti rfl rfl (by decide) (by decide) h
  replace h := h.2
  by_cases he19 : a2 = 5
  · replace h := h.1 he19
    refine e_swI (80) 93 rfl (fun q => hs5 (Or.inl q)) (fun q => hs5 (Or.inr q)) (by rw [he19]; decide) rfl ?_
    refine e_blk 1 93 _ _ (pc' := 94) (L' := [some (.ref a0), some (.int a1), some (.int a2), some (.ref r3)]) (st' := [.ref r3]) rfl ?_
    obtain ⟨ho20, h⟩ := h
    refine e_getI 2 11 rfl rfl (by decide) (aw (i := 289) (by decide +kernel) rfl) ho20 rfl ?_
    exact e_reti rfl rfl (by decide) (by decide) h
  replace h := h.2
  by_cases he21 : a2 = 6
  · replace h := h.1 he21
    refine e_swI (85) 98 rfl (fun q => hs5 (Or.inl q)) (fun q => hs5 (Or.inr q)) (by rw [he21]; decide) rfl ?_
    refine e_blk 1 98 _ _ (pc' := 99) (L' := [some (.ref a0), some (.int a1), some (.int a2), some (.ref r3)]) (st' := [.ref r3]) rfl ?_
    obtain ⟨ho22, h⟩ := h
    refine e_getI 2 12 rfl rfl (by decide) (aw (i := 291) (by decide +kernel) rfl) ho22 rfl ?_
    refine e_if_eq 109 rfl rfl (fun hc => ?_) (fun hc => ?_)
    · replace h := h.1 hc
      refine e_blk 1 109 _ _ (pc' := 110) (L' := [some (.ref a0), some (.int a1), some (.int a2), some (.ref r3)]) (st' := [.int (0 : Int32)]) rfl ?_
      refine e_drp [false, false, false, false] (L' := [none, none, none, none]) rfl ?_
      exact x_X6_told_110  h
    · replace h := h.2 hc
      refine e_blk 2 105 _ _ (pc' := 110) (L' := [some (.ref a0), some (.int a1), some (.int a2), some (.ref r3)]) (st' := [.int (1 : Int32)]) rfl ?_
      refine e_drp [false, false, false, false] (L' := [none, none, none, none]) rfl ?_
      exact x_X6_told_110  h
  replace h := h.2
  by_cases he23 : a2 = 7
  · replace h := h.1 he23
    refine e_swI (98) 111 rfl (fun q => hs5 (Or.inl q)) (fun q => hs5 (Or.inr q)) (by rw [he23]; decide) rfl ?_
    refine e_blk 1 111 _ _ (pc' := 112) (L' := [some (.ref a0), some (.int a1), some (.int a2), some (.ref r3)]) (st' := [.ref r3]) rfl ?_
    obtain ⟨ho24, h⟩ := h
    refine e_getI 2 14 rfl rfl (by decide) (aw (i := 294) (by decide +kernel) rfl) ho24 rfl ?_
    exact e_reti rfl rfl (by decide) (by decide) h
  replace h := h.2
  by_cases he25 : a2 = 8
  · replace h := h.1 he25
    refine e_swI (103) 116 rfl (fun q => hs5 (Or.inl q)) (fun q => hs5 (Or.inr q)) (by rw [he25]; decide) rfl ?_
    refine e_blk 1 116 _ _ (pc' := 117) (L' := [some (.ref a0), some (.int a1), some (.int a2), some (.ref r3)]) (st' := [.ref r3]) rfl ?_
    obtain ⟨ho26, h⟩ := h
    refine e_getI 2 15 rfl rfl (by decide) (aw (i := 296) (by decide +kernel) rfl) ho26 rfl ?_
    exact e_reti rfl rfl (by decide) (by decide) h
  replace h := h.2
  by_cases he27 : a2 = 9
  · replace h := h.1 he27
    refine e_swI (108) 121 rfl (fun q => hs5 (Or.inl q)) (fun q => hs5 (Or.inr q)) (by rw [he27]; decide) rfl ?_
    refine e_blk 1 121 _ _ (pc' := 122) (L' := [some (.ref a0), some (.int a1), some (.int a2), some (.ref r3)]) (st' := [.ref r3]) rfl ?_
    obtain ⟨ho28, h⟩ := h
    obtain ⟨b29, hbb29, h⟩ := h
    refine e_getR 2 1 rfl rfl (by decide) (aw (i := 271) (by decide +kernel) rfl) ho28 rfl hbb29 ?_
    obtain ⟨ho30, h⟩ := h
    refine e_getI 3 4 rfl rfl (by decide) (aw (i := 147) (by decide +kernel) rfl) ho30 rfl ?_
    refine e_if_eq 135 rfl rfl (fun hc => ?_) (fun hc => ?_)
    · replace h := h.1 hc
      refine e_blk 1 135 _ _ (pc' := 136) (L' := [some (.ref a0), some (.int a1), some (.int a2), some (.ref r3)]) (st' := [.int (0 : Int32)]) rfl ?_
      refine e_drp [false, false, false, false] (L' := [none, none, none, none]) rfl ?_
      exact x_X6_told_136  h
    · replace h := h.2 hc
      refine e_blk 2 131 _ _ (pc' := 136) (L' := [some (.ref a0), some (.int a1), some (.int a2), some (.ref r3)]) (st' := [.int (1 : Int32)]) rfl ?_
      refine e_drp [false, false, false, false] (L' := [none, none, none, none]) rfl ?_
      exact x_X6_told_136  h
  replace h := h.2
  exfalso
  have the9 : (a2).toInt ≠ 0 := fun q => he9 (Int32.toInt_inj.mp (q.trans (by decide)))
  have the11 : (a2).toInt ≠ 1 := fun q => he11 (Int32.toInt_inj.mp (q.trans (by decide)))
  have the13 : (a2).toInt ≠ 2 := fun q => he13 (Int32.toInt_inj.mp (q.trans (by decide)))
  have the15 : (a2).toInt ≠ 3 := fun q => he15 (Int32.toInt_inj.mp (q.trans (by decide)))
  have the17 : (a2).toInt ≠ 4 := fun q => he17 (Int32.toInt_inj.mp (q.trans (by decide)))
  have the19 : (a2).toInt ≠ 5 := fun q => he19 (Int32.toInt_inj.mp (q.trans (by decide)))
  have the21 : (a2).toInt ≠ 6 := fun q => he21 (Int32.toInt_inj.mp (q.trans (by decide)))
  have the23 : (a2).toInt ≠ 7 := fun q => he23 (Int32.toInt_inj.mp (q.trans (by decide)))
  have the25 : (a2).toInt ≠ 8 := fun q => he25 (Int32.toInt_inj.mp (q.trans (by decide)))
  have the27 : (a2).toInt ≠ 9 := fun q => he27 (Int32.toInt_inj.mp (q.trans (by decide)))
  omega
def V_X6_field_15 (K : Rs → Mm → Prop)  (M : Mm)  : Prop := K (.inr "java/lang/IllegalArgumentException") M
set_option maxRecDepth 100000 in
set_option maxHeartbeats 4000000 in
theorem x_X6_field_15 {G : Gx} {K : Rs → Mm → Prop}  {M : Mm}  (h : V_X6_field_15 K  M ) : E G mi_X6_field K M 1 6 15 [none, none, none, none] [] := by
  unfold V_X6_field_15 at h
  exact e_thr (j := 22) "java/lang/IllegalArgumentException" "no such field" rfl rfl rfl rfl rfl (by decide +kernel) rfl (aw (i := 453) (by decide +kernel) rfl) (aw (i := 69) (by decide +kernel) rfl) (by decide) at_IllegalArgumentException gd_IllegalArgumentException (by decide) (Nat.le_of_ble_eq_true rfl) (by decide) (by decide) h
def V_X6_field (K : Rs → Mm → Prop) (M : Mm) (a0 : Nat) (a1 : Int32) (a2 : Int32) : Prop := (ob M a0 6 ∧ V_X6_orderOf (kR (fun r3 M2 => ((a2 < 0 → V_X6_field_15 K  M2 ) ∧ (¬ a2 < 0 → ((a2 ≤ (4 : Int32) → (ob M2 r3 2 ∧ ∃ b5, mP M2 r3 1 = some b5 ∧ (ob M2 b5 3 ∧ ∃ b7, mP M2 b5 1 = some b7 ∧ (ob M2 b7 10 ∧ (vp_in a2 (mN M2 b7) ∧ K (.inl (some (.long (mJ M2 b7 (a2).toNatClampNeg)))) M2))))) ∧ (¬ a2 ≤ (4 : Int32) → V_X6_field_15 K  M2 ))))) (fun X M => K (.inr X) M)) M a0 a1)
set_option maxRecDepth 100000 in
set_option maxHeartbeats 4000000 in
theorem x_X6_field {G : Gx} {K : Rs → Mm → Prop} {M : Mm} {a0 : Nat} {a1 : Int32} {a2 : Int32} (h : V_X6_field K M a0 a1 a2) : MC G mi_X6_field [.ref a0, .int a1, .int a2] M K := by
  unfold V_X6_field at h
  refine mc_of rfl (by decide +kernel) dc_X6_field (Nat.le_of_ble_eq_true rfl) 1 (Nat.le_of_ble_eq_true rfl) ?_
  show E G mi_X6_field K M 0 0 0 [some (.ref a0), some (.int a1), some (.int a2), none] []
  refine e_blk 2 0 _ _ (pc' := 2) (L' := [some (.ref a0), some (.int a1), some (.int a2), none]) (st' := [.int a1, .ref a0]) rfl ?_
  obtain ⟨ho1, h⟩ := h
  refine e_callV (As := [.int a1]) (rest := []) (ci := 6) rfl (x_X6_orderOf h) ho1 rfl rfl rfl (aw (i := 750) (by decide +kernel) rfl) wn_X6_orderOf wv_X6_orderOf wi_X6_orderOf wc_X6_orderOf (show cok mi_X6_field mi_X6_orderOf 0 0 1 = true by decide +kernel) (Nat.le_of_ble_eq_true rfl) (fun v9 M2 hq => ?_) (fun X M9 hq => et_out rfl (by decide) (by decide) hq)
  obtain ⟨r3, rfl, h⟩ := kR_l hq
  refine e_blk 2 5 _ _ (pc' := 7) (L' := [some (.ref a0), some (.int a1), some (.int a2), some (.ref r3)]) (st' := [.int a2]) rfl ?_
  refine e_if_lt 15 rfl rfl (fun hc => ?_) (fun hc => ?_)
  · replace h := h.1 hc
    refine e_drp [false, false, false, false] (L' := [none, none, none, none]) rfl ?_
    exact x_X6_field_15  h
  · replace h := h.2 hc
    refine e_blk 2 10 _ _ (pc' := 12) (L' := [some (.ref a0), some (.int a1), some (.int a2), some (.ref r3)]) (st' := [.int (4 : Int32), .int a2]) rfl ?_
    refine e_icmp_le 25 rfl rfl (fun hc => ?_) (fun hc => ?_)
    · replace h := h.1 hc
      refine e_blk 1 25 _ _ (pc' := 26) (L' := [some (.ref a0), some (.int a1), some (.int a2), some (.ref r3)]) (st' := [.ref r3]) rfl ?_
      obtain ⟨ho4, h⟩ := h
      obtain ⟨b5, hbb5, h⟩ := h
      refine e_getR 2 1 rfl rfl (by decide) (aw (i := 271) (by decide +kernel) rfl) ho4 rfl hbb5 ?_
      obtain ⟨ho6, h⟩ := h
      obtain ⟨b7, hbb7, h⟩ := h
      refine e_getR 3 1 rfl rfl (by decide) (aw (i := 142) (by decide +kernel) rfl) ho6 rfl hbb7 ?_
      refine e_blk 1 32 _ _ (pc' := 33) (L' := [some (.ref a0), some (.int a1), some (.int a2), some (.ref r3)]) (st' := [.int a2, .ref b7]) rfl ?_
      obtain ⟨ho8, h⟩ := h
      obtain ⟨hi9, h⟩ := h
      refine e_lald rfl ho8 hi9 ?_
      exact e_retl rfl rfl (by decide) (by decide) h
    · replace h := h.2 hc
      refine e_drp [false, false, false, false] (L' := [none, none, none, none]) rfl ?_
      exact x_X6_field_15  h
def V_X6_day (K : Rs → Mm → Prop) (M : Mm) (a0 : Nat) (a1 : Int32) (a2 : Int32) (a3 : Int32) (a4 : Int32) (a5 : Int32) : Prop := (ob M a0 6 ∧ V_X6_orderOf (kR (fun r3 M2 => V_X6_checkWhat (kV (fun M4 => V_X6_checkDate (kV (fun M5 => (ob M5 r3 2 ∧ ∃ b7, mP M5 r3 1 = some b7 ∧ (ob M5 b7 3 ∧ ∃ b9, mP M5 b7 0 = some b9 ∧ (ob M5 b9 0 ∧ V_X0_goToMonth (kV (fun M11 => (ob M11 r3 2 ∧ ∃ b13, mP M11 r3 1 = some b13 ∧ (ob M11 b13 3 ∧ V_X3_rightDays (kJ (fun r16 M15 => V_X6_holds (kI (fun r18 M17 => ((r18 = 0 ∨ r18 = 1) ∧ K (.inl (some (.int r18))) M17)) (fun _ _ => False)) M15 r16 a5) (fun _ _ => False)) M11 b13 a2))) (fun _ _ => False)) M5 b9 a3 a4)))) (fun X M => K (.inr X) M)) M4 a3 a4 a5) (fun X M => K (.inr X) M)) M2 a2 (3 : Int32)) (fun X M => K (.inr X) M)) M a0 a1)
set_option maxRecDepth 100000 in
set_option maxHeartbeats 4000000 in
theorem x_X6_day {G : Gx} {K : Rs → Mm → Prop} {M : Mm} {a0 : Nat} {a1 : Int32} {a2 : Int32} {a3 : Int32} {a4 : Int32} {a5 : Int32} (h : V_X6_day K M a0 a1 a2 a3 a4 a5) : MC G mi_X6_day [.ref a0, .int a1, .int a2, .int a3, .int a4, .int a5] M K := by
  unfold V_X6_day at h
  refine mc_of rfl (by decide +kernel) dc_X6_day (Nat.le_of_ble_eq_true rfl) 1 (Nat.le_of_ble_eq_true rfl) ?_
  show E G mi_X6_day K M 0 0 0 [some (.ref a0), some (.int a1), some (.int a2), some (.int a3), some (.int a4), some (.int a5), none] []
  refine e_blk 2 0 _ _ (pc' := 2) (L' := [some (.ref a0), some (.int a1), some (.int a2), some (.int a3), some (.int a4), some (.int a5), none]) (st' := [.int a1, .ref a0]) rfl ?_
  obtain ⟨ho1, h⟩ := h
  refine e_callV (As := [.int a1]) (rest := []) (ci := 6) rfl (x_X6_orderOf h) ho1 rfl rfl rfl (aw (i := 750) (by decide +kernel) rfl) wn_X6_orderOf wv_X6_orderOf wi_X6_orderOf wc_X6_orderOf (show cok mi_X6_day mi_X6_orderOf 0 0 1 = true by decide +kernel) (Nat.le_of_ble_eq_true rfl) (fun v9 M2 hq => ?_) (fun X M9 hq => et_out rfl (by decide) (by decide) hq)
  obtain ⟨r3, rfl, h⟩ := kR_l hq
  refine e_blk 3 5 _ _ (pc' := 9) (L' := [some (.ref a0), some (.int a1), some (.int a2), some (.int a3), some (.int a4), some (.int a5), some (.ref r3)]) (st' := [.int (3 : Int32), .int a2]) rfl ?_
  refine e_callS (As := [.int a2, .int (3 : Int32)]) (rest := []) rfl (x_X6_checkWhat h) rfl (aw (i := 518) (by decide +kernel) rfl) ws_X6_checkWhat wi_X6_checkWhat wc_X6_checkWhat (show cok mi_X6_day mi_X6_checkWhat 1 6 2 = true by decide +kernel) (Nat.le_of_ble_eq_true rfl) (fun v9 M4 hq => ?_) (fun X M9 hq => et_out rfl (by decide) (by decide) hq)
  obtain ⟨rfl, h⟩ := kV_l hq
  refine e_blk 3 12 _ _ (pc' := 17) (L' := [some (.ref a0), some (.int a1), some (.int a2), some (.int a3), some (.int a4), some (.int a5), some (.ref r3)]) (st' := [.int a5, .int a4, .int a3]) rfl ?_
  refine e_callS (As := [.int a3, .int a4, .int a5]) (rest := []) rfl (x_X6_checkDate h) rfl (aw (i := 555) (by decide +kernel) rfl) ws_X6_checkDate wi_X6_checkDate wc_X6_checkDate (show cok mi_X6_day mi_X6_checkDate 2 12 3 = true by decide +kernel) (Nat.le_of_ble_eq_true rfl) (fun v9 M5 hq => ?_) (fun X M9 hq => et_out rfl (by decide) (by decide) hq)
  obtain ⟨rfl, h⟩ := kV_l hq
  refine e_blk 1 20 _ _ (pc' := 22) (L' := [some (.ref a0), some (.int a1), some (.int a2), some (.int a3), some (.int a4), some (.int a5), some (.ref r3)]) (st' := [.ref r3]) rfl ?_
  obtain ⟨ho6, h⟩ := h
  obtain ⟨b7, hbb7, h⟩ := h
  refine e_getR 2 1 rfl rfl (by decide) (aw (i := 271) (by decide +kernel) rfl) ho6 rfl hbb7 ?_
  obtain ⟨ho8, h⟩ := h
  obtain ⟨b9, hbb9, h⟩ := h
  refine e_getR 3 0 rfl rfl (by decide) (aw (i := 140) (by decide +kernel) rfl) ho8 rfl hbb9 ?_
  refine e_blk 2 28 _ _ (pc' := 31) (L' := [some (.ref a0), some (.int a1), some (.int a2), some (.int a3), some (.int a4), some (.int a5), some (.ref r3)]) (st' := [.int a4, .int a3, .ref b9]) rfl ?_
  obtain ⟨ho10, h⟩ := h
  refine e_callV (As := [.int a3, .int a4]) (rest := []) (ci := 0) rfl (x_X0_goToMonth h) ho10 rfl rfl rfl (aw (i := 782) (by decide +kernel) rfl) wn_X0_goToMonth wv_X0_goToMonth wi_X0_goToMonth wc_X0_goToMonth (show cok mi_X6_day mi_X0_goToMonth 3 18 2 = true by decide +kernel) (Nat.le_of_ble_eq_true rfl) (fun v9 M11 hq => ?_) (fun X M9 hq => False.elim hq)
  obtain ⟨rfl, h⟩ := kV_l hq
  refine e_blk 1 34 _ _ (pc' := 36) (L' := [some (.ref a0), some (.int a1), some (.int a2), some (.int a3), some (.int a4), some (.int a5), some (.ref r3)]) (st' := [.ref r3]) rfl ?_
  obtain ⟨ho12, h⟩ := h
  obtain ⟨b13, hbb13, h⟩ := h
  refine e_getR 2 1 rfl rfl (by decide) (aw (i := 271) (by decide +kernel) rfl) ho12 rfl hbb13 ?_
  refine e_blk 1 39 _ _ (pc' := 40) (L' := [some (.ref a0), some (.int a1), some (.int a2), some (.int a3), some (.int a4), some (.int a5), some (.ref r3)]) (st' := [.int a2, .ref b13]) rfl ?_
  obtain ⟨ho14, h⟩ := h
  refine e_callV (As := [.int a2]) (rest := []) (ci := 3) rfl (x_X3_rightDays h) ho14 rfl rfl rfl (aw (i := 787) (by decide +kernel) rfl) wn_X3_rightDays wv_X3_rightDays wi_X3_rightDays wc_X3_rightDays (show cok mi_X6_day mi_X3_rightDays 3 18 1 = true by decide +kernel) (Nat.le_of_ble_eq_true rfl) (fun v9 M15 hq => ?_) (fun X M9 hq => False.elim hq)
  obtain ⟨r16, rfl, h⟩ := kJ_l hq
  refine e_blk 1 43 _ _ (pc' := 45) (L' := [some (.ref a0), some (.int a1), some (.int a2), some (.int a3), some (.int a4), some (.int a5), some (.ref r3)]) (st' := [.int a5, .long r16]) rfl ?_
  refine e_callS (As := [.long r16, .int a5]) (rest := []) rfl (x_X6_holds h) rfl (aw (i := 813) (by decide +kernel) rfl) ws_X6_holds wi_X6_holds wc_X6_holds (show cok mi_X6_day mi_X6_holds 3 18 2 = true by decide +kernel) (Nat.le_of_ble_eq_true rfl) (fun v9 M17 hq => ?_) (fun X M9 hq => False.elim hq)
  obtain ⟨r18, rfl, h⟩ := kI_l hq
  exact e_retz rfl rfl h.1 (by decide) (by decide) h.2
def V_X6_matches_25 (K : Rs → Mm → Prop)  (M : Mm) (s0 : Int32) : Prop := ((s0 = 0 ∨ s0 = 1) ∧ K (.inl (some (.int s0))) M)
set_option maxRecDepth 100000 in
set_option maxHeartbeats 4000000 in
theorem x_X6_matches_25 {G : Gx} {K : Rs → Mm → Prop}  {M : Mm} {s0 : Int32} (h : V_X6_matches_25 K  M s0) : E G mi_X6_matches K M 2 12 25 [none, none, none, none] [.int s0] := by
  unfold V_X6_matches_25 at h
  exact e_retz rfl rfl h.1 (by decide) (by decide) h.2
def V_X6_matches (K : Rs → Mm → Prop) (M : Mm) (a0 : Nat) (a1 : Int32) (a2 : Int32) : Prop := (ob M a0 6 ∧ V_X6_orderOf (kR (fun r3 M2 => V_X6_checkMinute (kV (fun M4 => (ob M4 r3 2 ∧ V_X2_leastMatch (kI (fun r7 M6 => ((¬ r7 = a2 → V_X6_matches_25 K  M6 (0 : Int32)) ∧ (r7 = a2 → V_X6_matches_25 K  M6 (1 : Int32)))) (fun _ _ => False)) M4 r3 a2 a2)) (fun X M => K (.inr X) M)) M2 a2) (fun X M => K (.inr X) M)) M a0 a1)
set_option maxRecDepth 100000 in
set_option maxHeartbeats 4000000 in
theorem x_X6_matches {G : Gx} {K : Rs → Mm → Prop} {M : Mm} {a0 : Nat} {a1 : Int32} {a2 : Int32} (h : V_X6_matches K M a0 a1 a2) : MC G mi_X6_matches [.ref a0, .int a1, .int a2] M K := by
  unfold V_X6_matches at h
  refine mc_of rfl (by decide +kernel) dc_X6_matches (Nat.le_of_ble_eq_true rfl) 1 (Nat.le_of_ble_eq_true rfl) ?_
  show E G mi_X6_matches K M 0 0 0 [some (.ref a0), some (.int a1), some (.int a2), none] []
  refine e_blk 2 0 _ _ (pc' := 2) (L' := [some (.ref a0), some (.int a1), some (.int a2), none]) (st' := [.int a1, .ref a0]) rfl ?_
  obtain ⟨ho1, h⟩ := h
  refine e_callV (As := [.int a1]) (rest := []) (ci := 6) rfl (x_X6_orderOf h) ho1 rfl rfl rfl (aw (i := 750) (by decide +kernel) rfl) wn_X6_orderOf wv_X6_orderOf wi_X6_orderOf wc_X6_orderOf (show cok mi_X6_matches mi_X6_orderOf 0 0 1 = true by decide +kernel) (Nat.le_of_ble_eq_true rfl) (fun v9 M2 hq => ?_) (fun X M9 hq => et_out rfl (by decide) (by decide) hq)
  obtain ⟨r3, rfl, h⟩ := kR_l hq
  refine e_blk 2 5 _ _ (pc' := 7) (L' := [some (.ref a0), some (.int a1), some (.int a2), some (.ref r3)]) (st' := [.int a2]) rfl ?_
  refine e_callS (As := [.int a2]) (rest := []) rfl (x_X6_checkMinute h) rfl (aw (i := 481) (by decide +kernel) rfl) ws_X6_checkMinute wi_X6_checkMinute wc_X6_checkMinute (show cok mi_X6_matches mi_X6_checkMinute 1 6 1 = true by decide +kernel) (Nat.le_of_ble_eq_true rfl) (fun v9 M4 hq => ?_) (fun X M9 hq => et_out rfl (by decide) (by decide) hq)
  obtain ⟨rfl, h⟩ := kV_l hq
  refine e_blk 3 10 _ _ (pc' := 13) (L' := [some (.ref a0), some (.int a1), some (.int a2), some (.ref r3)]) (st' := [.int a2, .int a2, .ref r3]) rfl ?_
  obtain ⟨ho5, h⟩ := h
  refine e_callV (As := [.int a2, .int a2]) (rest := []) (ci := 2) rfl (x_X2_leastMatch h) ho5 rfl rfl rfl (aw (i := 821) (by decide +kernel) rfl) wn_X2_leastMatch wv_X2_leastMatch wi_X2_leastMatch wc_X2_leastMatch (show cok mi_X6_matches mi_X2_leastMatch 2 12 2 = true by decide +kernel) (Nat.le_of_ble_eq_true rfl) (fun v9 M6 hq => ?_) (fun X M9 hq => False.elim hq)
  obtain ⟨r7, rfl, h⟩ := kI_l hq
  refine e_blk 1 16 _ _ (pc' := 17) (L' := [some (.ref a0), some (.int a1), some (.int a2), some (.ref r3)]) (st' := [.int a2, .int r7]) rfl ?_
  refine e_icmp_ne 24 rfl rfl (fun hc => ?_) (fun hc => ?_)
  · replace h := h.1 hc
    refine e_blk 1 24 _ _ (pc' := 25) (L' := [some (.ref a0), some (.int a1), some (.int a2), some (.ref r3)]) (st' := [.int (0 : Int32)]) rfl ?_
    refine e_drp [false, false, false, false] (L' := [none, none, none, none]) rfl ?_
    exact x_X6_matches_25  h
  · replace h := h.2 hc
    refine e_blk 2 20 _ _ (pc' := 25) (L' := [some (.ref a0), some (.int a1), some (.int a2), some (.ref r3)]) (st' := [.int (1 : Int32)]) rfl ?_
    refine e_drp [false, false, false, false] (L' := [none, none, none, none]) rfl ?_
    exact x_X6_matches_25  h
def V_X6_checkDays_11 (K : Rs → Mm → Prop)  (M : Mm)  : Prop := K (.inr "java/lang/IllegalArgumentException") M
set_option maxRecDepth 100000 in
set_option maxHeartbeats 4000000 in
theorem x_X6_checkDays_11 {G : Gx} {K : Rs → Mm → Prop}  {M : Mm}  (h : V_X6_checkDays_11 K  M ) : E G mi_X6_checkDays K M 0 0 11 [none] [] := by
  unfold V_X6_checkDays_11 at h
  exact e_thrW (j := 23) "java/lang/IllegalArgumentException" "not so many days" rfl rfl rfl rfl rfl (by decide +kernel) rfl (aw (i := 453) (by decide +kernel) rfl) (aw (i := 69) (by decide +kernel) rfl) (by decide) at_IllegalArgumentException gd_IllegalArgumentException (by decide) (Nat.le_of_ble_eq_true rfl) (by decide) (by decide) h
def V_X6_checkDays (K : Rs → Mm → Prop) (M : Mm) (a0 : Int32) : Prop := ((a0 < 0 → V_X6_checkDays_11 K  M ) ∧ (¬ a0 < 0 → ((a0 ≤ (20000 : Int32) → K (.inl none) M) ∧ (¬ a0 ≤ (20000 : Int32) → V_X6_checkDays_11 K  M ))))
set_option maxRecDepth 100000 in
set_option maxHeartbeats 4000000 in
theorem x_X6_checkDays {G : Gx} {K : Rs → Mm → Prop} {M : Mm} {a0 : Int32} (h : V_X6_checkDays K M a0) : MC G mi_X6_checkDays [.int a0] M K := by
  unfold V_X6_checkDays at h
  refine mc_of rfl (by decide +kernel) dc_X6_checkDays (Nat.le_of_ble_eq_true rfl) 0 (Nat.le_of_ble_eq_true rfl) ?_
  show E G mi_X6_checkDays K M 0 0 0 [some (.int a0)] []
  refine e_blk 1 0 _ _ (pc' := 1) (L' := [some (.int a0)]) (st' := [.int a0]) rfl ?_
  refine e_if_lt 11 rfl rfl (fun hc => ?_) (fun hc => ?_)
  · replace h := h.1 hc
    refine e_drp [false] (L' := [none]) rfl ?_
    exact x_X6_checkDays_11  h
  · replace h := h.2 hc
    refine e_blk 2 4 _ _ (pc' := 8) (L' := [some (.int a0)]) (st' := [.int (20000 : Int32), .int a0]) rfl ?_
    refine e_icmp_le 22 rfl rfl (fun hc => ?_) (fun hc => ?_)
    · replace h := h.1 hc
      exact e_ret rfl rfl (by decide) (by decide) h
    · replace h := h.2 hc
      refine e_drp [false] (L' := [none]) rfl ?_
      exact x_X6_checkDays_11  h
def V_X6_next (K : Rs → Mm → Prop) (M : Mm) (a0 : Nat) (a1 : Int32) (a2 : Int32) (a3 : Int32) : Prop := (ob M a0 6 ∧ V_X6_orderOf (kR (fun r3 M2 => V_X6_checkMinute (kV (fun M4 => V_X6_checkDays (kV (fun M5 => V_J9_min_7cf53 (kI (fun r7 M6 => (ob M6 r3 2 ∧ V_X2_leastMatch (kI (fun r10 M9 => K (.inl (some (.int r10))) M9) (fun _ _ => False)) M6 r3 (a2 + (1 : Int32)) r7)) (fun _ _ => False)) M5 (157785119 : Int32) (a2 + (a3 * (1440 : Int32)))) (fun X M => K (.inr X) M)) M4 a3) (fun X M => K (.inr X) M)) M2 a2) (fun X M => K (.inr X) M)) M a0 a1)
set_option maxRecDepth 100000 in
set_option maxHeartbeats 4000000 in
theorem x_X6_next {G : Gx} {K : Rs → Mm → Prop} {M : Mm} {a0 : Nat} {a1 : Int32} {a2 : Int32} {a3 : Int32} (h : V_X6_next K M a0 a1 a2 a3) : MC G mi_X6_next [.ref a0, .int a1, .int a2, .int a3] M K := by
  unfold V_X6_next at h
  refine mc_of rfl (by decide +kernel) dc_X6_next (Nat.le_of_ble_eq_true rfl) 1 (Nat.le_of_ble_eq_true rfl) ?_
  show E G mi_X6_next K M 0 0 0 [some (.ref a0), some (.int a1), some (.int a2), some (.int a3), none] []
  refine e_blk 2 0 _ _ (pc' := 2) (L' := [some (.ref a0), some (.int a1), some (.int a2), some (.int a3), none]) (st' := [.int a1, .ref a0]) rfl ?_
  obtain ⟨ho1, h⟩ := h
  refine e_callV (As := [.int a1]) (rest := []) (ci := 6) rfl (x_X6_orderOf h) ho1 rfl rfl rfl (aw (i := 750) (by decide +kernel) rfl) wn_X6_orderOf wv_X6_orderOf wi_X6_orderOf wc_X6_orderOf (show cok mi_X6_next mi_X6_orderOf 0 0 1 = true by decide +kernel) (Nat.le_of_ble_eq_true rfl) (fun v9 M2 hq => ?_) (fun X M9 hq => et_out rfl (by decide) (by decide) hq)
  obtain ⟨r3, rfl, h⟩ := kR_l hq
  refine e_blk 2 5 _ _ (pc' := 8) (L' := [some (.ref a0), some (.int a1), some (.int a2), some (.int a3), some (.ref r3)]) (st' := [.int a2]) rfl ?_
  refine e_callS (As := [.int a2]) (rest := []) rfl (x_X6_checkMinute h) rfl (aw (i := 481) (by decide +kernel) rfl) ws_X6_checkMinute wi_X6_checkMinute wc_X6_checkMinute (show cok mi_X6_next mi_X6_checkMinute 1 6 1 = true by decide +kernel) (Nat.le_of_ble_eq_true rfl) (fun v9 M4 hq => ?_) (fun X M9 hq => et_out rfl (by decide) (by decide) hq)
  obtain ⟨rfl, h⟩ := kV_l hq
  refine e_blk 1 11 _ _ (pc' := 12) (L' := [some (.ref a0), some (.int a1), some (.int a2), some (.int a3), some (.ref r3)]) (st' := [.int a3]) rfl ?_
  refine e_callS (As := [.int a3]) (rest := []) rfl (x_X6_checkDays h) rfl (aw (i := 881) (by decide +kernel) rfl) ws_X6_checkDays wi_X6_checkDays wc_X6_checkDays (show cok mi_X6_next mi_X6_checkDays 2 12 1 = true by decide +kernel) (Nat.le_of_ble_eq_true rfl) (fun v9 M5 hq => ?_) (fun X M9 hq => et_out rfl (by decide) (by decide) hq)
  obtain ⟨rfl, h⟩ := kV_l hq
  refine e_blk 4 15 _ _ (pc' := 20) (L' := [some (.ref a0), some (.int a1), some (.int a2), some (.int a3), some (.ref r3)]) (st' := [.int (a2 + (1 : Int32)), .ref r3]) rfl ?_
  refine e_ldc (157785119) rfl (aw (i := 484) (by decide +kernel) rfl) ?_
  refine e_blk 5 22 _ _ (pc' := 29) (L' := [some (.ref a0), some (.int a1), some (.int a2), some (.int a3), some (.ref r3)]) (st' := [.int (a2 + (a3 * (1440 : Int32))), .int (157785119 : Int32), .int (a2 + (1 : Int32)), .ref r3]) rfl ?_
  refine e_callS (As := [.int (157785119 : Int32), .int (a2 + (a3 * (1440 : Int32)))]) (rest := [.int (a2 + (1 : Int32)), .ref r3]) rfl (x_J9_min_7cf53 h) rfl (aw (i := 885) (by decide +kernel) rfl) ws_J9_min_7cf53 wi_J9_min_7cf53 wc_J9_min_7cf53 (show cok mi_X6_next mi_J9_min_7cf53 3 18 2 = true by decide +kernel) (Nat.le_of_ble_eq_true rfl) (fun v9 M6 hq => ?_) (fun X M9 hq => False.elim hq)
  obtain ⟨r7, rfl, h⟩ := kI_l hq
  obtain ⟨ho8, h⟩ := h
  refine e_callV (As := [.int (a2 + (1 : Int32)), .int r7]) (rest := []) (ci := 2) rfl (x_X2_leastMatch h) ho8 rfl rfl rfl (aw (i := 821) (by decide +kernel) rfl) wn_X2_leastMatch wv_X2_leastMatch wi_X2_leastMatch wc_X2_leastMatch (show cok mi_X6_next mi_X2_leastMatch 3 18 2 = true by decide +kernel) (Nat.le_of_ble_eq_true rfl) (fun v9 M9 hq => ?_) (fun X M9 hq => False.elim hq)
  obtain ⟨r10, rfl, h⟩ := kI_l hq
  exact e_reti rfl rfl (by decide) (by decide) h
def V_X6_before (K : Rs → Mm → Prop) (M : Mm) (a0 : Nat) (a1 : Int32) (a2 : Int32) (a3 : Int32) : Prop := (ob M a0 6 ∧ V_X6_orderOf (kR (fun r3 M2 => V_X6_checkMinute (kV (fun M4 => V_X6_checkDays (kV (fun M5 => V_J9_max_7cf53 (kI (fun r7 M6 => (ob M6 r3 2 ∧ V_X2_greatestMatch (kI (fun r10 M9 => K (.inl (some (.int r10))) M9) (fun _ _ => False)) M6 r3 r7 (a2 - (1 : Int32)))) (fun _ _ => False)) M5 (0 : Int32) (a2 - (a3 * (1440 : Int32)))) (fun X M => K (.inr X) M)) M4 a3) (fun X M => K (.inr X) M)) M2 a2) (fun X M => K (.inr X) M)) M a0 a1)
set_option maxRecDepth 100000 in
set_option maxHeartbeats 4000000 in
theorem x_X6_before {G : Gx} {K : Rs → Mm → Prop} {M : Mm} {a0 : Nat} {a1 : Int32} {a2 : Int32} {a3 : Int32} (h : V_X6_before K M a0 a1 a2 a3) : MC G mi_X6_before [.ref a0, .int a1, .int a2, .int a3] M K := by
  unfold V_X6_before at h
  refine mc_of rfl (by decide +kernel) dc_X6_before (Nat.le_of_ble_eq_true rfl) 1 (Nat.le_of_ble_eq_true rfl) ?_
  show E G mi_X6_before K M 0 0 0 [some (.ref a0), some (.int a1), some (.int a2), some (.int a3), none] []
  refine e_blk 2 0 _ _ (pc' := 2) (L' := [some (.ref a0), some (.int a1), some (.int a2), some (.int a3), none]) (st' := [.int a1, .ref a0]) rfl ?_
  obtain ⟨ho1, h⟩ := h
  refine e_callV (As := [.int a1]) (rest := []) (ci := 6) rfl (x_X6_orderOf h) ho1 rfl rfl rfl (aw (i := 750) (by decide +kernel) rfl) wn_X6_orderOf wv_X6_orderOf wi_X6_orderOf wc_X6_orderOf (show cok mi_X6_before mi_X6_orderOf 0 0 1 = true by decide +kernel) (Nat.le_of_ble_eq_true rfl) (fun v9 M2 hq => ?_) (fun X M9 hq => et_out rfl (by decide) (by decide) hq)
  obtain ⟨r3, rfl, h⟩ := kR_l hq
  refine e_blk 2 5 _ _ (pc' := 8) (L' := [some (.ref a0), some (.int a1), some (.int a2), some (.int a3), some (.ref r3)]) (st' := [.int a2]) rfl ?_
  refine e_callS (As := [.int a2]) (rest := []) rfl (x_X6_checkMinute h) rfl (aw (i := 481) (by decide +kernel) rfl) ws_X6_checkMinute wi_X6_checkMinute wc_X6_checkMinute (show cok mi_X6_before mi_X6_checkMinute 1 6 1 = true by decide +kernel) (Nat.le_of_ble_eq_true rfl) (fun v9 M4 hq => ?_) (fun X M9 hq => et_out rfl (by decide) (by decide) hq)
  obtain ⟨rfl, h⟩ := kV_l hq
  refine e_blk 1 11 _ _ (pc' := 12) (L' := [some (.ref a0), some (.int a1), some (.int a2), some (.int a3), some (.ref r3)]) (st' := [.int a3]) rfl ?_
  refine e_callS (As := [.int a3]) (rest := []) rfl (x_X6_checkDays h) rfl (aw (i := 881) (by decide +kernel) rfl) ws_X6_checkDays wi_X6_checkDays wc_X6_checkDays (show cok mi_X6_before mi_X6_checkDays 2 12 1 = true by decide +kernel) (Nat.le_of_ble_eq_true rfl) (fun v9 M5 hq => ?_) (fun X M9 hq => et_out rfl (by decide) (by decide) hq)
  obtain ⟨rfl, h⟩ := kV_l hq
  refine e_blk 7 15 _ _ (pc' := 25) (L' := [some (.ref a0), some (.int a1), some (.int a2), some (.int a3), some (.ref r3)]) (st' := [.int (a2 - (a3 * (1440 : Int32))), .int (0 : Int32), .ref r3]) rfl ?_
  refine e_callS (As := [.int (0 : Int32), .int (a2 - (a3 * (1440 : Int32)))]) (rest := [.ref r3]) rfl (x_J9_max_7cf53 h) rfl (aw (i := 893) (by decide +kernel) rfl) ws_J9_max_7cf53 wi_J9_max_7cf53 wc_J9_max_7cf53 (show cok mi_X6_before mi_J9_max_7cf53 3 18 2 = true by decide +kernel) (Nat.le_of_ble_eq_true rfl) (fun v9 M6 hq => ?_) (fun X M9 hq => False.elim hq)
  obtain ⟨r7, rfl, h⟩ := kI_l hq
  refine e_blk 3 28 _ _ (pc' := 31) (L' := [some (.ref a0), some (.int a1), some (.int a2), some (.int a3), some (.ref r3)]) (st' := [.int (a2 - (1 : Int32)), .int r7, .ref r3]) rfl ?_
  obtain ⟨ho8, h⟩ := h
  refine e_callV (As := [.int r7, .int (a2 - (1 : Int32))]) (rest := []) (ci := 2) rfl (x_X2_greatestMatch h) ho8 rfl rfl rfl (aw (i := 894) (by decide +kernel) rfl) wn_X2_greatestMatch wv_X2_greatestMatch wi_X2_greatestMatch wc_X2_greatestMatch (show cok mi_X6_before mi_X2_greatestMatch 3 18 2 = true by decide +kernel) (Nat.le_of_ble_eq_true rfl) (fun v9 M9 hq => ?_) (fun X M9 hq => False.elim hq)
  obtain ⟨r10, rfl, h⟩ := kI_l hq
  exact e_reti rfl rfl (by decide) (by decide) h
def V_X6_between_28 (K : Rs → Mm → Prop)  (M : Mm)  : Prop := K (.inr "java/lang/IllegalArgumentException") M
set_option maxRecDepth 100000 in
set_option maxHeartbeats 4000000 in
theorem x_X6_between_28 {G : Gx} {K : Rs → Mm → Prop}  {M : Mm}  (h : V_X6_between_28 K  M ) : E G mi_X6_between K M 3 18 28 [none, none, none, none, none] [] := by
  unfold V_X6_between_28 at h
  exact e_thr (j := 24) "java/lang/IllegalArgumentException" "the second minute is less, or too far behind" rfl rfl rfl rfl rfl (by decide +kernel) rfl (aw (i := 453) (by decide +kernel) rfl) (aw (i := 69) (by decide +kernel) rfl) (by decide) at_IllegalArgumentException gd_IllegalArgumentException (by decide) (Nat.le_of_ble_eq_true rfl) (by decide) (by decide) h
def V_X6_between (K : Rs → Mm → Prop) (M : Mm) (a0 : Nat) (a1 : Int32) (a2 : Int32) (a3 : Int32) : Prop := (ob M a0 6 ∧ V_X6_orderOf (kR (fun r3 M2 => V_X6_checkMinute (kV (fun M4 => V_X6_checkMinute (kV (fun M5 => ((a3 < a2 → V_X6_between_28 K  M5 ) ∧ (¬ a3 < a2 → (((a3 - a2) ≤ (28800000 : Int32) → (ob M5 r3 2 ∧ V_X2_matchesIn (kI (fun r8 M7 => K (.inl (some (.int r8))) M7) (fun _ _ => False)) M5 r3 (a2 + (1 : Int32)) a3)) ∧ (¬ (a3 - a2) ≤ (28800000 : Int32) → V_X6_between_28 K  M5 ))))) (fun X M => K (.inr X) M)) M4 a3) (fun X M => K (.inr X) M)) M2 a2) (fun X M => K (.inr X) M)) M a0 a1)
set_option maxRecDepth 100000 in
set_option maxHeartbeats 4000000 in
theorem x_X6_between {G : Gx} {K : Rs → Mm → Prop} {M : Mm} {a0 : Nat} {a1 : Int32} {a2 : Int32} {a3 : Int32} (h : V_X6_between K M a0 a1 a2 a3) : MC G mi_X6_between [.ref a0, .int a1, .int a2, .int a3] M K := by
  unfold V_X6_between at h
  refine mc_of rfl (by decide +kernel) dc_X6_between (Nat.le_of_ble_eq_true rfl) 1 (Nat.le_of_ble_eq_true rfl) ?_
  show E G mi_X6_between K M 0 0 0 [some (.ref a0), some (.int a1), some (.int a2), some (.int a3), none] []
  refine e_blk 2 0 _ _ (pc' := 2) (L' := [some (.ref a0), some (.int a1), some (.int a2), some (.int a3), none]) (st' := [.int a1, .ref a0]) rfl ?_
  obtain ⟨ho1, h⟩ := h
  refine e_callV (As := [.int a1]) (rest := []) (ci := 6) rfl (x_X6_orderOf h) ho1 rfl rfl rfl (aw (i := 750) (by decide +kernel) rfl) wn_X6_orderOf wv_X6_orderOf wi_X6_orderOf wc_X6_orderOf (show cok mi_X6_between mi_X6_orderOf 0 0 1 = true by decide +kernel) (Nat.le_of_ble_eq_true rfl) (fun v9 M2 hq => ?_) (fun X M9 hq => et_out rfl (by decide) (by decide) hq)
  obtain ⟨r3, rfl, h⟩ := kR_l hq
  refine e_blk 2 5 _ _ (pc' := 8) (L' := [some (.ref a0), some (.int a1), some (.int a2), some (.int a3), some (.ref r3)]) (st' := [.int a2]) rfl ?_
  refine e_callS (As := [.int a2]) (rest := []) rfl (x_X6_checkMinute h) rfl (aw (i := 481) (by decide +kernel) rfl) ws_X6_checkMinute wi_X6_checkMinute wc_X6_checkMinute (show cok mi_X6_between mi_X6_checkMinute 1 6 1 = true by decide +kernel) (Nat.le_of_ble_eq_true rfl) (fun v9 M4 hq => ?_) (fun X M9 hq => et_out rfl (by decide) (by decide) hq)
  obtain ⟨rfl, h⟩ := kV_l hq
  refine e_blk 1 11 _ _ (pc' := 12) (L' := [some (.ref a0), some (.int a1), some (.int a2), some (.int a3), some (.ref r3)]) (st' := [.int a3]) rfl ?_
  refine e_callS (As := [.int a3]) (rest := []) rfl (x_X6_checkMinute h) rfl (aw (i := 481) (by decide +kernel) rfl) ws_X6_checkMinute wi_X6_checkMinute wc_X6_checkMinute (show cok mi_X6_between mi_X6_checkMinute 2 12 1 = true by decide +kernel) (Nat.le_of_ble_eq_true rfl) (fun v9 M5 hq => ?_) (fun X M9 hq => et_out rfl (by decide) (by decide) hq)
  obtain ⟨rfl, h⟩ := kV_l hq
  refine e_blk 2 15 _ _ (pc' := 17) (L' := [some (.ref a0), some (.int a1), some (.int a2), some (.int a3), some (.ref r3)]) (st' := [.int a2, .int a3]) rfl ?_
  refine e_icmp_lt 28 rfl rfl (fun hc => ?_) (fun hc => ?_)
  · replace h := h.1 hc
    refine e_drp [false, false, false, false, false] (L' := [none, none, none, none, none]) rfl ?_
    exact x_X6_between_28  h
  · replace h := h.2 hc
    refine e_blk 3 20 _ _ (pc' := 23) (L' := [some (.ref a0), some (.int a1), some (.int a2), some (.int a3), some (.ref r3)]) (st' := [.int (a3 - a2)]) rfl ?_
    refine e_ldc (28800000) rfl (aw (i := 924) (by decide +kernel) rfl) ?_
    refine e_icmp_le 38 rfl rfl (fun hc => ?_) (fun hc => ?_)
    · replace h := h.1 hc
      refine e_blk 5 38 _ _ (pc' := 44) (L' := [some (.ref a0), some (.int a1), some (.int a2), some (.int a3), some (.ref r3)]) (st' := [.int a3, .int (a2 + (1 : Int32)), .ref r3]) rfl ?_
      obtain ⟨ho6, h⟩ := h
      refine e_callV (As := [.int (a2 + (1 : Int32)), .int a3]) (rest := []) (ci := 2) rfl (x_X2_matchesIn h) ho6 rfl rfl rfl (aw (i := 926) (by decide +kernel) rfl) wn_X2_matchesIn wv_X2_matchesIn wi_X2_matchesIn wc_X2_matchesIn (show cok mi_X6_between mi_X2_matchesIn 3 18 2 = true by decide +kernel) (Nat.le_of_ble_eq_true rfl) (fun v9 M7 hq => ?_) (fun X M9 hq => False.elim hq)
      obtain ⟨r8, rfl, h⟩ := kI_l hq
      exact e_reti rfl rfl (by decide) (by decide) h
    · replace h := h.2 hc
      refine e_drp [false, false, false, false, false] (L' := [none, none, none, none, none]) rfl ?_
      exact x_X6_between_28  h
def V_X6_put_24 (K : Rs → Mm → Prop)  : Nat → Mm → Nat → Int32 → Int32 → Prop
  | 0, _, _, _, _ => False
  | z + 1, M, l0, l1, l2 => (((12 : Int32) ≤ l2 → (ob M l0 6 ∧ ∀ M2, M2 = sI M l0 6 l1 → K (.inl none) M2)) ∧ (¬ (12 : Int32) ≤ l2 → (ob M l0 6 ∧ ∃ b4, mP M l0 2 = some b4 ∧ (ob M b4 12 ∧ (vp_in l2 (mN M b4) ∧ ∃ b7, mP M b4 (l2).toNatClampNeg = some b7 ∧ (ob M b7 2 ∧ V_X2_clearRuns (kV (fun M9 => ∀ x10 : Int32, x10 = (l2 + (1 : Int32)) → V_X6_put_24 K  z M9 l0 l1 x10) (fun _ _ => False)) M b7))))))
set_option maxRecDepth 100000 in
set_option maxHeartbeats 4000000 in
theorem x_X6_put_24 {G : Gx} {K : Rs → Mm → Prop}  : ∀ (z : Nat) (M : Mm) (l0 : Nat) (l1 : Int32) (l2 : Int32), V_X6_put_24 K  z M l0 l1 l2 → E G mi_X6_put K M 1 6 24 [some (.ref l0), some (.int l1), some (.int l2)] []
  | 0, M, l0, l1, l2, h => False.elim h
  | z + 1, M, l0, l1, l2, h => by
    unfold V_X6_put_24 at h
    refine e_blk 2 24 _ _ (pc' := 27) (L' := [some (.ref l0), some (.int l1), some (.int l2)]) (st' := [.int (12 : Int32), .int l2]) rfl ?_
    refine e_icmp_ge 45 rfl rfl (fun hc => ?_) (fun hc => ?_)
    · replace h := h.1 hc
      refine e_blk 2 45 _ _ (pc' := 47) (L' := [some (.ref l0), some (.int l1), some (.int l2)]) (st' := [.int l1, .ref l0]) rfl ?_
      obtain ⟨ho1, h⟩ := h
      refine e_putI 6 6 rfl rfl (by decide) (aw (i := 339) (by decide +kernel) rfl) rfl ho1 rfl ?_
      generalize hM2 : sI M l0 6 l1 = M2
      replace h := h M2 hM2.symm
      replace ho1 : ob M2 l0 6 := hM2 ▸ ob_sI ho1
      exact e_ret rfl rfl (by decide) (by decide) h
    · replace h := h.2 hc
      refine e_blk 1 30 _ _ (pc' := 31) (L' := [some (.ref l0), some (.int l1), some (.int l2)]) (st' := [.ref l0]) rfl ?_
      obtain ⟨ho3, h⟩ := h
      obtain ⟨b4, hbb4, h⟩ := h
      refine e_getR 6 2 rfl rfl (by decide) (aw (i := 335) (by decide +kernel) rfl) ho3 rfl hbb4 ?_
      refine e_blk 1 34 _ _ (pc' := 35) (L' := [some (.ref l0), some (.int l1), some (.int l2)]) (st' := [.int l2, .ref b4]) rfl ?_
      obtain ⟨ho5, h⟩ := h
      obtain ⟨hi6, h⟩ := h
      obtain ⟨b7, hbb7, h⟩ := h
      refine e_aaldOR rfl ho5 hi6 hbb7 ?_
      obtain ⟨ho8, h⟩ := h
      refine e_callV (As := []) (rest := []) (ci := 2) rfl (x_X2_clearRuns h) ho8 rfl rfl rfl (aw (i := 755) (by decide +kernel) rfl) wn_X2_clearRuns wv_X2_clearRuns wi_X2_clearRuns wc_X2_clearRuns (show cok mi_X6_put mi_X2_clearRuns 1 6 0 = true by decide +kernel) (Nat.le_of_ble_eq_true rfl) (fun v9 M9 hq => ?_) (fun X M9 hq => False.elim hq)
      obtain ⟨rfl, h⟩ := kV_l hq
      refine e_blk 2 39 _ _ (pc' := 24) (L' := [some (.ref l0), some (.int l1), some (.int (l2 + (1 : Int32)))]) (st' := []) rfl ?_
      generalize hx_x10 : ((l2 + (1 : Int32)) : Int32) = x10
      replace h := h x10 hx_x10.symm
      refine e_drp [true, true, true] (L' := [some (.ref l0), some (.int l1), some (.int x10)]) rfl ?_
      exact x_X6_put_24  z _ _ _ _ h
def V_X6_put (K : Rs → Mm → Prop) (M : Mm) (a0 : Nat) (a1 : Int32) : Prop := V_X6_checkMinute (kV (fun M1 => (ob M1 a0 6 ∧ ((¬ (mI M1 a0 8) = 0 → ∃ y, V_X6_put_24 K  y M1 a0 a1 (0 : Int32)) ∧ ((mI M1 a0 8) = 0 → K (.inr "java/lang/IllegalStateException") M1)))) (fun X M => K (.inr X) M)) M a1
set_option maxRecDepth 100000 in
set_option maxHeartbeats 4000000 in
theorem x_X6_put {G : Gx} {K : Rs → Mm → Prop} {M : Mm} {a0 : Nat} {a1 : Int32} (h : V_X6_put K M a0 a1) : MC G mi_X6_put [.ref a0, .int a1] M K := by
  unfold V_X6_put at h
  refine mc_of rfl (by decide +kernel) dc_X6_put (Nat.le_of_ble_eq_true rfl) 1 (Nat.le_of_ble_eq_true rfl) ?_
  show E G mi_X6_put K M 0 0 0 [some (.ref a0), some (.int a1), none] []
  refine e_blk 1 0 _ _ (pc' := 1) (L' := [some (.ref a0), some (.int a1), none]) (st' := [.int a1]) rfl ?_
  refine e_callS (As := [.int a1]) (rest := []) rfl (x_X6_checkMinute h) rfl (aw (i := 481) (by decide +kernel) rfl) ws_X6_checkMinute wi_X6_checkMinute wc_X6_checkMinute (show cok mi_X6_put mi_X6_checkMinute 0 0 1 = true by decide +kernel) (Nat.le_of_ble_eq_true rfl) (fun v9 M1 hq => ?_) (fun X M9 hq => et_out rfl (by decide) (by decide) hq)
  obtain ⟨rfl, h⟩ := kV_l hq
  refine e_blk 1 4 _ _ (pc' := 5) (L' := [some (.ref a0), some (.int a1), none]) (st' := [.ref a0]) rfl ?_
  obtain ⟨ho2, h⟩ := h
  refine e_getI 6 8 rfl rfl (by decide) (aw (i := 341) (by decide +kernel) rfl) ho2 rfl ?_
  refine e_if_ne 22 rfl rfl (fun hc => ?_) (fun hc => ?_)
  · replace h := h.1 hc
    refine e_blk 2 22 _ _ (pc' := 24) (L' := [some (.ref a0), some (.int a1), some (.int (0 : Int32))]) (st' := []) rfl ?_
    refine e_drp [true, true, true] (L' := [some (.ref a0), some (.int a1), some (.int (0 : Int32))]) rfl ?_
    obtain ⟨y, h⟩ := h
    exact x_X6_put_24  y _ _ _ _ h
  · replace h := h.2 hc
    exact e_thrW (j := 25) "java/lang/IllegalStateException" "asleep" rfl rfl rfl rfl rfl (by decide +kernel) rfl (aw (i := 491) (by decide +kernel) rfl) (aw (i := 70) (by decide +kernel) rfl) (by decide) at_IllegalStateException gd_IllegalStateException (by decide) (Nat.le_of_ble_eq_true rfl) (by decide) (by decide) h
def V_X6_leastDue_37 (K : Rs → Mm → Prop) (B4 : Mm → Nat → Int32 → Int32 → Prop) (M : Mm) (l0 : Nat) (l2 : Int32) (l3 : Int32) : Prop := ∀ x1 : Int32, x1 = (l3 + (1 : Int32)) → B4 M l0 l2 x1
set_option maxRecDepth 100000 in
set_option maxHeartbeats 4000000 in
theorem x_X6_leastDue_37 {G : Gx} {K : Rs → Mm → Prop} {B4 : Mm → Nat → Int32 → Int32 → Prop} (hB4 : ∀ M l0 l2 l3, B4 M l0 l2 l3 → E G mi_X6_leastDue K M 0 0 4 [some (.ref l0), none, some (.int l2), some (.int l3), none] []) {M : Mm} {l0 : Nat} {l2 : Int32} {l3 : Int32} (h : V_X6_leastDue_37 K B4 M l0 l2 l3) : E G mi_X6_leastDue K M 0 0 37 [some (.ref l0), none, some (.int l2), some (.int l3), none] [] := by
  unfold V_X6_leastDue_37 at h
  refine e_blk 2 37 _ _ (pc' := 4) (L' := [some (.ref l0), none, some (.int l2), some (.int (l3 + (1 : Int32))), none]) (st' := []) rfl ?_
  generalize hx_x1 : ((l3 + (1 : Int32)) : Int32) = x1
  replace h := h x1 hx_x1.symm
  refine e_drp [true, false, true, true, false] (L' := [some (.ref l0), none, some (.int l2), some (.int x1), none]) rfl ?_
  exact hB4 _ _ _ _ h
def V_X6_leastDue_4 (K : Rs → Mm → Prop)  : Nat → Mm → Nat → Int32 → Int32 → Prop
  | 0, _, _, _, _ => False
  | z + 1, M, l0, l2, l3 => (((12 : Int32) ≤ l3 → K (.inl (some (.int l2))) M) ∧ (¬ (12 : Int32) ≤ l3 → (ob M l0 6 ∧ ∃ b2, mP M l0 2 = some b2 ∧ (ob M b2 12 ∧ (vp_in l3 (mN M b2) ∧ ∃ b5, mP M b2 (l3).toNatClampNeg = some b5 ∧ (ob M b5 2 ∧ (((mI M b5 16) = (-1 : Int32) → V_X6_leastDue_37 K (fun M l0 l2 l3 => V_X6_leastDue_4 K  z M l0 l2 l3) M l0 l2 l3) ∧ (¬ (mI M b5 16) = (-1 : Int32) → V_J9_min_7cf53 (kI (fun r8 M7 => V_X6_leastDue_37 K (fun M l0 l2 l3 => V_X6_leastDue_4 K  z M l0 l2 l3) M7 l0 r8 l3) (fun _ _ => False)) M l2 (mI M b5 16)))))))))
set_option maxRecDepth 100000 in
set_option maxHeartbeats 4000000 in
theorem x_X6_leastDue_4 {G : Gx} {K : Rs → Mm → Prop}  : ∀ (z : Nat) (M : Mm) (l0 : Nat) (l2 : Int32) (l3 : Int32), V_X6_leastDue_4 K  z M l0 l2 l3 → E G mi_X6_leastDue K M 0 0 4 [some (.ref l0), none, some (.int l2), some (.int l3), none] []
  | 0, M, l0, l2, l3, h => False.elim h
  | z + 1, M, l0, l2, l3, h => by
    unfold V_X6_leastDue_4 at h
    refine e_blk 2 4 _ _ (pc' := 7) (L' := [some (.ref l0), none, some (.int l2), some (.int l3), none]) (st' := [.int (12 : Int32), .int l3]) rfl ?_
    refine e_icmp_ge 43 rfl rfl (fun hc => ?_) (fun hc => ?_)
    · replace h := h.1 hc
      refine e_blk 1 43 _ _ (pc' := 44) (L' := [some (.ref l0), none, some (.int l2), some (.int l3), none]) (st' := [.int l2]) rfl ?_
      exact e_reti rfl rfl (by decide) (by decide) h
    · replace h := h.2 hc
      refine e_blk 1 10 _ _ (pc' := 11) (L' := [some (.ref l0), none, some (.int l2), some (.int l3), none]) (st' := [.ref l0]) rfl ?_
      obtain ⟨ho1, h⟩ := h
      obtain ⟨b2, hbb2, h⟩ := h
      refine e_getR 6 2 rfl rfl (by decide) (aw (i := 335) (by decide +kernel) rfl) ho1 rfl hbb2 ?_
      refine e_blk 1 14 _ _ (pc' := 15) (L' := [some (.ref l0), none, some (.int l2), some (.int l3), none]) (st' := [.int l3, .ref b2]) rfl ?_
      obtain ⟨ho3, h⟩ := h
      obtain ⟨hi4, h⟩ := h
      obtain ⟨b5, hbb5, h⟩ := h
      refine e_aaldOR rfl ho3 hi4 hbb5 ?_
      refine e_blk 2 16 _ _ (pc' := 20) (L' := [some (.ref l0), none, some (.int l2), some (.int l3), some (.ref b5)]) (st' := [.ref b5]) rfl ?_
      obtain ⟨ho6, h⟩ := h
      refine e_getI 2 16 rfl rfl (by decide) (aw (i := 297) (by decide +kernel) rfl) ho6 rfl ?_
      refine e_blk 1 23 _ _ (pc' := 24) (L' := [some (.ref l0), none, some (.int l2), some (.int l3), some (.ref b5)]) (st' := [.int (-1 : Int32), .int (mI M b5 16)]) rfl ?_
      refine e_icmp_eq 37 rfl rfl (fun hc => ?_) (fun hc => ?_)
      · replace h := h.1 hc
        refine e_drp [true, false, true, true, false] (L' := [some (.ref l0), none, some (.int l2), some (.int l3), none]) rfl ?_
        exact x_X6_leastDue_37 (fun M l0 l2 l3 h => x_X6_leastDue_4  z M l0 l2 l3 h) h
      · replace h := h.2 hc
        refine e_blk 2 27 _ _ (pc' := 30) (L' := [some (.ref l0), none, some (.int l2), some (.int l3), some (.ref b5)]) (st' := [.ref b5, .int l2]) rfl ?_
        refine e_getI 2 16 rfl rfl (by decide) (aw (i := 297) (by decide +kernel) rfl) ho6 rfl ?_
        refine e_callS (As := [.int l2, .int (mI M b5 16)]) (rest := []) rfl (x_J9_min_7cf53 h) rfl (aw (i := 885) (by decide +kernel) rfl) ws_J9_min_7cf53 wi_J9_min_7cf53 wc_J9_min_7cf53 (show cok mi_X6_leastDue mi_J9_min_7cf53 0 0 2 = true by decide +kernel) (Nat.le_of_ble_eq_true rfl) (fun v9 M7 hq => ?_) (fun X M9 hq => False.elim hq)
        obtain ⟨r8, rfl, h⟩ := kI_l hq
        refine e_blk 1 36 _ _ (pc' := 37) (L' := [some (.ref l0), none, some (.int r8), some (.int l3), some (.ref b5)]) (st' := []) rfl ?_
        refine e_drp [true, false, true, true, false] (L' := [some (.ref l0), none, some (.int r8), some (.int l3), none]) rfl ?_
        exact x_X6_leastDue_37 (fun M l0 l2 l3 h => x_X6_leastDue_4  z M l0 l2 l3 h) h
def V_X6_leastDue (K : Rs → Mm → Prop) (M : Mm) (a0 : Nat) (a1 : Int32) : Prop := ∃ y, V_X6_leastDue_4 K  y M a0 a1 (0 : Int32)
set_option maxRecDepth 100000 in
set_option maxHeartbeats 4000000 in
theorem x_X6_leastDue {G : Gx} {K : Rs → Mm → Prop} {M : Mm} {a0 : Nat} {a1 : Int32} (h : V_X6_leastDue K M a0 a1) : MC G mi_X6_leastDue [.ref a0, .int a1] M K := by
  unfold V_X6_leastDue at h
  refine mc_of rfl (by decide +kernel) dc_X6_leastDue (Nat.le_of_ble_eq_true rfl) 3 (Nat.le_of_ble_eq_true rfl) ?_
  show E G mi_X6_leastDue K M 0 0 0 [some (.ref a0), some (.int a1), none, none, none] []
  refine e_blk 4 0 _ _ (pc' := 4) (L' := [some (.ref a0), some (.int a1), some (.int a1), some (.int (0 : Int32)), none]) (st' := []) rfl ?_
  refine e_drp [true, false, true, true, false] (L' := [some (.ref a0), none, some (.int a1), some (.int (0 : Int32)), none]) rfl ?_
  obtain ⟨y, h⟩ := h
  exact x_X6_leastDue_4  y _ _ _ _ h
def V_X6_firstToEnd_51 (K : Rs → Mm → Prop) (B11 : Mm → Nat → Option Nat → Int32 → Int32 → Prop) (M : Mm) (l0 : Nat) (l1 : Option Nat) (l2 : Int32) (l3 : Int32) : Prop := ∀ x1 : Int32, x1 = (l3 + (1 : Int32)) → B11 M l0 l1 l2 x1
set_option maxRecDepth 100000 in
set_option maxHeartbeats 4000000 in
theorem x_X6_firstToEnd_51 {G : Gx} {K : Rs → Mm → Prop} {B11 : Mm → Nat → Option Nat → Int32 → Int32 → Prop} (hB11 : ∀ M l0 l1 l2 l3, B11 M l0 l1 l2 l3 → E G mi_X6_firstToEnd K M 0 0 11 [some (.ref l0), some (va_rf l1), some (.int l2), some (.int l3), none] []) {M : Mm} {l0 : Nat} {l1 : Option Nat} {l2 : Int32} {l3 : Int32} (h : V_X6_firstToEnd_51 K B11 M l0 l1 l2 l3) : E G mi_X6_firstToEnd K M 0 0 51 [some (.ref l0), some (va_rf l1), some (.int l2), some (.int l3), none] [] := by
  unfold V_X6_firstToEnd_51 at h
  refine e_blk 2 51 _ _ (pc' := 11) (L' := [some (.ref l0), some (va_rf l1), some (.int l2), some (.int (l3 + (1 : Int32))), none]) (st' := []) rfl ?_
  generalize hx_x1 : ((l3 + (1 : Int32)) : Int32) = x1
  replace h := h x1 hx_x1.symm
  refine e_drp [true, true, true, true, false] (L' := [some (.ref l0), some (va_rf l1), some (.int l2), some (.int x1), none]) rfl ?_
  exact hB11 _ _ _ _ _ h
def V_X6_firstToEnd_11 (K : Rs → Mm → Prop)  : Nat → Mm → Nat → Option Nat → Int32 → Int32 → Prop
  | 0, _, _, _, _, _ => False
  | z + 1, M, l0, l1, l2, l3 => (((12 : Int32) ≤ l3 → ((l1 = none → K (.inl (some (va_rf none))) M) ∧ (∀ b1, l1 = some b1 → K (.inl (some (va_rf (some b1)))) M))) ∧ (¬ (12 : Int32) ≤ l3 → (ob M l0 6 ∧ ∃ b3, mP M l0 2 = some b3 ∧ (ob M b3 12 ∧ (vp_in l3 (mN M b3) ∧ ∃ b6, mP M b3 (l3).toNatClampNeg = some b6 ∧ (ob M b6 2 ∧ (((mI M b6 11) ≤ 0 → V_X6_firstToEnd_51 K (fun M l0 l1 l2 l3 => V_X6_firstToEnd_11 K  z M l0 l1 l2 l3) M l0 l1 l2 l3) ∧ (¬ (mI M b6 11) ≤ 0 → V_X2_firstEnd (kI (fun r9 M8 => ((l2 ≤ r9 → V_X6_firstToEnd_51 K (fun M l0 l1 l2 l3 => V_X6_firstToEnd_11 K  z M l0 l1 l2 l3) M8 l0 l1 l2 l3) ∧ (¬ l2 ≤ r9 → (ob M8 b6 2 ∧ V_X2_firstEnd (kI (fun r12 M11 => V_X6_firstToEnd_51 K (fun M l0 l1 l2 l3 => V_X6_firstToEnd_11 K  z M l0 l1 l2 l3) M11 l0 (some b6) r12 l3) (fun _ _ => False)) M8 b6)))) (fun _ _ => False)) M b6))))))))
set_option maxRecDepth 100000 in
set_option maxHeartbeats 4000000 in
theorem x_X6_firstToEnd_11 {G : Gx} {K : Rs → Mm → Prop}  : ∀ (z : Nat) (M : Mm) (l0 : Nat) (l1 : Option Nat) (l2 : Int32) (l3 : Int32), V_X6_firstToEnd_11 K  z M l0 l1 l2 l3 → E G mi_X6_firstToEnd K M 0 0 11 [some (.ref l0), some (va_rf l1), some (.int l2), some (.int l3), none] []
  | 0, M, l0, l1, l2, l3, h => False.elim h
  | z + 1, M, l0, l1, l2, l3, h => by
    unfold V_X6_firstToEnd_11 at h
    refine e_blk 2 11 _ _ (pc' := 14) (L' := [some (.ref l0), some (va_rf l1), some (.int l2), some (.int l3), none]) (st' := [.int (12 : Int32), .int l3]) rfl ?_
    refine e_icmp_ge 57 rfl rfl (fun hc => ?_) (fun hc => ?_)
    · replace h := h.1 hc
      rcases l1 with _ | b1
      · replace h := h.1 rfl
        refine e_blk 1 57 _ _ (pc' := 58) (L' := [some (.ref l0), some (.null), some (.int l2), some (.int l3), none]) (st' := [.null]) rfl ?_
        exact e_reta (v := none) rfl rfl (by decide) (by decide) h
      · replace h := h.2 b1 rfl
        refine e_blk 1 57 _ _ (pc' := 58) (L' := [some (.ref l0), some (.ref b1), some (.int l2), some (.int l3), none]) (st' := [.ref b1]) rfl ?_
        exact e_reta (v := (some b1)) rfl rfl (by decide) (by decide) h
    · replace h := h.2 hc
      refine e_blk 1 17 _ _ (pc' := 18) (L' := [some (.ref l0), some (va_rf l1), some (.int l2), some (.int l3), none]) (st' := [.ref l0]) rfl ?_
      obtain ⟨ho2, h⟩ := h
      obtain ⟨b3, hbb3, h⟩ := h
      refine e_getR 6 2 rfl rfl (by decide) (aw (i := 335) (by decide +kernel) rfl) ho2 rfl hbb3 ?_
      refine e_blk 1 21 _ _ (pc' := 22) (L' := [some (.ref l0), some (va_rf l1), some (.int l2), some (.int l3), none]) (st' := [.int l3, .ref b3]) rfl ?_
      obtain ⟨ho4, h⟩ := h
      obtain ⟨hi5, h⟩ := h
      obtain ⟨b6, hbb6, h⟩ := h
      refine e_aaldOR rfl ho4 hi5 hbb6 ?_
      refine e_blk 2 23 _ _ (pc' := 27) (L' := [some (.ref l0), some (va_rf l1), some (.int l2), some (.int l3), some (.ref b6)]) (st' := [.ref b6]) rfl ?_
      obtain ⟨ho7, h⟩ := h
      refine e_getI 2 11 rfl rfl (by decide) (aw (i := 289) (by decide +kernel) rfl) ho7 rfl ?_
      refine e_if_le 51 rfl rfl (fun hc => ?_) (fun hc => ?_)
      · replace h := h.1 hc
        refine e_drp [true, true, true, true, false] (L' := [some (.ref l0), some (va_rf l1), some (.int l2), some (.int l3), none]) rfl ?_
        exact x_X6_firstToEnd_51 (fun M l0 l1 l2 l3 h => x_X6_firstToEnd_11  z M l0 l1 l2 l3 h) h
      · replace h := h.2 hc
        refine e_blk 1 33 _ _ (pc' := 35) (L' := [some (.ref l0), some (va_rf l1), some (.int l2), some (.int l3), some (.ref b6)]) (st' := [.ref b6]) rfl ?_
        refine e_callV (As := []) (rest := []) (ci := 2) rfl (x_X2_firstEnd h) ho7 rfl rfl rfl (aw (i := 976) (by decide +kernel) rfl) wn_X2_firstEnd wv_X2_firstEnd wi_X2_firstEnd wc_X2_firstEnd (show cok mi_X6_firstToEnd mi_X2_firstEnd 0 0 0 = true by decide +kernel) (Nat.le_of_ble_eq_true rfl) (fun v9 M8 hq => ?_) (fun X M9 hq => False.elim hq)
        obtain ⟨r9, rfl, h⟩ := kI_l hq
        refine e_blk 1 38 _ _ (pc' := 39) (L' := [some (.ref l0), some (va_rf l1), some (.int l2), some (.int l3), some (.ref b6)]) (st' := [.int l2, .int r9]) rfl ?_
        refine e_icmp_ge 51 rfl rfl (fun hc => ?_) (fun hc => ?_)
        · replace h := h.1 hc
          refine e_drp [true, true, true, true, false] (L' := [some (.ref l0), some (va_rf l1), some (.int l2), some (.int l3), none]) rfl ?_
          exact x_X6_firstToEnd_51 (fun M l0 l1 l2 l3 h => x_X6_firstToEnd_11  z M l0 l1 l2 l3 h) h
        · replace h := h.2 hc
          refine e_blk 3 42 _ _ (pc' := 47) (L' := [some (.ref l0), some (.ref b6), some (.int l2), some (.int l3), some (.ref b6)]) (st' := [.ref b6]) rfl ?_
          obtain ⟨ho10, h⟩ := h
          refine e_callV (As := []) (rest := []) (ci := 2) rfl (x_X2_firstEnd h) ho10 rfl rfl rfl (aw (i := 976) (by decide +kernel) rfl) wn_X2_firstEnd wv_X2_firstEnd wi_X2_firstEnd wc_X2_firstEnd (show cok mi_X6_firstToEnd mi_X2_firstEnd 0 0 0 = true by decide +kernel) (Nat.le_of_ble_eq_true rfl) (fun v9 M11 hq => ?_) (fun X M9 hq => False.elim hq)
          obtain ⟨r12, rfl, h⟩ := kI_l hq
          refine e_blk 1 50 _ _ (pc' := 51) (L' := [some (.ref l0), some (.ref b6), some (.int r12), some (.int l3), some (.ref b6)]) (st' := []) rfl ?_
          refine e_drp [true, true, true, true, false] (L' := [some (.ref l0), some (va_rf (some b6)), some (.int r12), some (.int l3), none]) rfl ?_
          exact x_X6_firstToEnd_51 (fun M l0 l1 l2 l3 h => x_X6_firstToEnd_11  z M l0 l1 l2 l3 h) h
def V_X6_firstToEnd (K : Rs → Mm → Prop) (M : Mm) (a0 : Nat) : Prop := (ob M a0 6 ∧ ∀ x2 : Int32, x2 = ((mI M a0 6) + (1 : Int32)) → ∃ y, V_X6_firstToEnd_11 K  y M a0 none x2 (0 : Int32))
set_option maxRecDepth 100000 in
set_option maxHeartbeats 4000000 in
theorem x_X6_firstToEnd {G : Gx} {K : Rs → Mm → Prop} {M : Mm} {a0 : Nat} (h : V_X6_firstToEnd K M a0) : MC G mi_X6_firstToEnd [.ref a0] M K := by
  unfold V_X6_firstToEnd at h
  refine mc_of rfl (by decide +kernel) dc_X6_firstToEnd (Nat.le_of_ble_eq_true rfl) 4 (Nat.le_of_ble_eq_true rfl) ?_
  show E G mi_X6_firstToEnd K M 0 0 0 [some (.ref a0), none, none, none, none] []
  refine e_blk 3 0 _ _ (pc' := 3) (L' := [some (.ref a0), some (.null), none, none, none]) (st' := [.ref a0]) rfl ?_
  obtain ⟨ho1, h⟩ := h
  refine e_getI 6 6 rfl rfl (by decide) (aw (i := 339) (by decide +kernel) rfl) ho1 rfl ?_
  refine e_blk 5 6 _ _ (pc' := 11) (L' := [some (.ref a0), some (.null), some (.int ((mI M a0 6) + (1 : Int32))), some (.int (0 : Int32)), none]) (st' := []) rfl ?_
  generalize hx_x2 : (((mI M a0 6) + (1 : Int32)) : Int32) = x2
  replace h := h x2 hx_x2.symm
  refine e_drp [true, true, true, true, false] (L' := [some (.ref a0), some (va_rf none), some (.int x2), some (.int (0 : Int32)), none]) rfl ?_
  obtain ⟨y, h⟩ := h
  exact x_X6_firstToEnd_11  y _ _ _ _ _ h
def V_X6_begin (K : Rs → Mm → Prop) (M : Mm) (a0 : Nat) (a1 : Nat) (a2 : Int32) (a3 : Int32) : Prop := (ob M a1 2 ∧ V_X2_addRun (kV (fun M2 => (ob M2 a0 6 ∧ ∃ b4, mP M2 a0 4 = some b4 ∧ (ob M2 a1 2 ∧ (ob M2 b4 1 ∧ V_X1_add (kV (fun M7 => K (.inl none) M7) (fun _ _ => False)) M2 b4 (0 : Int32) (mI M2 a1 0) a2 a3)))) (fun _ _ => False)) M a1 a2 a3)
set_option maxRecDepth 100000 in
set_option maxHeartbeats 4000000 in
theorem x_X6_begin {G : Gx} {K : Rs → Mm → Prop} {M : Mm} {a0 : Nat} {a1 : Nat} {a2 : Int32} {a3 : Int32} (h : V_X6_begin K M a0 a1 a2 a3) : MC G mi_X6_begin [.ref a0, .ref a1, .int a2, .int a3] M K := by
  unfold V_X6_begin at h
  refine mc_of rfl (by decide +kernel) dc_X6_begin (Nat.le_of_ble_eq_true rfl) 0 (Nat.le_of_ble_eq_true rfl) ?_
  show E G mi_X6_begin K M 0 0 0 [some (.ref a0), some (.ref a1), some (.int a2), some (.int a3)] []
  refine e_blk 3 0 _ _ (pc' := 3) (L' := [some (.ref a0), some (.ref a1), some (.int a2), some (.int a3)]) (st' := [.int a3, .int a2, .ref a1]) rfl ?_
  obtain ⟨ho1, h⟩ := h
  refine e_callV (As := [.int a2, .int a3]) (rest := []) (ci := 2) rfl (x_X2_addRun h) ho1 rfl rfl rfl (aw (i := 992) (by decide +kernel) rfl) wn_X2_addRun wv_X2_addRun wi_X2_addRun wc_X2_addRun (show cok mi_X6_begin mi_X2_addRun 0 0 2 = true by decide +kernel) (Nat.le_of_ble_eq_true rfl) (fun v9 M2 hq => ?_) (fun X M9 hq => False.elim hq)
  obtain ⟨rfl, h⟩ := kV_l hq
  refine e_blk 1 6 _ _ (pc' := 7) (L' := [some (.ref a0), some (.ref a1), some (.int a2), some (.int a3)]) (st' := [.ref a0]) rfl ?_
  obtain ⟨ho3, h⟩ := h
  obtain ⟨b4, hbb4, h⟩ := h
  refine e_getR 6 4 rfl rfl (by decide) (aw (i := 337) (by decide +kernel) rfl) ho3 rfl hbb4 ?_
  refine e_blk 2 10 _ _ (pc' := 12) (L' := [some (.ref a0), some (.ref a1), some (.int a2), some (.int a3)]) (st' := [.ref a1, .int (0 : Int32), .ref b4]) rfl ?_
  obtain ⟨ho5, h⟩ := h
  refine e_getI 2 0 rfl rfl (by decide) (aw (i := 269) (by decide +kernel) rfl) ho5 rfl ?_
  refine e_blk 2 15 _ _ (pc' := 17) (L' := [some (.ref a0), some (.ref a1), some (.int a2), some (.int a3)]) (st' := [.int a3, .int a2, .int (mI M2 a1 0), .int (0 : Int32), .ref b4]) rfl ?_
  obtain ⟨ho6, h⟩ := h
  refine e_callV (As := [.int (0 : Int32), .int (mI M2 a1 0), .int a2, .int a3]) (rest := []) (ci := 1) rfl (x_X1_add h) ho6 rfl rfl rfl (aw (i := 980) (by decide +kernel) rfl) wn_X1_add wv_X1_add wi_X1_add wc_X1_add (show cok mi_X6_begin mi_X1_add 0 0 4 = true by decide +kernel) (Nat.le_of_ble_eq_true rfl) (fun v9 M7 hq => ?_) (fun X M9 hq => False.elim hq)
  obtain ⟨rfl, h⟩ := kV_l hq
  exact e_ret rfl rfl (by decide) (by decide) h
def V_X6_endRuns_75 (K : Rs → Mm → Prop) (B2 : Mm → Nat → Int32 → Prop) (M : Mm) (l0 : Nat) (l1 : Int32) : Prop := ∀ x1 : Int32, x1 = (l1 + (1 : Int32)) → B2 M l0 x1
set_option maxRecDepth 100000 in
set_option maxHeartbeats 4000000 in
theorem x_X6_endRuns_75 {G : Gx} {K : Rs → Mm → Prop} {B2 : Mm → Nat → Int32 → Prop} (hB2 : ∀ M l0 l1, B2 M l0 l1 → E G mi_X6_endRuns K M 0 0 2 [some (.ref l0), some (.int l1), none, none] []) {M : Mm} {l0 : Nat} {l1 : Int32} (h : V_X6_endRuns_75 K B2 M l0 l1) : E G mi_X6_endRuns K M 0 0 75 [some (.ref l0), some (.int l1), none, none] [] := by
  unfold V_X6_endRuns_75 at h
  refine e_blk 2 75 _ _ (pc' := 2) (L' := [some (.ref l0), some (.int (l1 + (1 : Int32))), none, none]) (st' := []) rfl ?_
  generalize hx_x1 : ((l1 + (1 : Int32)) : Int32) = x1
  replace h := h x1 hx_x1.symm
  refine e_drp [true, true, false, false] (L' := [some (.ref l0), some (.int x1), none, none]) rfl ?_
  exact hB2 _ _ _ h
def V_X6_endRuns_2 (K : Rs → Mm → Prop)  : Nat → Mm → Nat → Int32 → Prop
  | 0, _, _, _ => False
  | z + 1, M, l0, l1 => (((108 : Int32) ≤ l1 → K (.inl none) M) ∧ (¬ (108 : Int32) ≤ l1 → (ob M l0 6 ∧ V_X6_firstToEnd (kO (fun r3 M2 => ((r3 = none → K (.inl none) M2) ∧ (∀ b4, r3 = some b4 → (ob M2 b4 2 ∧ V_X2_firstEnd (kI (fun r7 M6 => (ob M6 l0 6 ∧ ∃ b9, mP M6 l0 4 = some b9 ∧ (ob M6 b4 2 ∧ ∃ b11, mP M6 b4 3 = some b11 ∧ (ob M6 b11 9 ∧ (vp_in (0 : Int32) (mN M6 b11) ∧ (ob M6 b9 1 ∧ V_X1_add (kV (fun M15 => (ob M15 b4 2 ∧ V_X2_removeFirstRun (kV (fun M17 => (ob M17 b4 2 ∧ (((mI M17 b4 12) = 0 → V_X6_endRuns_75 K (fun M l0 l1 => V_X6_endRuns_2 K  z M l0 l1) M17 l0 l1) ∧ (¬ (mI M17 b4 12) = 0 → ((¬ (mI M17 b4 11) = 0 → V_X6_endRuns_75 K (fun M l0 l1 => V_X6_endRuns_2 K  z M l0 l1) M17 l0 l1) ∧ ((mI M17 b4 11) = 0 → ∀ M19, M19 = sI M17 b4 12 (0 : Int32) → (ob M19 l0 6 ∧ V_X6_begin (kV (fun M21 => V_X6_endRuns_75 K (fun M l0 l1 => V_X6_endRuns_2 K  z M l0 l1) M21 l0 l1) (fun _ _ => False)) M19 l0 b4 r7 (mI M19 b4 13)))))))) (fun _ _ => False)) M15 b4)) (fun _ _ => False)) M6 b9 (1 : Int32) (mI M6 b4 0) r7 (mI M6 b11 ((0 : Int32)).toNatClampNeg))))))) (fun _ _ => False)) M2 b4)))) (fun _ _ => False)) M l0)))
set_option maxRecDepth 100000 in
set_option maxHeartbeats 4000000 in
theorem x_X6_endRuns_2 {G : Gx} {K : Rs → Mm → Prop}  : ∀ (z : Nat) (M : Mm) (l0 : Nat) (l1 : Int32), V_X6_endRuns_2 K  z M l0 l1 → E G mi_X6_endRuns K M 0 0 2 [some (.ref l0), some (.int l1), none, none] []
  | 0, M, l0, l1, h => False.elim h
  | z + 1, M, l0, l1, h => by
    unfold V_X6_endRuns_2 at h
    refine e_blk 2 2 _ _ (pc' := 5) (L' := [some (.ref l0), some (.int l1), none, none]) (st' := [.int (108 : Int32), .int l1]) rfl ?_
    refine e_icmp_ge 81 rfl rfl (fun hc => ?_) (fun hc => ?_)
    · replace h := h.1 hc
      exact e_ret rfl rfl (by decide) (by decide) h
    · replace h := h.2 hc
      refine e_blk 1 8 _ _ (pc' := 9) (L' := [some (.ref l0), some (.int l1), none, none]) (st' := [.ref l0]) rfl ?_
      obtain ⟨ho1, h⟩ := h
      refine e_callV (As := []) (rest := []) (ci := 6) rfl (x_X6_firstToEnd h) ho1 rfl rfl rfl (aw (i := 972) (by decide +kernel) rfl) wn_X6_firstToEnd wv_X6_firstToEnd wi_X6_firstToEnd wc_X6_firstToEnd (show cok mi_X6_endRuns mi_X6_firstToEnd 0 0 0 = true by decide +kernel) (Nat.le_of_ble_eq_true rfl) (fun v9 M2 hq => ?_) (fun X M9 hq => False.elim hq)
      obtain ⟨r3, rfl, h⟩ := kO_l hq
      rcases r3 with _ | b4
      · replace h := h.1 rfl
        refine e_blk 2 12 _ _ (pc' := 14) (L' := [some (.ref l0), some (.int l1), some (.null), none]) (st' := [.null]) rfl ?_
        refine e_nnN rfl ?_
        exact e_ret rfl rfl (by decide) (by decide) h
      · replace h := h.2 b4 rfl
        refine e_blk 2 12 _ _ (pc' := 14) (L' := [some (.ref l0), some (.int l1), some (.ref b4), none]) (st' := [.ref b4]) rfl ?_
        refine e_nn 18 rfl rfl ?_
        refine e_blk 1 18 _ _ (pc' := 19) (L' := [some (.ref l0), some (.int l1), some (.ref b4), none]) (st' := [.ref b4]) rfl ?_
        obtain ⟨ho5, h⟩ := h
        refine e_callV (As := []) (rest := []) (ci := 2) rfl (x_X2_firstEnd h) ho5 rfl rfl rfl (aw (i := 976) (by decide +kernel) rfl) wn_X2_firstEnd wv_X2_firstEnd wi_X2_firstEnd wc_X2_firstEnd (show cok mi_X6_endRuns mi_X2_firstEnd 0 0 0 = true by decide +kernel) (Nat.le_of_ble_eq_true rfl) (fun v9 M6 hq => ?_) (fun X M9 hq => False.elim hq)
        obtain ⟨r7, rfl, h⟩ := kI_l hq
        refine e_blk 2 22 _ _ (pc' := 24) (L' := [some (.ref l0), some (.int l1), some (.ref b4), some (.int r7)]) (st' := [.ref l0]) rfl ?_
        obtain ⟨ho8, h⟩ := h
        obtain ⟨b9, hbb9, h⟩ := h
        refine e_getR 6 4 rfl rfl (by decide) (aw (i := 337) (by decide +kernel) rfl) ho8 rfl hbb9 ?_
        refine e_blk 2 27 _ _ (pc' := 29) (L' := [some (.ref l0), some (.int l1), some (.ref b4), some (.int r7)]) (st' := [.ref b4, .int (1 : Int32), .ref b9]) rfl ?_
        obtain ⟨ho10, h⟩ := h
        refine e_getI 2 0 rfl rfl (by decide) (aw (i := 269) (by decide +kernel) rfl) ho10 rfl ?_
        refine e_blk 2 32 _ _ (pc' := 34) (L' := [some (.ref l0), some (.int l1), some (.ref b4), some (.int r7)]) (st' := [.ref b4, .int r7, .int (mI M6 b4 0), .int (1 : Int32), .ref b9]) rfl ?_
        obtain ⟨b11, hbb11, h⟩ := h
        refine e_getR 2 3 rfl rfl (by decide) (aw (i := 274) (by decide +kernel) rfl) ho10 rfl hbb11 ?_
        refine e_blk 1 37 _ _ (pc' := 38) (L' := [some (.ref l0), some (.int l1), some (.ref b4), some (.int r7)]) (st' := [.int (0 : Int32), .ref b11, .int r7, .int (mI M6 b4 0), .int (1 : Int32), .ref b9]) rfl ?_
        obtain ⟨ho12, h⟩ := h
        obtain ⟨hi13, h⟩ := h
        refine e_iald rfl ho12 hi13 ?_
        obtain ⟨ho14, h⟩ := h
        refine e_callV (As := [.int (1 : Int32), .int (mI M6 b4 0), .int r7, .int (mI M6 b11 ((0 : Int32)).toNatClampNeg)]) (rest := []) (ci := 1) rfl (x_X1_add h) ho14 rfl rfl rfl (aw (i := 980) (by decide +kernel) rfl) wn_X1_add wv_X1_add wi_X1_add wc_X1_add (show cok mi_X6_endRuns mi_X1_add 0 0 4 = true by decide +kernel) (Nat.le_of_ble_eq_true rfl) (fun v9 M15 hq => ?_) (fun X M9 hq => False.elim hq)
        obtain ⟨rfl, h⟩ := kV_l hq
        refine e_blk 1 42 _ _ (pc' := 43) (L' := [some (.ref l0), some (.int l1), some (.ref b4), some (.int r7)]) (st' := [.ref b4]) rfl ?_
        obtain ⟨ho16, h⟩ := h
        refine e_callV (As := []) (rest := []) (ci := 2) rfl (x_X2_removeFirstRun h) ho16 rfl rfl rfl (aw (i := 984) (by decide +kernel) rfl) wn_X2_removeFirstRun wv_X2_removeFirstRun wi_X2_removeFirstRun wc_X2_removeFirstRun (show cok mi_X6_endRuns mi_X2_removeFirstRun 0 0 0 = true by decide +kernel) (Nat.le_of_ble_eq_true rfl) (fun v9 M17 hq => ?_) (fun X M9 hq => False.elim hq)
        obtain ⟨rfl, h⟩ := kV_l hq
        refine e_blk 1 46 _ _ (pc' := 47) (L' := [some (.ref l0), some (.int l1), some (.ref b4), some (.int r7)]) (st' := [.ref b4]) rfl ?_
        obtain ⟨ho18, h⟩ := h
        refine e_getI 2 12 rfl rfl (by decide) (aw (i := 291) (by decide +kernel) rfl) ho18 rfl ?_
        refine e_if_eq 75 rfl rfl (fun hc => ?_) (fun hc => ?_)
        · replace h := h.1 hc
          refine e_drp [true, true, false, false] (L' := [some (.ref l0), some (.int l1), none, none]) rfl ?_
          exact x_X6_endRuns_75 (fun M l0 l1 h => x_X6_endRuns_2  z M l0 l1 h) h
        · replace h := h.2 hc
          refine e_blk 1 53 _ _ (pc' := 54) (L' := [some (.ref l0), some (.int l1), some (.ref b4), some (.int r7)]) (st' := [.ref b4]) rfl ?_
          refine e_getI 2 11 rfl rfl (by decide) (aw (i := 289) (by decide +kernel) rfl) ho18 rfl ?_
          refine e_if_ne 75 rfl rfl (fun hc => ?_) (fun hc => ?_)
          · replace h := h.1 hc
            refine e_drp [true, true, false, false] (L' := [some (.ref l0), some (.int l1), none, none]) rfl ?_
            exact x_X6_endRuns_75 (fun M l0 l1 h => x_X6_endRuns_2  z M l0 l1 h) h
          · replace h := h.2 hc
            refine e_blk 2 60 _ _ (pc' := 62) (L' := [some (.ref l0), some (.int l1), some (.ref b4), some (.int r7)]) (st' := [.int (0 : Int32), .ref b4]) rfl ?_
            refine e_putZ 2 12 rfl rfl (by decide) (aw (i := 291) (by decide +kernel) rfl) rfl ho18 rfl (by decide) ?_
            generalize hM19 : sI M17 b4 12 (0 : Int32) = M19
            replace h := h M19 hM19.symm
            replace ho18 : ob M19 b4 2 := hM19 ▸ ob_sI ho18
            refine e_blk 4 65 _ _ (pc' := 69) (L' := [some (.ref l0), some (.int l1), some (.ref b4), some (.int r7)]) (st' := [.ref b4, .int r7, .ref b4, .ref l0]) rfl ?_
            refine e_getI 2 13 rfl rfl (by decide) (aw (i := 292) (by decide +kernel) rfl) ho18 rfl ?_
            obtain ⟨ho20, h⟩ := h
            refine e_callV (As := [.ref b4, .int r7, .int (mI M19 b4 13)]) (rest := []) (ci := 6) rfl (x_X6_begin h) ho20 rfl rfl rfl (aw (i := 988) (by decide +kernel) rfl) wn_X6_begin wv_X6_begin wi_X6_begin wc_X6_begin (show cok mi_X6_endRuns mi_X6_begin 0 0 3 = true by decide +kernel) (Nat.le_of_ble_eq_true rfl) (fun v9 M21 hq => ?_) (fun X M9 hq => False.elim hq)
            obtain ⟨rfl, h⟩ := kV_l hq
            refine e_drp [true, true, false, false] (L' := [some (.ref l0), some (.int l1), none, none]) rfl ?_
            exact x_X6_endRuns_75 (fun M l0 l1 h => x_X6_endRuns_2  z M l0 l1 h) h
def V_X6_endRuns (K : Rs → Mm → Prop) (M : Mm) (a0 : Nat) : Prop := ∃ y, V_X6_endRuns_2 K  y M a0 (0 : Int32)
set_option maxRecDepth 100000 in
set_option maxHeartbeats 4000000 in
theorem x_X6_endRuns {G : Gx} {K : Rs → Mm → Prop} {M : Mm} {a0 : Nat} (h : V_X6_endRuns K M a0) : MC G mi_X6_endRuns [.ref a0] M K := by
  unfold V_X6_endRuns at h
  refine mc_of rfl (by decide +kernel) dc_X6_endRuns (Nat.le_of_ble_eq_true rfl) 3 (Nat.le_of_ble_eq_true rfl) ?_
  show E G mi_X6_endRuns K M 0 0 0 [some (.ref a0), none, none, none] []
  refine e_blk 2 0 _ _ (pc' := 2) (L' := [some (.ref a0), some (.int (0 : Int32)), none, none]) (st' := []) rfl ?_
  refine e_drp [true, true, false, false] (L' := [some (.ref a0), some (.int (0 : Int32)), none, none]) rfl ?_
  obtain ⟨y, h⟩ := h
  exact x_X6_endRuns_2  y _ _ _ h
def V_X6_becomeDue_84 (K : Rs → Mm → Prop)  (M : Mm)  : Prop := K (.inl none) M
set_option maxRecDepth 100000 in
set_option maxHeartbeats 4000000 in
theorem x_X6_becomeDue_84 {G : Gx} {K : Rs → Mm → Prop}  {M : Mm}  (h : V_X6_becomeDue_84 K  M ) : E G mi_X6_becomeDue K M 0 0 84 [none, none, none] [] := by
  unfold V_X6_becomeDue_84 at h
  exact e_ret rfl rfl (by decide) (by decide) h
def V_X6_becomeDue (K : Rs → Mm → Prop) (M : Mm) (a0 : Nat) (a1 : Nat) (a2 : Int32) : Prop := (ob M a1 2 ∧ V_X2_mayBegin (kI (fun r3 M2 => ((r3 = 0 → (ob M2 a1 2 ∧ V_X2_mayWait (kI (fun r6 M5 => ((r6 = 0 → (ob M5 a1 2 ∧ ∀ M8, M8 = sI M5 a1 15 ((mI M5 a1 15) + (1 : Int32)) → (ob M8 a0 6 ∧ ∃ b10, mP M8 a0 4 = some b10 ∧ (ob M8 b10 1 ∧ V_X1_add (kV (fun M12 => V_X6_becomeDue_84 K  M12 ) (fun _ _ => False)) M8 b10 (2 : Int32) (mI M8 a1 0) (mI M8 a0 6) a2)))) ∧ (¬ r6 = 0 → (ob M5 a1 2 ∧ ∀ M14, M14 = sI M5 a1 12 (1 : Int32) → ∀ M15, M15 = sI M14 a1 13 a2 → (ob M15 a0 6 ∧ ∃ b17, mP M15 a0 4 = some b17 ∧ (ob M15 b17 1 ∧ V_X1_add (kV (fun M19 => V_X6_becomeDue_84 K  M19 ) (fun _ _ => False)) M15 b17 (3 : Int32) (mI M15 a1 0) (mI M15 a0 6) a2)))))) (fun _ _ => False)) M2 a1)) ∧ (¬ r3 = 0 → (ob M2 a0 6 ∧ V_X6_begin (kV (fun M21 => V_X6_becomeDue_84 K  M21 ) (fun _ _ => False)) M2 a0 a1 (mI M2 a0 6) a2)))) (fun _ _ => False)) M a1)
set_option maxRecDepth 100000 in
set_option maxHeartbeats 4000000 in
theorem x_X6_becomeDue {G : Gx} {K : Rs → Mm → Prop} {M : Mm} {a0 : Nat} {a1 : Nat} {a2 : Int32} (h : V_X6_becomeDue K M a0 a1 a2) : MC G mi_X6_becomeDue [.ref a0, .ref a1, .int a2] M K := by
  unfold V_X6_becomeDue at h
  refine mc_of rfl (by decide +kernel) dc_X6_becomeDue (Nat.le_of_ble_eq_true rfl) 0 (Nat.le_of_ble_eq_true rfl) ?_
  show E G mi_X6_becomeDue K M 0 0 0 [some (.ref a0), some (.ref a1), some (.int a2)] []
  refine e_blk 1 0 _ _ (pc' := 1) (L' := [some (.ref a0), some (.ref a1), some (.int a2)]) (st' := [.ref a1]) rfl ?_
  obtain ⟨ho1, h⟩ := h
  refine e_callV (As := []) (rest := []) (ci := 2) rfl (x_X2_mayBegin h) ho1 rfl rfl rfl (aw (i := 1000) (by decide +kernel) rfl) wn_X2_mayBegin wv_X2_mayBegin wi_X2_mayBegin wc_X2_mayBegin (show cok mi_X6_becomeDue mi_X2_mayBegin 0 0 0 = true by decide +kernel) (Nat.le_of_ble_eq_true rfl) (fun v9 M2 hq => ?_) (fun X M9 hq => False.elim hq)
  obtain ⟨r3, rfl, h⟩ := kI_l hq
  refine e_if_eq 20 rfl rfl (fun hc => ?_) (fun hc => ?_)
  · replace h := h.1 hc
    refine e_blk 1 20 _ _ (pc' := 21) (L' := [some (.ref a0), some (.ref a1), some (.int a2)]) (st' := [.ref a1]) rfl ?_
    obtain ⟨ho4, h⟩ := h
    refine e_callV (As := []) (rest := []) (ci := 2) rfl (x_X2_mayWait h) ho4 rfl rfl rfl (aw (i := 1004) (by decide +kernel) rfl) wn_X2_mayWait wv_X2_mayWait wi_X2_mayWait wc_X2_mayWait (show cok mi_X6_becomeDue mi_X2_mayWait 0 0 0 = true by decide +kernel) (Nat.le_of_ble_eq_true rfl) (fun v9 M5 hq => ?_) (fun X M9 hq => False.elim hq)
    obtain ⟨r6, rfl, h⟩ := kI_l hq
    refine e_if_eq 57 rfl rfl (fun hc => ?_) (fun hc => ?_)
    · replace h := h.1 hc
      refine e_blk 2 57 _ _ (pc' := 59) (L' := [some (.ref a0), some (.ref a1), some (.int a2)]) (st' := [.ref a1, .ref a1]) rfl ?_
      obtain ⟨ho7, h⟩ := h
      refine e_getI 2 15 rfl rfl (by decide) (aw (i := 296) (by decide +kernel) rfl) ho7 rfl ?_
      refine e_blk 2 62 _ _ (pc' := 64) (L' := [some (.ref a0), some (.ref a1), some (.int a2)]) (st' := [.int ((mI M5 a1 15) + (1 : Int32)), .ref a1]) rfl ?_
      refine e_putI 2 15 rfl rfl (by decide) (aw (i := 296) (by decide +kernel) rfl) rfl ho7 rfl ?_
      generalize hM8 : sI M5 a1 15 ((mI M5 a1 15) + (1 : Int32)) = M8
      replace h := h M8 hM8.symm
      replace ho7 : ob M8 a1 2 := hM8 ▸ ob_sI ho7
      refine e_blk 1 67 _ _ (pc' := 68) (L' := [some (.ref a0), some (.ref a1), some (.int a2)]) (st' := [.ref a0]) rfl ?_
      obtain ⟨ho9, h⟩ := h
      obtain ⟨b10, hbb10, h⟩ := h
      refine e_getR 6 4 rfl rfl (by decide) (aw (i := 337) (by decide +kernel) rfl) ho9 rfl hbb10 ?_
      refine e_blk 2 71 _ _ (pc' := 73) (L' := [some (.ref a0), some (.ref a1), some (.int a2)]) (st' := [.ref a1, .int (2 : Int32), .ref b10]) rfl ?_
      refine e_getI 2 0 rfl rfl (by decide) (aw (i := 269) (by decide +kernel) rfl) ho7 rfl ?_
      refine e_blk 1 76 _ _ (pc' := 77) (L' := [some (.ref a0), some (.ref a1), some (.int a2)]) (st' := [.ref a0, .int (mI M8 a1 0), .int (2 : Int32), .ref b10]) rfl ?_
      refine e_getI 6 6 rfl rfl (by decide) (aw (i := 339) (by decide +kernel) rfl) ho9 rfl ?_
      refine e_blk 1 80 _ _ (pc' := 81) (L' := [some (.ref a0), some (.ref a1), some (.int a2)]) (st' := [.int a2, .int (mI M8 a0 6), .int (mI M8 a1 0), .int (2 : Int32), .ref b10]) rfl ?_
      obtain ⟨ho11, h⟩ := h
      refine e_callV (As := [.int (2 : Int32), .int (mI M8 a1 0), .int (mI M8 a0 6), .int a2]) (rest := []) (ci := 1) rfl (x_X1_add h) ho11 rfl rfl rfl (aw (i := 980) (by decide +kernel) rfl) wn_X1_add wv_X1_add wi_X1_add wc_X1_add (show cok mi_X6_becomeDue mi_X1_add 0 0 4 = true by decide +kernel) (Nat.le_of_ble_eq_true rfl) (fun v9 M12 hq => ?_) (fun X M9 hq => False.elim hq)
      obtain ⟨rfl, h⟩ := kV_l hq
      refine e_drp [false, false, false] (L' := [none, none, none]) rfl ?_
      exact x_X6_becomeDue_84  h
    · replace h := h.2 hc
      refine e_blk 2 27 _ _ (pc' := 29) (L' := [some (.ref a0), some (.ref a1), some (.int a2)]) (st' := [.int (1 : Int32), .ref a1]) rfl ?_
      obtain ⟨ho13, h⟩ := h
      refine e_putZ 2 12 rfl rfl (by decide) (aw (i := 291) (by decide +kernel) rfl) rfl ho13 rfl (by decide) ?_
      generalize hM14 : sI M5 a1 12 (1 : Int32) = M14
      replace h := h M14 hM14.symm
      replace ho13 : ob M14 a1 2 := hM14 ▸ ob_sI ho13
      refine e_blk 2 32 _ _ (pc' := 34) (L' := [some (.ref a0), some (.ref a1), some (.int a2)]) (st' := [.int a2, .ref a1]) rfl ?_
      refine e_putI 2 13 rfl rfl (by decide) (aw (i := 292) (by decide +kernel) rfl) rfl ho13 rfl ?_
      generalize hM15 : sI M14 a1 13 a2 = M15
      replace h := h M15 hM15.symm
      replace ho13 : ob M15 a1 2 := hM15 ▸ ob_sI ho13
      refine e_blk 1 37 _ _ (pc' := 38) (L' := [some (.ref a0), some (.ref a1), some (.int a2)]) (st' := [.ref a0]) rfl ?_
      obtain ⟨ho16, h⟩ := h
      obtain ⟨b17, hbb17, h⟩ := h
      refine e_getR 6 4 rfl rfl (by decide) (aw (i := 337) (by decide +kernel) rfl) ho16 rfl hbb17 ?_
      refine e_blk 2 41 _ _ (pc' := 43) (L' := [some (.ref a0), some (.ref a1), some (.int a2)]) (st' := [.ref a1, .int (3 : Int32), .ref b17]) rfl ?_
      refine e_getI 2 0 rfl rfl (by decide) (aw (i := 269) (by decide +kernel) rfl) ho13 rfl ?_
      refine e_blk 1 46 _ _ (pc' := 47) (L' := [some (.ref a0), some (.ref a1), some (.int a2)]) (st' := [.ref a0, .int (mI M15 a1 0), .int (3 : Int32), .ref b17]) rfl ?_
      refine e_getI 6 6 rfl rfl (by decide) (aw (i := 339) (by decide +kernel) rfl) ho16 rfl ?_
      refine e_blk 1 50 _ _ (pc' := 51) (L' := [some (.ref a0), some (.ref a1), some (.int a2)]) (st' := [.int a2, .int (mI M15 a0 6), .int (mI M15 a1 0), .int (3 : Int32), .ref b17]) rfl ?_
      obtain ⟨ho18, h⟩ := h
      refine e_callV (As := [.int (3 : Int32), .int (mI M15 a1 0), .int (mI M15 a0 6), .int a2]) (rest := []) (ci := 1) rfl (x_X1_add h) ho18 rfl rfl rfl (aw (i := 980) (by decide +kernel) rfl) wn_X1_add wv_X1_add wi_X1_add wc_X1_add (show cok mi_X6_becomeDue mi_X1_add 0 0 4 = true by decide +kernel) (Nat.le_of_ble_eq_true rfl) (fun v9 M19 hq => ?_) (fun X M9 hq => False.elim hq)
      obtain ⟨rfl, h⟩ := kV_l hq
      refine e_blk 1 54 _ _ (pc' := 84) (L' := [some (.ref a0), some (.ref a1), some (.int a2)]) (st' := []) rfl ?_
      refine e_drp [false, false, false] (L' := [none, none, none]) rfl ?_
      exact x_X6_becomeDue_84  h
  · replace h := h.2 hc
    refine e_blk 3 7 _ _ (pc' := 10) (L' := [some (.ref a0), some (.ref a1), some (.int a2)]) (st' := [.ref a0, .ref a1, .ref a0]) rfl ?_
    obtain ⟨ho20, h⟩ := h
    refine e_getI 6 6 rfl rfl (by decide) (aw (i := 339) (by decide +kernel) rfl) ho20 rfl ?_
    refine e_blk 1 13 _ _ (pc' := 14) (L' := [some (.ref a0), some (.ref a1), some (.int a2)]) (st' := [.int a2, .int (mI M2 a0 6), .ref a1, .ref a0]) rfl ?_
    refine e_callV (As := [.ref a1, .int (mI M2 a0 6), .int a2]) (rest := []) (ci := 6) rfl (x_X6_begin h) ho20 rfl rfl rfl (aw (i := 988) (by decide +kernel) rfl) wn_X6_begin wv_X6_begin wi_X6_begin wc_X6_begin (show cok mi_X6_becomeDue mi_X6_begin 0 0 3 = true by decide +kernel) (Nat.le_of_ble_eq_true rfl) (fun v9 M21 hq => ?_) (fun X M9 hq => False.elim hq)
    obtain ⟨rfl, h⟩ := kV_l hq
    refine e_blk 1 17 _ _ (pc' := 84) (L' := [some (.ref a0), some (.ref a1), some (.int a2)]) (st' := []) rfl ?_
    refine e_drp [false, false, false] (L' := [none, none, none]) rfl ?_
    exact x_X6_becomeDue_84  h
def V_X6_workUntil_144 (K : Rs → Mm → Prop)  (M : Mm)  : Prop := K (.inl none) M
set_option maxRecDepth 100000 in
set_option maxHeartbeats 4000000 in
theorem x_X6_workUntil_144 {G : Gx} {K : Rs → Mm → Prop}  {M : Mm}  (h : V_X6_workUntil_144 K  M ) : E G mi_X6_workUntil K M 0 0 144 [none, none, none, none, none] [] := by
  unfold V_X6_workUntil_144 at h
  exact e_ret rfl rfl (by decide) (by decide) h
def V_X6_workUntil_132 (K : Rs → Mm → Prop) (B79 : Mm → Nat → Int32 → Int32 → Int32 → Prop) (M : Mm) (l0 : Nat) (l1 : Int32) (l2 : Int32) (l3 : Int32) : Prop := ∀ x1 : Int32, x1 = (l3 + (1 : Int32)) → B79 M l0 l1 l2 x1
set_option maxRecDepth 100000 in
set_option maxHeartbeats 4000000 in
theorem x_X6_workUntil_132 {G : Gx} {K : Rs → Mm → Prop} {B79 : Mm → Nat → Int32 → Int32 → Int32 → Prop} (hB79 : ∀ M l0 l1 l2 l3, B79 M l0 l1 l2 l3 → E G mi_X6_workUntil K M 0 0 79 [some (.ref l0), some (.int l1), some (.int l2), some (.int l3), none] []) {M : Mm} {l0 : Nat} {l1 : Int32} {l2 : Int32} {l3 : Int32} (h : V_X6_workUntil_132 K B79 M l0 l1 l2 l3) : E G mi_X6_workUntil K M 0 0 132 [some (.ref l0), some (.int l1), some (.int l2), some (.int l3), none] [] := by
  unfold V_X6_workUntil_132 at h
  refine e_blk 2 132 _ _ (pc' := 79) (L' := [some (.ref l0), some (.int l1), some (.int l2), some (.int (l3 + (1 : Int32))), none]) (st' := []) rfl ?_
  generalize hx_x1 : ((l3 + (1 : Int32)) : Int32) = x1
  replace h := h x1 hx_x1.symm
  refine e_drp [true, true, true, true, false] (L' := [some (.ref l0), some (.int l1), some (.int l2), some (.int x1), none]) rfl ?_
  exact hB79 _ _ _ _ _ h
def V_X6_workUntil_79 (K : Rs → Mm → Prop) (B49 : Mm → Nat → Int32 → Int32 → Prop) : Nat → Mm → Nat → Int32 → Int32 → Int32 → Prop
  | 0, _, _, _, _, _ => False
  | z + 1, M, l0, l1, l2, l3 => (((12 : Int32) ≤ l3 → ∀ x1 : Int32, x1 = (l2 + (1 : Int32)) → B49 M l0 l1 x1) ∧ (¬ (12 : Int32) ≤ l3 → (ob M l0 6 ∧ ∃ b3, mP M l0 2 = some b3 ∧ (ob M b3 12 ∧ (vp_in l3 (mN M b3) ∧ ∃ b6, mP M b3 (l3).toNatClampNeg = some b6 ∧ (ob M b6 2 ∧ ((¬ (mI M b6 16) = (mI M l0 6) → V_X6_workUntil_132 K (fun M l0 l1 l2 l3 => V_X6_workUntil_79 K B49 z M l0 l1 l2 l3) M l0 l1 l2 l3) ∧ ((mI M b6 16) = (mI M l0 6) → V_X6_becomeDue (kV (fun M8 => (ob M8 l0 6 ∧ (ob M8 b6 2 ∧ V_X2_leastMatch (kI (fun r12 M11 => (ob M11 b6 2 ∧ ∀ M14, M14 = sI M11 b6 16 r12 → V_X6_workUntil_132 K (fun M l0 l1 l2 l3 => V_X6_workUntil_79 K B49 z M l0 l1 l2 l3) M14 l0 l1 l2 l3)) (fun _ _ => False)) M8 b6 ((mI M8 l0 6) + (1 : Int32)) l1))) (fun _ _ => False)) M l0 b6 (mI M l0 6)))))))))
set_option maxRecDepth 100000 in
set_option maxHeartbeats 4000000 in
theorem x_X6_workUntil_79 {G : Gx} {K : Rs → Mm → Prop} {B49 : Mm → Nat → Int32 → Int32 → Prop} (hB49 : ∀ M l0 l1 l2, B49 M l0 l1 l2 → E G mi_X6_workUntil K M 0 0 49 [some (.ref l0), some (.int l1), some (.int l2), none, none] []) : ∀ (z : Nat) (M : Mm) (l0 : Nat) (l1 : Int32) (l2 : Int32) (l3 : Int32), V_X6_workUntil_79 K B49 z M l0 l1 l2 l3 → E G mi_X6_workUntil K M 0 0 79 [some (.ref l0), some (.int l1), some (.int l2), some (.int l3), none] []
  | 0, M, l0, l1, l2, l3, h => False.elim h
  | z + 1, M, l0, l1, l2, l3, h => by
    unfold V_X6_workUntil_79 at h
    refine e_blk 2 79 _ _ (pc' := 82) (L' := [some (.ref l0), some (.int l1), some (.int l2), some (.int l3), none]) (st' := [.int (12 : Int32), .int l3]) rfl ?_
    refine e_icmp_ge 138 rfl rfl (fun hc => ?_) (fun hc => ?_)
    · replace h := h.1 hc
      refine e_blk 2 138 _ _ (pc' := 49) (L' := [some (.ref l0), some (.int l1), some (.int (l2 + (1 : Int32))), some (.int l3), none]) (st' := []) rfl ?_
      generalize hx_x1 : ((l2 + (1 : Int32)) : Int32) = x1
      replace h := h x1 hx_x1.symm
      refine e_drp [true, true, true, false, false] (L' := [some (.ref l0), some (.int l1), some (.int x1), none, none]) rfl ?_
      exact hB49 _ _ _ _ h
    · replace h := h.2 hc
      refine e_blk 1 85 _ _ (pc' := 86) (L' := [some (.ref l0), some (.int l1), some (.int l2), some (.int l3), none]) (st' := [.ref l0]) rfl ?_
      obtain ⟨ho2, h⟩ := h
      obtain ⟨b3, hbb3, h⟩ := h
      refine e_getR 6 2 rfl rfl (by decide) (aw (i := 335) (by decide +kernel) rfl) ho2 rfl hbb3 ?_
      refine e_blk 1 89 _ _ (pc' := 90) (L' := [some (.ref l0), some (.int l1), some (.int l2), some (.int l3), none]) (st' := [.int l3, .ref b3]) rfl ?_
      obtain ⟨ho4, h⟩ := h
      obtain ⟨hi5, h⟩ := h
      obtain ⟨b6, hbb6, h⟩ := h
      refine e_aaldOR rfl ho4 hi5 hbb6 ?_
      refine e_blk 2 91 _ _ (pc' := 95) (L' := [some (.ref l0), some (.int l1), some (.int l2), some (.int l3), some (.ref b6)]) (st' := [.ref b6]) rfl ?_
      obtain ⟨ho7, h⟩ := h
      refine e_getI 2 16 rfl rfl (by decide) (aw (i := 297) (by decide +kernel) rfl) ho7 rfl ?_
      refine e_blk 1 98 _ _ (pc' := 99) (L' := [some (.ref l0), some (.int l1), some (.int l2), some (.int l3), some (.ref b6)]) (st' := [.ref l0, .int (mI M b6 16)]) rfl ?_
      refine e_getI 6 6 rfl rfl (by decide) (aw (i := 339) (by decide +kernel) rfl) ho2 rfl ?_
      refine e_icmp_ne 132 rfl rfl (fun hc => ?_) (fun hc => ?_)
      · replace h := h.1 hc
        refine e_drp [true, true, true, true, false] (L' := [some (.ref l0), some (.int l1), some (.int l2), some (.int l3), none]) rfl ?_
        exact x_X6_workUntil_132 (fun M l0 l1 l2 l3 h => x_X6_workUntil_79 hB49 z M l0 l1 l2 l3 h) h
      · replace h := h.2 hc
        refine e_blk 3 105 _ _ (pc' := 109) (L' := [some (.ref l0), some (.int l1), some (.int l2), some (.int l3), some (.ref b6)]) (st' := [.ref l0, .ref b6, .ref l0]) rfl ?_
        refine e_getI 6 6 rfl rfl (by decide) (aw (i := 339) (by decide +kernel) rfl) ho2 rfl ?_
        refine e_callV (As := [.ref b6, .int (mI M l0 6)]) (rest := []) (ci := 6) rfl (x_X6_becomeDue h) ho2 rfl rfl rfl (aw (i := 996) (by decide +kernel) rfl) wn_X6_becomeDue wv_X6_becomeDue wi_X6_becomeDue wc_X6_becomeDue (show cok mi_X6_workUntil mi_X6_becomeDue 0 0 2 = true by decide +kernel) (Nat.le_of_ble_eq_true rfl) (fun v9 M8 hq => ?_) (fun X M9 hq => False.elim hq)
        obtain ⟨rfl, h⟩ := kV_l hq
        refine e_blk 3 115 _ _ (pc' := 120) (L' := [some (.ref l0), some (.int l1), some (.int l2), some (.int l3), some (.ref b6)]) (st' := [.ref l0, .ref b6, .ref b6]) rfl ?_
        obtain ⟨ho9, h⟩ := h
        refine e_getI 6 6 rfl rfl (by decide) (aw (i := 339) (by decide +kernel) rfl) ho9 rfl ?_
        refine e_blk 3 123 _ _ (pc' := 126) (L' := [some (.ref l0), some (.int l1), some (.int l2), some (.int l3), some (.ref b6)]) (st' := [.int l1, .int ((mI M8 l0 6) + (1 : Int32)), .ref b6, .ref b6]) rfl ?_
        obtain ⟨ho10, h⟩ := h
        refine e_callV (As := [.int ((mI M8 l0 6) + (1 : Int32)), .int l1]) (rest := [.ref b6]) (ci := 2) rfl (x_X2_leastMatch h) ho10 rfl rfl rfl (aw (i := 821) (by decide +kernel) rfl) wn_X2_leastMatch wv_X2_leastMatch wi_X2_leastMatch wc_X2_leastMatch (show cok mi_X6_workUntil mi_X2_leastMatch 0 0 2 = true by decide +kernel) (Nat.le_of_ble_eq_true rfl) (fun v9 M11 hq => ?_) (fun X M9 hq => False.elim hq)
        obtain ⟨r12, rfl, h⟩ := kI_l hq
        obtain ⟨ho13, h⟩ := h
        refine e_putI 2 16 rfl rfl (by decide) (aw (i := 297) (by decide +kernel) rfl) rfl ho13 rfl ?_
        generalize hM14 : sI M11 b6 16 r12 = M14
        replace h := h M14 hM14.symm
        replace ho13 : ob M14 b6 2 := hM14 ▸ ob_sI ho13
        refine e_drp [true, true, true, true, false] (L' := [some (.ref l0), some (.int l1), some (.int l2), some (.int l3), none]) rfl ?_
        exact x_X6_workUntil_132 (fun M l0 l1 l2 l3 h => x_X6_workUntil_79 hB49 z M l0 l1 l2 l3 h) h
def V_X6_workUntil_49 (K : Rs → Mm → Prop)  : Nat → Mm → Nat → Int32 → Int32 → Prop
  | 0, _, _, _, _ => False
  | z + 1, M, l0, l1, l2 => (((3000 : Int32) ≤ l2 → V_X6_workUntil_144 K  M ) ∧ (¬ (3000 : Int32) ≤ l2 → (ob M l0 6 ∧ ((l1 ≤ (mI M l0 6) → V_X6_workUntil_144 K  M ) ∧ (¬ l1 ≤ (mI M l0 6) → V_X6_leastDue (kI (fun r3 M2 => (ob M2 l0 6 ∧ ∀ M5, M5 = sI M2 l0 6 r3 → V_X6_endRuns (kV (fun M6 => ∃ y, V_X6_workUntil_79 K (fun M l0 l1 l2 => V_X6_workUntil_49 K  z M l0 l1 l2) y M6 l0 l1 l2 (0 : Int32)) (fun _ _ => False)) M5 l0)) (fun _ _ => False)) M l0 l1)))))
set_option maxRecDepth 100000 in
set_option maxHeartbeats 4000000 in
theorem x_X6_workUntil_49 {G : Gx} {K : Rs → Mm → Prop}  : ∀ (z : Nat) (M : Mm) (l0 : Nat) (l1 : Int32) (l2 : Int32), V_X6_workUntil_49 K  z M l0 l1 l2 → E G mi_X6_workUntil K M 0 0 49 [some (.ref l0), some (.int l1), some (.int l2), none, none] []
  | 0, M, l0, l1, l2, h => False.elim h
  | z + 1, M, l0, l1, l2, h => by
    unfold V_X6_workUntil_49 at h
    refine e_blk 2 49 _ _ (pc' := 53) (L' := [some (.ref l0), some (.int l1), some (.int l2), none, none]) (st' := [.int (3000 : Int32), .int l2]) rfl ?_
    refine e_icmp_ge 144 rfl rfl (fun hc => ?_) (fun hc => ?_)
    · replace h := h.1 hc
      refine e_drp [false, false, false, false, false] (L' := [none, none, none, none, none]) rfl ?_
      exact x_X6_workUntil_144  h
    · replace h := h.2 hc
      refine e_blk 1 56 _ _ (pc' := 57) (L' := [some (.ref l0), some (.int l1), some (.int l2), none, none]) (st' := [.ref l0]) rfl ?_
      obtain ⟨ho1, h⟩ := h
      refine e_getI 6 6 rfl rfl (by decide) (aw (i := 339) (by decide +kernel) rfl) ho1 rfl ?_
      refine e_blk 1 60 _ _ (pc' := 61) (L' := [some (.ref l0), some (.int l1), some (.int l2), none, none]) (st' := [.int l1, .int (mI M l0 6)]) rfl ?_
      refine e_icmp_ge 144 rfl rfl (fun hc => ?_) (fun hc => ?_)
      · replace h := h.1 hc
        refine e_drp [false, false, false, false, false] (L' := [none, none, none, none, none]) rfl ?_
        exact x_X6_workUntil_144  h
      · replace h := h.2 hc
        refine e_blk 3 64 _ _ (pc' := 67) (L' := [some (.ref l0), some (.int l1), some (.int l2), none, none]) (st' := [.int l1, .ref l0, .ref l0]) rfl ?_
        refine e_callV (As := [.int l1]) (rest := [.ref l0]) (ci := 6) rfl (x_X6_leastDue h) ho1 rfl rfl rfl (aw (i := 964) (by decide +kernel) rfl) wn_X6_leastDue wv_X6_leastDue wi_X6_leastDue wc_X6_leastDue (show cok mi_X6_workUntil mi_X6_leastDue 0 0 1 = true by decide +kernel) (Nat.le_of_ble_eq_true rfl) (fun v9 M2 hq => ?_) (fun X M9 hq => False.elim hq)
        obtain ⟨r3, rfl, h⟩ := kI_l hq
        obtain ⟨ho4, h⟩ := h
        refine e_putI 6 6 rfl rfl (by decide) (aw (i := 339) (by decide +kernel) rfl) rfl ho4 rfl ?_
        generalize hM5 : sI M2 l0 6 r3 = M5
        replace h := h M5 hM5.symm
        replace ho4 : ob M5 l0 6 := hM5 ▸ ob_sI ho4
        refine e_blk 1 73 _ _ (pc' := 74) (L' := [some (.ref l0), some (.int l1), some (.int l2), none, none]) (st' := [.ref l0]) rfl ?_
        refine e_callV (As := []) (rest := []) (ci := 6) rfl (x_X6_endRuns h) ho4 rfl rfl rfl (aw (i := 968) (by decide +kernel) rfl) wn_X6_endRuns wv_X6_endRuns wi_X6_endRuns wc_X6_endRuns (show cok mi_X6_workUntil mi_X6_endRuns 0 0 0 = true by decide +kernel) (Nat.le_of_ble_eq_true rfl) (fun v9 M6 hq => ?_) (fun X M9 hq => False.elim hq)
        obtain ⟨rfl, h⟩ := kV_l hq
        refine e_blk 2 77 _ _ (pc' := 79) (L' := [some (.ref l0), some (.int l1), some (.int l2), some (.int (0 : Int32)), none]) (st' := []) rfl ?_
        refine e_drp [true, true, true, true, false] (L' := [some (.ref l0), some (.int l1), some (.int l2), some (.int (0 : Int32)), none]) rfl ?_
        obtain ⟨y, h⟩ := h
        exact x_X6_workUntil_79 (fun M l0 l1 l2 h => x_X6_workUntil_49  z M l0 l1 l2 h) y _ _ _ _ _ h
def V_X6_workUntil_38 (K : Rs → Mm → Prop) (B2 : Mm → Nat → Int32 → Int32 → Prop) (M : Mm) (l0 : Nat) (l1 : Int32) (l2 : Int32) (s0 : Nat) (s1 : Int32) : Prop := (ob M s0 2 ∧ ∀ M2, M2 = sI M s0 16 s1 → ∀ x3 : Int32, x3 = (l2 + (1 : Int32)) → B2 M2 l0 l1 x3)
set_option maxRecDepth 100000 in
set_option maxHeartbeats 4000000 in
theorem x_X6_workUntil_38 {G : Gx} {K : Rs → Mm → Prop} {B2 : Mm → Nat → Int32 → Int32 → Prop} (hB2 : ∀ M l0 l1 l2, B2 M l0 l1 l2 → E G mi_X6_workUntil K M 0 0 2 [some (.ref l0), some (.int l1), some (.int l2), none, none] []) {M : Mm} {l0 : Nat} {l1 : Int32} {l2 : Int32} {s0 : Nat} {s1 : Int32} (h : V_X6_workUntil_38 K B2 M l0 l1 l2 s0 s1) : E G mi_X6_workUntil K M 0 0 38 [some (.ref l0), some (.int l1), some (.int l2), none, none] [.int s1, .ref s0] := by
  unfold V_X6_workUntil_38 at h
  obtain ⟨ho1, h⟩ := h
  refine e_putI 2 16 rfl rfl (by decide) (aw (i := 297) (by decide +kernel) rfl) rfl ho1 rfl ?_
  generalize hM2 : sI M s0 16 s1 = M2
  replace h := h M2 hM2.symm
  replace ho1 : ob M2 s0 2 := hM2 ▸ ob_sI ho1
  refine e_blk 2 41 _ _ (pc' := 2) (L' := [some (.ref l0), some (.int l1), some (.int (l2 + (1 : Int32))), none, none]) (st' := []) rfl ?_
  generalize hx_x3 : ((l2 + (1 : Int32)) : Int32) = x3
  replace h := h x3 hx_x3.symm
  refine e_drp [true, true, true, false, false] (L' := [some (.ref l0), some (.int l1), some (.int x3), none, none]) rfl ?_
  exact hB2 _ _ _ _ h
def V_X6_workUntil_2 (K : Rs → Mm → Prop)  : Nat → Mm → Nat → Int32 → Int32 → Prop
  | 0, _, _, _, _ => False
  | z + 1, M, l0, l1, l2 => (((12 : Int32) ≤ l2 → ∃ y, V_X6_workUntil_49 K  y M l0 l1 (0 : Int32)) ∧ (¬ (12 : Int32) ≤ l2 → (ob M l0 6 ∧ ∃ b2, mP M l0 2 = some b2 ∧ (ob M b2 12 ∧ (vp_in l2 (mN M b2) ∧ ∃ b5, mP M b2 (l2).toNatClampNeg = some b5 ∧ (ob M b5 2 ∧ (((mI M b5 4) = 0 → V_X6_workUntil_38 K (fun M l0 l1 l2 => V_X6_workUntil_2 K  z M l0 l1 l2) M l0 l1 l2 b5 (-1 : Int32)) ∧ (¬ (mI M b5 4) = 0 → V_X2_leastMatch (kI (fun r8 M7 => V_X6_workUntil_38 K (fun M l0 l1 l2 => V_X6_workUntil_2 K  z M l0 l1 l2) M7 l0 l1 l2 b5 r8) (fun _ _ => False)) M b5 ((mI M l0 6) + (1 : Int32)) l1))))))))
set_option maxRecDepth 100000 in
set_option maxHeartbeats 4000000 in
theorem x_X6_workUntil_2 {G : Gx} {K : Rs → Mm → Prop}  : ∀ (z : Nat) (M : Mm) (l0 : Nat) (l1 : Int32) (l2 : Int32), V_X6_workUntil_2 K  z M l0 l1 l2 → E G mi_X6_workUntil K M 0 0 2 [some (.ref l0), some (.int l1), some (.int l2), none, none] []
  | 0, M, l0, l1, l2, h => False.elim h
  | z + 1, M, l0, l1, l2, h => by
    unfold V_X6_workUntil_2 at h
    refine e_blk 2 2 _ _ (pc' := 5) (L' := [some (.ref l0), some (.int l1), some (.int l2), none, none]) (st' := [.int (12 : Int32), .int l2]) rfl ?_
    refine e_icmp_ge 47 rfl rfl (fun hc => ?_) (fun hc => ?_)
    · replace h := h.1 hc
      refine e_blk 2 47 _ _ (pc' := 49) (L' := [some (.ref l0), some (.int l1), some (.int (0 : Int32)), none, none]) (st' := []) rfl ?_
      refine e_drp [true, true, true, false, false] (L' := [some (.ref l0), some (.int l1), some (.int (0 : Int32)), none, none]) rfl ?_
      obtain ⟨y, h⟩ := h
      exact x_X6_workUntil_49  y _ _ _ _ h
    · replace h := h.2 hc
      refine e_blk 1 8 _ _ (pc' := 9) (L' := [some (.ref l0), some (.int l1), some (.int l2), none, none]) (st' := [.ref l0]) rfl ?_
      obtain ⟨ho1, h⟩ := h
      obtain ⟨b2, hbb2, h⟩ := h
      refine e_getR 6 2 rfl rfl (by decide) (aw (i := 335) (by decide +kernel) rfl) ho1 rfl hbb2 ?_
      refine e_blk 1 12 _ _ (pc' := 13) (L' := [some (.ref l0), some (.int l1), some (.int l2), none, none]) (st' := [.int l2, .ref b2]) rfl ?_
      obtain ⟨ho3, h⟩ := h
      obtain ⟨hi4, h⟩ := h
      obtain ⟨b5, hbb5, h⟩ := h
      refine e_aaldOR rfl ho3 hi4 hbb5 ?_
      refine e_blk 3 14 _ _ (pc' := 17) (L' := [some (.ref l0), some (.int l1), some (.int l2), some (.ref b5), none]) (st' := [.ref b5, .ref b5]) rfl ?_
      obtain ⟨ho6, h⟩ := h
      refine e_getI 2 4 rfl rfl (by decide) (aw (i := 276) (by decide +kernel) rfl) ho6 rfl ?_
      refine e_if_eq 37 rfl rfl (fun hc => ?_) (fun hc => ?_)
      · replace h := h.1 hc
        refine e_blk 1 37 _ _ (pc' := 38) (L' := [some (.ref l0), some (.int l1), some (.int l2), some (.ref b5), none]) (st' := [.int (-1 : Int32), .ref b5]) rfl ?_
        refine e_drp [true, true, true, false, false] (L' := [some (.ref l0), some (.int l1), some (.int l2), none, none]) rfl ?_
        exact x_X6_workUntil_38 (fun M l0 l1 l2 h => x_X6_workUntil_2  z M l0 l1 l2 h) h
      · replace h := h.2 hc
        refine e_blk 2 23 _ _ (pc' := 25) (L' := [some (.ref l0), some (.int l1), some (.int l2), some (.ref b5), none]) (st' := [.ref l0, .ref b5, .ref b5]) rfl ?_
        refine e_getI 6 6 rfl rfl (by decide) (aw (i := 339) (by decide +kernel) rfl) ho1 rfl ?_
        refine e_blk 3 28 _ _ (pc' := 31) (L' := [some (.ref l0), some (.int l1), some (.int l2), some (.ref b5), none]) (st' := [.int l1, .int ((mI M l0 6) + (1 : Int32)), .ref b5, .ref b5]) rfl ?_
        refine e_callV (As := [.int ((mI M l0 6) + (1 : Int32)), .int l1]) (rest := [.ref b5]) (ci := 2) rfl (x_X2_leastMatch h) ho6 rfl rfl rfl (aw (i := 821) (by decide +kernel) rfl) wn_X2_leastMatch wv_X2_leastMatch wi_X2_leastMatch wc_X2_leastMatch (show cok mi_X6_workUntil mi_X2_leastMatch 0 0 2 = true by decide +kernel) (Nat.le_of_ble_eq_true rfl) (fun v9 M7 hq => ?_) (fun X M9 hq => False.elim hq)
        obtain ⟨r8, rfl, h⟩ := kI_l hq
        refine e_blk 1 34 _ _ (pc' := 38) (L' := [some (.ref l0), some (.int l1), some (.int l2), some (.ref b5), none]) (st' := [.int r8, .ref b5]) rfl ?_
        refine e_drp [true, true, true, false, false] (L' := [some (.ref l0), some (.int l1), some (.int l2), none, none]) rfl ?_
        exact x_X6_workUntil_38 (fun M l0 l1 l2 h => x_X6_workUntil_2  z M l0 l1 l2 h) h
def V_X6_workUntil (K : Rs → Mm → Prop) (M : Mm) (a0 : Nat) (a1 : Int32) : Prop := ∃ y, V_X6_workUntil_2 K  y M a0 a1 (0 : Int32)
set_option maxRecDepth 100000 in
set_option maxHeartbeats 4000000 in
theorem x_X6_workUntil {G : Gx} {K : Rs → Mm → Prop} {M : Mm} {a0 : Nat} {a1 : Int32} (h : V_X6_workUntil K M a0 a1) : MC G mi_X6_workUntil [.ref a0, .int a1] M K := by
  unfold V_X6_workUntil at h
  refine mc_of rfl (by decide +kernel) dc_X6_workUntil (Nat.le_of_ble_eq_true rfl) 3 (Nat.le_of_ble_eq_true rfl) ?_
  show E G mi_X6_workUntil K M 0 0 0 [some (.ref a0), some (.int a1), none, none, none] []
  refine e_blk 2 0 _ _ (pc' := 2) (L' := [some (.ref a0), some (.int a1), some (.int (0 : Int32)), none, none]) (st' := []) rfl ?_
  refine e_drp [true, true, true, false, false] (L' := [some (.ref a0), some (.int a1), some (.int (0 : Int32)), none, none]) rfl ?_
  obtain ⟨y, h⟩ := h
  exact x_X6_workUntil_2  y _ _ _ _ h
def V_X6_pass_67 (K : Rs → Mm → Prop)  (M : Mm) (l0 : Nat) (l3 : Int32) : Prop := (ob M l0 6 ∧ ∀ M2, M2 = sI M l0 6 l3 → K (.inl (some (.int (mI M2 l0 6)))) M2)
set_option maxRecDepth 100000 in
set_option maxHeartbeats 4000000 in
theorem x_X6_pass_67 {G : Gx} {K : Rs → Mm → Prop}  {M : Mm} {l0 : Nat} {l3 : Int32} (h : V_X6_pass_67 K  M l0 l3) : E G mi_X6_pass K M 0 0 67 [some (.ref l0), none, none, some (.int l3)] [] := by
  unfold V_X6_pass_67 at h
  refine e_blk 2 67 _ _ (pc' := 69) (L' := [some (.ref l0), none, none, some (.int l3)]) (st' := [.int l3, .ref l0]) rfl ?_
  obtain ⟨ho1, h⟩ := h
  refine e_putI 6 6 rfl rfl (by decide) (aw (i := 339) (by decide +kernel) rfl) rfl ho1 rfl ?_
  generalize hM2 : sI M l0 6 l3 = M2
  replace h := h M2 hM2.symm
  replace ho1 : ob M2 l0 6 := hM2 ▸ ob_sI ho1
  refine e_blk 1 72 _ _ (pc' := 73) (L' := [some (.ref l0), none, none, some (.int l3)]) (st' := [.ref l0]) rfl ?_
  refine e_getI 6 6 rfl rfl (by decide) (aw (i := 339) (by decide +kernel) rfl) ho1 rfl ?_
  exact e_reti rfl rfl (by decide) (by decide) h
def V_X6_pass_37 (K : Rs → Mm → Prop)  (M : Mm)  : Prop := K (.inr "java/lang/IllegalArgumentException") M
set_option maxRecDepth 100000 in
set_option maxHeartbeats 4000000 in
theorem x_X6_pass_37 {G : Gx} {K : Rs → Mm → Prop}  {M : Mm}  (h : V_X6_pass_37 K  M ) : E G mi_X6_pass K M 0 0 37 [none, none, none, none] [] := by
  unfold V_X6_pass_37 at h
  exact e_thrW (j := 26) "java/lang/IllegalArgumentException" "not so many minutes" rfl rfl rfl rfl rfl (by decide +kernel) rfl (aw (i := 453) (by decide +kernel) rfl) (aw (i := 69) (by decide +kernel) rfl) (by decide) at_IllegalArgumentException gd_IllegalArgumentException (by decide) (Nat.le_of_ble_eq_true rfl) (by decide) (by decide) h
def V_X6_pass_16 (K : Rs → Mm → Prop)  (M : Mm) (l0 : Nat) (l1 : Int32) (s0 : Int32) : Prop := ((l1 < 0 → V_X6_pass_37 K  M ) ∧ (¬ l1 < 0 → ((s0 < l1 → V_X6_pass_37 K  M ) ∧ (¬ s0 < l1 → (ob M l0 6 ∧ ((l1 ≤ ((157785119 : Int32) - (mI M l0 6)) → ∀ x2 : Int32, x2 = ((mI M l0 6) + l1) → (((mI M l0 8) = 0 → V_X6_pass_67 K  M l0 x2) ∧ (¬ (mI M l0 8) = 0 → V_X6_workUntil (kV (fun M3 => V_X6_pass_67 K  M3 l0 x2) (fun _ _ => False)) M l0 x2))) ∧ (¬ l1 ≤ ((157785119 : Int32) - (mI M l0 6)) → V_X6_pass_37 K  M )))))))
set_option maxRecDepth 100000 in
set_option maxHeartbeats 4000000 in
theorem x_X6_pass_16 {G : Gx} {K : Rs → Mm → Prop}  {M : Mm} {l0 : Nat} {l1 : Int32} {s0 : Int32} (h : V_X6_pass_16 K  M l0 l1 s0) : E G mi_X6_pass K M 0 0 16 [some (.ref l0), some (.int l1), none, none] [.int s0] := by
  unfold V_X6_pass_16 at h
  refine e_blk 2 16 _ _ (pc' := 18) (L' := [some (.ref l0), some (.int l1), some (.int s0), none]) (st' := [.int l1]) rfl ?_
  refine e_if_lt 37 rfl rfl (fun hc => ?_) (fun hc => ?_)
  · replace h := h.1 hc
    refine e_drp [false, false, false, false] (L' := [none, none, none, none]) rfl ?_
    exact x_X6_pass_37  h
  · replace h := h.2 hc
    refine e_blk 2 21 _ _ (pc' := 23) (L' := [some (.ref l0), some (.int l1), some (.int s0), none]) (st' := [.int s0, .int l1]) rfl ?_
    refine e_icmp_gt 37 rfl rfl (fun hc => ?_) (fun hc => ?_)
    · replace h := h.1 hc
      refine e_drp [false, false, false, false] (L' := [none, none, none, none]) rfl ?_
      exact x_X6_pass_37  h
    · replace h := h.2 hc
      refine e_blk 1 26 _ _ (pc' := 27) (L' := [some (.ref l0), some (.int l1), some (.int s0), none]) (st' := [.int l1]) rfl ?_
      refine e_ldc (157785119) rfl (aw (i := 484) (by decide +kernel) rfl) ?_
      refine e_blk 1 29 _ _ (pc' := 30) (L' := [some (.ref l0), some (.int l1), some (.int s0), none]) (st' := [.ref l0, .int (157785119 : Int32), .int l1]) rfl ?_
      obtain ⟨ho1, h⟩ := h
      refine e_getI 6 6 rfl rfl (by decide) (aw (i := 339) (by decide +kernel) rfl) ho1 rfl ?_
      refine e_blk 1 33 _ _ (pc' := 34) (L' := [some (.ref l0), some (.int l1), some (.int s0), none]) (st' := [.int ((157785119 : Int32) - (mI M l0 6)), .int l1]) rfl ?_
      refine e_icmp_le 48 rfl rfl (fun hc => ?_) (fun hc => ?_)
      · replace h := h.1 hc
        refine e_blk 1 48 _ _ (pc' := 49) (L' := [some (.ref l0), some (.int l1), some (.int s0), none]) (st' := [.ref l0]) rfl ?_
        refine e_getI 6 6 rfl rfl (by decide) (aw (i := 339) (by decide +kernel) rfl) ho1 rfl ?_
        refine e_blk 4 52 _ _ (pc' := 56) (L' := [some (.ref l0), some (.int l1), some (.int s0), some (.int ((mI M l0 6) + l1))]) (st' := [.ref l0]) rfl ?_
        generalize hx_x2 : (((mI M l0 6) + l1) : Int32) = x2
        replace h := h x2 hx_x2.symm
        refine e_getI 6 8 rfl rfl (by decide) (aw (i := 341) (by decide +kernel) rfl) ho1 rfl ?_
        refine e_if_eq 67 rfl rfl (fun hc => ?_) (fun hc => ?_)
        · replace h := h.1 hc
          refine e_drp [true, false, false, true] (L' := [some (.ref l0), none, none, some (.int x2)]) rfl ?_
          exact x_X6_pass_67  h
        · replace h := h.2 hc
          refine e_blk 2 62 _ _ (pc' := 64) (L' := [some (.ref l0), some (.int l1), some (.int s0), some (.int x2)]) (st' := [.int x2, .ref l0]) rfl ?_
          refine e_callV (As := [.int x2]) (rest := []) (ci := 6) rfl (x_X6_workUntil h) ho1 rfl rfl rfl (aw (i := 960) (by decide +kernel) rfl) wn_X6_workUntil wv_X6_workUntil wi_X6_workUntil wc_X6_workUntil (show cok mi_X6_pass mi_X6_workUntil 0 0 1 = true by decide +kernel) (Nat.le_of_ble_eq_true rfl) (fun v9 M3 hq => ?_) (fun X M9 hq => False.elim hq)
          obtain ⟨rfl, h⟩ := kV_l hq
          refine e_drp [true, false, false, true] (L' := [some (.ref l0), none, none, some (.int x2)]) rfl ?_
          exact x_X6_pass_67  h
      · replace h := h.2 hc
        refine e_drp [false, false, false, false] (L' := [none, none, none, none]) rfl ?_
        exact x_X6_pass_37  h
def V_X6_pass (K : Rs → Mm → Prop) (M : Mm) (a0 : Nat) (a1 : Int32) : Prop := (ob M a0 6 ∧ (((mI M a0 8) = 0 → V_X6_pass_16 K  M a0 a1 (3000000 : Int32)) ∧ (¬ (mI M a0 8) = 0 → V_X6_pass_16 K  M a0 a1 (3000 : Int32))))
set_option maxRecDepth 100000 in
set_option maxHeartbeats 4000000 in
theorem x_X6_pass {G : Gx} {K : Rs → Mm → Prop} {M : Mm} {a0 : Nat} {a1 : Int32} (h : V_X6_pass K M a0 a1) : MC G mi_X6_pass [.ref a0, .int a1] M K := by
  unfold V_X6_pass at h
  refine mc_of rfl (by decide +kernel) dc_X6_pass (Nat.le_of_ble_eq_true rfl) 2 (Nat.le_of_ble_eq_true rfl) ?_
  show E G mi_X6_pass K M 0 0 0 [some (.ref a0), some (.int a1), none, none] []
  refine e_blk 1 0 _ _ (pc' := 1) (L' := [some (.ref a0), some (.int a1), none, none]) (st' := [.ref a0]) rfl ?_
  obtain ⟨ho1, h⟩ := h
  refine e_getI 6 8 rfl rfl (by decide) (aw (i := 341) (by decide +kernel) rfl) ho1 rfl ?_
  refine e_if_eq 13 rfl rfl (fun hc => ?_) (fun hc => ?_)
  · replace h := h.1 hc
    refine e_ldcw (3000000) rfl (aw (i := 958) (by decide +kernel) rfl) ?_
    refine e_drp [true, true, false, false] (L' := [some (.ref a0), some (.int a1), none, none]) rfl ?_
    exact x_X6_pass_16  h
  · replace h := h.2 hc
    refine e_blk 2 7 _ _ (pc' := 16) (L' := [some (.ref a0), some (.int a1), none, none]) (st' := [.int (3000 : Int32)]) rfl ?_
    refine e_drp [true, true, false, false] (L' := [some (.ref a0), some (.int a1), none, none]) rfl ?_
    exact x_X6_pass_16  h
def V_X6_sleep (K : Rs → Mm → Prop) (M : Mm) (a0 : Nat) : Prop := (ob M a0 6 ∧ ((¬ (mI M a0 8) = 0 → ∀ M2, M2 = sI M a0 8 (0 : Int32) → ∀ M3, M3 = sI M2 a0 7 (mI M2 a0 6) → K (.inl none) M3) ∧ ((mI M a0 8) = 0 → K (.inr "java/lang/IllegalStateException") M)))
set_option maxRecDepth 100000 in
set_option maxHeartbeats 4000000 in
theorem x_X6_sleep {G : Gx} {K : Rs → Mm → Prop} {M : Mm} {a0 : Nat} (h : V_X6_sleep K M a0) : MC G mi_X6_sleep [.ref a0] M K := by
  unfold V_X6_sleep at h
  refine mc_of rfl (by decide +kernel) dc_X6_sleep (Nat.le_of_ble_eq_true rfl) 0 (Nat.le_of_ble_eq_true rfl) ?_
  show E G mi_X6_sleep K M 0 0 0 [some (.ref a0)] []
  refine e_blk 1 0 _ _ (pc' := 1) (L' := [some (.ref a0)]) (st' := [.ref a0]) rfl ?_
  obtain ⟨ho1, h⟩ := h
  refine e_getI 6 8 rfl rfl (by decide) (aw (i := 341) (by decide +kernel) rfl) ho1 rfl ?_
  refine e_if_ne 18 rfl rfl (fun hc => ?_) (fun hc => ?_)
  · replace h := h.1 hc
    refine e_blk 2 18 _ _ (pc' := 20) (L' := [some (.ref a0)]) (st' := [.int (0 : Int32), .ref a0]) rfl ?_
    refine e_putZ 6 8 rfl rfl (by decide) (aw (i := 341) (by decide +kernel) rfl) rfl ho1 rfl (by decide) ?_
    generalize hM2 : sI M a0 8 (0 : Int32) = M2
    replace h := h M2 hM2.symm
    replace ho1 : ob M2 a0 6 := hM2 ▸ ob_sI ho1
    refine e_blk 2 23 _ _ (pc' := 25) (L' := [some (.ref a0)]) (st' := [.ref a0, .ref a0]) rfl ?_
    refine e_getI 6 6 rfl rfl (by decide) (aw (i := 339) (by decide +kernel) rfl) ho1 rfl ?_
    refine e_putI 6 7 rfl rfl (by decide) (aw (i := 340) (by decide +kernel) rfl) rfl ho1 rfl ?_
    generalize hM3 : sI M2 a0 7 (mI M2 a0 6) = M3
    replace h := h M3 hM3.symm
    replace ho1 : ob M3 a0 6 := hM3 ▸ ob_sI ho1
    exact e_ret rfl rfl (by decide) (by decide) h
  · replace h := h.2 hc
    exact e_thrW (j := 25) "java/lang/IllegalStateException" "asleep" rfl rfl rfl rfl rfl (by decide +kernel) rfl (aw (i := 491) (by decide +kernel) rfl) (aw (i := 70) (by decide +kernel) rfl) (by decide) at_IllegalStateException gd_IllegalStateException (by decide) (Nat.le_of_ble_eq_true rfl) (by decide) (by decide) h
def V_X6_firstMissed (K : Rs → Mm → Prop) (M : Mm) (a0 : Nat) (a1 : Nat) : Prop := (ob M a0 6 ∧ (ob M a1 2 ∧ V_J9_max_7cf53 (kI (fun r4 M3 => K (.inl (some (.int r4))) M3) (fun _ _ => False)) M ((mI M a0 7) + (1 : Int32)) ((mI M a0 6) - (mI M a1 8))))
set_option maxRecDepth 100000 in
set_option maxHeartbeats 4000000 in
theorem x_X6_firstMissed {G : Gx} {K : Rs → Mm → Prop} {M : Mm} {a0 : Nat} {a1 : Nat} (h : V_X6_firstMissed K M a0 a1) : MC G mi_X6_firstMissed [.ref a0, .ref a1] M K := by
  unfold V_X6_firstMissed at h
  refine mc_of rfl (by decide +kernel) dc_X6_firstMissed (Nat.le_of_ble_eq_true rfl) 0 (Nat.le_of_ble_eq_true rfl) ?_
  show E G mi_X6_firstMissed K M 0 0 0 [some (.ref a0), some (.ref a1)] []
  refine e_blk 1 0 _ _ (pc' := 1) (L' := [some (.ref a0), some (.ref a1)]) (st' := [.ref a0]) rfl ?_
  obtain ⟨ho1, h⟩ := h
  refine e_getI 6 7 rfl rfl (by decide) (aw (i := 340) (by decide +kernel) rfl) ho1 rfl ?_
  refine e_blk 3 4 _ _ (pc' := 7) (L' := [some (.ref a0), some (.ref a1)]) (st' := [.ref a0, .int ((mI M a0 7) + (1 : Int32))]) rfl ?_
  refine e_getI 6 6 rfl rfl (by decide) (aw (i := 339) (by decide +kernel) rfl) ho1 rfl ?_
  refine e_blk 1 10 _ _ (pc' := 11) (L' := [some (.ref a0), some (.ref a1)]) (st' := [.ref a1, .int (mI M a0 6), .int ((mI M a0 7) + (1 : Int32))]) rfl ?_
  obtain ⟨ho2, h⟩ := h
  refine e_getI 2 8 rfl rfl (by decide) (aw (i := 283) (by decide +kernel) rfl) ho2 rfl ?_
  refine e_blk 1 14 _ _ (pc' := 15) (L' := [some (.ref a0), some (.ref a1)]) (st' := [.int ((mI M a0 6) - (mI M a1 8)), .int ((mI M a0 7) + (1 : Int32))]) rfl ?_
  refine e_callS (As := [.int ((mI M a0 7) + (1 : Int32)), .int ((mI M a0 6) - (mI M a1 8))]) (rest := []) rfl (x_J9_max_7cf53 h) rfl (aw (i := 893) (by decide +kernel) rfl) ws_J9_max_7cf53 wi_J9_max_7cf53 wc_J9_max_7cf53 (show cok mi_X6_firstMissed mi_J9_max_7cf53 0 0 2 = true by decide +kernel) (Nat.le_of_ble_eq_true rfl) (fun v9 M3 hq => ?_) (fun X M9 hq => False.elim hq)
  obtain ⟨r4, rfl, h⟩ := kI_l hq
  exact e_reti rfl rfl (by decide) (by decide) h
def V_X6_makeUpLatest_25 (K : Rs → Mm → Prop)  (M : Mm)  : Prop := K (.inl none) M
set_option maxRecDepth 100000 in
set_option maxHeartbeats 4000000 in
theorem x_X6_makeUpLatest_25 {G : Gx} {K : Rs → Mm → Prop}  {M : Mm}  (h : V_X6_makeUpLatest_25 K  M ) : E G mi_X6_makeUpLatest K M 0 0 25 [none, none, none] [] := by
  unfold V_X6_makeUpLatest_25 at h
  exact e_ret rfl rfl (by decide) (by decide) h
def V_X6_makeUpLatest (K : Rs → Mm → Prop) (M : Mm) (a0 : Nat) (a1 : Nat) : Prop := (ob M a0 6 ∧ V_X6_firstMissed (kI (fun r3 M2 => (ob M2 a0 6 ∧ (ob M2 a1 2 ∧ V_X2_greatestMatch (kI (fun r7 M6 => ((r7 = (-1 : Int32) → V_X6_makeUpLatest_25 K  M6 ) ∧ (¬ r7 = (-1 : Int32) → (ob M6 a0 6 ∧ V_X6_becomeDue (kV (fun M9 => V_X6_makeUpLatest_25 K  M9 ) (fun _ _ => False)) M6 a0 a1 r7)))) (fun _ _ => False)) M2 a1 r3 (mI M2 a0 6)))) (fun _ _ => False)) M a0 a1)
set_option maxRecDepth 100000 in
set_option maxHeartbeats 4000000 in
theorem x_X6_makeUpLatest {G : Gx} {K : Rs → Mm → Prop} {M : Mm} {a0 : Nat} {a1 : Nat} (h : V_X6_makeUpLatest K M a0 a1) : MC G mi_X6_makeUpLatest [.ref a0, .ref a1] M K := by
  unfold V_X6_makeUpLatest at h
  refine mc_of rfl (by decide +kernel) dc_X6_makeUpLatest (Nat.le_of_ble_eq_true rfl) 1 (Nat.le_of_ble_eq_true rfl) ?_
  show E G mi_X6_makeUpLatest K M 0 0 0 [some (.ref a0), some (.ref a1), none] []
  refine e_blk 3 0 _ _ (pc' := 3) (L' := [some (.ref a0), some (.ref a1), none]) (st' := [.ref a1, .ref a0, .ref a1]) rfl ?_
  obtain ⟨ho1, h⟩ := h
  refine e_callV (As := [.ref a1]) (rest := [.ref a1]) (ci := 6) rfl (x_X6_firstMissed h) ho1 rfl rfl rfl (aw (i := 1027) (by decide +kernel) rfl) wn_X6_firstMissed wv_X6_firstMissed wi_X6_firstMissed wc_X6_firstMissed (show cok mi_X6_makeUpLatest mi_X6_firstMissed 0 0 1 = true by decide +kernel) (Nat.le_of_ble_eq_true rfl) (fun v9 M2 hq => ?_) (fun X M9 hq => False.elim hq)
  obtain ⟨r3, rfl, h⟩ := kI_l hq
  refine e_blk 1 6 _ _ (pc' := 7) (L' := [some (.ref a0), some (.ref a1), none]) (st' := [.ref a0, .int r3, .ref a1]) rfl ?_
  obtain ⟨ho4, h⟩ := h
  refine e_getI 6 6 rfl rfl (by decide) (aw (i := 339) (by decide +kernel) rfl) ho4 rfl ?_
  obtain ⟨ho5, h⟩ := h
  refine e_callV (As := [.int r3, .int (mI M2 a0 6)]) (rest := []) (ci := 2) rfl (x_X2_greatestMatch h) ho5 rfl rfl rfl (aw (i := 894) (by decide +kernel) rfl) wn_X2_greatestMatch wv_X2_greatestMatch wi_X2_greatestMatch wc_X2_greatestMatch (show cok mi_X6_makeUpLatest mi_X2_greatestMatch 0 0 2 = true by decide +kernel) (Nat.le_of_ble_eq_true rfl) (fun v9 M6 hq => ?_) (fun X M9 hq => False.elim hq)
  obtain ⟨r7, rfl, h⟩ := kI_l hq
  refine e_blk 3 13 _ _ (pc' := 16) (L' := [some (.ref a0), some (.ref a1), some (.int r7)]) (st' := [.int (-1 : Int32), .int r7]) rfl ?_
  refine e_icmp_eq 25 rfl rfl (fun hc => ?_) (fun hc => ?_)
  · replace h := h.1 hc
    refine e_drp [false, false, false] (L' := [none, none, none]) rfl ?_
    exact x_X6_makeUpLatest_25  h
  · replace h := h.2 hc
    refine e_blk 3 19 _ _ (pc' := 22) (L' := [some (.ref a0), some (.ref a1), some (.int r7)]) (st' := [.int r7, .ref a1, .ref a0]) rfl ?_
    obtain ⟨ho8, h⟩ := h
    refine e_callV (As := [.ref a1, .int r7]) (rest := []) (ci := 6) rfl (x_X6_becomeDue h) ho8 rfl rfl rfl (aw (i := 996) (by decide +kernel) rfl) wn_X6_becomeDue wv_X6_becomeDue wi_X6_becomeDue wc_X6_becomeDue (show cok mi_X6_makeUpLatest mi_X6_becomeDue 0 0 2 = true by decide +kernel) (Nat.le_of_ble_eq_true rfl) (fun v9 M9 hq => ?_) (fun X M9 hq => False.elim hq)
    obtain ⟨rfl, h⟩ := kV_l hq
    refine e_drp [false, false, false] (L' := [none, none, none]) rfl ?_
    exact x_X6_makeUpLatest_25  h
def V_X6_makeUpAll_122 (K : Rs → Mm → Prop)  (M : Mm)  : Prop := K (.inl none) M
set_option maxRecDepth 100000 in
set_option maxHeartbeats 4000000 in
theorem x_X6_makeUpAll_122 {G : Gx} {K : Rs → Mm → Prop}  {M : Mm}  (h : V_X6_makeUpAll_122 K  M ) : E G mi_X6_makeUpAll K M 0 0 122 [none, none, none, none, none] [] := by
  unfold V_X6_makeUpAll_122 at h
  exact e_ret rfl rfl (by decide) (by decide) h
def V_X6_makeUpAll_86 (K : Rs → Mm → Prop) (B8 : Mm → Nat → Nat → Int32 → Int32 → Prop) (M : Mm) (l0 : Nat) (l1 : Nat) (l2 : Int32) (l3 : Int32) : Prop := (ob M l0 6 ∧ (ob M l1 2 ∧ V_X2_leastMatch (kI (fun r4 M3 => ((¬ r4 = (-1 : Int32) → (ob M3 l0 6 ∧ V_X6_becomeDue (kV (fun M6 => ∀ x7 : Int32, x7 = (r4 + (1 : Int32)) → ∀ x8 : Int32, x8 = (l3 + (1 : Int32)) → B8 M6 l0 l1 x7 x8) (fun _ _ => False)) M3 l0 l1 r4)) ∧ (r4 = (-1 : Int32) → K (.inl none) M3))) (fun _ _ => False)) M l1 l2 (mI M l0 6)))
set_option maxRecDepth 100000 in
set_option maxHeartbeats 4000000 in
theorem x_X6_makeUpAll_86 {G : Gx} {K : Rs → Mm → Prop} {B8 : Mm → Nat → Nat → Int32 → Int32 → Prop} (hB8 : ∀ M l0 l1 l2 l3, B8 M l0 l1 l2 l3 → E G mi_X6_makeUpAll K M 0 0 8 [some (.ref l0), some (.ref l1), some (.int l2), some (.int l3), none] []) {M : Mm} {l0 : Nat} {l1 : Nat} {l2 : Int32} {l3 : Int32} (h : V_X6_makeUpAll_86 K B8 M l0 l1 l2 l3) : E G mi_X6_makeUpAll K M 0 0 86 [some (.ref l0), some (.ref l1), some (.int l2), some (.int l3), none] [] := by
  unfold V_X6_makeUpAll_86 at h
  refine e_blk 3 86 _ _ (pc' := 89) (L' := [some (.ref l0), some (.ref l1), some (.int l2), some (.int l3), none]) (st' := [.ref l0, .int l2, .ref l1]) rfl ?_
  obtain ⟨ho1, h⟩ := h
  refine e_getI 6 6 rfl rfl (by decide) (aw (i := 339) (by decide +kernel) rfl) ho1 rfl ?_
  obtain ⟨ho2, h⟩ := h
  refine e_callV (As := [.int l2, .int (mI M l0 6)]) (rest := []) (ci := 2) rfl (x_X2_leastMatch h) ho2 rfl rfl rfl (aw (i := 821) (by decide +kernel) rfl) wn_X2_leastMatch wv_X2_leastMatch wi_X2_leastMatch wc_X2_leastMatch (show cok mi_X6_makeUpAll mi_X2_leastMatch 0 0 2 = true by decide +kernel) (Nat.le_of_ble_eq_true rfl) (fun v9 M3 hq => ?_) (fun X M9 hq => False.elim hq)
  obtain ⟨r4, rfl, h⟩ := kI_l hq
  refine e_blk 3 95 _ _ (pc' := 100) (L' := [some (.ref l0), some (.ref l1), some (.int l2), some (.int l3), some (.int r4)]) (st' := [.int (-1 : Int32), .int r4]) rfl ?_
  refine e_icmp_ne 104 rfl rfl (fun hc => ?_) (fun hc => ?_)
  · replace h := h.1 hc
    refine e_blk 3 104 _ _ (pc' := 108) (L' := [some (.ref l0), some (.ref l1), some (.int l2), some (.int l3), some (.int r4)]) (st' := [.int r4, .ref l1, .ref l0]) rfl ?_
    obtain ⟨ho5, h⟩ := h
    refine e_callV (As := [.ref l1, .int r4]) (rest := []) (ci := 6) rfl (x_X6_becomeDue h) ho5 rfl rfl rfl (aw (i := 996) (by decide +kernel) rfl) wn_X6_becomeDue wv_X6_becomeDue wi_X6_becomeDue wc_X6_becomeDue (show cok mi_X6_makeUpAll mi_X6_becomeDue 0 0 2 = true by decide +kernel) (Nat.le_of_ble_eq_true rfl) (fun v9 M6 hq => ?_) (fun X M9 hq => False.elim hq)
    obtain ⟨rfl, h⟩ := kV_l hq
    refine e_blk 6 111 _ _ (pc' := 8) (L' := [some (.ref l0), some (.ref l1), some (.int (r4 + (1 : Int32))), some (.int (l3 + (1 : Int32))), some (.int r4)]) (st' := []) rfl ?_
    generalize hx_x7 : ((r4 + (1 : Int32)) : Int32) = x7
    replace h := h x7 hx_x7.symm
    generalize hx_x8 : ((l3 + (1 : Int32)) : Int32) = x8
    replace h := h x8 hx_x8.symm
    refine e_drp [true, true, true, true, false] (L' := [some (.ref l0), some (.ref l1), some (.int x7), some (.int x8), none]) rfl ?_
    exact hB8 _ _ _ _ _ h
  · replace h := h.2 hc
    exact e_ret rfl rfl (by decide) (by decide) h
def V_X6_makeUpAll_8 (K : Rs → Mm → Prop)  : Nat → Mm → Nat → Nat → Int32 → Int32 → Prop
  | 0, _, _, _, _, _ => False
  | z + 1, M, l0, l1, l2, l3 => (((100000 : Int32) < l3 → V_X6_makeUpAll_122 K  M ) ∧ (¬ (100000 : Int32) < l3 → (ob M l0 6 ∧ (((mI M l0 6) < l2 → V_X6_makeUpAll_122 K  M ) ∧ (¬ (mI M l0 6) < l2 → ∃ b2, mP M l0 4 = some b2 ∧ (ob M b2 1 ∧ (((mI M b2 4) < (300 : Int32) → V_X6_makeUpAll_86 K (fun M l0 l1 l2 l3 => V_X6_makeUpAll_8 K  z M l0 l1 l2 l3) M l0 l1 l2 l3) ∧ (¬ (mI M b2 4) < (300 : Int32) → (ob M l1 2 ∧ V_X2_mayBegin (kI (fun r6 M5 => ((¬ r6 = 0 → V_X6_makeUpAll_86 K (fun M l0 l1 l2 l3 => V_X6_makeUpAll_8 K  z M l0 l1 l2 l3) M5 l0 l1 l2 l3) ∧ (r6 = 0 → (ob M5 l1 2 ∧ V_X2_mayWait (kI (fun r9 M8 => ((¬ r9 = 0 → V_X6_makeUpAll_86 K (fun M l0 l1 l2 l3 => V_X6_makeUpAll_8 K  z M l0 l1 l2 l3) M8 l0 l1 l2 l3) ∧ (r9 = 0 → (ob M8 l0 6 ∧ (ob M8 l1 2 ∧ V_X2_matchesIn (kI (fun r13 M12 => (ob M12 l1 2 ∧ ∀ M15, M15 = sI M12 l1 15 ((mI M12 l1 15) + r13) → (ob M15 l0 6 ∧ ∃ b17, mP M15 l0 4 = some b17 ∧ (ob M15 b17 1 ∧ ∀ M19, M19 = sI M15 b17 4 ((mI M15 b17 4) + r13) → K (.inl none) M19)))) (fun _ _ => False)) M8 l1 l2 (mI M8 l0 6)))))) (fun _ _ => False)) M5 l1)))) (fun _ _ => False)) M l1)))))))))
set_option maxRecDepth 100000 in
set_option maxHeartbeats 4000000 in
theorem x_X6_makeUpAll_8 {G : Gx} {K : Rs → Mm → Prop}  : ∀ (z : Nat) (M : Mm) (l0 : Nat) (l1 : Nat) (l2 : Int32) (l3 : Int32), V_X6_makeUpAll_8 K  z M l0 l1 l2 l3 → E G mi_X6_makeUpAll K M 0 0 8 [some (.ref l0), some (.ref l1), some (.int l2), some (.int l3), none] []
  | 0, M, l0, l1, l2, l3, h => False.elim h
  | z + 1, M, l0, l1, l2, l3, h => by
    unfold V_X6_makeUpAll_8 at h
    refine e_blk 1 8 _ _ (pc' := 9) (L' := [some (.ref l0), some (.ref l1), some (.int l2), some (.int l3), none]) (st' := [.int l3]) rfl ?_
    refine e_ldc (100000) rfl (aw (i := 593) (by decide +kernel) rfl) ?_
    refine e_icmp_gt 122 rfl rfl (fun hc => ?_) (fun hc => ?_)
    · replace h := h.1 hc
      refine e_drp [false, false, false, false, false] (L' := [none, none, none, none, none]) rfl ?_
      exact x_X6_makeUpAll_122  h
    · replace h := h.2 hc
      refine e_blk 2 14 _ _ (pc' := 16) (L' := [some (.ref l0), some (.ref l1), some (.int l2), some (.int l3), none]) (st' := [.ref l0, .int l2]) rfl ?_
      obtain ⟨ho1, h⟩ := h
      refine e_getI 6 6 rfl rfl (by decide) (aw (i := 339) (by decide +kernel) rfl) ho1 rfl ?_
      refine e_icmp_gt 122 rfl rfl (fun hc => ?_) (fun hc => ?_)
      · replace h := h.1 hc
        refine e_drp [false, false, false, false, false] (L' := [none, none, none, none, none]) rfl ?_
        exact x_X6_makeUpAll_122  h
      · replace h := h.2 hc
        refine e_blk 1 22 _ _ (pc' := 23) (L' := [some (.ref l0), some (.ref l1), some (.int l2), some (.int l3), none]) (st' := [.ref l0]) rfl ?_
        obtain ⟨b2, hbb2, h⟩ := h
        refine e_getR 6 4 rfl rfl (by decide) (aw (i := 337) (by decide +kernel) rfl) ho1 rfl hbb2 ?_
        obtain ⟨ho3, h⟩ := h
        refine e_getI 1 4 rfl rfl (by decide) (aw (i := 228) (by decide +kernel) rfl) ho3 rfl ?_
        refine e_blk 1 29 _ _ (pc' := 32) (L' := [some (.ref l0), some (.ref l1), some (.int l2), some (.int l3), none]) (st' := [.int (300 : Int32), .int (mI M b2 4)]) rfl ?_
        refine e_icmp_lt 86 rfl rfl (fun hc => ?_) (fun hc => ?_)
        · replace h := h.1 hc
          refine e_drp [true, true, true, true, false] (L' := [some (.ref l0), some (.ref l1), some (.int l2), some (.int l3), none]) rfl ?_
          exact x_X6_makeUpAll_86 (fun M l0 l1 l2 l3 h => x_X6_makeUpAll_8  z M l0 l1 l2 l3 h) h
        · replace h := h.2 hc
          refine e_blk 1 35 _ _ (pc' := 36) (L' := [some (.ref l0), some (.ref l1), some (.int l2), some (.int l3), none]) (st' := [.ref l1]) rfl ?_
          obtain ⟨ho4, h⟩ := h
          refine e_callV (As := []) (rest := []) (ci := 2) rfl (x_X2_mayBegin h) ho4 rfl rfl rfl (aw (i := 1000) (by decide +kernel) rfl) wn_X2_mayBegin wv_X2_mayBegin wi_X2_mayBegin wc_X2_mayBegin (show cok mi_X6_makeUpAll mi_X2_mayBegin 0 0 0 = true by decide +kernel) (Nat.le_of_ble_eq_true rfl) (fun v9 M5 hq => ?_) (fun X M9 hq => False.elim hq)
          obtain ⟨r6, rfl, h⟩ := kI_l hq
          refine e_if_ne 86 rfl rfl (fun hc => ?_) (fun hc => ?_)
          · replace h := h.1 hc
            refine e_drp [true, true, true, true, false] (L' := [some (.ref l0), some (.ref l1), some (.int l2), some (.int l3), none]) rfl ?_
            exact x_X6_makeUpAll_86 (fun M l0 l1 l2 l3 h => x_X6_makeUpAll_8  z M l0 l1 l2 l3 h) h
          · replace h := h.2 hc
            refine e_blk 1 42 _ _ (pc' := 43) (L' := [some (.ref l0), some (.ref l1), some (.int l2), some (.int l3), none]) (st' := [.ref l1]) rfl ?_
            obtain ⟨ho7, h⟩ := h
            refine e_callV (As := []) (rest := []) (ci := 2) rfl (x_X2_mayWait h) ho7 rfl rfl rfl (aw (i := 1004) (by decide +kernel) rfl) wn_X2_mayWait wv_X2_mayWait wi_X2_mayWait wc_X2_mayWait (show cok mi_X6_makeUpAll mi_X2_mayWait 0 0 0 = true by decide +kernel) (Nat.le_of_ble_eq_true rfl) (fun v9 M8 hq => ?_) (fun X M9 hq => False.elim hq)
            obtain ⟨r9, rfl, h⟩ := kI_l hq
            refine e_if_ne 86 rfl rfl (fun hc => ?_) (fun hc => ?_)
            · replace h := h.1 hc
              refine e_drp [true, true, true, true, false] (L' := [some (.ref l0), some (.ref l1), some (.int l2), some (.int l3), none]) rfl ?_
              exact x_X6_makeUpAll_86 (fun M l0 l1 l2 l3 h => x_X6_makeUpAll_8  z M l0 l1 l2 l3 h) h
            · replace h := h.2 hc
              refine e_blk 3 49 _ _ (pc' := 52) (L' := [some (.ref l0), some (.ref l1), some (.int l2), some (.int l3), none]) (st' := [.ref l0, .int l2, .ref l1]) rfl ?_
              obtain ⟨ho10, h⟩ := h
              refine e_getI 6 6 rfl rfl (by decide) (aw (i := 339) (by decide +kernel) rfl) ho10 rfl ?_
              obtain ⟨ho11, h⟩ := h
              refine e_callV (As := [.int l2, .int (mI M8 l0 6)]) (rest := []) (ci := 2) rfl (x_X2_matchesIn h) ho11 rfl rfl rfl (aw (i := 926) (by decide +kernel) rfl) wn_X2_matchesIn wv_X2_matchesIn wi_X2_matchesIn wc_X2_matchesIn (show cok mi_X6_makeUpAll mi_X2_matchesIn 0 0 2 = true by decide +kernel) (Nat.le_of_ble_eq_true rfl) (fun v9 M12 hq => ?_) (fun X M9 hq => False.elim hq)
              obtain ⟨r13, rfl, h⟩ := kI_l hq
              refine e_blk 3 58 _ _ (pc' := 62) (L' := [some (.ref l0), some (.ref l1), some (.int l2), some (.int l3), some (.int r13)]) (st' := [.ref l1, .ref l1]) rfl ?_
              obtain ⟨ho14, h⟩ := h
              refine e_getI 2 15 rfl rfl (by decide) (aw (i := 296) (by decide +kernel) rfl) ho14 rfl ?_
              refine e_blk 2 65 _ _ (pc' := 68) (L' := [some (.ref l0), some (.ref l1), some (.int l2), some (.int l3), some (.int r13)]) (st' := [.int ((mI M12 l1 15) + r13), .ref l1]) rfl ?_
              refine e_putI 2 15 rfl rfl (by decide) (aw (i := 296) (by decide +kernel) rfl) rfl ho14 rfl ?_
              generalize hM15 : sI M12 l1 15 ((mI M12 l1 15) + r13) = M15
              replace h := h M15 hM15.symm
              replace ho14 : ob M15 l1 2 := hM15 ▸ ob_sI ho14
              refine e_blk 1 71 _ _ (pc' := 72) (L' := [some (.ref l0), some (.ref l1), some (.int l2), some (.int l3), some (.int r13)]) (st' := [.ref l0]) rfl ?_
              obtain ⟨ho16, h⟩ := h
              obtain ⟨b17, hbb17, h⟩ := h
              refine e_getR 6 4 rfl rfl (by decide) (aw (i := 337) (by decide +kernel) rfl) ho16 rfl hbb17 ?_
              refine e_blk 1 75 _ _ (pc' := 76) (L' := [some (.ref l0), some (.ref l1), some (.int l2), some (.int l3), some (.int r13)]) (st' := [.ref b17, .ref b17]) rfl ?_
              obtain ⟨ho18, h⟩ := h
              refine e_getI 1 4 rfl rfl (by decide) (aw (i := 228) (by decide +kernel) rfl) ho18 rfl ?_
              refine e_blk 2 79 _ _ (pc' := 82) (L' := [some (.ref l0), some (.ref l1), some (.int l2), some (.int l3), some (.int r13)]) (st' := [.int ((mI M15 b17 4) + r13), .ref b17]) rfl ?_
              refine e_putI 1 4 rfl rfl (by decide) (aw (i := 228) (by decide +kernel) rfl) rfl ho18 rfl ?_
              generalize hM19 : sI M15 b17 4 ((mI M15 b17 4) + r13) = M19
              replace h := h M19 hM19.symm
              replace ho14 : ob M19 l1 2 := hM19 ▸ ob_sI ho14
              replace ho16 : ob M19 l0 6 := hM19 ▸ ob_sI ho16
              replace ho18 : ob M19 b17 1 := hM19 ▸ ob_sI ho18
              exact e_ret rfl rfl (by decide) (by decide) h
def V_X6_makeUpAll (K : Rs → Mm → Prop) (M : Mm) (a0 : Nat) (a1 : Nat) : Prop := (ob M a0 6 ∧ V_X6_firstMissed (kI (fun r3 M2 => ∃ y, V_X6_makeUpAll_8 K  y M2 a0 a1 r3 (0 : Int32)) (fun _ _ => False)) M a0 a1)
set_option maxRecDepth 100000 in
set_option maxHeartbeats 4000000 in
theorem x_X6_makeUpAll {G : Gx} {K : Rs → Mm → Prop} {M : Mm} {a0 : Nat} {a1 : Nat} (h : V_X6_makeUpAll K M a0 a1) : MC G mi_X6_makeUpAll [.ref a0, .ref a1] M K := by
  unfold V_X6_makeUpAll at h
  refine mc_of rfl (by decide +kernel) dc_X6_makeUpAll (Nat.le_of_ble_eq_true rfl) 3 (Nat.le_of_ble_eq_true rfl) ?_
  show E G mi_X6_makeUpAll K M 0 0 0 [some (.ref a0), some (.ref a1), none, none, none] []
  refine e_blk 2 0 _ _ (pc' := 2) (L' := [some (.ref a0), some (.ref a1), none, none, none]) (st' := [.ref a1, .ref a0]) rfl ?_
  obtain ⟨ho1, h⟩ := h
  refine e_callV (As := [.ref a1]) (rest := []) (ci := 6) rfl (x_X6_firstMissed h) ho1 rfl rfl rfl (aw (i := 1027) (by decide +kernel) rfl) wn_X6_firstMissed wv_X6_firstMissed wi_X6_firstMissed wc_X6_firstMissed (show cok mi_X6_makeUpAll mi_X6_firstMissed 0 0 1 = true by decide +kernel) (Nat.le_of_ble_eq_true rfl) (fun v9 M2 hq => ?_) (fun X M9 hq => False.elim hq)
  obtain ⟨r3, rfl, h⟩ := kI_l hq
  refine e_blk 3 5 _ _ (pc' := 8) (L' := [some (.ref a0), some (.ref a1), some (.int r3), some (.int (0 : Int32)), none]) (st' := []) rfl ?_
  refine e_drp [true, true, true, true, false] (L' := [some (.ref a0), some (.ref a1), some (.int r3), some (.int (0 : Int32)), none]) rfl ?_
  obtain ⟨y, h⟩ := h
  exact x_X6_makeUpAll_8  y _ _ _ _ _ h
def V_X6_wake_93 (K : Rs → Mm → Prop) (B37 : Mm → Nat → Int32 → Int32 → Prop) (M : Mm) (l0 : Nat) (l1 : Int32) (l2 : Int32) : Prop := ∀ x1 : Int32, x1 = (l2 + (1 : Int32)) → B37 M l0 l1 x1
set_option maxRecDepth 100000 in
set_option maxHeartbeats 4000000 in
theorem x_X6_wake_93 {G : Gx} {K : Rs → Mm → Prop} {B37 : Mm → Nat → Int32 → Int32 → Prop} (hB37 : ∀ M l0 l1 l2, B37 M l0 l1 l2 → E G mi_X6_wake K M 0 0 37 [some (.ref l0), some (.int l1), some (.int l2), none] []) {M : Mm} {l0 : Nat} {l1 : Int32} {l2 : Int32} (h : V_X6_wake_93 K B37 M l0 l1 l2) : E G mi_X6_wake K M 0 0 93 [some (.ref l0), some (.int l1), some (.int l2), none] [] := by
  unfold V_X6_wake_93 at h
  refine e_blk 2 93 _ _ (pc' := 37) (L' := [some (.ref l0), some (.int l1), some (.int (l2 + (1 : Int32))), none]) (st' := []) rfl ?_
  generalize hx_x1 : ((l2 + (1 : Int32)) : Int32) = x1
  replace h := h x1 hx_x1.symm
  refine e_drp [true, true, true, false] (L' := [some (.ref l0), some (.int l1), some (.int x1), none]) rfl ?_
  exact hB37 _ _ _ _ h
def V_X6_wake_73 (K : Rs → Mm → Prop) (B37 : Mm → Nat → Int32 → Int32 → Prop) (M : Mm) (l0 : Nat) (l1 : Int32) (l2 : Int32) (l3 : Nat) : Prop := (ob M l3 2 ∧ (((mI M l3 4) = 0 → V_X6_wake_93 K B37 M l0 l1 l2) ∧ (¬ (mI M l3 4) = 0 → ((¬ (mI M l3 7) = (2 : Int32) → V_X6_wake_93 K B37 M l0 l1 l2) ∧ ((mI M l3 7) = (2 : Int32) → (ob M l0 6 ∧ V_X6_makeUpAll (kV (fun M3 => V_X6_wake_93 K B37 M3 l0 l1 l2) (fun _ _ => False)) M l0 l3))))))
set_option maxRecDepth 100000 in
set_option maxHeartbeats 4000000 in
theorem x_X6_wake_73 {G : Gx} {K : Rs → Mm → Prop} {B37 : Mm → Nat → Int32 → Int32 → Prop} (hB37 : ∀ M l0 l1 l2, B37 M l0 l1 l2 → E G mi_X6_wake K M 0 0 37 [some (.ref l0), some (.int l1), some (.int l2), none] []) {M : Mm} {l0 : Nat} {l1 : Int32} {l2 : Int32} {l3 : Nat} (h : V_X6_wake_73 K B37 M l0 l1 l2 l3) : E G mi_X6_wake K M 0 0 73 [some (.ref l0), some (.int l1), some (.int l2), some (.ref l3)] [] := by
  unfold V_X6_wake_73 at h
  refine e_blk 1 73 _ _ (pc' := 74) (L' := [some (.ref l0), some (.int l1), some (.int l2), some (.ref l3)]) (st' := [.ref l3]) rfl ?_
  obtain ⟨ho1, h⟩ := h
  refine e_getI 2 4 rfl rfl (by decide) (aw (i := 276) (by decide +kernel) rfl) ho1 rfl ?_
  refine e_if_eq 93 rfl rfl (fun hc => ?_) (fun hc => ?_)
  · replace h := h.1 hc
    refine e_drp [true, true, true, false] (L' := [some (.ref l0), some (.int l1), some (.int l2), none]) rfl ?_
    exact x_X6_wake_93 hB37 h
  · replace h := h.2 hc
    refine e_blk 1 80 _ _ (pc' := 81) (L' := [some (.ref l0), some (.int l1), some (.int l2), some (.ref l3)]) (st' := [.ref l3]) rfl ?_
    refine e_getI 2 7 rfl rfl (by decide) (aw (i := 281) (by decide +kernel) rfl) ho1 rfl ?_
    refine e_blk 1 84 _ _ (pc' := 85) (L' := [some (.ref l0), some (.int l1), some (.int l2), some (.ref l3)]) (st' := [.int (2 : Int32), .int (mI M l3 7)]) rfl ?_
    refine e_icmp_ne 93 rfl rfl (fun hc => ?_) (fun hc => ?_)
    · replace h := h.1 hc
      refine e_drp [true, true, true, false] (L' := [some (.ref l0), some (.int l1), some (.int l2), none]) rfl ?_
      exact x_X6_wake_93 hB37 h
    · replace h := h.2 hc
      refine e_blk 2 88 _ _ (pc' := 90) (L' := [some (.ref l0), some (.int l1), some (.int l2), some (.ref l3)]) (st' := [.ref l3, .ref l0]) rfl ?_
      obtain ⟨ho2, h⟩ := h
      refine e_callV (As := [.ref l3]) (rest := []) (ci := 6) rfl (x_X6_makeUpAll h) ho2 rfl rfl rfl (aw (i := 1031) (by decide +kernel) rfl) wn_X6_makeUpAll wv_X6_makeUpAll wi_X6_makeUpAll wc_X6_makeUpAll (show cok mi_X6_wake mi_X6_makeUpAll 0 0 1 = true by decide +kernel) (Nat.le_of_ble_eq_true rfl) (fun v9 M3 hq => ?_) (fun X M9 hq => False.elim hq)
      obtain ⟨rfl, h⟩ := kV_l hq
      refine e_drp [true, true, true, false] (L' := [some (.ref l0), some (.int l1), some (.int l2), none]) rfl ?_
      exact x_X6_wake_93 hB37 h
def V_X6_wake_37 (K : Rs → Mm → Prop)  : Nat → Mm → Nat → Int32 → Int32 → Prop
  | 0, _, _, _, _ => False
  | z + 1, M, l0, l1, l2 => (((12 : Int32) ≤ l2 → (ob M l0 6 ∧ ∃ b2, mP M l0 4 = some b2 ∧ (ob M b2 1 ∧ K (.inl (some (.int ((mI M b2 4) - l1)))) M))) ∧ (¬ (12 : Int32) ≤ l2 → (ob M l0 6 ∧ ∃ b5, mP M l0 2 = some b5 ∧ (ob M b5 12 ∧ (vp_in l2 (mN M b5) ∧ ∃ b8, mP M b5 (l2).toNatClampNeg = some b8 ∧ (ob M b8 2 ∧ (((mI M b8 4) = 0 → V_X6_wake_73 K (fun M l0 l1 l2 => V_X6_wake_37 K  z M l0 l1 l2) M l0 l1 l2 b8) ∧ (¬ (mI M b8 4) = 0 → ((¬ (mI M b8 7) = (1 : Int32) → V_X6_wake_73 K (fun M l0 l1 l2 => V_X6_wake_37 K  z M l0 l1 l2) M l0 l1 l2 b8) ∧ ((mI M b8 7) = (1 : Int32) → V_X6_makeUpLatest (kV (fun M10 => V_X6_wake_93 K (fun M l0 l1 l2 => V_X6_wake_37 K  z M l0 l1 l2) M10 l0 l1 l2) (fun _ _ => False)) M l0 b8))))))))))
set_option maxRecDepth 100000 in
set_option maxHeartbeats 4000000 in
theorem x_X6_wake_37 {G : Gx} {K : Rs → Mm → Prop}  : ∀ (z : Nat) (M : Mm) (l0 : Nat) (l1 : Int32) (l2 : Int32), V_X6_wake_37 K  z M l0 l1 l2 → E G mi_X6_wake K M 0 0 37 [some (.ref l0), some (.int l1), some (.int l2), none] []
  | 0, M, l0, l1, l2, h => False.elim h
  | z + 1, M, l0, l1, l2, h => by
    unfold V_X6_wake_37 at h
    refine e_blk 2 37 _ _ (pc' := 40) (L' := [some (.ref l0), some (.int l1), some (.int l2), none]) (st' := [.int (12 : Int32), .int l2]) rfl ?_
    refine e_icmp_ge 99 rfl rfl (fun hc => ?_) (fun hc => ?_)
    · replace h := h.1 hc
      refine e_blk 1 99 _ _ (pc' := 100) (L' := [some (.ref l0), some (.int l1), some (.int l2), none]) (st' := [.ref l0]) rfl ?_
      obtain ⟨ho1, h⟩ := h
      obtain ⟨b2, hbb2, h⟩ := h
      refine e_getR 6 4 rfl rfl (by decide) (aw (i := 337) (by decide +kernel) rfl) ho1 rfl hbb2 ?_
      obtain ⟨ho3, h⟩ := h
      refine e_getI 1 4 rfl rfl (by decide) (aw (i := 228) (by decide +kernel) rfl) ho3 rfl ?_
      refine e_blk 2 106 _ _ (pc' := 108) (L' := [some (.ref l0), some (.int l1), some (.int l2), none]) (st' := [.int ((mI M b2 4) - l1)]) rfl ?_
      exact e_reti rfl rfl (by decide) (by decide) h
    · replace h := h.2 hc
      refine e_blk 1 43 _ _ (pc' := 44) (L' := [some (.ref l0), some (.int l1), some (.int l2), none]) (st' := [.ref l0]) rfl ?_
      obtain ⟨ho4, h⟩ := h
      obtain ⟨b5, hbb5, h⟩ := h
      refine e_getR 6 2 rfl rfl (by decide) (aw (i := 335) (by decide +kernel) rfl) ho4 rfl hbb5 ?_
      refine e_blk 1 47 _ _ (pc' := 48) (L' := [some (.ref l0), some (.int l1), some (.int l2), none]) (st' := [.int l2, .ref b5]) rfl ?_
      obtain ⟨ho6, h⟩ := h
      obtain ⟨hi7, h⟩ := h
      obtain ⟨b8, hbb8, h⟩ := h
      refine e_aaldOR rfl ho6 hi7 hbb8 ?_
      refine e_blk 2 49 _ _ (pc' := 51) (L' := [some (.ref l0), some (.int l1), some (.int l2), some (.ref b8)]) (st' := [.ref b8]) rfl ?_
      obtain ⟨ho9, h⟩ := h
      refine e_getI 2 4 rfl rfl (by decide) (aw (i := 276) (by decide +kernel) rfl) ho9 rfl ?_
      refine e_if_eq 73 rfl rfl (fun hc => ?_) (fun hc => ?_)
      · replace h := h.1 hc
        refine e_drp [true, true, true, true] (L' := [some (.ref l0), some (.int l1), some (.int l2), some (.ref b8)]) rfl ?_
        exact x_X6_wake_73 (fun M l0 l1 l2 h => x_X6_wake_37  z M l0 l1 l2 h) h
      · replace h := h.2 hc
        refine e_blk 1 57 _ _ (pc' := 58) (L' := [some (.ref l0), some (.int l1), some (.int l2), some (.ref b8)]) (st' := [.ref b8]) rfl ?_
        refine e_getI 2 7 rfl rfl (by decide) (aw (i := 281) (by decide +kernel) rfl) ho9 rfl ?_
        refine e_blk 1 61 _ _ (pc' := 62) (L' := [some (.ref l0), some (.int l1), some (.int l2), some (.ref b8)]) (st' := [.int (1 : Int32), .int (mI M b8 7)]) rfl ?_
        refine e_icmp_ne 73 rfl rfl (fun hc => ?_) (fun hc => ?_)
        · replace h := h.1 hc
          refine e_drp [true, true, true, true] (L' := [some (.ref l0), some (.int l1), some (.int l2), some (.ref b8)]) rfl ?_
          exact x_X6_wake_73 (fun M l0 l1 l2 h => x_X6_wake_37  z M l0 l1 l2 h) h
        · replace h := h.2 hc
          refine e_blk 2 65 _ _ (pc' := 67) (L' := [some (.ref l0), some (.int l1), some (.int l2), some (.ref b8)]) (st' := [.ref b8, .ref l0]) rfl ?_
          refine e_callV (As := [.ref b8]) (rest := []) (ci := 6) rfl (x_X6_makeUpLatest h) ho4 rfl rfl rfl (aw (i := 1023) (by decide +kernel) rfl) wn_X6_makeUpLatest wv_X6_makeUpLatest wi_X6_makeUpLatest wc_X6_makeUpLatest (show cok mi_X6_wake mi_X6_makeUpLatest 0 0 1 = true by decide +kernel) (Nat.le_of_ble_eq_true rfl) (fun v9 M10 hq => ?_) (fun X M9 hq => False.elim hq)
          obtain ⟨rfl, h⟩ := kV_l hq
          refine e_blk 1 70 _ _ (pc' := 93) (L' := [some (.ref l0), some (.int l1), some (.int l2), some (.ref b8)]) (st' := []) rfl ?_
          refine e_drp [true, true, true, false] (L' := [some (.ref l0), some (.int l1), some (.int l2), none]) rfl ?_
          exact x_X6_wake_93 (fun M l0 l1 l2 h => x_X6_wake_37  z M l0 l1 l2 h) h
def V_X6_wake (K : Rs → Mm → Prop) (M : Mm) (a0 : Nat) : Prop := (ob M a0 6 ∧ (((mI M a0 8) = 0 → ∀ M2, M2 = sI M a0 8 (1 : Int32) → ∃ b3, mP M2 a0 4 = some b3 ∧ (ob M2 b3 1 ∧ ∀ x5 : Int32, x5 = (mI M2 b3 4) → V_X6_endRuns (kV (fun M6 => ∃ y, V_X6_wake_37 K  y M6 a0 x5 (0 : Int32)) (fun _ _ => False)) M2 a0)) ∧ (¬ (mI M a0 8) = 0 → K (.inr "java/lang/IllegalStateException") M)))
set_option maxRecDepth 100000 in
set_option maxHeartbeats 4000000 in
theorem x_X6_wake {G : Gx} {K : Rs → Mm → Prop} {M : Mm} {a0 : Nat} (h : V_X6_wake K M a0) : MC G mi_X6_wake [.ref a0] M K := by
  unfold V_X6_wake at h
  refine mc_of rfl (by decide +kernel) dc_X6_wake (Nat.le_of_ble_eq_true rfl) 3 (Nat.le_of_ble_eq_true rfl) ?_
  show E G mi_X6_wake K M 0 0 0 [some (.ref a0), none, none, none] []
  refine e_blk 1 0 _ _ (pc' := 1) (L' := [some (.ref a0), none, none, none]) (st' := [.ref a0]) rfl ?_
  obtain ⟨ho1, h⟩ := h
  refine e_getI 6 8 rfl rfl (by decide) (aw (i := 341) (by decide +kernel) rfl) ho1 rfl ?_
  refine e_if_eq 18 rfl rfl (fun hc => ?_) (fun hc => ?_)
  · replace h := h.1 hc
    refine e_blk 2 18 _ _ (pc' := 20) (L' := [some (.ref a0), none, none, none]) (st' := [.int (1 : Int32), .ref a0]) rfl ?_
    refine e_putZ 6 8 rfl rfl (by decide) (aw (i := 341) (by decide +kernel) rfl) rfl ho1 rfl (by decide) ?_
    generalize hM2 : sI M a0 8 (1 : Int32) = M2
    replace h := h M2 hM2.symm
    replace ho1 : ob M2 a0 6 := hM2 ▸ ob_sI ho1
    refine e_blk 1 23 _ _ (pc' := 24) (L' := [some (.ref a0), none, none, none]) (st' := [.ref a0]) rfl ?_
    obtain ⟨b3, hbb3, h⟩ := h
    refine e_getR 6 4 rfl rfl (by decide) (aw (i := 337) (by decide +kernel) rfl) ho1 rfl hbb3 ?_
    obtain ⟨ho4, h⟩ := h
    refine e_getI 1 4 rfl rfl (by decide) (aw (i := 228) (by decide +kernel) rfl) ho4 rfl ?_
    refine e_blk 2 30 _ _ (pc' := 32) (L' := [some (.ref a0), some (.int (mI M2 b3 4)), none, none]) (st' := [.ref a0]) rfl ?_
    generalize hx_x5 : ((mI M2 b3 4) : Int32) = x5
    replace h := h x5 hx_x5.symm
    refine e_callV (As := []) (rest := []) (ci := 6) rfl (x_X6_endRuns h) ho1 rfl rfl rfl (aw (i := 968) (by decide +kernel) rfl) wn_X6_endRuns wv_X6_endRuns wi_X6_endRuns wc_X6_endRuns (show cok mi_X6_wake mi_X6_endRuns 0 0 0 = true by decide +kernel) (Nat.le_of_ble_eq_true rfl) (fun v9 M6 hq => ?_) (fun X M9 hq => False.elim hq)
    obtain ⟨rfl, h⟩ := kV_l hq
    refine e_blk 2 35 _ _ (pc' := 37) (L' := [some (.ref a0), some (.int x5), some (.int (0 : Int32)), none]) (st' := []) rfl ?_
    refine e_drp [true, true, true, false] (L' := [some (.ref a0), some (.int x5), some (.int (0 : Int32)), none]) rfl ?_
    obtain ⟨y, h⟩ := h
    exact x_X6_wake_37  y _ _ _ _ h
  · replace h := h.2 hc
    exact e_thrW (j := 27) "java/lang/IllegalStateException" "awake" rfl rfl rfl rfl rfl (by decide +kernel) rfl (aw (i := 491) (by decide +kernel) rfl) (aw (i := 70) (by decide +kernel) rfl) (by decide) at_IllegalStateException gd_IllegalStateException (by decide) (Nat.le_of_ble_eq_true rfl) (by decide) (by decide) h
def V_X6_log_15 (K : Rs → Mm → Prop)  (M : Mm)  : Prop := K (.inr "java/lang/IndexOutOfBoundsException") M
set_option maxRecDepth 100000 in
set_option maxHeartbeats 4000000 in
theorem x_X6_log_15 {G : Gx} {K : Rs → Mm → Prop}  {M : Mm}  (h : V_X6_log_15 K  M ) : E G mi_X6_log K M 0 0 15 [none, none, none] [] := by
  unfold V_X6_log_15 at h
  exact e_thrW (j := 28) "java/lang/IndexOutOfBoundsException" "no such line" rfl rfl rfl rfl rfl (by decide +kernel) rfl (aw (i := 382) (by decide +kernel) rfl) (aw (i := 68) (by decide +kernel) rfl) (by decide) at_IndexOutOfBoundsException gd_IndexOutOfBoundsException (by decide) (Nat.le_of_ble_eq_true rfl) (by decide) (by decide) h
def V_X6_log (K : Rs → Mm → Prop) (M : Mm) (a0 : Nat) (a1 : Int32) (a2 : Int32) : Prop := ((a1 < 0 → V_X6_log_15 K  M ) ∧ (¬ a1 < 0 → (ob M a0 6 ∧ ∃ b2, mP M a0 4 = some b2 ∧ (ob M b2 1 ∧ V_X1_kept (kI (fun r5 M4 => ((a1 < r5 → V_X6_checkWhat (kV (fun M6 => ((((a2).toInt < 0 ∨ 2 < (a2).toInt) → (ob M6 a0 6 ∧ ∃ b9, mP M6 a0 4 = some b9 ∧ (ob M6 b9 1 ∧ ∃ b11, mP M6 b9 3 = some b11 ∧ (ob M6 b11 9 ∧ (vp_in a1 (mN M6 b11) ∧ K (.inl (some (.int (mI M6 b11 (a1).toNatClampNeg)))) M6))))) ∧ ((a2 = 0 → (ob M6 a0 6 ∧ ∃ b16, mP M6 a0 4 = some b16 ∧ (ob M6 b16 1 ∧ ∃ b18, mP M6 b16 0 = some b18 ∧ (ob M6 b18 9 ∧ (vp_in a1 (mN M6 b18) ∧ K (.inl (some (.int (mI M6 b18 (a1).toNatClampNeg)))) M6))))) ∧ ((a2 = 1 → (ob M6 a0 6 ∧ ∃ b23, mP M6 a0 4 = some b23 ∧ (ob M6 b23 1 ∧ ∃ b25, mP M6 b23 1 = some b25 ∧ (ob M6 b25 9 ∧ (vp_in a1 (mN M6 b25) ∧ K (.inl (some (.int (mI M6 b25 (a1).toNatClampNeg)))) M6))))) ∧ ((a2 = 2 → (ob M6 a0 6 ∧ ∃ b30, mP M6 a0 4 = some b30 ∧ (ob M6 b30 1 ∧ ∃ b32, mP M6 b30 2 = some b32 ∧ (ob M6 b32 9 ∧ (vp_in a1 (mN M6 b32) ∧ K (.inl (some (.int (mI M6 b32 (a1).toNatClampNeg)))) M6))))) ∧ True))))) (fun X M => K (.inr X) M)) M4 a2 (3 : Int32)) ∧ (¬ a1 < r5 → V_X6_log_15 K  M4 ))) (fun _ _ => False)) M b2))))
set_option maxRecDepth 100000 in
set_option maxHeartbeats 4000000 in
theorem x_X6_log {G : Gx} {K : Rs → Mm → Prop} {M : Mm} {a0 : Nat} {a1 : Int32} {a2 : Int32} (h : V_X6_log K M a0 a1 a2) : MC G mi_X6_log [.ref a0, .int a1, .int a2] M K := by
  unfold V_X6_log at h
  refine mc_of rfl (by decide +kernel) dc_X6_log (Nat.le_of_ble_eq_true rfl) 0 (Nat.le_of_ble_eq_true rfl) ?_
  show E G mi_X6_log K M 0 0 0 [some (.ref a0), some (.int a1), some (.int a2)] []
  refine e_blk 1 0 _ _ (pc' := 1) (L' := [some (.ref a0), some (.int a1), some (.int a2)]) (st' := [.int a1]) rfl ?_
  refine e_if_lt 15 rfl rfl (fun hc => ?_) (fun hc => ?_)
  · replace h := h.1 hc
    refine e_drp [false, false, false] (L' := [none, none, none]) rfl ?_
    exact x_X6_log_15  h
  · replace h := h.2 hc
    refine e_blk 2 4 _ _ (pc' := 6) (L' := [some (.ref a0), some (.int a1), some (.int a2)]) (st' := [.ref a0, .int a1]) rfl ?_
    obtain ⟨ho1, h⟩ := h
    obtain ⟨b2, hbb2, h⟩ := h
    refine e_getR 6 4 rfl rfl (by decide) (aw (i := 337) (by decide +kernel) rfl) ho1 rfl hbb2 ?_
    obtain ⟨ho3, h⟩ := h
    refine e_callV (As := []) (rest := [.int a1]) (ci := 1) rfl (x_X1_kept h) ho3 rfl rfl rfl (aw (i := 1042) (by decide +kernel) rfl) wn_X1_kept wv_X1_kept wi_X1_kept wc_X1_kept (show cok mi_X6_log mi_X1_kept 0 0 0 = true by decide +kernel) (Nat.le_of_ble_eq_true rfl) (fun v9 M4 hq => ?_) (fun X M9 hq => False.elim hq)
    obtain ⟨r5, rfl, h⟩ := kI_l hq
    refine e_icmp_lt 26 rfl rfl (fun hc => ?_) (fun hc => ?_)
    · replace h := h.1 hc
      refine e_blk 2 26 _ _ (pc' := 28) (L' := [some (.ref a0), some (.int a1), some (.int a2)]) (st' := [.int (3 : Int32), .int a2]) rfl ?_
      refine e_callS (As := [.int a2, .int (3 : Int32)]) (rest := []) rfl (x_X6_checkWhat h) rfl (aw (i := 518) (by decide +kernel) rfl) ws_X6_checkWhat wi_X6_checkWhat wc_X6_checkWhat (show cok mi_X6_log mi_X6_checkWhat 0 0 2 = true by decide +kernel) (Nat.le_of_ble_eq_true rfl) (fun v9 M6 hq => ?_) (fun X M9 hq => et_out rfl (by decide) (by decide) hq)
      obtain ⟨rfl, h⟩ := kV_l hq
      refine e_blk 1 31 _ _ (pc' := 32) (L' := [some (.ref a0), some (.int a1), some (.int a2)]) (st' := [.int a2]) rfl ?_
      by_cases hs7 : (a2).toInt < 0 ∨ 2 < (a2).toInt
      · replace h := h.1 hs7
        refine e_swO 90 rfl hs7 rfl ?_
        refine e_blk 1 90 _ _ (pc' := 91) (L' := [some (.ref a0), some (.int a1), some (.int a2)]) (st' := [.ref a0]) rfl ?_
        obtain ⟨ho8, h⟩ := h
        obtain ⟨b9, hbb9, h⟩ := h
        refine e_getR 6 4 rfl rfl (by decide) (aw (i := 337) (by decide +kernel) rfl) ho8 rfl hbb9 ?_
        obtain ⟨ho10, h⟩ := h
        obtain ⟨b11, hbb11, h⟩ := h
        refine e_getR 1 3 rfl rfl (by decide) (aw (i := 226) (by decide +kernel) rfl) ho10 rfl hbb11 ?_
        refine e_blk 1 97 _ _ (pc' := 98) (L' := [some (.ref a0), some (.int a1), some (.int a2)]) (st' := [.int a1, .ref b11]) rfl ?_
        obtain ⟨ho12, h⟩ := h
        obtain ⟨hi13, h⟩ := h
        refine e_iald rfl ho12 hi13 ?_
        exact e_reti rfl rfl (by decide) (by decide) h
      replace h := h.2
      by_cases he14 : a2 = 0
      · replace h := h.1 he14
        refine e_swI (28) 60 rfl (fun q => hs7 (Or.inl q)) (fun q => hs7 (Or.inr q)) (by rw [he14]; decide) rfl ?_
        refine e_blk 1 60 _ _ (pc' := 61) (L' := [some (.ref a0), some (.int a1), some (.int a2)]) (st' := [.ref a0]) rfl ?_
        obtain ⟨ho15, h⟩ := h
        obtain ⟨b16, hbb16, h⟩ := h
        refine e_getR 6 4 rfl rfl (by decide) (aw (i := 337) (by decide +kernel) rfl) ho15 rfl hbb16 ?_
        obtain ⟨ho17, h⟩ := h
        obtain ⟨b18, hbb18, h⟩ := h
        refine e_getR 1 0 rfl rfl (by decide) (aw (i := 220) (by decide +kernel) rfl) ho17 rfl hbb18 ?_
        refine e_blk 1 67 _ _ (pc' := 68) (L' := [some (.ref a0), some (.int a1), some (.int a2)]) (st' := [.int a1, .ref b18]) rfl ?_
        obtain ⟨ho19, h⟩ := h
        obtain ⟨hi20, h⟩ := h
        refine e_iald rfl ho19 hi20 ?_
        exact e_reti rfl rfl (by decide) (by decide) h
      replace h := h.2
      by_cases he21 : a2 = 1
      · replace h := h.1 he21
        refine e_swI (38) 70 rfl (fun q => hs7 (Or.inl q)) (fun q => hs7 (Or.inr q)) (by rw [he21]; decide) rfl ?_
        refine e_blk 1 70 _ _ (pc' := 71) (L' := [some (.ref a0), some (.int a1), some (.int a2)]) (st' := [.ref a0]) rfl ?_
        obtain ⟨ho22, h⟩ := h
        obtain ⟨b23, hbb23, h⟩ := h
        refine e_getR 6 4 rfl rfl (by decide) (aw (i := 337) (by decide +kernel) rfl) ho22 rfl hbb23 ?_
        obtain ⟨ho24, h⟩ := h
        obtain ⟨b25, hbb25, h⟩ := h
        refine e_getR 1 1 rfl rfl (by decide) (aw (i := 222) (by decide +kernel) rfl) ho24 rfl hbb25 ?_
        refine e_blk 1 77 _ _ (pc' := 78) (L' := [some (.ref a0), some (.int a1), some (.int a2)]) (st' := [.int a1, .ref b25]) rfl ?_
        obtain ⟨ho26, h⟩ := h
        obtain ⟨hi27, h⟩ := h
        refine e_iald rfl ho26 hi27 ?_
        exact e_reti rfl rfl (by decide) (by decide) h
      replace h := h.2
      by_cases he28 : a2 = 2
      · replace h := h.1 he28
        refine e_swI (48) 80 rfl (fun q => hs7 (Or.inl q)) (fun q => hs7 (Or.inr q)) (by rw [he28]; decide) rfl ?_
        refine e_blk 1 80 _ _ (pc' := 81) (L' := [some (.ref a0), some (.int a1), some (.int a2)]) (st' := [.ref a0]) rfl ?_
        obtain ⟨ho29, h⟩ := h
        obtain ⟨b30, hbb30, h⟩ := h
        refine e_getR 6 4 rfl rfl (by decide) (aw (i := 337) (by decide +kernel) rfl) ho29 rfl hbb30 ?_
        obtain ⟨ho31, h⟩ := h
        obtain ⟨b32, hbb32, h⟩ := h
        refine e_getR 1 2 rfl rfl (by decide) (aw (i := 224) (by decide +kernel) rfl) ho31 rfl hbb32 ?_
        refine e_blk 1 87 _ _ (pc' := 88) (L' := [some (.ref a0), some (.int a1), some (.int a2)]) (st' := [.int a1, .ref b32]) rfl ?_
        obtain ⟨ho33, h⟩ := h
        obtain ⟨hi34, h⟩ := h
        refine e_iald rfl ho33 hi34 ?_
        exact e_reti rfl rfl (by decide) (by decide) h
      replace h := h.2
      exfalso
      have the14 : (a2).toInt ≠ 0 := fun q => he14 (Int32.toInt_inj.mp (q.trans (by decide)))
      have the21 : (a2).toInt ≠ 1 := fun q => he21 (Int32.toInt_inj.mp (q.trans (by decide)))
      have the28 : (a2).toInt ≠ 2 := fun q => he28 (Int32.toInt_inj.mp (q.trans (by decide)))
      omega
    · replace h := h.2 hc
      refine e_drp [false, false, false] (L' := [none, none, none]) rfl ?_
      exact x_X6_log_15  h
def V_X6_tear (K : Rs → Mm → Prop) (M : Mm) (a0 : Nat) : Prop := (ob M a0 6 ∧ ∃ b2, mP M a0 4 = some b2 ∧ (ob M b2 1 ∧ ∀ x4 : Int32, x4 = (mI M b2 4) → ∃ b5, mP M a0 4 = some b5 ∧ (ob M b5 1 ∧ ∀ M7, M7 = sI M b5 4 (0 : Int32) → K (.inl (some (.int x4))) M7)))
set_option maxRecDepth 100000 in
set_option maxHeartbeats 4000000 in
theorem x_X6_tear {G : Gx} {K : Rs → Mm → Prop} {M : Mm} {a0 : Nat} (h : V_X6_tear K M a0) : MC G mi_X6_tear [.ref a0] M K := by
  unfold V_X6_tear at h
  refine mc_of rfl (by decide +kernel) dc_X6_tear (Nat.le_of_ble_eq_true rfl) 1 (Nat.le_of_ble_eq_true rfl) ?_
  show E G mi_X6_tear K M 0 0 0 [some (.ref a0), none] []
  refine e_blk 1 0 _ _ (pc' := 1) (L' := [some (.ref a0), none]) (st' := [.ref a0]) rfl ?_
  obtain ⟨ho1, h⟩ := h
  obtain ⟨b2, hbb2, h⟩ := h
  refine e_getR 6 4 rfl rfl (by decide) (aw (i := 337) (by decide +kernel) rfl) ho1 rfl hbb2 ?_
  obtain ⟨ho3, h⟩ := h
  refine e_getI 1 4 rfl rfl (by decide) (aw (i := 228) (by decide +kernel) rfl) ho3 rfl ?_
  refine e_blk 2 7 _ _ (pc' := 9) (L' := [some (.ref a0), some (.int (mI M b2 4))]) (st' := [.ref a0]) rfl ?_
  generalize hx_x4 : ((mI M b2 4) : Int32) = x4
  replace h := h x4 hx_x4.symm
  obtain ⟨b5, hbb5, h⟩ := h
  refine e_getR 6 4 rfl rfl (by decide) (aw (i := 337) (by decide +kernel) rfl) ho1 rfl hbb5 ?_
  refine e_blk 1 12 _ _ (pc' := 13) (L' := [some (.ref a0), some (.int x4)]) (st' := [.int (0 : Int32), .ref b5]) rfl ?_
  obtain ⟨ho6, h⟩ := h
  refine e_putI 1 4 rfl rfl (by decide) (aw (i := 228) (by decide +kernel) rfl) rfl ho6 rfl ?_
  generalize hM7 : sI M b5 4 (0 : Int32) = M7
  replace h := h M7 hM7.symm
  replace ho1 : ob M7 a0 6 := hM7 ▸ ob_sI ho1
  replace ho3 : ob M7 b2 1 := hM7 ▸ ob_sI ho3
  replace ho6 : ob M7 b5 1 := hM7 ▸ ob_sI ho6
  refine e_blk 1 16 _ _ (pc' := 17) (L' := [some (.ref a0), some (.int x4)]) (st' := [.int x4]) rfl ?_
  exact e_reti rfl rfl (by decide) (by decide) h
def V_X6_runsUnderWay_4 (K : Rs → Mm → Prop)  : Nat → Mm → Nat → Int32 → Int32 → Prop
  | 0, _, _, _, _ => False
  | z + 1, M, l0, l1, l2 => (((12 : Int32) ≤ l2 → K (.inl (some (.int l1))) M) ∧ (¬ (12 : Int32) ≤ l2 → (ob M l0 6 ∧ ∃ b2, mP M l0 2 = some b2 ∧ (ob M b2 12 ∧ (vp_in l2 (mN M b2) ∧ ∃ b5, mP M b2 (l2).toNatClampNeg = some b5 ∧ (ob M b5 2 ∧ ∀ x7 : Int32, x7 = (l1 + (mI M b5 11)) → ∀ x8 : Int32, x8 = (l2 + (1 : Int32)) → V_X6_runsUnderWay_4 K  z M l0 x7 x8))))))
set_option maxRecDepth 100000 in
set_option maxHeartbeats 4000000 in
theorem x_X6_runsUnderWay_4 {G : Gx} {K : Rs → Mm → Prop}  : ∀ (z : Nat) (M : Mm) (l0 : Nat) (l1 : Int32) (l2 : Int32), V_X6_runsUnderWay_4 K  z M l0 l1 l2 → E G mi_X6_runsUnderWay K M 0 0 4 [some (.ref l0), some (.int l1), some (.int l2)] []
  | 0, M, l0, l1, l2, h => False.elim h
  | z + 1, M, l0, l1, l2, h => by
    unfold V_X6_runsUnderWay_4 at h
    refine e_blk 2 4 _ _ (pc' := 7) (L' := [some (.ref l0), some (.int l1), some (.int l2)]) (st' := [.int (12 : Int32), .int l2]) rfl ?_
    refine e_icmp_ge 28 rfl rfl (fun hc => ?_) (fun hc => ?_)
    · replace h := h.1 hc
      refine e_blk 1 28 _ _ (pc' := 29) (L' := [some (.ref l0), some (.int l1), some (.int l2)]) (st' := [.int l1]) rfl ?_
      exact e_reti rfl rfl (by decide) (by decide) h
    · replace h := h.2 hc
      refine e_blk 2 10 _ _ (pc' := 12) (L' := [some (.ref l0), some (.int l1), some (.int l2)]) (st' := [.ref l0, .int l1]) rfl ?_
      obtain ⟨ho1, h⟩ := h
      obtain ⟨b2, hbb2, h⟩ := h
      refine e_getR 6 2 rfl rfl (by decide) (aw (i := 335) (by decide +kernel) rfl) ho1 rfl hbb2 ?_
      refine e_blk 1 15 _ _ (pc' := 16) (L' := [some (.ref l0), some (.int l1), some (.int l2)]) (st' := [.int l2, .ref b2, .int l1]) rfl ?_
      obtain ⟨ho3, h⟩ := h
      obtain ⟨hi4, h⟩ := h
      obtain ⟨b5, hbb5, h⟩ := h
      refine e_aaldOR rfl ho3 hi4 hbb5 ?_
      obtain ⟨ho6, h⟩ := h
      refine e_getI 2 11 rfl rfl (by decide) (aw (i := 289) (by decide +kernel) rfl) ho6 rfl ?_
      refine e_blk 4 20 _ _ (pc' := 4) (L' := [some (.ref l0), some (.int (l1 + (mI M b5 11))), some (.int (l2 + (1 : Int32)))]) (st' := []) rfl ?_
      generalize hx_x7 : ((l1 + (mI M b5 11)) : Int32) = x7
      replace h := h x7 hx_x7.symm
      generalize hx_x8 : ((l2 + (1 : Int32)) : Int32) = x8
      replace h := h x8 hx_x8.symm
      refine e_drp [true, true, true] (L' := [some (.ref l0), some (.int x7), some (.int x8)]) rfl ?_
      exact x_X6_runsUnderWay_4  z _ _ _ _ h
def V_X6_runsUnderWay (K : Rs → Mm → Prop) (M : Mm) (a0 : Nat) : Prop := ∃ y, V_X6_runsUnderWay_4 K  y M a0 (0 : Int32) (0 : Int32)
set_option maxRecDepth 100000 in
set_option maxHeartbeats 4000000 in
theorem x_X6_runsUnderWay {G : Gx} {K : Rs → Mm → Prop} {M : Mm} {a0 : Nat} (h : V_X6_runsUnderWay K M a0) : MC G mi_X6_runsUnderWay [.ref a0] M K := by
  unfold V_X6_runsUnderWay at h
  refine mc_of rfl (by decide +kernel) dc_X6_runsUnderWay (Nat.le_of_ble_eq_true rfl) 2 (Nat.le_of_ble_eq_true rfl) ?_
  show E G mi_X6_runsUnderWay K M 0 0 0 [some (.ref a0), none, none] []
  refine e_blk 4 0 _ _ (pc' := 4) (L' := [some (.ref a0), some (.int (0 : Int32)), some (.int (0 : Int32))]) (st' := []) rfl ?_
  refine e_drp [true, true, true] (L' := [some (.ref a0), some (.int (0 : Int32)), some (.int (0 : Int32))]) rfl ?_
  obtain ⟨y, h⟩ := h
  exact x_X6_runsUnderWay_4  y _ _ _ _ h
def V_X6_count_57 (K : Rs → Mm → Prop)  (M : Mm) (s0 : Int32) : Prop := K (.inl (some (.int s0))) M
set_option maxRecDepth 100000 in
set_option maxHeartbeats 4000000 in
theorem x_X6_count_57 {G : Gx} {K : Rs → Mm → Prop}  {M : Mm} {s0 : Int32} (h : V_X6_count_57 K  M s0) : E G mi_X6_count K M 1 6 57 [none, none] [.int s0] := by
  unfold V_X6_count_57 at h
  exact e_reti rfl rfl (by decide) (by decide) h
def V_X6_count (K : Rs → Mm → Prop) (M : Mm) (a0 : Nat) (a1 : Int32) : Prop := V_X6_checkWhat (kV (fun M1 => ((((a1).toInt < 0 ∨ 4 < (a1).toInt) → (ob M1 a0 6 ∧ V_X6_runsUnderWay (kI (fun r5 M4 => K (.inl (some (.int r5))) M4) (fun _ _ => False)) M1 a0)) ∧ ((a1 = 0 → (ob M1 a0 6 ∧ K (.inl (some (.int (mI M1 a0 6)))) M1)) ∧ ((a1 = 1 → (ob M1 a0 6 ∧ (((mI M1 a0 8) = 0 → V_X6_count_57 K  M1 (0 : Int32)) ∧ (¬ (mI M1 a0 8) = 0 → V_X6_count_57 K  M1 (1 : Int32))))) ∧ ((a1 = 2 → (ob M1 a0 6 ∧ V_X6_ordersInUse (kI (fun r13 M12 => K (.inl (some (.int r13))) M12) (fun _ _ => False)) M1 a0)) ∧ ((a1 = 3 → (ob M1 a0 6 ∧ ∃ b16, mP M1 a0 4 = some b16 ∧ (ob M1 b16 1 ∧ K (.inl (some (.int (mI M1 b16 4)))) M1))) ∧ ((a1 = 4 → (ob M1 a0 6 ∧ ∃ b20, mP M1 a0 3 = some b20 ∧ (ob M1 b20 4 ∧ K (.inl (some (.int (mI M1 b20 1)))) M1))) ∧ True))))))) (fun X M => K (.inr X) M)) M a1 (5 : Int32)
set_option maxRecDepth 100000 in
set_option maxHeartbeats 4000000 in
theorem x_X6_count {G : Gx} {K : Rs → Mm → Prop} {M : Mm} {a0 : Nat} {a1 : Int32} (h : V_X6_count K M a0 a1) : MC G mi_X6_count [.ref a0, .int a1] M K := by
  unfold V_X6_count at h
  refine mc_of rfl (by decide +kernel) dc_X6_count (Nat.le_of_ble_eq_true rfl) 0 (Nat.le_of_ble_eq_true rfl) ?_
  show E G mi_X6_count K M 0 0 0 [some (.ref a0), some (.int a1)] []
  refine e_blk 2 0 _ _ (pc' := 2) (L' := [some (.ref a0), some (.int a1)]) (st' := [.int (5 : Int32), .int a1]) rfl ?_
  refine e_callS (As := [.int a1, .int (5 : Int32)]) (rest := []) rfl (x_X6_checkWhat h) rfl (aw (i := 518) (by decide +kernel) rfl) ws_X6_checkWhat wi_X6_checkWhat wc_X6_checkWhat (show cok mi_X6_count mi_X6_checkWhat 0 0 2 = true by decide +kernel) (Nat.le_of_ble_eq_true rfl) (fun v9 M1 hq => ?_) (fun X M9 hq => et_out rfl (by decide) (by decide) hq)
  obtain ⟨rfl, h⟩ := kV_l hq
  refine e_blk 1 5 _ _ (pc' := 6) (L' := [some (.ref a0), some (.int a1)]) (st' := [.int a1]) rfl ?_
  by_cases hs2 : (a1).toInt < 0 ∨ 4 < (a1).toInt
  · replace h := h.1 hs2
    refine e_swO 79 rfl hs2 rfl ?_
    refine e_blk 1 79 _ _ (pc' := 80) (L' := [some (.ref a0), some (.int a1)]) (st' := [.ref a0]) rfl ?_
    obtain ⟨ho3, h⟩ := h
    refine e_callV (As := []) (rest := []) (ci := 6) rfl (x_X6_runsUnderWay h) ho3 rfl rfl rfl (aw (i := 1055) (by decide +kernel) rfl) wn_X6_runsUnderWay wv_X6_runsUnderWay wi_X6_runsUnderWay wc_X6_runsUnderWay (show cok mi_X6_count mi_X6_runsUnderWay 1 6 0 = true by decide +kernel) (Nat.le_of_ble_eq_true rfl) (fun v9 M4 hq => ?_) (fun X M9 hq => False.elim hq)
    obtain ⟨r5, rfl, h⟩ := kI_l hq
    exact e_reti rfl rfl (by decide) (by decide) h
  replace h := h.2
  by_cases he6 : a1 = 0
  · replace h := h.1 he6
    refine e_swI (34) 40 rfl (fun q => hs2 (Or.inl q)) (fun q => hs2 (Or.inr q)) (by rw [he6]; decide) rfl ?_
    refine e_blk 1 40 _ _ (pc' := 41) (L' := [some (.ref a0), some (.int a1)]) (st' := [.ref a0]) rfl ?_
    obtain ⟨ho7, h⟩ := h
    refine e_getI 6 6 rfl rfl (by decide) (aw (i := 339) (by decide +kernel) rfl) ho7 rfl ?_
    exact e_reti rfl rfl (by decide) (by decide) h
  replace h := h.2
  by_cases he8 : a1 = 1
  · replace h := h.1 he8
    refine e_swI (39) 45 rfl (fun q => hs2 (Or.inl q)) (fun q => hs2 (Or.inr q)) (by rw [he8]; decide) rfl ?_
    refine e_blk 1 45 _ _ (pc' := 46) (L' := [some (.ref a0), some (.int a1)]) (st' := [.ref a0]) rfl ?_
    obtain ⟨ho9, h⟩ := h
    refine e_getI 6 8 rfl rfl (by decide) (aw (i := 341) (by decide +kernel) rfl) ho9 rfl ?_
    refine e_if_eq 56 rfl rfl (fun hc => ?_) (fun hc => ?_)
    · replace h := h.1 hc
      refine e_blk 1 56 _ _ (pc' := 57) (L' := [some (.ref a0), some (.int a1)]) (st' := [.int (0 : Int32)]) rfl ?_
      refine e_drp [false, false] (L' := [none, none]) rfl ?_
      exact x_X6_count_57  h
    · replace h := h.2 hc
      refine e_blk 2 52 _ _ (pc' := 57) (L' := [some (.ref a0), some (.int a1)]) (st' := [.int (1 : Int32)]) rfl ?_
      refine e_drp [false, false] (L' := [none, none]) rfl ?_
      exact x_X6_count_57  h
  replace h := h.2
  by_cases he10 : a1 = 2
  · replace h := h.1 he10
    refine e_swI (52) 58 rfl (fun q => hs2 (Or.inl q)) (fun q => hs2 (Or.inr q)) (by rw [he10]; decide) rfl ?_
    refine e_blk 1 58 _ _ (pc' := 59) (L' := [some (.ref a0), some (.int a1)]) (st' := [.ref a0]) rfl ?_
    obtain ⟨ho11, h⟩ := h
    refine e_callV (As := []) (rest := []) (ci := 6) rfl (x_X6_ordersInUse h) ho11 rfl rfl rfl (aw (i := 756) (by decide +kernel) rfl) wn_X6_ordersInUse wv_X6_ordersInUse wi_X6_ordersInUse wc_X6_ordersInUse (show cok mi_X6_count mi_X6_ordersInUse 1 6 0 = true by decide +kernel) (Nat.le_of_ble_eq_true rfl) (fun v9 M12 hq => ?_) (fun X M9 hq => False.elim hq)
    obtain ⟨r13, rfl, h⟩ := kI_l hq
    exact e_reti rfl rfl (by decide) (by decide) h
  replace h := h.2
  by_cases he14 : a1 = 3
  · replace h := h.1 he14
    refine e_swI (57) 63 rfl (fun q => hs2 (Or.inl q)) (fun q => hs2 (Or.inr q)) (by rw [he14]; decide) rfl ?_
    refine e_blk 1 63 _ _ (pc' := 64) (L' := [some (.ref a0), some (.int a1)]) (st' := [.ref a0]) rfl ?_
    obtain ⟨ho15, h⟩ := h
    obtain ⟨b16, hbb16, h⟩ := h
    refine e_getR 6 4 rfl rfl (by decide) (aw (i := 337) (by decide +kernel) rfl) ho15 rfl hbb16 ?_
    obtain ⟨ho17, h⟩ := h
    refine e_getI 1 4 rfl rfl (by decide) (aw (i := 228) (by decide +kernel) rfl) ho17 rfl ?_
    exact e_reti rfl rfl (by decide) (by decide) h
  replace h := h.2
  by_cases he18 : a1 = 4
  · replace h := h.1 he18
    refine e_swI (65) 71 rfl (fun q => hs2 (Or.inl q)) (fun q => hs2 (Or.inr q)) (by rw [he18]; decide) rfl ?_
    refine e_blk 1 71 _ _ (pc' := 72) (L' := [some (.ref a0), some (.int a1)]) (st' := [.ref a0]) rfl ?_
    obtain ⟨ho19, h⟩ := h
    obtain ⟨b20, hbb20, h⟩ := h
    refine e_getR 6 3 rfl rfl (by decide) (aw (i := 336) (by decide +kernel) rfl) ho19 rfl hbb20 ?_
    obtain ⟨ho21, h⟩ := h
    refine e_getI 4 1 rfl rfl (by decide) (aw (i := 194) (by decide +kernel) rfl) ho21 rfl ?_
    exact e_reti rfl rfl (by decide) (by decide) h
  replace h := h.2
  exfalso
  have the6 : (a1).toInt ≠ 0 := fun q => he6 (Int32.toInt_inj.mp (q.trans (by decide)))
  have the8 : (a1).toInt ≠ 1 := fun q => he8 (Int32.toInt_inj.mp (q.trans (by decide)))
  have the10 : (a1).toInt ≠ 2 := fun q => he10 (Int32.toInt_inj.mp (q.trans (by decide)))
  have the14 : (a1).toInt ≠ 3 := fun q => he14 (Int32.toInt_inj.mp (q.trans (by decide)))
  have the18 : (a1).toInt ≠ 4 := fun q => he18 (Int32.toInt_inj.mp (q.trans (by decide)))
  omega
