def is_L_zone : List (Instr × Nat) := [(.aload_n 0, 1), (.iload_n 1, 1), (.iload_n 2, 1), (.invokevirtual 7, 3), (.goto 9, 3), (.astore_n 3, 1), (.iconst 1, 1), (.ireturn, 1), (.astore_n 3, 1), (.iconst 2, 1), (.ireturn, 1), (.iconst 0, 1), (.ireturn, 1)]
abbrev mi_L_zone : MI := (yL_zone, cL_zone, 4, (some .int), [(0, 6, 9, 13), (0, 6, 12, 15)], { frames := 8, cells := 2, slots := 12, locals := 134 }, is_L_zone)
theorem dc_L_zone : dcb cL_zone is_L_zone 0 = true := by decide +kernel
theorem wc_L_zone : cdw mi_L_zone ∈ ALLW := aw (i := 371) (by decide +kernel) rfl
theorem wi_L_zone : Cond.initialized (miY mi_L_zone).cls ∈ ALLW := aw (i := 56) (by decide +kernel) rfl
theorem ws_L_zone : Cond.static (miY mi_L_zone) ∈ ALLW := aw (i := 370) (by decide +kernel) rfl
def is_L_change : List (Instr × Nat) := [(.aload 4, 2), (.iconst 0, 1), (.aload_n 0, 1), (.iload_n 1, 1), (.iload_n 2, 1), (.iload_n 3, 1), (.invokevirtual 17, 3), (.i2l, 1), (.lastore, 1), (.goto 15, 3), (.astore 5, 2), (.iconst 1, 1), (.ireturn, 1), (.astore 5, 2), (.iconst 2, 1), (.ireturn, 1), (.astore 5, 2), (.iconst 3, 1), (.ireturn, 1), (.iconst 0, 1), (.ireturn, 1)]
abbrev mi_L_change : MI := (yL_change, cL_change, 6, (some .int), [(0, 12, 15, 13), (0, 12, 19, 15), (0, 12, 23, 21)], { frames := 8, cells := 5, slots := 30, locals := 135 }, is_L_change)
theorem dc_L_change : dcb cL_change is_L_change 0 = true := by decide +kernel
theorem wc_L_change : cdw mi_L_change ∈ ALLW := aw (i := 475) (by decide +kernel) rfl
theorem wi_L_change : Cond.initialized (miY mi_L_change).cls ∈ ALLW := aw (i := 56) (by decide +kernel) rfl
theorem ws_L_change : Cond.static (miY mi_L_change) ∈ ALLW := aw (i := 474) (by decide +kernel) rfl
def is_L_civil : List (Instr × Nat) := [(.aload 4, 2), (.iconst 0, 1), (.aload_n 0, 1), (.iload_n 1, 1), (.iload_n 2, 1), (.iload_n 3, 1), (.invokevirtual 23, 3), (.i2l, 1), (.lastore, 1), (.goto 11, 3), (.astore 5, 2), (.iconst 1, 1), (.ireturn, 1), (.astore 5, 2), (.iconst 2, 1), (.ireturn, 1), (.iconst 0, 1), (.ireturn, 1)]
abbrev mi_L_civil : MI := (yL_civil, cL_civil, 6, (some .int), [(0, 12, 15, 13), (0, 12, 19, 15)], { frames := 8, cells := 3, slots := 18, locals := 138 }, is_L_civil)
theorem dc_L_civil : dcb cL_civil is_L_civil 0 = true := by decide +kernel
theorem wc_L_civil : cdw mi_L_civil ∈ ALLW := aw (i := 513) (by decide +kernel) rfl
theorem wi_L_civil : Cond.initialized (miY mi_L_civil).cls ∈ ALLW := aw (i := 56) (by decide +kernel) rfl
theorem ws_L_civil : Cond.static (miY mi_L_civil) ∈ ALLW := aw (i := 512) (by decide +kernel) rfl
def is_L_minute : List (Instr × Nat) := [(.aload 7, 2), (.iconst 0, 1), (.aload_n 0, 1), (.iload_n 1, 1), (.iload_n 2, 1), (.iload_n 3, 1), (.iload 4, 2), (.iload 5, 2), (.iload 6, 2), (.invokevirtual 26, 3), (.i2l, 1), (.lastore, 1), (.goto 11, 3), (.astore 8, 2), (.iconst 1, 1), (.ireturn, 1), (.astore 8, 2), (.iconst 2, 1), (.ireturn, 1), (.iconst 0, 1), (.ireturn, 1)]
abbrev mi_L_minute : MI := (yL_minute, cL_minute, 9, (some .int), [(0, 18, 21, 13), (0, 18, 25, 15)], { frames := 8, cells := 3, slots := 18, locals := 140 }, is_L_minute)
theorem dc_L_minute : dcb cL_minute is_L_minute 0 = true := by decide +kernel
theorem wc_L_minute : cdw mi_L_minute ∈ ALLW := aw (i := 550) (by decide +kernel) rfl
theorem wi_L_minute : Cond.initialized (miY mi_L_minute).cls ∈ ALLW := aw (i := 56) (by decide +kernel) rfl
theorem ws_L_minute : Cond.static (miY mi_L_minute) ∈ ALLW := aw (i := 549) (by decide +kernel) rfl
def is_L_feed : List (Instr × Nat) := [(.aload 4, 2), (.iconst 0, 1), (.aload_n 0, 1), (.lload_n 1, 1), (.iload_n 3, 1), (.invokevirtual 30, 3), (.i2l, 1), (.lastore, 1), (.goto 11, 3), (.astore 5, 2), (.iconst 1, 1), (.ireturn, 1), (.astore 5, 2), (.iconst 2, 1), (.ireturn, 1), (.iconst 0, 1), (.ireturn, 1)]
abbrev mi_L_feed : MI := (yL_feed, cL_feed, 6, (some .int), [(0, 11, 14, 15), (0, 11, 18, 21)], { frames := 7, cells := 2, slots := 12, locals := 114 }, is_L_feed)
theorem dc_L_feed : dcb cL_feed is_L_feed 0 = true := by decide +kernel
theorem wc_L_feed : cdw mi_L_feed ∈ ALLW := aw (i := 575) (by decide +kernel) rfl
theorem wi_L_feed : Cond.initialized (miY mi_L_feed).cls ∈ ALLW := aw (i := 56) (by decide +kernel) rfl
theorem ws_L_feed : Cond.static (miY mi_L_feed) ∈ ALLW := aw (i := 574) (by decide +kernel) rfl
def is_L_order : List (Instr × Nat) := [(.aload 6, 2), (.iconst 0, 1), (.aload_n 0, 1), (.iload_n 1, 1), (.iload_n 2, 1), (.iload_n 3, 1), (.iload 4, 2), (.iload 5, 2), (.invokevirtual 34, 3), (.i2l, 1), (.lastore, 1), (.goto 15, 3), (.astore 7, 2), (.iconst 1, 1), (.ireturn, 1), (.astore 7, 2), (.iconst 2, 1), (.ireturn, 1), (.astore 7, 2), (.iconst 3, 1), (.ireturn, 1), (.iconst 0, 1), (.ireturn, 1)]
abbrev mi_L_order : MI := (yL_order, cL_order, 8, (some .int), [(0, 16, 19, 13), (0, 16, 23, 15), (0, 16, 27, 21)], { frames := 12, cells := 3, slots := 18, locals := 274 }, is_L_order)
theorem dc_L_order : dcb cL_order is_L_order 0 = true := by decide +kernel
theorem wc_L_order : cdw mi_L_order ∈ ALLW := aw (i := 588) (by decide +kernel) rfl
theorem wi_L_order : Cond.initialized (miY mi_L_order).cls ∈ ALLW := aw (i := 56) (by decide +kernel) rfl
theorem ws_L_order : Cond.static (miY mi_L_order) ∈ ALLW := aw (i := 587) (by decide +kernel) rfl
def is_L_cancel : List (Instr × Nat) := [(.aload_n 2, 1), (.iconst 0, 1), (.aload_n 0, 1), (.iload_n 1, 1), (.invokevirtual 38, 3), (.i2l, 1), (.lastore, 1), (.goto 6, 3), (.astore_n 3, 1), (.iconst 1, 1), (.ireturn, 1), (.iconst 0, 1), (.ireturn, 1)]
abbrev mi_L_cancel : MI := (yL_cancel, cL_cancel, 4, (some .int), [(0, 9, 12, 13)], { frames := 8, cells := 1, slots := 6, locals := 133 }, is_L_cancel)
theorem dc_L_cancel : dcb cL_cancel is_L_cancel 0 = true := by decide +kernel
theorem wc_L_cancel : cdw mi_L_cancel ∈ ALLW := aw (i := 745) (by decide +kernel) rfl
theorem wi_L_cancel : Cond.initialized (miY mi_L_cancel).cls ∈ ALLW := aw (i := 56) (by decide +kernel) rfl
theorem ws_L_cancel : Cond.static (miY mi_L_cancel) ∈ ALLW := aw (i := 744) (by decide +kernel) rfl
def is_L_told : List (Instr × Nat) := [(.aload_n 3, 1), (.iconst 0, 1), (.aload_n 0, 1), (.iload_n 1, 1), (.iload_n 2, 1), (.invokevirtual 42, 3), (.i2l, 1), (.lastore, 1), (.goto 11, 3), (.astore 4, 2), (.iconst 1, 1), (.ireturn, 1), (.astore 4, 2), (.iconst 2, 1), (.ireturn, 1), (.iconst 0, 1), (.ireturn, 1)]
abbrev mi_L_told : MI := (yL_told, cL_told, 5, (some .int), [(0, 10, 13, 13), (0, 10, 17, 15)], { frames := 8, cells := 2, slots := 12, locals := 134 }, is_L_told)
theorem dc_L_told : dcb cL_told is_L_told 0 = true := by decide +kernel
theorem wc_L_told : cdw mi_L_told ∈ ALLW := aw (i := 762) (by decide +kernel) rfl
theorem wi_L_told : Cond.initialized (miY mi_L_told).cls ∈ ALLW := aw (i := 56) (by decide +kernel) rfl
theorem ws_L_told : Cond.static (miY mi_L_told) ∈ ALLW := aw (i := 761) (by decide +kernel) rfl
def is_L_field : List (Instr × Nat) := [(.aload_n 3, 1), (.iconst 0, 1), (.aload_n 0, 1), (.iload_n 1, 1), (.iload_n 2, 1), (.invokevirtual 46, 3), (.lastore, 1), (.goto 11, 3), (.astore 4, 2), (.iconst 1, 1), (.ireturn, 1), (.astore 4, 2), (.iconst 2, 1), (.ireturn, 1), (.iconst 0, 1), (.ireturn, 1)]
abbrev mi_L_field : MI := (yL_field, cL_field, 5, (some .int), [(0, 9, 12, 13), (0, 9, 16, 15)], { frames := 8, cells := 2, slots := 12, locals := 134 }, is_L_field)
theorem dc_L_field : dcb cL_field is_L_field 0 = true := by decide +kernel
theorem wc_L_field : cdw mi_L_field ∈ ALLW := aw (i := 769) (by decide +kernel) rfl
theorem wi_L_field : Cond.initialized (miY mi_L_field).cls ∈ ALLW := aw (i := 56) (by decide +kernel) rfl
theorem ws_L_field : Cond.static (miY mi_L_field) ∈ ALLW := aw (i := 768) (by decide +kernel) rfl
def is_L_day : List (Instr × Nat) := [(.aload 6, 2), (.iconst 0, 1), (.aload_n 0, 1), (.iload_n 1, 1), (.iload_n 2, 1), (.iload_n 3, 1), (.iload 4, 2), (.iload 5, 2), (.invokevirtual 50, 3), (.ifCond .eq 7, 3), (.lconst 1, 1), (.goto 4, 3), (.lconst 0, 1), (.lastore, 1), (.goto 11, 3), (.astore 7, 2), (.iconst 1, 1), (.ireturn, 1), (.astore 7, 2), (.iconst 2, 1), (.ireturn, 1), (.iconst 0, 1), (.ireturn, 1)]
abbrev mi_L_day : MI := (yL_day, cL_day, 8, (some .int), [(0, 23, 26, 13), (0, 23, 30, 15)], { frames := 8, cells := 3, slots := 18, locals := 138 }, is_L_day)
theorem dc_L_day : dcb cL_day is_L_day 0 = true := by decide +kernel
theorem wc_L_day : cdw mi_L_day ∈ ALLW := aw (i := 777) (by decide +kernel) rfl
theorem wi_L_day : Cond.initialized (miY mi_L_day).cls ∈ ALLW := aw (i := 56) (by decide +kernel) rfl
theorem ws_L_day : Cond.static (miY mi_L_day) ∈ ALLW := aw (i := 776) (by decide +kernel) rfl
def is_L_matches : List (Instr × Nat) := [(.aload_n 3, 1), (.iconst 0, 1), (.aload_n 0, 1), (.iload_n 1, 1), (.iload_n 2, 1), (.invokevirtual 54, 3), (.ifCond .eq 7, 3), (.lconst 1, 1), (.goto 4, 3), (.lconst 0, 1), (.lastore, 1), (.goto 11, 3), (.astore 4, 2), (.iconst 1, 1), (.ireturn, 1), (.astore 4, 2), (.iconst 2, 1), (.ireturn, 1), (.iconst 0, 1), (.ireturn, 1)]
abbrev mi_L_matches : MI := (yL_matches, cL_matches, 5, (some .int), [(0, 17, 20, 13), (0, 17, 24, 15)], { frames := 8, cells := 2, slots := 12, locals := 171 }, is_L_matches)
theorem dc_L_matches : dcb cL_matches is_L_matches 0 = true := by decide +kernel
theorem wc_L_matches : cdw mi_L_matches ∈ ALLW := aw (i := 816) (by decide +kernel) rfl
theorem wi_L_matches : Cond.initialized (miY mi_L_matches).cls ∈ ALLW := aw (i := 56) (by decide +kernel) rfl
theorem ws_L_matches : Cond.static (miY mi_L_matches) ∈ ALLW := aw (i := 815) (by decide +kernel) rfl
def is_L_next : List (Instr × Nat) := [(.aload 4, 2), (.iconst 0, 1), (.aload_n 0, 1), (.iload_n 1, 1), (.iload_n 2, 1), (.iload_n 3, 1), (.invokevirtual 58, 3), (.i2l, 1), (.lastore, 1), (.goto 11, 3), (.astore 5, 2), (.iconst 1, 1), (.ireturn, 1), (.astore 5, 2), (.iconst 2, 1), (.ireturn, 1), (.iconst 0, 1), (.ireturn, 1)]
abbrev mi_L_next : MI := (yL_next, cL_next, 6, (some .int), [(0, 12, 15, 13), (0, 12, 19, 15)], { frames := 8, cells := 3, slots := 18, locals := 172 }, is_L_next)
theorem dc_L_next : dcb cL_next is_L_next 0 = true := by decide +kernel
theorem wc_L_next : cdw mi_L_next ∈ ALLW := aw (i := 876) (by decide +kernel) rfl
theorem wi_L_next : Cond.initialized (miY mi_L_next).cls ∈ ALLW := aw (i := 56) (by decide +kernel) rfl
theorem ws_L_next : Cond.static (miY mi_L_next) ∈ ALLW := aw (i := 875) (by decide +kernel) rfl
def is_L_before : List (Instr × Nat) := [(.aload 4, 2), (.iconst 0, 1), (.aload_n 0, 1), (.iload_n 1, 1), (.iload_n 2, 1), (.iload_n 3, 1), (.invokevirtual 61, 3), (.i2l, 1), (.lastore, 1), (.goto 11, 3), (.astore 5, 2), (.iconst 1, 1), (.ireturn, 1), (.astore 5, 2), (.iconst 2, 1), (.ireturn, 1), (.iconst 0, 1), (.ireturn, 1)]
abbrev mi_L_before : MI := (yL_before, cL_before, 6, (some .int), [(0, 12, 15, 13), (0, 12, 19, 15)], { frames := 8, cells := 3, slots := 18, locals := 172 }, is_L_before)
theorem dc_L_before : dcb cL_before is_L_before 0 = true := by decide +kernel
theorem wc_L_before : cdw mi_L_before ∈ ALLW := aw (i := 888) (by decide +kernel) rfl
theorem wi_L_before : Cond.initialized (miY mi_L_before).cls ∈ ALLW := aw (i := 56) (by decide +kernel) rfl
theorem ws_L_before : Cond.static (miY mi_L_before) ∈ ALLW := aw (i := 887) (by decide +kernel) rfl
def is_L_between : List (Instr × Nat) := [(.aload 4, 2), (.iconst 0, 1), (.aload_n 0, 1), (.iload_n 1, 1), (.iload_n 2, 1), (.iload_n 3, 1), (.invokevirtual 64, 3), (.i2l, 1), (.lastore, 1), (.goto 11, 3), (.astore 5, 2), (.iconst 1, 1), (.ireturn, 1), (.astore 5, 2), (.iconst 2, 1), (.ireturn, 1), (.iconst 0, 1), (.ireturn, 1)]
abbrev mi_L_between : MI := (yL_between, cL_between, 6, (some .int), [(0, 12, 15, 13), (0, 12, 19, 15)], { frames := 8, cells := 4, slots := 24, locals := 172 }, is_L_between)
theorem dc_L_between : dcb cL_between is_L_between 0 = true := by decide +kernel
theorem wc_L_between : cdw mi_L_between ∈ ALLW := aw (i := 919) (by decide +kernel) rfl
theorem wi_L_between : Cond.initialized (miY mi_L_between).cls ∈ ALLW := aw (i := 56) (by decide +kernel) rfl
theorem ws_L_between : Cond.static (miY mi_L_between) ∈ ALLW := aw (i := 918) (by decide +kernel) rfl
def is_L_put : List (Instr × Nat) := [(.aload_n 0, 1), (.iload_n 1, 1), (.invokevirtual 67, 3), (.goto 9, 3), (.astore_n 2, 1), (.iconst 1, 1), (.ireturn, 1), (.astore_n 2, 1), (.iconst 2, 1), (.ireturn, 1), (.iconst 0, 1), (.ireturn, 1)]
abbrev mi_L_put : MI := (yL_put, cL_put, 3, (some .int), [(0, 5, 8, 15), (0, 5, 11, 21)], { frames := 8, cells := 2, slots := 12, locals := 132 }, is_L_put)
theorem dc_L_put : dcb cL_put is_L_put 0 = true := by decide +kernel
theorem wc_L_put : cdw mi_L_put ∈ ALLW := aw (i := 945) (by decide +kernel) rfl
theorem wi_L_put : Cond.initialized (miY mi_L_put).cls ∈ ALLW := aw (i := 56) (by decide +kernel) rfl
theorem ws_L_put : Cond.static (miY mi_L_put) ∈ ALLW := aw (i := 944) (by decide +kernel) rfl
def is_L_pass : List (Instr × Nat) := [(.aload_n 2, 1), (.iconst 0, 1), (.aload_n 0, 1), (.iload_n 1, 1), (.invokevirtual 71, 3), (.i2l, 1), (.lastore, 1), (.goto 6, 3), (.astore_n 3, 1), (.iconst 1, 1), (.ireturn, 1), (.iconst 0, 1), (.ireturn, 1)]
abbrev mi_L_pass : MI := (yL_pass, cL_pass, 4, (some .int), [(0, 9, 12, 15)], { frames := 8, cells := 1, slots := 6, locals := 195 }, is_L_pass)
theorem dc_L_pass : dcb cL_pass is_L_pass 0 = true := by decide +kernel
theorem wc_L_pass : cdw mi_L_pass ∈ ALLW := aw (i := 953) (by decide +kernel) rfl
theorem wi_L_pass : Cond.initialized (miY mi_L_pass).cls ∈ ALLW := aw (i := 56) (by decide +kernel) rfl
theorem ws_L_pass : Cond.static (miY mi_L_pass) ∈ ALLW := aw (i := 952) (by decide +kernel) rfl
def is_L_sleep : List (Instr × Nat) := [(.aload_n 0, 1), (.invokevirtual 74, 3), (.goto 6, 3), (.astore_n 1, 1), (.iconst 1, 1), (.ireturn, 1), (.iconst 0, 1), (.ireturn, 1)]
abbrev mi_L_sleep : MI := (yL_sleep, cL_sleep, 2, (some .int), [(0, 4, 7, 21)], { frames := 7, cells := 1, slots := 6, locals := 110 }, is_L_sleep)
theorem dc_L_sleep : dcb cL_sleep is_L_sleep 0 = true := by decide +kernel
theorem wc_L_sleep : cdw mi_L_sleep ∈ ALLW := aw (i := 1010) (by decide +kernel) rfl
theorem wi_L_sleep : Cond.initialized (miY mi_L_sleep).cls ∈ ALLW := aw (i := 56) (by decide +kernel) rfl
theorem ws_L_sleep : Cond.static (miY mi_L_sleep) ∈ ALLW := aw (i := 1009) (by decide +kernel) rfl
def is_L_wake : List (Instr × Nat) := [(.aload_n 1, 1), (.iconst 0, 1), (.aload_n 0, 1), (.invokevirtual 77, 3), (.i2l, 1), (.lastore, 1), (.goto 6, 3), (.astore_n 2, 1), (.iconst 1, 1), (.ireturn, 1), (.iconst 0, 1), (.ireturn, 1)]
abbrev mi_L_wake : MI := (yL_wake, cL_wake, 3, (some .int), [(0, 8, 11, 21)], { frames := 8, cells := 1, slots := 6, locals := 195 }, is_L_wake)
theorem dc_L_wake : dcb cL_wake is_L_wake 0 = true := by decide +kernel
theorem wc_L_wake : cdw mi_L_wake ∈ ALLW := aw (i := 1017) (by decide +kernel) rfl
theorem wi_L_wake : Cond.initialized (miY mi_L_wake).cls ∈ ALLW := aw (i := 56) (by decide +kernel) rfl
theorem ws_L_wake : Cond.static (miY mi_L_wake) ∈ ALLW := aw (i := 1016) (by decide +kernel) rfl
def is_L_log : List (Instr × Nat) := [(.aload_n 3, 1), (.iconst 0, 1), (.aload_n 0, 1), (.iload_n 1, 1), (.iload_n 2, 1), (.invokevirtual 81, 3), (.i2l, 1), (.lastore, 1), (.goto 11, 3), (.astore 4, 2), (.iconst 1, 1), (.ireturn, 1), (.astore 4, 2), (.iconst 2, 1), (.ireturn, 1), (.iconst 0, 1), (.ireturn, 1)]
abbrev mi_L_log : MI := (yL_log, cL_log, 5, (some .int), [(0, 10, 13, 13), (0, 10, 17, 15)], { frames := 8, cells := 2, slots := 12, locals := 133 }, is_L_log)
theorem dc_L_log : dcb cL_log is_L_log 0 = true := by decide +kernel
theorem wc_L_log : cdw mi_L_log ∈ ALLW := aw (i := 1037) (by decide +kernel) rfl
theorem wi_L_log : Cond.initialized (miY mi_L_log).cls ∈ ALLW := aw (i := 56) (by decide +kernel) rfl
theorem ws_L_log : Cond.static (miY mi_L_log) ∈ ALLW := aw (i := 1036) (by decide +kernel) rfl
def is_L_count : List (Instr × Nat) := [(.aload_n 2, 1), (.iconst 0, 1), (.aload_n 0, 1), (.iload_n 1, 1), (.invokevirtual 84, 3), (.i2l, 1), (.lastore, 1), (.goto 6, 3), (.astore_n 3, 1), (.iconst 1, 1), (.ireturn, 1), (.iconst 0, 1), (.ireturn, 1)]
abbrev mi_L_count : MI := (yL_count, cL_count, 4, (some .int), [(0, 9, 12, 15)], { frames := 8, cells := 1, slots := 6, locals := 132 }, is_L_count)
theorem dc_L_count : dcb cL_count is_L_count 0 = true := by decide +kernel
theorem wc_L_count : cdw mi_L_count ∈ ALLW := aw (i := 1050) (by decide +kernel) rfl
theorem wi_L_count : Cond.initialized (miY mi_L_count).cls ∈ ALLW := aw (i := 56) (by decide +kernel) rfl
theorem ws_L_count : Cond.static (miY mi_L_count) ∈ ALLW := aw (i := 1049) (by decide +kernel) rfl
def V_L_zone (K : Rs → Mm → Prop) (M : Mm) (a0 : Nat) (a1 : Int32) (a2 : Int32) : Prop := (ob M a0 6 ∧ V_X6_zone (kV (fun M2 => K (.inl (some (.int (0 : Int32)))) M2) (fun X3 M4 => (X3 = "java/lang/IndexOutOfBoundsException" ∧ K (.inl (some (.int (1 : Int32)))) M4) ∨ (X3 = "java/lang/IllegalArgumentException" ∧ K (.inl (some (.int (2 : Int32)))) M4))) M a0 a1 a2)
set_option maxRecDepth 100000 in
set_option maxHeartbeats 4000000 in
theorem x_L_zone {G : Gx} {K : Rs → Mm → Prop} {M : Mm} {a0 : Nat} {a1 : Int32} {a2 : Int32} (h : V_L_zone K M a0 a1 a2) : MC G mi_L_zone [.ref a0, .int a1, .int a2] M K := by
  unfold V_L_zone at h
  refine mc_ofH (by decide) (by decide +kernel) dc_L_zone (Nat.le_of_ble_eq_true rfl) 1 (Nat.le_of_ble_eq_true rfl) ?_
  show E G mi_L_zone K M 0 0 0 [some (.ref a0), some (.int a1), some (.int a2), none] []
  refine e_blk 3 0 _ _ (pc' := 3) (L' := [some (.ref a0), some (.int a1), some (.int a2), none]) (st' := [.int a2, .int a1, .ref a0]) rfl ?_
  obtain ⟨ho1, h⟩ := h
  have hthr : ∀ (X3 : String) (M4 : Mm), ((X3 = "java/lang/IndexOutOfBoundsException" ∧ K (.inl (some (.int (1 : Int32)))) M4) ∨ (X3 = "java/lang/IllegalArgumentException" ∧ K (.inl (some (.int (2 : Int32)))) M4)) → ET G mi_L_zone K M4 2 12 3 [some (.ref a0), some (.int a1), some (.int a2), none] [] X3 := by
    intro X3 M4 h
    rcases h with ⟨rfl, h⟩ | ⟨rfl, h⟩
    · refine et_catch [] ⟨0, 6, 9, 13⟩ [⟨0, 6, 12, 15⟩] "java/lang/IndexOutOfBoundsException" rfl (fun z hz => nomatch hz) (by decide) (by decide) (aw (i := 372) (by decide +kernel) rfl) (ao (i := 384) (by decide +kernel) rfl) (fun q => ?_)
      refine e_blk 2 9 _ _ (pc' := 11) (L' := [some (.ref a0), some (.int a1), some (.int a2), some (.ref q)]) (st' := [.int (1 : Int32)]) rfl ?_
      exact e_reti rfl rfl (by decide) (by decide) h
    · refine et_catch [⟨0, 6, 9, 13⟩] ⟨0, 6, 12, 15⟩ [] "java/lang/IllegalArgumentException" rfl (List.forall_mem_cons.mpr ⟨Or.inr ⟨by decide, "java/lang/IndexOutOfBoundsException", (aw (i := 372) (by decide +kernel) rfl), by decide⟩, fun _ hz => nomatch hz⟩) (by decide) (by decide) (aw (i := 373) (by decide +kernel) rfl) (ao (i := 455) (by decide +kernel) rfl) (fun q => ?_)
      refine e_blk 2 12 _ _ (pc' := 14) (L' := [some (.ref a0), some (.int a1), some (.int a2), some (.ref q)]) (st' := [.int (2 : Int32)]) rfl ?_
      exact e_reti rfl rfl (by decide) (by decide) h
  refine e_callV (As := [.int a1, .int a2]) (rest := []) (ci := 6) rfl (x_X6_zone h) ho1 rfl rfl rfl (aw (i := 374) (by decide +kernel) rfl) wn_X6_zone wv_X6_zone wi_X6_zone wc_X6_zone (show cok mi_L_zone mi_X6_zone 0 0 2 = true by decide +kernel) (Nat.le_of_ble_eq_true rfl) (fun v9 M2 hq => ?_) (fun X M9 hq => hthr X M9 hq)
  obtain ⟨rfl, h⟩ := kV_l hq
  refine e_blk 2 6 _ _ (pc' := 16) (L' := [some (.ref a0), some (.int a1), some (.int a2), none]) (st' := [.int (0 : Int32)]) rfl ?_
  exact e_reti rfl rfl (by decide) (by decide) h
def V_L_change (K : Rs → Mm → Prop) (M : Mm) (a0 : Nat) (a1 : Int32) (a2 : Int32) (a3 : Int32) (a4 : Nat) : Prop := (ob M a0 6 ∧ V_X6_change (kI (fun r5 M2 => (ob M2 a4 10 ∧ (vp_in (0 : Int32) (mN M2 a4) ∧ ∀ M8, M8 = sJ M2 a4 ((0 : Int32)).toNatClampNeg ((r5).toInt64) → K (.inl (some (.int (0 : Int32)))) M8))) (fun X3 M4 => (X3 = "java/lang/IndexOutOfBoundsException" ∧ K (.inl (some (.int (1 : Int32)))) M4) ∨ (X3 = "java/lang/IllegalArgumentException" ∧ K (.inl (some (.int (2 : Int32)))) M4) ∨ (X3 = "java/lang/IllegalStateException" ∧ K (.inl (some (.int (3 : Int32)))) M4))) M a0 a1 a2 a3)
set_option maxRecDepth 100000 in
set_option maxHeartbeats 4000000 in
theorem x_L_change {G : Gx} {K : Rs → Mm → Prop} {M : Mm} {a0 : Nat} {a1 : Int32} {a2 : Int32} {a3 : Int32} {a4 : Nat} (h : V_L_change K M a0 a1 a2 a3 a4) : MC G mi_L_change [.ref a0, .int a1, .int a2, .int a3, .ref a4] M K := by
  unfold V_L_change at h
  refine mc_ofH (by decide) (by decide +kernel) dc_L_change (Nat.le_of_ble_eq_true rfl) 1 (Nat.le_of_ble_eq_true rfl) ?_
  show E G mi_L_change K M 0 0 0 [some (.ref a0), some (.int a1), some (.int a2), some (.int a3), some (.ref a4), none] []
  refine e_blk 6 0 _ _ (pc' := 7) (L' := [some (.ref a0), some (.int a1), some (.int a2), some (.int a3), some (.ref a4), none]) (st' := [.int a3, .int a2, .int a1, .ref a0, .int (0 : Int32), .ref a4]) rfl ?_
  obtain ⟨ho1, h⟩ := h
  have hthr : ∀ (X3 : String) (M4 : Mm), ((X3 = "java/lang/IndexOutOfBoundsException" ∧ K (.inl (some (.int (1 : Int32)))) M4) ∨ (X3 = "java/lang/IllegalArgumentException" ∧ K (.inl (some (.int (2 : Int32)))) M4) ∨ (X3 = "java/lang/IllegalStateException" ∧ K (.inl (some (.int (3 : Int32)))) M4)) → ET G mi_L_change K M4 5 30 7 [some (.ref a0), some (.int a1), some (.int a2), some (.int a3), some (.ref a4), none] [.int (0 : Int32), .ref a4] X3 := by
    intro X3 M4 h
    rcases h with ⟨rfl, h⟩ | ⟨rfl, h⟩ | ⟨rfl, h⟩
    · refine et_catch [] ⟨0, 12, 15, 13⟩ [⟨0, 12, 19, 15⟩, ⟨0, 12, 23, 21⟩] "java/lang/IndexOutOfBoundsException" rfl (fun z hz => nomatch hz) (by decide) (by decide) (aw (i := 372) (by decide +kernel) rfl) (ao (i := 384) (by decide +kernel) rfl) (fun q => ?_)
      refine e_blk 2 15 _ _ (pc' := 18) (L' := [some (.ref a0), some (.int a1), some (.int a2), some (.int a3), some (.ref a4), some (.ref q)]) (st' := [.int (1 : Int32)]) rfl ?_
      exact e_reti rfl rfl (by decide) (by decide) h
    · refine et_catch [⟨0, 12, 15, 13⟩] ⟨0, 12, 19, 15⟩ [⟨0, 12, 23, 21⟩] "java/lang/IllegalArgumentException" rfl (List.forall_mem_cons.mpr ⟨Or.inr ⟨by decide, "java/lang/IndexOutOfBoundsException", (aw (i := 372) (by decide +kernel) rfl), by decide⟩, fun _ hz => nomatch hz⟩) (by decide) (by decide) (aw (i := 373) (by decide +kernel) rfl) (ao (i := 455) (by decide +kernel) rfl) (fun q => ?_)
      refine e_blk 2 19 _ _ (pc' := 22) (L' := [some (.ref a0), some (.int a1), some (.int a2), some (.int a3), some (.ref a4), some (.ref q)]) (st' := [.int (2 : Int32)]) rfl ?_
      exact e_reti rfl rfl (by decide) (by decide) h
    · refine et_catch [⟨0, 12, 15, 13⟩, ⟨0, 12, 19, 15⟩] ⟨0, 12, 23, 21⟩ [] "java/lang/IllegalStateException" rfl (List.forall_mem_cons.mpr ⟨Or.inr ⟨by decide, "java/lang/IndexOutOfBoundsException", (aw (i := 372) (by decide +kernel) rfl), by decide⟩, List.forall_mem_cons.mpr ⟨Or.inr ⟨by decide, "java/lang/IllegalArgumentException", (aw (i := 373) (by decide +kernel) rfl), by decide⟩, fun _ hz => nomatch hz⟩⟩) (by decide) (by decide) (aw (i := 476) (by decide +kernel) rfl) (ao (i := 493) (by decide +kernel) rfl) (fun q => ?_)
      refine e_blk 2 23 _ _ (pc' := 26) (L' := [some (.ref a0), some (.int a1), some (.int a2), some (.int a3), some (.ref a4), some (.ref q)]) (st' := [.int (3 : Int32)]) rfl ?_
      exact e_reti rfl rfl (by decide) (by decide) h
  refine e_callV (As := [.int a1, .int a2, .int a3]) (rest := [.int (0 : Int32), .ref a4]) (ci := 6) rfl (x_X6_change h) ho1 rfl rfl rfl (aw (i := 477) (by decide +kernel) rfl) wn_X6_change wv_X6_change wi_X6_change wc_X6_change (show cok mi_L_change mi_X6_change 0 0 3 = true by decide +kernel) (Nat.le_of_ble_eq_true rfl) (fun v9 M2 hq => ?_) (fun X M9 hq => hthr X M9 hq)
  obtain ⟨r5, rfl, h⟩ := kI_l hq
  refine e_blk 1 10 _ _ (pc' := 11) (L' := [some (.ref a0), some (.int a1), some (.int a2), some (.int a3), some (.ref a4), none]) (st' := [.long ((r5).toInt64), .int (0 : Int32), .ref a4]) rfl ?_
  obtain ⟨ho6, h⟩ := h
  obtain ⟨hi7, h⟩ := h
  refine e_last rfl ho6 hi7 ?_
  generalize hM8 : sJ M2 a4 ((0 : Int32)).toNatClampNeg ((r5).toInt64) = M8
  replace h := h M8 hM8.symm
  replace ho6 : ob M8 a4 10 := hM8 ▸ ob_sJ ho6
  refine e_blk 2 12 _ _ (pc' := 28) (L' := [some (.ref a0), some (.int a1), some (.int a2), some (.int a3), some (.ref a4), none]) (st' := [.int (0 : Int32)]) rfl ?_
  exact e_reti rfl rfl (by decide) (by decide) h
def V_L_civil (K : Rs → Mm → Prop) (M : Mm) (a0 : Nat) (a1 : Int32) (a2 : Int32) (a3 : Int32) (a4 : Nat) : Prop := (ob M a0 6 ∧ V_X6_civil (kI (fun r5 M2 => (ob M2 a4 10 ∧ (vp_in (0 : Int32) (mN M2 a4) ∧ ∀ M8, M8 = sJ M2 a4 ((0 : Int32)).toNatClampNeg ((r5).toInt64) → K (.inl (some (.int (0 : Int32)))) M8))) (fun X3 M4 => (X3 = "java/lang/IndexOutOfBoundsException" ∧ K (.inl (some (.int (1 : Int32)))) M4) ∨ (X3 = "java/lang/IllegalArgumentException" ∧ K (.inl (some (.int (2 : Int32)))) M4))) M a0 a1 a2 a3)
set_option maxRecDepth 100000 in
set_option maxHeartbeats 4000000 in
theorem x_L_civil {G : Gx} {K : Rs → Mm → Prop} {M : Mm} {a0 : Nat} {a1 : Int32} {a2 : Int32} {a3 : Int32} {a4 : Nat} (h : V_L_civil K M a0 a1 a2 a3 a4) : MC G mi_L_civil [.ref a0, .int a1, .int a2, .int a3, .ref a4] M K := by
  unfold V_L_civil at h
  refine mc_ofH (by decide) (by decide +kernel) dc_L_civil (Nat.le_of_ble_eq_true rfl) 1 (Nat.le_of_ble_eq_true rfl) ?_
  show E G mi_L_civil K M 0 0 0 [some (.ref a0), some (.int a1), some (.int a2), some (.int a3), some (.ref a4), none] []
  refine e_blk 6 0 _ _ (pc' := 7) (L' := [some (.ref a0), some (.int a1), some (.int a2), some (.int a3), some (.ref a4), none]) (st' := [.int a3, .int a2, .int a1, .ref a0, .int (0 : Int32), .ref a4]) rfl ?_
  obtain ⟨ho1, h⟩ := h
  have hthr : ∀ (X3 : String) (M4 : Mm), ((X3 = "java/lang/IndexOutOfBoundsException" ∧ K (.inl (some (.int (1 : Int32)))) M4) ∨ (X3 = "java/lang/IllegalArgumentException" ∧ K (.inl (some (.int (2 : Int32)))) M4)) → ET G mi_L_civil K M4 3 18 7 [some (.ref a0), some (.int a1), some (.int a2), some (.int a3), some (.ref a4), none] [.int (0 : Int32), .ref a4] X3 := by
    intro X3 M4 h
    rcases h with ⟨rfl, h⟩ | ⟨rfl, h⟩
    · refine et_catch [] ⟨0, 12, 15, 13⟩ [⟨0, 12, 19, 15⟩] "java/lang/IndexOutOfBoundsException" rfl (fun z hz => nomatch hz) (by decide) (by decide) (aw (i := 372) (by decide +kernel) rfl) (ao (i := 384) (by decide +kernel) rfl) (fun q => ?_)
      refine e_blk 2 15 _ _ (pc' := 18) (L' := [some (.ref a0), some (.int a1), some (.int a2), some (.int a3), some (.ref a4), some (.ref q)]) (st' := [.int (1 : Int32)]) rfl ?_
      exact e_reti rfl rfl (by decide) (by decide) h
    · refine et_catch [⟨0, 12, 15, 13⟩] ⟨0, 12, 19, 15⟩ [] "java/lang/IllegalArgumentException" rfl (List.forall_mem_cons.mpr ⟨Or.inr ⟨by decide, "java/lang/IndexOutOfBoundsException", (aw (i := 372) (by decide +kernel) rfl), by decide⟩, fun _ hz => nomatch hz⟩) (by decide) (by decide) (aw (i := 373) (by decide +kernel) rfl) (ao (i := 455) (by decide +kernel) rfl) (fun q => ?_)
      refine e_blk 2 19 _ _ (pc' := 22) (L' := [some (.ref a0), some (.int a1), some (.int a2), some (.int a3), some (.ref a4), some (.ref q)]) (st' := [.int (2 : Int32)]) rfl ?_
      exact e_reti rfl rfl (by decide) (by decide) h
  refine e_callV (As := [.int a1, .int a2, .int a3]) (rest := [.int (0 : Int32), .ref a4]) (ci := 6) rfl (x_X6_civil h) ho1 rfl rfl rfl (aw (i := 514) (by decide +kernel) rfl) wn_X6_civil wv_X6_civil wi_X6_civil wc_X6_civil (show cok mi_L_civil mi_X6_civil 0 0 3 = true by decide +kernel) (Nat.le_of_ble_eq_true rfl) (fun v9 M2 hq => ?_) (fun X M9 hq => hthr X M9 hq)
  obtain ⟨r5, rfl, h⟩ := kI_l hq
  refine e_blk 1 10 _ _ (pc' := 11) (L' := [some (.ref a0), some (.int a1), some (.int a2), some (.int a3), some (.ref a4), none]) (st' := [.long ((r5).toInt64), .int (0 : Int32), .ref a4]) rfl ?_
  obtain ⟨ho6, h⟩ := h
  obtain ⟨hi7, h⟩ := h
  refine e_last rfl ho6 hi7 ?_
  generalize hM8 : sJ M2 a4 ((0 : Int32)).toNatClampNeg ((r5).toInt64) = M8
  replace h := h M8 hM8.symm
  replace ho6 : ob M8 a4 10 := hM8 ▸ ob_sJ ho6
  refine e_blk 2 12 _ _ (pc' := 24) (L' := [some (.ref a0), some (.int a1), some (.int a2), some (.int a3), some (.ref a4), none]) (st' := [.int (0 : Int32)]) rfl ?_
  exact e_reti rfl rfl (by decide) (by decide) h
def V_L_minute (K : Rs → Mm → Prop) (M : Mm) (a0 : Nat) (a1 : Int32) (a2 : Int32) (a3 : Int32) (a4 : Int32) (a5 : Int32) (a6 : Int32) (a7 : Nat) : Prop := (ob M a0 6 ∧ V_X6_minute (kI (fun r5 M2 => (ob M2 a7 10 ∧ (vp_in (0 : Int32) (mN M2 a7) ∧ ∀ M8, M8 = sJ M2 a7 ((0 : Int32)).toNatClampNeg ((r5).toInt64) → K (.inl (some (.int (0 : Int32)))) M8))) (fun X3 M4 => (X3 = "java/lang/IndexOutOfBoundsException" ∧ K (.inl (some (.int (1 : Int32)))) M4) ∨ (X3 = "java/lang/IllegalArgumentException" ∧ K (.inl (some (.int (2 : Int32)))) M4))) M a0 a1 a2 a3 a4 a5 a6)
set_option maxRecDepth 100000 in
set_option maxHeartbeats 4000000 in
theorem x_L_minute {G : Gx} {K : Rs → Mm → Prop} {M : Mm} {a0 : Nat} {a1 : Int32} {a2 : Int32} {a3 : Int32} {a4 : Int32} {a5 : Int32} {a6 : Int32} {a7 : Nat} (h : V_L_minute K M a0 a1 a2 a3 a4 a5 a6 a7) : MC G mi_L_minute [.ref a0, .int a1, .int a2, .int a3, .int a4, .int a5, .int a6, .ref a7] M K := by
  unfold V_L_minute at h
  refine mc_ofH (by decide) (by decide +kernel) dc_L_minute (Nat.le_of_ble_eq_true rfl) 1 (Nat.le_of_ble_eq_true rfl) ?_
  show E G mi_L_minute K M 0 0 0 [some (.ref a0), some (.int a1), some (.int a2), some (.int a3), some (.int a4), some (.int a5), some (.int a6), some (.ref a7), none] []
  refine e_blk 9 0 _ _ (pc' := 13) (L' := [some (.ref a0), some (.int a1), some (.int a2), some (.int a3), some (.int a4), some (.int a5), some (.int a6), some (.ref a7), none]) (st' := [.int a6, .int a5, .int a4, .int a3, .int a2, .int a1, .ref a0, .int (0 : Int32), .ref a7]) rfl ?_
  obtain ⟨ho1, h⟩ := h
  have hthr : ∀ (X3 : String) (M4 : Mm), ((X3 = "java/lang/IndexOutOfBoundsException" ∧ K (.inl (some (.int (1 : Int32)))) M4) ∨ (X3 = "java/lang/IllegalArgumentException" ∧ K (.inl (some (.int (2 : Int32)))) M4)) → ET G mi_L_minute K M4 3 18 13 [some (.ref a0), some (.int a1), some (.int a2), some (.int a3), some (.int a4), some (.int a5), some (.int a6), some (.ref a7), none] [.int (0 : Int32), .ref a7] X3 := by
    intro X3 M4 h
    rcases h with ⟨rfl, h⟩ | ⟨rfl, h⟩
    · refine et_catch [] ⟨0, 18, 21, 13⟩ [⟨0, 18, 25, 15⟩] "java/lang/IndexOutOfBoundsException" rfl (fun z hz => nomatch hz) (by decide) (by decide) (aw (i := 372) (by decide +kernel) rfl) (ao (i := 384) (by decide +kernel) rfl) (fun q => ?_)
      refine e_blk 2 21 _ _ (pc' := 24) (L' := [some (.ref a0), some (.int a1), some (.int a2), some (.int a3), some (.int a4), some (.int a5), some (.int a6), some (.ref a7), some (.ref q)]) (st' := [.int (1 : Int32)]) rfl ?_
      exact e_reti rfl rfl (by decide) (by decide) h
    · refine et_catch [⟨0, 18, 21, 13⟩] ⟨0, 18, 25, 15⟩ [] "java/lang/IllegalArgumentException" rfl (List.forall_mem_cons.mpr ⟨Or.inr ⟨by decide, "java/lang/IndexOutOfBoundsException", (aw (i := 372) (by decide +kernel) rfl), by decide⟩, fun _ hz => nomatch hz⟩) (by decide) (by decide) (aw (i := 373) (by decide +kernel) rfl) (ao (i := 455) (by decide +kernel) rfl) (fun q => ?_)
      refine e_blk 2 25 _ _ (pc' := 28) (L' := [some (.ref a0), some (.int a1), some (.int a2), some (.int a3), some (.int a4), some (.int a5), some (.int a6), some (.ref a7), some (.ref q)]) (st' := [.int (2 : Int32)]) rfl ?_
      exact e_reti rfl rfl (by decide) (by decide) h
  refine e_callV (As := [.int a1, .int a2, .int a3, .int a4, .int a5, .int a6]) (rest := [.int (0 : Int32), .ref a7]) (ci := 6) rfl (x_X6_minute h) ho1 rfl rfl rfl (aw (i := 551) (by decide +kernel) rfl) wn_X6_minute wv_X6_minute wi_X6_minute wc_X6_minute (show cok mi_L_minute mi_X6_minute 0 0 6 = true by decide +kernel) (Nat.le_of_ble_eq_true rfl) (fun v9 M2 hq => ?_) (fun X M9 hq => hthr X M9 hq)
  obtain ⟨r5, rfl, h⟩ := kI_l hq
  refine e_blk 1 16 _ _ (pc' := 17) (L' := [some (.ref a0), some (.int a1), some (.int a2), some (.int a3), some (.int a4), some (.int a5), some (.int a6), some (.ref a7), none]) (st' := [.long ((r5).toInt64), .int (0 : Int32), .ref a7]) rfl ?_
  obtain ⟨ho6, h⟩ := h
  obtain ⟨hi7, h⟩ := h
  refine e_last rfl ho6 hi7 ?_
  generalize hM8 : sJ M2 a7 ((0 : Int32)).toNatClampNeg ((r5).toInt64) = M8
  replace h := h M8 hM8.symm
  replace ho6 : ob M8 a7 10 := hM8 ▸ ob_sJ ho6
  refine e_blk 2 18 _ _ (pc' := 30) (L' := [some (.ref a0), some (.int a1), some (.int a2), some (.int a3), some (.int a4), some (.int a5), some (.int a6), some (.ref a7), none]) (st' := [.int (0 : Int32)]) rfl ?_
  exact e_reti rfl rfl (by decide) (by decide) h
def V_L_feed (K : Rs → Mm → Prop) (M : Mm) (a0 : Nat) (a1 : Int64) (a2 : Int32) (a3 : Nat) : Prop := (ob M a0 6 ∧ V_X6_feed (kI (fun r5 M2 => (ob M2 a3 10 ∧ (vp_in (0 : Int32) (mN M2 a3) ∧ ∀ M8, M8 = sJ M2 a3 ((0 : Int32)).toNatClampNeg ((r5).toInt64) → K (.inl (some (.int (0 : Int32)))) M8))) (fun X3 M4 => (X3 = "java/lang/IllegalArgumentException" ∧ K (.inl (some (.int (1 : Int32)))) M4) ∨ (X3 = "java/lang/IllegalStateException" ∧ K (.inl (some (.int (2 : Int32)))) M4))) M a0 a1 a2)
set_option maxRecDepth 100000 in
set_option maxHeartbeats 4000000 in
theorem x_L_feed {G : Gx} {K : Rs → Mm → Prop} {M : Mm} {a0 : Nat} {a1 : Int64} {a2 : Int32} {a3 : Nat} (h : V_L_feed K M a0 a1 a2 a3) : MC G mi_L_feed [.ref a0, .long a1, .int a2, .ref a3] M K := by
  unfold V_L_feed at h
  refine mc_ofH (by decide) (by decide +kernel) dc_L_feed (Nat.le_of_ble_eq_true rfl) 1 (Nat.le_of_ble_eq_true rfl) ?_
  show E G mi_L_feed K M 0 0 0 [some (.ref a0), some (.long a1), none, some (.int a2), some (.ref a3), none] []
  refine e_blk 5 0 _ _ (pc' := 6) (L' := [some (.ref a0), some (.long a1), none, some (.int a2), some (.ref a3), none]) (st' := [.int a2, .long a1, .ref a0, .int (0 : Int32), .ref a3]) rfl ?_
  obtain ⟨ho1, h⟩ := h
  have hthr : ∀ (X3 : String) (M4 : Mm), ((X3 = "java/lang/IllegalArgumentException" ∧ K (.inl (some (.int (1 : Int32)))) M4) ∨ (X3 = "java/lang/IllegalStateException" ∧ K (.inl (some (.int (2 : Int32)))) M4)) → ET G mi_L_feed K M4 2 12 6 [some (.ref a0), some (.long a1), none, some (.int a2), some (.ref a3), none] [.int (0 : Int32), .ref a3] X3 := by
    intro X3 M4 h
    rcases h with ⟨rfl, h⟩ | ⟨rfl, h⟩
    · refine et_catch [] ⟨0, 11, 14, 15⟩ [⟨0, 11, 18, 21⟩] "java/lang/IllegalArgumentException" rfl (fun z hz => nomatch hz) (by decide) (by decide) (aw (i := 373) (by decide +kernel) rfl) (ao (i := 455) (by decide +kernel) rfl) (fun q => ?_)
      refine e_blk 2 14 _ _ (pc' := 17) (L' := [some (.ref a0), some (.long a1), none, some (.int a2), some (.ref a3), some (.ref q)]) (st' := [.int (1 : Int32)]) rfl ?_
      exact e_reti rfl rfl (by decide) (by decide) h
    · refine et_catch [⟨0, 11, 14, 15⟩] ⟨0, 11, 18, 21⟩ [] "java/lang/IllegalStateException" rfl (List.forall_mem_cons.mpr ⟨Or.inr ⟨by decide, "java/lang/IllegalArgumentException", (aw (i := 373) (by decide +kernel) rfl), by decide⟩, fun _ hz => nomatch hz⟩) (by decide) (by decide) (aw (i := 476) (by decide +kernel) rfl) (ao (i := 493) (by decide +kernel) rfl) (fun q => ?_)
      refine e_blk 2 18 _ _ (pc' := 21) (L' := [some (.ref a0), some (.long a1), none, some (.int a2), some (.ref a3), some (.ref q)]) (st' := [.int (2 : Int32)]) rfl ?_
      exact e_reti rfl rfl (by decide) (by decide) h
  refine e_callV (As := [.long a1, .int a2]) (rest := [.int (0 : Int32), .ref a3]) (ci := 6) rfl (x_X6_feed h) ho1 rfl rfl rfl (aw (i := 576) (by decide +kernel) rfl) wn_X6_feed wv_X6_feed wi_X6_feed wc_X6_feed (show cok mi_L_feed mi_X6_feed 0 0 2 = true by decide +kernel) (Nat.le_of_ble_eq_true rfl) (fun v9 M2 hq => ?_) (fun X M9 hq => hthr X M9 hq)
  obtain ⟨r5, rfl, h⟩ := kI_l hq
  refine e_blk 1 9 _ _ (pc' := 10) (L' := [some (.ref a0), some (.long a1), none, some (.int a2), some (.ref a3), none]) (st' := [.long ((r5).toInt64), .int (0 : Int32), .ref a3]) rfl ?_
  obtain ⟨ho6, h⟩ := h
  obtain ⟨hi7, h⟩ := h
  refine e_last rfl ho6 hi7 ?_
  generalize hM8 : sJ M2 a3 ((0 : Int32)).toNatClampNeg ((r5).toInt64) = M8
  replace h := h M8 hM8.symm
  replace ho6 : ob M8 a3 10 := hM8 ▸ ob_sJ ho6
  refine e_blk 2 11 _ _ (pc' := 23) (L' := [some (.ref a0), some (.long a1), none, some (.int a2), some (.ref a3), none]) (st' := [.int (0 : Int32)]) rfl ?_
  exact e_reti rfl rfl (by decide) (by decide) h
def V_L_order (K : Rs → Mm → Prop) (M : Mm) (a0 : Nat) (a1 : Int32) (a2 : Int32) (a3 : Int32) (a4 : Int32) (a5 : Int32) (a6 : Nat) : Prop := (ob M a0 6 ∧ V_X6_order (kI (fun r5 M2 => (ob M2 a6 10 ∧ (vp_in (0 : Int32) (mN M2 a6) ∧ ∀ M8, M8 = sJ M2 a6 ((0 : Int32)).toNatClampNeg ((r5).toInt64) → K (.inl (some (.int (0 : Int32)))) M8))) (fun X3 M4 => (X3 = "java/lang/IndexOutOfBoundsException" ∧ K (.inl (some (.int (1 : Int32)))) M4) ∨ (X3 = "java/lang/IllegalArgumentException" ∧ K (.inl (some (.int (2 : Int32)))) M4) ∨ (X3 = "java/lang/IllegalStateException" ∧ K (.inl (some (.int (3 : Int32)))) M4))) M a0 a1 a2 a3 a4 a5)
set_option maxRecDepth 100000 in
set_option maxHeartbeats 4000000 in
theorem x_L_order {G : Gx} {K : Rs → Mm → Prop} {M : Mm} {a0 : Nat} {a1 : Int32} {a2 : Int32} {a3 : Int32} {a4 : Int32} {a5 : Int32} {a6 : Nat} (h : V_L_order K M a0 a1 a2 a3 a4 a5 a6) : MC G mi_L_order [.ref a0, .int a1, .int a2, .int a3, .int a4, .int a5, .ref a6] M K := by
  unfold V_L_order at h
  refine mc_ofH (by decide) (by decide +kernel) dc_L_order (Nat.le_of_ble_eq_true rfl) 1 (Nat.le_of_ble_eq_true rfl) ?_
  show E G mi_L_order K M 0 0 0 [some (.ref a0), some (.int a1), some (.int a2), some (.int a3), some (.int a4), some (.int a5), some (.ref a6), none] []
  refine e_blk 8 0 _ _ (pc' := 11) (L' := [some (.ref a0), some (.int a1), some (.int a2), some (.int a3), some (.int a4), some (.int a5), some (.ref a6), none]) (st' := [.int a5, .int a4, .int a3, .int a2, .int a1, .ref a0, .int (0 : Int32), .ref a6]) rfl ?_
  obtain ⟨ho1, h⟩ := h
  have hthr : ∀ (X3 : String) (M4 : Mm), ((X3 = "java/lang/IndexOutOfBoundsException" ∧ K (.inl (some (.int (1 : Int32)))) M4) ∨ (X3 = "java/lang/IllegalArgumentException" ∧ K (.inl (some (.int (2 : Int32)))) M4) ∨ (X3 = "java/lang/IllegalStateException" ∧ K (.inl (some (.int (3 : Int32)))) M4)) → ET G mi_L_order K M4 3 18 11 [some (.ref a0), some (.int a1), some (.int a2), some (.int a3), some (.int a4), some (.int a5), some (.ref a6), none] [.int (0 : Int32), .ref a6] X3 := by
    intro X3 M4 h
    rcases h with ⟨rfl, h⟩ | ⟨rfl, h⟩ | ⟨rfl, h⟩
    · refine et_catch [] ⟨0, 16, 19, 13⟩ [⟨0, 16, 23, 15⟩, ⟨0, 16, 27, 21⟩] "java/lang/IndexOutOfBoundsException" rfl (fun z hz => nomatch hz) (by decide) (by decide) (aw (i := 372) (by decide +kernel) rfl) (ao (i := 384) (by decide +kernel) rfl) (fun q => ?_)
      refine e_blk 2 19 _ _ (pc' := 22) (L' := [some (.ref a0), some (.int a1), some (.int a2), some (.int a3), some (.int a4), some (.int a5), some (.ref a6), some (.ref q)]) (st' := [.int (1 : Int32)]) rfl ?_
      exact e_reti rfl rfl (by decide) (by decide) h
    · refine et_catch [⟨0, 16, 19, 13⟩] ⟨0, 16, 23, 15⟩ [⟨0, 16, 27, 21⟩] "java/lang/IllegalArgumentException" rfl (List.forall_mem_cons.mpr ⟨Or.inr ⟨by decide, "java/lang/IndexOutOfBoundsException", (aw (i := 372) (by decide +kernel) rfl), by decide⟩, fun _ hz => nomatch hz⟩) (by decide) (by decide) (aw (i := 373) (by decide +kernel) rfl) (ao (i := 455) (by decide +kernel) rfl) (fun q => ?_)
      refine e_blk 2 23 _ _ (pc' := 26) (L' := [some (.ref a0), some (.int a1), some (.int a2), some (.int a3), some (.int a4), some (.int a5), some (.ref a6), some (.ref q)]) (st' := [.int (2 : Int32)]) rfl ?_
      exact e_reti rfl rfl (by decide) (by decide) h
    · refine et_catch [⟨0, 16, 19, 13⟩, ⟨0, 16, 23, 15⟩] ⟨0, 16, 27, 21⟩ [] "java/lang/IllegalStateException" rfl (List.forall_mem_cons.mpr ⟨Or.inr ⟨by decide, "java/lang/IndexOutOfBoundsException", (aw (i := 372) (by decide +kernel) rfl), by decide⟩, List.forall_mem_cons.mpr ⟨Or.inr ⟨by decide, "java/lang/IllegalArgumentException", (aw (i := 373) (by decide +kernel) rfl), by decide⟩, fun _ hz => nomatch hz⟩⟩) (by decide) (by decide) (aw (i := 476) (by decide +kernel) rfl) (ao (i := 493) (by decide +kernel) rfl) (fun q => ?_)
      refine e_blk 2 27 _ _ (pc' := 30) (L' := [some (.ref a0), some (.int a1), some (.int a2), some (.int a3), some (.int a4), some (.int a5), some (.ref a6), some (.ref q)]) (st' := [.int (3 : Int32)]) rfl ?_
      exact e_reti rfl rfl (by decide) (by decide) h
  refine e_callV (As := [.int a1, .int a2, .int a3, .int a4, .int a5]) (rest := [.int (0 : Int32), .ref a6]) (ci := 6) rfl (x_X6_order h) ho1 rfl rfl rfl (aw (i := 589) (by decide +kernel) rfl) wn_X6_order wv_X6_order wi_X6_order wc_X6_order (show cok mi_L_order mi_X6_order 0 0 5 = true by decide +kernel) (Nat.le_of_ble_eq_true rfl) (fun v9 M2 hq => ?_) (fun X M9 hq => hthr X M9 hq)
  obtain ⟨r5, rfl, h⟩ := kI_l hq
  refine e_blk 1 14 _ _ (pc' := 15) (L' := [some (.ref a0), some (.int a1), some (.int a2), some (.int a3), some (.int a4), some (.int a5), some (.ref a6), none]) (st' := [.long ((r5).toInt64), .int (0 : Int32), .ref a6]) rfl ?_
  obtain ⟨ho6, h⟩ := h
  obtain ⟨hi7, h⟩ := h
  refine e_last rfl ho6 hi7 ?_
  generalize hM8 : sJ M2 a6 ((0 : Int32)).toNatClampNeg ((r5).toInt64) = M8
  replace h := h M8 hM8.symm
  replace ho6 : ob M8 a6 10 := hM8 ▸ ob_sJ ho6
  refine e_blk 2 16 _ _ (pc' := 32) (L' := [some (.ref a0), some (.int a1), some (.int a2), some (.int a3), some (.int a4), some (.int a5), some (.ref a6), none]) (st' := [.int (0 : Int32)]) rfl ?_
  exact e_reti rfl rfl (by decide) (by decide) h
def V_L_cancel (K : Rs → Mm → Prop) (M : Mm) (a0 : Nat) (a1 : Int32) (a2 : Nat) : Prop := (ob M a0 6 ∧ V_X6_cancel (kI (fun r5 M2 => (ob M2 a2 10 ∧ (vp_in (0 : Int32) (mN M2 a2) ∧ ∀ M8, M8 = sJ M2 a2 ((0 : Int32)).toNatClampNeg ((r5).toInt64) → K (.inl (some (.int (0 : Int32)))) M8))) (fun X3 M4 => (X3 = "java/lang/IndexOutOfBoundsException" ∧ K (.inl (some (.int (1 : Int32)))) M4))) M a0 a1)
set_option maxRecDepth 100000 in
set_option maxHeartbeats 4000000 in
theorem x_L_cancel {G : Gx} {K : Rs → Mm → Prop} {M : Mm} {a0 : Nat} {a1 : Int32} {a2 : Nat} (h : V_L_cancel K M a0 a1 a2) : MC G mi_L_cancel [.ref a0, .int a1, .ref a2] M K := by
  unfold V_L_cancel at h
  refine mc_ofH (by decide) (by decide +kernel) dc_L_cancel (Nat.le_of_ble_eq_true rfl) 1 (Nat.le_of_ble_eq_true rfl) ?_
  show E G mi_L_cancel K M 0 0 0 [some (.ref a0), some (.int a1), some (.ref a2), none] []
  refine e_blk 4 0 _ _ (pc' := 4) (L' := [some (.ref a0), some (.int a1), some (.ref a2), none]) (st' := [.int a1, .ref a0, .int (0 : Int32), .ref a2]) rfl ?_
  obtain ⟨ho1, h⟩ := h
  have hthr : ∀ (X3 : String) (M4 : Mm), ((X3 = "java/lang/IndexOutOfBoundsException" ∧ K (.inl (some (.int (1 : Int32)))) M4)) → ET G mi_L_cancel K M4 1 6 4 [some (.ref a0), some (.int a1), some (.ref a2), none] [.int (0 : Int32), .ref a2] X3 := by
    intro X3 M4 h
    rcases h with ⟨rfl, h⟩
    · refine et_catch [] ⟨0, 9, 12, 13⟩ [] "java/lang/IndexOutOfBoundsException" rfl (fun z hz => nomatch hz) (by decide) (by decide) (aw (i := 372) (by decide +kernel) rfl) (ao (i := 384) (by decide +kernel) rfl) (fun q => ?_)
      refine e_blk 2 12 _ _ (pc' := 14) (L' := [some (.ref a0), some (.int a1), some (.ref a2), some (.ref q)]) (st' := [.int (1 : Int32)]) rfl ?_
      exact e_reti rfl rfl (by decide) (by decide) h
  refine e_callV (As := [.int a1]) (rest := [.int (0 : Int32), .ref a2]) (ci := 6) rfl (x_X6_cancel h) ho1 rfl rfl rfl (aw (i := 746) (by decide +kernel) rfl) wn_X6_cancel wv_X6_cancel wi_X6_cancel wc_X6_cancel (show cok mi_L_cancel mi_X6_cancel 0 0 1 = true by decide +kernel) (Nat.le_of_ble_eq_true rfl) (fun v9 M2 hq => ?_) (fun X M9 hq => hthr X M9 hq)
  obtain ⟨r5, rfl, h⟩ := kI_l hq
  refine e_blk 1 7 _ _ (pc' := 8) (L' := [some (.ref a0), some (.int a1), some (.ref a2), none]) (st' := [.long ((r5).toInt64), .int (0 : Int32), .ref a2]) rfl ?_
  obtain ⟨ho6, h⟩ := h
  obtain ⟨hi7, h⟩ := h
  refine e_last rfl ho6 hi7 ?_
  generalize hM8 : sJ M2 a2 ((0 : Int32)).toNatClampNeg ((r5).toInt64) = M8
  replace h := h M8 hM8.symm
  replace ho6 : ob M8 a2 10 := hM8 ▸ ob_sJ ho6
  refine e_blk 2 9 _ _ (pc' := 16) (L' := [some (.ref a0), some (.int a1), some (.ref a2), none]) (st' := [.int (0 : Int32)]) rfl ?_
  exact e_reti rfl rfl (by decide) (by decide) h
def V_L_told (K : Rs → Mm → Prop) (M : Mm) (a0 : Nat) (a1 : Int32) (a2 : Int32) (a3 : Nat) : Prop := (ob M a0 6 ∧ V_X6_told (kI (fun r5 M2 => (ob M2 a3 10 ∧ (vp_in (0 : Int32) (mN M2 a3) ∧ ∀ M8, M8 = sJ M2 a3 ((0 : Int32)).toNatClampNeg ((r5).toInt64) → K (.inl (some (.int (0 : Int32)))) M8))) (fun X3 M4 => (X3 = "java/lang/IndexOutOfBoundsException" ∧ K (.inl (some (.int (1 : Int32)))) M4) ∨ (X3 = "java/lang/IllegalArgumentException" ∧ K (.inl (some (.int (2 : Int32)))) M4))) M a0 a1 a2)
set_option maxRecDepth 100000 in
set_option maxHeartbeats 4000000 in
theorem x_L_told {G : Gx} {K : Rs → Mm → Prop} {M : Mm} {a0 : Nat} {a1 : Int32} {a2 : Int32} {a3 : Nat} (h : V_L_told K M a0 a1 a2 a3) : MC G mi_L_told [.ref a0, .int a1, .int a2, .ref a3] M K := by
  unfold V_L_told at h
  refine mc_ofH (by decide) (by decide +kernel) dc_L_told (Nat.le_of_ble_eq_true rfl) 1 (Nat.le_of_ble_eq_true rfl) ?_
  show E G mi_L_told K M 0 0 0 [some (.ref a0), some (.int a1), some (.int a2), some (.ref a3), none] []
  refine e_blk 5 0 _ _ (pc' := 5) (L' := [some (.ref a0), some (.int a1), some (.int a2), some (.ref a3), none]) (st' := [.int a2, .int a1, .ref a0, .int (0 : Int32), .ref a3]) rfl ?_
  obtain ⟨ho1, h⟩ := h
  have hthr : ∀ (X3 : String) (M4 : Mm), ((X3 = "java/lang/IndexOutOfBoundsException" ∧ K (.inl (some (.int (1 : Int32)))) M4) ∨ (X3 = "java/lang/IllegalArgumentException" ∧ K (.inl (some (.int (2 : Int32)))) M4)) → ET G mi_L_told K M4 2 12 5 [some (.ref a0), some (.int a1), some (.int a2), some (.ref a3), none] [.int (0 : Int32), .ref a3] X3 := by
    intro X3 M4 h
    rcases h with ⟨rfl, h⟩ | ⟨rfl, h⟩
    · refine et_catch [] ⟨0, 10, 13, 13⟩ [⟨0, 10, 17, 15⟩] "java/lang/IndexOutOfBoundsException" rfl (fun z hz => nomatch hz) (by decide) (by decide) (aw (i := 372) (by decide +kernel) rfl) (ao (i := 384) (by decide +kernel) rfl) (fun q => ?_)
      refine e_blk 2 13 _ _ (pc' := 16) (L' := [some (.ref a0), some (.int a1), some (.int a2), some (.ref a3), some (.ref q)]) (st' := [.int (1 : Int32)]) rfl ?_
      exact e_reti rfl rfl (by decide) (by decide) h
    · refine et_catch [⟨0, 10, 13, 13⟩] ⟨0, 10, 17, 15⟩ [] "java/lang/IllegalArgumentException" rfl (List.forall_mem_cons.mpr ⟨Or.inr ⟨by decide, "java/lang/IndexOutOfBoundsException", (aw (i := 372) (by decide +kernel) rfl), by decide⟩, fun _ hz => nomatch hz⟩) (by decide) (by decide) (aw (i := 373) (by decide +kernel) rfl) (ao (i := 455) (by decide +kernel) rfl) (fun q => ?_)
      refine e_blk 2 17 _ _ (pc' := 20) (L' := [some (.ref a0), some (.int a1), some (.int a2), some (.ref a3), some (.ref q)]) (st' := [.int (2 : Int32)]) rfl ?_
      exact e_reti rfl rfl (by decide) (by decide) h
  refine e_callV (As := [.int a1, .int a2]) (rest := [.int (0 : Int32), .ref a3]) (ci := 6) rfl (x_X6_told h) ho1 rfl rfl rfl (aw (i := 763) (by decide +kernel) rfl) wn_X6_told wv_X6_told wi_X6_told wc_X6_told (show cok mi_L_told mi_X6_told 0 0 2 = true by decide +kernel) (Nat.le_of_ble_eq_true rfl) (fun v9 M2 hq => ?_) (fun X M9 hq => hthr X M9 hq)
  obtain ⟨r5, rfl, h⟩ := kI_l hq
  refine e_blk 1 8 _ _ (pc' := 9) (L' := [some (.ref a0), some (.int a1), some (.int a2), some (.ref a3), none]) (st' := [.long ((r5).toInt64), .int (0 : Int32), .ref a3]) rfl ?_
  obtain ⟨ho6, h⟩ := h
  obtain ⟨hi7, h⟩ := h
  refine e_last rfl ho6 hi7 ?_
  generalize hM8 : sJ M2 a3 ((0 : Int32)).toNatClampNeg ((r5).toInt64) = M8
  replace h := h M8 hM8.symm
  replace ho6 : ob M8 a3 10 := hM8 ▸ ob_sJ ho6
  refine e_blk 2 10 _ _ (pc' := 22) (L' := [some (.ref a0), some (.int a1), some (.int a2), some (.ref a3), none]) (st' := [.int (0 : Int32)]) rfl ?_
  exact e_reti rfl rfl (by decide) (by decide) h
def V_L_field (K : Rs → Mm → Prop) (M : Mm) (a0 : Nat) (a1 : Int32) (a2 : Int32) (a3 : Nat) : Prop := (ob M a0 6 ∧ V_X6_field (kJ (fun r5 M2 => (ob M2 a3 10 ∧ (vp_in (0 : Int32) (mN M2 a3) ∧ ∀ M8, M8 = sJ M2 a3 ((0 : Int32)).toNatClampNeg r5 → K (.inl (some (.int (0 : Int32)))) M8))) (fun X3 M4 => (X3 = "java/lang/IndexOutOfBoundsException" ∧ K (.inl (some (.int (1 : Int32)))) M4) ∨ (X3 = "java/lang/IllegalArgumentException" ∧ K (.inl (some (.int (2 : Int32)))) M4))) M a0 a1 a2)
set_option maxRecDepth 100000 in
set_option maxHeartbeats 4000000 in
theorem x_L_field {G : Gx} {K : Rs → Mm → Prop} {M : Mm} {a0 : Nat} {a1 : Int32} {a2 : Int32} {a3 : Nat} (h : V_L_field K M a0 a1 a2 a3) : MC G mi_L_field [.ref a0, .int a1, .int a2, .ref a3] M K := by
  unfold V_L_field at h
  refine mc_ofH (by decide) (by decide +kernel) dc_L_field (Nat.le_of_ble_eq_true rfl) 1 (Nat.le_of_ble_eq_true rfl) ?_
  show E G mi_L_field K M 0 0 0 [some (.ref a0), some (.int a1), some (.int a2), some (.ref a3), none] []
  refine e_blk 5 0 _ _ (pc' := 5) (L' := [some (.ref a0), some (.int a1), some (.int a2), some (.ref a3), none]) (st' := [.int a2, .int a1, .ref a0, .int (0 : Int32), .ref a3]) rfl ?_
  obtain ⟨ho1, h⟩ := h
  have hthr : ∀ (X3 : String) (M4 : Mm), ((X3 = "java/lang/IndexOutOfBoundsException" ∧ K (.inl (some (.int (1 : Int32)))) M4) ∨ (X3 = "java/lang/IllegalArgumentException" ∧ K (.inl (some (.int (2 : Int32)))) M4)) → ET G mi_L_field K M4 2 12 5 [some (.ref a0), some (.int a1), some (.int a2), some (.ref a3), none] [.int (0 : Int32), .ref a3] X3 := by
    intro X3 M4 h
    rcases h with ⟨rfl, h⟩ | ⟨rfl, h⟩
    · refine et_catch [] ⟨0, 9, 12, 13⟩ [⟨0, 9, 16, 15⟩] "java/lang/IndexOutOfBoundsException" rfl (fun z hz => nomatch hz) (by decide) (by decide) (aw (i := 372) (by decide +kernel) rfl) (ao (i := 384) (by decide +kernel) rfl) (fun q => ?_)
      refine e_blk 2 12 _ _ (pc' := 15) (L' := [some (.ref a0), some (.int a1), some (.int a2), some (.ref a3), some (.ref q)]) (st' := [.int (1 : Int32)]) rfl ?_
      exact e_reti rfl rfl (by decide) (by decide) h
    · refine et_catch [⟨0, 9, 12, 13⟩] ⟨0, 9, 16, 15⟩ [] "java/lang/IllegalArgumentException" rfl (List.forall_mem_cons.mpr ⟨Or.inr ⟨by decide, "java/lang/IndexOutOfBoundsException", (aw (i := 372) (by decide +kernel) rfl), by decide⟩, fun _ hz => nomatch hz⟩) (by decide) (by decide) (aw (i := 373) (by decide +kernel) rfl) (ao (i := 455) (by decide +kernel) rfl) (fun q => ?_)
      refine e_blk 2 16 _ _ (pc' := 19) (L' := [some (.ref a0), some (.int a1), some (.int a2), some (.ref a3), some (.ref q)]) (st' := [.int (2 : Int32)]) rfl ?_
      exact e_reti rfl rfl (by decide) (by decide) h
  refine e_callV (As := [.int a1, .int a2]) (rest := [.int (0 : Int32), .ref a3]) (ci := 6) rfl (x_X6_field h) ho1 rfl rfl rfl (aw (i := 770) (by decide +kernel) rfl) wn_X6_field wv_X6_field wi_X6_field wc_X6_field (show cok mi_L_field mi_X6_field 0 0 2 = true by decide +kernel) (Nat.le_of_ble_eq_true rfl) (fun v9 M2 hq => ?_) (fun X M9 hq => hthr X M9 hq)
  obtain ⟨r5, rfl, h⟩ := kJ_l hq
  obtain ⟨ho6, h⟩ := h
  obtain ⟨hi7, h⟩ := h
  refine e_last rfl ho6 hi7 ?_
  generalize hM8 : sJ M2 a3 ((0 : Int32)).toNatClampNeg r5 = M8
  replace h := h M8 hM8.symm
  replace ho6 : ob M8 a3 10 := hM8 ▸ ob_sJ ho6
  refine e_blk 2 9 _ _ (pc' := 21) (L' := [some (.ref a0), some (.int a1), some (.int a2), some (.ref a3), none]) (st' := [.int (0 : Int32)]) rfl ?_
  exact e_reti rfl rfl (by decide) (by decide) h
def V_L_day_22 (K : Rs → Mm → Prop)  (M : Mm) (s0 : Nat) (s1 : Int32) (s2 : Int64) : Prop := (ob M s0 10 ∧ (vp_in s1 (mN M s0) ∧ ∀ M3, M3 = sJ M s0 (s1).toNatClampNeg s2 → K (.inl (some (.int (0 : Int32)))) M3))
set_option maxRecDepth 100000 in
set_option maxHeartbeats 4000000 in
theorem x_L_day_22 {G : Gx} {K : Rs → Mm → Prop}  {M : Mm} {s0 : Nat} {s1 : Int32} {s2 : Int64} (h : V_L_day_22 K  M s0 s1 s2) : E G mi_L_day K M 3 18 22 [none, none, none, none, none, none, none, none] [.long s2, .int s1, .ref s0] := by
  unfold V_L_day_22 at h
  obtain ⟨ho1, h⟩ := h
  obtain ⟨hi2, h⟩ := h
  refine e_last rfl ho1 hi2 ?_
  generalize hM3 : sJ M s0 (s1).toNatClampNeg s2 = M3
  replace h := h M3 hM3.symm
  replace ho1 : ob M3 s0 10 := hM3 ▸ ob_sJ ho1
  refine e_blk 2 23 _ _ (pc' := 35) (L' := [none, none, none, none, none, none, none, none]) (st' := [.int (0 : Int32)]) rfl ?_
  exact e_reti rfl rfl (by decide) (by decide) h
def V_L_day (K : Rs → Mm → Prop) (M : Mm) (a0 : Nat) (a1 : Int32) (a2 : Int32) (a3 : Int32) (a4 : Int32) (a5 : Int32) (a6 : Nat) : Prop := (ob M a0 6 ∧ V_X6_day (kI (fun r5 M2 => ((r5 = 0 → V_L_day_22 K  M2 a6 (0 : Int32) (0 : Int64)) ∧ (¬ r5 = 0 → V_L_day_22 K  M2 a6 (0 : Int32) (1 : Int64)))) (fun X3 M4 => (X3 = "java/lang/IndexOutOfBoundsException" ∧ K (.inl (some (.int (1 : Int32)))) M4) ∨ (X3 = "java/lang/IllegalArgumentException" ∧ K (.inl (some (.int (2 : Int32)))) M4))) M a0 a1 a2 a3 a4 a5)
set_option maxRecDepth 100000 in
set_option maxHeartbeats 4000000 in
theorem x_L_day {G : Gx} {K : Rs → Mm → Prop} {M : Mm} {a0 : Nat} {a1 : Int32} {a2 : Int32} {a3 : Int32} {a4 : Int32} {a5 : Int32} {a6 : Nat} (h : V_L_day K M a0 a1 a2 a3 a4 a5 a6) : MC G mi_L_day [.ref a0, .int a1, .int a2, .int a3, .int a4, .int a5, .ref a6] M K := by
  unfold V_L_day at h
  refine mc_ofH (by decide) (by decide +kernel) dc_L_day (Nat.le_of_ble_eq_true rfl) 1 (Nat.le_of_ble_eq_true rfl) ?_
  show E G mi_L_day K M 0 0 0 [some (.ref a0), some (.int a1), some (.int a2), some (.int a3), some (.int a4), some (.int a5), some (.ref a6), none] []
  refine e_blk 8 0 _ _ (pc' := 11) (L' := [some (.ref a0), some (.int a1), some (.int a2), some (.int a3), some (.int a4), some (.int a5), some (.ref a6), none]) (st' := [.int a5, .int a4, .int a3, .int a2, .int a1, .ref a0, .int (0 : Int32), .ref a6]) rfl ?_
  obtain ⟨ho1, h⟩ := h
  have hthr : ∀ (X3 : String) (M4 : Mm), ((X3 = "java/lang/IndexOutOfBoundsException" ∧ K (.inl (some (.int (1 : Int32)))) M4) ∨ (X3 = "java/lang/IllegalArgumentException" ∧ K (.inl (some (.int (2 : Int32)))) M4)) → ET G mi_L_day K M4 3 18 11 [some (.ref a0), some (.int a1), some (.int a2), some (.int a3), some (.int a4), some (.int a5), some (.ref a6), none] [.int (0 : Int32), .ref a6] X3 := by
    intro X3 M4 h
    rcases h with ⟨rfl, h⟩ | ⟨rfl, h⟩
    · refine et_catch [] ⟨0, 23, 26, 13⟩ [⟨0, 23, 30, 15⟩] "java/lang/IndexOutOfBoundsException" rfl (fun z hz => nomatch hz) (by decide) (by decide) (aw (i := 372) (by decide +kernel) rfl) (ao (i := 384) (by decide +kernel) rfl) (fun q => ?_)
      refine e_blk 2 26 _ _ (pc' := 29) (L' := [some (.ref a0), some (.int a1), some (.int a2), some (.int a3), some (.int a4), some (.int a5), some (.ref a6), some (.ref q)]) (st' := [.int (1 : Int32)]) rfl ?_
      exact e_reti rfl rfl (by decide) (by decide) h
    · refine et_catch [⟨0, 23, 26, 13⟩] ⟨0, 23, 30, 15⟩ [] "java/lang/IllegalArgumentException" rfl (List.forall_mem_cons.mpr ⟨Or.inr ⟨by decide, "java/lang/IndexOutOfBoundsException", (aw (i := 372) (by decide +kernel) rfl), by decide⟩, fun _ hz => nomatch hz⟩) (by decide) (by decide) (aw (i := 373) (by decide +kernel) rfl) (ao (i := 455) (by decide +kernel) rfl) (fun q => ?_)
      refine e_blk 2 30 _ _ (pc' := 33) (L' := [some (.ref a0), some (.int a1), some (.int a2), some (.int a3), some (.int a4), some (.int a5), some (.ref a6), some (.ref q)]) (st' := [.int (2 : Int32)]) rfl ?_
      exact e_reti rfl rfl (by decide) (by decide) h
  refine e_callV (As := [.int a1, .int a2, .int a3, .int a4, .int a5]) (rest := [.int (0 : Int32), .ref a6]) (ci := 6) rfl (x_X6_day h) ho1 rfl rfl rfl (aw (i := 778) (by decide +kernel) rfl) wn_X6_day wv_X6_day wi_X6_day wc_X6_day (show cok mi_L_day mi_X6_day 0 0 5 = true by decide +kernel) (Nat.le_of_ble_eq_true rfl) (fun v9 M2 hq => ?_) (fun X M9 hq => hthr X M9 hq)
  obtain ⟨r5, rfl, h⟩ := kI_l hq
  refine e_if_eq 21 rfl rfl (fun hc => ?_) (fun hc => ?_)
  · replace h := h.1 hc
    refine e_blk 1 21 _ _ (pc' := 22) (L' := [some (.ref a0), some (.int a1), some (.int a2), some (.int a3), some (.int a4), some (.int a5), some (.ref a6), none]) (st' := [.long (0 : Int64), .int (0 : Int32), .ref a6]) rfl ?_
    refine e_drp [false, false, false, false, false, false, false, false] (L' := [none, none, none, none, none, none, none, none]) rfl ?_
    exact x_L_day_22  h
  · replace h := h.2 hc
    refine e_blk 2 17 _ _ (pc' := 22) (L' := [some (.ref a0), some (.int a1), some (.int a2), some (.int a3), some (.int a4), some (.int a5), some (.ref a6), none]) (st' := [.long (1 : Int64), .int (0 : Int32), .ref a6]) rfl ?_
    refine e_drp [false, false, false, false, false, false, false, false] (L' := [none, none, none, none, none, none, none, none]) rfl ?_
    exact x_L_day_22  h
def V_L_matches_16 (K : Rs → Mm → Prop)  (M : Mm) (s0 : Nat) (s1 : Int32) (s2 : Int64) : Prop := (ob M s0 10 ∧ (vp_in s1 (mN M s0) ∧ ∀ M3, M3 = sJ M s0 (s1).toNatClampNeg s2 → K (.inl (some (.int (0 : Int32)))) M3))
set_option maxRecDepth 100000 in
set_option maxHeartbeats 4000000 in
theorem x_L_matches_16 {G : Gx} {K : Rs → Mm → Prop}  {M : Mm} {s0 : Nat} {s1 : Int32} {s2 : Int64} (h : V_L_matches_16 K  M s0 s1 s2) : E G mi_L_matches K M 2 12 16 [none, none, none, none, none] [.long s2, .int s1, .ref s0] := by
  unfold V_L_matches_16 at h
  obtain ⟨ho1, h⟩ := h
  obtain ⟨hi2, h⟩ := h
  refine e_last rfl ho1 hi2 ?_
  generalize hM3 : sJ M s0 (s1).toNatClampNeg s2 = M3
  replace h := h M3 hM3.symm
  replace ho1 : ob M3 s0 10 := hM3 ▸ ob_sJ ho1
  refine e_blk 2 17 _ _ (pc' := 29) (L' := [none, none, none, none, none]) (st' := [.int (0 : Int32)]) rfl ?_
  exact e_reti rfl rfl (by decide) (by decide) h
def V_L_matches (K : Rs → Mm → Prop) (M : Mm) (a0 : Nat) (a1 : Int32) (a2 : Int32) (a3 : Nat) : Prop := (ob M a0 6 ∧ V_X6_matches (kI (fun r5 M2 => ((r5 = 0 → V_L_matches_16 K  M2 a3 (0 : Int32) (0 : Int64)) ∧ (¬ r5 = 0 → V_L_matches_16 K  M2 a3 (0 : Int32) (1 : Int64)))) (fun X3 M4 => (X3 = "java/lang/IndexOutOfBoundsException" ∧ K (.inl (some (.int (1 : Int32)))) M4) ∨ (X3 = "java/lang/IllegalArgumentException" ∧ K (.inl (some (.int (2 : Int32)))) M4))) M a0 a1 a2)
set_option maxRecDepth 100000 in
set_option maxHeartbeats 4000000 in
theorem x_L_matches {G : Gx} {K : Rs → Mm → Prop} {M : Mm} {a0 : Nat} {a1 : Int32} {a2 : Int32} {a3 : Nat} (h : V_L_matches K M a0 a1 a2 a3) : MC G mi_L_matches [.ref a0, .int a1, .int a2, .ref a3] M K := by
  unfold V_L_matches at h
  refine mc_ofH (by decide) (by decide +kernel) dc_L_matches (Nat.le_of_ble_eq_true rfl) 1 (Nat.le_of_ble_eq_true rfl) ?_
  show E G mi_L_matches K M 0 0 0 [some (.ref a0), some (.int a1), some (.int a2), some (.ref a3), none] []
  refine e_blk 5 0 _ _ (pc' := 5) (L' := [some (.ref a0), some (.int a1), some (.int a2), some (.ref a3), none]) (st' := [.int a2, .int a1, .ref a0, .int (0 : Int32), .ref a3]) rfl ?_
  obtain ⟨ho1, h⟩ := h
  have hthr : ∀ (X3 : String) (M4 : Mm), ((X3 = "java/lang/IndexOutOfBoundsException" ∧ K (.inl (some (.int (1 : Int32)))) M4) ∨ (X3 = "java/lang/IllegalArgumentException" ∧ K (.inl (some (.int (2 : Int32)))) M4)) → ET G mi_L_matches K M4 2 12 5 [some (.ref a0), some (.int a1), some (.int a2), some (.ref a3), none] [.int (0 : Int32), .ref a3] X3 := by
    intro X3 M4 h
    rcases h with ⟨rfl, h⟩ | ⟨rfl, h⟩
    · refine et_catch [] ⟨0, 17, 20, 13⟩ [⟨0, 17, 24, 15⟩] "java/lang/IndexOutOfBoundsException" rfl (fun z hz => nomatch hz) (by decide) (by decide) (aw (i := 372) (by decide +kernel) rfl) (ao (i := 384) (by decide +kernel) rfl) (fun q => ?_)
      refine e_blk 2 20 _ _ (pc' := 23) (L' := [some (.ref a0), some (.int a1), some (.int a2), some (.ref a3), some (.ref q)]) (st' := [.int (1 : Int32)]) rfl ?_
      exact e_reti rfl rfl (by decide) (by decide) h
    · refine et_catch [⟨0, 17, 20, 13⟩] ⟨0, 17, 24, 15⟩ [] "java/lang/IllegalArgumentException" rfl (List.forall_mem_cons.mpr ⟨Or.inr ⟨by decide, "java/lang/IndexOutOfBoundsException", (aw (i := 372) (by decide +kernel) rfl), by decide⟩, fun _ hz => nomatch hz⟩) (by decide) (by decide) (aw (i := 373) (by decide +kernel) rfl) (ao (i := 455) (by decide +kernel) rfl) (fun q => ?_)
      refine e_blk 2 24 _ _ (pc' := 27) (L' := [some (.ref a0), some (.int a1), some (.int a2), some (.ref a3), some (.ref q)]) (st' := [.int (2 : Int32)]) rfl ?_
      exact e_reti rfl rfl (by decide) (by decide) h
  refine e_callV (As := [.int a1, .int a2]) (rest := [.int (0 : Int32), .ref a3]) (ci := 6) rfl (x_X6_matches h) ho1 rfl rfl rfl (aw (i := 817) (by decide +kernel) rfl) wn_X6_matches wv_X6_matches wi_X6_matches wc_X6_matches (show cok mi_L_matches mi_X6_matches 0 0 2 = true by decide +kernel) (Nat.le_of_ble_eq_true rfl) (fun v9 M2 hq => ?_) (fun X M9 hq => hthr X M9 hq)
  obtain ⟨r5, rfl, h⟩ := kI_l hq
  refine e_if_eq 15 rfl rfl (fun hc => ?_) (fun hc => ?_)
  · replace h := h.1 hc
    refine e_blk 1 15 _ _ (pc' := 16) (L' := [some (.ref a0), some (.int a1), some (.int a2), some (.ref a3), none]) (st' := [.long (0 : Int64), .int (0 : Int32), .ref a3]) rfl ?_
    refine e_drp [false, false, false, false, false] (L' := [none, none, none, none, none]) rfl ?_
    exact x_L_matches_16  h
  · replace h := h.2 hc
    refine e_blk 2 11 _ _ (pc' := 16) (L' := [some (.ref a0), some (.int a1), some (.int a2), some (.ref a3), none]) (st' := [.long (1 : Int64), .int (0 : Int32), .ref a3]) rfl ?_
    refine e_drp [false, false, false, false, false] (L' := [none, none, none, none, none]) rfl ?_
    exact x_L_matches_16  h
def V_L_next (K : Rs → Mm → Prop) (M : Mm) (a0 : Nat) (a1 : Int32) (a2 : Int32) (a3 : Int32) (a4 : Nat) : Prop := (ob M a0 6 ∧ V_X6_next (kI (fun r5 M2 => (ob M2 a4 10 ∧ (vp_in (0 : Int32) (mN M2 a4) ∧ ∀ M8, M8 = sJ M2 a4 ((0 : Int32)).toNatClampNeg ((r5).toInt64) → K (.inl (some (.int (0 : Int32)))) M8))) (fun X3 M4 => (X3 = "java/lang/IndexOutOfBoundsException" ∧ K (.inl (some (.int (1 : Int32)))) M4) ∨ (X3 = "java/lang/IllegalArgumentException" ∧ K (.inl (some (.int (2 : Int32)))) M4))) M a0 a1 a2 a3)
set_option maxRecDepth 100000 in
set_option maxHeartbeats 4000000 in
theorem x_L_next {G : Gx} {K : Rs → Mm → Prop} {M : Mm} {a0 : Nat} {a1 : Int32} {a2 : Int32} {a3 : Int32} {a4 : Nat} (h : V_L_next K M a0 a1 a2 a3 a4) : MC G mi_L_next [.ref a0, .int a1, .int a2, .int a3, .ref a4] M K := by
  unfold V_L_next at h
  refine mc_ofH (by decide) (by decide +kernel) dc_L_next (Nat.le_of_ble_eq_true rfl) 1 (Nat.le_of_ble_eq_true rfl) ?_
  show E G mi_L_next K M 0 0 0 [some (.ref a0), some (.int a1), some (.int a2), some (.int a3), some (.ref a4), none] []
  refine e_blk 6 0 _ _ (pc' := 7) (L' := [some (.ref a0), some (.int a1), some (.int a2), some (.int a3), some (.ref a4), none]) (st' := [.int a3, .int a2, .int a1, .ref a0, .int (0 : Int32), .ref a4]) rfl ?_
  obtain ⟨ho1, h⟩ := h
  have hthr : ∀ (X3 : String) (M4 : Mm), ((X3 = "java/lang/IndexOutOfBoundsException" ∧ K (.inl (some (.int (1 : Int32)))) M4) ∨ (X3 = "java/lang/IllegalArgumentException" ∧ K (.inl (some (.int (2 : Int32)))) M4)) → ET G mi_L_next K M4 3 18 7 [some (.ref a0), some (.int a1), some (.int a2), some (.int a3), some (.ref a4), none] [.int (0 : Int32), .ref a4] X3 := by
    intro X3 M4 h
    rcases h with ⟨rfl, h⟩ | ⟨rfl, h⟩
    · refine et_catch [] ⟨0, 12, 15, 13⟩ [⟨0, 12, 19, 15⟩] "java/lang/IndexOutOfBoundsException" rfl (fun z hz => nomatch hz) (by decide) (by decide) (aw (i := 372) (by decide +kernel) rfl) (ao (i := 384) (by decide +kernel) rfl) (fun q => ?_)
      refine e_blk 2 15 _ _ (pc' := 18) (L' := [some (.ref a0), some (.int a1), some (.int a2), some (.int a3), some (.ref a4), some (.ref q)]) (st' := [.int (1 : Int32)]) rfl ?_
      exact e_reti rfl rfl (by decide) (by decide) h
    · refine et_catch [⟨0, 12, 15, 13⟩] ⟨0, 12, 19, 15⟩ [] "java/lang/IllegalArgumentException" rfl (List.forall_mem_cons.mpr ⟨Or.inr ⟨by decide, "java/lang/IndexOutOfBoundsException", (aw (i := 372) (by decide +kernel) rfl), by decide⟩, fun _ hz => nomatch hz⟩) (by decide) (by decide) (aw (i := 373) (by decide +kernel) rfl) (ao (i := 455) (by decide +kernel) rfl) (fun q => ?_)
      refine e_blk 2 19 _ _ (pc' := 22) (L' := [some (.ref a0), some (.int a1), some (.int a2), some (.int a3), some (.ref a4), some (.ref q)]) (st' := [.int (2 : Int32)]) rfl ?_
      exact e_reti rfl rfl (by decide) (by decide) h
  refine e_callV (As := [.int a1, .int a2, .int a3]) (rest := [.int (0 : Int32), .ref a4]) (ci := 6) rfl (x_X6_next h) ho1 rfl rfl rfl (aw (i := 877) (by decide +kernel) rfl) wn_X6_next wv_X6_next wi_X6_next wc_X6_next (show cok mi_L_next mi_X6_next 0 0 3 = true by decide +kernel) (Nat.le_of_ble_eq_true rfl) (fun v9 M2 hq => ?_) (fun X M9 hq => hthr X M9 hq)
  obtain ⟨r5, rfl, h⟩ := kI_l hq
  refine e_blk 1 10 _ _ (pc' := 11) (L' := [some (.ref a0), some (.int a1), some (.int a2), some (.int a3), some (.ref a4), none]) (st' := [.long ((r5).toInt64), .int (0 : Int32), .ref a4]) rfl ?_
  obtain ⟨ho6, h⟩ := h
  obtain ⟨hi7, h⟩ := h
  refine e_last rfl ho6 hi7 ?_
  generalize hM8 : sJ M2 a4 ((0 : Int32)).toNatClampNeg ((r5).toInt64) = M8
  replace h := h M8 hM8.symm
  replace ho6 : ob M8 a4 10 := hM8 ▸ ob_sJ ho6
  refine e_blk 2 12 _ _ (pc' := 24) (L' := [some (.ref a0), some (.int a1), some (.int a2), some (.int a3), some (.ref a4), none]) (st' := [.int (0 : Int32)]) rfl ?_
  exact e_reti rfl rfl (by decide) (by decide) h
def V_L_before (K : Rs → Mm → Prop) (M : Mm) (a0 : Nat) (a1 : Int32) (a2 : Int32) (a3 : Int32) (a4 : Nat) : Prop := (ob M a0 6 ∧ V_X6_before (kI (fun r5 M2 => (ob M2 a4 10 ∧ (vp_in (0 : Int32) (mN M2 a4) ∧ ∀ M8, M8 = sJ M2 a4 ((0 : Int32)).toNatClampNeg ((r5).toInt64) → K (.inl (some (.int (0 : Int32)))) M8))) (fun X3 M4 => (X3 = "java/lang/IndexOutOfBoundsException" ∧ K (.inl (some (.int (1 : Int32)))) M4) ∨ (X3 = "java/lang/IllegalArgumentException" ∧ K (.inl (some (.int (2 : Int32)))) M4))) M a0 a1 a2 a3)
set_option maxRecDepth 100000 in
set_option maxHeartbeats 4000000 in
theorem x_L_before {G : Gx} {K : Rs → Mm → Prop} {M : Mm} {a0 : Nat} {a1 : Int32} {a2 : Int32} {a3 : Int32} {a4 : Nat} (h : V_L_before K M a0 a1 a2 a3 a4) : MC G mi_L_before [.ref a0, .int a1, .int a2, .int a3, .ref a4] M K := by
  unfold V_L_before at h
  refine mc_ofH (by decide) (by decide +kernel) dc_L_before (Nat.le_of_ble_eq_true rfl) 1 (Nat.le_of_ble_eq_true rfl) ?_
  show E G mi_L_before K M 0 0 0 [some (.ref a0), some (.int a1), some (.int a2), some (.int a3), some (.ref a4), none] []
  refine e_blk 6 0 _ _ (pc' := 7) (L' := [some (.ref a0), some (.int a1), some (.int a2), some (.int a3), some (.ref a4), none]) (st' := [.int a3, .int a2, .int a1, .ref a0, .int (0 : Int32), .ref a4]) rfl ?_
  obtain ⟨ho1, h⟩ := h
  have hthr : ∀ (X3 : String) (M4 : Mm), ((X3 = "java/lang/IndexOutOfBoundsException" ∧ K (.inl (some (.int (1 : Int32)))) M4) ∨ (X3 = "java/lang/IllegalArgumentException" ∧ K (.inl (some (.int (2 : Int32)))) M4)) → ET G mi_L_before K M4 3 18 7 [some (.ref a0), some (.int a1), some (.int a2), some (.int a3), some (.ref a4), none] [.int (0 : Int32), .ref a4] X3 := by
    intro X3 M4 h
    rcases h with ⟨rfl, h⟩ | ⟨rfl, h⟩
    · refine et_catch [] ⟨0, 12, 15, 13⟩ [⟨0, 12, 19, 15⟩] "java/lang/IndexOutOfBoundsException" rfl (fun z hz => nomatch hz) (by decide) (by decide) (aw (i := 372) (by decide +kernel) rfl) (ao (i := 384) (by decide +kernel) rfl) (fun q => ?_)
      refine e_blk 2 15 _ _ (pc' := 18) (L' := [some (.ref a0), some (.int a1), some (.int a2), some (.int a3), some (.ref a4), some (.ref q)]) (st' := [.int (1 : Int32)]) rfl ?_
      exact e_reti rfl rfl (by decide) (by decide) h
    · refine et_catch [⟨0, 12, 15, 13⟩] ⟨0, 12, 19, 15⟩ [] "java/lang/IllegalArgumentException" rfl (List.forall_mem_cons.mpr ⟨Or.inr ⟨by decide, "java/lang/IndexOutOfBoundsException", (aw (i := 372) (by decide +kernel) rfl), by decide⟩, fun _ hz => nomatch hz⟩) (by decide) (by decide) (aw (i := 373) (by decide +kernel) rfl) (ao (i := 455) (by decide +kernel) rfl) (fun q => ?_)
      refine e_blk 2 19 _ _ (pc' := 22) (L' := [some (.ref a0), some (.int a1), some (.int a2), some (.int a3), some (.ref a4), some (.ref q)]) (st' := [.int (2 : Int32)]) rfl ?_
      exact e_reti rfl rfl (by decide) (by decide) h
  refine e_callV (As := [.int a1, .int a2, .int a3]) (rest := [.int (0 : Int32), .ref a4]) (ci := 6) rfl (x_X6_before h) ho1 rfl rfl rfl (aw (i := 889) (by decide +kernel) rfl) wn_X6_before wv_X6_before wi_X6_before wc_X6_before (show cok mi_L_before mi_X6_before 0 0 3 = true by decide +kernel) (Nat.le_of_ble_eq_true rfl) (fun v9 M2 hq => ?_) (fun X M9 hq => hthr X M9 hq)
  obtain ⟨r5, rfl, h⟩ := kI_l hq
  refine e_blk 1 10 _ _ (pc' := 11) (L' := [some (.ref a0), some (.int a1), some (.int a2), some (.int a3), some (.ref a4), none]) (st' := [.long ((r5).toInt64), .int (0 : Int32), .ref a4]) rfl ?_
  obtain ⟨ho6, h⟩ := h
  obtain ⟨hi7, h⟩ := h
  refine e_last rfl ho6 hi7 ?_
  generalize hM8 : sJ M2 a4 ((0 : Int32)).toNatClampNeg ((r5).toInt64) = M8
  replace h := h M8 hM8.symm
  replace ho6 : ob M8 a4 10 := hM8 ▸ ob_sJ ho6
  refine e_blk 2 12 _ _ (pc' := 24) (L' := [some (.ref a0), some (.int a1), some (.int a2), some (.int a3), some (.ref a4), none]) (st' := [.int (0 : Int32)]) rfl ?_
  exact e_reti rfl rfl (by decide) (by decide) h
def V_L_between (K : Rs → Mm → Prop) (M : Mm) (a0 : Nat) (a1 : Int32) (a2 : Int32) (a3 : Int32) (a4 : Nat) : Prop := (ob M a0 6 ∧ V_X6_between (kI (fun r5 M2 => (ob M2 a4 10 ∧ (vp_in (0 : Int32) (mN M2 a4) ∧ ∀ M8, M8 = sJ M2 a4 ((0 : Int32)).toNatClampNeg ((r5).toInt64) → K (.inl (some (.int (0 : Int32)))) M8))) (fun X3 M4 => (X3 = "java/lang/IndexOutOfBoundsException" ∧ K (.inl (some (.int (1 : Int32)))) M4) ∨ (X3 = "java/lang/IllegalArgumentException" ∧ K (.inl (some (.int (2 : Int32)))) M4))) M a0 a1 a2 a3)
set_option maxRecDepth 100000 in
set_option maxHeartbeats 4000000 in
theorem x_L_between {G : Gx} {K : Rs → Mm → Prop} {M : Mm} {a0 : Nat} {a1 : Int32} {a2 : Int32} {a3 : Int32} {a4 : Nat} (h : V_L_between K M a0 a1 a2 a3 a4) : MC G mi_L_between [.ref a0, .int a1, .int a2, .int a3, .ref a4] M K := by
  unfold V_L_between at h
  refine mc_ofH (by decide) (by decide +kernel) dc_L_between (Nat.le_of_ble_eq_true rfl) 1 (Nat.le_of_ble_eq_true rfl) ?_
  show E G mi_L_between K M 0 0 0 [some (.ref a0), some (.int a1), some (.int a2), some (.int a3), some (.ref a4), none] []
  refine e_blk 6 0 _ _ (pc' := 7) (L' := [some (.ref a0), some (.int a1), some (.int a2), some (.int a3), some (.ref a4), none]) (st' := [.int a3, .int a2, .int a1, .ref a0, .int (0 : Int32), .ref a4]) rfl ?_
  obtain ⟨ho1, h⟩ := h
  have hthr : ∀ (X3 : String) (M4 : Mm), ((X3 = "java/lang/IndexOutOfBoundsException" ∧ K (.inl (some (.int (1 : Int32)))) M4) ∨ (X3 = "java/lang/IllegalArgumentException" ∧ K (.inl (some (.int (2 : Int32)))) M4)) → ET G mi_L_between K M4 4 24 7 [some (.ref a0), some (.int a1), some (.int a2), some (.int a3), some (.ref a4), none] [.int (0 : Int32), .ref a4] X3 := by
    intro X3 M4 h
    rcases h with ⟨rfl, h⟩ | ⟨rfl, h⟩
    · refine et_catch [] ⟨0, 12, 15, 13⟩ [⟨0, 12, 19, 15⟩] "java/lang/IndexOutOfBoundsException" rfl (fun z hz => nomatch hz) (by decide) (by decide) (aw (i := 372) (by decide +kernel) rfl) (ao (i := 384) (by decide +kernel) rfl) (fun q => ?_)
      refine e_blk 2 15 _ _ (pc' := 18) (L' := [some (.ref a0), some (.int a1), some (.int a2), some (.int a3), some (.ref a4), some (.ref q)]) (st' := [.int (1 : Int32)]) rfl ?_
      exact e_reti rfl rfl (by decide) (by decide) h
    · refine et_catch [⟨0, 12, 15, 13⟩] ⟨0, 12, 19, 15⟩ [] "java/lang/IllegalArgumentException" rfl (List.forall_mem_cons.mpr ⟨Or.inr ⟨by decide, "java/lang/IndexOutOfBoundsException", (aw (i := 372) (by decide +kernel) rfl), by decide⟩, fun _ hz => nomatch hz⟩) (by decide) (by decide) (aw (i := 373) (by decide +kernel) rfl) (ao (i := 455) (by decide +kernel) rfl) (fun q => ?_)
      refine e_blk 2 19 _ _ (pc' := 22) (L' := [some (.ref a0), some (.int a1), some (.int a2), some (.int a3), some (.ref a4), some (.ref q)]) (st' := [.int (2 : Int32)]) rfl ?_
      exact e_reti rfl rfl (by decide) (by decide) h
  refine e_callV (As := [.int a1, .int a2, .int a3]) (rest := [.int (0 : Int32), .ref a4]) (ci := 6) rfl (x_X6_between h) ho1 rfl rfl rfl (aw (i := 920) (by decide +kernel) rfl) wn_X6_between wv_X6_between wi_X6_between wc_X6_between (show cok mi_L_between mi_X6_between 0 0 3 = true by decide +kernel) (Nat.le_of_ble_eq_true rfl) (fun v9 M2 hq => ?_) (fun X M9 hq => hthr X M9 hq)
  obtain ⟨r5, rfl, h⟩ := kI_l hq
  refine e_blk 1 10 _ _ (pc' := 11) (L' := [some (.ref a0), some (.int a1), some (.int a2), some (.int a3), some (.ref a4), none]) (st' := [.long ((r5).toInt64), .int (0 : Int32), .ref a4]) rfl ?_
  obtain ⟨ho6, h⟩ := h
  obtain ⟨hi7, h⟩ := h
  refine e_last rfl ho6 hi7 ?_
  generalize hM8 : sJ M2 a4 ((0 : Int32)).toNatClampNeg ((r5).toInt64) = M8
  replace h := h M8 hM8.symm
  replace ho6 : ob M8 a4 10 := hM8 ▸ ob_sJ ho6
  refine e_blk 2 12 _ _ (pc' := 24) (L' := [some (.ref a0), some (.int a1), some (.int a2), some (.int a3), some (.ref a4), none]) (st' := [.int (0 : Int32)]) rfl ?_
  exact e_reti rfl rfl (by decide) (by decide) h
def V_L_put (K : Rs → Mm → Prop) (M : Mm) (a0 : Nat) (a1 : Int32) : Prop := (ob M a0 6 ∧ V_X6_put (kV (fun M2 => K (.inl (some (.int (0 : Int32)))) M2) (fun X3 M4 => (X3 = "java/lang/IllegalArgumentException" ∧ K (.inl (some (.int (1 : Int32)))) M4) ∨ (X3 = "java/lang/IllegalStateException" ∧ K (.inl (some (.int (2 : Int32)))) M4))) M a0 a1)
set_option maxRecDepth 100000 in
set_option maxHeartbeats 4000000 in
theorem x_L_put {G : Gx} {K : Rs → Mm → Prop} {M : Mm} {a0 : Nat} {a1 : Int32} (h : V_L_put K M a0 a1) : MC G mi_L_put [.ref a0, .int a1] M K := by
  unfold V_L_put at h
  refine mc_ofH (by decide) (by decide +kernel) dc_L_put (Nat.le_of_ble_eq_true rfl) 1 (Nat.le_of_ble_eq_true rfl) ?_
  show E G mi_L_put K M 0 0 0 [some (.ref a0), some (.int a1), none] []
  refine e_blk 2 0 _ _ (pc' := 2) (L' := [some (.ref a0), some (.int a1), none]) (st' := [.int a1, .ref a0]) rfl ?_
  obtain ⟨ho1, h⟩ := h
  have hthr : ∀ (X3 : String) (M4 : Mm), ((X3 = "java/lang/IllegalArgumentException" ∧ K (.inl (some (.int (1 : Int32)))) M4) ∨ (X3 = "java/lang/IllegalStateException" ∧ K (.inl (some (.int (2 : Int32)))) M4)) → ET G mi_L_put K M4 2 12 2 [some (.ref a0), some (.int a1), none] [] X3 := by
    intro X3 M4 h
    rcases h with ⟨rfl, h⟩ | ⟨rfl, h⟩
    · refine et_catch [] ⟨0, 5, 8, 15⟩ [⟨0, 5, 11, 21⟩] "java/lang/IllegalArgumentException" rfl (fun z hz => nomatch hz) (by decide) (by decide) (aw (i := 373) (by decide +kernel) rfl) (ao (i := 455) (by decide +kernel) rfl) (fun q => ?_)
      refine e_blk 2 8 _ _ (pc' := 10) (L' := [some (.ref a0), some (.int a1), some (.ref q)]) (st' := [.int (1 : Int32)]) rfl ?_
      exact e_reti rfl rfl (by decide) (by decide) h
    · refine et_catch [⟨0, 5, 8, 15⟩] ⟨0, 5, 11, 21⟩ [] "java/lang/IllegalStateException" rfl (List.forall_mem_cons.mpr ⟨Or.inr ⟨by decide, "java/lang/IllegalArgumentException", (aw (i := 373) (by decide +kernel) rfl), by decide⟩, fun _ hz => nomatch hz⟩) (by decide) (by decide) (aw (i := 476) (by decide +kernel) rfl) (ao (i := 493) (by decide +kernel) rfl) (fun q => ?_)
      refine e_blk 2 11 _ _ (pc' := 13) (L' := [some (.ref a0), some (.int a1), some (.ref q)]) (st' := [.int (2 : Int32)]) rfl ?_
      exact e_reti rfl rfl (by decide) (by decide) h
  refine e_callV (As := [.int a1]) (rest := []) (ci := 6) rfl (x_X6_put h) ho1 rfl rfl rfl (aw (i := 946) (by decide +kernel) rfl) wn_X6_put wv_X6_put wi_X6_put wc_X6_put (show cok mi_L_put mi_X6_put 0 0 1 = true by decide +kernel) (Nat.le_of_ble_eq_true rfl) (fun v9 M2 hq => ?_) (fun X M9 hq => hthr X M9 hq)
  obtain ⟨rfl, h⟩ := kV_l hq
  refine e_blk 2 5 _ _ (pc' := 15) (L' := [some (.ref a0), some (.int a1), none]) (st' := [.int (0 : Int32)]) rfl ?_
  exact e_reti rfl rfl (by decide) (by decide) h
def V_L_pass (K : Rs → Mm → Prop) (M : Mm) (a0 : Nat) (a1 : Int32) (a2 : Nat) : Prop := (ob M a0 6 ∧ V_X6_pass (kI (fun r5 M2 => (ob M2 a2 10 ∧ (vp_in (0 : Int32) (mN M2 a2) ∧ ∀ M8, M8 = sJ M2 a2 ((0 : Int32)).toNatClampNeg ((r5).toInt64) → K (.inl (some (.int (0 : Int32)))) M8))) (fun X3 M4 => (X3 = "java/lang/IllegalArgumentException" ∧ K (.inl (some (.int (1 : Int32)))) M4))) M a0 a1)
set_option maxRecDepth 100000 in
set_option maxHeartbeats 4000000 in
theorem x_L_pass {G : Gx} {K : Rs → Mm → Prop} {M : Mm} {a0 : Nat} {a1 : Int32} {a2 : Nat} (h : V_L_pass K M a0 a1 a2) : MC G mi_L_pass [.ref a0, .int a1, .ref a2] M K := by
  unfold V_L_pass at h
  refine mc_ofH (by decide) (by decide +kernel) dc_L_pass (Nat.le_of_ble_eq_true rfl) 1 (Nat.le_of_ble_eq_true rfl) ?_
  show E G mi_L_pass K M 0 0 0 [some (.ref a0), some (.int a1), some (.ref a2), none] []
  refine e_blk 4 0 _ _ (pc' := 4) (L' := [some (.ref a0), some (.int a1), some (.ref a2), none]) (st' := [.int a1, .ref a0, .int (0 : Int32), .ref a2]) rfl ?_
  obtain ⟨ho1, h⟩ := h
  have hthr : ∀ (X3 : String) (M4 : Mm), ((X3 = "java/lang/IllegalArgumentException" ∧ K (.inl (some (.int (1 : Int32)))) M4)) → ET G mi_L_pass K M4 1 6 4 [some (.ref a0), some (.int a1), some (.ref a2), none] [.int (0 : Int32), .ref a2] X3 := by
    intro X3 M4 h
    rcases h with ⟨rfl, h⟩
    · refine et_catch [] ⟨0, 9, 12, 15⟩ [] "java/lang/IllegalArgumentException" rfl (fun z hz => nomatch hz) (by decide) (by decide) (aw (i := 373) (by decide +kernel) rfl) (ao (i := 455) (by decide +kernel) rfl) (fun q => ?_)
      refine e_blk 2 12 _ _ (pc' := 14) (L' := [some (.ref a0), some (.int a1), some (.ref a2), some (.ref q)]) (st' := [.int (1 : Int32)]) rfl ?_
      exact e_reti rfl rfl (by decide) (by decide) h
  refine e_callV (As := [.int a1]) (rest := [.int (0 : Int32), .ref a2]) (ci := 6) rfl (x_X6_pass h) ho1 rfl rfl rfl (aw (i := 954) (by decide +kernel) rfl) wn_X6_pass wv_X6_pass wi_X6_pass wc_X6_pass (show cok mi_L_pass mi_X6_pass 0 0 1 = true by decide +kernel) (Nat.le_of_ble_eq_true rfl) (fun v9 M2 hq => ?_) (fun X M9 hq => hthr X M9 hq)
  obtain ⟨r5, rfl, h⟩ := kI_l hq
  refine e_blk 1 7 _ _ (pc' := 8) (L' := [some (.ref a0), some (.int a1), some (.ref a2), none]) (st' := [.long ((r5).toInt64), .int (0 : Int32), .ref a2]) rfl ?_
  obtain ⟨ho6, h⟩ := h
  obtain ⟨hi7, h⟩ := h
  refine e_last rfl ho6 hi7 ?_
  generalize hM8 : sJ M2 a2 ((0 : Int32)).toNatClampNeg ((r5).toInt64) = M8
  replace h := h M8 hM8.symm
  replace ho6 : ob M8 a2 10 := hM8 ▸ ob_sJ ho6
  refine e_blk 2 9 _ _ (pc' := 16) (L' := [some (.ref a0), some (.int a1), some (.ref a2), none]) (st' := [.int (0 : Int32)]) rfl ?_
  exact e_reti rfl rfl (by decide) (by decide) h
def V_L_sleep (K : Rs → Mm → Prop) (M : Mm) (a0 : Nat) : Prop := (ob M a0 6 ∧ V_X6_sleep (kV (fun M2 => K (.inl (some (.int (0 : Int32)))) M2) (fun X3 M4 => (X3 = "java/lang/IllegalStateException" ∧ K (.inl (some (.int (1 : Int32)))) M4))) M a0)
set_option maxRecDepth 100000 in
set_option maxHeartbeats 4000000 in
theorem x_L_sleep {G : Gx} {K : Rs → Mm → Prop} {M : Mm} {a0 : Nat} (h : V_L_sleep K M a0) : MC G mi_L_sleep [.ref a0] M K := by
  unfold V_L_sleep at h
  refine mc_ofH (by decide) (by decide +kernel) dc_L_sleep (Nat.le_of_ble_eq_true rfl) 1 (Nat.le_of_ble_eq_true rfl) ?_
  show E G mi_L_sleep K M 0 0 0 [some (.ref a0), none] []
  refine e_blk 1 0 _ _ (pc' := 1) (L' := [some (.ref a0), none]) (st' := [.ref a0]) rfl ?_
  obtain ⟨ho1, h⟩ := h
  have hthr : ∀ (X3 : String) (M4 : Mm), ((X3 = "java/lang/IllegalStateException" ∧ K (.inl (some (.int (1 : Int32)))) M4)) → ET G mi_L_sleep K M4 1 6 1 [some (.ref a0), none] [] X3 := by
    intro X3 M4 h
    rcases h with ⟨rfl, h⟩
    · refine et_catch [] ⟨0, 4, 7, 21⟩ [] "java/lang/IllegalStateException" rfl (fun z hz => nomatch hz) (by decide) (by decide) (aw (i := 476) (by decide +kernel) rfl) (ao (i := 493) (by decide +kernel) rfl) (fun q => ?_)
      refine e_blk 2 7 _ _ (pc' := 9) (L' := [some (.ref a0), some (.ref q)]) (st' := [.int (1 : Int32)]) rfl ?_
      exact e_reti rfl rfl (by decide) (by decide) h
  refine e_callV (As := []) (rest := []) (ci := 6) rfl (x_X6_sleep h) ho1 rfl rfl rfl (aw (i := 1011) (by decide +kernel) rfl) wn_X6_sleep wv_X6_sleep wi_X6_sleep wc_X6_sleep (show cok mi_L_sleep mi_X6_sleep 0 0 0 = true by decide +kernel) (Nat.le_of_ble_eq_true rfl) (fun v9 M2 hq => ?_) (fun X M9 hq => hthr X M9 hq)
  obtain ⟨rfl, h⟩ := kV_l hq
  refine e_blk 2 4 _ _ (pc' := 11) (L' := [some (.ref a0), none]) (st' := [.int (0 : Int32)]) rfl ?_
  exact e_reti rfl rfl (by decide) (by decide) h
def V_L_wake (K : Rs → Mm → Prop) (M : Mm) (a0 : Nat) (a1 : Nat) : Prop := (ob M a0 6 ∧ V_X6_wake (kI (fun r5 M2 => (ob M2 a1 10 ∧ (vp_in (0 : Int32) (mN M2 a1) ∧ ∀ M8, M8 = sJ M2 a1 ((0 : Int32)).toNatClampNeg ((r5).toInt64) → K (.inl (some (.int (0 : Int32)))) M8))) (fun X3 M4 => (X3 = "java/lang/IllegalStateException" ∧ K (.inl (some (.int (1 : Int32)))) M4))) M a0)
set_option maxRecDepth 100000 in
set_option maxHeartbeats 4000000 in
theorem x_L_wake {G : Gx} {K : Rs → Mm → Prop} {M : Mm} {a0 : Nat} {a1 : Nat} (h : V_L_wake K M a0 a1) : MC G mi_L_wake [.ref a0, .ref a1] M K := by
  unfold V_L_wake at h
  refine mc_ofH (by decide) (by decide +kernel) dc_L_wake (Nat.le_of_ble_eq_true rfl) 1 (Nat.le_of_ble_eq_true rfl) ?_
  show E G mi_L_wake K M 0 0 0 [some (.ref a0), some (.ref a1), none] []
  refine e_blk 3 0 _ _ (pc' := 3) (L' := [some (.ref a0), some (.ref a1), none]) (st' := [.ref a0, .int (0 : Int32), .ref a1]) rfl ?_
  obtain ⟨ho1, h⟩ := h
  have hthr : ∀ (X3 : String) (M4 : Mm), ((X3 = "java/lang/IllegalStateException" ∧ K (.inl (some (.int (1 : Int32)))) M4)) → ET G mi_L_wake K M4 1 6 3 [some (.ref a0), some (.ref a1), none] [.int (0 : Int32), .ref a1] X3 := by
    intro X3 M4 h
    rcases h with ⟨rfl, h⟩
    · refine et_catch [] ⟨0, 8, 11, 21⟩ [] "java/lang/IllegalStateException" rfl (fun z hz => nomatch hz) (by decide) (by decide) (aw (i := 476) (by decide +kernel) rfl) (ao (i := 493) (by decide +kernel) rfl) (fun q => ?_)
      refine e_blk 2 11 _ _ (pc' := 13) (L' := [some (.ref a0), some (.ref a1), some (.ref q)]) (st' := [.int (1 : Int32)]) rfl ?_
      exact e_reti rfl rfl (by decide) (by decide) h
  refine e_callV (As := []) (rest := [.int (0 : Int32), .ref a1]) (ci := 6) rfl (x_X6_wake h) ho1 rfl rfl rfl (aw (i := 1018) (by decide +kernel) rfl) wn_X6_wake wv_X6_wake wi_X6_wake wc_X6_wake (show cok mi_L_wake mi_X6_wake 0 0 0 = true by decide +kernel) (Nat.le_of_ble_eq_true rfl) (fun v9 M2 hq => ?_) (fun X M9 hq => hthr X M9 hq)
  obtain ⟨r5, rfl, h⟩ := kI_l hq
  refine e_blk 1 6 _ _ (pc' := 7) (L' := [some (.ref a0), some (.ref a1), none]) (st' := [.long ((r5).toInt64), .int (0 : Int32), .ref a1]) rfl ?_
  obtain ⟨ho6, h⟩ := h
  obtain ⟨hi7, h⟩ := h
  refine e_last rfl ho6 hi7 ?_
  generalize hM8 : sJ M2 a1 ((0 : Int32)).toNatClampNeg ((r5).toInt64) = M8
  replace h := h M8 hM8.symm
  replace ho6 : ob M8 a1 10 := hM8 ▸ ob_sJ ho6
  refine e_blk 2 8 _ _ (pc' := 15) (L' := [some (.ref a0), some (.ref a1), none]) (st' := [.int (0 : Int32)]) rfl ?_
  exact e_reti rfl rfl (by decide) (by decide) h
def V_L_log (K : Rs → Mm → Prop) (M : Mm) (a0 : Nat) (a1 : Int32) (a2 : Int32) (a3 : Nat) : Prop := (ob M a0 6 ∧ V_X6_log (kI (fun r5 M2 => (ob M2 a3 10 ∧ (vp_in (0 : Int32) (mN M2 a3) ∧ ∀ M8, M8 = sJ M2 a3 ((0 : Int32)).toNatClampNeg ((r5).toInt64) → K (.inl (some (.int (0 : Int32)))) M8))) (fun X3 M4 => (X3 = "java/lang/IndexOutOfBoundsException" ∧ K (.inl (some (.int (1 : Int32)))) M4) ∨ (X3 = "java/lang/IllegalArgumentException" ∧ K (.inl (some (.int (2 : Int32)))) M4))) M a0 a1 a2)
set_option maxRecDepth 100000 in
set_option maxHeartbeats 4000000 in
theorem x_L_log {G : Gx} {K : Rs → Mm → Prop} {M : Mm} {a0 : Nat} {a1 : Int32} {a2 : Int32} {a3 : Nat} (h : V_L_log K M a0 a1 a2 a3) : MC G mi_L_log [.ref a0, .int a1, .int a2, .ref a3] M K := by
  unfold V_L_log at h
  refine mc_ofH (by decide) (by decide +kernel) dc_L_log (Nat.le_of_ble_eq_true rfl) 1 (Nat.le_of_ble_eq_true rfl) ?_
  show E G mi_L_log K M 0 0 0 [some (.ref a0), some (.int a1), some (.int a2), some (.ref a3), none] []
  refine e_blk 5 0 _ _ (pc' := 5) (L' := [some (.ref a0), some (.int a1), some (.int a2), some (.ref a3), none]) (st' := [.int a2, .int a1, .ref a0, .int (0 : Int32), .ref a3]) rfl ?_
  obtain ⟨ho1, h⟩ := h
  have hthr : ∀ (X3 : String) (M4 : Mm), ((X3 = "java/lang/IndexOutOfBoundsException" ∧ K (.inl (some (.int (1 : Int32)))) M4) ∨ (X3 = "java/lang/IllegalArgumentException" ∧ K (.inl (some (.int (2 : Int32)))) M4)) → ET G mi_L_log K M4 2 12 5 [some (.ref a0), some (.int a1), some (.int a2), some (.ref a3), none] [.int (0 : Int32), .ref a3] X3 := by
    intro X3 M4 h
    rcases h with ⟨rfl, h⟩ | ⟨rfl, h⟩
    · refine et_catch [] ⟨0, 10, 13, 13⟩ [⟨0, 10, 17, 15⟩] "java/lang/IndexOutOfBoundsException" rfl (fun z hz => nomatch hz) (by decide) (by decide) (aw (i := 372) (by decide +kernel) rfl) (ao (i := 384) (by decide +kernel) rfl) (fun q => ?_)
      refine e_blk 2 13 _ _ (pc' := 16) (L' := [some (.ref a0), some (.int a1), some (.int a2), some (.ref a3), some (.ref q)]) (st' := [.int (1 : Int32)]) rfl ?_
      exact e_reti rfl rfl (by decide) (by decide) h
    · refine et_catch [⟨0, 10, 13, 13⟩] ⟨0, 10, 17, 15⟩ [] "java/lang/IllegalArgumentException" rfl (List.forall_mem_cons.mpr ⟨Or.inr ⟨by decide, "java/lang/IndexOutOfBoundsException", (aw (i := 372) (by decide +kernel) rfl), by decide⟩, fun _ hz => nomatch hz⟩) (by decide) (by decide) (aw (i := 373) (by decide +kernel) rfl) (ao (i := 455) (by decide +kernel) rfl) (fun q => ?_)
      refine e_blk 2 17 _ _ (pc' := 20) (L' := [some (.ref a0), some (.int a1), some (.int a2), some (.ref a3), some (.ref q)]) (st' := [.int (2 : Int32)]) rfl ?_
      exact e_reti rfl rfl (by decide) (by decide) h
  refine e_callV (As := [.int a1, .int a2]) (rest := [.int (0 : Int32), .ref a3]) (ci := 6) rfl (x_X6_log h) ho1 rfl rfl rfl (aw (i := 1038) (by decide +kernel) rfl) wn_X6_log wv_X6_log wi_X6_log wc_X6_log (show cok mi_L_log mi_X6_log 0 0 2 = true by decide +kernel) (Nat.le_of_ble_eq_true rfl) (fun v9 M2 hq => ?_) (fun X M9 hq => hthr X M9 hq)
  obtain ⟨r5, rfl, h⟩ := kI_l hq
  refine e_blk 1 8 _ _ (pc' := 9) (L' := [some (.ref a0), some (.int a1), some (.int a2), some (.ref a3), none]) (st' := [.long ((r5).toInt64), .int (0 : Int32), .ref a3]) rfl ?_
  obtain ⟨ho6, h⟩ := h
  obtain ⟨hi7, h⟩ := h
  refine e_last rfl ho6 hi7 ?_
  generalize hM8 : sJ M2 a3 ((0 : Int32)).toNatClampNeg ((r5).toInt64) = M8
  replace h := h M8 hM8.symm
  replace ho6 : ob M8 a3 10 := hM8 ▸ ob_sJ ho6
  refine e_blk 2 10 _ _ (pc' := 22) (L' := [some (.ref a0), some (.int a1), some (.int a2), some (.ref a3), none]) (st' := [.int (0 : Int32)]) rfl ?_
  exact e_reti rfl rfl (by decide) (by decide) h
def V_L_count (K : Rs → Mm → Prop) (M : Mm) (a0 : Nat) (a1 : Int32) (a2 : Nat) : Prop := (ob M a0 6 ∧ V_X6_count (kI (fun r5 M2 => (ob M2 a2 10 ∧ (vp_in (0 : Int32) (mN M2 a2) ∧ ∀ M8, M8 = sJ M2 a2 ((0 : Int32)).toNatClampNeg ((r5).toInt64) → K (.inl (some (.int (0 : Int32)))) M8))) (fun X3 M4 => (X3 = "java/lang/IllegalArgumentException" ∧ K (.inl (some (.int (1 : Int32)))) M4))) M a0 a1)
set_option maxRecDepth 100000 in
set_option maxHeartbeats 4000000 in
theorem x_L_count {G : Gx} {K : Rs → Mm → Prop} {M : Mm} {a0 : Nat} {a1 : Int32} {a2 : Nat} (h : V_L_count K M a0 a1 a2) : MC G mi_L_count [.ref a0, .int a1, .ref a2] M K := by
  unfold V_L_count at h
  refine mc_ofH (by decide) (by decide +kernel) dc_L_count (Nat.le_of_ble_eq_true rfl) 1 (Nat.le_of_ble_eq_true rfl) ?_
  show E G mi_L_count K M 0 0 0 [some (.ref a0), some (.int a1), some (.ref a2), none] []
  refine e_blk 4 0 _ _ (pc' := 4) (L' := [some (.ref a0), some (.int a1), some (.ref a2), none]) (st' := [.int a1, .ref a0, .int (0 : Int32), .ref a2]) rfl ?_
  obtain ⟨ho1, h⟩ := h
  have hthr : ∀ (X3 : String) (M4 : Mm), ((X3 = "java/lang/IllegalArgumentException" ∧ K (.inl (some (.int (1 : Int32)))) M4)) → ET G mi_L_count K M4 1 6 4 [some (.ref a0), some (.int a1), some (.ref a2), none] [.int (0 : Int32), .ref a2] X3 := by
    intro X3 M4 h
    rcases h with ⟨rfl, h⟩
    · refine et_catch [] ⟨0, 9, 12, 15⟩ [] "java/lang/IllegalArgumentException" rfl (fun z hz => nomatch hz) (by decide) (by decide) (aw (i := 373) (by decide +kernel) rfl) (ao (i := 455) (by decide +kernel) rfl) (fun q => ?_)
      refine e_blk 2 12 _ _ (pc' := 14) (L' := [some (.ref a0), some (.int a1), some (.ref a2), some (.ref q)]) (st' := [.int (1 : Int32)]) rfl ?_
      exact e_reti rfl rfl (by decide) (by decide) h
  refine e_callV (As := [.int a1]) (rest := [.int (0 : Int32), .ref a2]) (ci := 6) rfl (x_X6_count h) ho1 rfl rfl rfl (aw (i := 1051) (by decide +kernel) rfl) wn_X6_count wv_X6_count wi_X6_count wc_X6_count (show cok mi_L_count mi_X6_count 0 0 1 = true by decide +kernel) (Nat.le_of_ble_eq_true rfl) (fun v9 M2 hq => ?_) (fun X M9 hq => hthr X M9 hq)
  obtain ⟨r5, rfl, h⟩ := kI_l hq
  refine e_blk 1 7 _ _ (pc' := 8) (L' := [some (.ref a0), some (.int a1), some (.ref a2), none]) (st' := [.long ((r5).toInt64), .int (0 : Int32), .ref a2]) rfl ?_
  obtain ⟨ho6, h⟩ := h
  obtain ⟨hi7, h⟩ := h
  refine e_last rfl ho6 hi7 ?_
  generalize hM8 : sJ M2 a2 ((0 : Int32)).toNatClampNeg ((r5).toInt64) = M8
  replace h := h M8 hM8.symm
  replace ho6 : ob M8 a2 10 := hM8 ▸ ob_sJ ho6
  refine e_blk 2 9 _ _ (pc' := 16) (L' := [some (.ref a0), some (.int a1), some (.ref a2), none]) (st' := [.int (0 : Int32)]) rfl ?_
  exact e_reti rfl rfl (by decide) (by decide) h
