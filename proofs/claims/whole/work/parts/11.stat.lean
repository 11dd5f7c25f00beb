def is_J9_floorDiv_7cf53 : List (Instr × Nat) := [(.iload_n 0, 1), (.iload_n 1, 1), (.idiv, 1), (.istore_n 2, 1), (.iload_n 0, 1), (.iload_n 1, 1), (.ixor, 1), (.ifCond .ge 14, 3), (.iload_n 2, 1), (.iload_n 1, 1), (.imul, 1), (.iload_n 0, 1), (.if_icmp .eq 7, 3), (.iload_n 2, 1), (.iconst 1, 1), (.isub, 1), (.ireturn, 1), (.iload_n 2, 1), (.ireturn, 1)]
abbrev mi_J9_floorDiv_7cf53 : MI := (yJ9_floorDiv_7cf53, cJ9_floorDiv_7cf53, 3, (some .int), [], { frames := 0, cells := 0, slots := 0, locals := 0 }, is_J9_floorDiv_7cf53)
theorem dc_J9_floorDiv_7cf53 : dcb cJ9_floorDiv_7cf53 is_J9_floorDiv_7cf53 0 = true := by decide +kernel
theorem wc_J9_floorDiv_7cf53 : cdw mi_J9_floorDiv_7cf53 ∈ ALLW := aw (i := 528) (by decide +kernel) rfl
theorem wi_J9_floorDiv_7cf53 : Cond.initialized (miY mi_J9_floorDiv_7cf53).cls ∈ ALLW := aw (i := 71) (by decide +kernel) rfl
theorem ws_J9_floorDiv_7cf53 : Cond.static (miY mi_J9_floorDiv_7cf53) ∈ ALLW := aw (i := 527) (by decide +kernel) rfl
def is_X6_yearStart : List (Instr × Nat) := [(.iload_n 0, 1), (.iconst 1, 1), (.isub, 1), (.istore_n 1, 1), (.sipush 365, 3), (.iload_n 0, 1), (.sipush 1900, 3), (.isub, 1), (.imul, 1), (.iload_n 1, 1), (.iconst 4, 1), (.idiv, 1), (.iadd, 1), (.iload_n 1, 1), (.bipush 100, 2), (.idiv, 1), (.isub, 1), (.iload_n 1, 1), (.sipush 400, 3), (.idiv, 1), (.iadd, 1), (.sipush 460, 3), (.isub, 1), (.ireturn, 1)]
abbrev mi_X6_yearStart : MI := (yX6_yearStart, cX6_yearStart, 2, (some .int), [], { frames := 0, cells := 0, slots := 0, locals := 0 }, is_X6_yearStart)
theorem dc_X6_yearStart : dcb cX6_yearStart is_X6_yearStart 0 = true := by decide +kernel
theorem wc_X6_yearStart : cdw mi_X6_yearStart ∈ ALLW := aw (i := 536) (by decide +kernel) rfl
theorem wi_X6_yearStart : Cond.initialized (miY mi_X6_yearStart).cls ∈ ALLW := aw (i := 57) (by decide +kernel) rfl
theorem ws_X6_yearStart : Cond.static (miY mi_X6_yearStart) ∈ ALLW := aw (i := 535) (by decide +kernel) rfl
def is_X6_daysOfMonth : List (Instr × Nat) := [(.iload_n 1, 1), (.iconst 2, 1), (.if_icmp .ne 42, 3), (.iload_n 0, 1), (.iconst 4, 1), (.irem, 1), (.ifCond .ne 22, 3), (.iload_n 0, 1), (.bipush 100, 2), (.irem, 1), (.ifCond .ne 11, 3), (.iload_n 0, 1), (.sipush 400, 3), (.irem, 1), (.ifCond .ne 7, 3), (.iconst 1, 1), (.goto 4, 3), (.iconst 0, 1), (.istore_n 2, 1), (.iload_n 2, 1), (.ifCond .eq 8, 3), (.bipush 29, 2), (.goto 5, 3), (.bipush 28, 2), (.ireturn, 1), (.iload_n 1, 1), (.iconst 4, 1), (.if_icmp .eq 21, 3), (.iload_n 1, 1), (.bipush 6, 2), (.if_icmp .eq 15, 3), (.iload_n 1, 1), (.bipush 9, 2), (.if_icmp .eq 9, 3), (.iload_n 1, 1), (.bipush 11, 2), (.if_icmp .ne 8, 3), (.bipush 30, 2), (.goto 5, 3), (.bipush 31, 2), (.ireturn, 1)]
abbrev mi_X6_daysOfMonth : MI := (yX6_daysOfMonth, cX6_daysOfMonth, 3, (some .int), [], { frames := 0, cells := 0, slots := 0, locals := 0 }, is_X6_daysOfMonth)
theorem dc_X6_daysOfMonth : dcb cX6_daysOfMonth is_X6_daysOfMonth 0 = true := by decide +kernel
theorem wc_X6_daysOfMonth : cdw mi_X6_daysOfMonth ∈ ALLW := aw (i := 539) (by decide +kernel) rfl
theorem wi_X6_daysOfMonth : Cond.initialized (miY mi_X6_daysOfMonth).cls ∈ ALLW := aw (i := 57) (by decide +kernel) rfl
theorem ws_X6_daysOfMonth : Cond.static (miY mi_X6_daysOfMonth) ∈ ALLW := aw (i := 538) (by decide +kernel) rfl
def is_J9_floorMod_7cf53 : List (Instr × Nat) := [(.iload_n 0, 1), (.iload_n 1, 1), (.irem, 1), (.istore_n 2, 1), (.iload_n 0, 1), (.iload_n 1, 1), (.ixor, 1), (.ifCond .ge 11, 3), (.iload_n 2, 1), (.ifCond .eq 7, 3), (.iload_n 2, 1), (.iload_n 1, 1), (.iadd, 1), (.ireturn, 1), (.iload_n 2, 1), (.ireturn, 1)]
abbrev mi_J9_floorMod_7cf53 : MI := (yJ9_floorMod_7cf53, cJ9_floorMod_7cf53, 3, (some .int), [], { frames := 0, cells := 0, slots := 0, locals := 0 }, is_J9_floorMod_7cf53)
theorem dc_J9_floorMod_7cf53 : dcb cJ9_floorMod_7cf53 is_J9_floorMod_7cf53 0 = true := by decide +kernel
theorem wc_J9_floorMod_7cf53 : cdw mi_J9_floorMod_7cf53 ∈ ALLW := aw (i := 546) (by decide +kernel) rfl
theorem wi_J9_floorMod_7cf53 : Cond.initialized (miY mi_J9_floorMod_7cf53).cls ∈ ALLW := aw (i := 71) (by decide +kernel) rfl
theorem ws_J9_floorMod_7cf53 : Cond.static (miY mi_J9_floorMod_7cf53) ∈ ALLW := aw (i := 545) (by decide +kernel) rfl
def is_X6_monthStart : List (Instr × Nat) := [(.iload_n 0, 1), (.invokestatic 115, 3), (.istore_n 2, 1), (.iconst 1, 1), (.istore_n 3, 1), (.iload_n 3, 1), (.iload_n 1, 1), (.if_icmp .ge 23, 3), (.iload_n 3, 1), (.bipush 12, 2), (.if_icmp .ge 17, 3), (.iload_n 2, 1), (.iload_n 0, 1), (.iload_n 3, 1), (.invokestatic 323, 3), (.iadd, 1), (.istore_n 2, 1), (.iinc 3 1, 3), (.goto (-22), 3), (.iload_n 2, 1), (.ireturn, 1)]
abbrev mi_X6_monthStart : MI := (yX6_monthStart, cX6_monthStart, 4, (some .int), [], { frames := 1, cells := 0, slots := 0, locals := 22 }, is_X6_monthStart)
theorem dc_X6_monthStart : dcb cX6_monthStart is_X6_monthStart 0 = true := by decide +kernel
theorem wc_X6_monthStart : cdw mi_X6_monthStart ∈ ALLW := aw (i := 563) (by decide +kernel) rfl
theorem wi_X6_monthStart : Cond.initialized (miY mi_X6_monthStart).cls ∈ ALLW := aw (i := 57) (by decide +kernel) rfl
theorem ws_X6_monthStart : Cond.static (miY mi_X6_monthStart) ∈ ALLW := aw (i := 562) (by decide +kernel) rfl
def is_J9_max_7cf53 : List (Instr × Nat) := [(.iload_n 0, 1), (.iload_n 1, 1), (.if_icmp .lt 7, 3), (.iload_n 0, 1), (.goto 4, 3), (.iload_n 1, 1), (.ireturn, 1)]
abbrev mi_J9_max_7cf53 : MI := (yJ9_max_7cf53, cJ9_max_7cf53, 2, (some .int), [], { frames := 0, cells := 0, slots := 0, locals := 0 }, is_J9_max_7cf53)
theorem dc_J9_max_7cf53 : dcb cJ9_max_7cf53 is_J9_max_7cf53 0 = true := by decide +kernel
theorem wc_J9_max_7cf53 : cdw mi_J9_max_7cf53 ∈ ALLW := aw (i := 827) (by decide +kernel) rfl
theorem wi_J9_max_7cf53 : Cond.initialized (miY mi_J9_max_7cf53).cls ∈ ALLW := aw (i := 71) (by decide +kernel) rfl
theorem ws_J9_max_7cf53 : Cond.static (miY mi_J9_max_7cf53) ∈ ALLW := aw (i := 826) (by decide +kernel) rfl
def is_J9_min_7cf53 : List (Instr × Nat) := [(.iload_n 0, 1), (.iload_n 1, 1), (.if_icmp .gt 7, 3), (.iload_n 0, 1), (.goto 4, 3), (.iload_n 1, 1), (.ireturn, 1)]
abbrev mi_J9_min_7cf53 : MI := (yJ9_min_7cf53, cJ9_min_7cf53, 2, (some .int), [], { frames := 0, cells := 0, slots := 0, locals := 0 }, is_J9_min_7cf53)
theorem dc_J9_min_7cf53 : dcb cJ9_min_7cf53 is_J9_min_7cf53 0 = true := by decide +kernel
theorem wc_J9_min_7cf53 : cdw mi_J9_min_7cf53 ∈ ALLW := aw (i := 831) (by decide +kernel) rfl
theorem wi_J9_min_7cf53 : Cond.initialized (miY mi_J9_min_7cf53).cls ∈ ALLW := aw (i := 71) (by decide +kernel) rfl
theorem ws_J9_min_7cf53 : Cond.static (miY mi_J9_min_7cf53) ∈ ALLW := aw (i := 830) (by decide +kernel) rfl
def is_X6_below : List (Instr × Nat) := [(.lconst 1, 1), (.iload_n 0, 1), (.lshl, 1), (.lconst 1, 1), (.lsub, 1), (.lreturn, 1)]
abbrev mi_X6_below : MI := (yX6_below, cX6_below, 1, (some .long), [], { frames := 0, cells := 0, slots := 0, locals := 0 }, is_X6_below)
theorem dc_X6_below : dcb cX6_below is_X6_below 0 = true := by decide +kernel
theorem wc_X6_below : cdw mi_X6_below ∈ ALLW := aw (i := 804) (by decide +kernel) rfl
theorem wi_X6_below : Cond.initialized (miY mi_X6_below).cls ∈ ALLW := aw (i := 57) (by decide +kernel) rfl
theorem ws_X6_below : Cond.static (miY mi_X6_below) ∈ ALLW := aw (i := 803) (by decide +kernel) rfl
def is_X6_holds : List (Instr × Nat) := [(.iload_n 2, 1), (.ifCond .lt 23, 3), (.iload_n 2, 1), (.bipush 64, 2), (.if_icmp .ge 17, 3), (.lload_n 0, 1), (.iload_n 2, 1), (.lushr, 1), (.lconst 1, 1), (.land, 1), (.lconst 0, 1), (.lcmp, 1), (.ifCond .eq 7, 3), (.iconst 1, 1), (.goto 4, 3), (.iconst 0, 1), (.ireturn, 1)]
abbrev mi_X6_holds : MI := (yX6_holds, cX6_holds, 3, (some .boolean), [], { frames := 0, cells := 0, slots := 0, locals := 0 }, is_X6_holds)
theorem dc_X6_holds : dcb cX6_holds is_X6_holds 0 = true := by decide +kernel
theorem wc_X6_holds : cdw mi_X6_holds ∈ ALLW := aw (i := 793) (by decide +kernel) rfl
theorem wi_X6_holds : Cond.initialized (miY mi_X6_holds).cls ∈ ALLW := aw (i := 57) (by decide +kernel) rfl
theorem ws_X6_holds : Cond.static (miY mi_X6_holds) ∈ ALLW := aw (i := 792) (by decide +kernel) rfl
def is_J13_bitCount_95d88 : List (Instr × Nat) := [(.lload_n 0, 1), (.lload_n 0, 1), (.iconst 1, 1), (.lushr, 1), (.ldc2_w 314, 3), (.land, 1), (.lsub, 1), (.lstore_n 0, 1), (.lload_n 0, 1), (.ldc2_w 316, 3), (.land, 1), (.lload_n 0, 1), (.iconst 2, 1), (.lushr, 1), (.ldc2_w 316, 3), (.land, 1), (.ladd, 1), (.lstore_n 0, 1), (.lload_n 0, 1), (.lload_n 0, 1), (.iconst 4, 1), (.lushr, 1), (.ladd, 1), (.ldc2_w 318, 3), (.land, 1), (.lstore_n 0, 1), (.lload_n 0, 1), (.lload_n 0, 1), (.bipush 8, 2), (.lushr, 1), (.ladd, 1), (.lstore_n 0, 1), (.lload_n 0, 1), (.lload_n 0, 1), (.bipush 16, 2), (.lushr, 1), (.ladd, 1), (.lstore_n 0, 1), (.lload_n 0, 1), (.lload_n 0, 1), (.bipush 32, 2), (.lushr, 1), (.ladd, 1), (.lstore_n 0, 1), (.lload_n 0, 1), (.l2i, 1), (.bipush 127, 2), (.iand, 1), (.ireturn, 1)]
abbrev mi_J13_bitCount_95d88 : MI := (yJ13_bitCount_95d88, cJ13_bitCount_95d88, 2, (some .int), [], { frames := 0, cells := 0, slots := 0, locals := 0 }, is_J13_bitCount_95d88)
theorem dc_J13_bitCount_95d88 : dcb cJ13_bitCount_95d88 is_J13_bitCount_95d88 0 = true := by decide +kernel
theorem wc_J13_bitCount_95d88 : cdw mi_J13_bitCount_95d88 ∈ ALLW := aw (i := 853) (by decide +kernel) rfl
theorem wi_J13_bitCount_95d88 : Cond.initialized (miY mi_J13_bitCount_95d88).cls ∈ ALLW := aw (i := 76) (by decide +kernel) rfl
theorem ws_J13_bitCount_95d88 : Cond.static (miY mi_J13_bitCount_95d88) ∈ ALLW := aw (i := 852) (by decide +kernel) rfl
def is_X6_lowest : List (Instr × Nat) := [(.lload_n 0, 1), (.lload_n 0, 1), (.lneg, 1), (.land, 1), (.lconst 1, 1), (.lsub, 1), (.invokestatic 374, 3), (.ireturn, 1)]
abbrev mi_X6_lowest : MI := (yX6_lowest, cX6_lowest, 2, (some .int), [], { frames := 1, cells := 0, slots := 0, locals := 21 }, is_X6_lowest)
theorem dc_X6_lowest : dcb cX6_lowest is_X6_lowest 0 = true := by decide +kernel
theorem wc_X6_lowest : cdw mi_X6_lowest ∈ ALLW := aw (i := 850) (by decide +kernel) rfl
theorem wi_X6_lowest : Cond.initialized (miY mi_X6_lowest).cls ∈ ALLW := aw (i := 57) (by decide +kernel) rfl
theorem ws_X6_lowest : Cond.static (miY mi_X6_lowest) ∈ ALLW := aw (i := 849) (by decide +kernel) rfl
def is_X6_highest : List (Instr × Nat) := [(.lload_n 0, 1), (.lstore_n 2, 1), (.iconst 1, 1), (.istore 4, 2), (.iload 4, 2), (.bipush 64, 2), (.if_icmp .ge 19, 3), (.lload_n 2, 1), (.lload_n 2, 1), (.iload 4, 2), (.lushr, 1), (.lor, 1), (.lstore_n 2, 1), (.iload 4, 2), (.iconst 2, 1), (.imul, 1), (.istore 4, 2), (.goto (-20), 3), (.lload_n 2, 1), (.invokestatic 374, 3), (.iconst 1, 1), (.isub, 1), (.ireturn, 1)]
abbrev mi_X6_highest : MI := (yX6_highest, cX6_highest, 5, (some .int), [], { frames := 1, cells := 0, slots := 0, locals := 21 }, is_X6_highest)
theorem dc_X6_highest : dcb cX6_highest is_X6_highest 0 = true := by decide +kernel
theorem wc_X6_highest : cdw mi_X6_highest ∈ ALLW := aw (i := 908) (by decide +kernel) rfl
theorem wi_X6_highest : Cond.initialized (miY mi_X6_highest).cls ∈ ALLW := aw (i := 57) (by decide +kernel) rfl
theorem ws_X6_highest : Cond.static (miY mi_X6_highest) ∈ ALLW := aw (i := 907) (by decide +kernel) rfl
def V_J9_floorDiv_7cf53_21 (K : Rs → Mm → Prop)  (M : Mm) (l2 : Int32) : Prop := K (.inl (some (.int l2))) M
set_option maxRecDepth 100000 in
set_option maxHeartbeats 4000000 in
theorem x_J9_floorDiv_7cf53_21 {G : Gx} {K : Rs → Mm → Prop}  {M : Mm} {l2 : Int32} (h : V_J9_floorDiv_7cf53_21 K  M l2) : E G mi_J9_floorDiv_7cf53 K M 0 0 21 [none, none, some (.int l2)] [] := by
  unfold V_J9_floorDiv_7cf53_21 at h
  refine e_blk 1 21 _ _ (pc' := 22) (L' := [none, none, some (.int l2)]) (st' := [.int l2]) rfl ?_
  exact e_reti rfl rfl (by decide) (by decide) h
def V_J9_floorDiv_7cf53 (K : Rs → Mm → Prop) (M : Mm) (a0 : Int32) (a1 : Int32) : Prop := (¬ a1 = 0 ∧ ∀ x1 : Int32, x1 = (a0 / a1) → ((0 ≤ (a0 ^^^ a1) → V_J9_floorDiv_7cf53_21 K  M x1) ∧ (¬ 0 ≤ (a0 ^^^ a1) → (((x1 * a1) = a0 → V_J9_floorDiv_7cf53_21 K  M x1) ∧ (¬ (x1 * a1) = a0 → K (.inl (some (.int (x1 - (1 : Int32))))) M)))))
set_option maxRecDepth 100000 in
set_option maxHeartbeats 4000000 in
theorem x_J9_floorDiv_7cf53 {G : Gx} {K : Rs → Mm → Prop} {M : Mm} {a0 : Int32} {a1 : Int32} (h : V_J9_floorDiv_7cf53 K M a0 a1) : MC G mi_J9_floorDiv_7cf53 [.int a0, .int a1] M K := by
  unfold V_J9_floorDiv_7cf53 at h
  refine mc_of rfl (by decide +kernel) dc_J9_floorDiv_7cf53 (Nat.le_of_ble_eq_true rfl) 1 (Nat.le_of_ble_eq_true rfl) ?_
  show E G mi_J9_floorDiv_7cf53 K M 0 0 0 [some (.int a0), some (.int a1), none] []
  refine e_blk 2 0 _ _ (pc' := 2) (L' := [some (.int a0), some (.int a1), none]) (st' := [.int a1, .int a0]) rfl ?_
  refine e_idiv rfl h.1 ?_
  replace h := h.2
  refine e_blk 4 3 _ _ (pc' := 7) (L' := [some (.int a0), some (.int a1), some (.int (a0 / a1))]) (st' := [.int (a0 ^^^ a1)]) rfl ?_
  generalize hx_x1 : ((a0 / a1) : Int32) = x1
  replace h := h x1 hx_x1.symm
  refine e_if_ge 21 rfl rfl (fun hc => ?_) (fun hc => ?_)
  · replace h := h.1 hc
    refine e_drp [false, false, true] (L' := [none, none, some (.int x1)]) rfl ?_
    exact x_J9_floorDiv_7cf53_21  h
  · replace h := h.2 hc
    refine e_blk 4 10 _ _ (pc' := 14) (L' := [some (.int a0), some (.int a1), some (.int x1)]) (st' := [.int a0, .int (x1 * a1)]) rfl ?_
    refine e_icmp_eq 21 rfl rfl (fun hc => ?_) (fun hc => ?_)
    · replace h := h.1 hc
      refine e_drp [false, false, true] (L' := [none, none, some (.int x1)]) rfl ?_
      exact x_J9_floorDiv_7cf53_21  h
    · replace h := h.2 hc
      refine e_blk 3 17 _ _ (pc' := 20) (L' := [some (.int a0), some (.int a1), some (.int x1)]) (st' := [.int (x1 - (1 : Int32))]) rfl ?_
      exact e_reti rfl rfl (by decide) (by decide) h
def V_X6_yearStart (K : Rs → Mm → Prop) (M : Mm) (a0 : Int32) : Prop := ∀ x1 : Int32, x1 = (a0 - (1 : Int32)) → K (.inl (some (.int ((((((365 : Int32) * (a0 - (1900 : Int32))) + (x1 / (4 : Int32))) - (x1 / (100 : Int32))) + (x1 / (400 : Int32))) - (460 : Int32))))) M
set_option maxRecDepth 100000 in
set_option maxHeartbeats 4000000 in
theorem x_X6_yearStart {G : Gx} {K : Rs → Mm → Prop} {M : Mm} {a0 : Int32} (h : V_X6_yearStart K M a0) : MC G mi_X6_yearStart [.int a0] M K := by
  unfold V_X6_yearStart at h
  refine mc_of rfl (by decide +kernel) dc_X6_yearStart (Nat.le_of_ble_eq_true rfl) 1 (Nat.le_of_ble_eq_true rfl) ?_
  show E G mi_X6_yearStart K M 0 0 0 [some (.int a0), none] []
  refine e_blk 11 0 _ _ (pc' := 15) (L' := [some (.int a0), some (.int (a0 - (1 : Int32)))]) (st' := [.int (4 : Int32), .int (a0 - (1 : Int32)), .int ((365 : Int32) * (a0 - (1900 : Int32)))]) rfl ?_
  generalize hx_x1 : ((a0 - (1 : Int32)) : Int32) = x1
  replace h := h x1 hx_x1.symm
  refine e_idiv rfl (by decide) ?_
  refine e_blk 3 16 _ _ (pc' := 20) (L' := [some (.int a0), some (.int x1)]) (st' := [.int (100 : Int32), .int x1, .int (((365 : Int32) * (a0 - (1900 : Int32))) + (x1 / (4 : Int32)))]) rfl ?_
  refine e_idiv rfl (by decide) ?_
  refine e_blk 3 21 _ _ (pc' := 26) (L' := [some (.int a0), some (.int x1)]) (st' := [.int (400 : Int32), .int x1, .int ((((365 : Int32) * (a0 - (1900 : Int32))) + (x1 / (4 : Int32))) - (x1 / (100 : Int32)))]) rfl ?_
  refine e_idiv rfl (by decide) ?_
  refine e_blk 3 27 _ _ (pc' := 32) (L' := [some (.int a0), some (.int x1)]) (st' := [.int ((((((365 : Int32) * (a0 - (1900 : Int32))) + (x1 / (4 : Int32))) - (x1 / (100 : Int32))) + (x1 / (400 : Int32))) - (460 : Int32))]) rfl ?_
  exact e_reti rfl rfl (by decide) (by decide) h
def V_X6_daysOfMonth_74 (K : Rs → Mm → Prop)  (M : Mm) (s0 : Int32) : Prop := K (.inl (some (.int s0))) M
set_option maxRecDepth 100000 in
set_option maxHeartbeats 4000000 in
theorem x_X6_daysOfMonth_74 {G : Gx} {K : Rs → Mm → Prop}  {M : Mm} {s0 : Int32} (h : V_X6_daysOfMonth_74 K  M s0) : E G mi_X6_daysOfMonth K M 0 0 74 [none, none, none] [.int s0] := by
  unfold V_X6_daysOfMonth_74 at h
  exact e_reti rfl rfl (by decide) (by decide) h
def V_X6_daysOfMonth_67 (K : Rs → Mm → Prop)  (M : Mm)  : Prop := V_X6_daysOfMonth_74 K  M (30 : Int32)
set_option maxRecDepth 100000 in
set_option maxHeartbeats 4000000 in
theorem x_X6_daysOfMonth_67 {G : Gx} {K : Rs → Mm → Prop}  {M : Mm}  (h : V_X6_daysOfMonth_67 K  M ) : E G mi_X6_daysOfMonth K M 0 0 67 [none, none, none] [] := by
  unfold V_X6_daysOfMonth_67 at h
  refine e_blk 2 67 _ _ (pc' := 74) (L' := [none, none, none]) (st' := [.int (30 : Int32)]) rfl ?_
  refine e_drp [false, false, false] (L' := [none, none, none]) rfl ?_
  exact x_X6_daysOfMonth_74  h
def V_X6_daysOfMonth_43 (K : Rs → Mm → Prop)  (M : Mm) (s0 : Int32) : Prop := K (.inl (some (.int s0))) M
set_option maxRecDepth 100000 in
set_option maxHeartbeats 4000000 in
theorem x_X6_daysOfMonth_43 {G : Gx} {K : Rs → Mm → Prop}  {M : Mm} {s0 : Int32} (h : V_X6_daysOfMonth_43 K  M s0) : E G mi_X6_daysOfMonth K M 0 0 43 [none, none, none] [.int s0] := by
  unfold V_X6_daysOfMonth_43 at h
  exact e_reti rfl rfl (by decide) (by decide) h
def V_X6_daysOfMonth_31 (K : Rs → Mm → Prop)  (M : Mm) (s0 : Int32) : Prop := ((s0 = 0 → V_X6_daysOfMonth_43 K  M (28 : Int32)) ∧ (¬ s0 = 0 → V_X6_daysOfMonth_43 K  M (29 : Int32)))
set_option maxRecDepth 100000 in
set_option maxHeartbeats 4000000 in
theorem x_X6_daysOfMonth_31 {G : Gx} {K : Rs → Mm → Prop}  {M : Mm} {s0 : Int32} (h : V_X6_daysOfMonth_31 K  M s0) : E G mi_X6_daysOfMonth K M 0 0 31 [none, none, none] [.int s0] := by
  unfold V_X6_daysOfMonth_31 at h
  refine e_blk 2 31 _ _ (pc' := 33) (L' := [none, none, some (.int s0)]) (st' := [.int s0]) rfl ?_
  refine e_if_eq 41 rfl rfl (fun hc => ?_) (fun hc => ?_)
  · replace h := h.1 hc
    refine e_blk 1 41 _ _ (pc' := 43) (L' := [none, none, some (.int s0)]) (st' := [.int (28 : Int32)]) rfl ?_
    refine e_drp [false, false, false] (L' := [none, none, none]) rfl ?_
    exact x_X6_daysOfMonth_43  h
  · replace h := h.2 hc
    refine e_blk 2 36 _ _ (pc' := 43) (L' := [none, none, some (.int s0)]) (st' := [.int (29 : Int32)]) rfl ?_
    refine e_drp [false, false, false] (L' := [none, none, none]) rfl ?_
    exact x_X6_daysOfMonth_43  h
def V_X6_daysOfMonth_30 (K : Rs → Mm → Prop)  (M : Mm)  : Prop := V_X6_daysOfMonth_31 K  M (0 : Int32)
set_option maxRecDepth 100000 in
set_option maxHeartbeats 4000000 in
theorem x_X6_daysOfMonth_30 {G : Gx} {K : Rs → Mm → Prop}  {M : Mm}  (h : V_X6_daysOfMonth_30 K  M ) : E G mi_X6_daysOfMonth K M 0 0 30 [none, none, none] [] := by
  unfold V_X6_daysOfMonth_30 at h
  refine e_blk 1 30 _ _ (pc' := 31) (L' := [none, none, none]) (st' := [.int (0 : Int32)]) rfl ?_
  refine e_drp [false, false, false] (L' := [none, none, none]) rfl ?_
  exact x_X6_daysOfMonth_31  h
def V_X6_daysOfMonth_26 (K : Rs → Mm → Prop)  (M : Mm)  : Prop := V_X6_daysOfMonth_31 K  M (1 : Int32)
set_option maxRecDepth 100000 in
set_option maxHeartbeats 4000000 in
theorem x_X6_daysOfMonth_26 {G : Gx} {K : Rs → Mm → Prop}  {M : Mm}  (h : V_X6_daysOfMonth_26 K  M ) : E G mi_X6_daysOfMonth K M 0 0 26 [none, none, none] [] := by
  unfold V_X6_daysOfMonth_26 at h
  refine e_blk 2 26 _ _ (pc' := 31) (L' := [none, none, none]) (st' := [.int (1 : Int32)]) rfl ?_
  refine e_drp [false, false, false] (L' := [none, none, none]) rfl ?_
  exact x_X6_daysOfMonth_31  h
def V_X6_daysOfMonth (K : Rs → Mm → Prop) (M : Mm) (a0 : Int32) (a1 : Int32) : Prop := ((¬ a1 = (2 : Int32) → ((a1 = (4 : Int32) → V_X6_daysOfMonth_67 K  M ) ∧ (¬ a1 = (4 : Int32) → ((a1 = (6 : Int32) → V_X6_daysOfMonth_67 K  M ) ∧ (¬ a1 = (6 : Int32) → ((a1 = (9 : Int32) → V_X6_daysOfMonth_67 K  M ) ∧ (¬ a1 = (9 : Int32) → ((¬ a1 = (11 : Int32) → V_X6_daysOfMonth_74 K  M (31 : Int32)) ∧ (a1 = (11 : Int32) → V_X6_daysOfMonth_67 K  M ))))))))) ∧ (a1 = (2 : Int32) → ((¬ (a0 - a0 / (4 : Int32) * (4 : Int32)) = 0 → V_X6_daysOfMonth_30 K  M ) ∧ ((a0 - a0 / (4 : Int32) * (4 : Int32)) = 0 → ((¬ (a0 - a0 / (100 : Int32) * (100 : Int32)) = 0 → V_X6_daysOfMonth_26 K  M ) ∧ ((a0 - a0 / (100 : Int32) * (100 : Int32)) = 0 → ((¬ (a0 - a0 / (400 : Int32) * (400 : Int32)) = 0 → V_X6_daysOfMonth_30 K  M ) ∧ ((a0 - a0 / (400 : Int32) * (400 : Int32)) = 0 → V_X6_daysOfMonth_26 K  M ))))))))
set_option maxRecDepth 100000 in
set_option maxHeartbeats 4000000 in
theorem x_X6_daysOfMonth {G : Gx} {K : Rs → Mm → Prop} {M : Mm} {a0 : Int32} {a1 : Int32} (h : V_X6_daysOfMonth K M a0 a1) : MC G mi_X6_daysOfMonth [.int a0, .int a1] M K := by
  unfold V_X6_daysOfMonth at h
  refine mc_of rfl (by decide +kernel) dc_X6_daysOfMonth (Nat.le_of_ble_eq_true rfl) 1 (Nat.le_of_ble_eq_true rfl) ?_
  show E G mi_X6_daysOfMonth K M 0 0 0 [some (.int a0), some (.int a1), none] []
  refine e_blk 2 0 _ _ (pc' := 2) (L' := [some (.int a0), some (.int a1), none]) (st' := [.int (2 : Int32), .int a1]) rfl ?_
  refine e_icmp_ne 44 rfl rfl (fun hc => ?_) (fun hc => ?_)
  · replace h := h.1 hc
    refine e_blk 2 44 _ _ (pc' := 46) (L' := [some (.int a0), some (.int a1), none]) (st' := [.int (4 : Int32), .int a1]) rfl ?_
    refine e_icmp_eq 67 rfl rfl (fun hc => ?_) (fun hc => ?_)
    · replace h := h.1 hc
      refine e_drp [false, false, false] (L' := [none, none, none]) rfl ?_
      exact x_X6_daysOfMonth_67  h
    · replace h := h.2 hc
      refine e_blk 2 49 _ _ (pc' := 52) (L' := [some (.int a0), some (.int a1), none]) (st' := [.int (6 : Int32), .int a1]) rfl ?_
      refine e_icmp_eq 67 rfl rfl (fun hc => ?_) (fun hc => ?_)
      · replace h := h.1 hc
        refine e_drp [false, false, false] (L' := [none, none, none]) rfl ?_
        exact x_X6_daysOfMonth_67  h
      · replace h := h.2 hc
        refine e_blk 2 55 _ _ (pc' := 58) (L' := [some (.int a0), some (.int a1), none]) (st' := [.int (9 : Int32), .int a1]) rfl ?_
        refine e_icmp_eq 67 rfl rfl (fun hc => ?_) (fun hc => ?_)
        · replace h := h.1 hc
          refine e_drp [false, false, false] (L' := [none, none, none]) rfl ?_
          exact x_X6_daysOfMonth_67  h
        · replace h := h.2 hc
          refine e_blk 2 61 _ _ (pc' := 64) (L' := [some (.int a0), some (.int a1), none]) (st' := [.int (11 : Int32), .int a1]) rfl ?_
          refine e_icmp_ne 72 rfl rfl (fun hc => ?_) (fun hc => ?_)
          · replace h := h.1 hc
            refine e_blk 1 72 _ _ (pc' := 74) (L' := [some (.int a0), some (.int a1), none]) (st' := [.int (31 : Int32)]) rfl ?_
            refine e_drp [false, false, false] (L' := [none, none, none]) rfl ?_
            exact x_X6_daysOfMonth_74  h
          · replace h := h.2 hc
            refine e_drp [false, false, false] (L' := [none, none, none]) rfl ?_
            exact x_X6_daysOfMonth_67  h
  · replace h := h.2 hc
    refine e_blk 2 5 _ _ (pc' := 7) (L' := [some (.int a0), some (.int a1), none]) (st' := [.int (4 : Int32), .int a0]) rfl ?_
    refine e_irem rfl (by decide) ?_
    refine e_if_ne 30 rfl rfl (fun hc => ?_) (fun hc => ?_)
    · replace h := h.1 hc
      refine e_drp [false, false, false] (L' := [none, none, none]) rfl ?_
      exact x_X6_daysOfMonth_30  h
    · replace h := h.2 hc
      refine e_blk 2 11 _ _ (pc' := 14) (L' := [some (.int a0), some (.int a1), none]) (st' := [.int (100 : Int32), .int a0]) rfl ?_
      refine e_irem rfl (by decide) ?_
      refine e_if_ne 26 rfl rfl (fun hc => ?_) (fun hc => ?_)
      · replace h := h.1 hc
        refine e_drp [false, false, false] (L' := [none, none, none]) rfl ?_
        exact x_X6_daysOfMonth_26  h
      · replace h := h.2 hc
        refine e_blk 2 18 _ _ (pc' := 22) (L' := [some (.int a0), some (.int a1), none]) (st' := [.int (400 : Int32), .int a0]) rfl ?_
        refine e_irem rfl (by decide) ?_
        refine e_if_ne 30 rfl rfl (fun hc => ?_) (fun hc => ?_)
        · replace h := h.1 hc
          refine e_drp [false, false, false] (L' := [none, none, none]) rfl ?_
          exact x_X6_daysOfMonth_30  h
        · replace h := h.2 hc
          refine e_drp [false, false, false] (L' := [none, none, none]) rfl ?_
          exact x_X6_daysOfMonth_26  h
def V_J9_floorMod_7cf53_18 (K : Rs → Mm → Prop)  (M : Mm) (l2 : Int32) : Prop := K (.inl (some (.int l2))) M
set_option maxRecDepth 100000 in
set_option maxHeartbeats 4000000 in
theorem x_J9_floorMod_7cf53_18 {G : Gx} {K : Rs → Mm → Prop}  {M : Mm} {l2 : Int32} (h : V_J9_floorMod_7cf53_18 K  M l2) : E G mi_J9_floorMod_7cf53 K M 0 0 18 [none, none, some (.int l2)] [] := by
  unfold V_J9_floorMod_7cf53_18 at h
  refine e_blk 1 18 _ _ (pc' := 19) (L' := [none, none, some (.int l2)]) (st' := [.int l2]) rfl ?_
  exact e_reti rfl rfl (by decide) (by decide) h
def V_J9_floorMod_7cf53 (K : Rs → Mm → Prop) (M : Mm) (a0 : Int32) (a1 : Int32) : Prop := (¬ a1 = 0 ∧ ∀ x1 : Int32, x1 = (a0 - a0 / a1 * a1) → ((0 ≤ (a0 ^^^ a1) → V_J9_floorMod_7cf53_18 K  M x1) ∧ (¬ 0 ≤ (a0 ^^^ a1) → ((x1 = 0 → V_J9_floorMod_7cf53_18 K  M x1) ∧ (¬ x1 = 0 → K (.inl (some (.int (x1 + a1)))) M)))))
set_option maxRecDepth 100000 in
set_option maxHeartbeats 4000000 in
theorem x_J9_floorMod_7cf53 {G : Gx} {K : Rs → Mm → Prop} {M : Mm} {a0 : Int32} {a1 : Int32} (h : V_J9_floorMod_7cf53 K M a0 a1) : MC G mi_J9_floorMod_7cf53 [.int a0, .int a1] M K := by
  unfold V_J9_floorMod_7cf53 at h
  refine mc_of rfl (by decide +kernel) dc_J9_floorMod_7cf53 (Nat.le_of_ble_eq_true rfl) 1 (Nat.le_of_ble_eq_true rfl) ?_
  show E G mi_J9_floorMod_7cf53 K M 0 0 0 [some (.int a0), some (.int a1), none] []
  refine e_blk 2 0 _ _ (pc' := 2) (L' := [some (.int a0), some (.int a1), none]) (st' := [.int a1, .int a0]) rfl ?_
  refine e_irem rfl h.1 ?_
  replace h := h.2
  refine e_blk 4 3 _ _ (pc' := 7) (L' := [some (.int a0), some (.int a1), some (.int (a0 - a0 / a1 * a1))]) (st' := [.int (a0 ^^^ a1)]) rfl ?_
  generalize hx_x1 : ((a0 - a0 / a1 * a1) : Int32) = x1
  replace h := h x1 hx_x1.symm
  refine e_if_ge 18 rfl rfl (fun hc => ?_) (fun hc => ?_)
  · replace h := h.1 hc
    refine e_drp [false, false, true] (L' := [none, none, some (.int x1)]) rfl ?_
    exact x_J9_floorMod_7cf53_18  h
  · replace h := h.2 hc
    refine e_blk 1 10 _ _ (pc' := 11) (L' := [some (.int a0), some (.int a1), some (.int x1)]) (st' := [.int x1]) rfl ?_
    refine e_if_eq 18 rfl rfl (fun hc => ?_) (fun hc => ?_)
    · replace h := h.1 hc
      refine e_drp [false, false, true] (L' := [none, none, some (.int x1)]) rfl ?_
      exact x_J9_floorMod_7cf53_18  h
    · replace h := h.2 hc
      refine e_blk 3 14 _ _ (pc' := 17) (L' := [some (.int a0), some (.int a1), some (.int x1)]) (st' := [.int (x1 + a1)]) rfl ?_
      exact e_reti rfl rfl (by decide) (by decide) h
def V_X6_monthStart_32 (K : Rs → Mm → Prop)  (M : Mm) (l2 : Int32) : Prop := K (.inl (some (.int l2))) M
set_option maxRecDepth 100000 in
set_option maxHeartbeats 4000000 in
theorem x_X6_monthStart_32 {G : Gx} {K : Rs → Mm → Prop}  {M : Mm} {l2 : Int32} (h : V_X6_monthStart_32 K  M l2) : E G mi_X6_monthStart K M 0 0 32 [none, none, some (.int l2), none] [] := by
  unfold V_X6_monthStart_32 at h
  refine e_blk 1 32 _ _ (pc' := 33) (L' := [none, none, some (.int l2), none]) (st' := [.int l2]) rfl ?_
  exact e_reti rfl rfl (by decide) (by decide) h
def V_X6_monthStart_7 (K : Rs → Mm → Prop)  : Nat → Mm → Int32 → Int32 → Int32 → Int32 → Prop
  | 0, _, _, _, _, _ => False
  | z + 1, M, l0, l1, l2, l3 => ((l1 ≤ l3 → V_X6_monthStart_32 K  M l2) ∧ (¬ l1 ≤ l3 → (((12 : Int32) ≤ l3 → V_X6_monthStart_32 K  M l2) ∧ (¬ (12 : Int32) ≤ l3 → V_X6_daysOfMonth (kI (fun r2 M1 => ∀ x3 : Int32, x3 = (l2 + r2) → ∀ x4 : Int32, x4 = (l3 + (1 : Int32)) → V_X6_monthStart_7 K  z M1 l0 l1 x3 x4) (fun _ _ => False)) M l0 l3))))
set_option maxRecDepth 100000 in
set_option maxHeartbeats 4000000 in
theorem x_X6_monthStart_7 {G : Gx} {K : Rs → Mm → Prop}  : ∀ (z : Nat) (M : Mm) (l0 : Int32) (l1 : Int32) (l2 : Int32) (l3 : Int32), V_X6_monthStart_7 K  z M l0 l1 l2 l3 → E G mi_X6_monthStart K M 0 0 7 [some (.int l0), some (.int l1), some (.int l2), some (.int l3)] []
  | 0, M, l0, l1, l2, l3, h => False.elim h
  | z + 1, M, l0, l1, l2, l3, h => by
    unfold V_X6_monthStart_7 at h
    refine e_blk 2 7 _ _ (pc' := 9) (L' := [some (.int l0), some (.int l1), some (.int l2), some (.int l3)]) (st' := [.int l1, .int l3]) rfl ?_
    refine e_icmp_ge 32 rfl rfl (fun hc => ?_) (fun hc => ?_)
    · replace h := h.1 hc
      refine e_drp [false, false, true, false] (L' := [none, none, some (.int l2), none]) rfl ?_
      exact x_X6_monthStart_32  h
    · replace h := h.2 hc
      refine e_blk 2 12 _ _ (pc' := 15) (L' := [some (.int l0), some (.int l1), some (.int l2), some (.int l3)]) (st' := [.int (12 : Int32), .int l3]) rfl ?_
      refine e_icmp_ge 32 rfl rfl (fun hc => ?_) (fun hc => ?_)
      · replace h := h.1 hc
        refine e_drp [false, false, true, false] (L' := [none, none, some (.int l2), none]) rfl ?_
        exact x_X6_monthStart_32  h
      · replace h := h.2 hc
        refine e_blk 3 18 _ _ (pc' := 21) (L' := [some (.int l0), some (.int l1), some (.int l2), some (.int l3)]) (st' := [.int l3, .int l0, .int l2]) rfl ?_
        refine e_callS (As := [.int l0, .int l3]) (rest := [.int l2]) rfl (x_X6_daysOfMonth h) rfl (aw (i := 558) (by decide +kernel) rfl) ws_X6_daysOfMonth wi_X6_daysOfMonth wc_X6_daysOfMonth (show cok mi_X6_monthStart mi_X6_daysOfMonth 0 0 2 = true by decide +kernel) (Nat.le_of_ble_eq_true rfl) (fun v9 M1 hq => ?_) (fun X M9 hq => False.elim hq)
        obtain ⟨r2, rfl, h⟩ := kI_l hq
        refine e_blk 4 24 _ _ (pc' := 7) (L' := [some (.int l0), some (.int l1), some (.int (l2 + r2)), some (.int (l3 + (1 : Int32)))]) (st' := []) rfl ?_
        generalize hx_x3 : ((l2 + r2) : Int32) = x3
        replace h := h x3 hx_x3.symm
        generalize hx_x4 : ((l3 + (1 : Int32)) : Int32) = x4
        replace h := h x4 hx_x4.symm
        refine e_drp [true, true, true, true] (L' := [some (.int l0), some (.int l1), some (.int x3), some (.int x4)]) rfl ?_
        exact x_X6_monthStart_7  z _ _ _ _ _ h
def V_X6_monthStart (K : Rs → Mm → Prop) (M : Mm) (a0 : Int32) (a1 : Int32) : Prop := V_X6_yearStart (kI (fun r2 M1 => ∃ y, V_X6_monthStart_7 K  y M1 a0 a1 r2 (1 : Int32)) (fun _ _ => False)) M a0
set_option maxRecDepth 100000 in
set_option maxHeartbeats 4000000 in
theorem x_X6_monthStart {G : Gx} {K : Rs → Mm → Prop} {M : Mm} {a0 : Int32} {a1 : Int32} (h : V_X6_monthStart K M a0 a1) : MC G mi_X6_monthStart [.int a0, .int a1] M K := by
  unfold V_X6_monthStart at h
  refine mc_of rfl (by decide +kernel) dc_X6_monthStart (Nat.le_of_ble_eq_true rfl) 2 (Nat.le_of_ble_eq_true rfl) ?_
  show E G mi_X6_monthStart K M 0 0 0 [some (.int a0), some (.int a1), none, none] []
  refine e_blk 1 0 _ _ (pc' := 1) (L' := [some (.int a0), some (.int a1), none, none]) (st' := [.int a0]) rfl ?_
  refine e_callS (As := [.int a0]) (rest := []) rfl (x_X6_yearStart h) rfl (aw (i := 547) (by decide +kernel) rfl) ws_X6_yearStart wi_X6_yearStart wc_X6_yearStart (show cok mi_X6_monthStart mi_X6_yearStart 0 0 1 = true by decide +kernel) (Nat.le_of_ble_eq_true rfl) (fun v9 M1 hq => ?_) (fun X M9 hq => False.elim hq)
  obtain ⟨r2, rfl, h⟩ := kI_l hq
  refine e_blk 3 4 _ _ (pc' := 7) (L' := [some (.int a0), some (.int a1), some (.int r2), some (.int (1 : Int32))]) (st' := []) rfl ?_
  refine e_drp [true, true, true, true] (L' := [some (.int a0), some (.int a1), some (.int r2), some (.int (1 : Int32))]) rfl ?_
  obtain ⟨y, h⟩ := h
  exact x_X6_monthStart_7  y _ _ _ _ _ h
def V_J9_max_7cf53_10 (K : Rs → Mm → Prop)  (M : Mm) (s0 : Int32) : Prop := K (.inl (some (.int s0))) M
set_option maxRecDepth 100000 in
set_option maxHeartbeats 4000000 in
theorem x_J9_max_7cf53_10 {G : Gx} {K : Rs → Mm → Prop}  {M : Mm} {s0 : Int32} (h : V_J9_max_7cf53_10 K  M s0) : E G mi_J9_max_7cf53 K M 0 0 10 [none, none] [.int s0] := by
  unfold V_J9_max_7cf53_10 at h
  exact e_reti rfl rfl (by decide) (by decide) h
def V_J9_max_7cf53 (K : Rs → Mm → Prop) (M : Mm) (a0 : Int32) (a1 : Int32) : Prop := ((a0 < a1 → V_J9_max_7cf53_10 K  M a1) ∧ (¬ a0 < a1 → V_J9_max_7cf53_10 K  M a0))
set_option maxRecDepth 100000 in
set_option maxHeartbeats 4000000 in
theorem x_J9_max_7cf53 {G : Gx} {K : Rs → Mm → Prop} {M : Mm} {a0 : Int32} {a1 : Int32} (h : V_J9_max_7cf53 K M a0 a1) : MC G mi_J9_max_7cf53 [.int a0, .int a1] M K := by
  unfold V_J9_max_7cf53 at h
  refine mc_of rfl (by decide +kernel) dc_J9_max_7cf53 (Nat.le_of_ble_eq_true rfl) 0 (Nat.le_of_ble_eq_true rfl) ?_
  show E G mi_J9_max_7cf53 K M 0 0 0 [some (.int a0), some (.int a1)] []
  refine e_blk 2 0 _ _ (pc' := 2) (L' := [some (.int a0), some (.int a1)]) (st' := [.int a1, .int a0]) rfl ?_
  refine e_icmp_lt 9 rfl rfl (fun hc => ?_) (fun hc => ?_)
  · replace h := h.1 hc
    refine e_blk 1 9 _ _ (pc' := 10) (L' := [some (.int a0), some (.int a1)]) (st' := [.int a1]) rfl ?_
    refine e_drp [false, false] (L' := [none, none]) rfl ?_
    exact x_J9_max_7cf53_10  h
  · replace h := h.2 hc
    refine e_blk 2 5 _ _ (pc' := 10) (L' := [some (.int a0), some (.int a1)]) (st' := [.int a0]) rfl ?_
    refine e_drp [false, false] (L' := [none, none]) rfl ?_
    exact x_J9_max_7cf53_10  h
def V_J9_min_7cf53_10 (K : Rs → Mm → Prop)  (M : Mm) (s0 : Int32) : Prop := K (.inl (some (.int s0))) M
set_option maxRecDepth 100000 in
set_option maxHeartbeats 4000000 in
theorem x_J9_min_7cf53_10 {G : Gx} {K : Rs → Mm → Prop}  {M : Mm} {s0 : Int32} (h : V_J9_min_7cf53_10 K  M s0) : E G mi_J9_min_7cf53 K M 0 0 10 [none, none] [.int s0] := by
  unfold V_J9_min_7cf53_10 at h
  exact e_reti rfl rfl (by decide) (by decide) h
def V_J9_min_7cf53 (K : Rs → Mm → Prop) (M : Mm) (a0 : Int32) (a1 : Int32) : Prop := ((a1 < a0 → V_J9_min_7cf53_10 K  M a1) ∧ (¬ a1 < a0 → V_J9_min_7cf53_10 K  M a0))
set_option maxRecDepth 100000 in
set_option maxHeartbeats 4000000 in
theorem x_J9_min_7cf53 {G : Gx} {K : Rs → Mm → Prop} {M : Mm} {a0 : Int32} {a1 : Int32} (h : V_J9_min_7cf53 K M a0 a1) : MC G mi_J9_min_7cf53 [.int a0, .int a1] M K := by
  unfold V_J9_min_7cf53 at h
  refine mc_of rfl (by decide +kernel) dc_J9_min_7cf53 (Nat.le_of_ble_eq_true rfl) 0 (Nat.le_of_ble_eq_true rfl) ?_
  show E G mi_J9_min_7cf53 K M 0 0 0 [some (.int a0), some (.int a1)] []
  refine e_blk 2 0 _ _ (pc' := 2) (L' := [some (.int a0), some (.int a1)]) (st' := [.int a1, .int a0]) rfl ?_
  refine e_icmp_gt 9 rfl rfl (fun hc => ?_) (fun hc => ?_)
  · replace h := h.1 hc
    refine e_blk 1 9 _ _ (pc' := 10) (L' := [some (.int a0), some (.int a1)]) (st' := [.int a1]) rfl ?_
    refine e_drp [false, false] (L' := [none, none]) rfl ?_
    exact x_J9_min_7cf53_10  h
  · replace h := h.2 hc
    refine e_blk 2 5 _ _ (pc' := 10) (L' := [some (.int a0), some (.int a1)]) (st' := [.int a0]) rfl ?_
    refine e_drp [false, false] (L' := [none, none]) rfl ?_
    exact x_J9_min_7cf53_10  h
def V_X6_below (K : Rs → Mm → Prop) (M : Mm) (a0 : Int32) : Prop := K (.inl (some (.long (((1 : Int64) <<< ((a0).toInt64 &&& 63)) - (1 : Int64))))) M
set_option maxRecDepth 100000 in
set_option maxHeartbeats 4000000 in
theorem x_X6_below {G : Gx} {K : Rs → Mm → Prop} {M : Mm} {a0 : Int32} (h : V_X6_below K M a0) : MC G mi_X6_below [.int a0] M K := by
  unfold V_X6_below at h
  refine mc_of rfl (by decide +kernel) dc_X6_below (Nat.le_of_ble_eq_true rfl) 0 (Nat.le_of_ble_eq_true rfl) ?_
  show E G mi_X6_below K M 0 0 0 [some (.int a0)] []
  refine e_blk 5 0 _ _ (pc' := 5) (L' := [some (.int a0)]) (st' := [.long (((1 : Int64) <<< ((a0).toInt64 &&& 63)) - (1 : Int64))]) rfl ?_
  exact e_retl rfl rfl (by decide) (by decide) h
def V_X6_holds_25 (K : Rs → Mm → Prop)  (M : Mm) (s0 : Int32) : Prop := ((s0 = 0 ∨ s0 = 1) ∧ K (.inl (some (.int s0))) M)
set_option maxRecDepth 100000 in
set_option maxHeartbeats 4000000 in
theorem x_X6_holds_25 {G : Gx} {K : Rs → Mm → Prop}  {M : Mm} {s0 : Int32} (h : V_X6_holds_25 K  M s0) : E G mi_X6_holds K M 0 0 25 [none, none, none] [.int s0] := by
  unfold V_X6_holds_25 at h
  exact e_retz rfl rfl h.1 (by decide) (by decide) h.2
def V_X6_holds_24 (K : Rs → Mm → Prop)  (M : Mm)  : Prop := V_X6_holds_25 K  M (0 : Int32)
set_option maxRecDepth 100000 in
set_option maxHeartbeats 4000000 in
theorem x_X6_holds_24 {G : Gx} {K : Rs → Mm → Prop}  {M : Mm}  (h : V_X6_holds_24 K  M ) : E G mi_X6_holds K M 0 0 24 [none, none, none] [] := by
  unfold V_X6_holds_24 at h
  refine e_blk 1 24 _ _ (pc' := 25) (L' := [none, none, none]) (st' := [.int (0 : Int32)]) rfl ?_
  refine e_drp [false, false, false] (L' := [none, none, none]) rfl ?_
  exact x_X6_holds_25  h
def V_X6_holds (K : Rs → Mm → Prop) (M : Mm) (a0 : Int64) (a1 : Int32) : Prop := ((a1 < 0 → V_X6_holds_24 K  M ) ∧ (¬ a1 < 0 → (((64 : Int32) ≤ a1 → V_X6_holds_24 K  M ) ∧ (¬ (64 : Int32) ≤ a1 → (((lg_cmp ((((a0).toUInt64 >>> ((a1).toInt64.toUInt64 &&& Int64.toUInt64 63)).toInt64) &&& (1 : Int64)) (0 : Int64)) = 0 → V_X6_holds_24 K  M ) ∧ (¬ (lg_cmp ((((a0).toUInt64 >>> ((a1).toInt64.toUInt64 &&& Int64.toUInt64 63)).toInt64) &&& (1 : Int64)) (0 : Int64)) = 0 → V_X6_holds_25 K  M (1 : Int32)))))))
set_option maxRecDepth 100000 in
set_option maxHeartbeats 4000000 in
theorem x_X6_holds {G : Gx} {K : Rs → Mm → Prop} {M : Mm} {a0 : Int64} {a1 : Int32} (h : V_X6_holds K M a0 a1) : MC G mi_X6_holds [.long a0, .int a1] M K := by
  unfold V_X6_holds at h
  refine mc_of rfl (by decide +kernel) dc_X6_holds (Nat.le_of_ble_eq_true rfl) 0 (Nat.le_of_ble_eq_true rfl) ?_
  show E G mi_X6_holds K M 0 0 0 [some (.long a0), none, some (.int a1)] []
  refine e_blk 1 0 _ _ (pc' := 1) (L' := [some (.long a0), none, some (.int a1)]) (st' := [.int a1]) rfl ?_
  refine e_if_lt 24 rfl rfl (fun hc => ?_) (fun hc => ?_)
  · replace h := h.1 hc
    refine e_drp [false, false, false] (L' := [none, none, none]) rfl ?_
    exact x_X6_holds_24  h
  · replace h := h.2 hc
    refine e_blk 2 4 _ _ (pc' := 7) (L' := [some (.long a0), none, some (.int a1)]) (st' := [.int (64 : Int32), .int a1]) rfl ?_
    refine e_icmp_ge 24 rfl rfl (fun hc => ?_) (fun hc => ?_)
    · replace h := h.1 hc
      refine e_drp [false, false, false] (L' := [none, none, none]) rfl ?_
      exact x_X6_holds_24  h
    · replace h := h.2 hc
      refine e_blk 7 10 _ _ (pc' := 17) (L' := [some (.long a0), none, some (.int a1)]) (st' := [.int (lg_cmp ((((a0).toUInt64 >>> ((a1).toInt64.toUInt64 &&& Int64.toUInt64 63)).toInt64) &&& (1 : Int64)) (0 : Int64))]) rfl ?_
      refine e_if_eq 24 rfl rfl (fun hc => ?_) (fun hc => ?_)
      · replace h := h.1 hc
        refine e_drp [false, false, false] (L' := [none, none, none]) rfl ?_
        exact x_X6_holds_24  h
      · replace h := h.2 hc
        refine e_blk 2 20 _ _ (pc' := 25) (L' := [some (.long a0), none, some (.int a1)]) (st' := [.int (1 : Int32)]) rfl ?_
        refine e_drp [false, false, false] (L' := [none, none, none]) rfl ?_
        exact x_X6_holds_25  h
def V_J13_bitCount_95d88 (K : Rs → Mm → Prop) (M : Mm) (a0 : Int64) : Prop := ∀ x1 : Int64, x1 = (a0 - ((((a0).toUInt64 >>> (((1 : Int32)).toInt64.toUInt64 &&& Int64.toUInt64 63)).toInt64) &&& (6148914691236517205 : Int64))) → ∀ x2 : Int64, x2 = ((x1 &&& (3689348814741910323 : Int64)) + ((((x1).toUInt64 >>> (((2 : Int32)).toInt64.toUInt64 &&& Int64.toUInt64 63)).toInt64) &&& (3689348814741910323 : Int64))) → ∀ x3 : Int64, x3 = (((((x2 + (((x2).toUInt64 >>> (((4 : Int32)).toInt64.toUInt64 &&& Int64.toUInt64 63)).toInt64)) &&& (1085102592571150095 : Int64)) + (((((x2 + (((x2).toUInt64 >>> (((4 : Int32)).toInt64.toUInt64 &&& Int64.toUInt64 63)).toInt64)) &&& (1085102592571150095 : Int64))).toUInt64 >>> (((8 : Int32)).toInt64.toUInt64 &&& Int64.toUInt64 63)).toInt64)) + ((((((x2 + (((x2).toUInt64 >>> (((4 : Int32)).toInt64.toUInt64 &&& Int64.toUInt64 63)).toInt64)) &&& (1085102592571150095 : Int64)) + (((((x2 + (((x2).toUInt64 >>> (((4 : Int32)).toInt64.toUInt64 &&& Int64.toUInt64 63)).toInt64)) &&& (1085102592571150095 : Int64))).toUInt64 >>> (((8 : Int32)).toInt64.toUInt64 &&& Int64.toUInt64 63)).toInt64))).toUInt64 >>> (((16 : Int32)).toInt64.toUInt64 &&& Int64.toUInt64 63)).toInt64)) + (((((((x2 + (((x2).toUInt64 >>> (((4 : Int32)).toInt64.toUInt64 &&& Int64.toUInt64 63)).toInt64)) &&& (1085102592571150095 : Int64)) + (((((x2 + (((x2).toUInt64 >>> (((4 : Int32)).toInt64.toUInt64 &&& Int64.toUInt64 63)).toInt64)) &&& (1085102592571150095 : Int64))).toUInt64 >>> (((8 : Int32)).toInt64.toUInt64 &&& Int64.toUInt64 63)).toInt64)) + ((((((x2 + (((x2).toUInt64 >>> (((4 : Int32)).toInt64.toUInt64 &&& Int64.toUInt64 63)).toInt64)) &&& (1085102592571150095 : Int64)) + (((((x2 + (((x2).toUInt64 >>> (((4 : Int32)).toInt64.toUInt64 &&& Int64.toUInt64 63)).toInt64)) &&& (1085102592571150095 : Int64))).toUInt64 >>> (((8 : Int32)).toInt64.toUInt64 &&& Int64.toUInt64 63)).toInt64))).toUInt64 >>> (((16 : Int32)).toInt64.toUInt64 &&& Int64.toUInt64 63)).toInt64))).toUInt64 >>> (((32 : Int32)).toInt64.toUInt64 &&& Int64.toUInt64 63)).toInt64)) → K (.inl (some (.int (((x3).toInt32) &&& (127 : Int32))))) M
set_option maxRecDepth 100000 in
set_option maxHeartbeats 4000000 in
theorem x_J13_bitCount_95d88 {G : Gx} {K : Rs → Mm → Prop} {M : Mm} {a0 : Int64} (h : V_J13_bitCount_95d88 K M a0) : MC G mi_J13_bitCount_95d88 [.long a0] M K := by
  unfold V_J13_bitCount_95d88 at h
  refine mc_of rfl (by decide +kernel) dc_J13_bitCount_95d88 (Nat.le_of_ble_eq_true rfl) 0 (Nat.le_of_ble_eq_true rfl) ?_
  show E G mi_J13_bitCount_95d88 K M 0 0 0 [some (.long a0), none] []
  refine e_blk 4 0 _ _ (pc' := 4) (L' := [some (.long a0), none]) (st' := [.long (((a0).toUInt64 >>> (((1 : Int32)).toInt64.toUInt64 &&& Int64.toUInt64 63)).toInt64), .long a0]) rfl ?_
  refine e_ldc2 (6148914691236517205) rfl (aw (i := 854) (by decide +kernel) rfl) ?_
  refine e_blk 4 7 _ _ (pc' := 11) (L' := [some (.long (a0 - ((((a0).toUInt64 >>> (((1 : Int32)).toInt64.toUInt64 &&& Int64.toUInt64 63)).toInt64) &&& (6148914691236517205 : Int64)))), none]) (st' := [.long (a0 - ((((a0).toUInt64 >>> (((1 : Int32)).toInt64.toUInt64 &&& Int64.toUInt64 63)).toInt64) &&& (6148914691236517205 : Int64)))]) rfl ?_
  generalize hx_x1 : ((a0 - ((((a0).toUInt64 >>> (((1 : Int32)).toInt64.toUInt64 &&& Int64.toUInt64 63)).toInt64) &&& (6148914691236517205 : Int64))) : Int64) = x1
  replace h := h x1 hx_x1.symm
  refine e_ldc2 (3689348814741910323) rfl (aw (i := 855) (by decide +kernel) rfl) ?_
  refine e_blk 4 14 _ _ (pc' := 18) (L' := [some (.long x1), none]) (st' := [.long (((x1).toUInt64 >>> (((2 : Int32)).toInt64.toUInt64 &&& Int64.toUInt64 63)).toInt64), .long (x1 &&& (3689348814741910323 : Int64))]) rfl ?_
  refine e_ldc2 (3689348814741910323) rfl (aw (i := 855) (by decide +kernel) rfl) ?_
  refine e_blk 8 21 _ _ (pc' := 29) (L' := [some (.long ((x1 &&& (3689348814741910323 : Int64)) + ((((x1).toUInt64 >>> (((2 : Int32)).toInt64.toUInt64 &&& Int64.toUInt64 63)).toInt64) &&& (3689348814741910323 : Int64)))), none]) (st' := [.long (((x1 &&& (3689348814741910323 : Int64)) + ((((x1).toUInt64 >>> (((2 : Int32)).toInt64.toUInt64 &&& Int64.toUInt64 63)).toInt64) &&& (3689348814741910323 : Int64))) + (((((x1 &&& (3689348814741910323 : Int64)) + ((((x1).toUInt64 >>> (((2 : Int32)).toInt64.toUInt64 &&& Int64.toUInt64 63)).toInt64) &&& (3689348814741910323 : Int64)))).toUInt64 >>> (((4 : Int32)).toInt64.toUInt64 &&& Int64.toUInt64 63)).toInt64))]) rfl ?_
  generalize hx_x2 : (((x1 &&& (3689348814741910323 : Int64)) + ((((x1).toUInt64 >>> (((2 : Int32)).toInt64.toUInt64 &&& Int64.toUInt64 63)).toInt64) &&& (3689348814741910323 : Int64))) : Int64) = x2
  replace h := h x2 hx_x2.symm
  refine e_ldc2 (1085102592571150095) rfl (aw (i := 856) (by decide +kernel) rfl) ?_
  refine e_blk 24 32 _ _ (pc' := 60) (L' := [some (.long (((((x2 + (((x2).toUInt64 >>> (((4 : Int32)).toInt64.toUInt64 &&& Int64.toUInt64 63)).toInt64)) &&& (1085102592571150095 : Int64)) + (((((x2 + (((x2).toUInt64 >>> (((4 : Int32)).toInt64.toUInt64 &&& Int64.toUInt64 63)).toInt64)) &&& (1085102592571150095 : Int64))).toUInt64 >>> (((8 : Int32)).toInt64.toUInt64 &&& Int64.toUInt64 63)).toInt64)) + ((((((x2 + (((x2).toUInt64 >>> (((4 : Int32)).toInt64.toUInt64 &&& Int64.toUInt64 63)).toInt64)) &&& (1085102592571150095 : Int64)) + (((((x2 + (((x2).toUInt64 >>> (((4 : Int32)).toInt64.toUInt64 &&& Int64.toUInt64 63)).toInt64)) &&& (1085102592571150095 : Int64))).toUInt64 >>> (((8 : Int32)).toInt64.toUInt64 &&& Int64.toUInt64 63)).toInt64))).toUInt64 >>> (((16 : Int32)).toInt64.toUInt64 &&& Int64.toUInt64 63)).toInt64)) + (((((((x2 + (((x2).toUInt64 >>> (((4 : Int32)).toInt64.toUInt64 &&& Int64.toUInt64 63)).toInt64)) &&& (1085102592571150095 : Int64)) + (((((x2 + (((x2).toUInt64 >>> (((4 : Int32)).toInt64.toUInt64 &&& Int64.toUInt64 63)).toInt64)) &&& (1085102592571150095 : Int64))).toUInt64 >>> (((8 : Int32)).toInt64.toUInt64 &&& Int64.toUInt64 63)).toInt64)) + ((((((x2 + (((x2).toUInt64 >>> (((4 : Int32)).toInt64.toUInt64 &&& Int64.toUInt64 63)).toInt64)) &&& (1085102592571150095 : Int64)) + (((((x2 + (((x2).toUInt64 >>> (((4 : Int32)).toInt64.toUInt64 &&& Int64.toUInt64 63)).toInt64)) &&& (1085102592571150095 : Int64))).toUInt64 >>> (((8 : Int32)).toInt64.toUInt64 &&& Int64.toUInt64 63)).toInt64))).toUInt64 >>> (((16 : Int32)).toInt64.toUInt64 &&& Int64.toUInt64 63)).toInt64))).toUInt64 >>> (((32 : Int32)).toInt64.toUInt64 &&& Int64.toUInt64 63)).toInt64))), none]) (st' := [.int ((((((((x2 + (((x2).toUInt64 >>> (((4 : Int32)).toInt64.toUInt64 &&& Int64.toUInt64 63)).toInt64)) &&& (1085102592571150095 : Int64)) + (((((x2 + (((x2).toUInt64 >>> (((4 : Int32)).toInt64.toUInt64 &&& Int64.toUInt64 63)).toInt64)) &&& (1085102592571150095 : Int64))).toUInt64 >>> (((8 : Int32)).toInt64.toUInt64 &&& Int64.toUInt64 63)).toInt64)) + ((((((x2 + (((x2).toUInt64 >>> (((4 : Int32)).toInt64.toUInt64 &&& Int64.toUInt64 63)).toInt64)) &&& (1085102592571150095 : Int64)) + (((((x2 + (((x2).toUInt64 >>> (((4 : Int32)).toInt64.toUInt64 &&& Int64.toUInt64 63)).toInt64)) &&& (1085102592571150095 : Int64))).toUInt64 >>> (((8 : Int32)).toInt64.toUInt64 &&& Int64.toUInt64 63)).toInt64))).toUInt64 >>> (((16 : Int32)).toInt64.toUInt64 &&& Int64.toUInt64 63)).toInt64)) + (((((((x2 + (((x2).toUInt64 >>> (((4 : Int32)).toInt64.toUInt64 &&& Int64.toUInt64 63)).toInt64)) &&& (1085102592571150095 : Int64)) + (((((x2 + (((x2).toUInt64 >>> (((4 : Int32)).toInt64.toUInt64 &&& Int64.toUInt64 63)).toInt64)) &&& (1085102592571150095 : Int64))).toUInt64 >>> (((8 : Int32)).toInt64.toUInt64 &&& Int64.toUInt64 63)).toInt64)) + ((((((x2 + (((x2).toUInt64 >>> (((4 : Int32)).toInt64.toUInt64 &&& Int64.toUInt64 63)).toInt64)) &&& (1085102592571150095 : Int64)) + (((((x2 + (((x2).toUInt64 >>> (((4 : Int32)).toInt64.toUInt64 &&& Int64.toUInt64 63)).toInt64)) &&& (1085102592571150095 : Int64))).toUInt64 >>> (((8 : Int32)).toInt64.toUInt64 &&& Int64.toUInt64 63)).toInt64))).toUInt64 >>> (((16 : Int32)).toInt64.toUInt64 &&& Int64.toUInt64 63)).toInt64))).toUInt64 >>> (((32 : Int32)).toInt64.toUInt64 &&& Int64.toUInt64 63)).toInt64))).toInt32) &&& (127 : Int32))]) rfl ?_
  generalize hx_x3 : ((((((x2 + (((x2).toUInt64 >>> (((4 : Int32)).toInt64.toUInt64 &&& Int64.toUInt64 63)).toInt64)) &&& (1085102592571150095 : Int64)) + (((((x2 + (((x2).toUInt64 >>> (((4 : Int32)).toInt64.toUInt64 &&& Int64.toUInt64 63)).toInt64)) &&& (1085102592571150095 : Int64))).toUInt64 >>> (((8 : Int32)).toInt64.toUInt64 &&& Int64.toUInt64 63)).toInt64)) + ((((((x2 + (((x2).toUInt64 >>> (((4 : Int32)).toInt64.toUInt64 &&& Int64.toUInt64 63)).toInt64)) &&& (1085102592571150095 : Int64)) + (((((x2 + (((x2).toUInt64 >>> (((4 : Int32)).toInt64.toUInt64 &&& Int64.toUInt64 63)).toInt64)) &&& (1085102592571150095 : Int64))).toUInt64 >>> (((8 : Int32)).toInt64.toUInt64 &&& Int64.toUInt64 63)).toInt64))).toUInt64 >>> (((16 : Int32)).toInt64.toUInt64 &&& Int64.toUInt64 63)).toInt64)) + (((((((x2 + (((x2).toUInt64 >>> (((4 : Int32)).toInt64.toUInt64 &&& Int64.toUInt64 63)).toInt64)) &&& (1085102592571150095 : Int64)) + (((((x2 + (((x2).toUInt64 >>> (((4 : Int32)).toInt64.toUInt64 &&& Int64.toUInt64 63)).toInt64)) &&& (1085102592571150095 : Int64))).toUInt64 >>> (((8 : Int32)).toInt64.toUInt64 &&& Int64.toUInt64 63)).toInt64)) + ((((((x2 + (((x2).toUInt64 >>> (((4 : Int32)).toInt64.toUInt64 &&& Int64.toUInt64 63)).toInt64)) &&& (1085102592571150095 : Int64)) + (((((x2 + (((x2).toUInt64 >>> (((4 : Int32)).toInt64.toUInt64 &&& Int64.toUInt64 63)).toInt64)) &&& (1085102592571150095 : Int64))).toUInt64 >>> (((8 : Int32)).toInt64.toUInt64 &&& Int64.toUInt64 63)).toInt64))).toUInt64 >>> (((16 : Int32)).toInt64.toUInt64 &&& Int64.toUInt64 63)).toInt64))).toUInt64 >>> (((32 : Int32)).toInt64.toUInt64 &&& Int64.toUInt64 63)).toInt64)) : Int64) = x3
  replace h := h x3 hx_x3.symm
  exact e_reti rfl rfl (by decide) (by decide) h
def V_X6_lowest (K : Rs → Mm → Prop) (M : Mm) (a0 : Int64) : Prop := V_J13_bitCount_95d88 (kI (fun r2 M1 => K (.inl (some (.int r2))) M1) (fun _ _ => False)) M ((a0 &&& (-a0)) - (1 : Int64))
set_option maxRecDepth 100000 in
set_option maxHeartbeats 4000000 in
theorem x_X6_lowest {G : Gx} {K : Rs → Mm → Prop} {M : Mm} {a0 : Int64} (h : V_X6_lowest K M a0) : MC G mi_X6_lowest [.long a0] M K := by
  unfold V_X6_lowest at h
  refine mc_of rfl (by decide +kernel) dc_X6_lowest (Nat.le_of_ble_eq_true rfl) 0 (Nat.le_of_ble_eq_true rfl) ?_
  show E G mi_X6_lowest K M 0 0 0 [some (.long a0), none] []
  refine e_blk 6 0 _ _ (pc' := 6) (L' := [some (.long a0), none]) (st' := [.long ((a0 &&& (-a0)) - (1 : Int64))]) rfl ?_
  refine e_callS (As := [.long ((a0 &&& (-a0)) - (1 : Int64))]) (rest := []) rfl (x_J13_bitCount_95d88 h) rfl (aw (i := 851) (by decide +kernel) rfl) ws_J13_bitCount_95d88 wi_J13_bitCount_95d88 wc_J13_bitCount_95d88 (show cok mi_X6_lowest mi_J13_bitCount_95d88 0 0 1 = true by decide +kernel) (Nat.le_of_ble_eq_true rfl) (fun v9 M1 hq => ?_) (fun X M9 hq => False.elim hq)
  obtain ⟨r2, rfl, h⟩ := kI_l hq
  exact e_reti rfl rfl (by decide) (by decide) h
def V_X6_highest_5 (K : Rs → Mm → Prop)  : Nat → Mm → Int64 → Int32 → Prop
  | 0, _, _, _ => False
  | z + 1, M, l2, l4 => (((64 : Int32) ≤ l4 → V_J13_bitCount_95d88 (kI (fun r2 M1 => K (.inl (some (.int (r2 - (1 : Int32))))) M1) (fun _ _ => False)) M l2) ∧ (¬ (64 : Int32) ≤ l4 → ∀ x3 : Int64, x3 = (l2 ||| (((l2).toUInt64 >>> ((l4).toInt64.toUInt64 &&& Int64.toUInt64 63)).toInt64)) → ∀ x4 : Int32, x4 = (l4 * (2 : Int32)) → V_X6_highest_5 K  z M x3 x4))
set_option maxRecDepth 100000 in
set_option maxHeartbeats 4000000 in
theorem x_X6_highest_5 {G : Gx} {K : Rs → Mm → Prop}  : ∀ (z : Nat) (M : Mm) (l2 : Int64) (l4 : Int32), V_X6_highest_5 K  z M l2 l4 → E G mi_X6_highest K M 0 0 5 [none, none, some (.long l2), none, some (.int l4)] []
  | 0, M, l2, l4, h => False.elim h
  | z + 1, M, l2, l4, h => by
    unfold V_X6_highest_5 at h
    refine e_blk 2 5 _ _ (pc' := 9) (L' := [none, none, some (.long l2), none, some (.int l4)]) (st' := [.int (64 : Int32), .int l4]) rfl ?_
    refine e_icmp_ge 28 rfl rfl (fun hc => ?_) (fun hc => ?_)
    · replace h := h.1 hc
      refine e_blk 1 28 _ _ (pc' := 29) (L' := [none, none, some (.long l2), none, some (.int l4)]) (st' := [.long l2]) rfl ?_
      refine e_callS (As := [.long l2]) (rest := []) rfl (x_J13_bitCount_95d88 h) rfl (aw (i := 851) (by decide +kernel) rfl) ws_J13_bitCount_95d88 wi_J13_bitCount_95d88 wc_J13_bitCount_95d88 (show cok mi_X6_highest mi_J13_bitCount_95d88 0 0 1 = true by decide +kernel) (Nat.le_of_ble_eq_true rfl) (fun v9 M1 hq => ?_) (fun X M9 hq => False.elim hq)
      obtain ⟨r2, rfl, h⟩ := kI_l hq
      refine e_blk 2 32 _ _ (pc' := 34) (L' := [none, none, some (.long l2), none, some (.int l4)]) (st' := [.int (r2 - (1 : Int32))]) rfl ?_
      exact e_reti rfl rfl (by decide) (by decide) h
    · replace h := h.2 hc
      refine e_blk 11 12 _ _ (pc' := 5) (L' := [none, none, some (.long (l2 ||| (((l2).toUInt64 >>> ((l4).toInt64.toUInt64 &&& Int64.toUInt64 63)).toInt64))), none, some (.int (l4 * (2 : Int32)))]) (st' := []) rfl ?_
      generalize hx_x3 : ((l2 ||| (((l2).toUInt64 >>> ((l4).toInt64.toUInt64 &&& Int64.toUInt64 63)).toInt64)) : Int64) = x3
      replace h := h x3 hx_x3.symm
      generalize hx_x4 : ((l4 * (2 : Int32)) : Int32) = x4
      replace h := h x4 hx_x4.symm
      refine e_drp [false, false, true, false, true] (L' := [none, none, some (.long x3), none, some (.int x4)]) rfl ?_
      exact x_X6_highest_5  z _ _ _ h
def V_X6_highest (K : Rs → Mm → Prop) (M : Mm) (a0 : Int64) : Prop := ∃ y, V_X6_highest_5 K  y M a0 (1 : Int32)
set_option maxRecDepth 100000 in
set_option maxHeartbeats 4000000 in
theorem x_X6_highest {G : Gx} {K : Rs → Mm → Prop} {M : Mm} {a0 : Int64} (h : V_X6_highest K M a0) : MC G mi_X6_highest [.long a0] M K := by
  unfold V_X6_highest at h
  refine mc_of rfl (by decide +kernel) dc_X6_highest (Nat.le_of_ble_eq_true rfl) 3 (Nat.le_of_ble_eq_true rfl) ?_
  show E G mi_X6_highest K M 0 0 0 [some (.long a0), none, none, none, none] []
  refine e_blk 4 0 _ _ (pc' := 5) (L' := [some (.long a0), none, some (.long a0), none, some (.int (1 : Int32))]) (st' := []) rfl ?_
  refine e_drp [false, false, true, false, true] (L' := [none, none, some (.long a0), none, some (.int (1 : Int32))]) rfl ?_
  obtain ⟨y, h⟩ := h
  exact x_X6_highest_5  y _ _ _ h
