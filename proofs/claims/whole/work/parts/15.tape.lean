def is_X4_add : List (Instr × Nat) := [(.aload_n 0, 1), (.getfield 22, 3), (.sipush 160, 3), (.if_icmp .ge 23, 3), (.aload_n 0, 1), (.getfield 9, 3), (.aload_n 0, 1), (.getfield 22, 3), (.iload_n 1, 1), (.iastore, 1), (.aload_n 0, 1), (.dup, 1), (.getfield 22, 3), (.iconst 1, 1), (.iadd, 1), (.putfield 22, 3), (.return_, 1)]
abbrev mi_X4_add : MI := (yX4_add, cX4_add, 2, none, [], { frames := 0, cells := 0, slots := 0, locals := 0 }, is_X4_add)
theorem dc_X4_add : dcb cX4_add is_X4_add 0 = true := by decide +kernel
theorem wc_X4_add : cdw mi_X4_add ∈ ALLW := aw (i := 585) (by decide +kernel) rfl
theorem wi_X4_add : Cond.initialized (miY mi_X4_add).cls ∈ ALLW := aw (i := 59) (by decide +kernel) rfl
theorem wn_X4_add : Cond.instanceMethod (miY mi_X4_add) ∈ ALLW := aw (i := 583) (by decide +kernel) rfl
theorem wv_X4_add : Cond.selects (miY mi_X4_add).cls (miY mi_X4_add) (miY mi_X4_add) ∈ ALLW := aw (i := 584) (by decide +kernel) rfl
def is_X4_look : List (Instr × Nat) := [(.aload_n 0, 1), (.getfield 29, 3), (.aload_n 0, 1), (.getfield 22, 3), (.if_icmp .ge 25, 3), (.aload_n 0, 1), (.getfield 29, 3), (.sipush 160, 3), (.if_icmp .ge 15, 3), (.aload_n 0, 1), (.getfield 9, 3), (.aload_n 0, 1), (.getfield 29, 3), (.iaload, 1), (.goto 4, 3), (.iconst (-1), 1), (.ireturn, 1)]
abbrev mi_X4_look : MI := (yX4_look, cX4_look, 1, (some .int), [], { frames := 0, cells := 0, slots := 0, locals := 0 }, is_X4_look)
theorem dc_X4_look : dcb cX4_look is_X4_look 0 = true := by decide +kernel
theorem wc_X4_look : cdw mi_X4_look ∈ ALLW := aw (i := 616) (by decide +kernel) rfl
theorem wi_X4_look : Cond.initialized (miY mi_X4_look).cls ∈ ALLW := aw (i := 59) (by decide +kernel) rfl
theorem wn_X4_look : Cond.instanceMethod (miY mi_X4_look) ∈ ALLW := aw (i := 614) (by decide +kernel) rfl
theorem wv_X4_look : Cond.selects (miY mi_X4_look).cls (miY mi_X4_look) (miY mi_X4_look) ∈ ALLW := aw (i := 615) (by decide +kernel) rfl
def is_X4_fail : List (Instr × Nat) := [(.aload_n 0, 1), (.getfield 32, 3), (.ifCond .ne 13, 3), (.aload_n 0, 1), (.iload_n 1, 1), (.putfield 32, 3), (.aload_n 0, 1), (.iload_n 2, 1), (.putfield 35, 3), (.return_, 1)]
abbrev mi_X4_fail : MI := (yX4_fail, cX4_fail, 3, none, [], { frames := 0, cells := 0, slots := 0, locals := 0 }, is_X4_fail)
theorem dc_X4_fail : dcb cX4_fail is_X4_fail 0 = true := by decide +kernel
theorem wc_X4_fail : cdw mi_X4_fail ∈ ALLW := aw (i := 680) (by decide +kernel) rfl
theorem wi_X4_fail : Cond.initialized (miY mi_X4_fail).cls ∈ ALLW := aw (i := 59) (by decide +kernel) rfl
theorem wn_X4_fail : Cond.instanceMethod (miY mi_X4_fail) ∈ ALLW := aw (i := 678) (by decide +kernel) rfl
theorem wv_X4_fail : Cond.selects (miY mi_X4_fail).cls (miY mi_X4_fail) (miY mi_X4_fail) ∈ ALLW := aw (i := 679) (by decide +kernel) rfl
def is_X4_skipBlanks : List (Instr × Nat) := [(.iconst 0, 1), (.istore_n 1, 1), (.iload_n 1, 1), (.sipush 160, 3), (.if_icmp .ge 28, 3), (.aload_n 0, 1), (.invokevirtual 41, 3), (.bipush 32, 2), (.if_icmp .ne 19, 3), (.aload_n 0, 1), (.dup, 1), (.getfield 29, 3), (.iconst 1, 1), (.iadd, 1), (.putfield 29, 3), (.iinc 1 1, 3), (.goto (-29), 3), (.return_, 1)]
abbrev mi_X4_skipBlanks : MI := (yX4_skipBlanks, cX4_skipBlanks, 2, none, [], { frames := 1, cells := 0, slots := 0, locals := 20 }, is_X4_skipBlanks)
theorem dc_X4_skipBlanks : dcb cX4_skipBlanks is_X4_skipBlanks 0 = true := by decide +kernel
theorem wc_X4_skipBlanks : cdw mi_X4_skipBlanks ∈ ALLW := aw (i := 612) (by decide +kernel) rfl
theorem wi_X4_skipBlanks : Cond.initialized (miY mi_X4_skipBlanks).cls ∈ ALLW := aw (i := 59) (by decide +kernel) rfl
theorem wn_X4_skipBlanks : Cond.instanceMethod (miY mi_X4_skipBlanks) ∈ ALLW := aw (i := 610) (by decide +kernel) rfl
theorem wv_X4_skipBlanks : Cond.selects (miY mi_X4_skipBlanks).cls (miY mi_X4_skipBlanks) (miY mi_X4_skipBlanks) ∈ ALLW := aw (i := 611) (by decide +kernel) rfl
def is_X4_readNumber : List (Instr × Nat) := [(.aload_n 0, 1), (.getfield 29, 3), (.istore 4, 2), (.iconst 0, 1), (.istore 5, 2), (.iconst 0, 1), (.istore 6, 2), (.iload 6, 2), (.iload_n 1, 1), (.if_icmp .ge 52, 3), (.aload_n 0, 1), (.invokevirtual 41, 3), (.bipush 48, 2), (.if_icmp .lt 43, 3), (.aload_n 0, 1), (.invokevirtual 41, 3), (.bipush 57, 2), (.if_icmp .gt 34, 3), (.iload 5, 2), (.bipush 10, 2), (.imul, 1), (.aload_n 0, 1), (.invokevirtual 41, 3), (.iadd, 1), (.bipush 48, 2), (.isub, 1), (.istore 5, 2), (.aload_n 0, 1), (.dup, 1), (.getfield 29, 3), (.iconst 1, 1), (.iadd, 1), (.putfield 29, 3), (.iinc 6 1, 3), (.goto (-52), 3), (.aload_n 0, 1), (.invokevirtual 41, 3), (.bipush 48, 2), (.if_icmp .lt 16, 3), (.aload_n 0, 1), (.invokevirtual 41, 3), (.bipush 57, 2), (.if_icmp .gt 7, 3), (.iconst 1, 1), (.goto 4, 3), (.iconst 0, 1), (.istore 6, 2), (.aload_n 0, 1), (.getfield 29, 3), (.iload 4, 2), (.if_icmp .eq 8, 3), (.iload 6, 2), (.ifCond .eq 15, 3), (.aload_n 0, 1), (.iconst 1, 1), (.aload_n 0, 1), (.getfield 29, 3), (.invokevirtual 52, 3), (.goto 22, 3), (.iload 5, 2), (.iload_n 2, 1), (.if_icmp .lt 9, 3), (.iload 5, 2), (.iload_n 3, 1), (.if_icmp .le 10, 3), (.aload_n 0, 1), (.iconst 2, 1), (.iload 4, 2), (.invokevirtual 52, 3), (.iload 5, 2), (.ireturn, 1)]
abbrev mi_X4_readNumber : MI := (yX4_readNumber, cX4_readNumber, 7, (some .int), [], { frames := 1, cells := 0, slots := 0, locals := 22 }, is_X4_readNumber)
theorem dc_X4_readNumber : dcb cX4_readNumber is_X4_readNumber 0 = true := by decide +kernel
theorem wc_X4_readNumber : cdw mi_X4_readNumber ∈ ALLW := aw (i := 708) (by decide +kernel) rfl
theorem wi_X4_readNumber : Cond.initialized (miY mi_X4_readNumber).cls ∈ ALLW := aw (i := 59) (by decide +kernel) rfl
theorem wn_X4_readNumber : Cond.instanceMethod (miY mi_X4_readNumber) ∈ ALLW := aw (i := 706) (by decide +kernel) rfl
theorem wv_X4_readNumber : Cond.selects (miY mi_X4_readNumber).cls (miY mi_X4_readNumber) (miY mi_X4_readNumber) ∈ ALLW := aw (i := 707) (by decide +kernel) rfl
def is_X4_readWhichWeekday : List (Instr × Nat) := [(.aload_n 0, 1), (.invokevirtual 41, 3), (.bipush 76, 2), (.if_icmp .ne 7, 3), (.iconst 1, 1), (.goto 4, 3), (.iconst 0, 1), (.istore_n 2, 1), (.aload_n 0, 1), (.dup, 1), (.getfield 29, 3), (.iconst 1, 1), (.iadd, 1), (.putfield 29, 3), (.iload_n 2, 1), (.ifCond .eq 21, 3), (.aload_n 0, 1), (.getfield 18, 3), (.dup, 1), (.getfield 120, 3), (.lconst 1, 1), (.iload_n 1, 1), (.lshl, 1), (.lor, 1), (.putfield 120, 3), (.goto 29, 3), (.aload_n 0, 1), (.getfield 18, 3), (.dup, 1), (.getfield 123, 3), (.lconst 1, 1), (.bipush 7, 2), (.aload_n 0, 1), (.iconst 1, 1), (.iconst 1, 1), (.iconst 5, 1), (.invokevirtual 126, 3), (.imul, 1), (.iload_n 1, 1), (.iadd, 1), (.lshl, 1), (.lor, 1), (.putfield 123, 3), (.return_, 1)]
abbrev mi_X4_readWhichWeekday : MI := (yX4_readWhichWeekday, cX4_readWhichWeekday, 3, none, [], { frames := 2, cells := 0, slots := 0, locals := 48 }, is_X4_readWhichWeekday)
theorem dc_X4_readWhichWeekday : dcb cX4_readWhichWeekday is_X4_readWhichWeekday 0 = true := by decide +kernel
theorem wc_X4_readWhichWeekday : cdw mi_X4_readWhichWeekday ∈ ALLW := aw (i := 730) (by decide +kernel) rfl
theorem wi_X4_readWhichWeekday : Cond.initialized (miY mi_X4_readWhichWeekday).cls ∈ ALLW := aw (i := 59) (by decide +kernel) rfl
theorem wn_X4_readWhichWeekday : Cond.instanceMethod (miY mi_X4_readWhichWeekday) ∈ ALLW := aw (i := 728) (by decide +kernel) rfl
theorem wv_X4_readWhichWeekday : Cond.selects (miY mi_X4_readWhichWeekday).cls (miY mi_X4_readWhichWeekday) (miY mi_X4_readWhichWeekday) ∈ ALLW := aw (i := 729) (by decide +kernel) rfl
def is_X4_readLastDay : List (Instr × Nat) := [(.aload_n 0, 1), (.invokevirtual 41, 3), (.bipush 87, 2), (.if_icmp .ne 24, 3), (.aload_n 0, 1), (.dup, 1), (.getfield 29, 3), (.iconst 1, 1), (.iadd, 1), (.putfield 29, 3), (.aload_n 0, 1), (.getfield 18, 3), (.iconst 1, 1), (.putfield 130, 3), (.goto 60, 3), (.aload_n 0, 1), (.invokevirtual 41, 3), (.bipush 45, 2), (.if_icmp .ne 38, 3), (.aload_n 0, 1), (.dup, 1), (.getfield 29, 3), (.iconst 1, 1), (.iadd, 1), (.putfield 29, 3), (.aload_n 0, 1), (.getfield 18, 3), (.dup, 1), (.getfield 133, 3), (.lconst 1, 1), (.aload_n 0, 1), (.iconst 2, 1), (.iconst 1, 1), (.bipush 30, 2), (.invokevirtual 126, 3), (.lshl, 1), (.lor, 1), (.putfield 133, 3), (.goto 16, 3), (.aload_n 0, 1), (.getfield 18, 3), (.dup, 1), (.getfield 133, 3), (.lconst 1, 1), (.lor, 1), (.putfield 133, 3), (.return_, 1)]
abbrev mi_X4_readLastDay : MI := (yX4_readLastDay, cX4_readLastDay, 1, none, [], { frames := 2, cells := 0, slots := 0, locals := 48 }, is_X4_readLastDay)
theorem dc_X4_readLastDay : dcb cX4_readLastDay is_X4_readLastDay 0 = true := by decide +kernel
theorem wc_X4_readLastDay : cdw mi_X4_readLastDay ∈ ALLW := aw (i := 712) (by decide +kernel) rfl
theorem wi_X4_readLastDay : Cond.initialized (miY mi_X4_readLastDay).cls ∈ ALLW := aw (i := 59) (by decide +kernel) rfl
theorem wn_X4_readLastDay : Cond.instanceMethod (miY mi_X4_readLastDay) ∈ ALLW := aw (i := 710) (by decide +kernel) rfl
theorem wv_X4_readLastDay : Cond.selects (miY mi_X4_readLastDay).cls (miY mi_X4_readLastDay) (miY mi_X4_readLastDay) ∈ ALLW := aw (i := 711) (by decide +kernel) rfl
def is_X4_addStretch : List (Instr × Nat) := [(.iconst 1, 1), (.istore 4, 2), (.aload_n 0, 1), (.getfield 32, 3), (.ifCond .ne 33, 3), (.aload_n 0, 1), (.invokevirtual 41, 3), (.bipush 47, 2), (.if_icmp .ne 24, 3), (.aload_n 0, 1), (.dup, 1), (.getfield 29, 3), (.iconst 1, 1), (.iadd, 1), (.putfield 29, 3), (.aload_n 0, 1), (.iconst 4, 1), (.iconst 1, 1), (.sipush 1000, 3), (.invokevirtual 126, 3), (.istore 4, 2), (.aload_n 0, 1), (.getfield 32, 3), (.ifCond .ne 15, 3), (.aload_n 0, 1), (.getfield 18, 3), (.iload_n 1, 1), (.iload_n 2, 1), (.iload_n 3, 1), (.iload 4, 2), (.invokevirtual 68, 3), (.return_, 1)]
abbrev mi_X4_addStretch : MI := (yX4_addStretch, cX4_addStretch, 5, none, [], { frames := 2, cells := 0, slots := 0, locals := 48 }, is_X4_addStretch)
theorem dc_X4_addStretch : dcb cX4_addStretch is_X4_addStretch 0 = true := by decide +kernel
theorem wc_X4_addStretch : cdw mi_X4_addStretch ∈ ALLW := aw (i := 704) (by decide +kernel) rfl
theorem wi_X4_addStretch : Cond.initialized (miY mi_X4_addStretch).cls ∈ ALLW := aw (i := 59) (by decide +kernel) rfl
theorem wn_X4_addStretch : Cond.instanceMethod (miY mi_X4_addStretch) ∈ ALLW := aw (i := 702) (by decide +kernel) rfl
theorem wv_X4_addStretch : Cond.selects (miY mi_X4_addStretch).cls (miY mi_X4_addStretch) (miY mi_X4_addStretch) ∈ ALLW := aw (i := 703) (by decide +kernel) rfl
def V_X4_add_30 (K : Rs → Mm → Prop)  (M : Mm)  : Prop := K (.inl none) M
set_option maxRecDepth 100000 in
set_option maxHeartbeats 4000000 in
theorem x_X4_add_30 {G : Gx} {K : Rs → Mm → Prop}  {M : Mm}  (h : V_X4_add_30 K  M ) : E G mi_X4_add K M 0 0 30 [none, none] [] := by
  unfold V_X4_add_30 at h
  exact e_ret rfl rfl (by decide) (by decide) h
def V_X4_add (K : Rs → Mm → Prop) (M : Mm) (a0 : Nat) (a1 : Int32) : Prop := (ob M a0 4 ∧ (((160 : Int32) ≤ (mI M a0 1) → V_X4_add_30 K  M ) ∧ (¬ (160 : Int32) ≤ (mI M a0 1) → ∃ b2, mP M a0 0 = some b2 ∧ (ob M b2 9 ∧ (vp_in (mI M a0 1) (mN M b2) ∧ ∀ M5, M5 = sI M b2 ((mI M a0 1)).toNatClampNeg a1 → ∀ M6, M6 = sI M5 a0 1 ((mI M5 a0 1) + (1 : Int32)) → V_X4_add_30 K  M6 )))))
set_option maxRecDepth 100000 in
set_option maxHeartbeats 4000000 in
theorem x_X4_add {G : Gx} {K : Rs → Mm → Prop} {M : Mm} {a0 : Nat} {a1 : Int32} (h : V_X4_add K M a0 a1) : MC G mi_X4_add [.ref a0, .int a1] M K := by
  unfold V_X4_add at h
  refine mc_of rfl (by decide +kernel) dc_X4_add (Nat.le_of_ble_eq_true rfl) 0 (Nat.le_of_ble_eq_true rfl) ?_
  show E G mi_X4_add K M 0 0 0 [some (.ref a0), some (.int a1)] []
  refine e_blk 1 0 _ _ (pc' := 1) (L' := [some (.ref a0), some (.int a1)]) (st' := [.ref a0]) rfl ?_
  obtain ⟨ho1, h⟩ := h
  refine e_getI 4 1 rfl rfl (by decide) (aw (i := 193) (by decide +kernel) rfl) ho1 rfl ?_
  refine e_blk 1 4 _ _ (pc' := 7) (L' := [some (.ref a0), some (.int a1)]) (st' := [.int (160 : Int32), .int (mI M a0 1)]) rfl ?_
  refine e_icmp_ge 30 rfl rfl (fun hc => ?_) (fun hc => ?_)
  · replace h := h.1 hc
    refine e_drp [false, false] (L' := [none, none]) rfl ?_
    exact x_X4_add_30  h
  · replace h := h.2 hc
    refine e_blk 1 10 _ _ (pc' := 11) (L' := [some (.ref a0), some (.int a1)]) (st' := [.ref a0]) rfl ?_
    obtain ⟨b2, hbb2, h⟩ := h
    refine e_getR 4 0 rfl rfl (by decide) (aw (i := 192) (by decide +kernel) rfl) ho1 rfl hbb2 ?_
    refine e_blk 1 14 _ _ (pc' := 15) (L' := [some (.ref a0), some (.int a1)]) (st' := [.ref a0, .ref b2]) rfl ?_
    refine e_getI 4 1 rfl rfl (by decide) (aw (i := 193) (by decide +kernel) rfl) ho1 rfl ?_
    refine e_blk 1 18 _ _ (pc' := 19) (L' := [some (.ref a0), some (.int a1)]) (st' := [.int a1, .int (mI M a0 1), .ref b2]) rfl ?_
    obtain ⟨ho3, h⟩ := h
    obtain ⟨hi4, h⟩ := h
    refine e_iast rfl ho3 hi4 ?_
    generalize hM5 : sI M b2 ((mI M a0 1)).toNatClampNeg a1 = M5
    replace h := h M5 hM5.symm
    replace ho1 : ob M5 a0 4 := hM5 ▸ ob_sI ho1
    replace ho3 : ob M5 b2 9 := hM5 ▸ ob_sI ho3
    refine e_blk 2 20 _ _ (pc' := 22) (L' := [some (.ref a0), some (.int a1)]) (st' := [.ref a0, .ref a0]) rfl ?_
    refine e_getI 4 1 rfl rfl (by decide) (aw (i := 193) (by decide +kernel) rfl) ho1 rfl ?_
    refine e_blk 2 25 _ _ (pc' := 27) (L' := [some (.ref a0), some (.int a1)]) (st' := [.int ((mI M5 a0 1) + (1 : Int32)), .ref a0]) rfl ?_
    refine e_putI 4 1 rfl rfl (by decide) (aw (i := 193) (by decide +kernel) rfl) rfl ho1 rfl ?_
    generalize hM6 : sI M5 a0 1 ((mI M5 a0 1) + (1 : Int32)) = M6
    replace h := h M6 hM6.symm
    replace ho1 : ob M6 a0 4 := hM6 ▸ ob_sI ho1
    replace ho3 : ob M6 b2 9 := hM6 ▸ ob_sI ho3
    refine e_drp [false, false] (L' := [none, none]) rfl ?_
    exact x_X4_add_30  h
def V_X4_look_34 (K : Rs → Mm → Prop)  (M : Mm) (s0 : Int32) : Prop := K (.inl (some (.int s0))) M
set_option maxRecDepth 100000 in
set_option maxHeartbeats 4000000 in
theorem x_X4_look_34 {G : Gx} {K : Rs → Mm → Prop}  {M : Mm} {s0 : Int32} (h : V_X4_look_34 K  M s0) : E G mi_X4_look K M 0 0 34 [none] [.int s0] := by
  unfold V_X4_look_34 at h
  exact e_reti rfl rfl (by decide) (by decide) h
def V_X4_look_33 (K : Rs → Mm → Prop)  (M : Mm)  : Prop := V_X4_look_34 K  M (-1 : Int32)
set_option maxRecDepth 100000 in
set_option maxHeartbeats 4000000 in
theorem x_X4_look_33 {G : Gx} {K : Rs → Mm → Prop}  {M : Mm}  (h : V_X4_look_33 K  M ) : E G mi_X4_look K M 0 0 33 [none] [] := by
  unfold V_X4_look_33 at h
  refine e_blk 1 33 _ _ (pc' := 34) (L' := [none]) (st' := [.int (-1 : Int32)]) rfl ?_
  refine e_drp [false] (L' := [none]) rfl ?_
  exact x_X4_look_34  h
def V_X4_look (K : Rs → Mm → Prop) (M : Mm) (a0 : Nat) : Prop := (ob M a0 4 ∧ (((mI M a0 1) ≤ (mI M a0 2) → V_X4_look_33 K  M ) ∧ (¬ (mI M a0 1) ≤ (mI M a0 2) → (((160 : Int32) ≤ (mI M a0 2) → V_X4_look_33 K  M ) ∧ (¬ (160 : Int32) ≤ (mI M a0 2) → ∃ b2, mP M a0 0 = some b2 ∧ (ob M b2 9 ∧ (vp_in (mI M a0 2) (mN M b2) ∧ V_X4_look_34 K  M (mI M b2 ((mI M a0 2)).toNatClampNeg))))))))
set_option maxRecDepth 100000 in
set_option maxHeartbeats 4000000 in
theorem x_X4_look {G : Gx} {K : Rs → Mm → Prop} {M : Mm} {a0 : Nat} (h : V_X4_look K M a0) : MC G mi_X4_look [.ref a0] M K := by
  unfold V_X4_look at h
  refine mc_of rfl (by decide +kernel) dc_X4_look (Nat.le_of_ble_eq_true rfl) 0 (Nat.le_of_ble_eq_true rfl) ?_
  show E G mi_X4_look K M 0 0 0 [some (.ref a0)] []
  refine e_blk 1 0 _ _ (pc' := 1) (L' := [some (.ref a0)]) (st' := [.ref a0]) rfl ?_
  obtain ⟨ho1, h⟩ := h
  refine e_getI 4 2 rfl rfl (by decide) (aw (i := 195) (by decide +kernel) rfl) ho1 rfl ?_
  refine e_blk 1 4 _ _ (pc' := 5) (L' := [some (.ref a0)]) (st' := [.ref a0, .int (mI M a0 2)]) rfl ?_
  refine e_getI 4 1 rfl rfl (by decide) (aw (i := 193) (by decide +kernel) rfl) ho1 rfl ?_
  refine e_icmp_ge 33 rfl rfl (fun hc => ?_) (fun hc => ?_)
  · replace h := h.1 hc
    refine e_drp [false] (L' := [none]) rfl ?_
    exact x_X4_look_33  h
  · replace h := h.2 hc
    refine e_blk 1 11 _ _ (pc' := 12) (L' := [some (.ref a0)]) (st' := [.ref a0]) rfl ?_
    refine e_getI 4 2 rfl rfl (by decide) (aw (i := 195) (by decide +kernel) rfl) ho1 rfl ?_
    refine e_blk 1 15 _ _ (pc' := 18) (L' := [some (.ref a0)]) (st' := [.int (160 : Int32), .int (mI M a0 2)]) rfl ?_
    refine e_icmp_ge 33 rfl rfl (fun hc => ?_) (fun hc => ?_)
    · replace h := h.1 hc
      refine e_drp [false] (L' := [none]) rfl ?_
      exact x_X4_look_33  h
    · replace h := h.2 hc
      refine e_blk 1 21 _ _ (pc' := 22) (L' := [some (.ref a0)]) (st' := [.ref a0]) rfl ?_
      obtain ⟨b2, hbb2, h⟩ := h
      refine e_getR 4 0 rfl rfl (by decide) (aw (i := 192) (by decide +kernel) rfl) ho1 rfl hbb2 ?_
      refine e_blk 1 25 _ _ (pc' := 26) (L' := [some (.ref a0)]) (st' := [.ref a0, .ref b2]) rfl ?_
      refine e_getI 4 2 rfl rfl (by decide) (aw (i := 195) (by decide +kernel) rfl) ho1 rfl ?_
      obtain ⟨ho3, h⟩ := h
      obtain ⟨hi4, h⟩ := h
      refine e_iald rfl ho3 hi4 ?_
      refine e_blk 1 30 _ _ (pc' := 34) (L' := [some (.ref a0)]) (st' := [.int (mI M b2 ((mI M a0 2)).toNatClampNeg)]) rfl ?_
      refine e_drp [false] (L' := [none]) rfl ?_
      exact x_X4_look_34  h
def V_X4_fail_17 (K : Rs → Mm → Prop)  (M : Mm)  : Prop := K (.inl none) M
set_option maxRecDepth 100000 in
set_option maxHeartbeats 4000000 in
theorem x_X4_fail_17 {G : Gx} {K : Rs → Mm → Prop}  {M : Mm}  (h : V_X4_fail_17 K  M ) : E G mi_X4_fail K M 0 0 17 [none, none, none] [] := by
  unfold V_X4_fail_17 at h
  exact e_ret rfl rfl (by decide) (by decide) h
def V_X4_fail (K : Rs → Mm → Prop) (M : Mm) (a0 : Nat) (a1 : Int32) (a2 : Int32) : Prop := (ob M a0 4 ∧ ((¬ (mI M a0 3) = 0 → V_X4_fail_17 K  M ) ∧ ((mI M a0 3) = 0 → ∀ M2, M2 = sI M a0 3 a1 → ∀ M3, M3 = sI M2 a0 4 a2 → V_X4_fail_17 K  M3 )))
set_option maxRecDepth 100000 in
set_option maxHeartbeats 4000000 in
theorem x_X4_fail {G : Gx} {K : Rs → Mm → Prop} {M : Mm} {a0 : Nat} {a1 : Int32} {a2 : Int32} (h : V_X4_fail K M a0 a1 a2) : MC G mi_X4_fail [.ref a0, .int a1, .int a2] M K := by
  unfold V_X4_fail at h
  refine mc_of rfl (by decide +kernel) dc_X4_fail (Nat.le_of_ble_eq_true rfl) 0 (Nat.le_of_ble_eq_true rfl) ?_
  show E G mi_X4_fail K M 0 0 0 [some (.ref a0), some (.int a1), some (.int a2)] []
  refine e_blk 1 0 _ _ (pc' := 1) (L' := [some (.ref a0), some (.int a1), some (.int a2)]) (st' := [.ref a0]) rfl ?_
  obtain ⟨ho1, h⟩ := h
  refine e_getI 4 3 rfl rfl (by decide) (aw (i := 196) (by decide +kernel) rfl) ho1 rfl ?_
  refine e_if_ne 17 rfl rfl (fun hc => ?_) (fun hc => ?_)
  · replace h := h.1 hc
    refine e_drp [false, false, false] (L' := [none, none, none]) rfl ?_
    exact x_X4_fail_17  h
  · replace h := h.2 hc
    refine e_blk 2 7 _ _ (pc' := 9) (L' := [some (.ref a0), some (.int a1), some (.int a2)]) (st' := [.int a1, .ref a0]) rfl ?_
    refine e_putI 4 3 rfl rfl (by decide) (aw (i := 196) (by decide +kernel) rfl) rfl ho1 rfl ?_
    generalize hM2 : sI M a0 3 a1 = M2
    replace h := h M2 hM2.symm
    replace ho1 : ob M2 a0 4 := hM2 ▸ ob_sI ho1
    refine e_blk 2 12 _ _ (pc' := 14) (L' := [some (.ref a0), some (.int a1), some (.int a2)]) (st' := [.int a2, .ref a0]) rfl ?_
    refine e_putI 4 4 rfl rfl (by decide) (aw (i := 197) (by decide +kernel) rfl) rfl ho1 rfl ?_
    generalize hM3 : sI M2 a0 4 a2 = M3
    replace h := h M3 hM3.symm
    replace ho1 : ob M3 a0 4 := hM3 ▸ ob_sI ho1
    refine e_drp [false, false, false] (L' := [none, none, none]) rfl ?_
    exact x_X4_fail_17  h
def V_X4_skipBlanks_34 (K : Rs → Mm → Prop)  (M : Mm)  : Prop := K (.inl none) M
set_option maxRecDepth 100000 in
set_option maxHeartbeats 4000000 in
theorem x_X4_skipBlanks_34 {G : Gx} {K : Rs → Mm → Prop}  {M : Mm}  (h : V_X4_skipBlanks_34 K  M ) : E G mi_X4_skipBlanks K M 0 0 34 [none, none] [] := by
  unfold V_X4_skipBlanks_34 at h
  exact e_ret rfl rfl (by decide) (by decide) h
def V_X4_skipBlanks_2 (K : Rs → Mm → Prop)  : Nat → Mm → Nat → Int32 → Prop
  | 0, _, _, _ => False
  | z + 1, M, l0, l1 => (((160 : Int32) ≤ l1 → V_X4_skipBlanks_34 K  M ) ∧ (¬ (160 : Int32) ≤ l1 → (ob M l0 4 ∧ V_X4_look (kI (fun r3 M2 => ((¬ r3 = (32 : Int32) → V_X4_skipBlanks_34 K  M2 ) ∧ (r3 = (32 : Int32) → (ob M2 l0 4 ∧ ∀ M5, M5 = sI M2 l0 2 ((mI M2 l0 2) + (1 : Int32)) → ∀ x6 : Int32, x6 = (l1 + (1 : Int32)) → V_X4_skipBlanks_2 K  z M5 l0 x6)))) (fun _ _ => False)) M l0)))
set_option maxRecDepth 100000 in
set_option maxHeartbeats 4000000 in
theorem x_X4_skipBlanks_2 {G : Gx} {K : Rs → Mm → Prop}  : ∀ (z : Nat) (M : Mm) (l0 : Nat) (l1 : Int32), V_X4_skipBlanks_2 K  z M l0 l1 → E G mi_X4_skipBlanks K M 0 0 2 [some (.ref l0), some (.int l1)] []
  | 0, M, l0, l1, h => False.elim h
  | z + 1, M, l0, l1, h => by
    unfold V_X4_skipBlanks_2 at h
    refine e_blk 2 2 _ _ (pc' := 6) (L' := [some (.ref l0), some (.int l1)]) (st' := [.int (160 : Int32), .int l1]) rfl ?_
    refine e_icmp_ge 34 rfl rfl (fun hc => ?_) (fun hc => ?_)
    · replace h := h.1 hc
      refine e_drp [false, false] (L' := [none, none]) rfl ?_
      exact x_X4_skipBlanks_34  h
    · replace h := h.2 hc
      refine e_blk 1 9 _ _ (pc' := 10) (L' := [some (.ref l0), some (.int l1)]) (st' := [.ref l0]) rfl ?_
      obtain ⟨ho1, h⟩ := h
      refine e_callV (As := []) (rest := []) (ci := 4) rfl (x_X4_look h) ho1 rfl rfl rfl (aw (i := 613) (by decide +kernel) rfl) wn_X4_look wv_X4_look wi_X4_look wc_X4_look (show cok mi_X4_skipBlanks mi_X4_look 0 0 0 = true by decide +kernel) (Nat.le_of_ble_eq_true rfl) (fun v9 M2 hq => ?_) (fun X M9 hq => False.elim hq)
      obtain ⟨r3, rfl, h⟩ := kI_l hq
      refine e_blk 1 13 _ _ (pc' := 15) (L' := [some (.ref l0), some (.int l1)]) (st' := [.int (32 : Int32), .int r3]) rfl ?_
      refine e_icmp_ne 34 rfl rfl (fun hc => ?_) (fun hc => ?_)
      · replace h := h.1 hc
        refine e_drp [false, false] (L' := [none, none]) rfl ?_
        exact x_X4_skipBlanks_34  h
      · replace h := h.2 hc
        refine e_blk 2 18 _ _ (pc' := 20) (L' := [some (.ref l0), some (.int l1)]) (st' := [.ref l0, .ref l0]) rfl ?_
        obtain ⟨ho4, h⟩ := h
        refine e_getI 4 2 rfl rfl (by decide) (aw (i := 195) (by decide +kernel) rfl) ho4 rfl ?_
        refine e_blk 2 23 _ _ (pc' := 25) (L' := [some (.ref l0), some (.int l1)]) (st' := [.int ((mI M2 l0 2) + (1 : Int32)), .ref l0]) rfl ?_
        refine e_putI 4 2 rfl rfl (by decide) (aw (i := 195) (by decide +kernel) rfl) rfl ho4 rfl ?_
        generalize hM5 : sI M2 l0 2 ((mI M2 l0 2) + (1 : Int32)) = M5
        replace h := h M5 hM5.symm
        replace ho4 : ob M5 l0 4 := hM5 ▸ ob_sI ho4
        refine e_blk 2 28 _ _ (pc' := 2) (L' := [some (.ref l0), some (.int (l1 + (1 : Int32)))]) (st' := []) rfl ?_
        generalize hx_x6 : ((l1 + (1 : Int32)) : Int32) = x6
        replace h := h x6 hx_x6.symm
        refine e_drp [true, true] (L' := [some (.ref l0), some (.int x6)]) rfl ?_
        exact x_X4_skipBlanks_2  z _ _ _ h
def V_X4_skipBlanks (K : Rs → Mm → Prop) (M : Mm) (a0 : Nat) : Prop := ∃ y, V_X4_skipBlanks_2 K  y M a0 (0 : Int32)
set_option maxRecDepth 100000 in
set_option maxHeartbeats 4000000 in
theorem x_X4_skipBlanks {G : Gx} {K : Rs → Mm → Prop} {M : Mm} {a0 : Nat} (h : V_X4_skipBlanks K M a0) : MC G mi_X4_skipBlanks [.ref a0] M K := by
  unfold V_X4_skipBlanks at h
  refine mc_of rfl (by decide +kernel) dc_X4_skipBlanks (Nat.le_of_ble_eq_true rfl) 1 (Nat.le_of_ble_eq_true rfl) ?_
  show E G mi_X4_skipBlanks K M 0 0 0 [some (.ref a0), none] []
  refine e_blk 2 0 _ _ (pc' := 2) (L' := [some (.ref a0), some (.int (0 : Int32))]) (st' := []) rfl ?_
  refine e_drp [true, true] (L' := [some (.ref a0), some (.int (0 : Int32))]) rfl ?_
  obtain ⟨y, h⟩ := h
  exact x_X4_skipBlanks_2  y _ _ _ h
def V_X4_readNumber_137 (K : Rs → Mm → Prop)  (M : Mm) (l5 : Int32) : Prop := K (.inl (some (.int l5))) M
set_option maxRecDepth 100000 in
set_option maxHeartbeats 4000000 in
theorem x_X4_readNumber_137 {G : Gx} {K : Rs → Mm → Prop}  {M : Mm} {l5 : Int32} (h : V_X4_readNumber_137 K  M l5) : E G mi_X4_readNumber K M 0 0 137 [none, none, none, none, none, some (.int l5), none] [] := by
  unfold V_X4_readNumber_137 at h
  refine e_blk 1 137 _ _ (pc' := 139) (L' := [none, none, none, none, none, some (.int l5), none]) (st' := [.int l5]) rfl ?_
  exact e_reti rfl rfl (by decide) (by decide) h
def V_X4_readNumber_130 (K : Rs → Mm → Prop)  (M : Mm) (l0 : Nat) (l4 : Int32) (l5 : Int32) : Prop := (ob M l0 4 ∧ V_X4_fail (kV (fun M2 => V_X4_readNumber_137 K  M2 l5) (fun _ _ => False)) M l0 (2 : Int32) l4)
set_option maxRecDepth 100000 in
set_option maxHeartbeats 4000000 in
theorem x_X4_readNumber_130 {G : Gx} {K : Rs → Mm → Prop}  {M : Mm} {l0 : Nat} {l4 : Int32} {l5 : Int32} (h : V_X4_readNumber_130 K  M l0 l4 l5) : E G mi_X4_readNumber K M 0 0 130 [some (.ref l0), none, none, none, some (.int l4), some (.int l5), none] [] := by
  unfold V_X4_readNumber_130 at h
  refine e_blk 3 130 _ _ (pc' := 134) (L' := [some (.ref l0), none, none, none, some (.int l4), some (.int l5), none]) (st' := [.int l4, .int (2 : Int32), .ref l0]) rfl ?_
  obtain ⟨ho1, h⟩ := h
  refine e_callV (As := [.int (2 : Int32), .int l4]) (rest := []) (ci := 4) rfl (x_X4_fail h) ho1 rfl rfl rfl (aw (i := 677) (by decide +kernel) rfl) wn_X4_fail wv_X4_fail wi_X4_fail wc_X4_fail (show cok mi_X4_readNumber mi_X4_fail 0 0 2 = true by decide +kernel) (Nat.le_of_ble_eq_true rfl) (fun v9 M2 hq => ?_) (fun X M9 hq => False.elim hq)
  obtain ⟨rfl, h⟩ := kV_l hq
  refine e_drp [false, false, false, false, false, true, false] (L' := [none, none, none, none, none, some (.int l5), none]) rfl ?_
  exact x_X4_readNumber_137  h
def V_X4_readNumber_106 (K : Rs → Mm → Prop)  (M : Mm) (l0 : Nat) (l5 : Int32) : Prop := (ob M l0 4 ∧ V_X4_fail (kV (fun M2 => V_X4_readNumber_137 K  M2 l5) (fun _ _ => False)) M l0 (1 : Int32) (mI M l0 2))
set_option maxRecDepth 100000 in
set_option maxHeartbeats 4000000 in
theorem x_X4_readNumber_106 {G : Gx} {K : Rs → Mm → Prop}  {M : Mm} {l0 : Nat} {l5 : Int32} (h : V_X4_readNumber_106 K  M l0 l5) : E G mi_X4_readNumber K M 0 0 106 [some (.ref l0), none, none, none, none, some (.int l5), none] [] := by
  unfold V_X4_readNumber_106 at h
  refine e_blk 3 106 _ _ (pc' := 109) (L' := [some (.ref l0), none, none, none, none, some (.int l5), none]) (st' := [.ref l0, .int (1 : Int32), .ref l0]) rfl ?_
  obtain ⟨ho1, h⟩ := h
  refine e_getI 4 2 rfl rfl (by decide) (aw (i := 195) (by decide +kernel) rfl) ho1 rfl ?_
  refine e_callV (As := [.int (1 : Int32), .int (mI M l0 2)]) (rest := []) (ci := 4) rfl (x_X4_fail h) ho1 rfl rfl rfl (aw (i := 677) (by decide +kernel) rfl) wn_X4_fail wv_X4_fail wi_X4_fail wc_X4_fail (show cok mi_X4_readNumber mi_X4_fail 0 0 2 = true by decide +kernel) (Nat.le_of_ble_eq_true rfl) (fun v9 M2 hq => ?_) (fun X M9 hq => False.elim hq)
  obtain ⟨rfl, h⟩ := kV_l hq
  refine e_blk 1 115 _ _ (pc' := 137) (L' := [some (.ref l0), none, none, none, none, some (.int l5), none]) (st' := []) rfl ?_
  refine e_drp [false, false, false, false, false, true, false] (L' := [none, none, none, none, none, some (.int l5), none]) rfl ?_
  exact x_X4_readNumber_137  h
def V_X4_readNumber_90 (K : Rs → Mm → Prop)  (M : Mm) (l0 : Nat) (l2 : Int32) (l3 : Int32) (l4 : Int32) (l5 : Int32) (s0 : Int32) : Prop := (ob M l0 4 ∧ (((mI M l0 2) = l4 → V_X4_readNumber_106 K  M l0 l5) ∧ (¬ (mI M l0 2) = l4 → ((s0 = 0 → ((l5 < l2 → V_X4_readNumber_130 K  M l0 l4 l5) ∧ (¬ l5 < l2 → ((l5 ≤ l3 → V_X4_readNumber_137 K  M l5) ∧ (¬ l5 ≤ l3 → V_X4_readNumber_130 K  M l0 l4 l5))))) ∧ (¬ s0 = 0 → V_X4_readNumber_106 K  M l0 l5)))))
set_option maxRecDepth 100000 in
set_option maxHeartbeats 4000000 in
theorem x_X4_readNumber_90 {G : Gx} {K : Rs → Mm → Prop}  {M : Mm} {l0 : Nat} {l2 : Int32} {l3 : Int32} {l4 : Int32} {l5 : Int32} {s0 : Int32} (h : V_X4_readNumber_90 K  M l0 l2 l3 l4 l5 s0) : E G mi_X4_readNumber K M 0 0 90 [some (.ref l0), none, some (.int l2), some (.int l3), some (.int l4), some (.int l5), none] [.int s0] := by
  unfold V_X4_readNumber_90 at h
  refine e_blk 2 90 _ _ (pc' := 93) (L' := [some (.ref l0), none, some (.int l2), some (.int l3), some (.int l4), some (.int l5), some (.int s0)]) (st' := [.ref l0]) rfl ?_
  obtain ⟨ho1, h⟩ := h
  refine e_getI 4 2 rfl rfl (by decide) (aw (i := 195) (by decide +kernel) rfl) ho1 rfl ?_
  refine e_blk 1 96 _ _ (pc' := 98) (L' := [some (.ref l0), none, some (.int l2), some (.int l3), some (.int l4), some (.int l5), some (.int s0)]) (st' := [.int l4, .int (mI M l0 2)]) rfl ?_
  refine e_icmp_eq 106 rfl rfl (fun hc => ?_) (fun hc => ?_)
  · replace h := h.1 hc
    refine e_drp [true, false, false, false, false, true, false] (L' := [some (.ref l0), none, none, none, none, some (.int l5), none]) rfl ?_
    exact x_X4_readNumber_106  h
  · replace h := h.2 hc
    refine e_blk 1 101 _ _ (pc' := 103) (L' := [some (.ref l0), none, some (.int l2), some (.int l3), some (.int l4), some (.int l5), some (.int s0)]) (st' := [.int s0]) rfl ?_
    refine e_if_eq 118 rfl rfl (fun hc => ?_) (fun hc => ?_)
    · replace h := h.1 hc
      refine e_blk 2 118 _ _ (pc' := 121) (L' := [some (.ref l0), none, some (.int l2), some (.int l3), some (.int l4), some (.int l5), some (.int s0)]) (st' := [.int l2, .int l5]) rfl ?_
      refine e_icmp_lt 130 rfl rfl (fun hc => ?_) (fun hc => ?_)
      · replace h := h.1 hc
        refine e_drp [true, false, false, false, true, true, false] (L' := [some (.ref l0), none, none, none, some (.int l4), some (.int l5), none]) rfl ?_
        exact x_X4_readNumber_130  h
      · replace h := h.2 hc
        refine e_blk 2 124 _ _ (pc' := 127) (L' := [some (.ref l0), none, some (.int l2), some (.int l3), some (.int l4), some (.int l5), some (.int s0)]) (st' := [.int l3, .int l5]) rfl ?_
        refine e_icmp_le 137 rfl rfl (fun hc => ?_) (fun hc => ?_)
        · replace h := h.1 hc
          refine e_drp [false, false, false, false, false, true, false] (L' := [none, none, none, none, none, some (.int l5), none]) rfl ?_
          exact x_X4_readNumber_137  h
        · replace h := h.2 hc
          refine e_drp [true, false, false, false, true, true, false] (L' := [some (.ref l0), none, none, none, some (.int l4), some (.int l5), none]) rfl ?_
          exact x_X4_readNumber_130  h
    · replace h := h.2 hc
      refine e_drp [true, false, false, false, false, true, false] (L' := [some (.ref l0), none, none, none, none, some (.int l5), none]) rfl ?_
      exact x_X4_readNumber_106  h
def V_X4_readNumber_89 (K : Rs → Mm → Prop)  (M : Mm) (l0 : Nat) (l2 : Int32) (l3 : Int32) (l4 : Int32) (l5 : Int32) : Prop := V_X4_readNumber_90 K  M l0 l2 l3 l4 l5 (0 : Int32)
set_option maxRecDepth 100000 in
set_option maxHeartbeats 4000000 in
theorem x_X4_readNumber_89 {G : Gx} {K : Rs → Mm → Prop}  {M : Mm} {l0 : Nat} {l2 : Int32} {l3 : Int32} {l4 : Int32} {l5 : Int32} (h : V_X4_readNumber_89 K  M l0 l2 l3 l4 l5) : E G mi_X4_readNumber K M 0 0 89 [some (.ref l0), none, some (.int l2), some (.int l3), some (.int l4), some (.int l5), none] [] := by
  unfold V_X4_readNumber_89 at h
  refine e_blk 1 89 _ _ (pc' := 90) (L' := [some (.ref l0), none, some (.int l2), some (.int l3), some (.int l4), some (.int l5), none]) (st' := [.int (0 : Int32)]) rfl ?_
  refine e_drp [true, false, true, true, true, true, false] (L' := [some (.ref l0), none, some (.int l2), some (.int l3), some (.int l4), some (.int l5), none]) rfl ?_
  exact x_X4_readNumber_90  h
def V_X4_readNumber_67 (K : Rs → Mm → Prop)  (M : Mm) (l0 : Nat) (l2 : Int32) (l3 : Int32) (l4 : Int32) (l5 : Int32) : Prop := (ob M l0 4 ∧ V_X4_look (kI (fun r3 M2 => ((r3 < (48 : Int32) → V_X4_readNumber_89 K  M2 l0 l2 l3 l4 l5) ∧ (¬ r3 < (48 : Int32) → (ob M2 l0 4 ∧ V_X4_look (kI (fun r6 M5 => (((57 : Int32) < r6 → V_X4_readNumber_89 K  M5 l0 l2 l3 l4 l5) ∧ (¬ (57 : Int32) < r6 → V_X4_readNumber_90 K  M5 l0 l2 l3 l4 l5 (1 : Int32)))) (fun _ _ => False)) M2 l0)))) (fun _ _ => False)) M l0)
set_option maxRecDepth 100000 in
set_option maxHeartbeats 4000000 in
theorem x_X4_readNumber_67 {G : Gx} {K : Rs → Mm → Prop}  {M : Mm} {l0 : Nat} {l2 : Int32} {l3 : Int32} {l4 : Int32} {l5 : Int32} (h : V_X4_readNumber_67 K  M l0 l2 l3 l4 l5) : E G mi_X4_readNumber K M 0 0 67 [some (.ref l0), none, some (.int l2), some (.int l3), some (.int l4), some (.int l5), none] [] := by
  unfold V_X4_readNumber_67 at h
  refine e_blk 1 67 _ _ (pc' := 68) (L' := [some (.ref l0), none, some (.int l2), some (.int l3), some (.int l4), some (.int l5), none]) (st' := [.ref l0]) rfl ?_
  obtain ⟨ho1, h⟩ := h
  refine e_callV (As := []) (rest := []) (ci := 4) rfl (x_X4_look h) ho1 rfl rfl rfl (aw (i := 613) (by decide +kernel) rfl) wn_X4_look wv_X4_look wi_X4_look wc_X4_look (show cok mi_X4_readNumber mi_X4_look 0 0 0 = true by decide +kernel) (Nat.le_of_ble_eq_true rfl) (fun v9 M2 hq => ?_) (fun X M9 hq => False.elim hq)
  obtain ⟨r3, rfl, h⟩ := kI_l hq
  refine e_blk 1 71 _ _ (pc' := 73) (L' := [some (.ref l0), none, some (.int l2), some (.int l3), some (.int l4), some (.int l5), none]) (st' := [.int (48 : Int32), .int r3]) rfl ?_
  refine e_icmp_lt 89 rfl rfl (fun hc => ?_) (fun hc => ?_)
  · replace h := h.1 hc
    refine e_drp [true, false, true, true, true, true, false] (L' := [some (.ref l0), none, some (.int l2), some (.int l3), some (.int l4), some (.int l5), none]) rfl ?_
    exact x_X4_readNumber_89  h
  · replace h := h.2 hc
    refine e_blk 1 76 _ _ (pc' := 77) (L' := [some (.ref l0), none, some (.int l2), some (.int l3), some (.int l4), some (.int l5), none]) (st' := [.ref l0]) rfl ?_
    obtain ⟨ho4, h⟩ := h
    refine e_callV (As := []) (rest := []) (ci := 4) rfl (x_X4_look h) ho4 rfl rfl rfl (aw (i := 613) (by decide +kernel) rfl) wn_X4_look wv_X4_look wi_X4_look wc_X4_look (show cok mi_X4_readNumber mi_X4_look 0 0 0 = true by decide +kernel) (Nat.le_of_ble_eq_true rfl) (fun v9 M5 hq => ?_) (fun X M9 hq => False.elim hq)
    obtain ⟨r6, rfl, h⟩ := kI_l hq
    refine e_blk 1 80 _ _ (pc' := 82) (L' := [some (.ref l0), none, some (.int l2), some (.int l3), some (.int l4), some (.int l5), none]) (st' := [.int (57 : Int32), .int r6]) rfl ?_
    refine e_icmp_gt 89 rfl rfl (fun hc => ?_) (fun hc => ?_)
    · replace h := h.1 hc
      refine e_drp [true, false, true, true, true, true, false] (L' := [some (.ref l0), none, some (.int l2), some (.int l3), some (.int l4), some (.int l5), none]) rfl ?_
      exact x_X4_readNumber_89  h
    · replace h := h.2 hc
      refine e_blk 2 85 _ _ (pc' := 90) (L' := [some (.ref l0), none, some (.int l2), some (.int l3), some (.int l4), some (.int l5), none]) (st' := [.int (1 : Int32)]) rfl ?_
      refine e_drp [true, false, true, true, true, true, false] (L' := [some (.ref l0), none, some (.int l2), some (.int l3), some (.int l4), some (.int l5), none]) rfl ?_
      exact x_X4_readNumber_90  h
def V_X4_readNumber_12 (K : Rs → Mm → Prop)  : Nat → Mm → Nat → Int32 → Int32 → Int32 → Int32 → Int32 → Int32 → Prop
  | 0, _, _, _, _, _, _, _, _ => False
  | z + 1, M, l0, l1, l2, l3, l4, l5, l6 => ((l1 ≤ l6 → V_X4_readNumber_67 K  M l0 l2 l3 l4 l5) ∧ (¬ l1 ≤ l6 → (ob M l0 4 ∧ V_X4_look (kI (fun r3 M2 => ((r3 < (48 : Int32) → V_X4_readNumber_67 K  M2 l0 l2 l3 l4 l5) ∧ (¬ r3 < (48 : Int32) → (ob M2 l0 4 ∧ V_X4_look (kI (fun r6 M5 => (((57 : Int32) < r6 → V_X4_readNumber_67 K  M5 l0 l2 l3 l4 l5) ∧ (¬ (57 : Int32) < r6 → (ob M5 l0 4 ∧ V_X4_look (kI (fun r9 M8 => ∀ x10 : Int32, x10 = (((l5 * (10 : Int32)) + r9) - (48 : Int32)) → (ob M8 l0 4 ∧ ∀ M12, M12 = sI M8 l0 2 ((mI M8 l0 2) + (1 : Int32)) → ∀ x13 : Int32, x13 = (l6 + (1 : Int32)) → V_X4_readNumber_12 K  z M12 l0 l1 l2 l3 l4 x10 x13)) (fun _ _ => False)) M5 l0)))) (fun _ _ => False)) M2 l0)))) (fun _ _ => False)) M l0)))
set_option maxRecDepth 100000 in
set_option maxHeartbeats 4000000 in
theorem x_X4_readNumber_12 {G : Gx} {K : Rs → Mm → Prop}  : ∀ (z : Nat) (M : Mm) (l0 : Nat) (l1 : Int32) (l2 : Int32) (l3 : Int32) (l4 : Int32) (l5 : Int32) (l6 : Int32), V_X4_readNumber_12 K  z M l0 l1 l2 l3 l4 l5 l6 → E G mi_X4_readNumber K M 0 0 12 [some (.ref l0), some (.int l1), some (.int l2), some (.int l3), some (.int l4), some (.int l5), some (.int l6)] []
  | 0, M, l0, l1, l2, l3, l4, l5, l6, h => False.elim h
  | z + 1, M, l0, l1, l2, l3, l4, l5, l6, h => by
    unfold V_X4_readNumber_12 at h
    refine e_blk 2 12 _ _ (pc' := 15) (L' := [some (.ref l0), some (.int l1), some (.int l2), some (.int l3), some (.int l4), some (.int l5), some (.int l6)]) (st' := [.int l1, .int l6]) rfl ?_
    refine e_icmp_ge 67 rfl rfl (fun hc => ?_) (fun hc => ?_)
    · replace h := h.1 hc
      refine e_drp [true, false, true, true, true, true, false] (L' := [some (.ref l0), none, some (.int l2), some (.int l3), some (.int l4), some (.int l5), none]) rfl ?_
      exact x_X4_readNumber_67  h
    · replace h := h.2 hc
      refine e_blk 1 18 _ _ (pc' := 19) (L' := [some (.ref l0), some (.int l1), some (.int l2), some (.int l3), some (.int l4), some (.int l5), some (.int l6)]) (st' := [.ref l0]) rfl ?_
      obtain ⟨ho1, h⟩ := h
      refine e_callV (As := []) (rest := []) (ci := 4) rfl (x_X4_look h) ho1 rfl rfl rfl (aw (i := 613) (by decide +kernel) rfl) wn_X4_look wv_X4_look wi_X4_look wc_X4_look (show cok mi_X4_readNumber mi_X4_look 0 0 0 = true by decide +kernel) (Nat.le_of_ble_eq_true rfl) (fun v9 M2 hq => ?_) (fun X M9 hq => False.elim hq)
      obtain ⟨r3, rfl, h⟩ := kI_l hq
      refine e_blk 1 22 _ _ (pc' := 24) (L' := [some (.ref l0), some (.int l1), some (.int l2), some (.int l3), some (.int l4), some (.int l5), some (.int l6)]) (st' := [.int (48 : Int32), .int r3]) rfl ?_
      refine e_icmp_lt 67 rfl rfl (fun hc => ?_) (fun hc => ?_)
      · replace h := h.1 hc
        refine e_drp [true, false, true, true, true, true, false] (L' := [some (.ref l0), none, some (.int l2), some (.int l3), some (.int l4), some (.int l5), none]) rfl ?_
        exact x_X4_readNumber_67  h
      · replace h := h.2 hc
        refine e_blk 1 27 _ _ (pc' := 28) (L' := [some (.ref l0), some (.int l1), some (.int l2), some (.int l3), some (.int l4), some (.int l5), some (.int l6)]) (st' := [.ref l0]) rfl ?_
        obtain ⟨ho4, h⟩ := h
        refine e_callV (As := []) (rest := []) (ci := 4) rfl (x_X4_look h) ho4 rfl rfl rfl (aw (i := 613) (by decide +kernel) rfl) wn_X4_look wv_X4_look wi_X4_look wc_X4_look (show cok mi_X4_readNumber mi_X4_look 0 0 0 = true by decide +kernel) (Nat.le_of_ble_eq_true rfl) (fun v9 M5 hq => ?_) (fun X M9 hq => False.elim hq)
        obtain ⟨r6, rfl, h⟩ := kI_l hq
        refine e_blk 1 31 _ _ (pc' := 33) (L' := [some (.ref l0), some (.int l1), some (.int l2), some (.int l3), some (.int l4), some (.int l5), some (.int l6)]) (st' := [.int (57 : Int32), .int r6]) rfl ?_
        refine e_icmp_gt 67 rfl rfl (fun hc => ?_) (fun hc => ?_)
        · replace h := h.1 hc
          refine e_drp [true, false, true, true, true, true, false] (L' := [some (.ref l0), none, some (.int l2), some (.int l3), some (.int l4), some (.int l5), none]) rfl ?_
          exact x_X4_readNumber_67  h
        · replace h := h.2 hc
          refine e_blk 4 36 _ _ (pc' := 42) (L' := [some (.ref l0), some (.int l1), some (.int l2), some (.int l3), some (.int l4), some (.int l5), some (.int l6)]) (st' := [.ref l0, .int (l5 * (10 : Int32))]) rfl ?_
          obtain ⟨ho7, h⟩ := h
          refine e_callV (As := []) (rest := [.int (l5 * (10 : Int32))]) (ci := 4) rfl (x_X4_look h) ho7 rfl rfl rfl (aw (i := 613) (by decide +kernel) rfl) wn_X4_look wv_X4_look wi_X4_look wc_X4_look (show cok mi_X4_readNumber mi_X4_look 0 0 0 = true by decide +kernel) (Nat.le_of_ble_eq_true rfl) (fun v9 M8 hq => ?_) (fun X M9 hq => False.elim hq)
          obtain ⟨r9, rfl, h⟩ := kI_l hq
          refine e_blk 6 45 _ _ (pc' := 53) (L' := [some (.ref l0), some (.int l1), some (.int l2), some (.int l3), some (.int l4), some (.int (((l5 * (10 : Int32)) + r9) - (48 : Int32))), some (.int l6)]) (st' := [.ref l0, .ref l0]) rfl ?_
          generalize hx_x10 : ((((l5 * (10 : Int32)) + r9) - (48 : Int32)) : Int32) = x10
          replace h := h x10 hx_x10.symm
          obtain ⟨ho11, h⟩ := h
          refine e_getI 4 2 rfl rfl (by decide) (aw (i := 195) (by decide +kernel) rfl) ho11 rfl ?_
          refine e_blk 2 56 _ _ (pc' := 58) (L' := [some (.ref l0), some (.int l1), some (.int l2), some (.int l3), some (.int l4), some (.int x10), some (.int l6)]) (st' := [.int ((mI M8 l0 2) + (1 : Int32)), .ref l0]) rfl ?_
          refine e_putI 4 2 rfl rfl (by decide) (aw (i := 195) (by decide +kernel) rfl) rfl ho11 rfl ?_
          generalize hM12 : sI M8 l0 2 ((mI M8 l0 2) + (1 : Int32)) = M12
          replace h := h M12 hM12.symm
          replace ho11 : ob M12 l0 4 := hM12 ▸ ob_sI ho11
          refine e_blk 2 61 _ _ (pc' := 12) (L' := [some (.ref l0), some (.int l1), some (.int l2), some (.int l3), some (.int l4), some (.int x10), some (.int (l6 + (1 : Int32)))]) (st' := []) rfl ?_
          generalize hx_x13 : ((l6 + (1 : Int32)) : Int32) = x13
          replace h := h x13 hx_x13.symm
          refine e_drp [true, true, true, true, true, true, true] (L' := [some (.ref l0), some (.int l1), some (.int l2), some (.int l3), some (.int l4), some (.int x10), some (.int x13)]) rfl ?_
          exact x_X4_readNumber_12  z _ _ _ _ _ _ _ _ h
def V_X4_readNumber (K : Rs → Mm → Prop) (M : Mm) (a0 : Nat) (a1 : Int32) (a2 : Int32) (a3 : Int32) : Prop := (ob M a0 4 ∧ ∀ x2 : Int32, x2 = (mI M a0 2) → ∃ y, V_X4_readNumber_12 K  y M a0 a1 a2 a3 x2 (0 : Int32) (0 : Int32))
set_option maxRecDepth 100000 in
set_option maxHeartbeats 4000000 in
theorem x_X4_readNumber {G : Gx} {K : Rs → Mm → Prop} {M : Mm} {a0 : Nat} {a1 : Int32} {a2 : Int32} {a3 : Int32} (h : V_X4_readNumber K M a0 a1 a2 a3) : MC G mi_X4_readNumber [.ref a0, .int a1, .int a2, .int a3] M K := by
  unfold V_X4_readNumber at h
  refine mc_of rfl (by decide +kernel) dc_X4_readNumber (Nat.le_of_ble_eq_true rfl) 3 (Nat.le_of_ble_eq_true rfl) ?_
  show E G mi_X4_readNumber K M 0 0 0 [some (.ref a0), some (.int a1), some (.int a2), some (.int a3), none, none, none] []
  refine e_blk 1 0 _ _ (pc' := 1) (L' := [some (.ref a0), some (.int a1), some (.int a2), some (.int a3), none, none, none]) (st' := [.ref a0]) rfl ?_
  obtain ⟨ho1, h⟩ := h
  refine e_getI 4 2 rfl rfl (by decide) (aw (i := 195) (by decide +kernel) rfl) ho1 rfl ?_
  refine e_blk 5 4 _ _ (pc' := 12) (L' := [some (.ref a0), some (.int a1), some (.int a2), some (.int a3), some (.int (mI M a0 2)), some (.int (0 : Int32)), some (.int (0 : Int32))]) (st' := []) rfl ?_
  generalize hx_x2 : ((mI M a0 2) : Int32) = x2
  replace h := h x2 hx_x2.symm
  refine e_drp [true, true, true, true, true, true, true] (L' := [some (.ref a0), some (.int a1), some (.int a2), some (.int a3), some (.int x2), some (.int (0 : Int32)), some (.int (0 : Int32))]) rfl ?_
  obtain ⟨y, h⟩ := h
  exact x_X4_readNumber_12  y _ _ _ _ _ _ _ _ h
def V_X4_readWhichWeekday_73 (K : Rs → Mm → Prop)  (M : Mm)  : Prop := K (.inl none) M
set_option maxRecDepth 100000 in
set_option maxHeartbeats 4000000 in
theorem x_X4_readWhichWeekday_73 {G : Gx} {K : Rs → Mm → Prop}  {M : Mm}  (h : V_X4_readWhichWeekday_73 K  M ) : E G mi_X4_readWhichWeekday K M 0 0 73 [none, none, none] [] := by
  unfold V_X4_readWhichWeekday_73 at h
  exact e_ret rfl rfl (by decide) (by decide) h
def V_X4_readWhichWeekday_14 (K : Rs → Mm → Prop)  (M : Mm) (l0 : Nat) (l1 : Int32) (s0 : Int32) : Prop := (ob M l0 4 ∧ ∀ M2, M2 = sI M l0 2 ((mI M l0 2) + (1 : Int32)) → ((s0 = 0 → ∃ b3, mP M2 l0 5 = some b3 ∧ (ob M2 b3 3 ∧ V_X4_readNumber (kI (fun r6 M5 => (ob M5 b3 3 ∧ ∀ M8, M8 = sJ M5 b3 10 ((mJ M2 b3 10) ||| ((1 : Int64) <<< (((((7 : Int32) * r6) + l1)).toInt64 &&& 63))) → V_X4_readWhichWeekday_73 K  M8 )) (fun _ _ => False)) M2 l0 (1 : Int32) (1 : Int32) (5 : Int32))) ∧ (¬ s0 = 0 → ∃ b9, mP M2 l0 5 = some b9 ∧ (ob M2 b9 3 ∧ ∀ M11, M11 = sJ M2 b9 9 ((mJ M2 b9 9) ||| ((1 : Int64) <<< ((l1).toInt64 &&& 63))) → V_X4_readWhichWeekday_73 K  M11 ))))
set_option maxRecDepth 100000 in
set_option maxHeartbeats 4000000 in
theorem x_X4_readWhichWeekday_14 {G : Gx} {K : Rs → Mm → Prop}  {M : Mm} {l0 : Nat} {l1 : Int32} {s0 : Int32} (h : V_X4_readWhichWeekday_14 K  M l0 l1 s0) : E G mi_X4_readWhichWeekday K M 0 0 14 [some (.ref l0), some (.int l1), none] [.int s0] := by
  unfold V_X4_readWhichWeekday_14 at h
  refine e_blk 3 14 _ _ (pc' := 17) (L' := [some (.ref l0), some (.int l1), some (.int s0)]) (st' := [.ref l0, .ref l0]) rfl ?_
  obtain ⟨ho1, h⟩ := h
  refine e_getI 4 2 rfl rfl (by decide) (aw (i := 195) (by decide +kernel) rfl) ho1 rfl ?_
  refine e_blk 2 20 _ _ (pc' := 22) (L' := [some (.ref l0), some (.int l1), some (.int s0)]) (st' := [.int ((mI M l0 2) + (1 : Int32)), .ref l0]) rfl ?_
  refine e_putI 4 2 rfl rfl (by decide) (aw (i := 195) (by decide +kernel) rfl) rfl ho1 rfl ?_
  generalize hM2 : sI M l0 2 ((mI M l0 2) + (1 : Int32)) = M2
  replace h := h M2 hM2.symm
  replace ho1 : ob M2 l0 4 := hM2 ▸ ob_sI ho1
  refine e_blk 1 25 _ _ (pc' := 26) (L' := [some (.ref l0), some (.int l1), some (.int s0)]) (st' := [.int s0]) rfl ?_
  refine e_if_eq 47 rfl rfl (fun hc => ?_) (fun hc => ?_)
  · replace h := h.1 hc
    refine e_blk 1 47 _ _ (pc' := 48) (L' := [some (.ref l0), some (.int l1), some (.int s0)]) (st' := [.ref l0]) rfl ?_
    obtain ⟨b3, hbb3, h⟩ := h
    refine e_getR 4 5 rfl rfl (by decide) (aw (i := 199) (by decide +kernel) rfl) ho1 rfl hbb3 ?_
    refine e_blk 1 51 _ _ (pc' := 52) (L' := [some (.ref l0), some (.int l1), some (.int s0)]) (st' := [.ref b3, .ref b3]) rfl ?_
    obtain ⟨ho4, h⟩ := h
    refine e_getJ 3 10 rfl rfl (by decide) (aw (i := 160) (by decide +kernel) rfl) ho4 rfl ?_
    refine e_blk 6 55 _ _ (pc' := 62) (L' := [some (.ref l0), some (.int l1), some (.int s0)]) (st' := [.int (5 : Int32), .int (1 : Int32), .int (1 : Int32), .ref l0, .int (7 : Int32), .long (1 : Int64), .long (mJ M2 b3 10), .ref b3]) rfl ?_
    refine e_callV (As := [.int (1 : Int32), .int (1 : Int32), .int (5 : Int32)]) (rest := [.int (7 : Int32), .long (1 : Int64), .long (mJ M2 b3 10), .ref b3]) (ci := 4) rfl (x_X4_readNumber h) ho1 rfl rfl rfl (aw (i := 705) (by decide +kernel) rfl) wn_X4_readNumber wv_X4_readNumber wi_X4_readNumber wc_X4_readNumber (show cok mi_X4_readWhichWeekday mi_X4_readNumber 0 0 3 = true by decide +kernel) (Nat.le_of_ble_eq_true rfl) (fun v9 M5 hq => ?_) (fun X M9 hq => False.elim hq)
    obtain ⟨r6, rfl, h⟩ := kI_l hq
    refine e_blk 5 65 _ _ (pc' := 70) (L' := [some (.ref l0), some (.int l1), some (.int s0)]) (st' := [.long ((mJ M2 b3 10) ||| ((1 : Int64) <<< (((((7 : Int32) * r6) + l1)).toInt64 &&& 63))), .ref b3]) rfl ?_
    obtain ⟨ho7, h⟩ := h
    refine e_putJ 3 10 rfl rfl (by decide) (aw (i := 160) (by decide +kernel) rfl) rfl ho7 rfl ?_
    generalize hM8 : sJ M5 b3 10 ((mJ M2 b3 10) ||| ((1 : Int64) <<< (((((7 : Int32) * r6) + l1)).toInt64 &&& 63))) = M8
    replace h := h M8 hM8.symm
    replace ho7 : ob M8 b3 3 := hM8 ▸ ob_sJ ho7
    refine e_drp [false, false, false] (L' := [none, none, none]) rfl ?_
    exact x_X4_readWhichWeekday_73  h
  · replace h := h.2 hc
    refine e_blk 1 29 _ _ (pc' := 30) (L' := [some (.ref l0), some (.int l1), some (.int s0)]) (st' := [.ref l0]) rfl ?_
    obtain ⟨b9, hbb9, h⟩ := h
    refine e_getR 4 5 rfl rfl (by decide) (aw (i := 199) (by decide +kernel) rfl) ho1 rfl hbb9 ?_
    refine e_blk 1 33 _ _ (pc' := 34) (L' := [some (.ref l0), some (.int l1), some (.int s0)]) (st' := [.ref b9, .ref b9]) rfl ?_
    obtain ⟨ho10, h⟩ := h
    refine e_getJ 3 9 rfl rfl (by decide) (aw (i := 158) (by decide +kernel) rfl) ho10 rfl ?_
    refine e_blk 4 37 _ _ (pc' := 41) (L' := [some (.ref l0), some (.int l1), some (.int s0)]) (st' := [.long ((mJ M2 b9 9) ||| ((1 : Int64) <<< ((l1).toInt64 &&& 63))), .ref b9]) rfl ?_
    refine e_putJ 3 9 rfl rfl (by decide) (aw (i := 158) (by decide +kernel) rfl) rfl ho10 rfl ?_
    generalize hM11 : sJ M2 b9 9 ((mJ M2 b9 9) ||| ((1 : Int64) <<< ((l1).toInt64 &&& 63))) = M11
    replace h := h M11 hM11.symm
    replace ho1 : ob M11 l0 4 := hM11 ▸ ob_sJ ho1
    replace ho10 : ob M11 b9 3 := hM11 ▸ ob_sJ ho10
    refine e_blk 1 44 _ _ (pc' := 73) (L' := [some (.ref l0), some (.int l1), some (.int s0)]) (st' := []) rfl ?_
    refine e_drp [false, false, false] (L' := [none, none, none]) rfl ?_
    exact x_X4_readWhichWeekday_73  h
def V_X4_readWhichWeekday (K : Rs → Mm → Prop) (M : Mm) (a0 : Nat) (a1 : Int32) : Prop := (ob M a0 4 ∧ V_X4_look (kI (fun r3 M2 => ((¬ r3 = (76 : Int32) → V_X4_readWhichWeekday_14 K  M2 a0 a1 (0 : Int32)) ∧ (r3 = (76 : Int32) → V_X4_readWhichWeekday_14 K  M2 a0 a1 (1 : Int32)))) (fun _ _ => False)) M a0)
set_option maxRecDepth 100000 in
set_option maxHeartbeats 4000000 in
theorem x_X4_readWhichWeekday {G : Gx} {K : Rs → Mm → Prop} {M : Mm} {a0 : Nat} {a1 : Int32} (h : V_X4_readWhichWeekday K M a0 a1) : MC G mi_X4_readWhichWeekday [.ref a0, .int a1] M K := by
  unfold V_X4_readWhichWeekday at h
  refine mc_of rfl (by decide +kernel) dc_X4_readWhichWeekday (Nat.le_of_ble_eq_true rfl) 1 (Nat.le_of_ble_eq_true rfl) ?_
  show E G mi_X4_readWhichWeekday K M 0 0 0 [some (.ref a0), some (.int a1), none] []
  refine e_blk 1 0 _ _ (pc' := 1) (L' := [some (.ref a0), some (.int a1), none]) (st' := [.ref a0]) rfl ?_
  obtain ⟨ho1, h⟩ := h
  refine e_callV (As := []) (rest := []) (ci := 4) rfl (x_X4_look h) ho1 rfl rfl rfl (aw (i := 613) (by decide +kernel) rfl) wn_X4_look wv_X4_look wi_X4_look wc_X4_look (show cok mi_X4_readWhichWeekday mi_X4_look 0 0 0 = true by decide +kernel) (Nat.le_of_ble_eq_true rfl) (fun v9 M2 hq => ?_) (fun X M9 hq => False.elim hq)
  obtain ⟨r3, rfl, h⟩ := kI_l hq
  refine e_blk 1 4 _ _ (pc' := 6) (L' := [some (.ref a0), some (.int a1), none]) (st' := [.int (76 : Int32), .int r3]) rfl ?_
  refine e_icmp_ne 13 rfl rfl (fun hc => ?_) (fun hc => ?_)
  · replace h := h.1 hc
    refine e_blk 1 13 _ _ (pc' := 14) (L' := [some (.ref a0), some (.int a1), none]) (st' := [.int (0 : Int32)]) rfl ?_
    refine e_drp [true, true, false] (L' := [some (.ref a0), some (.int a1), none]) rfl ?_
    exact x_X4_readWhichWeekday_14  h
  · replace h := h.2 hc
    refine e_blk 2 9 _ _ (pc' := 14) (L' := [some (.ref a0), some (.int a1), none]) (st' := [.int (1 : Int32)]) rfl ?_
    refine e_drp [true, true, false] (L' := [some (.ref a0), some (.int a1), none]) rfl ?_
    exact x_X4_readWhichWeekday_14  h
def V_X4_readLastDay_87 (K : Rs → Mm → Prop)  (M : Mm)  : Prop := K (.inl none) M
set_option maxRecDepth 100000 in
set_option maxHeartbeats 4000000 in
theorem x_X4_readLastDay_87 {G : Gx} {K : Rs → Mm → Prop}  {M : Mm}  (h : V_X4_readLastDay_87 K  M ) : E G mi_X4_readLastDay K M 0 0 87 [none] [] := by
  unfold V_X4_readLastDay_87 at h
  exact e_ret rfl rfl (by decide) (by decide) h
def V_X4_readLastDay (K : Rs → Mm → Prop) (M : Mm) (a0 : Nat) : Prop := (ob M a0 4 ∧ V_X4_look (kI (fun r3 M2 => ((¬ r3 = (87 : Int32) → (ob M2 a0 4 ∧ V_X4_look (kI (fun r6 M5 => ((¬ r6 = (45 : Int32) → (ob M5 a0 4 ∧ ∃ b8, mP M5 a0 5 = some b8 ∧ (ob M5 b8 3 ∧ ∀ M10, M10 = sJ M5 b8 6 ((mJ M5 b8 6) ||| (1 : Int64)) → V_X4_readLastDay_87 K  M10 ))) ∧ (r6 = (45 : Int32) → (ob M5 a0 4 ∧ ∀ M12, M12 = sI M5 a0 2 ((mI M5 a0 2) + (1 : Int32)) → ∃ b13, mP M12 a0 5 = some b13 ∧ (ob M12 b13 3 ∧ V_X4_readNumber (kI (fun r16 M15 => (ob M15 b13 3 ∧ ∀ M18, M18 = sJ M15 b13 6 ((mJ M12 b13 6) ||| ((1 : Int64) <<< ((r16).toInt64 &&& 63))) → V_X4_readLastDay_87 K  M18 )) (fun _ _ => False)) M12 a0 (2 : Int32) (1 : Int32) (30 : Int32)))))) (fun _ _ => False)) M2 a0)) ∧ (r3 = (87 : Int32) → (ob M2 a0 4 ∧ ∀ M20, M20 = sI M2 a0 2 ((mI M2 a0 2) + (1 : Int32)) → ∃ b21, mP M20 a0 5 = some b21 ∧ (ob M20 b21 3 ∧ ∀ M23, M23 = sI M20 b21 7 (1 : Int32) → V_X4_readLastDay_87 K  M23 ))))) (fun _ _ => False)) M a0)
set_option maxRecDepth 100000 in
set_option maxHeartbeats 4000000 in
theorem x_X4_readLastDay {G : Gx} {K : Rs → Mm → Prop} {M : Mm} {a0 : Nat} (h : V_X4_readLastDay K M a0) : MC G mi_X4_readLastDay [.ref a0] M K := by
  unfold V_X4_readLastDay at h
  refine mc_of rfl (by decide +kernel) dc_X4_readLastDay (Nat.le_of_ble_eq_true rfl) 0 (Nat.le_of_ble_eq_true rfl) ?_
  show E G mi_X4_readLastDay K M 0 0 0 [some (.ref a0)] []
  refine e_blk 1 0 _ _ (pc' := 1) (L' := [some (.ref a0)]) (st' := [.ref a0]) rfl ?_
  obtain ⟨ho1, h⟩ := h
  refine e_callV (As := []) (rest := []) (ci := 4) rfl (x_X4_look h) ho1 rfl rfl rfl (aw (i := 613) (by decide +kernel) rfl) wn_X4_look wv_X4_look wi_X4_look wc_X4_look (show cok mi_X4_readLastDay mi_X4_look 0 0 0 = true by decide +kernel) (Nat.le_of_ble_eq_true rfl) (fun v9 M2 hq => ?_) (fun X M9 hq => False.elim hq)
  obtain ⟨r3, rfl, h⟩ := kI_l hq
  refine e_blk 1 4 _ _ (pc' := 6) (L' := [some (.ref a0)]) (st' := [.int (87 : Int32), .int r3]) rfl ?_
  refine e_icmp_ne 30 rfl rfl (fun hc => ?_) (fun hc => ?_)
  · replace h := h.1 hc
    refine e_blk 1 30 _ _ (pc' := 31) (L' := [some (.ref a0)]) (st' := [.ref a0]) rfl ?_
    obtain ⟨ho4, h⟩ := h
    refine e_callV (As := []) (rest := []) (ci := 4) rfl (x_X4_look h) ho4 rfl rfl rfl (aw (i := 613) (by decide +kernel) rfl) wn_X4_look wv_X4_look wi_X4_look wc_X4_look (show cok mi_X4_readLastDay mi_X4_look 0 0 0 = true by decide +kernel) (Nat.le_of_ble_eq_true rfl) (fun v9 M5 hq => ?_) (fun X M9 hq => False.elim hq)
    obtain ⟨r6, rfl, h⟩ := kI_l hq
    refine e_blk 1 34 _ _ (pc' := 36) (L' := [some (.ref a0)]) (st' := [.int (45 : Int32), .int r6]) rfl ?_
    refine e_icmp_ne 74 rfl rfl (fun hc => ?_) (fun hc => ?_)
    · replace h := h.1 hc
      refine e_blk 1 74 _ _ (pc' := 75) (L' := [some (.ref a0)]) (st' := [.ref a0]) rfl ?_
      obtain ⟨ho7, h⟩ := h
      obtain ⟨b8, hbb8, h⟩ := h
      refine e_getR 4 5 rfl rfl (by decide) (aw (i := 199) (by decide +kernel) rfl) ho7 rfl hbb8 ?_
      refine e_blk 1 78 _ _ (pc' := 79) (L' := [some (.ref a0)]) (st' := [.ref b8, .ref b8]) rfl ?_
      obtain ⟨ho9, h⟩ := h
      refine e_getJ 3 6 rfl rfl (by decide) (aw (i := 152) (by decide +kernel) rfl) ho9 rfl ?_
      refine e_blk 2 82 _ _ (pc' := 84) (L' := [some (.ref a0)]) (st' := [.long ((mJ M5 b8 6) ||| (1 : Int64)), .ref b8]) rfl ?_
      refine e_putJ 3 6 rfl rfl (by decide) (aw (i := 152) (by decide +kernel) rfl) rfl ho9 rfl ?_
      generalize hM10 : sJ M5 b8 6 ((mJ M5 b8 6) ||| (1 : Int64)) = M10
      replace h := h M10 hM10.symm
      replace ho7 : ob M10 a0 4 := hM10 ▸ ob_sJ ho7
      replace ho9 : ob M10 b8 3 := hM10 ▸ ob_sJ ho9
      refine e_drp [false] (L' := [none]) rfl ?_
      exact x_X4_readLastDay_87  h
    · replace h := h.2 hc
      refine e_blk 2 39 _ _ (pc' := 41) (L' := [some (.ref a0)]) (st' := [.ref a0, .ref a0]) rfl ?_
      obtain ⟨ho11, h⟩ := h
      refine e_getI 4 2 rfl rfl (by decide) (aw (i := 195) (by decide +kernel) rfl) ho11 rfl ?_
      refine e_blk 2 44 _ _ (pc' := 46) (L' := [some (.ref a0)]) (st' := [.int ((mI M5 a0 2) + (1 : Int32)), .ref a0]) rfl ?_
      refine e_putI 4 2 rfl rfl (by decide) (aw (i := 195) (by decide +kernel) rfl) rfl ho11 rfl ?_
      generalize hM12 : sI M5 a0 2 ((mI M5 a0 2) + (1 : Int32)) = M12
      replace h := h M12 hM12.symm
      replace ho11 : ob M12 a0 4 := hM12 ▸ ob_sI ho11
      refine e_blk 1 49 _ _ (pc' := 50) (L' := [some (.ref a0)]) (st' := [.ref a0]) rfl ?_
      obtain ⟨b13, hbb13, h⟩ := h
      refine e_getR 4 5 rfl rfl (by decide) (aw (i := 199) (by decide +kernel) rfl) ho11 rfl hbb13 ?_
      refine e_blk 1 53 _ _ (pc' := 54) (L' := [some (.ref a0)]) (st' := [.ref b13, .ref b13]) rfl ?_
      obtain ⟨ho14, h⟩ := h
      refine e_getJ 3 6 rfl rfl (by decide) (aw (i := 152) (by decide +kernel) rfl) ho14 rfl ?_
      refine e_blk 5 57 _ _ (pc' := 63) (L' := [some (.ref a0)]) (st' := [.int (30 : Int32), .int (1 : Int32), .int (2 : Int32), .ref a0, .long (1 : Int64), .long (mJ M12 b13 6), .ref b13]) rfl ?_
      refine e_callV (As := [.int (2 : Int32), .int (1 : Int32), .int (30 : Int32)]) (rest := [.long (1 : Int64), .long (mJ M12 b13 6), .ref b13]) (ci := 4) rfl (x_X4_readNumber h) ho11 rfl rfl rfl (aw (i := 705) (by decide +kernel) rfl) wn_X4_readNumber wv_X4_readNumber wi_X4_readNumber wc_X4_readNumber (show cok mi_X4_readLastDay mi_X4_readNumber 0 0 3 = true by decide +kernel) (Nat.le_of_ble_eq_true rfl) (fun v9 M15 hq => ?_) (fun X M9 hq => False.elim hq)
      obtain ⟨r16, rfl, h⟩ := kI_l hq
      refine e_blk 2 66 _ _ (pc' := 68) (L' := [some (.ref a0)]) (st' := [.long ((mJ M12 b13 6) ||| ((1 : Int64) <<< ((r16).toInt64 &&& 63))), .ref b13]) rfl ?_
      obtain ⟨ho17, h⟩ := h
      refine e_putJ 3 6 rfl rfl (by decide) (aw (i := 152) (by decide +kernel) rfl) rfl ho17 rfl ?_
      generalize hM18 : sJ M15 b13 6 ((mJ M12 b13 6) ||| ((1 : Int64) <<< ((r16).toInt64 &&& 63))) = M18
      replace h := h M18 hM18.symm
      replace ho17 : ob M18 b13 3 := hM18 ▸ ob_sJ ho17
      refine e_blk 1 71 _ _ (pc' := 87) (L' := [some (.ref a0)]) (st' := []) rfl ?_
      refine e_drp [false] (L' := [none]) rfl ?_
      exact x_X4_readLastDay_87  h
  · replace h := h.2 hc
    refine e_blk 2 9 _ _ (pc' := 11) (L' := [some (.ref a0)]) (st' := [.ref a0, .ref a0]) rfl ?_
    obtain ⟨ho19, h⟩ := h
    refine e_getI 4 2 rfl rfl (by decide) (aw (i := 195) (by decide +kernel) rfl) ho19 rfl ?_
    refine e_blk 2 14 _ _ (pc' := 16) (L' := [some (.ref a0)]) (st' := [.int ((mI M2 a0 2) + (1 : Int32)), .ref a0]) rfl ?_
    refine e_putI 4 2 rfl rfl (by decide) (aw (i := 195) (by decide +kernel) rfl) rfl ho19 rfl ?_
    generalize hM20 : sI M2 a0 2 ((mI M2 a0 2) + (1 : Int32)) = M20
    replace h := h M20 hM20.symm
    replace ho19 : ob M20 a0 4 := hM20 ▸ ob_sI ho19
    refine e_blk 1 19 _ _ (pc' := 20) (L' := [some (.ref a0)]) (st' := [.ref a0]) rfl ?_
    obtain ⟨b21, hbb21, h⟩ := h
    refine e_getR 4 5 rfl rfl (by decide) (aw (i := 199) (by decide +kernel) rfl) ho19 rfl hbb21 ?_
    refine e_blk 1 23 _ _ (pc' := 24) (L' := [some (.ref a0)]) (st' := [.int (1 : Int32), .ref b21]) rfl ?_
    obtain ⟨ho22, h⟩ := h
    refine e_putZ 3 7 rfl rfl (by decide) (aw (i := 154) (by decide +kernel) rfl) rfl ho22 rfl (by decide) ?_
    generalize hM23 : sI M20 b21 7 (1 : Int32) = M23
    replace h := h M23 hM23.symm
    replace ho19 : ob M23 a0 4 := hM23 ▸ ob_sI ho19
    replace ho22 : ob M23 b21 3 := hM23 ▸ ob_sI ho22
    refine e_blk 1 27 _ _ (pc' := 87) (L' := [some (.ref a0)]) (st' := []) rfl ?_
    refine e_drp [false] (L' := [none]) rfl ?_
    exact x_X4_readLastDay_87  h
def V_X4_addStretch_59 (K : Rs → Mm → Prop)  (M : Mm)  : Prop := K (.inl none) M
set_option maxRecDepth 100000 in
set_option maxHeartbeats 4000000 in
theorem x_X4_addStretch_59 {G : Gx} {K : Rs → Mm → Prop}  {M : Mm}  (h : V_X4_addStretch_59 K  M ) : E G mi_X4_addStretch K M 0 0 59 [none, none, none, none, none] [] := by
  unfold V_X4_addStretch_59 at h
  exact e_ret rfl rfl (by decide) (by decide) h
def V_X4_addStretch_40 (K : Rs → Mm → Prop)  (M : Mm) (l0 : Nat) (l1 : Int32) (l2 : Int32) (l3 : Int32) (l4 : Int32) : Prop := (ob M l0 4 ∧ ((¬ (mI M l0 3) = 0 → V_X4_addStretch_59 K  M ) ∧ ((mI M l0 3) = 0 → ∃ b2, mP M l0 5 = some b2 ∧ (ob M b2 3 ∧ V_X3_add (kV (fun M4 => V_X4_addStretch_59 K  M4 ) (fun _ _ => False)) M b2 l1 l2 l3 l4))))
set_option maxRecDepth 100000 in
set_option maxHeartbeats 4000000 in
theorem x_X4_addStretch_40 {G : Gx} {K : Rs → Mm → Prop}  {M : Mm} {l0 : Nat} {l1 : Int32} {l2 : Int32} {l3 : Int32} {l4 : Int32} (h : V_X4_addStretch_40 K  M l0 l1 l2 l3 l4) : E G mi_X4_addStretch K M 0 0 40 [some (.ref l0), some (.int l1), some (.int l2), some (.int l3), some (.int l4)] [] := by
  unfold V_X4_addStretch_40 at h
  refine e_blk 1 40 _ _ (pc' := 41) (L' := [some (.ref l0), some (.int l1), some (.int l2), some (.int l3), some (.int l4)]) (st' := [.ref l0]) rfl ?_
  obtain ⟨ho1, h⟩ := h
  refine e_getI 4 3 rfl rfl (by decide) (aw (i := 196) (by decide +kernel) rfl) ho1 rfl ?_
  refine e_if_ne 59 rfl rfl (fun hc => ?_) (fun hc => ?_)
  · replace h := h.1 hc
    refine e_drp [false, false, false, false, false] (L' := [none, none, none, none, none]) rfl ?_
    exact x_X4_addStretch_59  h
  · replace h := h.2 hc
    refine e_blk 1 47 _ _ (pc' := 48) (L' := [some (.ref l0), some (.int l1), some (.int l2), some (.int l3), some (.int l4)]) (st' := [.ref l0]) rfl ?_
    obtain ⟨b2, hbb2, h⟩ := h
    refine e_getR 4 5 rfl rfl (by decide) (aw (i := 199) (by decide +kernel) rfl) ho1 rfl hbb2 ?_
    refine e_blk 4 51 _ _ (pc' := 56) (L' := [some (.ref l0), some (.int l1), some (.int l2), some (.int l3), some (.int l4)]) (st' := [.int l4, .int l3, .int l2, .int l1, .ref b2]) rfl ?_
    obtain ⟨ho3, h⟩ := h
    refine e_callV (As := [.int l1, .int l2, .int l3, .int l4]) (rest := []) (ci := 3) rfl (x_X3_add h) ho3 rfl rfl rfl (aw (i := 681) (by decide +kernel) rfl) wn_X3_add wv_X3_add wi_X3_add wc_X3_add (show cok mi_X4_addStretch mi_X3_add 0 0 4 = true by decide +kernel) (Nat.le_of_ble_eq_true rfl) (fun v9 M4 hq => ?_) (fun X M9 hq => False.elim hq)
    obtain ⟨rfl, h⟩ := kV_l hq
    refine e_drp [false, false, false, false, false] (L' := [none, none, none, none, none]) rfl ?_
    exact x_X4_addStretch_59  h
def V_X4_addStretch (K : Rs → Mm → Prop) (M : Mm) (a0 : Nat) (a1 : Int32) (a2 : Int32) (a3 : Int32) : Prop := (ob M a0 4 ∧ ((¬ (mI M a0 3) = 0 → V_X4_addStretch_40 K  M a0 a1 a2 a3 (1 : Int32)) ∧ ((mI M a0 3) = 0 → V_X4_look (kI (fun r3 M2 => ((¬ r3 = (47 : Int32) → V_X4_addStretch_40 K  M2 a0 a1 a2 a3 (1 : Int32)) ∧ (r3 = (47 : Int32) → (ob M2 a0 4 ∧ ∀ M5, M5 = sI M2 a0 2 ((mI M2 a0 2) + (1 : Int32)) → V_X4_readNumber (kI (fun r7 M6 => V_X4_addStretch_40 K  M6 a0 a1 a2 a3 r7) (fun _ _ => False)) M5 a0 (4 : Int32) (1 : Int32) (1000 : Int32))))) (fun _ _ => False)) M a0)))
set_option maxRecDepth 100000 in
set_option maxHeartbeats 4000000 in
theorem x_X4_addStretch {G : Gx} {K : Rs → Mm → Prop} {M : Mm} {a0 : Nat} {a1 : Int32} {a2 : Int32} {a3 : Int32} (h : V_X4_addStretch K M a0 a1 a2 a3) : MC G mi_X4_addStretch [.ref a0, .int a1, .int a2, .int a3] M K := by
  unfold V_X4_addStretch at h
  refine mc_of rfl (by decide +kernel) dc_X4_addStretch (Nat.le_of_ble_eq_true rfl) 1 (Nat.le_of_ble_eq_true rfl) ?_
  show E G mi_X4_addStretch K M 0 0 0 [some (.ref a0), some (.int a1), some (.int a2), some (.int a3), none] []
  refine e_blk 3 0 _ _ (pc' := 4) (L' := [some (.ref a0), some (.int a1), some (.int a2), some (.int a3), some (.int (1 : Int32))]) (st' := [.ref a0]) rfl ?_
  obtain ⟨ho1, h⟩ := h
  refine e_getI 4 3 rfl rfl (by decide) (aw (i := 196) (by decide +kernel) rfl) ho1 rfl ?_
  refine e_if_ne 40 rfl rfl (fun hc => ?_) (fun hc => ?_)
  · replace h := h.1 hc
    refine e_drp [true, true, true, true, true] (L' := [some (.ref a0), some (.int a1), some (.int a2), some (.int a3), some (.int (1 : Int32))]) rfl ?_
    exact x_X4_addStretch_40  h
  · replace h := h.2 hc
    refine e_blk 1 10 _ _ (pc' := 11) (L' := [some (.ref a0), some (.int a1), some (.int a2), some (.int a3), some (.int (1 : Int32))]) (st' := [.ref a0]) rfl ?_
    refine e_callV (As := []) (rest := []) (ci := 4) rfl (x_X4_look h) ho1 rfl rfl rfl (aw (i := 613) (by decide +kernel) rfl) wn_X4_look wv_X4_look wi_X4_look wc_X4_look (show cok mi_X4_addStretch mi_X4_look 0 0 0 = true by decide +kernel) (Nat.le_of_ble_eq_true rfl) (fun v9 M2 hq => ?_) (fun X M9 hq => False.elim hq)
    obtain ⟨r3, rfl, h⟩ := kI_l hq
    refine e_blk 1 14 _ _ (pc' := 16) (L' := [some (.ref a0), some (.int a1), some (.int a2), some (.int a3), some (.int (1 : Int32))]) (st' := [.int (47 : Int32), .int r3]) rfl ?_
    refine e_icmp_ne 40 rfl rfl (fun hc => ?_) (fun hc => ?_)
    · replace h := h.1 hc
      refine e_drp [true, true, true, true, true] (L' := [some (.ref a0), some (.int a1), some (.int a2), some (.int a3), some (.int (1 : Int32))]) rfl ?_
      exact x_X4_addStretch_40  h
    · replace h := h.2 hc
      refine e_blk 2 19 _ _ (pc' := 21) (L' := [some (.ref a0), some (.int a1), some (.int a2), some (.int a3), some (.int (1 : Int32))]) (st' := [.ref a0, .ref a0]) rfl ?_
      obtain ⟨ho4, h⟩ := h
      refine e_getI 4 2 rfl rfl (by decide) (aw (i := 195) (by decide +kernel) rfl) ho4 rfl ?_
      refine e_blk 2 24 _ _ (pc' := 26) (L' := [some (.ref a0), some (.int a1), some (.int a2), some (.int a3), some (.int (1 : Int32))]) (st' := [.int ((mI M2 a0 2) + (1 : Int32)), .ref a0]) rfl ?_
      refine e_putI 4 2 rfl rfl (by decide) (aw (i := 195) (by decide +kernel) rfl) rfl ho4 rfl ?_
      generalize hM5 : sI M2 a0 2 ((mI M2 a0 2) + (1 : Int32)) = M5
      replace h := h M5 hM5.symm
      replace ho4 : ob M5 a0 4 := hM5 ▸ ob_sI ho4
      refine e_blk 4 29 _ _ (pc' := 35) (L' := [some (.ref a0), some (.int a1), some (.int a2), some (.int a3), some (.int (1 : Int32))]) (st' := [.int (1000 : Int32), .int (1 : Int32), .int (4 : Int32), .ref a0]) rfl ?_
      refine e_callV (As := [.int (4 : Int32), .int (1 : Int32), .int (1000 : Int32)]) (rest := []) (ci := 4) rfl (x_X4_readNumber h) ho4 rfl rfl rfl (aw (i := 705) (by decide +kernel) rfl) wn_X4_readNumber wv_X4_readNumber wi_X4_readNumber wc_X4_readNumber (show cok mi_X4_addStretch mi_X4_readNumber 0 0 3 = true by decide +kernel) (Nat.le_of_ble_eq_true rfl) (fun v9 M6 hq => ?_) (fun X M9 hq => False.elim hq)
      obtain ⟨r7, rfl, h⟩ := kI_l hq
      refine e_blk 1 38 _ _ (pc' := 40) (L' := [some (.ref a0), some (.int a1), some (.int a2), some (.int a3), some (.int r7)]) (st' := []) rfl ?_
      refine e_drp [true, true, true, true, true] (L' := [some (.ref a0), some (.int a1), some (.int a2), some (.int a3), some (.int r7)]) rfl ?_
      exact x_X4_addStretch_40  h
