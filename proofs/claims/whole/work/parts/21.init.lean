theorem ob_new {M : Mm} {q c n : Nat} : ob (nO M q c n) q c := ⟨List.mem_append_right _ List.mem_cons_self, va_up_self _ _ _⟩
theorem ob_nO {M : Mm} {q c n a d : Nat} (hq : q ∉ mL M) (h : ob M a d) : ob (nO M q c n) a d := ⟨List.mem_append_left _ h.1, (va_up_ne _ _ (show a ≠ q from fun e => hq (e ▸ h.1))).trans h.2⟩
def is_X0_init : List (Instr × Nat) := [(.aload_n 0, 1), (.invokespecial 3, 3), (.return_, 1)]
abbrev mi_X0_init : MI := (yX0_init, cX0_init, 1, none, [], { frames := 1, cells := 0, slots := 0, locals := 20 }, is_X0_init)
theorem dc_X0_init : dcb cX0_init is_X0_init 0 = true := by decide +kernel
theorem wc_X0_init : cdw mi_X0_init ∈ ALLW := aw (i := 89) (by decide +kernel) rfl
theorem wi_X0_init : Cond.initialized (miY mi_X0_init).cls ∈ ALLW := aw (i := 58) (by decide +kernel) rfl
theorem wn_X0_init : Cond.instanceMethod (miY mi_X0_init) ∈ ALLW := aw (i := 88) (by decide +kernel) rfl
def is_X1_init : List (Instr × Nat) := [(.aload_n 0, 1), (.invokespecial 3, 3), (.aload_n 0, 1), (.sipush 300, 3), (.newarray .int, 2), (.putfield 9, 3), (.aload_n 0, 1), (.sipush 300, 3), (.newarray .int, 2), (.putfield 15, 3), (.aload_n 0, 1), (.sipush 300, 3), (.newarray .int, 2), (.putfield 18, 3), (.aload_n 0, 1), (.sipush 300, 3), (.newarray .int, 2), (.putfield 21, 3), (.return_, 1)]
abbrev mi_X1_init : MI := (yX1_init, cX1_init, 1, none, [], { frames := 1, cells := 4, slots := 1200, locals := 20 }, is_X1_init)
theorem dc_X1_init : dcb cX1_init is_X1_init 0 = true := by decide +kernel
theorem wc_X1_init : cdw mi_X1_init ∈ ALLW := aw (i := 217) (by decide +kernel) rfl
theorem wi_X1_init : Cond.initialized (miY mi_X1_init).cls ∈ ALLW := aw (i := 61) (by decide +kernel) rfl
theorem wn_X1_init : Cond.instanceMethod (miY mi_X1_init) ∈ ALLW := aw (i := 216) (by decide +kernel) rfl
def is_X3_init : List (Instr × Nat) := [(.aload_n 0, 1), (.invokespecial 3, 3), (.aload_n 0, 1), (.new 9, 3), (.dup, 1), (.invokespecial 11, 3), (.putfield 12, 3), (.aload_n 0, 1), (.iconst 5, 1), (.newarray .long, 2), (.putfield 18, 3), (.aload_n 0, 1), (.iconst 5, 1), (.newarray .long, 2), (.putfield 22, 3), (.return_, 1)]
abbrev mi_X3_init : MI := (yX3_init, cX3_init, 1, none, [], { frames := 2, cells := 3, slots := 16, locals := 40 }, is_X3_init)
theorem dc_X3_init : dcb cX3_init is_X3_init 0 = true := by decide +kernel
theorem wc_X3_init : cdw mi_X3_init ∈ ALLW := aw (i := 135) (by decide +kernel) rfl
theorem wi_X3_init : Cond.initialized (miY mi_X3_init).cls ∈ ALLW := aw (i := 60) (by decide +kernel) rfl
theorem wn_X3_init : Cond.instanceMethod (miY mi_X3_init) ∈ ALLW := aw (i := 134) (by decide +kernel) rfl
def is_X5_init : List (Instr × Nat) := [(.aload_n 0, 1), (.invokespecial 3, 3), (.aload_n 0, 1), (.bipush 21, 2), (.newarray .int, 2), (.putfield 9, 3), (.aload_n 0, 1), (.bipush 21, 2), (.newarray .int, 2), (.putfield 15, 3), (.return_, 1)]
abbrev mi_X5_init : MI := (yX5_init, cX5_init, 1, none, [], { frames := 1, cells := 2, slots := 42, locals := 20 }, is_X5_init)
theorem dc_X5_init : dcb cX5_init is_X5_init 0 = true := by decide +kernel
theorem wc_X5_init : cdw mi_X5_init ∈ ALLW := aw (i := 243) (by decide +kernel) rfl
theorem wi_X5_init : Cond.initialized (miY mi_X5_init).cls ∈ ALLW := aw (i := 62) (by decide +kernel) rfl
theorem wn_X5_init : Cond.instanceMethod (miY mi_X5_init) ∈ ALLW := aw (i := 242) (by decide +kernel) rfl
def is_X2_init : List (Instr × Nat) := [(.aload_n 0, 1), (.invokespecial 3, 3), (.aload_n 0, 1), (.new 9, 3), (.dup, 1), (.invokespecial 11, 3), (.putfield 12, 3), (.aload_n 0, 1), (.bipush 8, 2), (.newarray .int, 2), (.putfield 18, 3), (.aload_n 0, 1), (.bipush 8, 2), (.newarray .int, 2), (.putfield 22, 3), (.aload_n 0, 1), (.new 25, 3), (.dup, 1), (.invokespecial 27, 3), (.putfield 28, 3), (.aload_n 0, 1), (.iload_n 1, 1), (.putfield 32, 3), (.return_, 1)]
abbrev mi_X2_init : MI := (yX2_init, cX2_init, 2, none, [], { frames := 3, cells := 9, slots := 90, locals := 60 }, is_X2_init)
theorem dc_X2_init : dcb cX2_init is_X2_init 0 = true := by decide +kernel
theorem wc_X2_init : cdw mi_X2_init ∈ ALLW := aw (i := 262) (by decide +kernel) rfl
theorem wi_X2_init : Cond.initialized (miY mi_X2_init).cls ∈ ALLW := aw (i := 63) (by decide +kernel) rfl
theorem wn_X2_init : Cond.instanceMethod (miY mi_X2_init) ∈ ALLW := aw (i := 261) (by decide +kernel) rfl
def is_X4_init : List (Instr × Nat) := [(.aload_n 0, 1), (.invokespecial 3, 3), (.aload_n 0, 1), (.sipush 160, 3), (.newarray .int, 2), (.putfield 9, 3), (.aload_n 0, 1), (.new 15, 3), (.dup, 1), (.invokespecial 17, 3), (.putfield 18, 3), (.return_, 1)]
abbrev mi_X4_init : MI := (yX4_init, cX4_init, 1, none, [], { frames := 3, cells := 5, slots := 189, locals := 60 }, is_X4_init)
theorem dc_X4_init : dcb cX4_init is_X4_init 0 = true := by decide +kernel
theorem wc_X4_init : cdw mi_X4_init ∈ ALLW := aw (i := 129) (by decide +kernel) rfl
theorem wi_X4_init : Cond.initialized (miY mi_X4_init).cls ∈ ALLW := aw (i := 59) (by decide +kernel) rfl
theorem wn_X4_init : Cond.instanceMethod (miY mi_X4_init) ∈ ALLW := aw (i := 128) (by decide +kernel) rfl
def is_X6_init : List (Instr × Nat) := [(.aload_n 0, 1), (.invokespecial 3, 3), (.aload_n 0, 1), (.new 9, 3), (.dup, 1), (.invokespecial 11, 3), (.putfield 12, 3), (.aload_n 0, 1), (.iconst 4, 1), (.anewarray 16, 3), (.putfield 18, 3), (.aload_n 0, 1), (.bipush 12, 2), (.anewarray 22, 3), (.putfield 24, 3), (.aload_n 0, 1), (.new 28, 3), (.dup, 1), (.invokespecial 30, 3), (.putfield 31, 3), (.aload_n 0, 1), (.new 35, 3), (.dup, 1), (.invokespecial 37, 3), (.putfield 38, 3), (.aload_n 0, 1), (.iconst 1, 1), (.putfield 42, 3), (.iconst 0, 1), (.istore_n 1, 1), (.iload_n 1, 1), (.iconst 4, 1), (.if_icmp .ge 22, 3), (.aload_n 0, 1), (.getfield 18, 3), (.iload_n 1, 1), (.new 16, 3), (.dup, 1), (.invokespecial 46, 3), (.aastore, 1), (.iinc 1 1, 3), (.goto (-21), 3), (.iconst 0, 1), (.istore_n 1, 1), (.iload_n 1, 1), (.bipush 12, 2), (.if_icmp .ge 23, 3), (.aload_n 0, 1), (.getfield 24, 3), (.iload_n 1, 1), (.new 22, 3), (.dup, 1), (.iload_n 1, 1), (.invokespecial 47, 3), (.aastore, 1), (.iinc 1 1, 3), (.goto (-23), 3), (.return_, 1)]
abbrev mi_X6_init : MI := (yX6_init, cX6_init, 2, none, [], { frames := 4, cells := 146, slots := 2886, locals := 81 }, is_X6_init)
theorem dc_X6_init : dcb cX6_init is_X6_init 0 = true := by decide +kernel
theorem wc_X6_init : cdw mi_X6_init ∈ ALLW := aw (i := 81) (by decide +kernel) rfl
theorem wi_X6_init : Cond.initialized (miY mi_X6_init).cls ∈ ALLW := aw (i := 57) (by decide +kernel) rfl
theorem wn_X6_init : Cond.instanceMethod (miY mi_X6_init) ∈ ALLW := aw (i := 80) (by decide +kernel) rfl
def is_X7_init : List (Instr × Nat) := [(.aload_n 0, 1), (.invokespecial 1, 3), (.aload_n 0, 1), (.iconst 4, 1), (.newarray .int, 2), (.putfield 7, 3), (.aload_n 0, 1), (.iconst 4, 1), (.newarray .int, 2), (.putfield 13, 3), (.aload_n 0, 1), (.bipush 80, 2), (.newarray .int, 2), (.putfield 16, 3), (.aload_n 0, 1), (.bipush 80, 2), (.newarray .int, 2), (.putfield 19, 3), (.aload_n 0, 1), (.sipush 160, 3), (.newarray .byte, 2), (.putfield 22, 3), (.aload_n 0, 1), (.iconst 5, 1), (.newarray .long, 2), (.putfield 26, 3), (.aload_n 0, 1), (.sipush 300, 3), (.newarray .boolean, 2), (.putfield 30, 3), (.aload_n 0, 1), (.bipush 12, 2), (.newarray .boolean, 2), (.putfield 34, 3), (.aload_n 0, 1), (.bipush 12, 2), (.newarray .int, 2), (.putfield 37, 3), (.aload_n 0, 1), (.bipush 12, 2), (.newarray .int, 2), (.putfield 40, 3), (.aload_n 0, 1), (.bipush 12, 2), (.newarray .int, 2), (.putfield 43, 3), (.aload_n 0, 1), (.bipush 12, 2), (.newarray .int, 2), (.putfield 46, 3), (.aload_n 0, 1), (.bipush 12, 2), (.newarray .int, 2), (.putfield 49, 3), (.aload_n 0, 1), (.bipush 60, 2), (.newarray .long, 2), (.putfield 52, 3), (.aload_n 0, 1), (.sipush 3600, 3), (.newarray .boolean, 2), (.putfield 55, 3), (.aload_n 0, 1), (.bipush 12, 2), (.newarray .boolean, 2), (.putfield 58, 3), (.aload_n 0, 1), (.bipush 12, 2), (.newarray .long, 2), (.putfield 61, 3), (.aload_n 0, 1), (.bipush 12, 2), (.newarray .boolean, 2), (.putfield 64, 3), (.aload_n 0, 1), (.bipush 12, 2), (.newarray .long, 2), (.putfield 67, 3), (.aload_n 0, 1), (.bipush 12, 2), (.newarray .long, 2), (.putfield 70, 3), (.aload_n 0, 1), (.bipush 12, 2), (.newarray .long, 2), (.putfield 73, 3), (.aload_n 0, 1), (.bipush 12, 2), (.newarray .boolean, 2), (.putfield 76, 3), (.aload_n 0, 1), (.bipush 12, 2), (.newarray .boolean, 2), (.putfield 79, 3), (.aload_n 0, 1), (.bipush 12, 2), (.newarray .int, 2), (.putfield 82, 3), (.aload_n 0, 1), (.bipush 12, 2), (.newarray .int, 2), (.putfield 85, 3), (.aload_n 0, 1), (.bipush 12, 2), (.newarray .int, 2), (.putfield 88, 3), (.aload_n 0, 1), (.bipush 100, 2), (.newarray .int, 2), (.putfield 91, 3), (.aload_n 0, 1), (.bipush 100, 2), (.newarray .int, 2), (.putfield 94, 3), (.aload_n 0, 1), (.bipush 100, 2), (.newarray .int, 2), (.putfield 97, 3), (.aload_n 0, 1), (.sipush 300, 3), (.newarray .int, 2), (.putfield 100, 3), (.aload_n 0, 1), (.sipush 300, 3), (.newarray .int, 2), (.putfield 103, 3), (.aload_n 0, 1), (.sipush 300, 3), (.newarray .int, 2), (.putfield 106, 3), (.aload_n 0, 1), (.sipush 300, 3), (.newarray .int, 2), (.putfield 109, 3), (.aload_n 0, 1), (.iconst 0, 1), (.putfield 112, 3), (.return_, 1)]
abbrev mi_X7_init : MI := (yX7_init, cX7_init, 1, none, [], { frames := 1, cells := 33, slots := 5997, locals := 20 }, is_X7_init)
theorem dc_X7_init : dcb cX7_init is_X7_init 0 = true := by decide +kernel
theorem wc_X7_init : cdw mi_X7_init ∈ ALLW := aw (i := 1063) (by decide +kernel) rfl
theorem wi_X7_init : Cond.initialized (miY mi_X7_init).cls ∈ ALLW := aw (i := 64) (by decide +kernel) rfl
theorem wn_X7_init : Cond.instanceMethod (miY mi_X7_init) ∈ ALLW := aw (i := 1062) (by decide +kernel) rfl
def V_X0_init (K : Rs → Mm → Prop) (M : Mm) (a0 : Nat) : Prop := K (.inl none) M
set_option maxRecDepth 100000 in
set_option maxHeartbeats 4000000 in
theorem x_X0_init {G : Gx} {K : Rs → Mm → Prop} {M : Mm} {a0 : Nat} (h : V_X0_init K M a0) : MC G mi_X0_init [.ref a0] M K := by
  unfold V_X0_init at h
  refine mc_of rfl (by decide +kernel) dc_X0_init (Nat.le_of_ble_eq_true rfl) 0 (Nat.le_of_ble_eq_true rfl) ?_
  show E G mi_X0_init K M 0 0 0 [some (.ref a0)] []
  refine e_blk 1 0 _ _ (pc' := 1) (L' := [some (.ref a0)]) (st' := [.ref a0]) rfl ?_
  refine e_objI rfl (aw (i := 90) (by decide +kernel) rfl) (aw (i := 83) (by decide +kernel) rfl) (aw (i := 84) (by decide +kernel) rfl) (by decide) (by decide) ?_
  exact e_ret rfl rfl (by decide) (by decide) h
def V_X1_init (K : Rs → Mm → Prop) (M : Mm) (a0 : Nat) : Prop := ∀ w1, w1 ∉ mL M → ∀ M3, M3 = nO M w1 9 300 → (ob M3 a0 1 ∧ ∀ M6, M6 = sP M3 a0 0 (some w1) → ∀ w7, w7 ∉ mL M6 → ∀ M9, M9 = nO M6 w7 9 300 → ∀ M11, M11 = sP M9 a0 1 (some w7) → ∀ w12, w12 ∉ mL M11 → ∀ M14, M14 = nO M11 w12 9 300 → ∀ M16, M16 = sP M14 a0 2 (some w12) → ∀ w17, w17 ∉ mL M16 → ∀ M19, M19 = nO M16 w17 9 300 → ∀ M21, M21 = sP M19 a0 3 (some w17) → K (.inl none) M21)
set_option maxRecDepth 100000 in
set_option maxHeartbeats 4000000 in
theorem x_X1_init {G : Gx} {K : Rs → Mm → Prop} {M : Mm} {a0 : Nat} (h : V_X1_init K M a0) : MC G mi_X1_init [.ref a0] M K := by
  unfold V_X1_init at h
  refine mc_of rfl (by decide +kernel) dc_X1_init (Nat.le_of_ble_eq_true rfl) 0 (Nat.le_of_ble_eq_true rfl) ?_
  show E G mi_X1_init K M 0 0 0 [some (.ref a0)] []
  refine e_blk 1 0 _ _ (pc' := 1) (L' := [some (.ref a0)]) (st' := [.ref a0]) rfl ?_
  refine e_objI rfl (aw (i := 218) (by decide +kernel) rfl) (aw (i := 83) (by decide +kernel) rfl) (aw (i := 84) (by decide +kernel) rfl) (by decide) (by decide) ?_
  refine e_blk 2 4 _ _ (pc' := 8) (L' := [some (.ref a0)]) (st' := [.int (300 : Int32), .ref a0]) rfl ?_
  refine e_newI 300 rfl (aw (i := 190) (by decide +kernel) rfl) (by decide) rfl (by decide) (by decide) (by decide) (fun w1 hn2 => ?_)
  replace h := h w1 hn2
  generalize hM3 : nO M w1 9 300 = M3
  replace h := h M3 hM3.symm
  have ho4 : ob M3 w1 9 := hM3 ▸ ob_new
  obtain ⟨ho5, h⟩ := h
  refine e_putFA 1 0 (v := some w1) rfl rfl (by decide) (aw (i := 219) (by decide +kernel) rfl) rfl rfl rfl ho5 rfl ?_
  generalize hM6 : sP M3 a0 0 (some w1) = M6
  replace h := h M6 hM6.symm
  replace ho4 : ob M6 w1 9 := hM6 ▸ ob_sP ho4
  replace ho5 : ob M6 a0 1 := hM6 ▸ ob_sP ho5
  refine e_blk 2 13 _ _ (pc' := 17) (L' := [some (.ref a0)]) (st' := [.int (300 : Int32), .ref a0]) rfl ?_
  refine e_newI 300 rfl (aw (i := 190) (by decide +kernel) rfl) (by decide) rfl (by decide) (by decide) (by decide) (fun w7 hn8 => ?_)
  replace h := h w7 hn8
  generalize hM9 : nO M6 w7 9 300 = M9
  replace h := h M9 hM9.symm
  replace ho4 : ob M9 w1 9 := hM9 ▸ ob_nO hn8 ho4
  replace ho5 : ob M9 a0 1 := hM9 ▸ ob_nO hn8 ho5
  have ho10 : ob M9 w7 9 := hM9 ▸ ob_new
  refine e_putFA 1 1 (v := some w7) rfl rfl (by decide) (aw (i := 221) (by decide +kernel) rfl) rfl rfl rfl ho5 rfl ?_
  generalize hM11 : sP M9 a0 1 (some w7) = M11
  replace h := h M11 hM11.symm
  replace ho4 : ob M11 w1 9 := hM11 ▸ ob_sP ho4
  replace ho5 : ob M11 a0 1 := hM11 ▸ ob_sP ho5
  replace ho10 : ob M11 w7 9 := hM11 ▸ ob_sP ho10
  refine e_blk 2 22 _ _ (pc' := 26) (L' := [some (.ref a0)]) (st' := [.int (300 : Int32), .ref a0]) rfl ?_
  refine e_newI 300 rfl (aw (i := 190) (by decide +kernel) rfl) (by decide) rfl (by decide) (by decide) (by decide) (fun w12 hn13 => ?_)
  replace h := h w12 hn13
  generalize hM14 : nO M11 w12 9 300 = M14
  replace h := h M14 hM14.symm
  replace ho4 : ob M14 w1 9 := hM14 ▸ ob_nO hn13 ho4
  replace ho5 : ob M14 a0 1 := hM14 ▸ ob_nO hn13 ho5
  replace ho10 : ob M14 w7 9 := hM14 ▸ ob_nO hn13 ho10
  have ho15 : ob M14 w12 9 := hM14 ▸ ob_new
  refine e_putFA 1 2 (v := some w12) rfl rfl (by decide) (aw (i := 223) (by decide +kernel) rfl) rfl rfl rfl ho5 rfl ?_
  generalize hM16 : sP M14 a0 2 (some w12) = M16
  replace h := h M16 hM16.symm
  replace ho4 : ob M16 w1 9 := hM16 ▸ ob_sP ho4
  replace ho5 : ob M16 a0 1 := hM16 ▸ ob_sP ho5
  replace ho10 : ob M16 w7 9 := hM16 ▸ ob_sP ho10
  replace ho15 : ob M16 w12 9 := hM16 ▸ ob_sP ho15
  refine e_blk 2 31 _ _ (pc' := 35) (L' := [some (.ref a0)]) (st' := [.int (300 : Int32), .ref a0]) rfl ?_
  refine e_newI 300 rfl (aw (i := 190) (by decide +kernel) rfl) (by decide) rfl (by decide) (by decide) (by decide) (fun w17 hn18 => ?_)
  replace h := h w17 hn18
  generalize hM19 : nO M16 w17 9 300 = M19
  replace h := h M19 hM19.symm
  replace ho4 : ob M19 w1 9 := hM19 ▸ ob_nO hn18 ho4
  replace ho5 : ob M19 a0 1 := hM19 ▸ ob_nO hn18 ho5
  replace ho10 : ob M19 w7 9 := hM19 ▸ ob_nO hn18 ho10
  replace ho15 : ob M19 w12 9 := hM19 ▸ ob_nO hn18 ho15
  have ho20 : ob M19 w17 9 := hM19 ▸ ob_new
  refine e_putFA 1 3 (v := some w17) rfl rfl (by decide) (aw (i := 225) (by decide +kernel) rfl) rfl rfl rfl ho5 rfl ?_
  generalize hM21 : sP M19 a0 3 (some w17) = M21
  replace h := h M21 hM21.symm
  replace ho4 : ob M21 w1 9 := hM21 ▸ ob_sP ho4
  replace ho5 : ob M21 a0 1 := hM21 ▸ ob_sP ho5
  replace ho10 : ob M21 w7 9 := hM21 ▸ ob_sP ho10
  replace ho15 : ob M21 w12 9 := hM21 ▸ ob_sP ho15
  replace ho20 : ob M21 w17 9 := hM21 ▸ ob_sP ho20
  exact e_ret rfl rfl (by decide) (by decide) h
def V_X3_init (K : Rs → Mm → Prop) (M : Mm) (a0 : Nat) : Prop := ∀ w1, w1 ∉ mL M → ∀ M3, M3 = nO M w1 0 0 → V_X0_init (kV (fun M5 => (ob M5 a0 3 ∧ ∀ M7, M7 = sP M5 a0 0 (some w1) → ∀ w8, w8 ∉ mL M7 → ∀ M10, M10 = nO M7 w8 10 5 → ∀ M12, M12 = sP M10 a0 1 (some w8) → ∀ w13, w13 ∉ mL M12 → ∀ M15, M15 = nO M12 w13 10 5 → ∀ M17, M17 = sP M15 a0 2 (some w13) → K (.inl none) M17)) (fun _ _ => False)) M3 w1
set_option maxRecDepth 100000 in
set_option maxHeartbeats 4000000 in
theorem x_X3_init {G : Gx} {K : Rs → Mm → Prop} {M : Mm} {a0 : Nat} (h : V_X3_init K M a0) : MC G mi_X3_init [.ref a0] M K := by
  unfold V_X3_init at h
  refine mc_of rfl (by decide +kernel) dc_X3_init (Nat.le_of_ble_eq_true rfl) 0 (Nat.le_of_ble_eq_true rfl) ?_
  show E G mi_X3_init K M 0 0 0 [some (.ref a0)] []
  refine e_blk 1 0 _ _ (pc' := 1) (L' := [some (.ref a0)]) (st' := [.ref a0]) rfl ?_
  refine e_objI rfl (aw (i := 136) (by decide +kernel) rfl) (aw (i := 83) (by decide +kernel) rfl) (aw (i := 84) (by decide +kernel) rfl) (by decide) (by decide) ?_
  refine e_blk 1 4 _ _ (pc' := 5) (L' := [some (.ref a0)]) (st' := [.ref a0]) rfl ?_
  refine e_new 0 rfl rfl (aw (i := 137) (by decide +kernel) rfl) (aw (i := 86) (by decide +kernel) rfl) (aw (i := 58) (by decide +kernel) rfl) (by decide) (by decide) (fun w1 hn2 => ?_)
  replace h := h w1 hn2
  generalize hM3 : nO M w1 0 0 = M3
  replace h := h M3 hM3.symm
  have ho4 : ob M3 w1 0 := hM3 ▸ ob_new
  refine e_blk 1 8 _ _ (pc' := 9) (L' := [some (.ref a0)]) (st' := [.ref w1, .ref w1, .ref a0]) rfl ?_
  refine e_callIN (As := []) (rest := [.ref w1, .ref a0]) (host := "CalendarOrders") rfl (x_X0_init h) (fun X M9 hq => hq) rfl rfl rfl (ao (i := 138) (by decide +kernel) rfl) wn_X0_init wi_X0_init wc_X0_init (show cok mi_X3_init mi_X0_init 1 6 0 = true by decide +kernel) (Nat.le_of_ble_eq_true rfl) (fun v9 M5 hq => ?_)
  obtain ⟨rfl, h⟩ := kV_l hq
  obtain ⟨ho6, h⟩ := h
  refine e_putFP 3 0 (v := some w1) rfl rfl (by decide) (aw (i := 139) (by decide +kernel) rfl) rfl rfl rfl ho6 rfl ?_
  generalize hM7 : sP M5 a0 0 (some w1) = M7
  replace h := h M7 hM7.symm
  replace ho6 : ob M7 a0 3 := hM7 ▸ ob_sP ho6
  refine e_blk 2 15 _ _ (pc' := 17) (L' := [some (.ref a0)]) (st' := [.int (5 : Int32), .ref a0]) rfl ?_
  refine e_newJ 5 rfl (aw (i := 191) (by decide +kernel) rfl) (by decide) rfl (by decide) (by decide) (by decide) (fun w8 hn9 => ?_)
  replace h := h w8 hn9
  generalize hM10 : nO M7 w8 10 5 = M10
  replace h := h M10 hM10.symm
  replace ho6 : ob M10 a0 3 := hM10 ▸ ob_nO hn9 ho6
  have ho11 : ob M10 w8 10 := hM10 ▸ ob_new
  refine e_putFA 3 1 (v := some w8) rfl rfl (by decide) (aw (i := 141) (by decide +kernel) rfl) rfl rfl rfl ho6 rfl ?_
  generalize hM12 : sP M10 a0 1 (some w8) = M12
  replace h := h M12 hM12.symm
  replace ho6 : ob M12 a0 3 := hM12 ▸ ob_sP ho6
  replace ho11 : ob M12 w8 10 := hM12 ▸ ob_sP ho11
  refine e_blk 2 22 _ _ (pc' := 24) (L' := [some (.ref a0)]) (st' := [.int (5 : Int32), .ref a0]) rfl ?_
  refine e_newJ 5 rfl (aw (i := 191) (by decide +kernel) rfl) (by decide) rfl (by decide) (by decide) (by decide) (fun w13 hn14 => ?_)
  replace h := h w13 hn14
  generalize hM15 : nO M12 w13 10 5 = M15
  replace h := h M15 hM15.symm
  replace ho6 : ob M15 a0 3 := hM15 ▸ ob_nO hn14 ho6
  replace ho11 : ob M15 w8 10 := hM15 ▸ ob_nO hn14 ho11
  have ho16 : ob M15 w13 10 := hM15 ▸ ob_new
  refine e_putFA 3 2 (v := some w13) rfl rfl (by decide) (aw (i := 143) (by decide +kernel) rfl) rfl rfl rfl ho6 rfl ?_
  generalize hM17 : sP M15 a0 2 (some w13) = M17
  replace h := h M17 hM17.symm
  replace ho6 : ob M17 a0 3 := hM17 ▸ ob_sP ho6
  replace ho11 : ob M17 w8 10 := hM17 ▸ ob_sP ho11
  replace ho16 : ob M17 w13 10 := hM17 ▸ ob_sP ho16
  exact e_ret rfl rfl (by decide) (by decide) h
def V_X5_init (K : Rs → Mm → Prop) (M : Mm) (a0 : Nat) : Prop := ∀ w1, w1 ∉ mL M → ∀ M3, M3 = nO M w1 9 21 → (ob M3 a0 5 ∧ ∀ M6, M6 = sP M3 a0 0 (some w1) → ∀ w7, w7 ∉ mL M6 → ∀ M9, M9 = nO M6 w7 9 21 → ∀ M11, M11 = sP M9 a0 1 (some w7) → K (.inl none) M11)
set_option maxRecDepth 100000 in
set_option maxHeartbeats 4000000 in
theorem x_X5_init {G : Gx} {K : Rs → Mm → Prop} {M : Mm} {a0 : Nat} (h : V_X5_init K M a0) : MC G mi_X5_init [.ref a0] M K := by
  unfold V_X5_init at h
  refine mc_of rfl (by decide +kernel) dc_X5_init (Nat.le_of_ble_eq_true rfl) 0 (Nat.le_of_ble_eq_true rfl) ?_
  show E G mi_X5_init K M 0 0 0 [some (.ref a0)] []
  refine e_blk 1 0 _ _ (pc' := 1) (L' := [some (.ref a0)]) (st' := [.ref a0]) rfl ?_
  refine e_objI rfl (aw (i := 244) (by decide +kernel) rfl) (aw (i := 83) (by decide +kernel) rfl) (aw (i := 84) (by decide +kernel) rfl) (by decide) (by decide) ?_
  refine e_blk 2 4 _ _ (pc' := 7) (L' := [some (.ref a0)]) (st' := [.int (21 : Int32), .ref a0]) rfl ?_
  refine e_newI 21 rfl (aw (i := 190) (by decide +kernel) rfl) (by decide) rfl (by decide) (by decide) (by decide) (fun w1 hn2 => ?_)
  replace h := h w1 hn2
  generalize hM3 : nO M w1 9 21 = M3
  replace h := h M3 hM3.symm
  have ho4 : ob M3 w1 9 := hM3 ▸ ob_new
  obtain ⟨ho5, h⟩ := h
  refine e_putFA 5 0 (v := some w1) rfl rfl (by decide) (aw (i := 245) (by decide +kernel) rfl) rfl rfl rfl ho5 rfl ?_
  generalize hM6 : sP M3 a0 0 (some w1) = M6
  replace h := h M6 hM6.symm
  replace ho4 : ob M6 w1 9 := hM6 ▸ ob_sP ho4
  replace ho5 : ob M6 a0 5 := hM6 ▸ ob_sP ho5
  refine e_blk 2 12 _ _ (pc' := 15) (L' := [some (.ref a0)]) (st' := [.int (21 : Int32), .ref a0]) rfl ?_
  refine e_newI 21 rfl (aw (i := 190) (by decide +kernel) rfl) (by decide) rfl (by decide) (by decide) (by decide) (fun w7 hn8 => ?_)
  replace h := h w7 hn8
  generalize hM9 : nO M6 w7 9 21 = M9
  replace h := h M9 hM9.symm
  replace ho4 : ob M9 w1 9 := hM9 ▸ ob_nO hn8 ho4
  replace ho5 : ob M9 a0 5 := hM9 ▸ ob_nO hn8 ho5
  have ho10 : ob M9 w7 9 := hM9 ▸ ob_new
  refine e_putFA 5 1 (v := some w7) rfl rfl (by decide) (aw (i := 247) (by decide +kernel) rfl) rfl rfl rfl ho5 rfl ?_
  generalize hM11 : sP M9 a0 1 (some w7) = M11
  replace h := h M11 hM11.symm
  replace ho4 : ob M11 w1 9 := hM11 ▸ ob_sP ho4
  replace ho5 : ob M11 a0 5 := hM11 ▸ ob_sP ho5
  replace ho10 : ob M11 w7 9 := hM11 ▸ ob_sP ho10
  exact e_ret rfl rfl (by decide) (by decide) h
def V_X2_init (K : Rs → Mm → Prop) (M : Mm) (a0 : Nat) (a1 : Int32) : Prop := ∀ w1, w1 ∉ mL M → ∀ M3, M3 = nO M w1 3 0 → V_X3_init (kV (fun M5 => (ob M5 a0 2 ∧ ∀ M7, M7 = sP M5 a0 1 (some w1) → ∀ w8, w8 ∉ mL M7 → ∀ M10, M10 = nO M7 w8 9 8 → ∀ M12, M12 = sP M10 a0 2 (some w8) → ∀ w13, w13 ∉ mL M12 → ∀ M15, M15 = nO M12 w13 9 8 → ∀ M17, M17 = sP M15 a0 3 (some w13) → ∀ w18, w18 ∉ mL M17 → ∀ M20, M20 = nO M17 w18 5 0 → V_X5_init (kV (fun M22 => (ob M22 a0 2 ∧ ∀ M24, M24 = sP M22 a0 5 (some w18) → ∀ M25, M25 = sI M24 a0 0 a1 → K (.inl none) M25)) (fun _ _ => False)) M20 w18)) (fun _ _ => False)) M3 w1
set_option maxRecDepth 100000 in
set_option maxHeartbeats 4000000 in
theorem x_X2_init {G : Gx} {K : Rs → Mm → Prop} {M : Mm} {a0 : Nat} {a1 : Int32} (h : V_X2_init K M a0 a1) : MC G mi_X2_init [.ref a0, .int a1] M K := by
  unfold V_X2_init at h
  refine mc_of rfl (by decide +kernel) dc_X2_init (Nat.le_of_ble_eq_true rfl) 0 (Nat.le_of_ble_eq_true rfl) ?_
  show E G mi_X2_init K M 0 0 0 [some (.ref a0), some (.int a1)] []
  refine e_blk 1 0 _ _ (pc' := 1) (L' := [some (.ref a0), some (.int a1)]) (st' := [.ref a0]) rfl ?_
  refine e_objI rfl (aw (i := 263) (by decide +kernel) rfl) (aw (i := 83) (by decide +kernel) rfl) (aw (i := 84) (by decide +kernel) rfl) (by decide) (by decide) ?_
  refine e_blk 1 4 _ _ (pc' := 5) (L' := [some (.ref a0), some (.int a1)]) (st' := [.ref a0]) rfl ?_
  refine e_new 3 rfl rfl (aw (i := 264) (by decide +kernel) rfl) (aw (i := 132) (by decide +kernel) rfl) (aw (i := 60) (by decide +kernel) rfl) (by decide) (by decide) (fun w1 hn2 => ?_)
  replace h := h w1 hn2
  generalize hM3 : nO M w1 3 0 = M3
  replace h := h M3 hM3.symm
  have ho4 : ob M3 w1 3 := hM3 ▸ ob_new
  refine e_blk 1 8 _ _ (pc' := 9) (L' := [some (.ref a0), some (.int a1)]) (st' := [.ref w1, .ref w1, .ref a0]) rfl ?_
  refine e_callIN (As := []) (rest := [.ref w1, .ref a0]) (host := "CalendarOrders") rfl (x_X3_init h) (fun X M9 hq => hq) rfl rfl rfl (ao (i := 265) (by decide +kernel) rfl) wn_X3_init wi_X3_init wc_X3_init (show cok mi_X2_init mi_X3_init 1 13 0 = true by decide +kernel) (Nat.le_of_ble_eq_true rfl) (fun v9 M5 hq => ?_)
  obtain ⟨rfl, h⟩ := kV_l hq
  obtain ⟨ho6, h⟩ := h
  refine e_putFP 2 1 (v := some w1) rfl rfl (by decide) (aw (i := 270) (by decide +kernel) rfl) rfl rfl rfl ho6 rfl ?_
  generalize hM7 : sP M5 a0 1 (some w1) = M7
  replace h := h M7 hM7.symm
  replace ho6 : ob M7 a0 2 := hM7 ▸ ob_sP ho6
  refine e_blk 2 15 _ _ (pc' := 18) (L' := [some (.ref a0), some (.int a1)]) (st' := [.int (8 : Int32), .ref a0]) rfl ?_
  refine e_newI 8 rfl (aw (i := 190) (by decide +kernel) rfl) (by decide) rfl (by decide) (by decide) (by decide) (fun w8 hn9 => ?_)
  replace h := h w8 hn9
  generalize hM10 : nO M7 w8 9 8 = M10
  replace h := h M10 hM10.symm
  replace ho6 : ob M10 a0 2 := hM10 ▸ ob_nO hn9 ho6
  have ho11 : ob M10 w8 9 := hM10 ▸ ob_new
  refine e_putFA 2 2 (v := some w8) rfl rfl (by decide) (aw (i := 272) (by decide +kernel) rfl) rfl rfl rfl ho6 rfl ?_
  generalize hM12 : sP M10 a0 2 (some w8) = M12
  replace h := h M12 hM12.symm
  replace ho6 : ob M12 a0 2 := hM12 ▸ ob_sP ho6
  replace ho11 : ob M12 w8 9 := hM12 ▸ ob_sP ho11
  refine e_blk 2 23 _ _ (pc' := 26) (L' := [some (.ref a0), some (.int a1)]) (st' := [.int (8 : Int32), .ref a0]) rfl ?_
  refine e_newI 8 rfl (aw (i := 190) (by decide +kernel) rfl) (by decide) rfl (by decide) (by decide) (by decide) (fun w13 hn14 => ?_)
  replace h := h w13 hn14
  generalize hM15 : nO M12 w13 9 8 = M15
  replace h := h M15 hM15.symm
  replace ho6 : ob M15 a0 2 := hM15 ▸ ob_nO hn14 ho6
  replace ho11 : ob M15 w8 9 := hM15 ▸ ob_nO hn14 ho11
  have ho16 : ob M15 w13 9 := hM15 ▸ ob_new
  refine e_putFA 2 3 (v := some w13) rfl rfl (by decide) (aw (i := 273) (by decide +kernel) rfl) rfl rfl rfl ho6 rfl ?_
  generalize hM17 : sP M15 a0 3 (some w13) = M17
  replace h := h M17 hM17.symm
  replace ho6 : ob M17 a0 2 := hM17 ▸ ob_sP ho6
  replace ho11 : ob M17 w8 9 := hM17 ▸ ob_sP ho11
  replace ho16 : ob M17 w13 9 := hM17 ▸ ob_sP ho16
  refine e_blk 1 31 _ _ (pc' := 32) (L' := [some (.ref a0), some (.int a1)]) (st' := [.ref a0]) rfl ?_
  refine e_new 5 rfl rfl (aw (i := 266) (by decide +kernel) rfl) (aw (i := 240) (by decide +kernel) rfl) (aw (i := 62) (by decide +kernel) rfl) (by decide) (by decide) (fun w18 hn19 => ?_)
  replace h := h w18 hn19
  generalize hM20 : nO M17 w18 5 0 = M20
  replace h := h M20 hM20.symm
  replace ho6 : ob M20 a0 2 := hM20 ▸ ob_nO hn19 ho6
  replace ho11 : ob M20 w8 9 := hM20 ▸ ob_nO hn19 ho11
  replace ho16 : ob M20 w13 9 := hM20 ▸ ob_nO hn19 ho16
  have ho21 : ob M20 w18 5 := hM20 ▸ ob_new
  refine e_blk 1 35 _ _ (pc' := 36) (L' := [some (.ref a0), some (.int a1)]) (st' := [.ref w18, .ref w18, .ref a0]) rfl ?_
  refine e_callIN (As := []) (rest := [.ref w18, .ref a0]) (host := "CalendarOrders") rfl (x_X5_init h) (fun X M9 hq => hq) rfl rfl rfl (ao (i := 267) (by decide +kernel) rfl) wn_X5_init wi_X5_init wc_X5_init (show cok mi_X2_init mi_X5_init 7 48 0 = true by decide +kernel) (Nat.le_of_ble_eq_true rfl) (fun v9 M22 hq => ?_)
  obtain ⟨rfl, h⟩ := kV_l hq
  obtain ⟨ho23, h⟩ := h
  refine e_putR 2 5 rfl rfl (by decide) (aw (i := 277) (by decide +kernel) rfl) rfl ho23 rfl ?_
  generalize hM24 : sP M22 a0 5 (some w18) = M24
  replace h := h M24 hM24.symm
  replace ho23 : ob M24 a0 2 := hM24 ▸ ob_sP ho23
  refine e_blk 2 42 _ _ (pc' := 44) (L' := [some (.ref a0), some (.int a1)]) (st' := [.int a1, .ref a0]) rfl ?_
  refine e_putFI 2 0 rfl rfl (by decide) (aw (i := 268) (by decide +kernel) rfl) rfl rfl rfl ho23 rfl ?_
  generalize hM25 : sI M24 a0 0 a1 = M25
  replace h := h M25 hM25.symm
  replace ho23 : ob M25 a0 2 := hM25 ▸ ob_sI ho23
  exact e_ret rfl rfl (by decide) (by decide) h
def V_X4_init (K : Rs → Mm → Prop) (M : Mm) (a0 : Nat) : Prop := ∀ w1, w1 ∉ mL M → ∀ M3, M3 = nO M w1 9 160 → (ob M3 a0 4 ∧ ∀ M6, M6 = sP M3 a0 0 (some w1) → ∀ w7, w7 ∉ mL M6 → ∀ M9, M9 = nO M6 w7 3 0 → V_X3_init (kV (fun M11 => (ob M11 a0 4 ∧ ∀ M13, M13 = sP M11 a0 5 (some w7) → K (.inl none) M13)) (fun _ _ => False)) M9 w7)
set_option maxRecDepth 100000 in
set_option maxHeartbeats 4000000 in
theorem x_X4_init {G : Gx} {K : Rs → Mm → Prop} {M : Mm} {a0 : Nat} (h : V_X4_init K M a0) : MC G mi_X4_init [.ref a0] M K := by
  unfold V_X4_init at h
  refine mc_of rfl (by decide +kernel) dc_X4_init (Nat.le_of_ble_eq_true rfl) 0 (Nat.le_of_ble_eq_true rfl) ?_
  show E G mi_X4_init K M 0 0 0 [some (.ref a0)] []
  refine e_blk 1 0 _ _ (pc' := 1) (L' := [some (.ref a0)]) (st' := [.ref a0]) rfl ?_
  refine e_objI rfl (aw (i := 130) (by decide +kernel) rfl) (aw (i := 83) (by decide +kernel) rfl) (aw (i := 84) (by decide +kernel) rfl) (by decide) (by decide) ?_
  refine e_blk 2 4 _ _ (pc' := 8) (L' := [some (.ref a0)]) (st' := [.int (160 : Int32), .ref a0]) rfl ?_
  refine e_newI 160 rfl (aw (i := 190) (by decide +kernel) rfl) (by decide) rfl (by decide) (by decide) (by decide) (fun w1 hn2 => ?_)
  replace h := h w1 hn2
  generalize hM3 : nO M w1 9 160 = M3
  replace h := h M3 hM3.symm
  have ho4 : ob M3 w1 9 := hM3 ▸ ob_new
  obtain ⟨ho5, h⟩ := h
  refine e_putFA 4 0 (v := some w1) rfl rfl (by decide) (aw (i := 192) (by decide +kernel) rfl) rfl rfl rfl ho5 rfl ?_
  generalize hM6 : sP M3 a0 0 (some w1) = M6
  replace h := h M6 hM6.symm
  replace ho4 : ob M6 w1 9 := hM6 ▸ ob_sP ho4
  replace ho5 : ob M6 a0 4 := hM6 ▸ ob_sP ho5
  refine e_blk 1 13 _ _ (pc' := 14) (L' := [some (.ref a0)]) (st' := [.ref a0]) rfl ?_
  refine e_new 3 rfl rfl (aw (i := 131) (by decide +kernel) rfl) (aw (i := 132) (by decide +kernel) rfl) (aw (i := 60) (by decide +kernel) rfl) (by decide) (by decide) (fun w7 hn8 => ?_)
  replace h := h w7 hn8
  generalize hM9 : nO M6 w7 3 0 = M9
  replace h := h M9 hM9.symm
  replace ho4 : ob M9 w1 9 := hM9 ▸ ob_nO hn8 ho4
  replace ho5 : ob M9 a0 4 := hM9 ▸ ob_nO hn8 ho5
  have ho10 : ob M9 w7 3 := hM9 ▸ ob_new
  refine e_blk 1 17 _ _ (pc' := 18) (L' := [some (.ref a0)]) (st' := [.ref w7, .ref w7, .ref a0]) rfl ?_
  refine e_callIN (As := []) (rest := [.ref w7, .ref a0]) (host := "CalendarOrders") rfl (x_X3_init h) (fun X M9 hq => hq) rfl rfl rfl (ao (i := 133) (by decide +kernel) rfl) wn_X3_init wi_X3_init wc_X3_init (show cok mi_X4_init mi_X3_init 2 173 0 = true by decide +kernel) (Nat.le_of_ble_eq_true rfl) (fun v9 M11 hq => ?_)
  obtain ⟨rfl, h⟩ := kV_l hq
  obtain ⟨ho12, h⟩ := h
  refine e_putR 4 5 rfl rfl (by decide) (aw (i := 199) (by decide +kernel) rfl) rfl ho12 rfl ?_
  generalize hM13 : sP M11 a0 5 (some w7) = M13
  replace h := h M13 hM13.symm
  replace ho12 : ob M13 a0 4 := hM13 ▸ ob_sP ho12
  exact e_ret rfl rfl (by decide) (by decide) h
def V_X6_init (K : Rs → Mm → Prop) (M : Mm) (a0 : Nat) : Prop := ∀ w1, w1 ∉ mL M → ∀ M3, M3 = nO M w1 0 0 → V_X0_init (kV (fun M5 => (ob M5 a0 6 ∧ ∀ M7, M7 = sP M5 a0 0 (some w1) → ∀ w8, w8 ∉ mL M7 → ∀ M10, M10 = nO M7 w8 13 4 → ∀ M12, M12 = sP M10 a0 1 (some w8) → ∀ w13, w13 ∉ mL M12 → ∀ M15, M15 = nO M12 w13 12 12 → ∀ M17, M17 = sP M15 a0 2 (some w13) → ∀ w18, w18 ∉ mL M17 → ∀ M20, M20 = nO M17 w18 4 0 → V_X4_init (kV (fun M22 => (ob M22 a0 6 ∧ ∀ M24, M24 = sP M22 a0 3 (some w18) → ∀ w25, w25 ∉ mL M24 → ∀ M27, M27 = nO M24 w25 1 0 → V_X1_init (kV (fun M29 => (ob M29 a0 6 ∧ ∀ M31, M31 = sP M29 a0 4 (some w25) → ∀ M32, M32 = sI M31 a0 8 (1 : Int32) → ∃ b33, mP M32 a0 1 = some b33 ∧ ∀ w34, w34 ∉ mL M32 → ∀ M36, M36 = nO M32 w34 5 0 → V_X5_init (kV (fun M38 => (ob M38 b33 13 ∧ (ob M38 w34 5 ∧ (vp_in (0 : Int32) (mN M38 b33) ∧ ∀ M42, M42 = sP M38 b33 ((0 : Int32)).toNatClampNeg (some w34) → (ob M42 a0 6 ∧ ∃ b44, mP M42 a0 1 = some b44 ∧ ∀ w45, w45 ∉ mL M42 → ∀ M47, M47 = nO M42 w45 5 0 → V_X5_init (kV (fun M49 => (ob M49 b44 13 ∧ (ob M49 w45 5 ∧ (vp_in (1 : Int32) (mN M49 b44) ∧ ∀ M53, M53 = sP M49 b44 ((1 : Int32)).toNatClampNeg (some w45) → (ob M53 a0 6 ∧ ∃ b55, mP M53 a0 1 = some b55 ∧ ∀ w56, w56 ∉ mL M53 → ∀ M58, M58 = nO M53 w56 5 0 → V_X5_init (kV (fun M60 => (ob M60 b55 13 ∧ (ob M60 w56 5 ∧ (vp_in (2 : Int32) (mN M60 b55) ∧ ∀ M64, M64 = sP M60 b55 ((2 : Int32)).toNatClampNeg (some w56) → (ob M64 a0 6 ∧ ∃ b66, mP M64 a0 1 = some b66 ∧ ∀ w67, w67 ∉ mL M64 → ∀ M69, M69 = nO M64 w67 5 0 → V_X5_init (kV (fun M71 => (ob M71 b66 13 ∧ (ob M71 w67 5 ∧ (vp_in (3 : Int32) (mN M71 b66) ∧ ∀ M75, M75 = sP M71 b66 ((3 : Int32)).toNatClampNeg (some w67) → (ob M75 a0 6 ∧ ∃ b77, mP M75 a0 2 = some b77 ∧ ∀ w78, w78 ∉ mL M75 → ∀ M80, M80 = nO M75 w78 2 0 → V_X2_init (kV (fun M82 => (ob M82 b77 12 ∧ (ob M82 w78 2 ∧ (vp_in (0 : Int32) (mN M82 b77) ∧ ∀ M86, M86 = sP M82 b77 ((0 : Int32)).toNatClampNeg (some w78) → (ob M86 a0 6 ∧ ∃ b88, mP M86 a0 2 = some b88 ∧ ∀ w89, w89 ∉ mL M86 → ∀ M91, M91 = nO M86 w89 2 0 → V_X2_init (kV (fun M93 => (ob M93 b88 12 ∧ (ob M93 w89 2 ∧ (vp_in (1 : Int32) (mN M93 b88) ∧ ∀ M97, M97 = sP M93 b88 ((1 : Int32)).toNatClampNeg (some w89) → (ob M97 a0 6 ∧ ∃ b99, mP M97 a0 2 = some b99 ∧ ∀ w100, w100 ∉ mL M97 → ∀ M102, M102 = nO M97 w100 2 0 → V_X2_init (kV (fun M104 => (ob M104 b99 12 ∧ (ob M104 w100 2 ∧ (vp_in (2 : Int32) (mN M104 b99) ∧ ∀ M108, M108 = sP M104 b99 ((2 : Int32)).toNatClampNeg (some w100) → (ob M108 a0 6 ∧ ∃ b110, mP M108 a0 2 = some b110 ∧ ∀ w111, w111 ∉ mL M108 → ∀ M113, M113 = nO M108 w111 2 0 → V_X2_init (kV (fun M115 => (ob M115 b110 12 ∧ (ob M115 w111 2 ∧ (vp_in (3 : Int32) (mN M115 b110) ∧ ∀ M119, M119 = sP M115 b110 ((3 : Int32)).toNatClampNeg (some w111) → (ob M119 a0 6 ∧ ∃ b121, mP M119 a0 2 = some b121 ∧ ∀ w122, w122 ∉ mL M119 → ∀ M124, M124 = nO M119 w122 2 0 → V_X2_init (kV (fun M126 => (ob M126 b121 12 ∧ (ob M126 w122 2 ∧ (vp_in (4 : Int32) (mN M126 b121) ∧ ∀ M130, M130 = sP M126 b121 ((4 : Int32)).toNatClampNeg (some w122) → (ob M130 a0 6 ∧ ∃ b132, mP M130 a0 2 = some b132 ∧ ∀ w133, w133 ∉ mL M130 → ∀ M135, M135 = nO M130 w133 2 0 → V_X2_init (kV (fun M137 => (ob M137 b132 12 ∧ (ob M137 w133 2 ∧ (vp_in (5 : Int32) (mN M137 b132) ∧ ∀ M141, M141 = sP M137 b132 ((5 : Int32)).toNatClampNeg (some w133) → (ob M141 a0 6 ∧ ∃ b143, mP M141 a0 2 = some b143 ∧ ∀ w144, w144 ∉ mL M141 → ∀ M146, M146 = nO M141 w144 2 0 → V_X2_init (kV (fun M148 => (ob M148 b143 12 ∧ (ob M148 w144 2 ∧ (vp_in (6 : Int32) (mN M148 b143) ∧ ∀ M152, M152 = sP M148 b143 ((6 : Int32)).toNatClampNeg (some w144) → (ob M152 a0 6 ∧ ∃ b154, mP M152 a0 2 = some b154 ∧ ∀ w155, w155 ∉ mL M152 → ∀ M157, M157 = nO M152 w155 2 0 → V_X2_init (kV (fun M159 => (ob M159 b154 12 ∧ (ob M159 w155 2 ∧ (vp_in (7 : Int32) (mN M159 b154) ∧ ∀ M163, M163 = sP M159 b154 ((7 : Int32)).toNatClampNeg (some w155) → (ob M163 a0 6 ∧ ∃ b165, mP M163 a0 2 = some b165 ∧ ∀ w166, w166 ∉ mL M163 → ∀ M168, M168 = nO M163 w166 2 0 → V_X2_init (kV (fun M170 => (ob M170 b165 12 ∧ (ob M170 w166 2 ∧ (vp_in (8 : Int32) (mN M170 b165) ∧ ∀ M174, M174 = sP M170 b165 ((8 : Int32)).toNatClampNeg (some w166) → (ob M174 a0 6 ∧ ∃ b176, mP M174 a0 2 = some b176 ∧ ∀ w177, w177 ∉ mL M174 → ∀ M179, M179 = nO M174 w177 2 0 → V_X2_init (kV (fun M181 => (ob M181 b176 12 ∧ (ob M181 w177 2 ∧ (vp_in (9 : Int32) (mN M181 b176) ∧ ∀ M185, M185 = sP M181 b176 ((9 : Int32)).toNatClampNeg (some w177) → (ob M185 a0 6 ∧ ∃ b187, mP M185 a0 2 = some b187 ∧ ∀ w188, w188 ∉ mL M185 → ∀ M190, M190 = nO M185 w188 2 0 → V_X2_init (kV (fun M192 => (ob M192 b187 12 ∧ (ob M192 w188 2 ∧ (vp_in (10 : Int32) (mN M192 b187) ∧ ∀ M196, M196 = sP M192 b187 ((10 : Int32)).toNatClampNeg (some w188) → (ob M196 a0 6 ∧ ∃ b198, mP M196 a0 2 = some b198 ∧ ∀ w199, w199 ∉ mL M196 → ∀ M201, M201 = nO M196 w199 2 0 → V_X2_init (kV (fun M203 => (ob M203 b198 12 ∧ (ob M203 w199 2 ∧ (vp_in (11 : Int32) (mN M203 b198) ∧ ∀ M207, M207 = sP M203 b198 ((11 : Int32)).toNatClampNeg (some w199) → K (.inl none) M207)))) (fun _ _ => False)) M201 w199 (11 : Int32)))))) (fun _ _ => False)) M190 w188 (10 : Int32)))))) (fun _ _ => False)) M179 w177 (9 : Int32)))))) (fun _ _ => False)) M168 w166 (8 : Int32)))))) (fun _ _ => False)) M157 w155 (7 : Int32)))))) (fun _ _ => False)) M146 w144 (6 : Int32)))))) (fun _ _ => False)) M135 w133 (5 : Int32)))))) (fun _ _ => False)) M124 w122 (4 : Int32)))))) (fun _ _ => False)) M113 w111 (3 : Int32)))))) (fun _ _ => False)) M102 w100 (2 : Int32)))))) (fun _ _ => False)) M91 w89 (1 : Int32)))))) (fun _ _ => False)) M80 w78 (0 : Int32)))))) (fun _ _ => False)) M69 w67))))) (fun _ _ => False)) M58 w56))))) (fun _ _ => False)) M47 w45))))) (fun _ _ => False)) M36 w34)) (fun _ _ => False)) M27 w25)) (fun _ _ => False)) M20 w18)) (fun _ _ => False)) M3 w1
set_option maxRecDepth 100000 in
set_option maxHeartbeats 4000000 in
theorem x_X6_init {G : Gx} {K : Rs → Mm → Prop} {M : Mm} {a0 : Nat} (h : V_X6_init K M a0) : MC G mi_X6_init [.ref a0] M K := by
  unfold V_X6_init at h
  refine mc_of rfl (by decide +kernel) dc_X6_init (Nat.le_of_ble_eq_true rfl) 1 (Nat.le_of_ble_eq_true rfl) ?_
  show E G mi_X6_init K M 0 0 0 [some (.ref a0), none] []
  refine e_blk 1 0 _ _ (pc' := 1) (L' := [some (.ref a0), none]) (st' := [.ref a0]) rfl ?_
  refine e_objI rfl (aw (i := 82) (by decide +kernel) rfl) (aw (i := 83) (by decide +kernel) rfl) (aw (i := 84) (by decide +kernel) rfl) (by decide) (by decide) ?_
  refine e_blk 1 4 _ _ (pc' := 5) (L' := [some (.ref a0), none]) (st' := [.ref a0]) rfl ?_
  refine e_new 0 rfl rfl (aw (i := 85) (by decide +kernel) rfl) (aw (i := 86) (by decide +kernel) rfl) (aw (i := 58) (by decide +kernel) rfl) (by decide) (by decide) (fun w1 hn2 => ?_)
  replace h := h w1 hn2
  generalize hM3 : nO M w1 0 0 = M3
  replace h := h M3 hM3.symm
  have ho4 : ob M3 w1 0 := hM3 ▸ ob_new
  refine e_blk 1 8 _ _ (pc' := 9) (L' := [some (.ref a0), none]) (st' := [.ref w1, .ref w1, .ref a0]) rfl ?_
  refine e_callIN (As := []) (rest := [.ref w1, .ref a0]) (host := "CalendarOrders") rfl (x_X0_init h) (fun X M9 hq => hq) rfl rfl rfl (ao (i := 87) (by decide +kernel) rfl) wn_X0_init wi_X0_init wc_X0_init (show cok mi_X6_init mi_X0_init 1 6 0 = true by decide +kernel) (Nat.le_of_ble_eq_true rfl) (fun v9 M5 hq => ?_)
  obtain ⟨rfl, h⟩ := kV_l hq
  obtain ⟨ho6, h⟩ := h
  refine e_putFP 6 0 (v := some w1) rfl rfl (by decide) (aw (i := 333) (by decide +kernel) rfl) rfl rfl rfl ho6 rfl ?_
  generalize hM7 : sP M5 a0 0 (some w1) = M7
  replace h := h M7 hM7.symm
  replace ho6 : ob M7 a0 6 := hM7 ▸ ob_sP ho6
  refine e_blk 2 15 _ _ (pc' := 17) (L' := [some (.ref a0), none]) (st' := [.int (4 : Int32), .ref a0]) rfl ?_
  refine e_newQ 13 5 4 rfl (aw (i := 121) (by decide +kernel) rfl) (fun s hs => hs.2.2.2.2.2.2.2.2.2.1) (by decide) rfl (by decide) rfl (by decide) (by decide) (by decide) (fun w8 hn9 => ?_)
  replace h := h w8 hn9
  generalize hM10 : nO M7 w8 13 4 = M10
  replace h := h M10 hM10.symm
  replace ho6 : ob M10 a0 6 := hM10 ▸ ob_nO hn9 ho6
  have ho11 : ob M10 w8 13 := hM10 ▸ ob_new
  refine e_putFA 6 1 (v := some w8) rfl rfl (by decide) (aw (i := 334) (by decide +kernel) rfl) rfl rfl rfl ho6 rfl ?_
  generalize hM12 : sP M10 a0 1 (some w8) = M12
  replace h := h M12 hM12.symm
  replace ho6 : ob M12 a0 6 := hM12 ▸ ob_sP ho6
  replace ho11 : ob M12 w8 13 := hM12 ▸ ob_sP ho11
  refine e_blk 2 23 _ _ (pc' := 26) (L' := [some (.ref a0), none]) (st' := [.int (12 : Int32), .ref a0]) rfl ?_
  refine e_newQ 12 4 12 rfl (aw (i := 123) (by decide +kernel) rfl) (fun s hs => hs.2.2.2.2.2.2.2.2.2.2.1) (by decide) rfl (by decide) rfl (by decide) (by decide) (by decide) (fun w13 hn14 => ?_)
  replace h := h w13 hn14
  generalize hM15 : nO M12 w13 12 12 = M15
  replace h := h M15 hM15.symm
  replace ho6 : ob M15 a0 6 := hM15 ▸ ob_nO hn14 ho6
  replace ho11 : ob M15 w8 13 := hM15 ▸ ob_nO hn14 ho11
  have ho16 : ob M15 w13 12 := hM15 ▸ ob_new
  refine e_putFA 6 2 (v := some w13) rfl rfl (by decide) (aw (i := 335) (by decide +kernel) rfl) rfl rfl rfl ho6 rfl ?_
  generalize hM17 : sP M15 a0 2 (some w13) = M17
  replace h := h M17 hM17.symm
  replace ho6 : ob M17 a0 6 := hM17 ▸ ob_sP ho6
  replace ho11 : ob M17 w8 13 := hM17 ▸ ob_sP ho11
  replace ho16 : ob M17 w13 12 := hM17 ▸ ob_sP ho16
  refine e_blk 1 32 _ _ (pc' := 33) (L' := [some (.ref a0), none]) (st' := [.ref a0]) rfl ?_
  refine e_new 4 rfl rfl (aw (i := 125) (by decide +kernel) rfl) (aw (i := 126) (by decide +kernel) rfl) (aw (i := 59) (by decide +kernel) rfl) (by decide) (by decide) (fun w18 hn19 => ?_)
  replace h := h w18 hn19
  generalize hM20 : nO M17 w18 4 0 = M20
  replace h := h M20 hM20.symm
  replace ho6 : ob M20 a0 6 := hM20 ▸ ob_nO hn19 ho6
  replace ho11 : ob M20 w8 13 := hM20 ▸ ob_nO hn19 ho11
  replace ho16 : ob M20 w13 12 := hM20 ▸ ob_nO hn19 ho16
  have ho21 : ob M20 w18 4 := hM20 ▸ ob_new
  refine e_blk 1 36 _ _ (pc' := 37) (L' := [some (.ref a0), none]) (st' := [.ref w18, .ref w18, .ref a0]) rfl ?_
  refine e_callIN (As := []) (rest := [.ref w18, .ref a0]) (host := "CalendarOrders") rfl (x_X4_init h) (fun X M9 hq => hq) rfl rfl rfl (ao (i := 127) (by decide +kernel) rfl) wn_X4_init wi_X4_init wc_X4_init (show cok mi_X6_init mi_X4_init 4 28 0 = true by decide +kernel) (Nat.le_of_ble_eq_true rfl) (fun v9 M22 hq => ?_)
  obtain ⟨rfl, h⟩ := kV_l hq
  obtain ⟨ho23, h⟩ := h
  refine e_putFP 6 3 (v := some w18) rfl rfl (by decide) (aw (i := 336) (by decide +kernel) rfl) rfl rfl rfl ho23 rfl ?_
  generalize hM24 : sP M22 a0 3 (some w18) = M24
  replace h := h M24 hM24.symm
  replace ho23 : ob M24 a0 6 := hM24 ▸ ob_sP ho23
  refine e_blk 1 43 _ _ (pc' := 44) (L' := [some (.ref a0), none]) (st' := [.ref a0]) rfl ?_
  refine e_new 1 rfl rfl (aw (i := 213) (by decide +kernel) rfl) (aw (i := 214) (by decide +kernel) rfl) (aw (i := 61) (by decide +kernel) rfl) (by decide) (by decide) (fun w25 hn26 => ?_)
  replace h := h w25 hn26
  generalize hM27 : nO M24 w25 1 0 = M27
  replace h := h M27 hM27.symm
  replace ho23 : ob M27 a0 6 := hM27 ▸ ob_nO hn26 ho23
  have ho28 : ob M27 w25 1 := hM27 ▸ ob_new
  refine e_blk 1 47 _ _ (pc' := 48) (L' := [some (.ref a0), none]) (st' := [.ref w25, .ref w25, .ref a0]) rfl ?_
  refine e_callIN (As := []) (rest := [.ref w25, .ref a0]) (host := "CalendarOrders") rfl (x_X1_init h) (fun X M9 hq => hq) rfl rfl rfl (ao (i := 215) (by decide +kernel) rfl) wn_X1_init wi_X1_init wc_X1_init (show cok mi_X6_init mi_X1_init 10 222 0 = true by decide +kernel) (Nat.le_of_ble_eq_true rfl) (fun v9 M29 hq => ?_)
  obtain ⟨rfl, h⟩ := kV_l hq
  obtain ⟨ho30, h⟩ := h
  refine e_putFP 6 4 (v := some w25) rfl rfl (by decide) (aw (i := 337) (by decide +kernel) rfl) rfl rfl rfl ho30 rfl ?_
  generalize hM31 : sP M29 a0 4 (some w25) = M31
  replace h := h M31 hM31.symm
  replace ho30 : ob M31 a0 6 := hM31 ▸ ob_sP ho30
  refine e_blk 2 54 _ _ (pc' := 56) (L' := [some (.ref a0), none]) (st' := [.int (1 : Int32), .ref a0]) rfl ?_
  refine e_putZ 6 8 rfl rfl (by decide) (aw (i := 341) (by decide +kernel) rfl) rfl ho30 rfl (by decide) ?_
  generalize hM32 : sI M31 a0 8 (1 : Int32) = M32
  replace h := h M32 hM32.symm
  replace ho30 : ob M32 a0 6 := hM32 ▸ ob_sI ho30
  refine e_blk 4 59 _ _ (pc' := 63) (L' := [some (.ref a0), some (.int (0 : Int32))]) (st' := [.int (4 : Int32), .int (0 : Int32)]) rfl ?_
  refine e_icmp_ge 85 rfl rfl (fun hc => absurd hc (by decide)) (fun _ => ?_)
  refine e_blk 1 66 _ _ (pc' := 67) (L' := [some (.ref a0), some (.int (0 : Int32))]) (st' := [.ref a0]) rfl ?_
  obtain ⟨b33, hbb33, h⟩ := h
  refine e_getR 6 1 rfl rfl (by decide) (aw (i := 334) (by decide +kernel) rfl) ho30 rfl hbb33 ?_
  refine e_blk 1 70 _ _ (pc' := 71) (L' := [some (.ref a0), some (.int (0 : Int32))]) (st' := [.int (0 : Int32), .ref b33]) rfl ?_
  refine e_new 5 rfl rfl (aw (i := 121) (by decide +kernel) rfl) (aw (i := 240) (by decide +kernel) rfl) (aw (i := 62) (by decide +kernel) rfl) (by decide) (by decide) (fun w34 hn35 => ?_)
  replace h := h w34 hn35
  generalize hM36 : nO M32 w34 5 0 = M36
  replace h := h M36 hM36.symm
  replace ho30 : ob M36 a0 6 := hM36 ▸ ob_nO hn35 ho30
  have ho37 : ob M36 w34 5 := hM36 ▸ ob_new
  refine e_blk 1 74 _ _ (pc' := 75) (L' := [some (.ref a0), some (.int (0 : Int32))]) (st' := [.ref w34, .ref w34, .int (0 : Int32), .ref b33]) rfl ?_
  refine e_callIN (As := []) (rest := [.ref w34, .int (0 : Int32), .ref b33]) (host := "CalendarOrders") rfl (x_X5_init h) (fun X M9 hq => hq) rfl rfl rfl (ao (i := 241) (by decide +kernel) rfl) wn_X5_init wi_X5_init wc_X5_init (show cok mi_X6_init mi_X5_init 15 1425 0 = true by decide +kernel) (Nat.le_of_ble_eq_true rfl) (fun v9 M38 hq => ?_)
  obtain ⟨rfl, h⟩ := kV_l hq
  obtain ⟨ho39, h⟩ := h
  obtain ⟨ho40, h⟩ := h
  obtain ⟨hi41, h⟩ := h
  refine e_aast 13 5 rfl ho39 (by decide) ho40 rfl rfl hi41 ?_
  generalize hM42 : sP M38 b33 ((0 : Int32)).toNatClampNeg (some w34) = M42
  replace h := h M42 hM42.symm
  replace ho39 : ob M42 b33 13 := hM42 ▸ ob_sP ho39
  replace ho40 : ob M42 w34 5 := hM42 ▸ ob_sP ho40
  refine e_blk 4 79 _ _ (pc' := 63) (L' := [some (.ref a0), some (.int (1 : Int32))]) (st' := [.int (4 : Int32), .int (1 : Int32)]) rfl ?_
  refine e_icmp_ge 85 rfl rfl (fun hc => absurd hc (by decide)) (fun _ => ?_)
  refine e_blk 1 66 _ _ (pc' := 67) (L' := [some (.ref a0), some (.int (1 : Int32))]) (st' := [.ref a0]) rfl ?_
  obtain ⟨ho43, h⟩ := h
  obtain ⟨b44, hbb44, h⟩ := h
  refine e_getR 6 1 rfl rfl (by decide) (aw (i := 334) (by decide +kernel) rfl) ho43 rfl hbb44 ?_
  refine e_blk 1 70 _ _ (pc' := 71) (L' := [some (.ref a0), some (.int (1 : Int32))]) (st' := [.int (1 : Int32), .ref b44]) rfl ?_
  refine e_new 5 rfl rfl (aw (i := 121) (by decide +kernel) rfl) (aw (i := 240) (by decide +kernel) rfl) (aw (i := 62) (by decide +kernel) rfl) (by decide) (by decide) (fun w45 hn46 => ?_)
  replace h := h w45 hn46
  generalize hM47 : nO M42 w45 5 0 = M47
  replace h := h M47 hM47.symm
  replace ho39 : ob M47 b33 13 := hM47 ▸ ob_nO hn46 ho39
  replace ho40 : ob M47 w34 5 := hM47 ▸ ob_nO hn46 ho40
  replace ho43 : ob M47 a0 6 := hM47 ▸ ob_nO hn46 ho43
  have ho48 : ob M47 w45 5 := hM47 ▸ ob_new
  refine e_blk 1 74 _ _ (pc' := 75) (L' := [some (.ref a0), some (.int (1 : Int32))]) (st' := [.ref w45, .ref w45, .int (1 : Int32), .ref b44]) rfl ?_
  refine e_callIN (As := []) (rest := [.ref w45, .int (1 : Int32), .ref b44]) (host := "CalendarOrders") rfl (x_X5_init h) (fun X M9 hq => hq) rfl rfl rfl (ao (i := 241) (by decide +kernel) rfl) wn_X5_init wi_X5_init wc_X5_init (show cok mi_X6_init mi_X5_init 18 1470 0 = true by decide +kernel) (Nat.le_of_ble_eq_true rfl) (fun v9 M49 hq => ?_)
  obtain ⟨rfl, h⟩ := kV_l hq
  obtain ⟨ho50, h⟩ := h
  obtain ⟨ho51, h⟩ := h
  obtain ⟨hi52, h⟩ := h
  refine e_aast 13 5 rfl ho50 (by decide) ho51 rfl rfl hi52 ?_
  generalize hM53 : sP M49 b44 ((1 : Int32)).toNatClampNeg (some w45) = M53
  replace h := h M53 hM53.symm
  replace ho50 : ob M53 b44 13 := hM53 ▸ ob_sP ho50
  replace ho51 : ob M53 w45 5 := hM53 ▸ ob_sP ho51
  refine e_blk 4 79 _ _ (pc' := 63) (L' := [some (.ref a0), some (.int (2 : Int32))]) (st' := [.int (4 : Int32), .int (2 : Int32)]) rfl ?_
  refine e_icmp_ge 85 rfl rfl (fun hc => absurd hc (by decide)) (fun _ => ?_)
  refine e_blk 1 66 _ _ (pc' := 67) (L' := [some (.ref a0), some (.int (2 : Int32))]) (st' := [.ref a0]) rfl ?_
  obtain ⟨ho54, h⟩ := h
  obtain ⟨b55, hbb55, h⟩ := h
  refine e_getR 6 1 rfl rfl (by decide) (aw (i := 334) (by decide +kernel) rfl) ho54 rfl hbb55 ?_
  refine e_blk 1 70 _ _ (pc' := 71) (L' := [some (.ref a0), some (.int (2 : Int32))]) (st' := [.int (2 : Int32), .ref b55]) rfl ?_
  refine e_new 5 rfl rfl (aw (i := 121) (by decide +kernel) rfl) (aw (i := 240) (by decide +kernel) rfl) (aw (i := 62) (by decide +kernel) rfl) (by decide) (by decide) (fun w56 hn57 => ?_)
  replace h := h w56 hn57
  generalize hM58 : nO M53 w56 5 0 = M58
  replace h := h M58 hM58.symm
  replace ho50 : ob M58 b44 13 := hM58 ▸ ob_nO hn57 ho50
  replace ho51 : ob M58 w45 5 := hM58 ▸ ob_nO hn57 ho51
  replace ho54 : ob M58 a0 6 := hM58 ▸ ob_nO hn57 ho54
  have ho59 : ob M58 w56 5 := hM58 ▸ ob_new
  refine e_blk 1 74 _ _ (pc' := 75) (L' := [some (.ref a0), some (.int (2 : Int32))]) (st' := [.ref w56, .ref w56, .int (2 : Int32), .ref b55]) rfl ?_
  refine e_callIN (As := []) (rest := [.ref w56, .int (2 : Int32), .ref b55]) (host := "CalendarOrders") rfl (x_X5_init h) (fun X M9 hq => hq) rfl rfl rfl (ao (i := 241) (by decide +kernel) rfl) wn_X5_init wi_X5_init wc_X5_init (show cok mi_X6_init mi_X5_init 21 1515 0 = true by decide +kernel) (Nat.le_of_ble_eq_true rfl) (fun v9 M60 hq => ?_)
  obtain ⟨rfl, h⟩ := kV_l hq
  obtain ⟨ho61, h⟩ := h
  obtain ⟨ho62, h⟩ := h
  obtain ⟨hi63, h⟩ := h
  refine e_aast 13 5 rfl ho61 (by decide) ho62 rfl rfl hi63 ?_
  generalize hM64 : sP M60 b55 ((2 : Int32)).toNatClampNeg (some w56) = M64
  replace h := h M64 hM64.symm
  replace ho61 : ob M64 b55 13 := hM64 ▸ ob_sP ho61
  replace ho62 : ob M64 w56 5 := hM64 ▸ ob_sP ho62
  refine e_blk 4 79 _ _ (pc' := 63) (L' := [some (.ref a0), some (.int (3 : Int32))]) (st' := [.int (4 : Int32), .int (3 : Int32)]) rfl ?_
  refine e_icmp_ge 85 rfl rfl (fun hc => absurd hc (by decide)) (fun _ => ?_)
  refine e_blk 1 66 _ _ (pc' := 67) (L' := [some (.ref a0), some (.int (3 : Int32))]) (st' := [.ref a0]) rfl ?_
  obtain ⟨ho65, h⟩ := h
  obtain ⟨b66, hbb66, h⟩ := h
  refine e_getR 6 1 rfl rfl (by decide) (aw (i := 334) (by decide +kernel) rfl) ho65 rfl hbb66 ?_
  refine e_blk 1 70 _ _ (pc' := 71) (L' := [some (.ref a0), some (.int (3 : Int32))]) (st' := [.int (3 : Int32), .ref b66]) rfl ?_
  refine e_new 5 rfl rfl (aw (i := 121) (by decide +kernel) rfl) (aw (i := 240) (by decide +kernel) rfl) (aw (i := 62) (by decide +kernel) rfl) (by decide) (by decide) (fun w67 hn68 => ?_)
  replace h := h w67 hn68
  generalize hM69 : nO M64 w67 5 0 = M69
  replace h := h M69 hM69.symm
  replace ho61 : ob M69 b55 13 := hM69 ▸ ob_nO hn68 ho61
  replace ho62 : ob M69 w56 5 := hM69 ▸ ob_nO hn68 ho62
  replace ho65 : ob M69 a0 6 := hM69 ▸ ob_nO hn68 ho65
  have ho70 : ob M69 w67 5 := hM69 ▸ ob_new
  refine e_blk 1 74 _ _ (pc' := 75) (L' := [some (.ref a0), some (.int (3 : Int32))]) (st' := [.ref w67, .ref w67, .int (3 : Int32), .ref b66]) rfl ?_
  refine e_callIN (As := []) (rest := [.ref w67, .int (3 : Int32), .ref b66]) (host := "CalendarOrders") rfl (x_X5_init h) (fun X M9 hq => hq) rfl rfl rfl (ao (i := 241) (by decide +kernel) rfl) wn_X5_init wi_X5_init wc_X5_init (show cok mi_X6_init mi_X5_init 24 1560 0 = true by decide +kernel) (Nat.le_of_ble_eq_true rfl) (fun v9 M71 hq => ?_)
  obtain ⟨rfl, h⟩ := kV_l hq
  obtain ⟨ho72, h⟩ := h
  obtain ⟨ho73, h⟩ := h
  obtain ⟨hi74, h⟩ := h
  refine e_aast 13 5 rfl ho72 (by decide) ho73 rfl rfl hi74 ?_
  generalize hM75 : sP M71 b66 ((3 : Int32)).toNatClampNeg (some w67) = M75
  replace h := h M75 hM75.symm
  replace ho72 : ob M75 b66 13 := hM75 ▸ ob_sP ho72
  replace ho73 : ob M75 w67 5 := hM75 ▸ ob_sP ho73
  refine e_blk 4 79 _ _ (pc' := 63) (L' := [some (.ref a0), some (.int (4 : Int32))]) (st' := [.int (4 : Int32), .int (4 : Int32)]) rfl ?_
  refine e_icmp_ge 85 rfl rfl (fun _ => ?_) (fun hc => absurd (by decide) hc)
  refine e_blk 4 85 _ _ (pc' := 90) (L' := [some (.ref a0), some (.int (0 : Int32))]) (st' := [.int (12 : Int32), .int (0 : Int32)]) rfl ?_
  refine e_icmp_ge 113 rfl rfl (fun hc => absurd hc (by decide)) (fun _ => ?_)
  refine e_blk 1 93 _ _ (pc' := 94) (L' := [some (.ref a0), some (.int (0 : Int32))]) (st' := [.ref a0]) rfl ?_
  obtain ⟨ho76, h⟩ := h
  obtain ⟨b77, hbb77, h⟩ := h
  refine e_getR 6 2 rfl rfl (by decide) (aw (i := 335) (by decide +kernel) rfl) ho76 rfl hbb77 ?_
  refine e_blk 1 97 _ _ (pc' := 98) (L' := [some (.ref a0), some (.int (0 : Int32))]) (st' := [.int (0 : Int32), .ref b77]) rfl ?_
  refine e_new 2 rfl rfl (aw (i := 123) (by decide +kernel) rfl) (aw (i := 259) (by decide +kernel) rfl) (aw (i := 63) (by decide +kernel) rfl) (by decide) (by decide) (fun w78 hn79 => ?_)
  replace h := h w78 hn79
  generalize hM80 : nO M75 w78 2 0 = M80
  replace h := h M80 hM80.symm
  replace ho72 : ob M80 b66 13 := hM80 ▸ ob_nO hn79 ho72
  replace ho73 : ob M80 w67 5 := hM80 ▸ ob_nO hn79 ho73
  replace ho76 : ob M80 a0 6 := hM80 ▸ ob_nO hn79 ho76
  have ho81 : ob M80 w78 2 := hM80 ▸ ob_new
  refine e_blk 2 101 _ _ (pc' := 103) (L' := [some (.ref a0), some (.int (0 : Int32))]) (st' := [.int (0 : Int32), .ref w78, .ref w78, .int (0 : Int32), .ref b77]) rfl ?_
  refine e_callI (As := [.int (0 : Int32)]) (rest := [.ref w78, .int (0 : Int32), .ref b77]) rfl (x_X2_init h) (fun X M9 hq => hq) rfl rfl rfl (aw (i := 260) (by decide +kernel) rfl) wn_X2_init wi_X2_init wc_X2_init (show cok mi_X6_init mi_X2_init 27 1619 1 = true by decide +kernel) (Nat.le_of_ble_eq_true rfl) (fun v9 M82 hq => ?_)
  obtain ⟨rfl, h⟩ := kV_l hq
  obtain ⟨ho83, h⟩ := h
  obtain ⟨ho84, h⟩ := h
  obtain ⟨hi85, h⟩ := h
  refine e_aast 12 4 rfl ho83 (by decide) ho84 rfl rfl hi85 ?_
  generalize hM86 : sP M82 b77 ((0 : Int32)).toNatClampNeg (some w78) = M86
  replace h := h M86 hM86.symm
  replace ho83 : ob M86 b77 12 := hM86 ▸ ob_sP ho83
  replace ho84 : ob M86 w78 2 := hM86 ▸ ob_sP ho84
  refine e_blk 4 107 _ _ (pc' := 90) (L' := [some (.ref a0), some (.int (1 : Int32))]) (st' := [.int (12 : Int32), .int (1 : Int32)]) rfl ?_
  refine e_icmp_ge 113 rfl rfl (fun hc => absurd hc (by decide)) (fun _ => ?_)
  refine e_blk 1 93 _ _ (pc' := 94) (L' := [some (.ref a0), some (.int (1 : Int32))]) (st' := [.ref a0]) rfl ?_
  obtain ⟨ho87, h⟩ := h
  obtain ⟨b88, hbb88, h⟩ := h
  refine e_getR 6 2 rfl rfl (by decide) (aw (i := 335) (by decide +kernel) rfl) ho87 rfl hbb88 ?_
  refine e_blk 1 97 _ _ (pc' := 98) (L' := [some (.ref a0), some (.int (1 : Int32))]) (st' := [.int (1 : Int32), .ref b88]) rfl ?_
  refine e_new 2 rfl rfl (aw (i := 123) (by decide +kernel) rfl) (aw (i := 259) (by decide +kernel) rfl) (aw (i := 63) (by decide +kernel) rfl) (by decide) (by decide) (fun w89 hn90 => ?_)
  replace h := h w89 hn90
  generalize hM91 : nO M86 w89 2 0 = M91
  replace h := h M91 hM91.symm
  replace ho83 : ob M91 b77 12 := hM91 ▸ ob_nO hn90 ho83
  replace ho84 : ob M91 w78 2 := hM91 ▸ ob_nO hn90 ho84
  replace ho87 : ob M91 a0 6 := hM91 ▸ ob_nO hn90 ho87
  have ho92 : ob M91 w89 2 := hM91 ▸ ob_new
  refine e_blk 2 101 _ _ (pc' := 103) (L' := [some (.ref a0), some (.int (1 : Int32))]) (st' := [.int (1 : Int32), .ref w89, .ref w89, .int (1 : Int32), .ref b88]) rfl ?_
  refine e_callI (As := [.int (1 : Int32)]) (rest := [.ref w89, .int (1 : Int32), .ref b88]) rfl (x_X2_init h) (fun X M9 hq => hq) rfl rfl rfl (aw (i := 260) (by decide +kernel) rfl) wn_X2_init wi_X2_init wc_X2_init (show cok mi_X6_init mi_X2_init 37 1726 1 = true by decide +kernel) (Nat.le_of_ble_eq_true rfl) (fun v9 M93 hq => ?_)
  obtain ⟨rfl, h⟩ := kV_l hq
  obtain ⟨ho94, h⟩ := h
  obtain ⟨ho95, h⟩ := h
  obtain ⟨hi96, h⟩ := h
  refine e_aast 12 4 rfl ho94 (by decide) ho95 rfl rfl hi96 ?_
  generalize hM97 : sP M93 b88 ((1 : Int32)).toNatClampNeg (some w89) = M97
  replace h := h M97 hM97.symm
  replace ho94 : ob M97 b88 12 := hM97 ▸ ob_sP ho94
  replace ho95 : ob M97 w89 2 := hM97 ▸ ob_sP ho95
  refine e_blk 4 107 _ _ (pc' := 90) (L' := [some (.ref a0), some (.int (2 : Int32))]) (st' := [.int (12 : Int32), .int (2 : Int32)]) rfl ?_
  refine e_icmp_ge 113 rfl rfl (fun hc => absurd hc (by decide)) (fun _ => ?_)
  refine e_blk 1 93 _ _ (pc' := 94) (L' := [some (.ref a0), some (.int (2 : Int32))]) (st' := [.ref a0]) rfl ?_
  obtain ⟨ho98, h⟩ := h
  obtain ⟨b99, hbb99, h⟩ := h
  refine e_getR 6 2 rfl rfl (by decide) (aw (i := 335) (by decide +kernel) rfl) ho98 rfl hbb99 ?_
  refine e_blk 1 97 _ _ (pc' := 98) (L' := [some (.ref a0), some (.int (2 : Int32))]) (st' := [.int (2 : Int32), .ref b99]) rfl ?_
  refine e_new 2 rfl rfl (aw (i := 123) (by decide +kernel) rfl) (aw (i := 259) (by decide +kernel) rfl) (aw (i := 63) (by decide +kernel) rfl) (by decide) (by decide) (fun w100 hn101 => ?_)
  replace h := h w100 hn101
  generalize hM102 : nO M97 w100 2 0 = M102
  replace h := h M102 hM102.symm
  replace ho94 : ob M102 b88 12 := hM102 ▸ ob_nO hn101 ho94
  replace ho95 : ob M102 w89 2 := hM102 ▸ ob_nO hn101 ho95
  replace ho98 : ob M102 a0 6 := hM102 ▸ ob_nO hn101 ho98
  have ho103 : ob M102 w100 2 := hM102 ▸ ob_new
  refine e_blk 2 101 _ _ (pc' := 103) (L' := [some (.ref a0), some (.int (2 : Int32))]) (st' := [.int (2 : Int32), .ref w100, .ref w100, .int (2 : Int32), .ref b99]) rfl ?_
  refine e_callI (As := [.int (2 : Int32)]) (rest := [.ref w100, .int (2 : Int32), .ref b99]) rfl (x_X2_init h) (fun X M9 hq => hq) rfl rfl rfl (aw (i := 260) (by decide +kernel) rfl) wn_X2_init wi_X2_init wc_X2_init (show cok mi_X6_init mi_X2_init 47 1833 1 = true by decide +kernel) (Nat.le_of_ble_eq_true rfl) (fun v9 M104 hq => ?_)
  obtain ⟨rfl, h⟩ := kV_l hq
  obtain ⟨ho105, h⟩ := h
  obtain ⟨ho106, h⟩ := h
  obtain ⟨hi107, h⟩ := h
  refine e_aast 12 4 rfl ho105 (by decide) ho106 rfl rfl hi107 ?_
  generalize hM108 : sP M104 b99 ((2 : Int32)).toNatClampNeg (some w100) = M108
  replace h := h M108 hM108.symm
  replace ho105 : ob M108 b99 12 := hM108 ▸ ob_sP ho105
  replace ho106 : ob M108 w100 2 := hM108 ▸ ob_sP ho106
  refine e_blk 4 107 _ _ (pc' := 90) (L' := [some (.ref a0), some (.int (3 : Int32))]) (st' := [.int (12 : Int32), .int (3 : Int32)]) rfl ?_
  refine e_icmp_ge 113 rfl rfl (fun hc => absurd hc (by decide)) (fun _ => ?_)
  refine e_blk 1 93 _ _ (pc' := 94) (L' := [some (.ref a0), some (.int (3 : Int32))]) (st' := [.ref a0]) rfl ?_
  obtain ⟨ho109, h⟩ := h
  obtain ⟨b110, hbb110, h⟩ := h
  refine e_getR 6 2 rfl rfl (by decide) (aw (i := 335) (by decide +kernel) rfl) ho109 rfl hbb110 ?_
  refine e_blk 1 97 _ _ (pc' := 98) (L' := [some (.ref a0), some (.int (3 : Int32))]) (st' := [.int (3 : Int32), .ref b110]) rfl ?_
  refine e_new 2 rfl rfl (aw (i := 123) (by decide +kernel) rfl) (aw (i := 259) (by decide +kernel) rfl) (aw (i := 63) (by decide +kernel) rfl) (by decide) (by decide) (fun w111 hn112 => ?_)
  replace h := h w111 hn112
  generalize hM113 : nO M108 w111 2 0 = M113
  replace h := h M113 hM113.symm
  replace ho105 : ob M113 b99 12 := hM113 ▸ ob_nO hn112 ho105
  replace ho106 : ob M113 w100 2 := hM113 ▸ ob_nO hn112 ho106
  replace ho109 : ob M113 a0 6 := hM113 ▸ ob_nO hn112 ho109
  have ho114 : ob M113 w111 2 := hM113 ▸ ob_new
  refine e_blk 2 101 _ _ (pc' := 103) (L' := [some (.ref a0), some (.int (3 : Int32))]) (st' := [.int (3 : Int32), .ref w111, .ref w111, .int (3 : Int32), .ref b110]) rfl ?_
  refine e_callI (As := [.int (3 : Int32)]) (rest := [.ref w111, .int (3 : Int32), .ref b110]) rfl (x_X2_init h) (fun X M9 hq => hq) rfl rfl rfl (aw (i := 260) (by decide +kernel) rfl) wn_X2_init wi_X2_init wc_X2_init (show cok mi_X6_init mi_X2_init 57 1940 1 = true by decide +kernel) (Nat.le_of_ble_eq_true rfl) (fun v9 M115 hq => ?_)
  obtain ⟨rfl, h⟩ := kV_l hq
  obtain ⟨ho116, h⟩ := h
  obtain ⟨ho117, h⟩ := h
  obtain ⟨hi118, h⟩ := h
  refine e_aast 12 4 rfl ho116 (by decide) ho117 rfl rfl hi118 ?_
  generalize hM119 : sP M115 b110 ((3 : Int32)).toNatClampNeg (some w111) = M119
  replace h := h M119 hM119.symm
  replace ho116 : ob M119 b110 12 := hM119 ▸ ob_sP ho116
  replace ho117 : ob M119 w111 2 := hM119 ▸ ob_sP ho117
  refine e_blk 4 107 _ _ (pc' := 90) (L' := [some (.ref a0), some (.int (4 : Int32))]) (st' := [.int (12 : Int32), .int (4 : Int32)]) rfl ?_
  refine e_icmp_ge 113 rfl rfl (fun hc => absurd hc (by decide)) (fun _ => ?_)
  refine e_blk 1 93 _ _ (pc' := 94) (L' := [some (.ref a0), some (.int (4 : Int32))]) (st' := [.ref a0]) rfl ?_
  obtain ⟨ho120, h⟩ := h
  obtain ⟨b121, hbb121, h⟩ := h
  refine e_getR 6 2 rfl rfl (by decide) (aw (i := 335) (by decide +kernel) rfl) ho120 rfl hbb121 ?_
  refine e_blk 1 97 _ _ (pc' := 98) (L' := [some (.ref a0), some (.int (4 : Int32))]) (st' := [.int (4 : Int32), .ref b121]) rfl ?_
  refine e_new 2 rfl rfl (aw (i := 123) (by decide +kernel) rfl) (aw (i := 259) (by decide +kernel) rfl) (aw (i := 63) (by decide +kernel) rfl) (by decide) (by decide) (fun w122 hn123 => ?_)
  replace h := h w122 hn123
  generalize hM124 : nO M119 w122 2 0 = M124
  replace h := h M124 hM124.symm
  replace ho116 : ob M124 b110 12 := hM124 ▸ ob_nO hn123 ho116
  replace ho117 : ob M124 w111 2 := hM124 ▸ ob_nO hn123 ho117
  replace ho120 : ob M124 a0 6 := hM124 ▸ ob_nO hn123 ho120
  have ho125 : ob M124 w122 2 := hM124 ▸ ob_new
  refine e_blk 2 101 _ _ (pc' := 103) (L' := [some (.ref a0), some (.int (4 : Int32))]) (st' := [.int (4 : Int32), .ref w122, .ref w122, .int (4 : Int32), .ref b121]) rfl ?_
  refine e_callI (As := [.int (4 : Int32)]) (rest := [.ref w122, .int (4 : Int32), .ref b121]) rfl (x_X2_init h) (fun X M9 hq => hq) rfl rfl rfl (aw (i := 260) (by decide +kernel) rfl) wn_X2_init wi_X2_init wc_X2_init (show cok mi_X6_init mi_X2_init 67 2047 1 = true by decide +kernel) (Nat.le_of_ble_eq_true rfl) (fun v9 M126 hq => ?_)
  obtain ⟨rfl, h⟩ := kV_l hq
  obtain ⟨ho127, h⟩ := h
  obtain ⟨ho128, h⟩ := h
  obtain ⟨hi129, h⟩ := h
  refine e_aast 12 4 rfl ho127 (by decide) ho128 rfl rfl hi129 ?_
  generalize hM130 : sP M126 b121 ((4 : Int32)).toNatClampNeg (some w122) = M130
  replace h := h M130 hM130.symm
  replace ho127 : ob M130 b121 12 := hM130 ▸ ob_sP ho127
  replace ho128 : ob M130 w122 2 := hM130 ▸ ob_sP ho128
  refine e_blk 4 107 _ _ (pc' := 90) (L' := [some (.ref a0), some (.int (5 : Int32))]) (st' := [.int (12 : Int32), .int (5 : Int32)]) rfl ?_
  refine e_icmp_ge 113 rfl rfl (fun hc => absurd hc (by decide)) (fun _ => ?_)
  refine e_blk 1 93 _ _ (pc' := 94) (L' := [some (.ref a0), some (.int (5 : Int32))]) (st' := [.ref a0]) rfl ?_
  obtain ⟨ho131, h⟩ := h
  obtain ⟨b132, hbb132, h⟩ := h
  refine e_getR 6 2 rfl rfl (by decide) (aw (i := 335) (by decide +kernel) rfl) ho131 rfl hbb132 ?_
  refine e_blk 1 97 _ _ (pc' := 98) (L' := [some (.ref a0), some (.int (5 : Int32))]) (st' := [.int (5 : Int32), .ref b132]) rfl ?_
  refine e_new 2 rfl rfl (aw (i := 123) (by decide +kernel) rfl) (aw (i := 259) (by decide +kernel) rfl) (aw (i := 63) (by decide +kernel) rfl) (by decide) (by decide) (fun w133 hn134 => ?_)
  replace h := h w133 hn134
  generalize hM135 : nO M130 w133 2 0 = M135
  replace h := h M135 hM135.symm
  replace ho127 : ob M135 b121 12 := hM135 ▸ ob_nO hn134 ho127
  replace ho128 : ob M135 w122 2 := hM135 ▸ ob_nO hn134 ho128
  replace ho131 : ob M135 a0 6 := hM135 ▸ ob_nO hn134 ho131
  have ho136 : ob M135 w133 2 := hM135 ▸ ob_new
  refine e_blk 2 101 _ _ (pc' := 103) (L' := [some (.ref a0), some (.int (5 : Int32))]) (st' := [.int (5 : Int32), .ref w133, .ref w133, .int (5 : Int32), .ref b132]) rfl ?_
  refine e_callI (As := [.int (5 : Int32)]) (rest := [.ref w133, .int (5 : Int32), .ref b132]) rfl (x_X2_init h) (fun X M9 hq => hq) rfl rfl rfl (aw (i := 260) (by decide +kernel) rfl) wn_X2_init wi_X2_init wc_X2_init (show cok mi_X6_init mi_X2_init 77 2154 1 = true by decide +kernel) (Nat.le_of_ble_eq_true rfl) (fun v9 M137 hq => ?_)
  obtain ⟨rfl, h⟩ := kV_l hq
  obtain ⟨ho138, h⟩ := h
  obtain ⟨ho139, h⟩ := h
  obtain ⟨hi140, h⟩ := h
  refine e_aast 12 4 rfl ho138 (by decide) ho139 rfl rfl hi140 ?_
  generalize hM141 : sP M137 b132 ((5 : Int32)).toNatClampNeg (some w133) = M141
  replace h := h M141 hM141.symm
  replace ho138 : ob M141 b132 12 := hM141 ▸ ob_sP ho138
  replace ho139 : ob M141 w133 2 := hM141 ▸ ob_sP ho139
  refine e_blk 4 107 _ _ (pc' := 90) (L' := [some (.ref a0), some (.int (6 : Int32))]) (st' := [.int (12 : Int32), .int (6 : Int32)]) rfl ?_
  refine e_icmp_ge 113 rfl rfl (fun hc => absurd hc (by decide)) (fun _ => ?_)
  refine e_blk 1 93 _ _ (pc' := 94) (L' := [some (.ref a0), some (.int (6 : Int32))]) (st' := [.ref a0]) rfl ?_
  obtain ⟨ho142, h⟩ := h
  obtain ⟨b143, hbb143, h⟩ := h
  refine e_getR 6 2 rfl rfl (by decide) (aw (i := 335) (by decide +kernel) rfl) ho142 rfl hbb143 ?_
  refine e_blk 1 97 _ _ (pc' := 98) (L' := [some (.ref a0), some (.int (6 : Int32))]) (st' := [.int (6 : Int32), .ref b143]) rfl ?_
  refine e_new 2 rfl rfl (aw (i := 123) (by decide +kernel) rfl) (aw (i := 259) (by decide +kernel) rfl) (aw (i := 63) (by decide +kernel) rfl) (by decide) (by decide) (fun w144 hn145 => ?_)
  replace h := h w144 hn145
  generalize hM146 : nO M141 w144 2 0 = M146
  replace h := h M146 hM146.symm
  replace ho138 : ob M146 b132 12 := hM146 ▸ ob_nO hn145 ho138
  replace ho139 : ob M146 w133 2 := hM146 ▸ ob_nO hn145 ho139
  replace ho142 : ob M146 a0 6 := hM146 ▸ ob_nO hn145 ho142
  have ho147 : ob M146 w144 2 := hM146 ▸ ob_new
  refine e_blk 2 101 _ _ (pc' := 103) (L' := [some (.ref a0), some (.int (6 : Int32))]) (st' := [.int (6 : Int32), .ref w144, .ref w144, .int (6 : Int32), .ref b143]) rfl ?_
  refine e_callI (As := [.int (6 : Int32)]) (rest := [.ref w144, .int (6 : Int32), .ref b143]) rfl (x_X2_init h) (fun X M9 hq => hq) rfl rfl rfl (aw (i := 260) (by decide +kernel) rfl) wn_X2_init wi_X2_init wc_X2_init (show cok mi_X6_init mi_X2_init 87 2261 1 = true by decide +kernel) (Nat.le_of_ble_eq_true rfl) (fun v9 M148 hq => ?_)
  obtain ⟨rfl, h⟩ := kV_l hq
  obtain ⟨ho149, h⟩ := h
  obtain ⟨ho150, h⟩ := h
  obtain ⟨hi151, h⟩ := h
  refine e_aast 12 4 rfl ho149 (by decide) ho150 rfl rfl hi151 ?_
  generalize hM152 : sP M148 b143 ((6 : Int32)).toNatClampNeg (some w144) = M152
  replace h := h M152 hM152.symm
  replace ho149 : ob M152 b143 12 := hM152 ▸ ob_sP ho149
  replace ho150 : ob M152 w144 2 := hM152 ▸ ob_sP ho150
  refine e_blk 4 107 _ _ (pc' := 90) (L' := [some (.ref a0), some (.int (7 : Int32))]) (st' := [.int (12 : Int32), .int (7 : Int32)]) rfl ?_
  refine e_icmp_ge 113 rfl rfl (fun hc => absurd hc (by decide)) (fun _ => ?_)
  refine e_blk 1 93 _ _ (pc' := 94) (L' := [some (.ref a0), some (.int (7 : Int32))]) (st' := [.ref a0]) rfl ?_
  obtain ⟨ho153, h⟩ := h
  obtain ⟨b154, hbb154, h⟩ := h
  refine e_getR 6 2 rfl rfl (by decide) (aw (i := 335) (by decide +kernel) rfl) ho153 rfl hbb154 ?_
  refine e_blk 1 97 _ _ (pc' := 98) (L' := [some (.ref a0), some (.int (7 : Int32))]) (st' := [.int (7 : Int32), .ref b154]) rfl ?_
  refine e_new 2 rfl rfl (aw (i := 123) (by decide +kernel) rfl) (aw (i := 259) (by decide +kernel) rfl) (aw (i := 63) (by decide +kernel) rfl) (by decide) (by decide) (fun w155 hn156 => ?_)
  replace h := h w155 hn156
  generalize hM157 : nO M152 w155 2 0 = M157
  replace h := h M157 hM157.symm
  replace ho149 : ob M157 b143 12 := hM157 ▸ ob_nO hn156 ho149
  replace ho150 : ob M157 w144 2 := hM157 ▸ ob_nO hn156 ho150
  replace ho153 : ob M157 a0 6 := hM157 ▸ ob_nO hn156 ho153
  have ho158 : ob M157 w155 2 := hM157 ▸ ob_new
  refine e_blk 2 101 _ _ (pc' := 103) (L' := [some (.ref a0), some (.int (7 : Int32))]) (st' := [.int (7 : Int32), .ref w155, .ref w155, .int (7 : Int32), .ref b154]) rfl ?_
  refine e_callI (As := [.int (7 : Int32)]) (rest := [.ref w155, .int (7 : Int32), .ref b154]) rfl (x_X2_init h) (fun X M9 hq => hq) rfl rfl rfl (aw (i := 260) (by decide +kernel) rfl) wn_X2_init wi_X2_init wc_X2_init (show cok mi_X6_init mi_X2_init 97 2368 1 = true by decide +kernel) (Nat.le_of_ble_eq_true rfl) (fun v9 M159 hq => ?_)
  obtain ⟨rfl, h⟩ := kV_l hq
  obtain ⟨ho160, h⟩ := h
  obtain ⟨ho161, h⟩ := h
  obtain ⟨hi162, h⟩ := h
  refine e_aast 12 4 rfl ho160 (by decide) ho161 rfl rfl hi162 ?_
  generalize hM163 : sP M159 b154 ((7 : Int32)).toNatClampNeg (some w155) = M163
  replace h := h M163 hM163.symm
  replace ho160 : ob M163 b154 12 := hM163 ▸ ob_sP ho160
  replace ho161 : ob M163 w155 2 := hM163 ▸ ob_sP ho161
  refine e_blk 4 107 _ _ (pc' := 90) (L' := [some (.ref a0), some (.int (8 : Int32))]) (st' := [.int (12 : Int32), .int (8 : Int32)]) rfl ?_
  refine e_icmp_ge 113 rfl rfl (fun hc => absurd hc (by decide)) (fun _ => ?_)
  refine e_blk 1 93 _ _ (pc' := 94) (L' := [some (.ref a0), some (.int (8 : Int32))]) (st' := [.ref a0]) rfl ?_
  obtain ⟨ho164, h⟩ := h
  obtain ⟨b165, hbb165, h⟩ := h
  refine e_getR 6 2 rfl rfl (by decide) (aw (i := 335) (by decide +kernel) rfl) ho164 rfl hbb165 ?_
  refine e_blk 1 97 _ _ (pc' := 98) (L' := [some (.ref a0), some (.int (8 : Int32))]) (st' := [.int (8 : Int32), .ref b165]) rfl ?_
  refine e_new 2 rfl rfl (aw (i := 123) (by decide +kernel) rfl) (aw (i := 259) (by decide +kernel) rfl) (aw (i := 63) (by decide +kernel) rfl) (by decide) (by decide) (fun w166 hn167 => ?_)
  replace h := h w166 hn167
  generalize hM168 : nO M163 w166 2 0 = M168
  replace h := h M168 hM168.symm
  replace ho160 : ob M168 b154 12 := hM168 ▸ ob_nO hn167 ho160
  replace ho161 : ob M168 w155 2 := hM168 ▸ ob_nO hn167 ho161
  replace ho164 : ob M168 a0 6 := hM168 ▸ ob_nO hn167 ho164
  have ho169 : ob M168 w166 2 := hM168 ▸ ob_new
  refine e_blk 2 101 _ _ (pc' := 103) (L' := [some (.ref a0), some (.int (8 : Int32))]) (st' := [.int (8 : Int32), .ref w166, .ref w166, .int (8 : Int32), .ref b165]) rfl ?_
  refine e_callI (As := [.int (8 : Int32)]) (rest := [.ref w166, .int (8 : Int32), .ref b165]) rfl (x_X2_init h) (fun X M9 hq => hq) rfl rfl rfl (aw (i := 260) (by decide +kernel) rfl) wn_X2_init wi_X2_init wc_X2_init (show cok mi_X6_init mi_X2_init 107 2475 1 = true by decide +kernel) (Nat.le_of_ble_eq_true rfl) (fun v9 M170 hq => ?_)
  obtain ⟨rfl, h⟩ := kV_l hq
  obtain ⟨ho171, h⟩ := h
  obtain ⟨ho172, h⟩ := h
  obtain ⟨hi173, h⟩ := h
  refine e_aast 12 4 rfl ho171 (by decide) ho172 rfl rfl hi173 ?_
  generalize hM174 : sP M170 b165 ((8 : Int32)).toNatClampNeg (some w166) = M174
  replace h := h M174 hM174.symm
  replace ho171 : ob M174 b165 12 := hM174 ▸ ob_sP ho171
  replace ho172 : ob M174 w166 2 := hM174 ▸ ob_sP ho172
  refine e_blk 4 107 _ _ (pc' := 90) (L' := [some (.ref a0), some (.int (9 : Int32))]) (st' := [.int (12 : Int32), .int (9 : Int32)]) rfl ?_
  refine e_icmp_ge 113 rfl rfl (fun hc => absurd hc (by decide)) (fun _ => ?_)
  refine e_blk 1 93 _ _ (pc' := 94) (L' := [some (.ref a0), some (.int (9 : Int32))]) (st' := [.ref a0]) rfl ?_
  obtain ⟨ho175, h⟩ := h
  obtain ⟨b176, hbb176, h⟩ := h
  refine e_getR 6 2 rfl rfl (by decide) (aw (i := 335) (by decide +kernel) rfl) ho175 rfl hbb176 ?_
  refine e_blk 1 97 _ _ (pc' := 98) (L' := [some (.ref a0), some (.int (9 : Int32))]) (st' := [.int (9 : Int32), .ref b176]) rfl ?_
  refine e_new 2 rfl rfl (aw (i := 123) (by decide +kernel) rfl) (aw (i := 259) (by decide +kernel) rfl) (aw (i := 63) (by decide +kernel) rfl) (by decide) (by decide) (fun w177 hn178 => ?_)
  replace h := h w177 hn178
  generalize hM179 : nO M174 w177 2 0 = M179
  replace h := h M179 hM179.symm
  replace ho171 : ob M179 b165 12 := hM179 ▸ ob_nO hn178 ho171
  replace ho172 : ob M179 w166 2 := hM179 ▸ ob_nO hn178 ho172
  replace ho175 : ob M179 a0 6 := hM179 ▸ ob_nO hn178 ho175
  have ho180 : ob M179 w177 2 := hM179 ▸ ob_new
  refine e_blk 2 101 _ _ (pc' := 103) (L' := [some (.ref a0), some (.int (9 : Int32))]) (st' := [.int (9 : Int32), .ref w177, .ref w177, .int (9 : Int32), .ref b176]) rfl ?_
  refine e_callI (As := [.int (9 : Int32)]) (rest := [.ref w177, .int (9 : Int32), .ref b176]) rfl (x_X2_init h) (fun X M9 hq => hq) rfl rfl rfl (aw (i := 260) (by decide +kernel) rfl) wn_X2_init wi_X2_init wc_X2_init (show cok mi_X6_init mi_X2_init 117 2582 1 = true by decide +kernel) (Nat.le_of_ble_eq_true rfl) (fun v9 M181 hq => ?_)
  obtain ⟨rfl, h⟩ := kV_l hq
  obtain ⟨ho182, h⟩ := h
  obtain ⟨ho183, h⟩ := h
  obtain ⟨hi184, h⟩ := h
  refine e_aast 12 4 rfl ho182 (by decide) ho183 rfl rfl hi184 ?_
  generalize hM185 : sP M181 b176 ((9 : Int32)).toNatClampNeg (some w177) = M185
  replace h := h M185 hM185.symm
  replace ho182 : ob M185 b176 12 := hM185 ▸ ob_sP ho182
  replace ho183 : ob M185 w177 2 := hM185 ▸ ob_sP ho183
  refine e_blk 4 107 _ _ (pc' := 90) (L' := [some (.ref a0), some (.int (10 : Int32))]) (st' := [.int (12 : Int32), .int (10 : Int32)]) rfl ?_
  refine e_icmp_ge 113 rfl rfl (fun hc => absurd hc (by decide)) (fun _ => ?_)
  refine e_blk 1 93 _ _ (pc' := 94) (L' := [some (.ref a0), some (.int (10 : Int32))]) (st' := [.ref a0]) rfl ?_
  obtain ⟨ho186, h⟩ := h
  obtain ⟨b187, hbb187, h⟩ := h
  refine e_getR 6 2 rfl rfl (by decide) (aw (i := 335) (by decide +kernel) rfl) ho186 rfl hbb187 ?_
  refine e_blk 1 97 _ _ (pc' := 98) (L' := [some (.ref a0), some (.int (10 : Int32))]) (st' := [.int (10 : Int32), .ref b187]) rfl ?_
  refine e_new 2 rfl rfl (aw (i := 123) (by decide +kernel) rfl) (aw (i := 259) (by decide +kernel) rfl) (aw (i := 63) (by decide +kernel) rfl) (by decide) (by decide) (fun w188 hn189 => ?_)
  replace h := h w188 hn189
  generalize hM190 : nO M185 w188 2 0 = M190
  replace h := h M190 hM190.symm
  replace ho182 : ob M190 b176 12 := hM190 ▸ ob_nO hn189 ho182
  replace ho183 : ob M190 w177 2 := hM190 ▸ ob_nO hn189 ho183
  replace ho186 : ob M190 a0 6 := hM190 ▸ ob_nO hn189 ho186
  have ho191 : ob M190 w188 2 := hM190 ▸ ob_new
  refine e_blk 2 101 _ _ (pc' := 103) (L' := [some (.ref a0), some (.int (10 : Int32))]) (st' := [.int (10 : Int32), .ref w188, .ref w188, .int (10 : Int32), .ref b187]) rfl ?_
  refine e_callI (As := [.int (10 : Int32)]) (rest := [.ref w188, .int (10 : Int32), .ref b187]) rfl (x_X2_init h) (fun X M9 hq => hq) rfl rfl rfl (aw (i := 260) (by decide +kernel) rfl) wn_X2_init wi_X2_init wc_X2_init (show cok mi_X6_init mi_X2_init 127 2689 1 = true by decide +kernel) (Nat.le_of_ble_eq_true rfl) (fun v9 M192 hq => ?_)
  obtain ⟨rfl, h⟩ := kV_l hq
  obtain ⟨ho193, h⟩ := h
  obtain ⟨ho194, h⟩ := h
  obtain ⟨hi195, h⟩ := h
  refine e_aast 12 4 rfl ho193 (by decide) ho194 rfl rfl hi195 ?_
  generalize hM196 : sP M192 b187 ((10 : Int32)).toNatClampNeg (some w188) = M196
  replace h := h M196 hM196.symm
  replace ho193 : ob M196 b187 12 := hM196 ▸ ob_sP ho193
  replace ho194 : ob M196 w188 2 := hM196 ▸ ob_sP ho194
  refine e_blk 4 107 _ _ (pc' := 90) (L' := [some (.ref a0), some (.int (11 : Int32))]) (st' := [.int (12 : Int32), .int (11 : Int32)]) rfl ?_
  refine e_icmp_ge 113 rfl rfl (fun hc => absurd hc (by decide)) (fun _ => ?_)
  refine e_blk 1 93 _ _ (pc' := 94) (L' := [some (.ref a0), some (.int (11 : Int32))]) (st' := [.ref a0]) rfl ?_
  obtain ⟨ho197, h⟩ := h
  obtain ⟨b198, hbb198, h⟩ := h
  refine e_getR 6 2 rfl rfl (by decide) (aw (i := 335) (by decide +kernel) rfl) ho197 rfl hbb198 ?_
  refine e_blk 1 97 _ _ (pc' := 98) (L' := [some (.ref a0), some (.int (11 : Int32))]) (st' := [.int (11 : Int32), .ref b198]) rfl ?_
  refine e_new 2 rfl rfl (aw (i := 123) (by decide +kernel) rfl) (aw (i := 259) (by decide +kernel) rfl) (aw (i := 63) (by decide +kernel) rfl) (by decide) (by decide) (fun w199 hn200 => ?_)
  replace h := h w199 hn200
  generalize hM201 : nO M196 w199 2 0 = M201
  replace h := h M201 hM201.symm
  replace ho193 : ob M201 b187 12 := hM201 ▸ ob_nO hn200 ho193
  replace ho194 : ob M201 w188 2 := hM201 ▸ ob_nO hn200 ho194
  replace ho197 : ob M201 a0 6 := hM201 ▸ ob_nO hn200 ho197
  have ho202 : ob M201 w199 2 := hM201 ▸ ob_new
  refine e_blk 2 101 _ _ (pc' := 103) (L' := [some (.ref a0), some (.int (11 : Int32))]) (st' := [.int (11 : Int32), .ref w199, .ref w199, .int (11 : Int32), .ref b198]) rfl ?_
  refine e_callI (As := [.int (11 : Int32)]) (rest := [.ref w199, .int (11 : Int32), .ref b198]) rfl (x_X2_init h) (fun X M9 hq => hq) rfl rfl rfl (aw (i := 260) (by decide +kernel) rfl) wn_X2_init wi_X2_init wc_X2_init (show cok mi_X6_init mi_X2_init 137 2796 1 = true by decide +kernel) (Nat.le_of_ble_eq_true rfl) (fun v9 M203 hq => ?_)
  obtain ⟨rfl, h⟩ := kV_l hq
  obtain ⟨ho204, h⟩ := h
  obtain ⟨ho205, h⟩ := h
  obtain ⟨hi206, h⟩ := h
  refine e_aast 12 4 rfl ho204 (by decide) ho205 rfl rfl hi206 ?_
  generalize hM207 : sP M203 b198 ((11 : Int32)).toNatClampNeg (some w199) = M207
  replace h := h M207 hM207.symm
  replace ho204 : ob M207 b198 12 := hM207 ▸ ob_sP ho204
  replace ho205 : ob M207 w199 2 := hM207 ▸ ob_sP ho205
  refine e_blk 4 107 _ _ (pc' := 90) (L' := [some (.ref a0), some (.int (12 : Int32))]) (st' := [.int (12 : Int32), .int (12 : Int32)]) rfl ?_
  refine e_icmp_ge 113 rfl rfl (fun _ => ?_) (fun hc => absurd (by decide) hc)
  exact e_ret rfl rfl (by decide) (by decide) h
def V_X7_init (K : Rs → Mm → Prop) (M : Mm) (a0 : Nat) : Prop := ∀ w1, w1 ∉ mL M → ∀ M3, M3 = nO M w1 9 4 → (ob M3 a0 7 ∧ ∀ M6, M6 = sP M3 a0 1 (some w1) → ∀ w7, w7 ∉ mL M6 → ∀ M9, M9 = nO M6 w7 9 4 → ∀ M11, M11 = sP M9 a0 2 (some w7) → ∀ w12, w12 ∉ mL M11 → ∀ M14, M14 = nO M11 w12 9 80 → ∀ M16, M16 = sP M14 a0 3 (some w12) → ∀ w17, w17 ∉ mL M16 → ∀ M19, M19 = nO M16 w17 9 80 → ∀ M21, M21 = sP M19 a0 4 (some w17) → ∀ w22, w22 ∉ mL M21 → ∀ M24, M24 = nO M21 w22 8 160 → ∀ M26, M26 = sP M24 a0 10 (some w22) → ∀ w27, w27 ∉ mL M26 → ∀ M29, M29 = nO M26 w27 10 5 → ∀ M31, M31 = sP M29 a0 16 (some w27) → ∀ w32, w32 ∉ mL M31 → ∀ M34, M34 = nO M31 w32 11 300 → ∀ M36, M36 = sP M34 a0 17 (some w32) → ∀ w37, w37 ∉ mL M36 → ∀ M39, M39 = nO M36 w37 11 12 → ∀ M41, M41 = sP M39 a0 26 (some w37) → ∀ w42, w42 ∉ mL M41 → ∀ M44, M44 = nO M41 w42 9 12 → ∀ M46, M46 = sP M44 a0 27 (some w42) → ∀ w47, w47 ∉ mL M46 → ∀ M49, M49 = nO M46 w47 9 12 → ∀ M51, M51 = sP M49 a0 28 (some w47) → ∀ w52, w52 ∉ mL M51 → ∀ M54, M54 = nO M51 w52 9 12 → ∀ M56, M56 = sP M54 a0 29 (some w52) → ∀ w57, w57 ∉ mL M56 → ∀ M59, M59 = nO M56 w57 9 12 → ∀ M61, M61 = sP M59 a0 30 (some w57) → ∀ w62, w62 ∉ mL M61 → ∀ M64, M64 = nO M61 w62 9 12 → ∀ M66, M66 = sP M64 a0 31 (some w62) → ∀ w67, w67 ∉ mL M66 → ∀ M69, M69 = nO M66 w67 10 60 → ∀ M71, M71 = sP M69 a0 32 (some w67) → ∀ w72, w72 ∉ mL M71 → ∀ M74, M74 = nO M71 w72 11 3600 → ∀ M76, M76 = sP M74 a0 33 (some w72) → ∀ w77, w77 ∉ mL M76 → ∀ M79, M79 = nO M76 w77 11 12 → ∀ M81, M81 = sP M79 a0 34 (some w77) → ∀ w82, w82 ∉ mL M81 → ∀ M84, M84 = nO M81 w82 10 12 → ∀ M86, M86 = sP M84 a0 35 (some w82) → ∀ w87, w87 ∉ mL M86 → ∀ M89, M89 = nO M86 w87 11 12 → ∀ M91, M91 = sP M89 a0 36 (some w87) → ∀ w92, w92 ∉ mL M91 → ∀ M94, M94 = nO M91 w92 10 12 → ∀ M96, M96 = sP M94 a0 37 (some w92) → ∀ w97, w97 ∉ mL M96 → ∀ M99, M99 = nO M96 w97 10 12 → ∀ M101, M101 = sP M99 a0 38 (some w97) → ∀ w102, w102 ∉ mL M101 → ∀ M104, M104 = nO M101 w102 10 12 → ∀ M106, M106 = sP M104 a0 39 (some w102) → ∀ w107, w107 ∉ mL M106 → ∀ M109, M109 = nO M106 w107 11 12 → ∀ M111, M111 = sP M109 a0 40 (some w107) → ∀ w112, w112 ∉ mL M111 → ∀ M114, M114 = nO M111 w112 11 12 → ∀ M116, M116 = sP M114 a0 41 (some w112) → ∀ w117, w117 ∉ mL M116 → ∀ M119, M119 = nO M116 w117 9 12 → ∀ M121, M121 = sP M119 a0 42 (some w117) → ∀ w122, w122 ∉ mL M121 → ∀ M124, M124 = nO M121 w122 9 12 → ∀ M126, M126 = sP M124 a0 43 (some w122) → ∀ w127, w127 ∉ mL M126 → ∀ M129, M129 = nO M126 w127 9 12 → ∀ M131, M131 = sP M129 a0 44 (some w127) → ∀ w132, w132 ∉ mL M131 → ∀ M134, M134 = nO M131 w132 9 100 → ∀ M136, M136 = sP M134 a0 46 (some w132) → ∀ w137, w137 ∉ mL M136 → ∀ M139, M139 = nO M136 w137 9 100 → ∀ M141, M141 = sP M139 a0 47 (some w137) → ∀ w142, w142 ∉ mL M141 → ∀ M144, M144 = nO M141 w142 9 100 → ∀ M146, M146 = sP M144 a0 48 (some w142) → ∀ w147, w147 ∉ mL M146 → ∀ M149, M149 = nO M146 w147 9 300 → ∀ M151, M151 = sP M149 a0 56 (some w147) → ∀ w152, w152 ∉ mL M151 → ∀ M154, M154 = nO M151 w152 9 300 → ∀ M156, M156 = sP M154 a0 57 (some w152) → ∀ w157, w157 ∉ mL M156 → ∀ M159, M159 = nO M156 w157 9 300 → ∀ M161, M161 = sP M159 a0 58 (some w157) → ∀ w162, w162 ∉ mL M161 → ∀ M164, M164 = nO M161 w162 9 300 → ∀ M166, M166 = sP M164 a0 59 (some w162) → ∀ M167, M167 = sI M166 a0 0 (0 : Int32) → K (.inl none) M167)
set_option maxRecDepth 100000 in
set_option maxHeartbeats 4000000 in
theorem x_X7_init {G : Gx} {K : Rs → Mm → Prop} {M : Mm} {a0 : Nat} (h : V_X7_init K M a0) : MC G mi_X7_init [.ref a0] M K := by
  unfold V_X7_init at h
  refine mc_of rfl (by decide +kernel) dc_X7_init (Nat.le_of_ble_eq_true rfl) 0 (Nat.le_of_ble_eq_true rfl) ?_
  show E G mi_X7_init K M 0 0 0 [some (.ref a0)] []
  refine e_blk 1 0 _ _ (pc' := 1) (L' := [some (.ref a0)]) (st' := [.ref a0]) rfl ?_
  refine e_objI rfl (aw (i := 1064) (by decide +kernel) rfl) (aw (i := 83) (by decide +kernel) rfl) (aw (i := 84) (by decide +kernel) rfl) (by decide) (by decide) ?_
  refine e_blk 2 4 _ _ (pc' := 6) (L' := [some (.ref a0)]) (st' := [.int (4 : Int32), .ref a0]) rfl ?_
  refine e_newI 4 rfl (aw (i := 190) (by decide +kernel) rfl) (by decide) rfl (by decide) (by decide) (by decide) (fun w1 hn2 => ?_)
  replace h := h w1 hn2
  generalize hM3 : nO M w1 9 4 = M3
  replace h := h M3 hM3.symm
  have ho4 : ob M3 w1 9 := hM3 ▸ ob_new
  obtain ⟨ho5, h⟩ := h
  refine e_putFA 7 1 (v := some w1) rfl rfl (by decide) (aw (i := 1066) (by decide +kernel) rfl) rfl rfl rfl ho5 rfl ?_
  generalize hM6 : sP M3 a0 1 (some w1) = M6
  replace h := h M6 hM6.symm
  replace ho4 : ob M6 w1 9 := hM6 ▸ ob_sP ho4
  replace ho5 : ob M6 a0 7 := hM6 ▸ ob_sP ho5
  refine e_blk 2 11 _ _ (pc' := 13) (L' := [some (.ref a0)]) (st' := [.int (4 : Int32), .ref a0]) rfl ?_
  refine e_newI 4 rfl (aw (i := 190) (by decide +kernel) rfl) (by decide) rfl (by decide) (by decide) (by decide) (fun w7 hn8 => ?_)
  replace h := h w7 hn8
  generalize hM9 : nO M6 w7 9 4 = M9
  replace h := h M9 hM9.symm
  replace ho4 : ob M9 w1 9 := hM9 ▸ ob_nO hn8 ho4
  replace ho5 : ob M9 a0 7 := hM9 ▸ ob_nO hn8 ho5
  have ho10 : ob M9 w7 9 := hM9 ▸ ob_new
  refine e_putFA 7 2 (v := some w7) rfl rfl (by decide) (aw (i := 1067) (by decide +kernel) rfl) rfl rfl rfl ho5 rfl ?_
  generalize hM11 : sP M9 a0 2 (some w7) = M11
  replace h := h M11 hM11.symm
  replace ho4 : ob M11 w1 9 := hM11 ▸ ob_sP ho4
  replace ho5 : ob M11 a0 7 := hM11 ▸ ob_sP ho5
  replace ho10 : ob M11 w7 9 := hM11 ▸ ob_sP ho10
  refine e_blk 2 18 _ _ (pc' := 21) (L' := [some (.ref a0)]) (st' := [.int (80 : Int32), .ref a0]) rfl ?_
  refine e_newI 80 rfl (aw (i := 190) (by decide +kernel) rfl) (by decide) rfl (by decide) (by decide) (by decide) (fun w12 hn13 => ?_)
  replace h := h w12 hn13
  generalize hM14 : nO M11 w12 9 80 = M14
  replace h := h M14 hM14.symm
  replace ho4 : ob M14 w1 9 := hM14 ▸ ob_nO hn13 ho4
  replace ho5 : ob M14 a0 7 := hM14 ▸ ob_nO hn13 ho5
  replace ho10 : ob M14 w7 9 := hM14 ▸ ob_nO hn13 ho10
  have ho15 : ob M14 w12 9 := hM14 ▸ ob_new
  refine e_putFA 7 3 (v := some w12) rfl rfl (by decide) (aw (i := 1068) (by decide +kernel) rfl) rfl rfl rfl ho5 rfl ?_
  generalize hM16 : sP M14 a0 3 (some w12) = M16
  replace h := h M16 hM16.symm
  replace ho4 : ob M16 w1 9 := hM16 ▸ ob_sP ho4
  replace ho5 : ob M16 a0 7 := hM16 ▸ ob_sP ho5
  replace ho10 : ob M16 w7 9 := hM16 ▸ ob_sP ho10
  replace ho15 : ob M16 w12 9 := hM16 ▸ ob_sP ho15
  refine e_blk 2 26 _ _ (pc' := 29) (L' := [some (.ref a0)]) (st' := [.int (80 : Int32), .ref a0]) rfl ?_
  refine e_newI 80 rfl (aw (i := 190) (by decide +kernel) rfl) (by decide) rfl (by decide) (by decide) (by decide) (fun w17 hn18 => ?_)
  replace h := h w17 hn18
  generalize hM19 : nO M16 w17 9 80 = M19
  replace h := h M19 hM19.symm
  replace ho4 : ob M19 w1 9 := hM19 ▸ ob_nO hn18 ho4
  replace ho5 : ob M19 a0 7 := hM19 ▸ ob_nO hn18 ho5
  replace ho10 : ob M19 w7 9 := hM19 ▸ ob_nO hn18 ho10
  replace ho15 : ob M19 w12 9 := hM19 ▸ ob_nO hn18 ho15
  have ho20 : ob M19 w17 9 := hM19 ▸ ob_new
  refine e_putFA 7 4 (v := some w17) rfl rfl (by decide) (aw (i := 1069) (by decide +kernel) rfl) rfl rfl rfl ho5 rfl ?_
  generalize hM21 : sP M19 a0 4 (some w17) = M21
  replace h := h M21 hM21.symm
  replace ho4 : ob M21 w1 9 := hM21 ▸ ob_sP ho4
  replace ho5 : ob M21 a0 7 := hM21 ▸ ob_sP ho5
  replace ho10 : ob M21 w7 9 := hM21 ▸ ob_sP ho10
  replace ho15 : ob M21 w12 9 := hM21 ▸ ob_sP ho15
  replace ho20 : ob M21 w17 9 := hM21 ▸ ob_sP ho20
  refine e_blk 2 34 _ _ (pc' := 38) (L' := [some (.ref a0)]) (st' := [.int (160 : Int32), .ref a0]) rfl ?_
  refine e_newB 160 rfl (aw (i := 449) (by decide +kernel) rfl) (by decide) rfl (by decide) (by decide) (by decide) (fun w22 hn23 => ?_)
  replace h := h w22 hn23
  generalize hM24 : nO M21 w22 8 160 = M24
  replace h := h M24 hM24.symm
  replace ho4 : ob M24 w1 9 := hM24 ▸ ob_nO hn23 ho4
  replace ho5 : ob M24 a0 7 := hM24 ▸ ob_nO hn23 ho5
  replace ho10 : ob M24 w7 9 := hM24 ▸ ob_nO hn23 ho10
  replace ho15 : ob M24 w12 9 := hM24 ▸ ob_nO hn23 ho15
  replace ho20 : ob M24 w17 9 := hM24 ▸ ob_nO hn23 ho20
  have ho25 : ob M24 w22 8 := hM24 ▸ ob_new
  refine e_putFA 7 10 (v := some w22) rfl rfl (by decide) (aw (i := 1075) (by decide +kernel) rfl) rfl rfl rfl ho5 rfl ?_
  generalize hM26 : sP M24 a0 10 (some w22) = M26
  replace h := h M26 hM26.symm
  replace ho4 : ob M26 w1 9 := hM26 ▸ ob_sP ho4
  replace ho5 : ob M26 a0 7 := hM26 ▸ ob_sP ho5
  replace ho10 : ob M26 w7 9 := hM26 ▸ ob_sP ho10
  replace ho15 : ob M26 w12 9 := hM26 ▸ ob_sP ho15
  replace ho20 : ob M26 w17 9 := hM26 ▸ ob_sP ho20
  replace ho25 : ob M26 w22 8 := hM26 ▸ ob_sP ho25
  refine e_blk 2 43 _ _ (pc' := 45) (L' := [some (.ref a0)]) (st' := [.int (5 : Int32), .ref a0]) rfl ?_
  refine e_newJ 5 rfl (aw (i := 191) (by decide +kernel) rfl) (by decide) rfl (by decide) (by decide) (by decide) (fun w27 hn28 => ?_)
  replace h := h w27 hn28
  generalize hM29 : nO M26 w27 10 5 = M29
  replace h := h M29 hM29.symm
  replace ho4 : ob M29 w1 9 := hM29 ▸ ob_nO hn28 ho4
  replace ho5 : ob M29 a0 7 := hM29 ▸ ob_nO hn28 ho5
  replace ho10 : ob M29 w7 9 := hM29 ▸ ob_nO hn28 ho10
  replace ho15 : ob M29 w12 9 := hM29 ▸ ob_nO hn28 ho15
  replace ho20 : ob M29 w17 9 := hM29 ▸ ob_nO hn28 ho20
  replace ho25 : ob M29 w22 8 := hM29 ▸ ob_nO hn28 ho25
  have ho30 : ob M29 w27 10 := hM29 ▸ ob_new
  refine e_putFA 7 16 (v := some w27) rfl rfl (by decide) (aw (i := 1081) (by decide +kernel) rfl) rfl rfl rfl ho5 rfl ?_
  generalize hM31 : sP M29 a0 16 (some w27) = M31
  replace h := h M31 hM31.symm
  replace ho4 : ob M31 w1 9 := hM31 ▸ ob_sP ho4
  replace ho5 : ob M31 a0 7 := hM31 ▸ ob_sP ho5
  replace ho10 : ob M31 w7 9 := hM31 ▸ ob_sP ho10
  replace ho15 : ob M31 w12 9 := hM31 ▸ ob_sP ho15
  replace ho20 : ob M31 w17 9 := hM31 ▸ ob_sP ho20
  replace ho25 : ob M31 w22 8 := hM31 ▸ ob_sP ho25
  replace ho30 : ob M31 w27 10 := hM31 ▸ ob_sP ho30
  refine e_blk 2 50 _ _ (pc' := 54) (L' := [some (.ref a0)]) (st' := [.int (300 : Int32), .ref a0]) rfl ?_
  refine e_newZ 300 rfl (aw (i := 1246) (by decide +kernel) rfl) (by decide) rfl (by decide) (by decide) (by decide) (fun w32 hn33 => ?_)
  replace h := h w32 hn33
  generalize hM34 : nO M31 w32 11 300 = M34
  replace h := h M34 hM34.symm
  replace ho4 : ob M34 w1 9 := hM34 ▸ ob_nO hn33 ho4
  replace ho5 : ob M34 a0 7 := hM34 ▸ ob_nO hn33 ho5
  replace ho10 : ob M34 w7 9 := hM34 ▸ ob_nO hn33 ho10
  replace ho15 : ob M34 w12 9 := hM34 ▸ ob_nO hn33 ho15
  replace ho20 : ob M34 w17 9 := hM34 ▸ ob_nO hn33 ho20
  replace ho25 : ob M34 w22 8 := hM34 ▸ ob_nO hn33 ho25
  replace ho30 : ob M34 w27 10 := hM34 ▸ ob_nO hn33 ho30
  have ho35 : ob M34 w32 11 := hM34 ▸ ob_new
  refine e_putFA 7 17 (v := some w32) rfl rfl (by decide) (aw (i := 1082) (by decide +kernel) rfl) rfl rfl rfl ho5 rfl ?_
  generalize hM36 : sP M34 a0 17 (some w32) = M36
  replace h := h M36 hM36.symm
  replace ho4 : ob M36 w1 9 := hM36 ▸ ob_sP ho4
  replace ho5 : ob M36 a0 7 := hM36 ▸ ob_sP ho5
  replace ho10 : ob M36 w7 9 := hM36 ▸ ob_sP ho10
  replace ho15 : ob M36 w12 9 := hM36 ▸ ob_sP ho15
  replace ho20 : ob M36 w17 9 := hM36 ▸ ob_sP ho20
  replace ho25 : ob M36 w22 8 := hM36 ▸ ob_sP ho25
  replace ho30 : ob M36 w27 10 := hM36 ▸ ob_sP ho30
  replace ho35 : ob M36 w32 11 := hM36 ▸ ob_sP ho35
  refine e_blk 2 59 _ _ (pc' := 62) (L' := [some (.ref a0)]) (st' := [.int (12 : Int32), .ref a0]) rfl ?_
  refine e_newZ 12 rfl (aw (i := 1246) (by decide +kernel) rfl) (by decide) rfl (by decide) (by decide) (by decide) (fun w37 hn38 => ?_)
  replace h := h w37 hn38
  generalize hM39 : nO M36 w37 11 12 = M39
  replace h := h M39 hM39.symm
  replace ho4 : ob M39 w1 9 := hM39 ▸ ob_nO hn38 ho4
  replace ho5 : ob M39 a0 7 := hM39 ▸ ob_nO hn38 ho5
  replace ho10 : ob M39 w7 9 := hM39 ▸ ob_nO hn38 ho10
  replace ho15 : ob M39 w12 9 := hM39 ▸ ob_nO hn38 ho15
  replace ho20 : ob M39 w17 9 := hM39 ▸ ob_nO hn38 ho20
  replace ho25 : ob M39 w22 8 := hM39 ▸ ob_nO hn38 ho25
  replace ho30 : ob M39 w27 10 := hM39 ▸ ob_nO hn38 ho30
  replace ho35 : ob M39 w32 11 := hM39 ▸ ob_nO hn38 ho35
  have ho40 : ob M39 w37 11 := hM39 ▸ ob_new
  refine e_putFA 7 26 (v := some w37) rfl rfl (by decide) (aw (i := 1091) (by decide +kernel) rfl) rfl rfl rfl ho5 rfl ?_
  generalize hM41 : sP M39 a0 26 (some w37) = M41
  replace h := h M41 hM41.symm
  replace ho4 : ob M41 w1 9 := hM41 ▸ ob_sP ho4
  replace ho5 : ob M41 a0 7 := hM41 ▸ ob_sP ho5
  replace ho10 : ob M41 w7 9 := hM41 ▸ ob_sP ho10
  replace ho15 : ob M41 w12 9 := hM41 ▸ ob_sP ho15
  replace ho20 : ob M41 w17 9 := hM41 ▸ ob_sP ho20
  replace ho25 : ob M41 w22 8 := hM41 ▸ ob_sP ho25
  replace ho30 : ob M41 w27 10 := hM41 ▸ ob_sP ho30
  replace ho35 : ob M41 w32 11 := hM41 ▸ ob_sP ho35
  replace ho40 : ob M41 w37 11 := hM41 ▸ ob_sP ho40
  refine e_blk 2 67 _ _ (pc' := 70) (L' := [some (.ref a0)]) (st' := [.int (12 : Int32), .ref a0]) rfl ?_
  refine e_newI 12 rfl (aw (i := 190) (by decide +kernel) rfl) (by decide) rfl (by decide) (by decide) (by decide) (fun w42 hn43 => ?_)
  replace h := h w42 hn43
  generalize hM44 : nO M41 w42 9 12 = M44
  replace h := h M44 hM44.symm
  replace ho4 : ob M44 w1 9 := hM44 ▸ ob_nO hn43 ho4
  replace ho5 : ob M44 a0 7 := hM44 ▸ ob_nO hn43 ho5
  replace ho10 : ob M44 w7 9 := hM44 ▸ ob_nO hn43 ho10
  replace ho15 : ob M44 w12 9 := hM44 ▸ ob_nO hn43 ho15
  replace ho20 : ob M44 w17 9 := hM44 ▸ ob_nO hn43 ho20
  replace ho25 : ob M44 w22 8 := hM44 ▸ ob_nO hn43 ho25
  replace ho30 : ob M44 w27 10 := hM44 ▸ ob_nO hn43 ho30
  replace ho35 : ob M44 w32 11 := hM44 ▸ ob_nO hn43 ho35
  replace ho40 : ob M44 w37 11 := hM44 ▸ ob_nO hn43 ho40
  have ho45 : ob M44 w42 9 := hM44 ▸ ob_new
  refine e_putFA 7 27 (v := some w42) rfl rfl (by decide) (aw (i := 1092) (by decide +kernel) rfl) rfl rfl rfl ho5 rfl ?_
  generalize hM46 : sP M44 a0 27 (some w42) = M46
  replace h := h M46 hM46.symm
  replace ho4 : ob M46 w1 9 := hM46 ▸ ob_sP ho4
  replace ho5 : ob M46 a0 7 := hM46 ▸ ob_sP ho5
  replace ho10 : ob M46 w7 9 := hM46 ▸ ob_sP ho10
  replace ho15 : ob M46 w12 9 := hM46 ▸ ob_sP ho15
  replace ho20 : ob M46 w17 9 := hM46 ▸ ob_sP ho20
  replace ho25 : ob M46 w22 8 := hM46 ▸ ob_sP ho25
  replace ho30 : ob M46 w27 10 := hM46 ▸ ob_sP ho30
  replace ho35 : ob M46 w32 11 := hM46 ▸ ob_sP ho35
  replace ho40 : ob M46 w37 11 := hM46 ▸ ob_sP ho40
  replace ho45 : ob M46 w42 9 := hM46 ▸ ob_sP ho45
  refine e_blk 2 75 _ _ (pc' := 78) (L' := [some (.ref a0)]) (st' := [.int (12 : Int32), .ref a0]) rfl ?_
  refine e_newI 12 rfl (aw (i := 190) (by decide +kernel) rfl) (by decide) rfl (by decide) (by decide) (by decide) (fun w47 hn48 => ?_)
  replace h := h w47 hn48
  generalize hM49 : nO M46 w47 9 12 = M49
  replace h := h M49 hM49.symm
  replace ho4 : ob M49 w1 9 := hM49 ▸ ob_nO hn48 ho4
  replace ho5 : ob M49 a0 7 := hM49 ▸ ob_nO hn48 ho5
  replace ho10 : ob M49 w7 9 := hM49 ▸ ob_nO hn48 ho10
  replace ho15 : ob M49 w12 9 := hM49 ▸ ob_nO hn48 ho15
  replace ho20 : ob M49 w17 9 := hM49 ▸ ob_nO hn48 ho20
  replace ho25 : ob M49 w22 8 := hM49 ▸ ob_nO hn48 ho25
  replace ho30 : ob M49 w27 10 := hM49 ▸ ob_nO hn48 ho30
  replace ho35 : ob M49 w32 11 := hM49 ▸ ob_nO hn48 ho35
  replace ho40 : ob M49 w37 11 := hM49 ▸ ob_nO hn48 ho40
  replace ho45 : ob M49 w42 9 := hM49 ▸ ob_nO hn48 ho45
  have ho50 : ob M49 w47 9 := hM49 ▸ ob_new
  refine e_putFA 7 28 (v := some w47) rfl rfl (by decide) (aw (i := 1093) (by decide +kernel) rfl) rfl rfl rfl ho5 rfl ?_
  generalize hM51 : sP M49 a0 28 (some w47) = M51
  replace h := h M51 hM51.symm
  replace ho4 : ob M51 w1 9 := hM51 ▸ ob_sP ho4
  replace ho5 : ob M51 a0 7 := hM51 ▸ ob_sP ho5
  replace ho10 : ob M51 w7 9 := hM51 ▸ ob_sP ho10
  replace ho15 : ob M51 w12 9 := hM51 ▸ ob_sP ho15
  replace ho20 : ob M51 w17 9 := hM51 ▸ ob_sP ho20
  replace ho25 : ob M51 w22 8 := hM51 ▸ ob_sP ho25
  replace ho30 : ob M51 w27 10 := hM51 ▸ ob_sP ho30
  replace ho35 : ob M51 w32 11 := hM51 ▸ ob_sP ho35
  replace ho40 : ob M51 w37 11 := hM51 ▸ ob_sP ho40
  replace ho45 : ob M51 w42 9 := hM51 ▸ ob_sP ho45
  replace ho50 : ob M51 w47 9 := hM51 ▸ ob_sP ho50
  refine e_blk 2 83 _ _ (pc' := 86) (L' := [some (.ref a0)]) (st' := [.int (12 : Int32), .ref a0]) rfl ?_
  refine e_newI 12 rfl (aw (i := 190) (by decide +kernel) rfl) (by decide) rfl (by decide) (by decide) (by decide) (fun w52 hn53 => ?_)
  replace h := h w52 hn53
  generalize hM54 : nO M51 w52 9 12 = M54
  replace h := h M54 hM54.symm
  replace ho4 : ob M54 w1 9 := hM54 ▸ ob_nO hn53 ho4
  replace ho5 : ob M54 a0 7 := hM54 ▸ ob_nO hn53 ho5
  replace ho10 : ob M54 w7 9 := hM54 ▸ ob_nO hn53 ho10
  replace ho15 : ob M54 w12 9 := hM54 ▸ ob_nO hn53 ho15
  replace ho20 : ob M54 w17 9 := hM54 ▸ ob_nO hn53 ho20
  replace ho25 : ob M54 w22 8 := hM54 ▸ ob_nO hn53 ho25
  replace ho30 : ob M54 w27 10 := hM54 ▸ ob_nO hn53 ho30
  replace ho35 : ob M54 w32 11 := hM54 ▸ ob_nO hn53 ho35
  replace ho40 : ob M54 w37 11 := hM54 ▸ ob_nO hn53 ho40
  replace ho45 : ob M54 w42 9 := hM54 ▸ ob_nO hn53 ho45
  replace ho50 : ob M54 w47 9 := hM54 ▸ ob_nO hn53 ho50
  have ho55 : ob M54 w52 9 := hM54 ▸ ob_new
  refine e_putFA 7 29 (v := some w52) rfl rfl (by decide) (aw (i := 1094) (by decide +kernel) rfl) rfl rfl rfl ho5 rfl ?_
  generalize hM56 : sP M54 a0 29 (some w52) = M56
  replace h := h M56 hM56.symm
  replace ho4 : ob M56 w1 9 := hM56 ▸ ob_sP ho4
  replace ho5 : ob M56 a0 7 := hM56 ▸ ob_sP ho5
  replace ho10 : ob M56 w7 9 := hM56 ▸ ob_sP ho10
  replace ho15 : ob M56 w12 9 := hM56 ▸ ob_sP ho15
  replace ho20 : ob M56 w17 9 := hM56 ▸ ob_sP ho20
  replace ho25 : ob M56 w22 8 := hM56 ▸ ob_sP ho25
  replace ho30 : ob M56 w27 10 := hM56 ▸ ob_sP ho30
  replace ho35 : ob M56 w32 11 := hM56 ▸ ob_sP ho35
  replace ho40 : ob M56 w37 11 := hM56 ▸ ob_sP ho40
  replace ho45 : ob M56 w42 9 := hM56 ▸ ob_sP ho45
  replace ho50 : ob M56 w47 9 := hM56 ▸ ob_sP ho50
  replace ho55 : ob M56 w52 9 := hM56 ▸ ob_sP ho55
  refine e_blk 2 91 _ _ (pc' := 94) (L' := [some (.ref a0)]) (st' := [.int (12 : Int32), .ref a0]) rfl ?_
  refine e_newI 12 rfl (aw (i := 190) (by decide +kernel) rfl) (by decide) rfl (by decide) (by decide) (by decide) (fun w57 hn58 => ?_)
  replace h := h w57 hn58
  generalize hM59 : nO M56 w57 9 12 = M59
  replace h := h M59 hM59.symm
  replace ho4 : ob M59 w1 9 := hM59 ▸ ob_nO hn58 ho4
  replace ho5 : ob M59 a0 7 := hM59 ▸ ob_nO hn58 ho5
  replace ho10 : ob M59 w7 9 := hM59 ▸ ob_nO hn58 ho10
  replace ho15 : ob M59 w12 9 := hM59 ▸ ob_nO hn58 ho15
  replace ho20 : ob M59 w17 9 := hM59 ▸ ob_nO hn58 ho20
  replace ho25 : ob M59 w22 8 := hM59 ▸ ob_nO hn58 ho25
  replace ho30 : ob M59 w27 10 := hM59 ▸ ob_nO hn58 ho30
  replace ho35 : ob M59 w32 11 := hM59 ▸ ob_nO hn58 ho35
  replace ho40 : ob M59 w37 11 := hM59 ▸ ob_nO hn58 ho40
  replace ho45 : ob M59 w42 9 := hM59 ▸ ob_nO hn58 ho45
  replace ho50 : ob M59 w47 9 := hM59 ▸ ob_nO hn58 ho50
  replace ho55 : ob M59 w52 9 := hM59 ▸ ob_nO hn58 ho55
  have ho60 : ob M59 w57 9 := hM59 ▸ ob_new
  refine e_putFA 7 30 (v := some w57) rfl rfl (by decide) (aw (i := 1095) (by decide +kernel) rfl) rfl rfl rfl ho5 rfl ?_
  generalize hM61 : sP M59 a0 30 (some w57) = M61
  replace h := h M61 hM61.symm
  replace ho4 : ob M61 w1 9 := hM61 ▸ ob_sP ho4
  replace ho5 : ob M61 a0 7 := hM61 ▸ ob_sP ho5
  replace ho10 : ob M61 w7 9 := hM61 ▸ ob_sP ho10
  replace ho15 : ob M61 w12 9 := hM61 ▸ ob_sP ho15
  replace ho20 : ob M61 w17 9 := hM61 ▸ ob_sP ho20
  replace ho25 : ob M61 w22 8 := hM61 ▸ ob_sP ho25
  replace ho30 : ob M61 w27 10 := hM61 ▸ ob_sP ho30
  replace ho35 : ob M61 w32 11 := hM61 ▸ ob_sP ho35
  replace ho40 : ob M61 w37 11 := hM61 ▸ ob_sP ho40
  replace ho45 : ob M61 w42 9 := hM61 ▸ ob_sP ho45
  replace ho50 : ob M61 w47 9 := hM61 ▸ ob_sP ho50
  replace ho55 : ob M61 w52 9 := hM61 ▸ ob_sP ho55
  replace ho60 : ob M61 w57 9 := hM61 ▸ ob_sP ho60
  refine e_blk 2 99 _ _ (pc' := 102) (L' := [some (.ref a0)]) (st' := [.int (12 : Int32), .ref a0]) rfl ?_
  refine e_newI 12 rfl (aw (i := 190) (by decide +kernel) rfl) (by decide) rfl (by decide) (by decide) (by decide) (fun w62 hn63 => ?_)
  replace h := h w62 hn63
  generalize hM64 : nO M61 w62 9 12 = M64
  replace h := h M64 hM64.symm
  replace ho4 : ob M64 w1 9 := hM64 ▸ ob_nO hn63 ho4
  replace ho5 : ob M64 a0 7 := hM64 ▸ ob_nO hn63 ho5
  replace ho10 : ob M64 w7 9 := hM64 ▸ ob_nO hn63 ho10
  replace ho15 : ob M64 w12 9 := hM64 ▸ ob_nO hn63 ho15
  replace ho20 : ob M64 w17 9 := hM64 ▸ ob_nO hn63 ho20
  replace ho25 : ob M64 w22 8 := hM64 ▸ ob_nO hn63 ho25
  replace ho30 : ob M64 w27 10 := hM64 ▸ ob_nO hn63 ho30
  replace ho35 : ob M64 w32 11 := hM64 ▸ ob_nO hn63 ho35
  replace ho40 : ob M64 w37 11 := hM64 ▸ ob_nO hn63 ho40
  replace ho45 : ob M64 w42 9 := hM64 ▸ ob_nO hn63 ho45
  replace ho50 : ob M64 w47 9 := hM64 ▸ ob_nO hn63 ho50
  replace ho55 : ob M64 w52 9 := hM64 ▸ ob_nO hn63 ho55
  replace ho60 : ob M64 w57 9 := hM64 ▸ ob_nO hn63 ho60
  have ho65 : ob M64 w62 9 := hM64 ▸ ob_new
  refine e_putFA 7 31 (v := some w62) rfl rfl (by decide) (aw (i := 1096) (by decide +kernel) rfl) rfl rfl rfl ho5 rfl ?_
  generalize hM66 : sP M64 a0 31 (some w62) = M66
  replace h := h M66 hM66.symm
  replace ho4 : ob M66 w1 9 := hM66 ▸ ob_sP ho4
  replace ho5 : ob M66 a0 7 := hM66 ▸ ob_sP ho5
  replace ho10 : ob M66 w7 9 := hM66 ▸ ob_sP ho10
  replace ho15 : ob M66 w12 9 := hM66 ▸ ob_sP ho15
  replace ho20 : ob M66 w17 9 := hM66 ▸ ob_sP ho20
  replace ho25 : ob M66 w22 8 := hM66 ▸ ob_sP ho25
  replace ho30 : ob M66 w27 10 := hM66 ▸ ob_sP ho30
  replace ho35 : ob M66 w32 11 := hM66 ▸ ob_sP ho35
  replace ho40 : ob M66 w37 11 := hM66 ▸ ob_sP ho40
  replace ho45 : ob M66 w42 9 := hM66 ▸ ob_sP ho45
  replace ho50 : ob M66 w47 9 := hM66 ▸ ob_sP ho50
  replace ho55 : ob M66 w52 9 := hM66 ▸ ob_sP ho55
  replace ho60 : ob M66 w57 9 := hM66 ▸ ob_sP ho60
  replace ho65 : ob M66 w62 9 := hM66 ▸ ob_sP ho65
  refine e_blk 2 107 _ _ (pc' := 110) (L' := [some (.ref a0)]) (st' := [.int (60 : Int32), .ref a0]) rfl ?_
  refine e_newJ 60 rfl (aw (i := 191) (by decide +kernel) rfl) (by decide) rfl (by decide) (by decide) (by decide) (fun w67 hn68 => ?_)
  replace h := h w67 hn68
  generalize hM69 : nO M66 w67 10 60 = M69
  replace h := h M69 hM69.symm
  replace ho4 : ob M69 w1 9 := hM69 ▸ ob_nO hn68 ho4
  replace ho5 : ob M69 a0 7 := hM69 ▸ ob_nO hn68 ho5
  replace ho10 : ob M69 w7 9 := hM69 ▸ ob_nO hn68 ho10
  replace ho15 : ob M69 w12 9 := hM69 ▸ ob_nO hn68 ho15
  replace ho20 : ob M69 w17 9 := hM69 ▸ ob_nO hn68 ho20
  replace ho25 : ob M69 w22 8 := hM69 ▸ ob_nO hn68 ho25
  replace ho30 : ob M69 w27 10 := hM69 ▸ ob_nO hn68 ho30
  replace ho35 : ob M69 w32 11 := hM69 ▸ ob_nO hn68 ho35
  replace ho40 : ob M69 w37 11 := hM69 ▸ ob_nO hn68 ho40
  replace ho45 : ob M69 w42 9 := hM69 ▸ ob_nO hn68 ho45
  replace ho50 : ob M69 w47 9 := hM69 ▸ ob_nO hn68 ho50
  replace ho55 : ob M69 w52 9 := hM69 ▸ ob_nO hn68 ho55
  replace ho60 : ob M69 w57 9 := hM69 ▸ ob_nO hn68 ho60
  replace ho65 : ob M69 w62 9 := hM69 ▸ ob_nO hn68 ho65
  have ho70 : ob M69 w67 10 := hM69 ▸ ob_new
  refine e_putFA 7 32 (v := some w67) rfl rfl (by decide) (aw (i := 1097) (by decide +kernel) rfl) rfl rfl rfl ho5 rfl ?_
  generalize hM71 : sP M69 a0 32 (some w67) = M71
  replace h := h M71 hM71.symm
  replace ho4 : ob M71 w1 9 := hM71 ▸ ob_sP ho4
  replace ho5 : ob M71 a0 7 := hM71 ▸ ob_sP ho5
  replace ho10 : ob M71 w7 9 := hM71 ▸ ob_sP ho10
  replace ho15 : ob M71 w12 9 := hM71 ▸ ob_sP ho15
  replace ho20 : ob M71 w17 9 := hM71 ▸ ob_sP ho20
  replace ho25 : ob M71 w22 8 := hM71 ▸ ob_sP ho25
  replace ho30 : ob M71 w27 10 := hM71 ▸ ob_sP ho30
  replace ho35 : ob M71 w32 11 := hM71 ▸ ob_sP ho35
  replace ho40 : ob M71 w37 11 := hM71 ▸ ob_sP ho40
  replace ho45 : ob M71 w42 9 := hM71 ▸ ob_sP ho45
  replace ho50 : ob M71 w47 9 := hM71 ▸ ob_sP ho50
  replace ho55 : ob M71 w52 9 := hM71 ▸ ob_sP ho55
  replace ho60 : ob M71 w57 9 := hM71 ▸ ob_sP ho60
  replace ho65 : ob M71 w62 9 := hM71 ▸ ob_sP ho65
  replace ho70 : ob M71 w67 10 := hM71 ▸ ob_sP ho70
  refine e_blk 2 115 _ _ (pc' := 119) (L' := [some (.ref a0)]) (st' := [.int (3600 : Int32), .ref a0]) rfl ?_
  refine e_newZ 3600 rfl (aw (i := 1246) (by decide +kernel) rfl) (by decide) rfl (by decide) (by decide) (by decide) (fun w72 hn73 => ?_)
  replace h := h w72 hn73
  generalize hM74 : nO M71 w72 11 3600 = M74
  replace h := h M74 hM74.symm
  replace ho4 : ob M74 w1 9 := hM74 ▸ ob_nO hn73 ho4
  replace ho5 : ob M74 a0 7 := hM74 ▸ ob_nO hn73 ho5
  replace ho10 : ob M74 w7 9 := hM74 ▸ ob_nO hn73 ho10
  replace ho15 : ob M74 w12 9 := hM74 ▸ ob_nO hn73 ho15
  replace ho20 : ob M74 w17 9 := hM74 ▸ ob_nO hn73 ho20
  replace ho25 : ob M74 w22 8 := hM74 ▸ ob_nO hn73 ho25
  replace ho30 : ob M74 w27 10 := hM74 ▸ ob_nO hn73 ho30
  replace ho35 : ob M74 w32 11 := hM74 ▸ ob_nO hn73 ho35
  replace ho40 : ob M74 w37 11 := hM74 ▸ ob_nO hn73 ho40
  replace ho45 : ob M74 w42 9 := hM74 ▸ ob_nO hn73 ho45
  replace ho50 : ob M74 w47 9 := hM74 ▸ ob_nO hn73 ho50
  replace ho55 : ob M74 w52 9 := hM74 ▸ ob_nO hn73 ho55
  replace ho60 : ob M74 w57 9 := hM74 ▸ ob_nO hn73 ho60
  replace ho65 : ob M74 w62 9 := hM74 ▸ ob_nO hn73 ho65
  replace ho70 : ob M74 w67 10 := hM74 ▸ ob_nO hn73 ho70
  have ho75 : ob M74 w72 11 := hM74 ▸ ob_new
  refine e_putFA 7 33 (v := some w72) rfl rfl (by decide) (aw (i := 1098) (by decide +kernel) rfl) rfl rfl rfl ho5 rfl ?_
  generalize hM76 : sP M74 a0 33 (some w72) = M76
  replace h := h M76 hM76.symm
  replace ho4 : ob M76 w1 9 := hM76 ▸ ob_sP ho4
  replace ho5 : ob M76 a0 7 := hM76 ▸ ob_sP ho5
  replace ho10 : ob M76 w7 9 := hM76 ▸ ob_sP ho10
  replace ho15 : ob M76 w12 9 := hM76 ▸ ob_sP ho15
  replace ho20 : ob M76 w17 9 := hM76 ▸ ob_sP ho20
  replace ho25 : ob M76 w22 8 := hM76 ▸ ob_sP ho25
  replace ho30 : ob M76 w27 10 := hM76 ▸ ob_sP ho30
  replace ho35 : ob M76 w32 11 := hM76 ▸ ob_sP ho35
  replace ho40 : ob M76 w37 11 := hM76 ▸ ob_sP ho40
  replace ho45 : ob M76 w42 9 := hM76 ▸ ob_sP ho45
  replace ho50 : ob M76 w47 9 := hM76 ▸ ob_sP ho50
  replace ho55 : ob M76 w52 9 := hM76 ▸ ob_sP ho55
  replace ho60 : ob M76 w57 9 := hM76 ▸ ob_sP ho60
  replace ho65 : ob M76 w62 9 := hM76 ▸ ob_sP ho65
  replace ho70 : ob M76 w67 10 := hM76 ▸ ob_sP ho70
  replace ho75 : ob M76 w72 11 := hM76 ▸ ob_sP ho75
  refine e_blk 2 124 _ _ (pc' := 127) (L' := [some (.ref a0)]) (st' := [.int (12 : Int32), .ref a0]) rfl ?_
  refine e_newZ 12 rfl (aw (i := 1246) (by decide +kernel) rfl) (by decide) rfl (by decide) (by decide) (by decide) (fun w77 hn78 => ?_)
  replace h := h w77 hn78
  generalize hM79 : nO M76 w77 11 12 = M79
  replace h := h M79 hM79.symm
  replace ho4 : ob M79 w1 9 := hM79 ▸ ob_nO hn78 ho4
  replace ho5 : ob M79 a0 7 := hM79 ▸ ob_nO hn78 ho5
  replace ho10 : ob M79 w7 9 := hM79 ▸ ob_nO hn78 ho10
  replace ho15 : ob M79 w12 9 := hM79 ▸ ob_nO hn78 ho15
  replace ho20 : ob M79 w17 9 := hM79 ▸ ob_nO hn78 ho20
  replace ho25 : ob M79 w22 8 := hM79 ▸ ob_nO hn78 ho25
  replace ho30 : ob M79 w27 10 := hM79 ▸ ob_nO hn78 ho30
  replace ho35 : ob M79 w32 11 := hM79 ▸ ob_nO hn78 ho35
  replace ho40 : ob M79 w37 11 := hM79 ▸ ob_nO hn78 ho40
  replace ho45 : ob M79 w42 9 := hM79 ▸ ob_nO hn78 ho45
  replace ho50 : ob M79 w47 9 := hM79 ▸ ob_nO hn78 ho50
  replace ho55 : ob M79 w52 9 := hM79 ▸ ob_nO hn78 ho55
  replace ho60 : ob M79 w57 9 := hM79 ▸ ob_nO hn78 ho60
  replace ho65 : ob M79 w62 9 := hM79 ▸ ob_nO hn78 ho65
  replace ho70 : ob M79 w67 10 := hM79 ▸ ob_nO hn78 ho70
  replace ho75 : ob M79 w72 11 := hM79 ▸ ob_nO hn78 ho75
  have ho80 : ob M79 w77 11 := hM79 ▸ ob_new
  refine e_putFA 7 34 (v := some w77) rfl rfl (by decide) (aw (i := 1099) (by decide +kernel) rfl) rfl rfl rfl ho5 rfl ?_
  generalize hM81 : sP M79 a0 34 (some w77) = M81
  replace h := h M81 hM81.symm
  replace ho4 : ob M81 w1 9 := hM81 ▸ ob_sP ho4
  replace ho5 : ob M81 a0 7 := hM81 ▸ ob_sP ho5
  replace ho10 : ob M81 w7 9 := hM81 ▸ ob_sP ho10
  replace ho15 : ob M81 w12 9 := hM81 ▸ ob_sP ho15
  replace ho20 : ob M81 w17 9 := hM81 ▸ ob_sP ho20
  replace ho25 : ob M81 w22 8 := hM81 ▸ ob_sP ho25
  replace ho30 : ob M81 w27 10 := hM81 ▸ ob_sP ho30
  replace ho35 : ob M81 w32 11 := hM81 ▸ ob_sP ho35
  replace ho40 : ob M81 w37 11 := hM81 ▸ ob_sP ho40
  replace ho45 : ob M81 w42 9 := hM81 ▸ ob_sP ho45
  replace ho50 : ob M81 w47 9 := hM81 ▸ ob_sP ho50
  replace ho55 : ob M81 w52 9 := hM81 ▸ ob_sP ho55
  replace ho60 : ob M81 w57 9 := hM81 ▸ ob_sP ho60
  replace ho65 : ob M81 w62 9 := hM81 ▸ ob_sP ho65
  replace ho70 : ob M81 w67 10 := hM81 ▸ ob_sP ho70
  replace ho75 : ob M81 w72 11 := hM81 ▸ ob_sP ho75
  replace ho80 : ob M81 w77 11 := hM81 ▸ ob_sP ho80
  refine e_blk 2 132 _ _ (pc' := 135) (L' := [some (.ref a0)]) (st' := [.int (12 : Int32), .ref a0]) rfl ?_
  refine e_newJ 12 rfl (aw (i := 191) (by decide +kernel) rfl) (by decide) rfl (by decide) (by decide) (by decide) (fun w82 hn83 => ?_)
  replace h := h w82 hn83
  generalize hM84 : nO M81 w82 10 12 = M84
  replace h := h M84 hM84.symm
  replace ho4 : ob M84 w1 9 := hM84 ▸ ob_nO hn83 ho4
  replace ho5 : ob M84 a0 7 := hM84 ▸ ob_nO hn83 ho5
  replace ho10 : ob M84 w7 9 := hM84 ▸ ob_nO hn83 ho10
  replace ho15 : ob M84 w12 9 := hM84 ▸ ob_nO hn83 ho15
  replace ho20 : ob M84 w17 9 := hM84 ▸ ob_nO hn83 ho20
  replace ho25 : ob M84 w22 8 := hM84 ▸ ob_nO hn83 ho25
  replace ho30 : ob M84 w27 10 := hM84 ▸ ob_nO hn83 ho30
  replace ho35 : ob M84 w32 11 := hM84 ▸ ob_nO hn83 ho35
  replace ho40 : ob M84 w37 11 := hM84 ▸ ob_nO hn83 ho40
  replace ho45 : ob M84 w42 9 := hM84 ▸ ob_nO hn83 ho45
  replace ho50 : ob M84 w47 9 := hM84 ▸ ob_nO hn83 ho50
  replace ho55 : ob M84 w52 9 := hM84 ▸ ob_nO hn83 ho55
  replace ho60 : ob M84 w57 9 := hM84 ▸ ob_nO hn83 ho60
  replace ho65 : ob M84 w62 9 := hM84 ▸ ob_nO hn83 ho65
  replace ho70 : ob M84 w67 10 := hM84 ▸ ob_nO hn83 ho70
  replace ho75 : ob M84 w72 11 := hM84 ▸ ob_nO hn83 ho75
  replace ho80 : ob M84 w77 11 := hM84 ▸ ob_nO hn83 ho80
  have ho85 : ob M84 w82 10 := hM84 ▸ ob_new
  refine e_putFA 7 35 (v := some w82) rfl rfl (by decide) (aw (i := 1100) (by decide +kernel) rfl) rfl rfl rfl ho5 rfl ?_
  generalize hM86 : sP M84 a0 35 (some w82) = M86
  replace h := h M86 hM86.symm
  replace ho4 : ob M86 w1 9 := hM86 ▸ ob_sP ho4
  replace ho5 : ob M86 a0 7 := hM86 ▸ ob_sP ho5
  replace ho10 : ob M86 w7 9 := hM86 ▸ ob_sP ho10
  replace ho15 : ob M86 w12 9 := hM86 ▸ ob_sP ho15
  replace ho20 : ob M86 w17 9 := hM86 ▸ ob_sP ho20
  replace ho25 : ob M86 w22 8 := hM86 ▸ ob_sP ho25
  replace ho30 : ob M86 w27 10 := hM86 ▸ ob_sP ho30
  replace ho35 : ob M86 w32 11 := hM86 ▸ ob_sP ho35
  replace ho40 : ob M86 w37 11 := hM86 ▸ ob_sP ho40
  replace ho45 : ob M86 w42 9 := hM86 ▸ ob_sP ho45
  replace ho50 : ob M86 w47 9 := hM86 ▸ ob_sP ho50
  replace ho55 : ob M86 w52 9 := hM86 ▸ ob_sP ho55
  replace ho60 : ob M86 w57 9 := hM86 ▸ ob_sP ho60
  replace ho65 : ob M86 w62 9 := hM86 ▸ ob_sP ho65
  replace ho70 : ob M86 w67 10 := hM86 ▸ ob_sP ho70
  replace ho75 : ob M86 w72 11 := hM86 ▸ ob_sP ho75
  replace ho80 : ob M86 w77 11 := hM86 ▸ ob_sP ho80
  replace ho85 : ob M86 w82 10 := hM86 ▸ ob_sP ho85
  refine e_blk 2 140 _ _ (pc' := 143) (L' := [some (.ref a0)]) (st' := [.int (12 : Int32), .ref a0]) rfl ?_
  refine e_newZ 12 rfl (aw (i := 1246) (by decide +kernel) rfl) (by decide) rfl (by decide) (by decide) (by decide) (fun w87 hn88 => ?_)
  replace h := h w87 hn88
  generalize hM89 : nO M86 w87 11 12 = M89
  replace h := h M89 hM89.symm
  replace ho4 : ob M89 w1 9 := hM89 ▸ ob_nO hn88 ho4
  replace ho5 : ob M89 a0 7 := hM89 ▸ ob_nO hn88 ho5
  replace ho10 : ob M89 w7 9 := hM89 ▸ ob_nO hn88 ho10
  replace ho15 : ob M89 w12 9 := hM89 ▸ ob_nO hn88 ho15
  replace ho20 : ob M89 w17 9 := hM89 ▸ ob_nO hn88 ho20
  replace ho25 : ob M89 w22 8 := hM89 ▸ ob_nO hn88 ho25
  replace ho30 : ob M89 w27 10 := hM89 ▸ ob_nO hn88 ho30
  replace ho35 : ob M89 w32 11 := hM89 ▸ ob_nO hn88 ho35
  replace ho40 : ob M89 w37 11 := hM89 ▸ ob_nO hn88 ho40
  replace ho45 : ob M89 w42 9 := hM89 ▸ ob_nO hn88 ho45
  replace ho50 : ob M89 w47 9 := hM89 ▸ ob_nO hn88 ho50
  replace ho55 : ob M89 w52 9 := hM89 ▸ ob_nO hn88 ho55
  replace ho60 : ob M89 w57 9 := hM89 ▸ ob_nO hn88 ho60
  replace ho65 : ob M89 w62 9 := hM89 ▸ ob_nO hn88 ho65
  replace ho70 : ob M89 w67 10 := hM89 ▸ ob_nO hn88 ho70
  replace ho75 : ob M89 w72 11 := hM89 ▸ ob_nO hn88 ho75
  replace ho80 : ob M89 w77 11 := hM89 ▸ ob_nO hn88 ho80
  replace ho85 : ob M89 w82 10 := hM89 ▸ ob_nO hn88 ho85
  have ho90 : ob M89 w87 11 := hM89 ▸ ob_new
  refine e_putFA 7 36 (v := some w87) rfl rfl (by decide) (aw (i := 1101) (by decide +kernel) rfl) rfl rfl rfl ho5 rfl ?_
  generalize hM91 : sP M89 a0 36 (some w87) = M91
  replace h := h M91 hM91.symm
  replace ho4 : ob M91 w1 9 := hM91 ▸ ob_sP ho4
  replace ho5 : ob M91 a0 7 := hM91 ▸ ob_sP ho5
  replace ho10 : ob M91 w7 9 := hM91 ▸ ob_sP ho10
  replace ho15 : ob M91 w12 9 := hM91 ▸ ob_sP ho15
  replace ho20 : ob M91 w17 9 := hM91 ▸ ob_sP ho20
  replace ho25 : ob M91 w22 8 := hM91 ▸ ob_sP ho25
  replace ho30 : ob M91 w27 10 := hM91 ▸ ob_sP ho30
  replace ho35 : ob M91 w32 11 := hM91 ▸ ob_sP ho35
  replace ho40 : ob M91 w37 11 := hM91 ▸ ob_sP ho40
  replace ho45 : ob M91 w42 9 := hM91 ▸ ob_sP ho45
  replace ho50 : ob M91 w47 9 := hM91 ▸ ob_sP ho50
  replace ho55 : ob M91 w52 9 := hM91 ▸ ob_sP ho55
  replace ho60 : ob M91 w57 9 := hM91 ▸ ob_sP ho60
  replace ho65 : ob M91 w62 9 := hM91 ▸ ob_sP ho65
  replace ho70 : ob M91 w67 10 := hM91 ▸ ob_sP ho70
  replace ho75 : ob M91 w72 11 := hM91 ▸ ob_sP ho75
  replace ho80 : ob M91 w77 11 := hM91 ▸ ob_sP ho80
  replace ho85 : ob M91 w82 10 := hM91 ▸ ob_sP ho85
  replace ho90 : ob M91 w87 11 := hM91 ▸ ob_sP ho90
  refine e_blk 2 148 _ _ (pc' := 151) (L' := [some (.ref a0)]) (st' := [.int (12 : Int32), .ref a0]) rfl ?_
  refine e_newJ 12 rfl (aw (i := 191) (by decide +kernel) rfl) (by decide) rfl (by decide) (by decide) (by decide) (fun w92 hn93 => ?_)
  replace h := h w92 hn93
  generalize hM94 : nO M91 w92 10 12 = M94
  replace h := h M94 hM94.symm
  replace ho4 : ob M94 w1 9 := hM94 ▸ ob_nO hn93 ho4
  replace ho5 : ob M94 a0 7 := hM94 ▸ ob_nO hn93 ho5
  replace ho10 : ob M94 w7 9 := hM94 ▸ ob_nO hn93 ho10
  replace ho15 : ob M94 w12 9 := hM94 ▸ ob_nO hn93 ho15
  replace ho20 : ob M94 w17 9 := hM94 ▸ ob_nO hn93 ho20
  replace ho25 : ob M94 w22 8 := hM94 ▸ ob_nO hn93 ho25
  replace ho30 : ob M94 w27 10 := hM94 ▸ ob_nO hn93 ho30
  replace ho35 : ob M94 w32 11 := hM94 ▸ ob_nO hn93 ho35
  replace ho40 : ob M94 w37 11 := hM94 ▸ ob_nO hn93 ho40
  replace ho45 : ob M94 w42 9 := hM94 ▸ ob_nO hn93 ho45
  replace ho50 : ob M94 w47 9 := hM94 ▸ ob_nO hn93 ho50
  replace ho55 : ob M94 w52 9 := hM94 ▸ ob_nO hn93 ho55
  replace ho60 : ob M94 w57 9 := hM94 ▸ ob_nO hn93 ho60
  replace ho65 : ob M94 w62 9 := hM94 ▸ ob_nO hn93 ho65
  replace ho70 : ob M94 w67 10 := hM94 ▸ ob_nO hn93 ho70
  replace ho75 : ob M94 w72 11 := hM94 ▸ ob_nO hn93 ho75
  replace ho80 : ob M94 w77 11 := hM94 ▸ ob_nO hn93 ho80
  replace ho85 : ob M94 w82 10 := hM94 ▸ ob_nO hn93 ho85
  replace ho90 : ob M94 w87 11 := hM94 ▸ ob_nO hn93 ho90
  have ho95 : ob M94 w92 10 := hM94 ▸ ob_new
  refine e_putFA 7 37 (v := some w92) rfl rfl (by decide) (aw (i := 1102) (by decide +kernel) rfl) rfl rfl rfl ho5 rfl ?_
  generalize hM96 : sP M94 a0 37 (some w92) = M96
  replace h := h M96 hM96.symm
  replace ho4 : ob M96 w1 9 := hM96 ▸ ob_sP ho4
  replace ho5 : ob M96 a0 7 := hM96 ▸ ob_sP ho5
  replace ho10 : ob M96 w7 9 := hM96 ▸ ob_sP ho10
  replace ho15 : ob M96 w12 9 := hM96 ▸ ob_sP ho15
  replace ho20 : ob M96 w17 9 := hM96 ▸ ob_sP ho20
  replace ho25 : ob M96 w22 8 := hM96 ▸ ob_sP ho25
  replace ho30 : ob M96 w27 10 := hM96 ▸ ob_sP ho30
  replace ho35 : ob M96 w32 11 := hM96 ▸ ob_sP ho35
  replace ho40 : ob M96 w37 11 := hM96 ▸ ob_sP ho40
  replace ho45 : ob M96 w42 9 := hM96 ▸ ob_sP ho45
  replace ho50 : ob M96 w47 9 := hM96 ▸ ob_sP ho50
  replace ho55 : ob M96 w52 9 := hM96 ▸ ob_sP ho55
  replace ho60 : ob M96 w57 9 := hM96 ▸ ob_sP ho60
  replace ho65 : ob M96 w62 9 := hM96 ▸ ob_sP ho65
  replace ho70 : ob M96 w67 10 := hM96 ▸ ob_sP ho70
  replace ho75 : ob M96 w72 11 := hM96 ▸ ob_sP ho75
  replace ho80 : ob M96 w77 11 := hM96 ▸ ob_sP ho80
  replace ho85 : ob M96 w82 10 := hM96 ▸ ob_sP ho85
  replace ho90 : ob M96 w87 11 := hM96 ▸ ob_sP ho90
  replace ho95 : ob M96 w92 10 := hM96 ▸ ob_sP ho95
  refine e_blk 2 156 _ _ (pc' := 159) (L' := [some (.ref a0)]) (st' := [.int (12 : Int32), .ref a0]) rfl ?_
  refine e_newJ 12 rfl (aw (i := 191) (by decide +kernel) rfl) (by decide) rfl (by decide) (by decide) (by decide) (fun w97 hn98 => ?_)
  replace h := h w97 hn98
  generalize hM99 : nO M96 w97 10 12 = M99
  replace h := h M99 hM99.symm
  replace ho4 : ob M99 w1 9 := hM99 ▸ ob_nO hn98 ho4
  replace ho5 : ob M99 a0 7 := hM99 ▸ ob_nO hn98 ho5
  replace ho10 : ob M99 w7 9 := hM99 ▸ ob_nO hn98 ho10
  replace ho15 : ob M99 w12 9 := hM99 ▸ ob_nO hn98 ho15
  replace ho20 : ob M99 w17 9 := hM99 ▸ ob_nO hn98 ho20
  replace ho25 : ob M99 w22 8 := hM99 ▸ ob_nO hn98 ho25
  replace ho30 : ob M99 w27 10 := hM99 ▸ ob_nO hn98 ho30
  replace ho35 : ob M99 w32 11 := hM99 ▸ ob_nO hn98 ho35
  replace ho40 : ob M99 w37 11 := hM99 ▸ ob_nO hn98 ho40
  replace ho45 : ob M99 w42 9 := hM99 ▸ ob_nO hn98 ho45
  replace ho50 : ob M99 w47 9 := hM99 ▸ ob_nO hn98 ho50
  replace ho55 : ob M99 w52 9 := hM99 ▸ ob_nO hn98 ho55
  replace ho60 : ob M99 w57 9 := hM99 ▸ ob_nO hn98 ho60
  replace ho65 : ob M99 w62 9 := hM99 ▸ ob_nO hn98 ho65
  replace ho70 : ob M99 w67 10 := hM99 ▸ ob_nO hn98 ho70
  replace ho75 : ob M99 w72 11 := hM99 ▸ ob_nO hn98 ho75
  replace ho80 : ob M99 w77 11 := hM99 ▸ ob_nO hn98 ho80
  replace ho85 : ob M99 w82 10 := hM99 ▸ ob_nO hn98 ho85
  replace ho90 : ob M99 w87 11 := hM99 ▸ ob_nO hn98 ho90
  replace ho95 : ob M99 w92 10 := hM99 ▸ ob_nO hn98 ho95
  have ho100 : ob M99 w97 10 := hM99 ▸ ob_new
  refine e_putFA 7 38 (v := some w97) rfl rfl (by decide) (aw (i := 1103) (by decide +kernel) rfl) rfl rfl rfl ho5 rfl ?_
  generalize hM101 : sP M99 a0 38 (some w97) = M101
  replace h := h M101 hM101.symm
  replace ho4 : ob M101 w1 9 := hM101 ▸ ob_sP ho4
  replace ho5 : ob M101 a0 7 := hM101 ▸ ob_sP ho5
  replace ho10 : ob M101 w7 9 := hM101 ▸ ob_sP ho10
  replace ho15 : ob M101 w12 9 := hM101 ▸ ob_sP ho15
  replace ho20 : ob M101 w17 9 := hM101 ▸ ob_sP ho20
  replace ho25 : ob M101 w22 8 := hM101 ▸ ob_sP ho25
  replace ho30 : ob M101 w27 10 := hM101 ▸ ob_sP ho30
  replace ho35 : ob M101 w32 11 := hM101 ▸ ob_sP ho35
  replace ho40 : ob M101 w37 11 := hM101 ▸ ob_sP ho40
  replace ho45 : ob M101 w42 9 := hM101 ▸ ob_sP ho45
  replace ho50 : ob M101 w47 9 := hM101 ▸ ob_sP ho50
  replace ho55 : ob M101 w52 9 := hM101 ▸ ob_sP ho55
  replace ho60 : ob M101 w57 9 := hM101 ▸ ob_sP ho60
  replace ho65 : ob M101 w62 9 := hM101 ▸ ob_sP ho65
  replace ho70 : ob M101 w67 10 := hM101 ▸ ob_sP ho70
  replace ho75 : ob M101 w72 11 := hM101 ▸ ob_sP ho75
  replace ho80 : ob M101 w77 11 := hM101 ▸ ob_sP ho80
  replace ho85 : ob M101 w82 10 := hM101 ▸ ob_sP ho85
  replace ho90 : ob M101 w87 11 := hM101 ▸ ob_sP ho90
  replace ho95 : ob M101 w92 10 := hM101 ▸ ob_sP ho95
  replace ho100 : ob M101 w97 10 := hM101 ▸ ob_sP ho100
  refine e_blk 2 164 _ _ (pc' := 167) (L' := [some (.ref a0)]) (st' := [.int (12 : Int32), .ref a0]) rfl ?_
  refine e_newJ 12 rfl (aw (i := 191) (by decide +kernel) rfl) (by decide) rfl (by decide) (by decide) (by decide) (fun w102 hn103 => ?_)
  replace h := h w102 hn103
  generalize hM104 : nO M101 w102 10 12 = M104
  replace h := h M104 hM104.symm
  replace ho4 : ob M104 w1 9 := hM104 ▸ ob_nO hn103 ho4
  replace ho5 : ob M104 a0 7 := hM104 ▸ ob_nO hn103 ho5
  replace ho10 : ob M104 w7 9 := hM104 ▸ ob_nO hn103 ho10
  replace ho15 : ob M104 w12 9 := hM104 ▸ ob_nO hn103 ho15
  replace ho20 : ob M104 w17 9 := hM104 ▸ ob_nO hn103 ho20
  replace ho25 : ob M104 w22 8 := hM104 ▸ ob_nO hn103 ho25
  replace ho30 : ob M104 w27 10 := hM104 ▸ ob_nO hn103 ho30
  replace ho35 : ob M104 w32 11 := hM104 ▸ ob_nO hn103 ho35
  replace ho40 : ob M104 w37 11 := hM104 ▸ ob_nO hn103 ho40
  replace ho45 : ob M104 w42 9 := hM104 ▸ ob_nO hn103 ho45
  replace ho50 : ob M104 w47 9 := hM104 ▸ ob_nO hn103 ho50
  replace ho55 : ob M104 w52 9 := hM104 ▸ ob_nO hn103 ho55
  replace ho60 : ob M104 w57 9 := hM104 ▸ ob_nO hn103 ho60
  replace ho65 : ob M104 w62 9 := hM104 ▸ ob_nO hn103 ho65
  replace ho70 : ob M104 w67 10 := hM104 ▸ ob_nO hn103 ho70
  replace ho75 : ob M104 w72 11 := hM104 ▸ ob_nO hn103 ho75
  replace ho80 : ob M104 w77 11 := hM104 ▸ ob_nO hn103 ho80
  replace ho85 : ob M104 w82 10 := hM104 ▸ ob_nO hn103 ho85
  replace ho90 : ob M104 w87 11 := hM104 ▸ ob_nO hn103 ho90
  replace ho95 : ob M104 w92 10 := hM104 ▸ ob_nO hn103 ho95
  replace ho100 : ob M104 w97 10 := hM104 ▸ ob_nO hn103 ho100
  have ho105 : ob M104 w102 10 := hM104 ▸ ob_new
  refine e_putFA 7 39 (v := some w102) rfl rfl (by decide) (aw (i := 1104) (by decide +kernel) rfl) rfl rfl rfl ho5 rfl ?_
  generalize hM106 : sP M104 a0 39 (some w102) = M106
  replace h := h M106 hM106.symm
  replace ho4 : ob M106 w1 9 := hM106 ▸ ob_sP ho4
  replace ho5 : ob M106 a0 7 := hM106 ▸ ob_sP ho5
  replace ho10 : ob M106 w7 9 := hM106 ▸ ob_sP ho10
  replace ho15 : ob M106 w12 9 := hM106 ▸ ob_sP ho15
  replace ho20 : ob M106 w17 9 := hM106 ▸ ob_sP ho20
  replace ho25 : ob M106 w22 8 := hM106 ▸ ob_sP ho25
  replace ho30 : ob M106 w27 10 := hM106 ▸ ob_sP ho30
  replace ho35 : ob M106 w32 11 := hM106 ▸ ob_sP ho35
  replace ho40 : ob M106 w37 11 := hM106 ▸ ob_sP ho40
  replace ho45 : ob M106 w42 9 := hM106 ▸ ob_sP ho45
  replace ho50 : ob M106 w47 9 := hM106 ▸ ob_sP ho50
  replace ho55 : ob M106 w52 9 := hM106 ▸ ob_sP ho55
  replace ho60 : ob M106 w57 9 := hM106 ▸ ob_sP ho60
  replace ho65 : ob M106 w62 9 := hM106 ▸ ob_sP ho65
  replace ho70 : ob M106 w67 10 := hM106 ▸ ob_sP ho70
  replace ho75 : ob M106 w72 11 := hM106 ▸ ob_sP ho75
  replace ho80 : ob M106 w77 11 := hM106 ▸ ob_sP ho80
  replace ho85 : ob M106 w82 10 := hM106 ▸ ob_sP ho85
  replace ho90 : ob M106 w87 11 := hM106 ▸ ob_sP ho90
  replace ho95 : ob M106 w92 10 := hM106 ▸ ob_sP ho95
  replace ho100 : ob M106 w97 10 := hM106 ▸ ob_sP ho100
  replace ho105 : ob M106 w102 10 := hM106 ▸ ob_sP ho105
  refine e_blk 2 172 _ _ (pc' := 175) (L' := [some (.ref a0)]) (st' := [.int (12 : Int32), .ref a0]) rfl ?_
  refine e_newZ 12 rfl (aw (i := 1246) (by decide +kernel) rfl) (by decide) rfl (by decide) (by decide) (by decide) (fun w107 hn108 => ?_)
  replace h := h w107 hn108
  generalize hM109 : nO M106 w107 11 12 = M109
  replace h := h M109 hM109.symm
  replace ho4 : ob M109 w1 9 := hM109 ▸ ob_nO hn108 ho4
  replace ho5 : ob M109 a0 7 := hM109 ▸ ob_nO hn108 ho5
  replace ho10 : ob M109 w7 9 := hM109 ▸ ob_nO hn108 ho10
  replace ho15 : ob M109 w12 9 := hM109 ▸ ob_nO hn108 ho15
  replace ho20 : ob M109 w17 9 := hM109 ▸ ob_nO hn108 ho20
  replace ho25 : ob M109 w22 8 := hM109 ▸ ob_nO hn108 ho25
  replace ho30 : ob M109 w27 10 := hM109 ▸ ob_nO hn108 ho30
  replace ho35 : ob M109 w32 11 := hM109 ▸ ob_nO hn108 ho35
  replace ho40 : ob M109 w37 11 := hM109 ▸ ob_nO hn108 ho40
  replace ho45 : ob M109 w42 9 := hM109 ▸ ob_nO hn108 ho45
  replace ho50 : ob M109 w47 9 := hM109 ▸ ob_nO hn108 ho50
  replace ho55 : ob M109 w52 9 := hM109 ▸ ob_nO hn108 ho55
  replace ho60 : ob M109 w57 9 := hM109 ▸ ob_nO hn108 ho60
  replace ho65 : ob M109 w62 9 := hM109 ▸ ob_nO hn108 ho65
  replace ho70 : ob M109 w67 10 := hM109 ▸ ob_nO hn108 ho70
  replace ho75 : ob M109 w72 11 := hM109 ▸ ob_nO hn108 ho75
  replace ho80 : ob M109 w77 11 := hM109 ▸ ob_nO hn108 ho80
  replace ho85 : ob M109 w82 10 := hM109 ▸ ob_nO hn108 ho85
  replace ho90 : ob M109 w87 11 := hM109 ▸ ob_nO hn108 ho90
  replace ho95 : ob M109 w92 10 := hM109 ▸ ob_nO hn108 ho95
  replace ho100 : ob M109 w97 10 := hM109 ▸ ob_nO hn108 ho100
  replace ho105 : ob M109 w102 10 := hM109 ▸ ob_nO hn108 ho105
  have ho110 : ob M109 w107 11 := hM109 ▸ ob_new
  refine e_putFA 7 40 (v := some w107) rfl rfl (by decide) (aw (i := 1105) (by decide +kernel) rfl) rfl rfl rfl ho5 rfl ?_
  generalize hM111 : sP M109 a0 40 (some w107) = M111
  replace h := h M111 hM111.symm
  replace ho4 : ob M111 w1 9 := hM111 ▸ ob_sP ho4
  replace ho5 : ob M111 a0 7 := hM111 ▸ ob_sP ho5
  replace ho10 : ob M111 w7 9 := hM111 ▸ ob_sP ho10
  replace ho15 : ob M111 w12 9 := hM111 ▸ ob_sP ho15
  replace ho20 : ob M111 w17 9 := hM111 ▸ ob_sP ho20
  replace ho25 : ob M111 w22 8 := hM111 ▸ ob_sP ho25
  replace ho30 : ob M111 w27 10 := hM111 ▸ ob_sP ho30
  replace ho35 : ob M111 w32 11 := hM111 ▸ ob_sP ho35
  replace ho40 : ob M111 w37 11 := hM111 ▸ ob_sP ho40
  replace ho45 : ob M111 w42 9 := hM111 ▸ ob_sP ho45
  replace ho50 : ob M111 w47 9 := hM111 ▸ ob_sP ho50
  replace ho55 : ob M111 w52 9 := hM111 ▸ ob_sP ho55
  replace ho60 : ob M111 w57 9 := hM111 ▸ ob_sP ho60
  replace ho65 : ob M111 w62 9 := hM111 ▸ ob_sP ho65
  replace ho70 : ob M111 w67 10 := hM111 ▸ ob_sP ho70
  replace ho75 : ob M111 w72 11 := hM111 ▸ ob_sP ho75
  replace ho80 : ob M111 w77 11 := hM111 ▸ ob_sP ho80
  replace ho85 : ob M111 w82 10 := hM111 ▸ ob_sP ho85
  replace ho90 : ob M111 w87 11 := hM111 ▸ ob_sP ho90
  replace ho95 : ob M111 w92 10 := hM111 ▸ ob_sP ho95
  replace ho100 : ob M111 w97 10 := hM111 ▸ ob_sP ho100
  replace ho105 : ob M111 w102 10 := hM111 ▸ ob_sP ho105
  replace ho110 : ob M111 w107 11 := hM111 ▸ ob_sP ho110
  refine e_blk 2 180 _ _ (pc' := 183) (L' := [some (.ref a0)]) (st' := [.int (12 : Int32), .ref a0]) rfl ?_
  refine e_newZ 12 rfl (aw (i := 1246) (by decide +kernel) rfl) (by decide) rfl (by decide) (by decide) (by decide) (fun w112 hn113 => ?_)
  replace h := h w112 hn113
  generalize hM114 : nO M111 w112 11 12 = M114
  replace h := h M114 hM114.symm
  replace ho4 : ob M114 w1 9 := hM114 ▸ ob_nO hn113 ho4
  replace ho5 : ob M114 a0 7 := hM114 ▸ ob_nO hn113 ho5
  replace ho10 : ob M114 w7 9 := hM114 ▸ ob_nO hn113 ho10
  replace ho15 : ob M114 w12 9 := hM114 ▸ ob_nO hn113 ho15
  replace ho20 : ob M114 w17 9 := hM114 ▸ ob_nO hn113 ho20
  replace ho25 : ob M114 w22 8 := hM114 ▸ ob_nO hn113 ho25
  replace ho30 : ob M114 w27 10 := hM114 ▸ ob_nO hn113 ho30
  replace ho35 : ob M114 w32 11 := hM114 ▸ ob_nO hn113 ho35
  replace ho40 : ob M114 w37 11 := hM114 ▸ ob_nO hn113 ho40
  replace ho45 : ob M114 w42 9 := hM114 ▸ ob_nO hn113 ho45
  replace ho50 : ob M114 w47 9 := hM114 ▸ ob_nO hn113 ho50
  replace ho55 : ob M114 w52 9 := hM114 ▸ ob_nO hn113 ho55
  replace ho60 : ob M114 w57 9 := hM114 ▸ ob_nO hn113 ho60
  replace ho65 : ob M114 w62 9 := hM114 ▸ ob_nO hn113 ho65
  replace ho70 : ob M114 w67 10 := hM114 ▸ ob_nO hn113 ho70
  replace ho75 : ob M114 w72 11 := hM114 ▸ ob_nO hn113 ho75
  replace ho80 : ob M114 w77 11 := hM114 ▸ ob_nO hn113 ho80
  replace ho85 : ob M114 w82 10 := hM114 ▸ ob_nO hn113 ho85
  replace ho90 : ob M114 w87 11 := hM114 ▸ ob_nO hn113 ho90
  replace ho95 : ob M114 w92 10 := hM114 ▸ ob_nO hn113 ho95
  replace ho100 : ob M114 w97 10 := hM114 ▸ ob_nO hn113 ho100
  replace ho105 : ob M114 w102 10 := hM114 ▸ ob_nO hn113 ho105
  replace ho110 : ob M114 w107 11 := hM114 ▸ ob_nO hn113 ho110
  have ho115 : ob M114 w112 11 := hM114 ▸ ob_new
  refine e_putFA 7 41 (v := some w112) rfl rfl (by decide) (aw (i := 1106) (by decide +kernel) rfl) rfl rfl rfl ho5 rfl ?_
  generalize hM116 : sP M114 a0 41 (some w112) = M116
  replace h := h M116 hM116.symm
  replace ho4 : ob M116 w1 9 := hM116 ▸ ob_sP ho4
  replace ho5 : ob M116 a0 7 := hM116 ▸ ob_sP ho5
  replace ho10 : ob M116 w7 9 := hM116 ▸ ob_sP ho10
  replace ho15 : ob M116 w12 9 := hM116 ▸ ob_sP ho15
  replace ho20 : ob M116 w17 9 := hM116 ▸ ob_sP ho20
  replace ho25 : ob M116 w22 8 := hM116 ▸ ob_sP ho25
  replace ho30 : ob M116 w27 10 := hM116 ▸ ob_sP ho30
  replace ho35 : ob M116 w32 11 := hM116 ▸ ob_sP ho35
  replace ho40 : ob M116 w37 11 := hM116 ▸ ob_sP ho40
  replace ho45 : ob M116 w42 9 := hM116 ▸ ob_sP ho45
  replace ho50 : ob M116 w47 9 := hM116 ▸ ob_sP ho50
  replace ho55 : ob M116 w52 9 := hM116 ▸ ob_sP ho55
  replace ho60 : ob M116 w57 9 := hM116 ▸ ob_sP ho60
  replace ho65 : ob M116 w62 9 := hM116 ▸ ob_sP ho65
  replace ho70 : ob M116 w67 10 := hM116 ▸ ob_sP ho70
  replace ho75 : ob M116 w72 11 := hM116 ▸ ob_sP ho75
  replace ho80 : ob M116 w77 11 := hM116 ▸ ob_sP ho80
  replace ho85 : ob M116 w82 10 := hM116 ▸ ob_sP ho85
  replace ho90 : ob M116 w87 11 := hM116 ▸ ob_sP ho90
  replace ho95 : ob M116 w92 10 := hM116 ▸ ob_sP ho95
  replace ho100 : ob M116 w97 10 := hM116 ▸ ob_sP ho100
  replace ho105 : ob M116 w102 10 := hM116 ▸ ob_sP ho105
  replace ho110 : ob M116 w107 11 := hM116 ▸ ob_sP ho110
  replace ho115 : ob M116 w112 11 := hM116 ▸ ob_sP ho115
  refine e_blk 2 188 _ _ (pc' := 191) (L' := [some (.ref a0)]) (st' := [.int (12 : Int32), .ref a0]) rfl ?_
  refine e_newI 12 rfl (aw (i := 190) (by decide +kernel) rfl) (by decide) rfl (by decide) (by decide) (by decide) (fun w117 hn118 => ?_)
  replace h := h w117 hn118
  generalize hM119 : nO M116 w117 9 12 = M119
  replace h := h M119 hM119.symm
  replace ho4 : ob M119 w1 9 := hM119 ▸ ob_nO hn118 ho4
  replace ho5 : ob M119 a0 7 := hM119 ▸ ob_nO hn118 ho5
  replace ho10 : ob M119 w7 9 := hM119 ▸ ob_nO hn118 ho10
  replace ho15 : ob M119 w12 9 := hM119 ▸ ob_nO hn118 ho15
  replace ho20 : ob M119 w17 9 := hM119 ▸ ob_nO hn118 ho20
  replace ho25 : ob M119 w22 8 := hM119 ▸ ob_nO hn118 ho25
  replace ho30 : ob M119 w27 10 := hM119 ▸ ob_nO hn118 ho30
  replace ho35 : ob M119 w32 11 := hM119 ▸ ob_nO hn118 ho35
  replace ho40 : ob M119 w37 11 := hM119 ▸ ob_nO hn118 ho40
  replace ho45 : ob M119 w42 9 := hM119 ▸ ob_nO hn118 ho45
  replace ho50 : ob M119 w47 9 := hM119 ▸ ob_nO hn118 ho50
  replace ho55 : ob M119 w52 9 := hM119 ▸ ob_nO hn118 ho55
  replace ho60 : ob M119 w57 9 := hM119 ▸ ob_nO hn118 ho60
  replace ho65 : ob M119 w62 9 := hM119 ▸ ob_nO hn118 ho65
  replace ho70 : ob M119 w67 10 := hM119 ▸ ob_nO hn118 ho70
  replace ho75 : ob M119 w72 11 := hM119 ▸ ob_nO hn118 ho75
  replace ho80 : ob M119 w77 11 := hM119 ▸ ob_nO hn118 ho80
  replace ho85 : ob M119 w82 10 := hM119 ▸ ob_nO hn118 ho85
  replace ho90 : ob M119 w87 11 := hM119 ▸ ob_nO hn118 ho90
  replace ho95 : ob M119 w92 10 := hM119 ▸ ob_nO hn118 ho95
  replace ho100 : ob M119 w97 10 := hM119 ▸ ob_nO hn118 ho100
  replace ho105 : ob M119 w102 10 := hM119 ▸ ob_nO hn118 ho105
  replace ho110 : ob M119 w107 11 := hM119 ▸ ob_nO hn118 ho110
  replace ho115 : ob M119 w112 11 := hM119 ▸ ob_nO hn118 ho115
  have ho120 : ob M119 w117 9 := hM119 ▸ ob_new
  refine e_putFA 7 42 (v := some w117) rfl rfl (by decide) (aw (i := 1107) (by decide +kernel) rfl) rfl rfl rfl ho5 rfl ?_
  generalize hM121 : sP M119 a0 42 (some w117) = M121
  replace h := h M121 hM121.symm
  replace ho4 : ob M121 w1 9 := hM121 ▸ ob_sP ho4
  replace ho5 : ob M121 a0 7 := hM121 ▸ ob_sP ho5
  replace ho10 : ob M121 w7 9 := hM121 ▸ ob_sP ho10
  replace ho15 : ob M121 w12 9 := hM121 ▸ ob_sP ho15
  replace ho20 : ob M121 w17 9 := hM121 ▸ ob_sP ho20
  replace ho25 : ob M121 w22 8 := hM121 ▸ ob_sP ho25
  replace ho30 : ob M121 w27 10 := hM121 ▸ ob_sP ho30
  replace ho35 : ob M121 w32 11 := hM121 ▸ ob_sP ho35
  replace ho40 : ob M121 w37 11 := hM121 ▸ ob_sP ho40
  replace ho45 : ob M121 w42 9 := hM121 ▸ ob_sP ho45
  replace ho50 : ob M121 w47 9 := hM121 ▸ ob_sP ho50
  replace ho55 : ob M121 w52 9 := hM121 ▸ ob_sP ho55
  replace ho60 : ob M121 w57 9 := hM121 ▸ ob_sP ho60
  replace ho65 : ob M121 w62 9 := hM121 ▸ ob_sP ho65
  replace ho70 : ob M121 w67 10 := hM121 ▸ ob_sP ho70
  replace ho75 : ob M121 w72 11 := hM121 ▸ ob_sP ho75
  replace ho80 : ob M121 w77 11 := hM121 ▸ ob_sP ho80
  replace ho85 : ob M121 w82 10 := hM121 ▸ ob_sP ho85
  replace ho90 : ob M121 w87 11 := hM121 ▸ ob_sP ho90
  replace ho95 : ob M121 w92 10 := hM121 ▸ ob_sP ho95
  replace ho100 : ob M121 w97 10 := hM121 ▸ ob_sP ho100
  replace ho105 : ob M121 w102 10 := hM121 ▸ ob_sP ho105
  replace ho110 : ob M121 w107 11 := hM121 ▸ ob_sP ho110
  replace ho115 : ob M121 w112 11 := hM121 ▸ ob_sP ho115
  replace ho120 : ob M121 w117 9 := hM121 ▸ ob_sP ho120
  refine e_blk 2 196 _ _ (pc' := 199) (L' := [some (.ref a0)]) (st' := [.int (12 : Int32), .ref a0]) rfl ?_
  refine e_newI 12 rfl (aw (i := 190) (by decide +kernel) rfl) (by decide) rfl (by decide) (by decide) (by decide) (fun w122 hn123 => ?_)
  replace h := h w122 hn123
  generalize hM124 : nO M121 w122 9 12 = M124
  replace h := h M124 hM124.symm
  replace ho4 : ob M124 w1 9 := hM124 ▸ ob_nO hn123 ho4
  replace ho5 : ob M124 a0 7 := hM124 ▸ ob_nO hn123 ho5
  replace ho10 : ob M124 w7 9 := hM124 ▸ ob_nO hn123 ho10
  replace ho15 : ob M124 w12 9 := hM124 ▸ ob_nO hn123 ho15
  replace ho20 : ob M124 w17 9 := hM124 ▸ ob_nO hn123 ho20
  replace ho25 : ob M124 w22 8 := hM124 ▸ ob_nO hn123 ho25
  replace ho30 : ob M124 w27 10 := hM124 ▸ ob_nO hn123 ho30
  replace ho35 : ob M124 w32 11 := hM124 ▸ ob_nO hn123 ho35
  replace ho40 : ob M124 w37 11 := hM124 ▸ ob_nO hn123 ho40
  replace ho45 : ob M124 w42 9 := hM124 ▸ ob_nO hn123 ho45
  replace ho50 : ob M124 w47 9 := hM124 ▸ ob_nO hn123 ho50
  replace ho55 : ob M124 w52 9 := hM124 ▸ ob_nO hn123 ho55
  replace ho60 : ob M124 w57 9 := hM124 ▸ ob_nO hn123 ho60
  replace ho65 : ob M124 w62 9 := hM124 ▸ ob_nO hn123 ho65
  replace ho70 : ob M124 w67 10 := hM124 ▸ ob_nO hn123 ho70
  replace ho75 : ob M124 w72 11 := hM124 ▸ ob_nO hn123 ho75
  replace ho80 : ob M124 w77 11 := hM124 ▸ ob_nO hn123 ho80
  replace ho85 : ob M124 w82 10 := hM124 ▸ ob_nO hn123 ho85
  replace ho90 : ob M124 w87 11 := hM124 ▸ ob_nO hn123 ho90
  replace ho95 : ob M124 w92 10 := hM124 ▸ ob_nO hn123 ho95
  replace ho100 : ob M124 w97 10 := hM124 ▸ ob_nO hn123 ho100
  replace ho105 : ob M124 w102 10 := hM124 ▸ ob_nO hn123 ho105
  replace ho110 : ob M124 w107 11 := hM124 ▸ ob_nO hn123 ho110
  replace ho115 : ob M124 w112 11 := hM124 ▸ ob_nO hn123 ho115
  replace ho120 : ob M124 w117 9 := hM124 ▸ ob_nO hn123 ho120
  have ho125 : ob M124 w122 9 := hM124 ▸ ob_new
  refine e_putFA 7 43 (v := some w122) rfl rfl (by decide) (aw (i := 1108) (by decide +kernel) rfl) rfl rfl rfl ho5 rfl ?_
  generalize hM126 : sP M124 a0 43 (some w122) = M126
  replace h := h M126 hM126.symm
  replace ho4 : ob M126 w1 9 := hM126 ▸ ob_sP ho4
  replace ho5 : ob M126 a0 7 := hM126 ▸ ob_sP ho5
  replace ho10 : ob M126 w7 9 := hM126 ▸ ob_sP ho10
  replace ho15 : ob M126 w12 9 := hM126 ▸ ob_sP ho15
  replace ho20 : ob M126 w17 9 := hM126 ▸ ob_sP ho20
  replace ho25 : ob M126 w22 8 := hM126 ▸ ob_sP ho25
  replace ho30 : ob M126 w27 10 := hM126 ▸ ob_sP ho30
  replace ho35 : ob M126 w32 11 := hM126 ▸ ob_sP ho35
  replace ho40 : ob M126 w37 11 := hM126 ▸ ob_sP ho40
  replace ho45 : ob M126 w42 9 := hM126 ▸ ob_sP ho45
  replace ho50 : ob M126 w47 9 := hM126 ▸ ob_sP ho50
  replace ho55 : ob M126 w52 9 := hM126 ▸ ob_sP ho55
  replace ho60 : ob M126 w57 9 := hM126 ▸ ob_sP ho60
  replace ho65 : ob M126 w62 9 := hM126 ▸ ob_sP ho65
  replace ho70 : ob M126 w67 10 := hM126 ▸ ob_sP ho70
  replace ho75 : ob M126 w72 11 := hM126 ▸ ob_sP ho75
  replace ho80 : ob M126 w77 11 := hM126 ▸ ob_sP ho80
  replace ho85 : ob M126 w82 10 := hM126 ▸ ob_sP ho85
  replace ho90 : ob M126 w87 11 := hM126 ▸ ob_sP ho90
  replace ho95 : ob M126 w92 10 := hM126 ▸ ob_sP ho95
  replace ho100 : ob M126 w97 10 := hM126 ▸ ob_sP ho100
  replace ho105 : ob M126 w102 10 := hM126 ▸ ob_sP ho105
  replace ho110 : ob M126 w107 11 := hM126 ▸ ob_sP ho110
  replace ho115 : ob M126 w112 11 := hM126 ▸ ob_sP ho115
  replace ho120 : ob M126 w117 9 := hM126 ▸ ob_sP ho120
  replace ho125 : ob M126 w122 9 := hM126 ▸ ob_sP ho125
  refine e_blk 2 204 _ _ (pc' := 207) (L' := [some (.ref a0)]) (st' := [.int (12 : Int32), .ref a0]) rfl ?_
  refine e_newI 12 rfl (aw (i := 190) (by decide +kernel) rfl) (by decide) rfl (by decide) (by decide) (by decide) (fun w127 hn128 => ?_)
  replace h := h w127 hn128
  generalize hM129 : nO M126 w127 9 12 = M129
  replace h := h M129 hM129.symm
  replace ho4 : ob M129 w1 9 := hM129 ▸ ob_nO hn128 ho4
  replace ho5 : ob M129 a0 7 := hM129 ▸ ob_nO hn128 ho5
  replace ho10 : ob M129 w7 9 := hM129 ▸ ob_nO hn128 ho10
  replace ho15 : ob M129 w12 9 := hM129 ▸ ob_nO hn128 ho15
  replace ho20 : ob M129 w17 9 := hM129 ▸ ob_nO hn128 ho20
  replace ho25 : ob M129 w22 8 := hM129 ▸ ob_nO hn128 ho25
  replace ho30 : ob M129 w27 10 := hM129 ▸ ob_nO hn128 ho30
  replace ho35 : ob M129 w32 11 := hM129 ▸ ob_nO hn128 ho35
  replace ho40 : ob M129 w37 11 := hM129 ▸ ob_nO hn128 ho40
  replace ho45 : ob M129 w42 9 := hM129 ▸ ob_nO hn128 ho45
  replace ho50 : ob M129 w47 9 := hM129 ▸ ob_nO hn128 ho50
  replace ho55 : ob M129 w52 9 := hM129 ▸ ob_nO hn128 ho55
  replace ho60 : ob M129 w57 9 := hM129 ▸ ob_nO hn128 ho60
  replace ho65 : ob M129 w62 9 := hM129 ▸ ob_nO hn128 ho65
  replace ho70 : ob M129 w67 10 := hM129 ▸ ob_nO hn128 ho70
  replace ho75 : ob M129 w72 11 := hM129 ▸ ob_nO hn128 ho75
  replace ho80 : ob M129 w77 11 := hM129 ▸ ob_nO hn128 ho80
  replace ho85 : ob M129 w82 10 := hM129 ▸ ob_nO hn128 ho85
  replace ho90 : ob M129 w87 11 := hM129 ▸ ob_nO hn128 ho90
  replace ho95 : ob M129 w92 10 := hM129 ▸ ob_nO hn128 ho95
  replace ho100 : ob M129 w97 10 := hM129 ▸ ob_nO hn128 ho100
  replace ho105 : ob M129 w102 10 := hM129 ▸ ob_nO hn128 ho105
  replace ho110 : ob M129 w107 11 := hM129 ▸ ob_nO hn128 ho110
  replace ho115 : ob M129 w112 11 := hM129 ▸ ob_nO hn128 ho115
  replace ho120 : ob M129 w117 9 := hM129 ▸ ob_nO hn128 ho120
  replace ho125 : ob M129 w122 9 := hM129 ▸ ob_nO hn128 ho125
  have ho130 : ob M129 w127 9 := hM129 ▸ ob_new
  refine e_putFA 7 44 (v := some w127) rfl rfl (by decide) (aw (i := 1109) (by decide +kernel) rfl) rfl rfl rfl ho5 rfl ?_
  generalize hM131 : sP M129 a0 44 (some w127) = M131
  replace h := h M131 hM131.symm
  replace ho4 : ob M131 w1 9 := hM131 ▸ ob_sP ho4
  replace ho5 : ob M131 a0 7 := hM131 ▸ ob_sP ho5
  replace ho10 : ob M131 w7 9 := hM131 ▸ ob_sP ho10
  replace ho15 : ob M131 w12 9 := hM131 ▸ ob_sP ho15
  replace ho20 : ob M131 w17 9 := hM131 ▸ ob_sP ho20
  replace ho25 : ob M131 w22 8 := hM131 ▸ ob_sP ho25
  replace ho30 : ob M131 w27 10 := hM131 ▸ ob_sP ho30
  replace ho35 : ob M131 w32 11 := hM131 ▸ ob_sP ho35
  replace ho40 : ob M131 w37 11 := hM131 ▸ ob_sP ho40
  replace ho45 : ob M131 w42 9 := hM131 ▸ ob_sP ho45
  replace ho50 : ob M131 w47 9 := hM131 ▸ ob_sP ho50
  replace ho55 : ob M131 w52 9 := hM131 ▸ ob_sP ho55
  replace ho60 : ob M131 w57 9 := hM131 ▸ ob_sP ho60
  replace ho65 : ob M131 w62 9 := hM131 ▸ ob_sP ho65
  replace ho70 : ob M131 w67 10 := hM131 ▸ ob_sP ho70
  replace ho75 : ob M131 w72 11 := hM131 ▸ ob_sP ho75
  replace ho80 : ob M131 w77 11 := hM131 ▸ ob_sP ho80
  replace ho85 : ob M131 w82 10 := hM131 ▸ ob_sP ho85
  replace ho90 : ob M131 w87 11 := hM131 ▸ ob_sP ho90
  replace ho95 : ob M131 w92 10 := hM131 ▸ ob_sP ho95
  replace ho100 : ob M131 w97 10 := hM131 ▸ ob_sP ho100
  replace ho105 : ob M131 w102 10 := hM131 ▸ ob_sP ho105
  replace ho110 : ob M131 w107 11 := hM131 ▸ ob_sP ho110
  replace ho115 : ob M131 w112 11 := hM131 ▸ ob_sP ho115
  replace ho120 : ob M131 w117 9 := hM131 ▸ ob_sP ho120
  replace ho125 : ob M131 w122 9 := hM131 ▸ ob_sP ho125
  replace ho130 : ob M131 w127 9 := hM131 ▸ ob_sP ho130
  refine e_blk 2 212 _ _ (pc' := 215) (L' := [some (.ref a0)]) (st' := [.int (100 : Int32), .ref a0]) rfl ?_
  refine e_newI 100 rfl (aw (i := 190) (by decide +kernel) rfl) (by decide) rfl (by decide) (by decide) (by decide) (fun w132 hn133 => ?_)
  replace h := h w132 hn133
  generalize hM134 : nO M131 w132 9 100 = M134
  replace h := h M134 hM134.symm
  replace ho4 : ob M134 w1 9 := hM134 ▸ ob_nO hn133 ho4
  replace ho5 : ob M134 a0 7 := hM134 ▸ ob_nO hn133 ho5
  replace ho10 : ob M134 w7 9 := hM134 ▸ ob_nO hn133 ho10
  replace ho15 : ob M134 w12 9 := hM134 ▸ ob_nO hn133 ho15
  replace ho20 : ob M134 w17 9 := hM134 ▸ ob_nO hn133 ho20
  replace ho25 : ob M134 w22 8 := hM134 ▸ ob_nO hn133 ho25
  replace ho30 : ob M134 w27 10 := hM134 ▸ ob_nO hn133 ho30
  replace ho35 : ob M134 w32 11 := hM134 ▸ ob_nO hn133 ho35
  replace ho40 : ob M134 w37 11 := hM134 ▸ ob_nO hn133 ho40
  replace ho45 : ob M134 w42 9 := hM134 ▸ ob_nO hn133 ho45
  replace ho50 : ob M134 w47 9 := hM134 ▸ ob_nO hn133 ho50
  replace ho55 : ob M134 w52 9 := hM134 ▸ ob_nO hn133 ho55
  replace ho60 : ob M134 w57 9 := hM134 ▸ ob_nO hn133 ho60
  replace ho65 : ob M134 w62 9 := hM134 ▸ ob_nO hn133 ho65
  replace ho70 : ob M134 w67 10 := hM134 ▸ ob_nO hn133 ho70
  replace ho75 : ob M134 w72 11 := hM134 ▸ ob_nO hn133 ho75
  replace ho80 : ob M134 w77 11 := hM134 ▸ ob_nO hn133 ho80
  replace ho85 : ob M134 w82 10 := hM134 ▸ ob_nO hn133 ho85
  replace ho90 : ob M134 w87 11 := hM134 ▸ ob_nO hn133 ho90
  replace ho95 : ob M134 w92 10 := hM134 ▸ ob_nO hn133 ho95
  replace ho100 : ob M134 w97 10 := hM134 ▸ ob_nO hn133 ho100
  replace ho105 : ob M134 w102 10 := hM134 ▸ ob_nO hn133 ho105
  replace ho110 : ob M134 w107 11 := hM134 ▸ ob_nO hn133 ho110
  replace ho115 : ob M134 w112 11 := hM134 ▸ ob_nO hn133 ho115
  replace ho120 : ob M134 w117 9 := hM134 ▸ ob_nO hn133 ho120
  replace ho125 : ob M134 w122 9 := hM134 ▸ ob_nO hn133 ho125
  replace ho130 : ob M134 w127 9 := hM134 ▸ ob_nO hn133 ho130
  have ho135 : ob M134 w132 9 := hM134 ▸ ob_new
  refine e_putFA 7 46 (v := some w132) rfl rfl (by decide) (aw (i := 1111) (by decide +kernel) rfl) rfl rfl rfl ho5 rfl ?_
  generalize hM136 : sP M134 a0 46 (some w132) = M136
  replace h := h M136 hM136.symm
  replace ho4 : ob M136 w1 9 := hM136 ▸ ob_sP ho4
  replace ho5 : ob M136 a0 7 := hM136 ▸ ob_sP ho5
  replace ho10 : ob M136 w7 9 := hM136 ▸ ob_sP ho10
  replace ho15 : ob M136 w12 9 := hM136 ▸ ob_sP ho15
  replace ho20 : ob M136 w17 9 := hM136 ▸ ob_sP ho20
  replace ho25 : ob M136 w22 8 := hM136 ▸ ob_sP ho25
  replace ho30 : ob M136 w27 10 := hM136 ▸ ob_sP ho30
  replace ho35 : ob M136 w32 11 := hM136 ▸ ob_sP ho35
  replace ho40 : ob M136 w37 11 := hM136 ▸ ob_sP ho40
  replace ho45 : ob M136 w42 9 := hM136 ▸ ob_sP ho45
  replace ho50 : ob M136 w47 9 := hM136 ▸ ob_sP ho50
  replace ho55 : ob M136 w52 9 := hM136 ▸ ob_sP ho55
  replace ho60 : ob M136 w57 9 := hM136 ▸ ob_sP ho60
  replace ho65 : ob M136 w62 9 := hM136 ▸ ob_sP ho65
  replace ho70 : ob M136 w67 10 := hM136 ▸ ob_sP ho70
  replace ho75 : ob M136 w72 11 := hM136 ▸ ob_sP ho75
  replace ho80 : ob M136 w77 11 := hM136 ▸ ob_sP ho80
  replace ho85 : ob M136 w82 10 := hM136 ▸ ob_sP ho85
  replace ho90 : ob M136 w87 11 := hM136 ▸ ob_sP ho90
  replace ho95 : ob M136 w92 10 := hM136 ▸ ob_sP ho95
  replace ho100 : ob M136 w97 10 := hM136 ▸ ob_sP ho100
  replace ho105 : ob M136 w102 10 := hM136 ▸ ob_sP ho105
  replace ho110 : ob M136 w107 11 := hM136 ▸ ob_sP ho110
  replace ho115 : ob M136 w112 11 := hM136 ▸ ob_sP ho115
  replace ho120 : ob M136 w117 9 := hM136 ▸ ob_sP ho120
  replace ho125 : ob M136 w122 9 := hM136 ▸ ob_sP ho125
  replace ho130 : ob M136 w127 9 := hM136 ▸ ob_sP ho130
  replace ho135 : ob M136 w132 9 := hM136 ▸ ob_sP ho135
  refine e_blk 2 220 _ _ (pc' := 223) (L' := [some (.ref a0)]) (st' := [.int (100 : Int32), .ref a0]) rfl ?_
  refine e_newI 100 rfl (aw (i := 190) (by decide +kernel) rfl) (by decide) rfl (by decide) (by decide) (by decide) (fun w137 hn138 => ?_)
  replace h := h w137 hn138
  generalize hM139 : nO M136 w137 9 100 = M139
  replace h := h M139 hM139.symm
  replace ho4 : ob M139 w1 9 := hM139 ▸ ob_nO hn138 ho4
  replace ho5 : ob M139 a0 7 := hM139 ▸ ob_nO hn138 ho5
  replace ho10 : ob M139 w7 9 := hM139 ▸ ob_nO hn138 ho10
  replace ho15 : ob M139 w12 9 := hM139 ▸ ob_nO hn138 ho15
  replace ho20 : ob M139 w17 9 := hM139 ▸ ob_nO hn138 ho20
  replace ho25 : ob M139 w22 8 := hM139 ▸ ob_nO hn138 ho25
  replace ho30 : ob M139 w27 10 := hM139 ▸ ob_nO hn138 ho30
  replace ho35 : ob M139 w32 11 := hM139 ▸ ob_nO hn138 ho35
  replace ho40 : ob M139 w37 11 := hM139 ▸ ob_nO hn138 ho40
  replace ho45 : ob M139 w42 9 := hM139 ▸ ob_nO hn138 ho45
  replace ho50 : ob M139 w47 9 := hM139 ▸ ob_nO hn138 ho50
  replace ho55 : ob M139 w52 9 := hM139 ▸ ob_nO hn138 ho55
  replace ho60 : ob M139 w57 9 := hM139 ▸ ob_nO hn138 ho60
  replace ho65 : ob M139 w62 9 := hM139 ▸ ob_nO hn138 ho65
  replace ho70 : ob M139 w67 10 := hM139 ▸ ob_nO hn138 ho70
  replace ho75 : ob M139 w72 11 := hM139 ▸ ob_nO hn138 ho75
  replace ho80 : ob M139 w77 11 := hM139 ▸ ob_nO hn138 ho80
  replace ho85 : ob M139 w82 10 := hM139 ▸ ob_nO hn138 ho85
  replace ho90 : ob M139 w87 11 := hM139 ▸ ob_nO hn138 ho90
  replace ho95 : ob M139 w92 10 := hM139 ▸ ob_nO hn138 ho95
  replace ho100 : ob M139 w97 10 := hM139 ▸ ob_nO hn138 ho100
  replace ho105 : ob M139 w102 10 := hM139 ▸ ob_nO hn138 ho105
  replace ho110 : ob M139 w107 11 := hM139 ▸ ob_nO hn138 ho110
  replace ho115 : ob M139 w112 11 := hM139 ▸ ob_nO hn138 ho115
  replace ho120 : ob M139 w117 9 := hM139 ▸ ob_nO hn138 ho120
  replace ho125 : ob M139 w122 9 := hM139 ▸ ob_nO hn138 ho125
  replace ho130 : ob M139 w127 9 := hM139 ▸ ob_nO hn138 ho130
  replace ho135 : ob M139 w132 9 := hM139 ▸ ob_nO hn138 ho135
  have ho140 : ob M139 w137 9 := hM139 ▸ ob_new
  refine e_putFA 7 47 (v := some w137) rfl rfl (by decide) (aw (i := 1112) (by decide +kernel) rfl) rfl rfl rfl ho5 rfl ?_
  generalize hM141 : sP M139 a0 47 (some w137) = M141
  replace h := h M141 hM141.symm
  replace ho4 : ob M141 w1 9 := hM141 ▸ ob_sP ho4
  replace ho5 : ob M141 a0 7 := hM141 ▸ ob_sP ho5
  replace ho10 : ob M141 w7 9 := hM141 ▸ ob_sP ho10
  replace ho15 : ob M141 w12 9 := hM141 ▸ ob_sP ho15
  replace ho20 : ob M141 w17 9 := hM141 ▸ ob_sP ho20
  replace ho25 : ob M141 w22 8 := hM141 ▸ ob_sP ho25
  replace ho30 : ob M141 w27 10 := hM141 ▸ ob_sP ho30
  replace ho35 : ob M141 w32 11 := hM141 ▸ ob_sP ho35
  replace ho40 : ob M141 w37 11 := hM141 ▸ ob_sP ho40
  replace ho45 : ob M141 w42 9 := hM141 ▸ ob_sP ho45
  replace ho50 : ob M141 w47 9 := hM141 ▸ ob_sP ho50
  replace ho55 : ob M141 w52 9 := hM141 ▸ ob_sP ho55
  replace ho60 : ob M141 w57 9 := hM141 ▸ ob_sP ho60
  replace ho65 : ob M141 w62 9 := hM141 ▸ ob_sP ho65
  replace ho70 : ob M141 w67 10 := hM141 ▸ ob_sP ho70
  replace ho75 : ob M141 w72 11 := hM141 ▸ ob_sP ho75
  replace ho80 : ob M141 w77 11 := hM141 ▸ ob_sP ho80
  replace ho85 : ob M141 w82 10 := hM141 ▸ ob_sP ho85
  replace ho90 : ob M141 w87 11 := hM141 ▸ ob_sP ho90
  replace ho95 : ob M141 w92 10 := hM141 ▸ ob_sP ho95
  replace ho100 : ob M141 w97 10 := hM141 ▸ ob_sP ho100
  replace ho105 : ob M141 w102 10 := hM141 ▸ ob_sP ho105
  replace ho110 : ob M141 w107 11 := hM141 ▸ ob_sP ho110
  replace ho115 : ob M141 w112 11 := hM141 ▸ ob_sP ho115
  replace ho120 : ob M141 w117 9 := hM141 ▸ ob_sP ho120
  replace ho125 : ob M141 w122 9 := hM141 ▸ ob_sP ho125
  replace ho130 : ob M141 w127 9 := hM141 ▸ ob_sP ho130
  replace ho135 : ob M141 w132 9 := hM141 ▸ ob_sP ho135
  replace ho140 : ob M141 w137 9 := hM141 ▸ ob_sP ho140
  refine e_blk 2 228 _ _ (pc' := 231) (L' := [some (.ref a0)]) (st' := [.int (100 : Int32), .ref a0]) rfl ?_
  refine e_newI 100 rfl (aw (i := 190) (by decide +kernel) rfl) (by decide) rfl (by decide) (by decide) (by decide) (fun w142 hn143 => ?_)
  replace h := h w142 hn143
  generalize hM144 : nO M141 w142 9 100 = M144
  replace h := h M144 hM144.symm
  replace ho4 : ob M144 w1 9 := hM144 ▸ ob_nO hn143 ho4
  replace ho5 : ob M144 a0 7 := hM144 ▸ ob_nO hn143 ho5
  replace ho10 : ob M144 w7 9 := hM144 ▸ ob_nO hn143 ho10
  replace ho15 : ob M144 w12 9 := hM144 ▸ ob_nO hn143 ho15
  replace ho20 : ob M144 w17 9 := hM144 ▸ ob_nO hn143 ho20
  replace ho25 : ob M144 w22 8 := hM144 ▸ ob_nO hn143 ho25
  replace ho30 : ob M144 w27 10 := hM144 ▸ ob_nO hn143 ho30
  replace ho35 : ob M144 w32 11 := hM144 ▸ ob_nO hn143 ho35
  replace ho40 : ob M144 w37 11 := hM144 ▸ ob_nO hn143 ho40
  replace ho45 : ob M144 w42 9 := hM144 ▸ ob_nO hn143 ho45
  replace ho50 : ob M144 w47 9 := hM144 ▸ ob_nO hn143 ho50
  replace ho55 : ob M144 w52 9 := hM144 ▸ ob_nO hn143 ho55
  replace ho60 : ob M144 w57 9 := hM144 ▸ ob_nO hn143 ho60
  replace ho65 : ob M144 w62 9 := hM144 ▸ ob_nO hn143 ho65
  replace ho70 : ob M144 w67 10 := hM144 ▸ ob_nO hn143 ho70
  replace ho75 : ob M144 w72 11 := hM144 ▸ ob_nO hn143 ho75
  replace ho80 : ob M144 w77 11 := hM144 ▸ ob_nO hn143 ho80
  replace ho85 : ob M144 w82 10 := hM144 ▸ ob_nO hn143 ho85
  replace ho90 : ob M144 w87 11 := hM144 ▸ ob_nO hn143 ho90
  replace ho95 : ob M144 w92 10 := hM144 ▸ ob_nO hn143 ho95
  replace ho100 : ob M144 w97 10 := hM144 ▸ ob_nO hn143 ho100
  replace ho105 : ob M144 w102 10 := hM144 ▸ ob_nO hn143 ho105
  replace ho110 : ob M144 w107 11 := hM144 ▸ ob_nO hn143 ho110
  replace ho115 : ob M144 w112 11 := hM144 ▸ ob_nO hn143 ho115
  replace ho120 : ob M144 w117 9 := hM144 ▸ ob_nO hn143 ho120
  replace ho125 : ob M144 w122 9 := hM144 ▸ ob_nO hn143 ho125
  replace ho130 : ob M144 w127 9 := hM144 ▸ ob_nO hn143 ho130
  replace ho135 : ob M144 w132 9 := hM144 ▸ ob_nO hn143 ho135
  replace ho140 : ob M144 w137 9 := hM144 ▸ ob_nO hn143 ho140
  have ho145 : ob M144 w142 9 := hM144 ▸ ob_new
  refine e_putFA 7 48 (v := some w142) rfl rfl (by decide) (aw (i := 1113) (by decide +kernel) rfl) rfl rfl rfl ho5 rfl ?_
  generalize hM146 : sP M144 a0 48 (some w142) = M146
  replace h := h M146 hM146.symm
  replace ho4 : ob M146 w1 9 := hM146 ▸ ob_sP ho4
  replace ho5 : ob M146 a0 7 := hM146 ▸ ob_sP ho5
  replace ho10 : ob M146 w7 9 := hM146 ▸ ob_sP ho10
  replace ho15 : ob M146 w12 9 := hM146 ▸ ob_sP ho15
  replace ho20 : ob M146 w17 9 := hM146 ▸ ob_sP ho20
  replace ho25 : ob M146 w22 8 := hM146 ▸ ob_sP ho25
  replace ho30 : ob M146 w27 10 := hM146 ▸ ob_sP ho30
  replace ho35 : ob M146 w32 11 := hM146 ▸ ob_sP ho35
  replace ho40 : ob M146 w37 11 := hM146 ▸ ob_sP ho40
  replace ho45 : ob M146 w42 9 := hM146 ▸ ob_sP ho45
  replace ho50 : ob M146 w47 9 := hM146 ▸ ob_sP ho50
  replace ho55 : ob M146 w52 9 := hM146 ▸ ob_sP ho55
  replace ho60 : ob M146 w57 9 := hM146 ▸ ob_sP ho60
  replace ho65 : ob M146 w62 9 := hM146 ▸ ob_sP ho65
  replace ho70 : ob M146 w67 10 := hM146 ▸ ob_sP ho70
  replace ho75 : ob M146 w72 11 := hM146 ▸ ob_sP ho75
  replace ho80 : ob M146 w77 11 := hM146 ▸ ob_sP ho80
  replace ho85 : ob M146 w82 10 := hM146 ▸ ob_sP ho85
  replace ho90 : ob M146 w87 11 := hM146 ▸ ob_sP ho90
  replace ho95 : ob M146 w92 10 := hM146 ▸ ob_sP ho95
  replace ho100 : ob M146 w97 10 := hM146 ▸ ob_sP ho100
  replace ho105 : ob M146 w102 10 := hM146 ▸ ob_sP ho105
  replace ho110 : ob M146 w107 11 := hM146 ▸ ob_sP ho110
  replace ho115 : ob M146 w112 11 := hM146 ▸ ob_sP ho115
  replace ho120 : ob M146 w117 9 := hM146 ▸ ob_sP ho120
  replace ho125 : ob M146 w122 9 := hM146 ▸ ob_sP ho125
  replace ho130 : ob M146 w127 9 := hM146 ▸ ob_sP ho130
  replace ho135 : ob M146 w132 9 := hM146 ▸ ob_sP ho135
  replace ho140 : ob M146 w137 9 := hM146 ▸ ob_sP ho140
  replace ho145 : ob M146 w142 9 := hM146 ▸ ob_sP ho145
  refine e_blk 2 236 _ _ (pc' := 240) (L' := [some (.ref a0)]) (st' := [.int (300 : Int32), .ref a0]) rfl ?_
  refine e_newI 300 rfl (aw (i := 190) (by decide +kernel) rfl) (by decide) rfl (by decide) (by decide) (by decide) (fun w147 hn148 => ?_)
  replace h := h w147 hn148
  generalize hM149 : nO M146 w147 9 300 = M149
  replace h := h M149 hM149.symm
  replace ho4 : ob M149 w1 9 := hM149 ▸ ob_nO hn148 ho4
  replace ho5 : ob M149 a0 7 := hM149 ▸ ob_nO hn148 ho5
  replace ho10 : ob M149 w7 9 := hM149 ▸ ob_nO hn148 ho10
  replace ho15 : ob M149 w12 9 := hM149 ▸ ob_nO hn148 ho15
  replace ho20 : ob M149 w17 9 := hM149 ▸ ob_nO hn148 ho20
  replace ho25 : ob M149 w22 8 := hM149 ▸ ob_nO hn148 ho25
  replace ho30 : ob M149 w27 10 := hM149 ▸ ob_nO hn148 ho30
  replace ho35 : ob M149 w32 11 := hM149 ▸ ob_nO hn148 ho35
  replace ho40 : ob M149 w37 11 := hM149 ▸ ob_nO hn148 ho40
  replace ho45 : ob M149 w42 9 := hM149 ▸ ob_nO hn148 ho45
  replace ho50 : ob M149 w47 9 := hM149 ▸ ob_nO hn148 ho50
  replace ho55 : ob M149 w52 9 := hM149 ▸ ob_nO hn148 ho55
  replace ho60 : ob M149 w57 9 := hM149 ▸ ob_nO hn148 ho60
  replace ho65 : ob M149 w62 9 := hM149 ▸ ob_nO hn148 ho65
  replace ho70 : ob M149 w67 10 := hM149 ▸ ob_nO hn148 ho70
  replace ho75 : ob M149 w72 11 := hM149 ▸ ob_nO hn148 ho75
  replace ho80 : ob M149 w77 11 := hM149 ▸ ob_nO hn148 ho80
  replace ho85 : ob M149 w82 10 := hM149 ▸ ob_nO hn148 ho85
  replace ho90 : ob M149 w87 11 := hM149 ▸ ob_nO hn148 ho90
  replace ho95 : ob M149 w92 10 := hM149 ▸ ob_nO hn148 ho95
  replace ho100 : ob M149 w97 10 := hM149 ▸ ob_nO hn148 ho100
  replace ho105 : ob M149 w102 10 := hM149 ▸ ob_nO hn148 ho105
  replace ho110 : ob M149 w107 11 := hM149 ▸ ob_nO hn148 ho110
  replace ho115 : ob M149 w112 11 := hM149 ▸ ob_nO hn148 ho115
  replace ho120 : ob M149 w117 9 := hM149 ▸ ob_nO hn148 ho120
  replace ho125 : ob M149 w122 9 := hM149 ▸ ob_nO hn148 ho125
  replace ho130 : ob M149 w127 9 := hM149 ▸ ob_nO hn148 ho130
  replace ho135 : ob M149 w132 9 := hM149 ▸ ob_nO hn148 ho135
  replace ho140 : ob M149 w137 9 := hM149 ▸ ob_nO hn148 ho140
  replace ho145 : ob M149 w142 9 := hM149 ▸ ob_nO hn148 ho145
  have ho150 : ob M149 w147 9 := hM149 ▸ ob_new
  refine e_putFA 7 56 (v := some w147) rfl rfl (by decide) (aw (i := 1121) (by decide +kernel) rfl) rfl rfl rfl ho5 rfl ?_
  generalize hM151 : sP M149 a0 56 (some w147) = M151
  replace h := h M151 hM151.symm
  replace ho4 : ob M151 w1 9 := hM151 ▸ ob_sP ho4
  replace ho5 : ob M151 a0 7 := hM151 ▸ ob_sP ho5
  replace ho10 : ob M151 w7 9 := hM151 ▸ ob_sP ho10
  replace ho15 : ob M151 w12 9 := hM151 ▸ ob_sP ho15
  replace ho20 : ob M151 w17 9 := hM151 ▸ ob_sP ho20
  replace ho25 : ob M151 w22 8 := hM151 ▸ ob_sP ho25
  replace ho30 : ob M151 w27 10 := hM151 ▸ ob_sP ho30
  replace ho35 : ob M151 w32 11 := hM151 ▸ ob_sP ho35
  replace ho40 : ob M151 w37 11 := hM151 ▸ ob_sP ho40
  replace ho45 : ob M151 w42 9 := hM151 ▸ ob_sP ho45
  replace ho50 : ob M151 w47 9 := hM151 ▸ ob_sP ho50
  replace ho55 : ob M151 w52 9 := hM151 ▸ ob_sP ho55
  replace ho60 : ob M151 w57 9 := hM151 ▸ ob_sP ho60
  replace ho65 : ob M151 w62 9 := hM151 ▸ ob_sP ho65
  replace ho70 : ob M151 w67 10 := hM151 ▸ ob_sP ho70
  replace ho75 : ob M151 w72 11 := hM151 ▸ ob_sP ho75
  replace ho80 : ob M151 w77 11 := hM151 ▸ ob_sP ho80
  replace ho85 : ob M151 w82 10 := hM151 ▸ ob_sP ho85
  replace ho90 : ob M151 w87 11 := hM151 ▸ ob_sP ho90
  replace ho95 : ob M151 w92 10 := hM151 ▸ ob_sP ho95
  replace ho100 : ob M151 w97 10 := hM151 ▸ ob_sP ho100
  replace ho105 : ob M151 w102 10 := hM151 ▸ ob_sP ho105
  replace ho110 : ob M151 w107 11 := hM151 ▸ ob_sP ho110
  replace ho115 : ob M151 w112 11 := hM151 ▸ ob_sP ho115
  replace ho120 : ob M151 w117 9 := hM151 ▸ ob_sP ho120
  replace ho125 : ob M151 w122 9 := hM151 ▸ ob_sP ho125
  replace ho130 : ob M151 w127 9 := hM151 ▸ ob_sP ho130
  replace ho135 : ob M151 w132 9 := hM151 ▸ ob_sP ho135
  replace ho140 : ob M151 w137 9 := hM151 ▸ ob_sP ho140
  replace ho145 : ob M151 w142 9 := hM151 ▸ ob_sP ho145
  replace ho150 : ob M151 w147 9 := hM151 ▸ ob_sP ho150
  refine e_blk 2 245 _ _ (pc' := 249) (L' := [some (.ref a0)]) (st' := [.int (300 : Int32), .ref a0]) rfl ?_
  refine e_newI 300 rfl (aw (i := 190) (by decide +kernel) rfl) (by decide) rfl (by decide) (by decide) (by decide) (fun w152 hn153 => ?_)
  replace h := h w152 hn153
  generalize hM154 : nO M151 w152 9 300 = M154
  replace h := h M154 hM154.symm
  replace ho4 : ob M154 w1 9 := hM154 ▸ ob_nO hn153 ho4
  replace ho5 : ob M154 a0 7 := hM154 ▸ ob_nO hn153 ho5
  replace ho10 : ob M154 w7 9 := hM154 ▸ ob_nO hn153 ho10
  replace ho15 : ob M154 w12 9 := hM154 ▸ ob_nO hn153 ho15
  replace ho20 : ob M154 w17 9 := hM154 ▸ ob_nO hn153 ho20
  replace ho25 : ob M154 w22 8 := hM154 ▸ ob_nO hn153 ho25
  replace ho30 : ob M154 w27 10 := hM154 ▸ ob_nO hn153 ho30
  replace ho35 : ob M154 w32 11 := hM154 ▸ ob_nO hn153 ho35
  replace ho40 : ob M154 w37 11 := hM154 ▸ ob_nO hn153 ho40
  replace ho45 : ob M154 w42 9 := hM154 ▸ ob_nO hn153 ho45
  replace ho50 : ob M154 w47 9 := hM154 ▸ ob_nO hn153 ho50
  replace ho55 : ob M154 w52 9 := hM154 ▸ ob_nO hn153 ho55
  replace ho60 : ob M154 w57 9 := hM154 ▸ ob_nO hn153 ho60
  replace ho65 : ob M154 w62 9 := hM154 ▸ ob_nO hn153 ho65
  replace ho70 : ob M154 w67 10 := hM154 ▸ ob_nO hn153 ho70
  replace ho75 : ob M154 w72 11 := hM154 ▸ ob_nO hn153 ho75
  replace ho80 : ob M154 w77 11 := hM154 ▸ ob_nO hn153 ho80
  replace ho85 : ob M154 w82 10 := hM154 ▸ ob_nO hn153 ho85
  replace ho90 : ob M154 w87 11 := hM154 ▸ ob_nO hn153 ho90
  replace ho95 : ob M154 w92 10 := hM154 ▸ ob_nO hn153 ho95
  replace ho100 : ob M154 w97 10 := hM154 ▸ ob_nO hn153 ho100
  replace ho105 : ob M154 w102 10 := hM154 ▸ ob_nO hn153 ho105
  replace ho110 : ob M154 w107 11 := hM154 ▸ ob_nO hn153 ho110
  replace ho115 : ob M154 w112 11 := hM154 ▸ ob_nO hn153 ho115
  replace ho120 : ob M154 w117 9 := hM154 ▸ ob_nO hn153 ho120
  replace ho125 : ob M154 w122 9 := hM154 ▸ ob_nO hn153 ho125
  replace ho130 : ob M154 w127 9 := hM154 ▸ ob_nO hn153 ho130
  replace ho135 : ob M154 w132 9 := hM154 ▸ ob_nO hn153 ho135
  replace ho140 : ob M154 w137 9 := hM154 ▸ ob_nO hn153 ho140
  replace ho145 : ob M154 w142 9 := hM154 ▸ ob_nO hn153 ho145
  replace ho150 : ob M154 w147 9 := hM154 ▸ ob_nO hn153 ho150
  have ho155 : ob M154 w152 9 := hM154 ▸ ob_new
  refine e_putFA 7 57 (v := some w152) rfl rfl (by decide) (aw (i := 1122) (by decide +kernel) rfl) rfl rfl rfl ho5 rfl ?_
  generalize hM156 : sP M154 a0 57 (some w152) = M156
  replace h := h M156 hM156.symm
  replace ho4 : ob M156 w1 9 := hM156 ▸ ob_sP ho4
  replace ho5 : ob M156 a0 7 := hM156 ▸ ob_sP ho5
  replace ho10 : ob M156 w7 9 := hM156 ▸ ob_sP ho10
  replace ho15 : ob M156 w12 9 := hM156 ▸ ob_sP ho15
  replace ho20 : ob M156 w17 9 := hM156 ▸ ob_sP ho20
  replace ho25 : ob M156 w22 8 := hM156 ▸ ob_sP ho25
  replace ho30 : ob M156 w27 10 := hM156 ▸ ob_sP ho30
  replace ho35 : ob M156 w32 11 := hM156 ▸ ob_sP ho35
  replace ho40 : ob M156 w37 11 := hM156 ▸ ob_sP ho40
  replace ho45 : ob M156 w42 9 := hM156 ▸ ob_sP ho45
  replace ho50 : ob M156 w47 9 := hM156 ▸ ob_sP ho50
  replace ho55 : ob M156 w52 9 := hM156 ▸ ob_sP ho55
  replace ho60 : ob M156 w57 9 := hM156 ▸ ob_sP ho60
  replace ho65 : ob M156 w62 9 := hM156 ▸ ob_sP ho65
  replace ho70 : ob M156 w67 10 := hM156 ▸ ob_sP ho70
  replace ho75 : ob M156 w72 11 := hM156 ▸ ob_sP ho75
  replace ho80 : ob M156 w77 11 := hM156 ▸ ob_sP ho80
  replace ho85 : ob M156 w82 10 := hM156 ▸ ob_sP ho85
  replace ho90 : ob M156 w87 11 := hM156 ▸ ob_sP ho90
  replace ho95 : ob M156 w92 10 := hM156 ▸ ob_sP ho95
  replace ho100 : ob M156 w97 10 := hM156 ▸ ob_sP ho100
  replace ho105 : ob M156 w102 10 := hM156 ▸ ob_sP ho105
  replace ho110 : ob M156 w107 11 := hM156 ▸ ob_sP ho110
  replace ho115 : ob M156 w112 11 := hM156 ▸ ob_sP ho115
  replace ho120 : ob M156 w117 9 := hM156 ▸ ob_sP ho120
  replace ho125 : ob M156 w122 9 := hM156 ▸ ob_sP ho125
  replace ho130 : ob M156 w127 9 := hM156 ▸ ob_sP ho130
  replace ho135 : ob M156 w132 9 := hM156 ▸ ob_sP ho135
  replace ho140 : ob M156 w137 9 := hM156 ▸ ob_sP ho140
  replace ho145 : ob M156 w142 9 := hM156 ▸ ob_sP ho145
  replace ho150 : ob M156 w147 9 := hM156 ▸ ob_sP ho150
  replace ho155 : ob M156 w152 9 := hM156 ▸ ob_sP ho155
  refine e_blk 2 254 _ _ (pc' := 258) (L' := [some (.ref a0)]) (st' := [.int (300 : Int32), .ref a0]) rfl ?_
  refine e_newI 300 rfl (aw (i := 190) (by decide +kernel) rfl) (by decide) rfl (by decide) (by decide) (by decide) (fun w157 hn158 => ?_)
  replace h := h w157 hn158
  generalize hM159 : nO M156 w157 9 300 = M159
  replace h := h M159 hM159.symm
  replace ho4 : ob M159 w1 9 := hM159 ▸ ob_nO hn158 ho4
  replace ho5 : ob M159 a0 7 := hM159 ▸ ob_nO hn158 ho5
  replace ho10 : ob M159 w7 9 := hM159 ▸ ob_nO hn158 ho10
  replace ho15 : ob M159 w12 9 := hM159 ▸ ob_nO hn158 ho15
  replace ho20 : ob M159 w17 9 := hM159 ▸ ob_nO hn158 ho20
  replace ho25 : ob M159 w22 8 := hM159 ▸ ob_nO hn158 ho25
  replace ho30 : ob M159 w27 10 := hM159 ▸ ob_nO hn158 ho30
  replace ho35 : ob M159 w32 11 := hM159 ▸ ob_nO hn158 ho35
  replace ho40 : ob M159 w37 11 := hM159 ▸ ob_nO hn158 ho40
  replace ho45 : ob M159 w42 9 := hM159 ▸ ob_nO hn158 ho45
  replace ho50 : ob M159 w47 9 := hM159 ▸ ob_nO hn158 ho50
  replace ho55 : ob M159 w52 9 := hM159 ▸ ob_nO hn158 ho55
  replace ho60 : ob M159 w57 9 := hM159 ▸ ob_nO hn158 ho60
  replace ho65 : ob M159 w62 9 := hM159 ▸ ob_nO hn158 ho65
  replace ho70 : ob M159 w67 10 := hM159 ▸ ob_nO hn158 ho70
  replace ho75 : ob M159 w72 11 := hM159 ▸ ob_nO hn158 ho75
  replace ho80 : ob M159 w77 11 := hM159 ▸ ob_nO hn158 ho80
  replace ho85 : ob M159 w82 10 := hM159 ▸ ob_nO hn158 ho85
  replace ho90 : ob M159 w87 11 := hM159 ▸ ob_nO hn158 ho90
  replace ho95 : ob M159 w92 10 := hM159 ▸ ob_nO hn158 ho95
  replace ho100 : ob M159 w97 10 := hM159 ▸ ob_nO hn158 ho100
  replace ho105 : ob M159 w102 10 := hM159 ▸ ob_nO hn158 ho105
  replace ho110 : ob M159 w107 11 := hM159 ▸ ob_nO hn158 ho110
  replace ho115 : ob M159 w112 11 := hM159 ▸ ob_nO hn158 ho115
  replace ho120 : ob M159 w117 9 := hM159 ▸ ob_nO hn158 ho120
  replace ho125 : ob M159 w122 9 := hM159 ▸ ob_nO hn158 ho125
  replace ho130 : ob M159 w127 9 := hM159 ▸ ob_nO hn158 ho130
  replace ho135 : ob M159 w132 9 := hM159 ▸ ob_nO hn158 ho135
  replace ho140 : ob M159 w137 9 := hM159 ▸ ob_nO hn158 ho140
  replace ho145 : ob M159 w142 9 := hM159 ▸ ob_nO hn158 ho145
  replace ho150 : ob M159 w147 9 := hM159 ▸ ob_nO hn158 ho150
  replace ho155 : ob M159 w152 9 := hM159 ▸ ob_nO hn158 ho155
  have ho160 : ob M159 w157 9 := hM159 ▸ ob_new
  refine e_putFA 7 58 (v := some w157) rfl rfl (by decide) (aw (i := 1123) (by decide +kernel) rfl) rfl rfl rfl ho5 rfl ?_
  generalize hM161 : sP M159 a0 58 (some w157) = M161
  replace h := h M161 hM161.symm
  replace ho4 : ob M161 w1 9 := hM161 ▸ ob_sP ho4
  replace ho5 : ob M161 a0 7 := hM161 ▸ ob_sP ho5
  replace ho10 : ob M161 w7 9 := hM161 ▸ ob_sP ho10
  replace ho15 : ob M161 w12 9 := hM161 ▸ ob_sP ho15
  replace ho20 : ob M161 w17 9 := hM161 ▸ ob_sP ho20
  replace ho25 : ob M161 w22 8 := hM161 ▸ ob_sP ho25
  replace ho30 : ob M161 w27 10 := hM161 ▸ ob_sP ho30
  replace ho35 : ob M161 w32 11 := hM161 ▸ ob_sP ho35
  replace ho40 : ob M161 w37 11 := hM161 ▸ ob_sP ho40
  replace ho45 : ob M161 w42 9 := hM161 ▸ ob_sP ho45
  replace ho50 : ob M161 w47 9 := hM161 ▸ ob_sP ho50
  replace ho55 : ob M161 w52 9 := hM161 ▸ ob_sP ho55
  replace ho60 : ob M161 w57 9 := hM161 ▸ ob_sP ho60
  replace ho65 : ob M161 w62 9 := hM161 ▸ ob_sP ho65
  replace ho70 : ob M161 w67 10 := hM161 ▸ ob_sP ho70
  replace ho75 : ob M161 w72 11 := hM161 ▸ ob_sP ho75
  replace ho80 : ob M161 w77 11 := hM161 ▸ ob_sP ho80
  replace ho85 : ob M161 w82 10 := hM161 ▸ ob_sP ho85
  replace ho90 : ob M161 w87 11 := hM161 ▸ ob_sP ho90
  replace ho95 : ob M161 w92 10 := hM161 ▸ ob_sP ho95
  replace ho100 : ob M161 w97 10 := hM161 ▸ ob_sP ho100
  replace ho105 : ob M161 w102 10 := hM161 ▸ ob_sP ho105
  replace ho110 : ob M161 w107 11 := hM161 ▸ ob_sP ho110
  replace ho115 : ob M161 w112 11 := hM161 ▸ ob_sP ho115
  replace ho120 : ob M161 w117 9 := hM161 ▸ ob_sP ho120
  replace ho125 : ob M161 w122 9 := hM161 ▸ ob_sP ho125
  replace ho130 : ob M161 w127 9 := hM161 ▸ ob_sP ho130
  replace ho135 : ob M161 w132 9 := hM161 ▸ ob_sP ho135
  replace ho140 : ob M161 w137 9 := hM161 ▸ ob_sP ho140
  replace ho145 : ob M161 w142 9 := hM161 ▸ ob_sP ho145
  replace ho150 : ob M161 w147 9 := hM161 ▸ ob_sP ho150
  replace ho155 : ob M161 w152 9 := hM161 ▸ ob_sP ho155
  replace ho160 : ob M161 w157 9 := hM161 ▸ ob_sP ho160
  refine e_blk 2 263 _ _ (pc' := 267) (L' := [some (.ref a0)]) (st' := [.int (300 : Int32), .ref a0]) rfl ?_
  refine e_newI 300 rfl (aw (i := 190) (by decide +kernel) rfl) (by decide) rfl (by decide) (by decide) (by decide) (fun w162 hn163 => ?_)
  replace h := h w162 hn163
  generalize hM164 : nO M161 w162 9 300 = M164
  replace h := h M164 hM164.symm
  replace ho4 : ob M164 w1 9 := hM164 ▸ ob_nO hn163 ho4
  replace ho5 : ob M164 a0 7 := hM164 ▸ ob_nO hn163 ho5
  replace ho10 : ob M164 w7 9 := hM164 ▸ ob_nO hn163 ho10
  replace ho15 : ob M164 w12 9 := hM164 ▸ ob_nO hn163 ho15
  replace ho20 : ob M164 w17 9 := hM164 ▸ ob_nO hn163 ho20
  replace ho25 : ob M164 w22 8 := hM164 ▸ ob_nO hn163 ho25
  replace ho30 : ob M164 w27 10 := hM164 ▸ ob_nO hn163 ho30
  replace ho35 : ob M164 w32 11 := hM164 ▸ ob_nO hn163 ho35
  replace ho40 : ob M164 w37 11 := hM164 ▸ ob_nO hn163 ho40
  replace ho45 : ob M164 w42 9 := hM164 ▸ ob_nO hn163 ho45
  replace ho50 : ob M164 w47 9 := hM164 ▸ ob_nO hn163 ho50
  replace ho55 : ob M164 w52 9 := hM164 ▸ ob_nO hn163 ho55
  replace ho60 : ob M164 w57 9 := hM164 ▸ ob_nO hn163 ho60
  replace ho65 : ob M164 w62 9 := hM164 ▸ ob_nO hn163 ho65
  replace ho70 : ob M164 w67 10 := hM164 ▸ ob_nO hn163 ho70
  replace ho75 : ob M164 w72 11 := hM164 ▸ ob_nO hn163 ho75
  replace ho80 : ob M164 w77 11 := hM164 ▸ ob_nO hn163 ho80
  replace ho85 : ob M164 w82 10 := hM164 ▸ ob_nO hn163 ho85
  replace ho90 : ob M164 w87 11 := hM164 ▸ ob_nO hn163 ho90
  replace ho95 : ob M164 w92 10 := hM164 ▸ ob_nO hn163 ho95
  replace ho100 : ob M164 w97 10 := hM164 ▸ ob_nO hn163 ho100
  replace ho105 : ob M164 w102 10 := hM164 ▸ ob_nO hn163 ho105
  replace ho110 : ob M164 w107 11 := hM164 ▸ ob_nO hn163 ho110
  replace ho115 : ob M164 w112 11 := hM164 ▸ ob_nO hn163 ho115
  replace ho120 : ob M164 w117 9 := hM164 ▸ ob_nO hn163 ho120
  replace ho125 : ob M164 w122 9 := hM164 ▸ ob_nO hn163 ho125
  replace ho130 : ob M164 w127 9 := hM164 ▸ ob_nO hn163 ho130
  replace ho135 : ob M164 w132 9 := hM164 ▸ ob_nO hn163 ho135
  replace ho140 : ob M164 w137 9 := hM164 ▸ ob_nO hn163 ho140
  replace ho145 : ob M164 w142 9 := hM164 ▸ ob_nO hn163 ho145
  replace ho150 : ob M164 w147 9 := hM164 ▸ ob_nO hn163 ho150
  replace ho155 : ob M164 w152 9 := hM164 ▸ ob_nO hn163 ho155
  replace ho160 : ob M164 w157 9 := hM164 ▸ ob_nO hn163 ho160
  have ho165 : ob M164 w162 9 := hM164 ▸ ob_new
  refine e_putFA 7 59 (v := some w162) rfl rfl (by decide) (aw (i := 1124) (by decide +kernel) rfl) rfl rfl rfl ho5 rfl ?_
  generalize hM166 : sP M164 a0 59 (some w162) = M166
  replace h := h M166 hM166.symm
  replace ho4 : ob M166 w1 9 := hM166 ▸ ob_sP ho4
  replace ho5 : ob M166 a0 7 := hM166 ▸ ob_sP ho5
  replace ho10 : ob M166 w7 9 := hM166 ▸ ob_sP ho10
  replace ho15 : ob M166 w12 9 := hM166 ▸ ob_sP ho15
  replace ho20 : ob M166 w17 9 := hM166 ▸ ob_sP ho20
  replace ho25 : ob M166 w22 8 := hM166 ▸ ob_sP ho25
  replace ho30 : ob M166 w27 10 := hM166 ▸ ob_sP ho30
  replace ho35 : ob M166 w32 11 := hM166 ▸ ob_sP ho35
  replace ho40 : ob M166 w37 11 := hM166 ▸ ob_sP ho40
  replace ho45 : ob M166 w42 9 := hM166 ▸ ob_sP ho45
  replace ho50 : ob M166 w47 9 := hM166 ▸ ob_sP ho50
  replace ho55 : ob M166 w52 9 := hM166 ▸ ob_sP ho55
  replace ho60 : ob M166 w57 9 := hM166 ▸ ob_sP ho60
  replace ho65 : ob M166 w62 9 := hM166 ▸ ob_sP ho65
  replace ho70 : ob M166 w67 10 := hM166 ▸ ob_sP ho70
  replace ho75 : ob M166 w72 11 := hM166 ▸ ob_sP ho75
  replace ho80 : ob M166 w77 11 := hM166 ▸ ob_sP ho80
  replace ho85 : ob M166 w82 10 := hM166 ▸ ob_sP ho85
  replace ho90 : ob M166 w87 11 := hM166 ▸ ob_sP ho90
  replace ho95 : ob M166 w92 10 := hM166 ▸ ob_sP ho95
  replace ho100 : ob M166 w97 10 := hM166 ▸ ob_sP ho100
  replace ho105 : ob M166 w102 10 := hM166 ▸ ob_sP ho105
  replace ho110 : ob M166 w107 11 := hM166 ▸ ob_sP ho110
  replace ho115 : ob M166 w112 11 := hM166 ▸ ob_sP ho115
  replace ho120 : ob M166 w117 9 := hM166 ▸ ob_sP ho120
  replace ho125 : ob M166 w122 9 := hM166 ▸ ob_sP ho125
  replace ho130 : ob M166 w127 9 := hM166 ▸ ob_sP ho130
  replace ho135 : ob M166 w132 9 := hM166 ▸ ob_sP ho135
  replace ho140 : ob M166 w137 9 := hM166 ▸ ob_sP ho140
  replace ho145 : ob M166 w142 9 := hM166 ▸ ob_sP ho145
  replace ho150 : ob M166 w147 9 := hM166 ▸ ob_sP ho150
  replace ho155 : ob M166 w152 9 := hM166 ▸ ob_sP ho155
  replace ho160 : ob M166 w157 9 := hM166 ▸ ob_sP ho160
  replace ho165 : ob M166 w162 9 := hM166 ▸ ob_sP ho165
  refine e_blk 2 272 _ _ (pc' := 274) (L' := [some (.ref a0)]) (st' := [.int (0 : Int32), .ref a0]) rfl ?_
  refine e_putI 7 0 rfl rfl (by decide) (aw (i := 1065) (by decide +kernel) rfl) rfl ho5 rfl ?_
  generalize hM167 : sI M166 a0 0 (0 : Int32) = M167
  replace h := h M167 hM167.symm
  replace ho4 : ob M167 w1 9 := hM167 ▸ ob_sI ho4
  replace ho5 : ob M167 a0 7 := hM167 ▸ ob_sI ho5
  replace ho10 : ob M167 w7 9 := hM167 ▸ ob_sI ho10
  replace ho15 : ob M167 w12 9 := hM167 ▸ ob_sI ho15
  replace ho20 : ob M167 w17 9 := hM167 ▸ ob_sI ho20
  replace ho25 : ob M167 w22 8 := hM167 ▸ ob_sI ho25
  replace ho30 : ob M167 w27 10 := hM167 ▸ ob_sI ho30
  replace ho35 : ob M167 w32 11 := hM167 ▸ ob_sI ho35
  replace ho40 : ob M167 w37 11 := hM167 ▸ ob_sI ho40
  replace ho45 : ob M167 w42 9 := hM167 ▸ ob_sI ho45
  replace ho50 : ob M167 w47 9 := hM167 ▸ ob_sI ho50
  replace ho55 : ob M167 w52 9 := hM167 ▸ ob_sI ho55
  replace ho60 : ob M167 w57 9 := hM167 ▸ ob_sI ho60
  replace ho65 : ob M167 w62 9 := hM167 ▸ ob_sI ho65
  replace ho70 : ob M167 w67 10 := hM167 ▸ ob_sI ho70
  replace ho75 : ob M167 w72 11 := hM167 ▸ ob_sI ho75
  replace ho80 : ob M167 w77 11 := hM167 ▸ ob_sI ho80
  replace ho85 : ob M167 w82 10 := hM167 ▸ ob_sI ho85
  replace ho90 : ob M167 w87 11 := hM167 ▸ ob_sI ho90
  replace ho95 : ob M167 w92 10 := hM167 ▸ ob_sI ho95
  replace ho100 : ob M167 w97 10 := hM167 ▸ ob_sI ho100
  replace ho105 : ob M167 w102 10 := hM167 ▸ ob_sI ho105
  replace ho110 : ob M167 w107 11 := hM167 ▸ ob_sI ho110
  replace ho115 : ob M167 w112 11 := hM167 ▸ ob_sI ho115
  replace ho120 : ob M167 w117 9 := hM167 ▸ ob_sI ho120
  replace ho125 : ob M167 w122 9 := hM167 ▸ ob_sI ho125
  replace ho130 : ob M167 w127 9 := hM167 ▸ ob_sI ho130
  replace ho135 : ob M167 w132 9 := hM167 ▸ ob_sI ho135
  replace ho140 : ob M167 w137 9 := hM167 ▸ ob_sI ho140
  replace ho145 : ob M167 w142 9 := hM167 ▸ ob_sI ho145
  replace ho150 : ob M167 w147 9 := hM167 ▸ ob_sI ho150
  replace ho155 : ob M167 w152 9 := hM167 ▸ ob_sI ho155
  replace ho160 : ob M167 w157 9 := hM167 ▸ ob_sI ho160
  replace ho165 : ob M167 w162 9 := hM167 ▸ ob_sI ho165
  exact e_ret rfl rfl (by decide) (by decide) h
