theorem ob_new {M : Mm} {q c n : Nat} : ob (nO M q c n) q c := ⟨List.mem_append_right _ List.mem_cons_self, va_up_self _ _ _⟩
theorem ob_nO {M : Mm} {q c n a d : Nat} (hq : q ∉ mL M) (h : ob M a d) : ob (nO M q c n) a d := ⟨List.mem_append_left _ h.1, (va_up_ne _ _ (fun e => hq (e ▸ h.1))).trans h.2⟩
def is_X0_init : List (Instr × Nat) := [(.aload_n 0, 1), (.invokespecial 3, 3), (.return_, 1)]
abbrev mi_X0_init : MI := (yX0_init, cX0_init, 1, none, [], { frames := 1, cells := 0, slots := 0, locals := 20 }, is_X0_init)
theorem dc_X0_init : dcb cX0_init is_X0_init 0 = true := by decide +kernel
theorem wc_X0_init : cdw mi_X0_init ∈ ALLW := aw (i := 89) (by decide +kernel) rfl
theorem wi_X0_init : Cond.initialized (miY mi_X0_init).cls ∈ ALLW := aw (i := 58) (by decide +kernel) rfl
theorem wn_X0_init : Cond.instanceMethod (miY mi_X0_init) ∈ ALLW := aw (i := 88) (by decide +kernel) rfl
def is_X1_init : List (Instr × Nat) := [(.aload_n 0, 1), (.invokespecial 3, 3), (.aload_n 0, 1), (.sipush 300, 3), (.newarray .int, 2), (.putfield 9, 3), (.aload_n 0, 1), (.sipush 300, 3), (.newarray .int, 2), (.putfield 15, 3), (.aload_n 0, 1), (.sipush 300, 3), (.newarray .int, 2), (.putfield 18, 3), (.aload_n 0, 1), (.sipush 300, 3), (.newarray .int, 2), (.putfield 21, 3), (.return_, 1)]
abbrev mi_X1_init : MI := (yX1_init, cX1_init, 1, none, [], { frames := 1, cells := 4, slots := 1200, locals := 20 }, is_X1_init)
theorem dc_X1_init : dcb cX1_init is_X1_init 0 = true := by decide +kernel
theorem wc_X1_init : cdw mi_X1_init ∈ ALLW := aw (i := 217) (by decide +kernel) rfl
theorem wi_X1_init : Cond.initialized (miY mi_X1_init).cls ∈ ALLW := aw (i := 61) (by decide +kernel) rfl
theorem wn_X1_init : Cond.instanceMethod (miY mi_X1_init) ∈ ALLW := aw (i := 216) (by decide +kernel) rfl
def is_X3_init : List (Instr × Nat) := [(.aload_n 0, 1), (.invokespecial 3, 3), (.aload_n 0, 1), (.new 9, 3), (.dup, 1), (.invokespecial 11, 3), (.putfield 12, 3), (.aload_n 0, 1), (.iconst 5, 1), (.newarray .long, 2), (.putfield 18, 3), (.aload_n 0, 1), (.iconst 5, 1), (.newarray .long, 2), (.putfield 22, 3), (.return_, 1)]
abbrev mi_X3_init : MI := (yX3_init, cX3_init, 1, none, [], { frames := 2, cells := 3, slots := 16, locals := 40 }, is_X3_init)
theorem dc_X3_init : dcb cX3_init is_X3_init 0 = true := by decide +kernel
theorem wc_X3_init : cdw mi_X3_init ∈ ALLW := aw (i := 135) (by decide +kernel) rfl
theorem wi_X3_init : Cond.initialized (miY mi_X3_init).cls ∈ ALLW := aw (i := 60) (by decide +kernel) rfl
theorem wn_X3_init : Cond.instanceMethod (miY mi_X3_init) ∈ ALLW := aw (i := 134) (by decide +kernel) rfl
def is_X5_init : List (Instr × Nat) := [(.aload_n 0, 1), (.invokespecial 3, 3), (.aload_n 0, 1), (.bipush 21, 2), (.newarray .int, 2), (.putfield 9, 3), (.aload_n 0, 1), (.bipush 21, 2), (.newarray .int, 2), (.putfield 15, 3), (.return_, 1)]
abbrev mi_X5_init : MI := (yX5_init, cX5_init, 1, none, [], { frames := 1, cells := 2, slots := 42, locals := 20 }, is_X5_init)
theorem dc_X5_init : dcb cX5_init is_X5_init 0 = true := by decide +kernel
theorem wc_X5_init : cdw mi_X5_init ∈ ALLW := aw (i := 243) (by decide +kernel) rfl
theorem wi_X5_init : Cond.initialized (miY mi_X5_init).cls ∈ ALLW := aw (i := 62) (by decide +kernel) rfl
theorem wn_X5_init : Cond.instanceMethod (miY mi_X5_init) ∈ ALLW := aw (i := 242) (by decide +kernel) rfl
def is_X2_init : List (Instr × Nat) := [(.aload_n 0, 1), (.invokespecial 3, 3), (.aload_n 0, 1), (.new 9, 3), (.dup, 1), (.invokespecial 11, 3), (.putfield 12, 3), (.aload_n 0, 1), (.bipush 8, 2), (.newarray .int, 2), (.putfield 18, 3), (.aload_n 0, 1), (.bipush 8, 2), (.newarray .int, 2), (.putfield 22, 3), (.aload_n 0, 1), (.new 25, 3), (.dup, 1), (.invokespecial 27, 3), (.putfield 28, 3), (.aload_n 0, 1), (.iload_n 1, 1), (.putfield 32, 3), (.return_, 1)]
abbrev mi_X2_init : MI := (yX2_init, cX2_init, 2, none, [], { frames := 3, cells := 9, slots := 90, locals := 60 }, is_X2_init)
theorem dc_X2_init : dcb cX2_init is_X2_init 0 = true := by decide +kernel
theorem wc_X2_init : cdw mi_X2_init ∈ ALLW := aw (i := 262) (by decide +kernel) rfl
theorem wi_X2_init : Cond.initialized (miY mi_X2_init).cls ∈ ALLW := aw (i := 63) (by decide +kernel) rfl
theorem wn_X2_init : Cond.instanceMethod (miY mi_X2_init) ∈ ALLW := aw (i := 261) (by decide +kernel) rfl
def is_X4_init : List (Instr × Nat) := [(.aload_n 0, 1), (.invokespecial 3, 3), (.aload_n 0, 1), (.sipush 160, 3), (.newarray .int, 2), (.putfield 9, 3), (.aload_n 0, 1), (.new 15, 3), (.dup, 1), (.invokespecial 17, 3), (.putfield 18, 3), (.return_, 1)]
abbrev mi_X4_init : MI := (yX4_init, cX4_init, 1, none, [], { frames := 3, cells := 5, slots := 189, locals := 60 }, is_X4_init)
theorem dc_X4_init : dcb cX4_init is_X4_init 0 = true := by decide +kernel
theorem wc_X4_init : cdw mi_X4_init ∈ ALLW := aw (i := 129) (by decide +kernel) rfl
theorem wi_X4_init : Cond.initialized (miY mi_X4_init).cls ∈ ALLW := aw (i := 59) (by decide +kernel) rfl
theorem wn_X4_init : Cond.instanceMethod (miY mi_X4_init) ∈ ALLW := aw (i := 128) (by decide +kernel) rfl
def is_X6_init : List (Instr × Nat) := [(.aload_n 0, 1), (.invokespecial 3, 3), (.aload_n 0, 1), (.new 9, 3), (.dup, 1), (.invokespecial 11, 3), (.putfield 12, 3), (.aload_n 0, 1), (.iconst 4, 1), (.anewarray 16, 3), (.putfield 18, 3), (.aload_n 0, 1), (.bipush 12, 2), (.anewarray 22, 3), (.putfield 24, 3), (.aload_n 0, 1), (.new 28, 3), (.dup, 1), (.invokespecial 30, 3), (.putfield 31, 3), (.aload_n 0, 1), (.new 35, 3), (.dup, 1), (.invokespecial 37, 3), (.putfield 38, 3), (.aload_n 0, 1), (.iconst 1, 1), (.putfield 42, 3), (.iconst 0, 1), (.istore_n 1, 1), (.iload_n 1, 1), (.iconst 4, 1), (.if_icmp .ge 22, 3), (.aload_n 0, 1), (.getfield 18, 3), (.iload_n 1, 1), (.new 16, 3), (.dup, 1), (.invokespecial 46, 3), (.aastore, 1), (.iinc 1 1, 3), (.goto (-21), 3), (.iconst 0, 1), (.istore_n 1, 1), (.iload_n 1, 1), (.bipush 12, 2), (.if_icmp .ge 23, 3), (.aload_n 0, 1), (.getfield 24, 3), (.iload_n 1, 1), (.new 22, 3), (.dup, 1), (.iload_n 1, 1), (.invokespecial 47, 3), (.aastore, 1), (.iinc 1 1, 3), (.goto (-23), 3), (.return_, 1)]
abbrev mi_X6_init : MI := (yX6_init, cX6_init, 2, none, [], { frames := 4, cells := 146, slots := 2886, locals := 81 }, is_X6_init)
theorem dc_X6_init : dcb cX6_init is_X6_init 0 = true := by decide +kernel
theorem wc_X6_init : cdw mi_X6_init ∈ ALLW := aw (i := 81) (by decide +kernel) rfl
theorem wi_X6_init : Cond.initialized (miY mi_X6_init).cls ∈ ALLW := aw (i := 57) (by decide +kernel) rfl
theorem wn_X6_init : Cond.instanceMethod (miY mi_X6_init) ∈ ALLW := aw (i := 80) (by decide +kernel) rfl
def is_X7_init : List (Instr × Nat) := [(.aload_n 0, 1), (.invokespecial 1, 3), (.aload_n 0, 1), (.iconst 4, 1), (.newarray .int, 2), (.putfield 7, 3), (.aload_n 0, 1), (.iconst 4, 1), (.newarray .int, 2), (.putfield 13, 3), (.aload_n 0, 1), (.bipush 80, 2), (.newarray .int, 2), (.putfield 16, 3), (.aload_n 0, 1), (.bipush 80, 2), (.newarray .int, 2), (.putfield 19, 3), (.aload_n 0, 1), (.sipush 160, 3), (.newarray .byte, 2), (.putfield 22, 3), (.aload_n 0, 1), (.iconst 5, 1), (.newarray .long, 2), (.putfield 26, 3), (.aload_n 0, 1), (.sipush 300, 3), (.newarray .boolean, 2), (.putfield 30, 3), (.aload_n 0, 1), (.bipush 12, 2), (.newarray .boolean, 2), (.putfield 34, 3), (.aload_n 0, 1), (.bipush 12, 2), (.newarray .int, 2), (.putfield 37, 3), (.aload_n 0, 1), (.bipush 12, 2), (.newarray .int, 2), (.putfield 40, 3), (.aload_n 0, 1), (.bipush 12, 2), (.newarray .int, 2), (.putfield 43, 3), (.aload_n 0, 1), (.bipush 12, 2), (.newarray .int, 2), (.putfield 46, 3), (.aload_n 0, 1), (.bipush 12, 2), (.newarray .int, 2), (.putfield 49, 3), (.aload_n 0, 1), (.bipush 60, 2), (.newarray .long, 2), (.putfield 52, 3), (.aload_n 0, 1), (.sipush 3600, 3), (.newarray .boolean, 2), (.putfield 55, 3), (.aload_n 0, 1), (.bipush 12, 2), (.newarray .boolean, 2), (.putfield 58, 3), (.aload_n 0, 1), (.bipush 12, 2), (.newarray .long, 2), (.putfield 61, 3), (.aload_n 0, 1), (.bipush 12, 2), (.newarray .boolean, 2), (.putfield 64, 3), (.aload_n 0, 1), (.bipush 12, 2), (.newarray .long, 2), (.putfield 67, 3), (.aload_n 0, 1), (.bipush 12, 2), (.newarray .long, 2), (.putfield 70, 3), (.aload_n 0, 1), (.bipush 12, 2), (.newarray .long, 2), (.putfield 73, 3), (.aload_n 0, 1), (.bipush 12, 2), (.newarray .boolean, 2), (.putfield 76, 3), (.aload_n 0, 1), (.bipush 12, 2), (.newarray .boolean, 2), (.putfield 79, 3), (.aload_n 0, 1), (.bipush 12, 2), (.newarray .int, 2), (.putfield 82, 3), (.aload_n 0, 1), (.bipush 12, 2), (.newarray .int, 2), (.putfield 85, 3), (.aload_n 0, 1), (.bipush 12, 2), (.newarray .int, 2), (.putfield 88, 3), (.aload_n 0, 1), (.bipush 100, 2), (.newarray .int, 2), (.putfield 91, 3), (.aload_n 0, 1), (.bipush 100, 2), (.newarray .int, 2), (.putfield 94, 3), (.aload_n 0, 1), (.bipush 100, 2), (.newarray .int, 2), (.putfield 97, 3), (.aload_n 0, 1), (.sipush 300, 3), (.newarray .int, 2), (.putfield 100, 3), (.aload_n 0, 1), (.sipush 300, 3), (.newarray .int, 2), (.putfield 103, 3), (.aload_n 0, 1), (.sipush 300, 3), (.newarray .int, 2), (.putfield 106, 3), (.aload_n 0, 1), (.sipush 300, 3), (.newarray .int, 2), (.putfield 109, 3), (.aload_n 0, 1), (.iconst 0, 1), (.putfield 112, 3), (.return_, 1)]
abbrev mi_X7_init : MI := (yX7_init, cX7_init, 1, none, [], { frames := 1, cells := 33, slots := 5997, locals := 20 }, is_X7_init)
theorem dc_X7_init : dcb cX7_init is_X7_init 0 = true := by decide +kernel
theorem wc_X7_init : cdw mi_X7_init ∈ ALLW := aw (i := 1063) (by decide +kernel) rfl
theorem wi_X7_init : Cond.initialized (miY mi_X7_init).cls ∈ ALLW := aw (i := 64) (by decide +kernel) rfl
theorem wn_X7_init : Cond.instanceMethod (miY mi_X7_init) ∈ ALLW := aw (i := 1062) (by decide +kernel) rfl
def V_X0_init (K : Rs → Mm → Prop) (M : Mm) (a0 : Nat) : Prop := K (.inl none) M
set_option maxRecDepth 100000 in
set_option maxHeartbeats 4000000 in
theorem x_X0_init {G : Gx} {K : Rs → Mm → Prop} {M : Mm} {a0 : Nat} (h : V_X0_init K M a0) : MC G mi_X0_init [.ref a0] M K := by
  unfold V_X0_init at h
  refine mc_of rfl (by decide +kernel) dc_X0_init (Nat.le_of_ble_eq_true rfl) 0 (Nat.le_of_ble_eq_true rfl) ?_
  show E G mi_X0_init K M 0 0 0 [some (.ref a0)] []
  refine e_blk 1 0 _ _ (pc' := 1) (L' := [some (.ref a0)]) (st' := [.ref a0]) rfl ?_
  refine e_objI rfl (aw (i := 90) (by decide +kernel) rfl) (aw (i := 83) (by decide +kernel) rfl) (aw (i := 84) (by decide +kernel) rfl) (by decide) (by decide) ?_
  exact e_ret rfl rfl (by decide) (by decide) h
def V_X1_init (K : Rs → Mm → Prop) (M : Mm) (a0 : Nat) : Prop := ∀ a1, a1 ∉ mL M → ∀ M3, M3 = nO M a1 9 300 → (ob M3 a0 1 ∧ ∀ M6, M6 = sP M3 a0 0 (some a1) → ∀ a7, a7 ∉ mL M6 → ∀ M9, M9 = nO M6 a7 9 300 → ∀ M11, M11 = sP M9 a0 1 (some a7) → ∀ a12, a12 ∉ mL M11 → ∀ M14, M14 = nO M11 a12 9 300 → ∀ M16, M16 = sP M14 a0 2 (some a12) → ∀ a17, a17 ∉ mL M16 → ∀ M19, M19 = nO M16 a17 9 300 → ∀ M21, M21 = sP M19 a0 3 (some a17) → K (.inl none) M21)
set_option maxRecDepth 100000 in
set_option maxHeartbeats 4000000 in
theorem x_X1_init {G : Gx} {K : Rs → Mm → Prop} {M : Mm} {a0 : Nat} (h : V_X1_init K M a0) : MC G mi_X1_init [.ref a0] M K := by
  unfold V_X1_init at h
  refine mc_of rfl (by decide +kernel) dc_X1_init (Nat.le_of_ble_eq_true rfl) 0 (Nat.le_of_ble_eq_true rfl) ?_
  show E G mi_X1_init K M 0 0 0 [some (.ref a0)] []
  refine e_blk 1 0 _ _ (pc' := 1) (L' := [some (.ref a0)]) (st' := [.ref a0]) rfl ?_
  refine e_objI rfl (aw (i := 218) (by decide +kernel) rfl) (aw (i := 83) (by decide +kernel) rfl) (aw (i := 84) (by decide +kernel) rfl) (by decide) (by decide) ?_
  refine e_blk 2 4 _ _ (pc' := 8) (L' := [some (.ref a0)]) (st' := [.int (300 : Int32), .ref a0]) rfl ?_
  refine e_newI 300 rfl (aw (i := 190) (by decide +kernel) rfl) (by decide) rfl (by decide) (by decide) (by decide) (fun a1 hn2 => ?_)
  replace h := h a1 hn2
  generalize hM3 : nO M a1 9 300 = M3
  replace h := h M3 hM3.symm
  have ho4 : ob M3 a1 9 := hM3 ▸ ob_new
  obtain ⟨ho5, h⟩ := h
  refine e_putFA 1 0 (v := some a1) rfl rfl (by decide) (aw (i := 219) (by decide +kernel) rfl) rfl rfl rfl ho5 rfl ?_
  generalize hM6 : sP M3 a0 0 (some a1) = M6
  replace h := h M6 hM6.symm
  replace ho4 : ob M6 a1 9 := hM6 ▸ ob_sP ho4
  replace ho5 : ob M6 a0 1 := hM6 ▸ ob_sP ho5
  refine e_blk 2 13 _ _ (pc' := 17) (L' := [some (.ref a0)]) (st' := [.int (300 : Int32), .ref a0]) rfl ?_
  refine e_newI 300 rfl (aw (i := 190) (by decide +kernel) rfl) (by decide) rfl (by decide) (by decide) (by decide) (fun a7 hn8 => ?_)
  replace h := h a7 hn8
  generalize hM9 : nO M6 a7 9 300 = M9
  replace h := h M9 hM9.symm
  replace ho4 : ob M9 a1 9 := hM9 ▸ ob_nO hn8 ho4
  replace ho5 : ob M9 a0 1 := hM9 ▸ ob_nO hn8 ho5
  have ho10 : ob M9 a7 9 := hM9 ▸ ob_new
  refine e_putFA 1 1 (v := some a7) rfl rfl (by decide) (aw (i := 221) (by decide +kernel) rfl) rfl rfl rfl ho5 rfl ?_
  generalize hM11 : sP M9 a0 1 (some a7) = M11
  replace h := h M11 hM11.symm
  replace ho4 : ob M11 a1 9 := hM11 ▸ ob_sP ho4
  replace ho5 : ob M11 a0 1 := hM11 ▸ ob_sP ho5
  replace ho10 : ob M11 a7 9 := hM11 ▸ ob_sP ho10
  refine e_blk 2 22 _ _ (pc' := 26) (L' := [some (.ref a0)]) (st' := [.int (300 : Int32), .ref a0]) rfl ?_
  refine e_newI 300 rfl (aw (i := 190) (by decide +kernel) rfl) (by decide) rfl (by decide) (by decide) (by decide) (fun a12 hn13 => ?_)
  replace h := h a12 hn13
  generalize hM14 : nO M11 a12 9 300 = M14
  replace h := h M14 hM14.symm
  replace ho4 : ob M14 a1 9 := hM14 ▸ ob_nO hn13 ho4
  replace ho5 : ob M14 a0 1 := hM14 ▸ ob_nO hn13 ho5
  replace ho10 : ob M14 a7 9 := hM14 ▸ ob_nO hn13 ho10
  have ho15 : ob M14 a12 9 := hM14 ▸ ob_new
  refine e_putFA 1 2 (v := some a12) rfl rfl (by decide) (aw (i := 223) (by decide +kernel) rfl) rfl rfl rfl ho5 rfl ?_
  generalize hM16 : sP M14 a0 2 (some a12) = M16
  replace h := h M16 hM16.symm
  replace ho4 : ob M16 a1 9 := hM16 ▸ ob_sP ho4
  replace ho5 : ob M16 a0 1 := hM16 ▸ ob_sP ho5
  replace ho10 : ob M16 a7 9 := hM16 ▸ ob_sP ho10
  replace ho15 : ob M16 a12 9 := hM16 ▸ ob_sP ho15
  refine e_blk 2 31 _ _ (pc' := 35) (L' := [some (.ref a0)]) (st' := [.int (300 : Int32), .ref a0]) rfl ?_
  refine e_newI 300 rfl (aw (i := 190) (by decide +kernel) rfl) (by decide) rfl (by decide) (by decide) (by decide) (fun a17 hn18 => ?_)
  replace h := h a17 hn18
  generalize hM19 : nO M16 a17 9 300 = M19
  replace h := h M19 hM19.symm
  replace ho4 : ob M19 a1 9 := hM19 ▸ ob_nO hn18 ho4
  replace ho5 : ob M19 a0 1 := hM19 ▸ ob_nO hn18 ho5
  replace ho10 : ob M19 a7 9 := hM19 ▸ ob_nO hn18 ho10
  replace ho15 : ob M19 a12 9 := hM19 ▸ ob_nO hn18 ho15
  have ho20 : ob M19 a17 9 := hM19 ▸ ob_new
  refine e_putFA 1 3 (v := some a17) rfl rfl (by decide) (aw (i := 225) (by decide +kernel) rfl) rfl rfl rfl ho5 rfl ?_
  generalize hM21 : sP M19 a0 3 (some a17) = M21
  replace h := h M21 hM21.symm
  replace ho4 : ob M21 a1 9 := hM21 ▸ ob_sP ho4
  replace ho5 : ob M21 a0 1 := hM21 ▸ ob_sP ho5
  replace ho10 : ob M21 a7 9 := hM21 ▸ ob_sP ho10
  replace ho15 : ob M21 a12 9 := hM21 ▸ ob_sP ho15
  replace ho20 : ob M21 a17 9 := hM21 ▸ ob_sP ho20
  exact e_ret rfl rfl (by decide) (by decide) h
def V_X3_init (K : Rs → Mm → Prop) (M : Mm) (a0 : Nat) : Prop := ∀ a1, a1 ∉ mL M → ∀ M3, M3 = nO M a1 0 0 → V_X0_init (kV (fun M5 => (ob M5 a0 3 ∧ ∀ M7, M7 = sP M5 a0 0 (some a1) → ∀ a8, a8 ∉ mL M7 → ∀ M10, M10 = nO M7 a8 10 5 → ∀ M12, M12 = sP M10 a0 1 (some a8) → ∀ a13, a13 ∉ mL M12 → ∀ M15, M15 = nO M12 a13 10 5 → ∀ M17, M17 = sP M15 a0 2 (some a13) → K (.inl none) M17)) (fun _ _ => False)) M3 a1
set_option maxRecDepth 100000 in
set_option maxHeartbeats 4000000 in
theorem x_X3_init {G : Gx} {K : Rs → Mm → Prop} {M : Mm} {a0 : Nat} (h : V_X3_init K M a0) : MC G mi_X3_init [.ref a0] M K := by
  unfold V_X3_init at h
  refine mc_of rfl (by decide +kernel) dc_X3_init (Nat.le_of_ble_eq_true rfl) 0 (Nat.le_of_ble_eq_true rfl) ?_
  show E G mi_X3_init K M 0 0 0 [some (.ref a0)] []
  refine e_blk 1 0 _ _ (pc' := 1) (L' := [some (.ref a0)]) (st' := [.ref a0]) rfl ?_
  refine e_objI rfl (aw (i := 136) (by decide +kernel) rfl) (aw (i := 83) (by decide +kernel) rfl) (aw (i := 84) (by decide +kernel) rfl) (by decide) (by decide) ?_
  refine e_blk 1 4 _ _ (pc' := 5) (L' := [some (.ref a0)]) (st' := [.ref a0]) rfl ?_
  refine e_new 0 rfl rfl (aw (i := 137) (by decide +kernel) rfl) (aw (i := 86) (by decide +kernel) rfl) (aw (i := 58) (by decide +kernel) rfl) (by decide) (by decide) (fun a1 hn2 => ?_)
  replace h := h a1 hn2
  generalize hM3 : nO M a1 0 0 = M3
  replace h := h M3 hM3.symm
  have ho4 : ob M3 a1 0 := hM3 ▸ ob_new
  refine e_blk 1 8 _ _ (pc' := 9) (L' := [some (.ref a0)]) (st' := [.ref a1, .ref a1, .ref a0]) rfl ?_
  refine e_callIN (As := []) (rest := [.ref a1, .ref a0]) (host := "CalendarOrders") rfl (x_X0_init h) (fun X M9 hq => hq) rfl rfl rfl (ao (i := 138) (by decide +kernel) rfl) wn_X0_init wi_X0_init wc_X0_init (show cok mi_X3_init mi_X0_init 1 6 0 = true by decide +kernel) (Nat.le_of_ble_eq_true rfl) (fun v9 M5 hq => ?_)
  obtain ⟨rfl, h⟩ := kV_l hq
  obtain ⟨ho6, h⟩ := h
  refine e_putFP 3 0 (v := some a1) rfl rfl (by decide) (aw (i := 139) (by decide +kernel) rfl) rfl rfl rfl ho6 rfl ?_
  generalize hM7 : sP M5 a0 0 (some a1) = M7
  replace h := h M7 hM7.symm
  replace ho6 : ob M7 a0 3 := hM7 ▸ ob_sP ho6
  refine e_blk 2 15 _ _ (pc' := 17) (L' := [some (.ref a0)]) (st' := [.int (5 : Int32), .ref a0]) rfl ?_
  refine e_newJ 5 rfl (aw (i := 191) (by decide +kernel) rfl) (by decide) rfl (by decide) (by decide) (by decide) (fun a8 hn9 => ?_)
  replace h := h a8 hn9
  generalize hM10 : nO M7 a8 10 5 = M10
  replace h := h M10 hM10.symm
  replace ho6 : ob M10 a0 3 := hM10 ▸ ob_nO hn9 ho6
  have ho11 : ob M10 a8 10 := hM10 ▸ ob_new
  refine e_putFA 3 1 (v := some a8) rfl rfl (by decide) (aw (i := 141) (by decide +kernel) rfl) rfl rfl rfl ho6 rfl ?_
  generalize hM12 : sP M10 a0 1 (some a8) = M12
  replace h := h M12 hM12.symm
  replace ho6 : ob M12 a0 3 := hM12 ▸ ob_sP ho6
  replace ho11 : ob M12 a8 10 := hM12 ▸ ob_sP ho11
  refine e_blk 2 22 _ _ (pc' := 24) (L' := [some (.ref a0)]) (st' := [.int (5 : Int32), .ref a0]) rfl ?_
  refine e_newJ 5 rfl (aw (i := 191) (by decide +kernel) rfl) (by decide) rfl (by decide) (by decide) (by decide) (fun a13 hn14 => ?_)
  replace h := h a13 hn14
  generalize hM15 : nO M12 a13 10 5 = M15
  replace h := h M15 hM15.symm
  replace ho6 : ob M15 a0 3 := hM15 ▸ ob_nO hn14 ho6
  replace ho11 : ob M15 a8 10 := hM15 ▸ ob_nO hn14 ho11
  have ho16 : ob M15 a13 10 := hM15 ▸ ob_new
  refine e_putFA 3 2 (v := some a13) rfl rfl (by decide) (aw (i := 143) (by decide +kernel) rfl) rfl rfl rfl ho6 rfl ?_
  generalize hM17 : sP M15 a0 2 (some a13) = M17
  replace h := h M17 hM17.symm
  replace ho6 : ob M17 a0 3 := hM17 ▸ ob_sP ho6
  replace ho11 : ob M17 a8 10 := hM17 ▸ ob_sP ho11
  replace ho16 : ob M17 a13 10 := hM17 ▸ ob_sP ho16
  exact e_ret rfl rfl (by decide) (by decide) h
def V_X5_init (K : Rs → Mm → Prop) (M : Mm) (a0 : Nat) : Prop := ∀ a1, a1 ∉ mL M → ∀ M3, M3 = nO M a1 9 21 → (ob M3 a0 5 ∧ ∀ M6, M6 = sP M3 a0 0 (some a1) → ∀ a7, a7 ∉ mL M6 → ∀ M9, M9 = nO M6 a7 9 21 → ∀ M11, M11 = sP M9 a0 1 (some a7) → K (.inl none) M11)
set_option maxRecDepth 100000 in
set_option maxHeartbeats 4000000 in
theorem x_X5_init {G : Gx} {K : Rs → Mm → Prop} {M : Mm} {a0 : Nat} (h : V_X5_init K M a0) : MC G mi_X5_init [.ref a0] M K := by
  unfold V_X5_init at h
  refine mc_of rfl (by decide +kernel) dc_X5_init (Nat.le_of_ble_eq_true rfl) 0 (Nat.le_of_ble_eq_true rfl) ?_
  show E G mi_X5_init K M 0 0 0 [some (.ref a0)] []
  refine e_blk 1 0 _ _ (pc' := 1) (L' := [some (.ref a0)]) (st' := [.ref a0]) rfl ?_
  refine e_objI rfl (aw (i := 244) (by decide +kernel) rfl) (aw (i := 83) (by decide +kernel) rfl) (aw (i := 84) (by decide +kernel) rfl) (by decide) (by decide) ?_
  refine e_blk 2 4 _ _ (pc' := 7) (L' := [some (.ref a0)]) (st' := [.int (21 : Int32), .ref a0]) rfl ?_
  refine e_newI 21 rfl (aw (i := 190) (by decide +kernel) rfl) (by decide) rfl (by decide) (by decide) (by decide) (fun a1 hn2 => ?_)
  replace h := h a1 hn2
  generalize hM3 : nO M a1 9 21 = M3
  replace h := h M3 hM3.symm
  have ho4 : ob M3 a1 9 := hM3 ▸ ob_new
  obtain ⟨ho5, h⟩ := h
  refine e_putFA 5 0 (v := some a1) rfl rfl (by decide) (aw (i := 245) (by decide +kernel) rfl) rfl rfl rfl ho5 rfl ?_
  generalize hM6 : sP M3 a0 0 (some a1) = M6
  replace h := h M6 hM6.symm
  replace ho4 : ob M6 a1 9 := hM6 ▸ ob_sP ho4
  replace ho5 : ob M6 a0 5 := hM6 ▸ ob_sP ho5
  refine e_blk 2 12 _ _ (pc' := 15) (L' := [some (.ref a0)]) (st' := [.int (21 : Int32), .ref a0]) rfl ?_
  refine e_newI 21 rfl (aw (i := 190) (by decide +kernel) rfl) (by decide) rfl (by decide) (by decide) (by decide) (fun a7 hn8 => ?_)
  replace h := h a7 hn8
  generalize hM9 : nO M6 a7 9 21 = M9
  replace h := h M9 hM9.symm
  replace ho4 : ob M9 a1 9 := hM9 ▸ ob_nO hn8 ho4
  replace ho5 : ob M9 a0 5 := hM9 ▸ ob_nO hn8 ho5
  have ho10 : ob M9 a7 9 := hM9 ▸ ob_new
  refine e_putFA 5 1 (v := some a7) rfl rfl (by decide) (aw (i := 247) (by decide +kernel) rfl) rfl rfl rfl ho5 rfl ?_
  generalize hM11 : sP M9 a0 1 (some a7) = M11
  replace h := h M11 hM11.symm
  replace ho4 : ob M11 a1 9 := hM11 ▸ ob_sP ho4
  replace ho5 : ob M11 a0 5 := hM11 ▸ ob_sP ho5
  replace ho10 : ob M11 a7 9 := hM11 ▸ ob_sP ho10
  exact e_ret rfl rfl (by decide) (by decide) h
def V_X2_init (K : Rs → Mm → Prop) (M : Mm) (a0 : Nat) (a1 : Int32) : Prop := ∀ a1, a1 ∉ mL M → ∀ M3, M3 = nO M a1 3 0 → V_X3_init (kV (fun M5 => (ob M5 a0 2 ∧ ∀ M7, M7 = sP M5 a0 1 (some a1) → ∀ a8, a8 ∉ mL M7 → ∀ M10, M10 = nO M7 a8 9 8 → ∀ M12, M12 = sP M10 a0 2 (some a8) → ∀ a13, a13 ∉ mL M12 → ∀ M15, M15 = nO M12 a13 9 8 → ∀ M17, M17 = sP M15 a0 3 (some a13) → ∀ a18, a18 ∉ mL M17 → ∀ M20, M20 = nO M17 a18 5 0 → V_X5_init (kV (fun M22 => (ob M22 a0 2 ∧ ∀ M24, M24 = sP M22 a0 5 (some a18) → ∀ M25, M25 = sI M24 a0 0 a1 → K (.inl none) M25)) (fun _ _ => False)) M20 a18)) (fun _ _ => False)) M3 a1
set_option maxRecDepth 100000 in
set_option maxHeartbeats 4000000 in
theorem x_X2_init {G : Gx} {K : Rs → Mm → Prop} {M : Mm} {a0 : Nat} {a1 : Int32} (h : V_X2_init K M a0 a1) : MC G mi_X2_init [.ref a0, .int a1] M K := by
  unfold V_X2_init at h
  refine mc_of rfl (by decide +kernel) dc_X2_init (Nat.le_of_ble_eq_true rfl) 0 (Nat.le_of_ble_eq_true rfl) ?_
  show E G mi_X2_init K M 0 0 0 [some (.ref a0), some (.int a1)] []
  refine e_blk 1 0 _ _ (pc' := 1) (L' := [some (.ref a0), some (.int a1)]) (st' := [.ref a0]) rfl ?_
  refine e_objI rfl (aw (i := 263) (by decide +kernel) rfl) (aw (i := 83) (by decide +kernel) rfl) (aw (i := 84) (by decide +kernel) rfl) (by decide) (by decide) ?_
  refine e_blk 1 4 _ _ (pc' := 5) (L' := [some (.ref a0), some (.int a1)]) (st' := [.ref a0]) rfl ?_
  refine e_new 3 rfl rfl (aw (i := 264) (by decide +kernel) rfl) (aw (i := 132) (by decide +kernel) rfl) (aw (i := 60) (by decide +kernel) rfl) (by decide) (by decide) (fun a1 hn2 => ?_)
  replace h := h a1 hn2
  generalize hM3 : nO M a1 3 0 = M3
  replace h := h M3 hM3.symm
  have ho4 : ob M3 a1 3 := hM3 ▸ ob_new
  refine e_blk 1 8 _ _ (pc' := 9) (L' := [some (.ref a0), some (.int a1)]) (st' := [.ref a1, .ref a1, .ref a0]) rfl ?_
  refine e_callIN (As := []) (rest := [.ref a1, .ref a0]) (host := "CalendarOrders") rfl (x_X3_init h) (fun X M9 hq => hq) rfl rfl rfl (ao (i := 265) (by decide +kernel) rfl) wn_X3_init wi_X3_init wc_X3_init (show cok mi_X2_init mi_X3_init 1 13 0 = true by decide +kernel) (Nat.le_of_ble_eq_true rfl) (fun v9 M5 hq => ?_)
  obtain ⟨rfl, h⟩ := kV_l hq
  obtain ⟨ho6, h⟩ := h
  refine e_putFP 2 1 (v := some a1) rfl rfl (by decide) (aw (i := 270) (by decide +kernel) rfl) rfl rfl rfl ho6 rfl ?_
  generalize hM7 : sP M5 a0 1 (some a1) = M7
  replace h := h M7 hM7.symm
  replace ho6 : ob M7 a0 2 := hM7 ▸ ob_sP ho6
  refine e_blk 2 15 _ _ (pc' := 18) (L' := [some (.ref a0), some (.int a1)]) (st' := [.int (8 : Int32), .ref a0]) rfl ?_
  refine e_newI 8 rfl (aw (i := 190) (by decide +kernel) rfl) (by decide) rfl (by decide) (by decide) (by decide) (fun a8 hn9 => ?_)
  replace h := h a8 hn9
  generalize hM10 : nO M7 a8 9 8 = M10
  replace h := h M10 hM10.symm
  replace ho6 : ob M10 a0 2 := hM10 ▸ ob_nO hn9 ho6
  have ho11 : ob M10 a8 9 := hM10 ▸ ob_new
  refine e_putFA 2 2 (v := some a8) rfl rfl (by decide) (aw (i := 272) (by decide +kernel) rfl) rfl rfl rfl ho6 rfl ?_
  generalize hM12 : sP M10 a0 2 (some a8) = M12
  replace h := h M12 hM12.symm
  replace ho6 : ob M12 a0 2 := hM12 ▸ ob_sP ho6
  replace ho11 : ob M12 a8 9 := hM12 ▸ ob_sP ho11
  refine e_blk 2 23 _ _ (pc' := 26) (L' := [some (.ref a0), some (.int a1)]) (st' := [.int (8 : Int32), .ref a0]) rfl ?_
  refine e_newI 8 rfl (aw (i := 190) (by decide +kernel) rfl) (by decide) rfl (by decide) (by decide) (by decide) (fun a13 hn14 => ?_)
  replace h := h a13 hn14
  generalize hM15 : nO M12 a13 9 8 = M15
  replace h := h M15 hM15.symm
  replace ho6 : ob M15 a0 2 := hM15 ▸ ob_nO hn14 ho6
  replace ho11 : ob M15 a8 9 := hM15 ▸ ob_nO hn14 ho11
  have ho16 : ob M15 a13 9 := hM15 ▸ ob_new
  refine e_putFA 2 3 (v := some a13) rfl rfl (by decide) (aw (i := 273) (by decide +kernel) rfl) rfl rfl rfl ho6 rfl ?_
  generalize hM17 : sP M15 a0 3 (some a13) = M17
  replace h := h M17 hM17.symm
  replace ho6 : ob M17 a0 2 := hM17 ▸ ob_sP ho6
  replace ho11 : ob M17 a8 9 := hM17 ▸ ob_sP ho11
  replace ho16 : ob M17 a13 9 := hM17 ▸ ob_sP ho16
  refine e_blk 1 31 _ _ (pc' := 32) (L' := [some (.ref a0), some (.int a1)]) (st' := [.ref a0]) rfl ?_
  refine e_new 5 rfl rfl (aw (i := 266) (by decide +kernel) rfl) (aw (i := 240) (by decide +kernel) rfl) (aw (i := 62) (by decide +kernel) rfl) (by decide) (by decide) (fun a18 hn19 => ?_)
  replace h := h a18 hn19
  generalize hM20 : nO M17 a18 5 0 = M20
  replace h := h M20 hM20.symm
  replace ho6 : ob M20 a0 2 := hM20 ▸ ob_nO hn19 ho6
  replace ho11 : ob M20 a8 9 := hM20 ▸ ob_nO hn19 ho11
  replace ho16 : ob M20 a13 9 := hM20 ▸ ob_nO hn19 ho16
  have ho21 : ob M20 a18 5 := hM20 ▸ ob_new
  refine e_blk 1 35 _ _ (pc' := 36) (L' := [some (.ref a0), some (.int a1)]) (st' := [.ref a18, .ref a18, .ref a0]) rfl ?_
  refine e_callIN (As := []) (rest := [.ref a18, .ref a0]) (host := "CalendarOrders") rfl (x_X5_init h) (fun X M9 hq => hq) rfl rfl rfl (ao (i := 267) (by decide +kernel) rfl) wn_X5_init wi_X5_init wc_X5_init (show cok mi_X2_init mi_X5_init 7 48 0 = true by decide +kernel) (Nat.le_of_ble_eq_true rfl) (fun v9 M22 hq => ?_)
  obtain ⟨rfl, h⟩ := kV_l hq
  obtain ⟨ho23, h⟩ := h
  refine e_putR 2 5 rfl rfl (by decide) (aw (i := 277) (by decide +kernel) rfl) rfl ho23 rfl ?_
  generalize hM24 : sP M22 a0 5 (some a18) = M24
  replace h := h M24 hM24.symm
  replace ho23 : ob M24 a0 2 := hM24 ▸ ob_sP ho23
  refine e_blk 2 42 _ _ (pc' := 44) (L' := [some (.ref a0), some (.int a1)]) (st' := [.int a1, .ref a0]) rfl ?_
  refine e_putFI 2 0 rfl rfl (by decide) (aw (i := 268) (by decide +kernel) rfl) rfl rfl rfl ho23 rfl ?_
  generalize hM25 : sI M24 a0 0 a1 = M25
  replace h := h M25 hM25.symm
  replace ho23 : ob M25 a0 2 := hM25 ▸ ob_sI ho23
  exact e_ret rfl rfl (by decide) (by decide) h
def V_X4_init (K : Rs → Mm → Prop) (M : Mm) (a0 : Nat) : Prop := ∀ a1, a1 ∉ mL M → ∀ M3, M3 = nO M a1 9 160 → (ob M3 a0 4 ∧ ∀ M6, M6 = sP M3 a0 0 (some a1) → ∀ a7, a7 ∉ mL M6 → ∀ M9, M9 = nO M6 a7 3 0 → V_X3_init (kV (fun M11 => (ob M11 a0 4 ∧ ∀ M13, M13 = sP M11 a0 5 (some a7) → K (.inl none) M13)) (fun _ _ => False)) M9 a7)
set_option maxRecDepth 100000 in
set_option maxHeartbeats 4000000 in
theorem x_X4_init {G : Gx} {K : Rs → Mm → Prop} {M : Mm} {a0 : Nat} (h : V_X4_init K M a0) : MC G mi_X4_init [.ref a0] M K := by
  unfold V_X4_init at h
  refine mc_of rfl (by decide +kernel) dc_X4_init (Nat.le_of_ble_eq_true rfl) 0 (Nat.le_of_ble_eq_true rfl) ?_
  show E G mi_X4_init K M 0 0 0 [some (.ref a0)] []
  refine e_blk 1 0 _ _ (pc' := 1) (L' := [some (.ref a0)]) (st' := [.ref a0]) rfl ?_
  refine e_objI rfl (aw (i := 130) (by decide +kernel) rfl) (aw (i := 83) (by decide +kernel) rfl) (aw (i := 84) (by decide +kernel) rfl) (by decide) (by decide) ?_
  refine e_blk 2 4 _ _ (pc' := 8) (L' := [some (.ref a0)]) (st' := [.int (160 : Int32), .ref a0]) rfl ?_
  refine e_newI 160 rfl (aw (i := 190) (by decide +kernel) rfl) (by decide) rfl (by decide) (by decide) (by decide) (fun a1 hn2 => ?_)
  replace h := h a1 hn2
  generalize hM3 : nO M a1 9 160 = M3
  replace h := h M3 hM3.symm
  have ho4 : ob M3 a1 9 := hM3 ▸ ob_new
  obtain ⟨ho5, h⟩ := h
  refine e_putFA 4 0 (v := some a1) rfl rfl (by decide) (aw (i := 192) (by decide +kernel) rfl) rfl rfl rfl ho5 rfl ?_
  generalize hM6 : sP M3 a0 0 (some a1) = M6
  replace h := h M6 hM6.symm
  replace ho4 : ob M6 a1 9 := hM6 ▸ ob_sP ho4
  replace ho5 : ob M6 a0 4 := hM6 ▸ ob_sP ho5
  refine e_blk 1 13 _ _ (pc' := 14) (L' := [some (.ref a0)]) (st' := [.ref a0]) rfl ?_
  refine e_new 3 rfl rfl (aw (i := 131) (by decide +kernel) rfl) (aw (i := 132) (by decide +kernel) rfl) (aw (i := 60) (by decide +kernel) rfl) (by decide) (by decide) (fun a7 hn8 => ?_)
  replace h := h a7 hn8
  generalize hM9 : nO M6 a7 3 0 = M9
  replace h := h M9 hM9.symm
  replace ho4 : ob M9 a1 9 := hM9 ▸ ob_nO hn8 ho4
  replace ho5 : ob M9 a0 4 := hM9 ▸ ob_nO hn8 ho5
  have ho10 : ob M9 a7 3 := hM9 ▸ ob_new
  refine e_blk 1 17 _ _ (pc' := 18) (L' := [some (.ref a0)]) (st' := [.ref a7, .ref a7, .ref a0]) rfl ?_
  refine e_callIN (As := []) (rest := [.ref a7, .ref a0]) (host := "CalendarOrders") rfl (x_X3_init h) (fun X M9 hq => hq) rfl rfl rfl (ao (i := 133) (by decide +kernel) rfl) wn_X3_init wi_X3_init wc_X3_init (show cok mi_X4_init mi_X3_init 2 173 0 = true by decide +kernel) (Nat.le_of_ble_eq_true rfl) (fun v9 M11 hq => ?_)
  obtain ⟨rfl, h⟩ := kV_l hq
  obtain ⟨ho12, h⟩ := h
  refine e_putR 4 5 rfl rfl (by decide) (aw (i := 199) (by decide +kernel) rfl) rfl ho12 rfl ?_
  generalize hM13 : sP M11 a0 5 (some a7) = M13
  replace h := h M13 hM13.symm
  replace ho12 : ob M13 a0 4 := hM13 ▸ ob_sP ho12
  exact e_ret rfl rfl (by decide) (by decide) h
def V_X6_init (K : Rs → Mm → Prop) (M : Mm) (a0 : Nat) : Prop := ∀ a1, a1 ∉ mL M → ∀ M3, M3 = nO M a1 0 0 → V_X0_init (kV (fun M5 => (ob M5 a0 6 ∧ ∀ M7, M7 = sP M5 a0 0 (some a1) → ∀ a8, a8 ∉ mL M7 → ∀ M10, M10 = nO M7 a8 13 4 → ∀ M12, M12 = sP M10 a0 1 (some a8) → ∀ a13, a13 ∉ mL M12 → ∀ M15, M15 = nO M12 a13 12 12 → ∀ M17, M17 = sP M15 a0 2 (some a13) → ∀ a18, a18 ∉ mL M17 → ∀ M20, M20 = nO M17 a18 4 0 → V_X4_init (kV (fun M22 => (ob M22 a0 6 ∧ ∀ M24, M24 = sP M22 a0 3 (some a18) → ∀ a25, a25 ∉ mL M24 → ∀ M27, M27 = nO M24 a25 1 0 → V_X1_init (kV (fun M29 => (ob M29 a0 6 ∧ ∀ M31, M31 = sP M29 a0 4 (some a25) → ∀ M32, M32 = sI M31 a0 8 (1 : Int32) → ∃ b33, mP M32 a0 1 = some b33 ∧ ∀ a34, a34 ∉ mL M32 → ∀ M36, M36 = nO M32 a34 5 0 → V_X5_init (kV (fun M38 => (ob M38 b33 13 ∧ (ob M38 a34 5 ∧ (vp_in (0 : Int32) (mN M38 b33) ∧ ∀ M42, M42 = sP M38 b33 ((0 : Int32)).toNatClampNeg (some a34) → (ob M42 a0 6 ∧ ∃ b44, mP M42 a0 1 = some b44 ∧ ∀ a45, a45 ∉ mL M42 → ∀ M47, M47 = nO M42 a45 5 0 → V_X5_init (kV (fun M49 => (ob M49 b44 13 ∧ (ob M49 a45 5 ∧ (vp_in (1 : Int32) (mN M49 b44) ∧ ∀ M53, M53 = sP M49 b44 ((1 : Int32)).toNatClampNeg (some a45) → (ob M53 a0 6 ∧ ∃ b55, mP M53 a0 1 = some b55 ∧ ∀ a56, a56 ∉ mL M53 → ∀ M58, M58 = nO M53 a56 5 0 → V_X5_init (kV (fun M60 => (ob M60 b55 13 ∧ (ob M60 a56 5 ∧ (vp_in (2 : Int32) (mN M60 b55) ∧ ∀ M64, M64 = sP M60 b55 ((2 : Int32)).toNatClampNeg (some a56) → (ob M64 a0 6 ∧ ∃ b66, mP M64 a0 1 = some b66 ∧ ∀ a67, a67 ∉ mL M64 → ∀ M69, M69 = nO M64 a67 5 0 → V_X5_init (kV (fun M71 => (ob M71 b66 13 ∧ (ob M71 a67 5 ∧ (vp_in (3 : Int32) (mN M71 b66) ∧ ∀ M75, M75 = sP M71 b66 ((3 : Int32)).toNatClampNeg (some a67) → (ob M75 a0 6 ∧ ∃ b77, mP M75 a0 2 = some b77 ∧ ∀ a78, a78 ∉ mL M75 → ∀ M80, M80 = nO M75 a78 2 0 → V_X2_init (kV (fun M82 => (ob M82 b77 12 ∧ (ob M82 a78 2 ∧ (vp_in (0 : Int32) (mN M82 b77) ∧ ∀ M86, M86 = sP M82 b77 ((0 : Int32)).toNatClampNeg (some a78) → (ob M86 a0 6 ∧ ∃ b88, mP M86 a0 2 = some b88 ∧ ∀ a89, a89 ∉ mL M86 → ∀ M91, M91 = nO M86 a89 2 0 → V_X2_init (kV (fun M93 => (ob M93 b88 12 ∧ (ob M93 a89 2 ∧ (vp_in (1 : Int32) (mN M93 b88) ∧ ∀ M97, M97 = sP M93 b88 ((1 : Int32)).toNatClampNeg (some a89) → (ob M97 a0 6 ∧ ∃ b99, mP M97 a0 2 = some b99 ∧ ∀ a100, a100 ∉ mL M97 → ∀ M102, M102 = nO M97 a100 2 0 → V_X2_init (kV (fun M104 => (ob M104 b99 12 ∧ (ob M104 a100 2 ∧ (vp_in (2 : Int32) (mN M104 b99) ∧ ∀ M108, M108 = sP M104 b99 ((2 : Int32)).toNatClampNeg (some a100) → (ob M108 a0 6 ∧ ∃ b110, mP M108 a0 2 = some b110 ∧ ∀ a111, a111 ∉ mL M108 → ∀ M113, M113 = nO M108 a111 2 0 → V_X2_init (kV (fun M115 => (ob M115 b110 12 ∧ (ob M115 a111 2 ∧ (vp_in (3 : Int32) (mN M115 b110) ∧ ∀ M119, M119 = sP M115 b110 ((3 : Int32)).toNatClampNeg (some a111) → (ob M119 a0 6 ∧ ∃ b121, mP M119 a0 2 = some b121 ∧ ∀ a122, a122 ∉ mL M119 → ∀ M124, M124 = nO M119 a122 2 0 → V_X2_init (kV (fun M126 => (ob M126 b121 12 ∧ (ob M126 a122 2 ∧ (vp_in (4 : Int32) (mN M126 b121) ∧ ∀ M130, M130 = sP M126 b121 ((4 : Int32)).toNatClampNeg (some a122) → (ob M130 a0 6 ∧ ∃ b132, mP M130 a0 2 = some b132 ∧ ∀ a133, a133 ∉ mL M130 → ∀ M135, M135 = nO M130 a133 2 0 → V_X2_init (kV (fun M137 => (ob M137 b132 12 ∧ (ob M137 a133 2 ∧ (vp_in (5 : Int32) (mN M137 b132) ∧ ∀ M141, M141 = sP M137 b132 ((5 : Int32)).toNatClampNeg (some a133) → (ob M141 a0 6 ∧ ∃ b143, mP M141 a0 2 = some b143 ∧ ∀ a144, a144 ∉ mL M141 → ∀ M146, M146 = nO M141 a144 2 0 → V_X2_init (kV (fun M148 => (ob M148 b143 12 ∧ (ob M148 a144 2 ∧ (vp_in (6 : Int32) (mN M148 b143) ∧ ∀ M152, M152 = sP M148 b143 ((6 : Int32)).toNatClampNeg (some a144) → (ob M152 a0 6 ∧ ∃ b154, mP M152 a0 2 = some b154 ∧ ∀ a155, a155 ∉ mL M152 → ∀ M157, M157 = nO M152 a155 2 0 → V_X2_init (kV (fun M159 => (ob M159 b154 12 ∧ (ob M159 a155 2 ∧ (vp_in (7 : Int32) (mN M159 b154) ∧ ∀ M163, M163 = sP M159 b154 ((7 : Int32)).toNatClampNeg (some a155) → (ob M163 a0 6 ∧ ∃ b165, mP M163 a0 2 = some b165 ∧ ∀ a166, a166 ∉ mL M163 → ∀ M168, M168 = nO M163 a166 2 0 → V_X2_init (kV (fun M170 => (ob M170 b165 12 ∧ (ob M170 a166 2 ∧ (vp_in (8 : Int32) (mN M170 b165) ∧ ∀ M174, M174 = sP M170 b165 ((8 : Int32)).toNatClampNeg (some a166) → (ob M174 a0 6 ∧ ∃ b176, mP M174 a0 2 = some b176 ∧ ∀ a177, a177 ∉ mL M174 → ∀ M179, M179 = nO M174 a177 2 0 → V_X2_init (kV (fun M181 => (ob M181 b176 12 ∧ (ob M181 a177 2 ∧ (vp_in (9 : Int32) (mN M181 b176) ∧ ∀ M185, M185 = sP M181 b176 ((9 : Int32)).toNatClampNeg (some a177) → (ob M185 a0 6 ∧ ∃ b187, mP M185 a0 2 = some b187 ∧ ∀ a188, a188 ∉ mL M185 → ∀ M190, M190 = nO M185 a188 2 0 → V_X2_init (kV (fun M192 => (ob M192 b187 12 ∧ (ob M192 a188 2 ∧ (vp_in (10 : Int32) (mN M192 b187) ∧ ∀ M196, M196 = sP M192 b187 ((10 : Int32)).toNatClampNeg (some a188) → (ob M196 a0 6 ∧ ∃ b198, mP M196 a0 2 = some b198 ∧ ∀ a199, a199 ∉ mL M196 → ∀ M201, M201 = nO M196 a199 2 0 → V_X2_init (kV (fun M203 => (ob M203 b198 12 ∧ (ob M203 a199 2 ∧ (vp_in (11 : Int32) (mN M203 b198) ∧ ∀ M207, M207 = sP M203 b198 ((11 : Int32)).toNatClampNeg (some a199) → K (.inl none) M207)))) (fun _ _ => False)) M201 a199 (11 : Int32)))))) (fun _ _ => False)) M190 a188 (10 : Int32)))))) (fun _ _ => False)) M179 a177 (9 : Int32)))))) (fun _ _ => False)) M168 a166 (8 : Int32)))))) (fun _ _ => False)) M157 a155 (7 : Int32)))))) (fun _ _ => False)) M146 a144 (6 : Int32)))))) (fun _ _ => False)) M135 a133 (5 : Int32)))))) (fun _ _ => False)) M124 a122 (4 : Int32)))))) (fun _ _ => False)) M113 a111 (3 : Int32)))))) (fun _ _ => False)) M102 a100 (2 : Int32)))))) (fun _ _ => False)) M91 a89 (1 : Int32)))))) (fun _ _ => False)) M80 a78 (0 : Int32)))))) (fun _ _ => False)) M69 a67))))) (fun _ _ => False)) M58 a56))))) (fun _ _ => False)) M47 a45))))) (fun _ _ => False)) M36 a34)) (fun _ _ => False)) M27 a25)) (fun _ _ => False)) M20 a18)) (fun _ _ => False)) M3 a1
set_option maxRecDepth 100000 in
set_option maxHeartbeats 4000000 in
theorem x_X6_init {G : Gx} {K : Rs → Mm → Prop} {M : Mm} {a0 : Nat} (h : V_X6_init K M a0) : MC G mi_X6_init [.ref a0] M K := by
  unfold V_X6_init at h
  refine mc_of rfl (by decide +kernel) dc_X6_init (Nat.le_of_ble_eq_true rfl) 1 (Nat.le_of_ble_eq_true rfl) ?_
  show E G mi_X6_init K M 0 0 0 [some (.ref a0), none] []
  refine e_blk 1 0 _ _ (pc' := 1) (L' := [some (.ref a0), none]) (st' := [.ref a0]) rfl ?_
  refine e_objI rfl (aw (i := 82) (by decide +kernel) rfl) (aw (i := 83) (by decide +kernel) rfl) (aw (i := 84) (by decide +kernel) rfl) (by decide) (by decide) ?_
  refine e_blk 1 4 _ _ (pc' := 5) (L' := [some (.ref a0), none]) (st' := [.ref a0]) rfl ?_
  refine e_new 0 rfl rfl (aw (i := 85) (by decide +kernel) rfl) (aw (i := 86) (by decide +kernel) rfl) (aw (i := 58) (by decide +kernel) rfl) (by decide) (by decide) (fun a1 hn2 => ?_)
  replace h := h a1 hn2
  generalize hM3 : nO M a1 0 0 = M3
  replace h := h M3 hM3.symm
  have ho4 : ob M3 a1 0 := hM3 ▸ ob_new
  refine e_blk 1 8 _ _ (pc' := 9) (L' := [some (.ref a0), none]) (st' := [.ref a1, .ref a1, .ref a0]) rfl ?_
  refine e_callIN (As := []) (rest := [.ref a1, .ref a0]) (host := "CalendarOrders") rfl (x_X0_init h) (fun X M9 hq => hq) rfl rfl rfl (ao (i := 87) (by decide +kernel) rfl) wn_X0_init wi_X0_init wc_X0_init (show cok mi_X6_init mi_X0_init 1 6 0 = true by decide +kernel) (Nat.le_of_ble_eq_true rfl) (fun v9 M5 hq => ?_)
  obtain ⟨rfl, h⟩ := kV_l hq
  obtain ⟨ho6, h⟩ := h
  refine e_putFP 6 0 (v := some a1) rfl rfl (by decide) (aw (i := 333) (by decide +kernel) rfl) rfl rfl rfl ho6 rfl ?_
  generalize hM7 : sP M5 a0 0 (some a1) = M7
  replace h := h M7 hM7.symm
  replace ho6 : ob M7 a0 6 := hM7 ▸ ob_sP ho6
  refine e_blk 2 15 _ _ (pc' := 17) (L' := [some (.ref a0), none]) (st' := [.int (4 : Int32), .ref a0]) rfl ?_
  refine e_newQ 13 5 4 rfl (aw (i := 121) (by decide +kernel) rfl) (fun s hs => hs.2.2.2.2.2.2.2.2.2.1) (by decide) rfl (by decide) rfl (by decide) (by decide) (by decide) (fun a8 hn9 => ?_)
  replace h := h a8 hn9
  generalize hM10 : nO M7 a8 13 4 = M10
  replace h := h M10 hM10.symm
  replace ho6 : ob M10 a0 6 := hM10 ▸ ob_nO hn9 ho6
  have ho11 : ob M10 a8 13 := hM10 ▸ ob_new
  refine e_putFA 6 1 (v := some a8) rfl rfl (by decide) (aw (i := 334) (by decide +kernel) rfl) rfl rfl rfl ho6 rfl ?_
  generalize hM12 : sP M10 a0 1 (some a8) = M12
  replace h := h M12 hM12.symm
  replace ho6 : ob M12 a0 6 := hM12 ▸ ob_sP ho6
  replace ho11 : ob M12 a8 13 := hM12 ▸ ob_sP ho11
  refine e_blk 2 23 _ _ (pc' := 26) (L' := [some (.ref a0), none]) (st' := [.int (12 : Int32), .ref a0]) rfl ?_
  refine e_newQ 12 4 12 rfl (aw (i := 123) (by decide +kernel) rfl) (fun s hs => hs.2.2.2.2.2.2.2.2.2.2.1) (by decide) rfl (by decide) rfl (by decide) (by decide) (by decide) (fun a13 hn14 => ?_)
  replace h := h a13 hn14
  generalize hM15 : nO M12 a13 12 12 = M15
  replace h := h M15 hM15.symm
  replace ho6 : ob M15 a0 6 := hM15 ▸ ob_nO hn14 ho6
  replace ho11 : ob M15 a8 13 := hM15 ▸ ob_nO hn14 ho11
  have ho16 : ob M15 a13 12 := hM15 ▸ ob_new
  refine e_putFA 6 2 (v := some a13) rfl rfl (by decide) (aw (i := 335) (by decide +kernel) rfl) rfl rfl rfl ho6 rfl ?_
  generalize hM17 : sP M15 a0 2 (some a13) = M17
  replace h := h M17 hM17.symm
  replace ho6 : ob M17 a0 6 := hM17 ▸ ob_sP ho6
  replace ho11 : ob M17 a8 13 := hM17 ▸ ob_sP ho11
  replace ho16 : ob M17 a13 12 := hM17 ▸ ob_sP ho16
  refine e_blk 1 32 _ _ (pc' := 33) (L' := [some (.ref a0), none]) (st' := [.ref a0]) rfl ?_
  refine e_new 4 rfl rfl (aw (i := 125) (by decide +kernel) rfl) (aw (i := 126) (by decide +kernel) rfl) (aw (i := 59) (by decide +kernel) rfl) (by decide) (by decide) (fun a18 hn19 => ?_)
  replace h := h a18 hn19
  generalize hM20 : nO M17 a18 4 0 = M20
  replace h := h M20 hM20.symm
  replace ho6 : ob M20 a0 6 := hM20 ▸ ob_nO hn19 ho6
  replace ho11 : ob M20 a8 13 := hM20 ▸ ob_nO hn19 ho11
  replace ho16 : ob M20 a13 12 := hM20 ▸ ob_nO hn19 ho16
  have ho21 : ob M20 a18 4 := hM20 ▸ ob_new
  refine e_blk 1 36 _ _ (pc' := 37) (L' := [some (.ref a0), none]) (st' := [.ref a18, .ref a18, .ref a0]) rfl ?_
  refine e_callIN (As := []) (rest := [.ref a18, .ref a0]) (host := "CalendarOrders") rfl (x_X4_init h) (fun X M9 hq => hq) rfl rfl rfl (ao (i := 127) (by decide +kernel) rfl) wn_X4_init wi_X4_init wc_X4_init (show cok mi_X6_init mi_X4_init 4 28 0 = true by decide +kernel) (Nat.le_of_ble_eq_true rfl) (fun v9 M22 hq => ?_)
  obtain ⟨rfl, h⟩ := kV_l hq
  obtain ⟨ho23, h⟩ := h
  refine e_putFP 6 3 (v := some a18) rfl rfl (by decide) (aw (i := 336) (by decide +kernel) rfl) rfl rfl rfl ho23 rfl ?_
  generalize hM24 : sP M22 a0 3 (some a18) = M24
  replace h := h M24 hM24.symm
  replace ho23 : ob M24 a0 6 := hM24 ▸ ob_sP ho23
  refine e_blk 1 43 _ _ (pc' := 44) (L' := [some (.ref a0), none]) (st' := [.ref a0]) rfl ?_
  refine e_new 1 rfl rfl (aw (i := 213) (by decide +kernel) rfl) (aw (i := 214) (by decide +kernel) rfl) (aw (i := 61) (by decide +kernel) rfl) (by decide) (by decide) (fun a25 hn26 => ?_)
  replace h := h a25 hn26
  generalize hM27 : nO M24 a25 1 0 = M27
  replace h := h M27 hM27.symm
  replace ho23 : ob M27 a0 6 := hM27 ▸ ob_nO hn26 ho23
  have ho28 : ob M27 a25 1 := hM27 ▸ ob_new
  refine e_blk 1 47 _ _ (pc' := 48) (L' := [some (.ref a0), none]) (st' := [.ref a25, .ref a25, .ref a0]) rfl ?_
  refine e_callIN (As := []) (rest := [.ref a25, .ref a0]) (host := "CalendarOrders") rfl (x_X1_init h) (fun X M9 hq => hq) rfl rfl rfl (ao (i := 215) (by decide +kernel) rfl) wn_X1_init wi_X1_init wc_X1_init (show cok mi_X6_init mi_X1_init 10 222 0 = true by decide +kernel) (Nat.le_of_ble_eq_true rfl) (fun v9 M29 hq => ?_)
  obtain ⟨rfl, h⟩ := kV_l hq
  obtain ⟨ho30, h⟩ := h
  refine e_putFP 6 4 (v := some a25) rfl rfl (by decide) (aw (i := 337) (by decide +kernel) rfl) rfl rfl rfl ho30 rfl ?_
  generalize hM31 : sP M29 a0 4 (some a25) = M31
  replace h := h M31 hM31.symm
  replace ho30 : ob M31 a0 6 := hM31 ▸ ob_sP ho30
  refine e_blk 2 54 _ _ (pc' := 56) (L' := [some (.ref a0), none]) (st' := [.int (1 : Int32), .ref a0]) rfl ?_
  refine e_putZ 6 8 rfl rfl (by decide) (aw (i := 341) (by decide +kernel) rfl) rfl ho30 rfl (by decide) ?_
  generalize hM32 : sI M31 a0 8 (1 : Int32) = M32
  replace h := h M32 hM32.symm
  replace ho30 : ob M32 a0 6 := hM32 ▸ ob_sI ho30
  refine e_blk 4 59 _ _ (pc' := 63) (L' := [some (.ref a0), some (.int (0 : Int32))]) (st' := [.int (4 : Int32), .int (0 : Int32)]) rfl ?_
  refine e_icmp_ge 85 rfl rfl (fun hc => absurd hc (by decide)) (fun _ => ?_)
  refine e_blk 1 66 _ _ (pc' := 67) (L' := [some (.ref a0), some (.int (0 : Int32))]) (st' := [.ref a0]) rfl ?_
  obtain ⟨b33, hbb33, h⟩ := h
  refine e_getR 6 1 rfl rfl (by decide) (aw (i := 334) (by decide +kernel) rfl) ho30 rfl hbb33 ?_
  refine e_blk 1 70 _ _ (pc' := 71) (L' := [some (.ref a0), some (.int (0 : Int32))]) (st' := [.int (0 : Int32), .ref b33]) rfl ?_
  refine e_new 5 rfl rfl (aw (i := 121) (by decide +kernel) rfl) (aw (i := 240) (by decide +kernel) rfl) (aw (i := 62) (by decide +kernel) rfl) (by decide) (by decide) (fun a34 hn35 => ?_)
  replace h := h a34 hn35
  generalize hM36 : nO M32 a34 5 0 = M36
  replace h := h M36 hM36.symm
  replace ho30 : ob M36 a0 6 := hM36 ▸ ob_nO hn35 ho30
  have ho37 : ob M36 a34 5 := hM36 ▸ ob_new
  refine e_blk 1 74 _ _ (pc' := 75) (L' := [some (.ref a0), some (.int (0 : Int32))]) (st' := [.ref a34, .ref a34, .int (0 : Int32), .ref b33]) rfl ?_
  refine e_callIN (As := []) (rest := [.ref a34, .int (0 : Int32), .ref b33]) (host := "CalendarOrders") rfl (x_X5_init h) (fun X M9 hq => hq) rfl rfl rfl (ao (i := 241) (by decide +kernel) rfl) wn_X5_init wi_X5_init wc_X5_init (show cok mi_X6_init mi_X5_init 15 1425 0 = true by decide +kernel) (Nat.le_of_ble_eq_true rfl) (fun v9 M38 hq => ?_)
  obtain ⟨rfl, h⟩ := kV_l hq
  obtain ⟨ho39, h⟩ := h
  obtain ⟨ho40, h⟩ := h
  obtain ⟨hi41, h⟩ := h
  refine e_aast 13 5 rfl ho39 (by decide) ho40 rfl rfl hi41 ?_
  generalize hM42 : sP M38 b33 ((0 : Int32)).toNatClampNeg (some a34) = M42
  replace h := h M42 hM42.symm
  replace ho39 : ob M42 b33 13 := hM42 ▸ ob_sP ho39
  replace ho40 : ob M42 a34 5 := hM42 ▸ ob_sP ho40
  refine e_blk 4 79 _ _ (pc' := 63) (L' := [some (.ref a0), some (.int (1 : Int32))]) (st' := [.int (4 : Int32), .int (1 : Int32)]) rfl ?_
  refine e_icmp_ge 85 rfl rfl (fun hc => absurd hc (by decide)) (fun _ => ?_)
  refine e_blk 1 66 _ _ (pc' := 67) (L' := [some (.ref a0), some (.int (1 : Int32))]) (st' := [.ref a0]) rfl ?_
  obtain ⟨ho43, h⟩ := h
  obtain ⟨b44, hbb44, h⟩ := h
  refine e_getR 6 1 rfl rfl (by decide) (aw (i := 334) (by decide +kernel) rfl) ho43 rfl hbb44 ?_
  refine e_blk 1 70 _ _ (pc' := 71) (L' := [some (.ref a0), some (.int (1 : Int32))]) (st' := [.int (1 : Int32), .ref b44]) rfl ?_
  refine e_new 5 rfl rfl (aw (i := 121) (by decide +kernel) rfl) (aw (i := 240) (by decide +kernel) rfl) (aw (i := 62) (by decide +kernel) rfl) (by decide) (by decide) (fun a45 hn46 => ?_)
  replace h := h a45 hn46
  generalize hM47 : nO M42 a45 5 0 = M47
  replace h := h M47 hM47.symm
  replace ho39 : ob M47 b33 13 := hM47 ▸ ob_nO hn46 ho39
  replace ho40 : ob M47 a34 5 := hM47 ▸ ob_nO hn46 ho40
  replace ho43 : ob M47 a0 6 := hM47 ▸ ob_nO hn46 ho43
  have ho48 : ob M47 a45 5 := hM47 ▸ ob_new
  refine e_blk 1 74 _ _ (pc' := 75) (L' := [some (.ref a0), some (.int (1 : Int32))]) (st' := [.ref a45, .ref a45, .int (1 : Int32), .ref b44]) rfl ?_
  refine e_callIN (As := []) (rest := [.ref a45, .int (1 : Int32), .ref b44]) (host := "CalendarOrders") rfl (x_X5_init h) (fun X M9 hq => hq) rfl rfl rfl (ao (i := 241) (by decide +kernel) rfl) wn_X5_init wi_X5_init wc_X5_init (show cok mi_X6_init mi_X5_init 18 1470 0 = true by decide +kernel) (Nat.le_of_ble_eq_true rfl) (fun v9 M49 hq => ?_)
  obtain ⟨rfl, h⟩ := kV_l hq
  obtain ⟨ho50, h⟩ := h
  obtain ⟨ho51, h⟩ := h
  obtain ⟨hi52, h⟩ := h
  refine e_aast 13 5 rfl ho50 (by decide) ho51 rfl rfl hi52 ?_
  generalize hM53 : sP M49 b44 ((1 : Int32)).toNatClampNeg (some a45) = M53
  replace h := h M53 hM53.symm
  replace ho50 : ob M53 b44 13 := hM53 ▸ ob_sP ho50
  replace ho51 : ob M53 a45 5 := hM53 ▸ ob_sP ho51
  refine e_blk 4 79 _ _ (pc' := 63) (L' := [some (.ref a0), some (.int (2 : Int32))]) (st' := [.int (4 : Int32), .int (2 : Int32)]) rfl ?_
  refine e_icmp_ge 85 rfl rfl (fun hc => absurd hc (by decide)) (fun _ => ?_)
  refine e_blk 1 66 _ _ (pc' := 67) (L' := [some (.ref a0), some (.int (2 : Int32))]) (st' := [.ref a0]) rfl ?_
  obtain ⟨ho54, h⟩ := h
  obtain ⟨b55, hbb55, h⟩ := h
  refine e_getR 6 1 rfl rfl (by decide) (aw (i := 334) (by decide +kernel) rfl) ho54 rfl hbb55 ?_
  refine e_blk 1 70 _ _ (pc' := 71) (L' := [some (.ref a0), some (.int (2 : Int32))]) (st' := [.int (2 : Int32), .ref b55]) rfl ?_
  refine e_new 5 rfl rfl (aw (i := 121) (by decide +kernel) rfl) (aw (i := 240) (by decide +kernel) rfl) (aw (i := 62) (by decide +kernel) rfl) (by decide) (by decide) (fun a56 hn57 => ?_)
  replace h := h a56 hn57
  generalize hM58 : nO M53 a56 5 0 = M58
  replace h := h M58 hM58.symm
  replace ho50 : ob M58 b44 13 := hM58 ▸ ob_nO hn57 ho50
  replace ho51 : ob M58 a45 5 := hM58 ▸ ob_nO hn57 ho51
  replace ho54 : ob M58 a0 6 := hM58 ▸ ob_nO hn57 ho54
  have ho59 : ob M58 a56 5 := hM58 ▸ ob_new
  refine e_blk 1 74 _ _ (pc' := 75) (L' := [some (.ref a0), some (.int (2 : Int32))]) (st' := [.ref a56, .ref a56, .int (2 : Int32), .ref b55]) rfl ?_
  refine e_callIN (As := []) (rest := [.ref a56, .int (2 : Int32), .ref b55]) (host := "CalendarOrders") rfl (x_X5_init h) (fun X M9 hq => hq) rfl rfl rfl (ao (i := 241) (by decide +kernel) rfl) wn_X5_init wi_X5_init wc_X5_init (show cok mi_X6_init mi_X5_init 21 1515 0 = true by decide +kernel) (Nat.le_of_ble_eq_true rfl) (fun v9 M60 hq => ?_)
  obtain ⟨rfl, h⟩ := kV_l hq
  obtain ⟨ho61, h⟩ := h
  obtain ⟨ho62, h⟩ := h
  obtain ⟨hi63, h⟩ := h
  refine e_aast 13 5 rfl ho61 (by decide) ho62 rfl rfl hi63 ?_
  generalize hM64 : sP M60 b55 ((2 : Int32)).toNatClampNeg (some a56) = M64
  replace h := h M64 hM64.symm
  replace ho61 : ob M64 b55 13 := hM64 ▸ ob_sP ho61
  replace ho62 : ob M64 a56 5 := hM64 ▸ ob_sP ho62
  refine e_blk 4 79 _ _ (pc' := 63) (L' := [some (.ref a0), some (.int (3 : Int32))]) (st' := [.int (4 : Int32), .int (3 : Int32)]) rfl ?_
  refine e_icmp_ge 85 rfl rfl (fun hc => absurd hc (by decide)) (fun _ => ?_)
  refine e_blk 1 66 _ _ (pc' := 67) (L' := [some (.ref a0), some (.int (3 : Int32))]) (st' := [.ref a0]) rfl ?_
  obtain ⟨ho65, h⟩ := h
  obtain ⟨b66, hbb66, h⟩ := h
  refine e_getR 6 1 rfl rfl (by decide) (aw (i := 334) (by decide +kernel) rfl) ho65 rfl hbb66 ?_
  refine e_blk 1 70 _ _ (pc' := 71) (L' := [some (.ref a0), some (.int (3 : Int32))]) (st' := [.int (3 : Int32), .ref b66]) rfl ?_
  refine e_new 5 rfl rfl (aw (i := 121) (by decide +kernel) rfl) (aw (i := 240) (by decide +kernel) rfl) (aw (i := 62) (by decide +kernel) rfl) (by decide) (by decide) (fun a67 hn68 => ?_)
  replace h := h a67 hn68
  generalize hM69 : nO M64 a67 5 0 = M69
  replace h := h M69 hM69.symm
  replace ho61 : ob M69 b55 13 := hM69 ▸ ob_nO hn68 ho61
  replace ho62 : ob M69 a56 5 := hM69 ▸ ob_nO hn68 ho62
  replace ho65 : ob M69 a0 6 := hM69 ▸ ob_nO hn68 ho65
  have ho70 : ob M69 a67 5 := hM69 ▸ ob_new
  refine e_blk 1 74 _ _ (pc' := 75) (L' := [some (.ref a0), some (.int (3 : Int32))]) (st' := [.ref a67, .ref a67, .int (3 : Int32), .ref b66]) rfl ?_
  refine e_callIN (As := []) (rest := [.ref a67, .int (3 : Int32), .ref b66]) (host := "CalendarOrders") rfl (x_X5_init h) (fun X M9 hq => hq) rfl rfl rfl (ao (i := 241) (by decide +kernel) rfl) wn_X5_init wi_X5_init wc_X5_init (show cok mi_X6_init mi_X5_init 24 1560 0 = true by decide +kernel) (Nat.le_of_ble_eq_true rfl) (fun v9 M71 hq => ?_)
  obtain ⟨rfl, h⟩ := kV_l hq
  obtain ⟨ho72, h⟩ := h
  obtain ⟨ho73, h⟩ := h
  obtain ⟨hi74, h⟩ := h
  refine e_aast 13 5 rfl ho72 (by decide) ho73 rfl rfl hi74 ?_
  generalize hM75 : sP M71 b66 ((3 : Int32)).toNatClampNeg (some a67) = M75
  replace h := h M75 hM75.symm
  replace ho72 : ob M75 b66 13 := hM75 ▸ ob_sP ho72
  replace ho73 : ob M75 a67 5 := hM75 ▸ ob_sP ho73
  refine e_blk 4 79 _ _ (pc' := 63) (L' := [some (.ref a0), some (.int (4 : Int32))]) (st' := [.int (4 : Int32), .int (4 : Int32)]) rfl ?_
  refine e_icmp_ge 85 rfl rfl (fun _ => ?_) (fun hc => absurd (by decide) hc)
  refine e_blk 4 85 _ _ (pc' := 90) (L' := [some (.ref a0), some (.int (0 : Int32))]) (st' := [.int (12 : Int32), .int (0 : Int32)]) rfl ?_
  refine e_icmp_ge 113 rfl rfl (fun hc => absurd hc (by decide)) (fun _ => ?_)
  refine e_blk 1 93 _ _ (pc' := 94) (L' := [some (.ref a0), some (.int (0 : Int32))]) (st' := [.ref a0]) rfl ?_
  obtain ⟨ho76, h⟩ := h
  obtain ⟨b77, hbb77, h⟩ := h
  refine e_getR 6 2 rfl rfl (by decide) (aw (i := 335) (by decide +kernel) rfl) ho76 rfl hbb77 ?_
  refine e_blk 1 97 _ _ (pc' := 98) (L' := [some (.ref a0), some (.int (0 : Int32))]) (st' := [.int (0 : Int32), .ref b77]) rfl ?_
  refine e_new 2 rfl rfl (aw (i := 123) (by decide +kernel) rfl) (aw (i := 259) (by decide +kernel) rfl) (aw (i := 63) (by decide +kernel) rfl) (by decide) (by decide) (fun a78 hn79 => ?_)
  replace h := h a78 hn79
  generalize hM80 : nO M75 a78 2 0 = M80
  replace h := h M80 hM80.symm
  replace ho72 : ob M80 b66 13 := hM80 ▸ ob_nO hn79 ho72
  replace ho73 : ob M80 a67 5 := hM80 ▸ ob_nO hn79 ho73
  replace ho76 : ob M80 a0 6 := hM80 ▸ ob_nO hn79 ho76
  have ho81 : ob M80 a78 2 := hM80 ▸ ob_new
  refine e_blk 2 101 _ _ (pc' := 103) (L' := [some (.ref a0), some (.int (0 : Int32))]) (st' := [.int (0 : Int32), .ref a78, .ref a78, .int (0 : Int32), .ref b77]) rfl ?_
  refine e_callI (As := [.int (0 : Int32)]) (rest := [.ref a78, .int (0 : Int32), .ref b77]) rfl (x_X2_init h) (fun X M9 hq => hq) rfl rfl rfl (aw (i := 260) (by decide +kernel) rfl) wn_X2_init wi_X2_init wc_X2_init (show cok mi_X6_init mi_X2_init 27 1619 1 = true by decide +kernel) (Nat.le_of_ble_eq_true rfl) (fun v9 M82 hq => ?_)
  obtain ⟨rfl, h⟩ := kV_l hq
  obtain ⟨ho83, h⟩ := h
  obtain ⟨ho84, h⟩ := h
  obtain ⟨hi85, h⟩ := h
  refine e_aast 12 4 rfl ho83 (by decide) ho84 rfl rfl hi85 ?_
  generalize hM86 : sP M82 b77 ((0 : Int32)).toNatClampNeg (some a78) = M86
  replace h := h M86 hM86.symm
  replace ho83 : ob M86 b77 12 := hM86 ▸ ob_sP ho83
  replace ho84 : ob M86 a78 2 := hM86 ▸ ob_sP ho84
  refine e_blk 4 107 _ _ (pc' := 90) (L' := [some (.ref a0), some (.int (1 : Int32))]) (st' := [.int (12 : Int32), .int (1 : Int32)]) rfl ?_
  refine e_icmp_ge 113 rfl rfl (fun hc => absurd hc (by decide)) (fun _ => ?_)
  refine e_blk 1 93 _ _ (pc' := 94) (L' := [some (.ref a0), some (.int (1 : Int32))]) (st' := [.ref a0]) rfl ?_
  obtain ⟨ho87, h⟩ := h
  obtain ⟨b88, hbb88, h⟩ := h
  refine e_getR 6 2 rfl rfl (by decide) (aw (i := 335) (by decide +kernel) rfl) ho87 rfl hbb88 ?_
  refine e_blk 1 97 _ _ (pc' := 98) (L' := [some (.ref a0), some (.int (1 : Int32))]) (st' := [.int (1 : Int32), .ref b88]) rfl ?_
  refine e_new 2 rfl rfl (aw (i := 123) (by decide +kernel) rfl) (aw (i := 259) (by decide +kernel) rfl) (aw (i := 63) (by decide +kernel) rfl) (by decide) (by decide) (fun a89 hn90 => ?_)
  replace h := h a89 hn90
  generalize hM91 : nO M86 a89 2 0 = M91
  replace h := h M91 hM91.symm
  replace ho83 : ob M91 b77 12 := hM91 ▸ ob_nO hn90 ho83
  replace ho84 : ob M91 a78 2 := hM91 ▸ ob_nO hn90 ho84
  replace ho87 : ob M91 a0 6 := hM91 ▸ ob_nO hn90 ho87
  have ho92 : ob M91 a89 2 := hM91 ▸ ob_new
  refine e_blk 2 101 _ _ (pc' := 103) (L' := [some (.ref a0), some (.int (1 : Int32))]) (st' := [.int (1 : Int32), .ref a89, .ref a89, .int (1 : Int32), .ref b88]) rfl ?_
  refine e_callI (As := [.int (1 : Int32)]) (rest := [.ref a89, .int (1 : Int32), .ref b88]) rfl (x_X2_init h) (fun X M9 hq => hq) rfl rfl rfl (aw (i := 260) (by decide +kernel) rfl) wn_X2_init wi_X2_init wc_X2_init (show cok mi_X6_init mi_X2_init 37 1726 1 = true by decide +kernel) (Nat.le_of_ble_eq_true rfl) (fun v9 M93 hq => ?_)
  obtain ⟨rfl, h⟩ := kV_l hq
  obtain ⟨ho94, h⟩ := h
  obtain ⟨ho95, h⟩ := h
  obtain ⟨hi96, h⟩ := h
  refine e_aast 12 4 rfl ho94 (by decide) ho95 rfl rfl hi96 ?_
  generalize hM97 : sP M93 b88 ((1 : Int32)).toNatClampNeg (some a89) = M97
  replace h := h M97 hM97.symm
  replace ho94 : ob M97 b88 12 := hM97 ▸ ob_sP ho94
  replace ho95 : ob M97 a89 2 := hM97 ▸ ob_sP ho95
  refine e_blk 4 107 _ _ (pc' := 90) (L' := [some (.ref a0), some (.int (2 : Int32))]) (st' := [.int (12 : Int32), .int (2 : Int32)]) rfl ?_
  refine e_icmp_ge 113 rfl rfl (fun hc => absurd hc (by decide)) (fun _ => ?_)
  refine e_blk 1 93 _ _ (pc' := 94) (L' := [some (.ref a0), some (.int (2 : Int32))]) (st' := [.ref a0]) rfl ?_
  obtain ⟨ho98, h⟩ := h
  obtain ⟨b99, hbb99, h⟩ := h
  refine e_getR 6 2 rfl rfl (by decide) (aw (i := 335) (by decide +kernel) rfl) ho98 rfl hbb99 ?_
  refine e_blk 1 97 _ _ (pc' := 98) (L' := [some (.ref a0), some (.int (2 : Int32))]) (st' := [.int (2 : Int32), .ref b99]) rfl ?_
  refine e_new 2 rfl rfl (aw (i := 123) (by decide +kernel) rfl) (aw (i := 259) (by decide +kernel) rfl) (aw (i := 63) (by decide +kernel) rfl) (by decide) (by decide) (fun a100 hn101 => ?_)
  replace h := h a100 hn101
  generalize hM102 : nO M97 a100 2 0 = M102
  replace h := h M102 hM102.symm
  replace ho94 : ob M102 b88 12 := hM102 ▸ ob_nO hn101 ho94
  replace ho95 : ob M102 a89 2 := hM102 ▸ ob_nO hn101 ho95
  replace ho98 : ob M102 a0 6 := hM102 ▸ ob_nO hn101 ho98
  have ho103 : ob M102 a100 2 := hM102 ▸ ob_new
  refine e_blk 2 101 _ _ (pc' := 103) (L' := [some (.ref a0), some (.int (2 : Int32))]) (st' := [.int (2 : Int32), .ref a100, .ref a100, .int (2 : Int32), .ref b99]) rfl ?_
  refine e_callI (As := [.int (2 : Int32)]) (rest := [.ref a100, .int (2 : Int32), .ref b99]) rfl (x_X2_init h) (fun X M9 hq => hq) rfl rfl rfl (aw (i := 260) (by decide +kernel) rfl) wn_X2_init wi_X2_init wc_X2_init (show cok mi_X6_init mi_X2_init 47 1833 1 = true by decide +kernel) (Nat.le_of_ble_eq_true rfl) (fun v9 M104 hq => ?_)
  obtain ⟨rfl, h⟩ := kV_l hq
  obtain ⟨ho105, h⟩ := h
  obtain ⟨ho106, h⟩ := h
  obtain ⟨hi107, h⟩ := h
  refine e_aast 12 4 rfl ho105 (by decide) ho106 rfl rfl hi107 ?_
  generalize hM108 : sP M104 b99 ((2 : Int32)).toNatClampNeg (some a100) = M108
  replace h := h M108 hM108.symm
  replace ho105 : ob M108 b99 12 := hM108 ▸ ob_sP ho105
  replace ho106 : ob M108 a100 2 := hM108 ▸ ob_sP ho106
  refine e_blk 4 107 _ _ (pc' := 90) (L' := [some (.ref a0), some (.int (3 : Int32))]) (st' := [.int (12 : Int32), .int (3 : Int32)]) rfl ?_
  refine e_icmp_ge 113 rfl rfl (fun hc => absurd hc (by decide)) (fun _ => ?_)
  refine e_blk 1 93 _ _ (pc' := 94) (L' := [some (.ref a0), some (.int (3 : Int32))]) (st' := [.ref a0]) rfl ?_
  obtain ⟨ho109, h⟩ := h
  obtain ⟨b110, hbb110, h⟩ := h
  refine e_getR 6 2 rfl rfl (by decide) (aw (i := 335) (by decide +kernel) rfl) ho109 rfl hbb110 ?_
  refine e_blk 1 97 _ _ (pc' := 98) (L' := [some (.ref a0), some (.int (3 : Int32))]) (st' := [.int (3 : Int32), .ref b110]) rfl ?_
  refine e_new 2 rfl rfl (aw (i := 123) (by decide +kernel) rfl) (aw (i := 259) (by decide +kernel) rfl) (aw (i := 63) (by decide +kernel) rfl) (by decide) (by decide) (fun a111 hn112 => ?_)
  replace h := h a111 hn112
  generalize hM113 : nO M108 a111 2 0 = M113
  replace h := h M113 hM113.symm
  replace ho105 : ob M113 b99 12 := hM113 ▸ ob_nO hn112 ho105
  replace ho106 : ob M113 a100 2 := hM113 ▸ ob_nO hn112 ho106
  replace ho109 : ob M113 a0 6 := hM113 ▸ ob_nO hn112 ho109
  have ho114 : ob M113 a111 2 := hM113 ▸ ob_new
  refine e_blk 2 101 _ _ (pc' := 103) (L' := [some (.ref a0), some (.int (3 : Int32))]) (st' := [.int (3 : Int32), .ref a111, .ref a111, .int (3 : Int32), .ref b110]) rfl ?_
  refine e_callI (As := [.int (3 : Int32)]) (rest := [.ref a111, .int (3 : Int32), .ref b110]) rfl (x_X2_init h) (fun X M9 hq => hq) rfl rfl rfl (aw (i := 260) (by decide +kernel) rfl) wn_X2_init wi_X2_init wc_X2_init (show cok mi_X6_init mi_X2_init 57 1940 1 = true by decide +kernel) (Nat.le_of_ble_eq_true rfl) (fun v9 M115 hq => ?_)
  obtain ⟨rfl, h⟩ := kV_l hq
  obtain ⟨ho116, h⟩ := h
  obtain ⟨ho117, h⟩ := h
  obtain ⟨hi118, h⟩ := h
  refine e_aast 12 4 rfl ho116 (by decide) ho117 rfl rfl hi118 ?_
  generalize hM119 : sP M115 b110 ((3 : Int32)).toNatClampNeg (some a111) = M119
  replace h := h M119 hM119.symm
  replace ho116 : ob M119 b110 12 := hM119 ▸ ob_sP ho116
  replace ho117 : ob M119 a111 2 := hM119 ▸ ob_sP ho117
  refine e_blk 4 107 _ _ (pc' := 90) (L' := [some (.ref a0), some (.int (4 : Int32))]) (st' := [.int (12 : Int32), .int (4 : Int32)]) rfl ?_
  refine e_icmp_ge 113 rfl rfl (fun hc => absurd hc (by decide)) (fun _ => ?_)
  refine e_blk 1 93 _ _ (pc' := 94) (L' := [some (.ref a0), some (.int (4 : Int32))]) (st' := [.ref a0]) rfl ?_
  obtain ⟨ho120, h⟩ := h
  obtain ⟨b121, hbb121, h⟩ := h
  refine e_getR 6 2 rfl rfl (by decide) (aw (i := 335) (by decide +kernel) rfl) ho120 rfl hbb121 ?_
  refine e_blk 1 97 _ _ (pc' := 98) (L' := [some (.ref a0), some (.int (4 : Int32))]) (st' := [.int (4 : Int32), .ref b121]) rfl ?_
  refine e_new 2 rfl rfl (aw (i := 123) (by decide +kernel) rfl) (aw (i := 259) (by decide +kernel) rfl) (aw (i := 63) (by decide +kernel) rfl) (by decide) (by decide) (fun a122 hn123 => ?_)
  replace h := h a122 hn123
  generalize hM124 : nO M119 a122 2 0 = M124
  replace h := h M124 hM124.symm
  replace ho116 : ob M124 b110 12 := hM124 ▸ ob_nO hn123 ho116
  replace ho117 : ob M124 a111 2 := hM124 ▸ ob_nO hn123 ho117
  replace ho120 : ob M124 a0 6 := hM124 ▸ ob_nO hn123 ho120
  have ho125 : ob M124 a122 2 := hM124 ▸ ob_new
  refine e_blk 2 101 _ _ (pc' := 103) (L' := [some (.ref a0), some (.int (4 : Int32))]) (st' := [.int (4 : Int32), .ref a122, .ref a122, .int (4 : Int32), .ref b121]) rfl ?_
  refine e_callI (As := [.int (4 : Int32)]) (rest := [.ref a122, .int (4 : Int32), .ref b121]) rfl (x_X2_init h) (fun X M9 hq => hq) rfl rfl rfl (aw (i := 260) (by decide +kernel) rfl) wn_X2_init wi_X2_init wc_X2_init (show cok mi_X6_init mi_X2_init 67 2047 1 = true by decide +kernel) (Nat.le_of_ble_eq_true rfl) (fun v9 M126 hq => ?_)
  obtain ⟨rfl, h⟩ := kV_l hq
  obtain ⟨ho127, h⟩ := h
  obtain ⟨ho128, h⟩ := h
  obtain ⟨hi129, h⟩ := h
  refine e_aast 12 4 rfl ho127 (by decide) ho128 rfl rfl hi129 ?_
  generalize hM130 : sP M126 b121 ((4 : Int32)).toNatClampNeg (some a122) = M130
  replace h := h M130 hM130.symm
  replace ho127 : ob M130 b121 12 := hM130 ▸ ob_sP ho127
  replace ho128 : ob M130 a122 2 := hM130 ▸ ob_sP ho128
  refine e_blk 4 107 _ _ (pc' := 90) (L' := [some (.ref a0), some (.int (5 : Int32))]) (st' := [.int (12 : Int32), .int (5 : Int32)]) rfl ?_
  refine e_icmp_ge 113 rfl rfl (fun hc => absurd hc (by decide)) (fun _ => ?_)
  refine e_blk 1 93 _ _ (pc' := 94) (L' := [some (.ref a0), some (.int (5 : Int32))]) (st' := [.ref a0]) rfl ?_
  obtain ⟨ho131, h⟩ := h
  obtain ⟨b132, hbb132, h⟩ := h
  refine e_getR 6 2 rfl rfl (by decide) (aw (i := 335) (by decide +kernel) rfl) ho131 rfl hbb132 ?_
  refine e_blk 1 97 _ _ (pc' := 98) (L' := [some (.ref a0), some (.int (5 : Int32))]) (st' := [.int (5 : Int32), .ref b132]) rfl ?_
  refine e_new 2 rfl rfl (aw (i := 123) (by decide +kernel) rfl) (aw (i := 259) (by decide +kernel) rfl) (aw (i := 63) (by decide +kernel) rfl) (by decide) (by decide) (fun a133 hn134 => ?_)
  replace h := h a133 hn134
  generalize hM135 : nO M130 a133 2 0 = M135
  replace h := h M135 hM135.symm
  replace ho127 : ob M135 b121 12 := hM135 ▸ ob_nO hn134 ho127
  replace ho128 : ob M135 a122 2 := hM135 ▸ ob_nO hn134 ho128
  replace ho131 : ob M135 a0 6 := hM135 ▸ ob_nO hn134 ho131
  have ho136 : ob M135 a133 2 := hM135 ▸ ob_new
  refine e_blk 2 101 _ _ (pc' := 103) (L' := [some (.ref a0), some (.int (5 : Int32))]) (st' := [.int (5 : Int32), .ref a133, .ref a133, .int (5 : Int32), .ref b132]) rfl ?_
  refine e_callI (As := [.int (5 : Int32)]) (rest := [.ref a133, .int (5 : Int32), .ref b132]) rfl (x_X2_init h) (fun X M9 hq => hq) rfl rfl rfl (aw (i := 260) (by decide +kernel) rfl) wn_X2_init wi_X2_init wc_X2_init (show cok mi_X6_init mi_X2_init 77 2154 1 = true by decide +kernel) (Nat.le_of_ble_eq_true rfl) (fun v9 M137 hq => ?_)
  obtain ⟨rfl, h⟩ := kV_l hq
  obtain ⟨ho138, h⟩ := h
  obtain ⟨ho139, h⟩ := h
  obtain ⟨hi140, h⟩ := h
  refine e_aast 12 4 rfl ho138 (by decide) ho139 rfl rfl hi140 ?_
  generalize hM141 : sP M137 b132 ((5 : Int32)).toNatClampNeg (some a133) = M141
  replace h := h M141 hM141.symm
  replace ho138 : ob M141 b132 12 := hM141 ▸ ob_sP ho138
  replace ho139 : ob M141 a133 2 := hM141 ▸ ob_sP ho139
  refine e_blk 4 107 _ _ (pc' := 90) (L' := [some (.ref a0), some (.int (6 : Int32))]) (st' := [.int (12 : Int32), .int (6 : Int32)]) rfl ?_
  refine e_icmp_ge 113 rfl rfl (fun hc => absurd hc (by decide)) (fun _ => ?_)
  refine e_blk 1 93 _ _ (pc' := 94) (L' := [some (.ref a0), some (.int (6 : Int32))]) (st' := [.ref a0]) rfl ?_
  obtain ⟨ho142, h⟩ := h
  obtain ⟨b143, hbb143, h⟩ := h
  refine e_getR 6 2 rfl rfl (by decide) (aw (i := 335) (by decide +kernel) rfl) ho142 rfl hbb143 ?_
  refine e_blk 1 97 _ _ (pc' := 98) (L' := [some (.ref a0), some (.int (6 : Int32))]) (st' := [.int (6 : Int32), .ref b143]) rfl ?_
  refine e_new 2 rfl rfl (aw (i := 123) (by decide +kernel) rfl) (aw (i := 259) (by decide +kernel) rfl) (aw (i := 63) (by decide +kernel) rfl) (by decide) (by decide) (fun a144 hn145 => ?_)
  replace h := h a144 hn145
  generalize hM146 : nO M141 a144 2 0 = M146
  replace h := h M146 hM146.symm
  replace ho138 : ob M146 b132 12 := hM146 ▸ ob_nO hn145 ho138
  replace ho139 : ob M146 a133 2 := hM146 ▸ ob_nO hn145 ho139
  replace ho142 : ob M146 a0 6 := hM146 ▸ ob_nO hn145 ho142
  have ho147 : ob M146 a144 2 := hM146 ▸ ob_new
  refine e_blk 2 101 _ _ (pc' := 103) (L' := [some (.ref a0), some (.int (6 : Int32))]) (st' := [.int (6 : Int32), .ref a144, .ref a144, .int (6 : Int32), .ref b143]) rfl ?_
  refine e_callI (As := [.int (6 : Int32)]) (rest := [.ref a144, .int (6 : Int32), .ref b143]) rfl (x_X2_init h) (fun X M9 hq => hq) rfl rfl rfl (aw (i := 260) (by decide +kernel) rfl) wn_X2_init wi_X2_init wc_X2_init (show cok mi_X6_init mi_X2_init 87 2261 1 = true by decide +kernel) (Nat.le_of_ble_eq_true rfl) (fun v9 M148 hq => ?_)
  obtain ⟨rfl, h⟩ := kV_l hq
  obtain ⟨ho149, h⟩ := h
  obtain ⟨ho150, h⟩ := h
  obtain ⟨hi151, h⟩ := h
  refine e_aast 12 4 rfl ho149 (by decide) ho150 rfl rfl hi151 ?_
  generalize hM152 : sP M148 b143 ((6 : Int32)).toNatClampNeg (some a144) = M152
  replace h := h M152 hM152.symm
  replace ho149 : ob M152 b143 12 := hM152 ▸ ob_sP ho149
  replace ho150 : ob M152 a144 2 := hM152 ▸ ob_sP ho150
  refine e_blk 4 107 _ _ (pc' := 90) (L' := [some (.ref a0), some (.int (7 : Int32))]) (st' := [.int (12 : Int32), .int (7 : Int32)]) rfl ?_
  refine e_icmp_ge 113 rfl rfl (fun hc => absurd hc (by decide)) (fun _ => ?_)
  refine e_blk 1 93 _ _ (pc' := 94) (L' := [some (.ref a0), some (.int (7 : Int32))]) (st' := [.ref a0]) rfl ?_
  obtain ⟨ho153, h⟩ := h
  obtain ⟨b154, hbb154, h⟩ := h
  refine e_getR 6 2 rfl rfl (by decide) (aw (i := 335) (by decide +kernel) rfl) ho153 rfl hbb154 ?_
  refine e_blk 1 97 _ _ (pc' := 98) (L' := [some (.ref a0), some (.int (7 : Int32))]) (st' := [.int (7 : Int32), .ref b154]) rfl ?_
  refine e_new 2 rfl rfl (aw (i := 123) (by decide +kernel) rfl) (aw (i := 259) (by decide +kernel) rfl) (aw (i := 63) (by decide +kernel) rfl) (by decide) (by decide) (fun a155 hn156 => ?_)
  replace h := h a155 hn156
  generalize hM157 : nO M152 a155 2 0 = M157
  replace h := h M157 hM157.symm
  replace ho149 : ob M157 b143 12 := hM157 ▸ ob_nO hn156 ho149
  replace ho150 : ob M157 a144 2 := hM157 ▸ ob_nO hn156 ho150
  replace ho153 : ob M157 a0 6 := hM157 ▸ ob_nO hn156 ho153
  have ho158 : ob M157 a155 2 := hM157 ▸ ob_new
  refine e_blk 2 101 _ _ (pc' := 103) (L' := [some (.ref a0), some (.int (7 : Int32))]) (st' := [.int (7 : Int32), .ref a155, .ref a155, .int (7 : Int32), .ref b154]) rfl ?_
  refine e_callI (As := [.int (7 : Int32)]) (rest := [.ref a155, .int (7 : Int32), .ref b154]) rfl (x_X2_init h) (fun X M9 hq => hq) rfl rfl rfl (aw (i := 260) (by decide +kernel) rfl) wn_X2_init wi_X2_init wc_X2_init (show cok mi_X6_init mi_X2_init 97 2368 1 = true by decide +kernel) (Nat.le_of_ble_eq_true rfl) (fun v9 M159 hq => ?_)
  obtain ⟨rfl, h⟩ := kV_l hq
  obtain ⟨ho160, h⟩ := h
  obtain ⟨ho161, h⟩ := h
  obtain ⟨hi162, h⟩ := h
  refine e_aast 12 4 rfl ho160 (by decide) ho161 rfl rfl hi162 ?_
  generalize hM163 : sP M159 b154 ((7 : Int32)).toNatClampNeg (some a155) = M163
  replace h := h M163 hM163.symm
  replace ho160 : ob M163 b154 12 := hM163 ▸ ob_sP ho160
  replace ho161 : ob M163 a155 2 := hM163 ▸ ob_sP ho161
  refine e_blk 4 107 _ _ (pc' := 90) (L' := [some (.ref a0), some (.int (8 : Int32))]) (st' := [.int (12 : Int32), .int (8 : Int32)]) rfl ?_
  refine e_icmp_ge 113 rfl rfl (fun hc => absurd hc (by decide)) (fun _ => ?_)
  refine e_blk 1 93 _ _ (pc' := 94) (L' := [some (.ref a0), some (.int (8 : Int32))]) (st' := [.ref a0]) rfl ?_
  obtain ⟨ho164, h⟩ := h
  obtain ⟨b165, hbb165, h⟩ := h
  refine e_getR 6 2 rfl rfl (by decide) (aw (i := 335) (by decide +kernel) rfl) ho164 rfl hbb165 ?_
  refine e_blk 1 97 _ _ (pc' := 98) (L' := [some (.ref a0), some (.int (8 : Int32))]) (st' := [.int (8 : Int32), .ref b165]) rfl ?_
  refine e_new 2 rfl rfl (aw (i := 123) (by decide +kernel) rfl) (aw (i := 259) (by decide +kernel) rfl) (aw (i := 63) (by decide +kernel) rfl) (by decide) (by decide) (fun a166 hn167 => ?_)
  replace h := h a166 hn167
  generalize hM168 : nO M163 a166 2 0 = M168
  replace h := h M168 hM168.symm
  replace ho160 : ob M168 b154 12 := hM168 ▸ ob_nO hn167 ho160
  replace ho161 : ob M168 a155 2 := hM168 ▸ ob_nO hn167 ho161
  replace ho164 : ob M168 a0 6 := hM168 ▸ ob_nO hn167 ho164
  have ho169 : ob M168 a166 2 := hM168 ▸ ob_new
  refine e_blk 2 101 _ _ (pc' := 103) (L' := [some (.ref a0), some (.int (8 : Int32))]) (st' := [.int (8 : Int32), .ref a166, .ref a166, .int (8 : Int32), .ref b165]) rfl ?_
  refine e_callI (As := [.int (8 : Int32)]) (rest := [.ref a166, .int (8 : Int32), .ref b165]) rfl (x_X2_init h) (fun X M9 hq => hq) rfl rfl rfl (aw (i := 260) (by decide +kernel) rfl) wn_X2_init wi_X2_init wc_X2_init (show cok mi_X6_init mi_X2_init 107 2475 1 = true by decide +kernel) (Nat.le_of_ble_eq_true rfl) (fun v9 M170 hq => ?_)
  obtain ⟨rfl, h⟩ := kV_l hq
  obtain ⟨ho171, h⟩ := h
  obtain ⟨ho172, h⟩ := h
  obtain ⟨hi173, h⟩ := h
  refine e_aast 12 4 rfl ho171 (by decide) ho172 rfl rfl hi173 ?_
  generalize hM174 : sP M170 b165 ((8 : Int32)).toNatClampNeg (some a166) = M174
  replace h := h M174 hM174.symm
  replace ho171 : ob M174 b165 12 := hM174 ▸ ob_sP ho171
  replace ho172 : ob M174 a166 2 := hM174 ▸ ob_sP ho172
  refine e_blk 4 107 _ _ (pc' := 90) (L' := [some (.ref a0), some (.int (9 : Int32))]) (st' := [.int (12 : Int32), .int (9 : Int32)]) rfl ?_
  refine e_icmp_ge 113 rfl rfl (fun hc => absurd hc (by decide)) (fun _ => ?_)
  refine e_blk 1 93 _ _ (pc' := 94) (L' := [some (.ref a0), some (.int (9 : Int32))]) (st' := [.ref a0]) rfl ?_
  obtain ⟨ho175, h⟩ := h
  obtain ⟨b176, hbb176, h⟩ := h
  refine e_getR 6 2 rfl rfl (by decide) (aw (i := 335) (by decide +kernel) rfl) ho175 rfl hbb176 ?_
  refine e_blk 1 97 _ _ (pc' := 98) (L' := [some (.ref a0), some (.int (9 : Int32))]) (st' := [.int (9 : Int32), .ref b176]) rfl ?_
  refine e_new 2 rfl rfl (aw (i := 123) (by decide +kernel) rfl) (aw (i := 259) (by decide +kernel) rfl) (aw (i := 63) (by decide +kernel) rfl) (by decide) (by decide) (fun a177 hn178 => ?_)
  replace h := h a177 hn178
  generalize hM179 : nO M174 a177 2 0 = M179
  replace h := h M179 hM179.symm
  replace ho171 : ob M179 b165 12 := hM179 ▸ ob_nO hn178 ho171
  replace ho172 : ob M179 a166 2 := hM179 ▸ ob_nO hn178 ho172
  replace ho175 : ob M179 a0 6 := hM179 ▸ ob_nO hn178 ho175
  have ho180 : ob M179 a177 2 := hM179 ▸ ob_new
  refine e_blk 2 101 _ _ (pc' := 103) (L' := [some (.ref a0), some (.int (9 : Int32))]) (st' := [.int (9 : Int32), .ref a177, .ref a177, .int (9 : Int32), .ref b176]) rfl ?_
  refine e_callI (As := [.int (9 : Int32)]) (rest := [.ref a177, .int (9 : Int32), .ref b176]) rfl (x_X2_init h) (fun X M9 hq => hq) rfl rfl rfl (aw (i := 260) (by decide +kernel) rfl) wn_X2_init wi_X2_init wc_X2_init (show cok mi_X6_init mi_X2_init 117 2582 1 = true by decide +kernel) (Nat.le_of_ble_eq_true rfl) (fun v9 M181 hq => ?_)
  obtain ⟨rfl, h⟩ := kV_l hq
  obtain ⟨ho182, h⟩ := h
  obtain ⟨ho183, h⟩ := h
  obtain ⟨hi184, h⟩ := h
  refine e_aast 12 4 rfl ho182 (by decide) ho183 rfl rfl hi184 ?_
  generalize hM185 : sP M181 b176 ((9 : Int32)).toNatClampNeg (some a177) = M185
  replace h := h M185 hM185.symm
  replace ho182 : ob M185 b176 12 := hM185 ▸ ob_sP ho182
  replace ho183 : ob M185 a177 2 := hM185 ▸ ob_sP ho183
  refine e_blk 4 107 _ _ (pc' := 90) (L' := [some (.ref a0), some (.int (10 : Int32))]) (st' := [.int (12 : Int32), .int (10 : Int32)]) rfl ?_
  refine e_icmp_ge 113 rfl rfl (fun hc => absurd hc (by decide)) (fun _ => ?_)
  refine e_blk 1 93 _ _ (pc' := 94) (L' := [some (.ref a0), some (.int (10 : Int32))]) (st' := [.ref a0]) rfl ?_
  obtain ⟨ho186, h⟩ := h
  obtain ⟨b187, hbb187, h⟩ := h
  refine e_getR 6 2 rfl rfl (by decide) (aw (i := 335) (by decide +kernel) rfl) ho186 rfl hbb187 ?_
  refine e_blk 1 97 _ _ (pc' := 98) (L' := [some (.ref a0), some (.int (10 : Int32))]) (st' := [.int (10 : Int32), .ref b187]) rfl ?_
  refine e_new 2 rfl rfl (aw (i := 123) (by decide +kernel) rfl) (aw (i := 259) (by decide +kernel) rfl) (aw (i := 63) (by decide +kernel) rfl) (by decide) (by decide) (fun a188 hn189 => ?_)
  replace h := h a188 hn189
  generalize hM190 : nO M185 a188 2 0 = M190
  replace h := h M190 hM190.symm
  replace ho182 : ob M190 b176 12 := hM190 ▸ ob_nO hn189 ho182
  replace ho183 : ob M190 a177 2 := hM190 ▸ ob_nO hn189 ho183
  replace ho186 : ob M190 a0 6 := hM190 ▸ ob_nO hn189 ho186
  have ho191 : ob M190 a188 2 := hM190 ▸ ob_new
  refine e_blk 2 101 _ _ (pc' := 103) (L' := [some (.ref a0), some (.int (10 : Int32))]) (st' := [.int (10 : Int32), .ref a188, .ref a188, .int (10 : Int32), .ref b187]) rfl ?_
  refine e_callI (As := [.int (10 : Int32)]) (rest := [.ref a188, .int (10 : Int32), .ref b187]) rfl (x_X2_init h) (fun X M9 hq => hq) rfl rfl rfl (aw (i := 260) (by decide +kernel) rfl) wn_X2_init wi_X2_init wc_X2_init (show cok mi_X6_init mi_X2_init 127 2689 1 = true by decide +kernel) (Nat.le_of_ble_eq_true rfl) (fun v9 M192 hq => ?_)
  obtain ⟨rfl, h⟩ := kV_l hq
  obtain ⟨ho193, h⟩ := h
  obtain ⟨ho194, h⟩ := h
  obtain ⟨hi195, h⟩ := h
  refine e_aast 12 4 rfl ho193 (by decide) ho194 rfl rfl hi195 ?_
  generalize hM196 : sP M192 b187 ((10 : Int32)).toNatClampNeg (some a188) = M196
  replace h := h M196 hM196.symm
  replace ho193 : ob M196 b187 12 := hM196 ▸ ob_sP ho193
  replace ho194 : ob M196 a188 2 := hM196 ▸ ob_sP ho194
  refine e_blk 4 107 _ _ (pc' := 90) (L' := [some (.ref a0), some (.int (11 : Int32))]) (st' := [.int (12 : Int32), .int (11 : Int32)]) rfl ?_
  refine e_icmp_ge 113 rfl rfl (fun hc => absurd hc (by decide)) (fun _ => ?_)
  refine e_blk 1 93 _ _ (pc' := 94) (L' := [some (.ref a0), some (.int (11 : Int32))]) (st' := [.ref a0]) rfl ?_
  obtain ⟨ho197, h⟩ := h
  obtain ⟨b198, hbb198, h⟩ := h
  refine e_getR 6 2 rfl rfl (by decide) (aw (i := 335) (by decide +kernel) rfl) ho197 rfl hbb198 ?_
  refine e_blk 1 97 _ _ (pc' := 98) (L' := [some (.ref a0), some (.int (11 : Int32))]) (st' := [.int (11 : Int32), .ref b198]) rfl ?_
  refine e_new 2 rfl rfl (aw (i := 123) (by decide +kernel) rfl) (aw (i := 259) (by decide +kernel) rfl) (aw (i := 63) (by decide +kernel) rfl) (by decide) (by decide) (fun a199 hn200 => ?_)
  replace h := h a199 hn200
  generalize hM201 : nO M196 a199 2 0 = M201
  replace h := h M201 hM201.symm
  replace ho193 : ob M201 b187 12 := hM201 ▸ ob_nO hn200 ho193
  replace ho194 : ob M201 a188 2 := hM201 ▸ ob_nO hn200 ho194
  replace ho197 : ob M201 a0 6 := hM201 ▸ ob_nO hn200 ho197
  have ho202 : ob M201 a199 2 := hM201 ▸ ob_new
  refine e_blk 2 101 _ _ (pc' := 103) (L' := [some (.ref a0), some (.int (11 : Int32))]) (st' := [.int (11 : Int32), .ref a199, .ref a199, .int (11 : Int32), .ref b198]) rfl ?_
  refine e_callI (As := [.int (11 : Int32)]) (rest := [.ref a199, .int (11 : Int32), .ref b198]) rfl (x_X2_init h) (fun X M9 hq => hq) rfl rfl rfl (aw (i := 260) (by decide +kernel) rfl) wn_X2_init wi_X2_init wc_X2_init (show cok mi_X6_init mi_X2_init 137 2796 1 = true by decide +kernel) (Nat.le_of_ble_eq_true rfl) (fun v9 M203 hq => ?_)
  obtain ⟨rfl, h⟩ := kV_l hq
  obtain ⟨ho204, h⟩ := h
  obtain ⟨ho205, h⟩ := h
  obtain ⟨hi206, h⟩ := h
  refine e_aast 12 4 rfl ho204 (by decide) ho205 rfl rfl hi206 ?_
  generalize hM207 : sP M203 b198 ((11 : Int32)).toNatClampNeg (some a199) = M207
  replace h := h M207 hM207.symm
  replace ho204 : ob M207 b198 12 := hM207 ▸ ob_sP ho204
  replace ho205 : ob M207 a199 2 := hM207 ▸ ob_sP ho205
  refine e_blk 4 107 _ _ (pc' := 90) (L' := [some (.ref a0), some (.int (12 : Int32))]) (st' := [.int (12 : Int32), .int (12 : Int32)]) rfl ?_
  refine e_icmp_ge 113 rfl rfl (fun _ => ?_) (fun hc => absurd (by decide) hc)
  exact e_ret rfl rfl (by decide) (by decide) h
def V_X7_init (K : Rs → Mm → Prop) (M : Mm) (a0 : Nat) : Prop := ∀ a1, a1 ∉ mL M → ∀ M3, M3 = nO M a1 9 4 → (ob M3 a0 7 ∧ ∀ M6, M6 = sP M3 a0 1 (some a1) → ∀ a7, a7 ∉ mL M6 → ∀ M9, M9 = nO M6 a7 9 4 → ∀ M11, M11 = sP M9 a0 2 (some a7) → ∀ a12, a12 ∉ mL M11 → ∀ M14, M14 = nO M11 a12 9 80 → ∀ M16, M16 = sP M14 a0 3 (some a12) → ∀ a17, a17 ∉ mL M16 → ∀ M19, M19 = nO M16 a17 9 80 → ∀ M21, M21 = sP M19 a0 4 (some a17) → ∀ a22, a22 ∉ mL M21 → ∀ M24, M24 = nO M21 a22 8 160 → ∀ M26, M26 = sP M24 a0 10 (some a22) → ∀ a27, a27 ∉ mL M26 → ∀ M29, M29 = nO M26 a27 10 5 → ∀ M31, M31 = sP M29 a0 16 (some a27) → ∀ a32, a32 ∉ mL M31 → ∀ M34, M34 = nO M31 a32 11 300 → ∀ M36, M36 = sP M34 a0 17 (some a32) → ∀ a37, a37 ∉ mL M36 → ∀ M39, M39 = nO M36 a37 11 12 → ∀ M41, M41 = sP M39 a0 26 (some a37) → ∀ a42, a42 ∉ mL M41 → ∀ M44, M44 = nO M41 a42 9 12 → ∀ M46, M46 = sP M44 a0 27 (some a42) → ∀ a47, a47 ∉ mL M46 → ∀ M49, M49 = nO M46 a47 9 12 → ∀ M51, M51 = sP M49 a0 28 (some a47) → ∀ a52, a52 ∉ mL M51 → ∀ M54, M54 = nO M51 a52 9 12 → ∀ M56, M56 = sP M54 a0 29 (some a52) → ∀ a57, a57 ∉ mL M56 → ∀ M59, M59 = nO M56 a57 9 12 → ∀ M61, M61 = sP M59 a0 30 (some a57) → ∀ a62, a62 ∉ mL M61 → ∀ M64, M64 = nO M61 a62 9 12 → ∀ M66, M66 = sP M64 a0 31 (some a62) → ∀ a67, a67 ∉ mL M66 → ∀ M69, M69 = nO M66 a67 10 60 → ∀ M71, M71 = sP M69 a0 32 (some a67) → ∀ a72, a72 ∉ mL M71 → ∀ M74, M74 = nO M71 a72 11 3600 → ∀ M76, M76 = sP M74 a0 33 (some a72) → ∀ a77, a77 ∉ mL M76 → ∀ M79, M79 = nO M76 a77 11 12 → ∀ M81, M81 = sP M79 a0 34 (some a77) → ∀ a82, a82 ∉ mL M81 → ∀ M84, M84 = nO M81 a82 10 12 → ∀ M86, M86 = sP M84 a0 35 (some a82) → ∀ a87, a87 ∉ mL M86 → ∀ M89, M89 = nO M86 a87 11 12 → ∀ M91, M91 = sP M89 a0 36 (some a87) → ∀ a92, a92 ∉ mL M91 → ∀ M94, M94 = nO M91 a92 10 12 → ∀ M96, M96 = sP M94 a0 37 (some a92) → ∀ a97, a97 ∉ mL M96 → ∀ M99, M99 = nO M96 a97 10 12 → ∀ M101, M101 = sP M99 a0 38 (some a97) → ∀ a102, a102 ∉ mL M101 → ∀ M104, M104 = nO M101 a102 10 12 → ∀ M106, M106 = sP M104 a0 39 (some a102) → ∀ a107, a107 ∉ mL M106 → ∀ M109, M109 = nO M106 a107 11 12 → ∀ M111, M111 = sP M109 a0 40 (some a107) → ∀ a112, a112 ∉ mL M111 → ∀ M114, M114 = nO M111 a112 11 12 → ∀ M116, M116 = sP M114 a0 41 (some a112) → ∀ a117, a117 ∉ mL M116 → ∀ M119, M119 = nO M116 a117 9 12 → ∀ M121, M121 = sP M119 a0 42 (some a117) → ∀ a122, a122 ∉ mL M121 → ∀ M124, M124 = nO M121 a122 9 12 → ∀ M126, M126 = sP M124 a0 43 (some a122) → ∀ a127, a127 ∉ mL M126 → ∀ M129, M129 = nO M126 a127 9 12 → ∀ M131, M131 = sP M129 a0 44 (some a127) → ∀ a132, a132 ∉ mL M131 → ∀ M134, M134 = nO M131 a132 9 100 → ∀ M136, M136 = sP M134 a0 46 (some a132) → ∀ a137, a137 ∉ mL M136 → ∀ M139, M139 = nO M136 a137 9 100 → ∀ M141, M141 = sP M139 a0 47 (some a137) → ∀ a142, a142 ∉ mL M141 → ∀ M144, M144 = nO M141 a142 9 100 → ∀ M146, M146 = sP M144 a0 48 (some a142) → ∀ a147, a147 ∉ mL M146 → ∀ M149, M149 = nO M146 a147 9 300 → ∀ M151, M151 = sP M149 a0 56 (some a147) → ∀ a152, a152 ∉ mL M151 → ∀ M154, M154 = nO M151 a152 9 300 → ∀ M156, M156 = sP M154 a0 57 (some a152) → ∀ a157, a157 ∉ mL M156 → ∀ M159, M159 = nO M156 a157 9 300 → ∀ M161, M161 = sP M159 a0 58 (some a157) → ∀ a162, a162 ∉ mL M161 → ∀ M164, M164 = nO M161 a162 9 300 → ∀ M166, M166 = sP M164 a0 59 (some a162) → ∀ M167, M167 = sI M166 a0 0 (0 : Int32) → K (.inl none) M167)
set_option maxRecDepth 100000 in
set_option maxHeartbeats 4000000 in
theorem x_X7_init {G : Gx} {K : Rs → Mm → Prop} {M : Mm} {a0 : Nat} (h : V_X7_init K M a0) : MC G mi_X7_init [.ref a0] M K := by
  unfold V_X7_init at h
  refine mc_of rfl (by decide +kernel) dc_X7_init (Nat.le_of_ble_eq_true rfl) 0 (Nat.le_of_ble_eq_true rfl) ?_
  show E G mi_X7_init K M 0 0 0 [some (.ref a0)] []
  refine e_blk 1 0 _ _ (pc' := 1) (L' := [some (.ref a0)]) (st' := [.ref a0]) rfl ?_
  refine e_objI rfl (aw (i := 1064) (by decide +kernel) rfl) (aw (i := 83) (by decide +kernel) rfl) (aw (i := 84) (by decide +kernel) rfl) (by decide) (by decide) ?_
  refine e_blk 2 4 _ _ (pc' := 6) (L' := [some (.ref a0)]) (st' := [.int (4 : Int32), .ref a0]) rfl ?_
  refine e_newI 4 rfl (aw (i := 190) (by decide +kernel) rfl) (by decide) rfl (by decide) (by decide) (by decide) (fun a1 hn2 => ?_)
  replace h := h a1 hn2
  generalize hM3 : nO M a1 9 4 = M3
  replace h := h M3 hM3.symm
  have ho4 : ob M3 a1 9 := hM3 ▸ ob_new
  obtain ⟨ho5, h⟩ := h
  refine e_putFA 7 1 (v := some a1) rfl rfl (by decide) (aw (i := 1066) (by decide +kernel) rfl) rfl rfl rfl ho5 rfl ?_
  generalize hM6 : sP M3 a0 1 (some a1) = M6
  replace h := h M6 hM6.symm
  replace ho4 : ob M6 a1 9 := hM6 ▸ ob_sP ho4
  replace ho5 : ob M6 a0 7 := hM6 ▸ ob_sP ho5
  refine e_blk 2 11 _ _ (pc' := 13) (L' := [some (.ref a0)]) (st' := [.int (4 : Int32), .ref a0]) rfl ?_
  refine e_newI 4 rfl (aw (i := 190) (by decide +kernel) rfl) (by decide) rfl (by decide) (by decide) (by decide) (fun a7 hn8 => ?_)
  replace h := h a7 hn8
  generalize hM9 : nO M6 a7 9 4 = M9
  replace h := h M9 hM9.symm
  replace ho4 : ob M9 a1 9 := hM9 ▸ ob_nO hn8 ho4
  replace ho5 : ob M9 a0 7 := hM9 ▸ ob_nO hn8 ho5
  have ho10 : ob M9 a7 9 := hM9 ▸ ob_new
  refine e_putFA 7 2 (v := some a7) rfl rfl (by decide) (aw (i := 1067) (by decide +kernel) rfl) rfl rfl rfl ho5 rfl ?_
  generalize hM11 : sP M9 a0 2 (some a7) = M11
  replace h := h M11 hM11.symm
  replace ho4 : ob M11 a1 9 := hM11 ▸ ob_sP ho4
  replace ho5 : ob M11 a0 7 := hM11 ▸ ob_sP ho5
  replace ho10 : ob M11 a7 9 := hM11 ▸ ob_sP ho10
  refine e_blk 2 18 _ _ (pc' := 21) (L' := [some (.ref a0)]) (st' := [.int (80 : Int32), .ref a0]) rfl ?_
  refine e_newI 80 rfl (aw (i := 190) (by decide +kernel) rfl) (by decide) rfl (by decide) (by decide) (by decide) (fun a12 hn13 => ?_)
  replace h := h a12 hn13
  generalize hM14 : nO M11 a12 9 80 = M14
  replace h := h M14 hM14.symm
  replace ho4 : ob M14 a1 9 := hM14 ▸ ob_nO hn13 ho4
  replace ho5 : ob M14 a0 7 := hM14 ▸ ob_nO hn13 ho5
  replace ho10 : ob M14 a7 9 := hM14 ▸ ob_nO hn13 ho10
  have ho15 : ob M14 a12 9 := hM14 ▸ ob_new
  refine e_putFA 7 3 (v := some a12) rfl rfl (by decide) (aw (i := 1068) (by decide +kernel) rfl) rfl rfl rfl ho5 rfl ?_
  generalize hM16 : sP M14 a0 3 (some a12) = M16
  replace h := h M16 hM16.symm
  replace ho4 : ob M16 a1 9 := hM16 ▸ ob_sP ho4
  replace ho5 : ob M16 a0 7 := hM16 ▸ ob_sP ho5
  replace ho10 : ob M16 a7 9 := hM16 ▸ ob_sP ho10
  replace ho15 : ob M16 a12 9 := hM16 ▸ ob_sP ho15
  refine e_blk 2 26 _ _ (pc' := 29) (L' := [some (.ref a0)]) (st' := [.int (80 : Int32), .ref a0]) rfl ?_
  refine e_newI 80 rfl (aw (i := 190) (by decide +kernel) rfl) (by decide) rfl (by decide) (by decide) (by decide) (fun a17 hn18 => ?_)
  replace h := h a17 hn18
  generalize hM19 : nO M16 a17 9 80 = M19
  replace h := h M19 hM19.symm
  replace ho4 : ob M19 a1 9 := hM19 ▸ ob_nO hn18 ho4
  replace ho5 : ob M19 a0 7 := hM19 ▸ ob_nO hn18 ho5
  replace ho10 : ob M19 a7 9 := hM19 ▸ ob_nO hn18 ho10
  replace ho15 : ob M19 a12 9 := hM19 ▸ ob_nO hn18 ho15
  have ho20 : ob M19 a17 9 := hM19 ▸ ob_new
  refine e_putFA 7 4 (v := some a17) rfl rfl (by decide) (aw (i := 1069) (by decide +kernel) rfl) rfl rfl rfl ho5 rfl ?_
  generalize hM21 : sP M19 a0 4 (some a17) = M21
  replace h := h M21 hM21.symm
  replace ho4 : ob M21 a1 9 := hM21 ▸ ob_sP ho4
  replace ho5 : ob M21 a0 7 := hM21 ▸ ob_sP ho5
  replace ho10 : ob M21 a7 9 := hM21 ▸ ob_sP ho10
  replace ho15 : ob M21 a12 9 := hM21 ▸ ob_sP ho15
  replace ho20 : ob M21 a17 9 := hM21 ▸ ob_sP ho20
  refine e_blk 2 34 _ _ (pc' := 38) (L' := [some (.ref a0)]) (st' := [.int (160 : Int32), .ref a0]) rfl ?_
  refine e_newB 160 rfl (aw (i := 449) (by decide +kernel) rfl) (by decide) rfl (by decide) (by decide) (by decide) (fun a22 hn23 => ?_)
  replace h := h a22 hn23
  generalize hM24 : nO M21 a22 8 160 = M24
  replace h := h M24 hM24.symm
  replace ho4 : ob M24 a1 9 := hM24 ▸ ob_nO hn23 ho4
  replace ho5 : ob M24 a0 7 := hM24 ▸ ob_nO hn23 ho5
  replace ho10 : ob M24 a7 9 := hM24 ▸ ob_nO hn23 ho10
  replace ho15 : ob M24 a12 9 := hM24 ▸ ob_nO hn23 ho15
  replace ho20 : ob M24 a17 9 := hM24 ▸ ob_nO hn23 ho20
  have ho25 : ob M24 a22 8 := hM24 ▸ ob_new
  refine e_putFA 7 10 (v := some a22) rfl rfl (by decide) (aw (i := 1075) (by decide +kernel) rfl) rfl rfl rfl ho5 rfl ?_
  generalize hM26 : sP M24 a0 10 (some a22) = M26
  replace h := h M26 hM26.symm
  replace ho4 : ob M26 a1 9 := hM26 ▸ ob_sP ho4
  replace ho5 : ob M26 a0 7 := hM26 ▸ ob_sP ho5
  replace ho10 : ob M26 a7 9 := hM26 ▸ ob_sP ho10
  replace ho15 : ob M26 a12 9 := hM26 ▸ ob_sP ho15
  replace ho20 : ob M26 a17 9 := hM26 ▸ ob_sP ho20
  replace ho25 : ob M26 a22 8 := hM26 ▸ ob_sP ho25
  refine e_blk 2 43 _ _ (pc' := 45) (L' := [some (.ref a0)]) (st' := [.int (5 : Int32), .ref a0]) rfl ?_
  refine e_newJ 5 rfl (aw (i := 191) (by decide +kernel) rfl) (by decide) rfl (by decide) (by decide) (by decide) (fun a27 hn28 => ?_)
  replace h := h a27 hn28
  generalize hM29 : nO M26 a27 10 5 = M29
  replace h := h M29 hM29.symm
  replace ho4 : ob M29 a1 9 := hM29 ▸ ob_nO hn28 ho4
  replace ho5 : ob M29 a0 7 := hM29 ▸ ob_nO hn28 ho5
  replace ho10 : ob M29 a7 9 := hM29 ▸ ob_nO hn28 ho10
  replace ho15 : ob M29 a12 9 := hM29 ▸ ob_nO hn28 ho15
  replace ho20 : ob M29 a17 9 := hM29 ▸ ob_nO hn28 ho20
  replace ho25 : ob M29 a22 8 := hM29 ▸ ob_nO hn28 ho25
  have ho30 : ob M29 a27 10 := hM29 ▸ ob_new
  refine e_putFA 7 16 (v := some a27) rfl rfl (by decide) (aw (i := 1081) (by decide +kernel) rfl) rfl rfl rfl ho5 rfl ?_
  generalize hM31 : sP M29 a0 16 (some a27) = M31
  replace h := h M31 hM31.symm
  replace ho4 : ob M31 a1 9 := hM31 ▸ ob_sP ho4
  replace ho5 : ob M31 a0 7 := hM31 ▸ ob_sP ho5
  replace ho10 : ob M31 a7 9 := hM31 ▸ ob_sP ho10
  replace ho15 : ob M31 a12 9 := hM31 ▸ ob_sP ho15
  replace ho20 : ob M31 a17 9 := hM31 ▸ ob_sP ho20
  replace ho25 : ob M31 a22 8 := hM31 ▸ ob_sP ho25
  replace ho30 : ob M31 a27 10 := hM31 ▸ ob_sP ho30
  refine e_blk 2 50 _ _ (pc' := 54) (L' := [some (.ref a0)]) (st' := [.int (300 : Int32), .ref a0]) rfl ?_
  refine e_newZ 300 rfl (aw (i := 1246) (by decide +kernel) rfl) (by decide) rfl (by decide) (by decide) (by decide) (fun a32 hn33 => ?_)
  replace h := h a32 hn33
  generalize hM34 : nO M31 a32 11 300 = M34
  replace h := h M34 hM34.symm
  replace ho4 : ob M34 a1 9 := hM34 ▸ ob_nO hn33 ho4
  replace ho5 : ob M34 a0 7 := hM34 ▸ ob_nO hn33 ho5
  replace ho10 : ob M34 a7 9 := hM34 ▸ ob_nO hn33 ho10
  replace ho15 : ob M34 a12 9 := hM34 ▸ ob_nO hn33 ho15
  replace ho20 : ob M34 a17 9 := hM34 ▸ ob_nO hn33 ho20
  replace ho25 : ob M34 a22 8 := hM34 ▸ ob_nO hn33 ho25
  replace ho30 : ob M34 a27 10 := hM34 ▸ ob_nO hn33 ho30
  have ho35 : ob M34 a32 11 := hM34 ▸ ob_new
  refine e_putFA 7 17 (v := some a32) rfl rfl (by decide) (aw (i := 1082) (by decide +kernel) rfl) rfl rfl rfl ho5 rfl ?_
  generalize hM36 : sP M34 a0 17 (some a32) = M36
  replace h := h M36 hM36.symm
  replace ho4 : ob M36 a1 9 := hM36 ▸ ob_sP ho4
  replace ho5 : ob M36 a0 7 := hM36 ▸ ob_sP ho5
  replace ho10 : ob M36 a7 9 := hM36 ▸ ob_sP ho10
  replace ho15 : ob M36 a12 9 := hM36 ▸ ob_sP ho15
  replace ho20 : ob M36 a17 9 := hM36 ▸ ob_sP ho20
  replace ho25 : ob M36 a22 8 := hM36 ▸ ob_sP ho25
  replace ho30 : ob M36 a27 10 := hM36 ▸ ob_sP ho30
  replace ho35 : ob M36 a32 11 := hM36 ▸ ob_sP ho35
  refine e_blk 2 59 _ _ (pc' := 62) (L' := [some (.ref a0)]) (st' := [.int (12 : Int32), .ref a0]) rfl ?_
  refine e_newZ 12 rfl (aw (i := 1246) (by decide +kernel) rfl) (by decide) rfl (by decide) (by decide) (by decide) (fun a37 hn38 => ?_)
  replace h := h a37 hn38
  generalize hM39 : nO M36 a37 11 12 = M39
  replace h := h M39 hM39.symm
  replace ho4 : ob M39 a1 9 := hM39 ▸ ob_nO hn38 ho4
  replace ho5 : ob M39 a0 7 := hM39 ▸ ob_nO hn38 ho5
  replace ho10 : ob M39 a7 9 := hM39 ▸ ob_nO hn38 ho10
  replace ho15 : ob M39 a12 9 := hM39 ▸ ob_nO hn38 ho15
  replace ho20 : ob M39 a17 9 := hM39 ▸ ob_nO hn38 ho20
  replace ho25 : ob M39 a22 8 := hM39 ▸ ob_nO hn38 ho25
  replace ho30 : ob M39 a27 10 := hM39 ▸ ob_nO hn38 ho30
  replace ho35 : ob M39 a32 11 := hM39 ▸ ob_nO hn38 ho35
  have ho40 : ob M39 a37 11 := hM39 ▸ ob_new
  refine e_putFA 7 26 (v := some a37) rfl rfl (by decide) (aw (i := 1091) (by decide +kernel) rfl) rfl rfl rfl ho5 rfl ?_
  generalize hM41 : sP M39 a0 26 (some a37) = M41
  replace h := h M41 hM41.symm
  replace ho4 : ob M41 a1 9 := hM41 ▸ ob_sP ho4
  replace ho5 : ob M41 a0 7 := hM41 ▸ ob_sP ho5
  replace ho10 : ob M41 a7 9 := hM41 ▸ ob_sP ho10
  replace ho15 : ob M41 a12 9 := hM41 ▸ ob_sP ho15
  replace ho20 : ob M41 a17 9 := hM41 ▸ ob_sP ho20
  replace ho25 : ob M41 a22 8 := hM41 ▸ ob_sP ho25
  replace ho30 : ob M41 a27 10 := hM41 ▸ ob_sP ho30
  replace ho35 : ob M41 a32 11 := hM41 ▸ ob_sP ho35
  replace ho40 : ob M41 a37 11 := hM41 ▸ ob_sP ho40
  refine e_blk 2 67 _ _ (pc' := 70) (L' := [some (.ref a0)]) (st' := [.int (12 : Int32), .ref a0]) rfl ?_
  refine e_newI 12 rfl (aw (i := 190) (by decide +kernel) rfl) (by decide) rfl (by decide) (by decide) (by decide) (fun a42 hn43 => ?_)
  replace h := h a42 hn43
  generalize hM44 : nO M41 a42 9 12 = M44
  replace h := h M44 hM44.symm
  replace ho4 : ob M44 a1 9 := hM44 ▸ ob_nO hn43 ho4
  replace ho5 : ob M44 a0 7 := hM44 ▸ ob_nO hn43 ho5
  replace ho10 : ob M44 a7 9 := hM44 ▸ ob_nO hn43 ho10
  replace ho15 : ob M44 a12 9 := hM44 ▸ ob_nO hn43 ho15
  replace ho20 : ob M44 a17 9 := hM44 ▸ ob_nO hn43 ho20
  replace ho25 : ob M44 a22 8 := hM44 ▸ ob_nO hn43 ho25
  replace ho30 : ob M44 a27 10 := hM44 ▸ ob_nO hn43 ho30
  replace ho35 : ob M44 a32 11 := hM44 ▸ ob_nO hn43 ho35
  replace ho40 : ob M44 a37 11 := hM44 ▸ ob_nO hn43 ho40
  have ho45 : ob M44 a42 9 := hM44 ▸ ob_new
  refine e_putFA 7 27 (v := some a42) rfl rfl (by decide) (aw (i := 1092) (by decide +kernel) rfl) rfl rfl rfl ho5 rfl ?_
  generalize hM46 : sP M44 a0 27 (some a42) = M46
  replace h := h M46 hM46.symm
  replace ho4 : ob M46 a1 9 := hM46 ▸ ob_sP ho4
  replace ho5 : ob M46 a0 7 := hM46 ▸ ob_sP ho5
  replace ho10 : ob M46 a7 9 := hM46 ▸ ob_sP ho10
  replace ho15 : ob M46 a12 9 := hM46 ▸ ob_sP ho15
  replace ho20 : ob M46 a17 9 := hM46 ▸ ob_sP ho20
  replace ho25 : ob M46 a22 8 := hM46 ▸ ob_sP ho25
  replace ho30 : ob M46 a27 10 := hM46 ▸ ob_sP ho30
  replace ho35 : ob M46 a32 11 := hM46 ▸ ob_sP ho35
  replace ho40 : ob M46 a37 11 := hM46 ▸ ob_sP ho40
  replace ho45 : ob M46 a42 9 := hM46 ▸ ob_sP ho45
  refine e_blk 2 75 _ _ (pc' := 78) (L' := [some (.ref a0)]) (st' := [.int (12 : Int32), .ref a0]) rfl ?_
  refine e_newI 12 rfl (aw (i := 190) (by decide +kernel) rfl) (by decide) rfl (by decide) (by decide) (by decide) (fun a47 hn48 => ?_)
  replace h := h a47 hn48
  generalize hM49 : nO M46 a47 9 12 = M49
  replace h := h M49 hM49.symm
  replace ho4 : ob M49 a1 9 := hM49 ▸ ob_nO hn48 ho4
  replace ho5 : ob M49 a0 7 := hM49 ▸ ob_nO hn48 ho5
  replace ho10 : ob M49 a7 9 := hM49 ▸ ob_nO hn48 ho10
  replace ho15 : ob M49 a12 9 := hM49 ▸ ob_nO hn48 ho15
  replace ho20 : ob M49 a17 9 := hM49 ▸ ob_nO hn48 ho20
  replace ho25 : ob M49 a22 8 := hM49 ▸ ob_nO hn48 ho25
  replace ho30 : ob M49 a27 10 := hM49 ▸ ob_nO hn48 ho30
  replace ho35 : ob M49 a32 11 := hM49 ▸ ob_nO hn48 ho35
  replace ho40 : ob M49 a37 11 := hM49 ▸ ob_nO hn48 ho40
  replace ho45 : ob M49 a42 9 := hM49 ▸ ob_nO hn48 ho45
  have ho50 : ob M49 a47 9 := hM49 ▸ ob_new
  refine e_putFA 7 28 (v := some a47) rfl rfl (by decide) (aw (i := 1093) (by decide +kernel) rfl) rfl rfl rfl ho5 rfl ?_
  generalize hM51 : sP M49 a0 28 (some a47) = M51
  replace h := h M51 hM51.symm
  replace ho4 : ob M51 a1 9 := hM51 ▸ ob_sP ho4
  replace ho5 : ob M51 a0 7 := hM51 ▸ ob_sP ho5
  replace ho10 : ob M51 a7 9 := hM51 ▸ ob_sP ho10
  replace ho15 : ob M51 a12 9 := hM51 ▸ ob_sP ho15
  replace ho20 : ob M51 a17 9 := hM51 ▸ ob_sP ho20
  replace ho25 : ob M51 a22 8 := hM51 ▸ ob_sP ho25
  replace ho30 : ob M51 a27 10 := hM51 ▸ ob_sP ho30
  replace ho35 : ob M51 a32 11 := hM51 ▸ ob_sP ho35
  replace ho40 : ob M51 a37 11 := hM51 ▸ ob_sP ho40
  replace ho45 : ob M51 a42 9 := hM51 ▸ ob_sP ho45
  replace ho50 : ob M51 a47 9 := hM51 ▸ ob_sP ho50
  refine e_blk 2 83 _ _ (pc' := 86) (L' := [some (.ref a0)]) (st' := [.int (12 : Int32), .ref a0]) rfl ?_
  refine e_newI 12 rfl (aw (i := 190) (by decide +kernel) rfl) (by decide) rfl (by decide) (by decide) (by decide) (fun a52 hn53 => ?_)
  replace h := h a52 hn53
  generalize hM54 : nO M51 a52 9 12 = M54
  replace h := h M54 hM54.symm
  replace ho4 : ob M54 a1 9 := hM54 ▸ ob_nO hn53 ho4
  replace ho5 : ob M54 a0 7 := hM54 ▸ ob_nO hn53 ho5
  replace ho10 : ob M54 a7 9 := hM54 ▸ ob_nO hn53 ho10
  replace ho15 : ob M54 a12 9 := hM54 ▸ ob_nO hn53 ho15
  replace ho20 : ob M54 a17 9 := hM54 ▸ ob_nO hn53 ho20
  replace ho25 : ob M54 a22 8 := hM54 ▸ ob_nO hn53 ho25
  replace ho30 : ob M54 a27 10 := hM54 ▸ ob_nO hn53 ho30
  replace ho35 : ob M54 a32 11 := hM54 ▸ ob_nO hn53 ho35
  replace ho40 : ob M54 a37 11 := hM54 ▸ ob_nO hn53 ho40
  replace ho45 : ob M54 a42 9 := hM54 ▸ ob_nO hn53 ho45
  replace ho50 : ob M54 a47 9 := hM54 ▸ ob_nO hn53 ho50
  have ho55 : ob M54 a52 9 := hM54 ▸ ob_new
  refine e_putFA 7 29 (v := some a52) rfl rfl (by decide) (aw (i := 1094) (by decide +kernel) rfl) rfl rfl rfl ho5 rfl ?_
  generalize hM56 : sP M54 a0 29 (some a52) = M56
  replace h := h M56 hM56.symm
  replace ho4 : ob M56 a1 9 := hM56 ▸ ob_sP ho4
  replace ho5 : ob M56 a0 7 := hM56 ▸ ob_sP ho5
  replace ho10 : ob M56 a7 9 := hM56 ▸ ob_sP ho10
  replace ho15 : ob M56 a12 9 := hM56 ▸ ob_sP ho15
  replace ho20 : ob M56 a17 9 := hM56 ▸ ob_sP ho20
  replace ho25 : ob M56 a22 8 := hM56 ▸ ob_sP ho25
  replace ho30 : ob M56 a27 10 := hM56 ▸ ob_sP ho30
  replace ho35 : ob M56 a32 11 := hM56 ▸ ob_sP ho35
  replace ho40 : ob M56 a37 11 := hM56 ▸ ob_sP ho40
  replace ho45 : ob M56 a42 9 := hM56 ▸ ob_sP ho45
  replace ho50 : ob M56 a47 9 := hM56 ▸ ob_sP ho50
  replace ho55 : ob M56 a52 9 := hM56 ▸ ob_sP ho55
  refine e_blk 2 91 _ _ (pc' := 94) (L' := [some (.ref a0)]) (st' := [.int (12 : Int32), .ref a0]) rfl ?_
  refine e_newI 12 rfl (aw (i := 190) (by decide +kernel) rfl) (by decide) rfl (by decide) (by decide) (by decide) (fun a57 hn58 => ?_)
  replace h := h a57 hn58
  generalize hM59 : nO M56 a57 9 12 = M59
  replace h := h M59 hM59.symm
  replace ho4 : ob M59 a1 9 := hM59 ▸ ob_nO hn58 ho4
  replace ho5 : ob M59 a0 7 := hM59 ▸ ob_nO hn58 ho5
  replace ho10 : ob M59 a7 9 := hM59 ▸ ob_nO hn58 ho10
  replace ho15 : ob M59 a12 9 := hM59 ▸ ob_nO hn58 ho15
  replace ho20 : ob M59 a17 9 := hM59 ▸ ob_nO hn58 ho20
  replace ho25 : ob M59 a22 8 := hM59 ▸ ob_nO hn58 ho25
  replace ho30 : ob M59 a27 10 := hM59 ▸ ob_nO hn58 ho30
  replace ho35 : ob M59 a32 11 := hM59 ▸ ob_nO hn58 ho35
  replace ho40 : ob M59 a37 11 := hM59 ▸ ob_nO hn58 ho40
  replace ho45 : ob M59 a42 9 := hM59 ▸ ob_nO hn58 ho45
  replace ho50 : ob M59 a47 9 := hM59 ▸ ob_nO hn58 ho50
  replace ho55 : ob M59 a52 9 := hM59 ▸ ob_nO hn58 ho55
  have ho60 : ob M59 a57 9 := hM59 ▸ ob_new
  refine e_putFA 7 30 (v := some a57) rfl rfl (by decide) (aw (i := 1095) (by decide +kernel) rfl) rfl rfl rfl ho5 rfl ?_
  generalize hM61 : sP M59 a0 30 (some a57) = M61
  replace h := h M61 hM61.symm
  replace ho4 : ob M61 a1 9 := hM61 ▸ ob_sP ho4
  replace ho5 : ob M61 a0 7 := hM61 ▸ ob_sP ho5
  replace ho10 : ob M61 a7 9 := hM61 ▸ ob_sP ho10
  replace ho15 : ob M61 a12 9 := hM61 ▸ ob_sP ho15
  replace ho20 : ob M61 a17 9 := hM61 ▸ ob_sP ho20
  replace ho25 : ob M61 a22 8 := hM61 ▸ ob_sP ho25
  replace ho30 : ob M61 a27 10 := hM61 ▸ ob_sP ho30
  replace ho35 : ob M61 a32 11 := hM61 ▸ ob_sP ho35
  replace ho40 : ob M61 a37 11 := hM61 ▸ ob_sP ho40
  replace ho45 : ob M61 a42 9 := hM61 ▸ ob_sP ho45
  replace ho50 : ob M61 a47 9 := hM61 ▸ ob_sP ho50
  replace ho55 : ob M61 a52 9 := hM61 ▸ ob_sP ho55
  replace ho60 : ob M61 a57 9 := hM61 ▸ ob_sP ho60
  refine e_blk 2 99 _ _ (pc' := 102) (L' := [some (.ref a0)]) (st' := [.int (12 : Int32), .ref a0]) rfl ?_
  refine e_newI 12 rfl (aw (i := 190) (by decide +kernel) rfl) (by decide) rfl (by decide) (by decide) (by decide) (fun a62 hn63 => ?_)
  replace h := h a62 hn63
  generalize hM64 : nO M61 a62 9 12 = M64
  replace h := h M64 hM64.symm
  replace ho4 : ob M64 a1 9 := hM64 ▸ ob_nO hn63 ho4
  replace ho5 : ob M64 a0 7 := hM64 ▸ ob_nO hn63 ho5
  replace ho10 : ob M64 a7 9 := hM64 ▸ ob_nO hn63 ho10
  replace ho15 : ob M64 a12 9 := hM64 ▸ ob_nO hn63 ho15
  replace ho20 : ob M64 a17 9 := hM64 ▸ ob_nO hn63 ho20
  replace ho25 : ob M64 a22 8 := hM64 ▸ ob_nO hn63 ho25
  replace ho30 : ob M64 a27 10 := hM64 ▸ ob_nO hn63 ho30
  replace ho35 : ob M64 a32 11 := hM64 ▸ ob_nO hn63 ho35
  replace ho40 : ob M64 a37 11 := hM64 ▸ ob_nO hn63 ho40
  replace ho45 : ob M64 a42 9 := hM64 ▸ ob_nO hn63 ho45
  replace ho50 : ob M64 a47 9 := hM64 ▸ ob_nO hn63 ho50
  replace ho55 : ob M64 a52 9 := hM64 ▸ ob_nO hn63 ho55
  replace ho60 : ob M64 a57 9 := hM64 ▸ ob_nO hn63 ho60
  have ho65 : ob M64 a62 9 := hM64 ▸ ob_new
  refine e_putFA 7 31 (v := some a62) rfl rfl (by decide) (aw (i := 1096) (by decide +kernel) rfl) rfl rfl rfl ho5 rfl ?_
  generalize hM66 : sP M64 a0 31 (some a62) = M66
  replace h := h M66 hM66.symm
  replace ho4 : ob M66 a1 9 := hM66 ▸ ob_sP ho4
  replace ho5 : ob M66 a0 7 := hM66 ▸ ob_sP ho5
  replace ho10 : ob M66 a7 9 := hM66 ▸ ob_sP ho10
  replace ho15 : ob M66 a12 9 := hM66 ▸ ob_sP ho15
  replace ho20 : ob M66 a17 9 := hM66 ▸ ob_sP ho20
  replace ho25 : ob M66 a22 8 := hM66 ▸ ob_sP ho25
  replace ho30 : ob M66 a27 10 := hM66 ▸ ob_sP ho30
  replace ho35 : ob M66 a32 11 := hM66 ▸ ob_sP ho35
  replace ho40 : ob M66 a37 11 := hM66 ▸ ob_sP ho40
  replace ho45 : ob M66 a42 9 := hM66 ▸ ob_sP ho45
  replace ho50 : ob M66 a47 9 := hM66 ▸ ob_sP ho50
  replace ho55 : ob M66 a52 9 := hM66 ▸ ob_sP ho55
  replace ho60 : ob M66 a57 9 := hM66 ▸ ob_sP ho60
  replace ho65 : ob M66 a62 9 := hM66 ▸ ob_sP ho65
  refine e_blk 2 107 _ _ (pc' := 110) (L' := [some (.ref a0)]) (st' := [.int (60 : Int32), .ref a0]) rfl ?_
  refine e_newJ 60 rfl (aw (i := 191) (by decide +kernel) rfl) (by decide) rfl (by decide) (by decide) (by decide) (fun a67 hn68 => ?_)
  replace h := h a67 hn68
  generalize hM69 : nO M66 a67 10 60 = M69
  replace h := h M69 hM69.symm
  replace ho4 : ob M69 a1 9 := hM69 ▸ ob_nO hn68 ho4
  replace ho5 : ob M69 a0 7 := hM69 ▸ ob_nO hn68 ho5
  replace ho10 : ob M69 a7 9 := hM69 ▸ ob_nO hn68 ho10
  replace ho15 : ob M69 a12 9 := hM69 ▸ ob_nO hn68 ho15
  replace ho20 : ob M69 a17 9 := hM69 ▸ ob_nO hn68 ho20
  replace ho25 : ob M69 a22 8 := hM69 ▸ ob_nO hn68 ho25
  replace ho30 : ob M69 a27 10 := hM69 ▸ ob_nO hn68 ho30
  replace ho35 : ob M69 a32 11 := hM69 ▸ ob_nO hn68 ho35
  replace ho40 : ob M69 a37 11 := hM69 ▸ ob_nO hn68 ho40
  replace ho45 : ob M69 a42 9 := hM69 ▸ ob_nO hn68 ho45
  replace ho50 : ob M69 a47 9 := hM69 ▸ ob_nO hn68 ho50
  replace ho55 : ob M69 a52 9 := hM69 ▸ ob_nO hn68 ho55
  replace ho60 : ob M69 a57 9 := hM69 ▸ ob_nO hn68 ho60
  replace ho65 : ob M69 a62 9 := hM69 ▸ ob_nO hn68 ho65
  have ho70 : ob M69 a67 10 := hM69 ▸ ob_new
  refine e_putFA 7 32 (v := some a67) rfl rfl (by decide) (aw (i := 1097) (by decide +kernel) rfl) rfl rfl rfl ho5 rfl ?_
  generalize hM71 : sP M69 a0 32 (some a67) = M71
  replace h := h M71 hM71.symm
  replace ho4 : ob M71 a1 9 := hM71 ▸ ob_sP ho4
  replace ho5 : ob M71 a0 7 := hM71 ▸ ob_sP ho5
  replace ho10 : ob M71 a7 9 := hM71 ▸ ob_sP ho10
  replace ho15 : ob M71 a12 9 := hM71 ▸ ob_sP ho15
  replace ho20 : ob M71 a17 9 := hM71 ▸ ob_sP ho20
  replace ho25 : ob M71 a22 8 := hM71 ▸ ob_sP ho25
  replace ho30 : ob M71 a27 10 := hM71 ▸ ob_sP ho30
  replace ho35 : ob M71 a32 11 := hM71 ▸ ob_sP ho35
  replace ho40 : ob M71 a37 11 := hM71 ▸ ob_sP ho40
  replace ho45 : ob M71 a42 9 := hM71 ▸ ob_sP ho45
  replace ho50 : ob M71 a47 9 := hM71 ▸ ob_sP ho50
  replace ho55 : ob M71 a52 9 := hM71 ▸ ob_sP ho55
  replace ho60 : ob M71 a57 9 := hM71 ▸ ob_sP ho60
  replace ho65 : ob M71 a62 9 := hM71 ▸ ob_sP ho65
  replace ho70 : ob M71 a67 10 := hM71 ▸ ob_sP ho70
  refine e_blk 2 115 _ _ (pc' := 119) (L' := [some (.ref a0)]) (st' := [.int (3600 : Int32), .ref a0]) rfl ?_
  refine e_newZ 3600 rfl (aw (i := 1246) (by decide +kernel) rfl) (by decide) rfl (by decide) (by decide) (by decide) (fun a72 hn73 => ?_)
  replace h := h a72 hn73
  generalize hM74 : nO M71 a72 11 3600 = M74
  replace h := h M74 hM74.symm
  replace ho4 : ob M74 a1 9 := hM74 ▸ ob_nO hn73 ho4
  replace ho5 : ob M74 a0 7 := hM74 ▸ ob_nO hn73 ho5
  replace ho10 : ob M74 a7 9 := hM74 ▸ ob_nO hn73 ho10
  replace ho15 : ob M74 a12 9 := hM74 ▸ ob_nO hn73 ho15
  replace ho20 : ob M74 a17 9 := hM74 ▸ ob_nO hn73 ho20
  replace ho25 : ob M74 a22 8 := hM74 ▸ ob_nO hn73 ho25
  replace ho30 : ob M74 a27 10 := hM74 ▸ ob_nO hn73 ho30
  replace ho35 : ob M74 a32 11 := hM74 ▸ ob_nO hn73 ho35
  replace ho40 : ob M74 a37 11 := hM74 ▸ ob_nO hn73 ho40
  replace ho45 : ob M74 a42 9 := hM74 ▸ ob_nO hn73 ho45
  replace ho50 : ob M74 a47 9 := hM74 ▸ ob_nO hn73 ho50
  replace ho55 : ob M74 a52 9 := hM74 ▸ ob_nO hn73 ho55
  replace ho60 : ob M74 a57 9 := hM74 ▸ ob_nO hn73 ho60
  replace ho65 : ob M74 a62 9 := hM74 ▸ ob_nO hn73 ho65
  replace ho70 : ob M74 a67 10 := hM74 ▸ ob_nO hn73 ho70
  have ho75 : ob M74 a72 11 := hM74 ▸ ob_new
  refine e_putFA 7 33 (v := some a72) rfl rfl (by decide) (aw (i := 1098) (by decide +kernel) rfl) rfl rfl rfl ho5 rfl ?_
  generalize hM76 : sP M74 a0 33 (some a72) = M76
  replace h := h M76 hM76.symm
  replace ho4 : ob M76 a1 9 := hM76 ▸ ob_sP ho4
  replace ho5 : ob M76 a0 7 := hM76 ▸ ob_sP ho5
  replace ho10 : ob M76 a7 9 := hM76 ▸ ob_sP ho10
  replace ho15 : ob M76 a12 9 := hM76 ▸ ob_sP ho15
  replace ho20 : ob M76 a17 9 := hM76 ▸ ob_sP ho20
  replace ho25 : ob M76 a22 8 := hM76 ▸ ob_sP ho25
  replace ho30 : ob M76 a27 10 := hM76 ▸ ob_sP ho30
  replace ho35 : ob M76 a32 11 := hM76 ▸ ob_sP ho35
  replace ho40 : ob M76 a37 11 := hM76 ▸ ob_sP ho40
  replace ho45 : ob M76 a42 9 := hM76 ▸ ob_sP ho45
  replace ho50 : ob M76 a47 9 := hM76 ▸ ob_sP ho50
  replace ho55 : ob M76 a52 9 := hM76 ▸ ob_sP ho55
  replace ho60 : ob M76 a57 9 := hM76 ▸ ob_sP ho60
  replace ho65 : ob M76 a62 9 := hM76 ▸ ob_sP ho65
  replace ho70 : ob M76 a67 10 := hM76 ▸ ob_sP ho70
  replace ho75 : ob M76 a72 11 := hM76 ▸ ob_sP ho75
  refine e_blk 2 124 _ _ (pc' := 127) (L' := [some (.ref a0)]) (st' := [.int (12 : Int32), .ref a0]) rfl ?_
  refine e_newZ 12 rfl (aw (i := 1246) (by decide +kernel) rfl) (by decide) rfl (by decide) (by decide) (by decide) (fun a77 hn78 => ?_)
  replace h := h a77 hn78
  generalize hM79 : nO M76 a77 11 12 = M79
  replace h := h M79 hM79.symm
  replace ho4 : ob M79 a1 9 := hM79 ▸ ob_nO hn78 ho4
  replace ho5 : ob M79 a0 7 := hM79 ▸ ob_nO hn78 ho5
  replace ho10 : ob M79 a7 9 := hM79 ▸ ob_nO hn78 ho10
  replace ho15 : ob M79 a12 9 := hM79 ▸ ob_nO hn78 ho15
  replace ho20 : ob M79 a17 9 := hM79 ▸ ob_nO hn78 ho20
  replace ho25 : ob M79 a22 8 := hM79 ▸ ob_nO hn78 ho25
  replace ho30 : ob M79 a27 10 := hM79 ▸ ob_nO hn78 ho30
  replace ho35 : ob M79 a32 11 := hM79 ▸ ob_nO hn78 ho35
  replace ho40 : ob M79 a37 11 := hM79 ▸ ob_nO hn78 ho40
  replace ho45 : ob M79 a42 9 := hM79 ▸ ob_nO hn78 ho45
  replace ho50 : ob M79 a47 9 := hM79 ▸ ob_nO hn78 ho50
  replace ho55 : ob M79 a52 9 := hM79 ▸ ob_nO hn78 ho55
  replace ho60 : ob M79 a57 9 := hM79 ▸ ob_nO hn78 ho60
  replace ho65 : ob M79 a62 9 := hM79 ▸ ob_nO hn78 ho65
  replace ho70 : ob M79 a67 10 := hM79 ▸ ob_nO hn78 ho70
  replace ho75 : ob M79 a72 11 := hM79 ▸ ob_nO hn78 ho75
  have ho80 : ob M79 a77 11 := hM79 ▸ ob_new
  refine e_putFA 7 34 (v := some a77) rfl rfl (by decide) (aw (i := 1099) (by decide +kernel) rfl) rfl rfl rfl ho5 rfl ?_
  generalize hM81 : sP M79 a0 34 (some a77) = M81
  replace h := h M81 hM81.symm
  replace ho4 : ob M81 a1 9 := hM81 ▸ ob_sP ho4
  replace ho5 : ob M81 a0 7 := hM81 ▸ ob_sP ho5
  replace ho10 : ob M81 a7 9 := hM81 ▸ ob_sP ho10
  replace ho15 : ob M81 a12 9 := hM81 ▸ ob_sP ho15
  replace ho20 : ob M81 a17 9 := hM81 ▸ ob_sP ho20
  replace ho25 : ob M81 a22 8 := hM81 ▸ ob_sP ho25
  replace ho30 : ob M81 a27 10 := hM81 ▸ ob_sP ho30
  replace ho35 : ob M81 a32 11 := hM81 ▸ ob_sP ho35
  replace ho40 : ob M81 a37 11 := hM81 ▸ ob_sP ho40
  replace ho45 : ob M81 a42 9 := hM81 ▸ ob_sP ho45
  replace ho50 : ob M81 a47 9 := hM81 ▸ ob_sP ho50
  replace ho55 : ob M81 a52 9 := hM81 ▸ ob_sP ho55
  replace ho60 : ob M81 a57 9 := hM81 ▸ ob_sP ho60
  replace ho65 : ob M81 a62 9 := hM81 ▸ ob_sP ho65
  replace ho70 : ob M81 a67 10 := hM81 ▸ ob_sP ho70
  replace ho75 : ob M81 a72 11 := hM81 ▸ ob_sP ho75
  replace ho80 : ob M81 a77 11 := hM81 ▸ ob_sP ho80
  refine e_blk 2 132 _ _ (pc' := 135) (L' := [some (.ref a0)]) (st' := [.int (12 : Int32), .ref a0]) rfl ?_
  refine e_newJ 12 rfl (aw (i := 191) (by decide +kernel) rfl) (by decide) rfl (by decide) (by decide) (by decide) (fun a82 hn83 => ?_)
  replace h := h a82 hn83
  generalize hM84 : nO M81 a82 10 12 = M84
  replace h := h M84 hM84.symm
  replace ho4 : ob M84 a1 9 := hM84 ▸ ob_nO hn83 ho4
  replace ho5 : ob M84 a0 7 := hM84 ▸ ob_nO hn83 ho5
  replace ho10 : ob M84 a7 9 := hM84 ▸ ob_nO hn83 ho10
  replace ho15 : ob M84 a12 9 := hM84 ▸ ob_nO hn83 ho15
  replace ho20 : ob M84 a17 9 := hM84 ▸ ob_nO hn83 ho20
  replace ho25 : ob M84 a22 8 := hM84 ▸ ob_nO hn83 ho25
  replace ho30 : ob M84 a27 10 := hM84 ▸ ob_nO hn83 ho30
  replace ho35 : ob M84 a32 11 := hM84 ▸ ob_nO hn83 ho35
  replace ho40 : ob M84 a37 11 := hM84 ▸ ob_nO hn83 ho40
  replace ho45 : ob M84 a42 9 := hM84 ▸ ob_nO hn83 ho45
  replace ho50 : ob M84 a47 9 := hM84 ▸ ob_nO hn83 ho50
  replace ho55 : ob M84 a52 9 := hM84 ▸ ob_nO hn83 ho55
  replace ho60 : ob M84 a57 9 := hM84 ▸ ob_nO hn83 ho60
  replace ho65 : ob M84 a62 9 := hM84 ▸ ob_nO hn83 ho65
  replace ho70 : ob M84 a67 10 := hM84 ▸ ob_nO hn83 ho70
  replace ho75 : ob M84 a72 11 := hM84 ▸ ob_nO hn83 ho75
  replace ho80 : ob M84 a77 11 := hM84 ▸ ob_nO hn83 ho80
  have ho85 : ob M84 a82 10 := hM84 ▸ ob_new
  refine e_putFA 7 35 (v := some a82) rfl rfl (by decide) (aw (i := 1100) (by decide +kernel) rfl) rfl rfl rfl ho5 rfl ?_
  generalize hM86 : sP M84 a0 35 (some a82) = M86
  replace h := h M86 hM86.symm
  replace ho4 : ob M86 a1 9 := hM86 ▸ ob_sP ho4
  replace ho5 : ob M86 a0 7 := hM86 ▸ ob_sP ho5
  replace ho10 : ob M86 a7 9 := hM86 ▸ ob_sP ho10
  replace ho15 : ob M86 a12 9 := hM86 ▸ ob_sP ho15
  replace ho20 : ob M86 a17 9 := hM86 ▸ ob_sP ho20
  replace ho25 : ob M86 a22 8 := hM86 ▸ ob_sP ho25
  replace ho30 : ob M86 a27 10 := hM86 ▸ ob_sP ho30
  replace ho35 : ob M86 a32 11 := hM86 ▸ ob_sP ho35
  replace ho40 : ob M86 a37 11 := hM86 ▸ ob_sP ho40
  replace ho45 : ob M86 a42 9 := hM86 ▸ ob_sP ho45
  replace ho50 : ob M86 a47 9 := hM86 ▸ ob_sP ho50
  replace ho55 : ob M86 a52 9 := hM86 ▸ ob_sP ho55
  replace ho60 : ob M86 a57 9 := hM86 ▸ ob_sP ho60
  replace ho65 : ob M86 a62 9 := hM86 ▸ ob_sP ho65
  replace ho70 : ob M86 a67 10 := hM86 ▸ ob_sP ho70
  replace ho75 : ob M86 a72 11 := hM86 ▸ ob_sP ho75
  replace ho80 : ob M86 a77 11 := hM86 ▸ ob_sP ho80
  replace ho85 : ob M86 a82 10 := hM86 ▸ ob_sP ho85
  refine e_blk 2 140 _ _ (pc' := 143) (L' := [some (.ref a0)]) (st' := [.int (12 : Int32), .ref a0]) rfl ?_
  refine e_newZ 12 rfl (aw (i := 1246) (by decide +kernel) rfl) (by decide) rfl (by decide) (by decide) (by decide) (fun a87 hn88 => ?_)
  replace h := h a87 hn88
  generalize hM89 : nO M86 a87 11 12 = M89
  replace h := h M89 hM89.symm
  replace ho4 : ob M89 a1 9 := hM89 ▸ ob_nO hn88 ho4
  replace ho5 : ob M89 a0 7 := hM89 ▸ ob_nO hn88 ho5
  replace ho10 : ob M89 a7 9 := hM89 ▸ ob_nO hn88 ho10
  replace ho15 : ob M89 a12 9 := hM89 ▸ ob_nO hn88 ho15
  replace ho20 : ob M89 a17 9 := hM89 ▸ ob_nO hn88 ho20
  replace ho25 : ob M89 a22 8 := hM89 ▸ ob_nO hn88 ho25
  replace ho30 : ob M89 a27 10 := hM89 ▸ ob_nO hn88 ho30
  replace ho35 : ob M89 a32 11 := hM89 ▸ ob_nO hn88 ho35
  replace ho40 : ob M89 a37 11 := hM89 ▸ ob_nO hn88 ho40
  replace ho45 : ob M89 a42 9 := hM89 ▸ ob_nO hn88 ho45
  replace ho50 : ob M89 a47 9 := hM89 ▸ ob_nO hn88 ho50
  replace ho55 : ob M89 a52 9 := hM89 ▸ ob_nO hn88 ho55
  replace ho60 : ob M89 a57 9 := hM89 ▸ ob_nO hn88 ho60
  replace ho65 : ob M89 a62 9 := hM89 ▸ ob_nO hn88 ho65
  replace ho70 : ob M89 a67 10 := hM89 ▸ ob_nO hn88 ho70
  replace ho75 : ob M89 a72 11 := hM89 ▸ ob_nO hn88 ho75
  replace ho80 : ob M89 a77 11 := hM89 ▸ ob_nO hn88 ho80
  replace ho85 : ob M89 a82 10 := hM89 ▸ ob_nO hn88 ho85
  have ho90 : ob M89 a87 11 := hM89 ▸ ob_new
  refine e_putFA 7 36 (v := some a87) rfl rfl (by decide) (aw (i := 1101) (by decide +kernel) rfl) rfl rfl rfl ho5 rfl ?_
  generalize hM91 : sP M89 a0 36 (some a87) = M91
  replace h := h M91 hM91.symm
  replace ho4 : ob M91 a1 9 := hM91 ▸ ob_sP ho4
  replace ho5 : ob M91 a0 7 := hM91 ▸ ob_sP ho5
  replace ho10 : ob M91 a7 9 := hM91 ▸ ob_sP ho10
  replace ho15 : ob M91 a12 9 := hM91 ▸ ob_sP ho15
  replace ho20 : ob M91 a17 9 := hM91 ▸ ob_sP ho20
  replace ho25 : ob M91 a22 8 := hM91 ▸ ob_sP ho25
  replace ho30 : ob M91 a27 10 := hM91 ▸ ob_sP ho30
  replace ho35 : ob M91 a32 11 := hM91 ▸ ob_sP ho35
  replace ho40 : ob M91 a37 11 := hM91 ▸ ob_sP ho40
  replace ho45 : ob M91 a42 9 := hM91 ▸ ob_sP ho45
  replace ho50 : ob M91 a47 9 := hM91 ▸ ob_sP ho50
  replace ho55 : ob M91 a52 9 := hM91 ▸ ob_sP ho55
  replace ho60 : ob M91 a57 9 := hM91 ▸ ob_sP ho60
  replace ho65 : ob M91 a62 9 := hM91 ▸ ob_sP ho65
  replace ho70 : ob M91 a67 10 := hM91 ▸ ob_sP ho70
  replace ho75 : ob M91 a72 11 := hM91 ▸ ob_sP ho75
  replace ho80 : ob M91 a77 11 := hM91 ▸ ob_sP ho80
  replace ho85 : ob M91 a82 10 := hM91 ▸ ob_sP ho85
  replace ho90 : ob M91 a87 11 := hM91 ▸ ob_sP ho90
  refine e_blk 2 148 _ _ (pc' := 151) (L' := [some (.ref a0)]) (st' := [.int (12 : Int32), .ref a0]) rfl ?_
  refine e_newJ 12 rfl (aw (i := 191) (by decide +kernel) rfl) (by decide) rfl (by decide) (by decide) (by decide) (fun a92 hn93 => ?_)
  replace h := h a92 hn93
  generalize hM94 : nO M91 a92 10 12 = M94
  replace h := h M94 hM94.symm
  replace ho4 : ob M94 a1 9 := hM94 ▸ ob_nO hn93 ho4
  replace ho5 : ob M94 a0 7 := hM94 ▸ ob_nO hn93 ho5
  replace ho10 : ob M94 a7 9 := hM94 ▸ ob_nO hn93 ho10
  replace ho15 : ob M94 a12 9 := hM94 ▸ ob_nO hn93 ho15
  replace ho20 : ob M94 a17 9 := hM94 ▸ ob_nO hn93 ho20
  replace ho25 : ob M94 a22 8 := hM94 ▸ ob_nO hn93 ho25
  replace ho30 : ob M94 a27 10 := hM94 ▸ ob_nO hn93 ho30
  replace ho35 : ob M94 a32 11 := hM94 ▸ ob_nO hn93 ho35
  replace ho40 : ob M94 a37 11 := hM94 ▸ ob_nO hn93 ho40
  replace ho45 : ob M94 a42 9 := hM94 ▸ ob_nO hn93 ho45
  replace ho50 : ob M94 a47 9 := hM94 ▸ ob_nO hn93 ho50
  replace ho55 : ob M94 a52 9 := hM94 ▸ ob_nO hn93 ho55
  replace ho60 : ob M94 a57 9 := hM94 ▸ ob_nO hn93 ho60
  replace ho65 : ob M94 a62 9 := hM94 ▸ ob_nO hn93 ho65
  replace ho70 : ob M94 a67 10 := hM94 ▸ ob_nO hn93 ho70
  replace ho75 : ob M94 a72 11 := hM94 ▸ ob_nO hn93 ho75
  replace ho80 : ob M94 a77 11 := hM94 ▸ ob_nO hn93 ho80
  replace ho85 : ob M94 a82 10 := hM94 ▸ ob_nO hn93 ho85
  replace ho90 : ob M94 a87 11 := hM94 ▸ ob_nO hn93 ho90
  have ho95 : ob M94 a92 10 := hM94 ▸ ob_new
  refine e_putFA 7 37 (v := some a92) rfl rfl (by decide) (aw (i := 1102) (by decide +kernel) rfl) rfl rfl rfl ho5 rfl ?_
  generalize hM96 : sP M94 a0 37 (some a92) = M96
  replace h := h M96 hM96.symm
  replace ho4 : ob M96 a1 9 := hM96 ▸ ob_sP ho4
  replace ho5 : ob M96 a0 7 := hM96 ▸ ob_sP ho5
  replace ho10 : ob M96 a7 9 := hM96 ▸ ob_sP ho10
  replace ho15 : ob M96 a12 9 := hM96 ▸ ob_sP ho15
  replace ho20 : ob M96 a17 9 := hM96 ▸ ob_sP ho20
  replace ho25 : ob M96 a22 8 := hM96 ▸ ob_sP ho25
  replace ho30 : ob M96 a27 10 := hM96 ▸ ob_sP ho30
  replace ho35 : ob M96 a32 11 := hM96 ▸ ob_sP ho35
  replace ho40 : ob M96 a37 11 := hM96 ▸ ob_sP ho40
  replace ho45 : ob M96 a42 9 := hM96 ▸ ob_sP ho45
  replace ho50 : ob M96 a47 9 := hM96 ▸ ob_sP ho50
  replace ho55 : ob M96 a52 9 := hM96 ▸ ob_sP ho55
  replace ho60 : ob M96 a57 9 := hM96 ▸ ob_sP ho60
  replace ho65 : ob M96 a62 9 := hM96 ▸ ob_sP ho65
  replace ho70 : ob M96 a67 10 := hM96 ▸ ob_sP ho70
  replace ho75 : ob M96 a72 11 := hM96 ▸ ob_sP ho75
  replace ho80 : ob M96 a77 11 := hM96 ▸ ob_sP ho80
  replace ho85 : ob M96 a82 10 := hM96 ▸ ob_sP ho85
  replace ho90 : ob M96 a87 11 := hM96 ▸ ob_sP ho90
  replace ho95 : ob M96 a92 10 := hM96 ▸ ob_sP ho95
  refine e_blk 2 156 _ _ (pc' := 159) (L' := [some (.ref a0)]) (st' := [.int (12 : Int32), .ref a0]) rfl ?_
  refine e_newJ 12 rfl (aw (i := 191) (by decide +kernel) rfl) (by decide) rfl (by decide) (by decide) (by decide) (fun a97 hn98 => ?_)
  replace h := h a97 hn98
  generalize hM99 : nO M96 a97 10 12 = M99
  replace h := h M99 hM99.symm
  replace ho4 : ob M99 a1 9 := hM99 ▸ ob_nO hn98 ho4
  replace ho5 : ob M99 a0 7 := hM99 ▸ ob_nO hn98 ho5
  replace ho10 : ob M99 a7 9 := hM99 ▸ ob_nO hn98 ho10
  replace ho15 : ob M99 a12 9 := hM99 ▸ ob_nO hn98 ho15
  replace ho20 : ob M99 a17 9 := hM99 ▸ ob_nO hn98 ho20
  replace ho25 : ob M99 a22 8 := hM99 ▸ ob_nO hn98 ho25
  replace ho30 : ob M99 a27 10 := hM99 ▸ ob_nO hn98 ho30
  replace ho35 : ob M99 a32 11 := hM99 ▸ ob_nO hn98 ho35
  replace ho40 : ob M99 a37 11 := hM99 ▸ ob_nO hn98 ho40
  replace ho45 : ob M99 a42 9 := hM99 ▸ ob_nO hn98 ho45
  replace ho50 : ob M99 a47 9 := hM99 ▸ ob_nO hn98 ho50
  replace ho55 : ob M99 a52 9 := hM99 ▸ ob_nO hn98 ho55
  replace ho60 : ob M99 a57 9 := hM99 ▸ ob_nO hn98 ho60
  replace ho65 : ob M99 a62 9 := hM99 ▸ ob_nO hn98 ho65
  replace ho70 : ob M99 a67 10 := hM99 ▸ ob_nO hn98 ho70
  replace ho75 : ob M99 a72 11 := hM99 ▸ ob_nO hn98 ho75
  replace ho80 : ob M99 a77 11 := hM99 ▸ ob_nO hn98 ho80
  replace ho85 : ob M99 a82 10 := hM99 ▸ ob_nO hn98 ho85
  replace ho90 : ob M99 a87 11 := hM99 ▸ ob_nO hn98 ho90
  replace ho95 : ob M99 a92 10 := hM99 ▸ ob_nO hn98 ho95
  have ho100 : ob M99 a97 10 := hM99 ▸ ob_new
  refine e_putFA 7 38 (v := some a97) rfl rfl (by decide) (aw (i := 1103) (by decide +kernel) rfl) rfl rfl rfl ho5 rfl ?_
  generalize hM101 : sP M99 a0 38 (some a97) = M101
  replace h := h M101 hM101.symm
  replace ho4 : ob M101 a1 9 := hM101 ▸ ob_sP ho4
  replace ho5 : ob M101 a0 7 := hM101 ▸ ob_sP ho5
  replace ho10 : ob M101 a7 9 := hM101 ▸ ob_sP ho10
  replace ho15 : ob M101 a12 9 := hM101 ▸ ob_sP ho15
  replace ho20 : ob M101 a17 9 := hM101 ▸ ob_sP ho20
  replace ho25 : ob M101 a22 8 := hM101 ▸ ob_sP ho25
  replace ho30 : ob M101 a27 10 := hM101 ▸ ob_sP ho30
  replace ho35 : ob M101 a32 11 := hM101 ▸ ob_sP ho35
  replace ho40 : ob M101 a37 11 := hM101 ▸ ob_sP ho40
  replace ho45 : ob M101 a42 9 := hM101 ▸ ob_sP ho45
  replace ho50 : ob M101 a47 9 := hM101 ▸ ob_sP ho50
  replace ho55 : ob M101 a52 9 := hM101 ▸ ob_sP ho55
  replace ho60 : ob M101 a57 9 := hM101 ▸ ob_sP ho60
  replace ho65 : ob M101 a62 9 := hM101 ▸ ob_sP ho65
  replace ho70 : ob M101 a67 10 := hM101 ▸ ob_sP ho70
  replace ho75 : ob M101 a72 11 := hM101 ▸ ob_sP ho75
  replace ho80 : ob M101 a77 11 := hM101 ▸ ob_sP ho80
  replace ho85 : ob M101 a82 10 := hM101 ▸ ob_sP ho85
  replace ho90 : ob M101 a87 11 := hM101 ▸ ob_sP ho90
  replace ho95 : ob M101 a92 10 := hM101 ▸ ob_sP ho95
  replace ho100 : ob M101 a97 10 := hM101 ▸ ob_sP ho100
  refine e_blk 2 164 _ _ (pc' := 167) (L' := [some (.ref a0)]) (st' := [.int (12 : Int32), .ref a0]) rfl ?_
  refine e_newJ 12 rfl (aw (i := 191) (by decide +kernel) rfl) (by decide) rfl (by decide) (by decide) (by decide) (fun a102 hn103 => ?_)
  replace h := h a102 hn103
  generalize hM104 : nO M101 a102 10 12 = M104
  replace h := h M104 hM104.symm
  replace ho4 : ob M104 a1 9 := hM104 ▸ ob_nO hn103 ho4
  replace ho5 : ob M104 a0 7 := hM104 ▸ ob_nO hn103 ho5
  replace ho10 : ob M104 a7 9 := hM104 ▸ ob_nO hn103 ho10
  replace ho15 : ob M104 a12 9 := hM104 ▸ ob_nO hn103 ho15
  replace ho20 : ob M104 a17 9 := hM104 ▸ ob_nO hn103 ho20
  replace ho25 : ob M104 a22 8 := hM104 ▸ ob_nO hn103 ho25
  replace ho30 : ob M104 a27 10 := hM104 ▸ ob_nO hn103 ho30
  replace ho35 : ob M104 a32 11 := hM104 ▸ ob_nO hn103 ho35
  replace ho40 : ob M104 a37 11 := hM104 ▸ ob_nO hn103 ho40
  replace ho45 : ob M104 a42 9 := hM104 ▸ ob_nO hn103 ho45
  replace ho50 : ob M104 a47 9 := hM104 ▸ ob_nO hn103 ho50
  replace ho55 : ob M104 a52 9 := hM104 ▸ ob_nO hn103 ho55
  replace ho60 : ob M104 a57 9 := hM104 ▸ ob_nO hn103 ho60
  replace ho65 : ob M104 a62 9 := hM104 ▸ ob_nO hn103 ho65
  replace ho70 : ob M104 a67 10 := hM104 ▸ ob_nO hn103 ho70
  replace ho75 : ob M104 a72 11 := hM104 ▸ ob_nO hn103 ho75
  replace ho80 : ob M104 a77 11 := hM104 ▸ ob_nO hn103 ho80
  replace ho85 : ob M104 a82 10 := hM104 ▸ ob_nO hn103 ho85
  replace ho90 : ob M104 a87 11 := hM104 ▸ ob_nO hn103 ho90
  replace ho95 : ob M104 a92 10 := hM104 ▸ ob_nO hn103 ho95
  replace ho100 : ob M104 a97 10 := hM104 ▸ ob_nO hn103 ho100
  have ho105 : ob M104 a102 10 := hM104 ▸ ob_new
  refine e_putFA 7 39 (v := some a102) rfl rfl (by decide) (aw (i := 1104) (by decide +kernel) rfl) rfl rfl rfl ho5 rfl ?_
  generalize hM106 : sP M104 a0 39 (some a102) = M106
  replace h := h M106 hM106.symm
  replace ho4 : ob M106 a1 9 := hM106 ▸ ob_sP ho4
  replace ho5 : ob M106 a0 7 := hM106 ▸ ob_sP ho5
  replace ho10 : ob M106 a7 9 := hM106 ▸ ob_sP ho10
  replace ho15 : ob M106 a12 9 := hM106 ▸ ob_sP ho15
  replace ho20 : ob M106 a17 9 := hM106 ▸ ob_sP ho20
  replace ho25 : ob M106 a22 8 := hM106 ▸ ob_sP ho25
  replace ho30 : ob M106 a27 10 := hM106 ▸ ob_sP ho30
  replace ho35 : ob M106 a32 11 := hM106 ▸ ob_sP ho35
  replace ho40 : ob M106 a37 11 := hM106 ▸ ob_sP ho40
  replace ho45 : ob M106 a42 9 := hM106 ▸ ob_sP ho45
  replace ho50 : ob M106 a47 9 := hM106 ▸ ob_sP ho50
  replace ho55 : ob M106 a52 9 := hM106 ▸ ob_sP ho55
  replace ho60 : ob M106 a57 9 := hM106 ▸ ob_sP ho60
  replace ho65 : ob M106 a62 9 := hM106 ▸ ob_sP ho65
  replace ho70 : ob M106 a67 10 := hM106 ▸ ob_sP ho70
  replace ho75 : ob M106 a72 11 := hM106 ▸ ob_sP ho75
  replace ho80 : ob M106 a77 11 := hM106 ▸ ob_sP ho80
  replace ho85 : ob M106 a82 10 := hM106 ▸ ob_sP ho85
  replace ho90 : ob M106 a87 11 := hM106 ▸ ob_sP ho90
  replace ho95 : ob M106 a92 10 := hM106 ▸ ob_sP ho95
  replace ho100 : ob M106 a97 10 := hM106 ▸ ob_sP ho100
  replace ho105 : ob M106 a102 10 := hM106 ▸ ob_sP ho105
  refine e_blk 2 172 _ _ (pc' := 175) (L' := [some (.ref a0)]) (st' := [.int (12 : Int32), .ref a0]) rfl ?_
  refine e_newZ 12 rfl (aw (i := 1246) (by decide +kernel) rfl) (by decide) rfl (by decide) (by decide) (by decide) (fun a107 hn108 => ?_)
  replace h := h a107 hn108
  generalize hM109 : nO M106 a107 11 12 = M109
  replace h := h M109 hM109.symm
  replace ho4 : ob M109 a1 9 := hM109 ▸ ob_nO hn108 ho4
  replace ho5 : ob M109 a0 7 := hM109 ▸ ob_nO hn108 ho5
  replace ho10 : ob M109 a7 9 := hM109 ▸ ob_nO hn108 ho10
  replace ho15 : ob M109 a12 9 := hM109 ▸ ob_nO hn108 ho15
  replace ho20 : ob M109 a17 9 := hM109 ▸ ob_nO hn108 ho20
  replace ho25 : ob M109 a22 8 := hM109 ▸ ob_nO hn108 ho25
  replace ho30 : ob M109 a27 10 := hM109 ▸ ob_nO hn108 ho30
  replace ho35 : ob M109 a32 11 := hM109 ▸ ob_nO hn108 ho35
  replace ho40 : ob M109 a37 11 := hM109 ▸ ob_nO hn108 ho40
  replace ho45 : ob M109 a42 9 := hM109 ▸ ob_nO hn108 ho45
  replace ho50 : ob M109 a47 9 := hM109 ▸ ob_nO hn108 ho50
  replace ho55 : ob M109 a52 9 := hM109 ▸ ob_nO hn108 ho55
  replace ho60 : ob M109 a57 9 := hM109 ▸ ob_nO hn108 ho60
  replace ho65 : ob M109 a62 9 := hM109 ▸ ob_nO hn108 ho65
  replace ho70 : ob M109 a67 10 := hM109 ▸ ob_nO hn108 ho70
  replace ho75 : ob M109 a72 11 := hM109 ▸ ob_nO hn108 ho75
  replace ho80 : ob M109 a77 11 := hM109 ▸ ob_nO hn108 ho80
  replace ho85 : ob M109 a82 10 := hM109 ▸ ob_nO hn108 ho85
  replace ho90 : ob M109 a87 11 := hM109 ▸ ob_nO hn108 ho90
  replace ho95 : ob M109 a92 10 := hM109 ▸ ob_nO hn108 ho95
  replace ho100 : ob M109 a97 10 := hM109 ▸ ob_nO hn108 ho100
  replace ho105 : ob M109 a102 10 := hM109 ▸ ob_nO hn108 ho105
  have ho110 : ob M109 a107 11 := hM109 ▸ ob_new
  refine e_putFA 7 40 (v := some a107) rfl rfl (by decide) (aw (i := 1105) (by decide +kernel) rfl) rfl rfl rfl ho5 rfl ?_
  generalize hM111 : sP M109 a0 40 (some a107) = M111
  replace h := h M111 hM111.symm
  replace ho4 : ob M111 a1 9 := hM111 ▸ ob_sP ho4
  replace ho5 : ob M111 a0 7 := hM111 ▸ ob_sP ho5
  replace ho10 : ob M111 a7 9 := hM111 ▸ ob_sP ho10
  replace ho15 : ob M111 a12 9 := hM111 ▸ ob_sP ho15
  replace ho20 : ob M111 a17 9 := hM111 ▸ ob_sP ho20
  replace ho25 : ob M111 a22 8 := hM111 ▸ ob_sP ho25
  replace ho30 : ob M111 a27 10 := hM111 ▸ ob_sP ho30
  replace ho35 : ob M111 a32 11 := hM111 ▸ ob_sP ho35
  replace ho40 : ob M111 a37 11 := hM111 ▸ ob_sP ho40
  replace ho45 : ob M111 a42 9 := hM111 ▸ ob_sP ho45
  replace ho50 : ob M111 a47 9 := hM111 ▸ ob_sP ho50
  replace ho55 : ob M111 a52 9 := hM111 ▸ ob_sP ho55
  replace ho60 : ob M111 a57 9 := hM111 ▸ ob_sP ho60
  replace ho65 : ob M111 a62 9 := hM111 ▸ ob_sP ho65
  replace ho70 : ob M111 a67 10 := hM111 ▸ ob_sP ho70
  replace ho75 : ob M111 a72 11 := hM111 ▸ ob_sP ho75
  replace ho80 : ob M111 a77 11 := hM111 ▸ ob_sP ho80
  replace ho85 : ob M111 a82 10 := hM111 ▸ ob_sP ho85
  replace ho90 : ob M111 a87 11 := hM111 ▸ ob_sP ho90
  replace ho95 : ob M111 a92 10 := hM111 ▸ ob_sP ho95
  replace ho100 : ob M111 a97 10 := hM111 ▸ ob_sP ho100
  replace ho105 : ob M111 a102 10 := hM111 ▸ ob_sP ho105
  replace ho110 : ob M111 a107 11 := hM111 ▸ ob_sP ho110
  refine e_blk 2 180 _ _ (pc' := 183) (L' := [some (.ref a0)]) (st' := [.int (12 : Int32), .ref a0]) rfl ?_
  refine e_newZ 12 rfl (aw (i := 1246) (by decide +kernel) rfl) (by decide) rfl (by decide) (by decide) (by decide) (fun a112 hn113 => ?_)
  replace h := h a112 hn113
  generalize hM114 : nO M111 a112 11 12 = M114
  replace h := h M114 hM114.symm
  replace ho4 : ob M114 a1 9 := hM114 ▸ ob_nO hn113 ho4
  replace ho5 : ob M114 a0 7 := hM114 ▸ ob_nO hn113 ho5
  replace ho10 : ob M114 a7 9 := hM114 ▸ ob_nO hn113 ho10
  replace ho15 : ob M114 a12 9 := hM114 ▸ ob_nO hn113 ho15
  replace ho20 : ob M114 a17 9 := hM114 ▸ ob_nO hn113 ho20
  replace ho25 : ob M114 a22 8 := hM114 ▸ ob_nO hn113 ho25
  replace ho30 : ob M114 a27 10 := hM114 ▸ ob_nO hn113 ho30
  replace ho35 : ob M114 a32 11 := hM114 ▸ ob_nO hn113 ho35
  replace ho40 : ob M114 a37 11 := hM114 ▸ ob_nO hn113 ho40
  replace ho45 : ob M114 a42 9 := hM114 ▸ ob_nO hn113 ho45
  replace ho50 : ob M114 a47 9 := hM114 ▸ ob_nO hn113 ho50
  replace ho55 : ob M114 a52 9 := hM114 ▸ ob_nO hn113 ho55
  replace ho60 : ob M114 a57 9 := hM114 ▸ ob_nO hn113 ho60
  replace ho65 : ob M114 a62 9 := hM114 ▸ ob_nO hn113 ho65
  replace ho70 : ob M114 a67 10 := hM114 ▸ ob_nO hn113 ho70
  replace ho75 : ob M114 a72 11 := hM114 ▸ ob_nO hn113 ho75
  replace ho80 : ob M114 a77 11 := hM114 ▸ ob_nO hn113 ho80
  replace ho85 : ob M114 a82 10 := hM114 ▸ ob_nO hn113 ho85
  replace ho90 : ob M114 a87 11 := hM114 ▸ ob_nO hn113 ho90
  replace ho95 : ob M114 a92 10 := hM114 ▸ ob_nO hn113 ho95
  replace ho100 : ob M114 a97 10 := hM114 ▸ ob_nO hn113 ho100
  replace ho105 : ob M114 a102 10 := hM114 ▸ ob_nO hn113 ho105
  replace ho110 : ob M114 a107 11 := hM114 ▸ ob_nO hn113 ho110
  have ho115 : ob M114 a112 11 := hM114 ▸ ob_new
  refine e_putFA 7 41 (v := some a112) rfl rfl (by decide) (aw (i := 1106) (by decide +kernel) rfl) rfl rfl rfl ho5 rfl ?_
  generalize hM116 : sP M114 a0 41 (some a112) = M116
  replace h := h M116 hM116.symm
  replace ho4 : ob M116 a1 9 := hM116 ▸ ob_sP ho4
  replace ho5 : ob M116 a0 7 := hM116 ▸ ob_sP ho5
  replace ho10 : ob M116 a7 9 := hM116 ▸ ob_sP ho10
  replace ho15 : ob M116 a12 9 := hM116 ▸ ob_sP ho15
  replace ho20 : ob M116 a17 9 := hM116 ▸ ob_sP ho20
  replace ho25 : ob M116 a22 8 := hM116 ▸ ob_sP ho25
  replace ho30 : ob M116 a27 10 := hM116 ▸ ob_sP ho30
  replace ho35 : ob M116 a32 11 := hM116 ▸ ob_sP ho35
  replace ho40 : ob M116 a37 11 := hM116 ▸ ob_sP ho40
  replace ho45 : ob M116 a42 9 := hM116 ▸ ob_sP ho45
  replace ho50 : ob M116 a47 9 := hM116 ▸ ob_sP ho50
  replace ho55 : ob M116 a52 9 := hM116 ▸ ob_sP ho55
  replace ho60 : ob M116 a57 9 := hM116 ▸ ob_sP ho60
  replace ho65 : ob M116 a62 9 := hM116 ▸ ob_sP ho65
  replace ho70 : ob M116 a67 10 := hM116 ▸ ob_sP ho70
  replace ho75 : ob M116 a72 11 := hM116 ▸ ob_sP ho75
  replace ho80 : ob M116 a77 11 := hM116 ▸ ob_sP ho80
  replace ho85 : ob M116 a82 10 := hM116 ▸ ob_sP ho85
  replace ho90 : ob M116 a87 11 := hM116 ▸ ob_sP ho90
  replace ho95 : ob M116 a92 10 := hM116 ▸ ob_sP ho95
  replace ho100 : ob M116 a97 10 := hM116 ▸ ob_sP ho100
  replace ho105 : ob M116 a102 10 := hM116 ▸ ob_sP ho105
  replace ho110 : ob M116 a107 11 := hM116 ▸ ob_sP ho110
  replace ho115 : ob M116 a112 11 := hM116 ▸ ob_sP ho115
  refine e_blk 2 188 _ _ (pc' := 191) (L' := [some (.ref a0)]) (st' := [.int (12 : Int32), .ref a0]) rfl ?_
  refine e_newI 12 rfl (aw (i := 190) (by decide +kernel) rfl) (by decide) rfl (by decide) (by decide) (by decide) (fun a117 hn118 => ?_)
  replace h := h a117 hn118
  generalize hM119 : nO M116 a117 9 12 = M119
  replace h := h M119 hM119.symm
  replace ho4 : ob M119 a1 9 := hM119 ▸ ob_nO hn118 ho4
  replace ho5 : ob M119 a0 7 := hM119 ▸ ob_nO hn118 ho5
  replace ho10 : ob M119 a7 9 := hM119 ▸ ob_nO hn118 ho10
  replace ho15 : ob M119 a12 9 := hM119 ▸ ob_nO hn118 ho15
  replace ho20 : ob M119 a17 9 := hM119 ▸ ob_nO hn118 ho20
  replace ho25 : ob M119 a22 8 := hM119 ▸ ob_nO hn118 ho25
  replace ho30 : ob M119 a27 10 := hM119 ▸ ob_nO hn118 ho30
  replace ho35 : ob M119 a32 11 := hM119 ▸ ob_nO hn118 ho35
  replace ho40 : ob M119 a37 11 := hM119 ▸ ob_nO hn118 ho40
  replace ho45 : ob M119 a42 9 := hM119 ▸ ob_nO hn118 ho45
  replace ho50 : ob M119 a47 9 := hM119 ▸ ob_nO hn118 ho50
  replace ho55 : ob M119 a52 9 := hM119 ▸ ob_nO hn118 ho55
  replace ho60 : ob M119 a57 9 := hM119 ▸ ob_nO hn118 ho60
  replace ho65 : ob M119 a62 9 := hM119 ▸ ob_nO hn118 ho65
  replace ho70 : ob M119 a67 10 := hM119 ▸ ob_nO hn118 ho70
  replace ho75 : ob M119 a72 11 := hM119 ▸ ob_nO hn118 ho75
  replace ho80 : ob M119 a77 11 := hM119 ▸ ob_nO hn118 ho80
  replace ho85 : ob M119 a82 10 := hM119 ▸ ob_nO hn118 ho85
  replace ho90 : ob M119 a87 11 := hM119 ▸ ob_nO hn118 ho90
  replace ho95 : ob M119 a92 10 := hM119 ▸ ob_nO hn118 ho95
  replace ho100 : ob M119 a97 10 := hM119 ▸ ob_nO hn118 ho100
  replace ho105 : ob M119 a102 10 := hM119 ▸ ob_nO hn118 ho105
  replace ho110 : ob M119 a107 11 := hM119 ▸ ob_nO hn118 ho110
  replace ho115 : ob M119 a112 11 := hM119 ▸ ob_nO hn118 ho115
  have ho120 : ob M119 a117 9 := hM119 ▸ ob_new
  refine e_putFA 7 42 (v := some a117) rfl rfl (by decide) (aw (i := 1107) (by decide +kernel) rfl) rfl rfl rfl ho5 rfl ?_
  generalize hM121 : sP M119 a0 42 (some a117) = M121
  replace h := h M121 hM121.symm
  replace ho4 : ob M121 a1 9 := hM121 ▸ ob_sP ho4
  replace ho5 : ob M121 a0 7 := hM121 ▸ ob_sP ho5
  replace ho10 : ob M121 a7 9 := hM121 ▸ ob_sP ho10
  replace ho15 : ob M121 a12 9 := hM121 ▸ ob_sP ho15
  replace ho20 : ob M121 a17 9 := hM121 ▸ ob_sP ho20
  replace ho25 : ob M121 a22 8 := hM121 ▸ ob_sP ho25
  replace ho30 : ob M121 a27 10 := hM121 ▸ ob_sP ho30
  replace ho35 : ob M121 a32 11 := hM121 ▸ ob_sP ho35
  replace ho40 : ob M121 a37 11 := hM121 ▸ ob_sP ho40
  replace ho45 : ob M121 a42 9 := hM121 ▸ ob_sP ho45
  replace ho50 : ob M121 a47 9 := hM121 ▸ ob_sP ho50
  replace ho55 : ob M121 a52 9 := hM121 ▸ ob_sP ho55
  replace ho60 : ob M121 a57 9 := hM121 ▸ ob_sP ho60
  replace ho65 : ob M121 a62 9 := hM121 ▸ ob_sP ho65
  replace ho70 : ob M121 a67 10 := hM121 ▸ ob_sP ho70
  replace ho75 : ob M121 a72 11 := hM121 ▸ ob_sP ho75
  replace ho80 : ob M121 a77 11 := hM121 ▸ ob_sP ho80
  replace ho85 : ob M121 a82 10 := hM121 ▸ ob_sP ho85
  replace ho90 : ob M121 a87 11 := hM121 ▸ ob_sP ho90
  replace ho95 : ob M121 a92 10 := hM121 ▸ ob_sP ho95
  replace ho100 : ob M121 a97 10 := hM121 ▸ ob_sP ho100
  replace ho105 : ob M121 a102 10 := hM121 ▸ ob_sP ho105
  replace ho110 : ob M121 a107 11 := hM121 ▸ ob_sP ho110
  replace ho115 : ob M121 a112 11 := hM121 ▸ ob_sP ho115
  replace ho120 : ob M121 a117 9 := hM121 ▸ ob_sP ho120
  refine e_blk 2 196 _ _ (pc' := 199) (L' := [some (.ref a0)]) (st' := [.int (12 : Int32), .ref a0]) rfl ?_
  refine e_newI 12 rfl (aw (i := 190) (by decide +kernel) rfl) (by decide) rfl (by decide) (by decide) (by decide) (fun a122 hn123 => ?_)
  replace h := h a122 hn123
  generalize hM124 : nO M121 a122 9 12 = M124
  replace h := h M124 hM124.symm
  replace ho4 : ob M124 a1 9 := hM124 ▸ ob_nO hn123 ho4
  replace ho5 : ob M124 a0 7 := hM124 ▸ ob_nO hn123 ho5
  replace ho10 : ob M124 a7 9 := hM124 ▸ ob_nO hn123 ho10
  replace ho15 : ob M124 a12 9 := hM124 ▸ ob_nO hn123 ho15
  replace ho20 : ob M124 a17 9 := hM124 ▸ ob_nO hn123 ho20
  replace ho25 : ob M124 a22 8 := hM124 ▸ ob_nO hn123 ho25
  replace ho30 : ob M124 a27 10 := hM124 ▸ ob_nO hn123 ho30
  replace ho35 : ob M124 a32 11 := hM124 ▸ ob_nO hn123 ho35
  replace ho40 : ob M124 a37 11 := hM124 ▸ ob_nO hn123 ho40
  replace ho45 : ob M124 a42 9 := hM124 ▸ ob_nO hn123 ho45
  replace ho50 : ob M124 a47 9 := hM124 ▸ ob_nO hn123 ho50
  replace ho55 : ob M124 a52 9 := hM124 ▸ ob_nO hn123 ho55
  replace ho60 : ob M124 a57 9 := hM124 ▸ ob_nO hn123 ho60
  replace ho65 : ob M124 a62 9 := hM124 ▸ ob_nO hn123 ho65
  replace ho70 : ob M124 a67 10 := hM124 ▸ ob_nO hn123 ho70
  replace ho75 : ob M124 a72 11 := hM124 ▸ ob_nO hn123 ho75
  replace ho80 : ob M124 a77 11 := hM124 ▸ ob_nO hn123 ho80
  replace ho85 : ob M124 a82 10 := hM124 ▸ ob_nO hn123 ho85
  replace ho90 : ob M124 a87 11 := hM124 ▸ ob_nO hn123 ho90
  replace ho95 : ob M124 a92 10 := hM124 ▸ ob_nO hn123 ho95
  replace ho100 : ob M124 a97 10 := hM124 ▸ ob_nO hn123 ho100
  replace ho105 : ob M124 a102 10 := hM124 ▸ ob_nO hn123 ho105
  replace ho110 : ob M124 a107 11 := hM124 ▸ ob_nO hn123 ho110
  replace ho115 : ob M124 a112 11 := hM124 ▸ ob_nO hn123 ho115
  replace ho120 : ob M124 a117 9 := hM124 ▸ ob_nO hn123 ho120
  have ho125 : ob M124 a122 9 := hM124 ▸ ob_new
  refine e_putFA 7 43 (v := some a122) rfl rfl (by decide) (aw (i := 1108) (by decide +kernel) rfl) rfl rfl rfl ho5 rfl ?_
  generalize hM126 : sP M124 a0 43 (some a122) = M126
  replace h := h M126 hM126.symm
  replace ho4 : ob M126 a1 9 := hM126 ▸ ob_sP ho4
  replace ho5 : ob M126 a0 7 := hM126 ▸ ob_sP ho5
  replace ho10 : ob M126 a7 9 := hM126 ▸ ob_sP ho10
  replace ho15 : ob M126 a12 9 := hM126 ▸ ob_sP ho15
  replace ho20 : ob M126 a17 9 := hM126 ▸ ob_sP ho20
  replace ho25 : ob M126 a22 8 := hM126 ▸ ob_sP ho25
  replace ho30 : ob M126 a27 10 := hM126 ▸ ob_sP ho30
  replace ho35 : ob M126 a32 11 := hM126 ▸ ob_sP ho35
  replace ho40 : ob M126 a37 11 := hM126 ▸ ob_sP ho40
  replace ho45 : ob M126 a42 9 := hM126 ▸ ob_sP ho45
  replace ho50 : ob M126 a47 9 := hM126 ▸ ob_sP ho50
  replace ho55 : ob M126 a52 9 := hM126 ▸ ob_sP ho55
  replace ho60 : ob M126 a57 9 := hM126 ▸ ob_sP ho60
  replace ho65 : ob M126 a62 9 := hM126 ▸ ob_sP ho65
  replace ho70 : ob M126 a67 10 := hM126 ▸ ob_sP ho70
  replace ho75 : ob M126 a72 11 := hM126 ▸ ob_sP ho75
  replace ho80 : ob M126 a77 11 := hM126 ▸ ob_sP ho80
  replace ho85 : ob M126 a82 10 := hM126 ▸ ob_sP ho85
  replace ho90 : ob M126 a87 11 := hM126 ▸ ob_sP ho90
  replace ho95 : ob M126 a92 10 := hM126 ▸ ob_sP ho95
  replace ho100 : ob M126 a97 10 := hM126 ▸ ob_sP ho100
  replace ho105 : ob M126 a102 10 := hM126 ▸ ob_sP ho105
  replace ho110 : ob M126 a107 11 := hM126 ▸ ob_sP ho110
  replace ho115 : ob M126 a112 11 := hM126 ▸ ob_sP ho115
  replace ho120 : ob M126 a117 9 := hM126 ▸ ob_sP ho120
  replace ho125 : ob M126 a122 9 := hM126 ▸ ob_sP ho125
  refine e_blk 2 204 _ _ (pc' := 207) (L' := [some (.ref a0)]) (st' := [.int (12 : Int32), .ref a0]) rfl ?_
  refine e_newI 12 rfl (aw (i := 190) (by decide +kernel) rfl) (by decide) rfl (by decide) (by decide) (by decide) (fun a127 hn128 => ?_)
  replace h := h a127 hn128
  generalize hM129 : nO M126 a127 9 12 = M129
  replace h := h M129 hM129.symm
  replace ho4 : ob M129 a1 9 := hM129 ▸ ob_nO hn128 ho4
  replace ho5 : ob M129 a0 7 := hM129 ▸ ob_nO hn128 ho5
  replace ho10 : ob M129 a7 9 := hM129 ▸ ob_nO hn128 ho10
  replace ho15 : ob M129 a12 9 := hM129 ▸ ob_nO hn128 ho15
  replace ho20 : ob M129 a17 9 := hM129 ▸ ob_nO hn128 ho20
  replace ho25 : ob M129 a22 8 := hM129 ▸ ob_nO hn128 ho25
  replace ho30 : ob M129 a27 10 := hM129 ▸ ob_nO hn128 ho30
  replace ho35 : ob M129 a32 11 := hM129 ▸ ob_nO hn128 ho35
  replace ho40 : ob M129 a37 11 := hM129 ▸ ob_nO hn128 ho40
  replace ho45 : ob M129 a42 9 := hM129 ▸ ob_nO hn128 ho45
  replace ho50 : ob M129 a47 9 := hM129 ▸ ob_nO hn128 ho50
  replace ho55 : ob M129 a52 9 := hM129 ▸ ob_nO hn128 ho55
  replace ho60 : ob M129 a57 9 := hM129 ▸ ob_nO hn128 ho60
  replace ho65 : ob M129 a62 9 := hM129 ▸ ob_nO hn128 ho65
  replace ho70 : ob M129 a67 10 := hM129 ▸ ob_nO hn128 ho70
  replace ho75 : ob M129 a72 11 := hM129 ▸ ob_nO hn128 ho75
  replace ho80 : ob M129 a77 11 := hM129 ▸ ob_nO hn128 ho80
  replace ho85 : ob M129 a82 10 := hM129 ▸ ob_nO hn128 ho85
  replace ho90 : ob M129 a87 11 := hM129 ▸ ob_nO hn128 ho90
  replace ho95 : ob M129 a92 10 := hM129 ▸ ob_nO hn128 ho95
  replace ho100 : ob M129 a97 10 := hM129 ▸ ob_nO hn128 ho100
  replace ho105 : ob M129 a102 10 := hM129 ▸ ob_nO hn128 ho105
  replace ho110 : ob M129 a107 11 := hM129 ▸ ob_nO hn128 ho110
  replace ho115 : ob M129 a112 11 := hM129 ▸ ob_nO hn128 ho115
  replace ho120 : ob M129 a117 9 := hM129 ▸ ob_nO hn128 ho120
  replace ho125 : ob M129 a122 9 := hM129 ▸ ob_nO hn128 ho125
  have ho130 : ob M129 a127 9 := hM129 ▸ ob_new
  refine e_putFA 7 44 (v := some a127) rfl rfl (by decide) (aw (i := 1109) (by decide +kernel) rfl) rfl rfl rfl ho5 rfl ?_
  generalize hM131 : sP M129 a0 44 (some a127) = M131
  replace h := h M131 hM131.symm
  replace ho4 : ob M131 a1 9 := hM131 ▸ ob_sP ho4
  replace ho5 : ob M131 a0 7 := hM131 ▸ ob_sP ho5
  replace ho10 : ob M131 a7 9 := hM131 ▸ ob_sP ho10
  replace ho15 : ob M131 a12 9 := hM131 ▸ ob_sP ho15
  replace ho20 : ob M131 a17 9 := hM131 ▸ ob_sP ho20
  replace ho25 : ob M131 a22 8 := hM131 ▸ ob_sP ho25
  replace ho30 : ob M131 a27 10 := hM131 ▸ ob_sP ho30
  replace ho35 : ob M131 a32 11 := hM131 ▸ ob_sP ho35
  replace ho40 : ob M131 a37 11 := hM131 ▸ ob_sP ho40
  replace ho45 : ob M131 a42 9 := hM131 ▸ ob_sP ho45
  replace ho50 : ob M131 a47 9 := hM131 ▸ ob_sP ho50
  replace ho55 : ob M131 a52 9 := hM131 ▸ ob_sP ho55
  replace ho60 : ob M131 a57 9 := hM131 ▸ ob_sP ho60
  replace ho65 : ob M131 a62 9 := hM131 ▸ ob_sP ho65
  replace ho70 : ob M131 a67 10 := hM131 ▸ ob_sP ho70
  replace ho75 : ob M131 a72 11 := hM131 ▸ ob_sP ho75
  replace ho80 : ob M131 a77 11 := hM131 ▸ ob_sP ho80
  replace ho85 : ob M131 a82 10 := hM131 ▸ ob_sP ho85
  replace ho90 : ob M131 a87 11 := hM131 ▸ ob_sP ho90
  replace ho95 : ob M131 a92 10 := hM131 ▸ ob_sP ho95
  replace ho100 : ob M131 a97 10 := hM131 ▸ ob_sP ho100
  replace ho105 : ob M131 a102 10 := hM131 ▸ ob_sP ho105
  replace ho110 : ob M131 a107 11 := hM131 ▸ ob_sP ho110
  replace ho115 : ob M131 a112 11 := hM131 ▸ ob_sP ho115
  replace ho120 : ob M131 a117 9 := hM131 ▸ ob_sP ho120
  replace ho125 : ob M131 a122 9 := hM131 ▸ ob_sP ho125
  replace ho130 : ob M131 a127 9 := hM131 ▸ ob_sP ho130
  refine e_blk 2 212 _ _ (pc' := 215) (L' := [some (.ref a0)]) (st' := [.int (100 : Int32), .ref a0]) rfl ?_
  refine e_newI 100 rfl (aw (i := 190) (by decide +kernel) rfl) (by decide) rfl (by decide) (by decide) (by decide) (fun a132 hn133 => ?_)
  replace h := h a132 hn133
  generalize hM134 : nO M131 a132 9 100 = M134
  replace h := h M134 hM134.symm
  replace ho4 : ob M134 a1 9 := hM134 ▸ ob_nO hn133 ho4
  replace ho5 : ob M134 a0 7 := hM134 ▸ ob_nO hn133 ho5
  replace ho10 : ob M134 a7 9 := hM134 ▸ ob_nO hn133 ho10
  replace ho15 : ob M134 a12 9 := hM134 ▸ ob_nO hn133 ho15
  replace ho20 : ob M134 a17 9 := hM134 ▸ ob_nO hn133 ho20
  replace ho25 : ob M134 a22 8 := hM134 ▸ ob_nO hn133 ho25
  replace ho30 : ob M134 a27 10 := hM134 ▸ ob_nO hn133 ho30
  replace ho35 : ob M134 a32 11 := hM134 ▸ ob_nO hn133 ho35
  replace ho40 : ob M134 a37 11 := hM134 ▸ ob_nO hn133 ho40
  replace ho45 : ob M134 a42 9 := hM134 ▸ ob_nO hn133 ho45
  replace ho50 : ob M134 a47 9 := hM134 ▸ ob_nO hn133 ho50
  replace ho55 : ob M134 a52 9 := hM134 ▸ ob_nO hn133 ho55
  replace ho60 : ob M134 a57 9 := hM134 ▸ ob_nO hn133 ho60
  replace ho65 : ob M134 a62 9 := hM134 ▸ ob_nO hn133 ho65
  replace ho70 : ob M134 a67 10 := hM134 ▸ ob_nO hn133 ho70
  replace ho75 : ob M134 a72 11 := hM134 ▸ ob_nO hn133 ho75
  replace ho80 : ob M134 a77 11 := hM134 ▸ ob_nO hn133 ho80
  replace ho85 : ob M134 a82 10 := hM134 ▸ ob_nO hn133 ho85
  replace ho90 : ob M134 a87 11 := hM134 ▸ ob_nO hn133 ho90
  replace ho95 : ob M134 a92 10 := hM134 ▸ ob_nO hn133 ho95
  replace ho100 : ob M134 a97 10 := hM134 ▸ ob_nO hn133 ho100
  replace ho105 : ob M134 a102 10 := hM134 ▸ ob_nO hn133 ho105
  replace ho110 : ob M134 a107 11 := hM134 ▸ ob_nO hn133 ho110
  replace ho115 : ob M134 a112 11 := hM134 ▸ ob_nO hn133 ho115
  replace ho120 : ob M134 a117 9 := hM134 ▸ ob_nO hn133 ho120
  replace ho125 : ob M134 a122 9 := hM134 ▸ ob_nO hn133 ho125
  replace ho130 : ob M134 a127 9 := hM134 ▸ ob_nO hn133 ho130
  have ho135 : ob M134 a132 9 := hM134 ▸ ob_new
  refine e_putFA 7 46 (v := some a132) rfl rfl (by decide) (aw (i := 1111) (by decide +kernel) rfl) rfl rfl rfl ho5 rfl ?_
  generalize hM136 : sP M134 a0 46 (some a132) = M136
  replace h := h M136 hM136.symm
  replace ho4 : ob M136 a1 9 := hM136 ▸ ob_sP ho4
  replace ho5 : ob M136 a0 7 := hM136 ▸ ob_sP ho5
  replace ho10 : ob M136 a7 9 := hM136 ▸ ob_sP ho10
  replace ho15 : ob M136 a12 9 := hM136 ▸ ob_sP ho15
  replace ho20 : ob M136 a17 9 := hM136 ▸ ob_sP ho20
  replace ho25 : ob M136 a22 8 := hM136 ▸ ob_sP ho25
  replace ho30 : ob M136 a27 10 := hM136 ▸ ob_sP ho30
  replace ho35 : ob M136 a32 11 := hM136 ▸ ob_sP ho35
  replace ho40 : ob M136 a37 11 := hM136 ▸ ob_sP ho40
  replace ho45 : ob M136 a42 9 := hM136 ▸ ob_sP ho45
  replace ho50 : ob M136 a47 9 := hM136 ▸ ob_sP ho50
  replace ho55 : ob M136 a52 9 := hM136 ▸ ob_sP ho55
  replace ho60 : ob M136 a57 9 := hM136 ▸ ob_sP ho60
  replace ho65 : ob M136 a62 9 := hM136 ▸ ob_sP ho65
  replace ho70 : ob M136 a67 10 := hM136 ▸ ob_sP ho70
  replace ho75 : ob M136 a72 11 := hM136 ▸ ob_sP ho75
  replace ho80 : ob M136 a77 11 := hM136 ▸ ob_sP ho80
  replace ho85 : ob M136 a82 10 := hM136 ▸ ob_sP ho85
  replace ho90 : ob M136 a87 11 := hM136 ▸ ob_sP ho90
  replace ho95 : ob M136 a92 10 := hM136 ▸ ob_sP ho95
  replace ho100 : ob M136 a97 10 := hM136 ▸ ob_sP ho100
  replace ho105 : ob M136 a102 10 := hM136 ▸ ob_sP ho105
  replace ho110 : ob M136 a107 11 := hM136 ▸ ob_sP ho110
  replace ho115 : ob M136 a112 11 := hM136 ▸ ob_sP ho115
  replace ho120 : ob M136 a117 9 := hM136 ▸ ob_sP ho120
  replace ho125 : ob M136 a122 9 := hM136 ▸ ob_sP ho125
  replace ho130 : ob M136 a127 9 := hM136 ▸ ob_sP ho130
  replace ho135 : ob M136 a132 9 := hM136 ▸ ob_sP ho135
  refine e_blk 2 220 _ _ (pc' := 223) (L' := [some (.ref a0)]) (st' := [.int (100 : Int32), .ref a0]) rfl ?_
  refine e_newI 100 rfl (aw (i := 190) (by decide +kernel) rfl) (by decide) rfl (by decide) (by decide) (by decide) (fun a137 hn138 => ?_)
  replace h := h a137 hn138
  generalize hM139 : nO M136 a137 9 100 = M139
  replace h := h M139 hM139.symm
  replace ho4 : ob M139 a1 9 := hM139 ▸ ob_nO hn138 ho4
  replace ho5 : ob M139 a0 7 := hM139 ▸ ob_nO hn138 ho5
  replace ho10 : ob M139 a7 9 := hM139 ▸ ob_nO hn138 ho10
  replace ho15 : ob M139 a12 9 := hM139 ▸ ob_nO hn138 ho15
  replace ho20 : ob M139 a17 9 := hM139 ▸ ob_nO hn138 ho20
  replace ho25 : ob M139 a22 8 := hM139 ▸ ob_nO hn138 ho25
  replace ho30 : ob M139 a27 10 := hM139 ▸ ob_nO hn138 ho30
  replace ho35 : ob M139 a32 11 := hM139 ▸ ob_nO hn138 ho35
  replace ho40 : ob M139 a37 11 := hM139 ▸ ob_nO hn138 ho40
  replace ho45 : ob M139 a42 9 := hM139 ▸ ob_nO hn138 ho45
  replace ho50 : ob M139 a47 9 := hM139 ▸ ob_nO hn138 ho50
  replace ho55 : ob M139 a52 9 := hM139 ▸ ob_nO hn138 ho55
  replace ho60 : ob M139 a57 9 := hM139 ▸ ob_nO hn138 ho60
  replace ho65 : ob M139 a62 9 := hM139 ▸ ob_nO hn138 ho65
  replace ho70 : ob M139 a67 10 := hM139 ▸ ob_nO hn138 ho70
  replace ho75 : ob M139 a72 11 := hM139 ▸ ob_nO hn138 ho75
  replace ho80 : ob M139 a77 11 := hM139 ▸ ob_nO hn138 ho80
  replace ho85 : ob M139 a82 10 := hM139 ▸ ob_nO hn138 ho85
  replace ho90 : ob M139 a87 11 := hM139 ▸ ob_nO hn138 ho90
  replace ho95 : ob M139 a92 10 := hM139 ▸ ob_nO hn138 ho95
  replace ho100 : ob M139 a97 10 := hM139 ▸ ob_nO hn138 ho100
  replace ho105 : ob M139 a102 10 := hM139 ▸ ob_nO hn138 ho105
  replace ho110 : ob M139 a107 11 := hM139 ▸ ob_nO hn138 ho110
  replace ho115 : ob M139 a112 11 := hM139 ▸ ob_nO hn138 ho115
  replace ho120 : ob M139 a117 9 := hM139 ▸ ob_nO hn138 ho120
  replace ho125 : ob M139 a122 9 := hM139 ▸ ob_nO hn138 ho125
  replace ho130 : ob M139 a127 9 := hM139 ▸ ob_nO hn138 ho130
  replace ho135 : ob M139 a132 9 := hM139 ▸ ob_nO hn138 ho135
  have ho140 : ob M139 a137 9 := hM139 ▸ ob_new
  refine e_putFA 7 47 (v := some a137) rfl rfl (by decide) (aw (i := 1112) (by decide +kernel) rfl) rfl rfl rfl ho5 rfl ?_
  generalize hM141 : sP M139 a0 47 (some a137) = M141
  replace h := h M141 hM141.symm
  replace ho4 : ob M141 a1 9 := hM141 ▸ ob_sP ho4
  replace ho5 : ob M141 a0 7 := hM141 ▸ ob_sP ho5
  replace ho10 : ob M141 a7 9 := hM141 ▸ ob_sP ho10
  replace ho15 : ob M141 a12 9 := hM141 ▸ ob_sP ho15
  replace ho20 : ob M141 a17 9 := hM141 ▸ ob_sP ho20
  replace ho25 : ob M141 a22 8 := hM141 ▸ ob_sP ho25
  replace ho30 : ob M141 a27 10 := hM141 ▸ ob_sP ho30
  replace ho35 : ob M141 a32 11 := hM141 ▸ ob_sP ho35
  replace ho40 : ob M141 a37 11 := hM141 ▸ ob_sP ho40
  replace ho45 : ob M141 a42 9 := hM141 ▸ ob_sP ho45
  replace ho50 : ob M141 a47 9 := hM141 ▸ ob_sP ho50
  replace ho55 : ob M141 a52 9 := hM141 ▸ ob_sP ho55
  replace ho60 : ob M141 a57 9 := hM141 ▸ ob_sP ho60
  replace ho65 : ob M141 a62 9 := hM141 ▸ ob_sP ho65
  replace ho70 : ob M141 a67 10 := hM141 ▸ ob_sP ho70
  replace ho75 : ob M141 a72 11 := hM141 ▸ ob_sP ho75
  replace ho80 : ob M141 a77 11 := hM141 ▸ ob_sP ho80
  replace ho85 : ob M141 a82 10 := hM141 ▸ ob_sP ho85
  replace ho90 : ob M141 a87 11 := hM141 ▸ ob_sP ho90
  replace ho95 : ob M141 a92 10 := hM141 ▸ ob_sP ho95
  replace ho100 : ob M141 a97 10 := hM141 ▸ ob_sP ho100
  replace ho105 : ob M141 a102 10 := hM141 ▸ ob_sP ho105
  replace ho110 : ob M141 a107 11 := hM141 ▸ ob_sP ho110
  replace ho115 : ob M141 a112 11 := hM141 ▸ ob_sP ho115
  replace ho120 : ob M141 a117 9 := hM141 ▸ ob_sP ho120
  replace ho125 : ob M141 a122 9 := hM141 ▸ ob_sP ho125
  replace ho130 : ob M141 a127 9 := hM141 ▸ ob_sP ho130
  replace ho135 : ob M141 a132 9 := hM141 ▸ ob_sP ho135
  replace ho140 : ob M141 a137 9 := hM141 ▸ ob_sP ho140
  refine e_blk 2 228 _ _ (pc' := 231) (L' := [some (.ref a0)]) (st' := [.int (100 : Int32), .ref a0]) rfl ?_
  refine e_newI 100 rfl (aw (i := 190) (by decide +kernel) rfl) (by decide) rfl (by decide) (by decide) (by decide) (fun a142 hn143 => ?_)
  replace h := h a142 hn143
  generalize hM144 : nO M141 a142 9 100 = M144
  replace h := h M144 hM144.symm
  replace ho4 : ob M144 a1 9 := hM144 ▸ ob_nO hn143 ho4
  replace ho5 : ob M144 a0 7 := hM144 ▸ ob_nO hn143 ho5
  replace ho10 : ob M144 a7 9 := hM144 ▸ ob_nO hn143 ho10
  replace ho15 : ob M144 a12 9 := hM144 ▸ ob_nO hn143 ho15
  replace ho20 : ob M144 a17 9 := hM144 ▸ ob_nO hn143 ho20
  replace ho25 : ob M144 a22 8 := hM144 ▸ ob_nO hn143 ho25
  replace ho30 : ob M144 a27 10 := hM144 ▸ ob_nO hn143 ho30
  replace ho35 : ob M144 a32 11 := hM144 ▸ ob_nO hn143 ho35
  replace ho40 : ob M144 a37 11 := hM144 ▸ ob_nO hn143 ho40
  replace ho45 : ob M144 a42 9 := hM144 ▸ ob_nO hn143 ho45
  replace ho50 : ob M144 a47 9 := hM144 ▸ ob_nO hn143 ho50
  replace ho55 : ob M144 a52 9 := hM144 ▸ ob_nO hn143 ho55
  replace ho60 : ob M144 a57 9 := hM144 ▸ ob_nO hn143 ho60
  replace ho65 : ob M144 a62 9 := hM144 ▸ ob_nO hn143 ho65
  replace ho70 : ob M144 a67 10 := hM144 ▸ ob_nO hn143 ho70
  replace ho75 : ob M144 a72 11 := hM144 ▸ ob_nO hn143 ho75
  replace ho80 : ob M144 a77 11 := hM144 ▸ ob_nO hn143 ho80
  replace ho85 : ob M144 a82 10 := hM144 ▸ ob_nO hn143 ho85
  replace ho90 : ob M144 a87 11 := hM144 ▸ ob_nO hn143 ho90
  replace ho95 : ob M144 a92 10 := hM144 ▸ ob_nO hn143 ho95
  replace ho100 : ob M144 a97 10 := hM144 ▸ ob_nO hn143 ho100
  replace ho105 : ob M144 a102 10 := hM144 ▸ ob_nO hn143 ho105
  replace ho110 : ob M144 a107 11 := hM144 ▸ ob_nO hn143 ho110
  replace ho115 : ob M144 a112 11 := hM144 ▸ ob_nO hn143 ho115
  replace ho120 : ob M144 a117 9 := hM144 ▸ ob_nO hn143 ho120
  replace ho125 : ob M144 a122 9 := hM144 ▸ ob_nO hn143 ho125
  replace ho130 : ob M144 a127 9 := hM144 ▸ ob_nO hn143 ho130
  replace ho135 : ob M144 a132 9 := hM144 ▸ ob_nO hn143 ho135
  replace ho140 : ob M144 a137 9 := hM144 ▸ ob_nO hn143 ho140
  have ho145 : ob M144 a142 9 := hM144 ▸ ob_new
  refine e_putFA 7 48 (v := some a142) rfl rfl (by decide) (aw (i := 1113) (by decide +kernel) rfl) rfl rfl rfl ho5 rfl ?_
  generalize hM146 : sP M144 a0 48 (some a142) = M146
  replace h := h M146 hM146.symm
  replace ho4 : ob M146 a1 9 := hM146 ▸ ob_sP ho4
  replace ho5 : ob M146 a0 7 := hM146 ▸ ob_sP ho5
  replace ho10 : ob M146 a7 9 := hM146 ▸ ob_sP ho10
  replace ho15 : ob M146 a12 9 := hM146 ▸ ob_sP ho15
  replace ho20 : ob M146 a17 9 := hM146 ▸ ob_sP ho20
  replace ho25 : ob M146 a22 8 := hM146 ▸ ob_sP ho25
  replace ho30 : ob M146 a27 10 := hM146 ▸ ob_sP ho30
  replace ho35 : ob M146 a32 11 := hM146 ▸ ob_sP ho35
  replace ho40 : ob M146 a37 11 := hM146 ▸ ob_sP ho40
  replace ho45 : ob M146 a42 9 := hM146 ▸ ob_sP ho45
  replace ho50 : ob M146 a47 9 := hM146 ▸ ob_sP ho50
  replace ho55 : ob M146 a52 9 := hM146 ▸ ob_sP ho55
  replace ho60 : ob M146 a57 9 := hM146 ▸ ob_sP ho60
  replace ho65 : ob M146 a62 9 := hM146 ▸ ob_sP ho65
  replace ho70 : ob M146 a67 10 := hM146 ▸ ob_sP ho70
  replace ho75 : ob M146 a72 11 := hM146 ▸ ob_sP ho75
  replace ho80 : ob M146 a77 11 := hM146 ▸ ob_sP ho80
  replace ho85 : ob M146 a82 10 := hM146 ▸ ob_sP ho85
  replace ho90 : ob M146 a87 11 := hM146 ▸ ob_sP ho90
  replace ho95 : ob M146 a92 10 := hM146 ▸ ob_sP ho95
  replace ho100 : ob M146 a97 10 := hM146 ▸ ob_sP ho100
  replace ho105 : ob M146 a102 10 := hM146 ▸ ob_sP ho105
  replace ho110 : ob M146 a107 11 := hM146 ▸ ob_sP ho110
  replace ho115 : ob M146 a112 11 := hM146 ▸ ob_sP ho115
  replace ho120 : ob M146 a117 9 := hM146 ▸ ob_sP ho120
  replace ho125 : ob M146 a122 9 := hM146 ▸ ob_sP ho125
  replace ho130 : ob M146 a127 9 := hM146 ▸ ob_sP ho130
  replace ho135 : ob M146 a132 9 := hM146 ▸ ob_sP ho135
  replace ho140 : ob M146 a137 9 := hM146 ▸ ob_sP ho140
  replace ho145 : ob M146 a142 9 := hM146 ▸ ob_sP ho145
  refine e_blk 2 236 _ _ (pc' := 240) (L' := [some (.ref a0)]) (st' := [.int (300 : Int32), .ref a0]) rfl ?_
  refine e_newI 300 rfl (aw (i := 190) (by decide +kernel) rfl) (by decide) rfl (by decide) (by decide) (by decide) (fun a147 hn148 => ?_)
  replace h := h a147 hn148
  generalize hM149 : nO M146 a147 9 300 = M149
  replace h := h M149 hM149.symm
  replace ho4 : ob M149 a1 9 := hM149 ▸ ob_nO hn148 ho4
  replace ho5 : ob M149 a0 7 := hM149 ▸ ob_nO hn148 ho5
  replace ho10 : ob M149 a7 9 := hM149 ▸ ob_nO hn148 ho10
  replace ho15 : ob M149 a12 9 := hM149 ▸ ob_nO hn148 ho15
  replace ho20 : ob M149 a17 9 := hM149 ▸ ob_nO hn148 ho20
  replace ho25 : ob M149 a22 8 := hM149 ▸ ob_nO hn148 ho25
  replace ho30 : ob M149 a27 10 := hM149 ▸ ob_nO hn148 ho30
  replace ho35 : ob M149 a32 11 := hM149 ▸ ob_nO hn148 ho35
  replace ho40 : ob M149 a37 11 := hM149 ▸ ob_nO hn148 ho40
  replace ho45 : ob M149 a42 9 := hM149 ▸ ob_nO hn148 ho45
  replace ho50 : ob M149 a47 9 := hM149 ▸ ob_nO hn148 ho50
  replace ho55 : ob M149 a52 9 := hM149 ▸ ob_nO hn148 ho55
  replace ho60 : ob M149 a57 9 := hM149 ▸ ob_nO hn148 ho60
  replace ho65 : ob M149 a62 9 := hM149 ▸ ob_nO hn148 ho65
  replace ho70 : ob M149 a67 10 := hM149 ▸ ob_nO hn148 ho70
  replace ho75 : ob M149 a72 11 := hM149 ▸ ob_nO hn148 ho75
  replace ho80 : ob M149 a77 11 := hM149 ▸ ob_nO hn148 ho80
  replace ho85 : ob M149 a82 10 := hM149 ▸ ob_nO hn148 ho85
  replace ho90 : ob M149 a87 11 := hM149 ▸ ob_nO hn148 ho90
  replace ho95 : ob M149 a92 10 := hM149 ▸ ob_nO hn148 ho95
  replace ho100 : ob M149 a97 10 := hM149 ▸ ob_nO hn148 ho100
  replace ho105 : ob M149 a102 10 := hM149 ▸ ob_nO hn148 ho105
  replace ho110 : ob M149 a107 11 := hM149 ▸ ob_nO hn148 ho110
  replace ho115 : ob M149 a112 11 := hM149 ▸ ob_nO hn148 ho115
  replace ho120 : ob M149 a117 9 := hM149 ▸ ob_nO hn148 ho120
  replace ho125 : ob M149 a122 9 := hM149 ▸ ob_nO hn148 ho125
  replace ho130 : ob M149 a127 9 := hM149 ▸ ob_nO hn148 ho130
  replace ho135 : ob M149 a132 9 := hM149 ▸ ob_nO hn148 ho135
  replace ho140 : ob M149 a137 9 := hM149 ▸ ob_nO hn148 ho140
  replace ho145 : ob M149 a142 9 := hM149 ▸ ob_nO hn148 ho145
  have ho150 : ob M149 a147 9 := hM149 ▸ ob_new
  refine e_putFA 7 56 (v := some a147) rfl rfl (by decide) (aw (i := 1121) (by decide +kernel) rfl) rfl rfl rfl ho5 rfl ?_
  generalize hM151 : sP M149 a0 56 (some a147) = M151
  replace h := h M151 hM151.symm
  replace ho4 : ob M151 a1 9 := hM151 ▸ ob_sP ho4
  replace ho5 : ob M151 a0 7 := hM151 ▸ ob_sP ho5
  replace ho10 : ob M151 a7 9 := hM151 ▸ ob_sP ho10
  replace ho15 : ob M151 a12 9 := hM151 ▸ ob_sP ho15
  replace ho20 : ob M151 a17 9 := hM151 ▸ ob_sP ho20
  replace ho25 : ob M151 a22 8 := hM151 ▸ ob_sP ho25
  replace ho30 : ob M151 a27 10 := hM151 ▸ ob_sP ho30
  replace ho35 : ob M151 a32 11 := hM151 ▸ ob_sP ho35
  replace ho40 : ob M151 a37 11 := hM151 ▸ ob_sP ho40
  replace ho45 : ob M151 a42 9 := hM151 ▸ ob_sP ho45
  replace ho50 : ob M151 a47 9 := hM151 ▸ ob_sP ho50
  replace ho55 : ob M151 a52 9 := hM151 ▸ ob_sP ho55
  replace ho60 : ob M151 a57 9 := hM151 ▸ ob_sP ho60
  replace ho65 : ob M151 a62 9 := hM151 ▸ ob_sP ho65
  replace ho70 : ob M151 a67 10 := hM151 ▸ ob_sP ho70
  replace ho75 : ob M151 a72 11 := hM151 ▸ ob_sP ho75
  replace ho80 : ob M151 a77 11 := hM151 ▸ ob_sP ho80
  replace ho85 : ob M151 a82 10 := hM151 ▸ ob_sP ho85
  replace ho90 : ob M151 a87 11 := hM151 ▸ ob_sP ho90
  replace ho95 : ob M151 a92 10 := hM151 ▸ ob_sP ho95
  replace ho100 : ob M151 a97 10 := hM151 ▸ ob_sP ho100
  replace ho105 : ob M151 a102 10 := hM151 ▸ ob_sP ho105
  replace ho110 : ob M151 a107 11 := hM151 ▸ ob_sP ho110
  replace ho115 : ob M151 a112 11 := hM151 ▸ ob_sP ho115
  replace ho120 : ob M151 a117 9 := hM151 ▸ ob_sP ho120
  replace ho125 : ob M151 a122 9 := hM151 ▸ ob_sP ho125
  replace ho130 : ob M151 a127 9 := hM151 ▸ ob_sP ho130
  replace ho135 : ob M151 a132 9 := hM151 ▸ ob_sP ho135
  replace ho140 : ob M151 a137 9 := hM151 ▸ ob_sP ho140
  replace ho145 : ob M151 a142 9 := hM151 ▸ ob_sP ho145
  replace ho150 : ob M151 a147 9 := hM151 ▸ ob_sP ho150
  refine e_blk 2 245 _ _ (pc' := 249) (L' := [some (.ref a0)]) (st' := [.int (300 : Int32), .ref a0]) rfl ?_
  refine e_newI 300 rfl (aw (i := 190) (by decide +kernel) rfl) (by decide) rfl (by decide) (by decide) (by decide) (fun a152 hn153 => ?_)
  replace h := h a152 hn153
  generalize hM154 : nO M151 a152 9 300 = M154
  replace h := h M154 hM154.symm
  replace ho4 : ob M154 a1 9 := hM154 ▸ ob_nO hn153 ho4
  replace ho5 : ob M154 a0 7 := hM154 ▸ ob_nO hn153 ho5
  replace ho10 : ob M154 a7 9 := hM154 ▸ ob_nO hn153 ho10
  replace ho15 : ob M154 a12 9 := hM154 ▸ ob_nO hn153 ho15
  replace ho20 : ob M154 a17 9 := hM154 ▸ ob_nO hn153 ho20
  replace ho25 : ob M154 a22 8 := hM154 ▸ ob_nO hn153 ho25
  replace ho30 : ob M154 a27 10 := hM154 ▸ ob_nO hn153 ho30
  replace ho35 : ob M154 a32 11 := hM154 ▸ ob_nO hn153 ho35
  replace ho40 : ob M154 a37 11 := hM154 ▸ ob_nO hn153 ho40
  replace ho45 : ob M154 a42 9 := hM154 ▸ ob_nO hn153 ho45
  replace ho50 : ob M154 a47 9 := hM154 ▸ ob_nO hn153 ho50
  replace ho55 : ob M154 a52 9 := hM154 ▸ ob_nO hn153 ho55
  replace ho60 : ob M154 a57 9 := hM154 ▸ ob_nO hn153 ho60
  replace ho65 : ob M154 a62 9 := hM154 ▸ ob_nO hn153 ho65
  replace ho70 : ob M154 a67 10 := hM154 ▸ ob_nO hn153 ho70
  replace ho75 : ob M154 a72 11 := hM154 ▸ ob_nO hn153 ho75
  replace ho80 : ob M154 a77 11 := hM154 ▸ ob_nO hn153 ho80
  replace ho85 : ob M154 a82 10 := hM154 ▸ ob_nO hn153 ho85
  replace ho90 : ob M154 a87 11 := hM154 ▸ ob_nO hn153 ho90
  replace ho95 : ob M154 a92 10 := hM154 ▸ ob_nO hn153 ho95
  replace ho100 : ob M154 a97 10 := hM154 ▸ ob_nO hn153 ho100
  replace ho105 : ob M154 a102 10 := hM154 ▸ ob_nO hn153 ho105
  replace ho110 : ob M154 a107 11 := hM154 ▸ ob_nO hn153 ho110
  replace ho115 : ob M154 a112 11 := hM154 ▸ ob_nO hn153 ho115
  replace ho120 : ob M154 a117 9 := hM154 ▸ ob_nO hn153 ho120
  replace ho125 : ob M154 a122 9 := hM154 ▸ ob_nO hn153 ho125
  replace ho130 : ob M154 a127 9 := hM154 ▸ ob_nO hn153 ho130
  replace ho135 : ob M154 a132 9 := hM154 ▸ ob_nO hn153 ho135
  replace ho140 : ob M154 a137 9 := hM154 ▸ ob_nO hn153 ho140
  replace ho145 : ob M154 a142 9 := hM154 ▸ ob_nO hn153 ho145
  replace ho150 : ob M154 a147 9 := hM154 ▸ ob_nO hn153 ho150
  have ho155 : ob M154 a152 9 := hM154 ▸ ob_new
  refine e_putFA 7 57 (v := some a152) rfl rfl (by decide) (aw (i := 1122) (by decide +kernel) rfl) rfl rfl rfl ho5 rfl ?_
  generalize hM156 : sP M154 a0 57 (some a152) = M156
  replace h := h M156 hM156.symm
  replace ho4 : ob M156 a1 9 := hM156 ▸ ob_sP ho4
  replace ho5 : ob M156 a0 7 := hM156 ▸ ob_sP ho5
  replace ho10 : ob M156 a7 9 := hM156 ▸ ob_sP ho10
  replace ho15 : ob M156 a12 9 := hM156 ▸ ob_sP ho15
  replace ho20 : ob M156 a17 9 := hM156 ▸ ob_sP ho20
  replace ho25 : ob M156 a22 8 := hM156 ▸ ob_sP ho25
  replace ho30 : ob M156 a27 10 := hM156 ▸ ob_sP ho30
  replace ho35 : ob M156 a32 11 := hM156 ▸ ob_sP ho35
  replace ho40 : ob M156 a37 11 := hM156 ▸ ob_sP ho40
  replace ho45 : ob M156 a42 9 := hM156 ▸ ob_sP ho45
  replace ho50 : ob M156 a47 9 := hM156 ▸ ob_sP ho50
  replace ho55 : ob M156 a52 9 := hM156 ▸ ob_sP ho55
  replace ho60 : ob M156 a57 9 := hM156 ▸ ob_sP ho60
  replace ho65 : ob M156 a62 9 := hM156 ▸ ob_sP ho65
  replace ho70 : ob M156 a67 10 := hM156 ▸ ob_sP ho70
  replace ho75 : ob M156 a72 11 := hM156 ▸ ob_sP ho75
  replace ho80 : ob M156 a77 11 := hM156 ▸ ob_sP ho80
  replace ho85 : ob M156 a82 10 := hM156 ▸ ob_sP ho85
  replace ho90 : ob M156 a87 11 := hM156 ▸ ob_sP ho90
  replace ho95 : ob M156 a92 10 := hM156 ▸ ob_sP ho95
  replace ho100 : ob M156 a97 10 := hM156 ▸ ob_sP ho100
  replace ho105 : ob M156 a102 10 := hM156 ▸ ob_sP ho105
  replace ho110 : ob M156 a107 11 := hM156 ▸ ob_sP ho110
  replace ho115 : ob M156 a112 11 := hM156 ▸ ob_sP ho115
  replace ho120 : ob M156 a117 9 := hM156 ▸ ob_sP ho120
  replace ho125 : ob M156 a122 9 := hM156 ▸ ob_sP ho125
  replace ho130 : ob M156 a127 9 := hM156 ▸ ob_sP ho130
  replace ho135 : ob M156 a132 9 := hM156 ▸ ob_sP ho135
  replace ho140 : ob M156 a137 9 := hM156 ▸ ob_sP ho140
  replace ho145 : ob M156 a142 9 := hM156 ▸ ob_sP ho145
  replace ho150 : ob M156 a147 9 := hM156 ▸ ob_sP ho150
  replace ho155 : ob M156 a152 9 := hM156 ▸ ob_sP ho155
  refine e_blk 2 254 _ _ (pc' := 258) (L' := [some (.ref a0)]) (st' := [.int (300 : Int32), .ref a0]) rfl ?_
  refine e_newI 300 rfl (aw (i := 190) (by decide +kernel) rfl) (by decide) rfl (by decide) (by decide) (by decide) (fun a157 hn158 => ?_)
  replace h := h a157 hn158
  generalize hM159 : nO M156 a157 9 300 = M159
  replace h := h M159 hM159.symm
  replace ho4 : ob M159 a1 9 := hM159 ▸ ob_nO hn158 ho4
  replace ho5 : ob M159 a0 7 := hM159 ▸ ob_nO hn158 ho5
  replace ho10 : ob M159 a7 9 := hM159 ▸ ob_nO hn158 ho10
  replace ho15 : ob M159 a12 9 := hM159 ▸ ob_nO hn158 ho15
  replace ho20 : ob M159 a17 9 := hM159 ▸ ob_nO hn158 ho20
  replace ho25 : ob M159 a22 8 := hM159 ▸ ob_nO hn158 ho25
  replace ho30 : ob M159 a27 10 := hM159 ▸ ob_nO hn158 ho30
  replace ho35 : ob M159 a32 11 := hM159 ▸ ob_nO hn158 ho35
  replace ho40 : ob M159 a37 11 := hM159 ▸ ob_nO hn158 ho40
  replace ho45 : ob M159 a42 9 := hM159 ▸ ob_nO hn158 ho45
  replace ho50 : ob M159 a47 9 := hM159 ▸ ob_nO hn158 ho50
  replace ho55 : ob M159 a52 9 := hM159 ▸ ob_nO hn158 ho55
  replace ho60 : ob M159 a57 9 := hM159 ▸ ob_nO hn158 ho60
  replace ho65 : ob M159 a62 9 := hM159 ▸ ob_nO hn158 ho65
  replace ho70 : ob M159 a67 10 := hM159 ▸ ob_nO hn158 ho70
  replace ho75 : ob M159 a72 11 := hM159 ▸ ob_nO hn158 ho75
  replace ho80 : ob M159 a77 11 := hM159 ▸ ob_nO hn158 ho80
  replace ho85 : ob M159 a82 10 := hM159 ▸ ob_nO hn158 ho85
  replace ho90 : ob M159 a87 11 := hM159 ▸ ob_nO hn158 ho90
  replace ho95 : ob M159 a92 10 := hM159 ▸ ob_nO hn158 ho95
  replace ho100 : ob M159 a97 10 := hM159 ▸ ob_nO hn158 ho100
  replace ho105 : ob M159 a102 10 := hM159 ▸ ob_nO hn158 ho105
  replace ho110 : ob M159 a107 11 := hM159 ▸ ob_nO hn158 ho110
  replace ho115 : ob M159 a112 11 := hM159 ▸ ob_nO hn158 ho115
  replace ho120 : ob M159 a117 9 := hM159 ▸ ob_nO hn158 ho120
  replace ho125 : ob M159 a122 9 := hM159 ▸ ob_nO hn158 ho125
  replace ho130 : ob M159 a127 9 := hM159 ▸ ob_nO hn158 ho130
  replace ho135 : ob M159 a132 9 := hM159 ▸ ob_nO hn158 ho135
  replace ho140 : ob M159 a137 9 := hM159 ▸ ob_nO hn158 ho140
  replace ho145 : ob M159 a142 9 := hM159 ▸ ob_nO hn158 ho145
  replace ho150 : ob M159 a147 9 := hM159 ▸ ob_nO hn158 ho150
  replace ho155 : ob M159 a152 9 := hM159 ▸ ob_nO hn158 ho155
  have ho160 : ob M159 a157 9 := hM159 ▸ ob_new
  refine e_putFA 7 58 (v := some a157) rfl rfl (by decide) (aw (i := 1123) (by decide +kernel) rfl) rfl rfl rfl ho5 rfl ?_
  generalize hM161 : sP M159 a0 58 (some a157) = M161
  replace h := h M161 hM161.symm
  replace ho4 : ob M161 a1 9 := hM161 ▸ ob_sP ho4
  replace ho5 : ob M161 a0 7 := hM161 ▸ ob_sP ho5
  replace ho10 : ob M161 a7 9 := hM161 ▸ ob_sP ho10
  replace ho15 : ob M161 a12 9 := hM161 ▸ ob_sP ho15
  replace ho20 : ob M161 a17 9 := hM161 ▸ ob_sP ho20
  replace ho25 : ob M161 a22 8 := hM161 ▸ ob_sP ho25
  replace ho30 : ob M161 a27 10 := hM161 ▸ ob_sP ho30
  replace ho35 : ob M161 a32 11 := hM161 ▸ ob_sP ho35
  replace ho40 : ob M161 a37 11 := hM161 ▸ ob_sP ho40
  replace ho45 : ob M161 a42 9 := hM161 ▸ ob_sP ho45
  replace ho50 : ob M161 a47 9 := hM161 ▸ ob_sP ho50
  replace ho55 : ob M161 a52 9 := hM161 ▸ ob_sP ho55
  replace ho60 : ob M161 a57 9 := hM161 ▸ ob_sP ho60
  replace ho65 : ob M161 a62 9 := hM161 ▸ ob_sP ho65
  replace ho70 : ob M161 a67 10 := hM161 ▸ ob_sP ho70
  replace ho75 : ob M161 a72 11 := hM161 ▸ ob_sP ho75
  replace ho80 : ob M161 a77 11 := hM161 ▸ ob_sP ho80
  replace ho85 : ob M161 a82 10 := hM161 ▸ ob_sP ho85
  replace ho90 : ob M161 a87 11 := hM161 ▸ ob_sP ho90
  replace ho95 : ob M161 a92 10 := hM161 ▸ ob_sP ho95
  replace ho100 : ob M161 a97 10 := hM161 ▸ ob_sP ho100
  replace ho105 : ob M161 a102 10 := hM161 ▸ ob_sP ho105
  replace ho110 : ob M161 a107 11 := hM161 ▸ ob_sP ho110
  replace ho115 : ob M161 a112 11 := hM161 ▸ ob_sP ho115
  replace ho120 : ob M161 a117 9 := hM161 ▸ ob_sP ho120
  replace ho125 : ob M161 a122 9 := hM161 ▸ ob_sP ho125
  replace ho130 : ob M161 a127 9 := hM161 ▸ ob_sP ho130
  replace ho135 : ob M161 a132 9 := hM161 ▸ ob_sP ho135
  replace ho140 : ob M161 a137 9 := hM161 ▸ ob_sP ho140
  replace ho145 : ob M161 a142 9 := hM161 ▸ ob_sP ho145
  replace ho150 : ob M161 a147 9 := hM161 ▸ ob_sP ho150
  replace ho155 : ob M161 a152 9 := hM161 ▸ ob_sP ho155
  replace ho160 : ob M161 a157 9 := hM161 ▸ ob_sP ho160
  refine e_blk 2 263 _ _ (pc' := 267) (L' := [some (.ref a0)]) (st' := [.int (300 : Int32), .ref a0]) rfl ?_
  refine e_newI 300 rfl (aw (i := 190) (by decide +kernel) rfl) (by decide) rfl (by decide) (by decide) (by decide) (fun a162 hn163 => ?_)
  replace h := h a162 hn163
  generalize hM164 : nO M161 a162 9 300 = M164
  replace h := h M164 hM164.symm
  replace ho4 : ob M164 a1 9 := hM164 ▸ ob_nO hn163 ho4
  replace ho5 : ob M164 a0 7 := hM164 ▸ ob_nO hn163 ho5
  replace ho10 : ob M164 a7 9 := hM164 ▸ ob_nO hn163 ho10
  replace ho15 : ob M164 a12 9 := hM164 ▸ ob_nO hn163 ho15
  replace ho20 : ob M164 a17 9 := hM164 ▸ ob_nO hn163 ho20
  replace ho25 : ob M164 a22 8 := hM164 ▸ ob_nO hn163 ho25
  replace ho30 : ob M164 a27 10 := hM164 ▸ ob_nO hn163 ho30
  replace ho35 : ob M164 a32 11 := hM164 ▸ ob_nO hn163 ho35
  replace ho40 : ob M164 a37 11 := hM164 ▸ ob_nO hn163 ho40
  replace ho45 : ob M164 a42 9 := hM164 ▸ ob_nO hn163 ho45
  replace ho50 : ob M164 a47 9 := hM164 ▸ ob_nO hn163 ho50
  replace ho55 : ob M164 a52 9 := hM164 ▸ ob_nO hn163 ho55
  replace ho60 : ob M164 a57 9 := hM164 ▸ ob_nO hn163 ho60
  replace ho65 : ob M164 a62 9 := hM164 ▸ ob_nO hn163 ho65
  replace ho70 : ob M164 a67 10 := hM164 ▸ ob_nO hn163 ho70
  replace ho75 : ob M164 a72 11 := hM164 ▸ ob_nO hn163 ho75
  replace ho80 : ob M164 a77 11 := hM164 ▸ ob_nO hn163 ho80
  replace ho85 : ob M164 a82 10 := hM164 ▸ ob_nO hn163 ho85
  replace ho90 : ob M164 a87 11 := hM164 ▸ ob_nO hn163 ho90
  replace ho95 : ob M164 a92 10 := hM164 ▸ ob_nO hn163 ho95
  replace ho100 : ob M164 a97 10 := hM164 ▸ ob_nO hn163 ho100
  replace ho105 : ob M164 a102 10 := hM164 ▸ ob_nO hn163 ho105
  replace ho110 : ob M164 a107 11 := hM164 ▸ ob_nO hn163 ho110
  replace ho115 : ob M164 a112 11 := hM164 ▸ ob_nO hn163 ho115
  replace ho120 : ob M164 a117 9 := hM164 ▸ ob_nO hn163 ho120
  replace ho125 : ob M164 a122 9 := hM164 ▸ ob_nO hn163 ho125
  replace ho130 : ob M164 a127 9 := hM164 ▸ ob_nO hn163 ho130
  replace ho135 : ob M164 a132 9 := hM164 ▸ ob_nO hn163 ho135
  replace ho140 : ob M164 a137 9 := hM164 ▸ ob_nO hn163 ho140
  replace ho145 : ob M164 a142 9 := hM164 ▸ ob_nO hn163 ho145
  replace ho150 : ob M164 a147 9 := hM164 ▸ ob_nO hn163 ho150
  replace ho155 : ob M164 a152 9 := hM164 ▸ ob_nO hn163 ho155
  replace ho160 : ob M164 a157 9 := hM164 ▸ ob_nO hn163 ho160
  have ho165 : ob M164 a162 9 := hM164 ▸ ob_new
  refine e_putFA 7 59 (v := some a162) rfl rfl (by decide) (aw (i := 1124) (by decide +kernel) rfl) rfl rfl rfl ho5 rfl ?_
  generalize hM166 : sP M164 a0 59 (some a162) = M166
  replace h := h M166 hM166.symm
  replace ho4 : ob M166 a1 9 := hM166 ▸ ob_sP ho4
  replace ho5 : ob M166 a0 7 := hM166 ▸ ob_sP ho5
  replace ho10 : ob M166 a7 9 := hM166 ▸ ob_sP ho10
  replace ho15 : ob M166 a12 9 := hM166 ▸ ob_sP ho15
  replace ho20 : ob M166 a17 9 := hM166 ▸ ob_sP ho20
  replace ho25 : ob M166 a22 8 := hM166 ▸ ob_sP ho25
  replace ho30 : ob M166 a27 10 := hM166 ▸ ob_sP ho30
  replace ho35 : ob M166 a32 11 := hM166 ▸ ob_sP ho35
  replace ho40 : ob M166 a37 11 := hM166 ▸ ob_sP ho40
  replace ho45 : ob M166 a42 9 := hM166 ▸ ob_sP ho45
  replace ho50 : ob M166 a47 9 := hM166 ▸ ob_sP ho50
  replace ho55 : ob M166 a52 9 := hM166 ▸ ob_sP ho55
  replace ho60 : ob M166 a57 9 := hM166 ▸ ob_sP ho60
  replace ho65 : ob M166 a62 9 := hM166 ▸ ob_sP ho65
  replace ho70 : ob M166 a67 10 := hM166 ▸ ob_sP ho70
  replace ho75 : ob M166 a72 11 := hM166 ▸ ob_sP ho75
  replace ho80 : ob M166 a77 11 := hM166 ▸ ob_sP ho80
  replace ho85 : ob M166 a82 10 := hM166 ▸ ob_sP ho85
  replace ho90 : ob M166 a87 11 := hM166 ▸ ob_sP ho90
  replace ho95 : ob M166 a92 10 := hM166 ▸ ob_sP ho95
  replace ho100 : ob M166 a97 10 := hM166 ▸ ob_sP ho100
  replace ho105 : ob M166 a102 10 := hM166 ▸ ob_sP ho105
  replace ho110 : ob M166 a107 11 := hM166 ▸ ob_sP ho110
  replace ho115 : ob M166 a112 11 := hM166 ▸ ob_sP ho115
  replace ho120 : ob M166 a117 9 := hM166 ▸ ob_sP ho120
  replace ho125 : ob M166 a122 9 := hM166 ▸ ob_sP ho125
  replace ho130 : ob M166 a127 9 := hM166 ▸ ob_sP ho130
  replace ho135 : ob M166 a132 9 := hM166 ▸ ob_sP ho135
  replace ho140 : ob M166 a137 9 := hM166 ▸ ob_sP ho140
  replace ho145 : ob M166 a142 9 := hM166 ▸ ob_sP ho145
  replace ho150 : ob M166 a147 9 := hM166 ▸ ob_sP ho150
  replace ho155 : ob M166 a152 9 := hM166 ▸ ob_sP ho155
  replace ho160 : ob M166 a157 9 := hM166 ▸ ob_sP ho160
  replace ho165 : ob M166 a162 9 := hM166 ▸ ob_sP ho165
  refine e_blk 2 272 _ _ (pc' := 274) (L' := [some (.ref a0)]) (st' := [.int (0 : Int32), .ref a0]) rfl ?_
  refine e_putI 7 0 rfl rfl (by decide) (aw (i := 1065) (by decide +kernel) rfl) rfl ho5 rfl ?_
  generalize hM167 : sI M166 a0 0 (0 : Int32) = M167
  replace h := h M167 hM167.symm
  replace ho4 : ob M167 a1 9 := hM167 ▸ ob_sI ho4
  replace ho5 : ob M167 a0 7 := hM167 ▸ ob_sI ho5
  replace ho10 : ob M167 a7 9 := hM167 ▸ ob_sI ho10
  replace ho15 : ob M167 a12 9 := hM167 ▸ ob_sI ho15
  replace ho20 : ob M167 a17 9 := hM167 ▸ ob_sI ho20
  replace ho25 : ob M167 a22 8 := hM167 ▸ ob_sI ho25
  replace ho30 : ob M167 a27 10 := hM167 ▸ ob_sI ho30
  replace ho35 : ob M167 a32 11 := hM167 ▸ ob_sI ho35
  replace ho40 : ob M167 a37 11 := hM167 ▸ ob_sI ho40
  replace ho45 : ob M167 a42 9 := hM167 ▸ ob_sI ho45
  replace ho50 : ob M167 a47 9 := hM167 ▸ ob_sI ho50
  replace ho55 : ob M167 a52 9 := hM167 ▸ ob_sI ho55
  replace ho60 : ob M167 a57 9 := hM167 ▸ ob_sI ho60
  replace ho65 : ob M167 a62 9 := hM167 ▸ ob_sI ho65
  replace ho70 : ob M167 a67 10 := hM167 ▸ ob_sI ho70
  replace ho75 : ob M167 a72 11 := hM167 ▸ ob_sI ho75
  replace ho80 : ob M167 a77 11 := hM167 ▸ ob_sI ho80
  replace ho85 : ob M167 a82 10 := hM167 ▸ ob_sI ho85
  replace ho90 : ob M167 a87 11 := hM167 ▸ ob_sI ho90
  replace ho95 : ob M167 a92 10 := hM167 ▸ ob_sI ho95
  replace ho100 : ob M167 a97 10 := hM167 ▸ ob_sI ho100
  replace ho105 : ob M167 a102 10 := hM167 ▸ ob_sI ho105
  replace ho110 : ob M167 a107 11 := hM167 ▸ ob_sI ho110
  replace ho115 : ob M167 a112 11 := hM167 ▸ ob_sI ho115
  replace ho120 : ob M167 a117 9 := hM167 ▸ ob_sI ho120
  replace ho125 : ob M167 a122 9 := hM167 ▸ ob_sI ho125
  replace ho130 : ob M167 a127 9 := hM167 ▸ ob_sI ho130
  replace ho135 : ob M167 a132 9 := hM167 ▸ ob_sI ho135
  replace ho140 : ob M167 a137 9 := hM167 ▸ ob_sI ho140
  replace ho145 : ob M167 a142 9 := hM167 ▸ ob_sI ho145
  replace ho150 : ob M167 a147 9 := hM167 ▸ ob_sI ho150
  replace ho155 : ob M167 a152 9 := hM167 ▸ ob_sI ho155
  replace ho160 : ob M167 a157 9 := hM167 ▸ ob_sI ho160
  replace ho165 : ob M167 a162 9 := hM167 ▸ ob_sI ho165
  exact e_ret rfl rfl (by decide) (by decide) h
