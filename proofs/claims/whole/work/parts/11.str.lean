def is_J0_coder_7d493 : List (Instr × Nat) := [(.getstatic 38, 3), (.ifCond .eq 10, 3), (.aload_n 0, 1), (.getfield 15, 3), (.goto 4, 3), (.iconst 1, 1), (.ireturn, 1)]
abbrev mi_J0_coder_7d493 : MI := (yJ0_coder_7d493, cJ0_coder_7d493, 1, (some .byte), [], { frames := 0, cells := 0, slots := 0, locals := 0 }, is_J0_coder_7d493)
theorem dc_J0_coder_7d493 : dcb cJ0_coder_7d493 is_J0_coder_7d493 0 = true := by decide +kernel
theorem wc_J0_coder_7d493 : cdw mi_J0_coder_7d493 ∈ ALLW := aw (i := 636) (by decide +kernel) rfl
theorem wi_J0_coder_7d493 : Cond.initialized (miY mi_J0_coder_7d493).cls ∈ ALLW := aw (i := 72) (by decide +kernel) rfl
theorem wn_J0_coder_7d493 : Cond.instanceMethod (miY mi_J0_coder_7d493) ∈ ALLW := aw (i := 634) (by decide +kernel) rfl
theorem wv_J0_coder_7d493 : Cond.selects (miY mi_J0_coder_7d493).cls (miY mi_J0_coder_7d493) (miY mi_J0_coder_7d493) ∈ ALLW := aw (i := 635) (by decide +kernel) rfl
def is_J0_isLatin1_aae02 : List (Instr × Nat) := [(.getstatic 38, 3), (.ifCond .eq 14, 3), (.aload_n 0, 1), (.getfield 15, 3), (.ifCond .ne 7, 3), (.iconst 1, 1), (.goto 4, 3), (.iconst 0, 1), (.ireturn, 1)]
abbrev mi_J0_isLatin1_aae02 : MI := (yJ0_isLatin1_aae02, cJ0_isLatin1_aae02, 1, (some .boolean), [], { frames := 0, cells := 0, slots := 0, locals := 0 }, is_J0_isLatin1_aae02)
theorem dc_J0_isLatin1_aae02 : dcb cJ0_isLatin1_aae02 is_J0_isLatin1_aae02 0 = true := by decide +kernel
theorem wc_J0_isLatin1_aae02 : cdw mi_J0_isLatin1_aae02 ∈ ALLW := aw (i := 646) (by decide +kernel) rfl
theorem wi_J0_isLatin1_aae02 : Cond.initialized (miY mi_J0_isLatin1_aae02).cls ∈ ALLW := aw (i := 72) (by decide +kernel) rfl
theorem wn_J0_isLatin1_aae02 : Cond.instanceMethod (miY mi_J0_isLatin1_aae02) ∈ ALLW := aw (i := 644) (by decide +kernel) rfl
theorem wv_J0_isLatin1_aae02 : Cond.selects (miY mi_J0_isLatin1_aae02).cls (miY mi_J0_isLatin1_aae02) (miY mi_J0_isLatin1_aae02) ∈ ALLW := aw (i := 645) (by decide +kernel) rfl
def is_J0_length_8abf5 : List (Instr × Nat) := [(.aload_n 0, 1), (.getfield 9, 3), (.arraylength, 1), (.aload_n 0, 1), (.invokevirtual 335, 3), (.ishr, 1), (.ireturn, 1)]
abbrev mi_J0_length_8abf5 : MI := (yJ0_length_8abf5, cJ0_length_8abf5, 1, (some .int), [], { frames := 1, cells := 0, slots := 0, locals := 20 }, is_J0_length_8abf5)
theorem dc_J0_length_8abf5 : dcb cJ0_length_8abf5 is_J0_length_8abf5 0 = true := by decide +kernel
theorem wc_J0_length_8abf5 : cdw mi_J0_length_8abf5 ∈ ALLW := aw (i := 632) (by decide +kernel) rfl
theorem wi_J0_length_8abf5 : Cond.initialized (miY mi_J0_length_8abf5).cls ∈ ALLW := aw (i := 72) (by decide +kernel) rfl
theorem wn_J0_length_8abf5 : Cond.instanceMethod (miY mi_J0_length_8abf5) ∈ ALLW := aw (i := 630) (by decide +kernel) rfl
theorem wv_J0_length_8abf5 : Cond.selects (miY mi_J0_length_8abf5).cls (miY mi_J0_length_8abf5) (miY mi_J0_length_8abf5) ∈ ALLW := aw (i := 631) (by decide +kernel) rfl
def is_J3_checkIndex_8e157 : List (Instr × Nat) := [(.iload_n 0, 1), (.ifCond .lt 8, 3), (.iload_n 0, 1), (.iload_n 1, 1), (.if_icmp .lt 10, 3), (.aload_n 2, 1), (.iload_n 0, 1), (.iload_n 1, 1), (.invokestatic 95, 3), (.athrow, 1), (.iload_n 0, 1), (.ireturn, 1)]
abbrev mi_J3_checkIndex_8e157 : MI := (yJ3_checkIndex_8e157, cJ3_checkIndex_8e157, 3, (some .int), [], { frames := 0, cells := 0, slots := 0, locals := 0 }, is_J3_checkIndex_8e157)
theorem dc_J3_checkIndex_8e157 : dcb cJ3_checkIndex_8e157 is_J3_checkIndex_8e157 0 = true := by decide +kernel
theorem wc_J3_checkIndex_8e157 : cdw mi_J3_checkIndex_8e157 ∈ ALLW := aw (i := 657) (by decide +kernel) rfl
theorem wi_J3_checkIndex_8e157 : Cond.initialized (miY mi_J3_checkIndex_8e157).cls ∈ ALLW := aw (i := 74) (by decide +kernel) rfl
theorem ws_J3_checkIndex_8e157 : Cond.static (miY mi_J3_checkIndex_8e157) ∈ ALLW := aw (i := 656) (by decide +kernel) rfl
def is_J0_checkIndex_df160 : List (Instr × Nat) := [(.iload_n 0, 1), (.iload_n 1, 1), (.getstatic 1053, 3), (.invokestatic 1059, 3), (.pop, 1), (.return_, 1)]
abbrev mi_J0_checkIndex_df160 : MI := (yJ0_checkIndex_df160, cJ0_checkIndex_df160, 2, none, [], { frames := 1, cells := 0, slots := 0, locals := 22 }, is_J0_checkIndex_df160)
theorem dc_J0_checkIndex_df160 : dcb cJ0_checkIndex_df160 is_J0_checkIndex_df160 0 = true := by decide +kernel
theorem wc_J0_checkIndex_df160 : cdw mi_J0_checkIndex_df160 ∈ ALLW := aw (i := 652) (by decide +kernel) rfl
theorem wi_J0_checkIndex_df160 : Cond.initialized (miY mi_J0_checkIndex_df160).cls ∈ ALLW := aw (i := 72) (by decide +kernel) rfl
theorem ws_J0_checkIndex_df160 : Cond.static (miY mi_J0_checkIndex_df160) ∈ ALLW := aw (i := 651) (by decide +kernel) rfl
def is_J1_charAt_3b067 : List (Instr × Nat) := [(.iload_n 1, 1), (.aload_n 0, 1), (.arraylength, 1), (.invokestatic 9, 3), (.aload_n 0, 1), (.iload_n 1, 1), (.baload, 1), (.sipush 255, 3), (.iand, 1), (.i2c, 1), (.ireturn, 1)]
abbrev mi_J1_charAt_3b067 : MI := (yJ1_charAt_3b067, cJ1_charAt_3b067, 2, (some .char), [], { frames := 2, cells := 0, slots := 0, locals := 43 }, is_J1_charAt_3b067)
theorem dc_J1_charAt_3b067 : dcb cJ1_charAt_3b067 is_J1_charAt_3b067 0 = true := by decide +kernel
theorem wc_J1_charAt_3b067 : cdw mi_J1_charAt_3b067 ∈ ALLW := aw (i := 649) (by decide +kernel) rfl
theorem wi_J1_charAt_3b067 : Cond.initialized (miY mi_J1_charAt_3b067).cls ∈ ALLW := aw (i := 73) (by decide +kernel) rfl
theorem ws_J1_charAt_3b067 : Cond.static (miY mi_J1_charAt_3b067) ∈ ALLW := aw (i := 648) (by decide +kernel) rfl
def is_J0_charAt_5068e : List (Instr × Nat) := [(.aload_n 0, 1), (.invokevirtual 492, 3), (.ifCond .eq 12, 3), (.aload_n 0, 1), (.getfield 9, 3), (.iload_n 1, 1), (.invokestatic 495, 3), (.ireturn, 1), (.aload_n 0, 1), (.getfield 9, 3), (.iload_n 1, 1), (.invokestatic 498, 3), (.ireturn, 1)]
abbrev mi_J0_charAt_5068e : MI := (yJ0_charAt_5068e, cJ0_charAt_5068e, 2, (some .char), [], { frames := 4, cells := 0, slots := 0, locals := 85 }, is_J0_charAt_5068e)
theorem dc_J0_charAt_5068e : dcb cJ0_charAt_5068e is_J0_charAt_5068e 0 = true := by decide +kernel
theorem wc_J0_charAt_5068e : cdw mi_J0_charAt_5068e ∈ ALLW := aw (i := 642) (by decide +kernel) rfl
theorem wi_J0_charAt_5068e : Cond.initialized (miY mi_J0_charAt_5068e).cls ∈ ALLW := aw (i := 72) (by decide +kernel) rfl
theorem wn_J0_charAt_5068e : Cond.instanceMethod (miY mi_J0_charAt_5068e) ∈ ALLW := aw (i := 640) (by decide +kernel) rfl
theorem wv_J0_charAt_5068e : Cond.selects (miY mi_J0_charAt_5068e).cls (miY mi_J0_charAt_5068e) (miY mi_J0_charAt_5068e) ∈ ALLW := aw (i := 641) (by decide +kernel) rfl
def is_X4_wordWith : List (Instr × Nat) := [(.iload_n 0, 1), (.lookupswitch 55 #[(100, 46), (104, 43), (109, 52), (119, 49)], 43), (.ldc 79, 2), (.areturn, 1), (.ldc 81, 2), (.areturn, 1), (.ldc 83, 2), (.areturn, 1), (.ldc 85, 2), (.areturn, 1), (.ldc 87, 2), (.areturn, 1)]
abbrev mi_X4_wordWith : MI := (yX4_wordWith, cX4_wordWith, 1, (some (.object "java/lang/String")), [], { frames := 0, cells := 0, slots := 0, locals := 0 }, is_X4_wordWith)
theorem dc_X4_wordWith : dcb cX4_wordWith is_X4_wordWith 0 = true := by decide +kernel
theorem wc_X4_wordWith : cdw mi_X4_wordWith ∈ ALLW := aw (i := 623) (by decide +kernel) rfl
theorem wi_X4_wordWith : Cond.initialized (miY mi_X4_wordWith).cls ∈ ALLW := aw (i := 59) (by decide +kernel) rfl
theorem ws_X4_wordWith : Cond.static (miY mi_X4_wordWith) ∈ ALLW := aw (i := 622) (by decide +kernel) rfl
/-! texts: their length and their letters -/
def txI : List Nat := txW.map (fun q => q.1)
def tx (j : Nat) : List Int32 := ((txW.find? (fun q => q.1 == j)).map (fun q => q.2)).getD []
theorem txI_mem : ∀ j ∈ txI, (j, tx j) ∈ txW := by decide +kernel
theorem tx_len : ∀ j ∈ txI, (tx j).length < 100 := by decide +kernel
theorem tx_ch : ∀ j ∈ txI, ∀ b ∈ tx j, b &&& 255 = b ∧ (b.toUInt32 % 65536).toInt32 = b := by decide +kernel
theorem ST.txs {G : Gx} {s : State} (h : ST G s) {j : Nat} (hj : j ∈ txI) : va_O "java/lang/String" (gS G j) (gA G) s (gH G) ∧ va_OF "java/lang/String" "coder" "B" (.int 0) (gS G j) (gA G) s (gH G) ∧ va_OF "java/lang/String" "value" "[B" (.ref (gS G (j + 64))) (gS G j) (gA G) s (gH G) ∧ va_T .byte (gS G (j + 64)) (tx j).length (fun i => .int ((tx j).getD i 0)) (gA G) s (gH G) := h.2.2.2.2.2.2.2.2.2.2.2.2.2.2 (j, tx j) (txI_mem j hj)
theorem txO {G : Gx} {j : Nat} (hj : j ∈ txI) : ∀ s, ST G s → va_O "java/lang/String" (gS G j) (gA G) s (gH G) := fun _ h => (h.txs hj).1
def kS (G : Gx) (f : Nat → Mm → Prop) : Rs → Mm → Prop := fun r M => ∃ j, r = .inl (some (.ref (gS G j))) ∧ f j M
theorem kS_no {G : Gx} {f : Nat → Mm → Prop} {X : String} {M : Mm} (h : kS G f (.inr X) M) : False := by
  obtain ⟨j, e, _⟩ := h
  cases e
theorem kS_l {G : Gx} {f : Nat → Mm → Prop} {v : Option Value} {M : Mm} (h : kS G f (.inl v) M) : ∃ j, v = some (.ref (gS G j)) ∧ f j M := by
  obtain ⟨j, e, h⟩ := h
  cases e
  exact ⟨j, rfl, h⟩
theorem x_J0_coder_7d493 {G : Gx} {K : Rs → Mm → Prop} {M : Mm} {j : Nat} (hj : j ∈ txI) (h : K (.inl (some (.int 0))) M) : MC G mi_J0_coder_7d493 [.ref (gS G j)] M K := by
  refine mc_of rfl (by decide +kernel) dc_J0_coder_7d493 (Nat.le_of_ble_eq_true rfl) 0 (Nat.le_of_ble_eq_true rfl) ?_
  show E G mi_J0_coder_7d493 K M 0 0 0 [some (.ref (gS G j))] []
  refine e_gets (.int 1) rfl (fun s hs => hs.2.2.2.2.2.2.2.2.2.2.2.1) (aw (i := 637) (by decide +kernel) rfl) ?_
  refine e_if_eq 13 rfl rfl (fun hc => absurd hc (by decide)) (fun _ => ?_)
  refine e_blk 1 6 _ _ (pc' := 7) (L' := [some (.ref (gS G j))]) (st' := [.ref (gS G j)]) rfl ?_
  refine e_oG (.int 0) rfl (fun s hs => (hs.txs hj).2.1) (aw (i := 1595) (by decide +kernel) rfl) ?_
  refine e_blk 1 10 _ _ (pc' := 14) (L' := [some (.ref (gS G j))]) (st' := [.int 0]) rfl ?_
  exact e_retc rfl rfl rfl (by decide) (by decide) h
theorem x_J0_isLatin1_aae02 {G : Gx} {K : Rs → Mm → Prop} {M : Mm} {j : Nat} (hj : j ∈ txI) (h : K (.inl (some (.int 1))) M) : MC G mi_J0_isLatin1_aae02 [.ref (gS G j)] M K := by
  refine mc_of rfl (by decide +kernel) dc_J0_isLatin1_aae02 (Nat.le_of_ble_eq_true rfl) 0 (Nat.le_of_ble_eq_true rfl) ?_
  show E G mi_J0_isLatin1_aae02 K M 0 0 0 [some (.ref (gS G j))] []
  refine e_gets (.int 1) rfl (fun s hs => hs.2.2.2.2.2.2.2.2.2.2.2.1) (aw (i := 637) (by decide +kernel) rfl) ?_
  refine e_if_eq 17 rfl rfl (fun hc => absurd hc (by decide)) (fun _ => ?_)
  refine e_blk 1 6 _ _ (pc' := 7) (L' := [some (.ref (gS G j))]) (st' := [.ref (gS G j)]) rfl ?_
  refine e_oG (.int 0) rfl (fun s hs => (hs.txs hj).2.1) (aw (i := 1595) (by decide +kernel) rfl) ?_
  refine e_if_ne 17 rfl rfl (fun hc => absurd rfl hc) (fun _ => ?_)
  refine e_blk 2 13 _ _ (pc' := 18) (L' := [some (.ref (gS G j))]) (st' := [.int (1 : Int32)]) rfl ?_
  exact e_retz rfl rfl (by decide) (by decide) (by decide) h
def V_J0_length_8abf5 (K : Rs → Mm → Prop) (M : Mm) (j : Nat) : Prop := K (.inl (some (.int (Int32.ofNat (tx j).length)))) M
theorem x_J0_length_8abf5 {G : Gx} {K : Rs → Mm → Prop} {M : Mm} {j : Nat} (hj : j ∈ txI) (h : V_J0_length_8abf5 K M j) : MC G mi_J0_length_8abf5 [.ref (gS G j)] M K := by
  refine mc_of rfl (by decide +kernel) dc_J0_length_8abf5 (Nat.le_of_ble_eq_true rfl) 0 (Nat.le_of_ble_eq_true rfl) ?_
  show E G mi_J0_length_8abf5 K M 0 0 0 [some (.ref (gS G j))] []
  refine e_blk 1 0 _ _ (pc' := 1) (L' := [some (.ref (gS G j))]) (st' := [.ref (gS G j)]) rfl ?_
  refine e_oG (.ref (gS G (j + 64))) rfl (fun s hs => (hs.txs hj).2.2.1) (aw (i := 1594) (by decide +kernel) rfl) ?_
  refine e_tL rfl (fun s hs => (hs.txs hj).2.2.2) ?_
  refine e_blk 1 5 _ _ (pc' := 6) (L' := [some (.ref (gS G j))]) (st' := [.ref (gS G j), .int (Int32.ofNat (tx j).length)]) rfl ?_
  refine e_callO (As := []) (rest := [.int (Int32.ofNat (tx j).length)]) (Q' := kI (fun r M' => r = 0 ∧ M' = M) (fun _ _ => False)) rfl (x_J0_coder_7d493 hj ⟨rfl, rfl⟩) (fun X M9 hq => hq) (txO hj) rfl (aw (i := 633) (by decide +kernel) rfl) wn_J0_coder_7d493 wv_J0_coder_7d493 wi_J0_coder_7d493 wc_J0_coder_7d493 (show cok mi_J0_length_8abf5 mi_J0_coder_7d493 0 0 0 = true by decide +kernel) (Nat.le_of_ble_eq_true rfl) (fun v9 M1 hq => ?_)
  obtain ⟨r, rfl, rfl, rfl⟩ := kI_l hq
  refine e_blk 1 9 _ _ (pc' := 10) (L' := [some (.ref (gS G j))]) (st' := [.int ((Int32.ofNat (tx j).length) >>> ((0 : Int32) &&& 31))]) rfl ?_
  rw [sb_shr0]
  exact e_reti rfl rfl (by decide) (by decide) h
theorem x_J3_checkIndex_8e157 {G : Gx} {K : Rs → Mm → Prop} {M : Mm} {i n : Int32} {o : Option Nat} (h0 : ¬ i < 0) (h1 : i < n) (h : K (.inl (some (.int i))) M) : MC G mi_J3_checkIndex_8e157 [.int i, .int n, va_rf o] M K := by
  cases o
  all_goals
    refine mc_of rfl (by decide +kernel) dc_J3_checkIndex_8e157 (Nat.le_of_ble_eq_true rfl) 0 (Nat.le_of_ble_eq_true rfl) ?_
    refine e_drp [true, true, false] (L' := [some (.int i), some (.int n), none]) rfl ?_
    refine e_blk 1 0 _ _ (pc' := 1) (L' := [some (.int i), some (.int n), none]) (st' := [.int i]) rfl ?_
    refine e_if_lt 9 rfl rfl (fun hc => absurd hc h0) (fun _ => ?_)
    refine e_blk 2 4 _ _ (pc' := 6) (L' := [some (.int i), some (.int n), none]) (st' := [.int n, .int i]) rfl ?_
    refine e_icmp_lt 16 rfl rfl (fun _ => ?_) (fun hc => absurd h1 hc)
    refine e_blk 1 16 _ _ (pc' := 17) (L' := [some (.int i), some (.int n), none]) (st' := [.int i]) rfl ?_
    exact e_reti rfl rfl (by decide) (by decide) h
theorem x_J0_checkIndex_df160 {G : Gx} {K : Rs → Mm → Prop} {M : Mm} {i n : Int32} (h0 : ¬ i < 0) (h1 : i < n) (h : K (.inl none) M) : MC G mi_J0_checkIndex_df160 [.int i, .int n] M K := by
  refine mc_of rfl (by decide +kernel) dc_J0_checkIndex_df160 (Nat.le_of_ble_eq_true rfl) 0 (Nat.le_of_ble_eq_true rfl) ?_
  show E G mi_J0_checkIndex_df160 K M 0 0 0 [some (.int i), some (.int n)] []
  refine e_blk 2 0 _ _ (pc' := 2) (L' := [some (.int i), some (.int n)]) (st' := [.int n, .int i]) rfl ?_
  refine e_getsQ rfl (fun s hs => hs.2.2.2.2.2.2.2.2.2.2.2.2.1) (aw (i := 653) (by decide +kernel) rfl) (fun o => ?_)
  refine e_callS (As := [.int i, .int n, va_rf o]) (rest := []) (Q' := kI (fun r M' => M' = M) (fun _ _ => False)) rfl (x_J3_checkIndex_8e157 h0 h1 rfl) rfl (aw (i := 655) (by decide +kernel) rfl) ws_J3_checkIndex_8e157 wi_J3_checkIndex_8e157 wc_J3_checkIndex_8e157 (show cok mi_J0_checkIndex_df160 mi_J3_checkIndex_8e157 0 0 3 = true by decide +kernel) (Nat.le_of_ble_eq_true rfl) (fun v9 M1 hq => ?_) (fun X M9 hq => False.elim hq)
  obtain ⟨r, rfl, rfl⟩ := kI_l hq
  refine e_blk 1 8 _ _ (pc' := 9) (L' := [some (.int i), some (.int n)]) (st' := []) rfl ?_
  exact e_ret rfl rfl (by decide) (by decide) h
theorem tx_in {j : Nat} (hj : j ∈ txI) {i : Int32} (hi : vp_in i (tx j).length) : ¬ i < 0 ∧ i < Int32.ofNat (tx j).length ∧ (tx j).getD i.toNatClampNeg 0 ∈ tx j := by
  have hl := tx_len j hj
  obtain ⟨z, hz, rfl⟩ := vp_in_of hi (by omega)
  refine ⟨nI_pos (by omega), nI_lt hz (by omega), ?_⟩
  rw [nI_clamp (by omega)]
  simp [List.getD, hz]
theorem x_J1_charAt_3b067 {G : Gx} {K : Rs → Mm → Prop} {M : Mm} {j : Nat} {i : Int32} (hj : j ∈ txI) (hi : vp_in i (tx j).length) (h : K (.inl (some (.int ((tx j).getD i.toNatClampNeg 0)))) M) : MC G mi_J1_charAt_3b067 [.ref (gS G (j + 64)), .int i] M K := by
  obtain ⟨i0, i1, i2⟩ := tx_in hj hi
  obtain ⟨c1, c2⟩ := tx_ch j hj _ i2
  refine mc_of rfl (by decide +kernel) dc_J1_charAt_3b067 (Nat.le_of_ble_eq_true rfl) 0 (Nat.le_of_ble_eq_true rfl) ?_
  show E G mi_J1_charAt_3b067 K M 0 0 0 [some (.ref (gS G (j + 64))), some (.int i)] []
  refine e_blk 2 0 _ _ (pc' := 2) (L' := [some (.ref (gS G (j + 64))), some (.int i)]) (st' := [.ref (gS G (j + 64)), .int i]) rfl ?_
  refine e_tL rfl (fun s hs => (hs.txs hj).2.2.2) ?_
  refine e_callS (As := [.int i, .int (Int32.ofNat (tx j).length)]) (rest := []) (Q' := kV (fun M' => M' = M) (fun _ _ => False)) rfl (x_J0_checkIndex_df160 i0 i1 rfl) rfl (aw (i := 650) (by decide +kernel) rfl) ws_J0_checkIndex_df160 wi_J0_checkIndex_df160 wc_J0_checkIndex_df160 (show cok mi_J1_charAt_3b067 mi_J0_checkIndex_df160 0 0 2 = true by decide +kernel) (Nat.le_of_ble_eq_true rfl) (fun v9 M1 hq => ?_) (fun X M9 hq => False.elim hq)
  obtain ⟨rfl, rfl⟩ := kV_l hq
  refine e_blk 2 6 _ _ (pc' := 8) (L' := [some (.ref (gS G (j + 64))), some (.int i)]) (st' := [.int i, .ref (gS G (j + 64))]) rfl ?_
  refine e_tB (.int ((tx j).getD i.toNatClampNeg 0)) rfl (fun s hs => (hs.txs hj).2.2.2) hi rfl ?_
  refine e_blk 3 9 _ _ (pc' := 14) (L' := [some (.ref (gS G (j + 64))), some (.int i)]) (st' := [.int ((((tx j).getD i.toNatClampNeg 0) &&& (255 : Int32)).toUInt32 % 65536).toInt32]) rfl ?_
  rw [c1, c2]
  refine e_retc rfl rfl ?_ (by decide) (by decide) h
  have := pk_nc ((tx j).getD i.toNatClampNeg 0)
  rw [c2] at this
  exact this
def V_J0_charAt_5068e (K : Rs → Mm → Prop) (M : Mm) (j : Nat) (i : Int32) : Prop := vp_in i (tx j).length ∧ K (.inl (some (.int ((tx j).getD i.toNatClampNeg 0)))) M
theorem x_J0_charAt_5068e {G : Gx} {K : Rs → Mm → Prop} {M : Mm} {j : Nat} {i : Int32} (hj : j ∈ txI) (h : V_J0_charAt_5068e K M j i) : MC G mi_J0_charAt_5068e [.ref (gS G j), .int i] M K := by
  obtain ⟨hi, h⟩ := h
  obtain ⟨i0, i1, i2⟩ := tx_in hj hi
  obtain ⟨c1, c2⟩ := tx_ch j hj _ i2
  refine mc_of rfl (by decide +kernel) dc_J0_charAt_5068e (Nat.le_of_ble_eq_true rfl) 0 (Nat.le_of_ble_eq_true rfl) ?_
  show E G mi_J0_charAt_5068e K M 0 0 0 [some (.ref (gS G j)), some (.int i)] []
  refine e_blk 1 0 _ _ (pc' := 1) (L' := [some (.ref (gS G j)), some (.int i)]) (st' := [.ref (gS G j)]) rfl ?_
  refine e_callO (As := []) (rest := []) (Q' := kI (fun r M' => r = 1 ∧ M' = M) (fun _ _ => False)) rfl (x_J0_isLatin1_aae02 hj ⟨rfl, rfl⟩) (fun X M9 hq => hq) (txO hj) rfl (aw (i := 643) (by decide +kernel) rfl) wn_J0_isLatin1_aae02 wv_J0_isLatin1_aae02 wi_J0_isLatin1_aae02 wc_J0_isLatin1_aae02 (show cok mi_J0_charAt_5068e mi_J0_isLatin1_aae02 0 0 0 = true by decide +kernel) (Nat.le_of_ble_eq_true rfl) (fun v9 M1 hq => ?_)
  obtain ⟨r, rfl, rfl, rfl⟩ := kI_l hq
  refine e_if_eq 16 rfl rfl (fun hc => absurd hc (by decide)) (fun _ => ?_)
  refine e_blk 1 7 _ _ (pc' := 8) (L' := [some (.ref (gS G j)), some (.int i)]) (st' := [.ref (gS G j)]) rfl ?_
  refine e_oG (.ref (gS G (j + 64))) rfl (fun s hs => (hs.txs hj).2.2.1) (aw (i := 1594) (by decide +kernel) rfl) ?_
  refine e_blk 1 11 _ _ (pc' := 12) (L' := [some (.ref (gS G j)), some (.int i)]) (st' := [.int i, .ref (gS G (j + 64))]) rfl ?_
  refine e_callS (As := [.ref (gS G (j + 64)), .int i]) (rest := []) (Q' := kI (fun r M' => r = (tx j).getD i.toNatClampNeg 0 ∧ M' = M1) (fun _ _ => False)) rfl (x_J1_charAt_3b067 hj hi ⟨rfl, rfl⟩) rfl (aw (i := 647) (by decide +kernel) rfl) ws_J1_charAt_3b067 wi_J1_charAt_3b067 wc_J1_charAt_3b067 (show cok mi_J0_charAt_5068e mi_J1_charAt_3b067 0 0 2 = true by decide +kernel) (Nat.le_of_ble_eq_true rfl) (fun v9 M2 hq => ?_) (fun X M9 hq => False.elim hq)
  obtain ⟨r, rfl, rfl, rfl⟩ := kI_l hq
  refine e_retc rfl rfl ?_ (by decide) (by decide) h
  have := pk_nc ((tx j).getD i.toNatClampNeg 0)
  rw [c2] at this
  exact this
def V_X4_wordWith (f : Nat → Mm → Prop) (M : Mm) (a0 : Int32) : Prop := ((a0 = 104 → f 14 M) ∧ (a0 = 100 → f 15 M) ∧ (a0 = 119 → f 16 M) ∧ (a0 = 109 → f 17 M) ∧ (¬ a0 = 104 → ¬ a0 = 100 → ¬ a0 = 119 → ¬ a0 = 109 → f 18 M))
theorem x_X4_wordWith {G : Gx} {f : Nat → Mm → Prop} {M : Mm} {a0 : Int32} (h : V_X4_wordWith f M a0) : MC G mi_X4_wordWith [.int a0] M (kS G f) := by
  refine mc_of rfl (by decide +kernel) dc_X4_wordWith (Nat.le_of_ble_eq_true rfl) 0 (Nat.le_of_ble_eq_true rfl) ?_
  show E G mi_X4_wordWith (kS G f) M 0 0 0 [some (.int a0)] []
  refine e_blk 1 0 _ _ (pc' := 1) (L' := [some (.int a0)]) (st' := [.int a0]) rfl ?_
  by_cases e1 : a0 = 104
  · refine e_lsw 43 44 rfl (by decide) (by rw [e1]; decide) rfl ?_
    refine e_ldS (text := "hourly") 14 rfl (by decide) ?_
    exact e_reta (v := some (gS G 14)) rfl rfl (by decide) (by decide) ⟨_, rfl, h.1 e1⟩
  by_cases e2 : a0 = 100
  · refine e_lsw 46 47 rfl (by decide) (by rw [e2]; decide) rfl ?_
    refine e_ldS (text := "daily") 15 rfl (by decide) ?_
    exact e_reta (v := some (gS G 15)) rfl rfl (by decide) (by decide) ⟨_, rfl, h.2.1 e2⟩
  by_cases e3 : a0 = 119
  · refine e_lsw 49 50 rfl (by decide) (by rw [e3]; decide) rfl ?_
    refine e_ldS (text := "weekly") 16 rfl (by decide) ?_
    exact e_reta (v := some (gS G 16)) rfl rfl (by decide) (by decide) ⟨_, rfl, h.2.2.1 e3⟩
  by_cases e4 : a0 = 109
  · refine e_lsw 52 53 rfl (by decide) (by rw [e4]; decide) rfl ?_
    refine e_ldS (text := "monthly") 17 rfl (by decide) ?_
    exact e_reta (v := some (gS G 17)) rfl rfl (by decide) (by decide) ⟨_, rfl, h.2.2.2.1 e4⟩
  · have t1 : a0.toInt ≠ 104 := fun q => e1 (Int32.toInt_inj.mp (q.trans (by decide)))
    have t2 : a0.toInt ≠ 100 := fun q => e2 (Int32.toInt_inj.mp (q.trans (by decide)))
    have t3 : a0.toInt ≠ 119 := fun q => e3 (Int32.toInt_inj.mp (q.trans (by decide)))
    have t4 : a0.toInt ≠ 109 := fun q => e4 (Int32.toInt_inj.mp (q.trans (by decide)))
    refine e_lsw 55 56 rfl (by decide) (by simp [Op.lookupswitch.offset, t1.symm, t2.symm, t3.symm, t4.symm]) rfl ?_
    refine e_ldS (text := "yearly") 18 rfl (by decide) ?_
    exact e_reta (v := some (gS G 18)) rfl rfl (by decide) (by decide) ⟨_, rfl, h.2.2.2.2 e1 e2 e3 e4⟩
