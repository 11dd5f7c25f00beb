/-! the law itself -/
theorem cokL {mi mi' : MI} {k n na : Nat} (h : cok mi mi' 0 0 na = true) (hk : k + (miM mi').cells ≤ (miM mi).cells) (hn : n + (miM mi').slots ≤ (miM mi).slots) : cok mi mi' k n na = true := by
  simp only [cok, Bool.and_eq_true, decide_eq_true_eq] at h ⊢
  exact ⟨h.1, h.2.1, Nat.ble_eq_true_of_le hk, Nat.ble_eq_true_of_le hn, h.2.2.2.2⟩
/-- invokestatic of a method with a table of handlers -/
theorem e_callSH {G : Gx} {mi mi' : MI} {Q Q' : Rs → Mm → Prop} {M : Mm} {k n pc idx : Nat} {L : List (Option Value)} {As rest : List Value} (hd : lkp (miI mi) 0 pc = some (.invokestatic idx, 3)) (hM' : MC G mi' As M Q') (hH : miH mi' ≠ []) (hwl : Cond.methodLink (miY mi).cls idx (miY mi') ∈ ALLW) (hws : Cond.static (miY mi') ∈ ALLW) (hwi : Cond.initialized (miY mi').cls ∈ ALLW) (hwc : cdw mi' ∈ ALLW)
    (hok : cok mi mi' k n As.length = true) (hrm : (rest.map fun v => v.category).sum ≤ 8)
    (hret : ∀ (v : Option Value) (M' : Mm), Q' (.inl v) M' → E G mi Q M' (k + (miM mi').cells) (n + (miM mi').slots) (pc + 3) L (v.toList ++ rest))
    (hthr : ∀ (X : String) (M' : Mm), Q' (.inr X) M' → ET G mi Q M' (k + (miM mi').cells) (n + (miM mi').slots) pc L rest X) : E G mi Q M k n pc L (As.reverse ++ rest) := by
  intro p e s m args below meth c H locs ls hC hS hM hl
  obtain ⟨o1, o2, o3, o4, o5, o6, o7⟩ := cok_ok hok
  have hcd : cdw mi' = .codeWith (miY mi') (miC mi') (miL mi') (miR mi') (miH mi') := by
    unfold cdw
    cases hx : miH mi' with
    | nil => exact absurd hx hH
    | cons x r => rfl
  have hw9 := ew_ws hC hwc
  have hc9 := hC.ws hwc
  unfold MC at hM'
  rw [hcd] at hM' hw9 hc9
  exact e_run hC hS hl (vx_runSX (hh := miH mi') (As := As) (Ts := ALLW) ⟨hC.1, hC.2.1, hC.2.2.1, hC.own, hC.2.2.2.2.2.2.2.2.1⟩ hM' ⟨⟨rfl, rfl, o1, o2, hw9, List.mem_cons_self⟩, hc9, hC.ws hwi, ⟨o5, o6⟩, o7, hC.ws hwl, hC.ws hws⟩ ⟨xP_blind G As M, e_pre hC hS hM As⟩ rfl rfl hl.1.1 rfl (lv_room hrm) (hC.dec hd) ⟨o3, o4⟩) hret hthr
abbrev mi_L_law : MI := (x, code, 8, (some .boolean), [], room_1, is_L_law)
def V_L_law_1601 (G : Gx) (K : Rs → Mm → Prop) (B23 : Mm → Nat → Nat → Nat → Int32 → Prop) (M : Mm) (l1 : Nat) (l2 : Nat) (l3 : Nat) (l4 : Int32) : Prop := ∀ x1 : Int32, x1 = (l4 + (7 : Int32)) → B23 M l1 l2 l3 x1
set_option maxRecDepth 100000 in
set_option maxHeartbeats 4000000 in
theorem x_L_law_1601 {G : Gx} {K : Rs → Mm → Prop} {kk nn : Nat} (hkk : kk + 5 ≤ 601024) (hnn : nn + 30 ≤ 7293034) {B23 : Mm → Nat → Nat → Nat → Int32 → Prop} (hB23 : ∀ M l1 l2 l3 l4, B23 M l1 l2 l3 l4 → E G mi_L_law K M (kk + 5) (nn + 30) 23 [some (.ref (gS G 200)), some (.ref l1), some (.ref l2), some (.ref l3), some (.int l4), none, none, none] []) {M : Mm} {l1 : Nat} {l2 : Nat} {l3 : Nat} {l4 : Int32} (h : V_L_law_1601 G K B23 M l1 l2 l3 l4) : E G mi_L_law K M (kk + 5) (nn + 30) 1601 [some (.ref (gS G 200)), some (.ref l1), some (.ref l2), some (.ref l3), some (.int l4), none, none, none] [] := by
  unfold V_L_law_1601 at h
  refine e_blk 2 1601 _ _ (pc' := 23) (L' := [some (.ref (gS G 200)), some (.ref l1), some (.ref l2), some (.ref l3), some (.int (l4 + (7 : Int32))), none, none, none]) (st' := []) rfl ?_
  generalize hx_x1 : ((l4 + (7 : Int32)) : Int32) = x1
  replace h := h x1 hx_x1.symm
  refine e_wid (k' := kk + 5) (n' := nn + 30) (show _ ≤ _ by omega) (show _ ≤ _ by omega) ?_
  refine e_drp [true, true, true, true, true, false, false, false] (L' := [some (.ref (gS G 200)), some (.ref l1), some (.ref l2), some (.ref l3), some (.int x1), none, none, none]) rfl ?_
  exact hB23 _ _ _ _ _ h
def V_L_law_1598 (G : Gx) (K : Rs → Mm → Prop) (B23 : Mm → Nat → Nat → Nat → Int32 → Prop) (M : Mm) (l1 : Nat) (l2 : Nat) (l3 : Nat) (l4 : Int32) : Prop := V_L_law_1601 G K B23 M l1 l2 l3 l4
set_option maxRecDepth 100000 in
set_option maxHeartbeats 4000000 in
theorem x_L_law_1598 {G : Gx} {K : Rs → Mm → Prop} {kk nn : Nat} (hkk : kk + 5 ≤ 601024) (hnn : nn + 30 ≤ 7293034) {B23 : Mm → Nat → Nat → Nat → Int32 → Prop} (hB23 : ∀ M l1 l2 l3 l4, B23 M l1 l2 l3 l4 → E G mi_L_law K M (kk + 5) (nn + 30) 23 [some (.ref (gS G 200)), some (.ref l1), some (.ref l2), some (.ref l3), some (.int l4), none, none, none] []) {M : Mm} {l1 : Nat} {l2 : Nat} {l3 : Nat} {l4 : Int32} (h : V_L_law_1598 G K B23 M l1 l2 l3 l4) : E G mi_L_law K M (kk + 1) (nn + 6) 1598 [some (.ref (gS G 200)), some (.ref l1), some (.ref l2), some (.ref l3), some (.int l4), none, none, none] [] := by
  unfold V_L_law_1598 at h
  refine e_blk 1 1598 _ _ (pc' := 1601) (L' := [some (.ref (gS G 200)), some (.ref l1), some (.ref l2), some (.ref l3), some (.int l4), none, none, none]) (st' := []) rfl ?_
  refine e_wid (k' := kk + 5) (n' := nn + 30) (show _ ≤ _ by omega) (show _ ≤ _ by omega) ?_
  refine e_drp [true, true, true, true, true, false, false, false] (L' := [some (.ref (gS G 200)), some (.ref l1), some (.ref l2), some (.ref l3), some (.int l4), none, none, none]) rfl ?_
  exact x_L_law_1601 hkk hnn hB23 h
def V_L_law_1545 (G : Gx) (K : Rs → Mm → Prop) (B23 : Mm → Nat → Nat → Nat → Int32 → Prop) (M : Mm) (l1 : Nat) (l2 : Nat) (l3 : Nat) (l4 : Int32) : Prop := (vp_in (l4 + (1 : Int32)) (gS G 201) ∧ V_L_count (kI (fun r3 M2 => (vp_in (l4 + (1 : Int32)) (gS G 201) ∧ (ob M2 l2 7 ∧ V_X7_count (kI (fun r7 M6 => (ob M6 l2 7 ∧ V_X7_thrown (kI (fun r10 M9 => ((r10 = r3 → ((¬ r3 = 0 → V_L_law_1598 G K B23 M9 l1 l2 l3 l4) ∧ (r3 = 0 → (ob M9 l3 10 ∧ (vp_in (0 : Int32) (mN M9 l3) ∧ (((lg_cmp (mJ M9 l3 ((0 : Int32)).toNatClampNeg) ((r7).toInt64)) = 0 → V_L_law_1598 G K B23 M9 l1 l2 l3 l4) ∧ (¬ (lg_cmp (mJ M9 l3 ((0 : Int32)).toNatClampNeg) ((r7).toInt64)) = 0 → K (.inl (some (.int (0 : Int32)))) M9))))))) ∧ (¬ r10 = r3 → K (.inl (some (.int (0 : Int32)))) M9))) (fun _ _ => False)) M6 l2)) (fun _ _ => False)) M2 l2 (gX G ((l4 + (1 : Int32))).toNatClampNeg)))) (fun _ _ => False)) M l1 (gX G ((l4 + (1 : Int32))).toNatClampNeg) l3)
set_option maxRecDepth 100000 in
set_option maxHeartbeats 4000000 in
theorem x_L_law_1545 {G : Gx} {K : Rs → Mm → Prop} {kk nn : Nat} (hkk : kk + 5 ≤ 601024) (hnn : nn + 30 ≤ 7293034) {B23 : Mm → Nat → Nat → Nat → Int32 → Prop} (hB23 : ∀ M l1 l2 l3 l4, B23 M l1 l2 l3 l4 → E G mi_L_law K M (kk + 5) (nn + 30) 23 [some (.ref (gS G 200)), some (.ref l1), some (.ref l2), some (.ref l3), some (.int l4), none, none, none] []) {M : Mm} {l1 : Nat} {l2 : Nat} {l3 : Nat} {l4 : Int32} (h : V_L_law_1545 G K B23 M l1 l2 l3 l4) : E G mi_L_law K M (kk + 0) (nn + 0) 1545 [some (.ref (gS G 200)), some (.ref l1), some (.ref l2), some (.ref l3), some (.int l4), none, none, none] [] := by
  unfold V_L_law_1545 at h
  refine e_blk 5 1545 _ _ (pc' := 1551) (L' := [some (.ref (gS G 200)), some (.ref l1), some (.ref l2), some (.ref l3), some (.int l4), none, none, none]) (st' := [.int (l4 + (1 : Int32)), .ref (gS G 200), .ref l1]) rfl ?_
  obtain ⟨hi1, h⟩ := h
  refine e_tI (.int (gX G ((l4 + (1 : Int32))).toNatClampNeg)) rfl (fun s hs => hs.scr) hi1 rfl ?_
  refine e_blk 1 1552 _ _ (pc' := 1553) (L' := [some (.ref (gS G 200)), some (.ref l1), some (.ref l2), some (.ref l3), some (.int l4), none, none, none]) (st' := [.ref l3, .int (gX G ((l4 + (1 : Int32))).toNatClampNeg), .ref l1]) rfl ?_
  refine e_callSH (As := [.ref l1, .int (gX G ((l4 + (1 : Int32))).toNatClampNeg), .ref l3]) (rest := []) rfl (x_L_count h) (by decide) (aw (i := 1048) (by decide +kernel) rfl) ws_L_count wi_L_count wc_L_count (cokL (show cok mi_L_law mi_L_count 0 0 3 = true by decide +kernel) (show _ + 1 ≤ 601024 by omega) (show _ + 6 ≤ 7293034 by omega)) (Nat.le_of_ble_eq_true rfl) (fun v9 M2 hq => ?_) (fun X M9 hq => False.elim hq)
  refine e_wid (k' := kk + 1) (n' := nn + 6) (show _ + 1 ≤ _ by omega) (show _ + 6 ≤ _ by omega) ?_
  obtain ⟨r3, rfl, h⟩ := kI_l hq
  refine e_blk 6 1556 _ _ (pc' := 1564) (L' := [some (.ref (gS G 200)), some (.ref l1), some (.ref l2), some (.ref l3), some (.int l4), some (.int r3), none, none]) (st' := [.int (l4 + (1 : Int32)), .ref (gS G 200), .ref l2]) rfl ?_
  obtain ⟨hi4, h⟩ := h
  refine e_tI (.int (gX G ((l4 + (1 : Int32))).toNatClampNeg)) rfl (fun s hs => hs.scr) hi4 rfl ?_
  obtain ⟨ho5, h⟩ := h
  refine e_callV (As := [.int (gX G ((l4 + (1 : Int32))).toNatClampNeg)]) (rest := []) (ci := 7) rfl (x_X7_count h) ho5 rfl rfl rfl (aw (i := 1588) (by decide +kernel) rfl) wn_X7_count wv_X7_count wi_X7_count wc_X7_count (cokL (show cok mi_L_law mi_X7_count 0 0 1 = true by decide +kernel) (show _ + 0 ≤ 601024 by omega) (show _ + 0 ≤ 7293034 by omega)) (Nat.le_of_ble_eq_true rfl) (fun v9 M6 hq => ?_) (fun X M9 hq => False.elim hq)
  refine e_wid (k' := kk + 1) (n' := nn + 6) (show _ + 0 ≤ _ by omega) (show _ + 0 ≤ _ by omega) ?_
  obtain ⟨r7, rfl, h⟩ := kI_l hq
  refine e_blk 2 1568 _ _ (pc' := 1571) (L' := [some (.ref (gS G 200)), some (.ref l1), some (.ref l2), some (.ref l3), some (.int l4), some (.int r3), some (.int r7), none]) (st' := [.ref l2]) rfl ?_
  obtain ⟨ho8, h⟩ := h
  refine e_callV (As := []) (rest := []) (ci := 7) rfl (x_X7_thrown h) ho8 rfl rfl rfl (aw (i := 1247) (by decide +kernel) rfl) wn_X7_thrown wv_X7_thrown wi_X7_thrown wc_X7_thrown (cokL (show cok mi_L_law mi_X7_thrown 0 0 0 = true by decide +kernel) (show _ + 0 ≤ 601024 by omega) (show _ + 0 ≤ 7293034 by omega)) (Nat.le_of_ble_eq_true rfl) (fun v9 M9 hq => ?_) (fun X M9 hq => False.elim hq)
  refine e_wid (k' := kk + 1) (n' := nn + 6) (show _ + 0 ≤ _ by omega) (show _ + 0 ≤ _ by omega) ?_
  obtain ⟨r10, rfl, h⟩ := kI_l hq
  refine e_blk 1 1574 _ _ (pc' := 1576) (L' := [some (.ref (gS G 200)), some (.ref l1), some (.ref l2), some (.ref l3), some (.int l4), some (.int r3), some (.int r7), none]) (st' := [.int r3, .int r10]) rfl ?_
  refine e_icmp_eq 1581 rfl rfl (fun hc => ?_) (fun hc => ?_)
  · replace h := h.1 hc
    refine e_blk 1 1581 _ _ (pc' := 1583) (L' := [some (.ref (gS G 200)), some (.ref l1), some (.ref l2), some (.ref l3), some (.int l4), some (.int r3), some (.int r7), none]) (st' := [.int r3]) rfl ?_
    refine e_if_ne 1598 rfl rfl (fun hc => ?_) (fun hc => ?_)
    · replace h := h.1 hc
      refine e_wid (k' := kk + 1) (n' := nn + 6) (show _ ≤ _ by omega) (show _ ≤ _ by omega) ?_
      refine e_drp [true, true, true, true, true, false, false, false] (L' := [some (.ref (gS G 200)), some (.ref l1), some (.ref l2), some (.ref l3), some (.int l4), none, none, none]) rfl ?_
      exact x_L_law_1598 hkk hnn hB23 h
    · replace h := h.2 hc
      refine e_blk 2 1586 _ _ (pc' := 1588) (L' := [some (.ref (gS G 200)), some (.ref l1), some (.ref l2), some (.ref l3), some (.int l4), some (.int r3), some (.int r7), none]) (st' := [.int (0 : Int32), .ref l3]) rfl ?_
      obtain ⟨ho11, h⟩ := h
      obtain ⟨hi12, h⟩ := h
      refine e_lald rfl ho11 hi12 ?_
      refine e_blk 3 1589 _ _ (pc' := 1593) (L' := [some (.ref (gS G 200)), some (.ref l1), some (.ref l2), some (.ref l3), some (.int l4), some (.int r3), some (.int r7), none]) (st' := [.int (lg_cmp (mJ M9 l3 ((0 : Int32)).toNatClampNeg) ((r7).toInt64))]) rfl ?_
      refine e_if_eq 1598 rfl rfl (fun hc => ?_) (fun hc => ?_)
      · replace h := h.1 hc
        refine e_wid (k' := kk + 1) (n' := nn + 6) (show _ ≤ _ by omega) (show _ ≤ _ by omega) ?_
        refine e_drp [true, true, true, true, true, false, false, false] (L' := [some (.ref (gS G 200)), some (.ref l1), some (.ref l2), some (.ref l3), some (.int l4), none, none, none]) rfl ?_
        exact x_L_law_1598 hkk hnn hB23 h
      · replace h := h.2 hc
        refine e_blk 1 1596 _ _ (pc' := 1597) (L' := [some (.ref (gS G 200)), some (.ref l1), some (.ref l2), some (.ref l3), some (.int l4), some (.int r3), some (.int r7), none]) (st' := [.int (0 : Int32)]) rfl ?_
        exact e_retz rfl rfl (by decide) (show _ ≤ 601024 by omega) (show _ ≤ 7293034 by omega) h
  · replace h := h.2 hc
    refine e_blk 1 1579 _ _ (pc' := 1580) (L' := [some (.ref (gS G 200)), some (.ref l1), some (.ref l2), some (.ref l3), some (.int l4), some (.int r3), some (.int r7), none]) (st' := [.int (0 : Int32)]) rfl ?_
    exact e_retz rfl rfl (by decide) (show _ ≤ 601024 by omega) (show _ ≤ 7293034 by omega) h
def V_L_law_1532 (G : Gx) (K : Rs → Mm → Prop) (B23 : Mm → Nat → Nat → Nat → Int32 → Prop) (M : Mm) (l1 : Nat) (l2 : Nat) (l3 : Nat) (l4 : Int32) : Prop := (ob M l1 6 ∧ V_X6_tear (kI (fun r3 M2 => (ob M2 l2 7 ∧ V_X7_tear (kI (fun r6 M5 => ((r3 = r6 → V_L_law_1601 G K B23 M5 l1 l2 l3 l4) ∧ (¬ r3 = r6 → K (.inl (some (.int (0 : Int32)))) M5))) (fun _ _ => False)) M2 l2)) (fun _ _ => False)) M l1)
set_option maxRecDepth 100000 in
set_option maxHeartbeats 4000000 in
theorem x_L_law_1532 {G : Gx} {K : Rs → Mm → Prop} {kk nn : Nat} (hkk : kk + 5 ≤ 601024) (hnn : nn + 30 ≤ 7293034) {B23 : Mm → Nat → Nat → Nat → Int32 → Prop} (hB23 : ∀ M l1 l2 l3 l4, B23 M l1 l2 l3 l4 → E G mi_L_law K M (kk + 5) (nn + 30) 23 [some (.ref (gS G 200)), some (.ref l1), some (.ref l2), some (.ref l3), some (.int l4), none, none, none] []) {M : Mm} {l1 : Nat} {l2 : Nat} {l3 : Nat} {l4 : Int32} (h : V_L_law_1532 G K B23 M l1 l2 l3 l4) : E G mi_L_law K M (kk + 0) (nn + 0) 1532 [some (.ref (gS G 200)), some (.ref l1), some (.ref l2), some (.ref l3), some (.int l4), none, none, none] [] := by
  unfold V_L_law_1532 at h
  refine e_blk 1 1532 _ _ (pc' := 1533) (L' := [some (.ref (gS G 200)), some (.ref l1), some (.ref l2), some (.ref l3), some (.int l4), none, none, none]) (st' := [.ref l1]) rfl ?_
  obtain ⟨ho1, h⟩ := h
  refine e_callV (As := []) (rest := []) (ci := 6) rfl (x_X6_tear h) ho1 rfl rfl rfl (aw (i := 365) (by decide +kernel) rfl) wn_X6_tear wv_X6_tear wi_X6_tear wc_X6_tear (cokL (show cok mi_L_law mi_X6_tear 0 0 0 = true by decide +kernel) (show _ + 0 ≤ 601024 by omega) (show _ + 0 ≤ 7293034 by omega)) (Nat.le_of_ble_eq_true rfl) (fun v9 M2 hq => ?_) (fun X M9 hq => False.elim hq)
  refine e_wid (k' := kk + 0) (n' := nn + 0) (show _ + 0 ≤ _ by omega) (show _ + 0 ≤ _ by omega) ?_
  obtain ⟨r3, rfl, h⟩ := kI_l hq
  refine e_blk 1 1536 _ _ (pc' := 1537) (L' := [some (.ref (gS G 200)), some (.ref l1), some (.ref l2), some (.ref l3), some (.int l4), none, none, none]) (st' := [.ref l2, .int r3]) rfl ?_
  obtain ⟨ho4, h⟩ := h
  refine e_callV (As := []) (rest := [.int r3]) (ci := 7) rfl (x_X7_tear h) ho4 rfl rfl rfl (aw (i := 1584) (by decide +kernel) rfl) wn_X7_tear wv_X7_tear wi_X7_tear wc_X7_tear (cokL (show cok mi_L_law mi_X7_tear 0 0 0 = true by decide +kernel) (show _ + 0 ≤ 601024 by omega) (show _ + 0 ≤ 7293034 by omega)) (Nat.le_of_ble_eq_true rfl) (fun v9 M5 hq => ?_) (fun X M9 hq => False.elim hq)
  refine e_wid (k' := kk + 0) (n' := nn + 0) (show _ + 0 ≤ _ by omega) (show _ + 0 ≤ _ by omega) ?_
  obtain ⟨r6, rfl, h⟩ := kI_l hq
  refine e_icmp_eq 1601 rfl rfl (fun hc => ?_) (fun hc => ?_)
  · replace h := h.1 hc
    refine e_wid (k' := kk + 5) (n' := nn + 30) (show _ ≤ _ by omega) (show _ ≤ _ by omega) ?_
    refine e_drp [true, true, true, true, true, false, false, false] (L' := [some (.ref (gS G 200)), some (.ref l1), some (.ref l2), some (.ref l3), some (.int l4), none, none, none]) rfl ?_
    exact x_L_law_1601 hkk hnn hB23 h
  · replace h := h.2 hc
    refine e_blk 1 1543 _ _ (pc' := 1544) (L' := [some (.ref (gS G 200)), some (.ref l1), some (.ref l2), some (.ref l3), some (.int l4), none, none, none]) (st' := [.int (0 : Int32)]) rfl ?_
    exact e_retz rfl rfl (by decide) (show _ ≤ 601024 by omega) (show _ ≤ 7293034 by omega) h
def V_L_law_1529 (G : Gx) (K : Rs → Mm → Prop) (B23 : Mm → Nat → Nat → Nat → Int32 → Prop) (M : Mm) (l1 : Nat) (l2 : Nat) (l3 : Nat) (l4 : Int32) : Prop := V_L_law_1601 G K B23 M l1 l2 l3 l4
set_option maxRecDepth 100000 in
set_option maxHeartbeats 4000000 in
theorem x_L_law_1529 {G : Gx} {K : Rs → Mm → Prop} {kk nn : Nat} (hkk : kk + 5 ≤ 601024) (hnn : nn + 30 ≤ 7293034) {B23 : Mm → Nat → Nat → Nat → Int32 → Prop} (hB23 : ∀ M l1 l2 l3 l4, B23 M l1 l2 l3 l4 → E G mi_L_law K M (kk + 5) (nn + 30) 23 [some (.ref (gS G 200)), some (.ref l1), some (.ref l2), some (.ref l3), some (.int l4), none, none, none] []) {M : Mm} {l1 : Nat} {l2 : Nat} {l3 : Nat} {l4 : Int32} (h : V_L_law_1529 G K B23 M l1 l2 l3 l4) : E G mi_L_law K M (kk + 2) (nn + 12) 1529 [some (.ref (gS G 200)), some (.ref l1), some (.ref l2), some (.ref l3), some (.int l4), none, none, none] [] := by
  unfold V_L_law_1529 at h
  refine e_blk 1 1529 _ _ (pc' := 1601) (L' := [some (.ref (gS G 200)), some (.ref l1), some (.ref l2), some (.ref l3), some (.int l4), none, none, none]) (st' := []) rfl ?_
  refine e_wid (k' := kk + 5) (n' := nn + 30) (show _ ≤ _ by omega) (show _ ≤ _ by omega) ?_
  refine e_drp [true, true, true, true, true, false, false, false] (L' := [some (.ref (gS G 200)), some (.ref l1), some (.ref l2), some (.ref l3), some (.int l4), none, none, none]) rfl ?_
  exact x_L_law_1601 hkk hnn hB23 h
def V_L_law_1464 (G : Gx) (K : Rs → Mm → Prop) (B23 : Mm → Nat → Nat → Nat → Int32 → Prop) (M : Mm) (l1 : Nat) (l2 : Nat) (l3 : Nat) (l4 : Int32) : Prop := (vp_in (l4 + (1 : Int32)) (gS G 201) ∧ (vp_in (l4 + (2 : Int32)) (gS G 201) ∧ V_L_log (kI (fun r4 M3 => (vp_in (l4 + (1 : Int32)) (gS G 201) ∧ (vp_in (l4 + (2 : Int32)) (gS G 201) ∧ (ob M3 l2 7 ∧ V_X7_log (kI (fun r9 M8 => (ob M8 l2 7 ∧ V_X7_thrown (kI (fun r12 M11 => ((r12 = r4 → ((¬ r4 = 0 → V_L_law_1529 G K B23 M11 l1 l2 l3 l4) ∧ (r4 = 0 → (ob M11 l3 10 ∧ (vp_in (0 : Int32) (mN M11 l3) ∧ (((lg_cmp (mJ M11 l3 ((0 : Int32)).toNatClampNeg) ((r9).toInt64)) = 0 → V_L_law_1529 G K B23 M11 l1 l2 l3 l4) ∧ (¬ (lg_cmp (mJ M11 l3 ((0 : Int32)).toNatClampNeg) ((r9).toInt64)) = 0 → K (.inl (some (.int (0 : Int32)))) M11))))))) ∧ (¬ r12 = r4 → K (.inl (some (.int (0 : Int32)))) M11))) (fun _ _ => False)) M8 l2)) (fun _ _ => False)) M3 l2 (gX G ((l4 + (1 : Int32))).toNatClampNeg) (gX G ((l4 + (2 : Int32))).toNatClampNeg))))) (fun _ _ => False)) M l1 (gX G ((l4 + (1 : Int32))).toNatClampNeg) (gX G ((l4 + (2 : Int32))).toNatClampNeg) l3))
set_option maxRecDepth 100000 in
set_option maxHeartbeats 4000000 in
theorem x_L_law_1464 {G : Gx} {K : Rs → Mm → Prop} {kk nn : Nat} (hkk : kk + 5 ≤ 601024) (hnn : nn + 30 ≤ 7293034) {B23 : Mm → Nat → Nat → Nat → Int32 → Prop} (hB23 : ∀ M l1 l2 l3 l4, B23 M l1 l2 l3 l4 → E G mi_L_law K M (kk + 5) (nn + 30) 23 [some (.ref (gS G 200)), some (.ref l1), some (.ref l2), some (.ref l3), some (.int l4), none, none, none] []) {M : Mm} {l1 : Nat} {l2 : Nat} {l3 : Nat} {l4 : Int32} (h : V_L_law_1464 G K B23 M l1 l2 l3 l4) : E G mi_L_law K M (kk + 0) (nn + 0) 1464 [some (.ref (gS G 200)), some (.ref l1), some (.ref l2), some (.ref l3), some (.int l4), none, none, none] [] := by
  unfold V_L_law_1464 at h
  refine e_blk 5 1464 _ _ (pc' := 1470) (L' := [some (.ref (gS G 200)), some (.ref l1), some (.ref l2), some (.ref l3), some (.int l4), none, none, none]) (st' := [.int (l4 + (1 : Int32)), .ref (gS G 200), .ref l1]) rfl ?_
  obtain ⟨hi1, h⟩ := h
  refine e_tI (.int (gX G ((l4 + (1 : Int32))).toNatClampNeg)) rfl (fun s hs => hs.scr) hi1 rfl ?_
  refine e_blk 4 1471 _ _ (pc' := 1476) (L' := [some (.ref (gS G 200)), some (.ref l1), some (.ref l2), some (.ref l3), some (.int l4), none, none, none]) (st' := [.int (l4 + (2 : Int32)), .ref (gS G 200), .int (gX G ((l4 + (1 : Int32))).toNatClampNeg), .ref l1]) rfl ?_
  obtain ⟨hi2, h⟩ := h
  refine e_tI (.int (gX G ((l4 + (2 : Int32))).toNatClampNeg)) rfl (fun s hs => hs.scr) hi2 rfl ?_
  refine e_blk 1 1477 _ _ (pc' := 1478) (L' := [some (.ref (gS G 200)), some (.ref l1), some (.ref l2), some (.ref l3), some (.int l4), none, none, none]) (st' := [.ref l3, .int (gX G ((l4 + (2 : Int32))).toNatClampNeg), .int (gX G ((l4 + (1 : Int32))).toNatClampNeg), .ref l1]) rfl ?_
  refine e_callSH (As := [.ref l1, .int (gX G ((l4 + (1 : Int32))).toNatClampNeg), .int (gX G ((l4 + (2 : Int32))).toNatClampNeg), .ref l3]) (rest := []) rfl (x_L_log h) (by decide) (aw (i := 1035) (by decide +kernel) rfl) ws_L_log wi_L_log wc_L_log (cokL (show cok mi_L_law mi_L_log 0 0 4 = true by decide +kernel) (show _ + 2 ≤ 601024 by omega) (show _ + 12 ≤ 7293034 by omega)) (Nat.le_of_ble_eq_true rfl) (fun v9 M3 hq => ?_) (fun X M9 hq => False.elim hq)
  refine e_wid (k' := kk + 2) (n' := nn + 12) (show _ + 2 ≤ _ by omega) (show _ + 12 ≤ _ by omega) ?_
  obtain ⟨r4, rfl, h⟩ := kI_l hq
  refine e_blk 6 1481 _ _ (pc' := 1489) (L' := [some (.ref (gS G 200)), some (.ref l1), some (.ref l2), some (.ref l3), some (.int l4), some (.int r4), none, none]) (st' := [.int (l4 + (1 : Int32)), .ref (gS G 200), .ref l2]) rfl ?_
  obtain ⟨hi5, h⟩ := h
  refine e_tI (.int (gX G ((l4 + (1 : Int32))).toNatClampNeg)) rfl (fun s hs => hs.scr) hi5 rfl ?_
  refine e_blk 4 1490 _ _ (pc' := 1495) (L' := [some (.ref (gS G 200)), some (.ref l1), some (.ref l2), some (.ref l3), some (.int l4), some (.int r4), none, none]) (st' := [.int (l4 + (2 : Int32)), .ref (gS G 200), .int (gX G ((l4 + (1 : Int32))).toNatClampNeg), .ref l2]) rfl ?_
  obtain ⟨hi6, h⟩ := h
  refine e_tI (.int (gX G ((l4 + (2 : Int32))).toNatClampNeg)) rfl (fun s hs => hs.scr) hi6 rfl ?_
  obtain ⟨ho7, h⟩ := h
  refine e_callV (As := [.int (gX G ((l4 + (1 : Int32))).toNatClampNeg), .int (gX G ((l4 + (2 : Int32))).toNatClampNeg)]) (rest := []) (ci := 7) rfl (x_X7_log h) ho7 rfl rfl rfl (aw (i := 1580) (by decide +kernel) rfl) wn_X7_log wv_X7_log wi_X7_log wc_X7_log (cokL (show cok mi_L_law mi_X7_log 0 0 2 = true by decide +kernel) (show _ + 0 ≤ 601024 by omega) (show _ + 0 ≤ 7293034 by omega)) (Nat.le_of_ble_eq_true rfl) (fun v9 M8 hq => ?_) (fun X M9 hq => False.elim hq)
  refine e_wid (k' := kk + 2) (n' := nn + 12) (show _ + 0 ≤ _ by omega) (show _ + 0 ≤ _ by omega) ?_
  obtain ⟨r9, rfl, h⟩ := kI_l hq
  refine e_blk 2 1499 _ _ (pc' := 1502) (L' := [some (.ref (gS G 200)), some (.ref l1), some (.ref l2), some (.ref l3), some (.int l4), some (.int r4), some (.int r9), none]) (st' := [.ref l2]) rfl ?_
  obtain ⟨ho10, h⟩ := h
  refine e_callV (As := []) (rest := []) (ci := 7) rfl (x_X7_thrown h) ho10 rfl rfl rfl (aw (i := 1247) (by decide +kernel) rfl) wn_X7_thrown wv_X7_thrown wi_X7_thrown wc_X7_thrown (cokL (show cok mi_L_law mi_X7_thrown 0 0 0 = true by decide +kernel) (show _ + 0 ≤ 601024 by omega) (show _ + 0 ≤ 7293034 by omega)) (Nat.le_of_ble_eq_true rfl) (fun v9 M11 hq => ?_) (fun X M9 hq => False.elim hq)
  refine e_wid (k' := kk + 2) (n' := nn + 12) (show _ + 0 ≤ _ by omega) (show _ + 0 ≤ _ by omega) ?_
  obtain ⟨r12, rfl, h⟩ := kI_l hq
  refine e_blk 1 1505 _ _ (pc' := 1507) (L' := [some (.ref (gS G 200)), some (.ref l1), some (.ref l2), some (.ref l3), some (.int l4), some (.int r4), some (.int r9), none]) (st' := [.int r4, .int r12]) rfl ?_
  refine e_icmp_eq 1512 rfl rfl (fun hc => ?_) (fun hc => ?_)
  · replace h := h.1 hc
    refine e_blk 1 1512 _ _ (pc' := 1514) (L' := [some (.ref (gS G 200)), some (.ref l1), some (.ref l2), some (.ref l3), some (.int l4), some (.int r4), some (.int r9), none]) (st' := [.int r4]) rfl ?_
    refine e_if_ne 1529 rfl rfl (fun hc => ?_) (fun hc => ?_)
    · replace h := h.1 hc
      refine e_wid (k' := kk + 2) (n' := nn + 12) (show _ ≤ _ by omega) (show _ ≤ _ by omega) ?_
      refine e_drp [true, true, true, true, true, false, false, false] (L' := [some (.ref (gS G 200)), some (.ref l1), some (.ref l2), some (.ref l3), some (.int l4), none, none, none]) rfl ?_
      exact x_L_law_1529 hkk hnn hB23 h
    · replace h := h.2 hc
      refine e_blk 2 1517 _ _ (pc' := 1519) (L' := [some (.ref (gS G 200)), some (.ref l1), some (.ref l2), some (.ref l3), some (.int l4), some (.int r4), some (.int r9), none]) (st' := [.int (0 : Int32), .ref l3]) rfl ?_
      obtain ⟨ho13, h⟩ := h
      obtain ⟨hi14, h⟩ := h
      refine e_lald rfl ho13 hi14 ?_
      refine e_blk 3 1520 _ _ (pc' := 1524) (L' := [some (.ref (gS G 200)), some (.ref l1), some (.ref l2), some (.ref l3), some (.int l4), some (.int r4), some (.int r9), none]) (st' := [.int (lg_cmp (mJ M11 l3 ((0 : Int32)).toNatClampNeg) ((r9).toInt64))]) rfl ?_
      refine e_if_eq 1529 rfl rfl (fun hc => ?_) (fun hc => ?_)
      · replace h := h.1 hc
        refine e_wid (k' := kk + 2) (n' := nn + 12) (show _ ≤ _ by omega) (show _ ≤ _ by omega) ?_
        refine e_drp [true, true, true, true, true, false, false, false] (L' := [some (.ref (gS G 200)), some (.ref l1), some (.ref l2), some (.ref l3), some (.int l4), none, none, none]) rfl ?_
        exact x_L_law_1529 hkk hnn hB23 h
      · replace h := h.2 hc
        refine e_blk 1 1527 _ _ (pc' := 1528) (L' := [some (.ref (gS G 200)), some (.ref l1), some (.ref l2), some (.ref l3), some (.int l4), some (.int r4), some (.int r9), none]) (st' := [.int (0 : Int32)]) rfl ?_
        exact e_retz rfl rfl (by decide) (show _ ≤ 601024 by omega) (show _ ≤ 7293034 by omega) h
  · replace h := h.2 hc
    refine e_blk 1 1510 _ _ (pc' := 1511) (L' := [some (.ref (gS G 200)), some (.ref l1), some (.ref l2), some (.ref l3), some (.int l4), some (.int r4), some (.int r9), none]) (st' := [.int (0 : Int32)]) rfl ?_
    exact e_retz rfl rfl (by decide) (show _ ≤ 601024 by omega) (show _ ≤ 7293034 by omega) h
def V_L_law_1461 (G : Gx) (K : Rs → Mm → Prop) (B23 : Mm → Nat → Nat → Nat → Int32 → Prop) (M : Mm) (l1 : Nat) (l2 : Nat) (l3 : Nat) (l4 : Int32) : Prop := V_L_law_1601 G K B23 M l1 l2 l3 l4
set_option maxRecDepth 100000 in
set_option maxHeartbeats 4000000 in
theorem x_L_law_1461 {G : Gx} {K : Rs → Mm → Prop} {kk nn : Nat} (hkk : kk + 5 ≤ 601024) (hnn : nn + 30 ≤ 7293034) {B23 : Mm → Nat → Nat → Nat → Int32 → Prop} (hB23 : ∀ M l1 l2 l3 l4, B23 M l1 l2 l3 l4 → E G mi_L_law K M (kk + 5) (nn + 30) 23 [some (.ref (gS G 200)), some (.ref l1), some (.ref l2), some (.ref l3), some (.int l4), none, none, none] []) {M : Mm} {l1 : Nat} {l2 : Nat} {l3 : Nat} {l4 : Int32} (h : V_L_law_1461 G K B23 M l1 l2 l3 l4) : E G mi_L_law K M (kk + 1) (nn + 6) 1461 [some (.ref (gS G 200)), some (.ref l1), some (.ref l2), some (.ref l3), some (.int l4), none, none, none] [] := by
  unfold V_L_law_1461 at h
  refine e_blk 1 1461 _ _ (pc' := 1601) (L' := [some (.ref (gS G 200)), some (.ref l1), some (.ref l2), some (.ref l3), some (.int l4), none, none, none]) (st' := []) rfl ?_
  refine e_wid (k' := kk + 5) (n' := nn + 30) (show _ ≤ _ by omega) (show _ ≤ _ by omega) ?_
  refine e_drp [true, true, true, true, true, false, false, false] (L' := [some (.ref (gS G 200)), some (.ref l1), some (.ref l2), some (.ref l3), some (.int l4), none, none, none]) rfl ?_
  exact x_L_law_1601 hkk hnn hB23 h
def V_L_law_1420 (G : Gx) (K : Rs → Mm → Prop) (B23 : Mm → Nat → Nat → Nat → Int32 → Prop) (M : Mm) (l1 : Nat) (l2 : Nat) (l3 : Nat) (l4 : Int32) : Prop := V_L_wake (kI (fun r2 M1 => (ob M1 l2 7 ∧ V_X7_wake (kI (fun r5 M4 => (ob M4 l2 7 ∧ V_X7_thrown (kI (fun r8 M7 => ((r8 = r2 → ((¬ r2 = 0 → V_L_law_1461 G K B23 M7 l1 l2 l3 l4) ∧ (r2 = 0 → (ob M7 l3 10 ∧ (vp_in (0 : Int32) (mN M7 l3) ∧ (((lg_cmp (mJ M7 l3 ((0 : Int32)).toNatClampNeg) ((r5).toInt64)) = 0 → V_L_law_1461 G K B23 M7 l1 l2 l3 l4) ∧ (¬ (lg_cmp (mJ M7 l3 ((0 : Int32)).toNatClampNeg) ((r5).toInt64)) = 0 → K (.inl (some (.int (0 : Int32)))) M7))))))) ∧ (¬ r8 = r2 → K (.inl (some (.int (0 : Int32)))) M7))) (fun _ _ => False)) M4 l2)) (fun _ _ => False)) M1 l2)) (fun _ _ => False)) M l1 l3
set_option maxRecDepth 100000 in
set_option maxHeartbeats 4000000 in
theorem x_L_law_1420 {G : Gx} {K : Rs → Mm → Prop} {kk nn : Nat} (hkk : kk + 5 ≤ 601024) (hnn : nn + 30 ≤ 7293034) {B23 : Mm → Nat → Nat → Nat → Int32 → Prop} (hB23 : ∀ M l1 l2 l3 l4, B23 M l1 l2 l3 l4 → E G mi_L_law K M (kk + 5) (nn + 30) 23 [some (.ref (gS G 200)), some (.ref l1), some (.ref l2), some (.ref l3), some (.int l4), none, none, none] []) {M : Mm} {l1 : Nat} {l2 : Nat} {l3 : Nat} {l4 : Int32} (h : V_L_law_1420 G K B23 M l1 l2 l3 l4) : E G mi_L_law K M (kk + 0) (nn + 0) 1420 [some (.ref (gS G 200)), some (.ref l1), some (.ref l2), some (.ref l3), some (.int l4), none, none, none] [] := by
  unfold V_L_law_1420 at h
  refine e_blk 2 1420 _ _ (pc' := 1422) (L' := [some (.ref (gS G 200)), some (.ref l1), some (.ref l2), some (.ref l3), some (.int l4), none, none, none]) (st' := [.ref l3, .ref l1]) rfl ?_
  refine e_callSH (As := [.ref l1, .ref l3]) (rest := []) rfl (x_L_wake h) (by decide) (aw (i := 1015) (by decide +kernel) rfl) ws_L_wake wi_L_wake wc_L_wake (cokL (show cok mi_L_law mi_L_wake 0 0 2 = true by decide +kernel) (show _ + 1 ≤ 601024 by omega) (show _ + 6 ≤ 7293034 by omega)) (Nat.le_of_ble_eq_true rfl) (fun v9 M1 hq => ?_) (fun X M9 hq => False.elim hq)
  refine e_wid (k' := kk + 1) (n' := nn + 6) (show _ + 1 ≤ _ by omega) (show _ + 6 ≤ _ by omega) ?_
  obtain ⟨r2, rfl, h⟩ := kI_l hq
  refine e_blk 2 1425 _ _ (pc' := 1428) (L' := [some (.ref (gS G 200)), some (.ref l1), some (.ref l2), some (.ref l3), some (.int l4), some (.int r2), none, none]) (st' := [.ref l2]) rfl ?_
  obtain ⟨ho3, h⟩ := h
  refine e_callV (As := []) (rest := []) (ci := 7) rfl (x_X7_wake h) ho3 rfl rfl rfl (aw (i := 1572) (by decide +kernel) rfl) wn_X7_wake wv_X7_wake wi_X7_wake wc_X7_wake (cokL (show cok mi_L_law mi_X7_wake 0 0 0 = true by decide +kernel) (show _ + 0 ≤ 601024 by omega) (show _ + 0 ≤ 7293034 by omega)) (Nat.le_of_ble_eq_true rfl) (fun v9 M4 hq => ?_) (fun X M9 hq => False.elim hq)
  refine e_wid (k' := kk + 1) (n' := nn + 6) (show _ + 0 ≤ _ by omega) (show _ + 0 ≤ _ by omega) ?_
  obtain ⟨r5, rfl, h⟩ := kI_l hq
  refine e_blk 2 1431 _ _ (pc' := 1434) (L' := [some (.ref (gS G 200)), some (.ref l1), some (.ref l2), some (.ref l3), some (.int l4), some (.int r2), some (.int r5), none]) (st' := [.ref l2]) rfl ?_
  obtain ⟨ho6, h⟩ := h
  refine e_callV (As := []) (rest := []) (ci := 7) rfl (x_X7_thrown h) ho6 rfl rfl rfl (aw (i := 1247) (by decide +kernel) rfl) wn_X7_thrown wv_X7_thrown wi_X7_thrown wc_X7_thrown (cokL (show cok mi_L_law mi_X7_thrown 0 0 0 = true by decide +kernel) (show _ + 0 ≤ 601024 by omega) (show _ + 0 ≤ 7293034 by omega)) (Nat.le_of_ble_eq_true rfl) (fun v9 M7 hq => ?_) (fun X M9 hq => False.elim hq)
  refine e_wid (k' := kk + 1) (n' := nn + 6) (show _ + 0 ≤ _ by omega) (show _ + 0 ≤ _ by omega) ?_
  obtain ⟨r8, rfl, h⟩ := kI_l hq
  refine e_blk 1 1437 _ _ (pc' := 1439) (L' := [some (.ref (gS G 200)), some (.ref l1), some (.ref l2), some (.ref l3), some (.int l4), some (.int r2), some (.int r5), none]) (st' := [.int r2, .int r8]) rfl ?_
  refine e_icmp_eq 1444 rfl rfl (fun hc => ?_) (fun hc => ?_)
  · replace h := h.1 hc
    refine e_blk 1 1444 _ _ (pc' := 1446) (L' := [some (.ref (gS G 200)), some (.ref l1), some (.ref l2), some (.ref l3), some (.int l4), some (.int r2), some (.int r5), none]) (st' := [.int r2]) rfl ?_
    refine e_if_ne 1461 rfl rfl (fun hc => ?_) (fun hc => ?_)
    · replace h := h.1 hc
      refine e_wid (k' := kk + 1) (n' := nn + 6) (show _ ≤ _ by omega) (show _ ≤ _ by omega) ?_
      refine e_drp [true, true, true, true, true, false, false, false] (L' := [some (.ref (gS G 200)), some (.ref l1), some (.ref l2), some (.ref l3), some (.int l4), none, none, none]) rfl ?_
      exact x_L_law_1461 hkk hnn hB23 h
    · replace h := h.2 hc
      refine e_blk 2 1449 _ _ (pc' := 1451) (L' := [some (.ref (gS G 200)), some (.ref l1), some (.ref l2), some (.ref l3), some (.int l4), some (.int r2), some (.int r5), none]) (st' := [.int (0 : Int32), .ref l3]) rfl ?_
      obtain ⟨ho9, h⟩ := h
      obtain ⟨hi10, h⟩ := h
      refine e_lald rfl ho9 hi10 ?_
      refine e_blk 3 1452 _ _ (pc' := 1456) (L' := [some (.ref (gS G 200)), some (.ref l1), some (.ref l2), some (.ref l3), some (.int l4), some (.int r2), some (.int r5), none]) (st' := [.int (lg_cmp (mJ M7 l3 ((0 : Int32)).toNatClampNeg) ((r5).toInt64))]) rfl ?_
      refine e_if_eq 1461 rfl rfl (fun hc => ?_) (fun hc => ?_)
      · replace h := h.1 hc
        refine e_wid (k' := kk + 1) (n' := nn + 6) (show _ ≤ _ by omega) (show _ ≤ _ by omega) ?_
        refine e_drp [true, true, true, true, true, false, false, false] (L' := [some (.ref (gS G 200)), some (.ref l1), some (.ref l2), some (.ref l3), some (.int l4), none, none, none]) rfl ?_
        exact x_L_law_1461 hkk hnn hB23 h
      · replace h := h.2 hc
        refine e_blk 1 1459 _ _ (pc' := 1460) (L' := [some (.ref (gS G 200)), some (.ref l1), some (.ref l2), some (.ref l3), some (.int l4), some (.int r2), some (.int r5), none]) (st' := [.int (0 : Int32)]) rfl ?_
        exact e_retz rfl rfl (by decide) (show _ ≤ 601024 by omega) (show _ ≤ 7293034 by omega) h
  · replace h := h.2 hc
    refine e_blk 1 1442 _ _ (pc' := 1443) (L' := [some (.ref (gS G 200)), some (.ref l1), some (.ref l2), some (.ref l3), some (.int l4), some (.int r2), some (.int r5), none]) (st' := [.int (0 : Int32)]) rfl ?_
    exact e_retz rfl rfl (by decide) (show _ ≤ 601024 by omega) (show _ ≤ 7293034 by omega) h
def V_L_law_1396 (G : Gx) (K : Rs → Mm → Prop) (B23 : Mm → Nat → Nat → Nat → Int32 → Prop) (M : Mm) (l1 : Nat) (l2 : Nat) (l3 : Nat) (l4 : Int32) : Prop := V_L_sleep (kI (fun r2 M1 => (ob M1 l2 7 ∧ V_X7_sleep (kV (fun M4 => (ob M4 l2 7 ∧ V_X7_thrown (kI (fun r7 M6 => ((r7 = r2 → V_L_law_1601 G K B23 M6 l1 l2 l3 l4) ∧ (¬ r7 = r2 → K (.inl (some (.int (0 : Int32)))) M6))) (fun _ _ => False)) M4 l2)) (fun _ _ => False)) M1 l2)) (fun _ _ => False)) M l1
set_option maxRecDepth 100000 in
set_option maxHeartbeats 4000000 in
theorem x_L_law_1396 {G : Gx} {K : Rs → Mm → Prop} {kk nn : Nat} (hkk : kk + 5 ≤ 601024) (hnn : nn + 30 ≤ 7293034) {B23 : Mm → Nat → Nat → Nat → Int32 → Prop} (hB23 : ∀ M l1 l2 l3 l4, B23 M l1 l2 l3 l4 → E G mi_L_law K M (kk + 5) (nn + 30) 23 [some (.ref (gS G 200)), some (.ref l1), some (.ref l2), some (.ref l3), some (.int l4), none, none, none] []) {M : Mm} {l1 : Nat} {l2 : Nat} {l3 : Nat} {l4 : Int32} (h : V_L_law_1396 G K B23 M l1 l2 l3 l4) : E G mi_L_law K M (kk + 0) (nn + 0) 1396 [some (.ref (gS G 200)), some (.ref l1), some (.ref l2), some (.ref l3), some (.int l4), none, none, none] [] := by
  unfold V_L_law_1396 at h
  refine e_blk 1 1396 _ _ (pc' := 1397) (L' := [some (.ref (gS G 200)), some (.ref l1), some (.ref l2), some (.ref l3), some (.int l4), none, none, none]) (st' := [.ref l1]) rfl ?_
  refine e_callSH (As := [.ref l1]) (rest := []) rfl (x_L_sleep h) (by decide) (aw (i := 1008) (by decide +kernel) rfl) ws_L_sleep wi_L_sleep wc_L_sleep (cokL (show cok mi_L_law mi_L_sleep 0 0 1 = true by decide +kernel) (show _ + 1 ≤ 601024 by omega) (show _ + 6 ≤ 7293034 by omega)) (Nat.le_of_ble_eq_true rfl) (fun v9 M1 hq => ?_) (fun X M9 hq => False.elim hq)
  refine e_wid (k' := kk + 1) (n' := nn + 6) (show _ + 1 ≤ _ by omega) (show _ + 6 ≤ _ by omega) ?_
  obtain ⟨r2, rfl, h⟩ := kI_l hq
  refine e_blk 2 1400 _ _ (pc' := 1403) (L' := [some (.ref (gS G 200)), some (.ref l1), some (.ref l2), some (.ref l3), some (.int l4), some (.int r2), none, none]) (st' := [.ref l2]) rfl ?_
  obtain ⟨ho3, h⟩ := h
  refine e_callV (As := []) (rest := []) (ci := 7) rfl (x_X7_sleep h) ho3 rfl rfl rfl (aw (i := 1568) (by decide +kernel) rfl) wn_X7_sleep wv_X7_sleep wi_X7_sleep wc_X7_sleep (cokL (show cok mi_L_law mi_X7_sleep 0 0 0 = true by decide +kernel) (show _ + 0 ≤ 601024 by omega) (show _ + 0 ≤ 7293034 by omega)) (Nat.le_of_ble_eq_true rfl) (fun v9 M4 hq => ?_) (fun X M9 hq => False.elim hq)
  refine e_wid (k' := kk + 1) (n' := nn + 6) (show _ + 0 ≤ _ by omega) (show _ + 0 ≤ _ by omega) ?_
  obtain ⟨rfl, h⟩ := kV_l hq
  refine e_blk 1 1406 _ _ (pc' := 1407) (L' := [some (.ref (gS G 200)), some (.ref l1), some (.ref l2), some (.ref l3), some (.int l4), some (.int r2), none, none]) (st' := [.ref l2]) rfl ?_
  obtain ⟨ho5, h⟩ := h
  refine e_callV (As := []) (rest := []) (ci := 7) rfl (x_X7_thrown h) ho5 rfl rfl rfl (aw (i := 1247) (by decide +kernel) rfl) wn_X7_thrown wv_X7_thrown wi_X7_thrown wc_X7_thrown (cokL (show cok mi_L_law mi_X7_thrown 0 0 0 = true by decide +kernel) (show _ + 0 ≤ 601024 by omega) (show _ + 0 ≤ 7293034 by omega)) (Nat.le_of_ble_eq_true rfl) (fun v9 M6 hq => ?_) (fun X M9 hq => False.elim hq)
  refine e_wid (k' := kk + 1) (n' := nn + 6) (show _ + 0 ≤ _ by omega) (show _ + 0 ≤ _ by omega) ?_
  obtain ⟨r7, rfl, h⟩ := kI_l hq
  refine e_blk 1 1410 _ _ (pc' := 1412) (L' := [some (.ref (gS G 200)), some (.ref l1), some (.ref l2), some (.ref l3), some (.int l4), some (.int r2), none, none]) (st' := [.int r2, .int r7]) rfl ?_
  refine e_icmp_eq 1417 rfl rfl (fun hc => ?_) (fun hc => ?_)
  · replace h := h.1 hc
    refine e_blk 1 1417 _ _ (pc' := 1601) (L' := [some (.ref (gS G 200)), some (.ref l1), some (.ref l2), some (.ref l3), some (.int l4), some (.int r2), none, none]) (st' := []) rfl ?_
    refine e_wid (k' := kk + 5) (n' := nn + 30) (show _ ≤ _ by omega) (show _ ≤ _ by omega) ?_
    refine e_drp [true, true, true, true, true, false, false, false] (L' := [some (.ref (gS G 200)), some (.ref l1), some (.ref l2), some (.ref l3), some (.int l4), none, none, none]) rfl ?_
    exact x_L_law_1601 hkk hnn hB23 h
  · replace h := h.2 hc
    refine e_blk 1 1415 _ _ (pc' := 1416) (L' := [some (.ref (gS G 200)), some (.ref l1), some (.ref l2), some (.ref l3), some (.int l4), some (.int r2), none, none]) (st' := [.int (0 : Int32)]) rfl ?_
    exact e_retz rfl rfl (by decide) (show _ ≤ 601024 by omega) (show _ ≤ 7293034 by omega) h
def V_L_law_1393 (G : Gx) (K : Rs → Mm → Prop) (B23 : Mm → Nat → Nat → Nat → Int32 → Prop) (M : Mm) (l1 : Nat) (l2 : Nat) (l3 : Nat) (l4 : Int32) : Prop := V_L_law_1601 G K B23 M l1 l2 l3 l4
set_option maxRecDepth 100000 in
set_option maxHeartbeats 4000000 in
theorem x_L_law_1393 {G : Gx} {K : Rs → Mm → Prop} {kk nn : Nat} (hkk : kk + 5 ≤ 601024) (hnn : nn + 30 ≤ 7293034) {B23 : Mm → Nat → Nat → Nat → Int32 → Prop} (hB23 : ∀ M l1 l2 l3 l4, B23 M l1 l2 l3 l4 → E G mi_L_law K M (kk + 5) (nn + 30) 23 [some (.ref (gS G 200)), some (.ref l1), some (.ref l2), some (.ref l3), some (.int l4), none, none, none] []) {M : Mm} {l1 : Nat} {l2 : Nat} {l3 : Nat} {l4 : Int32} (h : V_L_law_1393 G K B23 M l1 l2 l3 l4) : E G mi_L_law K M (kk + 1) (nn + 6) 1393 [some (.ref (gS G 200)), some (.ref l1), some (.ref l2), some (.ref l3), some (.int l4), none, none, none] [] := by
  unfold V_L_law_1393 at h
  refine e_blk 1 1393 _ _ (pc' := 1601) (L' := [some (.ref (gS G 200)), some (.ref l1), some (.ref l2), some (.ref l3), some (.int l4), none, none, none]) (st' := []) rfl ?_
  refine e_wid (k' := kk + 5) (n' := nn + 30) (show _ ≤ _ by omega) (show _ ≤ _ by omega) ?_
  refine e_drp [true, true, true, true, true, false, false, false] (L' := [some (.ref (gS G 200)), some (.ref l1), some (.ref l2), some (.ref l3), some (.int l4), none, none, none]) rfl ?_
  exact x_L_law_1601 hkk hnn hB23 h
def V_L_law_1340 (G : Gx) (K : Rs → Mm → Prop) (B23 : Mm → Nat → Nat → Nat → Int32 → Prop) (M : Mm) (l1 : Nat) (l2 : Nat) (l3 : Nat) (l4 : Int32) : Prop := (vp_in (l4 + (1 : Int32)) (gS G 201) ∧ V_L_pass (kI (fun r3 M2 => (vp_in (l4 + (1 : Int32)) (gS G 201) ∧ (ob M2 l2 7 ∧ V_X7_pass (kI (fun r7 M6 => (ob M6 l2 7 ∧ V_X7_thrown (kI (fun r10 M9 => ((r10 = r3 → ((¬ r3 = 0 → V_L_law_1393 G K B23 M9 l1 l2 l3 l4) ∧ (r3 = 0 → (ob M9 l3 10 ∧ (vp_in (0 : Int32) (mN M9 l3) ∧ (((lg_cmp (mJ M9 l3 ((0 : Int32)).toNatClampNeg) ((r7).toInt64)) = 0 → V_L_law_1393 G K B23 M9 l1 l2 l3 l4) ∧ (¬ (lg_cmp (mJ M9 l3 ((0 : Int32)).toNatClampNeg) ((r7).toInt64)) = 0 → K (.inl (some (.int (0 : Int32)))) M9))))))) ∧ (¬ r10 = r3 → K (.inl (some (.int (0 : Int32)))) M9))) (fun _ _ => False)) M6 l2)) (fun _ _ => False)) M2 l2 (gX G ((l4 + (1 : Int32))).toNatClampNeg)))) (fun _ _ => False)) M l1 (gX G ((l4 + (1 : Int32))).toNatClampNeg) l3)
set_option maxRecDepth 100000 in
set_option maxHeartbeats 4000000 in
theorem x_L_law_1340 {G : Gx} {K : Rs → Mm → Prop} {kk nn : Nat} (hkk : kk + 5 ≤ 601024) (hnn : nn + 30 ≤ 7293034) {B23 : Mm → Nat → Nat → Nat → Int32 → Prop} (hB23 : ∀ M l1 l2 l3 l4, B23 M l1 l2 l3 l4 → E G mi_L_law K M (kk + 5) (nn + 30) 23 [some (.ref (gS G 200)), some (.ref l1), some (.ref l2), some (.ref l3), some (.int l4), none, none, none] []) {M : Mm} {l1 : Nat} {l2 : Nat} {l3 : Nat} {l4 : Int32} (h : V_L_law_1340 G K B23 M l1 l2 l3 l4) : E G mi_L_law K M (kk + 0) (nn + 0) 1340 [some (.ref (gS G 200)), some (.ref l1), some (.ref l2), some (.ref l3), some (.int l4), none, none, none] [] := by
  unfold V_L_law_1340 at h
  refine e_blk 5 1340 _ _ (pc' := 1346) (L' := [some (.ref (gS G 200)), some (.ref l1), some (.ref l2), some (.ref l3), some (.int l4), none, none, none]) (st' := [.int (l4 + (1 : Int32)), .ref (gS G 200), .ref l1]) rfl ?_
  obtain ⟨hi1, h⟩ := h
  refine e_tI (.int (gX G ((l4 + (1 : Int32))).toNatClampNeg)) rfl (fun s hs => hs.scr) hi1 rfl ?_
  refine e_blk 1 1347 _ _ (pc' := 1348) (L' := [some (.ref (gS G 200)), some (.ref l1), some (.ref l2), some (.ref l3), some (.int l4), none, none, none]) (st' := [.ref l3, .int (gX G ((l4 + (1 : Int32))).toNatClampNeg), .ref l1]) rfl ?_
  refine e_callSH (As := [.ref l1, .int (gX G ((l4 + (1 : Int32))).toNatClampNeg), .ref l3]) (rest := []) rfl (x_L_pass h) (by decide) (aw (i := 951) (by decide +kernel) rfl) ws_L_pass wi_L_pass wc_L_pass (cokL (show cok mi_L_law mi_L_pass 0 0 3 = true by decide +kernel) (show _ + 1 ≤ 601024 by omega) (show _ + 6 ≤ 7293034 by omega)) (Nat.le_of_ble_eq_true rfl) (fun v9 M2 hq => ?_) (fun X M9 hq => False.elim hq)
  refine e_wid (k' := kk + 1) (n' := nn + 6) (show _ + 1 ≤ _ by omega) (show _ + 6 ≤ _ by omega) ?_
  obtain ⟨r3, rfl, h⟩ := kI_l hq
  refine e_blk 6 1351 _ _ (pc' := 1359) (L' := [some (.ref (gS G 200)), some (.ref l1), some (.ref l2), some (.ref l3), some (.int l4), some (.int r3), none, none]) (st' := [.int (l4 + (1 : Int32)), .ref (gS G 200), .ref l2]) rfl ?_
  obtain ⟨hi4, h⟩ := h
  refine e_tI (.int (gX G ((l4 + (1 : Int32))).toNatClampNeg)) rfl (fun s hs => hs.scr) hi4 rfl ?_
  obtain ⟨ho5, h⟩ := h
  refine e_callV (As := [.int (gX G ((l4 + (1 : Int32))).toNatClampNeg)]) (rest := []) (ci := 7) rfl (x_X7_pass h) ho5 rfl rfl rfl (aw (i := 1542) (by decide +kernel) rfl) wn_X7_pass wv_X7_pass wi_X7_pass wc_X7_pass (cokL (show cok mi_L_law mi_X7_pass 0 0 1 = true by decide +kernel) (show _ + 0 ≤ 601024 by omega) (show _ + 0 ≤ 7293034 by omega)) (Nat.le_of_ble_eq_true rfl) (fun v9 M6 hq => ?_) (fun X M9 hq => False.elim hq)
  refine e_wid (k' := kk + 1) (n' := nn + 6) (show _ + 0 ≤ _ by omega) (show _ + 0 ≤ _ by omega) ?_
  obtain ⟨r7, rfl, h⟩ := kI_l hq
  refine e_blk 2 1363 _ _ (pc' := 1366) (L' := [some (.ref (gS G 200)), some (.ref l1), some (.ref l2), some (.ref l3), some (.int l4), some (.int r3), some (.int r7), none]) (st' := [.ref l2]) rfl ?_
  obtain ⟨ho8, h⟩ := h
  refine e_callV (As := []) (rest := []) (ci := 7) rfl (x_X7_thrown h) ho8 rfl rfl rfl (aw (i := 1247) (by decide +kernel) rfl) wn_X7_thrown wv_X7_thrown wi_X7_thrown wc_X7_thrown (cokL (show cok mi_L_law mi_X7_thrown 0 0 0 = true by decide +kernel) (show _ + 0 ≤ 601024 by omega) (show _ + 0 ≤ 7293034 by omega)) (Nat.le_of_ble_eq_true rfl) (fun v9 M9 hq => ?_) (fun X M9 hq => False.elim hq)
  refine e_wid (k' := kk + 1) (n' := nn + 6) (show _ + 0 ≤ _ by omega) (show _ + 0 ≤ _ by omega) ?_
  obtain ⟨r10, rfl, h⟩ := kI_l hq
  refine e_blk 1 1369 _ _ (pc' := 1371) (L' := [some (.ref (gS G 200)), some (.ref l1), some (.ref l2), some (.ref l3), some (.int l4), some (.int r3), some (.int r7), none]) (st' := [.int r3, .int r10]) rfl ?_
  refine e_icmp_eq 1376 rfl rfl (fun hc => ?_) (fun hc => ?_)
  · replace h := h.1 hc
    refine e_blk 1 1376 _ _ (pc' := 1378) (L' := [some (.ref (gS G 200)), some (.ref l1), some (.ref l2), some (.ref l3), some (.int l4), some (.int r3), some (.int r7), none]) (st' := [.int r3]) rfl ?_
    refine e_if_ne 1393 rfl rfl (fun hc => ?_) (fun hc => ?_)
    · replace h := h.1 hc
      refine e_wid (k' := kk + 1) (n' := nn + 6) (show _ ≤ _ by omega) (show _ ≤ _ by omega) ?_
      refine e_drp [true, true, true, true, true, false, false, false] (L' := [some (.ref (gS G 200)), some (.ref l1), some (.ref l2), some (.ref l3), some (.int l4), none, none, none]) rfl ?_
      exact x_L_law_1393 hkk hnn hB23 h
    · replace h := h.2 hc
      refine e_blk 2 1381 _ _ (pc' := 1383) (L' := [some (.ref (gS G 200)), some (.ref l1), some (.ref l2), some (.ref l3), some (.int l4), some (.int r3), some (.int r7), none]) (st' := [.int (0 : Int32), .ref l3]) rfl ?_
      obtain ⟨ho11, h⟩ := h
      obtain ⟨hi12, h⟩ := h
      refine e_lald rfl ho11 hi12 ?_
      refine e_blk 3 1384 _ _ (pc' := 1388) (L' := [some (.ref (gS G 200)), some (.ref l1), some (.ref l2), some (.ref l3), some (.int l4), some (.int r3), some (.int r7), none]) (st' := [.int (lg_cmp (mJ M9 l3 ((0 : Int32)).toNatClampNeg) ((r7).toInt64))]) rfl ?_
      refine e_if_eq 1393 rfl rfl (fun hc => ?_) (fun hc => ?_)
      · replace h := h.1 hc
        refine e_wid (k' := kk + 1) (n' := nn + 6) (show _ ≤ _ by omega) (show _ ≤ _ by omega) ?_
        refine e_drp [true, true, true, true, true, false, false, false] (L' := [some (.ref (gS G 200)), some (.ref l1), some (.ref l2), some (.ref l3), some (.int l4), none, none, none]) rfl ?_
        exact x_L_law_1393 hkk hnn hB23 h
      · replace h := h.2 hc
        refine e_blk 1 1391 _ _ (pc' := 1392) (L' := [some (.ref (gS G 200)), some (.ref l1), some (.ref l2), some (.ref l3), some (.int l4), some (.int r3), some (.int r7), none]) (st' := [.int (0 : Int32)]) rfl ?_
        exact e_retz rfl rfl (by decide) (show _ ≤ 601024 by omega) (show _ ≤ 7293034 by omega) h
  · replace h := h.2 hc
    refine e_blk 1 1374 _ _ (pc' := 1375) (L' := [some (.ref (gS G 200)), some (.ref l1), some (.ref l2), some (.ref l3), some (.int l4), some (.int r3), some (.int r7), none]) (st' := [.int (0 : Int32)]) rfl ?_
    exact e_retz rfl rfl (by decide) (show _ ≤ 601024 by omega) (show _ ≤ 7293034 by omega) h
def V_L_law_1304 (G : Gx) (K : Rs → Mm → Prop) (B23 : Mm → Nat → Nat → Nat → Int32 → Prop) (M : Mm) (l1 : Nat) (l2 : Nat) (l3 : Nat) (l4 : Int32) : Prop := (vp_in (l4 + (1 : Int32)) (gS G 201) ∧ V_L_put (kI (fun r3 M2 => (vp_in (l4 + (1 : Int32)) (gS G 201) ∧ (ob M2 l2 7 ∧ V_X7_put (kV (fun M6 => (ob M6 l2 7 ∧ V_X7_thrown (kI (fun r9 M8 => ((r9 = r3 → V_L_law_1601 G K B23 M8 l1 l2 l3 l4) ∧ (¬ r9 = r3 → K (.inl (some (.int (0 : Int32)))) M8))) (fun _ _ => False)) M6 l2)) (fun _ _ => False)) M2 l2 (gX G ((l4 + (1 : Int32))).toNatClampNeg)))) (fun _ _ => False)) M l1 (gX G ((l4 + (1 : Int32))).toNatClampNeg))
set_option maxRecDepth 100000 in
set_option maxHeartbeats 4000000 in
theorem x_L_law_1304 {G : Gx} {K : Rs → Mm → Prop} {kk nn : Nat} (hkk : kk + 5 ≤ 601024) (hnn : nn + 30 ≤ 7293034) {B23 : Mm → Nat → Nat → Nat → Int32 → Prop} (hB23 : ∀ M l1 l2 l3 l4, B23 M l1 l2 l3 l4 → E G mi_L_law K M (kk + 5) (nn + 30) 23 [some (.ref (gS G 200)), some (.ref l1), some (.ref l2), some (.ref l3), some (.int l4), none, none, none] []) {M : Mm} {l1 : Nat} {l2 : Nat} {l3 : Nat} {l4 : Int32} (h : V_L_law_1304 G K B23 M l1 l2 l3 l4) : E G mi_L_law K M (kk + 0) (nn + 0) 1304 [some (.ref (gS G 200)), some (.ref l1), some (.ref l2), some (.ref l3), some (.int l4), none, none, none] [] := by
  unfold V_L_law_1304 at h
  refine e_blk 5 1304 _ _ (pc' := 1310) (L' := [some (.ref (gS G 200)), some (.ref l1), some (.ref l2), some (.ref l3), some (.int l4), none, none, none]) (st' := [.int (l4 + (1 : Int32)), .ref (gS G 200), .ref l1]) rfl ?_
  obtain ⟨hi1, h⟩ := h
  refine e_tI (.int (gX G ((l4 + (1 : Int32))).toNatClampNeg)) rfl (fun s hs => hs.scr) hi1 rfl ?_
  refine e_callSH (As := [.ref l1, .int (gX G ((l4 + (1 : Int32))).toNatClampNeg)]) (rest := []) rfl (x_L_put h) (by decide) (aw (i := 943) (by decide +kernel) rfl) ws_L_put wi_L_put wc_L_put (cokL (show cok mi_L_law mi_L_put 0 0 2 = true by decide +kernel) (show _ + 2 ≤ 601024 by omega) (show _ + 12 ≤ 7293034 by omega)) (Nat.le_of_ble_eq_true rfl) (fun v9 M2 hq => ?_) (fun X M9 hq => False.elim hq)
  refine e_wid (k' := kk + 2) (n' := nn + 12) (show _ + 2 ≤ _ by omega) (show _ + 12 ≤ _ by omega) ?_
  obtain ⟨r3, rfl, h⟩ := kI_l hq
  refine e_blk 6 1314 _ _ (pc' := 1322) (L' := [some (.ref (gS G 200)), some (.ref l1), some (.ref l2), some (.ref l3), some (.int l4), some (.int r3), none, none]) (st' := [.int (l4 + (1 : Int32)), .ref (gS G 200), .ref l2]) rfl ?_
  obtain ⟨hi4, h⟩ := h
  refine e_tI (.int (gX G ((l4 + (1 : Int32))).toNatClampNeg)) rfl (fun s hs => hs.scr) hi4 rfl ?_
  obtain ⟨ho5, h⟩ := h
  refine e_callV (As := [.int (gX G ((l4 + (1 : Int32))).toNatClampNeg)]) (rest := []) (ci := 7) rfl (x_X7_put h) ho5 rfl rfl rfl (aw (i := 1538) (by decide +kernel) rfl) wn_X7_put wv_X7_put wi_X7_put wc_X7_put (cokL (show cok mi_L_law mi_X7_put 0 0 1 = true by decide +kernel) (show _ + 0 ≤ 601024 by omega) (show _ + 0 ≤ 7293034 by omega)) (Nat.le_of_ble_eq_true rfl) (fun v9 M6 hq => ?_) (fun X M9 hq => False.elim hq)
  refine e_wid (k' := kk + 2) (n' := nn + 12) (show _ + 0 ≤ _ by omega) (show _ + 0 ≤ _ by omega) ?_
  obtain ⟨rfl, h⟩ := kV_l hq
  refine e_blk 1 1326 _ _ (pc' := 1327) (L' := [some (.ref (gS G 200)), some (.ref l1), some (.ref l2), some (.ref l3), some (.int l4), some (.int r3), none, none]) (st' := [.ref l2]) rfl ?_
  obtain ⟨ho7, h⟩ := h
  refine e_callV (As := []) (rest := []) (ci := 7) rfl (x_X7_thrown h) ho7 rfl rfl rfl (aw (i := 1247) (by decide +kernel) rfl) wn_X7_thrown wv_X7_thrown wi_X7_thrown wc_X7_thrown (cokL (show cok mi_L_law mi_X7_thrown 0 0 0 = true by decide +kernel) (show _ + 0 ≤ 601024 by omega) (show _ + 0 ≤ 7293034 by omega)) (Nat.le_of_ble_eq_true rfl) (fun v9 M8 hq => ?_) (fun X M9 hq => False.elim hq)
  refine e_wid (k' := kk + 2) (n' := nn + 12) (show _ + 0 ≤ _ by omega) (show _ + 0 ≤ _ by omega) ?_
  obtain ⟨r9, rfl, h⟩ := kI_l hq
  refine e_blk 1 1330 _ _ (pc' := 1332) (L' := [some (.ref (gS G 200)), some (.ref l1), some (.ref l2), some (.ref l3), some (.int l4), some (.int r3), none, none]) (st' := [.int r3, .int r9]) rfl ?_
  refine e_icmp_eq 1337 rfl rfl (fun hc => ?_) (fun hc => ?_)
  · replace h := h.1 hc
    refine e_blk 1 1337 _ _ (pc' := 1601) (L' := [some (.ref (gS G 200)), some (.ref l1), some (.ref l2), some (.ref l3), some (.int l4), some (.int r3), none, none]) (st' := []) rfl ?_
    refine e_wid (k' := kk + 5) (n' := nn + 30) (show _ ≤ _ by omega) (show _ ≤ _ by omega) ?_
    refine e_drp [true, true, true, true, true, false, false, false] (L' := [some (.ref (gS G 200)), some (.ref l1), some (.ref l2), some (.ref l3), some (.int l4), none, none, none]) rfl ?_
    exact x_L_law_1601 hkk hnn hB23 h
  · replace h := h.2 hc
    refine e_blk 1 1335 _ _ (pc' := 1336) (L' := [some (.ref (gS G 200)), some (.ref l1), some (.ref l2), some (.ref l3), some (.int l4), some (.int r3), none, none]) (st' := [.int (0 : Int32)]) rfl ?_
    exact e_retz rfl rfl (by decide) (show _ ≤ 601024 by omega) (show _ ≤ 7293034 by omega) h
def V_L_law_1301 (G : Gx) (K : Rs → Mm → Prop) (B23 : Mm → Nat → Nat → Nat → Int32 → Prop) (M : Mm) (l1 : Nat) (l2 : Nat) (l3 : Nat) (l4 : Int32) : Prop := V_L_law_1601 G K B23 M l1 l2 l3 l4
set_option maxRecDepth 100000 in
set_option maxHeartbeats 4000000 in
theorem x_L_law_1301 {G : Gx} {K : Rs → Mm → Prop} {kk nn : Nat} (hkk : kk + 5 ≤ 601024) (hnn : nn + 30 ≤ 7293034) {B23 : Mm → Nat → Nat → Nat → Int32 → Prop} (hB23 : ∀ M l1 l2 l3 l4, B23 M l1 l2 l3 l4 → E G mi_L_law K M (kk + 5) (nn + 30) 23 [some (.ref (gS G 200)), some (.ref l1), some (.ref l2), some (.ref l3), some (.int l4), none, none, none] []) {M : Mm} {l1 : Nat} {l2 : Nat} {l3 : Nat} {l4 : Int32} (h : V_L_law_1301 G K B23 M l1 l2 l3 l4) : E G mi_L_law K M (kk + 4) (nn + 24) 1301 [some (.ref (gS G 200)), some (.ref l1), some (.ref l2), some (.ref l3), some (.int l4), none, none, none] [] := by
  unfold V_L_law_1301 at h
  refine e_blk 1 1301 _ _ (pc' := 1601) (L' := [some (.ref (gS G 200)), some (.ref l1), some (.ref l2), some (.ref l3), some (.int l4), none, none, none]) (st' := []) rfl ?_
  refine e_wid (k' := kk + 5) (n' := nn + 30) (show _ ≤ _ by omega) (show _ ≤ _ by omega) ?_
  refine e_drp [true, true, true, true, true, false, false, false] (L' := [some (.ref (gS G 200)), some (.ref l1), some (.ref l2), some (.ref l3), some (.int l4), none, none, none]) rfl ?_
  exact x_L_law_1601 hkk hnn hB23 h
def V_L_law_1224 (G : Gx) (K : Rs → Mm → Prop) (B23 : Mm → Nat → Nat → Nat → Int32 → Prop) (M : Mm) (l1 : Nat) (l2 : Nat) (l3 : Nat) (l4 : Int32) : Prop := (vp_in (l4 + (1 : Int32)) (gS G 201) ∧ (vp_in (l4 + (2 : Int32)) (gS G 201) ∧ (vp_in (l4 + (3 : Int32)) (gS G 201) ∧ V_L_between (kI (fun r5 M4 => (vp_in (l4 + (1 : Int32)) (gS G 201) ∧ (vp_in (l4 + (2 : Int32)) (gS G 201) ∧ (vp_in (l4 + (3 : Int32)) (gS G 201) ∧ (ob M4 l2 7 ∧ V_X7_between (kI (fun r11 M10 => (ob M10 l2 7 ∧ V_X7_thrown (kI (fun r14 M13 => ((r14 = r5 → ((¬ r5 = 0 → V_L_law_1301 G K B23 M13 l1 l2 l3 l4) ∧ (r5 = 0 → (ob M13 l3 10 ∧ (vp_in (0 : Int32) (mN M13 l3) ∧ (((lg_cmp (mJ M13 l3 ((0 : Int32)).toNatClampNeg) ((r11).toInt64)) = 0 → V_L_law_1301 G K B23 M13 l1 l2 l3 l4) ∧ (¬ (lg_cmp (mJ M13 l3 ((0 : Int32)).toNatClampNeg) ((r11).toInt64)) = 0 → K (.inl (some (.int (0 : Int32)))) M13))))))) ∧ (¬ r14 = r5 → K (.inl (some (.int (0 : Int32)))) M13))) (fun _ _ => False)) M10 l2)) (fun _ _ => False)) M4 l2 (gX G ((l4 + (1 : Int32))).toNatClampNeg) (gX G ((l4 + (2 : Int32))).toNatClampNeg) (gX G ((l4 + (3 : Int32))).toNatClampNeg)))))) (fun _ _ => False)) M l1 (gX G ((l4 + (1 : Int32))).toNatClampNeg) (gX G ((l4 + (2 : Int32))).toNatClampNeg) (gX G ((l4 + (3 : Int32))).toNatClampNeg) l3)))
set_option maxRecDepth 100000 in
set_option maxHeartbeats 4000000 in
theorem x_L_law_1224 {G : Gx} {K : Rs → Mm → Prop} {kk nn : Nat} (hkk : kk + 5 ≤ 601024) (hnn : nn + 30 ≤ 7293034) {B23 : Mm → Nat → Nat → Nat → Int32 → Prop} (hB23 : ∀ M l1 l2 l3 l4, B23 M l1 l2 l3 l4 → E G mi_L_law K M (kk + 5) (nn + 30) 23 [some (.ref (gS G 200)), some (.ref l1), some (.ref l2), some (.ref l3), some (.int l4), none, none, none] []) {M : Mm} {l1 : Nat} {l2 : Nat} {l3 : Nat} {l4 : Int32} (h : V_L_law_1224 G K B23 M l1 l2 l3 l4) : E G mi_L_law K M (kk + 0) (nn + 0) 1224 [some (.ref (gS G 200)), some (.ref l1), some (.ref l2), some (.ref l3), some (.int l4), none, none, none] [] := by
  unfold V_L_law_1224 at h
  refine e_blk 5 1224 _ _ (pc' := 1230) (L' := [some (.ref (gS G 200)), some (.ref l1), some (.ref l2), some (.ref l3), some (.int l4), none, none, none]) (st' := [.int (l4 + (1 : Int32)), .ref (gS G 200), .ref l1]) rfl ?_
  obtain ⟨hi1, h⟩ := h
  refine e_tI (.int (gX G ((l4 + (1 : Int32))).toNatClampNeg)) rfl (fun s hs => hs.scr) hi1 rfl ?_
  refine e_blk 4 1231 _ _ (pc' := 1236) (L' := [some (.ref (gS G 200)), some (.ref l1), some (.ref l2), some (.ref l3), some (.int l4), none, none, none]) (st' := [.int (l4 + (2 : Int32)), .ref (gS G 200), .int (gX G ((l4 + (1 : Int32))).toNatClampNeg), .ref l1]) rfl ?_
  obtain ⟨hi2, h⟩ := h
  refine e_tI (.int (gX G ((l4 + (2 : Int32))).toNatClampNeg)) rfl (fun s hs => hs.scr) hi2 rfl ?_
  refine e_blk 4 1237 _ _ (pc' := 1242) (L' := [some (.ref (gS G 200)), some (.ref l1), some (.ref l2), some (.ref l3), some (.int l4), none, none, none]) (st' := [.int (l4 + (3 : Int32)), .ref (gS G 200), .int (gX G ((l4 + (2 : Int32))).toNatClampNeg), .int (gX G ((l4 + (1 : Int32))).toNatClampNeg), .ref l1]) rfl ?_
  obtain ⟨hi3, h⟩ := h
  refine e_tI (.int (gX G ((l4 + (3 : Int32))).toNatClampNeg)) rfl (fun s hs => hs.scr) hi3 rfl ?_
  refine e_blk 1 1243 _ _ (pc' := 1244) (L' := [some (.ref (gS G 200)), some (.ref l1), some (.ref l2), some (.ref l3), some (.int l4), none, none, none]) (st' := [.ref l3, .int (gX G ((l4 + (3 : Int32))).toNatClampNeg), .int (gX G ((l4 + (2 : Int32))).toNatClampNeg), .int (gX G ((l4 + (1 : Int32))).toNatClampNeg), .ref l1]) rfl ?_
  refine e_callSH (As := [.ref l1, .int (gX G ((l4 + (1 : Int32))).toNatClampNeg), .int (gX G ((l4 + (2 : Int32))).toNatClampNeg), .int (gX G ((l4 + (3 : Int32))).toNatClampNeg), .ref l3]) (rest := []) rfl (x_L_between h) (by decide) (aw (i := 917) (by decide +kernel) rfl) ws_L_between wi_L_between wc_L_between (cokL (show cok mi_L_law mi_L_between 0 0 5 = true by decide +kernel) (show _ + 4 ≤ 601024 by omega) (show _ + 24 ≤ 7293034 by omega)) (Nat.le_of_ble_eq_true rfl) (fun v9 M4 hq => ?_) (fun X M9 hq => False.elim hq)
  refine e_wid (k' := kk + 4) (n' := nn + 24) (show _ + 4 ≤ _ by omega) (show _ + 24 ≤ _ by omega) ?_
  obtain ⟨r5, rfl, h⟩ := kI_l hq
  refine e_blk 6 1247 _ _ (pc' := 1255) (L' := [some (.ref (gS G 200)), some (.ref l1), some (.ref l2), some (.ref l3), some (.int l4), some (.int r5), none, none]) (st' := [.int (l4 + (1 : Int32)), .ref (gS G 200), .ref l2]) rfl ?_
  obtain ⟨hi6, h⟩ := h
  refine e_tI (.int (gX G ((l4 + (1 : Int32))).toNatClampNeg)) rfl (fun s hs => hs.scr) hi6 rfl ?_
  refine e_blk 4 1256 _ _ (pc' := 1261) (L' := [some (.ref (gS G 200)), some (.ref l1), some (.ref l2), some (.ref l3), some (.int l4), some (.int r5), none, none]) (st' := [.int (l4 + (2 : Int32)), .ref (gS G 200), .int (gX G ((l4 + (1 : Int32))).toNatClampNeg), .ref l2]) rfl ?_
  obtain ⟨hi7, h⟩ := h
  refine e_tI (.int (gX G ((l4 + (2 : Int32))).toNatClampNeg)) rfl (fun s hs => hs.scr) hi7 rfl ?_
  refine e_blk 4 1262 _ _ (pc' := 1267) (L' := [some (.ref (gS G 200)), some (.ref l1), some (.ref l2), some (.ref l3), some (.int l4), some (.int r5), none, none]) (st' := [.int (l4 + (3 : Int32)), .ref (gS G 200), .int (gX G ((l4 + (2 : Int32))).toNatClampNeg), .int (gX G ((l4 + (1 : Int32))).toNatClampNeg), .ref l2]) rfl ?_
  obtain ⟨hi8, h⟩ := h
  refine e_tI (.int (gX G ((l4 + (3 : Int32))).toNatClampNeg)) rfl (fun s hs => hs.scr) hi8 rfl ?_
  obtain ⟨ho9, h⟩ := h
  refine e_callV (As := [.int (gX G ((l4 + (1 : Int32))).toNatClampNeg), .int (gX G ((l4 + (2 : Int32))).toNatClampNeg), .int (gX G ((l4 + (3 : Int32))).toNatClampNeg)]) (rest := []) (ci := 7) rfl (x_X7_between h) ho9 rfl rfl rfl (aw (i := 1533) (by decide +kernel) rfl) wn_X7_between wv_X7_between wi_X7_between wc_X7_between (cokL (show cok mi_L_law mi_X7_between 0 0 3 = true by decide +kernel) (show _ + 0 ≤ 601024 by omega) (show _ + 0 ≤ 7293034 by omega)) (Nat.le_of_ble_eq_true rfl) (fun v9 M10 hq => ?_) (fun X M9 hq => False.elim hq)
  refine e_wid (k' := kk + 4) (n' := nn + 24) (show _ + 0 ≤ _ by omega) (show _ + 0 ≤ _ by omega) ?_
  obtain ⟨r11, rfl, h⟩ := kI_l hq
  refine e_blk 2 1271 _ _ (pc' := 1274) (L' := [some (.ref (gS G 200)), some (.ref l1), some (.ref l2), some (.ref l3), some (.int l4), some (.int r5), some (.int r11), none]) (st' := [.ref l2]) rfl ?_
  obtain ⟨ho12, h⟩ := h
  refine e_callV (As := []) (rest := []) (ci := 7) rfl (x_X7_thrown h) ho12 rfl rfl rfl (aw (i := 1247) (by decide +kernel) rfl) wn_X7_thrown wv_X7_thrown wi_X7_thrown wc_X7_thrown (cokL (show cok mi_L_law mi_X7_thrown 0 0 0 = true by decide +kernel) (show _ + 0 ≤ 601024 by omega) (show _ + 0 ≤ 7293034 by omega)) (Nat.le_of_ble_eq_true rfl) (fun v9 M13 hq => ?_) (fun X M9 hq => False.elim hq)
  refine e_wid (k' := kk + 4) (n' := nn + 24) (show _ + 0 ≤ _ by omega) (show _ + 0 ≤ _ by omega) ?_
  obtain ⟨r14, rfl, h⟩ := kI_l hq
  refine e_blk 1 1277 _ _ (pc' := 1279) (L' := [some (.ref (gS G 200)), some (.ref l1), some (.ref l2), some (.ref l3), some (.int l4), some (.int r5), some (.int r11), none]) (st' := [.int r5, .int r14]) rfl ?_
  refine e_icmp_eq 1284 rfl rfl (fun hc => ?_) (fun hc => ?_)
  · replace h := h.1 hc
    refine e_blk 1 1284 _ _ (pc' := 1286) (L' := [some (.ref (gS G 200)), some (.ref l1), some (.ref l2), some (.ref l3), some (.int l4), some (.int r5), some (.int r11), none]) (st' := [.int r5]) rfl ?_
    refine e_if_ne 1301 rfl rfl (fun hc => ?_) (fun hc => ?_)
    · replace h := h.1 hc
      refine e_wid (k' := kk + 4) (n' := nn + 24) (show _ ≤ _ by omega) (show _ ≤ _ by omega) ?_
      refine e_drp [true, true, true, true, true, false, false, false] (L' := [some (.ref (gS G 200)), some (.ref l1), some (.ref l2), some (.ref l3), some (.int l4), none, none, none]) rfl ?_
      exact x_L_law_1301 hkk hnn hB23 h
    · replace h := h.2 hc
      refine e_blk 2 1289 _ _ (pc' := 1291) (L' := [some (.ref (gS G 200)), some (.ref l1), some (.ref l2), some (.ref l3), some (.int l4), some (.int r5), some (.int r11), none]) (st' := [.int (0 : Int32), .ref l3]) rfl ?_
      obtain ⟨ho15, h⟩ := h
      obtain ⟨hi16, h⟩ := h
      refine e_lald rfl ho15 hi16 ?_
      refine e_blk 3 1292 _ _ (pc' := 1296) (L' := [some (.ref (gS G 200)), some (.ref l1), some (.ref l2), some (.ref l3), some (.int l4), some (.int r5), some (.int r11), none]) (st' := [.int (lg_cmp (mJ M13 l3 ((0 : Int32)).toNatClampNeg) ((r11).toInt64))]) rfl ?_
      refine e_if_eq 1301 rfl rfl (fun hc => ?_) (fun hc => ?_)
      · replace h := h.1 hc
        refine e_wid (k' := kk + 4) (n' := nn + 24) (show _ ≤ _ by omega) (show _ ≤ _ by omega) ?_
        refine e_drp [true, true, true, true, true, false, false, false] (L' := [some (.ref (gS G 200)), some (.ref l1), some (.ref l2), some (.ref l3), some (.int l4), none, none, none]) rfl ?_
        exact x_L_law_1301 hkk hnn hB23 h
      · replace h := h.2 hc
        refine e_blk 1 1299 _ _ (pc' := 1300) (L' := [some (.ref (gS G 200)), some (.ref l1), some (.ref l2), some (.ref l3), some (.int l4), some (.int r5), some (.int r11), none]) (st' := [.int (0 : Int32)]) rfl ?_
        exact e_retz rfl rfl (by decide) (show _ ≤ 601024 by omega) (show _ ≤ 7293034 by omega) h
  · replace h := h.2 hc
    refine e_blk 1 1282 _ _ (pc' := 1283) (L' := [some (.ref (gS G 200)), some (.ref l1), some (.ref l2), some (.ref l3), some (.int l4), some (.int r5), some (.int r11), none]) (st' := [.int (0 : Int32)]) rfl ?_
    exact e_retz rfl rfl (by decide) (show _ ≤ 601024 by omega) (show _ ≤ 7293034 by omega) h
def V_L_law_1221 (G : Gx) (K : Rs → Mm → Prop) (B23 : Mm → Nat → Nat → Nat → Int32 → Prop) (M : Mm) (l1 : Nat) (l2 : Nat) (l3 : Nat) (l4 : Int32) : Prop := V_L_law_1601 G K B23 M l1 l2 l3 l4
set_option maxRecDepth 100000 in
set_option maxHeartbeats 4000000 in
theorem x_L_law_1221 {G : Gx} {K : Rs → Mm → Prop} {kk nn : Nat} (hkk : kk + 5 ≤ 601024) (hnn : nn + 30 ≤ 7293034) {B23 : Mm → Nat → Nat → Nat → Int32 → Prop} (hB23 : ∀ M l1 l2 l3 l4, B23 M l1 l2 l3 l4 → E G mi_L_law K M (kk + 5) (nn + 30) 23 [some (.ref (gS G 200)), some (.ref l1), some (.ref l2), some (.ref l3), some (.int l4), none, none, none] []) {M : Mm} {l1 : Nat} {l2 : Nat} {l3 : Nat} {l4 : Int32} (h : V_L_law_1221 G K B23 M l1 l2 l3 l4) : E G mi_L_law K M (kk + 3) (nn + 18) 1221 [some (.ref (gS G 200)), some (.ref l1), some (.ref l2), some (.ref l3), some (.int l4), none, none, none] [] := by
  unfold V_L_law_1221 at h
  refine e_blk 1 1221 _ _ (pc' := 1601) (L' := [some (.ref (gS G 200)), some (.ref l1), some (.ref l2), some (.ref l3), some (.int l4), none, none, none]) (st' := []) rfl ?_
  refine e_wid (k' := kk + 5) (n' := nn + 30) (show _ ≤ _ by omega) (show _ ≤ _ by omega) ?_
  refine e_drp [true, true, true, true, true, false, false, false] (L' := [some (.ref (gS G 200)), some (.ref l1), some (.ref l2), some (.ref l3), some (.int l4), none, none, none]) rfl ?_
  exact x_L_law_1601 hkk hnn hB23 h
def V_L_law_1144 (G : Gx) (K : Rs → Mm → Prop) (B23 : Mm → Nat → Nat → Nat → Int32 → Prop) (M : Mm) (l1 : Nat) (l2 : Nat) (l3 : Nat) (l4 : Int32) : Prop := (vp_in (l4 + (1 : Int32)) (gS G 201) ∧ (vp_in (l4 + (2 : Int32)) (gS G 201) ∧ (vp_in (l4 + (3 : Int32)) (gS G 201) ∧ V_L_before (kI (fun r5 M4 => (vp_in (l4 + (1 : Int32)) (gS G 201) ∧ (vp_in (l4 + (2 : Int32)) (gS G 201) ∧ (vp_in (l4 + (3 : Int32)) (gS G 201) ∧ (ob M4 l2 7 ∧ V_X7_before (kI (fun r11 M10 => (ob M10 l2 7 ∧ V_X7_thrown (kI (fun r14 M13 => ((r14 = r5 → ((¬ r5 = 0 → V_L_law_1221 G K B23 M13 l1 l2 l3 l4) ∧ (r5 = 0 → (ob M13 l3 10 ∧ (vp_in (0 : Int32) (mN M13 l3) ∧ (((lg_cmp (mJ M13 l3 ((0 : Int32)).toNatClampNeg) ((r11).toInt64)) = 0 → V_L_law_1221 G K B23 M13 l1 l2 l3 l4) ∧ (¬ (lg_cmp (mJ M13 l3 ((0 : Int32)).toNatClampNeg) ((r11).toInt64)) = 0 → K (.inl (some (.int (0 : Int32)))) M13))))))) ∧ (¬ r14 = r5 → K (.inl (some (.int (0 : Int32)))) M13))) (fun _ _ => False)) M10 l2)) (fun _ _ => False)) M4 l2 (gX G ((l4 + (1 : Int32))).toNatClampNeg) (gX G ((l4 + (2 : Int32))).toNatClampNeg) (gX G ((l4 + (3 : Int32))).toNatClampNeg)))))) (fun _ _ => False)) M l1 (gX G ((l4 + (1 : Int32))).toNatClampNeg) (gX G ((l4 + (2 : Int32))).toNatClampNeg) (gX G ((l4 + (3 : Int32))).toNatClampNeg) l3)))
set_option maxRecDepth 100000 in
set_option maxHeartbeats 4000000 in
theorem x_L_law_1144 {G : Gx} {K : Rs → Mm → Prop} {kk nn : Nat} (hkk : kk + 5 ≤ 601024) (hnn : nn + 30 ≤ 7293034) {B23 : Mm → Nat → Nat → Nat → Int32 → Prop} (hB23 : ∀ M l1 l2 l3 l4, B23 M l1 l2 l3 l4 → E G mi_L_law K M (kk + 5) (nn + 30) 23 [some (.ref (gS G 200)), some (.ref l1), some (.ref l2), some (.ref l3), some (.int l4), none, none, none] []) {M : Mm} {l1 : Nat} {l2 : Nat} {l3 : Nat} {l4 : Int32} (h : V_L_law_1144 G K B23 M l1 l2 l3 l4) : E G mi_L_law K M (kk + 0) (nn + 0) 1144 [some (.ref (gS G 200)), some (.ref l1), some (.ref l2), some (.ref l3), some (.int l4), none, none, none] [] := by
  unfold V_L_law_1144 at h
  refine e_blk 5 1144 _ _ (pc' := 1150) (L' := [some (.ref (gS G 200)), some (.ref l1), some (.ref l2), some (.ref l3), some (.int l4), none, none, none]) (st' := [.int (l4 + (1 : Int32)), .ref (gS G 200), .ref l1]) rfl ?_
  obtain ⟨hi1, h⟩ := h
  refine e_tI (.int (gX G ((l4 + (1 : Int32))).toNatClampNeg)) rfl (fun s hs => hs.scr) hi1 rfl ?_
  refine e_blk 4 1151 _ _ (pc' := 1156) (L' := [some (.ref (gS G 200)), some (.ref l1), some (.ref l2), some (.ref l3), some (.int l4), none, none, none]) (st' := [.int (l4 + (2 : Int32)), .ref (gS G 200), .int (gX G ((l4 + (1 : Int32))).toNatClampNeg), .ref l1]) rfl ?_
  obtain ⟨hi2, h⟩ := h
  refine e_tI (.int (gX G ((l4 + (2 : Int32))).toNatClampNeg)) rfl (fun s hs => hs.scr) hi2 rfl ?_
  refine e_blk 4 1157 _ _ (pc' := 1162) (L' := [some (.ref (gS G 200)), some (.ref l1), some (.ref l2), some (.ref l3), some (.int l4), none, none, none]) (st' := [.int (l4 + (3 : Int32)), .ref (gS G 200), .int (gX G ((l4 + (2 : Int32))).toNatClampNeg), .int (gX G ((l4 + (1 : Int32))).toNatClampNeg), .ref l1]) rfl ?_
  obtain ⟨hi3, h⟩ := h
  refine e_tI (.int (gX G ((l4 + (3 : Int32))).toNatClampNeg)) rfl (fun s hs => hs.scr) hi3 rfl ?_
  refine e_blk 1 1163 _ _ (pc' := 1164) (L' := [some (.ref (gS G 200)), some (.ref l1), some (.ref l2), some (.ref l3), some (.int l4), none, none, none]) (st' := [.ref l3, .int (gX G ((l4 + (3 : Int32))).toNatClampNeg), .int (gX G ((l4 + (2 : Int32))).toNatClampNeg), .int (gX G ((l4 + (1 : Int32))).toNatClampNeg), .ref l1]) rfl ?_
  refine e_callSH (As := [.ref l1, .int (gX G ((l4 + (1 : Int32))).toNatClampNeg), .int (gX G ((l4 + (2 : Int32))).toNatClampNeg), .int (gX G ((l4 + (3 : Int32))).toNatClampNeg), .ref l3]) (rest := []) rfl (x_L_before h) (by decide) (aw (i := 886) (by decide +kernel) rfl) ws_L_before wi_L_before wc_L_before (cokL (show cok mi_L_law mi_L_before 0 0 5 = true by decide +kernel) (show _ + 3 ≤ 601024 by omega) (show _ + 18 ≤ 7293034 by omega)) (Nat.le_of_ble_eq_true rfl) (fun v9 M4 hq => ?_) (fun X M9 hq => False.elim hq)
  refine e_wid (k' := kk + 3) (n' := nn + 18) (show _ + 3 ≤ _ by omega) (show _ + 18 ≤ _ by omega) ?_
  obtain ⟨r5, rfl, h⟩ := kI_l hq
  refine e_blk 6 1167 _ _ (pc' := 1175) (L' := [some (.ref (gS G 200)), some (.ref l1), some (.ref l2), some (.ref l3), some (.int l4), some (.int r5), none, none]) (st' := [.int (l4 + (1 : Int32)), .ref (gS G 200), .ref l2]) rfl ?_
  obtain ⟨hi6, h⟩ := h
  refine e_tI (.int (gX G ((l4 + (1 : Int32))).toNatClampNeg)) rfl (fun s hs => hs.scr) hi6 rfl ?_
  refine e_blk 4 1176 _ _ (pc' := 1181) (L' := [some (.ref (gS G 200)), some (.ref l1), some (.ref l2), some (.ref l3), some (.int l4), some (.int r5), none, none]) (st' := [.int (l4 + (2 : Int32)), .ref (gS G 200), .int (gX G ((l4 + (1 : Int32))).toNatClampNeg), .ref l2]) rfl ?_
  obtain ⟨hi7, h⟩ := h
  refine e_tI (.int (gX G ((l4 + (2 : Int32))).toNatClampNeg)) rfl (fun s hs => hs.scr) hi7 rfl ?_
  refine e_blk 4 1182 _ _ (pc' := 1187) (L' := [some (.ref (gS G 200)), some (.ref l1), some (.ref l2), some (.ref l3), some (.int l4), some (.int r5), none, none]) (st' := [.int (l4 + (3 : Int32)), .ref (gS G 200), .int (gX G ((l4 + (2 : Int32))).toNatClampNeg), .int (gX G ((l4 + (1 : Int32))).toNatClampNeg), .ref l2]) rfl ?_
  obtain ⟨hi8, h⟩ := h
  refine e_tI (.int (gX G ((l4 + (3 : Int32))).toNatClampNeg)) rfl (fun s hs => hs.scr) hi8 rfl ?_
  obtain ⟨ho9, h⟩ := h
  refine e_callV (As := [.int (gX G ((l4 + (1 : Int32))).toNatClampNeg), .int (gX G ((l4 + (2 : Int32))).toNatClampNeg), .int (gX G ((l4 + (3 : Int32))).toNatClampNeg)]) (rest := []) (ci := 7) rfl (x_X7_before h) ho9 rfl rfl rfl (aw (i := 1529) (by decide +kernel) rfl) wn_X7_before wv_X7_before wi_X7_before wc_X7_before (cokL (show cok mi_L_law mi_X7_before 0 0 3 = true by decide +kernel) (show _ + 0 ≤ 601024 by omega) (show _ + 0 ≤ 7293034 by omega)) (Nat.le_of_ble_eq_true rfl) (fun v9 M10 hq => ?_) (fun X M9 hq => False.elim hq)
  refine e_wid (k' := kk + 3) (n' := nn + 18) (show _ + 0 ≤ _ by omega) (show _ + 0 ≤ _ by omega) ?_
  obtain ⟨r11, rfl, h⟩ := kI_l hq
  refine e_blk 2 1191 _ _ (pc' := 1194) (L' := [some (.ref (gS G 200)), some (.ref l1), some (.ref l2), some (.ref l3), some (.int l4), some (.int r5), some (.int r11), none]) (st' := [.ref l2]) rfl ?_
  obtain ⟨ho12, h⟩ := h
  refine e_callV (As := []) (rest := []) (ci := 7) rfl (x_X7_thrown h) ho12 rfl rfl rfl (aw (i := 1247) (by decide +kernel) rfl) wn_X7_thrown wv_X7_thrown wi_X7_thrown wc_X7_thrown (cokL (show cok mi_L_law mi_X7_thrown 0 0 0 = true by decide +kernel) (show _ + 0 ≤ 601024 by omega) (show _ + 0 ≤ 7293034 by omega)) (Nat.le_of_ble_eq_true rfl) (fun v9 M13 hq => ?_) (fun X M9 hq => False.elim hq)
  refine e_wid (k' := kk + 3) (n' := nn + 18) (show _ + 0 ≤ _ by omega) (show _ + 0 ≤ _ by omega) ?_
  obtain ⟨r14, rfl, h⟩ := kI_l hq
  refine e_blk 1 1197 _ _ (pc' := 1199) (L' := [some (.ref (gS G 200)), some (.ref l1), some (.ref l2), some (.ref l3), some (.int l4), some (.int r5), some (.int r11), none]) (st' := [.int r5, .int r14]) rfl ?_
  refine e_icmp_eq 1204 rfl rfl (fun hc => ?_) (fun hc => ?_)
  · replace h := h.1 hc
    refine e_blk 1 1204 _ _ (pc' := 1206) (L' := [some (.ref (gS G 200)), some (.ref l1), some (.ref l2), some (.ref l3), some (.int l4), some (.int r5), some (.int r11), none]) (st' := [.int r5]) rfl ?_
    refine e_if_ne 1221 rfl rfl (fun hc => ?_) (fun hc => ?_)
    · replace h := h.1 hc
      refine e_wid (k' := kk + 3) (n' := nn + 18) (show _ ≤ _ by omega) (show _ ≤ _ by omega) ?_
      refine e_drp [true, true, true, true, true, false, false, false] (L' := [some (.ref (gS G 200)), some (.ref l1), some (.ref l2), some (.ref l3), some (.int l4), none, none, none]) rfl ?_
      exact x_L_law_1221 hkk hnn hB23 h
    · replace h := h.2 hc
      refine e_blk 2 1209 _ _ (pc' := 1211) (L' := [some (.ref (gS G 200)), some (.ref l1), some (.ref l2), some (.ref l3), some (.int l4), some (.int r5), some (.int r11), none]) (st' := [.int (0 : Int32), .ref l3]) rfl ?_
      obtain ⟨ho15, h⟩ := h
      obtain ⟨hi16, h⟩ := h
      refine e_lald rfl ho15 hi16 ?_
      refine e_blk 3 1212 _ _ (pc' := 1216) (L' := [some (.ref (gS G 200)), some (.ref l1), some (.ref l2), some (.ref l3), some (.int l4), some (.int r5), some (.int r11), none]) (st' := [.int (lg_cmp (mJ M13 l3 ((0 : Int32)).toNatClampNeg) ((r11).toInt64))]) rfl ?_
      refine e_if_eq 1221 rfl rfl (fun hc => ?_) (fun hc => ?_)
      · replace h := h.1 hc
        refine e_wid (k' := kk + 3) (n' := nn + 18) (show _ ≤ _ by omega) (show _ ≤ _ by omega) ?_
        refine e_drp [true, true, true, true, true, false, false, false] (L' := [some (.ref (gS G 200)), some (.ref l1), some (.ref l2), some (.ref l3), some (.int l4), none, none, none]) rfl ?_
        exact x_L_law_1221 hkk hnn hB23 h
      · replace h := h.2 hc
        refine e_blk 1 1219 _ _ (pc' := 1220) (L' := [some (.ref (gS G 200)), some (.ref l1), some (.ref l2), some (.ref l3), some (.int l4), some (.int r5), some (.int r11), none]) (st' := [.int (0 : Int32)]) rfl ?_
        exact e_retz rfl rfl (by decide) (show _ ≤ 601024 by omega) (show _ ≤ 7293034 by omega) h
  · replace h := h.2 hc
    refine e_blk 1 1202 _ _ (pc' := 1203) (L' := [some (.ref (gS G 200)), some (.ref l1), some (.ref l2), some (.ref l3), some (.int l4), some (.int r5), some (.int r11), none]) (st' := [.int (0 : Int32)]) rfl ?_
    exact e_retz rfl rfl (by decide) (show _ ≤ 601024 by omega) (show _ ≤ 7293034 by omega) h
def V_L_law_1141 (G : Gx) (K : Rs → Mm → Prop) (B23 : Mm → Nat → Nat → Nat → Int32 → Prop) (M : Mm) (l1 : Nat) (l2 : Nat) (l3 : Nat) (l4 : Int32) : Prop := V_L_law_1601 G K B23 M l1 l2 l3 l4
set_option maxRecDepth 100000 in
set_option maxHeartbeats 4000000 in
theorem x_L_law_1141 {G : Gx} {K : Rs → Mm → Prop} {kk nn : Nat} (hkk : kk + 5 ≤ 601024) (hnn : nn + 30 ≤ 7293034) {B23 : Mm → Nat → Nat → Nat → Int32 → Prop} (hB23 : ∀ M l1 l2 l3 l4, B23 M l1 l2 l3 l4 → E G mi_L_law K M (kk + 5) (nn + 30) 23 [some (.ref (gS G 200)), some (.ref l1), some (.ref l2), some (.ref l3), some (.int l4), none, none, none] []) {M : Mm} {l1 : Nat} {l2 : Nat} {l3 : Nat} {l4 : Int32} (h : V_L_law_1141 G K B23 M l1 l2 l3 l4) : E G mi_L_law K M (kk + 3) (nn + 18) 1141 [some (.ref (gS G 200)), some (.ref l1), some (.ref l2), some (.ref l3), some (.int l4), none, none, none] [] := by
  unfold V_L_law_1141 at h
  refine e_blk 1 1141 _ _ (pc' := 1601) (L' := [some (.ref (gS G 200)), some (.ref l1), some (.ref l2), some (.ref l3), some (.int l4), none, none, none]) (st' := []) rfl ?_
  refine e_wid (k' := kk + 5) (n' := nn + 30) (show _ ≤ _ by omega) (show _ ≤ _ by omega) ?_
  refine e_drp [true, true, true, true, true, false, false, false] (L' := [some (.ref (gS G 200)), some (.ref l1), some (.ref l2), some (.ref l3), some (.int l4), none, none, none]) rfl ?_
  exact x_L_law_1601 hkk hnn hB23 h
def V_L_law_1064 (G : Gx) (K : Rs → Mm → Prop) (B23 : Mm → Nat → Nat → Nat → Int32 → Prop) (M : Mm) (l1 : Nat) (l2 : Nat) (l3 : Nat) (l4 : Int32) : Prop := (vp_in (l4 + (1 : Int32)) (gS G 201) ∧ (vp_in (l4 + (2 : Int32)) (gS G 201) ∧ (vp_in (l4 + (3 : Int32)) (gS G 201) ∧ V_L_next (kI (fun r5 M4 => (vp_in (l4 + (1 : Int32)) (gS G 201) ∧ (vp_in (l4 + (2 : Int32)) (gS G 201) ∧ (vp_in (l4 + (3 : Int32)) (gS G 201) ∧ (ob M4 l2 7 ∧ V_X7_next (kI (fun r11 M10 => (ob M10 l2 7 ∧ V_X7_thrown (kI (fun r14 M13 => ((r14 = r5 → ((¬ r5 = 0 → V_L_law_1141 G K B23 M13 l1 l2 l3 l4) ∧ (r5 = 0 → (ob M13 l3 10 ∧ (vp_in (0 : Int32) (mN M13 l3) ∧ (((lg_cmp (mJ M13 l3 ((0 : Int32)).toNatClampNeg) ((r11).toInt64)) = 0 → V_L_law_1141 G K B23 M13 l1 l2 l3 l4) ∧ (¬ (lg_cmp (mJ M13 l3 ((0 : Int32)).toNatClampNeg) ((r11).toInt64)) = 0 → K (.inl (some (.int (0 : Int32)))) M13))))))) ∧ (¬ r14 = r5 → K (.inl (some (.int (0 : Int32)))) M13))) (fun _ _ => False)) M10 l2)) (fun _ _ => False)) M4 l2 (gX G ((l4 + (1 : Int32))).toNatClampNeg) (gX G ((l4 + (2 : Int32))).toNatClampNeg) (gX G ((l4 + (3 : Int32))).toNatClampNeg)))))) (fun _ _ => False)) M l1 (gX G ((l4 + (1 : Int32))).toNatClampNeg) (gX G ((l4 + (2 : Int32))).toNatClampNeg) (gX G ((l4 + (3 : Int32))).toNatClampNeg) l3)))
set_option maxRecDepth 100000 in
set_option maxHeartbeats 4000000 in
theorem x_L_law_1064 {G : Gx} {K : Rs → Mm → Prop} {kk nn : Nat} (hkk : kk + 5 ≤ 601024) (hnn : nn + 30 ≤ 7293034) {B23 : Mm → Nat → Nat → Nat → Int32 → Prop} (hB23 : ∀ M l1 l2 l3 l4, B23 M l1 l2 l3 l4 → E G mi_L_law K M (kk + 5) (nn + 30) 23 [some (.ref (gS G 200)), some (.ref l1), some (.ref l2), some (.ref l3), some (.int l4), none, none, none] []) {M : Mm} {l1 : Nat} {l2 : Nat} {l3 : Nat} {l4 : Int32} (h : V_L_law_1064 G K B23 M l1 l2 l3 l4) : E G mi_L_law K M (kk + 0) (nn + 0) 1064 [some (.ref (gS G 200)), some (.ref l1), some (.ref l2), some (.ref l3), some (.int l4), none, none, none] [] := by
  unfold V_L_law_1064 at h
  refine e_blk 5 1064 _ _ (pc' := 1070) (L' := [some (.ref (gS G 200)), some (.ref l1), some (.ref l2), some (.ref l3), some (.int l4), none, none, none]) (st' := [.int (l4 + (1 : Int32)), .ref (gS G 200), .ref l1]) rfl ?_
  obtain ⟨hi1, h⟩ := h
  refine e_tI (.int (gX G ((l4 + (1 : Int32))).toNatClampNeg)) rfl (fun s hs => hs.scr) hi1 rfl ?_
  refine e_blk 4 1071 _ _ (pc' := 1076) (L' := [some (.ref (gS G 200)), some (.ref l1), some (.ref l2), some (.ref l3), some (.int l4), none, none, none]) (st' := [.int (l4 + (2 : Int32)), .ref (gS G 200), .int (gX G ((l4 + (1 : Int32))).toNatClampNeg), .ref l1]) rfl ?_
  obtain ⟨hi2, h⟩ := h
  refine e_tI (.int (gX G ((l4 + (2 : Int32))).toNatClampNeg)) rfl (fun s hs => hs.scr) hi2 rfl ?_
  refine e_blk 4 1077 _ _ (pc' := 1082) (L' := [some (.ref (gS G 200)), some (.ref l1), some (.ref l2), some (.ref l3), some (.int l4), none, none, none]) (st' := [.int (l4 + (3 : Int32)), .ref (gS G 200), .int (gX G ((l4 + (2 : Int32))).toNatClampNeg), .int (gX G ((l4 + (1 : Int32))).toNatClampNeg), .ref l1]) rfl ?_
  obtain ⟨hi3, h⟩ := h
  refine e_tI (.int (gX G ((l4 + (3 : Int32))).toNatClampNeg)) rfl (fun s hs => hs.scr) hi3 rfl ?_
  refine e_blk 1 1083 _ _ (pc' := 1084) (L' := [some (.ref (gS G 200)), some (.ref l1), some (.ref l2), some (.ref l3), some (.int l4), none, none, none]) (st' := [.ref l3, .int (gX G ((l4 + (3 : Int32))).toNatClampNeg), .int (gX G ((l4 + (2 : Int32))).toNatClampNeg), .int (gX G ((l4 + (1 : Int32))).toNatClampNeg), .ref l1]) rfl ?_
  refine e_callSH (As := [.ref l1, .int (gX G ((l4 + (1 : Int32))).toNatClampNeg), .int (gX G ((l4 + (2 : Int32))).toNatClampNeg), .int (gX G ((l4 + (3 : Int32))).toNatClampNeg), .ref l3]) (rest := []) rfl (x_L_next h) (by decide) (aw (i := 874) (by decide +kernel) rfl) ws_L_next wi_L_next wc_L_next (cokL (show cok mi_L_law mi_L_next 0 0 5 = true by decide +kernel) (show _ + 3 ≤ 601024 by omega) (show _ + 18 ≤ 7293034 by omega)) (Nat.le_of_ble_eq_true rfl) (fun v9 M4 hq => ?_) (fun X M9 hq => False.elim hq)
  refine e_wid (k' := kk + 3) (n' := nn + 18) (show _ + 3 ≤ _ by omega) (show _ + 18 ≤ _ by omega) ?_
  obtain ⟨r5, rfl, h⟩ := kI_l hq
  refine e_blk 6 1087 _ _ (pc' := 1095) (L' := [some (.ref (gS G 200)), some (.ref l1), some (.ref l2), some (.ref l3), some (.int l4), some (.int r5), none, none]) (st' := [.int (l4 + (1 : Int32)), .ref (gS G 200), .ref l2]) rfl ?_
  obtain ⟨hi6, h⟩ := h
  refine e_tI (.int (gX G ((l4 + (1 : Int32))).toNatClampNeg)) rfl (fun s hs => hs.scr) hi6 rfl ?_
  refine e_blk 4 1096 _ _ (pc' := 1101) (L' := [some (.ref (gS G 200)), some (.ref l1), some (.ref l2), some (.ref l3), some (.int l4), some (.int r5), none, none]) (st' := [.int (l4 + (2 : Int32)), .ref (gS G 200), .int (gX G ((l4 + (1 : Int32))).toNatClampNeg), .ref l2]) rfl ?_
  obtain ⟨hi7, h⟩ := h
  refine e_tI (.int (gX G ((l4 + (2 : Int32))).toNatClampNeg)) rfl (fun s hs => hs.scr) hi7 rfl ?_
  refine e_blk 4 1102 _ _ (pc' := 1107) (L' := [some (.ref (gS G 200)), some (.ref l1), some (.ref l2), some (.ref l3), some (.int l4), some (.int r5), none, none]) (st' := [.int (l4 + (3 : Int32)), .ref (gS G 200), .int (gX G ((l4 + (2 : Int32))).toNatClampNeg), .int (gX G ((l4 + (1 : Int32))).toNatClampNeg), .ref l2]) rfl ?_
  obtain ⟨hi8, h⟩ := h
  refine e_tI (.int (gX G ((l4 + (3 : Int32))).toNatClampNeg)) rfl (fun s hs => hs.scr) hi8 rfl ?_
  obtain ⟨ho9, h⟩ := h
  refine e_callV (As := [.int (gX G ((l4 + (1 : Int32))).toNatClampNeg), .int (gX G ((l4 + (2 : Int32))).toNatClampNeg), .int (gX G ((l4 + (3 : Int32))).toNatClampNeg)]) (rest := []) (ci := 7) rfl (x_X7_next h) ho9 rfl rfl rfl (aw (i := 1515) (by decide +kernel) rfl) wn_X7_next wv_X7_next wi_X7_next wc_X7_next (cokL (show cok mi_L_law mi_X7_next 0 0 3 = true by decide +kernel) (show _ + 0 ≤ 601024 by omega) (show _ + 0 ≤ 7293034 by omega)) (Nat.le_of_ble_eq_true rfl) (fun v9 M10 hq => ?_) (fun X M9 hq => False.elim hq)
  refine e_wid (k' := kk + 3) (n' := nn + 18) (show _ + 0 ≤ _ by omega) (show _ + 0 ≤ _ by omega) ?_
  obtain ⟨r11, rfl, h⟩ := kI_l hq
  refine e_blk 2 1111 _ _ (pc' := 1114) (L' := [some (.ref (gS G 200)), some (.ref l1), some (.ref l2), some (.ref l3), some (.int l4), some (.int r5), some (.int r11), none]) (st' := [.ref l2]) rfl ?_
  obtain ⟨ho12, h⟩ := h
  refine e_callV (As := []) (rest := []) (ci := 7) rfl (x_X7_thrown h) ho12 rfl rfl rfl (aw (i := 1247) (by decide +kernel) rfl) wn_X7_thrown wv_X7_thrown wi_X7_thrown wc_X7_thrown (cokL (show cok mi_L_law mi_X7_thrown 0 0 0 = true by decide +kernel) (show _ + 0 ≤ 601024 by omega) (show _ + 0 ≤ 7293034 by omega)) (Nat.le_of_ble_eq_true rfl) (fun v9 M13 hq => ?_) (fun X M9 hq => False.elim hq)
  refine e_wid (k' := kk + 3) (n' := nn + 18) (show _ + 0 ≤ _ by omega) (show _ + 0 ≤ _ by omega) ?_
  obtain ⟨r14, rfl, h⟩ := kI_l hq
  refine e_blk 1 1117 _ _ (pc' := 1119) (L' := [some (.ref (gS G 200)), some (.ref l1), some (.ref l2), some (.ref l3), some (.int l4), some (.int r5), some (.int r11), none]) (st' := [.int r5, .int r14]) rfl ?_
  refine e_icmp_eq 1124 rfl rfl (fun hc => ?_) (fun hc => ?_)
  · replace h := h.1 hc
    refine e_blk 1 1124 _ _ (pc' := 1126) (L' := [some (.ref (gS G 200)), some (.ref l1), some (.ref l2), some (.ref l3), some (.int l4), some (.int r5), some (.int r11), none]) (st' := [.int r5]) rfl ?_
    refine e_if_ne 1141 rfl rfl (fun hc => ?_) (fun hc => ?_)
    · replace h := h.1 hc
      refine e_wid (k' := kk + 3) (n' := nn + 18) (show _ ≤ _ by omega) (show _ ≤ _ by omega) ?_
      refine e_drp [true, true, true, true, true, false, false, false] (L' := [some (.ref (gS G 200)), some (.ref l1), some (.ref l2), some (.ref l3), some (.int l4), none, none, none]) rfl ?_
      exact x_L_law_1141 hkk hnn hB23 h
    · replace h := h.2 hc
      refine e_blk 2 1129 _ _ (pc' := 1131) (L' := [some (.ref (gS G 200)), some (.ref l1), some (.ref l2), some (.ref l3), some (.int l4), some (.int r5), some (.int r11), none]) (st' := [.int (0 : Int32), .ref l3]) rfl ?_
      obtain ⟨ho15, h⟩ := h
      obtain ⟨hi16, h⟩ := h
      refine e_lald rfl ho15 hi16 ?_
      refine e_blk 3 1132 _ _ (pc' := 1136) (L' := [some (.ref (gS G 200)), some (.ref l1), some (.ref l2), some (.ref l3), some (.int l4), some (.int r5), some (.int r11), none]) (st' := [.int (lg_cmp (mJ M13 l3 ((0 : Int32)).toNatClampNeg) ((r11).toInt64))]) rfl ?_
      refine e_if_eq 1141 rfl rfl (fun hc => ?_) (fun hc => ?_)
      · replace h := h.1 hc
        refine e_wid (k' := kk + 3) (n' := nn + 18) (show _ ≤ _ by omega) (show _ ≤ _ by omega) ?_
        refine e_drp [true, true, true, true, true, false, false, false] (L' := [some (.ref (gS G 200)), some (.ref l1), some (.ref l2), some (.ref l3), some (.int l4), none, none, none]) rfl ?_
        exact x_L_law_1141 hkk hnn hB23 h
      · replace h := h.2 hc
        refine e_blk 1 1139 _ _ (pc' := 1140) (L' := [some (.ref (gS G 200)), some (.ref l1), some (.ref l2), some (.ref l3), some (.int l4), some (.int r5), some (.int r11), none]) (st' := [.int (0 : Int32)]) rfl ?_
        exact e_retz rfl rfl (by decide) (show _ ≤ 601024 by omega) (show _ ≤ 7293034 by omega) h
  · replace h := h.2 hc
    refine e_blk 1 1122 _ _ (pc' := 1123) (L' := [some (.ref (gS G 200)), some (.ref l1), some (.ref l2), some (.ref l3), some (.int l4), some (.int r5), some (.int r11), none]) (st' := [.int (0 : Int32)]) rfl ?_
    exact e_retz rfl rfl (by decide) (show _ ≤ 601024 by omega) (show _ ≤ 7293034 by omega) h
def V_L_law_1061 (G : Gx) (K : Rs → Mm → Prop) (B23 : Mm → Nat → Nat → Nat → Int32 → Prop) (M : Mm) (l1 : Nat) (l2 : Nat) (l3 : Nat) (l4 : Int32) : Prop := V_L_law_1601 G K B23 M l1 l2 l3 l4
set_option maxRecDepth 100000 in
set_option maxHeartbeats 4000000 in
theorem x_L_law_1061 {G : Gx} {K : Rs → Mm → Prop} {kk nn : Nat} (hkk : kk + 5 ≤ 601024) (hnn : nn + 30 ≤ 7293034) {B23 : Mm → Nat → Nat → Nat → Int32 → Prop} (hB23 : ∀ M l1 l2 l3 l4, B23 M l1 l2 l3 l4 → E G mi_L_law K M (kk + 5) (nn + 30) 23 [some (.ref (gS G 200)), some (.ref l1), some (.ref l2), some (.ref l3), some (.int l4), none, none, none] []) {M : Mm} {l1 : Nat} {l2 : Nat} {l3 : Nat} {l4 : Int32} (h : V_L_law_1061 G K B23 M l1 l2 l3 l4) : E G mi_L_law K M (kk + 2) (nn + 12) 1061 [some (.ref (gS G 200)), some (.ref l1), some (.ref l2), some (.ref l3), some (.int l4), none, none, none] [] := by
  unfold V_L_law_1061 at h
  refine e_blk 1 1061 _ _ (pc' := 1601) (L' := [some (.ref (gS G 200)), some (.ref l1), some (.ref l2), some (.ref l3), some (.int l4), none, none, none]) (st' := []) rfl ?_
  refine e_wid (k' := kk + 5) (n' := nn + 30) (show _ ≤ _ by omega) (show _ ≤ _ by omega) ?_
  refine e_drp [true, true, true, true, true, false, false, false] (L' := [some (.ref (gS G 200)), some (.ref l1), some (.ref l2), some (.ref l3), some (.int l4), none, none, none]) rfl ?_
  exact x_L_law_1601 hkk hnn hB23 h
def V_L_law_1055 (G : Gx) (K : Rs → Mm → Prop) (B23 : Mm → Nat → Nat → Nat → Int32 → Prop) (M : Mm) (l1 : Nat) (l2 : Nat) (l3 : Nat) (l4 : Int32) (s0 : Int64) (s1 : Int64) : Prop := (((lg_cmp s0 s1) = 0 → V_L_law_1061 G K B23 M l1 l2 l3 l4) ∧ (¬ (lg_cmp s0 s1) = 0 → K (.inl (some (.int (0 : Int32)))) M))
set_option maxRecDepth 100000 in
set_option maxHeartbeats 4000000 in
theorem x_L_law_1055 {G : Gx} {K : Rs → Mm → Prop} {kk nn : Nat} (hkk : kk + 5 ≤ 601024) (hnn : nn + 30 ≤ 7293034) {B23 : Mm → Nat → Nat → Nat → Int32 → Prop} (hB23 : ∀ M l1 l2 l3 l4, B23 M l1 l2 l3 l4 → E G mi_L_law K M (kk + 5) (nn + 30) 23 [some (.ref (gS G 200)), some (.ref l1), some (.ref l2), some (.ref l3), some (.int l4), none, none, none] []) {M : Mm} {l1 : Nat} {l2 : Nat} {l3 : Nat} {l4 : Int32} {s0 : Int64} {s1 : Int64} (h : V_L_law_1055 G K B23 M l1 l2 l3 l4 s0 s1) : E G mi_L_law K M (kk + 2) (nn + 12) 1055 [some (.ref (gS G 200)), some (.ref l1), some (.ref l2), some (.ref l3), some (.int l4), none, none, none] [.long s1, .long s0] := by
  unfold V_L_law_1055 at h
  refine e_blk 1 1055 _ _ (pc' := 1056) (L' := [some (.ref (gS G 200)), some (.ref l1), some (.ref l2), some (.ref l3), some (.int l4), none, none, none]) (st' := [.int (lg_cmp s0 s1)]) rfl ?_
  refine e_if_eq 1061 rfl rfl (fun hc => ?_) (fun hc => ?_)
  · replace h := h.1 hc
    refine e_wid (k' := kk + 2) (n' := nn + 12) (show _ ≤ _ by omega) (show _ ≤ _ by omega) ?_
    refine e_drp [true, true, true, true, true, false, false, false] (L' := [some (.ref (gS G 200)), some (.ref l1), some (.ref l2), some (.ref l3), some (.int l4), none, none, none]) rfl ?_
    exact x_L_law_1061 hkk hnn hB23 h
  · replace h := h.2 hc
    refine e_blk 1 1059 _ _ (pc' := 1060) (L' := [some (.ref (gS G 200)), some (.ref l1), some (.ref l2), some (.ref l3), some (.int l4), none, none, none]) (st' := [.int (0 : Int32)]) rfl ?_
    exact e_retz rfl rfl (by decide) (show _ ≤ 601024 by omega) (show _ ≤ 7293034 by omega) h
def V_L_law_989 (G : Gx) (K : Rs → Mm → Prop) (B23 : Mm → Nat → Nat → Nat → Int32 → Prop) (M : Mm) (l1 : Nat) (l2 : Nat) (l3 : Nat) (l4 : Int32) : Prop := (vp_in (l4 + (1 : Int32)) (gS G 201) ∧ (vp_in (l4 + (2 : Int32)) (gS G 201) ∧ V_L_matches (kI (fun r4 M3 => (vp_in (l4 + (1 : Int32)) (gS G 201) ∧ (vp_in (l4 + (2 : Int32)) (gS G 201) ∧ (ob M3 l2 7 ∧ V_X7_matches (kI (fun r9 M8 => (ob M8 l2 7 ∧ V_X7_thrown (kI (fun r12 M11 => ((r12 = r4 → ((¬ r4 = 0 → V_L_law_1061 G K B23 M11 l1 l2 l3 l4) ∧ (r4 = 0 → (ob M11 l3 10 ∧ (vp_in (0 : Int32) (mN M11 l3) ∧ ((r9 = 0 → V_L_law_1055 G K B23 M11 l1 l2 l3 l4 (mJ M11 l3 ((0 : Int32)).toNatClampNeg) (0 : Int64)) ∧ (¬ r9 = 0 → V_L_law_1055 G K B23 M11 l1 l2 l3 l4 (mJ M11 l3 ((0 : Int32)).toNatClampNeg) (1 : Int64)))))))) ∧ (¬ r12 = r4 → K (.inl (some (.int (0 : Int32)))) M11))) (fun _ _ => False)) M8 l2)) (fun _ _ => False)) M3 l2 (gX G ((l4 + (1 : Int32))).toNatClampNeg) (gX G ((l4 + (2 : Int32))).toNatClampNeg))))) (fun _ _ => False)) M l1 (gX G ((l4 + (1 : Int32))).toNatClampNeg) (gX G ((l4 + (2 : Int32))).toNatClampNeg) l3))
set_option maxRecDepth 100000 in
set_option maxHeartbeats 4000000 in
theorem x_L_law_989 {G : Gx} {K : Rs → Mm → Prop} {kk nn : Nat} (hkk : kk + 5 ≤ 601024) (hnn : nn + 30 ≤ 7293034) {B23 : Mm → Nat → Nat → Nat → Int32 → Prop} (hB23 : ∀ M l1 l2 l3 l4, B23 M l1 l2 l3 l4 → E G mi_L_law K M (kk + 5) (nn + 30) 23 [some (.ref (gS G 200)), some (.ref l1), some (.ref l2), some (.ref l3), some (.int l4), none, none, none] []) {M : Mm} {l1 : Nat} {l2 : Nat} {l3 : Nat} {l4 : Int32} (h : V_L_law_989 G K B23 M l1 l2 l3 l4) : E G mi_L_law K M (kk + 0) (nn + 0) 989 [some (.ref (gS G 200)), some (.ref l1), some (.ref l2), some (.ref l3), some (.int l4), none, none, none] [] := by
  unfold V_L_law_989 at h
  refine e_blk 5 989 _ _ (pc' := 995) (L' := [some (.ref (gS G 200)), some (.ref l1), some (.ref l2), some (.ref l3), some (.int l4), none, none, none]) (st' := [.int (l4 + (1 : Int32)), .ref (gS G 200), .ref l1]) rfl ?_
  obtain ⟨hi1, h⟩ := h
  refine e_tI (.int (gX G ((l4 + (1 : Int32))).toNatClampNeg)) rfl (fun s hs => hs.scr) hi1 rfl ?_
  refine e_blk 4 996 _ _ (pc' := 1001) (L' := [some (.ref (gS G 200)), some (.ref l1), some (.ref l2), some (.ref l3), some (.int l4), none, none, none]) (st' := [.int (l4 + (2 : Int32)), .ref (gS G 200), .int (gX G ((l4 + (1 : Int32))).toNatClampNeg), .ref l1]) rfl ?_
  obtain ⟨hi2, h⟩ := h
  refine e_tI (.int (gX G ((l4 + (2 : Int32))).toNatClampNeg)) rfl (fun s hs => hs.scr) hi2 rfl ?_
  refine e_blk 1 1002 _ _ (pc' := 1003) (L' := [some (.ref (gS G 200)), some (.ref l1), some (.ref l2), some (.ref l3), some (.int l4), none, none, none]) (st' := [.ref l3, .int (gX G ((l4 + (2 : Int32))).toNatClampNeg), .int (gX G ((l4 + (1 : Int32))).toNatClampNeg), .ref l1]) rfl ?_
  refine e_callSH (As := [.ref l1, .int (gX G ((l4 + (1 : Int32))).toNatClampNeg), .int (gX G ((l4 + (2 : Int32))).toNatClampNeg), .ref l3]) (rest := []) rfl (x_L_matches h) (by decide) (aw (i := 814) (by decide +kernel) rfl) ws_L_matches wi_L_matches wc_L_matches (cokL (show cok mi_L_law mi_L_matches 0 0 4 = true by decide +kernel) (show _ + 2 ≤ 601024 by omega) (show _ + 12 ≤ 7293034 by omega)) (Nat.le_of_ble_eq_true rfl) (fun v9 M3 hq => ?_) (fun X M9 hq => False.elim hq)
  refine e_wid (k' := kk + 2) (n' := nn + 12) (show _ + 2 ≤ _ by omega) (show _ + 12 ≤ _ by omega) ?_
  obtain ⟨r4, rfl, h⟩ := kI_l hq
  refine e_blk 6 1006 _ _ (pc' := 1014) (L' := [some (.ref (gS G 200)), some (.ref l1), some (.ref l2), some (.ref l3), some (.int l4), some (.int r4), none, none]) (st' := [.int (l4 + (1 : Int32)), .ref (gS G 200), .ref l2]) rfl ?_
  obtain ⟨hi5, h⟩ := h
  refine e_tI (.int (gX G ((l4 + (1 : Int32))).toNatClampNeg)) rfl (fun s hs => hs.scr) hi5 rfl ?_
  refine e_blk 4 1015 _ _ (pc' := 1020) (L' := [some (.ref (gS G 200)), some (.ref l1), some (.ref l2), some (.ref l3), some (.int l4), some (.int r4), none, none]) (st' := [.int (l4 + (2 : Int32)), .ref (gS G 200), .int (gX G ((l4 + (1 : Int32))).toNatClampNeg), .ref l2]) rfl ?_
  obtain ⟨hi6, h⟩ := h
  refine e_tI (.int (gX G ((l4 + (2 : Int32))).toNatClampNeg)) rfl (fun s hs => hs.scr) hi6 rfl ?_
  obtain ⟨ho7, h⟩ := h
  refine e_callV (As := [.int (gX G ((l4 + (1 : Int32))).toNatClampNeg), .int (gX G ((l4 + (2 : Int32))).toNatClampNeg)]) (rest := []) (ci := 7) rfl (x_X7_matches h) ho7 rfl rfl rfl (aw (i := 1503) (by decide +kernel) rfl) wn_X7_matches wv_X7_matches wi_X7_matches wc_X7_matches (cokL (show cok mi_L_law mi_X7_matches 0 0 2 = true by decide +kernel) (show _ + 0 ≤ 601024 by omega) (show _ + 0 ≤ 7293034 by omega)) (Nat.le_of_ble_eq_true rfl) (fun v9 M8 hq => ?_) (fun X M9 hq => False.elim hq)
  refine e_wid (k' := kk + 2) (n' := nn + 12) (show _ + 0 ≤ _ by omega) (show _ + 0 ≤ _ by omega) ?_
  obtain ⟨r9, rfl, h⟩ := kI_l hq
  refine e_blk 2 1024 _ _ (pc' := 1027) (L' := [some (.ref (gS G 200)), some (.ref l1), some (.ref l2), some (.ref l3), some (.int l4), some (.int r4), some (.int r9), none]) (st' := [.ref l2]) rfl ?_
  obtain ⟨ho10, h⟩ := h
  refine e_callV (As := []) (rest := []) (ci := 7) rfl (x_X7_thrown h) ho10 rfl rfl rfl (aw (i := 1247) (by decide +kernel) rfl) wn_X7_thrown wv_X7_thrown wi_X7_thrown wc_X7_thrown (cokL (show cok mi_L_law mi_X7_thrown 0 0 0 = true by decide +kernel) (show _ + 0 ≤ 601024 by omega) (show _ + 0 ≤ 7293034 by omega)) (Nat.le_of_ble_eq_true rfl) (fun v9 M11 hq => ?_) (fun X M9 hq => False.elim hq)
  refine e_wid (k' := kk + 2) (n' := nn + 12) (show _ + 0 ≤ _ by omega) (show _ + 0 ≤ _ by omega) ?_
  obtain ⟨r12, rfl, h⟩ := kI_l hq
  refine e_blk 1 1030 _ _ (pc' := 1032) (L' := [some (.ref (gS G 200)), some (.ref l1), some (.ref l2), some (.ref l3), some (.int l4), some (.int r4), some (.int r9), none]) (st' := [.int r4, .int r12]) rfl ?_
  refine e_icmp_eq 1037 rfl rfl (fun hc => ?_) (fun hc => ?_)
  · replace h := h.1 hc
    refine e_blk 1 1037 _ _ (pc' := 1039) (L' := [some (.ref (gS G 200)), some (.ref l1), some (.ref l2), some (.ref l3), some (.int l4), some (.int r4), some (.int r9), none]) (st' := [.int r4]) rfl ?_
    refine e_if_ne 1061 rfl rfl (fun hc => ?_) (fun hc => ?_)
    · replace h := h.1 hc
      refine e_wid (k' := kk + 2) (n' := nn + 12) (show _ ≤ _ by omega) (show _ ≤ _ by omega) ?_
      refine e_drp [true, true, true, true, true, false, false, false] (L' := [some (.ref (gS G 200)), some (.ref l1), some (.ref l2), some (.ref l3), some (.int l4), none, none, none]) rfl ?_
      exact x_L_law_1061 hkk hnn hB23 h
    · replace h := h.2 hc
      refine e_blk 2 1042 _ _ (pc' := 1044) (L' := [some (.ref (gS G 200)), some (.ref l1), some (.ref l2), some (.ref l3), some (.int l4), some (.int r4), some (.int r9), none]) (st' := [.int (0 : Int32), .ref l3]) rfl ?_
      obtain ⟨ho13, h⟩ := h
      obtain ⟨hi14, h⟩ := h
      refine e_lald rfl ho13 hi14 ?_
      refine e_blk 1 1045 _ _ (pc' := 1047) (L' := [some (.ref (gS G 200)), some (.ref l1), some (.ref l2), some (.ref l3), some (.int l4), some (.int r4), some (.int r9), none]) (st' := [.int r9, .long (mJ M11 l3 ((0 : Int32)).toNatClampNeg)]) rfl ?_
      refine e_if_eq 1054 rfl rfl (fun hc => ?_) (fun hc => ?_)
      · replace h := h.1 hc
        refine e_blk 1 1054 _ _ (pc' := 1055) (L' := [some (.ref (gS G 200)), some (.ref l1), some (.ref l2), some (.ref l3), some (.int l4), some (.int r4), some (.int r9), none]) (st' := [.long (0 : Int64), .long (mJ M11 l3 ((0 : Int32)).toNatClampNeg)]) rfl ?_
        refine e_wid (k' := kk + 2) (n' := nn + 12) (show _ ≤ _ by omega) (show _ ≤ _ by omega) ?_
        refine e_drp [true, true, true, true, true, false, false, false] (L' := [some (.ref (gS G 200)), some (.ref l1), some (.ref l2), some (.ref l3), some (.int l4), none, none, none]) rfl ?_
        exact x_L_law_1055 hkk hnn hB23 h
      · replace h := h.2 hc
        refine e_blk 2 1050 _ _ (pc' := 1055) (L' := [some (.ref (gS G 200)), some (.ref l1), some (.ref l2), some (.ref l3), some (.int l4), some (.int r4), some (.int r9), none]) (st' := [.long (1 : Int64), .long (mJ M11 l3 ((0 : Int32)).toNatClampNeg)]) rfl ?_
        refine e_wid (k' := kk + 2) (n' := nn + 12) (show _ ≤ _ by omega) (show _ ≤ _ by omega) ?_
        refine e_drp [true, true, true, true, true, false, false, false] (L' := [some (.ref (gS G 200)), some (.ref l1), some (.ref l2), some (.ref l3), some (.int l4), none, none, none]) rfl ?_
        exact x_L_law_1055 hkk hnn hB23 h
  · replace h := h.2 hc
    refine e_blk 1 1035 _ _ (pc' := 1036) (L' := [some (.ref (gS G 200)), some (.ref l1), some (.ref l2), some (.ref l3), some (.int l4), some (.int r4), some (.int r9), none]) (st' := [.int (0 : Int32)]) rfl ?_
    exact e_retz rfl rfl (by decide) (show _ ≤ 601024 by omega) (show _ ≤ 7293034 by omega) h
def V_L_law_986 (G : Gx) (K : Rs → Mm → Prop) (B23 : Mm → Nat → Nat → Nat → Int32 → Prop) (M : Mm) (l1 : Nat) (l2 : Nat) (l3 : Nat) (l4 : Int32) : Prop := V_L_law_1601 G K B23 M l1 l2 l3 l4
set_option maxRecDepth 100000 in
set_option maxHeartbeats 4000000 in
theorem x_L_law_986 {G : Gx} {K : Rs → Mm → Prop} {kk nn : Nat} (hkk : kk + 5 ≤ 601024) (hnn : nn + 30 ≤ 7293034) {B23 : Mm → Nat → Nat → Nat → Int32 → Prop} (hB23 : ∀ M l1 l2 l3 l4, B23 M l1 l2 l3 l4 → E G mi_L_law K M (kk + 5) (nn + 30) 23 [some (.ref (gS G 200)), some (.ref l1), some (.ref l2), some (.ref l3), some (.int l4), none, none, none] []) {M : Mm} {l1 : Nat} {l2 : Nat} {l3 : Nat} {l4 : Int32} (h : V_L_law_986 G K B23 M l1 l2 l3 l4) : E G mi_L_law K M (kk + 3) (nn + 18) 986 [some (.ref (gS G 200)), some (.ref l1), some (.ref l2), some (.ref l3), some (.int l4), none, none, none] [] := by
  unfold V_L_law_986 at h
  refine e_blk 1 986 _ _ (pc' := 1601) (L' := [some (.ref (gS G 200)), some (.ref l1), some (.ref l2), some (.ref l3), some (.int l4), none, none, none]) (st' := []) rfl ?_
  refine e_wid (k' := kk + 5) (n' := nn + 30) (show _ ≤ _ by omega) (show _ ≤ _ by omega) ?_
  refine e_drp [true, true, true, true, true, false, false, false] (L' := [some (.ref (gS G 200)), some (.ref l1), some (.ref l2), some (.ref l3), some (.int l4), none, none, none]) rfl ?_
  exact x_L_law_1601 hkk hnn hB23 h
def V_L_law_980 (G : Gx) (K : Rs → Mm → Prop) (B23 : Mm → Nat → Nat → Nat → Int32 → Prop) (M : Mm) (l1 : Nat) (l2 : Nat) (l3 : Nat) (l4 : Int32) (s0 : Int64) (s1 : Int64) : Prop := (((lg_cmp s0 s1) = 0 → V_L_law_986 G K B23 M l1 l2 l3 l4) ∧ (¬ (lg_cmp s0 s1) = 0 → K (.inl (some (.int (0 : Int32)))) M))
set_option maxRecDepth 100000 in
set_option maxHeartbeats 4000000 in
theorem x_L_law_980 {G : Gx} {K : Rs → Mm → Prop} {kk nn : Nat} (hkk : kk + 5 ≤ 601024) (hnn : nn + 30 ≤ 7293034) {B23 : Mm → Nat → Nat → Nat → Int32 → Prop} (hB23 : ∀ M l1 l2 l3 l4, B23 M l1 l2 l3 l4 → E G mi_L_law K M (kk + 5) (nn + 30) 23 [some (.ref (gS G 200)), some (.ref l1), some (.ref l2), some (.ref l3), some (.int l4), none, none, none] []) {M : Mm} {l1 : Nat} {l2 : Nat} {l3 : Nat} {l4 : Int32} {s0 : Int64} {s1 : Int64} (h : V_L_law_980 G K B23 M l1 l2 l3 l4 s0 s1) : E G mi_L_law K M (kk + 3) (nn + 18) 980 [some (.ref (gS G 200)), some (.ref l1), some (.ref l2), some (.ref l3), some (.int l4), none, none, none] [.long s1, .long s0] := by
  unfold V_L_law_980 at h
  refine e_blk 1 980 _ _ (pc' := 981) (L' := [some (.ref (gS G 200)), some (.ref l1), some (.ref l2), some (.ref l3), some (.int l4), none, none, none]) (st' := [.int (lg_cmp s0 s1)]) rfl ?_
  refine e_if_eq 986 rfl rfl (fun hc => ?_) (fun hc => ?_)
  · replace h := h.1 hc
    refine e_wid (k' := kk + 3) (n' := nn + 18) (show _ ≤ _ by omega) (show _ ≤ _ by omega) ?_
    refine e_drp [true, true, true, true, true, false, false, false] (L' := [some (.ref (gS G 200)), some (.ref l1), some (.ref l2), some (.ref l3), some (.int l4), none, none, none]) rfl ?_
    exact x_L_law_986 hkk hnn hB23 h
  · replace h := h.2 hc
    refine e_blk 1 984 _ _ (pc' := 985) (L' := [some (.ref (gS G 200)), some (.ref l1), some (.ref l2), some (.ref l3), some (.int l4), none, none, none]) (st' := [.int (0 : Int32)]) rfl ?_
    exact e_retz rfl rfl (by decide) (show _ ≤ 601024 by omega) (show _ ≤ 7293034 by omega) h
def V_L_law_878 (G : Gx) (K : Rs → Mm → Prop) (B23 : Mm → Nat → Nat → Nat → Int32 → Prop) (M : Mm) (l1 : Nat) (l2 : Nat) (l3 : Nat) (l4 : Int32) : Prop := (vp_in (l4 + (1 : Int32)) (gS G 201) ∧ (vp_in (l4 + (2 : Int32)) (gS G 201) ∧ (vp_in (l4 + (3 : Int32)) (gS G 201) ∧ (vp_in (l4 + (4 : Int32)) (gS G 201) ∧ (vp_in (l4 + (5 : Int32)) (gS G 201) ∧ V_L_day (kI (fun r7 M6 => (vp_in (l4 + (1 : Int32)) (gS G 201) ∧ (vp_in (l4 + (2 : Int32)) (gS G 201) ∧ (vp_in (l4 + (3 : Int32)) (gS G 201) ∧ (vp_in (l4 + (4 : Int32)) (gS G 201) ∧ (vp_in (l4 + (5 : Int32)) (gS G 201) ∧ (ob M6 l2 7 ∧ V_X7_day (kI (fun r15 M14 => (ob M14 l2 7 ∧ V_X7_thrown (kI (fun r18 M17 => ((r18 = r7 → ((¬ r7 = 0 → V_L_law_986 G K B23 M17 l1 l2 l3 l4) ∧ (r7 = 0 → (ob M17 l3 10 ∧ (vp_in (0 : Int32) (mN M17 l3) ∧ ((r15 = 0 → V_L_law_980 G K B23 M17 l1 l2 l3 l4 (mJ M17 l3 ((0 : Int32)).toNatClampNeg) (0 : Int64)) ∧ (¬ r15 = 0 → V_L_law_980 G K B23 M17 l1 l2 l3 l4 (mJ M17 l3 ((0 : Int32)).toNatClampNeg) (1 : Int64)))))))) ∧ (¬ r18 = r7 → K (.inl (some (.int (0 : Int32)))) M17))) (fun _ _ => False)) M14 l2)) (fun _ _ => False)) M6 l2 (gX G ((l4 + (1 : Int32))).toNatClampNeg) (gX G ((l4 + (2 : Int32))).toNatClampNeg) (gX G ((l4 + (3 : Int32))).toNatClampNeg) (gX G ((l4 + (4 : Int32))).toNatClampNeg) (gX G ((l4 + (5 : Int32))).toNatClampNeg)))))))) (fun _ _ => False)) M l1 (gX G ((l4 + (1 : Int32))).toNatClampNeg) (gX G ((l4 + (2 : Int32))).toNatClampNeg) (gX G ((l4 + (3 : Int32))).toNatClampNeg) (gX G ((l4 + (4 : Int32))).toNatClampNeg) (gX G ((l4 + (5 : Int32))).toNatClampNeg) l3)))))
set_option maxRecDepth 100000 in
set_option maxHeartbeats 4000000 in
theorem x_L_law_878 {G : Gx} {K : Rs → Mm → Prop} {kk nn : Nat} (hkk : kk + 5 ≤ 601024) (hnn : nn + 30 ≤ 7293034) {B23 : Mm → Nat → Nat → Nat → Int32 → Prop} (hB23 : ∀ M l1 l2 l3 l4, B23 M l1 l2 l3 l4 → E G mi_L_law K M (kk + 5) (nn + 30) 23 [some (.ref (gS G 200)), some (.ref l1), some (.ref l2), some (.ref l3), some (.int l4), none, none, none] []) {M : Mm} {l1 : Nat} {l2 : Nat} {l3 : Nat} {l4 : Int32} (h : V_L_law_878 G K B23 M l1 l2 l3 l4) : E G mi_L_law K M (kk + 0) (nn + 0) 878 [some (.ref (gS G 200)), some (.ref l1), some (.ref l2), some (.ref l3), some (.int l4), none, none, none] [] := by
  unfold V_L_law_878 at h
  refine e_blk 5 878 _ _ (pc' := 884) (L' := [some (.ref (gS G 200)), some (.ref l1), some (.ref l2), some (.ref l3), some (.int l4), none, none, none]) (st' := [.int (l4 + (1 : Int32)), .ref (gS G 200), .ref l1]) rfl ?_
  obtain ⟨hi1, h⟩ := h
  refine e_tI (.int (gX G ((l4 + (1 : Int32))).toNatClampNeg)) rfl (fun s hs => hs.scr) hi1 rfl ?_
  refine e_blk 4 885 _ _ (pc' := 890) (L' := [some (.ref (gS G 200)), some (.ref l1), some (.ref l2), some (.ref l3), some (.int l4), none, none, none]) (st' := [.int (l4 + (2 : Int32)), .ref (gS G 200), .int (gX G ((l4 + (1 : Int32))).toNatClampNeg), .ref l1]) rfl ?_
  obtain ⟨hi2, h⟩ := h
  refine e_tI (.int (gX G ((l4 + (2 : Int32))).toNatClampNeg)) rfl (fun s hs => hs.scr) hi2 rfl ?_
  refine e_blk 4 891 _ _ (pc' := 896) (L' := [some (.ref (gS G 200)), some (.ref l1), some (.ref l2), some (.ref l3), some (.int l4), none, none, none]) (st' := [.int (l4 + (3 : Int32)), .ref (gS G 200), .int (gX G ((l4 + (2 : Int32))).toNatClampNeg), .int (gX G ((l4 + (1 : Int32))).toNatClampNeg), .ref l1]) rfl ?_
  obtain ⟨hi3, h⟩ := h
  refine e_tI (.int (gX G ((l4 + (3 : Int32))).toNatClampNeg)) rfl (fun s hs => hs.scr) hi3 rfl ?_
  refine e_blk 4 897 _ _ (pc' := 902) (L' := [some (.ref (gS G 200)), some (.ref l1), some (.ref l2), some (.ref l3), some (.int l4), none, none, none]) (st' := [.int (l4 + (4 : Int32)), .ref (gS G 200), .int (gX G ((l4 + (3 : Int32))).toNatClampNeg), .int (gX G ((l4 + (2 : Int32))).toNatClampNeg), .int (gX G ((l4 + (1 : Int32))).toNatClampNeg), .ref l1]) rfl ?_
  obtain ⟨hi4, h⟩ := h
  refine e_tI (.int (gX G ((l4 + (4 : Int32))).toNatClampNeg)) rfl (fun s hs => hs.scr) hi4 rfl ?_
  refine e_blk 4 903 _ _ (pc' := 908) (L' := [some (.ref (gS G 200)), some (.ref l1), some (.ref l2), some (.ref l3), some (.int l4), none, none, none]) (st' := [.int (l4 + (5 : Int32)), .ref (gS G 200), .int (gX G ((l4 + (4 : Int32))).toNatClampNeg), .int (gX G ((l4 + (3 : Int32))).toNatClampNeg), .int (gX G ((l4 + (2 : Int32))).toNatClampNeg), .int (gX G ((l4 + (1 : Int32))).toNatClampNeg), .ref l1]) rfl ?_
  obtain ⟨hi5, h⟩ := h
  refine e_tI (.int (gX G ((l4 + (5 : Int32))).toNatClampNeg)) rfl (fun s hs => hs.scr) hi5 rfl ?_
  refine e_blk 1 909 _ _ (pc' := 910) (L' := [some (.ref (gS G 200)), some (.ref l1), some (.ref l2), some (.ref l3), some (.int l4), none, none, none]) (st' := [.ref l3, .int (gX G ((l4 + (5 : Int32))).toNatClampNeg), .int (gX G ((l4 + (4 : Int32))).toNatClampNeg), .int (gX G ((l4 + (3 : Int32))).toNatClampNeg), .int (gX G ((l4 + (2 : Int32))).toNatClampNeg), .int (gX G ((l4 + (1 : Int32))).toNatClampNeg), .ref l1]) rfl ?_
  refine e_callSH (As := [.ref l1, .int (gX G ((l4 + (1 : Int32))).toNatClampNeg), .int (gX G ((l4 + (2 : Int32))).toNatClampNeg), .int (gX G ((l4 + (3 : Int32))).toNatClampNeg), .int (gX G ((l4 + (4 : Int32))).toNatClampNeg), .int (gX G ((l4 + (5 : Int32))).toNatClampNeg), .ref l3]) (rest := []) rfl (x_L_day h) (by decide) (aw (i := 775) (by decide +kernel) rfl) ws_L_day wi_L_day wc_L_day (cokL (show cok mi_L_law mi_L_day 0 0 7 = true by decide +kernel) (show _ + 3 ≤ 601024 by omega) (show _ + 18 ≤ 7293034 by omega)) (Nat.le_of_ble_eq_true rfl) (fun v9 M6 hq => ?_) (fun X M9 hq => False.elim hq)
  refine e_wid (k' := kk + 3) (n' := nn + 18) (show _ + 3 ≤ _ by omega) (show _ + 18 ≤ _ by omega) ?_
  obtain ⟨r7, rfl, h⟩ := kI_l hq
  refine e_blk 6 913 _ _ (pc' := 921) (L' := [some (.ref (gS G 200)), some (.ref l1), some (.ref l2), some (.ref l3), some (.int l4), some (.int r7), none, none]) (st' := [.int (l4 + (1 : Int32)), .ref (gS G 200), .ref l2]) rfl ?_
  obtain ⟨hi8, h⟩ := h
  refine e_tI (.int (gX G ((l4 + (1 : Int32))).toNatClampNeg)) rfl (fun s hs => hs.scr) hi8 rfl ?_
  refine e_blk 4 922 _ _ (pc' := 927) (L' := [some (.ref (gS G 200)), some (.ref l1), some (.ref l2), some (.ref l3), some (.int l4), some (.int r7), none, none]) (st' := [.int (l4 + (2 : Int32)), .ref (gS G 200), .int (gX G ((l4 + (1 : Int32))).toNatClampNeg), .ref l2]) rfl ?_
  obtain ⟨hi9, h⟩ := h
  refine e_tI (.int (gX G ((l4 + (2 : Int32))).toNatClampNeg)) rfl (fun s hs => hs.scr) hi9 rfl ?_
  refine e_blk 4 928 _ _ (pc' := 933) (L' := [some (.ref (gS G 200)), some (.ref l1), some (.ref l2), some (.ref l3), some (.int l4), some (.int r7), none, none]) (st' := [.int (l4 + (3 : Int32)), .ref (gS G 200), .int (gX G ((l4 + (2 : Int32))).toNatClampNeg), .int (gX G ((l4 + (1 : Int32))).toNatClampNeg), .ref l2]) rfl ?_
  obtain ⟨hi10, h⟩ := h
  refine e_tI (.int (gX G ((l4 + (3 : Int32))).toNatClampNeg)) rfl (fun s hs => hs.scr) hi10 rfl ?_
  refine e_blk 4 934 _ _ (pc' := 939) (L' := [some (.ref (gS G 200)), some (.ref l1), some (.ref l2), some (.ref l3), some (.int l4), some (.int r7), none, none]) (st' := [.int (l4 + (4 : Int32)), .ref (gS G 200), .int (gX G ((l4 + (3 : Int32))).toNatClampNeg), .int (gX G ((l4 + (2 : Int32))).toNatClampNeg), .int (gX G ((l4 + (1 : Int32))).toNatClampNeg), .ref l2]) rfl ?_
  obtain ⟨hi11, h⟩ := h
  refine e_tI (.int (gX G ((l4 + (4 : Int32))).toNatClampNeg)) rfl (fun s hs => hs.scr) hi11 rfl ?_
  refine e_blk 4 940 _ _ (pc' := 945) (L' := [some (.ref (gS G 200)), some (.ref l1), some (.ref l2), some (.ref l3), some (.int l4), some (.int r7), none, none]) (st' := [.int (l4 + (5 : Int32)), .ref (gS G 200), .int (gX G ((l4 + (4 : Int32))).toNatClampNeg), .int (gX G ((l4 + (3 : Int32))).toNatClampNeg), .int (gX G ((l4 + (2 : Int32))).toNatClampNeg), .int (gX G ((l4 + (1 : Int32))).toNatClampNeg), .ref l2]) rfl ?_
  obtain ⟨hi12, h⟩ := h
  refine e_tI (.int (gX G ((l4 + (5 : Int32))).toNatClampNeg)) rfl (fun s hs => hs.scr) hi12 rfl ?_
  obtain ⟨ho13, h⟩ := h
  refine e_callV (As := [.int (gX G ((l4 + (1 : Int32))).toNatClampNeg), .int (gX G ((l4 + (2 : Int32))).toNatClampNeg), .int (gX G ((l4 + (3 : Int32))).toNatClampNeg), .int (gX G ((l4 + (4 : Int32))).toNatClampNeg), .int (gX G ((l4 + (5 : Int32))).toNatClampNeg)]) (rest := []) (ci := 7) rfl (x_X7_day h) ho13 rfl rfl rfl (aw (i := 1475) (by decide +kernel) rfl) wn_X7_day wv_X7_day wi_X7_day wc_X7_day (cokL (show cok mi_L_law mi_X7_day 0 0 5 = true by decide +kernel) (show _ + 0 ≤ 601024 by omega) (show _ + 0 ≤ 7293034 by omega)) (Nat.le_of_ble_eq_true rfl) (fun v9 M14 hq => ?_) (fun X M9 hq => False.elim hq)
  refine e_wid (k' := kk + 3) (n' := nn + 18) (show _ + 0 ≤ _ by omega) (show _ + 0 ≤ _ by omega) ?_
  obtain ⟨r15, rfl, h⟩ := kI_l hq
  refine e_blk 2 949 _ _ (pc' := 952) (L' := [some (.ref (gS G 200)), some (.ref l1), some (.ref l2), some (.ref l3), some (.int l4), some (.int r7), some (.int r15), none]) (st' := [.ref l2]) rfl ?_
  obtain ⟨ho16, h⟩ := h
  refine e_callV (As := []) (rest := []) (ci := 7) rfl (x_X7_thrown h) ho16 rfl rfl rfl (aw (i := 1247) (by decide +kernel) rfl) wn_X7_thrown wv_X7_thrown wi_X7_thrown wc_X7_thrown (cokL (show cok mi_L_law mi_X7_thrown 0 0 0 = true by decide +kernel) (show _ + 0 ≤ 601024 by omega) (show _ + 0 ≤ 7293034 by omega)) (Nat.le_of_ble_eq_true rfl) (fun v9 M17 hq => ?_) (fun X M9 hq => False.elim hq)
  refine e_wid (k' := kk + 3) (n' := nn + 18) (show _ + 0 ≤ _ by omega) (show _ + 0 ≤ _ by omega) ?_
  obtain ⟨r18, rfl, h⟩ := kI_l hq
  refine e_blk 1 955 _ _ (pc' := 957) (L' := [some (.ref (gS G 200)), some (.ref l1), some (.ref l2), some (.ref l3), some (.int l4), some (.int r7), some (.int r15), none]) (st' := [.int r7, .int r18]) rfl ?_
  refine e_icmp_eq 962 rfl rfl (fun hc => ?_) (fun hc => ?_)
  · replace h := h.1 hc
    refine e_blk 1 962 _ _ (pc' := 964) (L' := [some (.ref (gS G 200)), some (.ref l1), some (.ref l2), some (.ref l3), some (.int l4), some (.int r7), some (.int r15), none]) (st' := [.int r7]) rfl ?_
    refine e_if_ne 986 rfl rfl (fun hc => ?_) (fun hc => ?_)
    · replace h := h.1 hc
      refine e_wid (k' := kk + 3) (n' := nn + 18) (show _ ≤ _ by omega) (show _ ≤ _ by omega) ?_
      refine e_drp [true, true, true, true, true, false, false, false] (L' := [some (.ref (gS G 200)), some (.ref l1), some (.ref l2), some (.ref l3), some (.int l4), none, none, none]) rfl ?_
      exact x_L_law_986 hkk hnn hB23 h
    · replace h := h.2 hc
      refine e_blk 2 967 _ _ (pc' := 969) (L' := [some (.ref (gS G 200)), some (.ref l1), some (.ref l2), some (.ref l3), some (.int l4), some (.int r7), some (.int r15), none]) (st' := [.int (0 : Int32), .ref l3]) rfl ?_
      obtain ⟨ho19, h⟩ := h
      obtain ⟨hi20, h⟩ := h
      refine e_lald rfl ho19 hi20 ?_
      refine e_blk 1 970 _ _ (pc' := 972) (L' := [some (.ref (gS G 200)), some (.ref l1), some (.ref l2), some (.ref l3), some (.int l4), some (.int r7), some (.int r15), none]) (st' := [.int r15, .long (mJ M17 l3 ((0 : Int32)).toNatClampNeg)]) rfl ?_
      refine e_if_eq 979 rfl rfl (fun hc => ?_) (fun hc => ?_)
      · replace h := h.1 hc
        refine e_blk 1 979 _ _ (pc' := 980) (L' := [some (.ref (gS G 200)), some (.ref l1), some (.ref l2), some (.ref l3), some (.int l4), some (.int r7), some (.int r15), none]) (st' := [.long (0 : Int64), .long (mJ M17 l3 ((0 : Int32)).toNatClampNeg)]) rfl ?_
        refine e_wid (k' := kk + 3) (n' := nn + 18) (show _ ≤ _ by omega) (show _ ≤ _ by omega) ?_
        refine e_drp [true, true, true, true, true, false, false, false] (L' := [some (.ref (gS G 200)), some (.ref l1), some (.ref l2), some (.ref l3), some (.int l4), none, none, none]) rfl ?_
        exact x_L_law_980 hkk hnn hB23 h
      · replace h := h.2 hc
        refine e_blk 2 975 _ _ (pc' := 980) (L' := [some (.ref (gS G 200)), some (.ref l1), some (.ref l2), some (.ref l3), some (.int l4), some (.int r7), some (.int r15), none]) (st' := [.long (1 : Int64), .long (mJ M17 l3 ((0 : Int32)).toNatClampNeg)]) rfl ?_
        refine e_wid (k' := kk + 3) (n' := nn + 18) (show _ ≤ _ by omega) (show _ ≤ _ by omega) ?_
        refine e_drp [true, true, true, true, true, false, false, false] (L' := [some (.ref (gS G 200)), some (.ref l1), some (.ref l2), some (.ref l3), some (.int l4), none, none, none]) rfl ?_
        exact x_L_law_980 hkk hnn hB23 h
  · replace h := h.2 hc
    refine e_blk 1 960 _ _ (pc' := 961) (L' := [some (.ref (gS G 200)), some (.ref l1), some (.ref l2), some (.ref l3), some (.int l4), some (.int r7), some (.int r15), none]) (st' := [.int (0 : Int32)]) rfl ?_
    exact e_retz rfl rfl (by decide) (show _ ≤ 601024 by omega) (show _ ≤ 7293034 by omega) h
def V_L_law_875 (G : Gx) (K : Rs → Mm → Prop) (B23 : Mm → Nat → Nat → Nat → Int32 → Prop) (M : Mm) (l1 : Nat) (l2 : Nat) (l3 : Nat) (l4 : Int32) : Prop := V_L_law_1601 G K B23 M l1 l2 l3 l4
set_option maxRecDepth 100000 in
set_option maxHeartbeats 4000000 in
theorem x_L_law_875 {G : Gx} {K : Rs → Mm → Prop} {kk nn : Nat} (hkk : kk + 5 ≤ 601024) (hnn : nn + 30 ≤ 7293034) {B23 : Mm → Nat → Nat → Nat → Int32 → Prop} (hB23 : ∀ M l1 l2 l3 l4, B23 M l1 l2 l3 l4 → E G mi_L_law K M (kk + 5) (nn + 30) 23 [some (.ref (gS G 200)), some (.ref l1), some (.ref l2), some (.ref l3), some (.int l4), none, none, none] []) {M : Mm} {l1 : Nat} {l2 : Nat} {l3 : Nat} {l4 : Int32} (h : V_L_law_875 G K B23 M l1 l2 l3 l4) : E G mi_L_law K M (kk + 2) (nn + 12) 875 [some (.ref (gS G 200)), some (.ref l1), some (.ref l2), some (.ref l3), some (.int l4), none, none, none] [] := by
  unfold V_L_law_875 at h
  refine e_blk 1 875 _ _ (pc' := 1601) (L' := [some (.ref (gS G 200)), some (.ref l1), some (.ref l2), some (.ref l3), some (.int l4), none, none, none]) (st' := []) rfl ?_
  refine e_wid (k' := kk + 5) (n' := nn + 30) (show _ ≤ _ by omega) (show _ ≤ _ by omega) ?_
  refine e_drp [true, true, true, true, true, false, false, false] (L' := [some (.ref (gS G 200)), some (.ref l1), some (.ref l2), some (.ref l3), some (.int l4), none, none, none]) rfl ?_
  exact x_L_law_1601 hkk hnn hB23 h
def V_L_law_811 (G : Gx) (K : Rs → Mm → Prop) (B23 : Mm → Nat → Nat → Nat → Int32 → Prop) (M : Mm) (l1 : Nat) (l2 : Nat) (l3 : Nat) (l4 : Int32) : Prop := (vp_in (l4 + (1 : Int32)) (gS G 201) ∧ (vp_in (l4 + (2 : Int32)) (gS G 201) ∧ V_L_field (kI (fun r4 M3 => (vp_in (l4 + (1 : Int32)) (gS G 201) ∧ (vp_in (l4 + (2 : Int32)) (gS G 201) ∧ (ob M3 l2 7 ∧ V_X7_field (kJ (fun r9 M8 => (ob M8 l2 7 ∧ V_X7_thrown (kI (fun r12 M11 => ((r12 = r4 → ((¬ r4 = 0 → V_L_law_875 G K B23 M11 l1 l2 l3 l4) ∧ (r4 = 0 → (ob M11 l3 10 ∧ (vp_in (0 : Int32) (mN M11 l3) ∧ (((lg_cmp (mJ M11 l3 ((0 : Int32)).toNatClampNeg) r9) = 0 → V_L_law_875 G K B23 M11 l1 l2 l3 l4) ∧ (¬ (lg_cmp (mJ M11 l3 ((0 : Int32)).toNatClampNeg) r9) = 0 → K (.inl (some (.int (0 : Int32)))) M11))))))) ∧ (¬ r12 = r4 → K (.inl (some (.int (0 : Int32)))) M11))) (fun _ _ => False)) M8 l2)) (fun _ _ => False)) M3 l2 (gX G ((l4 + (1 : Int32))).toNatClampNeg) (gX G ((l4 + (2 : Int32))).toNatClampNeg))))) (fun _ _ => False)) M l1 (gX G ((l4 + (1 : Int32))).toNatClampNeg) (gX G ((l4 + (2 : Int32))).toNatClampNeg) l3))
set_option maxRecDepth 100000 in
set_option maxHeartbeats 4000000 in
theorem x_L_law_811 {G : Gx} {K : Rs → Mm → Prop} {kk nn : Nat} (hkk : kk + 5 ≤ 601024) (hnn : nn + 30 ≤ 7293034) {B23 : Mm → Nat → Nat → Nat → Int32 → Prop} (hB23 : ∀ M l1 l2 l3 l4, B23 M l1 l2 l3 l4 → E G mi_L_law K M (kk + 5) (nn + 30) 23 [some (.ref (gS G 200)), some (.ref l1), some (.ref l2), some (.ref l3), some (.int l4), none, none, none] []) {M : Mm} {l1 : Nat} {l2 : Nat} {l3 : Nat} {l4 : Int32} (h : V_L_law_811 G K B23 M l1 l2 l3 l4) : E G mi_L_law K M (kk + 0) (nn + 0) 811 [some (.ref (gS G 200)), some (.ref l1), some (.ref l2), some (.ref l3), some (.int l4), none, none, none] [] := by
  unfold V_L_law_811 at h
  refine e_blk 5 811 _ _ (pc' := 817) (L' := [some (.ref (gS G 200)), some (.ref l1), some (.ref l2), some (.ref l3), some (.int l4), none, none, none]) (st' := [.int (l4 + (1 : Int32)), .ref (gS G 200), .ref l1]) rfl ?_
  obtain ⟨hi1, h⟩ := h
  refine e_tI (.int (gX G ((l4 + (1 : Int32))).toNatClampNeg)) rfl (fun s hs => hs.scr) hi1 rfl ?_
  refine e_blk 4 818 _ _ (pc' := 823) (L' := [some (.ref (gS G 200)), some (.ref l1), some (.ref l2), some (.ref l3), some (.int l4), none, none, none]) (st' := [.int (l4 + (2 : Int32)), .ref (gS G 200), .int (gX G ((l4 + (1 : Int32))).toNatClampNeg), .ref l1]) rfl ?_
  obtain ⟨hi2, h⟩ := h
  refine e_tI (.int (gX G ((l4 + (2 : Int32))).toNatClampNeg)) rfl (fun s hs => hs.scr) hi2 rfl ?_
  refine e_blk 1 824 _ _ (pc' := 825) (L' := [some (.ref (gS G 200)), some (.ref l1), some (.ref l2), some (.ref l3), some (.int l4), none, none, none]) (st' := [.ref l3, .int (gX G ((l4 + (2 : Int32))).toNatClampNeg), .int (gX G ((l4 + (1 : Int32))).toNatClampNeg), .ref l1]) rfl ?_
  refine e_callSH (As := [.ref l1, .int (gX G ((l4 + (1 : Int32))).toNatClampNeg), .int (gX G ((l4 + (2 : Int32))).toNatClampNeg), .ref l3]) (rest := []) rfl (x_L_field h) (by decide) (aw (i := 767) (by decide +kernel) rfl) ws_L_field wi_L_field wc_L_field (cokL (show cok mi_L_law mi_L_field 0 0 4 = true by decide +kernel) (show _ + 2 ≤ 601024 by omega) (show _ + 12 ≤ 7293034 by omega)) (Nat.le_of_ble_eq_true rfl) (fun v9 M3 hq => ?_) (fun X M9 hq => False.elim hq)
  refine e_wid (k' := kk + 2) (n' := nn + 12) (show _ + 2 ≤ _ by omega) (show _ + 12 ≤ _ by omega) ?_
  obtain ⟨r4, rfl, h⟩ := kI_l hq
  refine e_blk 6 828 _ _ (pc' := 836) (L' := [some (.ref (gS G 200)), some (.ref l1), some (.ref l2), some (.ref l3), some (.int l4), some (.int r4), none, none]) (st' := [.int (l4 + (1 : Int32)), .ref (gS G 200), .ref l2]) rfl ?_
  obtain ⟨hi5, h⟩ := h
  refine e_tI (.int (gX G ((l4 + (1 : Int32))).toNatClampNeg)) rfl (fun s hs => hs.scr) hi5 rfl ?_
  refine e_blk 4 837 _ _ (pc' := 842) (L' := [some (.ref (gS G 200)), some (.ref l1), some (.ref l2), some (.ref l3), some (.int l4), some (.int r4), none, none]) (st' := [.int (l4 + (2 : Int32)), .ref (gS G 200), .int (gX G ((l4 + (1 : Int32))).toNatClampNeg), .ref l2]) rfl ?_
  obtain ⟨hi6, h⟩ := h
  refine e_tI (.int (gX G ((l4 + (2 : Int32))).toNatClampNeg)) rfl (fun s hs => hs.scr) hi6 rfl ?_
  obtain ⟨ho7, h⟩ := h
  refine e_callV (As := [.int (gX G ((l4 + (1 : Int32))).toNatClampNeg), .int (gX G ((l4 + (2 : Int32))).toNatClampNeg)]) (rest := []) (ci := 7) rfl (x_X7_field h) ho7 rfl rfl rfl (aw (i := 1470) (by decide +kernel) rfl) wn_X7_field wv_X7_field wi_X7_field wc_X7_field (cokL (show cok mi_L_law mi_X7_field 0 0 2 = true by decide +kernel) (show _ + 0 ≤ 601024 by omega) (show _ + 0 ≤ 7293034 by omega)) (Nat.le_of_ble_eq_true rfl) (fun v9 M8 hq => ?_) (fun X M9 hq => False.elim hq)
  refine e_wid (k' := kk + 2) (n' := nn + 12) (show _ + 0 ≤ _ by omega) (show _ + 0 ≤ _ by omega) ?_
  obtain ⟨r9, rfl, h⟩ := kJ_l hq
  refine e_blk 2 846 _ _ (pc' := 849) (L' := [some (.ref (gS G 200)), some (.ref l1), some (.ref l2), some (.ref l3), some (.int l4), some (.int r4), some (.long r9), none]) (st' := [.ref l2]) rfl ?_
  obtain ⟨ho10, h⟩ := h
  refine e_callV (As := []) (rest := []) (ci := 7) rfl (x_X7_thrown h) ho10 rfl rfl rfl (aw (i := 1247) (by decide +kernel) rfl) wn_X7_thrown wv_X7_thrown wi_X7_thrown wc_X7_thrown (cokL (show cok mi_L_law mi_X7_thrown 0 0 0 = true by decide +kernel) (show _ + 0 ≤ 601024 by omega) (show _ + 0 ≤ 7293034 by omega)) (Nat.le_of_ble_eq_true rfl) (fun v9 M11 hq => ?_) (fun X M9 hq => False.elim hq)
  refine e_wid (k' := kk + 2) (n' := nn + 12) (show _ + 0 ≤ _ by omega) (show _ + 0 ≤ _ by omega) ?_
  obtain ⟨r12, rfl, h⟩ := kI_l hq
  refine e_blk 1 852 _ _ (pc' := 854) (L' := [some (.ref (gS G 200)), some (.ref l1), some (.ref l2), some (.ref l3), some (.int l4), some (.int r4), some (.long r9), none]) (st' := [.int r4, .int r12]) rfl ?_
  refine e_icmp_eq 859 rfl rfl (fun hc => ?_) (fun hc => ?_)
  · replace h := h.1 hc
    refine e_blk 1 859 _ _ (pc' := 861) (L' := [some (.ref (gS G 200)), some (.ref l1), some (.ref l2), some (.ref l3), some (.int l4), some (.int r4), some (.long r9), none]) (st' := [.int r4]) rfl ?_
    refine e_if_ne 875 rfl rfl (fun hc => ?_) (fun hc => ?_)
    · replace h := h.1 hc
      refine e_wid (k' := kk + 2) (n' := nn + 12) (show _ ≤ _ by omega) (show _ ≤ _ by omega) ?_
      refine e_drp [true, true, true, true, true, false, false, false] (L' := [some (.ref (gS G 200)), some (.ref l1), some (.ref l2), some (.ref l3), some (.int l4), none, none, none]) rfl ?_
      exact x_L_law_875 hkk hnn hB23 h
    · replace h := h.2 hc
      refine e_blk 2 864 _ _ (pc' := 866) (L' := [some (.ref (gS G 200)), some (.ref l1), some (.ref l2), some (.ref l3), some (.int l4), some (.int r4), some (.long r9), none]) (st' := [.int (0 : Int32), .ref l3]) rfl ?_
      obtain ⟨ho13, h⟩ := h
      obtain ⟨hi14, h⟩ := h
      refine e_lald rfl ho13 hi14 ?_
      refine e_blk 2 867 _ _ (pc' := 870) (L' := [some (.ref (gS G 200)), some (.ref l1), some (.ref l2), some (.ref l3), some (.int l4), some (.int r4), some (.long r9), none]) (st' := [.int (lg_cmp (mJ M11 l3 ((0 : Int32)).toNatClampNeg) r9)]) rfl ?_
      refine e_if_eq 875 rfl rfl (fun hc => ?_) (fun hc => ?_)
      · replace h := h.1 hc
        refine e_wid (k' := kk + 2) (n' := nn + 12) (show _ ≤ _ by omega) (show _ ≤ _ by omega) ?_
        refine e_drp [true, true, true, true, true, false, false, false] (L' := [some (.ref (gS G 200)), some (.ref l1), some (.ref l2), some (.ref l3), some (.int l4), none, none, none]) rfl ?_
        exact x_L_law_875 hkk hnn hB23 h
      · replace h := h.2 hc
        refine e_blk 1 873 _ _ (pc' := 874) (L' := [some (.ref (gS G 200)), some (.ref l1), some (.ref l2), some (.ref l3), some (.int l4), some (.int r4), some (.long r9), none]) (st' := [.int (0 : Int32)]) rfl ?_
        exact e_retz rfl rfl (by decide) (show _ ≤ 601024 by omega) (show _ ≤ 7293034 by omega) h
  · replace h := h.2 hc
    refine e_blk 1 857 _ _ (pc' := 858) (L' := [some (.ref (gS G 200)), some (.ref l1), some (.ref l2), some (.ref l3), some (.int l4), some (.int r4), some (.long r9), none]) (st' := [.int (0 : Int32)]) rfl ?_
    exact e_retz rfl rfl (by decide) (show _ ≤ 601024 by omega) (show _ ≤ 7293034 by omega) h
def V_L_law_808 (G : Gx) (K : Rs → Mm → Prop) (B23 : Mm → Nat → Nat → Nat → Int32 → Prop) (M : Mm) (l1 : Nat) (l2 : Nat) (l3 : Nat) (l4 : Int32) : Prop := V_L_law_1601 G K B23 M l1 l2 l3 l4
set_option maxRecDepth 100000 in
set_option maxHeartbeats 4000000 in
theorem x_L_law_808 {G : Gx} {K : Rs → Mm → Prop} {kk nn : Nat} (hkk : kk + 5 ≤ 601024) (hnn : nn + 30 ≤ 7293034) {B23 : Mm → Nat → Nat → Nat → Int32 → Prop} (hB23 : ∀ M l1 l2 l3 l4, B23 M l1 l2 l3 l4 → E G mi_L_law K M (kk + 5) (nn + 30) 23 [some (.ref (gS G 200)), some (.ref l1), some (.ref l2), some (.ref l3), some (.int l4), none, none, none] []) {M : Mm} {l1 : Nat} {l2 : Nat} {l3 : Nat} {l4 : Int32} (h : V_L_law_808 G K B23 M l1 l2 l3 l4) : E G mi_L_law K M (kk + 2) (nn + 12) 808 [some (.ref (gS G 200)), some (.ref l1), some (.ref l2), some (.ref l3), some (.int l4), none, none, none] [] := by
  unfold V_L_law_808 at h
  refine e_blk 1 808 _ _ (pc' := 1601) (L' := [some (.ref (gS G 200)), some (.ref l1), some (.ref l2), some (.ref l3), some (.int l4), none, none, none]) (st' := []) rfl ?_
  refine e_wid (k' := kk + 5) (n' := nn + 30) (show _ ≤ _ by omega) (show _ ≤ _ by omega) ?_
  refine e_drp [true, true, true, true, true, false, false, false] (L' := [some (.ref (gS G 200)), some (.ref l1), some (.ref l2), some (.ref l3), some (.int l4), none, none, none]) rfl ?_
  exact x_L_law_1601 hkk hnn hB23 h
def V_L_law_743 (G : Gx) (K : Rs → Mm → Prop) (B23 : Mm → Nat → Nat → Nat → Int32 → Prop) (M : Mm) (l1 : Nat) (l2 : Nat) (l3 : Nat) (l4 : Int32) : Prop := (vp_in (l4 + (1 : Int32)) (gS G 201) ∧ (vp_in (l4 + (2 : Int32)) (gS G 201) ∧ V_L_told (kI (fun r4 M3 => (vp_in (l4 + (1 : Int32)) (gS G 201) ∧ (vp_in (l4 + (2 : Int32)) (gS G 201) ∧ (ob M3 l2 7 ∧ V_X7_told (kI (fun r9 M8 => (ob M8 l2 7 ∧ V_X7_thrown (kI (fun r12 M11 => ((r12 = r4 → ((¬ r4 = 0 → V_L_law_808 G K B23 M11 l1 l2 l3 l4) ∧ (r4 = 0 → (ob M11 l3 10 ∧ (vp_in (0 : Int32) (mN M11 l3) ∧ (((lg_cmp (mJ M11 l3 ((0 : Int32)).toNatClampNeg) ((r9).toInt64)) = 0 → V_L_law_808 G K B23 M11 l1 l2 l3 l4) ∧ (¬ (lg_cmp (mJ M11 l3 ((0 : Int32)).toNatClampNeg) ((r9).toInt64)) = 0 → K (.inl (some (.int (0 : Int32)))) M11))))))) ∧ (¬ r12 = r4 → K (.inl (some (.int (0 : Int32)))) M11))) (fun _ _ => False)) M8 l2)) (fun _ _ => False)) M3 l2 (gX G ((l4 + (1 : Int32))).toNatClampNeg) (gX G ((l4 + (2 : Int32))).toNatClampNeg))))) (fun _ _ => False)) M l1 (gX G ((l4 + (1 : Int32))).toNatClampNeg) (gX G ((l4 + (2 : Int32))).toNatClampNeg) l3))
set_option maxRecDepth 100000 in
set_option maxHeartbeats 4000000 in
theorem x_L_law_743 {G : Gx} {K : Rs → Mm → Prop} {kk nn : Nat} (hkk : kk + 5 ≤ 601024) (hnn : nn + 30 ≤ 7293034) {B23 : Mm → Nat → Nat → Nat → Int32 → Prop} (hB23 : ∀ M l1 l2 l3 l4, B23 M l1 l2 l3 l4 → E G mi_L_law K M (kk + 5) (nn + 30) 23 [some (.ref (gS G 200)), some (.ref l1), some (.ref l2), some (.ref l3), some (.int l4), none, none, none] []) {M : Mm} {l1 : Nat} {l2 : Nat} {l3 : Nat} {l4 : Int32} (h : V_L_law_743 G K B23 M l1 l2 l3 l4) : E G mi_L_law K M (kk + 0) (nn + 0) 743 [some (.ref (gS G 200)), some (.ref l1), some (.ref l2), some (.ref l3), some (.int l4), none, none, none] [] := by
  unfold V_L_law_743 at h
  refine e_blk 5 743 _ _ (pc' := 749) (L' := [some (.ref (gS G 200)), some (.ref l1), some (.ref l2), some (.ref l3), some (.int l4), none, none, none]) (st' := [.int (l4 + (1 : Int32)), .ref (gS G 200), .ref l1]) rfl ?_
  obtain ⟨hi1, h⟩ := h
  refine e_tI (.int (gX G ((l4 + (1 : Int32))).toNatClampNeg)) rfl (fun s hs => hs.scr) hi1 rfl ?_
  refine e_blk 4 750 _ _ (pc' := 755) (L' := [some (.ref (gS G 200)), some (.ref l1), some (.ref l2), some (.ref l3), some (.int l4), none, none, none]) (st' := [.int (l4 + (2 : Int32)), .ref (gS G 200), .int (gX G ((l4 + (1 : Int32))).toNatClampNeg), .ref l1]) rfl ?_
  obtain ⟨hi2, h⟩ := h
  refine e_tI (.int (gX G ((l4 + (2 : Int32))).toNatClampNeg)) rfl (fun s hs => hs.scr) hi2 rfl ?_
  refine e_blk 1 756 _ _ (pc' := 757) (L' := [some (.ref (gS G 200)), some (.ref l1), some (.ref l2), some (.ref l3), some (.int l4), none, none, none]) (st' := [.ref l3, .int (gX G ((l4 + (2 : Int32))).toNatClampNeg), .int (gX G ((l4 + (1 : Int32))).toNatClampNeg), .ref l1]) rfl ?_
  refine e_callSH (As := [.ref l1, .int (gX G ((l4 + (1 : Int32))).toNatClampNeg), .int (gX G ((l4 + (2 : Int32))).toNatClampNeg), .ref l3]) (rest := []) rfl (x_L_told h) (by decide) (aw (i := 760) (by decide +kernel) rfl) ws_L_told wi_L_told wc_L_told (cokL (show cok mi_L_law mi_L_told 0 0 4 = true by decide +kernel) (show _ + 2 ≤ 601024 by omega) (show _ + 12 ≤ 7293034 by omega)) (Nat.le_of_ble_eq_true rfl) (fun v9 M3 hq => ?_) (fun X M9 hq => False.elim hq)
  refine e_wid (k' := kk + 2) (n' := nn + 12) (show _ + 2 ≤ _ by omega) (show _ + 12 ≤ _ by omega) ?_
  obtain ⟨r4, rfl, h⟩ := kI_l hq
  refine e_blk 6 760 _ _ (pc' := 768) (L' := [some (.ref (gS G 200)), some (.ref l1), some (.ref l2), some (.ref l3), some (.int l4), some (.int r4), none, none]) (st' := [.int (l4 + (1 : Int32)), .ref (gS G 200), .ref l2]) rfl ?_
  obtain ⟨hi5, h⟩ := h
  refine e_tI (.int (gX G ((l4 + (1 : Int32))).toNatClampNeg)) rfl (fun s hs => hs.scr) hi5 rfl ?_
  refine e_blk 4 769 _ _ (pc' := 774) (L' := [some (.ref (gS G 200)), some (.ref l1), some (.ref l2), some (.ref l3), some (.int l4), some (.int r4), none, none]) (st' := [.int (l4 + (2 : Int32)), .ref (gS G 200), .int (gX G ((l4 + (1 : Int32))).toNatClampNeg), .ref l2]) rfl ?_
  obtain ⟨hi6, h⟩ := h
  refine e_tI (.int (gX G ((l4 + (2 : Int32))).toNatClampNeg)) rfl (fun s hs => hs.scr) hi6 rfl ?_
  obtain ⟨ho7, h⟩ := h
  refine e_callV (As := [.int (gX G ((l4 + (1 : Int32))).toNatClampNeg), .int (gX G ((l4 + (2 : Int32))).toNatClampNeg)]) (rest := []) (ci := 7) rfl (x_X7_told h) ho7 rfl rfl rfl (aw (i := 1462) (by decide +kernel) rfl) wn_X7_told wv_X7_told wi_X7_told wc_X7_told (cokL (show cok mi_L_law mi_X7_told 0 0 2 = true by decide +kernel) (show _ + 0 ≤ 601024 by omega) (show _ + 0 ≤ 7293034 by omega)) (Nat.le_of_ble_eq_true rfl) (fun v9 M8 hq => ?_) (fun X M9 hq => False.elim hq)
  refine e_wid (k' := kk + 2) (n' := nn + 12) (show _ + 0 ≤ _ by omega) (show _ + 0 ≤ _ by omega) ?_
  obtain ⟨r9, rfl, h⟩ := kI_l hq
  refine e_blk 2 778 _ _ (pc' := 781) (L' := [some (.ref (gS G 200)), some (.ref l1), some (.ref l2), some (.ref l3), some (.int l4), some (.int r4), some (.int r9), none]) (st' := [.ref l2]) rfl ?_
  obtain ⟨ho10, h⟩ := h
  refine e_callV (As := []) (rest := []) (ci := 7) rfl (x_X7_thrown h) ho10 rfl rfl rfl (aw (i := 1247) (by decide +kernel) rfl) wn_X7_thrown wv_X7_thrown wi_X7_thrown wc_X7_thrown (cokL (show cok mi_L_law mi_X7_thrown 0 0 0 = true by decide +kernel) (show _ + 0 ≤ 601024 by omega) (show _ + 0 ≤ 7293034 by omega)) (Nat.le_of_ble_eq_true rfl) (fun v9 M11 hq => ?_) (fun X M9 hq => False.elim hq)
  refine e_wid (k' := kk + 2) (n' := nn + 12) (show _ + 0 ≤ _ by omega) (show _ + 0 ≤ _ by omega) ?_
  obtain ⟨r12, rfl, h⟩ := kI_l hq
  refine e_blk 1 784 _ _ (pc' := 786) (L' := [some (.ref (gS G 200)), some (.ref l1), some (.ref l2), some (.ref l3), some (.int l4), some (.int r4), some (.int r9), none]) (st' := [.int r4, .int r12]) rfl ?_
  refine e_icmp_eq 791 rfl rfl (fun hc => ?_) (fun hc => ?_)
  · replace h := h.1 hc
    refine e_blk 1 791 _ _ (pc' := 793) (L' := [some (.ref (gS G 200)), some (.ref l1), some (.ref l2), some (.ref l3), some (.int l4), some (.int r4), some (.int r9), none]) (st' := [.int r4]) rfl ?_
    refine e_if_ne 808 rfl rfl (fun hc => ?_) (fun hc => ?_)
    · replace h := h.1 hc
      refine e_wid (k' := kk + 2) (n' := nn + 12) (show _ ≤ _ by omega) (show _ ≤ _ by omega) ?_
      refine e_drp [true, true, true, true, true, false, false, false] (L' := [some (.ref (gS G 200)), some (.ref l1), some (.ref l2), some (.ref l3), some (.int l4), none, none, none]) rfl ?_
      exact x_L_law_808 hkk hnn hB23 h
    · replace h := h.2 hc
      refine e_blk 2 796 _ _ (pc' := 798) (L' := [some (.ref (gS G 200)), some (.ref l1), some (.ref l2), some (.ref l3), some (.int l4), some (.int r4), some (.int r9), none]) (st' := [.int (0 : Int32), .ref l3]) rfl ?_
      obtain ⟨ho13, h⟩ := h
      obtain ⟨hi14, h⟩ := h
      refine e_lald rfl ho13 hi14 ?_
      refine e_blk 3 799 _ _ (pc' := 803) (L' := [some (.ref (gS G 200)), some (.ref l1), some (.ref l2), some (.ref l3), some (.int l4), some (.int r4), some (.int r9), none]) (st' := [.int (lg_cmp (mJ M11 l3 ((0 : Int32)).toNatClampNeg) ((r9).toInt64))]) rfl ?_
      refine e_if_eq 808 rfl rfl (fun hc => ?_) (fun hc => ?_)
      · replace h := h.1 hc
        refine e_wid (k' := kk + 2) (n' := nn + 12) (show _ ≤ _ by omega) (show _ ≤ _ by omega) ?_
        refine e_drp [true, true, true, true, true, false, false, false] (L' := [some (.ref (gS G 200)), some (.ref l1), some (.ref l2), some (.ref l3), some (.int l4), none, none, none]) rfl ?_
        exact x_L_law_808 hkk hnn hB23 h
      · replace h := h.2 hc
        refine e_blk 1 806 _ _ (pc' := 807) (L' := [some (.ref (gS G 200)), some (.ref l1), some (.ref l2), some (.ref l3), some (.int l4), some (.int r4), some (.int r9), none]) (st' := [.int (0 : Int32)]) rfl ?_
        exact e_retz rfl rfl (by decide) (show _ ≤ 601024 by omega) (show _ ≤ 7293034 by omega) h
  · replace h := h.2 hc
    refine e_blk 1 789 _ _ (pc' := 790) (L' := [some (.ref (gS G 200)), some (.ref l1), some (.ref l2), some (.ref l3), some (.int l4), some (.int r4), some (.int r9), none]) (st' := [.int (0 : Int32)]) rfl ?_
    exact e_retz rfl rfl (by decide) (show _ ≤ 601024 by omega) (show _ ≤ 7293034 by omega) h
def V_L_law_740 (G : Gx) (K : Rs → Mm → Prop) (B23 : Mm → Nat → Nat → Nat → Int32 → Prop) (M : Mm) (l1 : Nat) (l2 : Nat) (l3 : Nat) (l4 : Int32) : Prop := V_L_law_1601 G K B23 M l1 l2 l3 l4
set_option maxRecDepth 100000 in
set_option maxHeartbeats 4000000 in
theorem x_L_law_740 {G : Gx} {K : Rs → Mm → Prop} {kk nn : Nat} (hkk : kk + 5 ≤ 601024) (hnn : nn + 30 ≤ 7293034) {B23 : Mm → Nat → Nat → Nat → Int32 → Prop} (hB23 : ∀ M l1 l2 l3 l4, B23 M l1 l2 l3 l4 → E G mi_L_law K M (kk + 5) (nn + 30) 23 [some (.ref (gS G 200)), some (.ref l1), some (.ref l2), some (.ref l3), some (.int l4), none, none, none] []) {M : Mm} {l1 : Nat} {l2 : Nat} {l3 : Nat} {l4 : Int32} (h : V_L_law_740 G K B23 M l1 l2 l3 l4) : E G mi_L_law K M (kk + 1) (nn + 6) 740 [some (.ref (gS G 200)), some (.ref l1), some (.ref l2), some (.ref l3), some (.int l4), none, none, none] [] := by
  unfold V_L_law_740 at h
  refine e_blk 1 740 _ _ (pc' := 1601) (L' := [some (.ref (gS G 200)), some (.ref l1), some (.ref l2), some (.ref l3), some (.int l4), none, none, none]) (st' := []) rfl ?_
  refine e_wid (k' := kk + 5) (n' := nn + 30) (show _ ≤ _ by omega) (show _ ≤ _ by omega) ?_
  refine e_drp [true, true, true, true, true, false, false, false] (L' := [some (.ref (gS G 200)), some (.ref l1), some (.ref l2), some (.ref l3), some (.int l4), none, none, none]) rfl ?_
  exact x_L_law_1601 hkk hnn hB23 h
def V_L_law_687 (G : Gx) (K : Rs → Mm → Prop) (B23 : Mm → Nat → Nat → Nat → Int32 → Prop) (M : Mm) (l1 : Nat) (l2 : Nat) (l3 : Nat) (l4 : Int32) : Prop := (vp_in (l4 + (1 : Int32)) (gS G 201) ∧ V_L_cancel (kI (fun r3 M2 => (vp_in (l4 + (1 : Int32)) (gS G 201) ∧ (ob M2 l2 7 ∧ V_X7_cancel (kI (fun r7 M6 => (ob M6 l2 7 ∧ V_X7_thrown (kI (fun r10 M9 => ((r10 = r3 → ((¬ r3 = 0 → V_L_law_740 G K B23 M9 l1 l2 l3 l4) ∧ (r3 = 0 → (ob M9 l3 10 ∧ (vp_in (0 : Int32) (mN M9 l3) ∧ (((lg_cmp (mJ M9 l3 ((0 : Int32)).toNatClampNeg) ((r7).toInt64)) = 0 → V_L_law_740 G K B23 M9 l1 l2 l3 l4) ∧ (¬ (lg_cmp (mJ M9 l3 ((0 : Int32)).toNatClampNeg) ((r7).toInt64)) = 0 → K (.inl (some (.int (0 : Int32)))) M9))))))) ∧ (¬ r10 = r3 → K (.inl (some (.int (0 : Int32)))) M9))) (fun _ _ => False)) M6 l2)) (fun _ _ => False)) M2 l2 (gX G ((l4 + (1 : Int32))).toNatClampNeg)))) (fun _ _ => False)) M l1 (gX G ((l4 + (1 : Int32))).toNatClampNeg) l3)
set_option maxRecDepth 100000 in
set_option maxHeartbeats 4000000 in
theorem x_L_law_687 {G : Gx} {K : Rs → Mm → Prop} {kk nn : Nat} (hkk : kk + 5 ≤ 601024) (hnn : nn + 30 ≤ 7293034) {B23 : Mm → Nat → Nat → Nat → Int32 → Prop} (hB23 : ∀ M l1 l2 l3 l4, B23 M l1 l2 l3 l4 → E G mi_L_law K M (kk + 5) (nn + 30) 23 [some (.ref (gS G 200)), some (.ref l1), some (.ref l2), some (.ref l3), some (.int l4), none, none, none] []) {M : Mm} {l1 : Nat} {l2 : Nat} {l3 : Nat} {l4 : Int32} (h : V_L_law_687 G K B23 M l1 l2 l3 l4) : E G mi_L_law K M (kk + 0) (nn + 0) 687 [some (.ref (gS G 200)), some (.ref l1), some (.ref l2), some (.ref l3), some (.int l4), none, none, none] [] := by
  unfold V_L_law_687 at h
  refine e_blk 5 687 _ _ (pc' := 693) (L' := [some (.ref (gS G 200)), some (.ref l1), some (.ref l2), some (.ref l3), some (.int l4), none, none, none]) (st' := [.int (l4 + (1 : Int32)), .ref (gS G 200), .ref l1]) rfl ?_
  obtain ⟨hi1, h⟩ := h
  refine e_tI (.int (gX G ((l4 + (1 : Int32))).toNatClampNeg)) rfl (fun s hs => hs.scr) hi1 rfl ?_
  refine e_blk 1 694 _ _ (pc' := 695) (L' := [some (.ref (gS G 200)), some (.ref l1), some (.ref l2), some (.ref l3), some (.int l4), none, none, none]) (st' := [.ref l3, .int (gX G ((l4 + (1 : Int32))).toNatClampNeg), .ref l1]) rfl ?_
  refine e_callSH (As := [.ref l1, .int (gX G ((l4 + (1 : Int32))).toNatClampNeg), .ref l3]) (rest := []) rfl (x_L_cancel h) (by decide) (aw (i := 743) (by decide +kernel) rfl) ws_L_cancel wi_L_cancel wc_L_cancel (cokL (show cok mi_L_law mi_L_cancel 0 0 3 = true by decide +kernel) (show _ + 1 ≤ 601024 by omega) (show _ + 6 ≤ 7293034 by omega)) (Nat.le_of_ble_eq_true rfl) (fun v9 M2 hq => ?_) (fun X M9 hq => False.elim hq)
  refine e_wid (k' := kk + 1) (n' := nn + 6) (show _ + 1 ≤ _ by omega) (show _ + 6 ≤ _ by omega) ?_
  obtain ⟨r3, rfl, h⟩ := kI_l hq
  refine e_blk 6 698 _ _ (pc' := 706) (L' := [some (.ref (gS G 200)), some (.ref l1), some (.ref l2), some (.ref l3), some (.int l4), some (.int r3), none, none]) (st' := [.int (l4 + (1 : Int32)), .ref (gS G 200), .ref l2]) rfl ?_
  obtain ⟨hi4, h⟩ := h
  refine e_tI (.int (gX G ((l4 + (1 : Int32))).toNatClampNeg)) rfl (fun s hs => hs.scr) hi4 rfl ?_
  obtain ⟨ho5, h⟩ := h
  refine e_callV (As := [.int (gX G ((l4 + (1 : Int32))).toNatClampNeg)]) (rest := []) (ci := 7) rfl (x_X7_cancel h) ho5 rfl rfl rfl (aw (i := 1445) (by decide +kernel) rfl) wn_X7_cancel wv_X7_cancel wi_X7_cancel wc_X7_cancel (cokL (show cok mi_L_law mi_X7_cancel 0 0 1 = true by decide +kernel) (show _ + 0 ≤ 601024 by omega) (show _ + 0 ≤ 7293034 by omega)) (Nat.le_of_ble_eq_true rfl) (fun v9 M6 hq => ?_) (fun X M9 hq => False.elim hq)
  refine e_wid (k' := kk + 1) (n' := nn + 6) (show _ + 0 ≤ _ by omega) (show _ + 0 ≤ _ by omega) ?_
  obtain ⟨r7, rfl, h⟩ := kI_l hq
  refine e_blk 2 710 _ _ (pc' := 713) (L' := [some (.ref (gS G 200)), some (.ref l1), some (.ref l2), some (.ref l3), some (.int l4), some (.int r3), some (.int r7), none]) (st' := [.ref l2]) rfl ?_
  obtain ⟨ho8, h⟩ := h
  refine e_callV (As := []) (rest := []) (ci := 7) rfl (x_X7_thrown h) ho8 rfl rfl rfl (aw (i := 1247) (by decide +kernel) rfl) wn_X7_thrown wv_X7_thrown wi_X7_thrown wc_X7_thrown (cokL (show cok mi_L_law mi_X7_thrown 0 0 0 = true by decide +kernel) (show _ + 0 ≤ 601024 by omega) (show _ + 0 ≤ 7293034 by omega)) (Nat.le_of_ble_eq_true rfl) (fun v9 M9 hq => ?_) (fun X M9 hq => False.elim hq)
  refine e_wid (k' := kk + 1) (n' := nn + 6) (show _ + 0 ≤ _ by omega) (show _ + 0 ≤ _ by omega) ?_
  obtain ⟨r10, rfl, h⟩ := kI_l hq
  refine e_blk 1 716 _ _ (pc' := 718) (L' := [some (.ref (gS G 200)), some (.ref l1), some (.ref l2), some (.ref l3), some (.int l4), some (.int r3), some (.int r7), none]) (st' := [.int r3, .int r10]) rfl ?_
  refine e_icmp_eq 723 rfl rfl (fun hc => ?_) (fun hc => ?_)
  · replace h := h.1 hc
    refine e_blk 1 723 _ _ (pc' := 725) (L' := [some (.ref (gS G 200)), some (.ref l1), some (.ref l2), some (.ref l3), some (.int l4), some (.int r3), some (.int r7), none]) (st' := [.int r3]) rfl ?_
    refine e_if_ne 740 rfl rfl (fun hc => ?_) (fun hc => ?_)
    · replace h := h.1 hc
      refine e_wid (k' := kk + 1) (n' := nn + 6) (show _ ≤ _ by omega) (show _ ≤ _ by omega) ?_
      refine e_drp [true, true, true, true, true, false, false, false] (L' := [some (.ref (gS G 200)), some (.ref l1), some (.ref l2), some (.ref l3), some (.int l4), none, none, none]) rfl ?_
      exact x_L_law_740 hkk hnn hB23 h
    · replace h := h.2 hc
      refine e_blk 2 728 _ _ (pc' := 730) (L' := [some (.ref (gS G 200)), some (.ref l1), some (.ref l2), some (.ref l3), some (.int l4), some (.int r3), some (.int r7), none]) (st' := [.int (0 : Int32), .ref l3]) rfl ?_
      obtain ⟨ho11, h⟩ := h
      obtain ⟨hi12, h⟩ := h
      refine e_lald rfl ho11 hi12 ?_
      refine e_blk 3 731 _ _ (pc' := 735) (L' := [some (.ref (gS G 200)), some (.ref l1), some (.ref l2), some (.ref l3), some (.int l4), some (.int r3), some (.int r7), none]) (st' := [.int (lg_cmp (mJ M9 l3 ((0 : Int32)).toNatClampNeg) ((r7).toInt64))]) rfl ?_
      refine e_if_eq 740 rfl rfl (fun hc => ?_) (fun hc => ?_)
      · replace h := h.1 hc
        refine e_wid (k' := kk + 1) (n' := nn + 6) (show _ ≤ _ by omega) (show _ ≤ _ by omega) ?_
        refine e_drp [true, true, true, true, true, false, false, false] (L' := [some (.ref (gS G 200)), some (.ref l1), some (.ref l2), some (.ref l3), some (.int l4), none, none, none]) rfl ?_
        exact x_L_law_740 hkk hnn hB23 h
      · replace h := h.2 hc
        refine e_blk 1 738 _ _ (pc' := 739) (L' := [some (.ref (gS G 200)), some (.ref l1), some (.ref l2), some (.ref l3), some (.int l4), some (.int r3), some (.int r7), none]) (st' := [.int (0 : Int32)]) rfl ?_
        exact e_retz rfl rfl (by decide) (show _ ≤ 601024 by omega) (show _ ≤ 7293034 by omega) h
  · replace h := h.2 hc
    refine e_blk 1 721 _ _ (pc' := 722) (L' := [some (.ref (gS G 200)), some (.ref l1), some (.ref l2), some (.ref l3), some (.int l4), some (.int r3), some (.int r7), none]) (st' := [.int (0 : Int32)]) rfl ?_
    exact e_retz rfl rfl (by decide) (show _ ≤ 601024 by omega) (show _ ≤ 7293034 by omega) h
def V_L_law_674 (G : Gx) (K : Rs → Mm → Prop) (B23 : Mm → Nat → Nat → Nat → Int32 → Prop) (M : Mm) (l1 : Nat) (l2 : Nat) (l3 : Nat) (l4 : Int32) : Prop := (ob M l1 6 ∧ V_X6_fault (kI (fun r3 M2 => (ob M2 l2 7 ∧ V_X7_fault (kI (fun r6 M5 => ((r3 = r6 → V_L_law_1601 G K B23 M5 l1 l2 l3 l4) ∧ (¬ r3 = r6 → K (.inl (some (.int (0 : Int32)))) M5))) (fun _ _ => False)) M2 l2)) (fun _ _ => False)) M l1)
set_option maxRecDepth 100000 in
set_option maxHeartbeats 4000000 in
theorem x_L_law_674 {G : Gx} {K : Rs → Mm → Prop} {kk nn : Nat} (hkk : kk + 5 ≤ 601024) (hnn : nn + 30 ≤ 7293034) {B23 : Mm → Nat → Nat → Nat → Int32 → Prop} (hB23 : ∀ M l1 l2 l3 l4, B23 M l1 l2 l3 l4 → E G mi_L_law K M (kk + 5) (nn + 30) 23 [some (.ref (gS G 200)), some (.ref l1), some (.ref l2), some (.ref l3), some (.int l4), none, none, none] []) {M : Mm} {l1 : Nat} {l2 : Nat} {l3 : Nat} {l4 : Int32} (h : V_L_law_674 G K B23 M l1 l2 l3 l4) : E G mi_L_law K M (kk + 0) (nn + 0) 674 [some (.ref (gS G 200)), some (.ref l1), some (.ref l2), some (.ref l3), some (.int l4), none, none, none] [] := by
  unfold V_L_law_674 at h
  refine e_blk 1 674 _ _ (pc' := 675) (L' := [some (.ref (gS G 200)), some (.ref l1), some (.ref l2), some (.ref l3), some (.int l4), none, none, none]) (st' := [.ref l1]) rfl ?_
  obtain ⟨ho1, h⟩ := h
  refine e_callV (As := []) (rest := []) (ci := 6) rfl (x_X6_fault h) ho1 rfl rfl rfl (aw (i := 361) (by decide +kernel) rfl) wn_X6_fault wv_X6_fault wi_X6_fault wc_X6_fault (cokL (show cok mi_L_law mi_X6_fault 0 0 0 = true by decide +kernel) (show _ + 0 ≤ 601024 by omega) (show _ + 0 ≤ 7293034 by omega)) (Nat.le_of_ble_eq_true rfl) (fun v9 M2 hq => ?_) (fun X M9 hq => False.elim hq)
  refine e_wid (k' := kk + 0) (n' := nn + 0) (show _ + 0 ≤ _ by omega) (show _ + 0 ≤ _ by omega) ?_
  obtain ⟨r3, rfl, h⟩ := kI_l hq
  refine e_blk 1 678 _ _ (pc' := 679) (L' := [some (.ref (gS G 200)), some (.ref l1), some (.ref l2), some (.ref l3), some (.int l4), none, none, none]) (st' := [.ref l2, .int r3]) rfl ?_
  obtain ⟨ho4, h⟩ := h
  refine e_callV (As := []) (rest := [.int r3]) (ci := 7) rfl (x_X7_fault h) ho4 rfl rfl rfl (aw (i := 1441) (by decide +kernel) rfl) wn_X7_fault wv_X7_fault wi_X7_fault wc_X7_fault (cokL (show cok mi_L_law mi_X7_fault 0 0 0 = true by decide +kernel) (show _ + 0 ≤ 601024 by omega) (show _ + 0 ≤ 7293034 by omega)) (Nat.le_of_ble_eq_true rfl) (fun v9 M5 hq => ?_) (fun X M9 hq => False.elim hq)
  refine e_wid (k' := kk + 0) (n' := nn + 0) (show _ + 0 ≤ _ by omega) (show _ + 0 ≤ _ by omega) ?_
  obtain ⟨r6, rfl, h⟩ := kI_l hq
  refine e_icmp_eq 1601 rfl rfl (fun hc => ?_) (fun hc => ?_)
  · replace h := h.1 hc
    refine e_wid (k' := kk + 5) (n' := nn + 30) (show _ ≤ _ by omega) (show _ ≤ _ by omega) ?_
    refine e_drp [true, true, true, true, true, false, false, false] (L' := [some (.ref (gS G 200)), some (.ref l1), some (.ref l2), some (.ref l3), some (.int l4), none, none, none]) rfl ?_
    exact x_L_law_1601 hkk hnn hB23 h
  · replace h := h.2 hc
    refine e_blk 1 685 _ _ (pc' := 686) (L' := [some (.ref (gS G 200)), some (.ref l1), some (.ref l2), some (.ref l3), some (.int l4), none, none, none]) (st' := [.int (0 : Int32)]) rfl ?_
    exact e_retz rfl rfl (by decide) (show _ ≤ 601024 by omega) (show _ ≤ 7293034 by omega) h
def V_L_law_671 (G : Gx) (K : Rs → Mm → Prop) (B23 : Mm → Nat → Nat → Nat → Int32 → Prop) (M : Mm) (l1 : Nat) (l2 : Nat) (l3 : Nat) (l4 : Int32) : Prop := V_L_law_1601 G K B23 M l1 l2 l3 l4
set_option maxRecDepth 100000 in
set_option maxHeartbeats 4000000 in
theorem x_L_law_671 {G : Gx} {K : Rs → Mm → Prop} {kk nn : Nat} (hkk : kk + 5 ≤ 601024) (hnn : nn + 30 ≤ 7293034) {B23 : Mm → Nat → Nat → Nat → Int32 → Prop} (hB23 : ∀ M l1 l2 l3 l4, B23 M l1 l2 l3 l4 → E G mi_L_law K M (kk + 5) (nn + 30) 23 [some (.ref (gS G 200)), some (.ref l1), some (.ref l2), some (.ref l3), some (.int l4), none, none, none] []) {M : Mm} {l1 : Nat} {l2 : Nat} {l3 : Nat} {l4 : Int32} (h : V_L_law_671 G K B23 M l1 l2 l3 l4) : E G mi_L_law K M (kk + 3) (nn + 18) 671 [some (.ref (gS G 200)), some (.ref l1), some (.ref l2), some (.ref l3), some (.int l4), none, none, none] [] := by
  unfold V_L_law_671 at h
  refine e_blk 1 671 _ _ (pc' := 1601) (L' := [some (.ref (gS G 200)), some (.ref l1), some (.ref l2), some (.ref l3), some (.int l4), none, none, none]) (st' := []) rfl ?_
  refine e_wid (k' := kk + 5) (n' := nn + 30) (show _ ≤ _ by omega) (show _ ≤ _ by omega) ?_
  refine e_drp [true, true, true, true, true, false, false, false] (L' := [some (.ref (gS G 200)), some (.ref l1), some (.ref l2), some (.ref l3), some (.int l4), none, none, none]) rfl ?_
  exact x_L_law_1601 hkk hnn hB23 h
def V_L_law_570 (G : Gx) (K : Rs → Mm → Prop) (B23 : Mm → Nat → Nat → Nat → Int32 → Prop) (M : Mm) (l1 : Nat) (l2 : Nat) (l3 : Nat) (l4 : Int32) : Prop := (vp_in (l4 + (1 : Int32)) (gS G 201) ∧ (vp_in (l4 + (2 : Int32)) (gS G 201) ∧ (vp_in (l4 + (3 : Int32)) (gS G 201) ∧ (vp_in (l4 + (4 : Int32)) (gS G 201) ∧ (vp_in (l4 + (5 : Int32)) (gS G 201) ∧ V_L_order (kI (fun r7 M6 => (vp_in (l4 + (1 : Int32)) (gS G 201) ∧ (vp_in (l4 + (2 : Int32)) (gS G 201) ∧ (vp_in (l4 + (3 : Int32)) (gS G 201) ∧ (vp_in (l4 + (4 : Int32)) (gS G 201) ∧ (vp_in (l4 + (5 : Int32)) (gS G 201) ∧ (ob M6 l2 7 ∧ V_X7_order (kI (fun r15 M14 => (ob M14 l2 7 ∧ V_X7_thrown (kI (fun r18 M17 => ((r18 = r7 → ((¬ r7 = 0 → V_L_law_671 G K B23 M17 l1 l2 l3 l4) ∧ (r7 = 0 → (ob M17 l3 10 ∧ (vp_in (0 : Int32) (mN M17 l3) ∧ (((lg_cmp (mJ M17 l3 ((0 : Int32)).toNatClampNeg) ((r15).toInt64)) = 0 → V_L_law_671 G K B23 M17 l1 l2 l3 l4) ∧ (¬ (lg_cmp (mJ M17 l3 ((0 : Int32)).toNatClampNeg) ((r15).toInt64)) = 0 → K (.inl (some (.int (0 : Int32)))) M17))))))) ∧ (¬ r18 = r7 → K (.inl (some (.int (0 : Int32)))) M17))) (fun _ _ => False)) M14 l2)) (fun _ _ => False)) M6 l2 (gX G ((l4 + (1 : Int32))).toNatClampNeg) (gX G ((l4 + (2 : Int32))).toNatClampNeg) (gX G ((l4 + (3 : Int32))).toNatClampNeg) (gX G ((l4 + (4 : Int32))).toNatClampNeg) (gX G ((l4 + (5 : Int32))).toNatClampNeg)))))))) (fun _ _ => False)) M l1 (gX G ((l4 + (1 : Int32))).toNatClampNeg) (gX G ((l4 + (2 : Int32))).toNatClampNeg) (gX G ((l4 + (3 : Int32))).toNatClampNeg) (gX G ((l4 + (4 : Int32))).toNatClampNeg) (gX G ((l4 + (5 : Int32))).toNatClampNeg) l3)))))
set_option maxRecDepth 100000 in
set_option maxHeartbeats 4000000 in
theorem x_L_law_570 {G : Gx} {K : Rs → Mm → Prop} {kk nn : Nat} (hkk : kk + 5 ≤ 601024) (hnn : nn + 30 ≤ 7293034) {B23 : Mm → Nat → Nat → Nat → Int32 → Prop} (hB23 : ∀ M l1 l2 l3 l4, B23 M l1 l2 l3 l4 → E G mi_L_law K M (kk + 5) (nn + 30) 23 [some (.ref (gS G 200)), some (.ref l1), some (.ref l2), some (.ref l3), some (.int l4), none, none, none] []) {M : Mm} {l1 : Nat} {l2 : Nat} {l3 : Nat} {l4 : Int32} (h : V_L_law_570 G K B23 M l1 l2 l3 l4) : E G mi_L_law K M (kk + 0) (nn + 0) 570 [some (.ref (gS G 200)), some (.ref l1), some (.ref l2), some (.ref l3), some (.int l4), none, none, none] [] := by
  unfold V_L_law_570 at h
  refine e_blk 5 570 _ _ (pc' := 576) (L' := [some (.ref (gS G 200)), some (.ref l1), some (.ref l2), some (.ref l3), some (.int l4), none, none, none]) (st' := [.int (l4 + (1 : Int32)), .ref (gS G 200), .ref l1]) rfl ?_
  obtain ⟨hi1, h⟩ := h
  refine e_tI (.int (gX G ((l4 + (1 : Int32))).toNatClampNeg)) rfl (fun s hs => hs.scr) hi1 rfl ?_
  refine e_blk 4 577 _ _ (pc' := 582) (L' := [some (.ref (gS G 200)), some (.ref l1), some (.ref l2), some (.ref l3), some (.int l4), none, none, none]) (st' := [.int (l4 + (2 : Int32)), .ref (gS G 200), .int (gX G ((l4 + (1 : Int32))).toNatClampNeg), .ref l1]) rfl ?_
  obtain ⟨hi2, h⟩ := h
  refine e_tI (.int (gX G ((l4 + (2 : Int32))).toNatClampNeg)) rfl (fun s hs => hs.scr) hi2 rfl ?_
  refine e_blk 4 583 _ _ (pc' := 588) (L' := [some (.ref (gS G 200)), some (.ref l1), some (.ref l2), some (.ref l3), some (.int l4), none, none, none]) (st' := [.int (l4 + (3 : Int32)), .ref (gS G 200), .int (gX G ((l4 + (2 : Int32))).toNatClampNeg), .int (gX G ((l4 + (1 : Int32))).toNatClampNeg), .ref l1]) rfl ?_
  obtain ⟨hi3, h⟩ := h
  refine e_tI (.int (gX G ((l4 + (3 : Int32))).toNatClampNeg)) rfl (fun s hs => hs.scr) hi3 rfl ?_
  refine e_blk 4 589 _ _ (pc' := 594) (L' := [some (.ref (gS G 200)), some (.ref l1), some (.ref l2), some (.ref l3), some (.int l4), none, none, none]) (st' := [.int (l4 + (4 : Int32)), .ref (gS G 200), .int (gX G ((l4 + (3 : Int32))).toNatClampNeg), .int (gX G ((l4 + (2 : Int32))).toNatClampNeg), .int (gX G ((l4 + (1 : Int32))).toNatClampNeg), .ref l1]) rfl ?_
  obtain ⟨hi4, h⟩ := h
  refine e_tI (.int (gX G ((l4 + (4 : Int32))).toNatClampNeg)) rfl (fun s hs => hs.scr) hi4 rfl ?_
  refine e_blk 4 595 _ _ (pc' := 600) (L' := [some (.ref (gS G 200)), some (.ref l1), some (.ref l2), some (.ref l3), some (.int l4), none, none, none]) (st' := [.int (l4 + (5 : Int32)), .ref (gS G 200), .int (gX G ((l4 + (4 : Int32))).toNatClampNeg), .int (gX G ((l4 + (3 : Int32))).toNatClampNeg), .int (gX G ((l4 + (2 : Int32))).toNatClampNeg), .int (gX G ((l4 + (1 : Int32))).toNatClampNeg), .ref l1]) rfl ?_
  obtain ⟨hi5, h⟩ := h
  refine e_tI (.int (gX G ((l4 + (5 : Int32))).toNatClampNeg)) rfl (fun s hs => hs.scr) hi5 rfl ?_
  refine e_blk 1 601 _ _ (pc' := 602) (L' := [some (.ref (gS G 200)), some (.ref l1), some (.ref l2), some (.ref l3), some (.int l4), none, none, none]) (st' := [.ref l3, .int (gX G ((l4 + (5 : Int32))).toNatClampNeg), .int (gX G ((l4 + (4 : Int32))).toNatClampNeg), .int (gX G ((l4 + (3 : Int32))).toNatClampNeg), .int (gX G ((l4 + (2 : Int32))).toNatClampNeg), .int (gX G ((l4 + (1 : Int32))).toNatClampNeg), .ref l1]) rfl ?_
  refine e_callSH (As := [.ref l1, .int (gX G ((l4 + (1 : Int32))).toNatClampNeg), .int (gX G ((l4 + (2 : Int32))).toNatClampNeg), .int (gX G ((l4 + (3 : Int32))).toNatClampNeg), .int (gX G ((l4 + (4 : Int32))).toNatClampNeg), .int (gX G ((l4 + (5 : Int32))).toNatClampNeg), .ref l3]) (rest := []) rfl (x_L_order h) (by decide) (aw (i := 586) (by decide +kernel) rfl) ws_L_order wi_L_order wc_L_order (cokL (show cok mi_L_law mi_L_order 0 0 7 = true by decide +kernel) (show _ + 3 ≤ 601024 by omega) (show _ + 18 ≤ 7293034 by omega)) (Nat.le_of_ble_eq_true rfl) (fun v9 M6 hq => ?_) (fun X M9 hq => False.elim hq)
  refine e_wid (k' := kk + 3) (n' := nn + 18) (show _ + 3 ≤ _ by omega) (show _ + 18 ≤ _ by omega) ?_
  obtain ⟨r7, rfl, h⟩ := kI_l hq
  refine e_blk 6 605 _ _ (pc' := 613) (L' := [some (.ref (gS G 200)), some (.ref l1), some (.ref l2), some (.ref l3), some (.int l4), some (.int r7), none, none]) (st' := [.int (l4 + (1 : Int32)), .ref (gS G 200), .ref l2]) rfl ?_
  obtain ⟨hi8, h⟩ := h
  refine e_tI (.int (gX G ((l4 + (1 : Int32))).toNatClampNeg)) rfl (fun s hs => hs.scr) hi8 rfl ?_
  refine e_blk 4 614 _ _ (pc' := 619) (L' := [some (.ref (gS G 200)), some (.ref l1), some (.ref l2), some (.ref l3), some (.int l4), some (.int r7), none, none]) (st' := [.int (l4 + (2 : Int32)), .ref (gS G 200), .int (gX G ((l4 + (1 : Int32))).toNatClampNeg), .ref l2]) rfl ?_
  obtain ⟨hi9, h⟩ := h
  refine e_tI (.int (gX G ((l4 + (2 : Int32))).toNatClampNeg)) rfl (fun s hs => hs.scr) hi9 rfl ?_
  refine e_blk 4 620 _ _ (pc' := 625) (L' := [some (.ref (gS G 200)), some (.ref l1), some (.ref l2), some (.ref l3), some (.int l4), some (.int r7), none, none]) (st' := [.int (l4 + (3 : Int32)), .ref (gS G 200), .int (gX G ((l4 + (2 : Int32))).toNatClampNeg), .int (gX G ((l4 + (1 : Int32))).toNatClampNeg), .ref l2]) rfl ?_
  obtain ⟨hi10, h⟩ := h
  refine e_tI (.int (gX G ((l4 + (3 : Int32))).toNatClampNeg)) rfl (fun s hs => hs.scr) hi10 rfl ?_
  refine e_blk 4 626 _ _ (pc' := 631) (L' := [some (.ref (gS G 200)), some (.ref l1), some (.ref l2), some (.ref l3), some (.int l4), some (.int r7), none, none]) (st' := [.int (l4 + (4 : Int32)), .ref (gS G 200), .int (gX G ((l4 + (3 : Int32))).toNatClampNeg), .int (gX G ((l4 + (2 : Int32))).toNatClampNeg), .int (gX G ((l4 + (1 : Int32))).toNatClampNeg), .ref l2]) rfl ?_
  obtain ⟨hi11, h⟩ := h
  refine e_tI (.int (gX G ((l4 + (4 : Int32))).toNatClampNeg)) rfl (fun s hs => hs.scr) hi11 rfl ?_
  refine e_blk 4 632 _ _ (pc' := 637) (L' := [some (.ref (gS G 200)), some (.ref l1), some (.ref l2), some (.ref l3), some (.int l4), some (.int r7), none, none]) (st' := [.int (l4 + (5 : Int32)), .ref (gS G 200), .int (gX G ((l4 + (4 : Int32))).toNatClampNeg), .int (gX G ((l4 + (3 : Int32))).toNatClampNeg), .int (gX G ((l4 + (2 : Int32))).toNatClampNeg), .int (gX G ((l4 + (1 : Int32))).toNatClampNeg), .ref l2]) rfl ?_
  obtain ⟨hi12, h⟩ := h
  refine e_tI (.int (gX G ((l4 + (5 : Int32))).toNatClampNeg)) rfl (fun s hs => hs.scr) hi12 rfl ?_
  obtain ⟨ho13, h⟩ := h
  refine e_callV (As := [.int (gX G ((l4 + (1 : Int32))).toNatClampNeg), .int (gX G ((l4 + (2 : Int32))).toNatClampNeg), .int (gX G ((l4 + (3 : Int32))).toNatClampNeg), .int (gX G ((l4 + (4 : Int32))).toNatClampNeg), .int (gX G ((l4 + (5 : Int32))).toNatClampNeg)]) (rest := []) (ci := 7) rfl (x_X7_order h) ho13 rfl rfl rfl (aw (i := 1328) (by decide +kernel) rfl) wn_X7_order wv_X7_order wi_X7_order wc_X7_order (cokL (show cok mi_L_law mi_X7_order 0 0 5 = true by decide +kernel) (show _ + 0 ≤ 601024 by omega) (show _ + 0 ≤ 7293034 by omega)) (Nat.le_of_ble_eq_true rfl) (fun v9 M14 hq => ?_) (fun X M9 hq => False.elim hq)
  refine e_wid (k' := kk + 3) (n' := nn + 18) (show _ + 0 ≤ _ by omega) (show _ + 0 ≤ _ by omega) ?_
  obtain ⟨r15, rfl, h⟩ := kI_l hq
  refine e_blk 2 641 _ _ (pc' := 644) (L' := [some (.ref (gS G 200)), some (.ref l1), some (.ref l2), some (.ref l3), some (.int l4), some (.int r7), some (.int r15), none]) (st' := [.ref l2]) rfl ?_
  obtain ⟨ho16, h⟩ := h
  refine e_callV (As := []) (rest := []) (ci := 7) rfl (x_X7_thrown h) ho16 rfl rfl rfl (aw (i := 1247) (by decide +kernel) rfl) wn_X7_thrown wv_X7_thrown wi_X7_thrown wc_X7_thrown (cokL (show cok mi_L_law mi_X7_thrown 0 0 0 = true by decide +kernel) (show _ + 0 ≤ 601024 by omega) (show _ + 0 ≤ 7293034 by omega)) (Nat.le_of_ble_eq_true rfl) (fun v9 M17 hq => ?_) (fun X M9 hq => False.elim hq)
  refine e_wid (k' := kk + 3) (n' := nn + 18) (show _ + 0 ≤ _ by omega) (show _ + 0 ≤ _ by omega) ?_
  obtain ⟨r18, rfl, h⟩ := kI_l hq
  refine e_blk 1 647 _ _ (pc' := 649) (L' := [some (.ref (gS G 200)), some (.ref l1), some (.ref l2), some (.ref l3), some (.int l4), some (.int r7), some (.int r15), none]) (st' := [.int r7, .int r18]) rfl ?_
  refine e_icmp_eq 654 rfl rfl (fun hc => ?_) (fun hc => ?_)
  · replace h := h.1 hc
    refine e_blk 1 654 _ _ (pc' := 656) (L' := [some (.ref (gS G 200)), some (.ref l1), some (.ref l2), some (.ref l3), some (.int l4), some (.int r7), some (.int r15), none]) (st' := [.int r7]) rfl ?_
    refine e_if_ne 671 rfl rfl (fun hc => ?_) (fun hc => ?_)
    · replace h := h.1 hc
      refine e_wid (k' := kk + 3) (n' := nn + 18) (show _ ≤ _ by omega) (show _ ≤ _ by omega) ?_
      refine e_drp [true, true, true, true, true, false, false, false] (L' := [some (.ref (gS G 200)), some (.ref l1), some (.ref l2), some (.ref l3), some (.int l4), none, none, none]) rfl ?_
      exact x_L_law_671 hkk hnn hB23 h
    · replace h := h.2 hc
      refine e_blk 2 659 _ _ (pc' := 661) (L' := [some (.ref (gS G 200)), some (.ref l1), some (.ref l2), some (.ref l3), some (.int l4), some (.int r7), some (.int r15), none]) (st' := [.int (0 : Int32), .ref l3]) rfl ?_
      obtain ⟨ho19, h⟩ := h
      obtain ⟨hi20, h⟩ := h
      refine e_lald rfl ho19 hi20 ?_
      refine e_blk 3 662 _ _ (pc' := 666) (L' := [some (.ref (gS G 200)), some (.ref l1), some (.ref l2), some (.ref l3), some (.int l4), some (.int r7), some (.int r15), none]) (st' := [.int (lg_cmp (mJ M17 l3 ((0 : Int32)).toNatClampNeg) ((r15).toInt64))]) rfl ?_
      refine e_if_eq 671 rfl rfl (fun hc => ?_) (fun hc => ?_)
      · replace h := h.1 hc
        refine e_wid (k' := kk + 3) (n' := nn + 18) (show _ ≤ _ by omega) (show _ ≤ _ by omega) ?_
        refine e_drp [true, true, true, true, true, false, false, false] (L' := [some (.ref (gS G 200)), some (.ref l1), some (.ref l2), some (.ref l3), some (.int l4), none, none, none]) rfl ?_
        exact x_L_law_671 hkk hnn hB23 h
      · replace h := h.2 hc
        refine e_blk 1 669 _ _ (pc' := 670) (L' := [some (.ref (gS G 200)), some (.ref l1), some (.ref l2), some (.ref l3), some (.int l4), some (.int r7), some (.int r15), none]) (st' := [.int (0 : Int32)]) rfl ?_
        exact e_retz rfl rfl (by decide) (show _ ≤ 601024 by omega) (show _ ≤ 7293034 by omega) h
  · replace h := h.2 hc
    refine e_blk 1 652 _ _ (pc' := 653) (L' := [some (.ref (gS G 200)), some (.ref l1), some (.ref l2), some (.ref l3), some (.int l4), some (.int r7), some (.int r15), none]) (st' := [.int (0 : Int32)]) rfl ?_
    exact e_retz rfl rfl (by decide) (show _ ≤ 601024 by omega) (show _ ≤ 7293034 by omega) h
def V_L_law_567 (G : Gx) (K : Rs → Mm → Prop) (B23 : Mm → Nat → Nat → Nat → Int32 → Prop) (M : Mm) (l1 : Nat) (l2 : Nat) (l3 : Nat) (l4 : Int32) : Prop := V_L_law_1601 G K B23 M l1 l2 l3 l4
set_option maxRecDepth 100000 in
set_option maxHeartbeats 4000000 in
theorem x_L_law_567 {G : Gx} {K : Rs → Mm → Prop} {kk nn : Nat} (hkk : kk + 5 ≤ 601024) (hnn : nn + 30 ≤ 7293034) {B23 : Mm → Nat → Nat → Nat → Int32 → Prop} (hB23 : ∀ M l1 l2 l3 l4, B23 M l1 l2 l3 l4 → E G mi_L_law K M (kk + 5) (nn + 30) 23 [some (.ref (gS G 200)), some (.ref l1), some (.ref l2), some (.ref l3), some (.int l4), none, none, none] []) {M : Mm} {l1 : Nat} {l2 : Nat} {l3 : Nat} {l4 : Int32} (h : V_L_law_567 G K B23 M l1 l2 l3 l4) : E G mi_L_law K M (kk + 2) (nn + 12) 567 [some (.ref (gS G 200)), some (.ref l1), some (.ref l2), some (.ref l3), some (.int l4), none, none, none] [] := by
  unfold V_L_law_567 at h
  refine e_blk 1 567 _ _ (pc' := 1601) (L' := [some (.ref (gS G 200)), some (.ref l1), some (.ref l2), some (.ref l3), some (.int l4), none, none, none]) (st' := []) rfl ?_
  refine e_wid (k' := kk + 5) (n' := nn + 30) (show _ ≤ _ by omega) (show _ ≤ _ by omega) ?_
  refine e_drp [true, true, true, true, true, false, false, false] (L' := [some (.ref (gS G 200)), some (.ref l1), some (.ref l2), some (.ref l3), some (.int l4), none, none, none]) rfl ?_
  exact x_L_law_1601 hkk hnn hB23 h
def V_L_law_470 (G : Gx) (K : Rs → Mm → Prop) (B23 : Mm → Nat → Nat → Nat → Int32 → Prop) (M : Mm) (l1 : Nat) (l2 : Nat) (l3 : Nat) (l4 : Int32) : Prop := (vp_in (l4 + (1 : Int32)) (gS G 201) ∧ (vp_in (l4 + (2 : Int32)) (gS G 201) ∧ (vp_in (l4 + (3 : Int32)) (gS G 201) ∧ V_L_feed (kI (fun r5 M4 => (vp_in (l4 + (1 : Int32)) (gS G 201) ∧ (vp_in (l4 + (2 : Int32)) (gS G 201) ∧ (vp_in (l4 + (3 : Int32)) (gS G 201) ∧ (ob M4 l2 7 ∧ V_X7_feed (kI (fun r11 M10 => (ob M10 l2 7 ∧ V_X7_thrown (kI (fun r14 M13 => ((r14 = r5 → ((¬ r5 = 0 → V_L_law_567 G K B23 M13 l1 l2 l3 l4) ∧ (r5 = 0 → (ob M13 l3 10 ∧ (vp_in (0 : Int32) (mN M13 l3) ∧ (((lg_cmp (mJ M13 l3 ((0 : Int32)).toNatClampNeg) ((r11).toInt64)) = 0 → V_L_law_567 G K B23 M13 l1 l2 l3 l4) ∧ (¬ (lg_cmp (mJ M13 l3 ((0 : Int32)).toNatClampNeg) ((r11).toInt64)) = 0 → K (.inl (some (.int (0 : Int32)))) M13))))))) ∧ (¬ r14 = r5 → K (.inl (some (.int (0 : Int32)))) M13))) (fun _ _ => False)) M10 l2)) (fun _ _ => False)) M4 l2 (((((gX G ((l4 + (1 : Int32))).toNatClampNeg)).toInt64) <<< (((32 : Int32)).toInt64 &&& 63)) ||| ((((gX G ((l4 + (2 : Int32))).toNatClampNeg)).toInt64) &&& (4294967295 : Int64))) (gX G ((l4 + (3 : Int32))).toNatClampNeg)))))) (fun _ _ => False)) M l1 (((((gX G ((l4 + (1 : Int32))).toNatClampNeg)).toInt64) <<< (((32 : Int32)).toInt64 &&& 63)) ||| ((((gX G ((l4 + (2 : Int32))).toNatClampNeg)).toInt64) &&& (4294967295 : Int64))) (gX G ((l4 + (3 : Int32))).toNatClampNeg) l3)))
set_option maxRecDepth 100000 in
set_option maxHeartbeats 4000000 in
theorem x_L_law_470 {G : Gx} {K : Rs → Mm → Prop} {kk nn : Nat} (hkk : kk + 5 ≤ 601024) (hnn : nn + 30 ≤ 7293034) {B23 : Mm → Nat → Nat → Nat → Int32 → Prop} (hB23 : ∀ M l1 l2 l3 l4, B23 M l1 l2 l3 l4 → E G mi_L_law K M (kk + 5) (nn + 30) 23 [some (.ref (gS G 200)), some (.ref l1), some (.ref l2), some (.ref l3), some (.int l4), none, none, none] []) {M : Mm} {l1 : Nat} {l2 : Nat} {l3 : Nat} {l4 : Int32} (h : V_L_law_470 G K B23 M l1 l2 l3 l4) : E G mi_L_law K M (kk + 0) (nn + 0) 470 [some (.ref (gS G 200)), some (.ref l1), some (.ref l2), some (.ref l3), some (.int l4), none, none, none] [] := by
  unfold V_L_law_470 at h
  refine e_blk 5 470 _ _ (pc' := 476) (L' := [some (.ref (gS G 200)), some (.ref l1), some (.ref l2), some (.ref l3), some (.int l4), none, none, none]) (st' := [.int (l4 + (1 : Int32)), .ref (gS G 200), .ref l1]) rfl ?_
  obtain ⟨hi1, h⟩ := h
  refine e_tI (.int (gX G ((l4 + (1 : Int32))).toNatClampNeg)) rfl (fun s hs => hs.scr) hi1 rfl ?_
  refine e_blk 7 477 _ _ (pc' := 486) (L' := [some (.ref (gS G 200)), some (.ref l1), some (.ref l2), some (.ref l3), some (.int l4), none, none, none]) (st' := [.int (l4 + (2 : Int32)), .ref (gS G 200), .long ((((gX G ((l4 + (1 : Int32))).toNatClampNeg)).toInt64) <<< (((32 : Int32)).toInt64 &&& 63)), .ref l1]) rfl ?_
  obtain ⟨hi2, h⟩ := h
  refine e_tI (.int (gX G ((l4 + (2 : Int32))).toNatClampNeg)) rfl (fun s hs => hs.scr) hi2 rfl ?_
  refine e_blk 1 487 _ _ (pc' := 488) (L' := [some (.ref (gS G 200)), some (.ref l1), some (.ref l2), some (.ref l3), some (.int l4), none, none, none]) (st' := [.long (((gX G ((l4 + (2 : Int32))).toNatClampNeg)).toInt64), .long ((((gX G ((l4 + (1 : Int32))).toNatClampNeg)).toInt64) <<< (((32 : Int32)).toInt64 &&& 63)), .ref l1]) rfl ?_
  refine e_ldc2 (4294967295) rfl (aw (i := 1592) (by decide +kernel) rfl) ?_
  refine e_blk 6 491 _ _ (pc' := 498) (L' := [some (.ref (gS G 200)), some (.ref l1), some (.ref l2), some (.ref l3), some (.int l4), none, none, none]) (st' := [.int (l4 + (3 : Int32)), .ref (gS G 200), .long (((((gX G ((l4 + (1 : Int32))).toNatClampNeg)).toInt64) <<< (((32 : Int32)).toInt64 &&& 63)) ||| ((((gX G ((l4 + (2 : Int32))).toNatClampNeg)).toInt64) &&& (4294967295 : Int64))), .ref l1]) rfl ?_
  obtain ⟨hi3, h⟩ := h
  refine e_tI (.int (gX G ((l4 + (3 : Int32))).toNatClampNeg)) rfl (fun s hs => hs.scr) hi3 rfl ?_
  refine e_blk 1 499 _ _ (pc' := 500) (L' := [some (.ref (gS G 200)), some (.ref l1), some (.ref l2), some (.ref l3), some (.int l4), none, none, none]) (st' := [.ref l3, .int (gX G ((l4 + (3 : Int32))).toNatClampNeg), .long (((((gX G ((l4 + (1 : Int32))).toNatClampNeg)).toInt64) <<< (((32 : Int32)).toInt64 &&& 63)) ||| ((((gX G ((l4 + (2 : Int32))).toNatClampNeg)).toInt64) &&& (4294967295 : Int64))), .ref l1]) rfl ?_
  refine e_callSH (As := [.ref l1, .long (((((gX G ((l4 + (1 : Int32))).toNatClampNeg)).toInt64) <<< (((32 : Int32)).toInt64 &&& 63)) ||| ((((gX G ((l4 + (2 : Int32))).toNatClampNeg)).toInt64) &&& (4294967295 : Int64))), .int (gX G ((l4 + (3 : Int32))).toNatClampNeg), .ref l3]) (rest := []) rfl (x_L_feed h) (by decide) (aw (i := 573) (by decide +kernel) rfl) ws_L_feed wi_L_feed wc_L_feed (cokL (show cok mi_L_law mi_L_feed 0 0 4 = true by decide +kernel) (show _ + 2 ≤ 601024 by omega) (show _ + 12 ≤ 7293034 by omega)) (Nat.le_of_ble_eq_true rfl) (fun v9 M4 hq => ?_) (fun X M9 hq => False.elim hq)
  refine e_wid (k' := kk + 2) (n' := nn + 12) (show _ + 2 ≤ _ by omega) (show _ + 12 ≤ _ by omega) ?_
  obtain ⟨r5, rfl, h⟩ := kI_l hq
  refine e_blk 6 503 _ _ (pc' := 511) (L' := [some (.ref (gS G 200)), some (.ref l1), some (.ref l2), some (.ref l3), some (.int l4), some (.int r5), none, none]) (st' := [.int (l4 + (1 : Int32)), .ref (gS G 200), .ref l2]) rfl ?_
  obtain ⟨hi6, h⟩ := h
  refine e_tI (.int (gX G ((l4 + (1 : Int32))).toNatClampNeg)) rfl (fun s hs => hs.scr) hi6 rfl ?_
  refine e_blk 7 512 _ _ (pc' := 521) (L' := [some (.ref (gS G 200)), some (.ref l1), some (.ref l2), some (.ref l3), some (.int l4), some (.int r5), none, none]) (st' := [.int (l4 + (2 : Int32)), .ref (gS G 200), .long ((((gX G ((l4 + (1 : Int32))).toNatClampNeg)).toInt64) <<< (((32 : Int32)).toInt64 &&& 63)), .ref l2]) rfl ?_
  obtain ⟨hi7, h⟩ := h
  refine e_tI (.int (gX G ((l4 + (2 : Int32))).toNatClampNeg)) rfl (fun s hs => hs.scr) hi7 rfl ?_
  refine e_blk 1 522 _ _ (pc' := 523) (L' := [some (.ref (gS G 200)), some (.ref l1), some (.ref l2), some (.ref l3), some (.int l4), some (.int r5), none, none]) (st' := [.long (((gX G ((l4 + (2 : Int32))).toNatClampNeg)).toInt64), .long ((((gX G ((l4 + (1 : Int32))).toNatClampNeg)).toInt64) <<< (((32 : Int32)).toInt64 &&& 63)), .ref l2]) rfl ?_
  refine e_ldc2 (4294967295) rfl (aw (i := 1592) (by decide +kernel) rfl) ?_
  refine e_blk 6 526 _ _ (pc' := 533) (L' := [some (.ref (gS G 200)), some (.ref l1), some (.ref l2), some (.ref l3), some (.int l4), some (.int r5), none, none]) (st' := [.int (l4 + (3 : Int32)), .ref (gS G 200), .long (((((gX G ((l4 + (1 : Int32))).toNatClampNeg)).toInt64) <<< (((32 : Int32)).toInt64 &&& 63)) ||| ((((gX G ((l4 + (2 : Int32))).toNatClampNeg)).toInt64) &&& (4294967295 : Int64))), .ref l2]) rfl ?_
  obtain ⟨hi8, h⟩ := h
  refine e_tI (.int (gX G ((l4 + (3 : Int32))).toNatClampNeg)) rfl (fun s hs => hs.scr) hi8 rfl ?_
  obtain ⟨ho9, h⟩ := h
  refine e_callV (As := [.long (((((gX G ((l4 + (1 : Int32))).toNatClampNeg)).toInt64) <<< (((32 : Int32)).toInt64 &&& 63)) ||| ((((gX G ((l4 + (2 : Int32))).toNatClampNeg)).toInt64) &&& (4294967295 : Int64))), .int (gX G ((l4 + (3 : Int32))).toNatClampNeg)]) (rest := []) (ci := 7) rfl (x_X7_feed h) ho9 rfl rfl rfl (aw (i := 1323) (by decide +kernel) rfl) wn_X7_feed wv_X7_feed wi_X7_feed wc_X7_feed (cokL (show cok mi_L_law mi_X7_feed 0 0 2 = true by decide +kernel) (show _ + 0 ≤ 601024 by omega) (show _ + 0 ≤ 7293034 by omega)) (Nat.le_of_ble_eq_true rfl) (fun v9 M10 hq => ?_) (fun X M9 hq => False.elim hq)
  refine e_wid (k' := kk + 2) (n' := nn + 12) (show _ + 0 ≤ _ by omega) (show _ + 0 ≤ _ by omega) ?_
  obtain ⟨r11, rfl, h⟩ := kI_l hq
  refine e_blk 2 537 _ _ (pc' := 540) (L' := [some (.ref (gS G 200)), some (.ref l1), some (.ref l2), some (.ref l3), some (.int l4), some (.int r5), some (.int r11), none]) (st' := [.ref l2]) rfl ?_
  obtain ⟨ho12, h⟩ := h
  refine e_callV (As := []) (rest := []) (ci := 7) rfl (x_X7_thrown h) ho12 rfl rfl rfl (aw (i := 1247) (by decide +kernel) rfl) wn_X7_thrown wv_X7_thrown wi_X7_thrown wc_X7_thrown (cokL (show cok mi_L_law mi_X7_thrown 0 0 0 = true by decide +kernel) (show _ + 0 ≤ 601024 by omega) (show _ + 0 ≤ 7293034 by omega)) (Nat.le_of_ble_eq_true rfl) (fun v9 M13 hq => ?_) (fun X M9 hq => False.elim hq)
  refine e_wid (k' := kk + 2) (n' := nn + 12) (show _ + 0 ≤ _ by omega) (show _ + 0 ≤ _ by omega) ?_
  obtain ⟨r14, rfl, h⟩ := kI_l hq
  refine e_blk 1 543 _ _ (pc' := 545) (L' := [some (.ref (gS G 200)), some (.ref l1), some (.ref l2), some (.ref l3), some (.int l4), some (.int r5), some (.int r11), none]) (st' := [.int r5, .int r14]) rfl ?_
  refine e_icmp_eq 550 rfl rfl (fun hc => ?_) (fun hc => ?_)
  · replace h := h.1 hc
    refine e_blk 1 550 _ _ (pc' := 552) (L' := [some (.ref (gS G 200)), some (.ref l1), some (.ref l2), some (.ref l3), some (.int l4), some (.int r5), some (.int r11), none]) (st' := [.int r5]) rfl ?_
    refine e_if_ne 567 rfl rfl (fun hc => ?_) (fun hc => ?_)
    · replace h := h.1 hc
      refine e_wid (k' := kk + 2) (n' := nn + 12) (show _ ≤ _ by omega) (show _ ≤ _ by omega) ?_
      refine e_drp [true, true, true, true, true, false, false, false] (L' := [some (.ref (gS G 200)), some (.ref l1), some (.ref l2), some (.ref l3), some (.int l4), none, none, none]) rfl ?_
      exact x_L_law_567 hkk hnn hB23 h
    · replace h := h.2 hc
      refine e_blk 2 555 _ _ (pc' := 557) (L' := [some (.ref (gS G 200)), some (.ref l1), some (.ref l2), some (.ref l3), some (.int l4), some (.int r5), some (.int r11), none]) (st' := [.int (0 : Int32), .ref l3]) rfl ?_
      obtain ⟨ho15, h⟩ := h
      obtain ⟨hi16, h⟩ := h
      refine e_lald rfl ho15 hi16 ?_
      refine e_blk 3 558 _ _ (pc' := 562) (L' := [some (.ref (gS G 200)), some (.ref l1), some (.ref l2), some (.ref l3), some (.int l4), some (.int r5), some (.int r11), none]) (st' := [.int (lg_cmp (mJ M13 l3 ((0 : Int32)).toNatClampNeg) ((r11).toInt64))]) rfl ?_
      refine e_if_eq 567 rfl rfl (fun hc => ?_) (fun hc => ?_)
      · replace h := h.1 hc
        refine e_wid (k' := kk + 2) (n' := nn + 12) (show _ ≤ _ by omega) (show _ ≤ _ by omega) ?_
        refine e_drp [true, true, true, true, true, false, false, false] (L' := [some (.ref (gS G 200)), some (.ref l1), some (.ref l2), some (.ref l3), some (.int l4), none, none, none]) rfl ?_
        exact x_L_law_567 hkk hnn hB23 h
      · replace h := h.2 hc
        refine e_blk 1 565 _ _ (pc' := 566) (L' := [some (.ref (gS G 200)), some (.ref l1), some (.ref l2), some (.ref l3), some (.int l4), some (.int r5), some (.int r11), none]) (st' := [.int (0 : Int32)]) rfl ?_
        exact e_retz rfl rfl (by decide) (show _ ≤ 601024 by omega) (show _ ≤ 7293034 by omega) h
  · replace h := h.2 hc
    refine e_blk 1 548 _ _ (pc' := 549) (L' := [some (.ref (gS G 200)), some (.ref l1), some (.ref l2), some (.ref l3), some (.int l4), some (.int r5), some (.int r11), none]) (st' := [.int (0 : Int32)]) rfl ?_
    exact e_retz rfl rfl (by decide) (show _ ≤ 601024 by omega) (show _ ≤ 7293034 by omega) h
def V_L_law_467 (G : Gx) (K : Rs → Mm → Prop) (B23 : Mm → Nat → Nat → Nat → Int32 → Prop) (M : Mm) (l1 : Nat) (l2 : Nat) (l3 : Nat) (l4 : Int32) : Prop := V_L_law_1601 G K B23 M l1 l2 l3 l4
set_option maxRecDepth 100000 in
set_option maxHeartbeats 4000000 in
theorem x_L_law_467 {G : Gx} {K : Rs → Mm → Prop} {kk nn : Nat} (hkk : kk + 5 ≤ 601024) (hnn : nn + 30 ≤ 7293034) {B23 : Mm → Nat → Nat → Nat → Int32 → Prop} (hB23 : ∀ M l1 l2 l3 l4, B23 M l1 l2 l3 l4 → E G mi_L_law K M (kk + 5) (nn + 30) 23 [some (.ref (gS G 200)), some (.ref l1), some (.ref l2), some (.ref l3), some (.int l4), none, none, none] []) {M : Mm} {l1 : Nat} {l2 : Nat} {l3 : Nat} {l4 : Int32} (h : V_L_law_467 G K B23 M l1 l2 l3 l4) : E G mi_L_law K M (kk + 3) (nn + 18) 467 [some (.ref (gS G 200)), some (.ref l1), some (.ref l2), some (.ref l3), some (.int l4), none, none, none] [] := by
  unfold V_L_law_467 at h
  refine e_blk 1 467 _ _ (pc' := 1601) (L' := [some (.ref (gS G 200)), some (.ref l1), some (.ref l2), some (.ref l3), some (.int l4), none, none, none]) (st' := []) rfl ?_
  refine e_wid (k' := kk + 5) (n' := nn + 30) (show _ ≤ _ by omega) (show _ ≤ _ by omega) ?_
  refine e_drp [true, true, true, true, true, false, false, false] (L' := [some (.ref (gS G 200)), some (.ref l1), some (.ref l2), some (.ref l3), some (.int l4), none, none, none]) rfl ?_
  exact x_L_law_1601 hkk hnn hB23 h
def V_L_law_352 (G : Gx) (K : Rs → Mm → Prop) (B23 : Mm → Nat → Nat → Nat → Int32 → Prop) (M : Mm) (l1 : Nat) (l2 : Nat) (l3 : Nat) (l4 : Int32) : Prop := (vp_in (l4 + (1 : Int32)) (gS G 201) ∧ (vp_in (l4 + (2 : Int32)) (gS G 201) ∧ (vp_in (l4 + (3 : Int32)) (gS G 201) ∧ (vp_in (l4 + (4 : Int32)) (gS G 201) ∧ (vp_in (l4 + (5 : Int32)) (gS G 201) ∧ (vp_in (l4 + (6 : Int32)) (gS G 201) ∧ V_L_minute (kI (fun r8 M7 => (vp_in (l4 + (1 : Int32)) (gS G 201) ∧ (vp_in (l4 + (2 : Int32)) (gS G 201) ∧ (vp_in (l4 + (3 : Int32)) (gS G 201) ∧ (vp_in (l4 + (4 : Int32)) (gS G 201) ∧ (vp_in (l4 + (5 : Int32)) (gS G 201) ∧ (vp_in (l4 + (6 : Int32)) (gS G 201) ∧ (ob M7 l2 7 ∧ V_X7_minute (kI (fun r17 M16 => (ob M16 l2 7 ∧ V_X7_thrown (kI (fun r20 M19 => ((r20 = r8 → ((¬ r8 = 0 → V_L_law_467 G K B23 M19 l1 l2 l3 l4) ∧ (r8 = 0 → (ob M19 l3 10 ∧ (vp_in (0 : Int32) (mN M19 l3) ∧ (((lg_cmp (mJ M19 l3 ((0 : Int32)).toNatClampNeg) ((r17).toInt64)) = 0 → V_L_law_467 G K B23 M19 l1 l2 l3 l4) ∧ (¬ (lg_cmp (mJ M19 l3 ((0 : Int32)).toNatClampNeg) ((r17).toInt64)) = 0 → K (.inl (some (.int (0 : Int32)))) M19))))))) ∧ (¬ r20 = r8 → K (.inl (some (.int (0 : Int32)))) M19))) (fun _ _ => False)) M16 l2)) (fun _ _ => False)) M7 l2 (gX G ((l4 + (1 : Int32))).toNatClampNeg) (gX G ((l4 + (2 : Int32))).toNatClampNeg) (gX G ((l4 + (3 : Int32))).toNatClampNeg) (gX G ((l4 + (4 : Int32))).toNatClampNeg) (gX G ((l4 + (5 : Int32))).toNatClampNeg) (gX G ((l4 + (6 : Int32))).toNatClampNeg))))))))) (fun _ _ => False)) M l1 (gX G ((l4 + (1 : Int32))).toNatClampNeg) (gX G ((l4 + (2 : Int32))).toNatClampNeg) (gX G ((l4 + (3 : Int32))).toNatClampNeg) (gX G ((l4 + (4 : Int32))).toNatClampNeg) (gX G ((l4 + (5 : Int32))).toNatClampNeg) (gX G ((l4 + (6 : Int32))).toNatClampNeg) l3))))))
set_option maxRecDepth 100000 in
set_option maxHeartbeats 4000000 in
theorem x_L_law_352 {G : Gx} {K : Rs → Mm → Prop} {kk nn : Nat} (hkk : kk + 5 ≤ 601024) (hnn : nn + 30 ≤ 7293034) {B23 : Mm → Nat → Nat → Nat → Int32 → Prop} (hB23 : ∀ M l1 l2 l3 l4, B23 M l1 l2 l3 l4 → E G mi_L_law K M (kk + 5) (nn + 30) 23 [some (.ref (gS G 200)), some (.ref l1), some (.ref l2), some (.ref l3), some (.int l4), none, none, none] []) {M : Mm} {l1 : Nat} {l2 : Nat} {l3 : Nat} {l4 : Int32} (h : V_L_law_352 G K B23 M l1 l2 l3 l4) : E G mi_L_law K M (kk + 0) (nn + 0) 352 [some (.ref (gS G 200)), some (.ref l1), some (.ref l2), some (.ref l3), some (.int l4), none, none, none] [] := by
  unfold V_L_law_352 at h
  refine e_blk 5 352 _ _ (pc' := 358) (L' := [some (.ref (gS G 200)), some (.ref l1), some (.ref l2), some (.ref l3), some (.int l4), none, none, none]) (st' := [.int (l4 + (1 : Int32)), .ref (gS G 200), .ref l1]) rfl ?_
  obtain ⟨hi1, h⟩ := h
  refine e_tI (.int (gX G ((l4 + (1 : Int32))).toNatClampNeg)) rfl (fun s hs => hs.scr) hi1 rfl ?_
  refine e_blk 4 359 _ _ (pc' := 364) (L' := [some (.ref (gS G 200)), some (.ref l1), some (.ref l2), some (.ref l3), some (.int l4), none, none, none]) (st' := [.int (l4 + (2 : Int32)), .ref (gS G 200), .int (gX G ((l4 + (1 : Int32))).toNatClampNeg), .ref l1]) rfl ?_
  obtain ⟨hi2, h⟩ := h
  refine e_tI (.int (gX G ((l4 + (2 : Int32))).toNatClampNeg)) rfl (fun s hs => hs.scr) hi2 rfl ?_
  refine e_blk 4 365 _ _ (pc' := 370) (L' := [some (.ref (gS G 200)), some (.ref l1), some (.ref l2), some (.ref l3), some (.int l4), none, none, none]) (st' := [.int (l4 + (3 : Int32)), .ref (gS G 200), .int (gX G ((l4 + (2 : Int32))).toNatClampNeg), .int (gX G ((l4 + (1 : Int32))).toNatClampNeg), .ref l1]) rfl ?_
  obtain ⟨hi3, h⟩ := h
  refine e_tI (.int (gX G ((l4 + (3 : Int32))).toNatClampNeg)) rfl (fun s hs => hs.scr) hi3 rfl ?_
  refine e_blk 4 371 _ _ (pc' := 376) (L' := [some (.ref (gS G 200)), some (.ref l1), some (.ref l2), some (.ref l3), some (.int l4), none, none, none]) (st' := [.int (l4 + (4 : Int32)), .ref (gS G 200), .int (gX G ((l4 + (3 : Int32))).toNatClampNeg), .int (gX G ((l4 + (2 : Int32))).toNatClampNeg), .int (gX G ((l4 + (1 : Int32))).toNatClampNeg), .ref l1]) rfl ?_
  obtain ⟨hi4, h⟩ := h
  refine e_tI (.int (gX G ((l4 + (4 : Int32))).toNatClampNeg)) rfl (fun s hs => hs.scr) hi4 rfl ?_
  refine e_blk 4 377 _ _ (pc' := 382) (L' := [some (.ref (gS G 200)), some (.ref l1), some (.ref l2), some (.ref l3), some (.int l4), none, none, none]) (st' := [.int (l4 + (5 : Int32)), .ref (gS G 200), .int (gX G ((l4 + (4 : Int32))).toNatClampNeg), .int (gX G ((l4 + (3 : Int32))).toNatClampNeg), .int (gX G ((l4 + (2 : Int32))).toNatClampNeg), .int (gX G ((l4 + (1 : Int32))).toNatClampNeg), .ref l1]) rfl ?_
  obtain ⟨hi5, h⟩ := h
  refine e_tI (.int (gX G ((l4 + (5 : Int32))).toNatClampNeg)) rfl (fun s hs => hs.scr) hi5 rfl ?_
  refine e_blk 4 383 _ _ (pc' := 389) (L' := [some (.ref (gS G 200)), some (.ref l1), some (.ref l2), some (.ref l3), some (.int l4), none, none, none]) (st' := [.int (l4 + (6 : Int32)), .ref (gS G 200), .int (gX G ((l4 + (5 : Int32))).toNatClampNeg), .int (gX G ((l4 + (4 : Int32))).toNatClampNeg), .int (gX G ((l4 + (3 : Int32))).toNatClampNeg), .int (gX G ((l4 + (2 : Int32))).toNatClampNeg), .int (gX G ((l4 + (1 : Int32))).toNatClampNeg), .ref l1]) rfl ?_
  obtain ⟨hi6, h⟩ := h
  refine e_tI (.int (gX G ((l4 + (6 : Int32))).toNatClampNeg)) rfl (fun s hs => hs.scr) hi6 rfl ?_
  refine e_blk 1 390 _ _ (pc' := 391) (L' := [some (.ref (gS G 200)), some (.ref l1), some (.ref l2), some (.ref l3), some (.int l4), none, none, none]) (st' := [.ref l3, .int (gX G ((l4 + (6 : Int32))).toNatClampNeg), .int (gX G ((l4 + (5 : Int32))).toNatClampNeg), .int (gX G ((l4 + (4 : Int32))).toNatClampNeg), .int (gX G ((l4 + (3 : Int32))).toNatClampNeg), .int (gX G ((l4 + (2 : Int32))).toNatClampNeg), .int (gX G ((l4 + (1 : Int32))).toNatClampNeg), .ref l1]) rfl ?_
  refine e_callSH (As := [.ref l1, .int (gX G ((l4 + (1 : Int32))).toNatClampNeg), .int (gX G ((l4 + (2 : Int32))).toNatClampNeg), .int (gX G ((l4 + (3 : Int32))).toNatClampNeg), .int (gX G ((l4 + (4 : Int32))).toNatClampNeg), .int (gX G ((l4 + (5 : Int32))).toNatClampNeg), .int (gX G ((l4 + (6 : Int32))).toNatClampNeg), .ref l3]) (rest := []) rfl (x_L_minute h) (by decide) (aw (i := 548) (by decide +kernel) rfl) ws_L_minute wi_L_minute wc_L_minute (cokL (show cok mi_L_law mi_L_minute 0 0 8 = true by decide +kernel) (show _ + 3 ≤ 601024 by omega) (show _ + 18 ≤ 7293034 by omega)) (Nat.le_of_ble_eq_true rfl) (fun v9 M7 hq => ?_) (fun X M9 hq => False.elim hq)
  refine e_wid (k' := kk + 3) (n' := nn + 18) (show _ + 3 ≤ _ by omega) (show _ + 18 ≤ _ by omega) ?_
  obtain ⟨r8, rfl, h⟩ := kI_l hq
  refine e_blk 6 394 _ _ (pc' := 402) (L' := [some (.ref (gS G 200)), some (.ref l1), some (.ref l2), some (.ref l3), some (.int l4), some (.int r8), none, none]) (st' := [.int (l4 + (1 : Int32)), .ref (gS G 200), .ref l2]) rfl ?_
  obtain ⟨hi9, h⟩ := h
  refine e_tI (.int (gX G ((l4 + (1 : Int32))).toNatClampNeg)) rfl (fun s hs => hs.scr) hi9 rfl ?_
  refine e_blk 4 403 _ _ (pc' := 408) (L' := [some (.ref (gS G 200)), some (.ref l1), some (.ref l2), some (.ref l3), some (.int l4), some (.int r8), none, none]) (st' := [.int (l4 + (2 : Int32)), .ref (gS G 200), .int (gX G ((l4 + (1 : Int32))).toNatClampNeg), .ref l2]) rfl ?_
  obtain ⟨hi10, h⟩ := h
  refine e_tI (.int (gX G ((l4 + (2 : Int32))).toNatClampNeg)) rfl (fun s hs => hs.scr) hi10 rfl ?_
  refine e_blk 4 409 _ _ (pc' := 414) (L' := [some (.ref (gS G 200)), some (.ref l1), some (.ref l2), some (.ref l3), some (.int l4), some (.int r8), none, none]) (st' := [.int (l4 + (3 : Int32)), .ref (gS G 200), .int (gX G ((l4 + (2 : Int32))).toNatClampNeg), .int (gX G ((l4 + (1 : Int32))).toNatClampNeg), .ref l2]) rfl ?_
  obtain ⟨hi11, h⟩ := h
  refine e_tI (.int (gX G ((l4 + (3 : Int32))).toNatClampNeg)) rfl (fun s hs => hs.scr) hi11 rfl ?_
  refine e_blk 4 415 _ _ (pc' := 420) (L' := [some (.ref (gS G 200)), some (.ref l1), some (.ref l2), some (.ref l3), some (.int l4), some (.int r8), none, none]) (st' := [.int (l4 + (4 : Int32)), .ref (gS G 200), .int (gX G ((l4 + (3 : Int32))).toNatClampNeg), .int (gX G ((l4 + (2 : Int32))).toNatClampNeg), .int (gX G ((l4 + (1 : Int32))).toNatClampNeg), .ref l2]) rfl ?_
  obtain ⟨hi12, h⟩ := h
  refine e_tI (.int (gX G ((l4 + (4 : Int32))).toNatClampNeg)) rfl (fun s hs => hs.scr) hi12 rfl ?_
  refine e_blk 4 421 _ _ (pc' := 426) (L' := [some (.ref (gS G 200)), some (.ref l1), some (.ref l2), some (.ref l3), some (.int l4), some (.int r8), none, none]) (st' := [.int (l4 + (5 : Int32)), .ref (gS G 200), .int (gX G ((l4 + (4 : Int32))).toNatClampNeg), .int (gX G ((l4 + (3 : Int32))).toNatClampNeg), .int (gX G ((l4 + (2 : Int32))).toNatClampNeg), .int (gX G ((l4 + (1 : Int32))).toNatClampNeg), .ref l2]) rfl ?_
  obtain ⟨hi13, h⟩ := h
  refine e_tI (.int (gX G ((l4 + (5 : Int32))).toNatClampNeg)) rfl (fun s hs => hs.scr) hi13 rfl ?_
  refine e_blk 4 427 _ _ (pc' := 433) (L' := [some (.ref (gS G 200)), some (.ref l1), some (.ref l2), some (.ref l3), some (.int l4), some (.int r8), none, none]) (st' := [.int (l4 + (6 : Int32)), .ref (gS G 200), .int (gX G ((l4 + (5 : Int32))).toNatClampNeg), .int (gX G ((l4 + (4 : Int32))).toNatClampNeg), .int (gX G ((l4 + (3 : Int32))).toNatClampNeg), .int (gX G ((l4 + (2 : Int32))).toNatClampNeg), .int (gX G ((l4 + (1 : Int32))).toNatClampNeg), .ref l2]) rfl ?_
  obtain ⟨hi14, h⟩ := h
  refine e_tI (.int (gX G ((l4 + (6 : Int32))).toNatClampNeg)) rfl (fun s hs => hs.scr) hi14 rfl ?_
  obtain ⟨ho15, h⟩ := h
  refine e_callV (As := [.int (gX G ((l4 + (1 : Int32))).toNatClampNeg), .int (gX G ((l4 + (2 : Int32))).toNatClampNeg), .int (gX G ((l4 + (3 : Int32))).toNatClampNeg), .int (gX G ((l4 + (4 : Int32))).toNatClampNeg), .int (gX G ((l4 + (5 : Int32))).toNatClampNeg), .int (gX G ((l4 + (6 : Int32))).toNatClampNeg)]) (rest := []) (ci := 7) rfl (x_X7_minute h) ho15 rfl rfl rfl (aw (i := 1299) (by decide +kernel) rfl) wn_X7_minute wv_X7_minute wi_X7_minute wc_X7_minute (cokL (show cok mi_L_law mi_X7_minute 0 0 6 = true by decide +kernel) (show _ + 0 ≤ 601024 by omega) (show _ + 0 ≤ 7293034 by omega)) (Nat.le_of_ble_eq_true rfl) (fun v9 M16 hq => ?_) (fun X M9 hq => False.elim hq)
  refine e_wid (k' := kk + 3) (n' := nn + 18) (show _ + 0 ≤ _ by omega) (show _ + 0 ≤ _ by omega) ?_
  obtain ⟨r17, rfl, h⟩ := kI_l hq
  refine e_blk 2 437 _ _ (pc' := 440) (L' := [some (.ref (gS G 200)), some (.ref l1), some (.ref l2), some (.ref l3), some (.int l4), some (.int r8), some (.int r17), none]) (st' := [.ref l2]) rfl ?_
  obtain ⟨ho18, h⟩ := h
  refine e_callV (As := []) (rest := []) (ci := 7) rfl (x_X7_thrown h) ho18 rfl rfl rfl (aw (i := 1247) (by decide +kernel) rfl) wn_X7_thrown wv_X7_thrown wi_X7_thrown wc_X7_thrown (cokL (show cok mi_L_law mi_X7_thrown 0 0 0 = true by decide +kernel) (show _ + 0 ≤ 601024 by omega) (show _ + 0 ≤ 7293034 by omega)) (Nat.le_of_ble_eq_true rfl) (fun v9 M19 hq => ?_) (fun X M9 hq => False.elim hq)
  refine e_wid (k' := kk + 3) (n' := nn + 18) (show _ + 0 ≤ _ by omega) (show _ + 0 ≤ _ by omega) ?_
  obtain ⟨r20, rfl, h⟩ := kI_l hq
  refine e_blk 1 443 _ _ (pc' := 445) (L' := [some (.ref (gS G 200)), some (.ref l1), some (.ref l2), some (.ref l3), some (.int l4), some (.int r8), some (.int r17), none]) (st' := [.int r8, .int r20]) rfl ?_
  refine e_icmp_eq 450 rfl rfl (fun hc => ?_) (fun hc => ?_)
  · replace h := h.1 hc
    refine e_blk 1 450 _ _ (pc' := 452) (L' := [some (.ref (gS G 200)), some (.ref l1), some (.ref l2), some (.ref l3), some (.int l4), some (.int r8), some (.int r17), none]) (st' := [.int r8]) rfl ?_
    refine e_if_ne 467 rfl rfl (fun hc => ?_) (fun hc => ?_)
    · replace h := h.1 hc
      refine e_wid (k' := kk + 3) (n' := nn + 18) (show _ ≤ _ by omega) (show _ ≤ _ by omega) ?_
      refine e_drp [true, true, true, true, true, false, false, false] (L' := [some (.ref (gS G 200)), some (.ref l1), some (.ref l2), some (.ref l3), some (.int l4), none, none, none]) rfl ?_
      exact x_L_law_467 hkk hnn hB23 h
    · replace h := h.2 hc
      refine e_blk 2 455 _ _ (pc' := 457) (L' := [some (.ref (gS G 200)), some (.ref l1), some (.ref l2), some (.ref l3), some (.int l4), some (.int r8), some (.int r17), none]) (st' := [.int (0 : Int32), .ref l3]) rfl ?_
      obtain ⟨ho21, h⟩ := h
      obtain ⟨hi22, h⟩ := h
      refine e_lald rfl ho21 hi22 ?_
      refine e_blk 3 458 _ _ (pc' := 462) (L' := [some (.ref (gS G 200)), some (.ref l1), some (.ref l2), some (.ref l3), some (.int l4), some (.int r8), some (.int r17), none]) (st' := [.int (lg_cmp (mJ M19 l3 ((0 : Int32)).toNatClampNeg) ((r17).toInt64))]) rfl ?_
      refine e_if_eq 467 rfl rfl (fun hc => ?_) (fun hc => ?_)
      · replace h := h.1 hc
        refine e_wid (k' := kk + 3) (n' := nn + 18) (show _ ≤ _ by omega) (show _ ≤ _ by omega) ?_
        refine e_drp [true, true, true, true, true, false, false, false] (L' := [some (.ref (gS G 200)), some (.ref l1), some (.ref l2), some (.ref l3), some (.int l4), none, none, none]) rfl ?_
        exact x_L_law_467 hkk hnn hB23 h
      · replace h := h.2 hc
        refine e_blk 1 465 _ _ (pc' := 466) (L' := [some (.ref (gS G 200)), some (.ref l1), some (.ref l2), some (.ref l3), some (.int l4), some (.int r8), some (.int r17), none]) (st' := [.int (0 : Int32)]) rfl ?_
        exact e_retz rfl rfl (by decide) (show _ ≤ 601024 by omega) (show _ ≤ 7293034 by omega) h
  · replace h := h.2 hc
    refine e_blk 1 448 _ _ (pc' := 449) (L' := [some (.ref (gS G 200)), some (.ref l1), some (.ref l2), some (.ref l3), some (.int l4), some (.int r8), some (.int r17), none]) (st' := [.int (0 : Int32)]) rfl ?_
    exact e_retz rfl rfl (by decide) (show _ ≤ 601024 by omega) (show _ ≤ 7293034 by omega) h
def V_L_law_349 (G : Gx) (K : Rs → Mm → Prop) (B23 : Mm → Nat → Nat → Nat → Int32 → Prop) (M : Mm) (l1 : Nat) (l2 : Nat) (l3 : Nat) (l4 : Int32) : Prop := V_L_law_1601 G K B23 M l1 l2 l3 l4
set_option maxRecDepth 100000 in
set_option maxHeartbeats 4000000 in
theorem x_L_law_349 {G : Gx} {K : Rs → Mm → Prop} {kk nn : Nat} (hkk : kk + 5 ≤ 601024) (hnn : nn + 30 ≤ 7293034) {B23 : Mm → Nat → Nat → Nat → Int32 → Prop} (hB23 : ∀ M l1 l2 l3 l4, B23 M l1 l2 l3 l4 → E G mi_L_law K M (kk + 5) (nn + 30) 23 [some (.ref (gS G 200)), some (.ref l1), some (.ref l2), some (.ref l3), some (.int l4), none, none, none] []) {M : Mm} {l1 : Nat} {l2 : Nat} {l3 : Nat} {l4 : Int32} (h : V_L_law_349 G K B23 M l1 l2 l3 l4) : E G mi_L_law K M (kk + 3) (nn + 18) 349 [some (.ref (gS G 200)), some (.ref l1), some (.ref l2), some (.ref l3), some (.int l4), none, none, none] [] := by
  unfold V_L_law_349 at h
  refine e_blk 1 349 _ _ (pc' := 1601) (L' := [some (.ref (gS G 200)), some (.ref l1), some (.ref l2), some (.ref l3), some (.int l4), none, none, none]) (st' := []) rfl ?_
  refine e_wid (k' := kk + 5) (n' := nn + 30) (show _ ≤ _ by omega) (show _ ≤ _ by omega) ?_
  refine e_drp [true, true, true, true, true, false, false, false] (L' := [some (.ref (gS G 200)), some (.ref l1), some (.ref l2), some (.ref l3), some (.int l4), none, none, none]) rfl ?_
  exact x_L_law_1601 hkk hnn hB23 h
def V_L_law_272 (G : Gx) (K : Rs → Mm → Prop) (B23 : Mm → Nat → Nat → Nat → Int32 → Prop) (M : Mm) (l1 : Nat) (l2 : Nat) (l3 : Nat) (l4 : Int32) : Prop := (vp_in (l4 + (1 : Int32)) (gS G 201) ∧ (vp_in (l4 + (2 : Int32)) (gS G 201) ∧ (vp_in (l4 + (3 : Int32)) (gS G 201) ∧ V_L_civil (kI (fun r5 M4 => (vp_in (l4 + (1 : Int32)) (gS G 201) ∧ (vp_in (l4 + (2 : Int32)) (gS G 201) ∧ (vp_in (l4 + (3 : Int32)) (gS G 201) ∧ (ob M4 l2 7 ∧ V_X7_civil (kI (fun r11 M10 => (ob M10 l2 7 ∧ V_X7_thrown (kI (fun r14 M13 => ((r14 = r5 → ((¬ r5 = 0 → V_L_law_349 G K B23 M13 l1 l2 l3 l4) ∧ (r5 = 0 → (ob M13 l3 10 ∧ (vp_in (0 : Int32) (mN M13 l3) ∧ (((lg_cmp (mJ M13 l3 ((0 : Int32)).toNatClampNeg) ((r11).toInt64)) = 0 → V_L_law_349 G K B23 M13 l1 l2 l3 l4) ∧ (¬ (lg_cmp (mJ M13 l3 ((0 : Int32)).toNatClampNeg) ((r11).toInt64)) = 0 → K (.inl (some (.int (0 : Int32)))) M13))))))) ∧ (¬ r14 = r5 → K (.inl (some (.int (0 : Int32)))) M13))) (fun _ _ => False)) M10 l2)) (fun _ _ => False)) M4 l2 (gX G ((l4 + (1 : Int32))).toNatClampNeg) (gX G ((l4 + (2 : Int32))).toNatClampNeg) (gX G ((l4 + (3 : Int32))).toNatClampNeg)))))) (fun _ _ => False)) M l1 (gX G ((l4 + (1 : Int32))).toNatClampNeg) (gX G ((l4 + (2 : Int32))).toNatClampNeg) (gX G ((l4 + (3 : Int32))).toNatClampNeg) l3)))
set_option maxRecDepth 100000 in
set_option maxHeartbeats 4000000 in
theorem x_L_law_272 {G : Gx} {K : Rs → Mm → Prop} {kk nn : Nat} (hkk : kk + 5 ≤ 601024) (hnn : nn + 30 ≤ 7293034) {B23 : Mm → Nat → Nat → Nat → Int32 → Prop} (hB23 : ∀ M l1 l2 l3 l4, B23 M l1 l2 l3 l4 → E G mi_L_law K M (kk + 5) (nn + 30) 23 [some (.ref (gS G 200)), some (.ref l1), some (.ref l2), some (.ref l3), some (.int l4), none, none, none] []) {M : Mm} {l1 : Nat} {l2 : Nat} {l3 : Nat} {l4 : Int32} (h : V_L_law_272 G K B23 M l1 l2 l3 l4) : E G mi_L_law K M (kk + 0) (nn + 0) 272 [some (.ref (gS G 200)), some (.ref l1), some (.ref l2), some (.ref l3), some (.int l4), none, none, none] [] := by
  unfold V_L_law_272 at h
  refine e_blk 5 272 _ _ (pc' := 278) (L' := [some (.ref (gS G 200)), some (.ref l1), some (.ref l2), some (.ref l3), some (.int l4), none, none, none]) (st' := [.int (l4 + (1 : Int32)), .ref (gS G 200), .ref l1]) rfl ?_
  obtain ⟨hi1, h⟩ := h
  refine e_tI (.int (gX G ((l4 + (1 : Int32))).toNatClampNeg)) rfl (fun s hs => hs.scr) hi1 rfl ?_
  refine e_blk 4 279 _ _ (pc' := 284) (L' := [some (.ref (gS G 200)), some (.ref l1), some (.ref l2), some (.ref l3), some (.int l4), none, none, none]) (st' := [.int (l4 + (2 : Int32)), .ref (gS G 200), .int (gX G ((l4 + (1 : Int32))).toNatClampNeg), .ref l1]) rfl ?_
  obtain ⟨hi2, h⟩ := h
  refine e_tI (.int (gX G ((l4 + (2 : Int32))).toNatClampNeg)) rfl (fun s hs => hs.scr) hi2 rfl ?_
  refine e_blk 4 285 _ _ (pc' := 290) (L' := [some (.ref (gS G 200)), some (.ref l1), some (.ref l2), some (.ref l3), some (.int l4), none, none, none]) (st' := [.int (l4 + (3 : Int32)), .ref (gS G 200), .int (gX G ((l4 + (2 : Int32))).toNatClampNeg), .int (gX G ((l4 + (1 : Int32))).toNatClampNeg), .ref l1]) rfl ?_
  obtain ⟨hi3, h⟩ := h
  refine e_tI (.int (gX G ((l4 + (3 : Int32))).toNatClampNeg)) rfl (fun s hs => hs.scr) hi3 rfl ?_
  refine e_blk 1 291 _ _ (pc' := 292) (L' := [some (.ref (gS G 200)), some (.ref l1), some (.ref l2), some (.ref l3), some (.int l4), none, none, none]) (st' := [.ref l3, .int (gX G ((l4 + (3 : Int32))).toNatClampNeg), .int (gX G ((l4 + (2 : Int32))).toNatClampNeg), .int (gX G ((l4 + (1 : Int32))).toNatClampNeg), .ref l1]) rfl ?_
  refine e_callSH (As := [.ref l1, .int (gX G ((l4 + (1 : Int32))).toNatClampNeg), .int (gX G ((l4 + (2 : Int32))).toNatClampNeg), .int (gX G ((l4 + (3 : Int32))).toNatClampNeg), .ref l3]) (rest := []) rfl (x_L_civil h) (by decide) (aw (i := 511) (by decide +kernel) rfl) ws_L_civil wi_L_civil wc_L_civil (cokL (show cok mi_L_law mi_L_civil 0 0 5 = true by decide +kernel) (show _ + 3 ≤ 601024 by omega) (show _ + 18 ≤ 7293034 by omega)) (Nat.le_of_ble_eq_true rfl) (fun v9 M4 hq => ?_) (fun X M9 hq => False.elim hq)
  refine e_wid (k' := kk + 3) (n' := nn + 18) (show _ + 3 ≤ _ by omega) (show _ + 18 ≤ _ by omega) ?_
  obtain ⟨r5, rfl, h⟩ := kI_l hq
  refine e_blk 6 295 _ _ (pc' := 303) (L' := [some (.ref (gS G 200)), some (.ref l1), some (.ref l2), some (.ref l3), some (.int l4), some (.int r5), none, none]) (st' := [.int (l4 + (1 : Int32)), .ref (gS G 200), .ref l2]) rfl ?_
  obtain ⟨hi6, h⟩ := h
  refine e_tI (.int (gX G ((l4 + (1 : Int32))).toNatClampNeg)) rfl (fun s hs => hs.scr) hi6 rfl ?_
  refine e_blk 4 304 _ _ (pc' := 309) (L' := [some (.ref (gS G 200)), some (.ref l1), some (.ref l2), some (.ref l3), some (.int l4), some (.int r5), none, none]) (st' := [.int (l4 + (2 : Int32)), .ref (gS G 200), .int (gX G ((l4 + (1 : Int32))).toNatClampNeg), .ref l2]) rfl ?_
  obtain ⟨hi7, h⟩ := h
  refine e_tI (.int (gX G ((l4 + (2 : Int32))).toNatClampNeg)) rfl (fun s hs => hs.scr) hi7 rfl ?_
  refine e_blk 4 310 _ _ (pc' := 315) (L' := [some (.ref (gS G 200)), some (.ref l1), some (.ref l2), some (.ref l3), some (.int l4), some (.int r5), none, none]) (st' := [.int (l4 + (3 : Int32)), .ref (gS G 200), .int (gX G ((l4 + (2 : Int32))).toNatClampNeg), .int (gX G ((l4 + (1 : Int32))).toNatClampNeg), .ref l2]) rfl ?_
  obtain ⟨hi8, h⟩ := h
  refine e_tI (.int (gX G ((l4 + (3 : Int32))).toNatClampNeg)) rfl (fun s hs => hs.scr) hi8 rfl ?_
  obtain ⟨ho9, h⟩ := h
  refine e_callV (As := [.int (gX G ((l4 + (1 : Int32))).toNatClampNeg), .int (gX G ((l4 + (2 : Int32))).toNatClampNeg), .int (gX G ((l4 + (3 : Int32))).toNatClampNeg)]) (rest := []) (ci := 7) rfl (x_X7_civil h) ho9 rfl rfl rfl (aw (i := 1270) (by decide +kernel) rfl) wn_X7_civil wv_X7_civil wi_X7_civil wc_X7_civil (cokL (show cok mi_L_law mi_X7_civil 0 0 3 = true by decide +kernel) (show _ + 0 ≤ 601024 by omega) (show _ + 0 ≤ 7293034 by omega)) (Nat.le_of_ble_eq_true rfl) (fun v9 M10 hq => ?_) (fun X M9 hq => False.elim hq)
  refine e_wid (k' := kk + 3) (n' := nn + 18) (show _ + 0 ≤ _ by omega) (show _ + 0 ≤ _ by omega) ?_
  obtain ⟨r11, rfl, h⟩ := kI_l hq
  refine e_blk 2 319 _ _ (pc' := 322) (L' := [some (.ref (gS G 200)), some (.ref l1), some (.ref l2), some (.ref l3), some (.int l4), some (.int r5), some (.int r11), none]) (st' := [.ref l2]) rfl ?_
  obtain ⟨ho12, h⟩ := h
  refine e_callV (As := []) (rest := []) (ci := 7) rfl (x_X7_thrown h) ho12 rfl rfl rfl (aw (i := 1247) (by decide +kernel) rfl) wn_X7_thrown wv_X7_thrown wi_X7_thrown wc_X7_thrown (cokL (show cok mi_L_law mi_X7_thrown 0 0 0 = true by decide +kernel) (show _ + 0 ≤ 601024 by omega) (show _ + 0 ≤ 7293034 by omega)) (Nat.le_of_ble_eq_true rfl) (fun v9 M13 hq => ?_) (fun X M9 hq => False.elim hq)
  refine e_wid (k' := kk + 3) (n' := nn + 18) (show _ + 0 ≤ _ by omega) (show _ + 0 ≤ _ by omega) ?_
  obtain ⟨r14, rfl, h⟩ := kI_l hq
  refine e_blk 1 325 _ _ (pc' := 327) (L' := [some (.ref (gS G 200)), some (.ref l1), some (.ref l2), some (.ref l3), some (.int l4), some (.int r5), some (.int r11), none]) (st' := [.int r5, .int r14]) rfl ?_
  refine e_icmp_eq 332 rfl rfl (fun hc => ?_) (fun hc => ?_)
  · replace h := h.1 hc
    refine e_blk 1 332 _ _ (pc' := 334) (L' := [some (.ref (gS G 200)), some (.ref l1), some (.ref l2), some (.ref l3), some (.int l4), some (.int r5), some (.int r11), none]) (st' := [.int r5]) rfl ?_
    refine e_if_ne 349 rfl rfl (fun hc => ?_) (fun hc => ?_)
    · replace h := h.1 hc
      refine e_wid (k' := kk + 3) (n' := nn + 18) (show _ ≤ _ by omega) (show _ ≤ _ by omega) ?_
      refine e_drp [true, true, true, true, true, false, false, false] (L' := [some (.ref (gS G 200)), some (.ref l1), some (.ref l2), some (.ref l3), some (.int l4), none, none, none]) rfl ?_
      exact x_L_law_349 hkk hnn hB23 h
    · replace h := h.2 hc
      refine e_blk 2 337 _ _ (pc' := 339) (L' := [some (.ref (gS G 200)), some (.ref l1), some (.ref l2), some (.ref l3), some (.int l4), some (.int r5), some (.int r11), none]) (st' := [.int (0 : Int32), .ref l3]) rfl ?_
      obtain ⟨ho15, h⟩ := h
      obtain ⟨hi16, h⟩ := h
      refine e_lald rfl ho15 hi16 ?_
      refine e_blk 3 340 _ _ (pc' := 344) (L' := [some (.ref (gS G 200)), some (.ref l1), some (.ref l2), some (.ref l3), some (.int l4), some (.int r5), some (.int r11), none]) (st' := [.int (lg_cmp (mJ M13 l3 ((0 : Int32)).toNatClampNeg) ((r11).toInt64))]) rfl ?_
      refine e_if_eq 349 rfl rfl (fun hc => ?_) (fun hc => ?_)
      · replace h := h.1 hc
        refine e_wid (k' := kk + 3) (n' := nn + 18) (show _ ≤ _ by omega) (show _ ≤ _ by omega) ?_
        refine e_drp [true, true, true, true, true, false, false, false] (L' := [some (.ref (gS G 200)), some (.ref l1), some (.ref l2), some (.ref l3), some (.int l4), none, none, none]) rfl ?_
        exact x_L_law_349 hkk hnn hB23 h
      · replace h := h.2 hc
        refine e_blk 1 347 _ _ (pc' := 348) (L' := [some (.ref (gS G 200)), some (.ref l1), some (.ref l2), some (.ref l3), some (.int l4), some (.int r5), some (.int r11), none]) (st' := [.int (0 : Int32)]) rfl ?_
        exact e_retz rfl rfl (by decide) (show _ ≤ 601024 by omega) (show _ ≤ 7293034 by omega) h
  · replace h := h.2 hc
    refine e_blk 1 330 _ _ (pc' := 331) (L' := [some (.ref (gS G 200)), some (.ref l1), some (.ref l2), some (.ref l3), some (.int l4), some (.int r5), some (.int r11), none]) (st' := [.int (0 : Int32)]) rfl ?_
    exact e_retz rfl rfl (by decide) (show _ ≤ 601024 by omega) (show _ ≤ 7293034 by omega) h
def V_L_law_269 (G : Gx) (K : Rs → Mm → Prop) (B23 : Mm → Nat → Nat → Nat → Int32 → Prop) (M : Mm) (l1 : Nat) (l2 : Nat) (l3 : Nat) (l4 : Int32) : Prop := V_L_law_1601 G K B23 M l1 l2 l3 l4
set_option maxRecDepth 100000 in
set_option maxHeartbeats 4000000 in
theorem x_L_law_269 {G : Gx} {K : Rs → Mm → Prop} {kk nn : Nat} (hkk : kk + 5 ≤ 601024) (hnn : nn + 30 ≤ 7293034) {B23 : Mm → Nat → Nat → Nat → Int32 → Prop} (hB23 : ∀ M l1 l2 l3 l4, B23 M l1 l2 l3 l4 → E G mi_L_law K M (kk + 5) (nn + 30) 23 [some (.ref (gS G 200)), some (.ref l1), some (.ref l2), some (.ref l3), some (.int l4), none, none, none] []) {M : Mm} {l1 : Nat} {l2 : Nat} {l3 : Nat} {l4 : Int32} (h : V_L_law_269 G K B23 M l1 l2 l3 l4) : E G mi_L_law K M (kk + 5) (nn + 30) 269 [some (.ref (gS G 200)), some (.ref l1), some (.ref l2), some (.ref l3), some (.int l4), none, none, none] [] := by
  unfold V_L_law_269 at h
  refine e_blk 1 269 _ _ (pc' := 1601) (L' := [some (.ref (gS G 200)), some (.ref l1), some (.ref l2), some (.ref l3), some (.int l4), none, none, none]) (st' := []) rfl ?_
  refine e_wid (k' := kk + 5) (n' := nn + 30) (show _ ≤ _ by omega) (show _ ≤ _ by omega) ?_
  refine e_drp [true, true, true, true, true, false, false, false] (L' := [some (.ref (gS G 200)), some (.ref l1), some (.ref l2), some (.ref l3), some (.int l4), none, none, none]) rfl ?_
  exact x_L_law_1601 hkk hnn hB23 h
def V_L_law_192 (G : Gx) (K : Rs → Mm → Prop) (B23 : Mm → Nat → Nat → Nat → Int32 → Prop) (M : Mm) (l1 : Nat) (l2 : Nat) (l3 : Nat) (l4 : Int32) : Prop := (vp_in (l4 + (1 : Int32)) (gS G 201) ∧ (vp_in (l4 + (2 : Int32)) (gS G 201) ∧ (vp_in (l4 + (3 : Int32)) (gS G 201) ∧ V_L_change (kI (fun r5 M4 => (vp_in (l4 + (1 : Int32)) (gS G 201) ∧ (vp_in (l4 + (2 : Int32)) (gS G 201) ∧ (vp_in (l4 + (3 : Int32)) (gS G 201) ∧ (ob M4 l2 7 ∧ V_X7_change (kI (fun r11 M10 => (ob M10 l2 7 ∧ V_X7_thrown (kI (fun r14 M13 => ((r14 = r5 → ((¬ r5 = 0 → V_L_law_269 G K B23 M13 l1 l2 l3 l4) ∧ (r5 = 0 → (ob M13 l3 10 ∧ (vp_in (0 : Int32) (mN M13 l3) ∧ (((lg_cmp (mJ M13 l3 ((0 : Int32)).toNatClampNeg) ((r11).toInt64)) = 0 → V_L_law_269 G K B23 M13 l1 l2 l3 l4) ∧ (¬ (lg_cmp (mJ M13 l3 ((0 : Int32)).toNatClampNeg) ((r11).toInt64)) = 0 → K (.inl (some (.int (0 : Int32)))) M13))))))) ∧ (¬ r14 = r5 → K (.inl (some (.int (0 : Int32)))) M13))) (fun _ _ => False)) M10 l2)) (fun _ _ => False)) M4 l2 (gX G ((l4 + (1 : Int32))).toNatClampNeg) (gX G ((l4 + (2 : Int32))).toNatClampNeg) (gX G ((l4 + (3 : Int32))).toNatClampNeg)))))) (fun _ _ => False)) M l1 (gX G ((l4 + (1 : Int32))).toNatClampNeg) (gX G ((l4 + (2 : Int32))).toNatClampNeg) (gX G ((l4 + (3 : Int32))).toNatClampNeg) l3)))
set_option maxRecDepth 100000 in
set_option maxHeartbeats 4000000 in
theorem x_L_law_192 {G : Gx} {K : Rs → Mm → Prop} {kk nn : Nat} (hkk : kk + 5 ≤ 601024) (hnn : nn + 30 ≤ 7293034) {B23 : Mm → Nat → Nat → Nat → Int32 → Prop} (hB23 : ∀ M l1 l2 l3 l4, B23 M l1 l2 l3 l4 → E G mi_L_law K M (kk + 5) (nn + 30) 23 [some (.ref (gS G 200)), some (.ref l1), some (.ref l2), some (.ref l3), some (.int l4), none, none, none] []) {M : Mm} {l1 : Nat} {l2 : Nat} {l3 : Nat} {l4 : Int32} (h : V_L_law_192 G K B23 M l1 l2 l3 l4) : E G mi_L_law K M (kk + 0) (nn + 0) 192 [some (.ref (gS G 200)), some (.ref l1), some (.ref l2), some (.ref l3), some (.int l4), none, none, none] [] := by
  unfold V_L_law_192 at h
  refine e_blk 5 192 _ _ (pc' := 198) (L' := [some (.ref (gS G 200)), some (.ref l1), some (.ref l2), some (.ref l3), some (.int l4), none, none, none]) (st' := [.int (l4 + (1 : Int32)), .ref (gS G 200), .ref l1]) rfl ?_
  obtain ⟨hi1, h⟩ := h
  refine e_tI (.int (gX G ((l4 + (1 : Int32))).toNatClampNeg)) rfl (fun s hs => hs.scr) hi1 rfl ?_
  refine e_blk 4 199 _ _ (pc' := 204) (L' := [some (.ref (gS G 200)), some (.ref l1), some (.ref l2), some (.ref l3), some (.int l4), none, none, none]) (st' := [.int (l4 + (2 : Int32)), .ref (gS G 200), .int (gX G ((l4 + (1 : Int32))).toNatClampNeg), .ref l1]) rfl ?_
  obtain ⟨hi2, h⟩ := h
  refine e_tI (.int (gX G ((l4 + (2 : Int32))).toNatClampNeg)) rfl (fun s hs => hs.scr) hi2 rfl ?_
  refine e_blk 4 205 _ _ (pc' := 210) (L' := [some (.ref (gS G 200)), some (.ref l1), some (.ref l2), some (.ref l3), some (.int l4), none, none, none]) (st' := [.int (l4 + (3 : Int32)), .ref (gS G 200), .int (gX G ((l4 + (2 : Int32))).toNatClampNeg), .int (gX G ((l4 + (1 : Int32))).toNatClampNeg), .ref l1]) rfl ?_
  obtain ⟨hi3, h⟩ := h
  refine e_tI (.int (gX G ((l4 + (3 : Int32))).toNatClampNeg)) rfl (fun s hs => hs.scr) hi3 rfl ?_
  refine e_blk 1 211 _ _ (pc' := 212) (L' := [some (.ref (gS G 200)), some (.ref l1), some (.ref l2), some (.ref l3), some (.int l4), none, none, none]) (st' := [.ref l3, .int (gX G ((l4 + (3 : Int32))).toNatClampNeg), .int (gX G ((l4 + (2 : Int32))).toNatClampNeg), .int (gX G ((l4 + (1 : Int32))).toNatClampNeg), .ref l1]) rfl ?_
  refine e_callSH (As := [.ref l1, .int (gX G ((l4 + (1 : Int32))).toNatClampNeg), .int (gX G ((l4 + (2 : Int32))).toNatClampNeg), .int (gX G ((l4 + (3 : Int32))).toNatClampNeg), .ref l3]) (rest := []) rfl (x_L_change h) (by decide) (aw (i := 473) (by decide +kernel) rfl) ws_L_change wi_L_change wc_L_change (cokL (show cok mi_L_law mi_L_change 0 0 5 = true by decide +kernel) (show _ + 5 ≤ 601024 by omega) (show _ + 30 ≤ 7293034 by omega)) (Nat.le_of_ble_eq_true rfl) (fun v9 M4 hq => ?_) (fun X M9 hq => False.elim hq)
  refine e_wid (k' := kk + 5) (n' := nn + 30) (show _ + 5 ≤ _ by omega) (show _ + 30 ≤ _ by omega) ?_
  obtain ⟨r5, rfl, h⟩ := kI_l hq
  refine e_blk 6 215 _ _ (pc' := 223) (L' := [some (.ref (gS G 200)), some (.ref l1), some (.ref l2), some (.ref l3), some (.int l4), some (.int r5), none, none]) (st' := [.int (l4 + (1 : Int32)), .ref (gS G 200), .ref l2]) rfl ?_
  obtain ⟨hi6, h⟩ := h
  refine e_tI (.int (gX G ((l4 + (1 : Int32))).toNatClampNeg)) rfl (fun s hs => hs.scr) hi6 rfl ?_
  refine e_blk 4 224 _ _ (pc' := 229) (L' := [some (.ref (gS G 200)), some (.ref l1), some (.ref l2), some (.ref l3), some (.int l4), some (.int r5), none, none]) (st' := [.int (l4 + (2 : Int32)), .ref (gS G 200), .int (gX G ((l4 + (1 : Int32))).toNatClampNeg), .ref l2]) rfl ?_
  obtain ⟨hi7, h⟩ := h
  refine e_tI (.int (gX G ((l4 + (2 : Int32))).toNatClampNeg)) rfl (fun s hs => hs.scr) hi7 rfl ?_
  refine e_blk 4 230 _ _ (pc' := 235) (L' := [some (.ref (gS G 200)), some (.ref l1), some (.ref l2), some (.ref l3), some (.int l4), some (.int r5), none, none]) (st' := [.int (l4 + (3 : Int32)), .ref (gS G 200), .int (gX G ((l4 + (2 : Int32))).toNatClampNeg), .int (gX G ((l4 + (1 : Int32))).toNatClampNeg), .ref l2]) rfl ?_
  obtain ⟨hi8, h⟩ := h
  refine e_tI (.int (gX G ((l4 + (3 : Int32))).toNatClampNeg)) rfl (fun s hs => hs.scr) hi8 rfl ?_
  obtain ⟨ho9, h⟩ := h
  refine e_callV (As := [.int (gX G ((l4 + (1 : Int32))).toNatClampNeg), .int (gX G ((l4 + (2 : Int32))).toNatClampNeg), .int (gX G ((l4 + (3 : Int32))).toNatClampNeg)]) (rest := []) (ci := 7) rfl (x_X7_change h) ho9 rfl rfl rfl (aw (i := 1261) (by decide +kernel) rfl) wn_X7_change wv_X7_change wi_X7_change wc_X7_change (cokL (show cok mi_L_law mi_X7_change 0 0 3 = true by decide +kernel) (show _ + 0 ≤ 601024 by omega) (show _ + 0 ≤ 7293034 by omega)) (Nat.le_of_ble_eq_true rfl) (fun v9 M10 hq => ?_) (fun X M9 hq => False.elim hq)
  refine e_wid (k' := kk + 5) (n' := nn + 30) (show _ + 0 ≤ _ by omega) (show _ + 0 ≤ _ by omega) ?_
  obtain ⟨r11, rfl, h⟩ := kI_l hq
  refine e_blk 2 239 _ _ (pc' := 242) (L' := [some (.ref (gS G 200)), some (.ref l1), some (.ref l2), some (.ref l3), some (.int l4), some (.int r5), some (.int r11), none]) (st' := [.ref l2]) rfl ?_
  obtain ⟨ho12, h⟩ := h
  refine e_callV (As := []) (rest := []) (ci := 7) rfl (x_X7_thrown h) ho12 rfl rfl rfl (aw (i := 1247) (by decide +kernel) rfl) wn_X7_thrown wv_X7_thrown wi_X7_thrown wc_X7_thrown (cokL (show cok mi_L_law mi_X7_thrown 0 0 0 = true by decide +kernel) (show _ + 0 ≤ 601024 by omega) (show _ + 0 ≤ 7293034 by omega)) (Nat.le_of_ble_eq_true rfl) (fun v9 M13 hq => ?_) (fun X M9 hq => False.elim hq)
  refine e_wid (k' := kk + 5) (n' := nn + 30) (show _ + 0 ≤ _ by omega) (show _ + 0 ≤ _ by omega) ?_
  obtain ⟨r14, rfl, h⟩ := kI_l hq
  refine e_blk 1 245 _ _ (pc' := 247) (L' := [some (.ref (gS G 200)), some (.ref l1), some (.ref l2), some (.ref l3), some (.int l4), some (.int r5), some (.int r11), none]) (st' := [.int r5, .int r14]) rfl ?_
  refine e_icmp_eq 252 rfl rfl (fun hc => ?_) (fun hc => ?_)
  · replace h := h.1 hc
    refine e_blk 1 252 _ _ (pc' := 254) (L' := [some (.ref (gS G 200)), some (.ref l1), some (.ref l2), some (.ref l3), some (.int l4), some (.int r5), some (.int r11), none]) (st' := [.int r5]) rfl ?_
    refine e_if_ne 269 rfl rfl (fun hc => ?_) (fun hc => ?_)
    · replace h := h.1 hc
      refine e_wid (k' := kk + 5) (n' := nn + 30) (show _ ≤ _ by omega) (show _ ≤ _ by omega) ?_
      refine e_drp [true, true, true, true, true, false, false, false] (L' := [some (.ref (gS G 200)), some (.ref l1), some (.ref l2), some (.ref l3), some (.int l4), none, none, none]) rfl ?_
      exact x_L_law_269 hkk hnn hB23 h
    · replace h := h.2 hc
      refine e_blk 2 257 _ _ (pc' := 259) (L' := [some (.ref (gS G 200)), some (.ref l1), some (.ref l2), some (.ref l3), some (.int l4), some (.int r5), some (.int r11), none]) (st' := [.int (0 : Int32), .ref l3]) rfl ?_
      obtain ⟨ho15, h⟩ := h
      obtain ⟨hi16, h⟩ := h
      refine e_lald rfl ho15 hi16 ?_
      refine e_blk 3 260 _ _ (pc' := 264) (L' := [some (.ref (gS G 200)), some (.ref l1), some (.ref l2), some (.ref l3), some (.int l4), some (.int r5), some (.int r11), none]) (st' := [.int (lg_cmp (mJ M13 l3 ((0 : Int32)).toNatClampNeg) ((r11).toInt64))]) rfl ?_
      refine e_if_eq 269 rfl rfl (fun hc => ?_) (fun hc => ?_)
      · replace h := h.1 hc
        refine e_wid (k' := kk + 5) (n' := nn + 30) (show _ ≤ _ by omega) (show _ ≤ _ by omega) ?_
        refine e_drp [true, true, true, true, true, false, false, false] (L' := [some (.ref (gS G 200)), some (.ref l1), some (.ref l2), some (.ref l3), some (.int l4), none, none, none]) rfl ?_
        exact x_L_law_269 hkk hnn hB23 h
      · replace h := h.2 hc
        refine e_blk 1 267 _ _ (pc' := 268) (L' := [some (.ref (gS G 200)), some (.ref l1), some (.ref l2), some (.ref l3), some (.int l4), some (.int r5), some (.int r11), none]) (st' := [.int (0 : Int32)]) rfl ?_
        exact e_retz rfl rfl (by decide) (show _ ≤ 601024 by omega) (show _ ≤ 7293034 by omega) h
  · replace h := h.2 hc
    refine e_blk 1 250 _ _ (pc' := 251) (L' := [some (.ref (gS G 200)), some (.ref l1), some (.ref l2), some (.ref l3), some (.int l4), some (.int r5), some (.int r11), none]) (st' := [.int (0 : Int32)]) rfl ?_
    exact e_retz rfl rfl (by decide) (show _ ≤ 601024 by omega) (show _ ≤ 7293034 by omega) h
def V_L_law_144 (G : Gx) (K : Rs → Mm → Prop) (B23 : Mm → Nat → Nat → Nat → Int32 → Prop) (M : Mm) (l1 : Nat) (l2 : Nat) (l3 : Nat) (l4 : Int32) : Prop := (vp_in (l4 + (1 : Int32)) (gS G 201) ∧ (vp_in (l4 + (2 : Int32)) (gS G 201) ∧ V_L_zone (kI (fun r4 M3 => (vp_in (l4 + (1 : Int32)) (gS G 201) ∧ (vp_in (l4 + (2 : Int32)) (gS G 201) ∧ (ob M3 l2 7 ∧ V_X7_zone (kV (fun M8 => (ob M8 l2 7 ∧ V_X7_thrown (kI (fun r11 M10 => ((r11 = r4 → V_L_law_1601 G K B23 M10 l1 l2 l3 l4) ∧ (¬ r11 = r4 → K (.inl (some (.int (0 : Int32)))) M10))) (fun _ _ => False)) M8 l2)) (fun _ _ => False)) M3 l2 (gX G ((l4 + (1 : Int32))).toNatClampNeg) (gX G ((l4 + (2 : Int32))).toNatClampNeg))))) (fun _ _ => False)) M l1 (gX G ((l4 + (1 : Int32))).toNatClampNeg) (gX G ((l4 + (2 : Int32))).toNatClampNeg)))
set_option maxRecDepth 100000 in
set_option maxHeartbeats 4000000 in
theorem x_L_law_144 {G : Gx} {K : Rs → Mm → Prop} {kk nn : Nat} (hkk : kk + 5 ≤ 601024) (hnn : nn + 30 ≤ 7293034) {B23 : Mm → Nat → Nat → Nat → Int32 → Prop} (hB23 : ∀ M l1 l2 l3 l4, B23 M l1 l2 l3 l4 → E G mi_L_law K M (kk + 5) (nn + 30) 23 [some (.ref (gS G 200)), some (.ref l1), some (.ref l2), some (.ref l3), some (.int l4), none, none, none] []) {M : Mm} {l1 : Nat} {l2 : Nat} {l3 : Nat} {l4 : Int32} (h : V_L_law_144 G K B23 M l1 l2 l3 l4) : E G mi_L_law K M (kk + 0) (nn + 0) 144 [some (.ref (gS G 200)), some (.ref l1), some (.ref l2), some (.ref l3), some (.int l4), none, none, none] [] := by
  unfold V_L_law_144 at h
  refine e_blk 5 144 _ _ (pc' := 150) (L' := [some (.ref (gS G 200)), some (.ref l1), some (.ref l2), some (.ref l3), some (.int l4), none, none, none]) (st' := [.int (l4 + (1 : Int32)), .ref (gS G 200), .ref l1]) rfl ?_
  obtain ⟨hi1, h⟩ := h
  refine e_tI (.int (gX G ((l4 + (1 : Int32))).toNatClampNeg)) rfl (fun s hs => hs.scr) hi1 rfl ?_
  refine e_blk 4 151 _ _ (pc' := 156) (L' := [some (.ref (gS G 200)), some (.ref l1), some (.ref l2), some (.ref l3), some (.int l4), none, none, none]) (st' := [.int (l4 + (2 : Int32)), .ref (gS G 200), .int (gX G ((l4 + (1 : Int32))).toNatClampNeg), .ref l1]) rfl ?_
  obtain ⟨hi2, h⟩ := h
  refine e_tI (.int (gX G ((l4 + (2 : Int32))).toNatClampNeg)) rfl (fun s hs => hs.scr) hi2 rfl ?_
  refine e_callSH (As := [.ref l1, .int (gX G ((l4 + (1 : Int32))).toNatClampNeg), .int (gX G ((l4 + (2 : Int32))).toNatClampNeg)]) (rest := []) rfl (x_L_zone h) (by decide) (aw (i := 369) (by decide +kernel) rfl) ws_L_zone wi_L_zone wc_L_zone (cokL (show cok mi_L_law mi_L_zone 0 0 3 = true by decide +kernel) (show _ + 2 ≤ 601024 by omega) (show _ + 12 ≤ 7293034 by omega)) (Nat.le_of_ble_eq_true rfl) (fun v9 M3 hq => ?_) (fun X M9 hq => False.elim hq)
  refine e_wid (k' := kk + 2) (n' := nn + 12) (show _ + 2 ≤ _ by omega) (show _ + 12 ≤ _ by omega) ?_
  obtain ⟨r4, rfl, h⟩ := kI_l hq
  refine e_blk 6 160 _ _ (pc' := 168) (L' := [some (.ref (gS G 200)), some (.ref l1), some (.ref l2), some (.ref l3), some (.int l4), some (.int r4), none, none]) (st' := [.int (l4 + (1 : Int32)), .ref (gS G 200), .ref l2]) rfl ?_
  obtain ⟨hi5, h⟩ := h
  refine e_tI (.int (gX G ((l4 + (1 : Int32))).toNatClampNeg)) rfl (fun s hs => hs.scr) hi5 rfl ?_
  refine e_blk 4 169 _ _ (pc' := 174) (L' := [some (.ref (gS G 200)), some (.ref l1), some (.ref l2), some (.ref l3), some (.int l4), some (.int r4), none, none]) (st' := [.int (l4 + (2 : Int32)), .ref (gS G 200), .int (gX G ((l4 + (1 : Int32))).toNatClampNeg), .ref l2]) rfl ?_
  obtain ⟨hi6, h⟩ := h
  refine e_tI (.int (gX G ((l4 + (2 : Int32))).toNatClampNeg)) rfl (fun s hs => hs.scr) hi6 rfl ?_
  obtain ⟨ho7, h⟩ := h
  refine e_callV (As := [.int (gX G ((l4 + (1 : Int32))).toNatClampNeg), .int (gX G ((l4 + (2 : Int32))).toNatClampNeg)]) (rest := []) (ci := 7) rfl (x_X7_zone h) ho7 rfl rfl rfl (aw (i := 1251) (by decide +kernel) rfl) wn_X7_zone wv_X7_zone wi_X7_zone wc_X7_zone (cokL (show cok mi_L_law mi_X7_zone 0 0 2 = true by decide +kernel) (show _ + 0 ≤ 601024 by omega) (show _ + 0 ≤ 7293034 by omega)) (Nat.le_of_ble_eq_true rfl) (fun v9 M8 hq => ?_) (fun X M9 hq => False.elim hq)
  refine e_wid (k' := kk + 2) (n' := nn + 12) (show _ + 0 ≤ _ by omega) (show _ + 0 ≤ _ by omega) ?_
  obtain ⟨rfl, h⟩ := kV_l hq
  refine e_blk 1 178 _ _ (pc' := 179) (L' := [some (.ref (gS G 200)), some (.ref l1), some (.ref l2), some (.ref l3), some (.int l4), some (.int r4), none, none]) (st' := [.ref l2]) rfl ?_
  obtain ⟨ho9, h⟩ := h
  refine e_callV (As := []) (rest := []) (ci := 7) rfl (x_X7_thrown h) ho9 rfl rfl rfl (aw (i := 1247) (by decide +kernel) rfl) wn_X7_thrown wv_X7_thrown wi_X7_thrown wc_X7_thrown (cokL (show cok mi_L_law mi_X7_thrown 0 0 0 = true by decide +kernel) (show _ + 0 ≤ 601024 by omega) (show _ + 0 ≤ 7293034 by omega)) (Nat.le_of_ble_eq_true rfl) (fun v9 M10 hq => ?_) (fun X M9 hq => False.elim hq)
  refine e_wid (k' := kk + 2) (n' := nn + 12) (show _ + 0 ≤ _ by omega) (show _ + 0 ≤ _ by omega) ?_
  obtain ⟨r11, rfl, h⟩ := kI_l hq
  refine e_blk 1 182 _ _ (pc' := 184) (L' := [some (.ref (gS G 200)), some (.ref l1), some (.ref l2), some (.ref l3), some (.int l4), some (.int r4), none, none]) (st' := [.int r4, .int r11]) rfl ?_
  refine e_icmp_eq 189 rfl rfl (fun hc => ?_) (fun hc => ?_)
  · replace h := h.1 hc
    refine e_blk 1 189 _ _ (pc' := 1601) (L' := [some (.ref (gS G 200)), some (.ref l1), some (.ref l2), some (.ref l3), some (.int l4), some (.int r4), none, none]) (st' := []) rfl ?_
    refine e_wid (k' := kk + 5) (n' := nn + 30) (show _ ≤ _ by omega) (show _ ≤ _ by omega) ?_
    refine e_drp [true, true, true, true, true, false, false, false] (L' := [some (.ref (gS G 200)), some (.ref l1), some (.ref l2), some (.ref l3), some (.int l4), none, none, none]) rfl ?_
    exact x_L_law_1601 hkk hnn hB23 h
  · replace h := h.2 hc
    refine e_blk 1 187 _ _ (pc' := 188) (L' := [some (.ref (gS G 200)), some (.ref l1), some (.ref l2), some (.ref l3), some (.int l4), some (.int r4), none, none]) (st' := [.int (0 : Int32)]) rfl ?_
    exact e_retz rfl rfl (by decide) (show _ ≤ 601024 by omega) (show _ ≤ 7293034 by omega) h
def V_L_law_23 (G : Gx) (K : Rs → Mm → Prop) : Nat → Mm → Nat → Nat → Nat → Int32 → Prop
  | 0, _, _, _, _, _ => False
  | z + 1, M, l1, l2, l3, l4 => ((((Int32.ofNat (gS G 201)) - (7 : Int32)) < l4 → K (.inl (some (.int (1 : Int32)))) M) ∧ (¬ ((Int32.ofNat (gS G 201)) - (7 : Int32)) < l4 → (vp_in l4 (gS G 201) ∧ ((((((gX G (l4).toNatClampNeg) &&& (31 : Int32))).toInt < 0 ∨ 21 < (((gX G (l4).toNatClampNeg) &&& (31 : Int32))).toInt) → V_L_law_1601 G K (fun M l1 l2 l3 l4 => V_L_law_23 G K z M l1 l2 l3 l4) M l1 l2 l3 l4) ∧ ((((gX G (l4).toNatClampNeg) &&& (31 : Int32)) = 0 → V_L_law_144 G K (fun M l1 l2 l3 l4 => V_L_law_23 G K z M l1 l2 l3 l4) M l1 l2 l3 l4) ∧ ((((gX G (l4).toNatClampNeg) &&& (31 : Int32)) = 1 → V_L_law_192 G K (fun M l1 l2 l3 l4 => V_L_law_23 G K z M l1 l2 l3 l4) M l1 l2 l3 l4) ∧ ((((gX G (l4).toNatClampNeg) &&& (31 : Int32)) = 2 → V_L_law_272 G K (fun M l1 l2 l3 l4 => V_L_law_23 G K z M l1 l2 l3 l4) M l1 l2 l3 l4) ∧ ((((gX G (l4).toNatClampNeg) &&& (31 : Int32)) = 3 → V_L_law_352 G K (fun M l1 l2 l3 l4 => V_L_law_23 G K z M l1 l2 l3 l4) M l1 l2 l3 l4) ∧ ((((gX G (l4).toNatClampNeg) &&& (31 : Int32)) = 4 → V_L_law_470 G K (fun M l1 l2 l3 l4 => V_L_law_23 G K z M l1 l2 l3 l4) M l1 l2 l3 l4) ∧ ((((gX G (l4).toNatClampNeg) &&& (31 : Int32)) = 5 → V_L_law_570 G K (fun M l1 l2 l3 l4 => V_L_law_23 G K z M l1 l2 l3 l4) M l1 l2 l3 l4) ∧ ((((gX G (l4).toNatClampNeg) &&& (31 : Int32)) = 6 → V_L_law_674 G K (fun M l1 l2 l3 l4 => V_L_law_23 G K z M l1 l2 l3 l4) M l1 l2 l3 l4) ∧ ((((gX G (l4).toNatClampNeg) &&& (31 : Int32)) = 7 → V_L_law_687 G K (fun M l1 l2 l3 l4 => V_L_law_23 G K z M l1 l2 l3 l4) M l1 l2 l3 l4) ∧ ((((gX G (l4).toNatClampNeg) &&& (31 : Int32)) = 8 → V_L_law_743 G K (fun M l1 l2 l3 l4 => V_L_law_23 G K z M l1 l2 l3 l4) M l1 l2 l3 l4) ∧ ((((gX G (l4).toNatClampNeg) &&& (31 : Int32)) = 9 → V_L_law_811 G K (fun M l1 l2 l3 l4 => V_L_law_23 G K z M l1 l2 l3 l4) M l1 l2 l3 l4) ∧ ((((gX G (l4).toNatClampNeg) &&& (31 : Int32)) = 10 → V_L_law_878 G K (fun M l1 l2 l3 l4 => V_L_law_23 G K z M l1 l2 l3 l4) M l1 l2 l3 l4) ∧ ((((gX G (l4).toNatClampNeg) &&& (31 : Int32)) = 11 → V_L_law_989 G K (fun M l1 l2 l3 l4 => V_L_law_23 G K z M l1 l2 l3 l4) M l1 l2 l3 l4) ∧ ((((gX G (l4).toNatClampNeg) &&& (31 : Int32)) = 12 → V_L_law_1064 G K (fun M l1 l2 l3 l4 => V_L_law_23 G K z M l1 l2 l3 l4) M l1 l2 l3 l4) ∧ ((((gX G (l4).toNatClampNeg) &&& (31 : Int32)) = 13 → V_L_law_1144 G K (fun M l1 l2 l3 l4 => V_L_law_23 G K z M l1 l2 l3 l4) M l1 l2 l3 l4) ∧ ((((gX G (l4).toNatClampNeg) &&& (31 : Int32)) = 14 → V_L_law_1224 G K (fun M l1 l2 l3 l4 => V_L_law_23 G K z M l1 l2 l3 l4) M l1 l2 l3 l4) ∧ ((((gX G (l4).toNatClampNeg) &&& (31 : Int32)) = 15 → V_L_law_1304 G K (fun M l1 l2 l3 l4 => V_L_law_23 G K z M l1 l2 l3 l4) M l1 l2 l3 l4) ∧ ((((gX G (l4).toNatClampNeg) &&& (31 : Int32)) = 16 → V_L_law_1340 G K (fun M l1 l2 l3 l4 => V_L_law_23 G K z M l1 l2 l3 l4) M l1 l2 l3 l4) ∧ ((((gX G (l4).toNatClampNeg) &&& (31 : Int32)) = 17 → V_L_law_1396 G K (fun M l1 l2 l3 l4 => V_L_law_23 G K z M l1 l2 l3 l4) M l1 l2 l3 l4) ∧ ((((gX G (l4).toNatClampNeg) &&& (31 : Int32)) = 18 → V_L_law_1420 G K (fun M l1 l2 l3 l4 => V_L_law_23 G K z M l1 l2 l3 l4) M l1 l2 l3 l4) ∧ ((((gX G (l4).toNatClampNeg) &&& (31 : Int32)) = 19 → V_L_law_1464 G K (fun M l1 l2 l3 l4 => V_L_law_23 G K z M l1 l2 l3 l4) M l1 l2 l3 l4) ∧ ((((gX G (l4).toNatClampNeg) &&& (31 : Int32)) = 20 → V_L_law_1532 G K (fun M l1 l2 l3 l4 => V_L_law_23 G K z M l1 l2 l3 l4) M l1 l2 l3 l4) ∧ ((((gX G (l4).toNatClampNeg) &&& (31 : Int32)) = 21 → V_L_law_1545 G K (fun M l1 l2 l3 l4 => V_L_law_23 G K z M l1 l2 l3 l4) M l1 l2 l3 l4) ∧ True))))))))))))))))))))))))))
set_option maxRecDepth 100000 in
set_option maxHeartbeats 4000000 in
theorem x_L_law_23 {G : Gx} {K : Rs → Mm → Prop} : ∀ (z kk nn : Nat) (M : Mm) (l1 : Nat) (l2 : Nat) (l3 : Nat) (l4 : Int32), kk + z * 5 ≤ 601024 → nn + z * 30 ≤ 7293034 → V_L_law_23 G K z M l1 l2 l3 l4 → E G mi_L_law K M kk nn 23 [some (.ref (gS G 200)), some (.ref l1), some (.ref l2), some (.ref l3), some (.int l4), none, none, none] []
  | 0, _, _, M, l1, l2, l3, l4, _, _, h => False.elim h
  | z + 1, kk, nn, M, l1, l2, l3, l4, hk, hn, h => by
    unfold V_L_law_23 at h
    have hkk : kk + 5 ≤ 601024 := by omega
    have hnn : nn + 30 ≤ 7293034 := by omega
    refine e_blk 2 23 _ _ (pc' := 26) (L' := [some (.ref (gS G 200)), some (.ref l1), some (.ref l2), some (.ref l3), some (.int l4), none, none, none]) (st' := [.ref (gS G 200), .int l4]) rfl ?_
    refine e_tL rfl (fun s hs => hs.scr) ?_
    refine e_blk 2 27 _ _ (pc' := 30) (L' := [some (.ref (gS G 200)), some (.ref l1), some (.ref l2), some (.ref l3), some (.int l4), none, none, none]) (st' := [.int ((Int32.ofNat (gS G 201)) - (7 : Int32)), .int l4]) rfl ?_
    refine e_icmp_gt 1607 rfl rfl (fun hc => ?_) (fun hc => ?_)
    · replace h := h.1 hc
      refine e_blk 1 1607 _ _ (pc' := 1608) (L' := [some (.ref (gS G 200)), some (.ref l1), some (.ref l2), some (.ref l3), some (.int l4), none, none, none]) (st' := [.int (1 : Int32)]) rfl ?_
      exact e_retz rfl rfl (by decide) (show _ ≤ 601024 by omega) (show _ ≤ 7293034 by omega) h
    · replace h := h.2 hc
      refine e_blk 2 33 _ _ (pc' := 36) (L' := [some (.ref (gS G 200)), some (.ref l1), some (.ref l2), some (.ref l3), some (.int l4), none, none, none]) (st' := [.int l4, .ref (gS G 200)]) rfl ?_
      obtain ⟨hi1, h⟩ := h
      refine e_tI (.int (gX G (l4).toNatClampNeg)) rfl (fun s hs => hs.scr) hi1 rfl ?_
      refine e_blk 2 37 _ _ (pc' := 40) (L' := [some (.ref (gS G 200)), some (.ref l1), some (.ref l2), some (.ref l3), some (.int l4), none, none, none]) (st' := [.int ((gX G (l4).toNatClampNeg) &&& (31 : Int32))]) rfl ?_
      by_cases hs2 : (((gX G (l4).toNatClampNeg) &&& (31 : Int32))).toInt < 0 ∨ 21 < (((gX G (l4).toNatClampNeg) &&& (31 : Int32))).toInt
      · replace h := h.1 hs2
        refine e_swO 1601 rfl hs2 rfl ?_
        refine e_wid (k' := kk + 5) (n' := nn + 30) (show _ ≤ _ by omega) (show _ ≤ _ by omega) ?_
        refine e_drp [true, true, true, true, true, false, false, false] (L' := [some (.ref (gS G 200)), some (.ref l1), some (.ref l2), some (.ref l3), some (.int l4), none, none, none]) rfl ?_
        exact x_L_law_1601 hkk hnn (fun M l1 l2 l3 l4 h => x_L_law_23 z (kk + 5) (nn + 30) M l1 l2 l3 l4 (by omega) (by omega) h) h
      replace h := h.2
      by_cases he3 : ((gX G (l4).toNatClampNeg) &&& (31 : Int32)) = 0
      · replace h := h.1 he3
        refine e_swI (104) 144 rfl (fun q => hs2 (Or.inl q)) (fun q => hs2 (Or.inr q)) (by rw [he3]; decide) rfl ?_
        refine e_wid (k' := kk + 0) (n' := nn + 0) (show _ ≤ _ by omega) (show _ ≤ _ by omega) ?_
        refine e_drp [true, true, true, true, true, false, false, false] (L' := [some (.ref (gS G 200)), some (.ref l1), some (.ref l2), some (.ref l3), some (.int l4), none, none, none]) rfl ?_
        exact x_L_law_144 hkk hnn (fun M l1 l2 l3 l4 h => x_L_law_23 z (kk + 5) (nn + 30) M l1 l2 l3 l4 (by omega) (by omega) h) h
      replace h := h.2
      by_cases he4 : ((gX G (l4).toNatClampNeg) &&& (31 : Int32)) = 1
      · replace h := h.1 he4
        refine e_swI (152) 192 rfl (fun q => hs2 (Or.inl q)) (fun q => hs2 (Or.inr q)) (by rw [he4]; decide) rfl ?_
        refine e_wid (k' := kk + 0) (n' := nn + 0) (show _ ≤ _ by omega) (show _ ≤ _ by omega) ?_
        refine e_drp [true, true, true, true, true, false, false, false] (L' := [some (.ref (gS G 200)), some (.ref l1), some (.ref l2), some (.ref l3), some (.int l4), none, none, none]) rfl ?_
        exact x_L_law_192 hkk hnn (fun M l1 l2 l3 l4 h => x_L_law_23 z (kk + 5) (nn + 30) M l1 l2 l3 l4 (by omega) (by omega) h) h
      replace h := h.2
      by_cases he5 : ((gX G (l4).toNatClampNeg) &&& (31 : Int32)) = 2
      · replace h := h.1 he5
        refine e_swI (232) 272 rfl (fun q => hs2 (Or.inl q)) (fun q => hs2 (Or.inr q)) (by rw [he5]; decide) rfl ?_
        refine e_wid (k' := kk + 0) (n' := nn + 0) (show _ ≤ _ by omega) (show _ ≤ _ by omega) ?_
        refine e_drp [true, true, true, true, true, false, false, false] (L' := [some (.ref (gS G 200)), some (.ref l1), some (.ref l2), some (.ref l3), some (.int l4), none, none, none]) rfl ?_
        exact x_L_law_272 hkk hnn (fun M l1 l2 l3 l4 h => x_L_law_23 z (kk + 5) (nn + 30) M l1 l2 l3 l4 (by omega) (by omega) h) h
      replace h := h.2
      by_cases he6 : ((gX G (l4).toNatClampNeg) &&& (31 : Int32)) = 3
      · replace h := h.1 he6
        refine e_swI (312) 352 rfl (fun q => hs2 (Or.inl q)) (fun q => hs2 (Or.inr q)) (by rw [he6]; decide) rfl ?_
        refine e_wid (k' := kk + 0) (n' := nn + 0) (show _ ≤ _ by omega) (show _ ≤ _ by omega) ?_
        refine e_drp [true, true, true, true, true, false, false, false] (L' := [some (.ref (gS G 200)), some (.ref l1), some (.ref l2), some (.ref l3), some (.int l4), none, none, none]) rfl ?_
        exact x_L_law_352 hkk hnn (fun M l1 l2 l3 l4 h => x_L_law_23 z (kk + 5) (nn + 30) M l1 l2 l3 l4 (by omega) (by omega) h) h
      replace h := h.2
      by_cases he7 : ((gX G (l4).toNatClampNeg) &&& (31 : Int32)) = 4
      · replace h := h.1 he7
        refine e_swI (430) 470 rfl (fun q => hs2 (Or.inl q)) (fun q => hs2 (Or.inr q)) (by rw [he7]; decide) rfl ?_
        refine e_wid (k' := kk + 0) (n' := nn + 0) (show _ ≤ _ by omega) (show _ ≤ _ by omega) ?_
        refine e_drp [true, true, true, true, true, false, false, false] (L' := [some (.ref (gS G 200)), some (.ref l1), some (.ref l2), some (.ref l3), some (.int l4), none, none, none]) rfl ?_
        exact x_L_law_470 hkk hnn (fun M l1 l2 l3 l4 h => x_L_law_23 z (kk + 5) (nn + 30) M l1 l2 l3 l4 (by omega) (by omega) h) h
      replace h := h.2
      by_cases he8 : ((gX G (l4).toNatClampNeg) &&& (31 : Int32)) = 5
      · replace h := h.1 he8
        refine e_swI (530) 570 rfl (fun q => hs2 (Or.inl q)) (fun q => hs2 (Or.inr q)) (by rw [he8]; decide) rfl ?_
        refine e_wid (k' := kk + 0) (n' := nn + 0) (show _ ≤ _ by omega) (show _ ≤ _ by omega) ?_
        refine e_drp [true, true, true, true, true, false, false, false] (L' := [some (.ref (gS G 200)), some (.ref l1), some (.ref l2), some (.ref l3), some (.int l4), none, none, none]) rfl ?_
        exact x_L_law_570 hkk hnn (fun M l1 l2 l3 l4 h => x_L_law_23 z (kk + 5) (nn + 30) M l1 l2 l3 l4 (by omega) (by omega) h) h
      replace h := h.2
      by_cases he9 : ((gX G (l4).toNatClampNeg) &&& (31 : Int32)) = 6
      · replace h := h.1 he9
        refine e_swI (634) 674 rfl (fun q => hs2 (Or.inl q)) (fun q => hs2 (Or.inr q)) (by rw [he9]; decide) rfl ?_
        refine e_wid (k' := kk + 0) (n' := nn + 0) (show _ ≤ _ by omega) (show _ ≤ _ by omega) ?_
        refine e_drp [true, true, true, true, true, false, false, false] (L' := [some (.ref (gS G 200)), some (.ref l1), some (.ref l2), some (.ref l3), some (.int l4), none, none, none]) rfl ?_
        exact x_L_law_674 hkk hnn (fun M l1 l2 l3 l4 h => x_L_law_23 z (kk + 5) (nn + 30) M l1 l2 l3 l4 (by omega) (by omega) h) h
      replace h := h.2
      by_cases he10 : ((gX G (l4).toNatClampNeg) &&& (31 : Int32)) = 7
      · replace h := h.1 he10
        refine e_swI (647) 687 rfl (fun q => hs2 (Or.inl q)) (fun q => hs2 (Or.inr q)) (by rw [he10]; decide) rfl ?_
        refine e_wid (k' := kk + 0) (n' := nn + 0) (show _ ≤ _ by omega) (show _ ≤ _ by omega) ?_
        refine e_drp [true, true, true, true, true, false, false, false] (L' := [some (.ref (gS G 200)), some (.ref l1), some (.ref l2), some (.ref l3), some (.int l4), none, none, none]) rfl ?_
        exact x_L_law_687 hkk hnn (fun M l1 l2 l3 l4 h => x_L_law_23 z (kk + 5) (nn + 30) M l1 l2 l3 l4 (by omega) (by omega) h) h
      replace h := h.2
      by_cases he11 : ((gX G (l4).toNatClampNeg) &&& (31 : Int32)) = 8
      · replace h := h.1 he11
        refine e_swI (703) 743 rfl (fun q => hs2 (Or.inl q)) (fun q => hs2 (Or.inr q)) (by rw [he11]; decide) rfl ?_
        refine e_wid (k' := kk + 0) (n' := nn + 0) (show _ ≤ _ by omega) (show _ ≤ _ by omega) ?_
        refine e_drp [true, true, true, true, true, false, false, false] (L' := [some (.ref (gS G 200)), some (.ref l1), some (.ref l2), some (.ref l3), some (.int l4), none, none, none]) rfl ?_
        exact x_L_law_743 hkk hnn (fun M l1 l2 l3 l4 h => x_L_law_23 z (kk + 5) (nn + 30) M l1 l2 l3 l4 (by omega) (by omega) h) h
      replace h := h.2
      by_cases he12 : ((gX G (l4).toNatClampNeg) &&& (31 : Int32)) = 9
      · replace h := h.1 he12
        refine e_swI (771) 811 rfl (fun q => hs2 (Or.inl q)) (fun q => hs2 (Or.inr q)) (by rw [he12]; decide) rfl ?_
        refine e_wid (k' := kk + 0) (n' := nn + 0) (show _ ≤ _ by omega) (show _ ≤ _ by omega) ?_
        refine e_drp [true, true, true, true, true, false, false, false] (L' := [some (.ref (gS G 200)), some (.ref l1), some (.ref l2), some (.ref l3), some (.int l4), none, none, none]) rfl ?_
        exact x_L_law_811 hkk hnn (fun M l1 l2 l3 l4 h => x_L_law_23 z (kk + 5) (nn + 30) M l1 l2 l3 l4 (by omega) (by omega) h) h
      replace h := h.2
      by_cases he13 : ((gX G (l4).toNatClampNeg) &&& (31 : Int32)) = 10
      · replace h := h.1 he13
        refine e_swI (838) 878 rfl (fun q => hs2 (Or.inl q)) (fun q => hs2 (Or.inr q)) (by rw [he13]; decide) rfl ?_
        refine e_wid (k' := kk + 0) (n' := nn + 0) (show _ ≤ _ by omega) (show _ ≤ _ by omega) ?_
        refine e_drp [true, true, true, true, true, false, false, false] (L' := [some (.ref (gS G 200)), some (.ref l1), some (.ref l2), some (.ref l3), some (.int l4), none, none, none]) rfl ?_
        exact x_L_law_878 hkk hnn (fun M l1 l2 l3 l4 h => x_L_law_23 z (kk + 5) (nn + 30) M l1 l2 l3 l4 (by omega) (by omega) h) h
      replace h := h.2
      by_cases he14 : ((gX G (l4).toNatClampNeg) &&& (31 : Int32)) = 11
      · replace h := h.1 he14
        refine e_swI (949) 989 rfl (fun q => hs2 (Or.inl q)) (fun q => hs2 (Or.inr q)) (by rw [he14]; decide) rfl ?_
        refine e_wid (k' := kk + 0) (n' := nn + 0) (show _ ≤ _ by omega) (show _ ≤ _ by omega) ?_
        refine e_drp [true, true, true, true, true, false, false, false] (L' := [some (.ref (gS G 200)), some (.ref l1), some (.ref l2), some (.ref l3), some (.int l4), none, none, none]) rfl ?_
        exact x_L_law_989 hkk hnn (fun M l1 l2 l3 l4 h => x_L_law_23 z (kk + 5) (nn + 30) M l1 l2 l3 l4 (by omega) (by omega) h) h
      replace h := h.2
      by_cases he15 : ((gX G (l4).toNatClampNeg) &&& (31 : Int32)) = 12
      · replace h := h.1 he15
        refine e_swI (1024) 1064 rfl (fun q => hs2 (Or.inl q)) (fun q => hs2 (Or.inr q)) (by rw [he15]; decide) rfl ?_
        refine e_wid (k' := kk + 0) (n' := nn + 0) (show _ ≤ _ by omega) (show _ ≤ _ by omega) ?_
        refine e_drp [true, true, true, true, true, false, false, false] (L' := [some (.ref (gS G 200)), some (.ref l1), some (.ref l2), some (.ref l3), some (.int l4), none, none, none]) rfl ?_
        exact x_L_law_1064 hkk hnn (fun M l1 l2 l3 l4 h => x_L_law_23 z (kk + 5) (nn + 30) M l1 l2 l3 l4 (by omega) (by omega) h) h
      replace h := h.2
      by_cases he16 : ((gX G (l4).toNatClampNeg) &&& (31 : Int32)) = 13
      · replace h := h.1 he16
        refine e_swI (1104) 1144 rfl (fun q => hs2 (Or.inl q)) (fun q => hs2 (Or.inr q)) (by rw [he16]; decide) rfl ?_
        refine e_wid (k' := kk + 0) (n' := nn + 0) (show _ ≤ _ by omega) (show _ ≤ _ by omega) ?_
        refine e_drp [true, true, true, true, true, false, false, false] (L' := [some (.ref (gS G 200)), some (.ref l1), some (.ref l2), some (.ref l3), some (.int l4), none, none, none]) rfl ?_
        exact x_L_law_1144 hkk hnn (fun M l1 l2 l3 l4 h => x_L_law_23 z (kk + 5) (nn + 30) M l1 l2 l3 l4 (by omega) (by omega) h) h
      replace h := h.2
      by_cases he17 : ((gX G (l4).toNatClampNeg) &&& (31 : Int32)) = 14
      · replace h := h.1 he17
        refine e_swI (1184) 1224 rfl (fun q => hs2 (Or.inl q)) (fun q => hs2 (Or.inr q)) (by rw [he17]; decide) rfl ?_
        refine e_wid (k' := kk + 0) (n' := nn + 0) (show _ ≤ _ by omega) (show _ ≤ _ by omega) ?_
        refine e_drp [true, true, true, true, true, false, false, false] (L' := [some (.ref (gS G 200)), some (.ref l1), some (.ref l2), some (.ref l3), some (.int l4), none, none, none]) rfl ?_
        exact x_L_law_1224 hkk hnn (fun M l1 l2 l3 l4 h => x_L_law_23 z (kk + 5) (nn + 30) M l1 l2 l3 l4 (by omega) (by omega) h) h
      replace h := h.2
      by_cases he18 : ((gX G (l4).toNatClampNeg) &&& (31 : Int32)) = 15
      · replace h := h.1 he18
        refine e_swI (1264) 1304 rfl (fun q => hs2 (Or.inl q)) (fun q => hs2 (Or.inr q)) (by rw [he18]; decide) rfl ?_
        refine e_wid (k' := kk + 0) (n' := nn + 0) (show _ ≤ _ by omega) (show _ ≤ _ by omega) ?_
        refine e_drp [true, true, true, true, true, false, false, false] (L' := [some (.ref (gS G 200)), some (.ref l1), some (.ref l2), some (.ref l3), some (.int l4), none, none, none]) rfl ?_
        exact x_L_law_1304 hkk hnn (fun M l1 l2 l3 l4 h => x_L_law_23 z (kk + 5) (nn + 30) M l1 l2 l3 l4 (by omega) (by omega) h) h
      replace h := h.2
      by_cases he19 : ((gX G (l4).toNatClampNeg) &&& (31 : Int32)) = 16
      · replace h := h.1 he19
        refine e_swI (1300) 1340 rfl (fun q => hs2 (Or.inl q)) (fun q => hs2 (Or.inr q)) (by rw [he19]; decide) rfl ?_
        refine e_wid (k' := kk + 0) (n' := nn + 0) (show _ ≤ _ by omega) (show _ ≤ _ by omega) ?_
        refine e_drp [true, true, true, true, true, false, false, false] (L' := [some (.ref (gS G 200)), some (.ref l1), some (.ref l2), some (.ref l3), some (.int l4), none, none, none]) rfl ?_
        exact x_L_law_1340 hkk hnn (fun M l1 l2 l3 l4 h => x_L_law_23 z (kk + 5) (nn + 30) M l1 l2 l3 l4 (by omega) (by omega) h) h
      replace h := h.2
      by_cases he20 : ((gX G (l4).toNatClampNeg) &&& (31 : Int32)) = 17
      · replace h := h.1 he20
        refine e_swI (1356) 1396 rfl (fun q => hs2 (Or.inl q)) (fun q => hs2 (Or.inr q)) (by rw [he20]; decide) rfl ?_
        refine e_wid (k' := kk + 0) (n' := nn + 0) (show _ ≤ _ by omega) (show _ ≤ _ by omega) ?_
        refine e_drp [true, true, true, true, true, false, false, false] (L' := [some (.ref (gS G 200)), some (.ref l1), some (.ref l2), some (.ref l3), some (.int l4), none, none, none]) rfl ?_
        exact x_L_law_1396 hkk hnn (fun M l1 l2 l3 l4 h => x_L_law_23 z (kk + 5) (nn + 30) M l1 l2 l3 l4 (by omega) (by omega) h) h
      replace h := h.2
      by_cases he21 : ((gX G (l4).toNatClampNeg) &&& (31 : Int32)) = 18
      · replace h := h.1 he21
        refine e_swI (1380) 1420 rfl (fun q => hs2 (Or.inl q)) (fun q => hs2 (Or.inr q)) (by rw [he21]; decide) rfl ?_
        refine e_wid (k' := kk + 0) (n' := nn + 0) (show _ ≤ _ by omega) (show _ ≤ _ by omega) ?_
        refine e_drp [true, true, true, true, true, false, false, false] (L' := [some (.ref (gS G 200)), some (.ref l1), some (.ref l2), some (.ref l3), some (.int l4), none, none, none]) rfl ?_
        exact x_L_law_1420 hkk hnn (fun M l1 l2 l3 l4 h => x_L_law_23 z (kk + 5) (nn + 30) M l1 l2 l3 l4 (by omega) (by omega) h) h
      replace h := h.2
      by_cases he22 : ((gX G (l4).toNatClampNeg) &&& (31 : Int32)) = 19
      · replace h := h.1 he22
        refine e_swI (1424) 1464 rfl (fun q => hs2 (Or.inl q)) (fun q => hs2 (Or.inr q)) (by rw [he22]; decide) rfl ?_
        refine e_wid (k' := kk + 0) (n' := nn + 0) (show _ ≤ _ by omega) (show _ ≤ _ by omega) ?_
        refine e_drp [true, true, true, true, true, false, false, false] (L' := [some (.ref (gS G 200)), some (.ref l1), some (.ref l2), some (.ref l3), some (.int l4), none, none, none]) rfl ?_
        exact x_L_law_1464 hkk hnn (fun M l1 l2 l3 l4 h => x_L_law_23 z (kk + 5) (nn + 30) M l1 l2 l3 l4 (by omega) (by omega) h) h
      replace h := h.2
      by_cases he23 : ((gX G (l4).toNatClampNeg) &&& (31 : Int32)) = 20
      · replace h := h.1 he23
        refine e_swI (1492) 1532 rfl (fun q => hs2 (Or.inl q)) (fun q => hs2 (Or.inr q)) (by rw [he23]; decide) rfl ?_
        refine e_wid (k' := kk + 0) (n' := nn + 0) (show _ ≤ _ by omega) (show _ ≤ _ by omega) ?_
        refine e_drp [true, true, true, true, true, false, false, false] (L' := [some (.ref (gS G 200)), some (.ref l1), some (.ref l2), some (.ref l3), some (.int l4), none, none, none]) rfl ?_
        exact x_L_law_1532 hkk hnn (fun M l1 l2 l3 l4 h => x_L_law_23 z (kk + 5) (nn + 30) M l1 l2 l3 l4 (by omega) (by omega) h) h
      replace h := h.2
      by_cases he24 : ((gX G (l4).toNatClampNeg) &&& (31 : Int32)) = 21
      · replace h := h.1 he24
        refine e_swI (1505) 1545 rfl (fun q => hs2 (Or.inl q)) (fun q => hs2 (Or.inr q)) (by rw [he24]; decide) rfl ?_
        refine e_wid (k' := kk + 0) (n' := nn + 0) (show _ ≤ _ by omega) (show _ ≤ _ by omega) ?_
        refine e_drp [true, true, true, true, true, false, false, false] (L' := [some (.ref (gS G 200)), some (.ref l1), some (.ref l2), some (.ref l3), some (.int l4), none, none, none]) rfl ?_
        exact x_L_law_1545 hkk hnn (fun M l1 l2 l3 l4 h => x_L_law_23 z (kk + 5) (nn + 30) M l1 l2 l3 l4 (by omega) (by omega) h) h
      replace h := h.2
      exfalso
      have the3 : (((gX G (l4).toNatClampNeg) &&& (31 : Int32))).toInt ≠ 0 := fun q => he3 (Int32.toInt_inj.mp (q.trans (by decide)))
      have the4 : (((gX G (l4).toNatClampNeg) &&& (31 : Int32))).toInt ≠ 1 := fun q => he4 (Int32.toInt_inj.mp (q.trans (by decide)))
      have the5 : (((gX G (l4).toNatClampNeg) &&& (31 : Int32))).toInt ≠ 2 := fun q => he5 (Int32.toInt_inj.mp (q.trans (by decide)))
      have the6 : (((gX G (l4).toNatClampNeg) &&& (31 : Int32))).toInt ≠ 3 := fun q => he6 (Int32.toInt_inj.mp (q.trans (by decide)))
      have the7 : (((gX G (l4).toNatClampNeg) &&& (31 : Int32))).toInt ≠ 4 := fun q => he7 (Int32.toInt_inj.mp (q.trans (by decide)))
      have the8 : (((gX G (l4).toNatClampNeg) &&& (31 : Int32))).toInt ≠ 5 := fun q => he8 (Int32.toInt_inj.mp (q.trans (by decide)))
      have the9 : (((gX G (l4).toNatClampNeg) &&& (31 : Int32))).toInt ≠ 6 := fun q => he9 (Int32.toInt_inj.mp (q.trans (by decide)))
      have the10 : (((gX G (l4).toNatClampNeg) &&& (31 : Int32))).toInt ≠ 7 := fun q => he10 (Int32.toInt_inj.mp (q.trans (by decide)))
      have the11 : (((gX G (l4).toNatClampNeg) &&& (31 : Int32))).toInt ≠ 8 := fun q => he11 (Int32.toInt_inj.mp (q.trans (by decide)))
      have the12 : (((gX G (l4).toNatClampNeg) &&& (31 : Int32))).toInt ≠ 9 := fun q => he12 (Int32.toInt_inj.mp (q.trans (by decide)))
      have the13 : (((gX G (l4).toNatClampNeg) &&& (31 : Int32))).toInt ≠ 10 := fun q => he13 (Int32.toInt_inj.mp (q.trans (by decide)))
      have the14 : (((gX G (l4).toNatClampNeg) &&& (31 : Int32))).toInt ≠ 11 := fun q => he14 (Int32.toInt_inj.mp (q.trans (by decide)))
      have the15 : (((gX G (l4).toNatClampNeg) &&& (31 : Int32))).toInt ≠ 12 := fun q => he15 (Int32.toInt_inj.mp (q.trans (by decide)))
      have the16 : (((gX G (l4).toNatClampNeg) &&& (31 : Int32))).toInt ≠ 13 := fun q => he16 (Int32.toInt_inj.mp (q.trans (by decide)))
      have the17 : (((gX G (l4).toNatClampNeg) &&& (31 : Int32))).toInt ≠ 14 := fun q => he17 (Int32.toInt_inj.mp (q.trans (by decide)))
      have the18 : (((gX G (l4).toNatClampNeg) &&& (31 : Int32))).toInt ≠ 15 := fun q => he18 (Int32.toInt_inj.mp (q.trans (by decide)))
      have the19 : (((gX G (l4).toNatClampNeg) &&& (31 : Int32))).toInt ≠ 16 := fun q => he19 (Int32.toInt_inj.mp (q.trans (by decide)))
      have the20 : (((gX G (l4).toNatClampNeg) &&& (31 : Int32))).toInt ≠ 17 := fun q => he20 (Int32.toInt_inj.mp (q.trans (by decide)))
      have the21 : (((gX G (l4).toNatClampNeg) &&& (31 : Int32))).toInt ≠ 18 := fun q => he21 (Int32.toInt_inj.mp (q.trans (by decide)))
      have the22 : (((gX G (l4).toNatClampNeg) &&& (31 : Int32))).toInt ≠ 19 := fun q => he22 (Int32.toInt_inj.mp (q.trans (by decide)))
      have the23 : (((gX G (l4).toNatClampNeg) &&& (31 : Int32))).toInt ≠ 20 := fun q => he23 (Int32.toInt_inj.mp (q.trans (by decide)))
      have the24 : (((gX G (l4).toNatClampNeg) &&& (31 : Int32))).toInt ≠ 21 := fun q => he24 (Int32.toInt_inj.mp (q.trans (by decide)))
      omega
def V_L_law (G : Gx) (K : Rs → Mm → Prop) (M : Mm) : Prop := ∀ w1, w1 ∉ mL M → ∀ M3, M3 = nO M w1 6 0 → V_X6_init (kV (fun M5 => ∀ w6, w6 ∉ mL M5 → ∀ M8, M8 = nO M5 w6 7 0 → V_X7_init (kV (fun M10 => ∀ w11, w11 ∉ mL M10 → ∀ M13, M13 = nO M10 w11 10 1 → ∃ y, y ≤ 600 ∧ V_L_law_23 G K y M13 w1 w6 w11 (0 : Int32)) (fun _ _ => False)) M8 w6) (fun _ _ => False)) M3 w1
set_option maxRecDepth 100000 in
set_option maxHeartbeats 4000000 in
theorem x_L_law {G : Gx} {K : Rs → Mm → Prop} {M : Mm} (h : V_L_law G K M) : E G mi_L_law K M 0 0 0 [some (.ref (gS G 200)), none, none, none, none, none, none, none] [] := by
  unfold V_L_law at h
  refine e_new 6 rfl rfl (aw (i := 77) (by decide +kernel) rfl) (aw (i := 78) (by decide +kernel) rfl) (aw (i := 57) (by decide +kernel) rfl) (by decide) (by decide) (fun w1 hn2 => ?_)
  replace h := h w1 hn2
  generalize hM3 : nO M w1 6 0 = M3
  replace h := h M3 hM3.symm
  have ho4 : ob M3 w1 6 := hM3 ▸ ob_new
  refine e_blk 1 3 _ _ (pc' := 4) (L' := [some (.ref (gS G 200)), none, none, none, none, none, none, none]) (st' := [.ref w1, .ref w1]) rfl ?_
  refine e_callI (As := []) (rest := [.ref w1]) rfl (x_X6_init h) (fun X M9 hq => hq) rfl rfl rfl (aw (i := 79) (by decide +kernel) rfl) wn_X6_init wi_X6_init wc_X6_init (show cok mi_L_law mi_X6_init 1 9 0 = true by decide +kernel) (Nat.le_of_ble_eq_true rfl) (fun v9 M5 hq => ?_)
  obtain ⟨rfl, h⟩ := kV_l hq
  refine e_blk 1 7 _ _ (pc' := 8) (L' := [some (.ref (gS G 200)), some (.ref w1), none, none, none, none, none, none]) (st' := []) rfl ?_
  refine e_new 7 rfl rfl (aw (i := 1059) (by decide +kernel) rfl) (aw (i := 1060) (by decide +kernel) rfl) (aw (i := 64) (by decide +kernel) rfl) (by decide) (by decide) (fun w6 hn7 => ?_)
  replace h := h w6 hn7
  generalize hM8 : nO M5 w6 7 0 = M8
  replace h := h M8 hM8.symm
  have ho9 : ob M8 w6 7 := hM8 ▸ ob_new
  refine e_blk 1 11 _ _ (pc' := 12) (L' := [some (.ref (gS G 200)), some (.ref w1), none, none, none, none, none, none]) (st' := [.ref w6, .ref w6]) rfl ?_
  refine e_callI (As := []) (rest := [.ref w6]) rfl (x_X7_init h) (fun X M9 hq => hq) rfl rfl rfl (aw (i := 1061) (by decide +kernel) rfl) wn_X7_init wi_X7_init wc_X7_init (show cok mi_L_law mi_X7_init 148 2955 0 = true by decide +kernel) (Nat.le_of_ble_eq_true rfl) (fun v9 M10 hq => ?_)
  obtain ⟨rfl, h⟩ := kV_l hq
  refine e_blk 2 15 _ _ (pc' := 17) (L' := [some (.ref (gS G 200)), some (.ref w1), some (.ref w6), none, none, none, none, none]) (st' := [.int (1 : Int32)]) rfl ?_
  refine e_newJ 1 rfl (aw (i := 191) (by decide +kernel) rfl) (by decide) rfl (by decide) (by decide) (by decide) (fun w11 hn12 => ?_)
  replace h := h w11 hn12
  generalize hM13 : nO M10 w11 10 1 = M13
  replace h := h M13 hM13.symm
  have ho14 : ob M13 w11 10 := hM13 ▸ ob_new
  refine e_blk 3 19 _ _ (pc' := 23) (L' := [some (.ref (gS G 200)), some (.ref w1), some (.ref w6), some (.ref w11), some (.int (0 : Int32)), none, none, none]) (st' := []) rfl ?_
  refine e_drp [true, true, true, true, true, false, false, false] (L' := [some (.ref (gS G 200)), some (.ref w1), some (.ref w6), some (.ref w11), some (.int (0 : Int32)), none, none, none]) rfl ?_
  obtain ⟨y, hy, h⟩ := h
  refine e_wid (k' := 182) (n' := 8953) (by decide) (by decide) ?_
  exact x_L_law_23 y 182 8953 _ _ _ _ _ (by omega) (by omega) h
