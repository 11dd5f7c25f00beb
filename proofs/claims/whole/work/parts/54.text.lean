/-! the class's reader: fields and texts -/
theorem s_item {K : Rs → Mm → Prop} {e : Ev} {M : Mm} {f at_ : Nat} {c : Ct} (hf : f ≤ 5) (h : PO e M at_ c) (hO : ∀ a1 c', pItem (eS e) f at_ c = .inr (a1, c') → ∀ M', PO e M' a1 c' → K (.inl none) M') (hF : ∀ co pl, pItem (eS e) f at_ c = .inl (co, pl) → ∀ M', PF e M' co pl → K (.inl none) M') : V_X4_readItem K M (eT e) (i32 (f : Nat)) := by
  have hn := h.1.2.2.1
  have hsb := hn.b at_
  have ht := tLG hf
  unfold pItem at hO hF
  have i64 : ¬ eS e at_ = 42 → ¬ (f = 2 ∧ eS e at_ = 76) → V_X4_readItem_64 K M (eT e) (i32 (f : Nat)) := by
    intro w1 w2
    rw [if_neg w1, if_neg w2] at hO hF
    unfold V_X4_readItem_64
    refine ⟨h.1.1.1, s_val hf h (fun a1 v e1 M' hp => kI_i ⟨hp.1.1.1, fun _ => ?_, fun q => absurd hp.2.2.2.2.1 q⟩) (fun co pl e1 M' v hp => kI_i ⟨hp.1.1.1, fun q => absurd q hp.ne, fun _ => ?_⟩)⟩
    · have hb := pVal_at hn hf h.2.2.2.1 e1
      rw [e1] at hO hF
      exact s_aft hf ⟨hb.2.2.1, hb.2.2.2⟩ hp (fun a2 c' e2 M2 hp2 => hO a2 c' e2 M2 hp2) (fun co pl e2 M2 hp2 => hF co pl e2 M2 hp2)
    · rw [e1] at hF
      exact hF co pl rfl M' hp
  unfold V_X4_readItem
  refine ⟨h.1.1.1, h.lk (kI_i ?_)⟩
  rw [q_42, i32_eq (by omega) (by omega) (by omega) (by omega), q_2, i32_eq (by omega) (by omega) (by omega) (by omega)]
  refine ⟨fun w1 => ⟨fun w2 => i64 w1 (fun c => by omega), fun w2 => ⟨h.1.1.1, h.lk (kI_i ?_)⟩⟩, fun w1 => ⟨h.1.1.1, fun M11 e11 => ?_⟩⟩
  · rw [show (76 : Int32) = i32 76 by decide, i32_eq (by omega) (by omega) (by omega) (by omega)]
    refine ⟨fun w3 => i64 w1 (fun c => w3 c.2), fun w3 => ⟨h.1.1.1, fun M8 e8 => ?_⟩⟩
    rw [if_neg w1, if_pos ⟨by omega, w3⟩] at hO hF
    subst e8
    exact s_last87 (h.adv (hn.lt (by omega))) (fun a1 c' e1 M' hp => kV_i (hO a1 c' e1 M' hp)) (fun co pl e1 M' hp => kV_i (hF co pl e1 M' hp))
  · rw [if_pos w1] at hO hF
    subst e11
    have vin : vp_in (i32 (f : Nat)) 6 := i32_in (by omega) (by omega) (by omega)
    refine ⟨vin, vin, ?_⟩
    rw [i32_clamp (by omega) (by omega), Int.toNat_natCast, tb_i.1 f (by omega), tb_i.2 f (by omega)]
    exact s_str hf (by omega) (tG3 f) (by omega) (fun q => by subst q; decide) (h.adv (hn.lt (by omega))) (fun a1 c' e1 M' hp => kV_i (hO a1 c' e1 M' hp)) (fun co pl e1 M' hp => kV_i (hF co pl e1 M' hp))
/-- a field, and what must stand behind it -/
def pChk (s : Nat → Int) (x : PR Ct) : PR Ct := pBn x (fun a1 c1 => if s a1 = 32 ∨ s a1 = -1 then .inr (a1, c1) else .inl (1, a1))
theorem s_f73 {K : Rs → Mm → Prop} {e : Ev} {M : Mm} {at_ : Nat} {c : Ct} (h : PO e M at_ c) (hO : (eS e at_ = 32 ∨ eS e at_ = -1) → K (.inl none) M) (hF : ¬ (eS e at_ = 32 ∨ eS e at_ = -1) → ∀ M', PF e M' 1 at_ → K (.inl none) M') : V_X4_readField_73 K M (eT e) := by
  have hn := h.1.2.2.1
  have hsb := hn.b at_
  unfold V_X4_readField_73 V_X4_readField_99
  refine ⟨h.1.1.1, h.lk (kI_i ?_)⟩
  rw [q_32, i32_eq (by omega) (by omega) (by omega) (by omega)]
  refine ⟨fun q => hO (.inl q), fun q => ⟨h.1.1.1, h.lk (kI_i ?_)⟩⟩
  rw [show (-1 : Int32) = i32 (-1) by decide, i32_eq (by omega) (by omega) (by omega) (by omega)]
  refine ⟨fun q2 => hO (.inr q2), fun q2 => ⟨h.1.1.1, ?_⟩⟩
  rw [h.2.2.1, show (1 : Int32) = i32 ((1 : Nat)) by decide]
  exact s_fail h (by omega) (fun M' hp => kV_i (hF (fun c => by omega) M' hp))
theorem s_f73F {K : Rs → Mm → Prop} {e : Ev} {M : Mm} {co pl : Nat} (h : PF e M co pl) (hk : K (.inl none) M) : V_X4_readField_73 K M (eT e) := by
  unfold V_X4_readField_73 V_X4_readField_99
  refine ⟨h.1.1.1, h.lk (fun v => kI_i ⟨fun _ => hk, fun _ => ⟨h.1.1.1, h.lk (fun v => kI_i ⟨fun _ => hk, fun _ => ⟨h.1.1.1, s_failF h (kV_i hk)⟩⟩)⟩⟩)⟩
theorem s_f29 {K : Rs → Mm → Prop} {e : Ev} {f : Nat} (hf : f ≤ 5) : ∀ (k i : Nat) (M : Mm) (at_ : Nat) (c : Ct), 161 ≤ at_ + k → i ≤ at_ → PO e M at_ c → (∀ a1 c', pChk (eS e) (pMore (eS e) f k at_ c) = .inr (a1, c') → ∀ M', PO e M' a1 c' → K (.inl none) M') → (∀ co pl, pChk (eS e) (pMore (eS e) f k at_ c) = .inl (co, pl) → ∀ M', PF e M' co pl → K (.inl none) M') → V_X4_readField_29 K (k + 1) M (eT e) (i32 (f : Nat)) (i32 (i : Nat)) := by
  intro k
  induction k with
  | zero =>
    intro i M at_ c e1 e2 h hO hF
    have := h.1.2.2.1.1
    have := h.2.2.2.1
    omega
  | succ k ih =>
    intro i M at_ c e1 e2 h hO hF
    have hn := h.1.2.2.1
    have hn1 := hn.1
    have ha := h.2.2.2.1
    have hsb := hn.b at_
    have stop : ¬ eS e at_ = 44 → V_X4_readField_73 K M (eT e) := by
      intro q
      have ep : pMore (eS e) f (k + 1) at_ c = .inr (at_, c) := by unfold pMore; rw [if_neg q]
      rw [ep] at hO hF
      refine s_f73 h (fun w => hO at_ c ?_ M h) (fun w M' hp => hF 1 at_ ?_ M' hp)
      · unfold pChk pBn; simp only; rw [if_pos w]
      · unfold pChk pBn; simp only; rw [if_neg w]
    unfold V_X4_readField_29
    rw [q_160, i32_le (by omega) (by omega) (by omega) (by omega)]
    refine ⟨fun q => stop (by rw [hn.2.1 at_ (by omega)]; decide), fun _ => ⟨h.1.1.1, fun q => absurd h.2.2.2.2.1 q, fun _ => h.lk (kI_i ?_)⟩⟩
    rw [q_44, i32_eq (by omega) (by omega) (by omega) (by omega)]
    refine ⟨fun q => stop q, fun q => ⟨h.1.1.1, fun M5 e5 => ?_⟩⟩
    subst e5
    have hl := hn.lt (i := at_) (by omega)
    have ep : pMore (eS e) f (k + 1) at_ c = pBn (pItem (eS e) f (at_ + 1) c) (fun a1 c1 => pMore (eS e) f k a1 c1) := by conv => lhs; unfold pMore; rw [if_pos q]
    rw [ep] at hO hF
    refine s_item hf (h.adv hl) (fun a1 c1 e3 M' hp => kV_i (fun x7 e7 => ?_)) (fun co pl e3 M' hp => kV_i (fun x7 e7 => ?_))
    · subst e7
      have hb := pItem_at hn hf (by omega) e3
      rw [e3] at hO hF
      rw [q_1, i32_add, show ((i : Nat) : Int) + 1 = ((i + 1 : Nat) : Int) by omega]
      exact ih (i + 1) M' a1 c1 (by omega) (by omega) hp hO hF
    · rw [e3] at hF
      have fin := hF co pl rfl M' hp
      unfold V_X4_readField_29
      exact ⟨fun _ => s_f73F hp fin, fun _ => ⟨hp.1.1.1, fun _ => s_f73F hp fin, fun q => absurd q hp.ne⟩⟩
theorem PO.star {e : Ev} {M : Mm} {at_ f : Nat} {c : Ct} {b : Bool} (h : PO e M at_ c) (hf : f ≤ 5) (K : Rs → Mm → Prop) (hk : ∀ M', PO e M' at_ (ctS c f b) → K (.inl none) M') : V_X3_beginField K M (eA e) (i32 (f : Nat)) (bI b) := by
  have rl := h.1.2.2.2.1
  obtain ⟨c1, c2, c3, c4, c5, c6, c7, c8, c9, c10, c11⟩ := h.2.2.2.2.2
  unfold V_X3_beginField V_X3_beginField_36
  rw [q_2, q_4, q_5, i32_eq (by omega) (by omega) (by omega) (by omega), i32_eq (by omega) (by omega) (by omega) (by omega), i32_eq (by omega) (by omega) (by omega) (by omega)]
  refine ⟨fun w2 => ⟨fun w4 => ⟨fun w5 => ?_, fun w5 => ⟨rl.2.1, fun M2 e2 => ?_⟩⟩, fun w4 => ⟨rl.2.1, bI_01 b, fun M5 e5 => ?_⟩⟩, fun w2 => ⟨rl.2.1, bI_01 b, fun M8 e8 => ?_⟩⟩
  · apply hk
    have : ctS c f b = c := by
      unfold ctS
      rw [if_neg (by omega), if_neg (by omega), if_neg (by omega)]
      rfl
    rw [this]; exact h
  · subst e2
    apply hk
    refine h.rowI 3 _ ⟨c1, c2, ?_, ?_, ?_, c6, ?_, c8, c9, c10, ?_⟩
    · rw [va_up_self]; show _ = bI (if f = 5 then true else cTo c); rw [if_pos (by omega)]; rfl
    · rw [va_up_ne _ _ (by decide)]; show _ = bI (if f = 2 then b else cDs c); rw [if_neg (by omega)]; exact c4
    · rw [va_up_ne _ _ (by decide)]; show _ = bI (if f = 4 then b else cWs c); rw [if_neg (by omega)]; exact c5
    · rw [va_up_ne _ _ (by decide)]; exact c7
    · rw [va_up_ne _ _ (by decide)]; exact c11
  · subst e5
    apply hk
    refine h.rowI 5 _ ⟨c1, c2, ?_, ?_, ?_, c6, ?_, c8, c9, c10, ?_⟩
    · rw [va_up_ne _ _ (by decide)]; show _ = bI (if f = 5 then true else cTo c); rw [if_neg (by omega)]; exact c3
    · rw [va_up_ne _ _ (by decide)]; show _ = bI (if f = 2 then b else cDs c); rw [if_neg (by omega)]; exact c4
    · rw [va_up_self]; show _ = bI (if f = 4 then b else cWs c); rw [if_pos (by omega)]
    · rw [va_up_ne _ _ (by decide)]; exact c7
    · rw [va_up_ne _ _ (by decide)]; exact c11
  · subst e8
    apply hk
    refine h.rowI 4 _ ⟨c1, c2, ?_, ?_, ?_, c6, ?_, c8, c9, c10, ?_⟩
    · rw [va_up_ne _ _ (by decide)]; show _ = bI (if f = 5 then true else cTo c); rw [if_neg (by omega)]; exact c3
    · rw [va_up_self]; show _ = bI (if f = 2 then b else cDs c); rw [if_pos (by omega)]
    · rw [va_up_ne _ _ (by decide)]; show _ = bI (if f = 4 then b else cWs c); rw [if_neg (by omega)]; exact c5
    · rw [va_up_ne _ _ (by decide)]; exact c7
    · rw [va_up_ne _ _ (by decide)]; exact c11
theorem s_field {K : Rs → Mm → Prop} {e : Ev} {M : Mm} {f at_ : Nat} {c : Ct} (hf : f ≤ 5) (h : PO e M at_ c) (hO : ∀ a1 c', pChk (eS e) (pField (eS e) f at_ c) = .inr (a1, c') → ∀ M', PO e M' a1 c' → K (.inl none) M') (hF : ∀ co pl, pChk (eS e) (pField (eS e) f at_ c) = .inl (co, pl) → ∀ M', PF e M' co pl → K (.inl none) M') : V_X4_readField K M (eT e) (i32 (f : Nat)) := by
  have hn := h.1.2.2.1
  have hsb := hn.b at_
  have rl := h.1.2.2.2.1
  unfold pField at hO hF
  have go : ∀ b : Bool, b = decide (eS e at_ = 42) → V_X4_readField_19 K M (eT e) (i32 (f : Nat)) (eA e) (i32 (f : Nat)) (bI b) := by
    intro b eb
    rw [← eb] at hO hF
    unfold V_X4_readField_19
    refine ⟨rl.2.1, h.star hf _ (fun M2 hp => kV_i ⟨hp.1.1.1, s_item hf hp (fun a1 c1 e1 M' hp' => kV_i ?_) (fun co pl e1 M' hp' => kV_i ?_)⟩)⟩
    · rw [e1] at hO hF
      have hb := pItem_at hn hf h.2.2.2.1 e1
      have := hn.1
      exact ⟨161 - a1 + 1, s_f29 hf (161 - a1) 0 M' a1 c1 (by omega) (by omega) hp' hO hF⟩
    · rw [e1] at hF
      have fin := hF co pl rfl M' hp'
      refine ⟨1, ?_⟩
      unfold V_X4_readField_29
      exact ⟨fun _ => s_f73F hp' fin, fun _ => ⟨hp'.1.1.1, fun _ => s_f73F hp' fin, fun q => absurd q hp'.ne⟩⟩
  unfold V_X4_readField
  refine ⟨h.1.1.1, eA e, h.1.1.2.2.1, h.lk (kI_i ?_)⟩
  rw [q_42, i32_eq (by omega) (by omega) (by omega) (by omega)]
  exact ⟨fun q => go false (by rw [decide_eq_false q]), fun q => go true (by rw [decide_eq_true q])⟩
/-! the words -/
theorem tx_wd : ∀ l : Int, ∀ j : Nat, (j = if l = 104 then 14 else if l = 100 then 15 else if l = 119 then 16 else if l = 109 then 17 else 18) → j ∈ txI ∧ tx j = (wdT l).map i32 ∧ (wdT l).length ≤ 7 ∧ ∀ x ∈ wdT l, 97 ≤ x ∧ x ≤ 122 := by
  have all : (14 ∈ txI ∧ tx 14 = (wdT 104).map i32 ∧ (wdT 104).length ≤ 7 ∧ ∀ x ∈ wdT 104, 97 ≤ x ∧ x ≤ 122) ∧ (15 ∈ txI ∧ tx 15 = (wdT 100).map i32 ∧ (wdT 100).length ≤ 7 ∧ ∀ x ∈ wdT 100, 97 ≤ x ∧ x ≤ 122) ∧ (16 ∈ txI ∧ tx 16 = (wdT 119).map i32 ∧ (wdT 119).length ≤ 7 ∧ ∀ x ∈ wdT 119, 97 ≤ x ∧ x ≤ 122) ∧ (17 ∈ txI ∧ tx 17 = (wdT 109).map i32 ∧ (wdT 109).length ≤ 7 ∧ ∀ x ∈ wdT 109, 97 ≤ x ∧ x ≤ 122) ∧ (18 ∈ txI ∧ tx 18 = (wdT 121).map i32 ∧ (wdT 121).length ≤ 7 ∧ ∀ x ∈ wdT 121, 97 ≤ x ∧ x ≤ 122) := by decide +kernel
  intro l j ej
  by_cases c1 : l = 104
  · subst c1; rw [if_pos rfl] at ej; subst ej; exact all.1
  · by_cases c2 : l = 100
    · subst c2; rw [if_neg (by decide), if_pos rfl] at ej; subst ej; exact all.2.1
    · by_cases c3 : l = 119
      · subst c3; rw [if_neg (by decide), if_neg (by decide), if_pos rfl] at ej; subst ej; exact all.2.2.1
      · by_cases c4 : l = 109
        · subst c4; rw [if_neg (by decide), if_neg (by decide), if_neg (by decide), if_pos rfl] at ej; subst ej; exact all.2.2.2.1
        · rw [if_neg c1, if_neg c2, if_neg c3, if_neg c4] at ej
          subst ej
          have : wdT l = wdT 121 := by unfold wdT; rw [if_neg c1, if_neg c2, if_neg c3, if_neg c4]; rfl
          rw [this]; exact all.2.2.2.2
theorem s_sets {K : Rs → Mm → Prop} {e : Ev} {M : Mm} {at_ : Nat} {c : Ct} {l : Int} (hl : -1 ≤ l ∧ l ≤ 255) (h : PO e M at_ c) (hk : ∀ M', PO e M' at_ (ctW l c) → K (.inl none) M') :
    ∃ b5, mP M (eT e) 5 = some b5 ∧ (ob M b5 3 ∧ V_X3_add (kV (fun M7 => (ob M7 (eT e) 4 ∧ ∃ b9, mP M7 (eT e) 5 = some b9 ∧ ((¬ i32 l = (104 : Int32) → V_X4_readWord_97 K M7 (eT e) (i32 l) b9 (1 : Int32) (0 : Int32) (0 : Int32)) ∧ (i32 l = (104 : Int32) → V_X4_readWord_97 K M7 (eT e) (i32 l) b9 (1 : Int32) (0 : Int32) (23 : Int32))))) (fun _ _ => False)) M b5 (0 : Int32) (0 : Int32) (0 : Int32) (1 : Int32)) := by
  have z0 : (0 : Int32) = i32 ((0 : Nat)) := by decide
  have z1 : (1 : Int32) = i32 ((1 : Nat)) := by decide
  have z2 : (2 : Int32) = i32 ((2 : Nat)) := by decide
  have z3 : (3 : Int32) = i32 ((3 : Nat)) := by decide
  have z4 : (4 : Int32) = i32 ((4 : Nat)) := by decide
  have add : ∀ (K' : Rs → Mm → Prop) (M : Mm) (c : Ct) (f : Nat) (lo hi : Int) (F L H : Int32), F = i32 (f : Nat) → L = i32 lo → H = i32 hi → f ≤ 4 → -1 ≤ hi ∧ hi ≤ 63 → 0 ≤ lo ∧ lo ≤ 4000 → PO e M at_ c → (∀ M', PO e M' at_ (ctA c f lo hi 1) → K' (.inl none) M') → V_X3_add K' M (eA e) F L H 1 := by
    intro K' M c f lo hi F L H eF eL eH hf hh hlo hp hk'
    rw [eF, eL, eH, q_1]
    exact s_add (by omega) (by omega) (by omega) (by omega) hlo (by omega) hp hk'
  refine ⟨eA e, h.1.1.2.2.1, h.1.2.2.2.1.2.1, add _ M c 0 0 0 _ _ _ z0 q_0 q_0 (by decide) (by decide) (by decide) h (fun M7 h7 => kV_i ⟨h7.1.1.1, eA e, h7.1.1.2.2.1, ?_⟩)⟩
  have w97 : ∀ H : Int32, H = i32 (if l = 104 then 23 else 0) → V_X4_readWord_97 K M7 (eT e) (i32 l) (eA e) (1 : Int32) (0 : Int32) H := by
    intro H eH
    unfold V_X4_readWord_97
    refine ⟨h7.1.2.2.2.1.2.1, add _ M7 _ 1 0 _ _ _ _ z1 q_0 eH (by decide) (by split <;> omega) (by decide) h7 (fun M2 h2 => kV_i ⟨h2.1.1.1, eA e, h2.1.1.2.2.1, ?_⟩)⟩
    have w122 : ∀ b : Bool, b = decide (¬ (l = 109 ∨ l = 121)) → V_X4_readWord_122 K M2 (eT e) (i32 l) (eA e) (bI b) := by
      intro b eb
      unfold V_X4_readWord_122
      refine ⟨h2.1.2.2.2.1.2.1, bI_01 b, fun M3 e3 => ?_⟩
      have h3 : PO e M3 at_ (ctS (ctA (ctA c 0 0 0 1) 1 0 (if l = 104 then 23 else 0) 1) 2 b) := by
        obtain ⟨c1, c2, c3, c4, c5, c6, c7, c8, c9, c10, c11⟩ := h2.2.2.2.2.2
        rw [e3]
        refine h2.rowI 4 _ ⟨c1, c2, ?_, ?_, ?_, c6, ?_, c8, c9, c10, ?_⟩
        · rw [va_up_ne _ _ (by decide)]; exact c3
        · rw [va_up_self]; rfl
        · rw [va_up_ne _ _ (by decide)]; exact c5
        · rw [va_up_ne _ _ (by decide)]; exact c7
        · rw [va_up_ne _ _ (by decide)]; exact c11
      refine ⟨h3.1.1.1, eA e, h3.1.1.2.2.1, eA e, h3.1.1.2.2.1, h3.1.2.2.2.1.2.1, ?_⟩
      have e4 : mI M3 (eA e) 4 = bI b := h3.2.2.2.2.2.2.2.2.1
      rw [e4, bI_ne0, bI_0]
      have w147 : ∀ H : Int32, H = i32 (if l = 109 ∨ l = 121 then 1 else 31) → V_X4_readWord_147 K M3 (eT e) (i32 l) (eA e) (2 : Int32) (1 : Int32) H := by
        intro H eH
        unfold V_X4_readWord_147
        refine ⟨h3.1.2.2.2.1.2.1, add _ M3 _ 2 1 _ _ _ _ z2 q_1 eH (by decide) (by split <;> omega) (by decide) h3 (fun M5 h5 => kV_i ⟨h5.1.1.1, eA e, h5.1.1.2.2.1, ?_⟩)⟩
        have w169 : ∀ H : Int32, H = i32 (if l = 121 then 1 else 12) → V_X4_readWord_169 K M5 (eT e) (i32 l) (eA e) (3 : Int32) (1 : Int32) H := by
          intro H eH
          unfold V_X4_readWord_169
          refine ⟨h5.1.2.2.2.1.2.1, add _ M5 _ 3 1 _ _ _ _ z3 q_1 eH (by decide) (by split <;> omega) (by decide) h5 (fun M6 h6 => kV_i ⟨h6.1.1.1, eA e, h6.1.1.2.2.1, ?_⟩)⟩
          have w188 : ∀ b2 : Bool, b2 = decide (¬ l = 119) → V_X4_readWord_188 K M6 (eT e) (eA e) (bI b2) := by
            intro b2 eb2
            unfold V_X4_readWord_188 V_X4_readWord_213
            refine ⟨h6.1.2.2.2.1.2.1, bI_01 b2, fun M8 e8 => ?_⟩
            have h8 : PO e M8 at_ (ctS (ctA (ctA (ctS (ctA (ctA c 0 0 0 1) 1 0 (if l = 104 then 23 else 0) 1) 2 b) 2 1 (if l = 109 ∨ l = 121 then 1 else 31) 1) 3 1 (if l = 121 then 1 else 12) 1) 4 b2) := by
              obtain ⟨c1, c2, c3, c4, c5, c6, c7, c8, c9, c10, c11⟩ := h6.2.2.2.2.2
              rw [e8]
              refine h6.rowI 5 _ ⟨c1, c2, ?_, ?_, ?_, c6, ?_, c8, c9, c10, ?_⟩
              · rw [va_up_ne _ _ (by decide)]; exact c3
              · rw [va_up_ne _ _ (by decide)]; exact c4
              · rw [va_up_self]; rfl
              · rw [va_up_ne _ _ (by decide)]; exact c7
              · rw [va_up_ne _ _ (by decide)]; exact c11
            refine ⟨h8.1.1.1, eA e, h8.1.1.2.2.1, eA e, h8.1.1.2.2.1, h8.1.2.2.2.1.2.1, ?_⟩
            have e5 : mI M8 (eA e) 5 = bI b2 := h8.2.2.2.2.2.2.2.2.2.1
            rw [e5, bI_ne0, bI_0]
            have fin : ∀ M', PO e M' at_ (ctA (ctS (ctA (ctA (ctS (ctA (ctA c 0 0 0 1) 1 0 (if l = 104 then 23 else 0) 1) 2 b) 2 1 (if l = 109 ∨ l = 121 then 1 else 31) 1) 3 1 (if l = 121 then 1 else 12) 1) 4 b2) 4 0 (if l = 119 then 0 else 6) 1) → K (.inl none) M' := by
              intro M' hp
              apply hk
              unfold ctW
              rw [← eb, ← eb2]
              exact hp
            refine ⟨fun q => ⟨h8.1.2.2.2.1.2.1, add _ M8 _ 4 0 (if l = 119 then 0 else 6) _ _ _ z4 q_0 ?_ (by decide) (by split <;> omega) (by decide) h8 (fun M9 h9 => kV_i (fin M9 h9))⟩, fun q => ⟨h8.1.2.2.2.1.2.1, add _ M8 _ 4 0 (if l = 119 then 0 else 6) _ _ _ z4 q_0 ?_ (by decide) (by split <;> omega) (by decide) h8 (fun M9 h9 => kV_i (fin M9 h9))⟩⟩
            · rw [q] at eb2
              have : l = 119 := by simpa using eb2.symm
              rw [if_pos this]; exact q_0
            · rw [q] at eb2
              have : ¬ l = 119 := by simpa using eb2.symm
              rw [if_neg this]; exact q_6
          rw [q_119, i32_eq (by omega) (by omega) (by omega) (by omega)]
          exact ⟨fun q => w188 false (by rw [eq_comm, decide_eq_false_iff_not]; exact fun c => c q), fun q => w188 true (by rw [eq_comm, decide_eq_true_iff]; exact q)⟩
        rw [q_121, i32_eq (by omega) (by omega) (by omega) (by omega)]
        exact ⟨fun q => w169 _ (by rw [if_neg q]; exact q_12), fun q => w169 _ (by rw [if_pos q]; exact q_1)⟩
      refine ⟨fun q => w147 _ ?_, fun q => w147 _ ?_⟩
      · rw [q] at eb
        have : l = 109 ∨ l = 121 := by
          have := eb.symm
          rw [decide_eq_false_iff_not] at this
          omega
        rw [if_pos this]; exact q_1
      · rw [q] at eb
        have : ¬ (l = 109 ∨ l = 121) := by
          have := eb.symm
          rwa [decide_eq_true_iff] at this
        rw [if_neg this]; exact q_31
    unfold V_X4_readWord_121
    rw [q_109, q_121, i32_eq (by omega) (by omega) (by omega) (by omega), i32_eq (by omega) (by omega) (by omega) (by omega)]
    refine ⟨fun q => w122 false (by rw [eq_comm, decide_eq_false_iff_not]; omega), fun q => ⟨fun q2 => w122 false (by rw [eq_comm, decide_eq_false_iff_not]; omega), fun q2 => w122 true (by rw [eq_comm, decide_eq_true_iff]; omega)⟩⟩
  rw [q_104, i32_eq (by omega) (by omega) (by omega) (by omega)]
  exact ⟨fun q => w97 _ (by rw [if_neg q]; exact q_0), fun q => w97 _ (by rw [if_pos q]; exact q_23)⟩
theorem s_w22 {K : Rs → Mm → Prop} {e : Ev} {c : Ct} {at0 j : Nat} {l : Int} (el : l = eS e at0) (ej : j = if l = 104 then 14 else if l = 100 then 15 else if l = 119 then 16 else if l = 109 then 17 else 18)
    (hO : ∀ a1 c', pWord (eS e) at0 c = .inr (a1, c') → ∀ M', PO e M' a1 c' → K (.inl none) M') (hF : ∀ co pl, pWord (eS e) at0 c = .inl (co, pl) → ∀ M', PF e M' co pl → K (.inl none) M') :
    ∀ (rest : List Int) (i : Nat) (M : Mm), (wdT l).drop i = rest → i ≤ (wdT l).length → PO e M (at0 + i) c → pChr (eS e) (wdT l) at0 = pChr (eS e) rest (at0 + i) → V_X4_readWord_22 K (rest.length + 1) M (eT e) (i32 l) j (i32 (i : Nat)) := by
  obtain ⟨j1, j2, j3, j4⟩ := tx_wd l j ej
  intro rest
  induction rest with
  | nil =>
    intro i M ed hi h hc
    have hl : (wdT l).length = i := by
      have := congrArg List.length ed
      rw [List.length_drop, List.length_nil] at this
      omega
    have hn := h.1.2.2.1
    have hsb := hn.b at0
    unfold V_X4_readWord_22 V_J0_length_8abf5
    refine ⟨j1, kI_i ?_⟩
    rw [j2, List.length_map, hl, show Int32.ofNat i = i32 (i : Nat) from Int32.ofInt_eq_ofNat.symm, i32_le (by omega) (by omega) (by omega) (by omega)]
    refine ⟨fun _ => ⟨h.1.1.1, s_sets (by omega) h (fun M' hp => hO (at0 + i) _ ?_ M' hp)⟩, fun q => absurd (Int.le_refl _) q⟩
    unfold pWord
    rw [← el, hc]
    rfl
  | cons x r ih =>
    intro i M ed hi h hc
    have hl : i < (wdT l).length := by
      have := congrArg List.length ed
      rw [List.length_drop, List.length_cons] at this
      omega
    have hx : (wdT l)[i]? = some x := by
      have := congrArg List.head? ed
      rw [List.head?_drop, List.head?_cons] at this
      exact this
    have hxb := j4 x (List.mem_of_getElem? hx)
    have hn := h.1.2.2.1
    have hsb := hn.b (at0 + i)
    unfold V_X4_readWord_22 V_J0_length_8abf5
    refine ⟨j1, kI_i ?_⟩
    rw [j2, List.length_map, show Int32.ofNat (wdT l).length = i32 ((wdT l).length : Nat) from Int32.ofInt_eq_ofNat.symm, i32_le (by omega) (by omega) (by omega) (by omega)]
    refine ⟨fun q => absurd q (by omega), fun _ => ⟨h.1.1.1, h.lk (kI_i ⟨j1, ?_⟩)⟩⟩
    unfold V_J0_charAt_5068e
    refine ⟨by rw [j2, List.length_map]; exact i32_in (by omega) (by omega) (by omega), kI_i ?_⟩
    have hch : ((wdT l).map i32).getD i 0 = i32 x := by rw [List.getD_eq_getElem?_getD, List.getElem?_map, hx]; rfl
    rw [i32_clamp (by omega) (by omega), Int.toNat_natCast, j2, hch, i32_eq (by omega) (by omega) (by omega) (by omega)]
    refine ⟨fun q => ⟨h.1.1.1, fun M17 e17 x18 e18 => ?_⟩, fun q => ⟨h.1.1.1, ?_⟩⟩
    · subst e17; subst e18
      rw [q_1, i32_add, show ((i : Nat) : Int) + 1 = ((i + 1 : Nat) : Int) by omega]
      have hp := h.adv (hn.lt (by omega))
      rw [q_1] at hp
      refine ih (i + 1) _ ?_ (by omega) hp ?_
      · rw [← List.drop_drop, ed]; rfl
      · rw [hc]
        conv => lhs; unfold pChr
        rw [if_pos q]; rfl
    · rw [h.2.2.1, show (1 : Int32) = i32 ((1 : Nat)) by decide]
      refine s_fail h (by omega) (fun M' hp => kV_i (hF 1 (at0 + i) ?_ M' hp))
      unfold pWord
      rw [← el, hc]
      unfold pChr
      rw [if_neg q]; rfl
theorem s_word {K : Rs → Mm → Prop} {e : Ev} {M : Mm} {at_ : Nat} {c : Ct} (ha : at_ < eN e) (h : PO e M at_ c) (hO : ∀ a1 c', pWord (eS e) (at_ + 1) c = .inr (a1, c') → ∀ M', PO e M' a1 c' → K (.inl none) M') (hF : ∀ co pl, pWord (eS e) (at_ + 1) c = .inl (co, pl) → ∀ M', PF e M' co pl → K (.inl none) M') : V_X4_readWord K M (eT e) := by
  have hp := h.adv ha
  have hn := h.1.2.2.1
  have hsb := hn.b (at_ + 1)
  unfold V_X4_readWord
  refine ⟨h.1.1.1, fun M2 e2 => ?_⟩
  subst e2
  refine hp.lk (kI_i ?_)
  have go : ∀ j, (j = if eS e (at_ + 1) = 104 then 14 else if eS e (at_ + 1) = 100 then 15 else if eS e (at_ + 1) = 119 then 16 else if eS e (at_ + 1) = 109 then 17 else 18) → ∃ y, V_X4_readWord_22 K y (sI M (eT e) 2 (mI M (eT e) 2 + 1)) (eT e) (i32 (eS e (at_ + 1))) j (i32 0) := by
    intro j ej
    exact ⟨_, s_w22 rfl ej hO hF _ 0 _ rfl (by omega) hp rfl⟩
  unfold V_X4_wordWith
  rw [q_104, q_100, q_119, q_109, i32_eq (by omega) (by omega) (by omega) (by omega), i32_eq (by omega) (by omega) (by omega) (by omega), i32_eq (by omega) (by omega) (by omega) (by omega), i32_eq (by omega) (by omega) (by omega) (by omega), q_0]
  refine ⟨fun q => go 14 (by rw [if_pos q]), fun q => go 15 (by rw [if_neg (by omega), if_pos q]), fun q => go 16 (by rw [if_neg (by omega), if_neg (by omega), if_pos q]), fun q => go 17 (by rw [if_neg (by omega), if_neg (by omega), if_neg (by omega), if_pos q]), fun q1 q2 q3 q4 => go 18 (by rw [if_neg q1, if_neg q2, if_neg q3, if_neg q4])⟩
