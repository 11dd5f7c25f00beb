/-! the model's reader: words and the whole text -/
theorem ctM_S (c : Ct) (f g : Nat) (v : Int) (b : Bool) : ctS (ctM c f v) g b = ctM (ctS c g b) f v := by
  unfold ctM
  split
  · rfl
  · split <;> rfl
theorem ctR_S (f g : Nat) (st : Int) (b : Bool) : ∀ (k : Nat) (v : Int) (c : Ct), ctS (ctR f st k v c) g b = ctR f st k v (ctS c g b)
  | 0, _, _ => rfl
  | k + 1, v, c => by
    simp only [ctR]
    rw [ctR_S f g st b k, ctM_S]
theorem ctA_S (c : Ct) (f g : Nat) (lo hi st : Int) (b : Bool) : ctS (ctA c f lo hi st) g b = ctA (ctS c g b) f lo hi st := ctR_S f g st b _ lo c
theorem s7_w5 {K : Rs → Mm → Prop} {e : E7} {c : Ct} {w : List Int} {x : Int64} (hw : w.length ≤ 7) (hx : ∀ k, k < w.length → (x >>> ((i32 ((8 * (w.length - 1 - k) : Nat))).toInt64 &&& 63)) &&& (255 : Int64) = (i32 (w.getD k 0)).toInt64) (hb : ∀ y ∈ w, 97 ≤ y ∧ y ≤ 122) {at0 : Nat}
    (hO : ∀ a1, pChr (fS e) w at0 = .inr (a1, ()) → ∀ M', QO e M' a1 c → K (.inl (some (.int 1))) M') (hF : ∀ co pl, pChr (fS e) w at0 = .inl (co, pl) → ∀ M', QF e M' co pl → K (.inl (some (.int 0))) M') :
    ∀ (rest : List Int) (i : Nat) (M : Mm), w.drop i = rest → i ≤ w.length → QO e M (at0 + i) c → pChr (fS e) w at0 = pChr (fS e) rest (at0 + i) → V_X7_word_5 K (rest.length + 1) M (fm e) x (i32 ((w.length : Nat) - 1 - (i : Nat) : Int)) := by
  intro rest
  induction rest with
  | nil =>
    intro i M ed hi h hc
    have hl : w.length = i := by
      have := congrArg List.length ed
      rw [List.length_drop, List.length_nil] at this
      omega
    unfold V_X7_word_5
    rw [q_0, i32_lt (by omega) (by omega) (by omega) (by omega)]
    refine ⟨fun _ => ?_, fun q => absurd (by omega) q⟩
    exact hO (at0 + i) (hc.trans rfl) M h
  | cons y r ih =>
    intro i M ed hi h hc
    have hl : i < w.length := by
      have := congrArg List.length ed
      rw [List.length_drop, List.length_cons] at this
      omega
    have hy : w[i]? = some y := by
      have := congrArg List.head? ed
      rw [List.head?_drop, List.head?_cons] at this
      exact this
    have hyb := hb y (List.mem_of_getElem? hy)
    have hyd : w.getD i 0 = y := by rw [List.getD_eq_getElem?_getD, hy]; rfl
    have hn := h.1.2.2.1
    have hsb := hn.b (at0 + i)
    have hxi := hx i hl
    rw [hyd] at hxi
    unfold V_X7_word_5
    rw [q_0, i32_lt (by omega) (by omega) (by omega) (by omega)]
    refine ⟨fun q => absurd q (by omega), fun _ => ⟨h.1.1.1, h.sg (kI_i ?_)⟩⟩
    rw [q_8, i32_mul, show (8 : Int) * ((w.length : Nat) - 1 - (i : Nat) : Int) = ((8 * (w.length - 1 - i) : Nat) : Int) by omega, hxi, ← q_0, lg_cmp_eq]
    have heq : ((i32 (fS e (at0 + i))).toInt64 = (i32 y).toInt64) ↔ fS e (at0 + i) = y := by
      rw [← Int64.toInt_inj, i64_of (by omega) (by omega), i64_of (by omega) (by omega)]
    rw [heq]
    refine ⟨fun q => ⟨h.1.1.1, fun M5 e5 x6 e6 => ?_⟩, fun q => ⟨h.1.1.1, ?_⟩⟩
    · subst e5; subst e6
      have hp := h.adv (hn.lt (by omega))
      rw [show (-1 : Int32) = i32 (-1) by decide, i32_add, show ((w.length : Nat) - 1 - (i : Nat) : Int) + -1 = ((w.length : Nat) - 1 - ((i + 1 : Nat) : Int) : Int) by omega]
      refine ih (i + 1) _ ?_ (by omega) hp ?_
      · rw [← List.drop_drop, ed]; rfl
      · rw [hc]
        conv => lhs; unfold pChr
        rw [if_pos q]; rfl
    · rw [h.2.2.1, show (1 : Int32) = i32 ((1 : Nat)) by decide]
      refine s7_fail h (by omega) (fun M' hp => kV_i (hF 1 (at0 + i) ?_ M' hp))
      rw [hc]
      unfold pChr
      rw [if_neg q]
theorem s7_sets {K : Rs → Mm → Prop} {e : E7} {M : Mm} {at_ : Nat} {l : Int} (hl : -1 ≤ l ∧ l ≤ 255) (h : QO e M at_ ct0) (hk : ∀ M', QO e M' at_ (ctW l ct0) → K (.inl none) M') : V_X7_short0_109 K M (fm e) (i32 l) 1 := by
  have p16 := h.1.1.p 16 10 5 (by decide)
  have z1 : (1 : Int32) = i32 ((1 : Nat)) := by decide
  have z2 : (2 : Int32) = i32 ((2 : Nat)) := by decide
  have z3 : (3 : Int32) = i32 ((3 : Nat)) := by decide
  have z4 : (4 : Int32) = i32 ((4 : Nat)) := by decide
  have add : ∀ (K' : Rs → Mm → Prop) (M : Mm) (c : Ct) (f : Nat) (lo hi : Int) (F L H : Int32), F = i32 (f : Nat) → L = i32 lo → H = i32 hi → f ≤ 4 → -1 ≤ hi ∧ hi ≤ 63 → (f = 4 → hi ≤ 7) → 0 ≤ lo ∧ lo ≤ 4000 → QO e M at_ c → (∀ M', QO e M' at_ (ctA c f lo hi 1) → K' (.inl none) M') → V_X7_range K' M (fm e) F L H 1 := by
    intro K' M c f lo hi F L H eF eL eH hf hh h4 hlo hp hk'
    rw [eF, eL, eH, q_1]
    exact s7_range (by omega) (by omega) (by omega) h4 hlo (by omega) hp hk'
  unfold V_X7_short0_109
  refine ⟨fun _ => ⟨h.1.1.1, fA e 16, p16.1, p16.2.1, by rw [p16.2.2.1]; unfold vp_in; decide, fun M5 e5 => ?_⟩, fun q => absurd q (by decide)⟩
  have h5 : QO e M5 at_ (ctA ct0 0 0 0 1) := by
    have hh := h.num (f := 0) (v := 0) (by decide)
    have e0 : mJ M (fA e 16) 0 = 0 := h.2.2.2.2.2.1 0 (by decide)
    have e1 : (0 : Int64) ||| bt 0 = 1 := by decide
    rw [e0, e1] at hh
    rw [e5]
    exact hh
  have w146 : ∀ H : Int32, H = i32 (if l = 104 then 23 else 0) → V_X7_short0_146 K M5 (fm e) (i32 l) (fm e) (1 : Int32) (0 : Int32) H := by
    intro H eH
    unfold V_X7_short0_146
    refine ⟨h5.1.1.1, add _ M5 _ 1 0 _ _ _ _ z1 q_0 eH (by decide) (by split <;> omega) (by omega) (by decide) h5 (fun M2 h2 => kV_i ?_)⟩
    have w171 : ∀ H : Int32, H = i32 (if l = 109 ∨ l = 121 then 1 else 31) → V_X7_short0_171 K M2 (fm e) (i32 l) (fm e) (2 : Int32) (1 : Int32) H := by
      intro H eH
      unfold V_X7_short0_171
      refine ⟨h2.1.1.1, add _ M2 _ 2 1 _ _ _ _ z2 q_1 eH (by decide) (by split <;> omega) (by omega) (by decide) h2 (fun M3 h3 => kV_i ?_)⟩
      have w190 : ∀ H : Int32, H = i32 (if l = 121 then 1 else 12) → V_X7_short0_190 K M3 (fm e) (i32 l) (fm e) (3 : Int32) (1 : Int32) H := by
        intro H eH
        unfold V_X7_short0_190
        refine ⟨h3.1.1.1, add _ M3 _ 3 1 _ _ _ _ z3 q_1 eH (by decide) (by split <;> omega) (by omega) (by decide) h3 (fun M4 h4 => kV_i ?_)⟩
        have w209 : ∀ H : Int32, H = i32 (if l = 119 then 0 else 6) → V_X7_short0_209 K M4 (fm e) (i32 l) (fm e) (4 : Int32) (0 : Int32) H := by
          intro H eH
          unfold V_X7_short0_209
          refine ⟨h4.1.1.1, add _ M4 _ 4 0 _ _ _ _ z4 q_0 eH (by decide) (by split <;> omega) (by split <;> omega) (by decide) h4 (fun M6 h6 => kV_i ?_)⟩
          have w231 : ∀ b : Bool, b = decide (¬ (l = 109 ∨ l = 121)) → V_X7_short0_231 K M6 (fm e) (i32 l) (fm e) (bI b) := by
            intro b eb
            unfold V_X7_short0_231
            refine ⟨h6.1.1.1, bI_01 b, fun M7 e7 => ?_⟩
            subst e7
            have h7 := h6.star2 (b := b)
            have w246 : ∀ b2 : Bool, b2 = decide (¬ l = 119) → V_X7_short0_246 K (sI M6 (fm e) 24 (bI b)) (fm e) (bI b2) := by
              intro b2 eb2
              unfold V_X7_short0_246
              refine ⟨h7.1.1.1, bI_01 b2, fun M8 e8 => ?_⟩
              subst e8
              apply hk
              have h8 := h7.star4 (b := b2)
              have : ctS (ctS (ctA (ctA (ctA (ctA (ctA ct0 0 0 0 1) 1 0 (if l = 104 then 23 else 0) 1) 2 1 (if l = 109 ∨ l = 121 then 1 else 31) 1) 3 1 (if l = 121 then 1 else 12) 1) 4 0 (if l = 119 then 0 else 6) 1) 2 b) 4 b2 = ctW l ct0 := by
                unfold ctW
                rw [← eb, ← eb2]
                simp only [ctA_S]
              rw [this] at h8
              exact h8
            rw [q_119, i32_eq (by omega) (by omega) (by omega) (by omega)]
            exact ⟨fun q => w246 false (by rw [eq_comm, decide_eq_false_iff_not]; exact fun c => c q), fun q => w246 true (by rw [eq_comm, decide_eq_true_iff]; exact q)⟩
          unfold V_X7_short0_230
          rw [q_109, q_121, i32_eq (by omega) (by omega) (by omega) (by omega), i32_eq (by omega) (by omega) (by omega) (by omega)]
          exact ⟨fun q => w231 false (by rw [eq_comm, decide_eq_false_iff_not]; omega), fun q => ⟨fun q2 => w231 false (by rw [eq_comm, decide_eq_false_iff_not]; omega), fun q2 => w231 true (by rw [eq_comm, decide_eq_true_iff]; omega)⟩⟩
        rw [q_119, i32_eq (by omega) (by omega) (by omega) (by omega)]
        exact ⟨fun q => w209 _ (by rw [if_neg q]; exact q_6), fun q => w209 _ (by rw [if_pos q]; exact q_0)⟩
      rw [q_121, i32_eq (by omega) (by omega) (by omega) (by omega)]
      exact ⟨fun q => w190 _ (by rw [if_neg q]; exact q_12), fun q => w190 _ (by rw [if_pos q]; exact q_1)⟩
    unfold V_X7_short0_165
    rw [q_109, q_121, i32_eq (by omega) (by omega) (by omega) (by omega), i32_eq (by omega) (by omega) (by omega) (by omega)]
    exact ⟨fun q => w171 _ (by rw [if_pos (.inl q)]; exact q_1), fun q => ⟨fun q2 => w171 _ (by rw [if_neg (by omega)]; exact q_31), fun q2 => w171 _ (by rw [if_pos (.inr q2)]; exact q_1)⟩⟩
  rw [q_104, i32_eq (by omega) (by omega) (by omega) (by omega)]
  exact ⟨fun q => w146 _ (by rw [if_neg q]; exact q_0), fun q => w146 _ (by rw [if_pos q]; exact q_23)⟩
theorem wd_x : (∀ k, k < (wdT 104).length → ((114827921091705 : Int64) >>> ((i32 ((8 * ((wdT 104).length - 1 - k) : Nat))).toInt64 &&& 63)) &&& (255 : Int64) = (i32 ((wdT 104).getD k 0)).toInt64) ∧ (∀ k, k < (wdT 100).length → ((431131028601 : Int64) >>> ((i32 ((8 * ((wdT 100).length - 1 - k) : Nat))).toInt64 &&& 63)) &&& (255 : Int64) = (i32 ((wdT 100).getD k 0)).toInt64) ∧ (∀ k, k < (wdT 119).length → ((131277376941177 : Int64) >>> ((i32 ((8 * ((wdT 119).length - 1 - k) : Nat))).toInt64 &&& 63)) &&& (255 : Int64) = (i32 ((wdT 119).getD k 0)).toInt64) ∧ (∀ k, k < (wdT 109).length → ((30803292651547769 : Int64) >>> ((i32 ((8 * ((wdT 109).length - 1 - k) : Nat))).toInt64 &&& 63)) &&& (255 : Int64) = (i32 ((wdT 109).getD k 0)).toInt64) ∧ (∀ k, k < (wdT 121).length → ((133476333546617 : Int64) >>> ((i32 ((8 * ((wdT 121).length - 1 - k) : Nat))).toInt64 &&& 63)) &&& (255 : Int64) = (i32 ((wdT 121).getD k 0)).toInt64) := by decide +kernel
theorem s7_short {K : Rs → Mm → Prop} {e : E7} {M : Mm} {at_ : Nat} (ha : at_ < fN e) (h : QO e M at_ ct0) (hO : ∀ a1 c', pWord (fS e) (at_ + 1) ct0 = .inr (a1, c') → ∀ M', QO e M' a1 c' → K (.inl none) M') (hF : ∀ co pl, pWord (fS e) (at_ + 1) ct0 = .inl (co, pl) → ∀ M', QF e M' co pl → K (.inl none) M') : V_X7_short0 K M (fm e) := by
  have hp := h.adv ha
  have hn := h.1.2.2.1
  have hsb := hn.b (at_ + 1)
  unfold pWord at hO hF
  unfold V_X7_short0
  refine ⟨h.1.1.1, fun M2 e2 => ?_⟩
  subst e2
  refine hp.sg (kI_i ?_)
  have c109F : ∀ (M' : Mm) (co pl : Nat), pChr (fS e) (wdT (fS e (at_ + 1))) (at_ + 1) = .inl (co, pl) → QF e M' co pl → V_X7_short0_109 K M' (fm e) (i32 (fS e (at_ + 1))) 0 := by
    intro M' co pl e1 hq
    rw [e1] at hF
    unfold V_X7_short0_109
    exact ⟨fun q => absurd rfl q, fun _ => ⟨hq.1.1.1, s7_failF hq (kV_i (hF co pl rfl M' hq))⟩⟩
  have c109O : ∀ (M' : Mm) (a1 : Nat), pChr (fS e) (wdT (fS e (at_ + 1))) (at_ + 1) = .inr (a1, ()) → QO e M' a1 ct0 → V_X7_short0_109 K M' (fm e) (i32 (fS e (at_ + 1))) 1 := by
    intro M' a1 e1 hq
    rw [e1] at hO
    exact s7_sets (by omega) hq (fun M2 hp2 => hO a1 _ rfl M2 hp2)
  have wrd : ∀ (L : Int) (x : Int64) (N : Int32), fS e (at_ + 1) = L → N = i32 ((wdT L).length : Nat) → (wdT L).length ≤ 7 → (∀ y ∈ wdT L, 97 ≤ y ∧ y ≤ 122) → (∀ k, k < (wdT L).length → (x >>> ((i32 ((8 * ((wdT L).length - 1 - k) : Nat))).toInt64 &&& 63)) &&& (255 : Int64) = (i32 ((wdT L).getD k 0)).toInt64) → ∀ K' : Rs → Mm → Prop, (∀ M' a1, pChr (fS e) (wdT (fS e (at_ + 1))) (at_ + 1) = .inr (a1, ()) → QO e M' a1 ct0 → K' (.inl (some (.int 1))) M') → (∀ M' co pl, pChr (fS e) (wdT (fS e (at_ + 1))) (at_ + 1) = .inl (co, pl) → QF e M' co pl → K' (.inl (some (.int 0))) M') → V_X7_word K' (sI M (fm e) 12 (mI M (fm e) 12 + 1)) (fm e) x N := by
    intro L x N eL eN h7 hb hx K' k1 k2
    unfold V_X7_word
    intro x1 ex
    rw [eN, q_1, i32_sub] at ex
    subst ex
    rw [eL] at k1 k2
    refine ⟨(wdT L).length + 1, ?_⟩
    have := s7_w5 (K := K') h7 hx hb (fun a1 e1 M' hq => k1 M' a1 e1 hq) (fun co pl e1 M' hq => k2 M' co pl e1 hq) (wdT L) 0 _ rfl (by omega) hp rfl
    rw [show (((wdT L).length : Nat) - 1 - ((0 : Nat) : Int) : Int) = ((wdT L).length : Nat) - 1 by omega] at this
    exact this
  have tw := fun (l : Int) => tx_wd l _ rfl
  rw [q_104, q_100, q_119, q_109, q_121, i32_eq (by omega) (by omega) (by omega) (by omega), i32_eq (by omega) (by omega) (by omega) (by omega), i32_eq (by omega) (by omega) (by omega) (by omega), i32_eq (by omega) (by omega) (by omega) (by omega), i32_eq (by omega) (by omega) (by omega) (by omega)]
  refine ⟨fun w1 => ⟨fun w2 => ⟨fun w3 => ⟨fun w4 => ⟨fun w5 => ?_, fun w5 => ⟨hp.1.1.1, ?_⟩⟩, fun w4 => ⟨hp.1.1.1, ?_⟩⟩, fun w3 => ⟨hp.1.1.1, ?_⟩⟩, fun w2 => ⟨hp.1.1.1, ?_⟩⟩, fun w1 => ⟨hp.1.1.1, ?_⟩⟩
  · have ew : wdT (fS e (at_ + 1)) = wdT 121 := by unfold wdT; rw [if_neg w1, if_neg w2, if_neg w3, if_neg w4]; rfl
    have e1 : pChr (fS e) (wdT (fS e (at_ + 1))) (at_ + 1) = .inl (1, at_ + 1) := by
      rw [ew]
      show pChr (fS e) (121 :: _) (at_ + 1) = _
      unfold pChr
      rw [if_neg w5]
    rw [e1] at hF
    unfold V_X7_short0_108 V_X7_short0_109
    refine ⟨fun q => absurd rfl q, fun _ => ⟨hp.1.1.1, ?_⟩⟩
    rw [hp.2.2.1, show (1 : Int32) = i32 ((1 : Nat)) by decide]
    exact s7_fail hp (by omega) (fun M' hq => kV_i (hF 1 (at_ + 1) rfl M' hq))
  · refine wrd 121 _ _ w5 (by decide) (tw 121).2.2.1 (tw 121).2.2.2 wd_x.2.2.2.2 _ (fun M' a1 e1 hq => kI_i ⟨fun q => absurd q (by decide), fun _ => c109O M' a1 e1 hq⟩) (fun M' co pl e1 hq => kI_i ⟨fun _ => ?_, fun q => absurd rfl q⟩)
    unfold V_X7_short0_108
    exact c109F M' co pl e1 hq
  · exact wrd 109 _ _ w4 (by decide) (tw 109).2.2.1 (tw 109).2.2.2 wd_x.2.2.2.1 _ (fun M' a1 e1 hq => kI_i (c109O M' a1 e1 hq)) (fun M' co pl e1 hq => kI_i (c109F M' co pl e1 hq))
  · exact wrd 119 _ _ w3 (by decide) (tw 119).2.2.1 (tw 119).2.2.2 wd_x.2.2.1 _ (fun M' a1 e1 hq => kI_i (c109O M' a1 e1 hq)) (fun M' co pl e1 hq => kI_i (c109F M' co pl e1 hq))
  · exact wrd 100 _ _ w2 (by decide) (tw 100).2.2.1 (tw 100).2.2.2 wd_x.2.1 _ (fun M' a1 e1 hq => kI_i (c109O M' a1 e1 hq)) (fun M' co pl e1 hq => kI_i (c109F M' co pl e1 hq))
  · exact wrd 104 _ _ w1 (by decide) (tw 104).2.2.1 (tw 104).2.2.2 wd_x.1 _ (fun M' a1 e1 hq => kI_i (c109O M' a1 e1 hq)) (fun M' co pl e1 hq => kI_i (c109F M' co pl e1 hq))
theorem s7_212 {K : Rs → Mm → Prop} {e : E7} {M : Mm} {at_ : Nat} {c : Ct} (h : QO e M at_ c) (hO : ∀ a1 c', pFin (fS e) (fN e) at_ c = .inr (a1, c') → ∀ M', QO e M' a1 c' → K (.inl none) M') (hF : ∀ co pl, pFin (fS e) (fN e) at_ c = .inl (co, pl) → ∀ M', QF e M' co pl → K (.inl none) M') : V_X7_readText_212 K M (fm e) := by
  have hn := h.1.2.2.1
  have hn1 := hn.1
  have hs := skp_at hn (161 - at_) at_ h.2.2.2.1
  unfold pFin at hO hF
  unfold V_X7_readText_212 V_X7_readText_236
  refine ⟨h.1.1.1, s7_blanks h (fun M2 h2 => kV_i ⟨h2.1.1.1, ?_⟩)⟩
  rw [h2.1.2.1, h2.2.2.1, i32_le (by omega) (by omega) (by omega) (by omega)]
  refine ⟨fun q => ?_, fun q => ?_⟩
  · rw [if_neg (by omega)] at hO
    exact hO _ _ rfl M2 h2
  · rw [if_pos (by omega)] at hF
    rw [show (1 : Int32) = i32 ((1 : Nat)) by decide]
    exact s7_fail h2 (by omega) (fun M' hp => kV_i (hF _ _ rfl M' hp))
theorem s7_212F {K : Rs → Mm → Prop} {e : E7} {M : Mm} {co pl : Nat} (h : QF e M co pl) (hk : ∀ M', QF e M' co pl → K (.inl none) M') : V_X7_readText_212 K M (fm e) := by
  unfold V_X7_readText_212 V_X7_readText_236
  exact ⟨h.1.1.1, s7_blanksF h (fun M2 h2 => kV_i ⟨h2.1.1.1, fun _ => hk M2 h2, fun _ => s7_failF h2 (kV_i (hk M2 h2))⟩)⟩
theorem s7_175 {K : Rs → Mm → Prop} {e : E7} {M : Mm} {at_ f : Nat} {c : Ct} (h : QO e M at_ c) (hO : ∀ a1 c', pBn (pFlds (fS e) 0 f at_ c) (pFin (fS e) (fN e)) = .inr (a1, c') → ∀ M', QO e M' a1 c' → K (.inl none) M') (hF : ∀ co pl, pBn (pFlds (fS e) 0 f at_ c) (pFin (fS e) (fN e)) = .inl (co, pl) → ∀ M', QF e M' co pl → K (.inl none) M') : V_X7_readText_175 K M (fm e) := by
  have hn := h.1.2.2.1
  have hsb := hn.b at_
  unfold pFlds at hO hF
  unfold V_X7_readText_175
  refine ⟨h.1.1.1, fun q => absurd h.2.2.2.2.1 q, fun _ => h.sg (kI_i ?_)⟩
  rw [q_32, i32_eq (by omega) (by omega) (by omega) (by omega)]
  refine ⟨fun q => ?_, fun q => ⟨h.1.1.1, s7_blanks h (fun M5 h5 => kV_i ⟨h5.1.1.1, h5.sg (kI_i ?_)⟩)⟩⟩
  · rw [if_neg q] at hO hF
    exact s7_212 h hO hF
  · have hs5 := hn.b (skp (fS e) (161 - at_) at_)
    rw [if_pos q] at hO hF
    rw [q_0, i32_lt (by omega) (by omega) (by omega) (by omega)]
    refine ⟨fun q2 => ?_, fun q2 => ⟨h5.1.1.1, fun M10 e10 => ?_⟩⟩
    · rw [if_pos (by omega)] at hO hF
      exact s7_212 h5 hO hF
    · rw [if_neg (by omega)] at hO hF
      have h10 := h5.told (decide (fS e (skp (fS e) (161 - at_) at_) = 42))
      rw [q_0] at h10
      rw [← e10] at h10
      rw [show (5 : Int32) = i32 ((5 : Nat)) by decide]
      refine s7_field (by omega) (by rw [if_pos rfl]; exact h10) (fun a1 c1 e3 M' hp => kV_i ?_) (fun co pl e3 M' hp => kV_i ?_)
      · rw [e3] at hO hF
        exact s7_212 hp hO hF
      · rw [e3] at hF
        exact s7_212F hp (fun M2 hp2 => hF co pl rfl M2 hp2)
theorem s7_175F {K : Rs → Mm → Prop} {e : E7} {M : Mm} {co pl : Nat} (h : QF e M co pl) (hk : ∀ M', QF e M' co pl → K (.inl none) M') : V_X7_readText_175 K M (fm e) := by
  unfold V_X7_readText_175
  exact ⟨h.1.1.1, fun _ => s7_212F h hk, fun q => absurd q h.ne⟩
theorem s7_119F {K : Rs → Mm → Prop} {e : E7} {M : Mm} {co pl : Nat} {x : Int32} (h : QF e M co pl) (hk : ∀ M', QF e M' co pl → K (.inl none) M') (z : Nat) : V_X7_readText_119 K (z + 1) M (fm e) x := by
  unfold V_X7_readText_119
  exact ⟨fun _ => s7_175F h hk, fun _ => ⟨h.1.1.1, fun _ => s7_175F h hk, fun q => absurd q h.ne⟩⟩
theorem s7_119 {K : Rs → Mm → Prop} {e : E7} : ∀ (k f : Nat) (M : Mm) (at_ : Nat) (c : Ct), f + k = 5 → 1 ≤ f → QO e M at_ c → (∀ a1 c', pBn (pFlds (fS e) k f at_ c) (pFin (fS e) (fN e)) = .inr (a1, c') → ∀ M', QO e M' a1 c' → K (.inl none) M') → (∀ co pl, pBn (pFlds (fS e) k f at_ c) (pFin (fS e) (fN e)) = .inl (co, pl) → ∀ M', QF e M' co pl → K (.inl none) M') → V_X7_readText_119 K (k + 1) M (fm e) (i32 (f : Nat)) := by
  intro k
  induction k with
  | zero =>
    intro f M at_ c e1 e2 h hO hF
    unfold V_X7_readText_119
    rw [q_5, i32_le (by omega) (by omega) (by omega) (by omega)]
    exact ⟨fun _ => s7_175 h hO hF, fun q => absurd (by omega) q⟩
  | succ k ih =>
    intro f M at_ c e1 e2 h hO hF
    have hn := h.1.2.2.1
    have hsb := hn.b at_
    unfold V_X7_readText_119 V_X7_readText_153 V_X7_readText_157 V_X7_readText_169
    rw [q_5, i32_le (by omega) (by omega) (by omega) (by omega), q_0, i32_le (by omega) (by omega) (by omega) (by omega), ← q_0]
    refine ⟨fun q => absurd q (by omega), fun _ => ⟨h.1.1.1, fun q => absurd h.2.2.2.2.1 q, fun _ => ⟨fun q => absurd q (by omega), fun _ => h.sg (kI_i ?_)⟩⟩⟩
    rw [q_32, i32_eq (by omega) (by omega) (by omega) (by omega)]
    refine ⟨fun q => ⟨h.1.1.1, s7_blanks h (fun M2 h2 => kV_i ⟨h2.1.1.1, fun q => absurd h2.2.2.2.2.1 q, fun _ => ?_⟩)⟩, fun q => ⟨h.1.1.1, ?_⟩⟩
    · have ef : pFlds (fS e) (k + 1) f at_ c = pBn (pField (fS e) f (skp (fS e) (161 - at_) at_) c) (fun a1 c1 => pFlds (fS e) k (f + 1) a1 c1) := by conv => lhs; unfold pFlds; rw [if_pos q]
      rw [ef] at hO hF
      refine s7_field (by omega) (by rw [if_neg (by omega)]; exact h2) (fun a1 c1 e3 M' hp => kV_i (fun x1 ex => ?_)) (fun co pl e3 M' hp => kV_i (fun x1 ex => ?_))
      · subst ex
        rw [e3] at hO hF
        rw [q_1, i32_add, show ((f : Nat) : Int) + 1 = ((f + 1 : Nat) : Int) by omega]
        exact ih (f + 1) M' a1 c1 (by omega) (by omega) hp hO hF
      · rw [e3] at hF
        exact s7_119F hp (fun M2 hp2 => hF co pl rfl M2 hp2) k
    · have ef : pFlds (fS e) (k + 1) f at_ c = .inl (1, at_) := by conv => lhs; unfold pFlds; rw [if_neg q]
      rw [ef] at hF
      rw [h.2.2.1, show (1 : Int32) = i32 ((1 : Nat)) by decide]
      refine s7_fail h (by omega) (fun M' hp => kV_i ⟨hp.1.1.1, s7_blanksF hp (fun M2 hp2 => kV_i ⟨hp2.1.1.1, fun _ x1 ex => ?_, fun q => absurd q hp2.ne⟩)⟩)
      exact s7_119F hp2 (fun M3 hp3 => hF 1 at_ rfl M3 hp3) k
theorem s7_37 {K : Rs → Mm → Prop} {e : E7} (hO : ∀ a1 c', pText (fS e) (fN e) = .inr (a1, c') → ∀ M', QO e M' a1 c' → K (.inl none) M') (hF : ∀ co pl, pText (fS e) (fN e) = .inl (co, pl) → ∀ M', QF e M' co pl → K (.inl none) M') :
    ∀ (k i : Nat) (M : Mm), i + k = 300 → En7 e M → Fm e M → mI M (fm e) 12 = i32 0 → mI M (fm e) 13 = 0 → (∀ f, f < 5 → mJ M (fA e 16) f = 0) → (∀ y, y < i → mI M (fA e 17) y = 0) → V_X7_readText_37 K (k + 1) M (fm e) (i32 (i : Nat)) := by
  intro k
  induction k with
  | zero =>
    intro i M e1 h1 h2 h12 h13 h3 h4
    have n16 := h1.n (i := 16) (c := 10) (n := 5) (by decide)
    have n17 := h1.n (i := 17) (c := 11) (n := 300) (by decide)
    unfold V_X7_readText_37
    rw [q_300, i32_le (by omega) (by omega) (by omega) (by omega)]
    refine ⟨fun _ => ⟨h1.1.1, fun M2 e2 M3 e3 M4 e4 M5 e5 M6 e6 M7 e7 M8 e8 M9 e9 => ?_⟩, fun q => absurd (by omega) q⟩
    have h9 : QO e M9 0 ct0 := by
      subst e2; subst e3; subst e4; subst e5; subst e6; subst e7; subst e8; subst e9
      simp only [sI_w, sJ_w]
      have rd : ∀ k q : Nat, (q = 18 ∨ q = 20 ∨ q = 24 ∨ q = 25) → rdP k = false → k ≠ q := fun k q hq c1 c2 => by
        subst c2; unfold rdP at c1; rw [decide_eq_false_iff_not] at c1; omega
      refine ⟨?_, ?_, ?_, by omega, ?_, ?_⟩
      · refine En7.wm (En7.wm (En7.wj (En7.wj (En7.wj (En7.wm (En7.wj (En7.wm h1 _ ?_) _ _) _ ?_) _ _) _ _) _ _) _ ?_) _ ?_ <;> rw [va_up_ne _ _ (by decide)]
      · refine Fm.wm (Fm.wm (Fm.wj (Fm.wj (Fm.wj (Fm.wm (Fm.wj (Fm.wm h2 _ ?_) _ (.inl rfl) _) _ ?_) _ (.inl rfl) _) _ (.inl rfl) _) _ (.inl rfl) _) _ ?_) _ ?_
        · exact fun k hk => by rw [va_up_ne _ _ (rd k 18 (by omega) hk)]
        · exact fun k hk => by rw [va_up_ne _ _ (rd k 20 (by omega) hk)]
        · exact fun k hk => by rw [va_up_ne _ _ (rd k 24 (by omega) hk)]
        · exact fun k hk => by rw [va_up_ne _ _ (rd k 25 (by omega) hk)]
      · simp only [mI_w, mI_wJ]
        simp only [va_up_ne _ _ (show (12 : Nat) ≠ 25 by decide), va_up_ne _ _ (show (12 : Nat) ≠ 24 by decide), va_up_ne _ _ (show (12 : Nat) ≠ 20 by decide), va_up_ne _ _ (show (12 : Nat) ≠ 18 by decide)]
        exact h12
      · simp only [mI_w, mI_wJ]
        simp only [va_up_ne _ _ (show (13 : Nat) ≠ 25 by decide), va_up_ne _ _ (show (13 : Nat) ≠ 24 by decide), va_up_ne _ _ (show (13 : Nat) ≠ 20 by decide), va_up_ne _ _ (show (13 : Nat) ≠ 18 by decide)]
        exact h13
      · simp only [CtM, mI_w, mJ_w, mI_wJ, mJ_wI, mJ_wn _ _ n16, mI_wn _ _ n17]
        refine ⟨fun f hf => by rw [h3 f hf]; rfl, fun y hy => by rw [h4 y (by omega)]; rfl, ?_, ?_, ?_, ?_, ?_, ?_, ?_, fun j n _ _ _ => ?_⟩
        all_goals simp [va_up, bI, ct0, cTo, cDs, cWs, cBl, cLw, cNe, cLd, cKw, bj_0]
    have hn := h1.2.2.1
    have hsk := skp_at hn 161 0 (by omega)
    have hsb := hn.b (skp (fS e) 161 0)
    unfold pText at hO hF
    refine s7_blanks h9 (fun M10 h10 => kV_i ⟨h10.1.1.1, h10.sg (kI_i ?_)⟩)
    rw [show (161 - 0 : Nat) = 161 by rfl] at h10 ⊢
    rw [show (64 : Int32) = i32 64 by decide, i32_eq (by omega) (by omega) (by omega) (by omega)]
    refine ⟨fun q => ?_, fun q => ⟨h10.1.1.1, ?_⟩⟩
    · rw [if_neg q] at hO hF
      refine ⟨6, ?_⟩
      unfold V_X7_readText_119 V_X7_readText_157 V_X7_readText_169
      refine ⟨fun c => absurd c (by decide), fun _ => ⟨h10.1.1.1, fun c => absurd h10.2.2.2.2.1 c, fun _ => ⟨fun _ => ⟨h10.1.1.1, fun c => absurd h10.2.2.2.2.1 c, fun _ => ?_⟩, fun c => absurd (by decide) c⟩⟩⟩
      rw [show (0 : Int32) = i32 ((0 : Nat)) by decide]
      refine s7_field (by omega) (by rw [if_neg (by decide)]; exact h10) (fun a1 c1 e3 M' hp => kV_i (fun x1 ex => ?_)) (fun co pl e3 M' hp => kV_i (fun x1 ex => ?_))
      · subst ex
        rw [e3] at hO hF
        exact s7_119 4 1 M' a1 c1 (by omega) (by omega) hp hO hF
      · rw [e3] at hF
        exact s7_119F hp (fun M2 hp2 => hF co pl rfl M2 hp2) 4
    · rw [if_pos q] at hO hF
      refine s7_short (hn.lt (by omega)) h10 (fun a1 c1 e3 M' hp => kV_i ?_) (fun co pl e3 M' hp => kV_i ?_)
      · rw [e3] at hO hF
        exact s7_212 hp hO hF
      · rw [e3] at hF
        exact s7_212F hp (fun M2 hp2 => hF co pl rfl M2 hp2)
  | succ k ih =>
    intro i M e1 h1 h2 h12 h13 h3 h4
    have p17 := h1.1.p 17 11 300 (by decide)
    unfold V_X7_readText_37
    rw [q_300, i32_le (by omega) (by omega) (by omega) (by omega)]
    refine ⟨fun q => absurd q (by omega), fun _ => ⟨h1.1.1, fA e 17, p17.1, p17.2.1, by rw [p17.2.2.1]; exact i32_in (by omega) (by omega) (by omega), fun M20 e20 x21 e21 => ?_⟩⟩
    subst e20; subst e21
    rw [i32_clamp (by omega) (by omega), Int.toNat_natCast, nar_0, q_1, i32_add, show ((i : Nat) : Int) + 1 = ((i + 1 : Nat) : Int) by omega, sI_w]
    refine ih (i + 1) _ (by omega) (h1.wy _) (h2.wy p17.2.2.2 _) ?_ ?_ h3 (fun y hy => ?_)
    · rw [mI_wn _ _ p17.2.2.2.symm]; exact h12
    · rw [mI_wn _ _ p17.2.2.2.symm]; exact h13
    · rw [mI_w]
      by_cases q : y = i
      · subst q; rw [va_up_self]
      · rw [va_up_ne _ _ q]; exact h4 y (by omega)
theorem s7_17 {K : Rs → Mm → Prop} {e : E7} (hO : ∀ a1 c', pText (fS e) (fN e) = .inr (a1, c') → ∀ M', QO e M' a1 c' → K (.inl none) M') (hF : ∀ co pl, pText (fS e) (fN e) = .inl (co, pl) → ∀ M', QF e M' co pl → K (.inl none) M') :
    ∀ (k i : Nat) (M : Mm), i + k = 5 → En7 e M → Fm e M → mI M (fm e) 12 = i32 0 → mI M (fm e) 13 = 0 → (∀ f, f < i → mJ M (fA e 16) f = 0) → V_X7_readText_17 K (k + 1) M (fm e) (i32 (i : Nat)) := by
  intro k
  induction k with
  | zero =>
    intro i M e1 h1 h2 h12 h13 h3
    unfold V_X7_readText_17
    rw [q_5, i32_le (by omega) (by omega) (by omega) (by omega)]
    exact ⟨fun _ => ⟨301, s7_37 hO hF 300 0 M (by omega) h1 h2 h12 h13 (fun f hf => h3 f (by omega)) (fun y hy => absurd hy (Nat.not_lt_zero _))⟩, fun q => absurd (by omega) q⟩
  | succ k ih =>
    intro i M e1 h1 h2 h12 h13 h3
    have p16 := h1.1.p 16 10 5 (by decide)
    unfold V_X7_readText_17
    rw [q_5, i32_le (by omega) (by omega) (by omega) (by omega)]
    refine ⟨fun q => absurd q (by omega), fun _ => ⟨h1.1.1, fA e 16, p16.1, p16.2.1, by rw [p16.2.2.1]; exact i32_in (by omega) (by omega) (by omega), fun M5 e5 x6 e6 => ?_⟩⟩
    subst e5; subst e6
    rw [i32_clamp (by omega) (by omega), Int.toNat_natCast, q_1, i32_add, show ((i : Nat) : Int) + 1 = ((i + 1 : Nat) : Int) by omega, sJ_w]
    refine ih (i + 1) _ (by omega) (h1.wj _ _) (h2.wj _ (.inr rfl) _) h12 h13 (fun f hf => ?_)
    rw [mJ_w]
    by_cases q : f = i
    · subst q; rw [va_up_self]
    · rw [va_up_ne _ _ q]; exact h3 f (by omega)
theorem s7_text {K : Rs → Mm → Prop} {e : E7} {M : Mm} (eM0 : fM e = M) (h : En7 e M) (hO : ∀ a1 c', pText (fS e) (fN e) = .inr (a1, c') → ∀ M', QO e M' a1 c' → K (.inl none) M') (hF : ∀ co pl, pText (fS e) (fN e) = .inl (co, pl) → ∀ M', QF e M' co pl → K (.inl none) M') : V_X7_readText K M (fm e) := by
  have hfm : Fm e M := by rw [← eM0]; exact ⟨rfl, rfl, rfl, rfl, fun _ _ _ => rfl, fun _ _ _ => rfl, fun _ _ => rfl⟩
  unfold V_X7_readText
  refine ⟨h.1.1, fun M2 e2 M3 e3 M4 e4 => ⟨6, ?_⟩⟩
  subst e2; subst e3; subst e4
  simp only [sI_w, wI_wI, mI_w]
  have rd : ∀ k q : Nat, (q = 12 ∨ q = 13 ∨ q = 14) → rdP k = false → k ≠ q := fun k q hq c1 c2 => by
    subst c2; unfold rdP at c1; rw [decide_eq_false_iff_not] at c1; omega
  refine s7_17 hO hF 5 0 _ (by omega) (h.wm _ ?_) (hfm.wm _ (fun k hk => ?_)) ?_ ?_ (fun f hf => absurd hf (Nat.not_lt_zero _))
  · rw [va_up_ne _ _ (by decide), va_up_ne _ _ (by decide), va_up_ne _ _ (by decide)]
  · rw [va_up_ne _ _ (rd k 14 (by omega) hk), va_up_ne _ _ (rd k 13 (by omega) hk), va_up_ne _ _ (rd k 12 (by omega) hk)]
  · rw [mI_w, va_up_ne _ _ (by decide), va_up_ne _ _ (by decide), va_up_self]; decide
  · rw [mI_w, va_up_ne _ _ (by decide), va_up_self]
