/-! the model's reader: items, fields, texts -/
theorem s7_aft {K : Rs → Mm → Prop} {e : E7} {M : Mm} {f at_ : Nat} {v : Int} {c : Ct} (hf : f ≤ 5) (hv : tL f ≤ v ∧ v ≤ tG f) (h : QO e M at_ c) (hO : ∀ a1 c', pAft (fS e) f at_ v c = .inr (a1, c') → ∀ M', QO e M' a1 c' → K (.inl none) M') (hF : ∀ co pl, pAft (fS e) f at_ v c = .inl (co, pl) → ∀ M', QF e M' co pl → K (.inl none) M') :
    V_X7_sign (kI (fun r6 M5 => ((¬ r6 = (45 : Int32) → ((¬ r6 = (47 : Int32) → ((¬ r6 = (87 : Int32) → V_X7_item_268 K M5 (fm e) (i32 (f : Nat)) (i32 v) r6) ∧ (r6 = (87 : Int32) → ((¬ i32 (f : Nat) = (2 : Int32) → V_X7_item_268 K M5 (fm e) (i32 (f : Nat)) (i32 v) r6) ∧ (i32 (f : Nat) = (2 : Int32) → (ob M5 (fm e) 7 ∧ ∀ M8, M8 = sI M5 (fm e) 12 ((mI M5 (fm e) 12) + (1 : Int32)) → ∀ M9, M9 = sJ M8 (fm e) 21 ((mJ M8 (fm e) 21) ||| ((1 : Int64) <<< ((i32 v).toInt64 &&& 63))) → V_X7_item_380 K M9 )))))) ∧ (r6 = (47 : Int32) → (ob M5 (fm e) 7 ∧ V_X7_step (kI (fun r12 M11 => (ob M11 (fm e) 7 ∧ ((¬ (mI M11 (fm e) 13) = 0 → V_X7_item_228 K M11 ) ∧ ((mI M11 (fm e) 13) = 0 → ((¬ i32 (f : Nat) = (4 : Int32) → V_X7_item_219 K M11 (i32 (f : Nat)) r12 (fm e) (i32 (f : Nat)) (i32 v)) ∧ (i32 (f : Nat) = (4 : Int32) → (((7 : Int32) ≤ i32 v → V_X7_item_219 K M11 (i32 (f : Nat)) r12 (fm e) (i32 (f : Nat)) (i32 v)) ∧ (¬ (7 : Int32) ≤ i32 v → V_X7_item_223 K M11 r12 (fm e) (i32 (f : Nat)) (i32 v) (6 : Int32))))))))) (fun _ _ => False)) M5 (fm e))))) ∧ (r6 = (45 : Int32) → (ob M5 (fm e) 7 ∧ ∀ M15, M15 = sI M5 (fm e) 12 ((mI M5 (fm e) 12) + (1 : Int32)) → ∀ x16 : Int32, x16 = (mI M15 (fm e) 12) → V_X7_valueOf (kI (fun r18 M17 => (ob M17 (fm e) 7 ∧ ((¬ (mI M17 (fm e) 13) = 0 → V_X7_item_154 K M17 (fm e) (i32 (f : Nat)) (i32 v) r18) ∧ ((mI M17 (fm e) 13) = 0 → ((i32 v ≤ r18 → V_X7_item_154 K M17 (fm e) (i32 (f : Nat)) (i32 v) r18) ∧ (¬ i32 v ≤ r18 → V_X7_fail (kV (fun M20 => V_X7_item_154 K M20 (fm e) (i32 (f : Nat)) (i32 v) r18) (fun _ _ => False)) M17 (fm e) (3 : Int32) x16)))))) (fun _ _ => False)) M15 (fm e) (i32 (f : Nat)))))) (fun _ _ => False)) M (fm e) := by
  have hn := h.1.2.2.1
  have hsb := hn.b at_
  have ht := tLG hf
  have htl5 : f = 5 → tL f = 1900 := fun q => by subst q; rfl
  have htg4 : f = 4 → tG f = 7 := fun q => by subst q; rfl
  have i154F : ∀ (M : Mm) (co pl : Nat) (x : Int32), QF e M co pl → (∀ M', QF e M' co pl → K (.inl none) M') → V_X7_item_154 K M (fm e) (i32 (f : Nat)) (i32 v) x := by
    intro M co pl x hp hk
    unfold V_X7_item_154 V_X7_item_177 V_X7_item_380
    exact ⟨hp.1.1.1, s7_stepF hp (fun M' v' hp' => kI_i ⟨hp'.1.1.1, fun _ => hk M' hp', fun q => absurd q hp'.ne⟩)⟩
  unfold pAft at hO hF
  refine h.sg (kI_i ?_)
  rw [q_45, i32_eq (by omega) (by omega) (by omega) (by omega), q_47, i32_eq (by omega) (by omega) (by omega) (by omega), show (87 : Int32) = i32 87 by decide, i32_eq (by omega) (by omega) (by omega) (by omega), q_2, i32_eq (by omega) (by omega) (by omega) (by omega)]
  refine ⟨fun q1 => ⟨fun w1 => ?_, fun w1 => ⟨h.1.1.1, ?_⟩⟩, fun q1 => ⟨h.1.1.1, fun M15 e15 x16 e16 => ?_⟩⟩
  · rw [if_neg q1, if_neg w1] at hO hF
    have i268 : ¬ (f = 2 ∧ fS e at_ = 87) → V_X7_item_268 K M (fm e) (i32 (f : Nat)) (i32 v) (i32 (fS e at_)) := by
      intro w2
      rw [if_neg w2] at hO hF
      have i374 : ¬ (f = 4 ∧ fS e at_ = 76) → ¬ (f = 4 ∧ fS e at_ = 35) → V_X7_item_374 K M (fm e) (i32 (f : Nat)) (i32 v) := by
        intro w3 w4
        rw [if_neg w3, if_neg w4] at hO
        unfold V_X7_item_374 V_X7_item_380
        exact ⟨h.1.1.1, s7_mark h hf (by omega) (fun q => by have := htg4 q; omega) (fun q => by have := htl5 q; omega) (fun M' hp => kV_i (hO at_ _ rfl M' hp))⟩
      have i308 : ¬ (f = 4 ∧ fS e at_ = 76) → V_X7_item_308 K M (fm e) (i32 (f : Nat)) (i32 v) (i32 (fS e at_)) := by
        intro w3
        rw [if_neg w3] at hO hF
        unfold V_X7_item_308
        rw [q_35, i32_eq (by omega) (by omega) (by omega) (by omega), q_4, i32_eq (by omega) (by omega) (by omega) (by omega)]
        refine ⟨fun w4 => i374 w3 (fun c => w4 c.2), fun w4 => ⟨fun w5 => i374 w3 (fun c => by omega), fun w5 => ⟨h.1.1.1, fun M2 e2 => ?_⟩⟩⟩
        rw [if_pos ⟨by omega, w4⟩] at hO hF
        subst e2
        have hp := h.adv (hn.lt (by omega))
        rw [q_1] at hp
        rw [show (1 : Int32) = i32 1 by decide, show (5 : Int32) = i32 5 by decide]
        unfold V_X7_item_367 V_X7_item_380
        refine s7_bnd (figs := 1) (lo := 1) (hi := 5) hp (by omega) (by omega) (by omega) (fun a1 kk e1 M' hp' => kI_i ⟨hp'.1.1.1, fun q => absurd hp'.2.2.2.2.1 q, fun _ => ⟨hp'.1.1.1, fun M3 e3 => ?_⟩⟩) (fun co pl e1 M' vv hp' => kI_i ⟨hp'.1.1.1, fun _ => ⟨hp'.1.1.1, fun M3 e3 => ?_⟩, fun q => absurd q hp'.ne⟩)
        · have hl := hn.lt (i := at_) (by omega)
          have hb := pNum_at hn (by omega) e1
          rw [e1] at hO
          rw [show (7 : Int32) = i32 7 by decide, i32_divp (by omega) (by omega) (by decide) (by decide), i32_mul, i32_sub, show v - v / 7 * 7 = v % 7 by omega, show (6 : Int32) = i32 6 by decide, i32_mul, i32_add, show 6 * (v % 7) + kk = ((6 * (v % 7).toNat + kk.toNat : Nat) : Int) by omega] at e3
          subst e3
          exact hO a1 _ rfl _ (hp'.kw (k := kk.toNat) (w := (v % 7).toNat) (by omega) (by omega))
        · subst e3
          rw [e1] at hF
          exact hF co pl rfl _ (hp'.rowJ 23 _)
      unfold V_X7_item_268
      rw [show (76 : Int32) = i32 76 by decide, i32_eq (by omega) (by omega) (by omega) (by omega), q_4, i32_eq (by omega) (by omega) (by omega) (by omega)]
      refine ⟨fun w3 => i308 (fun c => w3 c.2), fun w3 => ⟨fun w4 => i308 (fun c => by omega), fun w4 => ⟨h.1.1.1, fun M2 e2 M3 e3 => ?_⟩⟩⟩
      rw [if_pos ⟨by omega, w3⟩] at hO
      rw [q_7, i32_divp (by omega) (by omega) (by decide) (by decide), i32_mul, i32_sub, show v - v / 7 * 7 = v % 7 by omega] at e3
      subst e2; subst e3
      unfold V_X7_item_380
      exact hO (at_ + 1) _ rfl _ ((h.adv (hn.lt (by omega))).ld _)
    refine ⟨fun w2 => i268 (fun c => w2 c.2), fun w2 => ⟨fun w3 => i268 (fun c => by omega), fun w3 => ⟨h.1.1.1, fun M8 e8 M9 e9 => ?_⟩⟩⟩
    rw [if_pos ⟨by omega, w2⟩] at hO
    subst e8; subst e9
    unfold V_X7_item_380
    exact hO (at_ + 1) _ rfl _ ((h.adv (hn.lt (by omega))).ne8 _)
  · rw [if_neg q1, if_pos w1] at hO hF
    unfold V_X7_item_219 V_X7_item_223 V_X7_item_228 V_X7_item_380
    refine s7_step h (fun a1 st e1 M' hp => kI_i ⟨hp.1.1.1, fun q => absurd hp.2.2.2.2.1 q, fun _ => ?_⟩) (fun co pl e1 M' v' hp => kI_i ⟨hp.1.1.1, fun _ => ?_, fun q => absurd q hp.ne⟩)
    · have hst := pStep_at hn h.2.2.2.1 e1
      rw [e1] at hO
      rw [q_4, i32_eq (by omega) (by omega) (by omega) (by omega), q_7, i32_le (by omega) (by omega) (by omega) (by omega)]
      have big : ¬ (f = 4 ∧ v < 7) → V_X7_greatest (kI (fun r2 M1 => (ob M1 (fm e) 7 ∧ V_X7_range (kV (fun M2 => K (.inl none) M2) (fun _ _ => False)) M1 (fm e) (i32 (f : Nat)) (i32 v) r2 (i32 st))) (fun _ _ => False)) M' (i32 (f : Nat)) := by
        intro w2
        simp only [pBn, if_neg w2] at hO
        exact s7_great hf (kI_i ⟨hp.1.1.1, s7_range hf (by omega) (by omega) (fun q => by have := htg4 q; omega) (by omega) (fun q => by have := htl5 q; omega) hp (fun M2 hp2 => kV_i (hO a1 _ rfl M2 hp2))⟩)
      refine ⟨fun w2 => big (fun c => by omega), fun w2 => ⟨fun w3 => big (fun c => by omega), fun w3 => ⟨hp.1.1.1, ?_⟩⟩⟩
      simp only [pBn, if_pos (show f = 4 ∧ v < 7 by omega)] at hO
      rw [q_6]
      exact s7_range hf (by omega) (by omega) (fun q => by omega) (by omega) (fun q => by omega) hp (fun M2 hp2 => kV_i (hO a1 _ rfl M2 hp2))
    · rw [e1] at hF
      exact hF co pl rfl M' hp
  · rw [if_pos q1] at hO hF
    have hp := h.adv (hn.lt (by omega))
    rw [← e15] at hp
    rw [hp.2.2.1] at e16
    subst e16
    have i154 : ∀ (M' : Mm) (a1 : Nat) (w : Int), pVal (fS e) f (at_ + 1) = .inr (a1, w) → ¬ w < v → QO e M' a1 c → V_X7_item_154 K M' (fm e) (i32 (f : Nat)) (i32 v) (i32 w) := by
      intro M' a1 w e1 hw hp'
      have hb := pVal_at hn hf (by have := hn.lt (i := at_) (by omega); omega) e1
      rw [e1] at hO hF
      simp only [pBn, if_neg hw] at hO hF
      unfold V_X7_item_154 V_X7_item_177 V_X7_item_380
      refine ⟨hp'.1.1.1, s7_step hp' (fun a2 st e2 M2 hp2 => kI_i ⟨hp2.1.1.1, fun q => absurd hp2.2.2.2.2.1 q, fun _ => ?_⟩) (fun co pl e2 M2 v' hp2 => kI_i ⟨hp2.1.1.1, fun _ => ?_, fun q => absurd q hp2.ne⟩)⟩
      · have hst := pStep_at hn hp'.2.2.2.1 e2
        rw [e2] at hO
        exact s7_range hf (by omega) (by omega) (fun q => by have := htg4 q; omega) (by omega) (fun q => by have := htl5 q; omega) hp2 (fun M3 hp3 => kV_i (hO a2 _ rfl M3 hp3))
      · rw [e2] at hF
        exact hF co pl rfl M2 hp2
    refine s7_val hf hp (fun a1 w e1 M' hp' => kI_i ⟨hp'.1.1.1, fun q => absurd hp'.2.2.2.2.1 q, fun _ => ?_⟩) (fun co pl e1 M' w hp' => kI_i ⟨hp'.1.1.1, fun _ => ?_, fun q => absurd q hp'.ne⟩)
    · have hb := pVal_at hn hf hp.2.2.2.1 e1
      rw [i32_le (by omega) (by omega) (by omega) (by omega)]
      refine ⟨fun w2 => i154 M' a1 w e1 (by omega) hp', fun w2 => ?_⟩
      rw [e1] at hF
      simp only [pBn, if_pos (show w < v by omega)] at hF
      rw [show (3 : Int32) = i32 ((3 : Nat)) by decide]
      exact s7_fail hp' (by omega) (fun M2 hp2 => kV_i (i154F M2 3 _ _ hp2 (fun M3 hp3 => hF 3 (at_ + 1) rfl M3 hp3)))
    · rw [e1] at hF
      exact i154F M' co pl _ hp' (fun M3 hp3 => hF co pl rfl M3 hp3)
theorem s7_item {K : Rs → Mm → Prop} {e : E7} {M : Mm} {f at_ : Nat} {c : Ct} (hf : f ≤ 5) (h : QO e M at_ c) (hO : ∀ a1 c', pItem (fS e) f at_ c = .inr (a1, c') → ∀ M', QO e M' a1 c' → K (.inl none) M') (hF : ∀ co pl, pItem (fS e) f at_ c = .inl (co, pl) → ∀ M', QF e M' co pl → K (.inl none) M') : V_X7_item K M (fm e) (i32 (f : Nat)) := by
  have hn := h.1.2.2.1
  have hsb := hn.b at_
  have ht := tLG hf
  unfold pItem at hO hF
  have i84 : ¬ fS e at_ = 42 → ¬ (f = 2 ∧ fS e at_ = 76) → V_X7_item_84 K M (fm e) (i32 (f : Nat)) := by
    intro w1 w2
    rw [if_neg w1, if_neg w2] at hO hF
    unfold V_X7_item_84
    refine ⟨h.1.1.1, s7_val hf h (fun a1 v e1 M' hp => kI_i ⟨hp.1.1.1, fun _ => ?_, fun q => absurd (by rw [hp.2.2.2.2.1]; decide) q⟩) (fun co pl e1 M' v hp => kI_i ⟨hp.1.1.1, fun q => absurd q hp.gt, fun _ => ?_⟩)⟩
    · have hb := pVal_at hn hf h.2.2.2.1 e1
      rw [e1] at hO hF
      exact s7_aft hf ⟨hb.2.2.1, hb.2.2.2⟩ hp (fun a2 c' e2 M2 hp2 => hO a2 c' e2 M2 hp2) (fun co pl e2 M2 hp2 => hF co pl e2 M2 hp2)
    · rw [e1] at hF
      exact hF co pl rfl M' hp
  unfold V_X7_item V_X7_item_53 V_X7_item_57
  refine ⟨h.1.1.1, h.sg (kI_i ?_)⟩
  rw [q_42, i32_eq (by omega) (by omega) (by omega) (by omega), show (76 : Int32) = i32 76 by decide, i32_eq (by omega) (by omega) (by omega) (by omega), q_2, i32_eq (by omega) (by omega) (by omega) (by omega)]
  refine ⟨fun w1 => ⟨fun w2 => i84 w1 (fun c => w2 c.2), fun w2 => ⟨fun w3 => i84 w1 (fun c => by omega), fun w3 => ⟨h.1.1.1, fun M5 e5 => ?_⟩⟩⟩, fun w1 => ⟨h.1.1.1, fun M8 e8 => ?_⟩⟩
  · rw [if_neg w1, if_pos ⟨by omega, w2⟩] at hO hF
    subst e5
    exact s7_last (h.adv (hn.lt (by omega))) (fun a1 c' e1 M' hp => kV_i (hO a1 c' e1 M' hp)) (fun co pl e1 M' hp => kV_i (hF co pl e1 M' hp))
  · rw [if_pos w1] at hO hF
    subst e8
    refine s7_step (h.adv (hn.lt (by omega))) (fun a1 st e1 M' hp => kI_i ⟨hp.1.1.1, fun q => absurd hp.2.2.2.2.1 q, fun _ => s7_least hf (kI_i ?_)⟩) (fun co pl e1 M' v hp => kI_i ⟨hp.1.1.1, fun _ => ?_, fun q => absurd q hp.ne⟩)
    · have hst := pStep_at hn (by have := hn.lt (i := at_) (by omega); omega) e1
      rw [e1] at hO
      rw [q_4, i32_eq (by omega) (by omega) (by omega) (by omega)]
      refine ⟨fun w4 => s7_great hf (kI_i ⟨hp.1.1.1, s7_range hf (by omega) (by omega) (fun q => by omega) (by omega) (fun q => by subst q; decide) hp (fun M2 hp2 => kV_i (hO a1 _ rfl M2 hp2))⟩), fun w4 => ⟨hp.1.1.1, ?_⟩⟩
      have e4 : f = 4 := by omega
      subst e4
      have hO' := hO a1 _ rfl
      rw [show tL 4 = 0 by rfl, show tG 4 = 7 by rfl, ctA_star c (by omega)] at hO'
      rw [q_6]
      exact s7_range (by omega) (by omega) (by omega) (fun q => by omega) (by decide) (fun q => by omega) hp (fun M2 hp2 => kV_i (hO' M2 hp2))
    · rw [e1] at hF
      exact hF co pl rfl M' hp
theorem s7_f65 {K : Rs → Mm → Prop} {e : E7} {f : Nat} (hf : f ≤ 5) : ∀ (k : Nat) (M : Mm) (at_ : Nat) (c : Ct), 161 ≤ at_ + k → QO e M at_ c → (∀ a1 c', pMore (fS e) f k at_ c = .inr (a1, c') → ∀ M', QO e M' a1 c' → K (.inl none) M') → (∀ co pl, pMore (fS e) f k at_ c = .inl (co, pl) → ∀ M', QF e M' co pl → K (.inl none) M') → V_X7_readField_65 K (k + 1) M (fm e) (i32 (f : Nat)) := by
  intro k
  induction k with
  | zero =>
    intro M at_ c e1 h hO hF
    have := h.1.2.2.1.1
    have := h.2.2.2.1
    omega
  | succ k ih =>
    intro M at_ c e1 h hO hF
    have hn := h.1.2.2.1
    have hsb := hn.b at_
    unfold V_X7_readField_65 V_X7_readField_99
    refine ⟨h.1.1.1, fun q => absurd h.2.2.2.2.1 q, fun _ => h.sg (kI_i ?_)⟩
    rw [q_44, i32_eq (by omega) (by omega) (by omega) (by omega)]
    refine ⟨fun q => hO at_ c (by unfold pMore; rw [if_neg q]) M h, fun q => ⟨h.1.1.1, fun M5 e5 => ?_⟩⟩
    subst e5
    have hl := hn.lt (i := at_) (by omega)
    have ep : pMore (fS e) f (k + 1) at_ c = pBn (pItem (fS e) f (at_ + 1) c) (fun a1 c1 => pMore (fS e) f k a1 c1) := by conv => lhs; unfold pMore; rw [if_pos q]
    rw [ep] at hO hF
    refine s7_item hf (h.adv hl) (fun a1 c1 e3 M' hp => kV_i ?_) (fun co pl e3 M' hp => kV_i ?_)
    · have hb := pItem_at hn hf (by omega) e3
      rw [e3] at hO hF
      exact ih M' a1 c1 (by omega) hp hO hF
    · rw [e3] at hF
      unfold V_X7_readField_65 V_X7_readField_99
      exact ⟨hp.1.1.1, fun _ => hF co pl rfl M' hp, fun q => absurd q hp.ne⟩
theorem QO.star2 {e : E7} {M : Mm} {at_ : Nat} {c : Ct} {b : Bool} (h : QO e M at_ c) : QO e (sI M (fm e) 24 (bI b)) at_ (ctS c 2 b) := by
  obtain ⟨c1, c2, c3, c4, c5, c6, c7, c8, c9, c10⟩ := h.2.2.2.2.2
  have n17 := h.1.n (i := 17) (c := 11) (n := 300) (by decide)
  refine h.rowI (by omega) (h.2.2.2.2.2.set n17 ⟨rfl, rfl, rfl, rfl, rfl, rfl⟩ ?_ ?_ ?_ ?_)
  · rw [va_up_ne _ _ (by decide)]; exact c3
  · rw [va_up_self]; rfl
  · rw [va_up_ne _ _ (by decide)]; exact c5
  · rw [va_up_ne _ _ (by decide)]; exact c7
theorem QO.star4 {e : E7} {M : Mm} {at_ : Nat} {c : Ct} {b : Bool} (h : QO e M at_ c) : QO e (sI M (fm e) 25 (bI b)) at_ (ctS c 4 b) := by
  obtain ⟨c1, c2, c3, c4, c5, c6, c7, c8, c9, c10⟩ := h.2.2.2.2.2
  have n17 := h.1.n (i := 17) (c := 11) (n := 300) (by decide)
  refine h.rowI (by omega) (h.2.2.2.2.2.set n17 ⟨rfl, rfl, rfl, rfl, rfl, rfl⟩ ?_ ?_ ?_ ?_)
  · rw [va_up_ne _ _ (by decide)]; exact c3
  · rw [va_up_ne _ _ (by decide)]; exact c4
  · rw [va_up_self]; rfl
  · rw [va_up_ne _ _ (by decide)]; exact c7
theorem QO.told {e : E7} {M : Mm} {at_ : Nat} {c : Ct} (h : QO e M at_ c) (b : Bool) : QO e (sI M (fm e) 18 0) at_ (ctS c 5 b) := by
  obtain ⟨c1, c2, c3, c4, c5, c6, c7, c8, c9, c10⟩ := h.2.2.2.2.2
  have n17 := h.1.n (i := 17) (c := 11) (n := 300) (by decide)
  refine h.rowI (by omega) (h.2.2.2.2.2.set n17 ⟨rfl, rfl, rfl, rfl, rfl, rfl⟩ ?_ ?_ ?_ ?_)
  · rw [va_up_self]; rfl
  · rw [va_up_ne _ _ (by decide)]; exact c4
  · rw [va_up_ne _ _ (by decide)]; exact c5
  · rw [va_up_ne _ _ (by decide)]; exact c7
theorem ctS_2 (c : Ct) : ctS c 2 (cDs c) = c := rfl
theorem ctS_4 (c : Ct) : ctS c 4 (cWs c) = c := rfl
/-- the model's field; that a YEAR is told was set before -/
theorem s7_field {K : Rs → Mm → Prop} {e : E7} {M : Mm} {f at_ : Nat} {c : Ct} (hf : f ≤ 5) (h : QO e M at_ (if f = 5 then ctS c 5 (decide (fS e at_ = 42)) else c)) (hO : ∀ a1 c', pField (fS e) f at_ c = .inr (a1, c') → ∀ M', QO e M' a1 c' → K (.inl none) M') (hF : ∀ co pl, pField (fS e) f at_ c = .inl (co, pl) → ∀ M', QF e M' co pl → K (.inl none) M') : V_X7_readField K M (fm e) (i32 (f : Nat)) := by
  have hn := h.1.2.2.1
  have hn1 := hn.1
  have hsb := hn.b at_
  unfold pField at hO hF
  have itm : ∀ M', QO e M' at_ (ctS c f (decide (fS e at_ = 42))) → V_X7_item (kV (fun M5 => ∃ y, V_X7_readField_65 K y M5 (fm e) (i32 (f : Nat))) (fun _ _ => False)) M' (fm e) (i32 (f : Nat)) := by
    intro M' hp
    refine s7_item hf hp (fun a1 c1 e1 M2 hp2 => kV_i ?_) (fun co pl e1 M2 hp2 => kV_i ⟨1, ?_⟩)
    · rw [e1] at hO hF
      have hb := pItem_at hn hf hp.2.2.2.1 e1
      exact ⟨161 - a1 + 1, s7_f65 hf (161 - a1) M2 a1 c1 (by omega) hp2 hO hF⟩
    · rw [e1] at hF
      unfold V_X7_readField_65 V_X7_readField_99
      exact ⟨hp2.1.1.1, fun _ => hF co pl rfl M2 hp2, fun q => absurd q hp2.ne⟩
  have c57 : ∀ (M' : Mm) (c' : Ct) (b : Bool), QO e M' at_ c' → ctS c' 4 b = ctS c f (decide (fS e at_ = 42)) → V_X7_readField_57 K M' (fm e) (i32 (f : Nat)) (fm e) (bI b) := by
    intro M' c' b hp ec
    unfold V_X7_readField_57
    refine ⟨hp.1.1.1, bI_01 b, fun M3 e3 => ⟨by rw [e3]; exact hp.1.1.1, ?_⟩⟩
    subst e3
    have := hp.star4 (b := b)
    rw [ec] at this
    exact itm _ this
  have c27 : ∀ (M' : Mm) (c0 : Ct) (b : Bool), QO e M' at_ c0 → ctS c0 2 b = (if f = 2 then ctS c 2 (decide (fS e at_ = 42)) else if f = 5 then ctS c 5 (decide (fS e at_ = 42)) else c) → V_X7_readField_27 K M' (fm e) (i32 (f : Nat)) (fm e) (bI b) := by
    intro M' c0 b hp ec
    unfold V_X7_readField_27
    refine ⟨hp.1.1.1, bI_01 b, fun M3 e3 => ?_⟩
    subst e3
    have h3 := hp.star2 (b := b)
    rw [ec] at h3
    rw [q_4, i32_eq (by omega) (by omega) (by omega) (by omega)]
    refine ⟨fun q => ⟨h3.1.1.1, ?_⟩, fun q => ⟨h3.1.1.1, h3.sg (kI_i ?_)⟩⟩
    · rw [h3.2.2.2.2.2.2.2.2.2.1]
      refine c57 _ _ _ h3 ?_
      rw [ctS_4]
      by_cases c2 : f = 2
      · rw [if_pos c2]; subst c2; rfl
      · rw [if_neg c2]
        by_cases c5 : f = 5
        · rw [if_pos c5]; subst c5; rfl
        · rw [if_neg c5]
          unfold ctS
          rw [if_neg c5, if_neg c2, if_neg (by omega)]; rfl
    · have e4 : f = 4 := by omega
      subst e4
      rw [if_neg (by decide), if_neg (by decide)] at h3
      rw [q_42, i32_eq (by omega) (by omega) (by omega) (by omega)]
      exact ⟨fun q => c57 _ c false h3 (by rw [decide_eq_false q]), fun q => c57 _ c true h3 (by rw [decide_eq_true q])⟩
  unfold V_X7_readField
  rw [q_2, i32_eq (by omega) (by omega) (by omega) (by omega)]
  refine ⟨fun q => ⟨h.1.1.1, ?_⟩, fun q => ⟨h.1.1.1, h.sg (kI_i ?_)⟩⟩
  · rw [h.2.2.2.2.2.2.2.2.1]
    refine c27 M _ _ h ?_
    rw [ctS_2, if_neg (show ¬ f = 2 by omega)]
  · have e2 : f = 2 := by omega
    subst e2
    rw [if_neg (by decide)] at h
    rw [q_42, i32_eq (by omega) (by omega) (by omega) (by omega)]
    exact ⟨fun q => c27 M c false h (by rw [if_pos rfl, decide_eq_false q]), fun q => c27 M c true h (by rw [if_pos rfl, decide_eq_true q])⟩
theorem s7_bl {K : Rs → Mm → Prop} {e : E7} {c : Ct} : ∀ (k : Nat) (M : Mm) (at_ : Nat), 161 ≤ at_ + k → QO e M at_ c → (∀ M', QO e M' (skp (fS e) k at_) c → K (.inl none) M') → V_X7_blanks_0 K (k + 1) M (fm e)
  | 0, M, at_, e1, h, hk => by
    have := h.2.2.2.1
    have := h.1.2.2.1.1
    omega
  | k + 1, M, at_, e1, h, hk => by
    have hn := h.1.2.2.1
    have hsb := hn.b at_
    unfold V_X7_blanks_0
    refine ⟨h.1.1.1, h.sg (kI_i ?_)⟩
    rw [q_32, i32_eq (by omega) (by omega) (by omega) (by omega)]
    refine ⟨fun q => ?_, fun q => ⟨h.1.1.1, fun M5 e5 => ?_⟩⟩
    · have : skp (fS e) (k + 1) at_ = at_ := by unfold skp; rw [if_neg q]
      rw [this] at hk
      exact hk M h
    · subst e5
      have hl := hn.lt (i := at_) (by omega)
      have : skp (fS e) (k + 1) at_ = skp (fS e) k (at_ + 1) := by conv => lhs; unfold skp; rw [if_pos q]
      rw [this] at hk
      exact s7_bl k _ (at_ + 1) (by omega) (h.adv hl) hk
theorem s7_blanks {K : Rs → Mm → Prop} {e : E7} {M : Mm} {at_ : Nat} {c : Ct} (h : QO e M at_ c) (hk : ∀ M', QO e M' (skp (fS e) (161 - at_) at_) c → K (.inl none) M') : V_X7_blanks K M (fm e) := by
  have := h.2.2.2.1
  have := h.1.2.2.1.1
  unfold V_X7_blanks
  exact ⟨161 - at_ + 1, s7_bl (161 - at_) M at_ (by omega) h hk⟩
theorem s7_blF {K : Rs → Mm → Prop} {e : E7} {co pl : Nat} (hk : ∀ M', QF e M' co pl → K (.inl none) M') : ∀ (k : Nat) (M : Mm) (at_ : Nat), 1000 ≤ at_ + k → at_ ≤ 1000 → mI M (fm e) 12 = i32 (at_ : Nat) → QF e M co pl → V_X7_blanks_0 K (k + 1) M (fm e)
  | k, M, at_, e1, e2, ha, h => by
    have hn := h.1.2.2.1
    have hn1 := hn.1
    have hsb := hn.b at_
    unfold V_X7_blanks_0
    refine ⟨h.1.1.1, s7_sg h.1 ha e2 (kI_i ?_)⟩
    rw [q_32, i32_eq (by omega) (by omega) (by omega) (by omega)]
    refine ⟨fun q => hk M h, fun q => ⟨h.1.1.1, fun M5 e5 => ?_⟩⟩
    have hl := hn.lt (i := at_) (by omega)
    subst e5
    obtain ⟨k', rfl⟩ : ∃ k', k = k' + 1 := ⟨k - 1, by omega⟩
    refine s7_blF hk k' _ (at_ + 1) (by omega) (by omega) ?_ (h.adv ha (by omega))
    rw [sI_w, mI_w, va_up_self, ha, q_1, i32_add]; rfl
theorem s7_blanksF {K : Rs → Mm → Prop} {e : E7} {M : Mm} {co pl : Nat} (h : QF e M co pl) (hk : ∀ M', QF e M' co pl → K (.inl none) M') : V_X7_blanks K M (fm e) := by
  obtain ⟨at_, a1, a2⟩ := h.2.2.1
  unfold V_X7_blanks
  exact ⟨1001, s7_blF hk 1000 M at_ (by omega) a1 a2 h⟩
