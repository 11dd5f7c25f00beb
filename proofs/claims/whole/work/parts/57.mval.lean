/-! the model's reader: names, values, sets -/
/-- the sign at a place of the tape, in the model -/
theorem s7_by {e : E7} {M : Mm} {i : Nat} (he : En7 e M) (hi : i < fN e) : vp_in (i32 (i : Nat)) (mN M (fA e 10)) ∧ mI M (fA e 10) (i32 (i : Nat)).toNatClampNeg &&& 255 = i32 (fS e i) := by
  have hn := he.2.2.1.1
  have p10 := he.1.p 10 8 160 (by decide)
  refine ⟨by rw [p10.2.2.1]; exact i32_in (by omega) (by omega) (by omega), ?_⟩
  rw [i32_clamp (by omega) (by omega), Int.toNat_natCast, he.2.2.2.1 i hi]
theorem s7_n32 {K : Rs → Mm → Prop} {B15 : Mm → Nat → Int32 → Int32 → Int32 → Int32 → Int32 → Int32 → Prop} {e : E7} {M : Mm} {st j k : Nat} {l1 l2 l3 : Int32} (he : En7 e M) (ha : mI M (fm e) 12 = i32 ((st + j : Nat))) (hst : st ≤ 160) (hj : j < 3) (hk : k < 19)
    (hB : V_X7_named_103 K B15 M (fm e) l1 l2 l3 (i32 (j : Nat)) (i32 (k : Nat)) (bI (pfx (fS e) st k (j + 1)))) :
    ∀ (w i : Nat) (b : Bool), i + w = j + 1 → b = pfx (fS e) st k i → V_X7_named_32 K B15 (w + 1) M (fm e) l1 l2 l3 (i32 (j : Nat)) (i32 (k : Nat)) (bI b) (i32 (i : Nat)) := by
  have hn := he.2.2.1
  have hn1 := hn.1
  have p10 := he.1.p 10 8 160 (by decide)
  intro w
  induction w with
  | zero =>
    intro i b e1 eb
    unfold V_X7_named_32
    rw [i32_lt (by omega) (by omega) (by omega) (by omega)]
    refine ⟨fun _ => ?_, fun q => absurd (by omega) q⟩
    rw [eb, show i = j + 1 by omega]; exact hB
  | succ w ih =>
    intro i b e1 eb
    unfold V_X7_named_32 V_X7_named_94 V_X7_named_95
    rw [i32_lt (by omega) (by omega) (by omega) (by omega), bI_ne0, bI_0, ha, he.2.1, i32_sub, i32_add, show ((st + j : Nat) : Int) - ((j : Nat) : Int) + ((i : Nat) : Int) = ((st + i : Nat) : Int) by omega, i32_le (by omega) (by omega) (by omega) (by omega)]
    have no : ∀ x1 : Int32, x1 = i32 (i : Nat) + 1 → pfx (fS e) st k (i + 1) = false → V_X7_named_32 K B15 (w + 1) M (fm e) l1 l2 l3 (i32 (j : Nat)) (i32 (k : Nat)) 0 x1 := by
      intro x1 ex ep
      subst ex
      rw [q_1, i32_add, show ((i : Nat) : Int) + 1 = ((i + 1 : Nat) : Int) by omega]
      exact ih (i + 1) false (by omega) ep.symm
    refine ⟨fun q => absurd q (by omega), fun _ => ⟨fun q => ?_, fun q => ⟨he.1.1, fun q2 x1 ex => no x1 ex ?_, fun q2 => ⟨fA e 10, p10.1, p10.2.1, ?_⟩⟩⟩⟩
    · rw [eb] at q
      have := pfx_le (j + 1 - i) _ q
      rw [show i + (j + 1 - i) = j + 1 by omega] at this
      rw [this] at hB
      rw [eb, q]; exact hB
    · unfold pfx
      rw [hn.2.1 (st + i) (by omega)]
      have := nm_b k hk i (by omega)
      rw [decide_eq_false (by omega), Bool.and_false]
    · obtain ⟨v1, v2⟩ := s7_by he (i := st + i) (by omega)
      have hsb := hn.b (st + i)
      have hnb := nm_b k hk i (by omega)
      refine ⟨v1, s7_let hk (by omega) (kI_i ?_)⟩
      rw [v2, i32_eq (by omega) (by omega) (by omega) (by omega)]
      rw [q] at eb
      refine ⟨fun q3 x1 ex => no x1 ex ?_, fun q3 x1 ex => ?_⟩
      · unfold pfx; rw [decide_eq_false q3, Bool.and_false]
      · subst ex
        rw [q_1, i32_add, show ((i : Nat) : Int) + 1 = ((i + 1 : Nat) : Int) by omega]
        refine ih (i + 1) true (by omega) ?_
        unfold pfx
        rw [← eb, decide_eq_true q3]; rfl
theorem s7_n15 {K : Rs → Mm → Prop} {B3 : Mm → Nat → Int32 → Int32 → Int32 → Int32 → Prop} {e : E7} {M : Mm} {st j a cnt : Nat} {l3 : Int32} (he : En7 e M) (ha : mI M (fm e) 12 = i32 ((st + j : Nat))) (hst : st ≤ 160) (hj : j < 3) (hac : a + cnt ≤ 19)
    (hB : V_X7_named_113 K B3 M (fm e) (i32 (a : Nat)) (i32 ((a + cnt : Nat))) l3 (i32 (j : Nat)) (bI (fnd (fun k => pfx (fS e) st k (j + 1)) a cnt).isSome)) :
    ∀ (w k : Nat) (b : Bool), k + w = a + cnt → a ≤ k → ((b = true ∧ (fnd (fun k => pfx (fS e) st k (j + 1)) a cnt).isSome = true) ∨ (b = false ∧ fnd (fun k => pfx (fS e) st k (j + 1)) a cnt = fnd (fun k => pfx (fS e) st k (j + 1)) k w)) → V_X7_named_15 K B3 (w + 1) M (fm e) (i32 (a : Nat)) (i32 ((a + cnt : Nat))) l3 (i32 (j : Nat)) (bI b) (i32 (k : Nat)) := by
  intro w
  induction w with
  | zero =>
    intro k b e1 e2 hb
    unfold V_X7_named_15
    rw [i32_le (by omega) (by omega) (by omega) (by omega)]
    refine ⟨fun _ => ?_, fun q => absurd (by omega) q⟩
    rcases hb with ⟨b1, b2⟩ | ⟨b1, b2⟩
    · rw [b1]; rw [b2] at hB; exact hB
    · rw [b1]; rw [b2] at hB; exact hB
  | succ w ih =>
    intro k b e1 e2 hb
    unfold V_X7_named_15
    rw [i32_le (by omega) (by omega) (by omega) (by omega), bI_ne0, bI_0]
    refine ⟨fun q => absurd q (by omega), fun _ => ⟨fun q => ?_, fun q => ⟨j + 2, ?_⟩⟩⟩
    · have b2 := (hb.resolve_right (fun c => by rw [q] at c; exact absurd c.1 (by decide))).2
      rw [q]; rw [b2] at hB; exact hB
    · have b2 := (hb.resolve_left (fun c => by rw [q] at c; exact absurd c.1 (by decide))).2
      refine s7_n32 (K := K) he ha hst hj (by omega) ?_ (j + 1) 0 true (by omega) rfl
      unfold V_X7_named_103
      intro x1 ex
      subst ex
      rw [q_1, i32_add, show ((k : Nat) : Int) + 1 = ((k + 1 : Nat) : Int) by omega]
      refine ih (k + 1) _ (by omega) (by omega) ?_
      by_cases c : pfx (fS e) st k (j + 1) = true
      · refine .inl ⟨c, ?_⟩
        rw [b2]
        unfold fnd
        rw [if_pos c]; rfl
      · refine .inr ⟨by simpa using c, ?_⟩
        rw [b2]
        conv => lhs; unfold fnd
        rw [if_neg c]
theorem s7_n160 {K : Rs → Mm → Prop} {B148 : Mm → Nat → Int32 → Int32 → Int32 → Int32 → Prop} {e : E7} {M : Mm} {st k : Nat} {l1 l2 l3 : Int32} (he : En7 e M) (ha : mI M (fm e) 12 = i32 ((st + 3 : Nat))) (hst : st + 3 ≤ fN e) (hk : k < 19)
    (hT : pfx (fS e) st k 3 = true → K (.inl (some (.int ((l3 + i32 (k : Nat)) - l1)))) M) (hN : pfx (fS e) st k 3 = false → B148 M (fm e) l1 l2 l3 (i32 (k : Nat) + 1)) :
    ∀ (w i : Nat) (b : Bool), i + w = 3 → b = pfx (fS e) st k i → V_X7_named_160 K B148 (w + 1) M (fm e) l1 l2 l3 (i32 (k : Nat)) (bI b) (i32 (i : Nat)) := by
  have hn := he.2.2.1
  have hn1 := hn.1
  have p10 := he.1.p 10 8 160 (by decide)
  intro w
  induction w with
  | zero =>
    intro i b e1 eb
    have e3 : i = 3 := by omega
    subst e3
    unfold V_X7_named_160
    rw [bI_ne0, bI_0]
    refine ⟨fun _ => ⟨fun q x1 ex => ?_, fun q => hT (by rw [← eb]; exact q)⟩, fun q => absurd (by decide) q⟩
    subst ex
    exact hN (by rw [← eb]; exact q)
  | succ w ih =>
    intro i b e1 eb
    unfold V_X7_named_160 V_X7_named_203 V_X7_named_204
    rw [q_3, i32_le (by omega) (by omega) (by omega) (by omega), bI_ne0, bI_0, ha, i32_sub, i32_add, show ((st + 3 : Nat) : Int) - 3 + ((i : Nat) : Int) = ((st + i : Nat) : Int) by omega]
    have no : ∀ x1 : Int32, x1 = i32 (i : Nat) + 1 → pfx (fS e) st k (i + 1) = false → V_X7_named_160 K B148 (w + 1) M (fm e) l1 l2 l3 (i32 (k : Nat)) 0 x1 := by
      intro x1 ex ep
      subst ex
      rw [q_1, i32_add, show ((i : Nat) : Int) + 1 = ((i + 1 : Nat) : Int) by omega]
      exact ih (i + 1) false (by omega) ep.symm
    refine ⟨fun q => absurd q (by omega), fun _ => ⟨fun q x1 ex => no x1 ex ?_, fun q => ⟨he.1.1, fA e 10, p10.1, p10.2.1, ?_⟩⟩⟩
    · unfold pfx; rw [← eb, q]; rfl
    · obtain ⟨v1, v2⟩ := s7_by he (i := st + i) (by omega)
      have hsb := hn.b (st + i)
      have hnb := nm_b k hk i (by omega)
      refine ⟨v1, s7_let hk (by omega) (kI_i ?_)⟩
      rw [v2, i32_eq (by omega) (by omega) (by omega) (by omega)]
      rw [q] at eb
      refine ⟨fun q3 x1 ex => no x1 ex ?_, fun q3 x1 ex => ?_⟩
      · unfold pfx; rw [decide_eq_false q3, Bool.and_false]
      · subst ex
        rw [q_1, i32_add, show ((i : Nat) : Int) + 1 = ((i + 1 : Nat) : Int) by omega]
        refine ih (i + 1) true (by omega) ?_
        unfold pfx
        rw [← eb, decide_eq_true q3]; rfl
theorem s7_n148 {K : Rs → Mm → Prop} {e : E7} {M : Mm} {st a cnt q : Nat} {l3 : Int} (he : En7 e M) (ha : mI M (fm e) 12 = i32 ((st + 3 : Nat))) (hst : st + 3 ≤ fN e) (hac : a + cnt ≤ 19) (hq : fnd (fun k => pfx (fS e) st k 3) a cnt = some q)
    (hT : K (.inl (some (.int (i32 (l3 + (q : Nat) - (a : Nat)))))) M) :
    ∀ (w k : Nat), k + w = a + cnt → a ≤ k → fnd (fun k => pfx (fS e) st k 3) a cnt = fnd (fun k => pfx (fS e) st k 3) k w → V_X7_named_148 K (w + 1) M (fm e) (i32 (a : Nat)) (i32 ((a + cnt : Nat))) (i32 l3) (i32 (k : Nat)) := by
  intro w
  induction w with
  | zero =>
    intro k e1 e2 hf
    rw [hq] at hf; exact absurd hf (by simp [fnd])
  | succ w ih =>
    intro k e1 e2 hf
    unfold V_X7_named_148
    rw [i32_le (by omega) (by omega) (by omega) (by omega)]
    refine ⟨fun c => absurd c (by omega), fun _ => ⟨4, ?_⟩⟩
    refine s7_n160 (K := K) he ha hst (by omega) (fun hp => ?_) (fun hp => ?_) 3 0 true (by omega) rfl
    · have : fnd (fun k => pfx (fS e) st k 3) k (w + 1) = some k := by unfold fnd; rw [if_pos hp]
      rw [hq, this] at hf
      have := Option.some.inj hf
      subst this
      rw [i32_add, i32_sub]
      exact hT
    · rw [q_1, i32_add, show ((k : Nat) : Int) + 1 = ((k + 1 : Nat) : Int) by omega]
      refine ih (k + 1) (by omega) (by omega) (hf.trans ?_)
      conv => lhs; unfold fnd
      rw [if_neg (by rw [hp]; decide)]
theorem s7_name3 {K : Rs → Mm → Prop} {e : E7} {a cnt at0 : Nat} {c : Ct} {l3 : Int} (hac : a + cnt ≤ 19)
    (hO : ∀ a1 k, pName (fS e) a cnt at0 = .inr (a1, k) → ∀ M', QO e M' a1 c → K (.inl (some (.int (i32 (l3 + (k : Nat) - (a : Nat)))))) M') (hF : ∀ co pl, pName (fS e) a cnt at0 = .inl (co, pl) → ∀ M' v, QF e M' co pl → K (.inl (some (.int v))) M') :
    ∀ (w j : Nat) (M : Mm), j + w = 3 → QO e M (at0 + j) c → (∀ n', 1 ≤ n' → n' ≤ j → fnd (fun k => pfx (fS e) at0 k n') a cnt ≠ none) → V_X7_named_3 K (w + 1) M (fm e) (i32 (a : Nat)) (i32 ((a + cnt : Nat))) (i32 l3) (i32 (j : Nat)) := by
  intro w
  induction w with
  | zero =>
    intro j M e1 h hpre
    have e3 : j = 3 := by omega
    subst e3
    unfold V_X7_named_3
    refine ⟨fun _ => ⟨cnt + 1, ?_⟩, fun q => absurd (by decide) q⟩
    rcases hq : fnd (fun k => pfx (fS e) at0 k 3) a cnt with _ | q
    · exact absurd hq (hpre 3 (by omega) (by omega))
    · refine s7_n148 h.1 h.2.2.1 h.2.2.2.1 hac hq (hO (at0 + 3) q ?_ M h) cnt a (by omega) (Nat.le_refl _) rfl
      unfold pName
      rw [if_neg (hpre 1 (by omega) (by omega)), if_neg (hpre 2 (by omega) (by omega)), hq]
  | succ w ih =>
    intro j M e1 h hpre
    have hn := h.1.2.2.1
    have hn1 := hn.1
    have ha := h.2.2.2.1
    unfold V_X7_named_3
    rw [q_3, i32_le (by omega) (by omega) (by omega) (by omega)]
    refine ⟨fun q => absurd q (by omega), fun _ => ⟨cnt + 1, ?_⟩⟩
    refine s7_n15 (K := K) h.1 h.2.2.1 (by omega) (by omega) hac ?_ cnt a false (by omega) (Nat.le_refl _) (.inr ⟨rfl, rfl⟩)
    unfold V_X7_named_113
    rw [bI_ne0, bI_0]
    refine ⟨fun q => ⟨h.1.1.1, fun M2 e2 x3 e3 => ?_⟩, fun q => ⟨h.1.1.1, ?_⟩⟩
    · subst e2; subst e3
      rcases hq : fnd (fun k => pfx (fS e) at0 k (j + 1)) a cnt with _ | qq
      · rw [hq] at q; exact absurd q (by decide)
      · have hb := fnd_b _ _ _ hq
        have hp := hb.2.2
        unfold pfx at hp
        rw [Bool.and_eq_true, decide_eq_true_iff] at hp
        have hp2 : fS e (at0 + j) = nm qq j := hp.2
        have hnb := nm_b qq (by omega) j (by omega)
        have had := h.adv (hn.lt (by omega))
        rw [q_1, i32_add, show ((j : Nat) : Int) + 1 = ((j + 1 : Nat) : Int) by omega]
        rw [q_1] at had
        refine ih (j + 1) _ (by omega) had (fun n' h1 h2 => ?_)
        by_cases c1 : n' = j + 1
        · rw [c1, hq]; exact fun c => by cases c
        · exact hpre n' h1 (by omega)
    · have hq : fnd (fun k => pfx (fS e) at0 k (j + 1)) a cnt = none := by
        rcases hq : fnd (fun k => pfx (fS e) at0 k (j + 1)) a cnt with _ | qq
        · rfl
        · rw [hq] at q; exact absurd q (by simp)
      rw [h.2.2.1, show (1 : Int32) = i32 ((1 : Nat)) by decide]
      refine s7_fail h (by omega) (fun M' hp => kV_i (hF 1 (at0 + j) ?_ M' _ hp))
      unfold pName
      by_cases c1 : j = 0
      · subst c1; rw [if_pos hq]; rfl
      · rw [if_neg (hpre 1 (by omega) (by omega))]
        by_cases c2 : j = 1
        · subst c2; rw [if_pos hq]
        · have c3 : j = 2 := by omega
          subst c3
          rw [if_neg (hpre 2 (by omega) (by omega)), hq]
theorem s7_least {K : Rs → Mm → Prop} {M : Mm} {f : Nat} (hf : f ≤ 5) (h : K (.inl (some (.int (i32 (tL f))))) M) : V_X7_least K M (i32 (f : Nat)) := by
  unfold V_X7_least V_X7_least_10 V_X7_least_26
  rw [q_2, q_3, q_5, i32_eq (by omega) (by omega) (by omega) (by omega), i32_eq (by omega) (by omega) (by omega) (by omega), i32_eq (by omega) (by omega) (by omega) (by omega)]
  unfold tL at h
  refine ⟨fun q => ?_, fun q => ⟨fun q2 => ⟨fun q3 => ?_, fun q3 => ?_⟩, fun q2 => ?_⟩⟩
  · rw [if_pos (by omega)] at h; exact h
  · rw [if_neg (by omega), if_neg (by omega)] at h; exact h
  · rw [if_neg (by omega), if_pos (by omega)] at h; exact h
  · rw [if_pos (by omega)] at h; exact h
theorem s7_great {K : Rs → Mm → Prop} {M : Mm} {f : Nat} (hf : f ≤ 5) (h : K (.inl (some (.int (i32 (tG f))))) M) : V_X7_greatest K M (i32 (f : Nat)) := by
  unfold V_X7_greatest V_X7_greatest_52
  rw [q_0, q_1, q_2, q_3, q_4, i32_eq (by omega) (by omega) (by omega) (by omega), i32_eq (by omega) (by omega) (by omega) (by omega), i32_eq (by omega) (by omega) (by omega) (by omega), i32_eq (by omega) (by omega) (by omega) (by omega), i32_eq (by omega) (by omega) (by omega) (by omega)]
  unfold tG at h
  refine ⟨fun w0 => ⟨fun w1 => ⟨fun w2 => ⟨fun w3 => ⟨fun w4 => ?_, fun w4 => ?_⟩, fun w3 => ?_⟩, fun w2 => ?_⟩, fun w1 => ?_⟩, fun w0 => ?_⟩
  · rw [if_neg (by omega), if_neg (by omega), if_neg (by omega), if_neg (by omega), if_neg (by omega)] at h; exact h
  · rw [if_neg (by omega), if_neg (by omega), if_neg (by omega), if_neg (by omega), if_pos (by omega)] at h; exact h
  · rw [if_neg (by omega), if_neg (by omega), if_neg (by omega), if_pos (by omega)] at h; exact h
  · rw [if_neg (by omega), if_neg (by omega), if_pos (by omega)] at h; exact h
  · rw [if_neg (by omega), if_pos (by omega)] at h; exact h
  · rw [if_pos (by omega)] at h; exact h
theorem s7_val {K : Rs → Mm → Prop} {e : E7} {M : Mm} {f at0 : Nat} {c : Ct} (hf : f ≤ 5) (h : QO e M at0 c)
    (hO : ∀ a1 v, pVal (fS e) f at0 = .inr (a1, v) → ∀ M', QO e M' a1 c → K (.inl (some (.int (i32 v)))) M') (hF : ∀ co pl, pVal (fS e) f at0 = .inl (co, pl) → ∀ M' v, QF e M' co pl → K (.inl (some (.int v))) M') : V_X7_valueOf K M (fm e) (i32 (f : Nat)) := by
  have hn := h.1.2.2.1
  have hsb := hn.b at0
  have htl := tLG hf
  have z : ∀ a cnt, a + cnt ≤ 19 → ¬ (97 ≤ fS e at0 ∧ fS e at0 ≤ 122) → pName (fS e) a cnt at0 = .inl (1, at0) := by
    intro a cnt hac hno
    unfold pName
    have : fnd (fun k => pfx (fS e) at0 k 1) a cnt = none := by
      rcases hq : fnd (fun k => pfx (fS e) at0 k 1) a cnt with _ | qq
      · rfl
      · have hb := fnd_b _ _ _ hq
        have hp := hb.2.2
        unfold pfx at hp
        rw [Bool.and_eq_true, decide_eq_true_iff] at hp
        have hp2 : fS e at0 = nm qq 0 := hp.2
        have := nm_b qq (by omega) 0 (by omega)
        omega
    rw [if_pos this]
  have num : ¬ (f = 3 ∧ (97 ≤ fS e at0 ∧ fS e at0 ≤ 122)) → ¬ (f = 4 ∧ (97 ≤ fS e at0 ∧ fS e at0 ≤ 122)) → V_X7_valueOf_52 K M (fm e) (i32 (f : Nat)) := by
    intro c1 c2
    have hv : pVal (fS e) f at0 = pNum (fS e) 4 (tL f) (tG f) at0 := by
      have hnum : ¬ (48 ≤ fS e at0 ∧ fS e at0 ≤ 57) → pNum (fS e) 4 (tL f) (tG f) at0 = .inl (1, at0) := by
        intro q
        unfold pNum
        have : dgs (fS e) 4 at0 0 = (at0, 0) := by unfold dgs; rw [if_neg q]
        rw [this, if_pos (.inl rfl)]
      unfold pVal
      split
      · rename_i q
        rw [z 0 12 (by omega) (fun c => c1 ⟨q.1, c⟩), hnum q.2]; rfl
      · split
        · rename_i q
          rw [z 12 7 (by omega) (fun c => c2 ⟨q.1, c⟩), hnum q.2]; rfl
        · rfl
    unfold V_X7_valueOf_52
    refine s7_least hf (kI_i (s7_great hf (kI_i ⟨h.1.1.1, ?_⟩)))
    rw [show (4 : Int32) = i32 ((4 : Nat)) by decide]
    exact s7_bnd h (by omega) (by omega) (by omega) (fun a1 v e1 M' hp => kI_i (hO a1 v (hv.trans e1) M' hp)) (fun co pl e1 M' v hp => kI_i (hF co pl (hv.trans e1) M' v hp))
  have c33 : ∀ b : Bool, (b = true ↔ (97 ≤ fS e at0 ∧ fS e at0 ≤ 122)) → ¬ (f = 3 ∧ (97 ≤ fS e at0 ∧ fS e at0 ≤ 122)) → V_X7_valueOf_33 K M (fm e) (i32 (f : Nat)) (bI b) := by
    intro b hb c1
    unfold V_X7_valueOf_33
    rw [bI_ne0, bI_0, q_4, i32_eq (by omega) (by omega) (by omega) (by omega)]
    refine ⟨fun q => num c1 (fun c => by have := hb.mpr c.2; rw [q] at this; exact absurd this (by decide)), fun q => ⟨fun q2 => num c1 (fun c => by omega), fun q2 => ⟨h.1.1.1, ?_⟩⟩⟩
    have hv : pVal (fS e) f at0 = pBn (pName (fS e) 12 7 at0) (fun at1 k => .inr (at1, (k : Int) - 12)) := by
      have := hb.mp q
      unfold pVal; rw [if_neg (by omega), if_pos ⟨by omega, by omega⟩]
    unfold V_X7_named
    refine ⟨4, ?_⟩
    have := s7_name3 (K := kI (fun r3 M2 => K (.inl (some (.int r3))) M2) (fun _ _ => False)) (e := e) (a := 12) (cnt := 7) (at0 := at0) (c := c) (l3 := 0) (by omega) (fun a1 k e1 M' hp => kI_i (by
      have := hO a1 _ (hv.trans (by rw [e1]; rfl)) M' hp
      rwa [show (0 : Int) + ((k : Nat) : Int) - ((12 : Nat) : Int) = (k : Int) - 12 by omega])) (fun co pl e1 M' v hp => kI_i (hF co pl (hv.trans (by rw [e1]; rfl)) M' v hp)) 3 0 M (by omega) h (fun n' h1 h2 => by omega)
    exact this
  unfold V_X7_valueOf
  refine ⟨h.1.1.1, h.sg (kI_i (s7_in (by omega) (by omega) (by decide : (97 : Int64).toInt = 97) (by decide : (122 : Int64).toInt = 122) (kI_i ?_)))⟩
  rw [bI_ne0, bI_0, decide_eq_true_iff, decide_eq_false_iff_not, q_3, i32_eq (by omega) (by omega) (by omega) (by omega)]
  refine ⟨fun q => c33 _ (by rw [decide_eq_true_iff]) (fun c => q c.2), fun q => ⟨fun q2 => c33 _ (by rw [decide_eq_true_iff]) (fun c => by omega), fun q2 => ⟨h.1.1.1, ?_⟩⟩⟩
  have hv : pVal (fS e) f at0 = pBn (pName (fS e) 0 12 at0) (fun at1 k => .inr (at1, (k : Int) + 1)) := by
    unfold pVal; rw [if_pos ⟨by omega, by omega⟩]
  unfold V_X7_named
  refine ⟨4, ?_⟩
  have := s7_name3 (K := kI (fun r8 M7 => K (.inl (some (.int r8))) M7) (fun _ _ => False)) (e := e) (a := 0) (cnt := 12) (at0 := at0) (c := c) (l3 := 1) (by omega) (fun a1 k e1 M' hp => kI_i (by
    have := hO a1 _ (hv.trans (by rw [e1]; rfl)) M' hp
    rwa [show (1 : Int) + ((k : Nat) : Int) - ((0 : Nat) : Int) = (k : Int) + 1 by omega])) (fun co pl e1 M' v hp => kI_i (hF co pl (hv.trans (by rw [e1]; rfl)) M' v hp)) 3 0 M (by omega) h (fun n' h1 h2 => by omega)
  exact this
