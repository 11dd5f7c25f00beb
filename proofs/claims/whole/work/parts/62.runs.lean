/-! the class's desk: runs -/
def OvC (A : Nat → Nat) (M : Mm) (tk ov : Nat → Int) : Prop := ∀ k, k < 12 → mI M (A (40 + 10 * k)) 0 = i32 (k : Nat) ∧ mI M (A (40 + 10 * k)) 9 = i32 (ov k) ∧ mI M (A (40 + 10 * k)) 10 = i32 (tk k) ∧ (0 ≤ ov k ∧ ov k ≤ 2) ∧ (0 ≤ tk k ∧ tk k ≤ 10000)
theorem Dr.ov {A : Nat → Nat} {M M' : Mm} {tk ov : Nat → Int} (h : Dr A M M') (ho : OvC A M tk ov) : OvC A M' tk ov := fun k hk => by
  obtain ⟨a1, a2, a3, a4⟩ := ho k hk
  exact ⟨by rw [h.2.2.2.2.2.2 k 0 hk (by omega)]; exact a1, by rw [h.2.2.2.2.2.2 k 9 hk (by omega)]; exact a2, by rw [h.2.2.2.2.2.2 k 10 hk (by omega)]; exact a3, a4⟩
def bdE (D : Dk) : Prop := ∀ k, k < 12 → ∀ q ∈ dR D k, -10 ≤ q.1 ∧ q.1 ≤ 200000000
theorem s_mayB {K : Rs → Mm → Prop} {A : Nat → Nat} {M : Mm} {tk ov : Nat → Int} {D : Dk} {k : Nat} (hs : Sta A M) (hD : DkC A M tk D) (ho : OvC A M tk ov) (hk : k < 12) (h : K (.inl (some (.int (bI (mayB ov D k))))) M) : V_X2_mayBegin K M (A (40 + 10 * k)) := by
  obtain ⟨r1, r2, r3, r4, r5, r6, r7⟩ := hD.2 k hk
  obtain ⟨o1, o2, o3, o4, o5⟩ := ho k hk
  unfold V_X2_mayBegin V_X2_mayBegin_27 V_X2_mayBegin_23 V_X2_mayBegin_28
  rw [r1, o2, q_0, i32_eq (by omega) (by omega) (by omega) (by omega), i32_eq (by omega) (by omega) (by omega) (by omega), q_8, i32_le (by omega) (by omega) (by omega) (by omega)]
  unfold mayB at h
  refine ⟨(hs.2.2.2.1 k hk).1, fun q => ⟨.inr rfl, ?_⟩, fun q => ⟨fun q2 => ⟨.inl rfl, ?_⟩, fun q2 => ⟨fun q3 => ⟨.inl rfl, ?_⟩, fun q3 => ⟨.inr rfl, ?_⟩⟩⟩⟩
  · rw [decide_eq_true (.inl (by omega))] at h; exact h
  · rw [decide_eq_false (by omega)] at h; exact h
  · rw [decide_eq_false (by omega)] at h; exact h
  · rw [decide_eq_true (by omega)] at h; exact h
theorem s_mayW {K : Rs → Mm → Prop} {A : Nat → Nat} {M : Mm} {tk ov : Nat → Int} {D : Dk} {k : Nat} (hs : Sta A M) (hD : DkC A M tk D) (ho : OvC A M tk ov) (hk : k < 12) (h : K (.inl (some (.int (bI (mayW ov D k))))) M) : V_X2_mayWait K M (A (40 + 10 * k)) := by
  obtain ⟨r1, r2, r3, r4, r5, r6, r7⟩ := hD.2 k hk
  obtain ⟨o1, o2, o3, o4, o5⟩ := ho k hk
  unfold V_X2_mayWait V_X2_mayWait_19 V_X2_mayWait_20
  rw [r4, o2, q_2, i32_eq (by omega) (by omega) (by omega) (by omega), bI_ne0, bI_0]
  unfold mayW at h
  refine ⟨(hs.2.2.2.1 k hk).1, fun q => ⟨.inl rfl, ?_⟩, fun q => ⟨fun q2 => ⟨.inl rfl, ?_⟩, fun q2 => ⟨.inr rfl, ?_⟩⟩⟩
  · rw [decide_eq_false (fun c => q c.1)] at h; exact h
  · rw [decide_eq_false (fun c => by rw [c.2] at q2; exact absurd q2 (by decide))] at h; exact h
  · rw [decide_eq_true ⟨q, by rcases e : dW D k with _ | w; rfl; rw [e] at q2; exact absurd q2 (by simp)⟩] at h; exact h
theorem s_addRun {K : Rs → Mm → Prop} {A : Nat → Nat} {M : Mm} {tk : Nat → Int} {D : Dk} {k : Nat} {mi ma : Int} (hs : Sta A M) (hD : DkC A M tk D) (hk : k < 12) (hl : (dR D k).length < 8) (h : ∀ M', Dr A M M' → DkC A M' tk (va_up (dR D) k (dR D k ++ [(mi + tk k, ma)]), dW D, va_up (dB D) k (dB D k + 1), dD D, dC D, dL D) → K (.inl none) M') : V_X2_addRun K M (A (40 + 10 * k)) (i32 mi) (i32 ma) := by
  have hOk := hD.2 k hk
  obtain ⟨r1, r2, r3, r4, r5, r6, r7⟩ := hOk
  obtain ⟨s1, s2, s3, s4, s5, s6, s7, s8, s9, s10⟩ := hs.2.2.2.1 k hk
  have n : ∀ {i j : Nat}, i ≠ j → A i ≠ A j := fun h => hs.ne h
  unfold V_X2_addRun V_X2_addRun_49
  rw [r1, q_8, i32_le (by omega) (by omega) (by omega) (by omega)]
  refine ⟨s1, fun q => absurd q (by omega), fun _ => ⟨A (45 + 10 * k), s3, s5, by rw [s7]; exact i32_in (by omega) (by omega) (by omega), fun M5 e5 => ⟨A (46 + 10 * k), ?_⟩⟩⟩
  rw [i32_clamp (by omega) (by omega), Int.toNat_natCast, sI_w] at e5
  generalize hX5 : va_up (mI M (A (45 + 10 * k))) (dR D k).length (i32 mi) = X5 at e5
  subst e5
  refine ⟨s4, s6, ?_⟩
  rw [mI_wn _ _ (n (show 40 + 10 * k ≠ 45 + 10 * k by omega)), r1]
  refine ⟨by show vp_in _ (mN M (A (46 + 10 * k))); rw [s8]; exact i32_in (by omega) (by omega) (by omega), fun M9 e9 M10 e10 M11 e11 => ?_⟩
  rw [i32_clamp (by omega) (by omega), Int.toNat_natCast, sI_w, mI_wn _ _ (n (show 46 + 10 * k ≠ 45 + 10 * k by omega))] at e9
  generalize hX6 : va_up (mI M (A (46 + 10 * k))) (dR D k).length (i32 ma) = X6 at e9
  subst e9; subst e10; subst e11
  have r40 : mI (wI (wI M (A (45 + 10 * k)) X5) (A (46 + 10 * k)) X6) (A (40 + 10 * k)) = mI M (A (40 + 10 * k)) := by rw [mI_wn _ _ (n (by omega)), mI_wn _ _ (n (by omega))]
  simp only [sI_w, wI_wI, mI_w, r40]
  generalize hX0 : va_up (va_up (mI M (A (40 + 10 * k))) 11 (mI M (A (40 + 10 * k)) 11 + 1)) 14 (va_up (mI M (A (40 + 10 * k))) 11 (mI M (A (40 + 10 * k)) 11 + 1) 14 + 1) = X0
  have g1 : Dr A M (wI M (A (45 + 10 * k)) X5) := Dr.w hs (by unfold dkx; rw [decide_eq_true_iff]; omega) X5 (fun q _ => by omega)
  have g2 := g1.trans (Dr.w (g1.sta hs) (i := 46 + 10 * k) (by unfold dkx; rw [decide_eq_true_iff]; omega) X6 (fun q _ => by omega))
  have g3 := g2.trans (Dr.w (g2.sta hs) (i := 40 + 10 * k) (by unfold dkx; rw [decide_eq_true_iff]; omega) X0 (fun q _ p hp => by
    rw [← hX0, va_up_ne _ _ (by omega), va_up_ne _ _ (by omega), r40]))
  have r : ∀ i, i ≠ 40 + 10 * k → i ≠ 45 + 10 * k → i ≠ 46 + 10 * k → mI (wI (wI (wI M (A (45 + 10 * k)) X5) (A (46 + 10 * k)) X6) (A (40 + 10 * k)) X0) (A i) = mI M (A i) := fun i c1 c2 c3 => by
    rw [mI_wn _ _ (n c1), mI_wn _ _ (n c3), mI_wn _ _ (n c2)]
  refine h _ g3 ⟨?_, fun j hj => ?_⟩
  · rw [r 6 (by omega) (by omega) (by omega), r 7 (by omega) (by omega) (by omega), r 8 (by omega) (by omega) (by omega), r 9 (by omega) (by omega) (by omega), r 10 (by omega) (by omega) (by omega)]
    exact hD.1
  · by_cases c : j = k
    · subst c
      rw [mI_w, mI_wn _ _ (n (show 45 + 10 * j ≠ 40 + 10 * j by omega)), mI_wn _ _ (n (show 45 + 10 * j ≠ 46 + 10 * j by omega)), mI_w, mI_wn _ _ (n (show 46 + 10 * j ≠ 40 + 10 * j by omega)), mI_w]
      show OrR X0 X5 X6 (tk j) (va_up (dR D) j _ j) (dW D j) (va_up (dB D) j _ j) (dD D j)
      rw [va_up_self, va_up_self, ← hX0, ← hX5, ← hX6]
      refine ⟨?_, ?_, fun i hi => ?_, ?_, fun v hv => ?_, ?_, ?_⟩
      · rw [va_up_ne _ _ (by decide), va_up_self, r1, q_1, i32_add, List.length_append]; rfl
      · rw [List.length_append]; simp; omega
      · rw [List.length_append, List.length_singleton] at hi
        by_cases q : i = (dR D j).length
        · subst q
          rw [va_up_self, va_up_self]
          have eg : (dR D j ++ [(mi + tk j, ma)]).getD (dR D j).length (0, 0) = (mi + tk j, ma) := by simp [List.getD_eq_getElem?_getD]
          rw [eg]
          exact ⟨by congr 1; omega, rfl⟩
        · rw [va_up_ne _ _ q, va_up_ne _ _ q]
          have eg : (dR D j ++ [(mi + tk j, ma)]).getD i (0, 0) = (dR D j).getD i (0, 0) := by
            rw [List.getD_eq_getElem?_getD, List.getD_eq_getElem?_getD, List.getElem?_append_left (by omega)]
          rw [eg]
          exact r3 i (by omega)
      · rw [va_up_ne _ _ (by decide), va_up_ne _ _ (by decide)]; exact r4
      · rw [va_up_ne _ _ (by decide), va_up_ne _ _ (by decide)]; exact r5 v hv
      · rw [va_up_self, va_up_ne _ _ (by decide), r6]
      · rw [va_up_ne _ _ (by decide), va_up_ne _ _ (by decide)]; exact r7
    · rw [r _ (by omega) (by omega) (by omega), r _ (by omega) (by omega) (by omega), r _ (by omega) (by omega) (by omega)]
      show OrR _ _ _ (tk j) (va_up (dR D) k _ j) (dW D j) (va_up (dB D) k _ j) (dD D j)
      rw [va_up_ne _ _ c, va_up_ne _ _ c]
      exact hD.2 j hj
theorem s_begin {K : Rs → Mm → Prop} {A : Nat → Nat} {M : Mm} {tk ov : Nat → Int} {D : Dk} {k : Nat} {mi ma : Int} (hs : Sta A M) (hD : DkC A M tk D) (ho : OvC A M tk ov) (hk : k < 12) (hl : (dR D k).length < 8) (hc : dC D < 2000000000) (h : ∀ M', Dr A M M' → DkC A M' tk (dkB tk k mi ma D) → K (.inl none) M') : V_X6_begin K M (A 0) (A (40 + 10 * k)) (i32 mi) (i32 ma) := by
  have sx := hs.2.1
  unfold V_X6_begin
  refine ⟨(hs.2.2.2.1 k hk).1, s_addRun hs hD hk hl (fun M2 g2 d2 => kV_i ?_)⟩
  have hs2 := g2.sta hs
  refine ⟨hs2.2.1.1, A 6, hs2.2.1.2.1.2.2.2.2, (hs2.2.2.2.1 k hk).1, hs2.2.1.2.2.2.2.2.2.1, ?_⟩
  rw [(g2.ov ho k hk).1, q_0]
  exact s_log hs2 d2 hc (fun M7 g7 d7 _ => kV_i (h M7 (g2.trans g7) d7))
theorem s_due {K : Rs → Mm → Prop} {A : Nat → Nat} {M : Mm} {tk ov : Nat → Int} {D : Dk} {k : Nat} {now ma : Int} (hs : Sta A M) (hD : DkC A M tk D) (ho : OvC A M tk ov) (hk : k < 12) (hc : dC D < 2000000000) (hn : mI M (A 0) 6 = i32 now) (h : ∀ M', Dr A M M' → DkC A M' tk (dkDue tk ov now k ma D) → K (.inl none) M') : V_X6_becomeDue K M (A 0) (A (40 + 10 * k)) (i32 ma) := by
  have ok := (hs.2.2.2.1 k hk).1
  have n : ∀ {i j : Nat}, i ≠ j → A i ≠ A j := fun h => hs.ne h
  obtain ⟨r1, r2, r3, r4, r5, r6, r7⟩ := hD.2 k hk
  unfold V_X6_becomeDue V_X6_becomeDue_84
  refine ⟨ok, s_mayB hs hD ho hk (kI_i ?_)⟩
  rw [bI_ne0, bI_0]
  unfold dkDue at h
  refine ⟨fun q => ⟨ok, s_mayW hs hD ho hk (kI_i ?_)⟩, fun q => ⟨hs.2.1.1, ?_⟩⟩
  · rw [if_neg (by rw [q]; decide)] at h
    rw [bI_ne0, bI_0]
    have keep : ∀ (X : Nat → Int32), (∀ p, ¬ (11 ≤ p ∧ p ≤ 15) → X p = mI M (A (40 + 10 * k)) p) → Dr A M (wI M (A (40 + 10 * k)) X) := fun X hX => Dr.w hs (by unfold dkx; rw [decide_eq_true_iff]; omega) X (fun _ _ => hX)
    have dk' : ∀ (X : Nat → Int32) (D' : Dk), dR D' = dR D → dB D' = dB D → dC D' = dC D → dL D' = dL D → (∀ j, j ≠ k → dW D' j = dW D j ∧ dD D' j = dD D j) → OrR X (mI M (A (45 + 10 * k))) (mI M (A (46 + 10 * k))) (tk k) (dR D k) (dW D' k) (dB D k) (dD D' k) → DkC A (wI M (A (40 + 10 * k)) X) tk D' := by
      intro X D' e1 e2 e3 e4 e5 e6
      refine ⟨?_, fun j hj => ?_⟩
      · rw [mI_wn _ _ (n (by omega)), mI_wn _ _ (n (by omega)), mI_wn _ _ (n (by omega)), mI_wn _ _ (n (by omega)), mI_wn _ _ (n (by omega)), e3, e4]
        exact hD.1
      · rw [mI_wn _ _ (n (show 45 + 10 * j ≠ 40 + 10 * k by omega)), mI_wn _ _ (n (show 46 + 10 * j ≠ 40 + 10 * k by omega)), e1, e2]
        by_cases c : j = k
        · subst c; rw [mI_w]; exact e6
        · rw [mI_wn _ _ (n (by omega)), (e5 j c).1, (e5 j c).2]; exact hD.2 j hj
    refine ⟨fun q2 => ⟨ok, fun M8 e8 => ?_⟩, fun q2 => ⟨ok, fun M14 e14 M15 e15 => ?_⟩⟩
    · rw [if_neg (by rw [q2]; decide)] at h
      rw [sI_w] at e8
      generalize hX : va_up (mI M (A (40 + 10 * k))) 15 (mI M (A (40 + 10 * k)) 15 + 1) = X at e8
      subst e8
      have g1 := keep X (fun p hp => by rw [← hX, va_up_ne _ _ (by omega)])
      have hs1 := g1.sta hs
      have d1 : DkC A (wI M (A (40 + 10 * k)) X) tk (dkX D k) := dk' X _ rfl rfl rfl rfl (fun j hj => ⟨rfl, va_up_ne _ _ hj⟩) (by
        rw [← hX]
        refine ⟨by rw [va_up_ne _ _ (by decide)]; exact r1, r2, r3, by rw [va_up_ne _ _ (by decide)]; exact r4, fun v hv => by rw [va_up_ne _ _ (by decide)]; exact r5 v hv, by rw [va_up_ne _ _ (by decide)]; exact r6, ?_⟩
        rw [va_up_self, r7]
        exact (va_up_self _ _ _).symm)
      refine ⟨hs1.2.1.1, A 6, hs1.2.1.2.1.2.2.2.2, hs1.2.1.2.2.2.2.2.2.1, ?_⟩
      rw [(g1.ov ho k hk).1, g1.row hs (i := 0) (by decide), hn, q_2]
      exact s_log hs1 d1 hc (fun M' g' d' _ => kV_i (h M' (g1.trans g') d'))
    · rw [if_pos q2] at h
      subst e14
      rw [sI_w, sI_w, wI_wI, mI_w] at e15
      generalize hX : va_up (va_up (mI M (A (40 + 10 * k))) 12 1) 13 (i32 ma) = X at e15
      subst e15
      have g1 := keep X (fun p hp => by rw [← hX, va_up_ne _ _ (by omega), va_up_ne _ _ (by omega)])
      have hs1 := g1.sta hs
      have d1 : DkC A (wI M (A (40 + 10 * k)) X) tk (dkW D k (some ma)) := dk' X _ rfl rfl rfl rfl (fun j hj => ⟨va_up_ne _ _ hj, rfl⟩) (by
        rw [← hX]
        have ew : dW (dkW D k (some ma)) k = some ma := va_up_self _ _ _
        refine ⟨by rw [va_up_ne _ _ (by decide), va_up_ne _ _ (by decide)]; exact r1, r2, r3, ?_, fun v hv => ?_, by rw [va_up_ne _ _ (by decide), va_up_ne _ _ (by decide)]; exact r6, ?_⟩
        · rw [va_up_ne _ _ (by decide), va_up_self, ew]; rfl
        · rw [ew] at hv
          have := Option.some.inj hv
          subst this
          rw [va_up_self]
        · rw [va_up_ne _ _ (by decide), va_up_ne _ _ (by decide)]; exact r7)
      refine ⟨hs1.2.1.1, A 6, hs1.2.1.2.1.2.2.2.2, hs1.2.1.2.2.2.2.2.2.1, ?_⟩
      rw [(g1.ov ho k hk).1, g1.row hs (i := 0) (by decide), hn, q_3]
      exact s_log hs1 d1 hc (fun M' g' d' _ => kV_i (h M' (g1.trans g') d'))
  · rw [if_pos q] at h
    rw [hn]
    have hl : (dR D k).length < 8 := by
      unfold mayB at q
      rw [decide_eq_true_iff] at q
      omega
    exact s_begin hs hD ho hk hl hc (fun M' g' d' => kV_i (h M' g' d'))
theorem s_rmv2 {K : Rs → Mm → Prop} {A : Nat → Nat} {k : Nat} {l : List (Int × Int)} {tk : Int} (hk : k < 12) (hl : l.length ≤ 8) (h1 : 1 ≤ l.length) :
    ∀ (w i : Nat) (M : Mm), i + w = l.length → 1 ≤ i → Sta A M → mI M (A (40 + 10 * k)) 11 = i32 (l.length : Nat) → (∀ j, j < l.length → (j + 1 < i → mI M (A (45 + 10 * k)) j = i32 ((l.getD (j + 1) (0, 0)).1 - tk) ∧ mI M (A (46 + 10 * k)) j = i32 (l.getD (j + 1) (0, 0)).2) ∧ (i ≤ j + 1 → mI M (A (45 + 10 * k)) j = i32 ((l.getD j (0, 0)).1 - tk) ∧ mI M (A (46 + 10 * k)) j = i32 (l.getD j (0, 0)).2)) →
      (∀ X5 X6, (∀ j, j + 1 < l.length → X5 j = i32 ((l.getD (j + 1) (0, 0)).1 - tk) ∧ X6 j = i32 (l.getD (j + 1) (0, 0)).2) → K (.inl none) (wI (wI (wI M (A (45 + 10 * k)) X5) (A (46 + 10 * k)) X6) (A (40 + 10 * k)) (va_up (mI M (A (40 + 10 * k))) 11 (i32 ((l.length : Nat) - 1 : Int))))) → V_X2_removeFirstRun_2 K (w + 1) M (A (40 + 10 * k)) (i32 (i : Nat)) := by
  intro w
  induction w with
  | zero =>
    intro i M e1 e2 hs hr hrow hk'
    have n : ∀ {i j : Nat}, i ≠ j → A i ≠ A j := fun h => hs.ne h
    obtain ⟨s1, s2, s3, s4, s5, s6, s7, s8, s9, s10⟩ := hs.2.2.2.1 k hk
    unfold V_X2_removeFirstRun_2 V_X2_removeFirstRun_50
    rw [hr, i32_le (by omega) (by omega) (by omega) (by omega)]
    refine ⟨s1, fun _ => ⟨s1, ?_⟩, fun q => absurd (by omega) q⟩
    rw [q_1, i32_sub, q_0]
    refine s_max (by omega) (by omega) (kI_i ⟨s1, fun M5 e5 => ?_⟩)
    subst e5
    have := hk' (mI M (A (45 + 10 * k))) (mI M (A (46 + 10 * k))) (fun j hj => (hrow j (by omega)).1 (by omega))
    rw [wI_self, wI_self] at this
    rw [sI_w, show max (((l.length : Nat) : Int) - 1) 0 = ((l.length : Nat) : Int) - 1 by omega]
    exact this
  | succ w ih =>
    intro i M e1 e2 hs hr hrow hk'
    have n : ∀ {i j : Nat}, i ≠ j → A i ≠ A j := fun h => hs.ne h
    obtain ⟨s1, s2, s3, s4, s5, s6, s7, s8, s9, s10⟩ := hs.2.2.2.1 k hk
    unfold V_X2_removeFirstRun_2
    rw [hr, i32_le (by omega) (by omega) (by omega) (by omega), q_8, i32_le (by omega) (by omega) (by omega) (by omega)]
    refine ⟨s1, fun q => absurd q (by omega), fun _ => ⟨fun q => absurd q (by omega), fun _ => ⟨A (45 + 10 * k), s3, A (45 + 10 * k), s3, s5, by rw [s7]; exact i32_in (by omega) (by omega) (by omega), s5, by rw [s7, q_1, i32_sub]; exact i32_in (by omega) (by omega) (by omega), fun M8 e8 => ⟨A (46 + 10 * k), ?_⟩⟩⟩⟩
    rw [q_1, i32_sub, i32_clamp (by omega) (by omega), show (((i : Nat) : Int) - 1).toNat = i - 1 by omega, i32_clamp (by omega) (by omega), Int.toNat_natCast, sI_w] at e8
    generalize hX5 : va_up (mI M (A (45 + 10 * k))) (i - 1) (mI M (A (45 + 10 * k)) i) = X5 at e8
    subst e8
    refine ⟨s4, A (46 + 10 * k), s4, s6, by show vp_in _ (mN M (A (46 + 10 * k))); rw [s8]; exact i32_in (by omega) (by omega) (by omega), s6, by show vp_in _ (mN M (A (46 + 10 * k))); rw [s8, q_1, i32_sub]; exact i32_in (by omega) (by omega) (by omega), fun M15 e15 x16 e16 => ?_⟩
    rw [q_1, i32_sub, i32_clamp (by omega) (by omega), show (((i : Nat) : Int) - 1).toNat = i - 1 by omega, i32_clamp (by omega) (by omega), Int.toNat_natCast, sI_w, mI_wn _ _ (n (show 46 + 10 * k ≠ 45 + 10 * k by omega))] at e15
    generalize hX6 : va_up (mI M (A (46 + 10 * k))) (i - 1) (mI M (A (46 + 10 * k)) i) = X6 at e15
    subst e15; subst e16
    rw [q_1, i32_add, show ((i : Nat) : Int) + 1 = ((i + 1 : Nat) : Int) by omega]
    have r40 : mI (wI (wI M (A (45 + 10 * k)) X5) (A (46 + 10 * k)) X6) (A (40 + 10 * k)) = mI M (A (40 + 10 * k)) := by rw [mI_wn _ _ (n (by omega)), mI_wn _ _ (n (by omega))]
    have r45 : mI (wI (wI M (A (45 + 10 * k)) X5) (A (46 + 10 * k)) X6) (A (45 + 10 * k)) = X5 := by rw [mI_wn _ _ (n (by omega)), mI_w]
    refine ih (i + 1) _ (by omega) (by omega) (hs.congr rfl rfl rfl rfl) (by rw [r40]; exact hr) (fun j hj => ?_) (fun Y5 Y6 hY => ?_)
    · rw [r45, mI_w, ← hX5, ← hX6]
      by_cases c : j = i - 1
      · subst c
        rw [va_up_self, va_up_self]
        have := (hrow i (by omega)).2 (by omega)
        refine ⟨fun _ => ?_, fun q => by omega⟩
        rw [show i - 1 + 1 = i by omega]; exact this
      · rw [va_up_ne _ _ c, va_up_ne _ _ c]
        exact ⟨fun q => (hrow j hj).1 (by omega), fun q => (hrow j hj).2 (by omega)⟩
    · have := hk' Y5 Y6 hY
      rw [r40]
      have e : wI (wI (wI (wI (wI M (A (45 + 10 * k)) X5) (A (46 + 10 * k)) X6) (A (45 + 10 * k)) Y5) (A (46 + 10 * k)) Y6) (A (40 + 10 * k)) (va_up (mI M (A (40 + 10 * k))) 11 (i32 ((l.length : Nat) - 1 : Int))) = wI (wI (wI M (A (45 + 10 * k)) Y5) (A (46 + 10 * k)) Y6) (A (40 + 10 * k)) (va_up (mI M (A (40 + 10 * k))) 11 (i32 ((l.length : Nat) - 1 : Int))) := by
        congr 1
        unfold wI
        simp only
        congr 4
        funext b
        unfold va_up
        by_cases c6 : b = A (46 + 10 * k)
        · simp [c6]
        · by_cases c5 : b = A (45 + 10 * k)
          · simp [c5]
          · simp [c5, c6]
      rw [e]
      exact this
theorem s_rmv {K : Rs → Mm → Prop} {A : Nat → Nat} {M : Mm} {tk : Nat → Int} {D : Dk} {k : Nat} {x : Int × Int} {r : List (Int × Int)} (hs : Sta A M) (hD : DkC A M tk D) (hk : k < 12) (el : dR D k = x :: r) (h : ∀ M', Dr A M M' → DkC A M' tk (dkR D k r) → K (.inl none) M') : V_X2_removeFirstRun K M (A (40 + 10 * k)) := by
  obtain ⟨r1, r2, r3, r4, r5, r6, r7⟩ := hD.2 k hk
  have n : ∀ {i j : Nat}, i ≠ j → A i ≠ A j := fun h => hs.ne h
  have hlen : (dR D k).length = r.length + 1 := by rw [el]; rfl
  unfold V_X2_removeFirstRun
  refine ⟨(dR D k).length - 1 + 1, s_rmv2 (l := dR D k) (tk := tk k) hk r2 (by omega) _ 1 M (by omega) (by omega) hs r1 (fun j hj => ⟨fun q => by omega, fun _ => r3 j hj⟩) (fun X5 X6 hX => ?_)⟩
  generalize hX0 : va_up (mI M (A (40 + 10 * k))) 11 (i32 (((dR D k).length : Nat) - 1 : Int)) = X0
  have g1 : Dr A M (wI M (A (45 + 10 * k)) X5) := Dr.w hs (by unfold dkx; rw [decide_eq_true_iff]; omega) X5 (fun q _ => by omega)
  have g2 := g1.trans (Dr.w (g1.sta hs) (i := 46 + 10 * k) (by unfold dkx; rw [decide_eq_true_iff]; omega) X6 (fun q _ => by omega))
  have r40 : mI (wI (wI M (A (45 + 10 * k)) X5) (A (46 + 10 * k)) X6) (A (40 + 10 * k)) = mI M (A (40 + 10 * k)) := by rw [mI_wn _ _ (n (by omega)), mI_wn _ _ (n (by omega))]
  have g3 := g2.trans (Dr.w (g2.sta hs) (i := 40 + 10 * k) (by unfold dkx; rw [decide_eq_true_iff]; omega) X0 (fun q _ p hp => by
    rw [← hX0, va_up_ne _ _ (by omega), r40]))
  have rr : ∀ i, i ≠ 40 + 10 * k → i ≠ 45 + 10 * k → i ≠ 46 + 10 * k → mI (wI (wI (wI M (A (45 + 10 * k)) X5) (A (46 + 10 * k)) X6) (A (40 + 10 * k)) X0) (A i) = mI M (A i) := fun i c1 c2 c3 => by
    rw [mI_wn _ _ (n c1), mI_wn _ _ (n c3), mI_wn _ _ (n c2)]
  refine h _ g3 ⟨?_, fun j hj => ?_⟩
  · rw [rr 6 (by omega) (by omega) (by omega), rr 7 (by omega) (by omega) (by omega), rr 8 (by omega) (by omega) (by omega), rr 9 (by omega) (by omega) (by omega), rr 10 (by omega) (by omega) (by omega)]
    exact hD.1
  · by_cases c : j = k
    · subst c
      rw [mI_w, mI_wn _ _ (n (show 45 + 10 * j ≠ 40 + 10 * j by omega)), mI_wn _ _ (n (show 45 + 10 * j ≠ 46 + 10 * j by omega)), mI_w, mI_wn _ _ (n (show 46 + 10 * j ≠ 40 + 10 * j by omega)), mI_w]
      show OrR X0 X5 X6 (tk j) (va_up (dR D) j r j) (dW D j) (dB D j) (dD D j)
      rw [va_up_self, ← hX0]
      refine ⟨?_, by omega, fun i hi => ?_, ?_, fun v hv => ?_, ?_, ?_⟩
      · rw [va_up_self]; congr 1; omega
      · have := hX i (by omega)
        rw [el] at this
        exact this
      · rw [va_up_ne _ _ (by decide)]; exact r4
      · rw [va_up_ne _ _ (by decide)]; exact r5 v hv
      · rw [va_up_ne _ _ (by decide)]; exact r6
      · rw [va_up_ne _ _ (by decide)]; exact r7
    · rw [rr _ (by omega) (by omega) (by omega), rr _ (by omega) (by omega) (by omega), rr _ (by omega) (by omega) (by omega)]
      show OrR _ _ _ (tk j) (va_up (dR D) k _ j) (dW D j) (dB D j) (dD D j)
      rw [va_up_ne _ _ c]
      exact hD.2 j hj
theorem s_fEnd {K : Rs → Mm → Prop} {A : Nat → Nat} {M : Mm} {tk ov : Nat → Int} {D : Dk} {k : Nat} {x : Int × Int} {r : List (Int × Int)} (hs : Sta A M) (hD : DkC A M tk D) (ho : OvC A M tk ov) (hk : k < 12) (el : dR D k = x :: r) (h : K (.inl (some (.int (i32 x.1)))) M) : V_X2_firstEnd K M (A (40 + 10 * k)) := by
  obtain ⟨r1, r2, r3, r4, r5, r6, r7⟩ := hD.2 k hk
  obtain ⟨s1, s2, s3, s4, s5, s6, s7, s8, s9, s10⟩ := hs.2.2.2.1 k hk
  unfold V_X2_firstEnd
  refine ⟨s1, A (45 + 10 * k), s3, s5, by rw [s7]; unfold vp_in; decide, ?_⟩
  have := (r3 0 (by rw [el]; simp)).1
  rw [el] at this
  rw [show ((0 : Int32)).toNatClampNeg = 0 by decide, this, (ho k hk).2.2.1, i32_add]
  have e : ((x :: r).getD 0 (0, 0)).1 - tk k + tk k = x.1 := by simp
  rw [e]; exact h
theorem kO_n {f : Option Nat → Mm → Prop} {t : String → Mm → Prop} {M : Mm} (h : f none M) : kO f t (.inl (some (va_rf none))) M := h
theorem kO_s {f : Option Nat → Mm → Prop} {t : String → Mm → Prop} {M : Mm} {b : Nat} (h : f (some b) M) : kO f t (.inl (some (va_rf (some b)))) M := h
theorem s_fte11 {K : Rs → Mm → Prop} {A : Nat → Nat} {M : Mm} {tk ov : Nat → Int} {D : Dk} {t : Int} (hs : Sta A M) (hD : DkC A M tk D) (ho : OvC A M tk ov) (hb : bdE D)
    (h0 : nx D t = none → K (.inl (some (va_rf none))) M) (h1 : ∀ k, nx D t = some k → K (.inl (some (va_rf (some (A (40 + 10 * k)))))) M) :
    ∀ (c k : Nat) (r : Option Nat) (le : Int), k + c = 12 → -10 ≤ le ∧ le ≤ 200000000 → nx D t = nxF D c k r le → V_X6_firstToEnd_11 K (c + 1) M (A 0) (r.map (fun q => A (40 + 10 * q))) (i32 le) (i32 (k : Nat)) := by
  intro c
  induction c with
  | zero =>
    intro k r le e1 hle he
    unfold V_X6_firstToEnd_11
    rw [q_12, i32_le (by omega) (by omega) (by omega) (by omega)]
    refine ⟨fun _ => ⟨fun q => ?_, fun b q => ?_⟩, fun q => absurd (by omega) q⟩
    · rcases r with _ | r
      · exact h0 he
      · exact absurd q (by simp)
    · rcases r with _ | r
      · exact absurd q (by simp)
      · have := Option.some.inj q
        subst this
        exact h1 r he
  | succ c ih =>
    intro k r le e1 hle he
    obtain ⟨r1, r2, r3, r4, r5, r6, r7⟩ := hD.2 k (by omega)
    obtain ⟨s1, s2, s3, s4, s5, s6, s7, s8, s9, s10⟩ := hs.2.2.2.1 k (by omega)
    have x3 := hs.2.1.2.1.2.2.1
    have x4 := hs.2.1.2.2.2.2.1
    unfold V_X6_firstToEnd_11 V_X6_firstToEnd_51
    rw [q_12, i32_le (by omega) (by omega) (by omega) (by omega)]
    refine ⟨fun q => absurd q (by omega), fun _ => ⟨hs.2.1.1, A 3, x3, x4.1, by rw [x4.2]; exact i32_in (by omega) (by omega) (by omega), A (40 + 10 * k), by rw [i32_clamp (by omega) (by omega), Int.toNat_natCast]; exact s10, s1, ?_⟩⟩
    rw [r1, q_0, i32_le (by omega) (by omega) (by omega) (by omega)]
    have step : ∀ (r' : Option Nat) (le' : Int), -10 ≤ le' ∧ le' ≤ 200000000 → nx D t = nxF D c (k + 1) r' le' → ∀ x1 : Int32, x1 = i32 (k : Nat) + 1 → V_X6_firstToEnd_11 K (c + 1) M (A 0) (r'.map (fun q => A (40 + 10 * q))) (i32 le') x1 := by
      intro r' le' hle' he' x1 ex
      subst ex
      rw [q_1, i32_add, show ((k : Nat) : Int) + 1 = ((k + 1 : Nat) : Int) by omega]
      exact ih (k + 1) r' le' (by omega) hle' he'
    rcases el : dR D k with _ | ⟨x, l⟩
    · have hn : nxF D (c + 1) k r le = nxF D c (k + 1) r le := by conv => lhs; unfold nxF; rw [el]
      refine ⟨fun _ => step r le hle (he.trans hn), fun q => absurd ?_ q⟩
      show ((([] : List (Int × Int)).length : Nat) : Int) ≤ 0
      simp
    · have hx := hb k (by omega) x (by rw [el]; exact List.mem_cons_self)
      refine ⟨fun q => absurd q (by simp only [List.length_cons]; omega), fun _ => s_fEnd hs hD ho (by omega) el (kI_i ?_)⟩
      rw [i32_le (by omega) (by omega) (by omega) (by omega)]
      refine ⟨fun q => step r le hle (he.trans ?_), fun q => ⟨s1, s_fEnd hs hD ho (by omega) el (kI_i (step (some k) x.1 (by omega) (he.trans ?_)))⟩⟩
      · conv => lhs; unfold nxF; rw [el]
        simp only
        rw [if_neg (by omega)]
      · conv => lhs; unfold nxF; rw [el]
        simp only
        rw [if_pos (by omega)]
theorem s_fte {K : Rs → Mm → Prop} {A : Nat → Nat} {M : Mm} {tk ov : Nat → Int} {D : Dk} {t : Int} (hs : Sta A M) (hD : DkC A M tk D) (ho : OvC A M tk ov) (hb : bdE D) (ht : -5 ≤ t ∧ t ≤ 199999999) (hn : mI M (A 0) 6 = i32 t)
    (h0 : nx D t = none → K (.inl (some (va_rf none))) M) (h1 : ∀ k, nx D t = some k → K (.inl (some (va_rf (some (A (40 + 10 * k)))))) M) : V_X6_firstToEnd K M (A 0) := by
  unfold V_X6_firstToEnd
  refine ⟨hs.2.1.1, fun x2 e2 => ⟨13, ?_⟩⟩
  rw [hn, q_1, i32_add] at e2
  subst e2
  exact s_fte11 hs hD ho hb h0 h1 12 0 none (t + 1) (by omega) (by omega) rfl
/-- ending a run: the lists stay short and in bounds -/
theorem dkE_cons {tk : Nat → Int} {k : Nat} {D : Dk} {e ma : Int} {r : List (Int × Int)} (el : dR D k = (e, ma) :: r) : dkE tk k D = match dW D k with
    | none => dkLn (dkR D k r) 1 k e ma
    | some w => if r = [] then dkB tk k e w (dkW (dkLn (dkR D k r) 1 k e ma) k none) else dkLn (dkR D k r) 1 k e ma := by
  unfold dkE; rw [el]; rfl
theorem bdE_dkE {tk : Nat → Int} {k : Nat} {D : Dk} {t : Int} (hb : bdE D) (htk : ∀ k, k < 12 → 0 ≤ tk k ∧ tk k ≤ 10000) (hq : nx D t = some k) (ht : t ≤ 180000000) (hle : ∀ e ma r, dR D k = (e, ma) :: r → e ≤ t) : bdE (dkE tk k D) := by
  obtain ⟨hk, hne⟩ := nx_some hq
  rcases el : dR D k with _ | ⟨⟨e, ma⟩, r⟩
  · exact absurd el hne
  · have hx := hb k hk (e, ma) (by rw [el]; exact List.mem_cons_self)
    have hR : bdE (dkLn (dkR D k r) 1 k e ma) := fun j hj q hq => by
      have hq' : q ∈ va_up (dR D) k r j := hq
      by_cases c : j = k
      · subst c; rw [va_up_self] at hq'; exact hb j hj q (by rw [el]; exact List.mem_cons_of_mem _ hq')
      · rw [va_up_ne _ _ c] at hq'; exact hb j hj q hq'
    rw [dkE_cons el]
    split
    · exact hR
    · split
      · rename_i w hw er
        intro j hj q hq
        have hq' : q ∈ va_up (va_up (dR D) k r) k (va_up (dR D) k r k ++ [(e + tk k, w)]) j := hq
        by_cases c : j = k
        · subst c
          rw [va_up_self, va_up_self, er] at hq'
          rw [List.nil_append, List.mem_singleton] at hq'
          subst hq'
          have := htk j hj
          have := hle e ma r el
          simp only
          omega
        · rw [va_up_ne _ _ c, va_up_ne _ _ c] at hq'; exact hb j hj q hq'
      · exact hR
theorem nxF_lt (D : Dk) : ∀ (c k : Nat) (r : Option Nat) (le : Int) (q : Nat), nxF D c k r le = some q → r = some q ∨ ∃ e ma l, dR D q = (e, ma) :: l ∧ e < le
  | 0, k, r, le, q, h => .inl h
  | c + 1, k, r, le, q, h => by
    unfold nxF at h
    rcases el : dR D k with _ | ⟨⟨a, b⟩, l⟩
    · rw [el] at h
      exact nxF_lt D c (k + 1) r le q h
    · rw [el] at h
      simp only at h
      split at h
      · rename_i hlt
        rcases nxF_lt D c (k + 1) (some k) a q h with h1 | ⟨e, ma, l', h1, h2⟩
        · have := Option.some.inj h1
          subst this
          exact .inr ⟨a, b, l, el, hlt⟩
        · exact .inr ⟨e, ma, l', h1, by omega⟩
      · exact nxF_lt D c (k + 1) r le q h
theorem nx_le {D : Dk} {t : Int} {q : Nat} (h : nx D t = some q) : ∃ e ma l, dR D q = (e, ma) :: l ∧ e ≤ t := by
  rcases nxF_lt D 12 0 none (t + 1) q h with h1 | ⟨e, ma, l, h1, h2⟩
  · cases h1
  · exact ⟨e, ma, l, h1, by omega⟩
theorem dC_dkE (tk : Nat → Int) (k : Nat) (D : Dk) : dC D ≤ dC (dkE tk k D) ∧ dC (dkE tk k D) ≤ dC D + 2 := by
  rcases el : dR D k with _ | ⟨⟨e, ma⟩, r⟩
  · have : dkE tk k D = D := by unfold dkE; rw [el]
    rw [this]; omega
  · rw [dkE_cons el]
    have h1 : ∀ D' a b c d, dC (dkLn D' a b c d) = dC D' + 1 := fun _ _ _ _ _ => rfl
    split
    · show dC D ≤ dC D + 1 ∧ dC D + 1 ≤ dC D + 2; omega
    · split
      · show dC D ≤ dC D + 1 + 1 ∧ dC D + 1 + 1 ≤ dC D + 2; omega
      · show dC D ≤ dC D + 1 ∧ dC D + 1 ≤ dC D + 2; omega
theorem s_ends2 {K : Rs → Mm → Prop} {A : Nat → Nat} {tk ov : Nat → Int} {t : Int} (ht : -5 ≤ t ∧ t ≤ 180000000) (htk : ∀ k, k < 12 → 0 ≤ tk k ∧ tk k ≤ 10000) :
    ∀ (n i : Nat) (M : Mm) (D : Dk), i + n = 108 → Sta A M → DkC A M tk D → OvC A M tk ov → bdE D → dC D + 2 * n < 2000000000 → mI M (A 0) 6 = i32 t → (∀ M', Dr A M M' → DkC A M' tk (endF tk t n D) → K (.inl none) M') → V_X6_endRuns_2 K (n + 1) M (A 0) (i32 (i : Nat)) := by
  intro n
  induction n with
  | zero =>
    intro i M D e1 hs hD ho hb hc hn h
    unfold V_X6_endRuns_2
    rw [show (108 : Int32) = i32 108 by decide, i32_le (by omega) (by omega) (by omega) (by omega)]
    exact ⟨fun _ => h M (Dr.refl A M) hD, fun q => absurd (by omega) q⟩
  | succ n ih =>
    intro i M D e1 hs hD ho hb hc hn h
    unfold V_X6_endRuns_2 V_X6_endRuns_75
    rw [show (108 : Int32) = i32 108 by decide, i32_le (by omega) (by omega) (by omega) (by omega)]
    refine ⟨fun q => absurd q (by omega), fun _ => ⟨hs.2.1.1, s_fte hs hD ho hb (by omega) hn (fun hq => kO_n ⟨fun _ => ?_, fun b q => (by cases q)⟩) (fun k hq => kO_s ⟨fun q => (by cases q), fun b q => ?_⟩)⟩⟩
    · have : endF tk t (n + 1) D = D := by unfold endF; rw [hq]
      rw [this] at h
      exact h M (Dr.refl A M) hD
    · have := Option.some.inj q
      subst this
      obtain ⟨hk, hne⟩ := nx_some hq
      obtain ⟨e, ma, r, el, hle⟩ := nx_le hq
      have hE : endF tk t (n + 1) D = endF tk t n (dkE tk k D) := by conv => lhs; unfold endF; rw [hq]
      rw [hE] at h
      have hbE : bdE (dkE tk k D) := bdE_dkE hb htk hq ht.2 (fun e' ma' r' e9 => by rw [el] at e9; cases e9; exact hle)
      have hcE := dC_dkE tk k D
      obtain ⟨s1, s2, s3, s4, s5, s6, s7, s8, s9, s10⟩ := hs.2.2.2.1 k hk
      obtain ⟨r1, r2, r3, r4, r5, r6, r7⟩ := hD.2 k hk
      have hm0 := (r3 0 (by rw [el]; simp)).2
      rw [el] at hm0
      refine ⟨s1, s_fEnd hs hD ho hk el (kI_i ⟨hs.2.1.1, A 6, hs.2.1.2.1.2.2.2.2, s1, A (46 + 10 * k), s4, s6, by rw [s8]; unfold vp_in; decide, hs.2.1.2.2.2.2.2.2.1, ?_⟩)⟩
      rw [show ((0 : Int32)).toNatClampNeg = 0 by decide, hm0, (ho k hk).1, q_1]
      have next : ∀ M', Dr A M M' → DkC A M' tk (dkE tk k D) → ∀ x1 : Int32, x1 = i32 (i : Nat) + i32 1 → V_X6_endRuns_2 K (n + 1) M' (A 0) x1 := by
        intro M' g' d' x1 ex
        subst ex
        rw [i32_add, show ((i : Nat) : Int) + 1 = ((i + 1 : Nat) : Int) by omega]
        exact ih (i + 1) M' _ (by omega) (g'.sta hs) d' (g'.ov ho) hbE (by omega) (by rw [g'.row hs (i := 0) (by decide)]; exact hn) (fun M2 g2 d2 => h M2 (g'.trans g2) d2)
      refine s_log hs hD (by omega) (fun M15 g15 d15 h40 => kV_i ⟨(g15.th _ _).mpr s1, ?_⟩)
      have hs15 := g15.sta hs
      have el15 : dR (dkLn D 1 k e ma) k = (e, ma) :: r := el
      refine s_rmv hs15 d15 hk el15 (fun M17 g17 d17 => kV_i ⟨(g17.th _ _).mpr ((g15.th _ _).mpr s1), ?_⟩)
      have hs17 := g17.sta hs15
      have d17' : DkC A M17 tk (dkLn (dkR D k r) 1 k e ma) := d17
      obtain ⟨t1, t2, t3, t4, t5, t6, t7⟩ := d17'.2 k hk
      have ew : dW (dkLn (dkR D k r) 1 k e ma) k = dW D k := rfl
      have er : dR (dkLn (dkR D k r) 1 k e ma) k = r := va_up_self _ _ _
      rw [er] at t1
      rw [ew] at t4 t5
      rw [t4, t1, bI_ne0, bI_0, q_0, i32_eq (by have := t2; rw [er] at this; omega) (by have := t2; rw [er] at this; omega) (by omega) (by omega)]
      refine ⟨fun q => next M17 (g15.trans g17) ?_, fun q => ⟨fun q2 => next M17 (g15.trans g17) ?_, fun q2 M19 e19 => ?_⟩⟩
      · have hw : dW D k = none := by rcases hw : dW D k with _ | w; rfl; rw [hw] at q; exact absurd q (by simp)
        rw [dkE_cons el, hw]
        exact d17'
      · rcases hw : dW D k with _ | w
        · rw [hw] at q; exact absurd q (by simp)
        · rw [dkE_cons el, hw]
          simp only
          rw [if_neg (fun c => q2 (by rw [c]; rfl))]
          exact d17'
      · rcases hw : dW D k with _ | w
        · rw [hw] at q; exact absurd q (by simp)
        · have hr : r = [] := by
            rcases r with _ | ⟨y, l⟩
            · rfl
            · simp only [List.length_cons] at q2; omega
          have n : ∀ {i j : Nat}, i ≠ j → A i ≠ A j := fun h => hs.ne h
          rw [← q_0, sI_w] at e19
          generalize hX : va_up (mI M17 (A (40 + 10 * k))) 12 0 = X at e19
          subst e19
          have g19 : Dr A M17 (wI M17 (A (40 + 10 * k)) X) := Dr.w hs17 (by unfold dkx; rw [decide_eq_true_iff]; omega) X (fun _ _ p hp => by rw [← hX, va_up_ne _ _ (by omega)])
          have d19 : DkC A (wI M17 (A (40 + 10 * k)) X) tk (dkW (dkLn (dkR D k r) 1 k e ma) k none) := by
            refine ⟨?_, fun j hj => ?_⟩
            · rw [mI_wn _ _ (n (by omega)), mI_wn _ _ (n (by omega)), mI_wn _ _ (n (by omega)), mI_wn _ _ (n (by omega)), mI_wn _ _ (n (by omega))]
              exact d17'.1
            · rw [mI_wn _ _ (n (show 45 + 10 * j ≠ 40 + 10 * k by omega)), mI_wn _ _ (n (show 46 + 10 * j ≠ 40 + 10 * k by omega))]
              by_cases c : j = k
              · subst c
                rw [mI_w, ← hX]
                obtain ⟨u1, u2, u3, u4, u5, u6, u7⟩ := d17'.2 j hk
                have ew2 : dW (dkW (dkLn (dkR D j r) 1 j e ma) j none) j = none := va_up_self _ _ _
                refine ⟨by rw [va_up_ne _ _ (by decide)]; exact u1, u2, u3, by rw [va_up_self, ew2]; rfl, fun v hv => (by rw [ew2] at hv; cases hv), by rw [va_up_ne _ _ (by decide)]; exact u6, by rw [va_up_ne _ _ (by decide)]; exact u7⟩
              · rw [mI_wn _ _ (n (by omega))]
                have ew2 : dW (dkW (dkLn (dkR D k r) 1 k e ma) k none) j = dW (dkLn (dkR D k r) 1 k e ma) j := va_up_ne _ _ c
                rw [ew2]
                exact d17'.2 j hj
          have hs19 := g19.sta hs17
          have gA := (g15.trans g17).trans g19
          refine ⟨hs19.2.1.1, ?_⟩
          have e13 : mI (wI M17 (A (40 + 10 * k)) X) (A (40 + 10 * k)) 13 = i32 w := by
            rw [mI_w, ← hX, va_up_ne _ _ (by decide)]
            exact t5 w hw
          rw [e13]
          refine s_begin hs19 d19 (gA.ov ho) hk ?_ ?_ (fun M21 g21 d21 => kV_i (next M21 (gA.trans g21) ?_))
          · show (va_up (dR D) k r k).length < 8
            rw [va_up_self, hr]; decide
          · show dC D + 1 < 2000000000; omega
          · rw [dkE_cons el, hw]
            simp only
            rw [if_pos hr]
            exact d21
theorem s_ends {K : Rs → Mm → Prop} {A : Nat → Nat} {M : Mm} {tk ov : Nat → Int} {D : Dk} {t : Int} (ht : -5 ≤ t ∧ t ≤ 180000000) (hs : Sta A M) (hD : DkC A M tk D) (ho : OvC A M tk ov) (hb : bdE D) (hc : dC D < 1900000000) (hn : mI M (A 0) 6 = i32 t) (h : ∀ M', Dr A M M' → DkC A M' tk (endF tk t 108 D) → K (.inl none) M') : V_X6_endRuns K M (A 0) := by
  unfold V_X6_endRuns
  exact ⟨109, s_ends2 ht (fun k hk => (ho k hk).2.2.2.2) 108 0 M D (by omega) hs hD ho hb (by omega) hn h⟩
