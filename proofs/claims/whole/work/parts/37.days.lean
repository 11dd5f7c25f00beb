/-! the right days of a month -/
theorem s_byD67 {K : Rs → Mm → Prop} {M : Mm} {a c nu ye : Nat} {r : Ru} {y m d0 : Int} (hr : Rl M a c nu ye r) (hc : Civ (mI M c) y m d0) {x : Int64}
    (hx : ∀ d : Int, 1 ≤ d → d ≤ dom y m → (bj x d.toNat = true ↔ (bj (rN r 2) d.toNat = true ∨ bj (rB r) (dom y m - d).toNat = true)))
    (h : ∀ x, (∀ d : Int, 1 ≤ d → d ≤ dom y m → (bj x d.toNat = true ↔ byD r y m d)) → K (.inl (some (.long x))) M) : V_X3_daysByDay_67 K M a (i32 (dom y m)) x := by
  obtain ⟨⟨s0, s1, s2, s3, s4, s5, s6, s7, s8, s9⟩, h1, _, h4, h5, h6, h7, h8, h9, h10⟩ := hr
  obtain ⟨c0, c1, c2, c3, c4, c5⟩ := hc
  have hdm := dom_b y m
  have go : ∀ nr, (∀ v : Int, 1 ≤ v → v ≤ dom y m → (bj nr v.toNat = true ↔ nrs r y m v)) → V_X3_daysByDay_89 K M a (i32 (dom y m)) x nr := by
    intro nr hnr
    unfold V_X3_daysByDay_89
    refine ⟨s1, c, s5, s2, fun x4 e4 => ⟨(dom y m).toNat + 1, ?_⟩⟩
    subst e4
    rw [c5, q_1]
    have := s_byD103 (K := K) (M := M) hnr (bs := fun d => bj (rN r 2) d.toNat = true ∨ bj (rB r) (dom y m - d).toNat = true) (fun x hx => h x hx) (dom y m).toNat 1 x (by omega) (by omega) (fun d h2 h3 => by
      rw [hx d h2 h3]
      constructor
      · intro q; exact .inl q
      · intro q; rcases q with q | ⟨v, a1, a2, a3⟩
        · exact q
        · omega)
    exact this
  unfold V_X3_daysByDay_67
  refine ⟨s1, fun q => ?_, fun q => ?_⟩
  · rw [h7, bI_0] at q
    refine go _ (fun v h2 h3 => ?_)
    rw [h8]; unfold nrs; rw [q]; simp
  · rw [h7, bI_ne0] at q
    refine go _ (fun v h2 h3 => ?_)
    rw [bj_sh1i (by omega) (by omega), h8]; unfold nrs; rw [q]; simp
theorem s_byD25 {K : Rs → Mm → Prop} {M : Mm} {a c nu ye : Nat} {r : Ru} {y m d0 : Int} (hr : Rl M a c nu ye r) (hc : Civ (mI M c) y m d0)
    (h : ∀ x, (∀ d : Int, 1 ≤ d → d ≤ dom y m → (bj x d.toNat = true ↔ byD r y m d)) → K (.inl (some (.long x))) M) :
    ∀ (z : Nat) (n : Int) (x : Int64), n + z = dom y m → 0 ≤ n → (∀ d : Int, 1 ≤ d → d ≤ dom y m → (bj x d.toNat = true ↔ (bj (rN r 2) d.toNat = true ∨ (bj (rB r) (dom y m - d).toNat = true ∧ dom y m - d < n)))) → V_X3_daysByDay_25 K (z + 1) M a (i32 (dom y m)) x (i32 n) := by
  have hr' := hr
  obtain ⟨⟨s0, s1, s2, s3, s4, s5, s6, s7, s8, s9⟩, h1, _, h4, h5, h6, h7, h8, h9, h10⟩ := hr
  have hdm := dom_b y m
  intro z
  induction z with
  | zero =>
    intro n x e hn hx
    unfold V_X3_daysByDay_25
    rw [i32_le (by omega) (by omega) (by omega) (by omega)]
    refine ⟨fun _ => s_byD67 hr' hc (fun d h2 h3 => ?_) h, fun q => absurd (by omega) q⟩
    rw [hx d h2 h3]
    have : dom y m - d < n := by omega
    simp [this]
  | succ z ih =>
    intro n x e hn hx
    unfold V_X3_daysByDay_25
    rw [i32_le (by omega) (by omega) (by omega) (by omega), lg_cmp_eq, h6]
    refine ⟨fun q => absurd q (by omega), fun _ => ⟨s1, fun q => ?_, fun q => ?_⟩⟩
    · refine s_byD67 hr' hc (fun d h2 h3 => ?_) h
      rw [hx d h2 h3, q, bj_0]; simp
    · refine s_holdsN (by omega) (kI_i ?_)
      rw [bI_ne0, bI_0]
      unfold V_X3_daysByDay_61
      refine ⟨fun q2 x1 e1 => ?_, fun q2 x4 e4 x1 e1 => ?_⟩
      · subst e1
        rw [q_1, i32_add]
        refine ih (n + 1) x (by omega) (by omega) (fun d h2 h3 => ?_)
        rw [hx d h2 h3]
        by_cases c : dom y m - d = n
        · rw [c, q2]; simp
        · have : (dom y m - d < n + 1) ↔ (dom y m - d < n) := by omega
          rw [this]
      · subst e1; subst e4
        rw [q_1, i32_add, i32_sub]
        refine ih (n + 1) _ (by omega) (by omega) (fun d h2 h3 => ?_)
        rw [bj_sh1i (by omega) (by omega), hx d h2 h3]
        by_cases c : dom y m - d = n
        · have c2 : d = dom y m - n := by omega
          have c3 : n < n + 1 := by omega
          rw [c, q2]; simp [c2, c3]
        · have : (dom y m - d < n + 1) ↔ (dom y m - d < n) := by omega
          have c2 : ¬ d = dom y m - n := by omega
          rw [this]; simp [c2]
theorem s_byD {K : Rs → Mm → Prop} {M : Mm} {a c nu ye : Nat} {r : Ru} {y m d0 : Int} (hr : Rl M a c nu ye r) (hc : Civ (mI M c) y m d0)
    (h : ∀ x, (∀ d : Int, 1 ≤ d → d ≤ dom y m → (bj x d.toNat = true ↔ byD r y m d)) → K (.inl (some (.long x))) M) : V_X3_daysByDay K M a := by
  have hr' := hr
  have hc' := hc
  obtain ⟨⟨s0, s1, s2, s3, s4, s5, s6, s7, s8, s9⟩, h1, _⟩ := hr
  obtain ⟨c0, c1, c2, c3, c4, c5⟩ := hc
  have hdm := dom_b y m
  unfold V_X3_daysByDay
  refine ⟨s1, c, s5, s2, fun x4 e4 => ⟨nu, s6, s3, by rw [s8]; unfold vp_in; decide, ?_⟩⟩
  subst e4
  rw [c4, q_1, i32_add]
  refine s_below (by omega) (fun x hx => kJ_i (fun x10 e10 => ⟨(dom y m).toNat + 1, ?_⟩))
  subst e10
  rw [q_0]
  refine s_byD25 hr' hc' h (dom y m).toNat 0 _ (by omega) (by omega) (fun d h2 h3 => ?_)
  rw [bj_and, hx d.toNat (by omega), show ((2 : Int32)).toNatClampNeg = 2 by decide, h1 2 (by decide)]
  have e1 : ((d.toNat : Int) < dom y m + 1) := by omega
  have e2 : ¬ dom y m - d < 0 := by omega
  rw [decide_eq_true e1]
  simp [e2]
/-- the seven days that begin on a WEEKDAY -/
theorem s_wkF {K : Rs → Mm → Prop} {M : Mm} {w : Int} {s : Int64} (hw : 0 ≤ w ∧ w < 7) (h : ∀ x, (∀ i : Nat, i < 64 → bj x i = (decide (i < 7) && bj s ((w + i) % 7).toNat)) → K (.inl (some (.long x))) M) : V_X3_weekFrom K M (i32 w) s := by
  obtain ⟨k, rfl⟩ : ∃ k : Nat, w = k := ⟨w.toNat, by omega⟩
  have hk : k < 7 := by omega
  unfold V_X3_weekFrom
  intro x1 e1
  subst e1
  apply h
  intro i hi
  have b127 : ∀ j : Nat, bj 127 j = decide (j < 7) := fun j => by
    rw [bj_t]; exact Nat.testBit_two_pow_sub_one (n := 7) (i := j)
  rw [bj_and, bj_or, bj_ushr k (by omega), q_7, i32_sub, show (7 : Int) - (k : Int) = ((7 - k : Nat) : Int) by omega, bj_shl (7 - k) (by omega) _ hi, bj_and, bj_and, b127, b127, b127]
  by_cases c : i < 7
  · by_cases c2 : k + i < 7
    · have e1 : ((k : Int) + (i : Int)) % 7 = ((k + i : Nat) : Int) := by omega
      have e2 : ¬ (7 - k ≤ i) := by omega
      rw [e1, Int.toNat_natCast]
      simp [c, c2, e2]
    · have e1 : ((k : Int) + (i : Int)) % 7 = ((i - (7 - k) : Nat) : Int) := by omega
      have e2 : (7 - k ≤ i) := by omega
      have e3 : i - (7 - k) < 7 := by omega
      rw [e1, Int.toNat_natCast]
      simp [c, c2, e2, e3]
  · simp [c]
theorem bj_week {s x : Int64} {w sh : Int} (hw : 0 ≤ w ∧ w < 7) (hs : 0 ≤ sh ∧ sh < 50) (hx : ∀ i : Nat, i < 64 → bj x i = (decide (i < 7) && bj s ((w + i) % 7).toNat)) {d : Int} (hd : 0 ≤ d ∧ d < 64) :
    (bj (x <<< ((i32 sh).toInt64 &&& 63)) d.toNat = true) ↔ (sh ≤ d ∧ d < sh + 7 ∧ bj s ((w + (d - sh)) % 7).toNat = true) := by
  obtain ⟨k, rfl⟩ : ∃ k : Nat, sh = k := ⟨sh.toNat, by omega⟩
  obtain ⟨j, rfl⟩ : ∃ j : Nat, d = j := ⟨d.toNat, by omega⟩
  rw [Int.toNat_natCast, bj_shl k (by omega) _ (by omega)]
  by_cases c : k ≤ j
  · have e1 : (k : Int) ≤ j := by omega
    have e2 : ((j : Int) - (k : Int)) = ((j - k : Nat) : Int) := by omega
    rw [hx (j - k) (by omega), e2]
    by_cases c2 : j - k < 7
    · have e3 : (j : Int) < k + 7 := by omega
      simp [c, c2, e1, e3]
    · have e3 : ¬ (j : Int) < k + 7 := by omega
      simp [c2, e3]
  · have e1 : ¬ (k : Int) ≤ j := by omega
    simp [c]
theorem s_byW13 {K : Rs → Mm → Prop} {M : Mm} {a c nu ye : Nat} {r : Ru} {y m d0 : Int} (hr : Rl M a c nu ye r) (hc : Civ (mI M c) y m d0)
    (h : ∀ x, (∀ d : Int, 1 ≤ d → d ≤ dom y m → (bj x d.toNat = true ↔ byW r y m d)) → K (.inl (some (.long x))) M) :
    ∀ (z : Nat) (k : Int) (x : Int64), k + z = 6 → 1 ≤ k → (∀ d : Int, 1 ≤ d → d ≤ 35 → (bj x d.toNat = true ↔ (d ≤ 7 * (k - 1) ∧ (bj (rN r 4) (wd y m d).toNat = true ∨ rK r ((d + 6) / 7).toNat (wd y m d).toNat = true)))) → V_X3_daysByWeekday_13 K (z + 1) M a (i32 (dom y m)) x (i32 k) := by
  have hr' := hr
  obtain ⟨⟨s0, s1, s2, s3, s4, s5, s6, s7, s8, s9⟩, h1, _, h4, h5, h6, h7, h8, h9, h10⟩ := hr
  obtain ⟨c0, c1, c2, c3, c4, c5⟩ := hc
  have hdm := dom_b y m
  intro z
  induction z with
  | zero =>
    intro k x e hk hx
    have e6 : k = 6 := by omega
    subst e6
    unfold V_X3_daysByWeekday_13
    refine ⟨fun _ => ⟨s1, c, s5, s2, fun x4 e4 => ?_⟩, fun q => absurd (by decide) q⟩
    subst e4
    rw [c5, i32_add, q_7, i32_divp (by omega) (by omega) (by decide) (by decide), i32_mul, i32_sub]
    have ew : (mst y m + 1) % 7 + dom y m - ((mst y m + 1) % 7 + dom y m) / 7 * 7 = (mst y m + 1 + dom y m) % 7 := by omega
    rw [ew]
    refine s_wkF (by omega) (fun x6 hx6 => kJ_i (fun x7 e7 => ?_))
    subst e7
    rw [q_1, i32_add]
    refine s_below (by omega) (fun x9 hx9 => kJ_i (h _ (fun d h2 h3 => ?_)))
    rw [q_6, i32_sub, bj_and, hx9 d.toNat (by omega), bj_or]
    have e1 : ((d.toNat : Int) < dom y m + 1) := by omega
    simp only [e1, decide_true, Bool.and_true, Bool.or_eq_true]
    rw [hx d h2 (by omega), bj_week (by omega) (by omega) hx6 (by omega), h9]
    have e2 : ((mst y m + 1 + dom y m) % 7 + (d - (dom y m - 6))) % 7 = wd y m d := by unfold wd; omega
    rw [e2]
    unfold byW
    have e3 : d ≤ 7 * (6 - 1) := by omega
    have e4 : d < dom y m - 6 + 7 := by omega
    have e5 : (dom y m - 6 ≤ d) ↔ dom y m < d + 7 := by omega
    simp only [e3, e4, e5, true_and]
    constructor
    · intro q; rcases q with q | ⟨q1, q2⟩
      · exact .inl q
      · exact .inr ⟨q2, q1⟩
    · intro q; rcases q with q | ⟨q1, q2⟩
      · exact .inl q
      · exact .inr ⟨q2, q1⟩
  | succ z ih =>
    intro k x e hk hx
    unfold V_X3_daysByWeekday_13
    rw [q_5, i32_lt (by omega) (by omega) (by omega) (by omega)]
    refine ⟨fun q => absurd q (by omega), fun _ => ⟨s1, nu, s6, s3, by rw [s8]; unfold vp_in; decide, fun x14 e14 => ⟨c, s5, s2, ?_⟩⟩⟩
    subst e14
    rw [c5]
    refine s_wkF (by omega) (fun x18 hx18 => kJ_i (fun x19 e19 x20 e20 => ?_))
    subst e19; subst e20
    rw [q_7, q_6, q_1, i32_mul, i32_sub, i32_add]
    refine ih (k + 1) _ (by omega) (by omega) (fun d h2 h3 => ?_)
    obtain ⟨n, rfl⟩ : ∃ n : Nat, k = n := ⟨k.toNat, by omega⟩
    rw [q_7, i32_mul, show (7 : Int) * (n : Int) = ((7 * n : Nat) : Int) by omega] at hx18
    rw [bj_or, Bool.or_eq_true, hx d h2 h3, bj_week (by omega) (by omega) hx18 (by omega)]
    have ew : ((mst y m + 1) % 7 + (d - (7 * (n : Int) - 6))) % 7 = wd y m d := by unfold wd; omega
    have hwb := wd_b y m d
    rw [ew, bj_or, bj_ushr (7 * n) (by omega), h10 n (wd y m d).toNat (by omega) (by omega) (by omega), show ((4 : Int32)).toNatClampNeg = 4 by decide, h1 4 (by decide), Bool.or_eq_true]
    by_cases c1 : d ≤ 7 * ((n : Int) - 1)
    · have e1 : d ≤ 7 * (n : Int) := by omega
      have e2 : ¬ 7 * (n : Int) - 6 ≤ d := by omega
      simp [c1, e1, e2]
    · by_cases c2 : d ≤ 7 * (n : Int)
      · have e1 : d ≤ 7 * (n : Int) := by omega
        have e2 : 7 * (n : Int) - 6 ≤ d := by omega
        have e3 : d < 7 * (n : Int) - 6 + 7 := by omega
        have e4 : ((d + 6) / 7).toNat = n := by omega
        simp [c1, e1, e2, e3, e4]
      · have e1 : ¬ d ≤ 7 * (n : Int) := by omega
        have e3 : ¬ d < 7 * (n : Int) - 6 + 7 := by omega
        simp [c1, e1, e3]
theorem s_byW {K : Rs → Mm → Prop} {M : Mm} {a c nu ye : Nat} {r : Ru} {y m d0 : Int} (hr : Rl M a c nu ye r) (hc : Civ (mI M c) y m d0)
    (h : ∀ x, (∀ d : Int, 1 ≤ d → d ≤ dom y m → (bj x d.toNat = true ↔ byW r y m d)) → K (.inl (some (.long x))) M) : V_X3_daysByWeekday K M a := by
  have hr' := hr
  obtain ⟨⟨s0, s1, s2, s3, s4, s5, s6, s7, s8, s9⟩, _⟩ := hr
  unfold V_X3_daysByWeekday
  refine ⟨s1, c, s5, s2, fun x4 e4 => ⟨6, ?_⟩⟩
  subst e4
  rw [hc.2.2.2.2.1, q_1]
  refine s_byW13 hr' hc h 5 1 0 (by decide) (by decide) (fun d h2 h3 => ?_)
  rw [bj_0]
  constructor
  · intro q; exact absurd q (by decide)
  · intro ⟨q, _⟩; omega
theorem s_rd40 {K : Rs → Mm → Prop} {M : Mm} {a c nu ye : Nat} {r : Ru} {y m d0 how : Int} (hr : Rl M a c nu ye r) (hc : Civ (mI M c) y m d0) (hh : 0 ≤ how ∧ how ≤ 3)
    (h : ∀ x, (∀ d : Int, 1 ≤ d → d ≤ dom y m → (bj x d.toNat = true ↔ (if how = 0 then byD r y m d else if how = 1 then byW r y m d else both r y m d))) → K (.inl (some (.long x))) M) : V_X3_rightDays_40 K M a (i32 how) := by
  have hr' := hr
  obtain ⟨⟨s0, s1, s2, s3, s4, s5, s6, s7, s8, s9⟩, h1, _, h4, h5, h6, h7, h8, h9, h10⟩ := hr
  unfold V_X3_rightDays_40 V_X3_rightDays_73 V_X3_rightDays_94
  rw [h4, h5, bI_ne0, bI_ne0, bI_0, bI_0, q_0, q_1, i32_eq (by omega) (by omega) (by omega) (by omega), i32_eq (by omega) (by omega) (by omega) (by omega)]
  refine ⟨fun w0 => ⟨fun w1 => ?_, fun w1 => ⟨s1, s_byW hr' hc (fun x hx => kJ_i (h x (fun d h2 h3 => ?_)))⟩⟩, fun w0 => ⟨s1, s_byD hr' hc (fun x hx => kJ_i (h x (fun d h2 h3 => ?_)))⟩⟩
  · simp only [if_neg w0, if_neg w1] at h
    have hand : (rS r = true ∨ rT r = true) → V_X3_daysByDay (kJ (fun r3 M2 => (ob M2 a 3 ∧ V_X3_daysByWeekday (kJ (fun r6 M5 => K (.inl (some (.long (r3 &&& r6)))) M5) (fun _ _ => False)) M2 a)) (fun _ _ => False)) M a := by
      intro hst
      refine s_byD hr' hc (fun x hx => kJ_i ⟨s1, s_byW hr' hc (fun x' hx' => kJ_i (h _ (fun d h2 h3 => ?_)))⟩)
      unfold both
      rw [if_pos hst, bj_and, Bool.and_eq_true, hx d h2 h3, hx' d h2 h3]
    refine ⟨s1, fun q => ⟨s1, hand (.inl q)⟩, fun q => ⟨fun q2 => ?_, fun q2 => ⟨s1, hand (.inr q2)⟩⟩⟩
    refine s_byD hr' hc (fun x hx => kJ_i ⟨s1, s_byW hr' hc (fun x' hx' => kJ_i (h _ (fun d h2 h3 => ?_)))⟩)
    unfold both
    rw [if_neg (by rw [q, q2]; decide), bj_or, Bool.or_eq_true, hx d h2 h3, hx' d h2 h3]
  · rw [if_neg w0, if_pos w1]; exact hx d h2 h3
  · rw [if_pos w0]; exact hx d h2 h3
theorem s_rd {K : Rs → Mm → Prop} {M : Mm} {a c nu ye : Nat} {r : Ru} {y m d0 how : Int} (hr : Rl M a c nu ye r) (hc : Civ (mI M c) y m d0) (hy : 1899 ≤ y ∧ y ≤ 2200) (hm : 1 ≤ m ∧ m ≤ 12) (hh : 0 ≤ how ∧ how ≤ 3)
    (h : ∀ x, (∀ d : Int, 1 ≤ d → d ≤ dom y m → (bj x d.toNat = true ↔ hwD r how y m d)) → K (.inl (some (.long x))) M) : V_X3_rightDays K M a (i32 how) := by
  have hr' := hr
  obtain ⟨⟨s0, s1, s2, s3, s4, s5, s6, s7, s8, s9⟩, h1, _⟩ := hr
  have hc' := hc
  obtain ⟨c0, c1, c2, c3, c4, c5⟩ := hc
  unfold V_X3_rightDays V_X3_rightDays_38
  rw [q_3, i32_eq (by omega) (by omega) (by omega) (by omega)]
  refine ⟨fun q => s_rd40 hr' hc' hh (fun x hx => h x (fun d h2 h3 => ?_)), fun q => ⟨s1, nu, s6, s3, by rw [s8]; unfold vp_in; decide, c, s5, s2, ?_⟩⟩
  · rw [hx d h2 h3]
    unfold hwD
    by_cases w0 : how = 0
    · rw [if_pos w0, if_pos w0]
    · by_cases w1 : how = 1
      · rw [if_neg w0, if_pos w1, if_neg w0, if_pos w1]
      · have w2 : how = 2 := by omega
        rw [if_neg w0, if_neg w1, if_neg w0, if_neg w1, if_pos w2]
  · subst q
    have hwh : ∀ d, hwD r 3 y m d = whl r y m d := fun d => rfl
    rw [c1, i32_clamp (by decide) (by decide), show (3 : Int).toNat = 3 by rfl, h1 3 (by decide)]
    refine s_holdsN (by omega) (kI_i ?_)
    rw [bI_ne0, bI_0]
    refine ⟨fun w => h 0 (fun d h2 h3 => ?_), fun w => ⟨s1, c, s5, s2, ?_⟩⟩
    · rw [hwh, bj_0]; unfold whl; rw [w]; simp
    · rw [c0]
      refine s_hYear hr' hy (kI_i ?_)
      rw [bI_ne0, bI_0]
      refine ⟨fun w2 => s_rd40 hr' hc' hh (fun x hx => h x (fun d h2 h3 => ?_)), fun w2 => h 0 (fun d h2 h3 => ?_)⟩
      · rw [hx d h2 h3, hwh]; unfold whl; rw [w, w2]; simp
      · rw [hwh, bj_0]; unfold whl; rw [w2]; simp
theorem s_isR {K : Rs → Mm → Prop} {M : Mm} {a c nu ye : Nat} {r : Ru} {n : Int} (hr : Rl M a c nu ye r) (hk : Kn r (mI M a)) (hn : -365 ≤ n ∧ n ≤ 109937)
    (h : ∀ M' b, Sc a c M M' → Kn r (mI M' a) → (b = true ↔ rt r n) → K (.inl (some (.int (bI b)))) M') : V_X3_isRight K M a (i32 n) := by
  have hr' := hr
  obtain ⟨⟨s0, s1, s2, s3, s4, s5, s6, s7, s8, s9⟩, _⟩ := hr
  unfold V_X3_isRight V_X3_isRight_40
  refine ⟨s1, fun q => ?_, fun q => ⟨c, s5, s2, ?_⟩⟩
  · obtain ⟨b, e1, e2⟩ := hk n (by omega) (by omega) q.symm
    rw [e1]
    exact ⟨s1, bI_01 b, h M b (Sc.refl a c M) hk e2⟩
  · obtain ⟨y, m, d, hd⟩ := isD_ex hn
    have hdm := dom_b y m
    refine s_day hd s2 (fun rc hrc => kV_i ⟨s1, ?_⟩)
    have hsc := Sc.civ (a := a) M rc s0
    have hr2 := hsc.rl hr'
    have hc2 : Civ (mI (wI M c rc) c) y m d := by rw [mI_w]; exact hrc
    rw [q_3]
    refine s_rd hr2 hc2 hd.1 hd.2.1 (by decide) (fun x hx => kJ_i ⟨s1, c, s5, s2, ?_⟩)
    have hdb := hd.2.2.1
    rw [hc2.2.2.1]
    refine s_holdsN (by omega) (kI_i ⟨s1, bI_01 _, fun M15 e15 M16 e16 => ?_⟩)
    subst e15; subst e16
    have hb := hx d hdb.1 hdb.2
    generalize bj x d.toNat = b at hb
    have e12 : ∀ v, mI (sI (sI (wI M c rc) a 12 (bI b)) a 11 v) a = va_up (va_up (mI (wI M c rc) a) 12 (bI b)) 11 v := fun v => by rw [sI_w, mI_w, sI_w, mI_w]
    rw [e12]
    have e9 : va_up (va_up (mI (wI M c rc) a) 12 (bI b)) 11 (i32 n) 12 = bI b := by rw [va_up_ne _ _ (by decide), va_up_self]
    rw [e9]
    have hbr : b = true ↔ rt r n := hb.trans (rt_of hd).symm
    refine ⟨s1, bI_01 b, h _ b (hsc.trans ⟨rfl, rfl, rfl, rfl, rfl, fun b' h1 h2 => ?_, fun k h1 h2 => ?_⟩) ?_ hbr⟩
    · rw [sI_w, mI_wn _ _ h1, sI_w, mI_wn _ _ h1]
    · rw [e12, va_up_ne _ _ h1, va_up_ne _ _ h2]
    · rw [e12]
      intro n' g1 g2 g3
      rw [va_up_self, i32_eq (by omega) (by omega) (by omega) (by omega)] at g3
      subst g3
      exact ⟨b, e9, hbr⟩
