/-! the times of a day, and civil minutes -/
def tm (r : Ru) (t : Nat) : Bool := bj (rN r 1) (t / 60) && bj (rN r 0) (t % 60)
def wfT (r : Ru) : Prop := (∀ i, 60 ≤ i → bj (rN r 0) i = false) ∧ (∀ i, 24 ≤ i → bj (rN r 1) i = false) ∧ (∃ i, bj (rN r 0) i = true) ∧ (∃ i, bj (rN r 1) i = true)
theorem nz_i {x : Int64} {i : Nat} (h : bj x i = true) : ¬ x = 0 := fun e => by rw [e, bj_0] at h; exact absurd h (by decide)
theorem tm_hm {r : Ru} {h m : Nat} (hm : m < 60) : tm r (h * 60 + m) = (bj (rN r 1) h && bj (rN r 0) m) := by
  unfold tm
  rw [show (h * 60 + m) / 60 = h by omega, show (h * 60 + m) % 60 = m by omega]
theorem s_tF53 {K : Rs → Mm → Prop} {M : Mm} {a c nu ye : Nat} {r : Ru} (hr : Rl M a c nu ye r) (hw : wfT r) {t : Int} (ht : 0 ≤ t ∧ t < 1440) (hX : ∀ n : Int, t ≤ n → n < 60 * (t / 60 + 1) → tm r n.toNat = false)
    (h : ∀ v, Ls (fun n => tm r n.toNat) t 1439 (-1) v → K (.inl (some (.int (i32 v)))) M) : V_X3_timeFrom_53 K M a (i32 (t / 60)) := by
  obtain ⟨⟨s0, s1, s2, s3, s4, s5, s6, s7, s8, s9⟩, h1, _⟩ := hr
  obtain ⟨w0, w1, ⟨i0, w2⟩, ⟨i1, w3⟩⟩ := hw
  unfold V_X3_timeFrom_53 V_X3_timeFrom_101
  refine ⟨s1, nu, s6, s3, by rw [s8]; unfold vp_in; decide, ?_⟩
  rw [q_1, i32_add]
  refine s_below (by omega) (fun x6 h6 => kJ_i (fun x7 e7 => ?_))
  rw [i32_clamp (by decide) (by decide), show (1 : Int).toNat = 1 by rfl, h1 1 (by decide)] at e7
  have hb : ∀ i : Nat, i < 64 → bj x7 i = (bj (rN r 1) i && !decide ((i : Int) < t / 60 + 1)) := fun i hi => by rw [e7, bj_and, bj_not _ hi, h6 i hi]
  rw [lg_cmp_eq]
  refine ⟨fun q => ?_, fun q => ?_⟩
  · refine s_low q (fun k hk k1 k2 => kI_i ⟨s1, nu, s6, s3, by rw [s8]; unfold vp_in; decide, ?_⟩)
    rw [show ((0 : Int32)).toNatClampNeg = 0 by decide, h1 0 (by decide)]
    refine s_low (nz_i w2) (fun j hj j1 j2 => kI_i ?_)
    rw [q_60, i32_mul, i32_add]
    rw [hb k hk, Bool.and_eq_true, Bool.not_eq_true', decide_eq_false_iff_not] at k1
    have hk24 : k < 24 := by
      by_cases c : k < 24
      · exact c
      · rw [w1 k (by omega)] at k1; exact absurd k1.1 (by decide)
    have hj60 : j < 60 := by
      by_cases c : j < 60
      · exact c
      · rw [w0 j (by omega)] at j1; exact absurd j1 (by decide)
    refine h _ (.inr ⟨by omega, by omega, ?_, fun n n1 n2 => ?_⟩)
    · show tm r _ = true
      rw [show ((k : Int) * 60 + j).toNat = k * 60 + j by omega, tm_hm hj60, k1.1, j1]; rfl
    · by_cases c : n < 60 * (t / 60 + 1)
      · exact hX n n1 c
      · show tm r _ = false
        obtain ⟨N, rfl⟩ : ∃ N : Nat, n = N := ⟨n.toNat, by omega⟩
        rw [Int.toNat_natCast]
        unfold tm
        by_cases c2 : N / 60 < k
        · have := k2 (N / 60) c2
          rw [hb _ (by omega)] at this
          have e9 : ¬ ((N / 60 : Nat) : Int) < t / 60 + 1 := by omega
          rw [decide_eq_false e9, Bool.not_false, Bool.and_true] at this
          rw [this]; rfl
        · have e9 : N / 60 = k := by omega
          have := j2 (N % 60) (by omega)
          rw [this, Bool.and_false]
  · rw [i32_neg]
    refine h _ (.inl ⟨rfl, fun n n1 n2 => ?_⟩)
    by_cases c : n < 60 * (t / 60 + 1)
    · exact hX n n1 c
    · show tm r _ = false
      obtain ⟨N, rfl⟩ : ∃ N : Nat, n = N := ⟨n.toNat, by omega⟩
      rw [Int.toNat_natCast]
      unfold tm
      have := z_bits q (N / 60)
      rw [hb _ (by omega)] at this
      have e9 : ¬ ((N / 60 : Nat) : Int) < t / 60 + 1 := by omega
      rw [decide_eq_false e9, Bool.not_false, Bool.and_true] at this
      rw [this]; rfl
theorem s_tF {K : Rs → Mm → Prop} {M : Mm} {a c nu ye : Nat} {r : Ru} (hr : Rl M a c nu ye r) (hw : wfT r) {t : Int} (ht : 0 ≤ t ∧ t < 1440)
    (h : ∀ v, Ls (fun n => tm r n.toNat) t 1439 (-1) v → K (.inl (some (.int (i32 v)))) M) : V_X3_timeFrom K M a (i32 t) := by
  have hr' := hr
  have hw' := hw
  obtain ⟨⟨s0, s1, s2, s3, s4, s5, s6, s7, s8, s9⟩, h1, _⟩ := hr
  obtain ⟨w0, w1, ⟨i0, w2⟩, ⟨i1, w3⟩⟩ := hw
  unfold V_X3_timeFrom
  intro x1 e1
  rw [q_60, i32_divp (by omega) (by omega) (by decide) (by decide)] at e1
  subst e1
  refine ⟨s1, nu, s6, s3, by rw [s8]; unfold vp_in; decide, ?_⟩
  rw [q_60, i32_divp (by omega) (by omega) (by decide) (by decide), i32_mul, i32_sub, show t - t / 60 * 60 = t % 60 by omega]
  refine s_below (by omega) (fun x7 h7 => kJ_i (fun x8 e8 => ⟨s1, nu, s6, s3, by rw [s8]; unfold vp_in; decide, ?_⟩))
  rw [show ((0 : Int32)).toNatClampNeg = 0 by decide, h1 0 (by decide)] at e8
  have hb : ∀ i : Nat, i < 64 → bj x8 i = (bj (rN r 0) i && !decide ((i : Int) < t % 60)) := fun i hi => by rw [e8, bj_and, bj_not _ hi, h7 i hi]
  rw [show ((1 : Int32)).toNatClampNeg = 1 by decide, h1 1 (by decide)]
  refine s_holdsN (by omega) (kI_i ?_)
  rw [bI_ne0, bI_0, lg_cmp_eq]
  refine ⟨fun q => s_tF53 hr' hw' ht (fun n n1 n2 => ?_) h, fun q => ⟨fun q2 => s_tF53 hr' hw' ht (fun n n1 n2 => ?_) h, fun q2 => ?_⟩⟩
  · unfold tm
    rw [show n.toNat / 60 = (t / 60).toNat by omega, q]; rfl
  · unfold tm
    have := z_bits q2 (n.toNat % 60)
    rw [hb _ (by omega)] at this
    have e9 : ¬ ((n.toNat % 60 : Nat) : Int) < t % 60 := by omega
    rw [decide_eq_false e9, Bool.not_false, Bool.and_true] at this
    rw [this, Bool.and_false]
  · refine s_low q2 (fun k hk k1 k2 => kI_i ?_)
    rw [hb k hk, Bool.and_eq_true, Bool.not_eq_true', decide_eq_false_iff_not] at k1
    have hk60 : k < 60 := by
      by_cases c : k < 60
      · exact c
      · rw [w0 k (by omega)] at k1; exact absurd k1.1 (by decide)
    rw [i32_add]
    refine h _ (.inr ⟨by omega, by omega, ?_, fun n n1 n2 => ?_⟩)
    · show tm r _ = true
      rw [show (t / 60 * 60 + (k : Int)).toNat = (t / 60).toNat * 60 + k by omega, tm_hm hk60, q, k1.1]; rfl
    · show tm r _ = false
      unfold tm
      have := k2 (n.toNat % 60) (by omega)
      rw [hb _ (by omega)] at this
      have e9 : ¬ ((n.toNat % 60 : Nat) : Int) < t % 60 := by omega
      rw [decide_eq_false e9, Bool.not_false, Bool.and_true] at this
      rw [this, Bool.and_false]
theorem s_tU51 {K : Rs → Mm → Prop} {M : Mm} {a c nu ye : Nat} {r : Ru} (hr : Rl M a c nu ye r) (hw : wfT r) {t : Int} (ht : 0 ≤ t ∧ t < 1440) (hX : ∀ n : Int, n ≤ t → 60 * (t / 60) ≤ n → tm r n.toNat = false)
    (h : ∀ v, Gs (fun n => tm r n.toNat) 0 t (-1) v → K (.inl (some (.int (i32 v)))) M) : V_X3_timeUpTo_51 K M a (i32 (t / 60)) := by
  obtain ⟨⟨s0, s1, s2, s3, s4, s5, s6, s7, s8, s9⟩, h1, _⟩ := hr
  obtain ⟨w0, w1, ⟨i0, w2⟩, ⟨i1, w3⟩⟩ := hw
  unfold V_X3_timeUpTo_51 V_X3_timeUpTo_93
  refine ⟨s1, nu, s6, s3, by rw [s8]; unfold vp_in; decide, ?_⟩
  refine s_below (by omega) (fun x6 h6 => kJ_i (fun x7 e7 => ?_))
  rw [show ((1 : Int32)).toNatClampNeg = 1 by decide, h1 1 (by decide)] at e7
  have hb : ∀ i : Nat, i < 64 → bj x7 i = (bj (rN r 1) i && decide ((i : Int) < t / 60)) := fun i hi => by rw [e7, bj_and, h6 i hi]
  rw [lg_cmp_eq]
  refine ⟨fun q => ?_, fun q => ?_⟩
  · refine s_high q (fun k hk k1 k2 => kI_i ⟨s1, nu, s6, s3, by rw [s8]; unfold vp_in; decide, ?_⟩)
    rw [show ((0 : Int32)).toNatClampNeg = 0 by decide, h1 0 (by decide)]
    refine s_high (nz_i w2) (fun j hj j1 j2 => kI_i ?_)
    rw [q_60, i32_mul, i32_add]
    rw [hb k hk, Bool.and_eq_true, decide_eq_true_iff] at k1
    have hj60 : j < 60 := by
      by_cases c : j < 60
      · exact c
      · rw [w0 j (by omega)] at j1; exact absurd j1 (by decide)
    refine h _ (.inr ⟨by omega, by omega, ?_, fun n n1 n2 => ?_⟩)
    · show tm r _ = true
      rw [show ((k : Int) * 60 + j).toNat = k * 60 + j by omega, tm_hm hj60, k1.1, j1]; rfl
    · by_cases c : 60 * (t / 60) ≤ n
      · exact hX n n2 c
      · show tm r _ = false
        obtain ⟨N, rfl⟩ : ∃ N : Nat, n = N := ⟨n.toNat, by omega⟩
        rw [Int.toNat_natCast]
        unfold tm
        by_cases c2 : k < N / 60
        · have := k2 (N / 60) c2
          rw [hb _ (by omega)] at this
          have e9 : ((N / 60 : Nat) : Int) < t / 60 := by omega
          rw [decide_eq_true e9, Bool.and_true] at this
          rw [this]; rfl
        · have e9 : N / 60 = k := by omega
          have := j2 (N % 60) (by omega)
          rw [this, Bool.and_false]
  · rw [show (-1 : Int32) = i32 (-1) by decide]
    refine h _ (.inl ⟨rfl, fun n n1 n2 => ?_⟩)
    by_cases c : 60 * (t / 60) ≤ n
    · exact hX n n2 c
    · show tm r _ = false
      obtain ⟨N, rfl⟩ : ∃ N : Nat, n = N := ⟨n.toNat, by omega⟩
      rw [Int.toNat_natCast]
      unfold tm
      have := z_bits q (N / 60)
      rw [hb _ (by omega)] at this
      have e9 : ((N / 60 : Nat) : Int) < t / 60 := by omega
      rw [decide_eq_true e9, Bool.and_true] at this
      rw [this]; rfl
theorem s_tU {K : Rs → Mm → Prop} {M : Mm} {a c nu ye : Nat} {r : Ru} (hr : Rl M a c nu ye r) (hw : wfT r) {t : Int} (ht : 0 ≤ t ∧ t < 1440)
    (h : ∀ v, Gs (fun n => tm r n.toNat) 0 t (-1) v → K (.inl (some (.int (i32 v)))) M) : V_X3_timeUpTo K M a (i32 t) := by
  have hr' := hr
  have hw' := hw
  obtain ⟨⟨s0, s1, s2, s3, s4, s5, s6, s7, s8, s9⟩, h1, _⟩ := hr
  obtain ⟨w0, w1, ⟨i0, w2⟩, ⟨i1, w3⟩⟩ := hw
  unfold V_X3_timeUpTo
  intro x1 e1
  rw [q_60, i32_divp (by omega) (by omega) (by decide) (by decide)] at e1
  subst e1
  refine ⟨s1, nu, s6, s3, by rw [s8]; unfold vp_in; decide, ?_⟩
  rw [q_60, i32_divp (by omega) (by omega) (by decide) (by decide), i32_mul, i32_sub, show t - t / 60 * 60 = t % 60 by omega, q_1, i32_add]
  refine s_below (by omega) (fun x7 h7 => kJ_i (fun x8 e8 => ⟨s1, nu, s6, s3, by rw [s8]; unfold vp_in; decide, ?_⟩))
  rw [show ((0 : Int32)).toNatClampNeg = 0 by decide, h1 0 (by decide)] at e8
  have hb : ∀ i : Nat, i < 64 → bj x8 i = (bj (rN r 0) i && decide ((i : Int) < t % 60 + 1)) := fun i hi => by rw [e8, bj_and, h7 i hi]
  rw [show (i32 1).toNatClampNeg = 1 by decide, h1 1 (by decide)]
  refine s_holdsN (by omega) (kI_i ?_)
  rw [bI_ne0, bI_0, lg_cmp_eq]
  refine ⟨fun q => s_tU51 hr' hw' ht (fun n n1 n2 => ?_) h, fun q => ⟨fun q2 => s_tU51 hr' hw' ht (fun n n1 n2 => ?_) h, fun q2 => ?_⟩⟩
  · unfold tm
    rw [show n.toNat / 60 = (t / 60).toNat by omega, q]; rfl
  · unfold tm
    have := z_bits q2 (n.toNat % 60)
    rw [hb _ (by omega)] at this
    have e9 : ((n.toNat % 60 : Nat) : Int) < t % 60 + 1 := by omega
    rw [decide_eq_true e9, Bool.and_true] at this
    rw [this, Bool.and_false]
  · refine s_high q2 (fun k hk k1 k2 => kI_i ?_)
    rw [hb k hk, Bool.and_eq_true, decide_eq_true_iff] at k1
    rw [i32_add]
    refine h _ (.inr ⟨by omega, by omega, ?_, fun n n1 n2 => ?_⟩)
    · show tm r _ = true
      rw [show (t / 60 * 60 + (k : Int)).toNat = (t / 60).toNat * 60 + k by omega, tm_hm (by omega), q, k1.1]; rfl
    · show tm r _ = false
      unfold tm
      have := k2 (n.toNat % 60) (by omega)
      rw [hb _ (by omega)] at this
      have e9 : ((n.toNat % 60 : Nat) : Int) < t % 60 + 1 := by omega
      rw [decide_eq_true e9, Bool.and_true] at this
      rw [this, Bool.and_false]
theorem cN_and (b : Bool) (p : Nat → Bool) (n : Nat) : cN (fun i => b && p i) n = if b then cN p n else 0 := by
  cases b
  · simp only [Bool.false_and]; rw [cN_0 (fun _ _ => rfl)]; rfl
  · simp
theorem tm_cnt {r : Ru} (h m : Nat) (hm : m ≤ 60) : cN (tm r) (60 * h + m) = cN (bj (rN r 1)) h * cN (bj (rN r 0)) 60 + if bj (rN r 1) h then cN (bj (rN r 0)) m else 0 := by
  have key : ∀ (h m : Nat), m ≤ 60 → cN (fun j => tm r (60 * h + j)) m = if bj (rN r 1) h then cN (bj (rN r 0)) m else 0 := by
    intro h m hm
    rw [← cN_and]
    refine cN_congr (fun i hi => ?_)
    rw [show 60 * h + i = h * 60 + i by omega, tm_hm (by omega)]
  have all : ∀ h : Nat, cN (tm r) (60 * h) = cN (bj (rN r 1)) h * cN (bj (rN r 0)) 60 := by
    intro h
    induction h with
    | zero => simp [cN]
    | succ h ih =>
      rw [show 60 * (h + 1) = 60 * h + 60 by omega, cN_add, ih, key h 60 (by omega)]
      have e1 : cN (bj (rN r 1)) (h + 1) = cN (bj (rN r 1)) h + if bj (rN r 1) h then 1 else 0 := rfl
      rw [e1, Nat.add_mul]
      generalize cN (bj (rN r 0)) 60 = w
      split <;> omega
  rw [cN_add, all, key h m hm]
theorem cN_ext0 {p : Nat → Bool} {n m : Nat} (h : n ≤ m) (hp : ∀ i, n ≤ i → p i = false) : cN p m = cN p n := by
  rw [show m = n + (m - n) by omega, cN_add, cN_0 (p := fun j => p (n + j)) (fun i _ => hp _ (by omega)), Nat.add_zero]
theorem cN_below {x y : Int64} {n : Int} (hn : 0 ≤ n ∧ n < 64) (hy : ∀ i : Nat, i < 64 → bj y i = decide ((i : Int) < n)) : cN (bj (x &&& y)) 64 = cN (bj x) n.toNat := by
  have h1 : cN (bj (x &&& y)) 64 = cN (fun i => bj x i && decide (0 ≤ i ∧ i < n.toNat)) 64 := cN_congr (fun i hi => by
    rw [bj_and, hy i hi]
    congr 1
    apply decide_eq_decide.mpr
    omega)
  rw [h1, cN_win 64 (by omega) (by omega), Nat.sub_zero]
  exact cN_congr (fun i _ => by rw [Nat.zero_add])
theorem s_tB {K : Rs → Mm → Prop} {M : Mm} {a c nu ye : Nat} {r : Ru} (hr : Rl M a c nu ye r) (hw : wfT r) {t : Int} (ht : 0 ≤ t ∧ t ≤ 1440)
    (h : K (.inl (some (.int (i32 (cN (tm r) t.toNat : Nat))))) M) : V_X3_timesBefore K M a (i32 t) := by
  obtain ⟨⟨s0, s1, s2, s3, s4, s5, s6, s7, s8, s9⟩, h1, _⟩ := hr
  obtain ⟨w0, w1, ⟨i0, w2⟩, ⟨i1, w3⟩⟩ := hw
  have e60 : cN (bj (rN r 0)) 64 = cN (bj (rN r 0)) 60 := cN_ext0 (by decide) w0
  have ec := tm_cnt (r := r) (t / 60).toNat (t % 60).toNat (by omega)
  rw [show 60 * (t / 60).toNat + (t % 60).toNat = t.toNat by omega] at ec
  rw [ec] at h
  unfold V_X3_timesBefore V_X3_timesBefore_66
  intro x1 e1
  rw [q_60, i32_divp (by omega) (by omega) (by decide) (by decide)] at e1
  subst e1
  have z0 : ((0 : Int32)).toNatClampNeg = 0 := by decide
  have z1 : ((1 : Int32)).toNatClampNeg = 1 := by decide
  refine ⟨s1, nu, s6, s3, by rw [s8]; unfold vp_in; decide, ?_⟩
  refine s_below (by omega) (fun x7 h7 => kJ_i (s_cnt (kI_i ⟨s1, nu, s6, s3, by rw [s8]; unfold vp_in; decide, s_cnt (kI_i (fun x16 e16 => ⟨s1, nu, s6, s3, by rw [s8]; unfold vp_in; decide, ?_⟩))⟩)))
  rw [z0, z1, h1 1 (by decide), h1 0 (by decide), e60, cN_below (by omega) h7, i32_mul] at e16
  subst e16
  rw [z1, h1 1 (by decide)]
  refine s_holdsN (by omega) (kI_i ?_)
  rw [bI_ne0, bI_0]
  refine ⟨fun q => ?_, fun q => ⟨s1, nu, s6, s3, by rw [s8]; unfold vp_in; decide, ?_⟩⟩
  · rw [q] at h
    simpa using h
  · rw [q_60, i32_divp (by omega) (by omega) (by decide) (by decide), i32_mul, i32_sub, show t - t / 60 * 60 = t % 60 by omega]
    refine s_below (by omega) (fun x28 h28 => kJ_i (s_cnt (kI_i ?_)))
    rw [z0, h1 0 (by decide), cN_below (by omega) h28, i32_add]
    rw [q] at h
    simpa using h
