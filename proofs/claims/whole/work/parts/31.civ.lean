/-! the calendar's methods -/
theorem kI_i {f : Int32 → Mm → Prop} {t : String → Mm → Prop} {x : Int32} {M : Mm} (h : f x M) : kI f t (.inl (some (.int x))) M := h
theorem kJ_i {f : Int64 → Mm → Prop} {t : String → Mm → Prop} {x : Int64} {M : Mm} (h : f x M) : kJ f t (.inl (some (.long x))) M := h
theorem kV_i {f : Mm → Prop} {t : String → Mm → Prop} {M : Mm} (h : f M) : kV f t (.inl none) M := h
theorem kR_i {f : Nat → Mm → Prop} {t : String → Mm → Prop} {x : Nat} {M : Mm} (h : f x M) : kR f t (.inl (some (.ref x))) M := h
theorem s_fdiv {K : Rs → Mm → Prop} {M : Mm} {a b : Int} (h1 : -2147483647 ≤ a) (h2 : a ≤ 2147483647) (h3 : 0 < b) (h4 : b ≤ 100000) (h : K (.inl (some (.int (i32 (a / b))))) M) : V_J9_floorDiv_7cf53 K M (i32 a) (i32 b) := by
  unfold V_J9_floorDiv_7cf53
  refine ⟨by rw [i32_nat, i32_eq (by omega) (by omega) (by decide) (by decide)]; omega, ?_⟩
  intro x1 e
  subst e
  rw [i32_xs (by omega) h2 h3 (by omega)]
  by_cases h0 : 0 ≤ a
  · rw [i32_divp h0 h2 h3 (by omega)]
    exact ⟨fun _ => h, fun q => absurd h0 q⟩
  · rw [i32_divn (by omega) (by omega) h3 (by omega)]
    refine ⟨fun q => absurd q h0, fun _ => ?_⟩
    have hm := Int.mul_ediv_add_emod (-a) b
    have hr := Int.emod_nonneg (-a) (by omega : b ≠ 0)
    have hl := Int.emod_lt_of_pos (-a) h3
    have hb1 : 0 ≤ (-a) / b := Int.ediv_nonneg (by omega) (by omega)
    have hb2 : (-a) / b ≤ -a := Int.ediv_le_self b (by omega)
    have hneg : -((-a) / b) * b = -(b * ((-a) / b)) := by rw [Int.neg_mul, Int.mul_comm]
    rw [i32_mul, hneg, i32_eq (by omega) (by omega) (by omega) h2, i32_nat, i32_sub]
    by_cases hz : (-a) % b = 0
    · refine ⟨fun _ => ?_, fun q => absurd (by omega) q⟩
      have : a / b = -((-a) / b) := by
        have : a = b * (-((-a) / b)) := by rw [Int.mul_neg]; omega
        rw [this, Int.mul_ediv_cancel_left _ (by omega : b ≠ 0)]
        rw [← this]
      unfold V_J9_floorDiv_7cf53_21
      rw [← this]; exact h
    · refine ⟨fun q => absurd q (by omega), fun _ => ?_⟩
      have : a / b = -((-a) / b) - 1 := by
        have e9 : a = (b - (-a) % b) + b * (-((-a) / b) - 1) := by rw [Int.mul_sub, Int.mul_neg]; omega
        rw [e9, Int.add_mul_ediv_left _ _ (by omega : b ≠ 0), Int.ediv_eq_zero_of_lt (by omega) (by omega), Int.zero_add, ← e9]
      rw [← this]; exact h
theorem s_fmod {K : Rs → Mm → Prop} {M : Mm} {a b : Int} (h1 : -2147483647 ≤ a) (h2 : a ≤ 2147483647) (h3 : 0 < b) (h4 : b ≤ 100000) (h : K (.inl (some (.int (i32 (a % b))))) M) : V_J9_floorMod_7cf53 K M (i32 a) (i32 b) := by
  unfold V_J9_floorMod_7cf53
  refine ⟨by rw [i32_nat, i32_eq (by omega) (by omega) (by decide) (by decide)]; omega, ?_⟩
  intro x1 e
  subst e
  rw [i32_xs (by omega) h2 h3 (by omega)]
  by_cases h0 : 0 ≤ a
  · refine ⟨fun _ => ?_, fun q => absurd h0 q⟩
    rw [i32_divp h0 h2 h3 (by omega), i32_mul, i32_sub]
    have : a - a / b * b = a % b := by have := Int.mul_ediv_add_emod a b; rw [Int.mul_comm] at this; omega
    rw [this]; exact h
  · refine ⟨fun q => absurd q h0, fun _ => ?_⟩
    have hm := Int.mul_ediv_add_emod (-a) b
    have hr := Int.emod_nonneg (-a) (by omega : b ≠ 0)
    have hl := Int.emod_lt_of_pos (-a) h3
    have hneg : -((-a) / b) * b = -(b * ((-a) / b)) := by rw [Int.neg_mul, Int.mul_comm]
    rw [i32_divn (by omega) (by omega) h3 (by omega), i32_mul, hneg, i32_sub, show a - -(b * (-a / b)) = -((-a) % b) by omega, i32_nat, i32_eq (by omega) (by omega) (by decide) (by decide)]
    by_cases hz : (-a) % b = 0
    · refine ⟨fun _ => ?_, fun q => absurd (by omega) q⟩
      have : a % b = 0 := Int.emod_eq_zero_of_dvd (Int.dvd_neg.mp (Int.dvd_of_emod_eq_zero hz))
      unfold V_J9_floorMod_7cf53_18
      rw [hz, ← this, show -(a % b) = a % b by omega]; exact h
    · refine ⟨fun q => absurd q (by omega), fun _ => ?_⟩
      rw [i32_add]
      have : a % b = -((-a) % b) + b := by
        have e9 : a = (b - (-a) % b) + b * (-((-a) / b) - 1) := by rw [Int.mul_sub, Int.mul_neg]; omega
        rw [e9, Int.add_mul_emod_self_left, Int.emod_eq_of_lt (by omega) (by omega), ← e9]; omega
      rw [← this]; exact h
theorem s_max {K : Rs → Mm → Prop} {M : Mm} {a b : Int} (h1 : -2147483647 ≤ a ∧ a ≤ 2147483647) (h2 : -2147483647 ≤ b ∧ b ≤ 2147483647) (h : K (.inl (some (.int (i32 (max a b))))) M) : V_J9_max_7cf53 K M (i32 a) (i32 b) := by
  unfold V_J9_max_7cf53 V_J9_max_7cf53_10
  rw [i32_lt (by omega) (by omega) (by omega) (by omega)]
  refine ⟨fun q => ?_, fun q => ?_⟩
  · rwa [Int.max_eq_right (by omega)] at h
  · rwa [Int.max_eq_left (by omega)] at h
theorem s_min {K : Rs → Mm → Prop} {M : Mm} {a b : Int} (h1 : -2147483647 ≤ a ∧ a ≤ 2147483647) (h2 : -2147483647 ≤ b ∧ b ≤ 2147483647) (h : K (.inl (some (.int (i32 (min a b))))) M) : V_J9_min_7cf53 K M (i32 a) (i32 b) := by
  unfold V_J9_min_7cf53 V_J9_min_7cf53_10
  rw [i32_lt (by omega) (by omega) (by omega) (by omega)]
  refine ⟨fun q => ?_, fun q => ?_⟩
  · rwa [Int.min_eq_right (by omega)] at h
  · rwa [Int.min_eq_left (by omega)] at h
theorem yst_b {y : Int} (h : 1800 ≤ y ∧ y ≤ 2300) : -40000 ≤ yst y ∧ yst y ≤ 200000 := by unfold yst; omega
theorem mst_b {y m : Int} (h : 1800 ≤ y ∧ y ≤ 2300) (hm : 1 ≤ m ∧ m ≤ 13) : -40000 ≤ mst y m ∧ mst y m ≤ 200000 := by
  have hy : -36524 ≤ yst y ∧ yst y ≤ 146098 := by unfold yst; omega
  have : ∀ k : Nat, k ≤ 12 → yst y ≤ mstN y k ∧ mstN y k ≤ yst y + 31 * k := by
    intro k
    induction k with
    | zero => intro _; simp [mstN]
    | succ k ih =>
      intro hk
      have := ih (by omega)
      have := dom_b y ((k : Int) + 1)
      simp only [mstN]
      omega
  have := this (m - 1).toNat (by omega)
  unfold mst
  omega
theorem s_mst7 {K : Rs → Mm → Prop} {M : Mm} {y m : Int} (hy : 1800 ≤ y ∧ y ≤ 2300) (hm : 1 ≤ m ∧ m ≤ 12) (h : K (.inl (some (.int (i32 (mst y m))))) M) : ∀ (j : Nat) (k : Int), k = m - j → 1 ≤ k → V_X6_monthStart_7 K (j + 1) M (i32 y) (i32 m) (i32 (mst y k)) (i32 k)
  | 0, k, e, h1 => by
    have : k = m := by omega
    subst this
    unfold V_X6_monthStart_7
    exact ⟨fun _ => h, fun q => absurd (by rw [i32_le (by omega) (by omega) (by omega) (by omega)]; omega) q⟩
  | j + 1, k, e, h1 => by
    unfold V_X6_monthStart_7
    rw [q_12, i32_le (by omega) (by omega) (by omega) (by omega), i32_le (by omega) (by omega) (by omega) (by omega)]
    refine ⟨fun q => absurd q (by omega), fun _ => ⟨fun q => absurd q (by omega), fun _ => ?_⟩⟩
    refine s_dom (by omega) (by omega) (kI_i fun x3 e3 x4 e4 => ?_)
    subst e3; subst e4
    rw [q_1, i32_add, i32_add, ← mst_s y k h1]
    exact s_mst7 hy hm h j (k + 1) (by omega) (by omega)
theorem s_mst {K : Rs → Mm → Prop} {M : Mm} {y m : Int} (hy : 1800 ≤ y ∧ y ≤ 2300) (hm : 1 ≤ m ∧ m ≤ 12) (h : K (.inl (some (.int (i32 (mst y m))))) M) : V_X6_monthStart K M (i32 y) (i32 m) := by
  unfold V_X6_monthStart
  refine s_yst (by omega) (kI_i ⟨(m - 1).toNat + 1, ?_⟩)
  exact s_mst7 hy hm h (m - 1).toNat 1 (by omega) (by omega)
/-- the row of a Civil that stands at a day -/
def Civ (r : Nat → Int32) (y m d : Int) : Prop := r 0 = i32 y ∧ r 1 = i32 m ∧ r 2 = i32 d ∧ r 3 = i32 (mst y m) ∧ r 4 = i32 (dom y m) ∧ r 5 = i32 ((mst y m + 1) % 7)
theorem s_look {K : Rs → Mm → Prop} {M : Mm} {c : Nat} {y m d s : Int} (hy : 1800 ≤ y ∧ y ≤ 2300) (hm : 1 ≤ m ∧ m ≤ 12) (hs : s = mst y m) (ho : ob M c 0) (h0 : mI M c 0 = i32 y) (h1 : mI M c 1 = i32 m) (h2 : mI M c 2 = i32 d) (h3 : mI M c 3 = i32 s)
    (h : ∀ r, Civ r y m d → K (.inl none) (wI M c r)) : V_X0_lookAtMonth K M c := by
  subst hs
  unfold V_X0_lookAtMonth
  refine ⟨ho, ?_⟩
  rw [h0, h1]
  refine s_dom (by omega) (by omega) (kI_i ⟨ho, fun M5 e => ?_⟩)
  subst e
  have hb := mst_b hy (show 1 ≤ m ∧ m ≤ 13 by omega)
  rw [sI_w, mI_w, va_up_ne _ _ (by decide), h3, q_1, q_7, i32_add]
  refine s_fmod (by omega) (by omega) (by decide) (by decide) (kI_i ⟨ho, fun M9 e => ?_⟩)
  subst e
  rw [sI_w, wI_wI, mI_w]
  apply h
  refine ⟨?_, ?_, ?_, ?_, ?_, ?_⟩ <;> simp [va_up, h0, h1, h2, h3]
/-- y, m, d is a day of the calendar, the n-th -/
def isD (y m d n : Int) : Prop := (1899 ≤ y ∧ y ≤ 2200) ∧ (1 ≤ m ∧ m ≤ 12) ∧ (1 ≤ d ∧ d ≤ dom y m) ∧ n = mst y m + d - 1
theorem isD_y {y m d n : Int} (h : isD y m d n) : yst y ≤ n ∧ n < yst (y + 1) ∧ mst y m ≤ n ∧ n < mst y (m + 1) := by
  obtain ⟨hy, hm, hd, e⟩ := h
  have h1 := mst_s y m hm.1
  have : ∀ k : Nat, yst y ≤ mstN y k := by
    intro k
    induction k with
    | zero => exact Int.le_refl _
    | succ k ih => have := dom_b y ((k : Int) + 1); simp only [mstN]; omega
  have h2 := this (m - 1).toNat
  have h3 : mst y m = mstN y (m - 1).toNat := rfl
  have : ∀ (k j : Nat), mstN y k ≤ mstN y (k + j) := by
    intro k j
    induction j with
    | zero => exact Int.le_refl _
    | succ j ih => have := dom_b y (((k + j : Nat) : Int) + 1); rw [← Nat.add_assoc]; simp only [mstN]; omega
  have h4 := this m.toNat (12 - m.toNat)
  rw [show m.toNat + (12 - m.toNat) = 12 by omega] at h4
  have h5 : mst y (m + 1) = mstN y m.toNat := by unfold mst; congr 1; omega
  have h6 : mstN y 12 = yst (y + 1) := mst_13 y
  omega
theorem yst_mono {a b : Int} (h : a ≤ b) : yst a ≤ yst b := by
  have : ∀ k : Nat, yst a ≤ yst (a + k) := by
    intro k
    induction k with
    | zero => simp
    | succ k ih =>
      have : yst (a + k) ≤ yst (a + (k + 1 : Nat)) := by unfold yst; omega
      omega
  have := this (b - a).toNat
  rw [show a + ((b - a).toNat : Int) = b by omega] at this
  exact this
theorem mst_mono {y a b : Int} (h1 : 1 ≤ a) (h : a ≤ b) : mst y a ≤ mst y b := by
  have : ∀ k : Nat, mst y a ≤ mst y (a + k) := by
    intro k
    induction k with
    | zero => simp
    | succ k ih =>
      have := mst_s y (a + k) (by omega)
      have := dom_b y (a + k)
      rw [show a + ((k + 1 : Nat) : Int) = a + k + 1 by omega]
      omega
  have := this (b - a).toNat
  rw [show a + ((b - a).toNat : Int) = b by omega] at this
  exact this
theorem isD_u {y m d y' m' d' n : Int} (h : isD y m d n) (h' : isD y' m' d' n) : y = y' ∧ m = m' ∧ d = d' := by
  have a := isD_y h
  have a' := isD_y h'
  have ey : y = y' := by
    by_cases c : y < y'
    · have := yst_mono (show y + 1 ≤ y' by omega); omega
    · by_cases c' : y' < y
      · have := yst_mono (show y' + 1 ≤ y by omega); omega
      · omega
  subst ey
  have em : m = m' := by
    by_cases c : m < m'
    · have := mst_mono (y := y) (show 1 ≤ m + 1 by have := h.2.1; omega) (show m + 1 ≤ m' by omega); omega
    · by_cases c' : m' < m
      · have := mst_mono (y := y) (show 1 ≤ m' + 1 by have := h'.2.1; omega) (show m' + 1 ≤ m by omega); omega
      · omega
  subst em
  have := h.2.2.2
  have := h'.2.2.2
  omega
theorem isD_ex {n : Int} (h : -365 ≤ n ∧ n ≤ 109937) : ∃ y m d, isD y m d n := by
  have hy : ∃ y, (1899 ≤ y ∧ y ≤ 2200) ∧ yst y ≤ n ∧ n < yst (y + 1) := by
    have hg : yst (1899 + n / 366) ≤ n ∨ n < 0 := by unfold yst; omega
    have : ∀ k : Nat, ∀ y : Int, 1899 ≤ y → y + k = 2201 → yst y ≤ n → ∃ y, (1899 ≤ y ∧ y ≤ 2200) ∧ yst y ≤ n ∧ n < yst (y + 1) := by
      intro k
      induction k with
      | zero => intro y h1 h2 h3; have e : y = 2201 := by omega
                subst e; have : yst 2201 = 109938 := by decide
                omega
      | succ k ih =>
        intro y h1 h2 h3
        by_cases c : n < yst (y + 1)
        · exact ⟨y, by omega, h3, c⟩
        · exact ih (y + 1) (by omega) (by omega) (by omega)
    exact this 302 1899 (by decide) (by decide) (by have : yst 1899 = -365 := by decide
                                                    omega)
  obtain ⟨y, hy, h1, h2⟩ := hy
  have hm : ∃ m, (1 ≤ m ∧ m ≤ 12) ∧ mst y m ≤ n ∧ n < mst y (m + 1) := by
    have : ∀ k : Nat, ∀ m : Int, 1 ≤ m → m + k = 13 → mst y m ≤ n → ∃ m, (1 ≤ m ∧ m ≤ 12) ∧ mst y m ≤ n ∧ n < mst y (m + 1) := by
      intro k
      induction k with
      | zero => intro m h3 h4 h5; have e : m = 13 := by omega
                subst e; rw [mst_13] at h5; omega
      | succ k ih =>
        intro m h3 h4 h5
        by_cases c : n < mst y (m + 1)
        · exact ⟨m, by omega, h5, c⟩
        · exact ih (m + 1) (by omega) (by omega) (by omega)
    exact this 12 1 (by decide) (by decide) h1
  obtain ⟨m, hm, h3, h4⟩ := hm
  rw [mst_s y m hm.1] at h4
  exact ⟨y, m, n - mst y m + 1, hy, hm, by omega, by omega⟩
