/-! the model: dates -/
theorem i64_of {a : Int} (h1 : -2147483648 ≤ a) (h2 : a ≤ 2147483647) : (i32 a).toInt64.toInt = a := by rw [Int32.toInt_toInt64, i32_toInt h1 h2]
theorem s7_in {K : Rs → Mm → Prop} {M : Mm} {a l u : Int} {L U : Int64} (h1 : -2147483648 ≤ a) (h2 : a ≤ 2147483647) (hL : L.toInt = l) (hU : U.toInt = u) (h : K (.inl (some (.int (bI (decide (l ≤ a ∧ a ≤ u)))))) M) : V_X7_in K M ((i32 a).toInt64) L U := by
  unfold V_X7_in V_X7_in_17 V_X7_in_18
  rw [lg_cmp_lt, lg_cmp_gt, Int64.lt_iff_toInt_lt, Int64.lt_iff_toInt_lt, i64_of h1 h2, hL, hU]
  refine ⟨fun q => ⟨.inl rfl, ?_⟩, fun q => ⟨fun q2 => ⟨.inl rfl, ?_⟩, fun q2 => ⟨.inr rfl, ?_⟩⟩⟩
  · rw [decide_eq_false (by omega)] at h; exact h
  · rw [decide_eq_false (by omega)] at h; exact h
  · rw [decide_eq_true (by omega)] at h; exact h
theorem s7_dom {K : Rs → Mm → Prop} {M : Mm} {y m : Int} (hy : 0 ≤ y ∧ y ≤ 100000) (hm : 0 ≤ m ∧ m ≤ 1000) (h : K (.inl (some (.int (i32 (dom y m))))) M) : V_X7_daysOf K M (i32 y) (i32 m) := by
  have e4 : i32 y - i32 y / 4 * 4 = i32 (y % 4) := by
    rw [i32_nat, i32_divp (by omega) (by omega) (by decide) (by decide), i32_mul, i32_sub]; congr 1; omega
  have e100 : i32 y - i32 y / 100 * 100 = i32 (y % 100) := by
    rw [i32_nat, i32_divp (by omega) (by omega) (by decide) (by decide), i32_mul, i32_sub]; congr 1; omega
  have e400 : i32 y - i32 y / 400 * 400 = i32 (y % 400) := by
    rw [i32_nat, i32_divp (by omega) (by omega) (by decide) (by decide), i32_mul, i32_sub]; congr 1; omega
  simp only [V_X7_daysOf, V_X7_daysOf_45, V_X7_daysOf_52, V_X7_isLeap, V_X7_isLeap_21, V_X7_isLeap_25, V_X7_isLeap_26, e4, e100, e400, kI]
  simp (disch := omega) only [i32_nat, i32_eq]
  unfold dom at h
  by_cases h2 : m = 2
  · by_cases c4 : y % 4 = 0
    · by_cases c1 : y % 100 = 0
      · by_cases c2 : y % 400 = 0 <;> simp_all
      · simp_all
    · simp_all
  · by_cases m4 : m = 4
    · simp_all
    · by_cases m6 : m = 6
      · simp_all
      · by_cases m9 : m = 9
        · simp_all
        · by_cases m11 : m = 11 <;> simp_all
theorem s7_yst {K : Rs → Mm → Prop} {M : Mm} {y : Int} (hy : 1899 ≤ y ∧ y ≤ 100000) (h : K (.inl (some (.int (i32 (yst y))))) M) : V_X7_daysTo K M (i32 y) := by
  unfold V_X7_daysTo
  rw [q_1900, i32_le (by omega) (by omega) (by omega) (by omega)]
  refine ⟨fun q x1 e => ?_, fun q => ?_⟩
  · subst e
    rw [q_1, q_365, q_4, q_100, q_400, q_460, i32_sub, i32_sub]
    rw [i32_divp (by omega) (by omega) (by decide) (by decide), i32_divp (by omega) (by omega) (by decide) (by decide), i32_divp (by omega) (by omega) (by decide) (by decide), i32_mul, i32_sub, i32_add, i32_add, i32_sub]
    have : 365 * (y - 1900) + ((y - 1) / 4 - (y - 1) / 100 + (y - 1) / 400) - 460 = yst y := by unfold yst; omega
    rw [this]; exact h
  · have e : y = 1899 := by omega
    subst e
    exact h
theorem s7_floor {K : Rs → Mm → Prop} {M : Mm} {a b : Int} (h1 : -2147483647 ≤ a) (h2 : a ≤ 2147483647) (h3 : 0 < b) (h4 : b ≤ 100000) (h : K (.inl (some (.int (i32 (a / b))))) M) : V_X7_floor K M (i32 a) (i32 b) := by
  unfold V_X7_floor V_X7_floor_17
  have hb0 : ¬ i32 b = 0 := by rw [q_0, i32_eq (by omega) (by omega) (by decide) (by decide)]; omega
  refine ⟨hb0, fun x1 e => ⟨hb0, ?_⟩⟩
  subst e
  by_cases h0 : 0 ≤ a
  · rw [i32_divp h0 h2 h3 (by omega), i32_mul, i32_sub]
    have hm := Int.mul_ediv_add_emod a b
    have hr := Int.emod_nonneg a (by omega : b ≠ 0)
    have hl := Int.emod_lt_of_pos a h3
    rw [show a - a / b * b = a % b by rw [Int.mul_comm] at hm; omega, q_0, i32_le (by omega) (by omega) (by omega) (by omega)]
    exact ⟨fun _ => h, fun q => absurd hr q⟩
  · rw [i32_divn (by omega) (by omega) h3 (by omega)]
    have hm := Int.mul_ediv_add_emod (-a) b
    have hr := Int.emod_nonneg (-a) (by omega : b ≠ 0)
    have hl := Int.emod_lt_of_pos (-a) h3
    have hneg : -((-a) / b) * b = -(b * ((-a) / b)) := by rw [Int.neg_mul, Int.mul_comm]
    rw [i32_mul, i32_sub, hneg, show a - -(b * (-a / b)) = -((-a) % b) by omega, q_0, i32_le (by omega) (by omega) (by omega) (by omega), q_1, i32_sub]
    by_cases hz : (-a) % b = 0
    · refine ⟨fun _ => ?_, fun q => absurd (by omega) q⟩
      have : a / b = -((-a) / b) := by
        have : a = b * (-((-a) / b)) := by rw [Int.mul_neg]; omega
        rw [this, Int.mul_ediv_cancel_left _ (by omega : b ≠ 0)]
        rw [← this]
      rw [← this]; exact h
    · refine ⟨fun q => absurd q (by omega), fun _ => ?_⟩
      have : a / b = -((-a) / b) - 1 := by
        have e9 : a = (b - (-a) % b) + b * (-((-a) / b) - 1) := by rw [Int.mul_sub, Int.mul_neg]; omega
        rw [e9, Int.add_mul_ediv_left _ _ (by omega : b ≠ 0), Int.ediv_eq_zero_of_lt (by omega) (by omega), Int.zero_add, ← e9]
      rw [← this]; exact h
/-- the row of a model that has looked up a day -/
def Dat (M : Mm) (m : Nat) (y mo d n : Int) (rr : Nat → Int32) : Prop := rr 5 = i32 y ∧ rr 6 = i32 mo ∧ rr 7 = i32 d ∧ rr 8 = i32 ((n + 1) % 7) ∧ rr 9 = i32 (n - yst y + 1) ∧ ∀ k, k < 5 ∨ 9 < k → rr k = mI M m k
theorem s7_date59 {K : Rs → Mm → Prop} {m : Nat} {n y mo d : Int} (hd : isD y mo d n) : ∀ (j : Nat) (k : Int) (M : Mm), k = mo - j → 1 ≤ k → ob M m 7 → mI M m 6 = i32 k → mI M m 5 = i32 y → mI M m 9 = i32 (n - yst y + 1) → (∀ rr, Dat M m y mo d n rr → K (.inl none) (wI M m rr)) → V_X7_date_59 K (j + 1) M m (i32 n) (i32 y) (i32 (n - mst y k))
  | 0, k, M, e, hk, ho, h6, h5, h9, h => by
    have hk' : k = mo := by omega
    subst hk'
    have hy := hd.1
    have hm := hd.2.1
    have hdd := hd.2.2
    have hdm := dom_b y k
    have hb := isD_b hd
    unfold V_X7_date_59
    refine ⟨ho, ?_⟩
    rw [h6]
    refine s7_dom (by omega) (by omega) (kI_i ?_)
    rw [i32_lt (by omega) (by omega) (by omega) (by omega)]
    refine ⟨fun _ => ⟨ho, fun M5 e5 => ?_⟩, fun q => absurd (by omega) q⟩
    subst e5
    rw [q_1, q_7, i32_add, i32_add]
    refine s7_floor (by omega) (by omega) (by decide) (by decide) (kI_i ⟨ho, fun M9 e9 => ?_⟩)
    subst e9
    simp only [sI_w, wI_wI, mI_w]
    rw [i32_mul, i32_sub]
    apply h
    refine ⟨?_, ?_, ?_, ?_, ?_, fun j hj => ?_⟩
    · rw [va_up_ne _ _ (by decide), va_up_ne _ _ (by decide)]; exact h5
    · rw [va_up_ne _ _ (by decide), va_up_ne _ _ (by decide)]; exact h6
    · rw [va_up_ne _ _ (by decide), va_up_self]; congr 1; omega
    · rw [va_up_self]; congr 1; omega
    · rw [va_up_ne _ _ (by decide), va_up_ne _ _ (by decide)]; exact h9
    · rw [va_up_ne _ _ (by omega), va_up_ne _ _ (by omega)]
  | j + 1, k, M, e, hk, ho, h6, h5, h9, h => by
    have hy := hd.1
    have hm := hd.2.1
    have hdd := hd.2.2
    have hdm := dom_b y k
    have hb := isD_b hd
    have hs := mst_s y k hk
    have hmo := mst_mono (y := y) (show 1 ≤ k + 1 by omega) (show k + 1 ≤ mo by omega)
    have hmb := mst_b (y := y) (m := k) (by omega) (by omega)
    unfold V_X7_date_59
    refine ⟨ho, ?_⟩
    rw [h6]
    refine s7_dom (by omega) (by omega) (kI_i ?_)
    rw [i32_lt (by omega) (by omega) (by omega) (by omega)]
    refine ⟨fun q => absurd q (by omega), fun _ => ⟨ho, ?_⟩⟩
    rw [h6]
    refine s7_dom (by omega) (by omega) (kI_i (fun x13 e13 => ⟨ho, fun M15 e15 => ?_⟩))
    subst e13; subst e15
    rw [h6, q_1, i32_add, i32_sub, show n - mst y k - dom y k = n - mst y (k + 1) by omega, sI_w]
    refine s7_date59 hd j (k + 1) _ (by omega) (by omega) ho (by rw [mI_w, va_up_self]) (by rw [mI_w, va_up_ne _ _ (by decide)]; exact h5) (by rw [mI_w, va_up_ne _ _ (by decide)]; exact h9) (fun rr hr => ?_)
    rw [wI_wI]
    apply h
    obtain ⟨a1, a2, a3, a4, a5, a6⟩ := hr
    refine ⟨a1, a2, a3, a4, a5, fun j hj => ?_⟩
    rw [a6 j hj, mI_w, va_up_ne _ _ (by omega)]
theorem s7_date35 {K : Rs → Mm → Prop} {M : Mm} {m : Nat} {n y mo d : Int} (hd : isD y mo d n) (ho : ob M m 7) (h : ∀ rr, Dat M m y mo d n rr → K (.inl none) (wI M m rr)) : V_X7_date_35 K M m (i32 n) (i32 y) := by
  have hy := hd.1
  have hm := hd.2.1
  unfold V_X7_date_35
  refine s7_yst (by omega) (kI_i (fun x3 e3 => ⟨ho, fun M5 e5 M6 e6 M7 e7 => ⟨(mo - 1).toNat + 1, ?_⟩⟩))
  subst e3; subst e5; subst e6; subst e7
  simp only [sI_w, wI_wI, mI_w]
  rw [q_1, i32_sub, i32_add]
  have := s7_date59 (K := K) (m := m) hd (mo - 1).toNat 1 (wI M m (va_up (va_up (va_up (mI M m) 5 (i32 y)) 9 (i32 (n - yst y + 1))) 6 (i32 1))) (by omega) (by omega) ho (by rw [mI_w, va_up_self]) (by rw [mI_w, va_up_ne _ _ (by decide), va_up_ne _ _ (by decide), va_up_self]) (by rw [mI_w, va_up_ne _ _ (by decide), va_up_self]) (fun rr hr => by
    rw [wI_wI]
    apply h
    obtain ⟨a1, a2, a3, a4, a5, a6⟩ := hr
    refine ⟨a1, a2, a3, a4, a5, fun j hj => ?_⟩
    rw [a6 j hj, mI_w, va_up_ne _ _ (by omega), va_up_ne _ _ (by omega), va_up_ne _ _ (by omega)])
  rw [mst_1] at this
  exact this
theorem s7_date12 {K : Rs → Mm → Prop} {M : Mm} {m : Nat} {n y mo d : Int} (hd : isD y mo d n) (ho : ob M m 7) (h : ∀ rr, Dat M m y mo d n rr → K (.inl none) (wI M m rr)) : ∀ (j : Nat) (k : Int), k = y - j → 1899 ≤ k → V_X7_date_12 K (j + 1) M m (i32 n) (i32 k)
  | 0, k, e, hk => by
    have hk' : k = y := by omega
    subst hk'
    have hy := hd.1
    have hb := isD_b hd
    have ha := isD_y hd
    have hyb := yst_b (y := k + 1) (by omega)
    unfold V_X7_date_12
    rw [q_1, i32_add]
    refine ⟨fun _ => s7_date35 hd ho h, fun _ => s7_yst (by omega) (kI_i ⟨fun _ => s7_date35 hd ho h, fun q => absurd ?_ q⟩)⟩
    rw [i32_lt (by omega) (by omega) (by omega) (by omega)]; omega
  | j + 1, k, e, hk => by
    have hy := hd.1
    have hb := isD_b hd
    have ha := isD_y hd
    have hyb := yst_b (y := k + 1) (by omega)
    have hmo := yst_mono (show k + 1 ≤ y by omega)
    unfold V_X7_date_12
    rw [q_1, i32_add, q_2200, i32_le (by omega) (by omega) (by omega) (by omega)]
    refine ⟨fun q => absurd q (by omega), fun _ => s7_yst (by omega) (kI_i ⟨fun q => absurd q ?_, fun _ x3 e3 => ?_⟩)⟩
    · rw [i32_lt (by omega) (by omega) (by omega) (by omega)]; omega
    · subst e3
      exact s7_date12 hd ho h j (k + 1) (by omega) (by omega)
theorem s7_date {K : Rs → Mm → Prop} {M : Mm} {m : Nat} {n y mo d : Int} (hd : isD y mo d n) (ho : ob M m 7) (h : ∀ rr, Dat M m y mo d n rr → K (.inl none) (wI M m rr)) : V_X7_date K M m (i32 n) := by
  have hy := hd.1
  have hb := isD_b hd
  have ha := isD_y hd
  unfold V_X7_date
  rw [q_366]
  refine s7_floor (by omega) (by omega) (by decide) (by decide) (kI_i (fun x3 e3 => ?_))
  rw [q_1900, i32_add] at e3
  subst e3
  have hle : 1900 + n / 366 ≤ y := by
    have : yst (y + 1) ≤ 366 * (y + 1 - 1900) := by unfold yst; omega
    omega
  exact ⟨(y - (1900 + n / 366)).toNat + 1, s7_date12 hd ho h _ _ (by omega) (by omega)⟩
theorem s7_num12 {K : Rs → Mm → Prop} {M : Mm} {y m d : Int} (hy : 1899 ≤ y ∧ y ≤ 2200) (hm : 1 ≤ m ∧ m ≤ 12) (h : K (.inl (some (.int (i32 (mst y m + d - 1))))) M) : ∀ (j : Nat) (k : Int), k = m - j → 1 ≤ k → V_X7_dayNumber_12 K (j + 1) M (i32 y) (i32 m) (i32 (mst y k + d - 1)) (i32 k)
  | 0, k, e, hk => by
    have hk' : k = m := by omega
    subst hk'
    unfold V_X7_dayNumber_12
    exact ⟨fun _ => h, fun q => absurd (by rw [i32_le (by omega) (by omega) (by omega) (by omega)]; omega) q⟩
  | j + 1, k, e, hk => by
    unfold V_X7_dayNumber_12
    rw [i32_le (by omega) (by omega) (by omega) (by omega)]
    refine ⟨fun q => absurd q (by omega), fun _ => s7_dom (by omega) (by omega) (kI_i (fun x3 e3 x4 e4 => ?_))⟩
    subst e3; subst e4
    have hs := mst_s y k hk
    rw [q_1, i32_add, i32_add, show mst y k + d - 1 + dom y k = mst y (k + 1) + d - 1 by omega]
    exact s7_num12 hy hm h j (k + 1) (by omega) (by omega)
theorem s7_num {K : Rs → Mm → Prop} {M : Mm} {y m d : Int} (hy : 1899 ≤ y ∧ y ≤ 2200) (hm : 1 ≤ m ∧ m ≤ 12) (h : K (.inl (some (.int (i32 (mst y m + d - 1))))) M) : V_X7_dayNumber K M (i32 y) (i32 m) (i32 d) := by
  unfold V_X7_dayNumber
  refine s7_yst (by omega) (kI_i (fun x3 e3 => ⟨(m - 1).toNat + 1, ?_⟩))
  subst e3
  rw [q_1, i32_add, i32_sub, ← mst_1 y]
  exact s7_num12 hy hm h (m - 1).toNat 1 (by omega) (by omega)
theorem s7_wk {K : Rs → Mm → Prop} {M : Mm} {y m d : Int} (hy : 1899 ≤ y ∧ y ≤ 2200) (hm : 1 ≤ m ∧ m ≤ 12) (hd : -1000 ≤ d ∧ d ≤ 1000) (h : K (.inl (some (.int (i32 (wd y m d))))) M) : V_X7_weekOf K M (i32 y) (i32 m) (i32 d) := by
  have hb := mst_b (y := y) (m := m) (by omega) (by omega)
  unfold V_X7_weekOf
  refine s7_num hy hm (kI_i (fun x3 e3 => ?_))
  rw [q_1, i32_add, show mst y m + d - 1 + 1 = mst y m + d by omega] at e3
  subst e3
  rw [q_7]
  refine s7_floor (by omega) (by omega) (by decide) (by decide) (kI_i ?_)
  rw [i32_mul, i32_sub, show mst y m + d - 7 * ((mst y m + d) / 7) = wd y m d by unfold wd; omega]
  exact h
theorem s7_nst {K : Rs → Mm → Prop} {M : Mm} {y m d : Int} (hy : 1899 ≤ y ∧ y ≤ 2200) (hm : 1 ≤ m ∧ m ≤ 12) (hd : 1 ≤ d ∧ d ≤ 31) (h : K (.inl (some (.int (i32 (nst y m d))))) M) : V_X7_nearest K M (i32 y) (i32 m) (i32 d) := by
  have hdm := dom_b y m
  have hw := wd_b y m d
  unfold V_X7_nearest V_X7_nearest_54
  refine s7_wk hy hm (by omega) (kI_i ?_)
  unfold nst at h
  rw [q_6, q_0, q_1, q_2, q_3, i32_eq (by omega) (by omega) (by omega) (by omega), i32_eq (by omega) (by omega) (by omega) (by omega), i32_eq (by omega) (by omega) (by omega) (by omega), i32_sub, i32_add, i32_sub]
  refine ⟨fun w1 => ⟨fun w2 => ?_, fun w2 => s7_dom (by omega) (by omega) (kI_i ?_)⟩, fun w1 => ⟨fun w2 => ?_, fun w2 => ?_⟩⟩
  · rw [if_neg w1, if_neg w2] at h; exact h
  · rw [i32_eq (by omega) (by omega) (by omega) (by omega)]
    rw [if_neg w1, if_pos w2] at h
    refine ⟨fun w3 => ?_, fun w3 => ?_⟩
    · rw [if_neg w3] at h; exact h
    · rw [if_pos w3] at h; exact h
  · rw [if_pos w1, if_neg w2] at h; exact h
  · rw [if_pos w1, if_pos w2] at h; exact h
theorem bit1 {x : Int64} {n : Int} (hn : 0 ≤ n ∧ n < 64) : (lg_cmp ((x >>> ((i32 n).toInt64 &&& 63)) &&& (1 : Int64)) (1 : Int64) = 0) = (bj x n.toNat = true) := by
  obtain ⟨k, rfl⟩ : ∃ k : Nat, n = k := ⟨n.toNat, by omega⟩
  rw [lg_cmp_eq, Int.toNat_natCast]
  have e0 : bj (x >>> ((i32 (k : Nat)).toInt64 &&& 63)) 0 = bj x k := by
    rw [bj_sshr k (by omega) x (by decide), if_pos (by omega), Nat.add_zero]
  apply propext
  constructor
  · intro h
    have : bj ((x >>> ((i32 (k : Nat)).toInt64 &&& 63)) &&& (1 : Int64)) 0 = true := by rw [h]; decide
    rw [bj_and, e0, bj_1] at this
    simpa using this
  · intro h
    apply bj_ext
    intro i hi
    rw [bj_and, bj_1]
    by_cases c : i = 0
    · subst c; rw [e0, h]; rfl
    · simp [c]
theorem bit0 {x : Int64} {n : Int} (hn : 0 ≤ n ∧ n < 64) : (lg_cmp ((x >>> ((i32 n).toInt64 &&& 63)) &&& (1 : Int64)) (0 : Int64) = 0) = (bj x n.toNat = false) := by
  obtain ⟨k, rfl⟩ : ∃ k : Nat, n = k := ⟨n.toNat, by omega⟩
  rw [lg_cmp_eq, Int.toNat_natCast, and1, bj_sshr k (by omega) x (by decide), if_pos (by omega), Nat.add_zero]
