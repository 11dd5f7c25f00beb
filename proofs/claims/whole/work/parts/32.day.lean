/-! Civil: to a day, to a month, on and back -/
theorem isD_b {y m d n : Int} (h : isD y m d n) : -365 ≤ n ∧ n ≤ 109937 := by
  have a := isD_y h
  have b := yst_mono (show 1899 ≤ y from h.1.1)
  have c := yst_mono (show y + 1 ≤ 2201 by have := h.1.2; omega)
  have e1 : yst 1899 = -365 := by decide
  have e2 : yst 2201 = 109938 := by decide
  omega
theorem s_day109 {K : Rs → Mm → Prop} {M : Mm} {c : Nat} {n y m d : Int} (hd : isD y m d n) (ho : ob M c 0) (h0 : mI M c 0 = i32 y) (h1 : mI M c 1 = i32 m) (h3 : mI M c 3 = i32 (mst y m))
    (h : ∀ r, Civ r y m d → K (.inl none) (wI M c r)) : V_X0_goToDay_109 K M c (i32 n) := by
  unfold V_X0_goToDay_109
  refine ⟨ho, fun M2 e => ?_⟩
  subst e
  have hy := hd.1
  rw [h3, i32_sub, q_1, i32_add, show n - mst y m + 1 = d by have := hd.2.2.2; omega, sI_w]
  refine s_look (y := y) (m := m) (d := d) (by omega) hd.2.1 rfl ho ?_ ?_ ?_ ?_ (fun r hr => kV_i ?_)
  · rw [mI_w, va_up_ne _ _ (by decide)]; exact h0
  · rw [mI_w, va_up_ne _ _ (by decide)]; exact h1
  · rw [mI_w, va_up_self]
  · rw [mI_w, va_up_ne _ _ (by decide)]; exact h3
  · rw [wI_wI]; exact h r hr
theorem s_day56 {K : Rs → Mm → Prop} {c : Nat} {n y m d : Int} (hd : isD y m d n) : ∀ (j : Nat) (k : Int) (M : Mm), k = m - j → 1 ≤ k → ob M c 0 → mI M c 0 = i32 y → mI M c 1 = i32 k → mI M c 3 = i32 (mst y k) → (∀ r, Civ r y m d → K (.inl none) (wI M c r)) → V_X0_goToDay_56 K (j + 1) M c (i32 n) (i32 k)
  | 0, k, M, e, hk, ho, h0, h1, h3, h => by
    have hk' : k = m := by omega
    subst hk'
    have hy := hd.1
    have hm := hd.2.1
    have hb := mst_b (y := y) (m := k) (by omega) (by omega)
    have hbn := isD_b hd
    have hdm := dom_b y k
    unfold V_X0_goToDay_56
    refine ⟨fun _ => s_day109 hd ho h0 h1 h3 h, fun _ => ⟨ho, ?_⟩⟩
    rw [h0]
    refine s_dom (by omega) (by omega) (kI_i ⟨fun _ => s_day109 hd ho h0 h1 h3 h, fun q => absurd ?_ q⟩)
    rw [h3, i32_add, i32_lt (by omega) (by omega) (by omega) (by omega)]
    have := hd.2.2
    omega
  | j + 1, k, M, e, hk, ho, h0, h1, h3, h => by
    have hy := hd.1
    have hm := hd.2.1
    have hb := mst_b (y := y) (m := k) (by omega) (by omega)
    have hbn := isD_b hd
    have hdm := dom_b y k
    have hs := mst_s y k hk
    have hmo := mst_mono (y := y) (show 1 ≤ k + 1 by omega) (show k + 1 ≤ m by omega)
    have hle := (isD_y hd).2.2.1
    unfold V_X0_goToDay_56
    refine ⟨fun q => absurd q ?_, fun _ => ⟨ho, ?_⟩⟩
    · rw [q_12, i32_le (by omega) (by omega) (by omega) (by omega)]; omega
    · rw [h0]
      refine s_dom (by omega) (by omega) (kI_i ⟨fun q => absurd q ?_, fun _ => ⟨ho, ?_⟩⟩)
      · rw [h3, i32_add, i32_lt (by omega) (by omega) (by omega) (by omega)]; omega
      · rw [h0]
        refine s_dom (by omega) (by omega) (kI_i ⟨ho, fun M8 e8 M9 e9 x10 e10 => ?_⟩)
        subst e8; subst e9; subst e10
        rw [h3, i32_add, ← hs, q_1, i32_add, sI_w, sI_w, wI_wI, mI_w]
        refine s_day56 hd j (k + 1) _ (by omega) (by omega) ho ?_ ?_ ?_ (fun r hr => ?_)
        · rw [mI_w]; simp [va_up, h0]
        · rw [mI_w]; simp [va_up]
        · rw [mI_w]; simp [va_up]
        · rw [wI_wI]; exact h r hr
theorem s_day38 {K : Rs → Mm → Prop} {M : Mm} {c : Nat} {n y m d : Int} (hd : isD y m d n) (ho : ob M c 0) (h0 : mI M c 0 = i32 y) (h : ∀ r, Civ r y m d → K (.inl none) (wI M c r)) : V_X0_goToDay_38 K M c (i32 n) := by
  have hy := hd.1
  have hm := hd.2.1
  unfold V_X0_goToDay_38
  refine ⟨ho, fun M2 e => ?_⟩
  subst e
  rw [sI_w, mI_w, va_up_ne _ _ (by decide), h0]
  refine s_yst (by omega) (kI_i ⟨ho, fun M6 e => ⟨(m - 1).toNat + 1, ?_⟩⟩)
  subst e
  rw [sI_w, wI_wI, mI_w, q_1]
  refine s_day56 hd (m - 1).toNat 1 _ (by omega) (by omega) ho ?_ ?_ ?_ (fun r hr => ?_)
  · rw [mI_w]; simp [va_up, h0]
  · rw [mI_w]; simp [va_up, q_1]
  · rw [mI_w, mst_1]; simp [va_up]
  · rw [wI_wI]; exact h r hr
theorem s_day {K : Rs → Mm → Prop} {M : Mm} {c : Nat} {n y m d : Int} (hd : isD y m d n) (ho : ob M c 0) (h : ∀ r, Civ r y m d → K (.inl none) (wI M c r)) : V_X0_goToDay K M c (i32 n) := by
  have hy := hd.1
  have hb := isD_b hd
  have ha := isD_y hd
  have hg := yst_b (y := 1900 + n / 366 + 1) (by omega)
  unfold V_X0_goToDay
  rw [q_366]
  refine s_fdiv (by omega) (by omega) (by decide) (by decide) (kI_i ⟨ho, fun M4 e => ?_⟩)
  subst e
  rw [q_1900, i32_add, sI_w, mI_w, va_up_self, q_1, i32_add]
  refine s_yst (by omega) (kI_i ⟨fun q => ?_, fun q => ⟨ho, fun M8 e => ?_⟩⟩)
  · rw [i32_lt (by omega) (by omega) (by omega) (by omega)] at q
    have e : 1900 + n / 366 = y := by
      by_cases c1 : 1900 + n / 366 < y
      · have := yst_mono (show 1900 + n / 366 + 1 ≤ y by omega); omega
      · have h9 : n < yst (y + 1) := ha.2.1
        have : yst (y + 1) ≤ 366 * (y + 1 - 1900) := by unfold yst; omega
        omega
    rw [e]
    refine s_day38 hd ho ?_ (fun r hr => ?_)
    · rw [mI_w, va_up_self]
    · rw [wI_wI]; exact h r hr
  · subst e
    rw [i32_lt (by omega) (by omega) (by omega) (by omega)] at q
    have e : 1900 + n / 366 + 1 = y := by
      have h9 : yst y ≤ n := ha.1
      have : 366 * (y - 1901) ≤ yst y := by unfold yst; omega
      by_cases c1 : y ≤ 1900 + n / 366
      · have := yst_mono (show y + 1 ≤ 1900 + n / 366 + 1 by omega); omega
      · omega
    rw [sI_w, wI_wI, mI_w, va_up_self, i32_add, e]
    refine s_day38 hd ho ?_ (fun r hr => ?_)
    · rw [mI_w, va_up_self]
    · rw [wI_wI]; exact h r hr
theorem s_month {K : Rs → Mm → Prop} {M : Mm} {c : Nat} {y m : Int} (hy : 1899 ≤ y ∧ y ≤ 2200) (hm : 1 ≤ m ∧ m ≤ 12) (ho : ob M c 0) (h : ∀ r, Civ r y m 1 → K (.inl none) (wI M c r)) : V_X0_goToMonth K M c (i32 y) (i32 m) := by
  unfold V_X0_goToMonth
  refine ⟨ho, fun M2 e2 M3 e3 M4 e4 => ?_⟩
  subst e2; subst e3; subst e4
  simp only [sI_w, wI_wI, mI_w]
  rw [va_up_ne _ _ (by decide), va_up_ne _ _ (by decide), va_up_self, va_up_ne _ _ (by decide), va_up_self]
  refine s_mst (by omega) hm (kI_i ⟨ho, fun M8 e => ?_⟩)
  subst e
  simp only [sI_w, wI_wI, mI_w]
  refine s_look (y := y) (m := m) (d := 1) (by omega) hm rfl ho ?_ ?_ ?_ ?_ (fun r hr => kV_i ?_)
  · rw [mI_w]; simp [va_up]
  · rw [mI_w]; simp [va_up]
  · rw [mI_w]; simp [va_up, q_1]
  · rw [mI_w]; simp [va_up]
  · rw [wI_wI]; exact h r hr
/-- the month behind -/
def nY (y m : Int) : Int := if m = 12 then y + 1 else y
def nM (m : Int) : Int := if m = 12 then 1 else m + 1
def pY (y m : Int) : Int := if m = 1 then y - 1 else y
def pM (m : Int) : Int := if m = 1 then 12 else m - 1
theorem nx_st (y m : Int) (hm : 1 ≤ m ∧ m ≤ 12) : mst (nY y m) (nM m) = mst y m + dom y m := by
  unfold nY nM
  by_cases c : m = 12
  · subst c
    rw [if_pos rfl, if_pos rfl, mst_1, ← mst_13, ← mst_s y 12 (by decide)]; rfl
  · rw [if_neg c, if_neg c, mst_s y m hm.1]
theorem pv_st (y m : Int) (hm : 1 ≤ m ∧ m ≤ 12) : mst (pY y m) (pM m) = mst y m - dom (pY y m) (pM m) := by
  unfold pY pM
  by_cases c : m = 1
  · subst c
    have h1 := mst_s (y - 1) 12 (by decide)
    have h2 := mst_13 (y - 1)
    rw [show y - 1 + 1 = y by omega] at h2
    have h3 := mst_1 y
    have h4 : mst (y - 1) (12 + 1) = mst (y - 1) 13 := rfl
    simp only [if_true]
    omega
  · have := mst_s y (m - 1) (by omega)
    rw [show m - 1 + 1 = m by omega] at this
    simp only [if_neg c]
    omega
theorem s_nextMonth {K : Rs → Mm → Prop} {M : Mm} {c : Nat} {y m d : Int} (hy : 1899 ≤ y ∧ y ≤ 2200) (hm : 1 ≤ m ∧ m ≤ 12) (ho : ob M c 0) (hc : Civ (mI M c) y m d) (h : ∀ r, Civ r (nY y m) (nM m) 1 → K (.inl none) (wI M c r)) : V_X0_goToNextMonth K M c := by
  obtain ⟨c0, c1, c2, c3, c4, c5⟩ := hc
  have hn := nx_st y m hm
  have key : ∀ (M' : Mm) (y' m' : Int), 1 ≤ m' ∧ m' ≤ 12 → 1800 ≤ y' ∧ y' ≤ 2300 → y' = nY y m → m' = nM m → ob M' c 0 → mI M' c 0 = i32 y' → mI M' c 1 = i32 m → mI M' c 3 = i32 (mst y m + dom y m) → (∀ r, Civ r (nY y m) (nM m) 1 → K (.inl none) (wI M' c r)) → V_X0_goToNextMonth_59 K M' c c (i32 m') := by
    intro M' y' m' hm' hy' ey em ho' h0 h1 h3 h9
    unfold V_X0_goToNextMonth_59
    refine ⟨ho', fun M2 e2 => ⟨by subst e2; exact ho', fun M4 e4 => ?_⟩⟩
    subst e2; subst e4
    simp only [sI_w, wI_wI, mI_w]
    refine s_look (y := y') (m := m') (d := 1) (s := mst y m + dom y m) hy' hm' (by rw [ey, em, hn]) ho' ?_ ?_ ?_ ?_ (fun r hr => kV_i ?_)
    · rw [mI_w]; simp [va_up, h0]
    · rw [mI_w]; simp [va_up]
    · rw [mI_w]; simp [va_up, q_1]
    · rw [mI_w]; simp [va_up, h3]
    · rw [wI_wI]; exact h9 r (by rw [← ey, ← em]; exact hr)
  have key2 : ∀ (M' : Mm) (y' : Int), y' = nY y m → ob M' c 0 → mI M' c 1 = i32 m → mI M' c 3 = i32 (mst y m + dom y m) → (∀ r, Civ r (nY y m) (nM m) 1 → K (.inl none) (wI M' c r)) → V_X0_goToNextMonth_36 K M' c c (i32 y') := by
    intro M' y' ey ho' h1 h3 h9
    have hyr : 1800 ≤ y' ∧ y' ≤ 2300 := by rw [ey]; unfold nY; split <;> omega
    unfold V_X0_goToNextMonth_36
    refine ⟨ho', fun M2 e2 => ⟨by subst e2; exact ho', ?_⟩⟩
    subst e2
    rw [sI_w, mI_w, va_up_ne _ _ (by decide), h1, q_12, i32_eq (by omega) (by omega) (by omega) (by omega)]
    refine ⟨fun q => ?_, fun q => ?_⟩
    · rw [q_1, i32_add]
      refine key _ y' (m + 1) (by omega) hyr ey (by unfold nM; rw [if_neg q]) ho' ?_ ?_ ?_ (fun r hr => ?_)
      · rw [mI_w, va_up_self]
      · rw [mI_w]; simp [va_up, h1]
      · rw [mI_w]; simp [va_up, h3]
      · rw [wI_wI]; exact h9 r hr
    · rw [q_1]
      refine key _ y' 1 (by omega) hyr ey (by unfold nM; rw [if_pos q]) ho' ?_ ?_ ?_ (fun r hr => ?_)
      · rw [mI_w, va_up_self]
      · rw [mI_w]; simp [va_up, h1]
      · rw [mI_w]; simp [va_up, h3]
      · rw [wI_wI]; exact h9 r hr
  unfold V_X0_goToNextMonth
  refine ⟨ho, fun M2 e2 => ?_⟩
  subst e2
  have hr1 : mI (sI M c 3 (mI M c 3 + mI M c 4)) c 1 = i32 m := by rw [sI_w, mI_w]; simp [va_up, c1]
  have hr0 : mI (sI M c 3 (mI M c 3 + mI M c 4)) c 0 = i32 y := by rw [sI_w, mI_w]; simp [va_up, c0]
  have hr3 : mI (sI M c 3 (mI M c 3 + mI M c 4)) c 3 = i32 (mst y m + dom y m) := by rw [sI_w, mI_w, va_up_self, c3, c4, i32_add]
  rw [hr1, hr0, q_12, i32_eq (by omega) (by omega) (by omega) (by omega)]
  refine ⟨fun q => ?_, fun q => ?_⟩
  · refine key2 _ y (by unfold nY; rw [if_neg q]) ho hr1 hr3 (fun r hr => ?_)
    rw [sI_w, wI_wI]; exact h r hr
  · rw [q_1, i32_add]
    refine key2 _ (y + 1) (by unfold nY; rw [if_pos q]) ho hr1 hr3 (fun r hr => ?_)
    rw [sI_w, wI_wI]; exact h r hr
theorem s_monthBefore {K : Rs → Mm → Prop} {M : Mm} {c : Nat} {y m d : Int} (hy : 1899 ≤ y ∧ y ≤ 2200) (hm : 1 ≤ m ∧ m ≤ 12) (ho : ob M c 0) (hc : Civ (mI M c) y m d) (h : ∀ r, Civ r (pY y m) (pM m) 1 → K (.inl none) (wI M c r)) : V_X0_goToMonthBefore K M c := by
  obtain ⟨c0, c1, c2, c3, c4, c5⟩ := hc
  have hn := pv_st y m hm
  have key : ∀ (M' : Mm) (y' m' : Int), 1 ≤ m' ∧ m' ≤ 12 → 1800 ≤ y' ∧ y' ≤ 2300 → y' = pY y m → m' = pM m → ob M' c 0 → mI M' c 0 = i32 y' → mI M' c 3 = i32 (mst y m) → (∀ r, Civ r (pY y m) (pM m) 1 → K (.inl none) (wI M' c r)) → V_X0_goToMonthBefore_45 K M' c c (i32 m') := by
    intro M' y' m' hm' hy' ey em ho' h0 h3 h9
    unfold V_X0_goToMonthBefore_45
    refine ⟨ho', fun M2 e2 => ⟨by subst e2; exact ho', fun M4 e4 => ?_⟩⟩
    subst e2; subst e4
    simp only [sI_w, wI_wI, mI_w]
    rw [va_up_ne _ _ (show (0 : Nat) ≠ 2 by decide), va_up_ne _ _ (show (0 : Nat) ≠ 1 by decide), h0, va_up_ne _ _ (show (1 : Nat) ≠ 2 by decide), va_up_self]
    refine s_dom (by omega) (by omega) (kI_i ⟨ho', fun M8 e => ?_⟩)
    subst e
    simp only [sI_w, wI_wI, mI_w]
    refine s_look (y := y') (m := m') (d := 1) (s := mst y m - dom y' m') hy' hm' (by rw [ey, em, hn]) ho' ?_ ?_ ?_ ?_ (fun r hr => kV_i ?_)
    · rw [mI_w]; simp [va_up, h0]
    · rw [mI_w]; simp [va_up]
    · rw [mI_w]; simp [va_up, q_1]
    · rw [mI_w]; simp [va_up, h3, i32_sub]
    · rw [wI_wI]; exact h9 r (by rw [← ey, ← em]; exact hr)
  have key2 : ∀ (M' : Mm) (y' : Int), y' = pY y m → ob M' c 0 → mI M' c 1 = i32 m → mI M' c 3 = i32 (mst y m) → (∀ r, Civ r (pY y m) (pM m) 1 → K (.inl none) (wI M' c r)) → V_X0_goToMonthBefore_22 K M' c c (i32 y') := by
    intro M' y' ey ho' h1 h3 h9
    have hyr : 1800 ≤ y' ∧ y' ≤ 2300 := by rw [ey]; unfold pY; split <;> omega
    unfold V_X0_goToMonthBefore_22
    refine ⟨ho', fun M2 e2 => ⟨by subst e2; exact ho', ?_⟩⟩
    subst e2
    rw [sI_w, mI_w, va_up_ne _ _ (by decide), h1, q_1, i32_eq (by omega) (by omega) (by omega) (by omega)]
    refine ⟨fun q => ?_, fun q => ?_⟩
    · rw [i32_sub]
      refine key _ y' (m - 1) (by omega) hyr ey (by unfold pM; rw [if_neg q]) ho' ?_ ?_ (fun r hr => ?_)
      · rw [mI_w, va_up_self]
      · rw [mI_w]; simp [va_up, h3]
      · rw [wI_wI]; exact h9 r hr
    · rw [q_12]
      refine key _ y' 12 (by omega) hyr ey (by unfold pM; rw [if_pos q]) ho' ?_ ?_ (fun r hr => ?_)
      · rw [mI_w, va_up_self]
      · rw [mI_w]; simp [va_up, h3]
      · rw [wI_wI]; exact h9 r hr
  unfold V_X0_goToMonthBefore
  refine ⟨ho, ?_⟩
  rw [c1, c0, q_1, i32_eq (by omega) (by omega) (by omega) (by omega)]
  refine ⟨fun q => ?_, fun q => ?_⟩
  · exact key2 M y (by unfold pY; rw [if_neg q]) ho c1 c3 h
  · rw [i32_sub]
    exact key2 M (y - 1) (by unfold pY; rw [if_pos q]) ho c1 c3 h
