/-! right days, month by month -/
/-- v is the least of f .. l that is in p, or z if none is -/
def Ls (p : Int → Bool) (f l z v : Int) : Prop := (v = z ∧ ∀ n, f ≤ n → n ≤ l → p n = false) ∨ (f ≤ v ∧ v ≤ l ∧ p v = true ∧ ∀ n, f ≤ n → n < v → p n = false)
def Gs (p : Int → Bool) (f l z v : Int) : Prop := (v = z ∧ ∀ n, f ≤ n → n ≤ l → p n = false) ∨ (f ≤ v ∧ v ≤ l ∧ p v = true ∧ ∀ n, v < n → n ≤ l → p n = false)
/-- b tells the right days -/
def isB (r : Ru) (b : Int → Bool) : Prop := ∀ n : Int, -365 ≤ n → n ≤ 109937 → (b n = true ↔ rt r n)
theorem isB_d {r : Ru} {b : Int → Bool} (hb : isB r b) {y m : Int} (hy : 1899 ≤ y ∧ y ≤ 2200) (hm : 1 ≤ m ∧ m ≤ 12) {x : Int64} (hx : ∀ d : Int, 1 ≤ d → d ≤ dom y m → (bj x d.toNat = true ↔ whl r y m d)) {i : Nat} (h1 : 1 ≤ i) (h2 : (i : Int) ≤ dom y m) : bj x i = b (mst y m + i - 1) := by
  have hd : isD y m i (mst y m + i - 1) := ⟨hy, hm, ⟨by omega, h2⟩, rfl⟩
  have h3 := isD_b hd
  have h4 := hx i (by omega) h2
  rw [Int.toNat_natCast] at h4
  have h5 := hb _ h3.1 h3.2
  rw [Bool.eq_iff_iff, h4, h5, rt_of hd]
theorem win_b {r : Ru} {b : Int → Bool} (hb : isB r b) {y m f l : Int} (hy : 1899 ≤ y ∧ y ≤ 2200) (hm : 1 ≤ m ∧ m ≤ 12) {x w : Int64} (hx : ∀ d : Int, 1 ≤ d → d ≤ dom y m → (bj x d.toNat = true ↔ whl r y m d))
    (hw : ∀ i : Nat, i < 64 → bj w i = decide (1 ≤ (i : Int) ∧ (i : Int) ≤ dom y m ∧ f ≤ mst y m + i - 1 ∧ mst y m + i - 1 ≤ l)) {i : Nat} (hi : i < 64) :
    bj (x &&& w) i = (b (mst y m + i - 1) && decide (1 ≤ (i : Int) ∧ (i : Int) ≤ dom y m ∧ f ≤ mst y m + i - 1 ∧ mst y m + i - 1 ≤ l)) := by
  rw [bj_and, hw i hi]
  by_cases c : 1 ≤ (i : Int) ∧ (i : Int) ≤ dom y m ∧ f ≤ mst y m + i - 1 ∧ mst y m + i - 1 ≤ l
  · rw [isB_d hb hy hm hx (by omega) c.2.1]
  · rw [decide_eq_false c, Bool.and_false, Bool.and_false]
theorem mst_2200 : mst 2200 12 = 109908 - 1 := by decide
theorem mst_lo {y m l : Int} (hy : 1899 ≤ y ∧ y ≤ 2200) (hm : 1 ≤ m ∧ m ≤ 12) (h : mst y m ≤ l) (hl : l ≤ 109600) : 1899 ≤ nY y m ∧ nY y m ≤ 2200 := by
  unfold nY
  by_cases c : m = 12
  · rw [if_pos c]
    by_cases c2 : y = 2200
    · subst c; subst c2; rw [mst_2200] at h; omega
    · omega
  · rw [if_neg c]; exact hy
theorem mst_hi {y m f : Int} (hy : 1899 ≤ y ∧ y ≤ 2200) (hm : 1 ≤ m ∧ m ≤ 12) (h : f < mst y m + dom y m) (hf : -300 ≤ f) : 1899 ≤ pY y m ∧ pY y m ≤ 2200 := by
  unfold pY
  by_cases c : m = 1
  · rw [if_pos c]
    by_cases c2 : y = 1899
    · subst c; subst c2
      have : mst 1899 1 + dom 1899 1 = -334 := by decide
      omega
    · omega
  · rw [if_neg c]; exact hy
theorem nM_b {m : Int} (hm : 1 ≤ m ∧ m ≤ 12) : 1 ≤ nM m ∧ nM m ≤ 12 := by unfold nM; split <;> omega
theorem pM_b {m : Int} (hm : 1 ≤ m ∧ m ≤ 12) : 1 ≤ pM m ∧ pM m ≤ 12 := by unfold pM; split <;> omega
theorem n_12 (y m : Int) : 12 * nY y m + nM m = 12 * y + m + 1 := by unfold nY nM; split <;> omega
theorem p_12 (y m : Int) : 12 * pY y m + pM m = 12 * y + m - 1 := by unfold pY pM; split <;> omega
theorem s_fRD10 {K : Rs → Mm → Prop} {a c nu ye : Nat} {r : Ru} {b : Int → Bool} (hb : isB r b) {f l : Int} (hf : -365 ≤ f ∧ f ≤ 109937) (hl : -365 ≤ l ∧ l ≤ 109600) :
    ∀ (z : Nat) (M : Mm) (y m d i : Int), Rl M a c nu ye r → Kn r (mI M a) → (∀ M' v, Sc a c M M' → Kn r (mI M' a) → Ls b f l (-1000000000) v → K (.inl (some (.int (i32 v)))) M') →
      12 * y + m + z = 26412 → 1899 ≤ y ∧ y ≤ 2200 → 1 ≤ m ∧ m ≤ 12 → 0 ≤ i ∧ i ≤ 12 * y + m - 22788 → Civ (mI M c) y m d → (∀ n, f ≤ n → n ≤ l → n < mst y m → b n = false) → V_X3_firstRightDay_10 K (z + 1) M a (i32 f) (i32 l) (i32 i) := by
  intro z
  induction z with
  | zero =>
    intro M y m d i hr hk h e hy hm hi hc hn
    have e1 : y = 2200 := by omega
    have e2 : m = 12 := by omega
    subst e1; subst e2
    obtain ⟨⟨s0, s1, s2, s3, s4, s5, s6, s7, s8, s9⟩, _⟩ := hr
    unfold V_X3_firstRightDay_10 V_X3_firstRightDay_81
    rw [q_4000, i32_le (by omega) (by omega) (by omega) (by omega), show (-1000000000 : Int32) = i32 (-1000000000) by decide]
    have out : K (.inl (some (.int (i32 (-1000000000))))) M := h M _ (Sc.refl a c M) hk (.inl ⟨rfl, fun n h1 h2 => hn n h1 h2 (by rw [mst_2200]; omega)⟩)
    refine ⟨fun _ => out, fun _ => ⟨s1, c, s5, s2, fun _ => out, fun q => absurd ?_ q⟩⟩
    rw [hc.2.2.2.1, mst_2200, i32_lt (by omega) (by omega) (by omega) (by omega)]
    omega
  | succ z ih =>
    intro M y m d i hr hk h e hy hm hi hc hn
    have hr' := hr
    obtain ⟨⟨s0, s1, s2, s3, s4, s5, s6, s7, s8, s9⟩, _⟩ := hr
    have hdm := dom_b y m
    have hmb := mst_b (y := y) (m := m) (by omega) (by omega)
    unfold V_X3_firstRightDay_10 V_X3_firstRightDay_81
    rw [q_4000, i32_le (by omega) (by omega) (by omega) (by omega), show (-1000000000 : Int32) = i32 (-1000000000) by decide, q_3]
    refine ⟨fun q => absurd q (by omega), fun _ => ⟨s1, c, s5, s2, fun q => ?_, fun q => ?_⟩⟩
    · rw [hc.2.2.2.1, i32_lt (by omega) (by omega) (by omega) (by omega)] at q
      exact h M _ (Sc.refl a c M) hk (.inl ⟨rfl, fun n h1 h2 => hn n h1 h2 (by omega)⟩)
    · rw [hc.2.2.2.1, i32_lt (by omega) (by omega) (by omega) (by omega)] at q
      refine s_rd hr' hc hy hm (by decide) (fun x hx => kJ_i ⟨s1, c, s5, s2, ?_⟩)
      refine s_within hy hm s2 hc (by omega) (by omega) (fun w hw => kJ_i (fun x11 e11 => ?_))
      subst e11
      have hwb := fun (i : Nat) hi => win_b hb hy hm hx hw (i := i) hi
      rw [lg_cmp_eq]
      refine ⟨fun q2 => ⟨s1, c, s5, s2, ?_⟩, fun q2 => ⟨s1, c, s5, s2, ?_⟩⟩
      · refine s_nextMonth hy hm s2 hc (fun rc hrc => kV_i (fun x16 e16 => ?_))
        subst e16
        have hsc := Sc.civ (a := a) M rc s0
        rw [q_1, i32_add]
        have e12 := n_12 y m
        refine ih (wI M c rc) (nY y m) (nM m) 1 (i + 1) (hsc.rl hr') (by rw [mI_wn _ _ s0.symm]; exact hk) (fun M' v g1 g2 g3 => h M' v (hsc.trans g1) g2 g3) (by omega) (mst_lo hy hm (by omega) hl.2) (nM_b hm) (by omega) (by rw [mI_w]; exact hrc) (fun n h1 h2 h3 => ?_)
        rw [nx_st y m hm] at h3
        by_cases c1 : n < mst y m
        · exact hn n h1 h2 c1
        · have hz := z_bits q2 (n - mst y m + 1).toNat
          rw [hwb _ (by omega)] at hz
          rw [show mst y m + ((n - mst y m + 1).toNat : Int) - 1 = n by omega] at hz
          have c2 : 1 ≤ ((n - mst y m + 1).toNat : Int) ∧ ((n - mst y m + 1).toNat : Int) ≤ dom y m ∧ f ≤ n ∧ n ≤ l := by omega
          rw [decide_eq_true c2, Bool.and_true] at hz
          exact hz
      · rw [hc.2.2.2.1]
        refine s_low q2 (fun k hk64 hk1 hk2 => kI_i ?_)
        rw [i32_add, q_1, i32_sub]
        refine h M _ (Sc.refl a c M) hk (.inr ?_)
        rw [hwb k hk64, Bool.and_eq_true, decide_eq_true_iff] at hk1
        refine ⟨hk1.2.2.2.1, hk1.2.2.2.2, hk1.1, fun n h1 h2 => ?_⟩
        by_cases c1 : n < mst y m
        · exact hn n h1 (by omega) c1
        · have hz := hk2 (n - mst y m + 1).toNat (by omega)
          rw [hwb _ (by omega)] at hz
          rw [show mst y m + ((n - mst y m + 1).toNat : Int) - 1 = n by omega] at hz
          have c2 : 1 ≤ ((n - mst y m + 1).toNat : Int) ∧ ((n - mst y m + 1).toNat : Int) ≤ dom y m ∧ f ≤ n ∧ n ≤ l := by omega
          rw [decide_eq_true c2, Bool.and_true] at hz
          exact hz
theorem s_fRD {K : Rs → Mm → Prop} {M : Mm} {a c nu ye : Nat} {r : Ru} {b : Int → Bool} (hb : isB r b) {f l : Int} (hf : -365 ≤ f ∧ f ≤ 109937) (hl : -365 ≤ l ∧ l ≤ 109600) (hr : Rl M a c nu ye r) (hk : Kn r (mI M a))
    (h : ∀ M' v, Sc a c M M' → Kn r (mI M' a) → Ls b f l (-1000000000) v → K (.inl (some (.int (i32 v)))) M') : V_X3_firstRightDay K M a (i32 f) (i32 l) := by
  have hr' := hr
  obtain ⟨⟨s0, s1, s2, s3, s4, s5, s6, s7, s8, s9⟩, _⟩ := hr
  obtain ⟨y, m, d, hd⟩ := isD_ex hf
  have hy := hd.1
  have hm := hd.2.1
  have hdd := hd.2.2
  unfold V_X3_firstRightDay
  refine ⟨s1, c, s5, s2, s_day hd s2 (fun rc hrc => kV_i ⟨(26412 - (12 * y + m)).toNat + 1, ?_⟩)⟩
  have hsc := Sc.civ (a := a) M rc s0
  rw [q_0]
  exact s_fRD10 hb hf hl _ _ y m d 0 (hsc.rl hr') (by rw [mI_wn _ _ s0.symm]; exact hk) (fun M' v g1 g2 g3 => h M' v (hsc.trans g1) g2 g3) (by omega) hy hm (by omega) (by rw [mI_w]; exact hrc) (fun n h1 h2 h3 => by omega)
theorem s_lRD10 {K : Rs → Mm → Prop} {a c nu ye : Nat} {r : Ru} {b : Int → Bool} (hb : isB r b) {f l : Int} (hf : -300 ≤ f ∧ f ≤ 109937) (hl : -365 ≤ l ∧ l ≤ 109937) :
    ∀ (z : Nat) (M : Mm) (y m d i : Int), Rl M a c nu ye r → Kn r (mI M a) → (∀ M' v, Sc a c M M' → Kn r (mI M' a) → Gs b f l (-1000000000) v → K (.inl (some (.int (i32 v)))) M') →
      12 * y + m = 22789 + z → 1899 ≤ y ∧ y ≤ 2200 → 1 ≤ m ∧ m ≤ 12 → 0 ≤ i ∧ i ≤ 26412 - (12 * y + m) → Civ (mI M c) y m d → (∀ n, f ≤ n → n ≤ l → mst y m + dom y m ≤ n → b n = false) → V_X3_lastRightDay_10 K (z + 1) M a (i32 f) (i32 l) (i32 i) := by
  intro z
  induction z with
  | zero =>
    intro M y m d i hr hk h e hy hm hi hc hn
    have e1 : y = 1899 := by omega
    have e2 : m = 1 := by omega
    subst e1; subst e2
    obtain ⟨⟨s0, s1, s2, s3, s4, s5, s6, s7, s8, s9⟩, _⟩ := hr
    have e3 : mst 1899 1 + dom 1899 1 = -334 := by decide
    unfold V_X3_lastRightDay_10 V_X3_lastRightDay_89
    rw [q_4000, i32_le (by omega) (by omega) (by omega) (by omega), show (-1000000000 : Int32) = i32 (-1000000000) by decide]
    have out : K (.inl (some (.int (i32 (-1000000000))))) M := h M _ (Sc.refl a c M) hk (.inl ⟨rfl, fun n h1 h2 => hn n h1 h2 (by omega)⟩)
    refine ⟨fun _ => out, fun _ => ⟨s1, c, s5, s2, c, s5, s2, fun _ => out, fun q => absurd ?_ q⟩⟩
    rw [hc.2.2.2.1, hc.2.2.2.2.1, i32_add, e3, i32_le (by omega) (by omega) (by omega) (by omega)]
    omega
  | succ z ih =>
    intro M y m d i hr hk h e hy hm hi hc hn
    have hr' := hr
    obtain ⟨⟨s0, s1, s2, s3, s4, s5, s6, s7, s8, s9⟩, _⟩ := hr
    have hdm := dom_b y m
    have hmb := mst_b (y := y) (m := m) (by omega) (by omega)
    unfold V_X3_lastRightDay_10 V_X3_lastRightDay_89
    rw [q_4000, i32_le (by omega) (by omega) (by omega) (by omega), show (-1000000000 : Int32) = i32 (-1000000000) by decide, q_3]
    refine ⟨fun q => absurd q (by omega), fun _ => ⟨s1, c, s5, s2, c, s5, s2, fun q => ?_, fun q => ?_⟩⟩
    · rw [hc.2.2.2.1, hc.2.2.2.2.1, i32_add, i32_le (by omega) (by omega) (by omega) (by omega)] at q
      exact h M _ (Sc.refl a c M) hk (.inl ⟨rfl, fun n h1 h2 => hn n h1 h2 (by omega)⟩)
    · rw [hc.2.2.2.1, hc.2.2.2.2.1, i32_add, i32_le (by omega) (by omega) (by omega) (by omega)] at q
      refine s_rd hr' hc hy hm (by decide) (fun x hx => kJ_i ⟨s1, c, s5, s2, ?_⟩)
      refine s_within hy hm s2 hc (by omega) (by omega) (fun w hw => kJ_i (fun x11 e11 => ?_))
      subst e11
      have hwb := fun (i : Nat) hi => win_b hb hy hm hx hw (i := i) hi
      rw [lg_cmp_eq]
      refine ⟨fun q2 => ⟨s1, c, s5, s2, ?_⟩, fun q2 => ⟨s1, c, s5, s2, ?_⟩⟩
      · refine s_monthBefore hy hm s2 hc (fun rc hrc => kV_i (fun x16 e16 => ?_))
        subst e16
        have hsc := Sc.civ (a := a) M rc s0
        rw [q_1, i32_add]
        have e12 := p_12 y m
        refine ih (wI M c rc) (pY y m) (pM m) 1 (i + 1) (hsc.rl hr') (by rw [mI_wn _ _ s0.symm]; exact hk) (fun M' v g1 g2 g3 => h M' v (hsc.trans g1) g2 g3) (by omega) (mst_hi hy hm (by omega) hf.1) (pM_b hm) (by omega) (by rw [mI_w]; exact hrc) (fun n h1 h2 h3 => ?_)
        rw [pv_st y m hm] at h3
        by_cases c1 : mst y m + dom y m ≤ n
        · exact hn n h1 h2 c1
        · have hz := z_bits q2 (n - mst y m + 1).toNat
          rw [hwb _ (by omega)] at hz
          rw [show mst y m + ((n - mst y m + 1).toNat : Int) - 1 = n by omega] at hz
          have c2 : 1 ≤ ((n - mst y m + 1).toNat : Int) ∧ ((n - mst y m + 1).toNat : Int) ≤ dom y m ∧ f ≤ n ∧ n ≤ l := by omega
          rw [decide_eq_true c2, Bool.and_true] at hz
          exact hz
      · rw [hc.2.2.2.1]
        refine s_high q2 (fun k hk64 hk1 hk2 => kI_i ?_)
        rw [i32_add, q_1, i32_sub]
        refine h M _ (Sc.refl a c M) hk (.inr ?_)
        rw [hwb k hk64, Bool.and_eq_true, decide_eq_true_iff] at hk1
        refine ⟨hk1.2.2.2.1, hk1.2.2.2.2, hk1.1, fun n h1 h2 => ?_⟩
        by_cases c1 : mst y m + dom y m ≤ n
        · exact hn n (by omega) h2 c1
        · have hz := hk2 (n - mst y m + 1).toNat (by omega)
          rw [hwb _ (by omega)] at hz
          rw [show mst y m + ((n - mst y m + 1).toNat : Int) - 1 = n by omega] at hz
          have c2 : 1 ≤ ((n - mst y m + 1).toNat : Int) ∧ ((n - mst y m + 1).toNat : Int) ≤ dom y m ∧ f ≤ n ∧ n ≤ l := by omega
          rw [decide_eq_true c2, Bool.and_true] at hz
          exact hz
theorem s_lRD {K : Rs → Mm → Prop} {M : Mm} {a c nu ye : Nat} {r : Ru} {b : Int → Bool} (hb : isB r b) {f l : Int} (hf : -300 ≤ f ∧ f ≤ 109937) (hl : -365 ≤ l ∧ l ≤ 109937) (hr : Rl M a c nu ye r) (hk : Kn r (mI M a))
    (h : ∀ M' v, Sc a c M M' → Kn r (mI M' a) → Gs b f l (-1000000000) v → K (.inl (some (.int (i32 v)))) M') : V_X3_lastRightDay K M a (i32 f) (i32 l) := by
  have hr' := hr
  obtain ⟨⟨s0, s1, s2, s3, s4, s5, s6, s7, s8, s9⟩, _⟩ := hr
  obtain ⟨y, m, d, hd⟩ := isD_ex hl
  have hy := hd.1
  have hm := hd.2.1
  have hdd := hd.2.2
  unfold V_X3_lastRightDay
  refine ⟨s1, c, s5, s2, s_day hd s2 (fun rc hrc => kV_i ⟨(12 * y + m - 22789).toNat + 1, ?_⟩)⟩
  have hsc := Sc.civ (a := a) M rc s0
  rw [q_0]
  exact s_lRD10 hb hf hl _ _ y m d 0 (hsc.rl hr') (by rw [mI_wn _ _ s0.symm]; exact hk) (fun M' v g1 g2 g3 => h M' v (hsc.trans g1) g2 g3) (by omega) hy hm (by omega) (by rw [mI_w]; exact hrc) (fun n h1 h2 h3 => by omega)
/-- how many of the numbers from f on, up to l, are in p -/
def cI (p : Int → Bool) (f l : Int) : Nat := cN (fun i => p (f + i)) (l + 1 - f).toNat
theorem cN_0 {p : Nat → Bool} {n : Nat} (h : ∀ i, i < n → p i = false) : cN p n = 0 := by
  induction n with
  | zero => rfl
  | succ n ih => simp only [cN]; rw [ih (fun i hi => h i (by omega)), h n (by omega)]; rfl
theorem cN_win {q : Nat → Bool} {A B : Nat} (N : Nat) (h1 : A ≤ B) (h2 : B ≤ N) : cN (fun i => q i && decide (A ≤ i ∧ i < B)) N = cN (fun j => q (A + j)) (B - A) := by
  have e : N = A + ((B - A) + (N - B)) := by omega
  rw [e, cN_add, cN_add]
  have z1 : cN (fun i => q i && decide (A ≤ i ∧ i < B)) A = 0 := cN_0 (fun i hi => by
    have : ¬ (A ≤ i ∧ i < B) := by omega
    rw [decide_eq_false this, Bool.and_false])
  have z2 : cN (fun j => (fun j => (fun i => q i && decide (A ≤ i ∧ i < B)) (A + j)) (B - A + j)) (N - B) = 0 := cN_0 (fun i hi => by
    have : ¬ (A ≤ A + (B - A + i) ∧ A + (B - A + i) < B) := by omega
    simp only
    rw [decide_eq_false this, Bool.and_false])
  have z3 : cN (fun j => (fun i => q i && decide (A ≤ i ∧ i < B)) (A + j)) (B - A) = cN (fun j => q (A + j)) (B - A) := cN_congr (fun i hi => by
    have : A ≤ A + i ∧ A + i < B := by omega
    simp only
    rw [decide_eq_true this, Bool.and_true])
  rw [z1, z2, z3]
  omega
theorem cI_add {p : Int → Bool} {f m l : Int} (h1 : f ≤ m) (h2 : m ≤ l + 1) : cI p f l = cI p f (m - 1) + cI p m l := by
  unfold cI
  have e : (l + 1 - f).toNat = (m - 1 + 1 - f).toNat + (l + 1 - m).toNat := by omega
  rw [e, cN_add]
  congr 1
  exact cN_congr (fun i hi => by congr 1; omega)
theorem cI_le (p : Int → Bool) (f l : Int) : cI p f l ≤ (l + 1 - f).toNat := cN_le _ _
theorem s_rDI13 {K : Rs → Mm → Prop} {a c nu ye : Nat} {r : Ru} {b : Int → Bool} (hb : isB r b) {f l : Int} (hf : -365 ≤ f ∧ f ≤ 109937) (hl : -365 ≤ l ∧ l ≤ 109600) (hfl : f ≤ l) :
    ∀ (z : Nat) (M : Mm) (y m d i g : Int), Rl M a c nu ye r → Kn r (mI M a) → (∀ M', Sc a c M M' → Kn r (mI M' a) → K (.inl (some (.int (i32 (cI b f l : Nat))))) M') →
      12 * y + m + z = 26412 → 1899 ≤ y ∧ y ≤ 2200 → 1 ≤ m ∧ m ≤ 12 → 0 ≤ i ∧ i ≤ 12 * y + m - 22788 → Civ (mI M c) y m d → f < mst y m + dom y m → g = min (max f (mst y m)) (l + 1) → V_X3_rightDaysIn_13 K (z + 1) M a (i32 f) (i32 l) (i32 (cI b f (g - 1) : Nat)) (i32 i) := by
  intro z
  induction z with
  | zero =>
    intro M y m d i g hr hk h e hy hm hi hc hn hg
    have e1 : y = 2200 := by omega
    have e2 : m = 12 := by omega
    subst e1; subst e2
    obtain ⟨⟨s0, s1, s2, s3, s4, s5, s6, s7, s8, s9⟩, _⟩ := hr
    have eg : g - 1 = l := by rw [hg, mst_2200]; omega
    rw [eg]
    unfold V_X3_rightDaysIn_13 V_X3_rightDaysIn_66
    refine ⟨fun _ => h M (Sc.refl a c M) hk, fun _ => ⟨s1, c, s5, s2, fun _ => h M (Sc.refl a c M) hk, fun q => absurd ?_ q⟩⟩
    rw [hc.2.2.2.1, mst_2200, i32_lt (by omega) (by omega) (by omega) (by omega)]
    omega
  | succ z ih =>
    intro M y m d i g hr hk h e hy hm hi hc hn hg
    have hr' := hr
    obtain ⟨⟨s0, s1, s2, s3, s4, s5, s6, s7, s8, s9⟩, _⟩ := hr
    have hdm := dom_b y m
    have hmb := mst_b (y := y) (m := m) (by omega) (by omega)
    unfold V_X3_rightDaysIn_13 V_X3_rightDaysIn_66
    rw [q_4000, i32_le (by omega) (by omega) (by omega) (by omega), q_3]
    refine ⟨fun q => absurd q (by omega), fun _ => ⟨s1, c, s5, s2, fun q => ?_, fun q => ?_⟩⟩
    · rw [hc.2.2.2.1, i32_lt (by omega) (by omega) (by omega) (by omega)] at q
      have eg : g - 1 = l := by omega
      rw [eg]
      exact h M (Sc.refl a c M) hk
    · rw [hc.2.2.2.1, i32_lt (by omega) (by omega) (by omega) (by omega)] at q
      refine s_rd hr' hc hy hm (by decide) (fun x hx => kJ_i ⟨s1, c, s5, s2, ?_⟩)
      refine s_within hy hm s2 hc (by omega) (by omega) (fun w hw => kJ_i (s_cnt (kI_i (fun x13 e13 => ⟨s1, c, s5, s2, ?_⟩))))
      subst e13
      have hwb := fun (i : Nat) hi => win_b hb hy hm hx hw (i := i) hi
      refine s_nextMonth hy hm s2 hc (fun rc hrc => kV_i (fun x16 e16 => ?_))
      subst e16
      have hsc := Sc.civ (a := a) M rc s0
      rw [q_1, i32_add, i32_add]
      have e12 := n_12 y m
      have hnx := nx_st y m hm
      obtain ⟨g', hg'⟩ : ∃ g', g' = min (max f (mst y m + dom y m)) (l + 1) := ⟨_, rfl⟩
      have e9 : ((cI b f (g - 1) : Nat) : Int) + ((cN (bj (x &&& w)) 64 : Nat) : Int) = ((cI b f (g' - 1) : Nat) : Int) := by
        have h1 : cI b f (g' - 1) = cI b f (g - 1) + cI b g (g' - 1) := cI_add (by omega) (by omega)
        have h2 : cN (bj (x &&& w)) 64 = cI b g (g' - 1) := by
          have h3 : cN (bj (x &&& w)) 64 = cN (fun i => b (mst y m + i - 1) && decide ((g - mst y m + 1).toNat ≤ i ∧ i < (g' - mst y m + 1).toNat)) 64 := cN_congr (fun i hi => by
            rw [hwb i hi]
            congr 1
            apply decide_eq_decide.mpr
            omega)
          rw [h3, cN_win 64 (by omega) (by omega)]
          unfold cI
          rw [show (g' - 1 + 1 - g).toNat = (g' - mst y m + 1).toNat - (g - mst y m + 1).toNat by omega]
          exact cN_congr (fun i hi => by congr 1; omega)
        omega
      rw [e9]
      have hd2 := dom_b (nY y m) (nM m)
      exact ih (wI M c rc) (nY y m) (nM m) 1 (i + 1) g' (hsc.rl hr') (by rw [mI_wn _ _ s0.symm]; exact hk) (fun M' g1 g2 => h M' (hsc.trans g1) g2) (by omega) (mst_lo hy hm (by omega) hl.2) (nM_b hm) (by omega) (by rw [mI_w]; exact hrc) (by rw [hnx]; omega) (by rw [hnx]; exact hg')
theorem s_rDI {K : Rs → Mm → Prop} {M : Mm} {a c nu ye : Nat} {r : Ru} {b : Int → Bool} (hb : isB r b) {f l : Int} (hf : -365 ≤ f ∧ f ≤ 109937) (hl : -365 ≤ l ∧ l ≤ 109600) (hfl : f ≤ l) (hr : Rl M a c nu ye r) (hk : Kn r (mI M a))
    (h : ∀ M', Sc a c M M' → Kn r (mI M' a) → K (.inl (some (.int (i32 (cI b f l : Nat))))) M') : V_X3_rightDaysIn K M a (i32 f) (i32 l) := by
  have hr' := hr
  obtain ⟨⟨s0, s1, s2, s3, s4, s5, s6, s7, s8, s9⟩, _⟩ := hr
  obtain ⟨y, m, d, hd⟩ := isD_ex hf
  have hy := hd.1
  have hm := hd.2.1
  have hdd := hd.2.2
  unfold V_X3_rightDaysIn
  refine ⟨s1, c, s5, s2, s_day hd s2 (fun rc hrc => kV_i ⟨(26412 - (12 * y + m)).toNat + 1, ?_⟩)⟩
  have hsc := Sc.civ (a := a) M rc s0
  have := s_rDI13 hb hf hl hfl (26412 - (12 * y + m)).toNat (wI M c rc) y m d 0 f (hsc.rl hr') (by rw [mI_wn _ _ s0.symm]; exact hk) (fun M' g1 g2 => h M' (hsc.trans g1) g2) (by omega) hy hm (by omega) (by rw [mI_w]; exact hrc) (by omega) (by omega)
  have e0 : cI b f (f - 1) = 0 := by unfold cI; rw [show (f - 1 + 1 - f).toNat = 0 by omega]; rfl
  rw [e0] at this
  rw [q_0]
  exact this
