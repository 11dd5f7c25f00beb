/-! numbers: an int as the whole number that it stands for -/
def i32 (n : Int) : Int32 := Int32.ofInt n
theorem i32_nat (n : Nat) : (OfNat.ofNat n : Int32) = i32 (OfNat.ofNat n) := Int32.ofInt_eq_ofNat.symm
theorem q_0 : (0 : Int32) = i32 0 := by decide
theorem q_1 : (1 : Int32) = i32 1 := by decide
theorem q_2 : (2 : Int32) = i32 2 := by decide
theorem q_3 : (3 : Int32) = i32 3 := by decide
theorem q_4 : (4 : Int32) = i32 4 := by decide
theorem q_5 : (5 : Int32) = i32 5 := by decide
theorem q_6 : (6 : Int32) = i32 6 := by decide
theorem q_7 : (7 : Int32) = i32 7 := by decide
theorem q_8 : (8 : Int32) = i32 8 := by decide
theorem q_9 : (9 : Int32) = i32 9 := by decide
theorem q_10 : (10 : Int32) = i32 10 := by decide
theorem q_11 : (11 : Int32) = i32 11 := by decide
theorem q_12 : (12 : Int32) = i32 12 := by decide
theorem q_13 : (13 : Int32) = i32 13 := by decide
theorem q_14 : (14 : Int32) = i32 14 := by decide
theorem q_15 : (15 : Int32) = i32 15 := by decide
theorem q_16 : (16 : Int32) = i32 16 := by decide
theorem q_17 : (17 : Int32) = i32 17 := by decide
theorem q_18 : (18 : Int32) = i32 18 := by decide
theorem q_19 : (19 : Int32) = i32 19 := by decide
theorem q_20 : (20 : Int32) = i32 20 := by decide
theorem q_21 : (21 : Int32) = i32 21 := by decide
theorem q_22 : (22 : Int32) = i32 22 := by decide
theorem q_23 : (23 : Int32) = i32 23 := by decide
theorem q_24 : (24 : Int32) = i32 24 := by decide
theorem q_25 : (25 : Int32) = i32 25 := by decide
theorem q_26 : (26 : Int32) = i32 26 := by decide
theorem q_27 : (27 : Int32) = i32 27 := by decide
theorem q_28 : (28 : Int32) = i32 28 := by decide
theorem q_29 : (29 : Int32) = i32 29 := by decide
theorem q_30 : (30 : Int32) = i32 30 := by decide
theorem q_31 : (31 : Int32) = i32 31 := by decide
theorem q_32 : (32 : Int32) = i32 32 := by decide
theorem q_33 : (33 : Int32) = i32 33 := by decide
theorem q_34 : (34 : Int32) = i32 34 := by decide
theorem q_35 : (35 : Int32) = i32 35 := by decide
theorem q_36 : (36 : Int32) = i32 36 := by decide
theorem q_37 : (37 : Int32) = i32 37 := by decide
theorem q_38 : (38 : Int32) = i32 38 := by decide
theorem q_39 : (39 : Int32) = i32 39 := by decide
theorem q_40 : (40 : Int32) = i32 40 := by decide
theorem q_41 : (41 : Int32) = i32 41 := by decide
theorem q_42 : (42 : Int32) = i32 42 := by decide
theorem q_43 : (43 : Int32) = i32 43 := by decide
theorem q_44 : (44 : Int32) = i32 44 := by decide
theorem q_45 : (45 : Int32) = i32 45 := by decide
theorem q_46 : (46 : Int32) = i32 46 := by decide
theorem q_47 : (47 : Int32) = i32 47 := by decide
theorem q_48 : (48 : Int32) = i32 48 := by decide
theorem q_49 : (49 : Int32) = i32 49 := by decide
theorem q_50 : (50 : Int32) = i32 50 := by decide
theorem q_51 : (51 : Int32) = i32 51 := by decide
theorem q_52 : (52 : Int32) = i32 52 := by decide
theorem q_53 : (53 : Int32) = i32 53 := by decide
theorem q_54 : (54 : Int32) = i32 54 := by decide
theorem q_55 : (55 : Int32) = i32 55 := by decide
theorem q_56 : (56 : Int32) = i32 56 := by decide
theorem q_57 : (57 : Int32) = i32 57 := by decide
theorem q_58 : (58 : Int32) = i32 58 := by decide
theorem q_59 : (59 : Int32) = i32 59 := by decide
theorem q_60 : (60 : Int32) = i32 60 := by decide
theorem q_61 : (61 : Int32) = i32 61 := by decide
theorem q_62 : (62 : Int32) = i32 62 := by decide
theorem q_63 : (63 : Int32) = i32 63 := by decide
theorem q_64 : (64 : Int32) = i32 64 := by decide
theorem q_70 : (70 : Int32) = i32 70 := by decide
theorem q_80 : (80 : Int32) = i32 80 := by decide
theorem q_97 : (97 : Int32) = i32 97 := by decide
theorem q_99 : (99 : Int32) = i32 99 := by decide
theorem q_100 : (100 : Int32) = i32 100 := by decide
theorem q_101 : (101 : Int32) = i32 101 := by decide
theorem q_104 : (104 : Int32) = i32 104 := by decide
theorem q_108 : (108 : Int32) = i32 108 := by decide
theorem q_109 : (109 : Int32) = i32 109 := by decide
theorem q_119 : (119 : Int32) = i32 119 := by decide
theorem q_121 : (121 : Int32) = i32 121 := by decide
theorem q_122 : (122 : Int32) = i32 122 := by decide
theorem q_127 : (127 : Int32) = i32 127 := by decide
theorem q_160 : (160 : Int32) = i32 160 := by decide
theorem q_255 : (255 : Int32) = i32 255 := by decide
theorem q_300 : (300 : Int32) = i32 300 := by decide
theorem q_365 : (365 : Int32) = i32 365 := by decide
theorem q_366 : (366 : Int32) = i32 366 := by decide
theorem q_400 : (400 : Int32) = i32 400 := by decide
theorem q_460 : (460 : Int32) = i32 460 := by decide
theorem q_1439 : (1439 : Int32) = i32 1439 := by decide
theorem q_1440 : (1440 : Int32) = i32 1440 := by decide
theorem q_1899 : (1899 : Int32) = i32 1899 := by decide
theorem q_1900 : (1900 : Int32) = i32 1900 := by decide
theorem q_2199 : (2199 : Int32) = i32 2199 := by decide
theorem q_2200 : (2200 : Int32) = i32 2200 := by decide
theorem q_3000 : (3000 : Int32) = i32 3000 := by decide
theorem q_3600 : (3600 : Int32) = i32 3600 := by decide
theorem q_4000 : (4000 : Int32) = i32 4000 := by decide
theorem q_10000 : (10000 : Int32) = i32 10000 := by decide
theorem q_20000 : (20000 : Int32) = i32 20000 := by decide
theorem q_100000 : (100000 : Int32) = i32 100000 := by decide
theorem q_3000000 : (3000000 : Int32) = i32 3000000 := by decide
theorem q_28800000 : (28800000 : Int32) = i32 28800000 := by decide
theorem q_157785119 : (157785119 : Int32) = i32 157785119 := by decide
theorem q_m1 : (-1 : Int32) = i32 (-1) := by decide
theorem i32_add (a b : Int) : i32 a + i32 b = i32 (a + b) := (Int32.ofInt_add a b).symm
theorem i32_sub (a b : Int) : i32 a - i32 b = i32 (a - b) := (Int32.ofInt_sub a b).symm
theorem i32_mul (a b : Int) : i32 a * i32 b = i32 (a * b) := (Int32.ofInt_mul a b).symm
theorem i32_neg (a : Int) : -i32 a = i32 (-a) := (Int32.ofInt_neg a).symm
theorem i32_toInt {a : Int} (h1 : -2147483648 ≤ a) (h2 : a ≤ 2147483647) : (i32 a).toInt = a := Int32.toInt_ofInt_of_le (by omega) (by omega)
theorem i32_of (x : Int32) : ∃ n : Int, x = i32 n ∧ -2147483648 ≤ n ∧ n ≤ 2147483647 := ⟨x.toInt, (Int32.ofInt_toInt x).symm, by have := x.le_toInt; omega, by have := x.toInt_lt; omega⟩
theorem i32_eq {a b : Int} (h1 : -2147483648 ≤ a) (h2 : a ≤ 2147483647) (h3 : -2147483648 ≤ b) (h4 : b ≤ 2147483647) : (i32 a = i32 b) = (a = b) := by
  apply propext
  rw [← Int32.toInt_inj, i32_toInt h1 h2, i32_toInt h3 h4]
theorem i32_le {a b : Int} (h1 : -2147483648 ≤ a) (h2 : a ≤ 2147483647) (h3 : -2147483648 ≤ b) (h4 : b ≤ 2147483647) : (i32 a ≤ i32 b) = (a ≤ b) := by
  apply propext
  rw [Int32.le_iff_toInt_le, i32_toInt h1 h2, i32_toInt h3 h4]
theorem i32_lt {a b : Int} (h1 : -2147483648 ≤ a) (h2 : a ≤ 2147483647) (h3 : -2147483648 ≤ b) (h4 : b ≤ 2147483647) : (i32 a < i32 b) = (a < b) := by
  apply propext
  rw [Int32.lt_iff_toInt_lt, i32_toInt h1 h2, i32_toInt h3 h4]
theorem i32_div {a b : Int} (h1 : -2147483648 ≤ a) (h2 : a ≤ 2147483647) (h3 : 0 < b) (h4 : b ≤ 2147483647) : i32 a / i32 b = i32 (a.tdiv b) := by
  apply Int32.toInt_inj.mp
  rw [Int32.toInt_div_of_ne_right _ _ (fun q => ?_), i32_toInt h1 h2, i32_toInt (by omega) h4]
  · refine (i32_toInt ?_ ?_).symm
    · by_cases h0 : 0 ≤ a
      · have := Int.tdiv_nonneg h0 (Int.le_of_lt h3); omega
      · have e : a.tdiv b = -((-a).tdiv b) := by rw [Int.neg_tdiv, Int.neg_neg]
        have e2 : (-a).tdiv b ≤ -a := Int.tdiv_le_self b (by omega)
        omega
    · by_cases h0 : 0 ≤ a
      · have := Int.tdiv_le_self b h0; omega
      · have e : a.tdiv b = -((-a).tdiv b) := by rw [Int.neg_tdiv, Int.neg_neg]
        have e2 : 0 ≤ (-a).tdiv b := Int.tdiv_nonneg (by omega) (Int.le_of_lt h3)
        omega
  · have e := congrArg Int32.toInt q
    rw [i32_toInt (by omega) h4] at e
    have e9 : (-1 : Int32).toInt = -1 := by decide
    omega
theorem i32_divp {a b : Int} (h1 : 0 ≤ a) (h2 : a ≤ 2147483647) (h3 : 0 < b) (h4 : b ≤ 2147483647) : i32 a / i32 b = i32 (a / b) := by
  rw [i32_div (by omega) h2 h3 h4, Int.tdiv_eq_ediv_of_nonneg h1]
theorem i32_divn {a b : Int} (h1 : -2147483648 ≤ a) (h2 : a < 0) (h3 : 0 < b) (h4 : b ≤ 2147483647) : i32 a / i32 b = i32 (-((-a) / b)) := by
  rw [i32_div h1 (by omega) h3 h4]
  congr 1
  rw [← Int.tdiv_eq_ediv_of_nonneg (by omega : 0 ≤ -a), Int.neg_tdiv, Int.neg_neg]
theorem i32_clamp {a : Int} (h1 : 0 ≤ a) (h2 : a ≤ 2147483647) : (i32 a).toNatClampNeg = a.toNat := by
  show (i32 a).toInt.toNat = _
  rw [i32_toInt (by omega) h2]
theorem i32_in {a : Int} {n : Nat} (h1 : 0 ≤ a) (h2 : a < n) (h3 : a ≤ 2147483647) : vp_in (i32 a) n := by
  unfold vp_in
  rw [i32_clamp h1 h3, i32_nat, i32_lt (by omega) h3 (by decide) (by decide)]
  omega
theorem i32_xs {a b : Int} (h1 : -2147483648 ≤ a) (h2 : a ≤ 2147483647) (h3 : 0 < b) (h4 : b ≤ 2147483647) : (0 ≤ i32 a ^^^ i32 b) = (0 ≤ a) := by
  apply propext
  rw [Int32.le_iff_toInt_le]
  have e0 : (0 : Int32).toInt = 0 := by decide
  have hx : ∀ x : Int32, (0 ≤ x.toInt) ↔ x.toBitVec.msb = false := fun x => by
    show 0 ≤ x.toBitVec.toInt ↔ _
    rw [BitVec.msb_eq_toInt]
    simp
  rw [e0, hx, Int32.toBitVec_xor, BitVec.msb_xor]
  have hb : (i32 b).toBitVec.msb = false := (hx _).mp (by rw [i32_toInt (by omega) h4]; omega)
  rw [hb, Bool.xor_false, ← hx, i32_toInt h1 h2]
/-! the memory by rows -/
def wI (M : Mm) (a : Nat) (r : Nat → Int32) : Mm := (M.1, M.2.1, M.2.2.1, va_up M.2.2.2.1 a r, M.2.2.2.2.1, M.2.2.2.2.2)
def wJ (M : Mm) (a : Nat) (r : Nat → Int64) : Mm := (M.1, M.2.1, M.2.2.1, M.2.2.2.1, va_up M.2.2.2.2.1 a r, M.2.2.2.2.2)
def wP (M : Mm) (a : Nat) (r : Nat → Option Nat) : Mm := (M.1, M.2.1, M.2.2.1, M.2.2.2.1, M.2.2.2.2.1, va_up M.2.2.2.2.2 a r)
theorem sI_w (M : Mm) (a k : Nat) (v : Int32) : sI M a k v = wI M a (va_up (mI M a) k v) := rfl
theorem sJ_w (M : Mm) (a k : Nat) (v : Int64) : sJ M a k v = wJ M a (va_up (mJ M a) k v) := rfl
theorem sP_w (M : Mm) (a k : Nat) (v : Option Nat) : sP M a k v = wP M a (va_up (mP M a) k v) := rfl
theorem up_up {α : Type} (f : Nat → α) (a : Nat) (v w : α) : va_up (va_up f a v) a w = va_up f a w := by
  funext j
  unfold va_up
  by_cases h : j = a <;> simp [h]
theorem up_id {α : Type} (f : Nat → α) (a : Nat) : va_up f a (f a) = f := by
  funext j
  unfold va_up
  by_cases h : j = a <;> simp [h]
theorem wI_wI (M : Mm) (a : Nat) (r r' : Nat → Int32) : wI (wI M a r) a r' = wI M a r' := by unfold wI; simp only [up_up]
theorem wJ_wJ (M : Mm) (a : Nat) (r r' : Nat → Int64) : wJ (wJ M a r) a r' = wJ M a r' := by unfold wJ; simp only [up_up]
theorem wI_self (M : Mm) (a : Nat) : wI M a (mI M a) = M := by unfold wI mI; simp only [up_id]
theorem mI_w (M : Mm) (a : Nat) (r : Nat → Int32) : mI (wI M a r) a = r := va_up_self _ _ _
theorem mI_wn (M : Mm) {a b : Nat} (r : Nat → Int32) (h : b ≠ a) : mI (wI M a r) b = mI M b := va_up_ne _ _ h
theorem mJ_w (M : Mm) (a : Nat) (r : Nat → Int64) : mJ (wJ M a r) a = r := va_up_self _ _ _
theorem mJ_wn (M : Mm) {a b : Nat} (r : Nat → Int64) (h : b ≠ a) : mJ (wJ M a r) b = mJ M b := va_up_ne _ _ h
theorem mP_w (M : Mm) (a : Nat) (r : Nat → Option Nat) : mP (wP M a r) a = r := va_up_self _ _ _
theorem mP_wn (M : Mm) {a b : Nat} (r : Nat → Option Nat) (h : b ≠ a) : mP (wP M a r) b = mP M b := va_up_ne _ _ h
theorem mJ_wI (M : Mm) (a : Nat) (r : Nat → Int32) : mJ (wI M a r) = mJ M := rfl
theorem mP_wI (M : Mm) (a : Nat) (r : Nat → Int32) : mP (wI M a r) = mP M := rfl
theorem mN_wI (M : Mm) (a : Nat) (r : Nat → Int32) : mN (wI M a r) = mN M := rfl
theorem ob_wI (M : Mm) (a : Nat) (r : Nat → Int32) (b c : Nat) : ob (wI M a r) b c = ob M b c := rfl
theorem mI_wJ (M : Mm) (a : Nat) (r : Nat → Int64) : mI (wJ M a r) = mI M := rfl
theorem mP_wJ (M : Mm) (a : Nat) (r : Nat → Int64) : mP (wJ M a r) = mP M := rfl
theorem mN_wJ (M : Mm) (a : Nat) (r : Nat → Int64) : mN (wJ M a r) = mN M := rfl
theorem ob_wJ (M : Mm) (a : Nat) (r : Nat → Int64) (b c : Nat) : ob (wJ M a r) b c = ob M b c := rfl
theorem mI_wP (M : Mm) (a : Nat) (r : Nat → Option Nat) : mI (wP M a r) = mI M := rfl
theorem mJ_wP (M : Mm) (a : Nat) (r : Nat → Option Nat) : mJ (wP M a r) = mJ M := rfl
theorem mN_wP (M : Mm) (a : Nat) (r : Nat → Option Nat) : mN (wP M a r) = mN M := rfl
theorem ob_wP (M : Mm) (a : Nat) (r : Nat → Option Nat) (b c : Nat) : ob (wP M a r) b c = ob M b c := rfl
/-! the calendar -/
def dom (y m : Int) : Int := if m = 2 then (if y % 4 = 0 ∧ (¬ y % 100 = 0 ∨ y % 400 = 0) then 29 else 28) else if m = 4 ∨ m = 6 ∨ m = 9 ∨ m = 11 then 30 else 31
def yst (y : Int) : Int := 365 * (y - 1900) + (y - 1) / 4 - (y - 1) / 100 + (y - 1) / 400 - 460
/-- the day on which the month behind k months begins -/
def mstN (y : Int) : Nat → Int
  | 0 => yst y
  | k + 1 => mstN y k + dom y ((k : Int) + 1)
def mst (y m : Int) : Int := mstN y (m - 1).toNat
theorem dom_b (y m : Int) : 28 ≤ dom y m ∧ dom y m ≤ 31 := by
  unfold dom
  split
  · split <;> omega
  · split <;> omega
theorem mst_1 (y : Int) : mst y 1 = yst y := rfl
theorem mst_s (y m : Int) (h : 1 ≤ m) : mst y (m + 1) = mst y m + dom y m := by
  obtain ⟨k, rfl⟩ : ∃ k : Nat, m = (k : Int) + 1 := ⟨(m - 1).toNat, by omega⟩
  unfold mst
  rw [show ((k : Int) + 1 + 1 - 1).toNat = k + 1 by omega, show ((k : Int) + 1 - 1).toNat = k by omega]
  rfl
theorem mst_13 (y : Int) : mst y 13 = yst (y + 1) := by
  show mstN y 12 = _
  simp only [mstN, dom, yst]
  by_cases h4 : y % 4 = 0
  · by_cases h1 : y % 100 = 0
    · by_cases h2 : y % 400 = 0 <;> simp [h4, h1, h2] <;> omega
    · simp [h4, h1]; omega
  · simp [h4]; omega
theorem s_dom {K : Rs → Mm → Prop} {M : Mm} {y m : Int} (hy : 0 ≤ y ∧ y ≤ 100000) (hm : 0 ≤ m ∧ m ≤ 1000) (h : K (.inl (some (.int (i32 (dom y m))))) M) : V_X6_daysOfMonth K M (i32 y) (i32 m) := by
  have e4 : i32 y - i32 y / 4 * 4 = i32 (y % 4) := by
    rw [i32_nat, i32_divp (by omega) (by omega) (by decide) (by decide), i32_mul, i32_sub]; congr 1; omega
  have e100 : i32 y - i32 y / 100 * 100 = i32 (y % 100) := by
    rw [i32_nat, i32_divp (by omega) (by omega) (by decide) (by decide), i32_mul, i32_sub]; congr 1; omega
  have e400 : i32 y - i32 y / 400 * 400 = i32 (y % 400) := by
    rw [i32_nat, i32_divp (by omega) (by omega) (by decide) (by decide), i32_mul, i32_sub]; congr 1; omega
  simp only [V_X6_daysOfMonth, V_X6_daysOfMonth_67, V_X6_daysOfMonth_74, V_X6_daysOfMonth_30, V_X6_daysOfMonth_26, V_X6_daysOfMonth_31, V_X6_daysOfMonth_43, e4, e100, e400]
  simp (disch := omega) only [i32_nat, i32_eq]
  unfold dom at h
  by_cases h2 : m = 2
  · by_cases c4 : y % 4 = 0
    · by_cases c1 : y % 100 = 0
      · by_cases c2 : y % 400 = 0 <;> simp_all
      · simp_all
    · simp_all
  · by_cases m4 : m = 4
    · simp_all
    · by_cases m6 : m = 6
      · simp_all
      · by_cases m9 : m = 9
        · simp_all
        · by_cases m11 : m = 11 <;> simp_all
theorem s_yst {K : Rs → Mm → Prop} {M : Mm} {y : Int} (hy : 1 ≤ y ∧ y ≤ 100000) (h : K (.inl (some (.int (i32 (yst y))))) M) : V_X6_yearStart K M (i32 y) := by
  unfold V_X6_yearStart
  intro x1 e
  subst e
  rw [i32_nat, i32_nat, i32_nat, i32_nat, i32_nat, i32_nat, i32_nat, i32_sub, i32_sub]
  rw [i32_divp (by omega) (by omega) (by decide) (by decide), i32_divp (by omega) (by omega) (by decide) (by decide), i32_divp (by omega) (by omega) (by decide) (by decide), i32_mul, i32_add, i32_sub, i32_add, i32_sub]
  exact h
