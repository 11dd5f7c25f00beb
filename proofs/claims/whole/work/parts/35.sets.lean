/-! sets of small numbers -/
def bI (b : Bool) : Int32 := if b then 1 else 0
theorem bI_01 (b : Bool) : bI b = 0 ∨ bI b = 1 := by cases b <;> simp [bI]
theorem bI_0 (b : Bool) : (bI b = 0) = (b = false) := by cases b <;> simp [bI]
theorem and1 (y : Int64) : (y &&& 1 = 0) = (bj y 0 = false) := by
  apply propext
  constructor
  · intro h
    have : bj (y &&& 1) 0 = bj 0 0 := by rw [h]
    rw [bj_and, bj_1, bj_0] at this
    simpa using this
  · intro h
    apply bj_ext
    intro i hi
    rw [bj_and, bj_1, bj_0]
    by_cases c : i = 0
    · subst c; simp [h]
    · simp [c]
theorem s_holds {K : Rs → Mm → Prop} {M : Mm} {x : Int64} {n : Int} (hn : -2147483648 ≤ n ∧ n ≤ 2147483647) (h : K (.inl (some (.int (bI (decide (0 ≤ n ∧ n < 64) && bj x n.toNat))))) M) : V_X6_holds K M x (i32 n) := by
  unfold V_X6_holds V_X6_holds_24 V_X6_holds_25
  rw [q_0, q_64, i32_lt (by omega) (by omega) (by omega) (by omega), i32_le (by omega) (by omega) (by omega) (by omega)]
  refine ⟨fun q => ⟨.inl rfl, ?_⟩, fun q => ⟨fun q2 => ⟨.inl rfl, ?_⟩, fun q2 => ?_⟩⟩
  · have : ¬ (0 ≤ n ∧ n < 64) := by omega
    simpa [this, bI, q_0] using h
  · have : ¬ (0 ≤ n ∧ n < 64) := by omega
    simpa [this, bI, q_0] using h
  · have hb : 0 ≤ n ∧ n < 64 := by omega
    obtain ⟨k, rfl⟩ : ∃ k : Nat, n = k := ⟨n.toNat, by omega⟩
    have hk : k < 64 := by omega
    rw [← q_0, lg_cmp_eq, and1, bj_ushr k hk]
    simp only [hb, Int.toNat_natCast, decide_true, Bool.true_and, and_self] at h
    rw [Nat.add_zero]
    refine ⟨fun e => ⟨.inl rfl, ?_⟩, fun e => ⟨.inr rfl, ?_⟩⟩
    · rw [e] at h; exact h
    · have : bj x k = true := by simpa using e
      rw [this] at h; exact h
theorem s_holdsN {K : Rs → Mm → Prop} {M : Mm} {x : Int64} {n : Int} (hn : 0 ≤ n ∧ n < 64) (h : K (.inl (some (.int (bI (bj x n.toNat))))) M) : V_X6_holds K M x (i32 n) :=
  s_holds (by omega) (by simpa [hn] using h)
theorem below_b : ∀ n : Nat, n < 64 → ∀ i : Nat, i < 64 → bj (((1 : Int64) <<< ((i32 n).toInt64 &&& 63)) - 1) i = decide (i < n) := by decide +kernel
theorem s_below {K : Rs → Mm → Prop} {M : Mm} {n : Int} (hn : 0 ≤ n ∧ n < 64) (h : ∀ x, (∀ i : Nat, i < 64 → bj x i = decide ((i : Int) < n)) → K (.inl (some (.long x))) M) : V_X6_below K M (i32 n) := by
  obtain ⟨k, rfl⟩ : ∃ k : Nat, n = k := ⟨n.toNat, by omega⟩
  unfold V_X6_below
  apply h
  intro i hi
  rw [below_b k (by omega) i hi]
  simp
theorem odd_ex : ∀ n : Nat, 0 < n → ∃ k m : Nat, n = 2 ^ k * (2 * m + 1) := by
  intro n
  induction n using Nat.strongRecOn with
  | ind n ih =>
    intro hn
    by_cases c : n % 2 = 1
    · exact ⟨0, n / 2, by omega⟩
    · obtain ⟨k, m, e⟩ := ih (n / 2) (by omega) (by omega)
      refine ⟨k + 1, m, ?_⟩
      rw [Nat.pow_succ, Nat.mul_comm (2 ^ k) 2, Nat.mul_assoc, ← e]
      omega
theorem odd_bits {n k m : Nat} (e : n = 2 ^ k * (2 * m + 1)) (i : Nat) : n.testBit i = (if i < k + 1 then decide (i = k) else m.testBit (i - (k + 1))) ∧ (n - 1).testBit i = (if i < k + 1 then decide (i < k) else m.testBit (i - (k + 1))) := by
  have hp : 0 < 2 ^ k := Nat.pow_pos (by decide)
  have e1 : n = 2 ^ (k + 1) * m + 2 ^ k := by rw [e, Nat.pow_succ, Nat.mul_add, Nat.mul_one, Nat.mul_assoc]
  have e2 : n - 1 = 2 ^ (k + 1) * m + (2 ^ k - 1) := by omega
  constructor
  · rw [e1, Nat.testBit_two_pow_mul_add m (show 2 ^ k < 2 ^ (k + 1) by rw [Nat.pow_succ]; omega), Nat.testBit_two_pow]
    by_cases c : i < k + 1 <;> simp [c, eq_comm]
  · rw [e2, Nat.testBit_two_pow_mul_add m (show 2 ^ k - 1 < 2 ^ (k + 1) by rw [Nat.pow_succ]; omega), Nat.testBit_two_pow_sub_one]
theorem uJ_neg (x : Int64) (h : 0 < uJ x) : uJ (-x) = 2 ^ 64 - uJ x := by
  have := uJ_lt x
  unfold uJ at *
  rw [Int64.toBitVec_neg, BitVec.toNat_neg]
  omega
theorem low_bits {x : Int64} (h : 0 < uJ x) : ∃ k : Nat, k < 64 ∧ bj x k = true ∧ (∀ j, j < k → bj x j = false) ∧ ∀ i, bj ((x &&& (-x)) - 1) i = decide (i < k) := by
  obtain ⟨k, m, e⟩ := odd_ex (uJ x) h
  have hb := odd_bits e
  have hx := uJ_lt x
  have hk : bj x k = true := by rw [bj_t, (hb k).1]; simp
  have hk64 : k < 64 := by
    by_cases c : k < 64
    · exact c
    · rw [bj_big (by omega)] at hk; exact absurd hk (by decide)
  have hp : 0 < 2 ^ k := Nat.pow_pos (by decide)
  refine ⟨k, hk64, hk, fun j hj => ?_, fun i => ?_⟩
  · rw [bj_t, (hb j).1, if_pos (by omega)]; simp; omega
  · have ea : uJ (x &&& (-x)) = 2 ^ k := by
      apply Nat.eq_of_testBit_eq
      intro j
      rw [uJ_and, uJ_neg x h, Nat.testBit_and, Nat.testBit_two_pow, (hb j).1]
      have : 2 ^ 64 - uJ x = 2 ^ 64 - ((uJ x - 1) + 1) := by omega
      rw [this, Nat.testBit_two_pow_sub_succ (by omega), (hb j).2]
      by_cases c : j < k + 1
      · by_cases c2 : j = k
        · subst c2; simp [hk64]
        · simp [c, c2, Ne.symm c2]
      · have c2 : ¬ k = j := by omega
        simp only [c, if_false, c2, decide_false]
        cases m.testBit (j - (k + 1)) <;> simp
    have e1 : uJ 1 = 1 := by decide
    rw [bj_t, uJ_sub (by rw [ea, e1]; omega), ea, e1, Nat.testBit_two_pow_sub_one]
theorem nz_of {x : Int64} {i : Nat} (h : bj x i = true) : 0 < uJ x := by
  rcases Nat.eq_zero_or_pos (uJ x) with e | e
  · rw [bj_t, e, Nat.zero_testBit] at h; exact absurd h (by decide)
  · exact e
theorem nz_ex {x : Int64} (h : ¬ x = 0) : 0 < uJ x := by
  rcases Nat.eq_zero_or_pos (uJ x) with e | e
  · exact absurd (uJ_inj (e.trans (by decide : 0 = uJ 0))) h
  · exact e
theorem z_bits {x : Int64} (h : x = 0) (i : Nat) : bj x i = false := by rw [h, bj_0]
theorem s_low {K : Rs → Mm → Prop} {M : Mm} {x : Int64} (hx : ¬ x = 0) (h : ∀ k : Nat, k < 64 → bj x k = true → (∀ j, j < k → bj x j = false) → K (.inl (some (.int (i32 k)))) M) : V_X6_lowest K M x := by
  obtain ⟨k, hk, h1, h2, h3⟩ := low_bits (nz_ex hx)
  unfold V_X6_lowest
  refine s_cnt (kI_i ?_)
  have : cN (bj ((x &&& (-x)) - 1)) 64 = k := by
    rw [cN_congr (q := fun i => decide (i < k)) (fun i _ => h3 i), cN_lt (by omega)]
  rw [this]
  exact h k hk h1 h2
theorem top_ex {p : Nat → Bool} : ∀ N : Nat, (∃ i, i < N ∧ p i = true) → ∃ k, k < N ∧ p k = true ∧ ∀ j, k < j → j < N → p j = false := by
  intro N
  induction N with
  | zero => intro ⟨i, hi, _⟩; omega
  | succ N ih =>
    intro ⟨i, hi, hp⟩
    by_cases c : p N = true
    · exact ⟨N, by omega, c, fun j h1 h2 => by omega⟩
    · obtain ⟨k, h1, h2, h3⟩ := ih ⟨i, by
        by_cases e : i = N
        · subst e; exact absurd hp c
        · omega, hp⟩
      refine ⟨k, by omega, h2, fun j h4 h5 => ?_⟩
      by_cases e : j = N
      · subst e; simpa using c
      · exact h3 j h4 (by omega)
theorem nz_bit {x : Int64} (h : ¬ x = 0) : ∃ i, i < 64 ∧ bj x i = true := by
  obtain ⟨k, hk, h1, _⟩ := low_bits (nz_ex h)
  exact ⟨k, hk, h1⟩
theorem fill {y : Int64} {k s : Nat} (hs : s < 64) (h1 : ∀ i, i ≤ k → k < i + s → bj y i = true) (h2 : ∀ i, k < i → bj y i = false) :
    (∀ i, i ≤ k → k < i + 2 * s → bj (y ||| ((y.toUInt64 >>> ((i32 s).toInt64.toUInt64 &&& Int64.toUInt64 63)).toInt64)) i = true) ∧ ∀ i, k < i → bj (y ||| ((y.toUInt64 >>> ((i32 s).toInt64.toUInt64 &&& Int64.toUInt64 63)).toInt64)) i = false := by
  constructor
  · intro i h3 h4
    rw [bj_or, bj_ushr s hs]
    by_cases c : k < i + s
    · rw [h1 i h3 c]; rfl
    · rw [h1 (s + i) (by omega) (by omega)]; simp
  · intro i h3
    rw [bj_or, bj_ushr s hs, h2 i h3, h2 (s + i) (by omega)]; rfl
theorem s_high5 {K : Rs → Mm → Prop} {M : Mm} {k : Nat} (hk : k < 64) (h : K (.inl (some (.int (i32 k)))) M) : ∀ (z : Nat) (j : Nat) (y : Int64), j + z = 6 → (∀ i, i ≤ k → k < i + 2 ^ j → bj y i = true) → (∀ i, k < i → bj y i = false) → V_X6_highest_5 K (z + 1) M y (i32 ((2 ^ j : Nat) : Int)) := by
  intro z
  induction z with
  | zero =>
    intro j y e h1 h2
    have : j = 6 := by omega
    subst this
    unfold V_X6_highest_5
    refine ⟨fun _ => s_cnt (kI_i ?_), fun q => absurd (by decide) q⟩
    have : cN (bj y) 64 = k + 1 := by
      rw [cN_congr (q := fun i => decide (i < k + 1)) (fun i hi => ?_), cN_lt (by omega)]
      by_cases c : i ≤ k
      · rw [h1 i c (by omega)]; simp; omega
      · rw [h2 i (by omega)]; simp; omega
    rw [this, q_1, i32_sub, show ((k + 1 : Nat) : Int) - 1 = k by omega]
    exact h
  | succ z ih =>
    intro j y e h1 h2
    have hp : 2 ^ j ≤ 2 ^ 5 := Nat.pow_le_pow_right (by decide) (by omega)
    have e2 : 2 ^ (j + 1) = 2 * 2 ^ j := by rw [Nat.pow_succ, Nat.mul_comm]
    have ih' := ih (j + 1)
    rw [e2] at ih'
    generalize 2 ^ j = s at *
    unfold V_X6_highest_5
    rw [q_64, i32_le (by omega) (by omega) (by omega) (by omega)]
    refine ⟨fun q => absurd q (by omega), fun _ x3 e3 x4 e4 => ?_⟩
    have f := fill (s := s) (by omega) h1 h2
    subst e3; subst e4
    rw [q_2, i32_mul, show ((s : Int) * 2) = ((2 * s : Nat) : Int) by omega]
    exact ih' _ (by omega) f.1 f.2
theorem s_high {K : Rs → Mm → Prop} {M : Mm} {x : Int64} (hx : ¬ x = 0) (h : ∀ k : Nat, k < 64 → bj x k = true → (∀ j, k < j → bj x j = false) → K (.inl (some (.int (i32 k)))) M) : V_X6_highest K M x := by
  obtain ⟨k, hk, h1, h2⟩ := top_ex 64 (nz_bit hx)
  have h2' : ∀ j, k < j → bj x j = false := fun j hj => by
    by_cases c : j < 64
    · exact h2 j hj c
    · exact bj_big (by omega)
  unfold V_X6_highest
  refine ⟨7, ?_⟩
  have := s_high5 (M := M) hk (h k hk h1 h2') 6 0 x (by omega) (fun i h3 h4 => by
    have : i = k := by simp at h4; omega
    rw [this]; exact h1) h2'
  rw [q_1]
  simpa using this
theorem s_within {K : Rs → Mm → Prop} {M : Mm} {c : Nat} {y m d f l : Int} (hy : 1899 ≤ y ∧ y ≤ 2200) (hm : 1 ≤ m ∧ m ≤ 12) (ho : ob M c 0) (hc : Civ (mI M c) y m d) (hf : -1000000 ≤ f ∧ f ≤ 1000000) (hl : -1000000 ≤ l ∧ l ≤ 1000000)
    (h : ∀ x, (∀ i : Nat, i < 64 → bj x i = decide (1 ≤ (i : Int) ∧ (i : Int) ≤ dom y m ∧ f ≤ mst y m + i - 1 ∧ mst y m + i - 1 ≤ l)) → K (.inl (some (.long x))) M) : V_X0_daysWithin K M c (i32 f) (i32 l) := by
  obtain ⟨c0, c1, c2, c3, c4, c5⟩ := hc
  have hb := mst_b (y := y) (m := m) (by omega) (by omega)
  have hd := dom_b y m
  unfold V_X0_daysWithin V_X0_daysWithin_56
  refine ⟨ho, ?_⟩
  rw [c3, i32_sub, q_1, i32_add]
  refine s_max (by omega) (by omega) (kI_i ⟨ho, ?_⟩)
  rw [c3, c4, i32_sub, i32_add]
  refine s_min (by omega) (by omega) (kI_i ?_)
  rw [i32_le (by omega) (by omega) (by omega) (by omega)]
  refine ⟨fun q => ?_, fun q => ?_⟩
  · rw [i32_add]
    refine s_below (by omega) (fun x1 h1 => kJ_i ?_)
    refine s_below (by omega) (fun x2 h2 => kJ_i ?_)
    apply h
    intro i hi
    rw [bj_and, bj_not _ hi, h1 i hi, h2 i hi, ← decide_not, ← Bool.decide_and]
    apply decide_eq_decide.mpr
    omega
  · apply h
    intro i hi
    rw [bj_0, eq_comm, decide_eq_false_iff_not]
    omega
