/-! bits of a long -/
def bj (x : Int64) (i : Nat) : Bool := x.toBitVec.getLsbD i
def uJ (x : Int64) : Nat := x.toBitVec.toNat
theorem uJ_lt (x : Int64) : uJ x < 18446744073709551616 := x.toBitVec.isLt
theorem uJ_inj {x y : Int64} (h : uJ x = uJ y) : x = y := Int64.toBitVec_inj.mp (BitVec.eq_of_toNat_eq h)
theorem bj_t (x : Int64) (i : Nat) : bj x i = (uJ x).testBit i := rfl
theorem bj_ext {x y : Int64} (h : ∀ i, i < 64 → bj x i = bj y i) : x = y := Int64.toBitVec_inj.mp (BitVec.eq_of_getLsbD_eq (fun i hi => h i hi))
theorem bj_big {x : Int64} {i : Nat} (h : 64 ≤ i) : bj x i = false := BitVec.getLsbD_of_ge _ _ h
theorem bj_0 (i : Nat) : bj 0 i = false := BitVec.getLsbD_zero
theorem bj_1 (i : Nat) : bj 1 i = decide (i = 0) := by
  rw [bj_t]
  show Nat.testBit 1 i = _
  have := @Nat.testBit_one_eq_true_iff_self_eq_zero i
  by_cases h : i = 0
  · simp [h]
  · simp [h]; simpa [h] using this
theorem bj_or (x y : Int64) (i : Nat) : bj (x ||| y) i = (bj x i || bj y i) := by unfold bj; rw [Int64.toBitVec_or, BitVec.getLsbD_or]
theorem bj_and (x y : Int64) (i : Nat) : bj (x &&& y) i = (bj x i && bj y i) := by unfold bj; rw [Int64.toBitVec_and, BitVec.getLsbD_and]
theorem bj_not (x : Int64) {i : Nat} (hi : i < 64) : bj (x ^^^ (-1)) i = !bj x i := by
  unfold bj
  rw [Int64.toBitVec_xor, BitVec.getLsbD_xor]
  have : (-1 : Int64).toBitVec.getLsbD i = true := by
    have h : ∀ i, i < 64 → (-1 : Int64).toBitVec.getLsbD i = true := by decide +kernel
    exact h i hi
  rw [this]; simp
theorem sh_l : ∀ n : Nat, n < 64 → (((i32 n).toInt64 &&& 63).toBitVec.smod 64).toNat = n := by decide +kernel
theorem sh_u : ∀ n : Nat, n < 64 → (((i32 n).toInt64.toUInt64 &&& Int64.toUInt64 63).toBitVec % 64).toNat = n := by decide +kernel
theorem bj_shl (n : Nat) (hn : n < 64) (x : Int64) {i : Nat} (hi : i < 64) : bj (x <<< ((i32 n).toInt64 &&& 63)) i = (decide (n ≤ i) && bj x (i - n)) := by
  unfold bj
  rw [Int64.toBitVec_shiftLeft]
  show (x.toBitVec <<< (((i32 n).toInt64 &&& 63).toBitVec.smod 64).toNat).getLsbD i = _
  rw [sh_l n hn, BitVec.getLsbD_shiftLeft]
  rcases Nat.lt_or_ge i n with h | h
  · simp [h, Nat.not_le.mpr h]
  · simp [hi, h, Nat.not_lt.mpr h]
theorem bj_ushr (n : Nat) (hn : n < 64) (x : Int64) (i : Nat) : bj ((x.toUInt64 >>> ((i32 n).toInt64.toUInt64 &&& Int64.toUInt64 63)).toInt64) i = bj x (n + i) := by
  show (x.toUInt64 >>> ((i32 n).toInt64.toUInt64 &&& Int64.toUInt64 63)).toBitVec.getLsbD i = x.toUInt64.toBitVec.getLsbD (n + i)
  rw [UInt64.toBitVec_shiftRight]
  show (x.toUInt64.toBitVec >>> (((i32 n).toInt64.toUInt64 &&& Int64.toUInt64 63).toBitVec % 64).toNat).getLsbD i = _
  rw [sh_u n hn, BitVec.getLsbD_ushiftRight]
theorem bj_sshr (n : Nat) (hn : n < 64) (x : Int64) {i : Nat} (hi : i < 64) : bj (x >>> ((i32 n).toInt64 &&& 63)) i = if n + i < 64 then bj x (n + i) else bj x 63 := by
  unfold bj
  rw [Int64.toBitVec_shiftRight]
  show (x.toBitVec.sshiftRight (((i32 n).toInt64 &&& 63).toBitVec.smod 64).toNat).getLsbD i = _
  rw [sh_l n hn, BitVec.getLsbD_sshiftRight, BitVec.msb_eq_getLsbD_last]
  simp [hi]
theorem uJ_ushr (n : Nat) (hn : n < 64) (x : Int64) : uJ ((x.toUInt64 >>> ((i32 n).toInt64.toUInt64 &&& Int64.toUInt64 63)).toInt64) = uJ x / 2 ^ n := by
  show (x.toUInt64 >>> ((i32 n).toInt64.toUInt64 &&& Int64.toUInt64 63)).toBitVec.toNat = _
  rw [UInt64.toBitVec_shiftRight]
  show (x.toUInt64.toBitVec >>> (((i32 n).toInt64.toUInt64 &&& Int64.toUInt64 63).toBitVec % 64).toNat).toNat = _
  rw [sh_u n hn, BitVec.toNat_ushiftRight, Nat.shiftRight_eq_div_pow]
  rfl
theorem uJ_and (x y : Int64) : uJ (x &&& y) = uJ x &&& uJ y := by unfold uJ; rw [Int64.toBitVec_and, BitVec.toNat_and]
theorem uJ_add {x y : Int64} (h : uJ x + uJ y < 18446744073709551616) : uJ (x + y) = uJ x + uJ y := by
  unfold uJ at h ⊢
  rw [Int64.toBitVec_add, BitVec.toNat_add, Nat.mod_eq_of_lt h]
theorem uJ_sub {x y : Int64} (h : uJ y ≤ uJ x) : uJ (x - y) = uJ x - uJ y := by
  have hx := uJ_lt x
  unfold uJ at h hx ⊢
  rw [Int64.toBitVec_sub, BitVec.toNat_sub]
  omega
/-- how many of the first n -/
def cN (p : Nat → Bool) : Nat → Nat
  | 0 => 0
  | n + 1 => cN p n + if p n then 1 else 0
theorem cN_le (p : Nat → Bool) (n : Nat) : cN p n ≤ n := by
  induction n with
  | zero => exact Nat.le_refl _
  | succ n ih => simp only [cN]; split <;> omega
theorem cN_add (p : Nat → Bool) (a b : Nat) : cN p (a + b) = cN p a + cN (fun j => p (a + j)) b := by
  induction b with
  | zero => rfl
  | succ b ih => rw [← Nat.add_assoc]; simp only [cN]; omega
theorem cN_congr {p q : Nat → Bool} {n : Nat} (h : ∀ i, i < n → p i = q i) : cN p n = cN q n := by
  induction n with
  | zero => rfl
  | succ n ih => simp only [cN]; rw [ih (fun i hi => h i (by omega)), h n (by omega)]
theorem cN_lt {k n : Nat} (h : k ≤ n) : cN (fun i => decide (i < k)) n = k := by
  induction n with
  | zero => simp [cN]; omega
  | succ n ih =>
    simp only [cN]
    by_cases c : k ≤ n
    · rw [ih c]; simp; omega
    · have e : k = n + 1 := by omega
      subst e
      have : cN (fun i => decide (i < n + 1)) n = cN (fun i => decide (i < n)) n := cN_congr (fun i hi => by simp; omega)
      rw [this]
      have : ∀ m, m ≤ n → cN (fun i => decide (i < n)) m = m := by
        intro m
        induction m with
        | zero => intro _; rfl
        | succ m im => intro hm; simp only [cN]; rw [im (by omega)]; simp; omega
      rw [this n (Nat.le_refl _)]
      simp
/-- eight bytes -/
def vb : List Nat → Nat
  | [] => 0
  | d :: r => d + 256 * vb r
theorem and_by {a c : Nat} (b e : Nat) (ha : a < 256) (hc : c < 256) : (a + 256 * b) &&& (c + 256 * e) = (a &&& c) + 256 * (b &&& e) := by
  have hac : a &&& c < 256 := Nat.and_lt_two_pow (n := 8) a hc
  apply Nat.eq_of_testBit_eq
  intro j
  rw [Nat.testBit_and, Nat.add_comm a, Nat.add_comm c, Nat.add_comm (a &&& c)]
  rw [Nat.testBit_two_pow_mul_add (i := 8) b ha, Nat.testBit_two_pow_mul_add (i := 8) e hc, Nat.testBit_two_pow_mul_add (i := 8) (b &&& e) hac]
  by_cases h : j < 8 <;> simp [h, Nat.testBit_and]
theorem shr_by {d c : Nat} (k b e : Nat) (hk : k ≤ 8) (hd : d < 256) (hc : c < 2 ^ (8 - k)) : ((d + 256 * b) / 2 ^ k) &&& (c + 256 * e) = ((d / 2 ^ k) &&& c) + 256 * ((b / 2 ^ k) &&& e) := by
  have hc8 : c < 256 := Nat.lt_of_lt_of_le hc (Nat.pow_le_pow_right (by decide) (by omega : 8 - k ≤ 8))
  have hac : (d / 2 ^ k) &&& c < 256 := Nat.and_lt_two_pow (n := 8) _ hc8
  apply Nat.eq_of_testBit_eq
  intro j
  rw [Nat.testBit_and, Nat.testBit_div_two_pow, Nat.add_comm d, Nat.add_comm c, Nat.add_comm ((d / 2 ^ k) &&& c)]
  rw [Nat.testBit_two_pow_mul_add (i := 8) b hd, Nat.testBit_two_pow_mul_add (i := 8) e hc8, Nat.testBit_two_pow_mul_add (i := 8) _ hac]
  by_cases h : j < 8
  · simp only [h, if_true, Nat.testBit_and, Nat.testBit_div_two_pow]
    by_cases h2 : k + j < 8
    · rw [if_pos (by omega)]
    · have : c.testBit j = false := Nat.testBit_lt_two_pow (Nat.lt_of_lt_of_le hc (Nat.pow_le_pow_right (by decide) (by omega)))
      simp [this]
  · have e1 : ¬ (j + k < 8) := by omega
    have e2 : ¬ (k + j < 8) := by omega
    simp only [h, if_false, Nat.testBit_and, Nat.testBit_div_two_pow]
    first
      | rw [if_neg e1, show j + k - 8 = j - 8 + k by omega]
      | rw [if_neg e2, show k + j - 8 = k + (j - 8) by omega]
theorem and_vb : ∀ (l : List Nat) (c : Nat), (∀ d ∈ l, d < 256) → c < 256 → vb l &&& vb (l.map fun _ => c) = vb (l.map fun d => d &&& c)
  | [], c, _, _ => by simp [vb]
  | d :: r, c, h, hc => by
    simp only [vb, List.map_cons]
    rw [and_by _ _ (h d List.mem_cons_self) hc, and_vb r c (fun x hx => h x (List.mem_cons_of_mem _ hx)) hc]
theorem shr_vb : ∀ (l : List Nat) (c k : Nat), (∀ d ∈ l, d < 256) → k ≤ 8 → c < 2 ^ (8 - k) → (vb l / 2 ^ k) &&& vb (l.map fun _ => c) = vb (l.map fun d => (d / 2 ^ k) &&& c)
  | [], c, k, _, _, _ => by simp [vb]
  | d :: r, c, k, h, hk, hc => by
    simp only [vb, List.map_cons]
    rw [shr_by k _ _ hk (h d List.mem_cons_self) hc, shr_vb r c k (fun x hx => h x (List.mem_cons_of_mem _ hx)) hk hc]
theorem pc_8 : ∀ d, d < 256 → (d / 2 &&& 85) ≤ d ∧ (let a := d - (d / 2 &&& 85); let b := (a &&& 51) + (a / 4 &&& 51); a < 256 ∧ b % 16 ≤ 4 ∧ b / 16 ≤ 4 ∧ b % 16 + b / 16 = cN (fun j => d.testBit j) 8) := by decide +kernel
theorem pc_b {d : Nat} (h : d < 256) : ∃ a b : Nat, (d / 2 &&& 85) ≤ d ∧ a = d - (d / 2 &&& 85) ∧ b = (a &&& 51) + (a / 4 &&& 51) ∧ a < 256 ∧ b % 16 ≤ 4 ∧ b / 16 ≤ 4 ∧ b % 16 + b / 16 = cN (fun j => d.testBit j) 8 := by
  obtain ⟨h1, h2, h3, h4, h5⟩ := pc_8 d h
  exact ⟨_, _, h1, rfl, rfl, h2, h3, h4, h5⟩
theorem lo7 (x : Int64) : x.toInt32 &&& 127 = i32 ((uJ x % 128 : Nat) : Int) := by
  apply Int32.toBitVec_inj.mp
  apply BitVec.eq_of_toNat_eq
  have e : (i32 ((uJ x % 128 : Nat) : Int)).toBitVec = BitVec.ofNat 32 (uJ x % 128) := by
    show (Int32.ofInt ((uJ x % 128 : Nat) : Int)).toBitVec = _
    rw [Int32.ofInt_eq_ofNat]; rfl
  have e7 : (127 : Int32).toBitVec.toNat = 2 ^ 7 - 1 := by decide
  rw [e, Int32.toBitVec_and, BitVec.toNat_and, e7, Nat.and_two_pow_sub_one_eq_mod, BitVec.toNat_ofNat]
  show (x.toBitVec.signExtend 32).toNat % 2 ^ 7 = _
  rw [BitVec.signExtend_eq_setWidth_of_le _ (by decide), BitVec.toNat_setWidth]
  unfold uJ
  omega
