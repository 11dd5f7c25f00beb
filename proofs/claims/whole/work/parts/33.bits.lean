/-! bits of a long -/
def bj (x : Int64) (i : Nat) : Bool := x.toBitVec.getLsbD i
def uJ (x : Int64) : Nat := x.toBitVec.toNat
theorem uJ_lt (x : Int64) : uJ x < 18446744073709551616 := x.toBitVec.isLt
theorem uJ_inj {x y : Int64} (h : uJ x = uJ y) : x = y := Int64.toBitVec_inj.mp (BitVec.eq_of_toNat_eq h)
theorem bj_t (x : Int64) (i : Nat) : bj x i = (uJ x).testBit i := rfl
theorem bj_ext {x y : Int64} (h : ∀ i, i < 64 → bj x i = bj y i) : x = y := Int64.toBitVec_inj.mp (BitVec.eq_of_getLsbD_eq (fun i hi => h i hi))
theorem bj_big {x : Int64} {i : Nat} (h : 64 ≤ i) : bj x i = false := BitVec.getLsbD_of_ge _ _ h
theorem bj_0 (i : Nat) : bj 0 i = false := BitVec.getLsbD_zero
theorem bj_1 (i : Nat) : bj 1 i = decide (i = 0) := by
  rw [bj_t]
  show Nat.testBit 1 i = _
  exact Nat.testBit_one_eq_true_iff_self_eq_zero ▸ (by cases i <;> simp)
theorem bj_or (x y : Int64) (i : Nat) : bj (x ||| y) i = (bj x i || bj y i) := by unfold bj; rw [Int64.toBitVec_or, BitVec.getLsbD_or]
theorem bj_and (x y : Int64) (i : Nat) : bj (x &&& y) i = (bj x i && bj y i) := by unfold bj; rw [Int64.toBitVec_and, BitVec.getLsbD_and]
theorem bj_not (x : Int64) {i : Nat} (hi : i < 64) : bj (x ^^^ (-1)) i = !bj x i := by
  unfold bj
  rw [Int64.toBitVec_xor, BitVec.getLsbD_xor]
  have : (-1 : Int64).toBitVec.getLsbD i = true := by
    have h : ∀ i, i < 64 → (-1 : Int64).toBitVec.getLsbD i = true := by decide +kernel
    exact h i hi
  rw [this]; simp
theorem sh_l : ∀ n : Nat, n < 64 → (((i32 n).toInt64 &&& 63).toBitVec.smod 64).toNat = n := by decide +kernel
theorem sh_u : ∀ n : Nat, n < 64 → (((i32 n).toInt64.toUInt64 &&& Int64.toUInt64 63).toBitVec % 64).toNat = n := by decide +kernel
theorem bj_shl (n : Nat) (hn : n < 64) (x : Int64) {i : Nat} (hi : i < 64) : bj (x <<< ((i32 n).toInt64 &&& 63)) i = (decide (n ≤ i) && bj x (i - n)) := by
  unfold bj
  rw [Int64.toBitVec_shiftLeft]
  show (x.toBitVec <<< (((i32 n).toInt64 &&& 63).toBitVec.smod 64).toNat).getLsbD i = _
  rw [sh_l n hn, BitVec.getLsbD_shiftLeft]
  rcases Nat.lt_or_ge i n with h | h
  · simp [h, Nat.not_le.mpr h]
  · simp [hi, h, Nat.not_lt.mpr h]
theorem bj_ushr (n : Nat) (hn : n < 64) (x : Int64) (i : Nat) : bj ((x.toUInt64 >>> ((i32 n).toInt64.toUInt64 &&& Int64.toUInt64 63)).toInt64) i = bj x (n + i) := by
  show (x.toUInt64 >>> ((i32 n).toInt64.toUInt64 &&& Int64.toUInt64 63)).toBitVec.getLsbD i = x.toUInt64.toBitVec.getLsbD (n + i)
  rw [UInt64.toBitVec_shiftRight]
  show (x.toUInt64.toBitVec >>> (((i32 n).toInt64.toUInt64 &&& Int64.toUInt64 63).toBitVec % 64).toNat).getLsbD i = _
  rw [sh_u n hn, BitVec.getLsbD_ushiftRight]
theorem bj_sshr (n : Nat) (hn : n < 64) (x : Int64) {i : Nat} (hi : i < 64) : bj (x >>> ((i32 n).toInt64 &&& 63)) i = if n + i < 64 then bj x (n + i) else bj x 63 := by
  unfold bj
  rw [Int64.toBitVec_shiftRight]
  show (x.toBitVec.sshiftRight (((i32 n).toInt64 &&& 63).toBitVec.smod 64).toNat).getLsbD i = _
  rw [sh_l n hn, BitVec.getLsbD_sshiftRight, BitVec.msb_eq_getLsbD_last]
  simp [hi]
theorem uJ_ushr (n : Nat) (hn : n < 64) (x : Int64) : uJ ((x.toUInt64 >>> ((i32 n).toInt64.toUInt64 &&& Int64.toUInt64 63)).toInt64) = uJ x / 2 ^ n := by
  show (x.toUInt64 >>> ((i32 n).toInt64.toUInt64 &&& Int64.toUInt64 63)).toBitVec.toNat = _
  rw [UInt64.toBitVec_shiftRight]
  show (x.toUInt64.toBitVec >>> (((i32 n).toInt64.toUInt64 &&& Int64.toUInt64 63).toBitVec % 64).toNat).toNat = _
  rw [sh_u n hn, BitVec.toNat_ushiftRight, Nat.shiftRight_eq_div_pow]
  rfl
theorem uJ_and (x y : Int64) : uJ (x &&& y) = uJ x &&& uJ y := by unfold uJ; rw [Int64.toBitVec_and, BitVec.toNat_and]
theorem uJ_add {x y : Int64} (h : uJ x + uJ y < 18446744073709551616) : uJ (x + y) = uJ x + uJ y := by
  unfold uJ at h ⊢
  rw [Int64.toBitVec_add, BitVec.toNat_add, Nat.mod_eq_of_lt h]
theorem uJ_sub {x y : Int64} (h : uJ y ≤ uJ x) : uJ (x - y) = uJ x - uJ y := by
  have hx := uJ_lt x
  unfold uJ at h hx ⊢
  rw [Int64.toBitVec_sub, BitVec.toNat_sub]
  omega
/-- how many of the first n -/
def cN (p : Nat → Bool) : Nat → Nat
  | 0 => 0
  | n + 1 => cN p n + if p n then 1 else 0
theorem cN_le (p : Nat → Bool) (n : Nat) : cN p n ≤ n := by
  induction n with
  | zero => exact Nat.le_refl _
  | succ n ih => simp only [cN]; split <;> omega
theorem cN_add (p : Nat → Bool) (a b : Nat) : cN p (a + b) = cN p a + cN (fun j => p (a + j)) b := by
  induction b with
  | zero => rfl
  | succ b ih => rw [← Nat.add_assoc]; simp only [cN]; omega
theorem cN_congr {p q : Nat → Bool} {n : Nat} (h : ∀ i, i < n → p i = q i) : cN p n = cN q n := by
  induction n with
  | zero => rfl
  | succ n ih => simp only [cN]; rw [ih (fun i hi => h i (by omega)), h n (by omega)]
theorem cN_lt {k n : Nat} (h : k ≤ n) : cN (fun i => decide (i < k)) n = k := by
  induction n with
  | zero => simp [cN]; omega
  | succ n ih =>
    simp only [cN]
    by_cases c : k ≤ n
    · rw [ih c]; simp; omega
    · have e : k = n + 1 := by omega
      subst e
      have : cN (fun i => decide (i < n + 1)) n = cN (fun i => decide (i < n)) n := cN_congr (fun i hi => by simp; omega)
      rw [this]
      have : ∀ m, m ≤ n → cN (fun i => decide (i < n)) m = m := by
        intro m
        induction m with
        | zero => intro _; rfl
        | succ m im => intro hm; simp only [cN]; rw [im (by omega)]; simp; omega
      rw [this n (Nat.le_refl _)]
      simp
/-- eight bytes -/
def vb : List Nat → Nat
  | [] => 0
  | d :: r => d + 256 * vb r
theorem and_by {a c : Nat} (b e : Nat) (ha : a < 256) (hc : c < 256) : (a + 256 * b) &&& (c + 256 * e) = (a &&& c) + 256 * (b &&& e) := by
  have hac : a &&& c < 256 := Nat.and_lt_two_pow (n := 8) a hc
  apply Nat.eq_of_testBit_eq
  intro j
  rw [Nat.testBit_and, Nat.add_comm a, Nat.add_comm c, Nat.add_comm (a &&& c)]
  rw [Nat.testBit_two_pow_mul_add (i := 8) b ha, Nat.testBit_two_pow_mul_add (i := 8) e hc, Nat.testBit_two_pow_mul_add (i := 8) (b &&& e) hac]
  by_cases h : j < 8 <;> simp [h, Nat.testBit_and]
theorem shr_by {d c : Nat} (k b e : Nat) (hk : k ≤ 8) (hd : d < 256) (hc : c < 2 ^ (8 - k)) : ((d + 256 * b) / 2 ^ k) &&& (c + 256 * e) = ((d / 2 ^ k) &&& c) + 256 * ((b / 2 ^ k) &&& e) := by
  have hc8 : c < 256 := Nat.lt_of_lt_of_le hc (Nat.pow_le_pow_right (by decide) (by omega : 8 - k ≤ 8))
  have hac : (d / 2 ^ k) &&& c < 256 := Nat.and_lt_two_pow (n := 8) _ hc8
  apply Nat.eq_of_testBit_eq
  intro j
  rw [Nat.testBit_and, Nat.testBit_div_two_pow, Nat.add_comm d, Nat.add_comm c, Nat.add_comm ((d / 2 ^ k) &&& c)]
  rw [Nat.testBit_two_pow_mul_add (i := 8) b hd, Nat.testBit_two_pow_mul_add (i := 8) e hc8, Nat.testBit_two_pow_mul_add (i := 8) _ hac]
  by_cases h : j < 8
  · simp only [h, if_true, Nat.testBit_and, Nat.testBit_div_two_pow]
    by_cases h2 : k + j < 8
    · rw [if_pos (by omega)]
    · have : c.testBit j = false := Nat.testBit_lt_two_pow (Nat.lt_of_lt_of_le hc (Nat.pow_le_pow_right (by decide) (by omega)))
      simp [this]
  · have e1 : ¬ (j + k < 8) := by omega
    have e2 : ¬ (k + j < 8) := by omega
    simp only [h, if_false, Nat.testBit_and, Nat.testBit_div_two_pow]
    first
      | rw [if_neg e1, show j + k - 8 = j - 8 + k by omega]
      | rw [if_neg e2, show k + j - 8 = k + (j - 8) by omega]
theorem and_vb : ∀ (l : List Nat) (c : Nat), (∀ d ∈ l, d < 256) → c < 256 → vb l &&& vb (l.map fun _ => c) = vb (l.map fun d => d &&& c)
  | [], c, _, _ => rfl
  | d :: r, c, h, hc => by
    simp only [vb, List.map_cons]
    rw [and_by _ _ (h d List.mem_cons_self) hc, and_vb r c (fun x hx => h x (List.mem_cons_of_mem _ hx)) hc]
theorem shr_vb : ∀ (l : List Nat) (c k : Nat), (∀ d ∈ l, d < 256) → k ≤ 8 → c < 2 ^ (8 - k) → (vb l / 2 ^ k) &&& vb (l.map fun _ => c) = vb (l.map fun d => (d / 2 ^ k) &&& c)
  | [], c, k, _, _, _ => by simp [vb]
  | d :: r, c, k, h, hk, hc => by
    simp only [vb, List.map_cons]
    rw [shr_by k _ _ hk (h d List.mem_cons_self) hc, shr_vb r c k (fun x hx => h x (List.mem_cons_of_mem _ hx)) hk hc]
theorem pc_8 : ∀ d, d < 256 → (d / 2 &&& 85) ≤ d ∧ (let a := d - (d / 2 &&& 85); let b := (a &&& 51) + (a / 4 &&& 51); a < 256 ∧ b % 16 ≤ 4 ∧ b / 16 ≤ 4 ∧ b % 16 + b / 16 = cN (fun j => d.testBit j) 8) := by decide +kernel
theorem pc_b {d : Nat} (h : d < 256) : ∃ a b : Nat, (d / 2 &&& 85) ≤ d ∧ a = d - (d / 2 &&& 85) ∧ b = (a &&& 51) + (a / 4 &&& 51) ∧ a < 256 ∧ b % 16 ≤ 4 ∧ b / 16 ≤ 4 ∧ b % 16 + b / 16 = cN (fun j => d.testBit j) 8 := by
  obtain ⟨h1, h2, h3, h4, h5⟩ := pc_8 d h
  exact ⟨_, _, h1, rfl, rfl, h2, h3, h4, h5⟩
theorem lo7 (x : Int64) : x.toInt32 &&& 127 = i32 ((uJ x % 128 : Nat) : Int) := by
  apply Int32.toBitVec_inj.mp
  apply BitVec.eq_of_toNat_eq
  have e : (i32 ((uJ x % 128 : Nat) : Int)).toBitVec = BitVec.ofNat 32 (uJ x % 128) := by
    show (Int32.ofInt ((uJ x % 128 : Nat) : Int)).toBitVec = _
    rw [Int32.ofInt_eq_ofNat]; rfl
  have e7 : (127 : Int32).toBitVec.toNat = 2 ^ 7 - 1 := by decide
  rw [e, Int32.toBitVec_and, BitVec.toNat_and, e7, Nat.and_two_pow_sub_one_eq_mod, BitVec.toNat_ofNat]
  show (x.toBitVec.signExtend 32).toNat % 2 ^ 7 = _
  rw [BitVec.signExtend_eq_setWidth_of_le _ (by decide), BitVec.toNat_setWidth]
  unfold uJ
  omega
theorem cN_by (n : Nat) (hn : n < 18446744073709551616) : cN (fun i => n.testBit i) 64 = cN (fun j => (n % 256).testBit j) 8 + (cN (fun j => (n / 256 % 256).testBit j) 8 + (cN (fun j => (n / 65536 % 256).testBit j) 8 + (cN (fun j => (n / 16777216 % 256).testBit j) 8 + (cN (fun j => (n / 4294967296 % 256).testBit j) 8 + (cN (fun j => (n / 1099511627776 % 256).testBit j) 8 + (cN (fun j => (n / 281474976710656 % 256).testBit j) 8 + cN (fun j => (n / 72057594037927936 % 256).testBit j) 8)))))) := by
  have key : ∀ k : Nat, cN (fun j => n.testBit (k + j)) 8 = cN (fun j => (n / 2 ^ k % 256).testBit j) 8 := fun k => cN_congr (fun j hj => by
    rw [show (256 : Nat) = 2 ^ 8 by decide, Nat.testBit_mod_two_pow, Nat.testBit_div_two_pow]
    simp only [hj, decide_true, Bool.true_and]
    first | rfl | rw [Nat.add_comm])
  rw [show (64 : Nat) = 8 + (8 + (8 + (8 + (8 + (8 + (8 + 8)))))) by decide]
  rw [cN_add, cN_add, cN_add, cN_add, cN_add, cN_add, cN_add]
  have k0 := key 0
  have k1 := key 8
  have k2 := key 16
  have k3 := key 24
  have k4 := key 32
  have k5 := key 40
  have k6 := key 48
  have k7 := key 56
  simp only [Nat.zero_add, Nat.pow_zero, Nat.div_one] at k0
  simp only [← Nat.add_assoc] at *
  simp only [Nat.reduceAdd, Nat.reducePow] at *
  rw [k0, k1, k2, k3, k4, k5, k6, k7]
set_option maxHeartbeats 4000000 in
theorem s_cnt {K : Rs → Mm → Prop} {M : Mm} {x : Int64} (h : K (.inl (some (.int (i32 (cN (bj x) 64 : Nat))))) M) : V_J13_bitCount_95d88 K M x := by
  have hn := uJ_lt x
  have hc : cN (bj x) 64 = cN (fun i => (uJ x).testBit i) 64 := rfl
  rw [hc, cN_by (uJ x) hn] at h
  obtain ⟨a0, b0, p0, q0, r0, s0, t0, u0, v0⟩ := pc_b (show uJ x % 256 < 256 by omega)
  obtain ⟨a1, b1, p1, q1, r1, s1, t1, u1, v1⟩ := pc_b (show uJ x / 256 % 256 < 256 by omega)
  obtain ⟨a2, b2, p2, q2, r2, s2, t2, u2, v2⟩ := pc_b (show uJ x / 65536 % 256 < 256 by omega)
  obtain ⟨a3, b3, p3, q3, r3, s3, t3, u3, v3⟩ := pc_b (show uJ x / 16777216 % 256 < 256 by omega)
  obtain ⟨a4, b4, p4, q4, r4, s4, t4, u4, v4⟩ := pc_b (show uJ x / 4294967296 % 256 < 256 by omega)
  obtain ⟨a5, b5, p5, q5, r5, s5, t5, u5, v5⟩ := pc_b (show uJ x / 1099511627776 % 256 < 256 by omega)
  obtain ⟨a6, b6, p6, q6, r6, s6, t6, u6, v6⟩ := pc_b (show uJ x / 281474976710656 % 256 < 256 by omega)
  obtain ⟨a7, b7, p7, q7, r7, s7, t7, u7, v7⟩ := pc_b (show uJ x / 72057594037927936 % 256 < 256 by omega)
  rw [← v0, ← v1, ← v2, ← v3, ← v4, ← v5, ← v6, ← v7] at h
  have hv : uJ x = vb [uJ x % 256, uJ x / 256 % 256, uJ x / 65536 % 256, uJ x / 16777216 % 256, uJ x / 4294967296 % 256, uJ x / 1099511627776 % 256, uJ x / 281474976710656 % 256, uJ x / 72057594037927936 % 256] := by
    simp only [vb]; omega
  have hand := shr_vb [uJ x % 256, uJ x / 256 % 256, uJ x / 65536 % 256, uJ x / 16777216 % 256, uJ x / 4294967296 % 256, uJ x / 1099511627776 % 256, uJ x / 281474976710656 % 256, uJ x / 72057594037927936 % 256] 85 1 (by simp only [List.mem_cons, List.not_mem_nil, or_false]; omega) (by decide) (by decide)
  rw [← hv] at hand
  intro x1 e1 x2 e2 x3 e3
  have f1 : uJ x1 = vb [a0, a1, a2, a3, a4, a5, a6, a7] := by
    have hm : uJ ((x.toUInt64 >>> (((1 : Int32)).toInt64.toUInt64 &&& Int64.toUInt64 63)).toInt64 &&& 6148914691236517205) = (uJ x / 2 ^ 1) &&& vb [85, 85, 85, 85, 85, 85, 85, 85] := by
      rw [uJ_and, q_1]
      exact congrArg₂ (· &&& ·) (uJ_ushr 1 (by decide) x) (by decide)
    rw [e1, uJ_sub, hm]
    · simp only [List.map_cons, List.map_nil] at hand
      rw [hand, q0, q1, q2, q3, q4, q5, q6, q7]
      simp only [vb, Nat.pow_one]
      omega
    · rw [hm]
      simp only [List.map_cons, List.map_nil] at hand
      rw [hand]
      simp only [vb, Nat.pow_one]
      omega
  have f2 : uJ x2 = vb [b0, b1, b2, b3, b4, b5, b6, b7] := by
    have hA := and_vb [a0, a1, a2, a3, a4, a5, a6, a7] 51 (by simp only [List.mem_cons, List.not_mem_nil, or_false]; omega) (by decide)
    have hB := shr_vb [a0, a1, a2, a3, a4, a5, a6, a7] 51 2 (by simp only [List.mem_cons, List.not_mem_nil, or_false]; omega) (by decide) (by decide)
    have h1 : uJ (x1 &&& 3689348814741910323) = vb [a0 &&& 51, a1 &&& 51, a2 &&& 51, a3 &&& 51, a4 &&& 51, a5 &&& 51, a6 &&& 51, a7 &&& 51] := by
      rw [uJ_and, f1]
      exact (congrArg (vb [a0, a1, a2, a3, a4, a5, a6, a7] &&& ·) (by decide : uJ 3689348814741910323 = vb [51, 51, 51, 51, 51, 51, 51, 51])).trans hA
    have h2 : uJ ((x1.toUInt64 >>> (((2 : Int32)).toInt64.toUInt64 &&& Int64.toUInt64 63)).toInt64 &&& 3689348814741910323) = vb [a0 / 4 &&& 51, a1 / 4 &&& 51, a2 / 4 &&& 51, a3 / 4 &&& 51, a4 / 4 &&& 51, a5 / 4 &&& 51, a6 / 4 &&& 51, a7 / 4 &&& 51] := by
      rw [uJ_and, q_2]
      have e9 : uJ ((x1.toUInt64 >>> ((i32 (2 : Nat)).toInt64.toUInt64 &&& Int64.toUInt64 63)).toInt64) = vb [a0, a1, a2, a3, a4, a5, a6, a7] / 2 ^ 2 := by rw [uJ_ushr 2 (by decide), f1]
      exact (congrArg₂ (· &&& ·) e9 (by decide : uJ 3689348814741910323 = vb [51, 51, 51, 51, 51, 51, 51, 51])).trans hB
    have hb : ∀ b : Nat, b % 16 ≤ 4 → b / 16 ≤ 4 → b ≤ 68 := fun b h1 h2 => by omega
    rw [e2, uJ_add, h1, h2, r0, r1, r2, r3, r4, r5, r6, r7]
    · simp only [vb]; omega
    · rw [h1, h2]
      have := hb b0 t0 u0
      have := hb b1 t1 u1
      have := hb b2 t2 u2
      have := hb b3 t3 u3
      have := hb b4 t4 u4
      have := hb b5 t5 u5
      have := hb b6 t6 u6
      have := hb b7 t7 u7
      simp only [vb]; omega
  clear hand hv e1 e2 f1
  have f3 : uJ ((x2 + (x2.toUInt64 >>> (((4 : Int32)).toInt64.toUInt64 &&& Int64.toUInt64 63)).toInt64) &&& 1085102592571150095) = vb [b0 % 16 + b0 / 16, b1 % 16 + b1 / 16, b2 % 16 + b2 / 16, b3 % 16 + b3 / 16, b4 % 16 + b4 / 16, b5 % 16 + b5 / 16, b6 % 16 + b6 / 16, b7 % 16 + b7 / 16] := by
    have h1 : uJ ((x2.toUInt64 >>> (((4 : Int32)).toInt64.toUInt64 &&& Int64.toUInt64 63)).toInt64) = uJ x2 / 16 := by rw [q_4]; exact uJ_ushr 4 (by decide) x2
    have h2 : uJ x2 + uJ x2 / 16 = vb [b0 + b0 / 16 + 16 * (b1 % 16), b1 + b1 / 16 + 16 * (b2 % 16), b2 + b2 / 16 + 16 * (b3 % 16), b3 + b3 / 16 + 16 * (b4 % 16), b4 + b4 / 16 + 16 * (b5 % 16), b5 + b5 / 16 + 16 * (b6 % 16), b6 + b6 / 16 + 16 * (b7 % 16), b7 + b7 / 16] := by
      rw [f2]; simp only [vb]; omega
    have h3 : uJ x2 + uJ x2 / 16 < 18446744073709551616 := by rw [h2]; simp only [vb]; omega
    have hA := and_vb [b0 + b0 / 16 + 16 * (b1 % 16), b1 + b1 / 16 + 16 * (b2 % 16), b2 + b2 / 16 + 16 * (b3 % 16), b3 + b3 / 16 + 16 * (b4 % 16), b4 + b4 / 16 + 16 * (b5 % 16), b5 + b5 / 16 + 16 * (b6 % 16), b6 + b6 / 16 + 16 * (b7 % 16), b7 + b7 / 16] 15 (by simp only [List.mem_cons, List.not_mem_nil, or_false]; omega) (by decide)
    have hm : ∀ n : Nat, n &&& 15 = n % 16 := fun n => Nat.and_two_pow_sub_one_eq_mod n 4
    rw [uJ_and, uJ_add (by rw [h1]; exact h3), h1, h2]
    refine (congrArg (_ &&& ·) (by decide : uJ 1085102592571150095 = vb [15, 15, 15, 15, 15, 15, 15, 15])).trans (hA.trans ?_)
    simp only [List.map_cons, List.map_nil, hm, vb]
    omega
  generalize hY : ((x2 + (x2.toUInt64 >>> (((4 : Int32)).toInt64.toUInt64 &&& Int64.toUInt64 63)).toInt64) &&& 1085102592571150095) = Y at e3 f3
  clear hY f2
  simp only [vb] at f3
  have g8 : uJ (Y + (Y.toUInt64 >>> (((8 : Int32)).toInt64.toUInt64 &&& Int64.toUInt64 63)).toInt64) = uJ Y + uJ Y / 256 := by
    have h1 : uJ ((Y.toUInt64 >>> (((8 : Int32)).toInt64.toUInt64 &&& Int64.toUInt64 63)).toInt64) = uJ Y / 256 := by rw [q_8]; exact uJ_ushr 8 (by decide) Y
    rw [uJ_add (by rw [h1]; omega), h1]
  generalize hZ : (Y + (Y.toUInt64 >>> (((8 : Int32)).toInt64.toUInt64 &&& Int64.toUInt64 63)).toInt64) = Z at e3 g8
  have g16 : uJ (Z + (Z.toUInt64 >>> (((16 : Int32)).toInt64.toUInt64 &&& Int64.toUInt64 63)).toInt64) = uJ Z + uJ Z / 65536 := by
    have h1 : uJ ((Z.toUInt64 >>> (((16 : Int32)).toInt64.toUInt64 &&& Int64.toUInt64 63)).toInt64) = uJ Z / 65536 := by rw [q_16]; exact uJ_ushr 16 (by decide) Z
    rw [uJ_add (by rw [h1]; omega), h1]
  generalize hX : (Z + (Z.toUInt64 >>> (((16 : Int32)).toInt64.toUInt64 &&& Int64.toUInt64 63)).toInt64) = X at e3 g16
  have g32 : uJ (X + (X.toUInt64 >>> (((32 : Int32)).toInt64.toUInt64 &&& Int64.toUInt64 63)).toInt64) = uJ X + uJ X / 4294967296 := by
    have h1 : uJ ((X.toUInt64 >>> (((32 : Int32)).toInt64.toUInt64 &&& Int64.toUInt64 63)).toInt64) = uJ X / 4294967296 := by rw [q_32]; exact uJ_ushr 32 (by decide) X
    rw [uJ_add (by rw [h1]; omega), h1]
  rw [lo7, e3, g32]
  have e9 : (uJ X + uJ X / 4294967296) % 128 = b0 % 16 + b0 / 16 + (b1 % 16 + b1 / 16 + (b2 % 16 + b2 / 16 + (b3 % 16 + b3 / 16 + (b4 % 16 + b4 / 16 + (b5 % 16 + b5 / 16 + (b6 % 16 + b6 / 16 + (b7 % 16 + b7 / 16))))))) := by omega
  rw [e9]
  exact h
