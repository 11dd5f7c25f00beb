/-! bitCount -/
def by8 (n : Nat) : Nat → List Nat
  | 0 => []
  | k + 1 => n % 256 :: by8 (n / 256) k
theorem by8_lt (n k : Nat) : ∀ d ∈ by8 n k, d < 256 := by
  induction k generalizing n with
  | zero => intro d hd; simp [by8] at hd
  | succ k ih =>
    intro d hd
    simp only [by8, List.mem_cons] at hd
    rcases hd with h | h
    · omega
    · exact ih _ d h
theorem vb_by8 (n k : Nat) (h : n < 256 ^ k) : vb (by8 n k) = n := by
  induction k generalizing n with
  | zero => simp at h; simp [by8, vb, h]
  | succ k ih =>
    rw [Nat.pow_succ] at h
    simp only [by8, vb]
    rw [ih (n / 256) (by omega)]
    omega
def suN (f : Nat → Nat) : List Nat → Nat
  | [] => 0
  | d :: r => f d + suN f r
theorem cN_by8 (n k : Nat) : cN (fun i => n.testBit i) (8 * k) = suN (fun d => cN (fun j => d.testBit j) 8) (by8 n k) := by
  induction k generalizing n with
  | zero => rfl
  | succ k ih =>
    rw [show 8 * (k + 1) = 8 + 8 * k by omega, cN_add]
    simp only [by8, suN]
    rw [← ih]
    congr 1
    · exact cN_congr (fun j hj => by
        rw [show (256 : Nat) = 2 ^ 8 by decide, Nat.testBit_mod_two_pow]
        simp [hj])
    · exact cN_congr (fun j hj => by
        rw [show (256 : Nat) = 2 ^ 8 by decide, Nat.testBit_div_two_pow]
        first | rfl | rw [Nat.add_comm])
theorem sub_vb : ∀ (l : List Nat) (g : Nat → Nat), (∀ d ∈ l, g d ≤ d) → vb (l.map g) ≤ vb l ∧ vb l - vb (l.map g) = vb (l.map fun d => d - g d)
  | [], g, _ => by simp [vb]
  | d :: r, g, h => by
    have h1 := h d List.mem_cons_self
    have h2 := sub_vb r g (fun x hx => h x (List.mem_cons_of_mem _ hx))
    simp only [vb, List.map_cons]
    omega
theorem add_vb : ∀ (l : List Nat) (f g : Nat → Nat), vb (l.map f) + vb (l.map g) = vb (l.map fun d => f d + g d)
  | [], f, g => by simp [vb]
  | d :: r, f, g => by
    have h2 := add_vb r f g
    simp only [vb, List.map_cons]
    omega
theorem vb_lt : ∀ (l : List Nat), (∀ d ∈ l, d < 256) → vb l < 256 ^ l.length
  | [], _ => by simp [vb]
  | d :: r, h => by
    have h1 := h d List.mem_cons_self
    have h2 := vb_lt r (fun x hx => h x (List.mem_cons_of_mem _ hx))
    simp only [vb, List.length_cons, Nat.pow_succ]
    omega
theorem vb_16 : ∀ (l : List Nat), (∀ d ∈ l, d % 16 ≤ 4) → vb l % 16 ≤ 4
  | [], _ => by simp [vb]
  | d :: r, h => by have h1 := h d List.mem_cons_self; simp only [vb]; omega
theorem nib_vb : ∀ (l : List Nat), (∀ d ∈ l, d % 16 ≤ 4 ∧ d / 16 ≤ 4) → (vb l + vb l / 16) &&& vb (l.map fun _ => 15) = vb (l.map fun d => d % 16 + d / 16)
  | [], _ => by simp [vb]
  | d :: r, h => by
    have h1 := h d List.mem_cons_self
    have h2 := nib_vb r (fun x hx => h x (List.mem_cons_of_mem _ hx))
    have h3 := vb_16 r (fun x hx => (h x (List.mem_cons_of_mem _ hx)).1)
    simp only [vb, List.map_cons]
    have e : d + 256 * vb r + (d + 256 * vb r) / 16 = (d + d / 16 + 16 * (vb r % 16)) + 256 * (vb r + vb r / 16) := by omega
    rw [e, and_by _ _ (by omega) (by decide), h2]
    have : (d + d / 16 + 16 * (vb r % 16)) &&& 15 = d % 16 + d / 16 := by
      rw [show (15 : Nat) = 2 ^ 4 - 1 by decide, Nat.and_two_pow_sub_one_eq_mod]
      omega
    rw [this]
theorem uJ_sum {x y : Int64} {n m : Nat} (hx : uJ x = n) (hy : uJ y = m) (h : n + m < 18446744073709551616) : uJ (x + y) = n + m := by
  rw [uJ_add (by omega), hx, hy]
theorem uJ_sh (n : Nat) (hn : n < 64) (x : Int64) (k : Int32) (hk : k = i32 n) : uJ ((x.toUInt64 >>> (k.toInt64.toUInt64 &&& Int64.toUInt64 63)).toInt64) = uJ x / 2 ^ n := by
  rw [hk]; exact uJ_ushr n hn x
/-- the counts of eight bytes are added up -/
theorem dv_of {w b Q X : Nat} (hw : w < b) (h : X = w + b * Q) : X / b = Q := by
  rw [h, Nat.add_mul_div_left _ _ (by omega), Nat.div_eq_of_lt hw, Nat.zero_add]
theorem f8z (c0 c1 c2 Y3 : Nat) : (c0 + 256 * (c1 + 256 * (c2 + 256 * Y3))) + (c1 + 256 * (c2 + 256 * Y3)) = (c0 + c1 + 256 * (c1 + c2)) + 65536 * ((c2 + 256 * Y3) + Y3) := by omega
theorem f8x (c0 c1 c2 c3 c4 c5 c6 Y7 : Nat) : (c0 + 256 * (c1 + 256 * (c2 + 256 * (c3 + 256 * (c4 + 256 * (c5 + 256 * (c6 + 256 * Y7))))))) + (c1 + 256 * (c2 + 256 * (c3 + 256 * (c4 + 256 * (c5 + 256 * (c6 + 256 * Y7)))))) + ((c2 + 256 * (c3 + 256 * (c4 + 256 * (c5 + 256 * (c6 + 256 * Y7))))) + (c3 + 256 * (c4 + 256 * (c5 + 256 * (c6 + 256 * Y7)))))
    = ((c0 + c1 + c2 + c3) + 256 * (c1 + c2 + c3 + c4) + 65536 * (c2 + c3 + c4 + c5) + 16777216 * (c3 + c4 + c5 + c6)) + 4294967296 * ((c4 + 256 * (c5 + 256 * (c6 + 256 * Y7))) + (c5 + 256 * (c6 + 256 * Y7)) + (c6 + 256 * Y7) + Y7) := by omega
theorem f8b {c Y : Nat} (B : Nat) (h : c ≤ 8) (hY : Y ≤ B) : c + 256 * Y ≤ 8 + 256 * B := by omega
theorem f8e {c0 c1 c2 c3 c4 c5 c6 c7 Y1 Y2 Y3 Y4 Y5 Y6 : Nat} (h0 : c0 ≤ 8) (h1 : c1 ≤ 8) (h2 : c2 ≤ 8) (h3 : c3 ≤ 8) (h4 : c4 ≤ 8) (h5 : c5 ≤ 8) (h6 : c6 ≤ 8) (h7 : c7 ≤ 8)
    (b6 : Y6 ≤ 8 + 256 * 8) (b5 : Y5 ≤ 8 + 256 * (8 + 256 * 8)) (b4 : Y4 ≤ 8 + 256 * (8 + 256 * (8 + 256 * 8))) (b3 : Y3 ≤ 8 + 256 * (8 + 256 * (8 + 256 * (8 + 256 * 8)))) (b2 : Y2 ≤ 8 + 256 * (8 + 256 * (8 + 256 * (8 + 256 * (8 + 256 * 8))))) (b1 : Y1 ≤ 8 + 256 * (8 + 256 * (8 + 256 * (8 + 256 * (8 + 256 * (8 + 256 * 8))))))
    (b0 : c0 + 256 * Y1 ≤ 8 + 256 * (8 + 256 * (8 + 256 * (8 + 256 * (8 + 256 * (8 + 256 * (8 + 256 * 8)))))))
    (e1 : Y1 = c1 + 256 * Y2) (e2 : Y2 = c2 + 256 * Y3) (e3 : Y3 = c3 + 256 * Y4) (e4 : Y4 = c4 + 256 * Y5) (e5 : Y5 = c5 + 256 * Y6) (e6 : Y6 = c6 + 256 * c7) :
    c0 + 256 * Y1 + Y1 < 18446744073709551616 ∧ c0 + 256 * Y1 + Y1 + (Y2 + Y3) < 18446744073709551616 ∧ c0 + 256 * Y1 + Y1 + (Y2 + Y3) + (Y4 + Y5 + Y6 + c7) < 18446744073709551616 ∧ (c0 + 256 * Y1 + Y1 + (Y2 + Y3) + (Y4 + Y5 + Y6 + c7)) % 128 = c0 + (c1 + (c2 + (c3 + (c4 + (c5 + (c6 + (c7 + 0))))))) := by
  refine ⟨?_, ?_, ?_, ?_⟩
  · clear e1 e2 e3 e4 e5 e6; omega
  · clear e1 e2 e3 e4 e5 e6; omega
  · clear e1 e2 e3 e4 e5 e6; omega
  · have : c0 + 256 * Y1 + Y1 + (Y2 + Y3) + (Y4 + Y5 + Y6 + c7) = (c0 + (c1 + (c2 + (c3 + (c4 + (c5 + (c6 + (c7 + 0)))))))) + 256 * (Y1 + Y2 + Y3 + Y4 + Y5 + Y6 + c7) := by
      clear b6 b5 b4 b3 b2 b1 b0 h0 h1 h2 h3 h4 h5 h6 h7
      omega
    rw [this]
    clear this b6 b5 b4 b3 b2 b1 b0 e1 e2 e3 e4 e5 e6
    generalize Y1 + Y2 + Y3 + Y4 + Y5 + Y6 + c7 = w
    omega
theorem fold8 {c0 c1 c2 c3 c4 c5 c6 c7 Y Z X : Nat} (h0 : c0 ≤ 8) (h1 : c1 ≤ 8) (h2 : c2 ≤ 8) (h3 : c3 ≤ 8) (h4 : c4 ≤ 8) (h5 : c5 ≤ 8) (h6 : c6 ≤ 8) (h7 : c7 ≤ 8)
    (hY : Y = vb [c0, c1, c2, c3, c4, c5, c6, c7]) (hZ : Z = Y + Y / 256) (hX : X = Z + Z / 65536) :
    Y + Y / 256 < 18446744073709551616 ∧ Z + Z / 65536 < 18446744073709551616 ∧ X + X / 4294967296 < 18446744073709551616 ∧ (X + X / 4294967296) % 128 = c0 + (c1 + (c2 + (c3 + (c4 + (c5 + (c6 + (c7 + 0))))))) := by
  have b6 := f8b 8 h6 h7
  have b5 := f8b _ h5 b6
  have b4 := f8b _ h4 b5
  have b3 := f8b _ h3 b4
  have b2 := f8b _ h2 b3
  have b1 := f8b _ h1 b2
  have b0 := f8b _ h0 b1
  have q1 : Y / 256 = c1 + 256 * (c2 + 256 * (c3 + 256 * (c4 + 256 * (c5 + 256 * (c6 + 256 * c7))))) := dv_of (w := c0) (by omega) (by rw [hY]; simp [vb])
  have e0 : Y = c0 + 256 * (c1 + 256 * (c2 + 256 * (c3 + 256 * (c4 + 256 * (c5 + 256 * (c6 + 256 * c7)))))) := by rw [hY]; simp [vb]
  rw [q1, e0, f8z] at hZ
  have q2 := dv_of (show c0 + c1 + 256 * (c1 + c2) < 65536 by clear b6 b5 b4 b3 b2 b1 b0 q1 e0 hZ hX hY; omega) hZ
  rw [q2, hZ, ← f8z] at hX
  have hX' := hX
  rw [f8x] at hX'
  have q3 := dv_of (show (c0 + c1 + c2 + c3) + 256 * (c1 + c2 + c3 + c4) + 65536 * (c2 + c3 + c4 + c5) + 16777216 * (c3 + c4 + c5 + c6) < 4294967296 by clear b6 b5 b4 b3 b2 b1 b0 q1 q2 e0 hZ hX hX' hY; omega) hX'
  rw [← f8z] at hZ
  rw [q1, q2, q3, hX, hZ, e0]
  clear q1 q2 q3 hX hX' hZ e0 hY
  exact f8e h0 h1 h2 h3 h4 h5 h6 h7 b6 b5 b4 b3 b2 b1 b0 rfl rfl rfl rfl rfl rfl
theorem l8 {l : List Nat} (h : l.length = 8) : ∃ c0 c1 c2 c3 c4 c5 c6 c7, l = [c0, c1, c2, c3, c4, c5, c6, c7] := by
  obtain _ | ⟨c0, l⟩ := l
  · simp at h
  obtain _ | ⟨c1, l⟩ := l
  · simp at h
  obtain _ | ⟨c2, l⟩ := l
  · simp at h
  obtain _ | ⟨c3, l⟩ := l
  · simp at h
  obtain _ | ⟨c4, l⟩ := l
  · simp at h
  obtain _ | ⟨c5, l⟩ := l
  · simp at h
  obtain _ | ⟨c6, l⟩ := l
  · simp at h
  obtain _ | ⟨c7, l⟩ := l
  · simp at h
  obtain _ | ⟨c8, l⟩ := l
  · exact ⟨_, _, _, _, _, _, _, _, rfl⟩
  · simp at h
def pA (d : Nat) : Nat := d - (d / 2 &&& 85)
def pB (d : Nat) : Nat := (pA d &&& 51) + (pA d / 4 &&& 51)
theorem p_8 : ∀ d, d < 256 → (d / 2 &&& 85) ≤ d ∧ pA d < 256 ∧ pB d % 16 ≤ 4 ∧ pB d / 16 ≤ 4 ∧ pB d < 256 ∧ pB d % 16 + pB d / 16 = cN (fun j => d.testBit j) 8 := by decide +kernel
theorem map8 {l : List Nat} (h : l.length = 8) (c : Nat) : l.map (fun _ => c) = [c, c, c, c, c, c, c, c] := by
  obtain ⟨c0, c1, c2, c3, c4, c5, c6, c7, rfl⟩ := l8 h
  rfl
theorem s_cnt {K : Rs → Mm → Prop} {M : Mm} {x : Int64} (h : K (.inl (some (.int (i32 (cN (bj x) 64 : Nat))))) M) : V_J13_bitCount_95d88 K M x := by
  have hn := uJ_lt x
  have hc : cN (bj x) 64 = suN (fun d => cN (fun j => d.testBit j) 8) (by8 (uJ x) 8) := cN_by8 (uJ x) 8
  have hv := vb_by8 (uJ x) 8 (by simpa using hn)
  have hl := by8_lt (uJ x) 8
  have hlen : (by8 (uJ x) 8).length = 8 := rfl
  rw [hc] at h
  generalize by8 (uJ x) 8 = l at h hv hl hlen
  intro x1 e1 x2 e2 x3 e3
  have f1 : uJ x1 = vb (l.map pA) := by
    have hm : uJ ((x.toUInt64 >>> (((1 : Int32)).toInt64.toUInt64 &&& Int64.toUInt64 63)).toInt64 &&& 6148914691236517205) = vb (l.map fun d => (d / 2 ^ 1) &&& 85) := by
      rw [uJ_and, uJ_sh 1 (by decide) x _ q_1, show uJ 6148914691236517205 = vb (l.map fun _ => 85) by rw [map8 hlen]; decide, ← hv]
      exact shr_vb l 85 1 hl (by decide) (by decide)
    have hs := sub_vb l (fun d => (d / 2 ^ 1) &&& 85) (fun d hd => (p_8 d (hl d hd)).1)
    rw [e1, uJ_sub (by rw [hm, ← hv]; exact hs.1), hm, ← hv, hs.2]
    rfl
  have f2 : uJ x2 = vb (l.map pB) := by
    have hl1 : ∀ d ∈ l.map pA, d < 256 := fun d hd => by
      obtain ⟨a, ha, rfl⟩ := List.mem_map.mp hd
      exact (p_8 a (hl a ha)).2.1
    have h1 : uJ (x1 &&& 3689348814741910323) = vb (l.map fun d => pA d &&& 51) := by
      rw [uJ_and, f1, show uJ 3689348814741910323 = vb ((l.map pA).map fun _ => 51) by rw [map8 (by simp [hlen])]; decide, and_vb _ 51 hl1 (by decide), List.map_map]
      rfl
    have h2 : uJ ((x1.toUInt64 >>> (((2 : Int32)).toInt64.toUInt64 &&& Int64.toUInt64 63)).toInt64 &&& 3689348814741910323) = vb (l.map fun d => pA d / 4 &&& 51) := by
      rw [uJ_and, uJ_sh 2 (by decide) x1 _ q_2, f1, show uJ 3689348814741910323 = vb ((l.map pA).map fun _ => 51) by rw [map8 (by simp [hlen])]; decide, shr_vb _ 51 2 hl1 (by decide) (by decide), List.map_map]
      rfl
    have h3 := add_vb l (fun d => pA d &&& 51) (fun d => pA d / 4 &&& 51)
    have h4 := vb_lt (l.map pB) (fun d hd => by
      obtain ⟨a, ha, rfl⟩ := List.mem_map.mp hd
      exact (p_8 a (hl a ha)).2.2.2.2.1)
    rw [List.length_map, hlen] at h4
    rw [e2, uJ_sum h1 h2 (by rw [h3]; exact Nat.lt_of_lt_of_le h4 (by decide)), h3]
    rfl
  have f3 : uJ ((x2 + (x2.toUInt64 >>> (((4 : Int32)).toInt64.toUInt64 &&& Int64.toUInt64 63)).toInt64) &&& 1085102592571150095) = vb (l.map fun d => cN (fun j => d.testBit j) 8) := by
    have h1 : uJ ((x2.toUInt64 >>> (((4 : Int32)).toInt64.toUInt64 &&& Int64.toUInt64 63)).toInt64) = uJ x2 / 16 := uJ_sh 4 (by decide) x2 _ q_4
    have hb : ∀ d ∈ l.map pB, d % 16 ≤ 4 ∧ d / 16 ≤ 4 := fun d hd => by
      obtain ⟨a, ha, rfl⟩ := List.mem_map.mp hd
      exact ⟨(p_8 a (hl a ha)).2.2.1, (p_8 a (hl a ha)).2.2.2.1⟩
    have h4 : uJ x2 ≤ 4919131752989213764 := by
      rw [f2]
      have : ∀ q : List Nat, (∀ d ∈ q, d % 16 ≤ 4 ∧ d / 16 ≤ 4) → vb q ≤ vb (q.map fun _ => 68) := by
        intro q
        induction q with
        | nil => intro _; exact Nat.le_refl _
        | cons d r ih =>
          intro hq
          have h1 := hq d List.mem_cons_self
          have h2 := ih (fun x hx => hq x (List.mem_cons_of_mem _ hx))
          simp only [vb, List.map_cons]
          omega
      refine Nat.le_trans (this _ hb) ?_
      rw [map8 (by simp [hlen])]
      decide
    rw [uJ_and, uJ_sum rfl h1 (by omega), f2, show uJ 1085102592571150095 = vb ((l.map pB).map fun _ => 15) by rw [map8 (by simp [hlen])]; decide, nib_vb _ hb, List.map_map]
    congr 1
    exact List.map_congr_left (fun d hd => (p_8 d (hl d hd)).2.2.2.2.2)
  generalize hY : ((x2 + (x2.toUInt64 >>> (((4 : Int32)).toInt64.toUInt64 &&& Int64.toUInt64 63)).toInt64) &&& 1085102592571150095) = Y at e3 f3
  clear hY f2 f1 e1 e2 hv hl
  obtain ⟨c0, c1, c2, c3, c4, c5, c6, c7, rfl⟩ := l8 hlen
  have g := fold8 (cN_le _ 8) (cN_le _ 8) (cN_le _ 8) (cN_le _ 8) (cN_le _ 8) (cN_le _ 8) (cN_le _ 8) (cN_le _ 8) f3 rfl rfl
  have g8 := uJ_sum (x := Y) rfl (uJ_sh 8 (by decide) Y (8 : Int32) q_8) g.1
  have g16 := uJ_sum g8 ((uJ_sh 16 (by decide) _ (16 : Int32) q_16).trans (congrArg (· / 2 ^ 16) g8)) g.2.1
  have g32 := uJ_sum g16 ((uJ_sh 32 (by decide) _ (32 : Int32) q_32).trans (congrArg (· / 2 ^ 32) g16)) g.2.2.1
  rw [lo7, e3, g32]
  have g9 := g.2.2.2
  simp only [suN] at h
  rw [show (2 : Nat) ^ 8 = 256 by decide, show (2 : Nat) ^ 16 = 65536 by decide, show (2 : Nat) ^ 32 = 4294967296 by decide, g9]
  exact h
