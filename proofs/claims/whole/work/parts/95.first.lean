/-! the first state -/
def posM : List (Nat × Nat) := [(1, 148), (2, 149), (3, 150), (4, 151), (10, 152), (16, 153), (17, 154), (26, 155), (27, 156), (28, 157), (29, 158), (30, 159), (31, 160), (32, 161), (33, 162), (34, 163), (35, 164), (36, 165), (37, 166), (38, 167), (39, 168), (40, 169), (41, 170), (42, 171), (43, 172), (44, 173), (46, 174), (47, 175), (48, 176), (56, 177), (57, 178), (58, 179), (59, 180)]
def posN (i : Nat) : Option Nat := if i ≤ 5 then some i else if i ≤ 10 then some (i + 4) else if i = 11 then some 147 else if i = 12 then some 181 else if 20 ≤ i ∧ i < 32 then some (i - 5) else if 40 ≤ i ∧ i < 160 ∧ i % 10 ≤ 6 then some (i - 13) else if 200 ≤ i ∧ i < 260 then blu posM (i - 200) else none
def invM : List (Nat × Nat) := posM.map (fun q => (q.2, q.1))
def invN (n : Nat) : Nat := if n ≤ 5 then n else if n ≤ 14 then n - 4 else if n < 27 then n + 5 else if n < 147 then n + 13 else if n = 147 then 11 else if n = 181 then 12 else 200 + (blu invM n).getD 0
set_option maxRecDepth 16384 in
theorem posN_t : ∀ i, i < 260 → (posN i).all (fun n => Nat.beq (invN n) i && Nat.blt n 182) = true := by decide +kernel
theorem posN_v {i n : Nat} (h : posN i = some n) : invN n = i ∧ n < 182 := by
  by_cases c : i < 260
  · have := posN_t i c
    rw [h] at this
    have t : (Nat.beq (invN n) i && Nat.blt n 182) = true := this
    rw [Bool.and_eq_true] at t
    exact ⟨Nat.eq_of_beq_eq_true t.1, Nat.blt_eq.mp t.2⟩
  · exfalso
    unfold posN at h
    rw [if_neg (by omega), if_neg (by omega), if_neg (by omega), if_neg (by omega), if_neg (by omega), if_neg (by omega), if_neg (by omega)] at h
    cases h
def mxL : List Nat → Nat
  | [] => 0
  | a :: l => max a (mxL l)
theorem mxL_le : ∀ (l : List Nat) (a : Nat), a ∈ l → a ≤ mxL l
  | [], a, h => by cases h
  | b :: l, a, h => by
    unfold mxL
    rcases List.mem_cons.mp h with c | c
    · rw [c]; exact Nat.le_max_left _ _
    · exact Nat.le_trans (mxL_le l a c) (Nat.le_max_right _ _)
def A0 (M : Mm) (i : Nat) : Nat := match posN i with
  | some n => adM M n
  | none => mxL (mL M) + 1 + i
theorem A0_e {M : Mm} {i n : Nat} (h : posN i = some n) : A0 M i = adM M n := by unfold A0; rw [h]
theorem A0_n {M : Mm} {i : Nat} (h : posN i = none) : A0 M i = mxL (mL M) + 1 + i := by unfold A0; rw [h]
set_option maxRecDepth 16384 in
theorem A0_inj {M : Mm} (R : Rep M am_o) (i j : Nat) (e : A0 M i = A0 M j) : i = j := by
  have len : (mL M).length = 182 := R.2.1
  have le : ∀ n, n < 182 → adM M n ≤ mxL (mL M) := fun n hn => mxL_le _ _ (adM_in (by rw [len]; exact hn))
  cases hi : posN i with
  | none =>
    rw [A0_n hi] at e
    cases hj : posN j with
    | none => rw [A0_n hj] at e; omega
    | some m => rw [A0_e hj] at e; have := le m (posN_v hj).2; omega
  | some n =>
    rw [A0_e hi] at e
    have hn := posN_v hi
    cases hj : posN j with
    | none => rw [A0_n hj] at e; have := le n hn.2; omega
    | some m =>
      rw [A0_e hj] at e
      have hm := posN_v hj
      have := adM_inj R.1 (by rw [len]; exact hn.2) (by rw [len]; exact hm.2) e
      rw [← hn.1, ← hm.1, this]
theorem A0_ob {M : Mm} (R : Rep M am_o) {i n c : Nat} (h : posN i = some n) (hc : bkd am_o n = c) : ob M (A0 M i) c := R.ob (j := n) ⟨by rw [show (mL M).length = 182 from R.2.1]; exact (posN_v h).2, (A0_e h).symm⟩ hc
theorem A0_N {M : Mm} (R : Rep M am_o) {i n c : Nat} (h : posN i = some n) (hc : bln am_o n = c) : mN M (A0 M i) = c := by
  rw [A0_e h]; exact ((R.2.2 n (posN_v h).2).2.1).trans hc
theorem A0_P {M : Mm} (R : Rep M am_o) {i n p j q : Nat} (h : posN i = some n) (hp : blu (bpt am_o n) p = some q) (hj : posN j = some q) : mP M (A0 M i) p = some (A0 M j) := by
  rw [A0_e h, A0_e hj, (R.2.2 n (posN_v h).2).2.2.1 p, hp]; rfl
theorem A0_I {M : Mm} (R : Rep M am_o) {i n p : Nat} {v : Int32} (h : posN i = some n) (hp : (blu (bit am_o n) p).getD 0 = v) : mI M (A0 M i) p = v := by
  rw [A0_e h, (R.2.2 n (posN_v h).2).2.2.2.1 p, hp]
theorem A0_Z {M : Mm} (R : Rep M am_o) {i n : Nat} (h : posN i = some n) (hp : (bit am_o n).isEmpty = true) (p : Nat) : mI M (A0 M i) p = 0 := by
  refine A0_I R h ?_
  rw [List.isEmpty_iff.mp hp]; rfl
set_option maxRecDepth 16384 in
theorem tab_z : ∀ z, z < 4 → (posN (20 + 3 * z) = some (15 + 3 * z) ∧ posN (21 + 3 * z) = some (16 + 3 * z) ∧ posN (22 + 3 * z) = some (17 + 3 * z)) ∧ (bkd am_o (15 + 3 * z) = 5 ∧ bkd am_o (16 + 3 * z) = 9 ∧ bkd am_o (17 + 3 * z) = 9) ∧ (bln am_o (16 + 3 * z) = 21 ∧ bln am_o (17 + 3 * z) = 21) ∧ (blu (bpt am_o (15 + 3 * z)) 0 = some (16 + 3 * z) ∧ blu (bpt am_o (15 + 3 * z)) 1 = some (17 + 3 * z) ∧ blu (bpt am_o 2) z = some (15 + 3 * z)) ∧ ((bit am_o (15 + 3 * z)).isEmpty = true ∧ (bit am_o (16 + 3 * z)).isEmpty = true ∧ (bit am_o (17 + 3 * z)).isEmpty = true) := by decide +kernel
set_option maxRecDepth 16384 in
theorem tab_o1 : ∀ k, k < 12 → (posN (40 + 10 * k) = some (27 + 10 * k) ∧ posN (41 + 10 * k) = some (28 + 10 * k) ∧ posN (42 + 10 * k) = some (29 + 10 * k) ∧ posN (43 + 10 * k) = some (30 + 10 * k) ∧ posN (44 + 10 * k) = some (31 + 10 * k) ∧ posN (45 + 10 * k) = some (32 + 10 * k) ∧ posN (46 + 10 * k) = some (33 + 10 * k)) := by decide +kernel
set_option maxRecDepth 16384 in
theorem tab_o2 : ∀ k, k < 12 → (bkd am_o (27 + 10 * k) = 2 ∧ bkd am_o (28 + 10 * k) = 3 ∧ bkd am_o (29 + 10 * k) = 0 ∧ bkd am_o (30 + 10 * k) = 10 ∧ bkd am_o (31 + 10 * k) = 10 ∧ bkd am_o (32 + 10 * k) = 9 ∧ bkd am_o (33 + 10 * k) = 9) := by decide +kernel
set_option maxRecDepth 16384 in
theorem tab_o3 : ∀ k, k < 12 → (bln am_o (30 + 10 * k) = 5 ∧ bln am_o (31 + 10 * k) = 5 ∧ bln am_o (32 + 10 * k) = 8 ∧ bln am_o (33 + 10 * k) = 8) := by decide +kernel
set_option maxRecDepth 16384 in
theorem tab_o4 : ∀ k, k < 12 → (blu (bpt am_o (27 + 10 * k)) 1 = some (28 + 10 * k) ∧ blu (bpt am_o (27 + 10 * k)) 2 = some (32 + 10 * k) ∧ blu (bpt am_o (27 + 10 * k)) 3 = some (33 + 10 * k) ∧ blu (bpt am_o (28 + 10 * k)) 0 = some (29 + 10 * k) ∧ blu (bpt am_o (28 + 10 * k)) 1 = some (30 + 10 * k) ∧ blu (bpt am_o (28 + 10 * k)) 2 = some (31 + 10 * k) ∧ blu (bpt am_o 3) k = some (27 + 10 * k)) := by decide +kernel
set_option maxRecDepth 16384 in
theorem tab_o (k : Nat) (hk : k < 12) : (posN (40 + 10 * k) = some (27 + 10 * k) ∧ posN (41 + 10 * k) = some (28 + 10 * k) ∧ posN (42 + 10 * k) = some (29 + 10 * k) ∧ posN (43 + 10 * k) = some (30 + 10 * k) ∧ posN (44 + 10 * k) = some (31 + 10 * k) ∧ posN (45 + 10 * k) = some (32 + 10 * k) ∧ posN (46 + 10 * k) = some (33 + 10 * k)) ∧ (bkd am_o (27 + 10 * k) = 2 ∧ bkd am_o (28 + 10 * k) = 3 ∧ bkd am_o (29 + 10 * k) = 0 ∧ bkd am_o (30 + 10 * k) = 10 ∧ bkd am_o (31 + 10 * k) = 10 ∧ bkd am_o (32 + 10 * k) = 9 ∧ bkd am_o (33 + 10 * k) = 9) ∧ (bln am_o (30 + 10 * k) = 5 ∧ bln am_o (31 + 10 * k) = 5 ∧ bln am_o (32 + 10 * k) = 8 ∧ bln am_o (33 + 10 * k) = 8) ∧ (blu (bpt am_o (27 + 10 * k)) 1 = some (28 + 10 * k) ∧ blu (bpt am_o (27 + 10 * k)) 2 = some (32 + 10 * k) ∧ blu (bpt am_o (27 + 10 * k)) 3 = some (33 + 10 * k) ∧ blu (bpt am_o (28 + 10 * k)) 0 = some (29 + 10 * k) ∧ blu (bpt am_o (28 + 10 * k)) 1 = some (30 + 10 * k) ∧ blu (bpt am_o (28 + 10 * k)) 2 = some (31 + 10 * k) ∧ blu (bpt am_o 3) k = some (27 + 10 * k)) := ⟨tab_o1 k hk, tab_o2 k hk, tab_o3 k hk, tab_o4 k hk⟩
set_option maxRecDepth 16384 in
theorem tab_i : ∀ k, k < 12 → (blu (bit am_o (27 + 10 * k)) 0).getD 0 = Int32.ofNat k ∧ (blu (bit am_o (27 + 10 * k)) 4).getD 0 = 0 ∧ (blu (bit am_o (27 + 10 * k)) 9).getD 0 = 0 ∧ (blu (bit am_o (27 + 10 * k)) 10).getD 0 = 0 ∧ (blu (bit am_o (27 + 10 * k)) 11).getD 0 = 0 ∧ (blu (bit am_o (27 + 10 * k)) 12).getD 0 = 0 ∧ (blu (bit am_o (27 + 10 * k)) 14).getD 0 = 0 ∧ (blu (bit am_o (27 + 10 * k)) 15).getD 0 = 0 := by decide +kernel
set_option maxRecDepth 16384 in
theorem tab_m : ∀ q ∈ mPl, (posN (200 + q.1)).isSome = true ∧ blu (bpt am_o 147) q.1 = posN (200 + q.1) ∧ (posN (200 + q.1)).all (fun n => Nat.beq (bkd am_o n) q.2.1 && Nat.beq (bln am_o n) q.2.2 && (bit am_o n).isEmpty) = true := by decide +kernel
set_option maxRecDepth 16384 in
theorem tab_g : ∀ j, j < 4 → posN (7 + j) = some (11 + j) ∧ blu (bpt am_o 10) j = some (11 + j) ∧ bkd am_o (11 + j) = 9 ∧ bln am_o (11 + j) = 300 := by decide +kernel
set_option maxRecDepth 16384 in
theorem A0_m {M : Mm} (R : Rep M am_o) {p c n : Nat} (h : (p, c, n) ∈ mPl) : mP M (A0 M 11) p = some (A0 M (200 + p)) ∧ ob M (A0 M (200 + p)) c ∧ mN M (A0 M (200 + p)) = n ∧ ∀ x, mI M (A0 M (200 + p)) x = 0 := by
  obtain ⟨t1, t2, t3⟩ := tab_m _ h
  cases hp : posN (200 + p) with
  | none => exfalso; have t1' : (posN (200 + p)).isSome = true := t1; rw [hp] at t1'; exact absurd t1' (by decide)
  | some m =>
    have t2' : blu (bpt am_o 147) p = posN (200 + p) := t2
    have t3' : (posN (200 + p)).all (fun k => Nat.beq (bkd am_o k) c && Nat.beq (bln am_o k) n && (bit am_o k).isEmpty) = true := t3
    rw [hp] at t2' t3'
    have t4 : (Nat.beq (bkd am_o m) c && Nat.beq (bln am_o m) n && (bit am_o m).isEmpty) = true := t3'
    rw [Bool.and_eq_true, Bool.and_eq_true] at t4
    exact ⟨A0_P R (n := 147) rfl t2' hp, A0_ob R hp (Nat.eq_of_beq_eq_true t4.1.1), A0_N R hp (Nat.eq_of_beq_eq_true t4.1.2), A0_Z R hp t4.2⟩
set_option maxRecDepth 16384 in
theorem A0_sta {M : Mm} (R : Rep M am_o) : Sta (A0 M) M := by
  refine ⟨A0_inj R, ⟨A0_ob R (n := 0) rfl rfl, ⟨A0_P R (n := 0) (q := 1) rfl rfl rfl, A0_P R (n := 0) (q := 2) rfl rfl rfl, A0_P R (n := 0) (q := 3) rfl rfl rfl, A0_P R (n := 0) (q := 4) rfl rfl rfl, A0_P R (n := 0) (q := 10) rfl rfl rfl⟩, A0_ob R (n := 1) rfl rfl, ⟨A0_ob R (n := 2) rfl rfl, A0_N R (n := 2) rfl rfl⟩, ⟨A0_ob R (n := 3) rfl rfl, A0_N R (n := 3) rfl rfl⟩, ⟨A0_ob R (n := 4) rfl rfl, A0_P R (n := 4) (q := 5) rfl rfl rfl, A0_ob R (n := 5) rfl rfl, A0_N R (n := 5) rfl rfl⟩, A0_ob R (n := 10) rfl rfl, fun j hj => ?_⟩, fun z hz => ?_, fun k hk => ?_, ⟨A0_ob R (n := 147) rfl rfl, fun q hq => ?_⟩, A0_ob R (n := 181) rfl rfl, A0_N R (n := 181) rfl rfl⟩
  · obtain ⟨t1, t2, t3, t4⟩ := tab_g j hj
    exact ⟨A0_P R (n := 10) rfl t2 t1, A0_ob R t1 t3, A0_N R t1 t4⟩
  · obtain ⟨⟨t1, t2, t3⟩, ⟨k1, k2, k3⟩, ⟨n2, n3⟩, ⟨p1, p2, p3⟩, _⟩ := tab_z z hz
    exact ⟨A0_ob R t1 k1, A0_ob R t2 k2, A0_ob R t3 k3, A0_P R t1 p1 t2, A0_P R t1 p2 t3, A0_N R t2 n2, A0_N R t3 n3, A0_P R (n := 2) rfl p3 t1⟩
  · obtain ⟨⟨t0, t1, t2, t3, t4, t5, t6⟩, ⟨k0, k1, k2, k3, k4, k5, k6⟩, ⟨n3, n4, n5, n6⟩, ⟨p1, p2, p3, p4, p5, p6, p7⟩⟩ := tab_o k hk
    exact ⟨A0_ob R t0 k0, A0_P R t0 p1 t1, A0_P R t0 p2 t5, A0_P R t0 p3 t6, A0_ob R t5 k5, A0_ob R t6 k6, A0_N R t5 n5, A0_N R t6 n6, ⟨fun c => by have := A0_inj R _ _ c; omega, A0_ob R t1 k1, A0_ob R t2 k2, A0_ob R t3 k3, A0_ob R t4 k4, A0_P R t1 p4 t2, A0_P R t1 p5 t3, A0_P R t1 p6 t4, A0_N R t3 n3, A0_N R t4 n4⟩, A0_P R (n := 3) rfl p7 t0⟩
  · obtain ⟨p, c, n⟩ := q
    obtain ⟨m1, m2, m3, m4⟩ := A0_m R hq
    exact ⟨m1, m2, m3, fun c => by have := A0_inj R _ _ c; omega⟩
def S0 : St := ((fun _ => false, fun _ => 0, fun _ => ruOf ct0, fun _ => zo0 0, fun _ _ => false, fun _ => 0, fun _ => 0), fun _ => 0, fun _ => 0, (fun _ => [], fun _ => none, fun _ => 0, fun _ => 0, 0, fun _ => (0, 0, 0, 0)), 0, 0, true, fun _ => -1, 0, 0)
theorem S0_sp : SP S0 0 := by
  refine ⟨fun k _ => ?_, fun k _ hu => ?_, fun k _ hu => ?_, ⟨fun k _ => ?_, fun k _ w hw => ?_, fun k _ => ?_, fun k _ _ => ⟨rfl, rfl⟩, fun k _ q hq => ?_, ?_⟩, fun _ k _ q hq => ?_, ?_, ?_, fun z _ => zo0_wf (by decide), ⟨Nat.zero_le _, fun _ _ => rfl, fun i hi => absurd hi (Nat.not_lt_zero _)⟩, ?_⟩
  · show (0 : Int) ≤ 0 ∧ (0 : Int) ≤ 10000; omega
  · have : false = true := hu; exact absurd this (by decide)
  · have : false = true := hu; exact absurd this (by decide)
  · show ([] : List (Int × Int)).length ≤ 8; decide
  · have : none = some w := hw; cases this
  · exact List.Pairwise.nil
  · have : q ∈ ([] : List (Int × Int)) := hq; cases this
  · show (0 : Int) ≤ 0; omega
  · have : q ∈ ([] : List (Int × Int)) := hq; cases this
  · show (0 : Int) ≤ 0 ∧ (0 : Int) ≤ 157785119; omega
  · exact ⟨by show (0 : Int) ≤ 0; omega, by show (0 : Int) ≤ 157785119; omega, fun c => by have : true = false := c; exact absurd this (by decide)⟩
  · show (0 : Int) ≤ 0; omega
theorem i32_of_nat (k : Nat) : Int32.ofNat k = i32 (k : Nat) := by unfold i32; exact Int32.ofInt_eq_ofNat.symm
set_option maxRecDepth 16384 in
theorem S0_rc {M : Mm} (R : Rep M am_o) : RC (A0 M) M S0 := by
  have hf : ∀ k, ¬ cfU (stC S0) k = true := fun k hu => by have : false = true := hu; exact absurd this (by decide)
  have z0 : (0 : Int32) = i32 0 := by decide
  refine ⟨⟨A0_sta R, ⟨⟨?_, ?_, fun i _ hi => ?_⟩, fun k hk => ?_⟩, fun k hk => ?_, ?_, fun k hk => ⟨?_, fun hu => absurd hu (hf k)⟩⟩, fun k _ hu => absurd hu (hf k), fun z hz => ?_, ?_, ?_, ?_, fun i hi => ?_, ?_, fun k _ hu => absurd hu (hf k)⟩
  · exact (A0_Z R (n := 10) rfl rfl 4).trans z0
  · show (0 : Int) ≤ 0 ∧ (0 : Int) ≤ 2000000000; omega
  · have : (i : Int) < 0 := hi; omega
  · obtain ⟨i0, i4, i9, i10, i11, i12, i14, i15⟩ := tab_i k hk
    have t0 := (tab_o k hk).1.1
    exact ⟨(A0_I R t0 i11).trans z0, by show ([] : List (Int × Int)).length ≤ 8; decide, fun i hi => absurd hi (Nat.not_lt_zero _), A0_I R t0 i12, fun v hv => (by have : none = some v := hv; cases this), A0_I R t0 i14, A0_I R t0 i15⟩
  · obtain ⟨i0, i4, i9, i10, i11, i12, i14, i15⟩ := tab_i k hk
    have t0 := (tab_o k hk).1.1
    exact ⟨(A0_I R t0 i0).trans (i32_of_nat k), (A0_I R t0 i9).trans z0, (A0_I R t0 i10).trans z0, by show (0 : Int) ≤ 0 ∧ (0 : Int) ≤ 2; omega, by show (0 : Int) ≤ 0 ∧ (0 : Int) ≤ 10000; omega⟩
  · exact (A0_I R (n := 0) (p := 6) (v := 0) rfl rfl).trans z0
  · exact A0_I R (tab_o k hk).1.1 (tab_i k hk).2.1
  · obtain ⟨⟨t1, t2, t3⟩, ⟨k1, k2, k3⟩, ⟨n2, n3⟩, ⟨p1, p2, p3⟩, ⟨b1, b2, b3⟩⟩ := tab_z z hz
    exact ⟨A0_ob R t1 k1, A0_ob R t2 k2, A0_ob R t3 k3, A0_P R t1 p1 t2, A0_P R t1 p2 t3, A0_N R t2 n2, A0_N R t3 n3, (A0_Z R t1 b1 2).trans z0, fun k _ => (A0_Z R t2 b2 k).trans z0, fun k _ => (A0_Z R t3 b3 k).trans z0⟩
  · exact (A0_I R (n := 0) (p := 7) (v := 0) rfl rfl).trans z0
  · exact A0_I R (n := 0) (p := 8) (v := 1) rfl rfl
  · exact (A0_Z R (n := 4) rfl rfl 1).trans z0
  · exact absurd hi (Nat.not_lt_zero _)
  · exact A0_I R (n := 0) (p := 5) (v := 0) rfl rfl
set_option maxRecDepth 16384 in
theorem S0_rm {M : Mm} (R : Rep M am_o) : RM (A0 M) M S0 := by
  have hf : ∀ k, ¬ cfU (stC S0) k = true := fun k hu => by have : false = true := hu; exact absurd this (by decide)
  have z0 : (0 : Int32) = i32 0 := by decide
  refine ⟨⟨A0_sta R, ⟨[], ⟨?_, ?_, fun i _ hi => ?_⟩, ⟨?_, fun i hi => absurd hi (Nat.not_lt_zero _)⟩, ⟨fun q hq => (by cases hq), fun k _ => rfl⟩, fun k hk => ⟨fun hu => absurd hu (hf k), ?_, ?_⟩⟩, fun k hk => ⟨?_, ?_, ?_, ?_⟩, ?_, fun k hk => ⟨?_, fun hu => absurd hu (hf k)⟩⟩, fun k _ hu => absurd hu (hf k), fun z hz => ⟨?_, ?_, fun j h1 h2 => ?_⟩, ?_, ?_, ?_, fun i hi => absurd hi (Nat.not_lt_zero _), ?_⟩
  · exact (A0_I R (n := 147) (p := 55) (v := 0) rfl rfl).trans z0
  · show (0 : Int) ≤ 0 ∧ (0 : Int) ≤ 2000000000; omega
  · have : (i : Int) < 0 := hi; omega
  · exact (A0_I R (n := 147) (p := 45) (v := 0) rfl rfl).trans z0
  · exact (A0_m R (p := 42) (c := 9) (n := 12) (by decide)).2.2.2 k
  · exact (A0_m R (p := 43) (c := 9) (n := 12) (by decide)).2.2.2 k
  · exact ((A0_m R (p := 30) (c := 9) (n := 12) (by decide)).2.2.2 k).trans z0
  · exact ((A0_m R (p := 31) (c := 9) (n := 12) (by decide)).2.2.2 k).trans z0
  · show (0 : Int) ≤ 0 ∧ (0 : Int) ≤ 2; omega
  · show (0 : Int) ≤ 0 ∧ (0 : Int) ≤ 10000; omega
  · exact (A0_I R (n := 147) (p := 52) (v := 0) rfl rfl).trans z0
  · exact (A0_m R (p := 26) (c := 11) (n := 12) (by decide)).2.2.2 k
  · exact ((A0_m R (p := 2) (c := 9) (n := 4) (by decide)).2.2.2 z).trans z0
  · exact ((A0_m R (p := 1) (c := 9) (n := 4) (by decide)).2.2.2 z).trans z0
  · have : j ≤ 0 := h2; omega
  · exact (A0_I R (n := 147) (p := 54) (v := 0) rfl rfl).trans z0
  · exact A0_I R (n := 147) (p := 53) (v := 0) rfl rfl
  · exact (A0_I R (n := 147) (p := 11) (v := 0) rfl rfl).trans z0
  · exact A0_I R (n := 147) (p := 15) (v := 0) rfl rfl
