/-! civil minutes -/
def mb (b : Int → Bool) (r : Ru) (s : Int) : Bool := b (s / 1440) && tm r (s % 1440).toNat
theorem mb_day {b : Int → Bool} {r : Ru} {s D : Int} (h : s / 1440 = D) : mb b r s = (b D && tm r (s - 1440 * D).toNat) := by
  unfold mb
  rw [h, show s % 1440 = s - 1440 * D by omega]
theorem tm_some {r : Ru} (hw : wfT r) : ∃ t : Nat, t < 1440 ∧ tm r t = true := by
  obtain ⟨w0, w1, ⟨i0, w2⟩, ⟨i1, w3⟩⟩ := hw
  have h60 : i0 < 60 := by
    by_cases c : i0 < 60
    · exact c
    · rw [w0 i0 (by omega)] at w2; exact absurd w2 (by decide)
  have h24 : i1 < 24 := by
    by_cases c : i1 < 24
    · exact c
    · rw [w1 i1 (by omega)] at w3; exact absurd w3 (by decide)
  exact ⟨i1 * 60 + i0, by omega, by rw [tm_hm h60, w3, w2]; rfl⟩
theorem s_fI61 {K : Rs → Mm → Prop} {M : Mm} {hi v t : Int} (hh : -10000 ≤ hi ∧ hi ≤ 200000000) (hv : v = -1000000000 ∨ (-1000 ≤ v ∧ v ≤ 120000)) (ht : -1 ≤ t ∧ t < 1440)
    (h : ∀ w, (w = -1000000000 ∧ (v = -1000000000 ∨ hi < v * 1440 + t)) ∨ (w = v * 1440 + t ∧ v ≠ -1000000000 ∧ w ≤ hi) → K (.inl (some (.int (i32 w)))) M) : V_X3_firstIn_61 K M (i32 hi) (i32 v) (i32 t) := by
  unfold V_X3_firstIn_61 V_X3_firstIn_83 V_X3_firstIn_90
  intro x1 e1
  rw [q_1440, i32_mul, i32_add] at e1
  subst e1
  rw [show (-1000000000 : Int32) = i32 (-1000000000) by decide]
  rcases hv with hv | hv
  · subst hv
    refine ⟨fun _ => h _ (.inl ⟨rfl, .inl rfl⟩), fun q => absurd rfl q⟩
  · rw [i32_eq (by omega) (by omega) (by omega) (by omega), i32_le (by omega) (by omega) (by omega) (by omega)]
    refine ⟨fun q => absurd q (by omega), fun _ => ⟨fun q => h _ (.inr ⟨rfl, by omega, q⟩), fun q => h _ (.inl ⟨rfl, .inr (by omega)⟩)⟩⟩
theorem s_fI31 {K : Rs → Mm → Prop} {M : Mm} {a c nu ye : Nat} {r : Ru} {b : Int → Bool} (hb : isB r b) (hw : wfT r) {lo hi D t : Int} (hD : D = lo / 1440) (hl : -1440 ≤ lo) (hlh : lo ≤ hi) (hh : hi ≤ 157786559) (hr : Rl M a c nu ye r) (hk : Kn r (mI M a))
    (ht : (t = -1 ∧ ∀ s, lo ≤ s → s / 1440 = D → mb b r s = false) ∨ (0 ≤ t ∧ t < 1440 ∧ lo ≤ 1440 * D + t ∧ mb b r (1440 * D + t) = true ∧ ∀ s, lo ≤ s → s < 1440 * D + t → mb b r s = false))
    (h : ∀ M' v, Sc a c M M' → Kn r (mI M' a) → Ls (mb b r) lo hi (-1000000000) v → K (.inl (some (.int (i32 v)))) M') : V_X3_firstIn_31 K M a (i32 hi) (i32 D) (i32 t) := by
  have hr' := hr
  obtain ⟨⟨s0, s1, s2, s3, s4, s5, s6, s7, s8, s9⟩, _⟩ := hr
  unfold V_X3_firstIn_31
  rw [show (-1 : Int32) = i32 (-1) by decide, i32_eq (by omega) (by omega) (by omega) (by omega)]
  refine ⟨fun q => ?_, fun q => ?_⟩
  · rcases ht with ht | ⟨t1, t2, t3, t4, t5⟩
    · exact absurd ht.1 q
    refine s_fI61 (by omega) (.inr (by omega)) (by omega) (fun w hw => h M w (Sc.refl a c M) hk ?_)
    rcases hw with ⟨w1, w2⟩ | ⟨w1, w2, w3⟩
    · exact .inl ⟨w1, fun n n1 n2 => t5 n n1 (by omega)⟩
    · refine .inr ⟨by omega, w3, ?_, fun n n1 n2 => t5 n n1 (by omega)⟩
      rw [w1, Int.mul_comm]; exact t4
  · have ht := (ht.resolve_right (by omega)).2
    rw [q_1440]
    refine s_fdiv (by omega) (by omega) (by decide) (by decide) (kI_i ⟨s1, ?_⟩)
    rw [q_1, i32_add]
    refine s_fRD hb (by omega) (by omega) hr' hk (fun M4 v g1 g2 g3 => kI_i ⟨(g1.th a 3).mpr s1, ?_⟩)
    rw [q_0]
    refine s_tF (g1.rl hr') hw (by decide) (fun t' ht' => kI_i ?_)
    obtain ⟨t0, ht0, ht1⟩ := tm_some hw
    rcases ht' with ⟨_, ht'⟩ | ⟨p1, p2, p3, p4⟩
    · have := ht' t0 (by omega) (by omega)
      simp only [Int.toNat_natCast] at this
      rw [ht1] at this; exact absurd this (by decide)
    have hvb : v = -1000000000 ∨ (-1000 ≤ v ∧ v ≤ 120000) := by
      rcases g3 with g3 | g3
      · exact .inl g3.1
      · exact .inr (by omega)
    refine s_fI61 (by omega) hvb (by omega) (fun w hw' => h M4 w g1 g2 ?_)
    rcases g3 with ⟨g3, g4⟩ | ⟨g3, g4, g5, g6⟩
    · rcases hw' with ⟨w1, w2⟩ | ⟨w1, w2, w3⟩
      · refine .inl ⟨w1, fun n n1 n2 => ?_⟩
        by_cases c1 : n / 1440 = D
        · exact ht n n1 c1
        · rw [mb_day rfl, g4 (n / 1440) (by omega) (by omega)]; rfl
      · exact absurd g3 w2
    · have least : ∀ n, lo ≤ n → n < v * 1440 + t' → mb b r n = false := fun n n1 n2 => by
        by_cases c1 : n / 1440 = D
        · exact ht n n1 c1
        · by_cases c2 : n / 1440 = v
          · rw [mb_day c2]
            have := p4 (n - 1440 * v) (by omega) (by omega)
            simp only at this
            rw [this, Bool.and_false]
          · rw [mb_day rfl, g6 (n / 1440) (by omega) (by omega)]; rfl
      rcases hw' with ⟨w1, w2⟩ | ⟨w1, w2, w3⟩
      · exact .inl ⟨w1, fun n n1 n2 => least n n1 (by omega)⟩
      · refine .inr ⟨by omega, w3, ?_, fun n n1 n2 => least n n1 (by omega)⟩
        rw [mb_day (show w / 1440 = v by omega), g5, show w - 1440 * v = t' by omega]
        exact p3
theorem s_fI {K : Rs → Mm → Prop} {M : Mm} {a c nu ye : Nat} {r : Ru} {b : Int → Bool} (hb : isB r b) (hw : wfT r) {lo hi : Int} (hl : -1440 ≤ lo) (hlh : lo ≤ hi) (hh : hi ≤ 157786559) (hr : Rl M a c nu ye r) (hk : Kn r (mI M a))
    (h : ∀ M' v, Sc a c M M' → Kn r (mI M' a) → Ls (mb b r) lo hi (-1000000000) v → K (.inl (some (.int (i32 v)))) M') : V_X3_firstIn K M a (i32 lo) (i32 hi) := by
  have hr' := hr
  obtain ⟨⟨s0, s1, s2, s3, s4, s5, s6, s7, s8, s9⟩, _⟩ := hr
  unfold V_X3_firstIn
  rw [q_1440]
  refine s_fdiv (by omega) (by omega) (by decide) (by decide) (kI_i ⟨s1, ?_⟩)
  refine s_isR hr' hk (by omega) (fun M4 bb g1 g2 g3 => kI_i ?_)
  have hbD := hb (lo / 1440) (by omega) (by omega)
  have ebb : bb = b (lo / 1440) := by rw [Bool.eq_iff_iff, g3, hbD]
  subst ebb
  rw [bI_ne0, bI_0, show (-1 : Int32) = i32 (-1) by decide]
  have h' : ∀ M' v, Sc a c M4 M' → Kn r (mI M' a) → Ls (mb b r) lo hi (-1000000000) v → K (.inl (some (.int (i32 v)))) M' := fun M' v k1 k2 k3 => h M' v (g1.trans k1) k2 k3
  refine ⟨fun q => ?_, fun q => ⟨(g1.th a 3).mpr s1, ?_⟩⟩
  · refine s_fI31 hb hw rfl hl hlh hh (g1.rl hr') g2 (.inl ⟨rfl, fun s s1 s2 => ?_⟩) h'
    rw [mb_day s2, q]; rfl
  · rw [i32_mul, i32_sub]
    refine s_tF (g1.rl hr') hw (by omega) (fun t ht => kI_i ?_)
    refine s_fI31 hb hw rfl hl hlh hh (g1.rl hr') g2 ?_ h'
    rcases ht with ⟨t1, t2⟩ | ⟨t1, t2, t3, t4⟩
    · refine .inl ⟨t1, fun s s1 s2 => ?_⟩
      have := t2 (s - 1440 * (lo / 1440)) (by omega) (by omega)
      simp only at this
      rw [mb_day s2, this, Bool.and_false]
    · refine .inr ⟨by omega, by omega, by omega, ?_, fun s s1 s2 => ?_⟩
      · rw [mb_day (D := lo / 1440) (by omega), q, show 1440 * (lo / 1440) + t - 1440 * (lo / 1440) = t by omega]
        exact t3
      · have := t4 (s - 1440 * (lo / 1440)) (by omega) (by omega)
        simp only at this
        rw [mb_day (show s / 1440 = lo / 1440 by omega), this, Bool.and_false]
theorem s_lI63 {K : Rs → Mm → Prop} {M : Mm} {lo v t : Int} (hh : -10000 ≤ lo ∧ lo ≤ 200000000) (hv : v = -1000000000 ∨ (-1000 ≤ v ∧ v ≤ 120000)) (ht : -1 ≤ t ∧ t < 1440)
    (h : ∀ w, (w = -1000000000 ∧ (v = -1000000000 ∨ v * 1440 + t < lo)) ∨ (w = v * 1440 + t ∧ v ≠ -1000000000 ∧ lo ≤ w) → K (.inl (some (.int (i32 w)))) M) : V_X3_lastIn_63 K M (i32 lo) (i32 v) (i32 t) := by
  unfold V_X3_lastIn_63 V_X3_lastIn_85 V_X3_lastIn_92
  intro x1 e1
  rw [q_1440, i32_mul, i32_add] at e1
  subst e1
  rw [show (-1000000000 : Int32) = i32 (-1000000000) by decide]
  rcases hv with hv | hv
  · subst hv
    refine ⟨fun _ => h _ (.inl ⟨rfl, .inl rfl⟩), fun q => absurd rfl q⟩
  · rw [i32_eq (by omega) (by omega) (by omega) (by omega), i32_le (by omega) (by omega) (by omega) (by omega)]
    refine ⟨fun q => absurd q (by omega), fun _ => ⟨fun q => h _ (.inr ⟨rfl, by omega, q⟩), fun q => h _ (.inl ⟨rfl, .inr (by omega)⟩)⟩⟩
theorem s_lI31 {K : Rs → Mm → Prop} {M : Mm} {a c nu ye : Nat} {r : Ru} {b : Int → Bool} (hb : isB r b) (hw : wfT r) {lo hi D t : Int} (hD : D = hi / 1440) (hl : -1440 ≤ lo) (hlh : lo ≤ hi) (hh : hi ≤ 157786559) (hr : Rl M a c nu ye r) (hk : Kn r (mI M a))
    (ht : (t = -1 ∧ ∀ s, s ≤ hi → s / 1440 = D → mb b r s = false) ∨ (0 ≤ t ∧ t < 1440 ∧ 1440 * D + t ≤ hi ∧ mb b r (1440 * D + t) = true ∧ ∀ s, 1440 * D + t < s → s ≤ hi → mb b r s = false))
    (h : ∀ M' v, Sc a c M M' → Kn r (mI M' a) → Gs (mb b r) lo hi (-1000000000) v → K (.inl (some (.int (i32 v)))) M') : V_X3_lastIn_31 K M a (i32 lo) (i32 D) (i32 t) := by
  have hr' := hr
  obtain ⟨⟨s0, s1, s2, s3, s4, s5, s6, s7, s8, s9⟩, _⟩ := hr
  unfold V_X3_lastIn_31
  rw [show (-1 : Int32) = i32 (-1) by decide, i32_eq (by omega) (by omega) (by omega) (by omega)]
  refine ⟨fun q => ?_, fun q => ?_⟩
  · rcases ht with ht | ⟨t1, t2, t3, t4, t5⟩
    · exact absurd ht.1 q
    refine s_lI63 (by omega) (.inr (by omega)) (by omega) (fun w hw => h M w (Sc.refl a c M) hk ?_)
    rcases hw with ⟨w1, w2⟩ | ⟨w1, w2, w3⟩
    · exact .inl ⟨w1, fun n n1 n2 => t5 n (by omega) n2⟩
    · refine .inr ⟨w3, by omega, ?_, fun n n1 n2 => t5 n (by omega) n2⟩
      rw [w1, Int.mul_comm]; exact t4
  · have ht := (ht.resolve_right (by omega)).2
    rw [q_1440]
    refine s_fdiv (by omega) (by omega) (by decide) (by decide) (kI_i ⟨s1, ?_⟩)
    rw [q_1, i32_sub]
    refine s_lRD hb (by omega) (by omega) hr' hk (fun M4 v g1 g2 g3 => kI_i ⟨(g1.th a 3).mpr s1, ?_⟩)
    rw [q_1439]
    refine s_tU (g1.rl hr') hw (by decide) (fun t' ht' => kI_i ?_)
    obtain ⟨t0, ht0, ht1⟩ := tm_some hw
    rcases ht' with ⟨_, ht'⟩ | ⟨p1, p2, p3, p4⟩
    · have := ht' t0 (by omega) (by omega)
      simp only [Int.toNat_natCast] at this
      rw [ht1] at this; exact absurd this (by decide)
    have hvb : v = -1000000000 ∨ (-1000 ≤ v ∧ v ≤ 120000) := by
      rcases g3 with g3 | g3
      · exact .inl g3.1
      · exact .inr (by omega)
    refine s_lI63 (by omega) hvb (by omega) (fun w hw' => h M4 w g1 g2 ?_)
    rcases g3 with ⟨g3, g4⟩ | ⟨g3, g4, g5, g6⟩
    · rcases hw' with ⟨w1, w2⟩ | ⟨w1, w2, w3⟩
      · refine .inl ⟨w1, fun n n1 n2 => ?_⟩
        by_cases c1 : n / 1440 = D
        · exact ht n n2 c1
        · rw [mb_day rfl, g4 (n / 1440) (by omega) (by omega)]; rfl
      · exact absurd g3 w2
    · have grt : ∀ n, v * 1440 + t' < n → n ≤ hi → mb b r n = false := fun n n1 n2 => by
        by_cases c1 : n / 1440 = D
        · exact ht n n2 c1
        · by_cases c2 : n / 1440 = v
          · rw [mb_day c2]
            have := p4 (n - 1440 * v) (by omega) (by omega)
            simp only at this
            rw [this, Bool.and_false]
          · rw [mb_day rfl, g6 (n / 1440) (by omega) (by omega)]; rfl
      rcases hw' with ⟨w1, w2⟩ | ⟨w1, w2, w3⟩
      · exact .inl ⟨w1, fun n n1 n2 => grt n (by omega) n2⟩
      · refine .inr ⟨w3, by omega, ?_, fun n n1 n2 => grt n (by omega) n2⟩
        rw [mb_day (show w / 1440 = v by omega), g5, show w - 1440 * v = t' by omega]
        exact p3
theorem s_lI {K : Rs → Mm → Prop} {M : Mm} {a c nu ye : Nat} {r : Ru} {b : Int → Bool} (hb : isB r b) (hw : wfT r) {lo hi : Int} (hl : -1440 ≤ lo) (hlh : lo ≤ hi) (hh : hi ≤ 157786559) (hr : Rl M a c nu ye r) (hk : Kn r (mI M a))
    (h : ∀ M' v, Sc a c M M' → Kn r (mI M' a) → Gs (mb b r) lo hi (-1000000000) v → K (.inl (some (.int (i32 v)))) M') : V_X3_lastIn K M a (i32 lo) (i32 hi) := by
  have hr' := hr
  obtain ⟨⟨s0, s1, s2, s3, s4, s5, s6, s7, s8, s9⟩, _⟩ := hr
  unfold V_X3_lastIn
  rw [q_1440]
  refine s_fdiv (by omega) (by omega) (by decide) (by decide) (kI_i ⟨s1, ?_⟩)
  refine s_isR hr' hk (by omega) (fun M4 bb g1 g2 g3 => kI_i ?_)
  have hbD := hb (hi / 1440) (by omega) (by omega)
  have ebb : bb = b (hi / 1440) := by rw [Bool.eq_iff_iff, g3, hbD]
  subst ebb
  rw [bI_ne0, bI_0, show (-1 : Int32) = i32 (-1) by decide]
  have h' : ∀ M' v, Sc a c M4 M' → Kn r (mI M' a) → Gs (mb b r) lo hi (-1000000000) v → K (.inl (some (.int (i32 v)))) M' := fun M' v k1 k2 k3 => h M' v (g1.trans k1) k2 k3
  refine ⟨fun q => ?_, fun q => ⟨(g1.th a 3).mpr s1, ?_⟩⟩
  · refine s_lI31 hb hw rfl hl hlh hh (g1.rl hr') g2 (.inl ⟨rfl, fun s s1 s2 => ?_⟩) h'
    rw [mb_day s2, q]; rfl
  · rw [i32_mul, i32_sub]
    refine s_tU (g1.rl hr') hw (by omega) (fun t ht => kI_i ?_)
    refine s_lI31 hb hw rfl hl hlh hh (g1.rl hr') g2 ?_ h'
    rcases ht with ⟨t1, t2⟩ | ⟨t1, t2, t3, t4⟩
    · refine .inl ⟨t1, fun s s1 s2 => ?_⟩
      have := t2 (s - 1440 * (hi / 1440)) (by omega) (by omega)
      simp only at this
      rw [mb_day s2, this, Bool.and_false]
    · refine .inr ⟨by omega, by omega, by omega, ?_, fun s s1 s2 => ?_⟩
      · rw [mb_day (D := hi / 1440) (by omega), q, show 1440 * (hi / 1440) + t - 1440 * (hi / 1440) = t by omega]
        exact t3
      · have := t4 (s - 1440 * (hi / 1440)) (by omega) (by omega)
        simp only at this
        rw [mb_day (show s / 1440 = hi / 1440 by omega), this, Bool.and_false]
theorem cI_day (b : Int → Bool) (r : Ru) (D : Int) (t : Int) (ht : 0 ≤ t ∧ t ≤ 1440) : cI (mb b r) (1440 * D) (1440 * D + t - 1) = if b D then cN (tm r) t.toNat else 0 := by
  unfold cI
  rw [← cN_and, show (1440 * D + t - 1 + 1 - 1440 * D).toNat = t.toNat by omega]
  refine cN_congr (fun i hi => ?_)
  rw [mb_day (D := D) (by omega), show (1440 * D + (i : Int) - 1440 * D).toNat = i by omega]
theorem cI_days (b : Int → Bool) (r : Ru) (D : Int) : ∀ k : Nat, cI (mb b r) (1440 * D) (1440 * (D + k) - 1) = cI b D (D + k - 1) * cN (tm r) 1440 := by
  intro k
  induction k with
  | zero =>
    have e1 : cI (mb b r) (1440 * D) (1440 * (D + (0 : Nat)) - 1) = 0 := by unfold cI; rw [show (1440 * (D + ((0 : Nat) : Int)) - 1 + 1 - 1440 * D).toNat = 0 by omega]; rfl
    have e2 : cI b D (D + (0 : Nat) - 1) = 0 := by unfold cI; rw [show (D + ((0 : Nat) : Int) - 1 + 1 - D).toNat = 0 by omega]; rfl
    rw [e1, e2, Nat.zero_mul]
  | succ k ih =>
    rw [cI_add (m := 1440 * (D + k)) (by omega) (by omega), ih, cI_add (p := b) (m := D + k) (l := D + (k + 1 : Nat) - 1) (by omega) (by omega), Nat.add_mul]
    congr 1
    have h1 := cI_day b r (D + k) 1440 (by decide)
    rw [show 1440 * (D + ((k + 1 : Nat) : Int)) - 1 = 1440 * (D + k) + 1440 - 1 by omega, h1]
    have e2 : cI b (D + k) (D + (k + 1 : Nat) - 1) = if b (D + k) then 1 else 0 := by
      unfold cI
      rw [show (D + ((k + 1 : Nat) : Int) - 1 + 1 - (D + k)).toNat = 1 by omega]
      simp [cN]
    rw [e2, show (1440 : Int).toNat = 1440 by rfl]
    generalize cN (tm r) 1440 = w
    split <;> omega
theorem s_cI {K : Rs → Mm → Prop} {M : Mm} {a c nu ye : Nat} {r : Ru} {b : Int → Bool} (hb : isB r b) (hw : wfT r) {lo hi : Int} (hl : -1440 ≤ lo) (hlh : lo ≤ hi) (hh : hi ≤ 157786559) (hr : Rl M a c nu ye r) (hk : Kn r (mI M a))
    (h : ∀ M', Sc a c M M' → Kn r (mI M' a) → K (.inl (some (.int (i32 (cI (mb b r) lo hi : Nat))))) M') : V_X3_countIn K M a (i32 lo) (i32 hi) := by
  have hr' := hr
  obtain ⟨⟨s0, s1, s2, s3, s4, s5, s6, s7, s8, s9⟩, _⟩ := hr
  obtain ⟨D, hD⟩ : ∃ D, D = lo / 1440 := ⟨_, rfl⟩
  obtain ⟨D2, hD2⟩ : ∃ D, D = hi / 1440 := ⟨_, rfl⟩
  obtain ⟨W, hW⟩ : ∃ W, W = cN (tm r) 1440 := ⟨_, rfl⟩
  have key : ((cI (mb b r) lo hi : Nat) : Int) = (cI b D D2 : Nat) * (W : Nat) - (if b D then ((cN (tm r) (lo - D * 1440).toNat : Nat) : Int) else 0) - (if b D2 then ((W : Nat) : Int) - ((cN (tm r) (hi - D2 * 1440 + 1).toNat : Nat) : Int) else 0) := by
    have k1 := cI_days b r D (D2 - D + 1).toNat
    rw [show D + ((D2 - D + 1).toNat : Int) = D2 + 1 by omega, show D2 + 1 - 1 = D2 by omega] at k1
    have k2 : cI (mb b r) (1440 * D) (1440 * (D2 + 1) - 1) = cI (mb b r) (1440 * D) (lo - 1) + (cI (mb b r) lo hi + cI (mb b r) (hi + 1) (1440 * (D2 + 1) - 1)) := by
      rw [cI_add (m := lo) (by omega) (by omega), cI_add (f := lo) (m := hi + 1) (l := 1440 * (D2 + 1) - 1) (by omega) (by omega), show hi + 1 - 1 = hi by omega]
    have k3 := cI_day b r D (lo - 1440 * D) (by omega)
    rw [show 1440 * D + (lo - 1440 * D) - 1 = lo - 1 by omega] at k3
    have k4 := cI_day b r D2 (hi - 1440 * D2 + 1) (by omega)
    rw [show 1440 * D2 + (hi - 1440 * D2 + 1) - 1 = hi by omega] at k4
    have k5 := cI_day b r D2 1440 (by decide)
    have k6 : cI (mb b r) (1440 * D2) (1440 * D2 + 1440 - 1) = cI (mb b r) (1440 * D2) hi + cI (mb b r) (hi + 1) (1440 * (D2 + 1) - 1) := by
      rw [cI_add (m := hi + 1) (by omega) (by omega), show hi + 1 - 1 = hi by omega, show 1440 * D2 + 1440 - 1 = 1440 * (D2 + 1) - 1 by omega]
    rw [show lo - D * 1440 = lo - 1440 * D by omega, show hi - D2 * 1440 + 1 = hi - 1440 * D2 + 1 by omega]
    rw [show (1440 : Int).toNat = 1440 by rfl] at k5
    rw [k2, k3, ← hW] at k1
    rw [k6, k4, ← hW] at k5
    have k7 : ((cI b D D2 * W : Nat) : Int) = (cI b D D2 : Nat) * (W : Nat) := Int.natCast_mul _ _
    rw [← k7, ← k1]
    clear k1 k2 k3 k4 k6 k7
    cases e1 : b D <;> cases e2 : b D2 <;> simp only [e1, e2, Bool.false_eq_true, if_true, if_false] at k5 ⊢ <;> omega
  rw [key] at h
  unfold V_X3_countIn
  rw [q_1440]
  refine s_fdiv (by omega) (by omega) (by decide) (by decide) (kI_i ?_)
  refine s_fdiv (by omega) (by omega) (by decide) (by decide) (kI_i ⟨s1, ?_⟩)
  rw [← hD, ← hD2]
  refine s_tB hr' hw (by decide) (kI_i ⟨s1, ?_⟩)
  rw [show (1440 : Int).toNat = 1440 by rfl, ← hW]
  refine s_rDI hb (by omega) (by omega) (by omega) hr' hk (fun M9 g1 g2 => kI_i (fun x11 e11 => ⟨(g1.th a 3).mpr s1, ?_⟩))
  rw [i32_mul] at e11
  subst e11
  have last : ∀ (M5 : Mm) (n : Int), Rl M5 a c nu ye r → Kn r (mI M5 a) → Sc a c M M5 → n = (cI b D D2 : Nat) * (W : Nat) - (if b D then ((cN (tm r) (lo - D * 1440).toNat : Nat) : Int) else 0) → V_X3_countIn_62 K M5 a (i32 hi) (i32 D2) (i32 (W : Nat)) (i32 n) := by
    intro M5 n r5 k5 sc5 en
    unfold V_X3_countIn_62 V_X3_countIn_93
    have o5 := r5.1.2.1
    refine ⟨o5, s_isR r5 k5 (by omega) (fun M6 bb g3 g4 g5 => kI_i ?_)⟩
    have hbD := hb D2 (by omega) (by omega)
    have ebb : bb = b D2 := by rw [Bool.eq_iff_iff, g5, hbD]
    rw [bI_ne0, bI_0]
    refine ⟨fun q => ?_, fun q => ⟨(g3.th a 3).mpr o5, ?_⟩⟩
    · have h9 := h M6 (sc5.trans g3) g4
      rw [← en, ← ebb, q] at h9
      simpa using h9
    · rw [q_1440, i32_mul, i32_sub, q_1, i32_add]
      refine s_tB (g3.rl r5) hw (by omega) (kI_i (fun x7 e7 => ?_))
      rw [i32_sub, i32_sub] at e7
      subst e7
      have h9 := h M6 (sc5.trans g3) g4
      rw [← en, ← ebb, q] at h9
      simpa using h9
  refine s_isR (g1.rl hr') g2 (by omega) (fun M13 bb g3 g4 g5 => kI_i ?_)
  have hbD := hb D (by omega) (by omega)
  have ebb : bb = b D := by rw [Bool.eq_iff_iff, g5, hbD]
  rw [bI_ne0, bI_0]
  refine ⟨fun q => ?_, fun q => ⟨(g3.th a 3).mpr ((g1.th a 3).mpr s1), ?_⟩⟩
  · exact last M13 _ (g3.rl (g1.rl hr')) g4 (g1.trans g3) (by rw [← ebb, q]; simp)
  · rw [i32_mul, i32_sub]
    refine s_tB (g3.rl (g1.rl hr')) hw (by omega) (kI_i (fun x18 e18 => ?_))
    rw [i32_sub] at e18
    subst e18
    exact last M13 _ (g3.rl (g1.rl hr')) g4 (g1.trans g3) (by rw [← ebb, q]; simp)
