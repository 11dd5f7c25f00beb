/-! minute -/
def dtOk (y m d : Int) : Prop := (1899 ≤ y ∧ y ≤ 2200) ∧ (1 ≤ m ∧ m ≤ 12) ∧ (1 ≤ d ∧ d ≤ dom y m)
theorem s_ckT {K : Rs → Mm → Prop} {M : Mm} {y m d : Int} (by_ : -2147483648 ≤ y ∧ y ≤ 2147483647) (bm : -2147483648 ≤ m ∧ m ≤ 2147483647) (bd : -2147483648 ≤ d ∧ d ≤ 2147483647) (h0 : ¬ dtOk y m d → K (.inr "java/lang/IllegalArgumentException") M) (h1 : dtOk y m d → K (.inl none) M) : V_X6_checkDate K M (i32 y) (i32 m) (i32 d) := by
  unfold V_X6_checkDate V_X6_checkDate_39
  rw [q_1, q_12, show (1899 : Int32) = i32 1899 by decide, show (2200 : Int32) = i32 2200 by decide, i32_lt (by omega) (by omega) (by omega) (by omega), i32_lt (a := 2200) (by omega) (by omega) (by omega) (by omega), i32_lt (a := m) (by omega) (by omega) (by omega) (by omega), i32_lt (a := 12) (by omega) (by omega) (by omega) (by omega), i32_lt (a := d) (by omega) (by omega) (by omega) (by omega)]
  unfold dtOk at *
  refine ⟨fun q => h0 (by omega), fun q1 => ⟨fun q => h0 (by omega), fun q2 => ⟨fun q => h0 (by omega), fun q3 => ⟨fun q => h0 (by omega), fun q4 => ⟨fun q => h0 (by omega), fun q5 => s_dom (by omega) (by omega) (kI_i ?_)⟩⟩⟩⟩⟩
  have hd := dom_b y m
  rw [i32_le (by omega) (by omega) (by omega) (by omega)]
  exact ⟨fun q => h1 (by omega), fun q => h0 (by omega)⟩
theorem s7_isDt {K : Rs → Mm → Prop} {M : Mm} {y m d : Int} (by_ : -2147483648 ≤ y ∧ y ≤ 2147483647) (bm : -2147483648 ≤ m ∧ m ≤ 2147483647) (bd : -2147483648 ≤ d ∧ d ≤ 2147483647) (h0 : ¬ dtOk y m d → K (.inl (some (.int 0))) M) (h1 : dtOk y m d → K (.inl (some (.int 1))) M) : V_X7_isDate K M (i32 y) (i32 m) (i32 d) := by
  unfold V_X7_isDate V_X7_isDate_45 V_X7_isDate_46
  unfold dtOk at *
  refine s7_in (l := 1899) (u := 2200) by_.1 by_.2 (by decide) (by decide) (kI_i ?_)
  rw [bI_ne0 (decide (1899 ≤ y ∧ y ≤ 2200)), bI_0 (decide (1899 ≤ y ∧ y ≤ 2200)), decide_eq_true_iff, decide_eq_false_iff_not]
  refine ⟨fun q => ⟨.inl rfl, h0 (fun c => q c.1)⟩, fun q1 => s7_in (l := 1) (u := 12) bm.1 bm.2 (by decide) (by decide) (kI_i ?_)⟩
  rw [bI_ne0 (decide (1 ≤ m ∧ m ≤ 12)), bI_0 (decide (1 ≤ m ∧ m ≤ 12)), decide_eq_true_iff, decide_eq_false_iff_not]
  refine ⟨fun q => ⟨.inl rfl, h0 (fun c => q c.2.1)⟩, fun q2 => s7_dom (by omega) (by omega) (kI_i ?_)⟩
  have hd := dom_b y m
  refine s7_in (l := 1) (u := dom y m) bd.1 bd.2 (by decide) (i64_of (by omega) (by omega)) (kI_i ?_)
  rw [bI_ne0 (decide (1 ≤ d ∧ d ≤ dom y m)), bI_0 (decide (1 ≤ d ∧ d ≤ dom y m)), decide_eq_true_iff, decide_eq_false_iff_not]
  exact ⟨fun q => ⟨.inl rfl, h0 (fun c => q c.2.2)⟩, fun q3 => ⟨.inr rfl, h1 ⟨q1, q2, q3⟩⟩⟩
def lmF (o : Zo) (v : Int) : Nat → Nat → Int
  | 0, _ => -1
  | n + 1, k => if zB o k ≤ v - zF o k ∧ v - zF o k ≤ zL o k then v - zF o k else lmF o v n (k + 1)
theorem s7_m90 {K : Rs → Mm → Prop} {A : Nat → Nat} {M : Mm} {j : Nat} {o : Zo} {v : Int} (hs : Sta A M) (hj : j < 4) (hz : MoZ M (fun p => A (200 + p)) j o) (hw : wfZ o) (hv : -1000000 ≤ v ∧ v ≤ 200000000) : ∀ (n k : Nat), k + n = zN o + 1 → K (.inl (some (.int (i32 (lmF o v n k))))) M → V_X7_minute_90 K (n + 1) M (A 11) (i32 (j : Nat)) (i32 v) (i32 (k : Nat)) := by
  have md := hs.2.2.2.2.1
  have p2 := md.p 2 9 4 (by decide)
  have hn := hw.1
  have hc : mI M (A 202) j = i32 (zN o : Nat) := hz.1
  intro n
  induction n with
  | zero =>
    intro k e h
    unfold V_X7_minute_90
    refine ⟨md.1, A 202, p2.1, p2.2.1, by show vp_in _ (mN M (A (200 + 2))); rw [p2.2.2.1]; exact i32_in (by omega) (by omega) (by omega), ?_⟩
    rw [i32_clamp (by omega) (by omega), Int.toNat_natCast, hc, i32_lt (by omega) (by omega) (by omega) (by omega)]
    exact ⟨fun _ => h, fun q => absurd (by omega) q⟩
  | succ n ih =>
    intro k e h
    have hk : k ≤ zN o := by omega
    have b1 := hw.2.2.1 k hk
    have b2 := hw.2.2.2.2 k hk
    have b3 : -1 ≤ zL o k ∧ zL o k ≤ 157785119 := by
      unfold zL
      split
      · have := hw.2.2.1 (k + 1) (by omega); omega
      · omega
    unfold V_X7_minute_90 V_X7_minute_140
    refine ⟨md.1, A 202, p2.1, p2.2.1, by show vp_in _ (mN M (A (200 + 2))); rw [p2.2.2.1]; exact i32_in (by omega) (by omega) (by omega), ?_⟩
    rw [i32_clamp (by omega) (by omega), Int.toNat_natCast, hc, i32_lt (by omega) (by omega) (by omega) (by omega)]
    refine ⟨fun q => absurd q (by omega), fun _ => s7_off md hj hz hw hk (kI_i (fun x7 e7 => ⟨md.1, s7_beg md hj hz hw hk (kI_i ?_)⟩))⟩
    rw [i32_sub] at e7
    rw [e7, i32_lt (by omega) (by omega) (by omega) (by omega)]
    unfold lmF at h
    have nx : ¬ (zB o k ≤ v - zF o k ∧ v - zF o k ≤ zL o k) → ∀ x1 : Int32, x1 = i32 (k : Nat) + 1 → V_X7_minute_90 K (n + 1) M (A 11) (i32 (j : Nat)) (i32 v) x1 := fun q x1 e1 => by
      rw [if_neg q] at h
      rw [e1, q_1, i32_add]
      exact ih (k + 1) (by omega) h
    refine ⟨fun q => nx (by omega), fun q => ⟨md.1, s7_end md hj hz hw hk (kI_i ?_)⟩⟩
    rw [i32_lt (by omega) (by omega) (by omega) (by omega)]
    refine ⟨fun q2 => nx (by omega), fun q2 => ?_⟩
    rw [if_pos (by omega)] at h
    exact h
theorem s_lmo {K : Rs → Mm → Prop} {A : Nat → Nat} {M : Mm} {j : Nat} {o : Zo} {v : Int} (hz : ZoM M (A (20 + 3 * j)) (A (21 + 3 * j)) (A (22 + 3 * j)) o) (hw : wfZ o) (hv : -1000000 ≤ v ∧ v ≤ 200000000) : ∀ (n k : Nat), k + n = zN o + 1 → K (.inl (some (.int (i32 (lmF o v n k))))) M → V_X5_leastMinuteOf_2 K (n + 1) M (A (20 + 3 * j)) (i32 v) (i32 (k : Nat)) := by
  have hz' := hz
  obtain ⟨z1, z2, z3, z4, z5, z6, z7, z8, z9, z10⟩ := hz
  have hn := hw.1
  intro n
  induction n with
  | zero =>
    intro k e h
    unfold V_X5_leastMinuteOf_2
    rw [z8, i32_lt (by omega) (by omega) (by omega) (by omega)]
    exact ⟨z1, fun _ => h, fun q => absurd (by omega) q⟩
  | succ n ih =>
    intro k e h
    have hk : k ≤ zN o := by omega
    have b1 := hw.2.2.1 k hk
    have b2 := hw.2.2.2.2 k hk
    have b3 : -1 ≤ zL o k ∧ zL o k ≤ 157785119 := by
      unfold zL
      split
      · have := hw.2.2.1 (k + 1) (by omega); omega
      · omega
    unfold V_X5_leastMinuteOf_2 V_X5_leastMinuteOf_40
    rw [z8, i32_lt (by omega) (by omega) (by omega) (by omega)]
    refine ⟨z1, fun q => absurd q (by omega), fun _ => ⟨A (22 + 3 * j), z5, z3, by rw [z7]; exact i32_in (by omega) (by omega) (by omega), fun x5 e5 => ⟨A (21 + 3 * j), z4, z2, by rw [z6]; exact i32_in (by omega) (by omega) (by omega), ?_⟩⟩⟩
    rw [i32_clamp (by omega) (by omega), Int.toNat_natCast, z10 k hk, i32_sub] at e5
    rw [e5, i32_clamp (by omega) (by omega), Int.toNat_natCast, z9 k hk, i32_lt (by omega) (by omega) (by omega) (by omega)]
    unfold lmF at h
    have nx : ¬ (zB o k ≤ v - zF o k ∧ v - zF o k ≤ zL o k) → ∀ x1 : Int32, x1 = i32 (k : Nat) + 1 → V_X5_leastMinuteOf_2 K (n + 1) M (A (20 + 3 * j)) (i32 v) x1 := fun q x1 e1 => by
      rw [if_neg q] at h
      rw [e1, q_1, i32_add]
      exact ih (k + 1) (by omega) h
    refine ⟨fun q => nx (by omega), fun q => s_last hz' hw hk (kI_i ?_)⟩
    rw [i32_lt (by omega) (by omega) (by omega) (by omega)]
    refine ⟨fun q2 => nx (by omega), fun q2 => ?_⟩
    rw [if_pos (by omega)] at h
    exact h
def mnOk (y m d h i : Int) : Prop := dtOk y m d ∧ (0 ≤ h ∧ h ≤ 23) ∧ (0 ≤ i ∧ i ≤ 59)
def mnV (S : St) (j : Nat) (y m d h i : Int) : Int := lmF (cfO (stC S) j) ((mst y m + d - 1) * 1440 + h * 60 + i) (zN (cfO (stC S) j) + 1) 0
theorem mn_b {y m d h i : Int} (ok : mnOk y m d h i) : -1000000 ≤ (mst y m + d - 1) * 1440 + h * 60 + i ∧ (mst y m + d - 1) * 1440 + h * 60 + i ≤ 200000000 ∧ -365 ≤ mst y m + d - 1 ∧ mst y m + d - 1 ≤ 109937 := by
  obtain ⟨⟨a, b, c⟩, e, f⟩ := ok
  have := isD_b (y := y) (m := m) (d := d) (n := mst y m + d - 1) ⟨a, b, c, rfl⟩
  omega
theorem c_minute {K : Rs → Mm → Prop} {A : Nat → Nat} {M : Mm} {S : St} {B z y m d g i : Int} (h : RC A M S) (hP : SP S B) (bz : -2147483648 ≤ z ∧ z ≤ 2147483647) (by_ : -2147483648 ≤ y ∧ y ≤ 2147483647) (bm : -2147483648 ≤ m ∧ m ≤ 2147483647) (bd : -2147483648 ≤ d ∧ d ≤ 2147483647) (bg : -2147483648 ≤ g ∧ g ≤ 2147483647) (bi : -2147483648 ≤ i ∧ i ≤ 2147483647) (h1 : ¬ (0 ≤ z ∧ z ≤ 3) → K (.inr "java/lang/IndexOutOfBoundsException") M) (h2 : (0 ≤ z ∧ z ≤ 3) → ¬ mnOk y m d g i → K (.inr "java/lang/IllegalArgumentException") M)
    (h3 : ∀ (j : Nat), z = j → j < 4 → mnOk y m d g i → K (.inl (some (.int (i32 (mnV S j y m d g i))))) M) : V_X6_minute K M (A 0) (i32 z) (i32 y) (i32 m) (i32 d) (i32 g) (i32 i) := by
  have hs := h.sta
  unfold V_X6_minute V_X6_minute_38
  refine ⟨hs.2.1.1, s_znOf hs bz (fun q => kR_x (h1 q)) (fun j ej hj => kR_s (s_ckT by_ bm bd (fun q => kV_x (h2 (by omega) (fun c => q c.1))) (fun qd => kV_i ?_)))⟩
  have bad : ¬ ((0 ≤ g ∧ g ≤ 23) ∧ (0 ≤ i ∧ i ≤ 59)) → K (.inr "java/lang/IllegalArgumentException") M := fun q => h2 (by omega) (fun c => q c.2)
  rw [q_0, show (23 : Int32) = i32 23 by decide, show (59 : Int32) = i32 59 by decide, i32_lt (a := g) (by omega) (by omega) (by omega) (by omega), i32_lt (a := 23) (by omega) (by omega) (by omega) (by omega), i32_lt (a := i) (by omega) (by omega) (by omega) (by omega), i32_le (by omega) (by omega) (by omega) (by omega)]
  refine ⟨fun q => bad (by omega), fun q1 => ⟨fun q => bad (by omega), fun q2 => ⟨fun q => bad (by omega), fun q3 => ⟨fun q4 => ?_, fun q => bad (by omega)⟩⟩⟩⟩
  have ok : mnOk y m d g i := ⟨qd, by omega, by omega⟩
  have hb := mn_b ok
  refine s_mst (by have := qd.1; omega) qd.2.1 (kI_i (fun x7 e7 => ⟨(h.2.2.1 j hj).1, ?_⟩))
  rw [i32_add, q_1, i32_sub] at e7
  rw [e7, show (1440 : Int32) = i32 1440 by decide, show (60 : Int32) = i32 60 by decide, i32_mul, i32_mul, i32_add, i32_add]
  unfold V_X5_leastMinuteOf
  exact ⟨_, s_lmo (h.2.2.1 j hj) (hP.2.2.2.2.2.2.2.1 j hj) (by omega) (zN (cfO (stC S) j) + 1) 0 (by omega) (kI_i (h3 j ej hj ok))⟩
theorem m_minute {K : Rs → Mm → Prop} {A : Nat → Nat} {M : Mm} {S : St} {B z y m d g i : Int} (h : RM A M S) (hP : SP S B) (bz : -2147483648 ≤ z ∧ z ≤ 2147483647) (by_ : -2147483648 ≤ y ∧ y ≤ 2147483647) (bm : -2147483648 ≤ m ∧ m ≤ 2147483647) (bd : -2147483648 ≤ d ∧ d ≤ 2147483647) (bg : -2147483648 ≤ g ∧ g ≤ 2147483647) (bi : -2147483648 ≤ i ∧ i ≤ 2147483647) (h1 : ¬ (0 ≤ z ∧ z ≤ 3) → ∀ M', FM A M M' → RM A M' S → mI M' (A 11) 0 = 1 → K (.inl (some (.int 0))) M') (h2 : (0 ≤ z ∧ z ≤ 3) → ¬ mnOk y m d g i → ∀ M', FM A M M' → RM A M' S → mI M' (A 11) 0 = 2 → K (.inl (some (.int 0))) M')
    (h3 : ∀ (j : Nat) M', z = j → j < 4 → mnOk y m d g i → FM A M M' → RM A M' S → mI M' (A 11) 0 = 0 → K (.inl (some (.int (i32 (mnV S j y m d g i))))) M') : V_X7_minute K M (A 11) (i32 z) (i32 y) (i32 m) (i32 d) (i32 g) (i32 i) := by
  unfold V_X7_minute V_X7_minute_59
  refine ⟨h.sta.2.2.2.2.1.1, fun M3 e3 => ?_⟩
  obtain ⟨r, f, c⟩ := h.w0 0
  rw [← e3] at r f c
  have md := r.sta.2.2.2.2.1
  refine s7_in (l := 0) (u := 3) bz.1 bz.2 (by decide) (by decide) (kI_i ?_)
  rw [bI_ne0 (decide (0 ≤ z ∧ z ≤ 3)), bI_0 (decide (0 ≤ z ∧ z ≤ 3)), decide_eq_true_iff, decide_eq_false_iff_not]
  refine ⟨fun hz => ?_, fun q => ⟨md.1, s7_wrong r (fun M' f' r' c' => kI_i (h1 q M' (f.trans f') r' c'))⟩⟩
  have bad : ¬ mnOk y m d g i → ob M3 (A 11) 7 ∧ V_X7_wrong (kI (fun r3 M2 => K (.inl (some (.int r3))) M2) (fun _ _ => False)) M3 (A 11) (2 : Int32) := fun q => ⟨md.1, s7_wrong r (fun M' f' r' c' => kI_i (h2 hz q M' (f.trans f') r' c'))⟩
  refine s7_isDt by_ bm bd (fun q => kI_i ⟨fun _ => bad (fun cc => q cc.1), fun cc => absurd rfl cc⟩) (fun qd => kI_i ⟨fun cc => absurd cc (by decide), fun _ => s7_in (l := 0) (u := 23) bg.1 bg.2 (by decide) (by decide) (kI_i ?_)⟩)
  rw [bI_ne0 (decide (0 ≤ g ∧ g ≤ 23)), bI_0 (decide (0 ≤ g ∧ g ≤ 23)), decide_eq_true_iff, decide_eq_false_iff_not]
  refine ⟨fun q => bad (fun cc => q cc.2.1), fun qg => s7_in (l := 0) (u := 59) bi.1 bi.2 (by decide) (by decide) (kI_i ?_)⟩
  rw [bI_ne0 (decide (0 ≤ i ∧ i ≤ 59)), bI_0 (decide (0 ≤ i ∧ i ≤ 59)), decide_eq_true_iff, decide_eq_false_iff_not]
  refine ⟨fun qi => s7_num qd.1 qd.2.1 (kI_i (fun x13 e13 => ?_)), fun q => bad (fun cc => q cc.2.2)⟩
  have ok : mnOk y m d g i := ⟨qd, qg, qi⟩
  have hb := mn_b ok
  rw [show (1440 : Int32) = i32 1440 by decide, show (60 : Int32) = i32 60 by decide, i32_mul, i32_mul, i32_add, i32_add, show (1440 : Int) * (mst y m + d - 1) + 60 * g + i = (mst y m + d - 1) * 1440 + g * 60 + i by omega] at e13
  obtain ⟨j, ej⟩ : ∃ j : Nat, z = j := ⟨z.toNat, by omega⟩
  subst ej
  have hj : j < 4 := by omega
  rw [e13]
  exact ⟨_, s7_m90 r.sta hj (r.2.2.1 j hj) (hP.2.2.2.2.2.2.2.1 j hj) (by omega) (zN (cfO (stC S) j) + 1) 0 (by omega) (h3 j M3 rfl hj ok f r c)⟩
theorem l_minute {G : Gx} {K : Rs → Mm → Prop} {B23 : Mm → Nat → Nat → Nat → Int32 → Prop} {A : Nat → Nat} {M : Mm} {S : St} {B : Int} {l4 : Int32} (hR : RG A M S B) (hv : Vi G l4) (nxt : ∀ M' S', RC A M' S' → RM A M' S' → SP S' (B + 1300000) → B23 M' (A 0) (A 11) (A 12) (l4 + 7)) : V_L_law_352 G K B23 M (A 0) (A 11) (A 12) l4 := by
  obtain ⟨z, ez, bz⟩ := i32_of (gX G ((l4 + (1 : Int32))).toNatClampNeg)
  obtain ⟨y, ey, by_⟩ := i32_of (gX G ((l4 + (2 : Int32))).toNatClampNeg)
  obtain ⟨m, em, bm⟩ := i32_of (gX G ((l4 + (3 : Int32))).toNatClampNeg)
  obtain ⟨d, ed, bd⟩ := i32_of (gX G ((l4 + (4 : Int32))).toNatClampNeg)
  obtain ⟨g, eg, bg⟩ := i32_of (gX G ((l4 + (5 : Int32))).toNatClampNeg)
  obtain ⟨i, ei, bi⟩ := i32_of (gX G ((l4 + (6 : Int32))).toNatClampNeg)
  obtain ⟨hC, hM, hP, _⟩ := hR
  obtain ⟨v1, v2, v3, v4, v5, v6⟩ := hv
  unfold V_L_law_352 V_L_minute
  rw [ez, ey, em, ed, eg, ei]
  refine ⟨v1, v2, v3, v4, v5, v6, hC.sta.2.1.1, c_minute hC hP bz by_ bm bd bg bi (fun q => kI_x (.inl ⟨rfl, kI_i ⟨v1, v2, v3, v4, v5, v6, hC.sta.2.2.2.2.1.1, ?_⟩⟩)) (fun u q => kI_x (.inr ⟨rfl, kI_i ⟨v1, v2, v3, v4, v5, v6, hC.sta.2.2.2.2.1.1, ?_⟩⟩)) (fun j ej hj ok => kI_i (outK hC.sta (kI_i ?_)))⟩
  · exact m_minute hM hP bz by_ bm bd bg bi (fun _ M' f r c => kI_i (tail r.sta c (fun c => absurd c (by decide)) (nx7 nxt (hC.fr f.1) r hP))) (fun u => absurd u q) (fun j M' ej hj => absurd (by omega) q)
  · exact m_minute hM hP bz by_ bm bd bg bi (fun u' => absurd u u') (fun _ _ M' f r c => kI_i (tail r.sta c (fun c => absurd c (by decide)) (nx7 nxt (hC.fr f.1) r hP))) (fun j M' ej hj ok => absurd ok q)
  · obtain ⟨hM', hC', ho⟩ := RG.out hM (FC.refl A M) hC (i32 (mnV S j y m d g i)).toInt64
    refine ⟨v1, v2, v3, v4, v5, v6, hC'.sta.2.2.2.2.1.1, m_minute hM' hP bz by_ bm bd bg bi (fun u => absurd (by omega) u) (fun _ q => absurd ok q) (fun j' M2 ej' hj' _ f2 r2 c2 => kI_i (tail r2.sta c2 (fun _ => ?_) (nx7 nxt (hC'.fr f2.1) r2 hP)))⟩
    have e : j' = j := by omega
    subst e
    rw [f2.2, ho]
