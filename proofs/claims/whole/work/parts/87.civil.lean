/-! civil -/
theorem RC.w1 {A : Nat → Nat} {M : Mm} {S : St} (h : RC A M S) (rr : Nat → Int32) : RC A (wI M (A 1) rr) S ∧ FC A M (wI M (A 1) rr) := by
  have hs := h.sta
  have r : ∀ i, i ≠ 1 → mI (wI M (A 1) rr) (A i) = mI M (A i) := fun i c => mI_wn _ _ (hs.ne c)
  obtain ⟨⟨s1, s2, s3, s4, s5⟩, h2, h3, h4, h5, h6, h7, h8, h9⟩ := h
  refine ⟨⟨⟨s1.congr rfl rfl rfl rfl, ⟨?_, fun k hk => ?_⟩, fun k hk => ?_, by rw [r 0 (by decide)]; exact s4, fun k hk => ?_⟩, fun k hk hu => ?_, fun z hz => ?_, by rw [r 0 (by decide)]; exact h4, by rw [r 0 (by decide)]; exact h5, by rw [r 4 (by decide)]; exact h6, fun i hi => by rw [r 5 (by decide)]; exact h7 i hi, by rw [r 0 (by decide)]; exact h8, fun k hk hu => by rw [r _ (by omega)]; exact h9 k hk hu⟩, FC.wx hs (by decide) _⟩
  · rw [r 6 (by decide), r 7 (by decide), r 8 (by decide), r 9 (by decide), r 10 (by decide)]; exact s2.1
  · rw [r _ (by omega), r _ (by omega), r _ (by omega)]; exact s2.2 k hk
  · rw [r _ (by omega)]; exact s3 k hk
  · obtain ⟨o1, o2⟩ := s5 k hk
    refine ⟨by rw [r _ (by omega)]; exact o1, fun hu => ?_⟩
    obtain ⟨hz, hd⟩ := o2 hu
    exact ⟨hz, Od.cg (M := M) (M' := wI M (A 1) rr) hk hz rfl rfl rfl rfl rfl (fun i c1 c2 => r i (by omega)) (r _ (by omega)) hd⟩
  · rw [r _ (by omega)]; exact h2 k hk hu
  · obtain ⟨z1, z2, z3, z4, z5, z6, z7, z8, z9, z10⟩ := h3 z hz
    exact ⟨z1, z2, z3, z4, z5, z6, z7, by rw [r _ (by omega)]; exact z8, by rw [r _ (by omega)]; exact z9, by rw [r _ (by omega)]; exact z10⟩
def civV (y m d n u : Int) (w : Nat) : Int := match w with
  | 0 => y
  | 1 => m
  | 2 => d
  | 3 => (n + 1) % 7
  | 4 => u / 60
  | 5 => u % 60
  | 6 => n - yst y + 1
  | _ => dom y m
def cvOk (t w : Int) : Prop := (0 ≤ t ∧ t ≤ 157785119) ∧ (0 ≤ w ∧ w ≤ 7)
theorem c_civil {K : Rs → Mm → Prop} {A : Nat → Nat} {M : Mm} {S : St} {B z t w : Int} (h : RC A M S) (hP : SP S B) (bz : -2147483648 ≤ z ∧ z ≤ 2147483647) (bt : -2147483648 ≤ t ∧ t ≤ 2147483647) (bw : -2147483648 ≤ w ∧ w ≤ 2147483647) (h1 : ¬ (0 ≤ z ∧ z ≤ 3) → K (.inr "java/lang/IndexOutOfBoundsException") M) (h2 : (0 ≤ z ∧ z ≤ 3) → ¬ cvOk t w → K (.inr "java/lang/IllegalArgumentException") M)
    (h3 : ∀ (j : Nat) y m d n M', z = j → j < 4 → cvOk t w → isD y m d n → n = (t + zA (cfO (stC S) j) t) / 1440 → FC A M M' → RC A M' S → K (.inl (some (.int (i32 (civV y m d n ((t + zA (cfO (stC S) j) t) % 1440) w.toNat))))) M') : V_X6_civil K M (A 0) (i32 z) (i32 t) (i32 w) := by
  have hs := h.sta
  unfold V_X6_civil
  refine ⟨hs.2.1.1, s_znOf hs bz (fun q => kR_x (h1 q)) (fun j ej hj => kR_s (s_ckM bt (fun q => kV_x (h2 (by omega) (fun c => q c.1))) (fun qt => kV_i ?_)))⟩
  rw [show (7 : Int32) = i32 7 by decide]
  refine s_ckW bw (by decide) (fun q => kV_x (h2 (by omega) (fun c => q c.2))) (fun qw => kV_i ?_)
  have hz := h.2.2.1 j hj
  have hwz := hP.2.2.2.2.2.2.2.1 j hj
  have hA := zA_b hwz (t := t)
  refine ⟨hz.1, s_offAt qt hz hwz (kI_i (fun x9 e9 => ?_))⟩
  rw [i32_add] at e9
  generalize hv : t + zA (cfO (stC S) j) t = v at e9 h3
  have hvb : -1439 ≤ v ∧ v ≤ 157786558 := by omega
  rw [e9, show (1440 : Int32) = i32 1440 by decide]
  refine s_fdiv (by omega) (by omega) (by decide) (by decide) (kI_i (fun x12 e12 => ⟨hs.2.1.1, A 1, hs.2.1.2.1.1, hs.2.1.2.2.1, ?_⟩))
  rw [i32_mul, i32_sub, show v - v / 1440 * 1440 = v % 1440 by omega] at e12
  obtain ⟨y, m, d, hd⟩ := isD_ex (n := v / 1440) (by omega)
  refine s_day hd hs.2.1.2.2.1 (fun rr hc => kV_i ?_)
  obtain ⟨r, f⟩ := h.w1 rr
  have hk := h3 j y m d (v / 1440) _ ej hj ⟨qt, qw⟩ hd (by rw [hv]) f r
  rw [hv] at hk
  have s' := r.sta
  have row : mI (wI M (A 1) rr) (A 1) = rr := mI_w _ _ _
  obtain ⟨c0, c1, c2, c3, c4, c5⟩ := hc
  obtain ⟨y1, m1, d1, en⟩ := hd
  have hdm := dom_b y m
  have hmb := isD_b (y := y) (m := m) (d := d) (n := v / 1440) ⟨y1, m1, d1, en⟩
  rw [i32_toInt bw.1 bw.2]
  have num : ∀ (n : Int) (v : Int32), v = i32 n → 0 ≤ n ∧ n ≤ 10 → ∀ P : Prop, (w = n → P) → (i32 w = v → P) := fun n v ev hn P hP c => by
    by_cases q : w = n
    · exact hP q
    · exact absurd c (i32_nq bw (by omega) ev q)
  have x0 := s'.2.1.2.1.1
  have o1 := s'.2.1.2.2.1
  refine ⟨fun q => ⟨s'.2.1.1, A 1, x0, o1, ?_⟩, num 0 _ (by decide) (by decide) _ (fun q => ⟨s'.2.1.1, A 1, x0, o1, ?_⟩), num 1 _ (by decide) (by decide) _ (fun q => ⟨s'.2.1.1, A 1, x0, o1, ?_⟩), num 2 _ (by decide) (by decide) _ (fun q => ⟨s'.2.1.1, A 1, x0, o1, ?_⟩), num 3 _ (by decide) (by decide) _ (fun q => ⟨s'.2.1.1, A 1, x0, o1, A 1, x0, o1, ?_⟩), num 4 _ (by decide) (by decide) _ (fun q => ?_), num 5 _ (by decide) (by decide) _ (fun q => ?_), num 6 _ (by decide) (by decide) _ (fun q => ⟨s'.2.1.1, A 1, x0, o1, ?_⟩), trivial⟩
  · have q' : w = 7 := by omega
    subst q'; rw [row, c4]; exact hk
  · subst q; rw [row, c0]; exact hk
  · subst q; rw [row, c1]; exact hk
  · subst q; rw [row, c2]; exact hk
  · subst q
    rw [row, c5, c2, i32_add, q_1, i32_sub, i32_divp (by omega) (by omega) (by decide) (by decide), i32_mul, i32_sub]
    have e : (mst y m + 1) % 7 + d - 1 - ((mst y m + 1) % 7 + d - 1) / 7 * 7 = (v / 1440 + 1) % 7 := by omega
    rw [e]; exact hk
  · subst q
    rw [e12, show (60 : Int32) = i32 60 by decide, i32_divp (by omega) (by omega) (by decide) (by decide)]; exact hk
  · subst q
    rw [e12, show (60 : Int32) = i32 60 by decide, i32_divp (by omega) (by omega) (by decide) (by decide), i32_mul, i32_sub, show v % 1440 - v % 1440 / 60 * 60 = v % 1440 % 60 by omega]; exact hk
  · subst q
    rw [row, c0]
    refine s_yst (by omega) (kI_i ?_)
    rw [i32_sub, q_1, i32_add]; exact hk
theorem m_civil {K : Rs → Mm → Prop} {A : Nat → Nat} {M : Mm} {S : St} {B z t w : Int} (h : RM A M S) (hP : SP S B) (bz : -2147483648 ≤ z ∧ z ≤ 2147483647) (bt : -2147483648 ≤ t ∧ t ≤ 2147483647) (bw : -2147483648 ≤ w ∧ w ≤ 2147483647) (h1 : ¬ (0 ≤ z ∧ z ≤ 3) → ∀ M', FM A M M' → RM A M' S → mI M' (A 11) 0 = 1 → K (.inl (some (.int 0))) M') (h2 : (0 ≤ z ∧ z ≤ 3) → ¬ cvOk t w → ∀ M', FM A M M' → RM A M' S → mI M' (A 11) 0 = 2 → K (.inl (some (.int 0))) M')
    (h3 : ∀ (j : Nat) y m d n M', z = j → j < 4 → cvOk t w → isD y m d n → n = (t + zA (cfO (stC S) j) t) / 1440 → FM A M M' → RM A M' S → mI M' (A 11) 0 = 0 → K (.inl (some (.int (i32 (civV y m d n ((t + zA (cfO (stC S) j) t) % 1440) w.toNat))))) M') : V_X7_civil K M (A 11) (i32 z) (i32 t) (i32 w) := by
  unfold V_X7_civil V_X7_civil_47
  refine ⟨h.sta.2.2.2.2.1.1, fun M3 e3 => ?_⟩
  obtain ⟨r, f, c⟩ := h.w0 0
  rw [← e3] at r f c
  have md := r.sta.2.2.2.2.1
  refine s7_in (l := 0) (u := 3) bz.1 bz.2 (by decide) (by decide) (kI_i ?_)
  rw [bI_ne0 (decide (0 ≤ z ∧ z ≤ 3)), bI_0 (decide (0 ≤ z ∧ z ≤ 3)), decide_eq_true_iff, decide_eq_false_iff_not]
  refine ⟨fun hz => s7_in (l := 0) (u := 157785119) bt.1 bt.2 (by decide) (by decide) (kI_i ?_), fun q => ⟨md.1, s7_wrong r (fun M' f' r' c' => kI_i (h1 q M' (f.trans f') r' c'))⟩⟩
  rw [bI_ne0 (decide (0 ≤ t ∧ t ≤ 157785119)), bI_0 (decide (0 ≤ t ∧ t ≤ 157785119)), decide_eq_true_iff, decide_eq_false_iff_not]
  refine ⟨fun q => ⟨md.1, s7_wrong r (fun M' f' r' c' => kI_i (h2 hz (fun cc => q cc.1) M' (f.trans f') r' c'))⟩, fun qt => s7_in (l := 0) (u := 7) bw.1 bw.2 (by decide) (by decide) (kI_i ?_)⟩
  rw [bI_ne0 (decide (0 ≤ w ∧ w ≤ 7)), bI_0 (decide (0 ≤ w ∧ w ≤ 7)), decide_eq_true_iff, decide_eq_false_iff_not]
  refine ⟨fun qw => ⟨md.1, ?_⟩, fun q => ⟨md.1, s7_wrong r (fun M' f' r' c' => kI_i (h2 hz (fun cc => q cc.2) M' (f.trans f') r' c'))⟩⟩
  obtain ⟨j, ej⟩ : ∃ j : Nat, z = j := ⟨z.toNat, by omega⟩
  subst ej
  have hj : j < 4 := by omega
  have hwz := hP.2.2.2.2.2.2.2.1 j hj
  have hA := zA_b hwz t
  have mz := r.2.2.1 j hj
  refine s7_st md hj mz hwz qt (kI_i ⟨md.1, s7_off md hj mz hwz (zK_le _ _ _) (kI_i (fun x15 e15 => ?_))⟩)
  have e15' : x15 = i32 (t + zA (cfO (stC S) j) t) := by rw [e15, i32_add]; rfl
  generalize hv : t + zA (cfO (stC S) j) t = v at e15' h3
  have hvb : -1439 ≤ v ∧ v ≤ 157786558 := by omega
  rw [e15', show (1440 : Int32) = i32 1440 by decide]
  refine s7_floor (by omega) (by omega) (by decide) (by decide) (kI_i ⟨md.1, ?_⟩)
  obtain ⟨y, m, d, hd⟩ := isD_ex (n := v / 1440) (by omega)
  refine s7_date hd md.1 (fun rr hc => kV_i (fun x20 e20 => ?_))
  rw [i32_mul, i32_sub, show v - 1440 * (v / 1440) = v % 1440 by omega] at e20
  obtain ⟨c5, c6, c7, c8, c9, co⟩ := hc
  obtain ⟨r', f', c'⟩ := r.sm (Sm.row (m := A 11) M3 rr (fun k hk => co k (by unfold scr at hk; rw [decide_eq_false_iff_not] at hk; omega)))
  have hk := h3 j y m d (v / 1440) _ rfl hj ⟨qt, qw⟩ hd (by rw [hv]) (f.trans f') r' (c'.trans c)
  rw [hv] at hk
  have row : mI (wI M3 (A 11) rr) (A 11) = rr := mI_w _ _ _
  have o := r'.sta.2.2.2.2.1.1
  obtain ⟨y1, m1, d1, en⟩ := hd
  rw [i32_toInt bw.1 bw.2]
  have num : ∀ (n : Int) (v : Int32), v = i32 n → 0 ≤ n ∧ n ≤ 10 → ∀ P : Prop, (w = n → P) → (i32 w = v → P) := fun n v ev hn P hP c => by
    by_cases q : w = n
    · exact hP q
    · exact absurd c (i32_nq bw (by omega) ev q)
  refine ⟨fun q => ⟨o, ?_⟩, num 0 _ (by decide) (by decide) _ (fun q => ⟨o, ?_⟩), num 1 _ (by decide) (by decide) _ (fun q => ⟨o, ?_⟩), num 2 _ (by decide) (by decide) _ (fun q => ⟨o, ?_⟩), num 3 _ (by decide) (by decide) _ (fun q => ⟨o, ?_⟩), num 4 _ (by decide) (by decide) _ (fun q => ?_), num 5 _ (by decide) (by decide) _ (fun q => ?_), num 6 _ (by decide) (by decide) _ (fun q => ⟨o, ?_⟩), trivial⟩
  · have q' : w = 7 := by omega
    subst q'; rw [row, c5, c6]; exact s7_dom (by omega) (by omega) (kI_i hk)
  · subst q; rw [row, c5]; exact hk
  · subst q; rw [row, c6]; exact hk
  · subst q; rw [row, c7]; exact hk
  · subst q; rw [row, c8]; exact hk
  · subst q
    rw [e20, show (60 : Int32) = i32 60 by decide, i32_divp (by omega) (by omega) (by decide) (by decide)]; exact hk
  · subst q
    rw [e20, show (60 : Int32) = i32 60 by decide, i32_divp (by omega) (by omega) (by decide) (by decide), i32_mul, i32_sub, show v % 1440 - v % 1440 / 60 * 60 = v % 1440 % 60 by omega]; exact hk
  · subst q; rw [row, c9]; exact hk
theorem l_civil {G : Gx} {K : Rs → Mm → Prop} {B23 : Mm → Nat → Nat → Nat → Int32 → Prop} {A : Nat → Nat} {M : Mm} {S : St} {B : Int} {l4 : Int32} (hR : RG A M S B) (hv : Vi G l4) (nxt : ∀ M' S', RC A M' S' → RM A M' S' → SP S' (B + 1300000) → B23 M' (A 0) (A 11) (A 12) (l4 + 7)) : V_L_law_272 G K B23 M (A 0) (A 11) (A 12) l4 := by
  obtain ⟨z, ez, bz⟩ := i32_of (gX G ((l4 + (1 : Int32))).toNatClampNeg)
  obtain ⟨t, et, bt⟩ := i32_of (gX G ((l4 + (2 : Int32))).toNatClampNeg)
  obtain ⟨w, ew, bw⟩ := i32_of (gX G ((l4 + (3 : Int32))).toNatClampNeg)
  obtain ⟨hC, hM, hP, _⟩ := hR
  obtain ⟨v1, v2, v3, v4, v5, v6⟩ := hv
  unfold V_L_law_272 V_L_civil
  rw [ez, et, ew]
  refine ⟨v1, v2, v3, hC.sta.2.1.1, c_civil hC hP bz bt bw (fun q => kI_x (.inl ⟨rfl, kI_i ⟨v1, v2, v3, hC.sta.2.2.2.2.1.1, ?_⟩⟩)) (fun u q => kI_x (.inr ⟨rfl, kI_i ⟨v1, v2, v3, hC.sta.2.2.2.2.1.1, ?_⟩⟩)) (fun j y m d n M' ej hj ok hd hn f r => kI_i (outK r.sta (kI_i ?_)))⟩
  · exact m_civil hM hP bz bt bw (fun _ M' f r c => kI_i (tail r.sta c (fun c => absurd c (by decide)) (nx7 nxt (hC.fr f.1) r hP))) (fun u => absurd u q) (fun j y m d n M' ej hj => absurd (by omega) q)
  · exact m_civil hM hP bz bt bw (fun u' => absurd u u') (fun _ _ M' f r c => kI_i (tail r.sta c (fun c => absurd c (by decide)) (nx7 nxt (hC.fr f.1) r hP))) (fun j y m d n M' ej hj ok => absurd ok q)
  · obtain ⟨hM', hC', ho⟩ := RG.out hM f r (i32 (civV y m d n ((t + zA (cfO (stC S) j) t) % 1440) w.toNat)).toInt64
    refine ⟨v1, v2, v3, hC'.sta.2.2.2.2.1.1, m_civil hM' hP bz bt bw (fun u => absurd (by omega) u) (fun _ q => absurd ok q) (fun j' y' m' d' n' M2 ej' hj' _ hd' hn' f2 r2 c2 => kI_i (tail r2.sta c2 (fun _ => ?_) (nx7 nxt (hC'.fr f2.1) r2 hP)))⟩
    have e : j' = j := by omega
    subst e
    rw [← hn] at hn'
    subst hn'
    obtain ⟨e1, e2, e3⟩ := isD_u hd hd'
    rw [f2.2, ho, e1, e2, e3]
