/-! log, count -/
def logV (S : St) (i w : Nat) : Int32 := match w with
  | 0 => i32 (dL (stD S) i).1
  | 1 => i32 (dL (stD S) i).2.1
  | 2 => i32 (dL (stD S) i).2.2.1
  | _ => i32 (dL (stD S) i).2.2.2
theorem c_log {K : Rs → Mm → Prop} {A : Nat → Nat} {M : Mm} {S : St} {k t : Int} (h : RC A M S) (bk : -2147483648 ≤ k ∧ k ≤ 2147483647) (bt : -2147483648 ≤ t ∧ t ≤ 2147483647) (h1 : ¬ (0 ≤ k ∧ k < min (dC (stD S)) 300) → K (.inr "java/lang/IndexOutOfBoundsException") M) (h2 : (0 ≤ k ∧ k < min (dC (stD S)) 300) → ¬ (0 ≤ t ∧ t ≤ 3) → K (.inr "java/lang/IllegalArgumentException") M)
    (h3 : (0 ≤ k ∧ k < min (dC (stD S)) 300) → (0 ≤ t ∧ t ≤ 3) → K (.inl (some (.int (logV S k.toNat t.toNat)))) M) : V_X6_log K M (A 0) (i32 k) (i32 t) := by
  have hs := h.sta
  obtain ⟨⟨l1, l2, l3⟩, hO⟩ := h.1.2.1
  have x6 := hs.2.1.2.1.2.2.2.2
  have o6 := hs.2.1.2.2.2.2.2.2.1
  have xl := hs.2.1.2.2.2.2.2.2.2
  unfold V_X6_log V_X6_log_15 V_X1_kept
  rw [q_0, i32_lt (by omega) (by omega) (by omega) (by omega)]
  refine ⟨fun q => h1 (by omega), fun q => ⟨hs.2.1.1, A 6, x6, o6, o6, ?_⟩⟩
  rw [l1, show (300 : Int32) = i32 300 by decide]
  refine s_min (by omega) (by omega) (kI_i (kI_i ?_))
  rw [i32_lt (by omega) (by omega) (by omega) (by omega)]
  refine ⟨fun q2 => ?_, fun q2 => h1 (by omega)⟩
  rw [show (3 : Int32) = i32 3 by decide]
  refine s_ckW bt (by decide) (fun q3 => kV_x (h2 (by omega) q3)) (fun qt => kV_i ?_)
  have hk := h3 (by omega) qt
  have ln := l3 k.toNat (by omega) (by omega)
  rw [i32_toInt bt.1 bt.2]
  have num : ∀ (n : Int) (v : Int32), v = i32 n → 0 ≤ n ∧ n ≤ 10 → ∀ P : Prop, (t = n → P) → (i32 t = v → P) := fun n v ev hn P hP c => by
    by_cases q : t = n
    · exact hP q
    · exact absurd c (i32_nq bt (by omega) ev q)
  have ar : ∀ p, p < 4 → ∀ (v : Int32), mI M (A (7 + p)) k.toNat = v → K (.inl (some (.int v))) M → ob M (A 0) 6 ∧ ∃ b9, mP M (A 0) 4 = some b9 ∧ ob M b9 1 ∧ ∃ b11, mP M b9 p = some b11 ∧ ob M b11 9 ∧ vp_in (i32 k) (mN M b11) ∧ K (.inl (some (.int (mI M b11 (i32 k).toNatClampNeg)))) M := fun p hp v hv hK => by
    obtain ⟨p1, p2, p3⟩ := xl p hp
    refine ⟨hs.2.1.1, A 6, x6, o6, A (7 + p), p1, p2, by rw [p3]; exact i32_in (by omega) (by omega) (by omega), ?_⟩
    rw [i32_clamp (by omega) (by omega), hv]; exact hK
  refine ⟨fun q => ?_, num 0 _ (by decide) (by decide) _ (fun q => ?_), num 1 _ (by decide) (by decide) _ (fun q => ?_), num 2 _ (by decide) (by decide) _ (fun q => ?_), trivial⟩
  · have q' : t = 3 := by omega
    subst q'; exact ar 3 (by decide) _ ln.2.2.2 hk
  · subst q; exact ar 0 (by decide) _ ln.1 hk
  · subst q; exact ar 1 (by decide) _ ln.2.1 hk
  · subst q; exact ar 2 (by decide) _ ln.2.2.1 hk
theorem m_log {K : Rs → Mm → Prop} {A : Nat → Nat} {M : Mm} {S : St} {k t : Int} (h : RM A M S) (bk : -2147483648 ≤ k ∧ k ≤ 2147483647) (bt : -2147483648 ≤ t ∧ t ≤ 2147483647) (h1 : ¬ (0 ≤ k ∧ k < min (dC (stD S)) 300) → ∀ M', FM A M M' → RM A M' S → mI M' (A 11) 0 = 1 → K (.inl (some (.int 0))) M') (h2 : (0 ≤ k ∧ k < min (dC (stD S)) 300) → ¬ (0 ≤ t ∧ t ≤ 3) → ∀ M', FM A M M' → RM A M' S → mI M' (A 11) 0 = 2 → K (.inl (some (.int 0))) M')
    (h3 : ∀ M', (0 ≤ k ∧ k < min (dC (stD S)) 300) → (0 ≤ t ∧ t ≤ 3) → FM A M M' → RM A M' S → mI M' (A 11) 0 = 0 → K (.inl (some (.int (logV S k.toNat t.toNat)))) M') : V_X7_log K M (A 11) (i32 k) (i32 t) := by
  unfold V_X7_log
  refine ⟨h.sta.2.2.2.2.1.1, fun M3 e3 => ?_⟩
  obtain ⟨r, f, c⟩ := h.w0 0
  rw [← e3] at r f c
  have md := r.sta.2.2.2.2.1
  obtain ⟨R, dm⟩ := r.1.2.1
  obtain ⟨l1, l2, l3⟩ := dm.1
  have go : ∀ u : Int, u = min (dC (stD S)) 300 → V_X7_log_28 K M3 (A 11) (i32 k) (i32 t) (i32 k).toInt64 0 (i32 u) := by
    intro u eu
    unfold V_X7_log_28
    rw [q_1, i32_sub]
    refine s7_in (l := 0) (u := u - 1) bk.1 bk.2 (by decide) (i64_of (by omega) (by omega)) (kI_i ?_)
    rw [bI_ne0 (decide (0 ≤ k ∧ k ≤ u - 1)), bI_0 (decide (0 ≤ k ∧ k ≤ u - 1)), decide_eq_true_iff, decide_eq_false_iff_not]
    refine ⟨fun q => ?_, fun q => ⟨md.1, s7_wrong r (fun M' f' r' c' => kI_i (h1 (by omega) M' (f.trans f') r' c'))⟩⟩
    have hk := fun qt => h3 M3 (by omega) qt f r c
    have ln := l3 k.toNat (by omega) (by omega)
    rw [i32_toInt bt.1 bt.2]
    have num : ∀ (n : Int) (v : Int32), v = i32 n → 0 ≤ n ∧ n ≤ 10 → ∀ P : Prop, (t = n → P) → (i32 t = v → P) := fun n v ev hn P hP c => by
      by_cases q : t = n
      · exact hP q
      · exact absurd c (i32_nq bt (by omega) ev q)
    have ar : ∀ p, (p, 9, 300) ∈ mPl → ∀ (v : Int32), mI M3 (A (200 + p)) k.toNat = v → K (.inl (some (.int v))) M3 → ob M3 (A 11) 7 ∧ ∃ b, mP M3 (A 11) p = some b ∧ ob M3 b 9 ∧ vp_in (i32 k) (mN M3 b) ∧ K (.inl (some (.int (mI M3 b (i32 k).toNatClampNeg)))) M3 := fun p hp v hv hK => by
      have pp := md.p p 9 300 hp
      refine ⟨md.1, A (200 + p), pp.1, pp.2.1, by rw [pp.2.2.1]; exact i32_in (by omega) (by omega) (by omega), ?_⟩
      rw [i32_clamp (by omega) (by omega), hv]; exact hK
    refine ⟨fun q2 => ⟨md.1, s7_wrong r (fun M' f' r' c' => kI_i (h2 (by omega) (by omega) M' (f.trans f') r' c'))⟩, num 0 _ (by decide) (by decide) _ (fun q => ?_), num 1 _ (by decide) (by decide) _ (fun q => ?_), num 2 _ (by decide) (by decide) _ (fun q => ?_), num 3 _ (by decide) (by decide) _ (fun q => ?_), trivial⟩
    · subst q; exact ar 56 (by decide) _ ln.1 (hk (by decide))
    · subst q; exact ar 57 (by decide) _ ln.2.1 (hk (by decide))
    · subst q; exact ar 58 (by decide) _ ln.2.2.1 (hk (by decide))
    · subst q; exact ar 59 (by decide) _ ln.2.2.2 (hk (by decide))
  rw [l1, show (300 : Int32) = i32 300 by decide, i32_le (by omega) (by omega) (by omega) (by omega)]
  exact ⟨fun q => go 300 (by omega), fun q => go _ (by omega)⟩
theorem l_log {G : Gx} {K : Rs → Mm → Prop} {B23 : Mm → Nat → Nat → Nat → Int32 → Prop} {A : Nat → Nat} {M : Mm} {S : St} {B : Int} {l4 : Int32} (hR : RG A M S B) (hv : Vi G l4) (nxt : ∀ M' S', RC A M' S' → RM A M' S' → SP S' (B + 1300000) → B23 M' (A 0) (A 11) (A 12) (l4 + 7)) : V_L_law_1464 G K B23 M (A 0) (A 11) (A 12) l4 := by
  obtain ⟨k, ek, bk⟩ := i32_of (gX G ((l4 + (1 : Int32))).toNatClampNeg)
  obtain ⟨t, et, bt⟩ := i32_of (gX G ((l4 + (2 : Int32))).toNatClampNeg)
  obtain ⟨hC, hM, hP, _⟩ := hR
  obtain ⟨v1, v2, v3, v4, v5, v6⟩ := hv
  unfold V_L_law_1464 V_L_log
  rw [ek, et]
  refine ⟨v1, v2, hC.sta.2.1.1, c_log hC bk bt (fun q => kI_x (.inl ⟨rfl, kI_i ⟨v1, v2, hC.sta.2.2.2.2.1.1, ?_⟩⟩)) (fun u q => kI_x (.inr ⟨rfl, kI_i ⟨v1, v2, hC.sta.2.2.2.2.1.1, ?_⟩⟩)) (fun u ok => kI_i (outK hC.sta (kI_i ?_)))⟩
  · exact m_log hM bk bt (fun _ M' f r c => kI_i (tail r.sta c (fun c => absurd c (by decide)) (nx7 nxt (hC.fr f.1) r hP))) (fun u => absurd u q) (fun M' u => absurd u q)
  · exact m_log hM bk bt (fun u' => absurd u u') (fun _ _ M' f r c => kI_i (tail r.sta c (fun c => absurd c (by decide)) (nx7 nxt (hC.fr f.1) r hP))) (fun M' _ ok => absurd ok q)
  · obtain ⟨hM', hC', ho⟩ := RG.out hM (FC.refl A M) hC (logV S k.toNat t.toNat).toInt64
    exact ⟨v1, v2, hC'.sta.2.2.2.2.1.1, m_log hM' bk bt (fun u' => absurd u u') (fun _ q => absurd ok q) (fun M2 _ _ f2 r2 c2 => kI_i (tail r2.sta c2 (fun _ => by rw [f2.2, ho]) (nx7 nxt (hC'.fr f2.1) r2 hP)))⟩
def cUs (c : Cf) : Nat → Nat
  | 0 => 0
  | n + 1 => cUs c n + if cfU c n = true then 1 else 0
theorem cUs_le (c : Cf) : ∀ n, cUs c n ≤ n
  | 0 => Nat.le_refl _
  | n + 1 => by have := cUs_le c n; simp only [cUs]; split <;> omega
theorem s_oiu {K : Rs → Mm → Prop} {A : Nat → Nat} {M : Mm} {c : Cf} (hs : Sta A M) (hu : ∀ k, k < 12 → mI M (A (40 + 10 * k)) 4 = bI (cfU c k)) (h : K (.inl (some (.int (i32 (cUs c 12 : Nat))))) M) : V_X6_ordersInUse K M (A 0) := by
  have go : ∀ (n k : Nat), k + n = 12 → V_X6_ordersInUse_4 K (n + 1) M (A 0) (i32 (cUs c k : Nat)) (i32 (k : Nat)) := by
    intro n
    induction n with
    | zero =>
      intro k e
      have : k = 12 := by omega
      subst this
      unfold V_X6_ordersInUse_4
      rw [q_12, i32_le (by omega) (by omega) (by omega) (by omega)]
      exact ⟨fun _ => h, fun q => absurd (by omega) q⟩
    | succ n ih =>
      intro k e
      have hk : k < 12 := by omega
      have hb := cUs_le c k
      obtain ⟨s1, s2, s3, s4, s5, s6, s7, s8, s9, s10⟩ := hs.2.2.2.1 k hk
      have hn := ih (k + 1) (by omega)
      unfold V_X6_ordersInUse_4 V_X6_ordersInUse_25
      rw [q_12, i32_le (by omega) (by omega) (by omega) (by omega)]
      refine ⟨fun q => absurd q (by omega), fun _ => ⟨hs.2.1.1, A 3, hs.2.1.2.1.2.2.1, hs.2.1.2.2.2.2.1.1, by rw [hs.2.1.2.2.2.2.1.2]; exact i32_in (by omega) (by omega) (by omega), A (40 + 10 * k), by rw [i32_clamp (by omega) (by omega), Int.toNat_natCast]; exact s10, s1, ?_⟩⟩
      rw [hu k hk, bI_ne0 (cfU c k), bI_0 (cfU c k)]
      unfold cUs at hn
      refine ⟨fun q x1 e1 => ?_, fun q x7 e7 x1 e1 => ?_⟩
      · rw [if_neg (by rw [q]; decide)] at hn
        rw [e1, q_1, i32_add]; exact hn
      · rw [if_pos q] at hn
        rw [e1, e7, q_1, i32_add, i32_add]; exact hn
  unfold V_X6_ordersInUse
  exact ⟨13, go 12 0 (by omega)⟩
theorem s7_ords {K : Rs → Mm → Prop} {A : Nat → Nat} {M : Mm} {c : Cf} (hs : Sta A M) (hu : ∀ k, k < 12 → mI M (A 226) k = bI (cfU c k)) (h : K (.inl (some (.int (i32 (cUs c 12 : Nat))))) M) : V_X7_orders K M (A 11) := by
  have md := hs.2.2.2.2.1
  have p26 := md.p 26 11 12 (by decide)
  have go : ∀ (n k : Nat), k + n = 12 → V_X7_orders_4 K (n + 1) M (A 11) (i32 (cUs c k : Nat)) (i32 (k : Nat)) := by
    intro n
    induction n with
    | zero =>
      intro k e
      have : k = 12 := by omega
      subst this
      unfold V_X7_orders_4
      rw [q_12, i32_le (by omega) (by omega) (by omega) (by omega)]
      exact ⟨fun _ => h, fun q => absurd (by omega) q⟩
    | succ n ih =>
      intro k e
      have hk : k < 12 := by omega
      have hb := cUs_le c k
      have hn := ih (k + 1) (by omega)
      unfold V_X7_orders_4 V_X7_orders_25
      rw [q_12, i32_le (by omega) (by omega) (by omega) (by omega)]
      refine ⟨fun q => absurd q (by omega), fun _ => ⟨md.1, A 226, p26.1, p26.2.1, by show vp_in _ (mN M (A (200 + 26))); rw [p26.2.2.1]; exact i32_in (by omega) (by omega) (by omega), ?_⟩⟩
      rw [i32_clamp (by omega) (by omega), Int.toNat_natCast, hu k hk, bI_ne0 (cfU c k), bI_0 (cfU c k)]
      unfold cUs at hn
      refine ⟨fun q x1 e1 x2 e2 => ?_, fun q x1 e1 x2 e2 => ?_⟩
      · rw [if_neg (by rw [q]; decide)] at hn
        rw [e1, e2, q_1, q_0, i32_add, i32_add, Int.add_zero]; exact hn
      · rw [if_pos q] at hn
        rw [e1, e2, q_1, i32_add, i32_add]; exact hn
  unfold V_X7_orders
  exact ⟨13, go 12 0 (by omega)⟩
def rnS (D : Dk) (n : Nat) : Nat := sN (fun k => (dR D k).length) n
theorem rnS_le {D : Dk} (h : l8D D) : ∀ n, n ≤ 12 → rnS D n ≤ n * 8 := fun n hn => sN_le _ 8 (fun k hk => h k hk) n hn
theorem s_ruw {K : Rs → Mm → Prop} {A : Nat → Nat} {M : Mm} {tk : Nat → Int} {D : Dk} (hs : Sta A M) (hD : DkC A M tk D) (h8 : l8D D) (h : K (.inl (some (.int (i32 (rnS D 12 : Nat))))) M) : V_X6_runsUnderWay K M (A 0) := by
  have go : ∀ (n k : Nat), k + n = 12 → V_X6_runsUnderWay_4 K (n + 1) M (A 0) (i32 (rnS D k : Nat)) (i32 (k : Nat)) := by
    intro n
    induction n with
    | zero =>
      intro k e
      have : k = 12 := by omega
      subst this
      unfold V_X6_runsUnderWay_4
      rw [q_12, i32_le (by omega) (by omega) (by omega) (by omega)]
      exact ⟨fun _ => h, fun q => absurd (by omega) q⟩
    | succ n ih =>
      intro k e
      have hk : k < 12 := by omega
      have hb := rnS_le h8 k (by omega)
      obtain ⟨s1, s2, s3, s4, s5, s6, s7, s8, s9, s10⟩ := hs.2.2.2.1 k hk
      have hn := ih (k + 1) (by omega)
      unfold V_X6_runsUnderWay_4
      rw [q_12, i32_le (by omega) (by omega) (by omega) (by omega)]
      refine ⟨fun q => absurd q (by omega), fun _ => ⟨hs.2.1.1, A 3, hs.2.1.2.1.2.2.1, hs.2.1.2.2.2.2.1.1, by rw [hs.2.1.2.2.2.2.1.2]; exact i32_in (by omega) (by omega) (by omega), A (40 + 10 * k), by rw [i32_clamp (by omega) (by omega), Int.toNat_natCast]; exact s10, s1, fun x7 e7 x8 e8 => ?_⟩⟩
      rw [(hD.2 k hk).1, i32_add] at e7
      rw [e7, e8, q_1, i32_add]
      exact hn
  unfold V_X6_runsUnderWay
  exact ⟨13, go 12 0 (by omega)⟩
theorem RuP.sum {R : List (Nat × Int × Int)} {D : Dk} (h : RuP R (dR D)) : R.length = rnS D 12 := by
  have e : ∀ k, k < 12 → (R.filter (fun q => q.1 == k)).length = (dR D k).length := fun k hk => by rw [← h.2 k hk, List.length_map]
  rw [len12 R h.1, e 0 (by decide), e 1 (by decide), e 2 (by decide), e 3 (by decide), e 4 (by decide), e 5 (by decide), e 6 (by decide), e 7 (by decide), e 8 (by decide), e 9 (by decide), e 10 (by decide), e 11 (by decide)]
  simp only [rnS, sN]
  omega
def cntV (S : St) (w : Nat) : Int32 := match w with
  | 0 => i32 (stN S)
  | 1 => bI (stA S)
  | 2 => i32 (cUs (stC S) 12 : Nat)
  | 3 => i32 (dC (stD S))
  | 4 => i32 (stL S : Nat)
  | _ => i32 (rnS (stD S) 12 : Nat)
theorem c_count {K : Rs → Mm → Prop} {A : Nat → Nat} {M : Mm} {S : St} {B t : Int} (h : RC A M S) (hP : SP S B) (bt : -2147483648 ≤ t ∧ t ≤ 2147483647) (h1 : ¬ (0 ≤ t ∧ t ≤ 5) → K (.inr "java/lang/IllegalArgumentException") M) (h3 : (0 ≤ t ∧ t ≤ 5) → K (.inl (some (.int (cntV S t.toNat)))) M) : V_X6_count K M (A 0) (i32 t) := by
  have hs := h.sta
  unfold V_X6_count V_X6_count_57
  rw [show (5 : Int32) = i32 5 by decide]
  refine s_ckW bt (by decide) (fun q => kV_x (h1 q)) (fun qt => kV_i ?_)
  have hk := h3 qt
  rw [i32_toInt bt.1 bt.2]
  have num : ∀ (n : Int) (v : Int32), v = i32 n → 0 ≤ n ∧ n ≤ 10 → ∀ P : Prop, (t = n → P) → (i32 t = v → P) := fun n v ev hn P hP c => by
    by_cases q : t = n
    · exact hP q
    · exact absurd c (i32_nq bt (by omega) ev q)
  refine ⟨fun q => ⟨hs.2.1.1, ?_⟩, num 0 _ (by decide) (by decide) _ (fun q => ⟨hs.2.1.1, ?_⟩), num 1 _ (by decide) (by decide) _ (fun q => ⟨hs.2.1.1, ?_⟩), num 2 _ (by decide) (by decide) _ (fun q => ⟨hs.2.1.1, ?_⟩), num 3 _ (by decide) (by decide) _ (fun q => ⟨hs.2.1.1, A 6, hs.2.1.2.1.2.2.2.2, hs.2.1.2.2.2.2.2.2.1, ?_⟩), num 4 _ (by decide) (by decide) _ (fun q => ⟨hs.2.1.1, A 4, hs.2.1.2.1.2.2.2.1, hs.2.1.2.2.2.2.2.1.1, ?_⟩), trivial⟩
  · have q' : t = 5 := by omega
    subst q'
    exact s_ruw hs h.1.2.1 hP.2.2.2.1.1 (kI_i hk)
  · subst q; rw [h.1.2.2.2.1]; exact hk
  · subst q; rw [h.2.2.2.2.1]; exact bI_cs (K := fun v => K (.inl (some (.int v))) M) hk
  · subst q; exact s_oiu hs (fun k hk => (h.1.2.2.2.2 k hk).1) (kI_i hk)
  · subst q; rw [h.1.2.1.1.1]; exact hk
  · subst q; rw [h.2.2.2.2.2.1]; exact hk
theorem m_count {K : Rs → Mm → Prop} {A : Nat → Nat} {M : Mm} {S : St} {t : Int} (h : RM A M S) (bt : -2147483648 ≤ t ∧ t ≤ 2147483647) (h1 : ¬ (0 ≤ t ∧ t ≤ 5) → ∀ M', FM A M M' → RM A M' S → mI M' (A 11) 0 = 1 → K (.inl (some (.int 0))) M') (h3 : ∀ M', (0 ≤ t ∧ t ≤ 5) → FM A M M' → RM A M' S → mI M' (A 11) 0 = 0 → K (.inl (some (.int (cntV S t.toNat)))) M') : V_X7_count K M (A 11) (i32 t) := by
  unfold V_X7_count V_X7_count_61
  refine ⟨h.sta.2.2.2.2.1.1, fun M3 e3 => ?_⟩
  obtain ⟨r, f, c⟩ := h.w0 0
  rw [← e3] at r f c
  obtain ⟨R, dm⟩ := r.1.2.1
  have hk := fun qt => h3 M3 qt f r c
  rw [i32_toInt bt.1 bt.2]
  have num : ∀ (n : Int) (v : Int32), v = i32 n → 0 ≤ n ∧ n ≤ 10 → ∀ P : Prop, (t = n → P) → (i32 t = v → P) := fun n v ev hn P hP c => by
    by_cases q : t = n
    · exact hP q
    · exact absurd c (i32_nq bt (by omega) ev q)
  refine ⟨fun q => s7_wrong r (fun M' f' r' c' => kI_i (h1 (by omega) M' (f.trans f') r' c')), num 0 _ (by decide) (by decide) _ (fun q => ?_), num 1 _ (by decide) (by decide) _ (fun q => ?_), num 2 _ (by decide) (by decide) _ (fun q => ?_), num 3 _ (by decide) (by decide) _ (fun q => ?_), num 4 _ (by decide) (by decide) _ (fun q => ?_), num 5 _ (by decide) (by decide) _ (fun q => ?_), trivial⟩
  · subst q; rw [r.1.2.2.2.1]; exact hk (by decide)
  · subst q
    have hk1 : K (.inl (some (.int (bI (stA S))))) M3 := hk (by decide)
    rw [r.2.2.2.2.1]
    generalize stA S = a at hk1
    rcases a with _ | _
    · exact ⟨fun q => absurd q (by decide), fun _ => hk1⟩
    · exact ⟨fun _ => hk1, fun q => absurd rfl q⟩
  · subst q; exact s7_ords r.sta (fun k hk => (r.1.2.2.2.2 k hk).1) (kI_i (hk (by decide)))
  · subst q; rw [dm.1.1]; exact hk (by decide)
  · subst q; rw [r.2.2.2.2.2.1]; exact hk (by decide)
  · subst q
    rw [dm.2.1.1, dm.2.2.1.sum]; exact hk (by decide)
theorem l_count {G : Gx} {K : Rs → Mm → Prop} {B23 : Mm → Nat → Nat → Nat → Int32 → Prop} {A : Nat → Nat} {M : Mm} {S : St} {B : Int} {l4 : Int32} (hR : RG A M S B) (hv : Vi G l4) (nxt : ∀ M' S', RC A M' S' → RM A M' S' → SP S' (B + 1300000) → B23 M' (A 0) (A 11) (A 12) (l4 + 7)) : V_L_law_1545 G K B23 M (A 0) (A 11) (A 12) l4 := by
  obtain ⟨t, et, bt⟩ := i32_of (gX G ((l4 + (1 : Int32))).toNatClampNeg)
  obtain ⟨hC, hM, hP, _⟩ := hR
  obtain ⟨v1, v2, v3, v4, v5, v6⟩ := hv
  unfold V_L_law_1545 V_L_count
  rw [et]
  refine ⟨v1, hC.sta.2.1.1, c_count hC hP bt (fun q => kI_x ⟨rfl, kI_i ⟨v1, hC.sta.2.2.2.2.1.1, ?_⟩⟩) (fun ok => kI_i (outK hC.sta (kI_i ?_)))⟩
  · exact m_count hM bt (fun _ M' f r c => kI_i (tail r.sta c (fun c => absurd c (by decide)) (nx7 nxt (hC.fr f.1) r hP))) (fun M' ok => absurd ok q)
  · obtain ⟨hM', hC', ho⟩ := RG.out hM (FC.refl A M) hC (cntV S t.toNat).toInt64
    exact ⟨v1, hC'.sta.2.2.2.2.1.1, m_count hM' bt (fun q => absurd ok q) (fun M2 _ f2 r2 c2 => kI_i (tail r2.sta c2 (fun _ => by rw [f2.2, ho]) (nx7 nxt (hC'.fr f2.1) r2 hP)))⟩
