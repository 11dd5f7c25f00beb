/-! calls that look at matches -/
theorem nx7 {G : Gx} {K : Rs → Mm → Prop} {B23 : Mm → Nat → Nat → Nat → Int32 → Prop} {A : Nat → Nat} {M : Mm} {S : St} {B : Int} {l4 : Int32} (nxt : ∀ M' S', RC A M' S' → RM A M' S' → SP S' (B + 1300000) → B23 M' (A 0) (A 11) (A 12) (l4 + 7)) (h1 : RC A M S) (h2 : RM A M S) (h3 : SP S B) : V_L_law_1601 G K B23 M (A 0) (A 11) (A 12) l4 := by
  unfold V_L_law_1601
  intro x1 ex
  rw [ex]
  exact nxt M S h1 h2 (h3.le (by omega))
theorem i64_i {a : Int} (h1 : -2147483648 ≤ a) (h2 : a ≤ 2147483647) : (i32 a).toInt64 = Int64.ofInt a := by
  rw [← Int64.toInt_inj, i64_of h1 h2, Int64.toInt_ofInt_of_le (by omega) (by omega)]
theorem i64_md {a b : Int} (h1 : -2147483648 ≤ a ∧ a ≤ 2147483647) (h2 : -2147483648 ≤ b ∧ b ≤ 2147483647) (h3 : -2147483648 ≤ a + 1440 * b ∧ a + 1440 * b ≤ 2147483647) : (i32 a).toInt64 + (1440 : Int64) * (i32 b).toInt64 = (i32 (a + 1440 * b)).toInt64 := by
  rw [i64_i h1.1 h1.2, i64_i h2.1 h2.2, i64_i h3.1 h3.2, Int64.ofInt_add, Int64.ofInt_mul]
  rfl
theorem i64_32 (x : Int32) : x.toInt64.toInt32 = x := Int32.toInt32_toInt64 x
theorem RM.om {A : Nat → Nat} {M : Mm} {S : St} {j : Nat} (h : RM A M S) (hj : j < 12) (hu : cfU (stC S) j = true) : Om M (A 11) (fun p => A (200 + p)) j (cfR (stC S) j) (cfZ (stC S) j) (cfO (stC S) (cfZ (stC S) j)) (cfB (stC S) j) := (h.1.2.2.2.2 j hj).2 hu
theorem RC.od {A : Nat → Nat} {M : Mm} {S : St} {j : Nat} (h : RC A M S) (hj : j < 12) (hu : cfU (stC S) j = true) : Od M (A (40 + 10 * j)) (A (41 + 10 * j)) (A (42 + 10 * j)) (A (43 + 10 * j)) (A (44 + 10 * j)) (A (20 + 3 * cfZ (stC S) j)) (A (21 + 3 * cfZ (stC S) j)) (A (22 + 3 * cfZ (stC S) j)) (cfR (stC S) j) (cfO (stC S) (cfZ (stC S) j)) (cfB (stC S) j) := ((h.1.2.2.2.2 j hj).2 hu).2
theorem usd_j {S : St} {k : Int} {j : Nat} (e : k = j) (hj : j < 12) (hu : cfU (stC S) j = true) : usd S k := ⟨by omega, by omega, by rw [e, Int.toNat_natCast]; exact hu⟩
theorem c_next {K : Rs → Mm → Prop} {A : Nat → Nat} {M : Mm} {S : St} {k t d : Int} (h : RC A M S) (bk : -2147483648 ≤ k ∧ k ≤ 2147483647) (bt : -2147483648 ≤ t ∧ t ≤ 2147483647) (bd : -2147483648 ≤ d ∧ d ≤ 2147483647) (h1 : ¬ usd S k → K (.inr "java/lang/IndexOutOfBoundsException") M) (h2 : usd S k → ¬ ((0 ≤ t ∧ t ≤ 157785119) ∧ (0 ≤ d ∧ d ≤ 20000)) → K (.inr "java/lang/IllegalArgumentException") M)
    (h3 : ∀ (j : Nat) v M', k = j → j < 12 → cfU (stC S) j = true → (0 ≤ t ∧ t ≤ 157785119) ∧ (0 ≤ d ∧ d ≤ 20000) → Ls (mmC (stC S) j) (t + 1) (min 157785119 (t + d * 1440)) (-1) v → FC A M M' → RC A M' S → K (.inl (some (.int (i32 v)))) M') : V_X6_next K M (A 0) (i32 k) (i32 t) (i32 d) := by
  unfold V_X6_next
  refine ⟨h.sta.2.1.1, s_ordOf h bk (fun q => kR_x (h1 q)) (fun j ej hj hu => kR_s (s_ckM bt (fun q => kV_x (h2 (usd_j ej hj hu) (fun c => q c.1))) (fun qt => kV_i (s_ckD bd (fun q => kV_x (h2 (usd_j ej hj hu) (fun c => q c.2))) (fun qd => kV_i ?_)))))⟩
  rw [show (157785119 : Int32) = i32 157785119 by decide, show (1440 : Int32) = i32 1440 by decide, i32_mul, i32_add, q_1, i32_add]
  refine s_min (by omega) (by omega) (kI_i ⟨(h.sta.2.2.2.1 j hj).1, ?_⟩)
  refine s_lM (f := t + 1) (l := min 157785119 (t + d * 1440)) (by omega) (by omega) (h.od hj hu) (fun M' v g kn L => kI_i ?_)
  obtain ⟨r, f⟩ := h.sc hj g kn
  exact h3 j v M' ej hj hu ⟨qt, qd⟩ L f r
theorem m_next {K : Rs → Mm → Prop} {A : Nat → Nat} {M : Mm} {S : St} {k t d : Int} (h : RM A M S) (bk : -2147483648 ≤ k ∧ k ≤ 2147483647) (bt : -2147483648 ≤ t ∧ t ≤ 2147483647) (bd : -2147483648 ≤ d ∧ d ≤ 2147483647) (h1 : ¬ usd S k → ∀ M', FM A M M' → RM A M' S → mI M' (A 11) 0 = 1 → K (.inl (some (.int 0))) M') (h2 : usd S k → ¬ ((0 ≤ t ∧ t ≤ 157785119) ∧ (0 ≤ d ∧ d ≤ 20000)) → ∀ M', FM A M M' → RM A M' S → mI M' (A 11) 0 = 2 → K (.inl (some (.int 0))) M')
    (h3 : ∀ (j : Nat) v M', k = j → j < 12 → cfU (stC S) j = true → (0 ≤ t ∧ t ≤ 157785119) ∧ (0 ≤ d ∧ d ≤ 20000) → Ls (mmC (stC S) j) (t + 1) (min 157785119 (t + d * 1440)) (-1) v → FM A M M' → RM A M' S → mI M' (A 11) 0 = 0 → K (.inl (some (.int (i32 v)))) M') : V_X7_next K M (A 11) (i32 k) (i32 t) (i32 d) := by
  have o : ob M (A 11) 7 := h.sta.2.2.2.2.1.1
  unfold V_X7_next V_X7_next_37 V_X7_next_42
  refine ⟨o, s7_none h bk (fun q => kI_i ⟨fun c => absurd c (by decide), fun _ => ⟨o, fun M2 e2 => ?_⟩⟩) (fun j ej hj hu => kI_i ⟨fun _ => ?_, fun c => absurd rfl c⟩)⟩
  · obtain ⟨r, f, c⟩ := h.w0 1
    rw [← e2] at r f c
    refine ⟨r.sta.2.2.2.2.1.1, fun q2 => ?_, fun _ => h1 q M2 f r c⟩
    rw [c] at q2; exact absurd q2 (by decide)
  · have bad : ¬ ((0 ≤ t ∧ t ≤ 157785119) ∧ (0 ≤ d ∧ d ≤ 20000)) → ∀ M2, M2 = sI M (A 11) 0 2 → ob M2 (A 11) 7 ∧ (mI M2 (A 11) 0 ≤ 0 → ∀ (x4 : Int64), x4 = (i32 t).toInt64 + 1440 * (i32 d).toInt64 → (lg_cmp x4 157785119 ≤ 0 → V_X7_next_87 K M2 (A 11) (A 11) (i32 k) (i32 t + 1) x4.toInt32) ∧ (¬lg_cmp x4 157785119 ≤ 0 → V_X7_next_87 K M2 (A 11) (A 11) (i32 k) (i32 t + 1) 157785119)) ∧ (¬mI M2 (A 11) 0 ≤ 0 → K (Sum.inl (some (Value.int 0))) M2) := by
      intro q M2 e2
      obtain ⟨r, f, c⟩ := h.w0 2
      rw [← e2] at r f c
      refine ⟨r.sta.2.2.2.2.1.1, fun q2 => ?_, fun _ => h2 (usd_j ej hj hu) q M2 f r c⟩
      rw [c] at q2; exact absurd q2 (by decide)
    refine s7_in (l := 0) (u := 157785119) bt.1 bt.2 (by decide) (by decide) (kI_i ?_)
    rw [bI_ne0 (decide (0 ≤ t ∧ t ≤ 157785119)), bI_0 (decide (0 ≤ t ∧ t ≤ 157785119)), decide_eq_true_iff, decide_eq_false_iff_not]
    refine ⟨fun q => ⟨o, bad (fun c => q c.1)⟩, fun qt => s7_in (l := 0) (u := 20000) bd.1 bd.2 (by decide) (by decide) (kI_i ?_)⟩
    rw [bI_ne0 (decide (0 ≤ d ∧ d ≤ 20000)), bI_0 (decide (0 ≤ d ∧ d ≤ 20000)), decide_eq_true_iff, decide_eq_false_iff_not]
    refine ⟨fun qd => ⟨o, fun M2 e2 => ?_⟩, fun q => ⟨o, bad (fun c => q c.2)⟩⟩
    obtain ⟨r, f, c⟩ := h.w0 0
    rw [← e2] at r f c
    refine ⟨r.sta.2.2.2.2.1.1, fun _ x4 e4 => ?_, fun q2 => absurd (by rw [c]; decide) q2⟩
    rw [i64_md bt bd (by omega)] at e4
    have go : V_X7_next_87 K M2 (A 11) (A 11) (i32 k) (i32 t + 1) (i32 (min 157785119 (t + d * 1440))) := by
      unfold V_X7_next_87
      rw [q_1, i32_add, q_0, ej]
      refine ⟨r.sta.2.2.2.2.1.1, s7_walk (how := 0) (f := t + 1) (l := min 157785119 (t + d * 1440)) (r.om hj hu) (by omega) (by omega) (by omega) (fun M5 fd ft g5 a5 b5 u5 => kV_i ?_)⟩
      obtain ⟨r5, f5, c5⟩ := r.sm g5
      have hU := U.ls (p := mmC (stC S) j) (f := t + 1) (l := min 157785119 (t + d * 1440)) (by omega) (by omega) u5
      refine ⟨r5.sta.2.2.2.2.1.1, ?_⟩
      rw [b5]
      exact h3 j ft M5 ej hj hu ⟨qt, qd⟩ hU.1 (f.trans f5) r5 (c5.trans c)
    have hgt : (lg_cmp x4 (157785119 : Int64) ≤ 0) ↔ t + 1440 * d ≤ 157785119 := by
      have h9 := lg_cmp_gt x4 (157785119 : Int64)
      rw [Int64.lt_iff_toInt_lt, e4, i64_of (by omega) (by omega), show ((157785119 : Int64)).toInt = 157785119 by decide] at h9
      rw [e4]
      constructor
      · intro q; by_cases c : t + 1440 * d ≤ 157785119
        · exact c
        · exact absurd q (Int32.not_le.mpr (h9.mpr (by omega)))
      · intro q; by_cases c : lg_cmp (i32 (t + 1440 * d)).toInt64 157785119 ≤ 0
        · exact c
        · have := h9.mp (Int32.not_le.mp c); omega
    refine ⟨fun q => ?_, fun q => ?_⟩
    · have q' := hgt.mp q
      rw [e4, i64_32, show t + 1440 * d = min 157785119 (t + d * 1440) by omega]
      exact go
    · have q' : ¬ t + 1440 * d ≤ 157785119 := fun c => q (hgt.mpr c)
      rw [show (157785119 : Int32) = i32 (min 157785119 (t + d * 1440)) by rw [show min 157785119 (t + d * 1440) = 157785119 by omega]; decide]
      exact go
theorem l_next {G : Gx} {K : Rs → Mm → Prop} {B23 : Mm → Nat → Nat → Nat → Int32 → Prop} {A : Nat → Nat} {M : Mm} {S : St} {B : Int} {l4 : Int32} (hR : RG A M S B) (hv : Vi G l4) (nxt : ∀ M' S', RC A M' S' → RM A M' S' → SP S' (B + 1300000) → B23 M' (A 0) (A 11) (A 12) (l4 + 7)) : V_L_law_1064 G K B23 M (A 0) (A 11) (A 12) l4 := by
  obtain ⟨k, ek, bk⟩ := i32_of (gX G ((l4 + (1 : Int32))).toNatClampNeg)
  obtain ⟨t, et, bt⟩ := i32_of (gX G ((l4 + (2 : Int32))).toNatClampNeg)
  obtain ⟨d, ed, bd⟩ := i32_of (gX G ((l4 + (3 : Int32))).toNatClampNeg)
  obtain ⟨hC, hM, hP, _⟩ := hR
  obtain ⟨v1, v2, v3, v4, v5, v6⟩ := hv
  unfold V_L_law_1064 V_L_next
  rw [ek, et, ed]
  refine ⟨v1, v2, v3, hC.sta.2.1.1, c_next hC bk bt bd (fun q => kI_x (.inl ⟨rfl, kI_i ⟨v1, v2, v3, hC.sta.2.2.2.2.1.1, ?_⟩⟩)) (fun u q => kI_x (.inr ⟨rfl, kI_i ⟨v1, v2, v3, hC.sta.2.2.2.2.1.1, ?_⟩⟩)) (fun j v M' ej hj hu ok L f r => kI_i (outK r.sta (kI_i ?_)))⟩
  · exact m_next hM bk bt bd (fun _ M' f r c => kI_i (tail r.sta c (fun c => absurd c (by decide)) (nx7 nxt (hC.fr f.1) r hP))) (fun u => absurd u q) (fun j v M' ej hj hu => absurd (usd_j ej hj hu) q)
  · exact m_next hM bk bt bd (fun u' => absurd u u') (fun _ _ M' f r c => kI_i (tail r.sta c (fun c => absurd c (by decide)) (nx7 nxt (hC.fr f.1) r hP))) (fun j v M' ej hj hu ok => absurd ok q)
  · obtain ⟨hM', hC', ho⟩ := RG.out hM f r (i32 v).toInt64
    refine ⟨v1, v2, v3, hC'.sta.2.2.2.2.1.1, m_next hM' bk bt bd (fun u => absurd (usd_j ej hj hu) u) (fun _ q => absurd ok q) (fun j' v' M2 ej' hj' hu' _ L' f2 r2 c2 => kI_i (tail r2.sta c2 (fun _ => ?_) (nx7 nxt (hC'.fr f2.1) r2 hP)))⟩
    have e : j' = j := by omega
    subst e
    rw [f2.2, ho, Ls.eq L L']
