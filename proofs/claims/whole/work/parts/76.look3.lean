/-! before, between, matches -/
theorem c_before {K : Rs → Mm → Prop} {A : Nat → Nat} {M : Mm} {S : St} {k t d : Int} (h : RC A M S) (bk : -2147483648 ≤ k ∧ k ≤ 2147483647) (bt : -2147483648 ≤ t ∧ t ≤ 2147483647) (bd : -2147483648 ≤ d ∧ d ≤ 2147483647) (h1 : ¬ usd S k → K (.inr "java/lang/IndexOutOfBoundsException") M) (h2 : usd S k → ¬ ((0 ≤ t ∧ t ≤ 157785119) ∧ (0 ≤ d ∧ d ≤ 20000)) → K (.inr "java/lang/IllegalArgumentException") M)
    (h3 : ∀ (j : Nat) v M', k = j → j < 12 → cfU (stC S) j = true → (0 ≤ t ∧ t ≤ 157785119) ∧ (0 ≤ d ∧ d ≤ 20000) → Gs (mmC (stC S) j) (max 0 (t - d * 1440)) (t - 1) (-1) v → FC A M M' → RC A M' S → K (.inl (some (.int (i32 v)))) M') : V_X6_before K M (A 0) (i32 k) (i32 t) (i32 d) := by
  unfold V_X6_before
  refine ⟨h.sta.2.1.1, s_ordOf h bk (fun q => kR_x (h1 q)) (fun j ej hj hu => kR_s (s_ckM bt (fun q => kV_x (h2 (usd_j ej hj hu) (fun c => q c.1))) (fun qt => kV_i (s_ckD bd (fun q => kV_x (h2 (usd_j ej hj hu) (fun c => q c.2))) (fun qd => kV_i ?_)))))⟩
  rw [show (1440 : Int32) = i32 1440 by decide, i32_mul, i32_sub, q_1, i32_sub, q_0]
  refine s_max (by omega) (by omega) (kI_i ⟨(h.sta.2.2.2.1 j hj).1, ?_⟩)
  refine s_gM (f := max 0 (t - d * 1440)) (l := t - 1) (by omega) (by omega) (h.od hj hu) (fun M' v g kn L => kI_i ?_)
  obtain ⟨r, f⟩ := h.sc hj g kn
  exact h3 j v M' ej hj hu ⟨qt, qd⟩ L f r
theorem m_before {K : Rs → Mm → Prop} {A : Nat → Nat} {M : Mm} {S : St} {k t d : Int} (h : RM A M S) (bk : -2147483648 ≤ k ∧ k ≤ 2147483647) (bt : -2147483648 ≤ t ∧ t ≤ 2147483647) (bd : -2147483648 ≤ d ∧ d ≤ 2147483647) (h1 : ¬ usd S k → ∀ M', FM A M M' → RM A M' S → mI M' (A 11) 0 = 1 → K (.inl (some (.int 0))) M') (h2 : usd S k → ¬ ((0 ≤ t ∧ t ≤ 157785119) ∧ (0 ≤ d ∧ d ≤ 20000)) → ∀ M', FM A M M' → RM A M' S → mI M' (A 11) 0 = 2 → K (.inl (some (.int 0))) M')
    (h3 : ∀ (j : Nat) v M', k = j → j < 12 → cfU (stC S) j = true → (0 ≤ t ∧ t ≤ 157785119) ∧ (0 ≤ d ∧ d ≤ 20000) → Gs (mmC (stC S) j) (max 0 (t - d * 1440)) (t - 1) (-1) v → FM A M M' → RM A M' S → mI M' (A 11) 0 = 0 → K (.inl (some (.int (i32 v)))) M') : V_X7_before K M (A 11) (i32 k) (i32 t) (i32 d) := by
  have o : ob M (A 11) 7 := h.sta.2.2.2.2.1.1
  unfold V_X7_before V_X7_before_37 V_X7_before_42
  have err : ∀ (w : Int32), ¬ w ≤ 0 → ∀ M2, M2 = sI M (A 11) 0 w → (∀ M', FM A M M' → RM A M' S → mI M' (A 11) 0 = w → K (.inl (some (.int 0))) M') → ob M2 (A 11) 7 ∧ (mI M2 (A 11) 0 ≤ 0 → ∀ x4 : Int32, x4 = (i32 t - ((1440 : Int32) * i32 d)) → ((0 ≤ x4 → V_X7_before_76 K M2 (A 11) (i32 t) (A 11) (i32 k) x4) ∧ (¬ 0 ≤ x4 → V_X7_before_76 K M2 (A 11) (i32 t) (A 11) (i32 k) (0 : Int32)))) ∧ (¬ mI M2 (A 11) 0 ≤ 0 → K (.inl (some (.int 0))) M2) := by
    intro w hw M2 e2 hk
    obtain ⟨r, f, c⟩ := h.w0 w
    rw [← e2] at r f c
    exact ⟨r.sta.2.2.2.2.1.1, fun q2 => by rw [c] at q2; exact absurd q2 hw, fun _ => hk M2 f r c⟩
  refine ⟨o, s7_none h bk (fun q => kI_i ⟨fun c => absurd c (by decide), fun _ => ⟨o, fun M2 e2 => err 1 (by decide) M2 e2 (h1 q)⟩⟩) (fun j ej hj hu => kI_i ⟨fun _ => ?_, fun c => absurd rfl c⟩)⟩
  have bad : ¬ ((0 ≤ t ∧ t ≤ 157785119) ∧ (0 ≤ d ∧ d ≤ 20000)) → ∀ M2, M2 = sI M (A 11) 0 2 → _ := fun q M2 e2 => err 2 (by decide) M2 e2 (h2 (usd_j ej hj hu) q)
  refine s7_in (l := 0) (u := 157785119) bt.1 bt.2 (by decide) (by decide) (kI_i ?_)
  rw [bI_ne0 (decide (0 ≤ t ∧ t ≤ 157785119)), bI_0 (decide (0 ≤ t ∧ t ≤ 157785119)), decide_eq_true_iff, decide_eq_false_iff_not]
  refine ⟨fun q => ⟨o, bad (fun c => q c.1)⟩, fun qt => s7_in (l := 0) (u := 20000) bd.1 bd.2 (by decide) (by decide) (kI_i ?_)⟩
  rw [bI_ne0 (decide (0 ≤ d ∧ d ≤ 20000)), bI_0 (decide (0 ≤ d ∧ d ≤ 20000)), decide_eq_true_iff, decide_eq_false_iff_not]
  refine ⟨fun qd => ⟨o, fun M2 e2 => ?_⟩, fun q => ⟨o, bad (fun c => q c.2)⟩⟩
  obtain ⟨r, f, c⟩ := h.w0 0
  rw [← e2] at r f c
  refine ⟨r.sta.2.2.2.2.1.1, fun _ x4 e4 => ?_, fun q2 => absurd (by rw [c]; decide) q2⟩
  rw [show (1440 : Int32) = i32 1440 by decide, i32_mul, i32_sub] at e4
  have go : V_X7_before_76 K M2 (A 11) (i32 t) (A 11) (i32 k) (i32 (max 0 (t - d * 1440))) := by
    unfold V_X7_before_76
    rw [q_1, i32_sub, ej]
    refine ⟨r.sta.2.2.2.2.1.1, s7_walk (how := 1) (f := max 0 (t - d * 1440)) (l := t - 1) (r.om hj hu) (by omega) (by omega) (by omega) (fun M5 fd ft g5 a5 b5 u5 => kV_i ?_)⟩
    obtain ⟨r5, f5, c5⟩ := r.sm g5
    have hU := U.gs (p := mmC (stC S) j) (f := max 0 (t - d * 1440)) (l := t - 1) (by omega) (by omega) u5
    refine ⟨r5.sta.2.2.2.2.1.1, ?_⟩
    rw [b5]
    exact h3 j ft M5 ej hj hu ⟨qt, qd⟩ hU.1 (f.trans f5) r5 (c5.trans c)
  rw [e4, q_0, i32_le (by omega) (by omega) (by omega) (by omega)]
  refine ⟨fun q => ?_, fun q => ?_⟩
  · rw [show t - 1440 * d = max 0 (t - d * 1440) by omega]; exact go
  · rw [show (0 : Int) = max 0 (t - d * 1440) by omega]; exact go
theorem l_before {G : Gx} {K : Rs → Mm → Prop} {B23 : Mm → Nat → Nat → Nat → Int32 → Prop} {A : Nat → Nat} {M : Mm} {S : St} {B : Int} {l4 : Int32} (hR : RG A M S B) (hv : Vi G l4) (nxt : ∀ M' S', RC A M' S' → RM A M' S' → SP S' (B + 1300000) → B23 M' (A 0) (A 11) (A 12) (l4 + 7)) : V_L_law_1144 G K B23 M (A 0) (A 11) (A 12) l4 := by
  obtain ⟨k, ek, bk⟩ := i32_of (gX G ((l4 + (1 : Int32))).toNatClampNeg)
  obtain ⟨t, et, bt⟩ := i32_of (gX G ((l4 + (2 : Int32))).toNatClampNeg)
  obtain ⟨d, ed, bd⟩ := i32_of (gX G ((l4 + (3 : Int32))).toNatClampNeg)
  obtain ⟨hC, hM, hP, _⟩ := hR
  obtain ⟨v1, v2, v3, v4, v5, v6⟩ := hv
  unfold V_L_law_1144 V_L_before
  rw [ek, et, ed]
  refine ⟨v1, v2, v3, hC.sta.2.1.1, c_before hC bk bt bd (fun q => kI_x (.inl ⟨rfl, kI_i ⟨v1, v2, v3, hC.sta.2.2.2.2.1.1, ?_⟩⟩)) (fun u q => kI_x (.inr ⟨rfl, kI_i ⟨v1, v2, v3, hC.sta.2.2.2.2.1.1, ?_⟩⟩)) (fun j v M' ej hj hu ok L f r => kI_i (outK r.sta (kI_i ?_)))⟩
  · exact m_before hM bk bt bd (fun _ M' f r c => kI_i (tail r.sta c (fun c => absurd c (by decide)) (nx7 nxt (hC.fr f.1) r hP))) (fun u => absurd u q) (fun j v M' ej hj hu => absurd (usd_j ej hj hu) q)
  · exact m_before hM bk bt bd (fun u' => absurd u u') (fun _ _ M' f r c => kI_i (tail r.sta c (fun c => absurd c (by decide)) (nx7 nxt (hC.fr f.1) r hP))) (fun j v M' ej hj hu ok => absurd ok q)
  · obtain ⟨hM', hC', ho⟩ := RG.out hM f r (i32 v).toInt64
    refine ⟨v1, v2, v3, hC'.sta.2.2.2.2.1.1, m_before hM' bk bt bd (fun u => absurd (usd_j ej hj hu) u) (fun _ q => absurd ok q) (fun j' v' M2 ej' hj' hu' _ L' f2 r2 c2 => kI_i (tail r2.sta c2 (fun _ => ?_) (nx7 nxt (hC'.fr f2.1) r2 hP)))⟩
    have e : j' = j := by omega
    subst e
    rw [f2.2, ho, Gs.eq L L']
theorem c_betw {K : Rs → Mm → Prop} {A : Nat → Nat} {M : Mm} {S : St} {k t d : Int} (h : RC A M S) (bk : -2147483648 ≤ k ∧ k ≤ 2147483647) (bt : -2147483648 ≤ t ∧ t ≤ 2147483647) (bd : -2147483648 ≤ d ∧ d ≤ 2147483647) (h1 : ¬ usd S k → K (.inr "java/lang/IndexOutOfBoundsException") M) (h2 : usd S k → ¬ ((0 ≤ t ∧ t ≤ 157785119) ∧ (t ≤ d ∧ d ≤ 157785119) ∧ d - t ≤ 28800000) → K (.inr "java/lang/IllegalArgumentException") M)
    (h3 : ∀ (j : Nat) M', k = j → j < 12 → cfU (stC S) j = true → (0 ≤ t ∧ t ≤ 157785119) ∧ (t ≤ d ∧ d ≤ 157785119) ∧ d - t ≤ 28800000 → FC A M M' → RC A M' S → K (.inl (some (.int (i32 (cI (mmC (stC S) j) (t + 1) d : Nat))))) M') : V_X6_between K M (A 0) (i32 k) (i32 t) (i32 d) := by
  unfold V_X6_between V_X6_between_28
  refine ⟨h.sta.2.1.1, s_ordOf h bk (fun q => kR_x (h1 q)) (fun j ej hj hu => kR_s (s_ckM bt (fun q => kV_x (h2 (usd_j ej hj hu) (fun c => q c.1))) (fun qt => kV_i (s_ckM bd (fun q => kV_x (h2 (usd_j ej hj hu) (fun c => by have := c.1; have := c.2.1; omega))) (fun qd => kV_i ?_)))))⟩
  rw [show (28800000 : Int32) = i32 28800000 by decide, i32_lt (by omega) (by omega) (by omega) (by omega), i32_sub, i32_le (by omega) (by omega) (by omega) (by omega)]
  refine ⟨fun q => h2 (usd_j ej hj hu) (fun c => by have := c.2.1; omega), fun q => ⟨fun q2 => ⟨(h.sta.2.2.2.1 j hj).1, ?_⟩, fun q2 => h2 (usd_j ej hj hu) (fun c => q2 c.2.2)⟩⟩
  rw [q_1, i32_add]
  refine s_mI (f := t + 1) (l := d) (by omega) (by omega) (by omega) (h.od hj hu) (fun M' g kn => kI_i ?_)
  obtain ⟨r, f⟩ := h.sc hj g kn
  exact h3 j M' ej hj hu ⟨qt, ⟨by omega, qd.2⟩, q2⟩ f r
theorem m_betw {K : Rs → Mm → Prop} {A : Nat → Nat} {M : Mm} {S : St} {k t d : Int} (h : RM A M S) (bk : -2147483648 ≤ k ∧ k ≤ 2147483647) (bt : -2147483648 ≤ t ∧ t ≤ 2147483647) (bd : -2147483648 ≤ d ∧ d ≤ 2147483647) (h1 : ¬ usd S k → ∀ M', FM A M M' → RM A M' S → mI M' (A 11) 0 = 1 → K (.inl (some (.int 0))) M') (h2 : usd S k → ¬ ((0 ≤ t ∧ t ≤ 157785119) ∧ (t ≤ d ∧ d ≤ 157785119) ∧ d - t ≤ 28800000) → ∀ M', FM A M M' → RM A M' S → mI M' (A 11) 0 = 2 → K (.inl (some (.int 0))) M')
    (h3 : ∀ (j : Nat) M', k = j → j < 12 → cfU (stC S) j = true → (0 ≤ t ∧ t ≤ 157785119) ∧ (t ≤ d ∧ d ≤ 157785119) ∧ d - t ≤ 28800000 → FM A M M' → RM A M' S → mI M' (A 11) 0 = 0 → K (.inl (some (.int (i32 (cI (mmC (stC S) j) (t + 1) d : Nat))))) M') : V_X7_between K M (A 11) (i32 k) (i32 t) (i32 d) := by
  have o : ob M (A 11) 7 := h.sta.2.2.2.2.1.1
  unfold V_X7_between V_X7_between_47 V_X7_between_52
  have err : ∀ (w : Int32), ¬ w ≤ 0 → ∀ M2, M2 = sI M (A 11) 0 w → (∀ M', FM A M M' → RM A M' S → mI M' (A 11) 0 = w → K (.inl (some (.int 0))) M') → ob M2 (A 11) 7 ∧ (mI M2 (A 11) 0 ≤ 0 → V_X7_walk (kV (fun M4 => (ob M4 (A 11) 7 ∧ K (.inl (some (.int (mI M4 (A 11) 49)))) M4)) (fun _ _ => False)) M2 (A 11) (i32 k) (i32 t + (1 : Int32)) (i32 d) (2 : Int32)) ∧ (¬ mI M2 (A 11) 0 ≤ 0 → K (.inl (some (.int 0))) M2) := by
    intro w hw M2 e2 hk
    obtain ⟨r, f, c⟩ := h.w0 w
    rw [← e2] at r f c
    exact ⟨r.sta.2.2.2.2.1.1, fun q2 => by rw [c] at q2; exact absurd q2 hw, fun _ => hk M2 f r c⟩
  refine ⟨o, s7_none h bk (fun q => kI_i ⟨fun c => absurd c (by decide), fun _ => ⟨o, fun M2 e2 => err 1 (by decide) M2 e2 (h1 q)⟩⟩) (fun j ej hj hu => kI_i ⟨fun _ => ?_, fun c => absurd rfl c⟩)⟩
  have bad : ¬ ((0 ≤ t ∧ t ≤ 157785119) ∧ (t ≤ d ∧ d ≤ 157785119) ∧ d - t ≤ 28800000) → ∀ M2, M2 = sI M (A 11) 0 2 → _ := fun q M2 e2 => err 2 (by decide) M2 e2 (h2 (usd_j ej hj hu) q)
  refine s7_in (l := 0) (u := 157785119) bt.1 bt.2 (by decide) (by decide) (kI_i ?_)
  rw [bI_ne0 (decide (0 ≤ t ∧ t ≤ 157785119)), bI_0 (decide (0 ≤ t ∧ t ≤ 157785119)), decide_eq_true_iff, decide_eq_false_iff_not]
  refine ⟨fun q => ⟨o, bad (fun c => q c.1)⟩, fun qt => s7_in (l := t) (u := 157785119) bd.1 bd.2 (i64_of bt.1 bt.2) (by decide) (kI_i ?_)⟩
  rw [bI_ne0 (decide (t ≤ d ∧ d ≤ 157785119)), bI_0 (decide (t ≤ d ∧ d ≤ 157785119)), decide_eq_true_iff, decide_eq_false_iff_not]
  refine ⟨fun q => ⟨o, bad (fun c => q c.2.1)⟩, fun qd => ?_⟩
  rw [show (28800000 : Int32) = i32 28800000 by decide, i32_sub, i32_le (by omega) (by omega) (by omega) (by omega)]
  refine ⟨fun q3 => ⟨o, fun M2 e2 => ?_⟩, fun q => ⟨o, bad (fun c => q c.2.2)⟩⟩
  obtain ⟨r, f, c⟩ := h.w0 0
  rw [← e2] at r f c
  refine ⟨r.sta.2.2.2.2.1.1, fun _ => ?_, fun q2 => absurd (by rw [c]; decide) q2⟩
  rw [q_1, i32_add, ej, q_2]
  refine s7_walk (how := 2) (f := t + 1) (l := d) (r.om hj hu) (by omega) (by omega) (by omega) (fun M5 fd ft g5 a5 b5 u5 => kV_i ?_)
  obtain ⟨r5, f5, c5⟩ := r.sm g5
  have hU := U.ci (p := mmC (stC S) j) (f := t + 1) (l := d) u5
  refine ⟨r5.sta.2.2.2.2.1.1, ?_⟩
  rw [a5, hU]
  exact h3 j M5 ej hj hu ⟨qt, qd, q3⟩ (f.trans f5) r5 (c5.trans c)
theorem l_betw {G : Gx} {K : Rs → Mm → Prop} {B23 : Mm → Nat → Nat → Nat → Int32 → Prop} {A : Nat → Nat} {M : Mm} {S : St} {B : Int} {l4 : Int32} (hR : RG A M S B) (hv : Vi G l4) (nxt : ∀ M' S', RC A M' S' → RM A M' S' → SP S' (B + 1300000) → B23 M' (A 0) (A 11) (A 12) (l4 + 7)) : V_L_law_1224 G K B23 M (A 0) (A 11) (A 12) l4 := by
  obtain ⟨k, ek, bk⟩ := i32_of (gX G ((l4 + (1 : Int32))).toNatClampNeg)
  obtain ⟨t, et, bt⟩ := i32_of (gX G ((l4 + (2 : Int32))).toNatClampNeg)
  obtain ⟨d, ed, bd⟩ := i32_of (gX G ((l4 + (3 : Int32))).toNatClampNeg)
  obtain ⟨hC, hM, hP, _⟩ := hR
  obtain ⟨v1, v2, v3, v4, v5, v6⟩ := hv
  unfold V_L_law_1224 V_L_between
  rw [ek, et, ed]
  refine ⟨v1, v2, v3, hC.sta.2.1.1, c_betw hC bk bt bd (fun q => kI_x (.inl ⟨rfl, kI_i ⟨v1, v2, v3, hC.sta.2.2.2.2.1.1, ?_⟩⟩)) (fun u q => kI_x (.inr ⟨rfl, kI_i ⟨v1, v2, v3, hC.sta.2.2.2.2.1.1, ?_⟩⟩)) (fun j M' ej hj hu ok f r => kI_i (outK r.sta (kI_i ?_)))⟩
  · exact m_betw hM bk bt bd (fun _ M' f r c => kI_i (tail r.sta c (fun c => absurd c (by decide)) (nx7 nxt (hC.fr f.1) r hP))) (fun u => absurd u q) (fun j M' ej hj hu => absurd (usd_j ej hj hu) q)
  · exact m_betw hM bk bt bd (fun u' => absurd u u') (fun _ _ M' f r c => kI_i (tail r.sta c (fun c => absurd c (by decide)) (nx7 nxt (hC.fr f.1) r hP))) (fun j M' ej hj hu ok => absurd ok q)
  · obtain ⟨hM', hC', ho⟩ := RG.out hM f r (i32 (cI (mmC (stC S) j) (t + 1) d : Nat)).toInt64
    refine ⟨v1, v2, v3, hC'.sta.2.2.2.2.1.1, m_betw hM' bk bt bd (fun u => absurd (usd_j ej hj hu) u) (fun _ q => absurd ok q) (fun j' M2 ej' hj' hu' _ f2 r2 c2 => kI_i (tail r2.sta c2 (fun _ => ?_) (nx7 nxt (hC'.fr f2.1) r2 hP)))⟩
    have e : j' = j := by omega
    subst e
    rw [f2.2, ho]
