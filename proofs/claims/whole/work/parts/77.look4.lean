/-! matches, field, fault, tear -/
def bJ (b : Bool) : Int64 := if b = true then 1 else 0
theorem tailB {A : Nat → Nat} {M : Mm} {co : Int32} {b : Bool} {B F : Mm → Prop} (hs : Sta A M) (h0 : mI M (A 11) 0 = co) (hv : co = 0 → mJ M (A 12) 0 = bJ b) (h : B M) :
    ob M (A 11) 7 ∧ V_X7_thrown (kI (fun r10 M9 => ((r10 = co → ((¬ co = 0 → B M9) ∧ (co = 0 → (ob M9 (A 12) 10 ∧ (vp_in (0 : Int32) (mN M9 (A 12)) ∧ ((bI b = 0 → ((lg_cmp (mJ M9 (A 12) ((0 : Int32)).toNatClampNeg) (0 : Int64) = 0 → B M9) ∧ (¬ lg_cmp (mJ M9 (A 12) ((0 : Int32)).toNatClampNeg) (0 : Int64) = 0 → F M9))) ∧ (¬ bI b = 0 → ((lg_cmp (mJ M9 (A 12) ((0 : Int32)).toNatClampNeg) (1 : Int64) = 0 → B M9) ∧ (¬ lg_cmp (mJ M9 (A 12) ((0 : Int32)).toNatClampNeg) (1 : Int64) = 0 → F M9))))))))) ∧ (¬ r10 = co → F M9))) (fun _ _ => False)) M (A 11) := by
  unfold V_X7_thrown
  refine ⟨hs.2.2.2.2.1.1, hs.2.2.2.2.1.1, kI_i ⟨fun _ => ⟨fun _ => h, fun q => ⟨hs.2.2.2.2.2.1, ?_, fun qb => ⟨fun _ => h, fun q2 => ?_⟩, fun qb => ⟨fun _ => h, fun q2 => ?_⟩⟩⟩, fun q => absurd h0 q⟩⟩
  · rw [hs.2.2.2.2.2.2, q_0]; exact i32_in (by omega) (by omega) (by omega)
  · refine absurd ?_ q2
    rw [bI_0 b] at qb
    rw [show ((0 : Int32)).toNatClampNeg = 0 by decide, hv q, lg_cmp_eq, qb]; rfl
  · refine absurd ?_ q2
    rw [bI_ne0 b] at qb
    rw [show ((0 : Int32)).toNatClampNeg = 0 by decide, hv q, lg_cmp_eq, qb]; rfl
theorem c_match {K : Rs → Mm → Prop} {A : Nat → Nat} {M : Mm} {S : St} {k t : Int} (h : RC A M S) (bk : -2147483648 ≤ k ∧ k ≤ 2147483647) (bt : -2147483648 ≤ t ∧ t ≤ 2147483647) (h1 : ¬ usd S k → K (.inr "java/lang/IndexOutOfBoundsException") M) (h2 : usd S k → ¬ (0 ≤ t ∧ t ≤ 157785119) → K (.inr "java/lang/IllegalArgumentException") M)
    (h3 : ∀ (j : Nat) M', k = j → j < 12 → cfU (stC S) j = true → (0 ≤ t ∧ t ≤ 157785119) → FC A M M' → RC A M' S → K (.inl (some (.int (bI (mmC (stC S) j t))))) M') : V_X6_matches K M (A 0) (i32 k) (i32 t) := by
  unfold V_X6_matches V_X6_matches_25
  refine ⟨h.sta.2.1.1, s_ordOf h bk (fun q => kR_x (h1 q)) (fun j ej hj hu => kR_s (s_ckM bt (fun q => kV_x (h2 (usd_j ej hj hu) q)) (fun qt => kV_i ⟨(h.sta.2.2.2.1 j hj).1, ?_⟩)))⟩
  refine s_lM (f := t) (l := t) (by omega) (by omega) (h.od hj hu) (fun M' v g kn L => kI_i ?_)
  obtain ⟨r, f⟩ := h.sc hj g kn
  have L : Ls (mmC (stC S) j) t t (-1) v := L
  have hk := h3 j M' ej hj hu qt f r
  rw [i32_eq (by rcases L with a | a <;> omega) (by rcases L with a | a <;> omega) (by omega) (by omega)]
  rcases L with ⟨a1, a2⟩ | ⟨a1, a2, a3, a4⟩
  · rw [a2 t (by omega) (by omega)] at hk
    exact ⟨fun _ => ⟨.inl rfl, hk⟩, fun q => by omega⟩
  · have e : v = t := by omega
    rw [e] at a3
    rw [a3] at hk
    exact ⟨fun q => absurd e q, fun _ => ⟨.inr rfl, hk⟩⟩
theorem m_match {K : Rs → Mm → Prop} {A : Nat → Nat} {M : Mm} {S : St} {k t : Int} (h : RM A M S) (bk : -2147483648 ≤ k ∧ k ≤ 2147483647) (bt : -2147483648 ≤ t ∧ t ≤ 2147483647) (h1 : ¬ usd S k → ∀ M', FM A M M' → RM A M' S → mI M' (A 11) 0 = 1 → K (.inl (some (.int (bI false)))) M') (h2 : usd S k → ¬ (0 ≤ t ∧ t ≤ 157785119) → ∀ M', FM A M M' → RM A M' S → mI M' (A 11) 0 = 2 → K (.inl (some (.int (bI false)))) M')
    (h3 : ∀ (j : Nat) M', k = j → j < 12 → cfU (stC S) j = true → (0 ≤ t ∧ t ≤ 157785119) → FM A M M' → RM A M' S → mI M' (A 11) 0 = 0 → K (.inl (some (.int (bI (mmC (stC S) j t))))) M') : V_X7_matches K M (A 11) (i32 k) (i32 t) := by
  have o : ob M (A 11) 7 := h.sta.2.2.2.2.1.1
  unfold V_X7_matches V_X7_matches_30 V_X7_matches_53 V_X7_matches_54
  refine ⟨o, s7_none h bk (fun q => kI_i ⟨fun c => absurd c (by decide), fun _ => ⟨o, fun M2 e2 => ?_⟩⟩) (fun j ej hj hu => kI_i ⟨fun _ => ?_, fun c => absurd rfl c⟩)⟩
  · obtain ⟨r, f, c⟩ := h.w0 1
    rw [← e2] at r f c
    refine ⟨r.sta.2.2.2.2.1.1, fun _ => ⟨.inl rfl, h1 q M2 f r c⟩, fun q2 => ?_⟩
    rw [c] at q2; exact absurd q2 (by decide)
  · refine s7_in (l := 0) (u := 157785119) bt.1 bt.2 (by decide) (by decide) (kI_i ?_)
    rw [bI_ne0 (decide (0 ≤ t ∧ t ≤ 157785119)), bI_0 (decide (0 ≤ t ∧ t ≤ 157785119)), decide_eq_true_iff, decide_eq_false_iff_not]
    refine ⟨fun qt => ⟨o, fun M2 e2 => ?_⟩, fun q => ⟨o, fun M2 e2 => ?_⟩⟩
    · obtain ⟨r, f, c⟩ := h.w0 0
      rw [← e2] at r f c
      refine ⟨r.sta.2.2.2.2.1.1, fun q2 => absurd c q2, fun _ => ?_⟩
      rw [ej]
      refine s7_match (r.om hj hu) qt (fun M4 g4 => kI_i ?_)
      obtain ⟨r4, f4, c4⟩ := r.sm g4
      have hk := h3 j M4 ej hj hu qt (f.trans f4) r4 (c4.trans c)
      have em : mt (cfB (stC S) j) (cfR (stC S) j) (cfO (stC S) (cfZ (stC S) j)) t = mmC (stC S) j t := rfl
      rw [em, bI_ne0 (mmC (stC S) j t), bI_0 (mmC (stC S) j t)]
      exact ⟨fun q => ⟨.inl rfl, by rw [q] at hk; exact hk⟩, fun q => ⟨.inr rfl, by rw [q] at hk; exact hk⟩⟩
    · obtain ⟨r, f, c⟩ := h.w0 2
      rw [← e2] at r f c
      refine ⟨r.sta.2.2.2.2.1.1, fun _ => ⟨.inl rfl, h2 (usd_j ej hj hu) q M2 f r c⟩, fun q2 => ?_⟩
      rw [c] at q2; exact absurd q2 (by decide)
theorem l_match {G : Gx} {K : Rs → Mm → Prop} {B23 : Mm → Nat → Nat → Nat → Int32 → Prop} {A : Nat → Nat} {M : Mm} {S : St} {B : Int} {l4 : Int32} (hR : RG A M S B) (hv : Vi G l4) (nxt : ∀ M' S', RC A M' S' → RM A M' S' → SP S' (B + 1300000) → B23 M' (A 0) (A 11) (A 12) (l4 + 7)) : V_L_law_989 G K B23 M (A 0) (A 11) (A 12) l4 := by
  obtain ⟨k, ek, bk⟩ := i32_of (gX G ((l4 + (1 : Int32))).toNatClampNeg)
  obtain ⟨t, et, bt⟩ := i32_of (gX G ((l4 + (2 : Int32))).toNatClampNeg)
  obtain ⟨hC, hM, hP, _⟩ := hR
  obtain ⟨v1, v2, v3, v4, v5, v6⟩ := hv
  unfold V_L_law_989 V_L_matches V_L_matches_16 V_L_law_1055
  rw [ek, et]
  refine ⟨v1, v2, hC.sta.2.1.1, c_match hC bk bt (fun q => kI_x (.inl ⟨rfl, kI_i ⟨v1, v2, hC.sta.2.2.2.2.1.1, ?_⟩⟩)) (fun u q => kI_x (.inr ⟨rfl, kI_i ⟨v1, v2, hC.sta.2.2.2.2.1.1, ?_⟩⟩)) (fun j M' ej hj hu ok f r => kI_i ?_)⟩
  · exact m_match hM bk bt (fun _ M' f r c => kI_i (tailB r.sta c (fun c => absurd c (by decide)) (nx7 nxt (hC.fr f.1) r hP))) (fun u => absurd u q) (fun j M' ej hj hu => absurd (usd_j ej hj hu) q)
  · exact m_match hM bk bt (fun u' => absurd u u') (fun _ _ M' f r c => kI_i (tailB r.sta c (fun c => absurd c (by decide)) (nx7 nxt (hC.fr f.1) r hP))) (fun j M' ej hj hu ok => absurd ok q)
  · obtain ⟨hM', hC', ho⟩ := RG.out hM f r (bJ (mmC (stC S) j t))
    have fin : kI (fun r4 M3 => vp_in (l4 + 1) (gS G 201) ∧ vp_in (l4 + 2) (gS G 201) ∧ ob M3 (A 11) 7 ∧ V_X7_matches (kI (fun r9 M8 => ob M8 (A 11) 7 ∧ V_X7_thrown (kI (fun r12 M11 => (r12 = r4 → (¬r4 = 0 → V_L_law_1061 G K B23 M11 (A 0) (A 11) (A 12) l4) ∧ (r4 = 0 → ob M11 (A 12) 10 ∧ vp_in 0 (mN M11 (A 12)) ∧ (r9 = 0 → (lg_cmp (mJ M11 (A 12) (0 : Int32).toNatClampNeg) 0 = 0 → V_L_law_1061 G K B23 M11 (A 0) (A 11) (A 12) l4) ∧ (¬lg_cmp (mJ M11 (A 12) (0 : Int32).toNatClampNeg) 0 = 0 → K (.inl (some (.int 0))) M11)) ∧ (¬r9 = 0 → (lg_cmp (mJ M11 (A 12) (0 : Int32).toNatClampNeg) 1 = 0 → V_L_law_1061 G K B23 M11 (A 0) (A 11) (A 12) l4) ∧ (¬lg_cmp (mJ M11 (A 12) (0 : Int32).toNatClampNeg) 1 = 0 → K (.inl (some (.int 0))) M11)))) ∧ (¬r12 = r4 → K (.inl (some (.int 0))) M11)) fun x x_1 => False) M8 (A 11)) fun x x_1 => False) M3 (A 11) (i32 k) (i32 t)) (fun x x_1 => False) (.inl (some (.int 0))) (sJ M' (A 12) 0 (bJ (mmC (stC S) j t))) := by
      refine kI_i ⟨v1, v2, hC'.sta.2.2.2.2.1.1, m_match hM' bk bt (fun u => absurd (usd_j ej hj hu) u) (fun _ q => absurd ok q) (fun j' M2 ej' hj' hu' _ f2 r2 c2 => kI_i (tailB r2.sta c2 (fun _ => ?_) (nx7 nxt (hC'.fr f2.1) r2 hP)))⟩
      have e : j' = j := by omega
      subst e
      rw [f2.2, ho]
    rw [bI_ne0 (mmC (stC S) j t), bI_0 (mmC (stC S) j t)]
    refine ⟨fun q => outK r.sta ?_, fun q => outK r.sta ?_⟩
    · rw [q] at fin; exact fin
    · rw [q] at fin; exact fin
theorem c_field {K : Rs → Mm → Prop} {A : Nat → Nat} {M : Mm} {S : St} {k t : Int} (h : RC A M S) (bk : -2147483648 ≤ k ∧ k ≤ 2147483647) (bt : -2147483648 ≤ t ∧ t ≤ 2147483647) (h1 : ¬ usd S k → K (.inr "java/lang/IndexOutOfBoundsException") M) (h2 : usd S k → ¬ (0 ≤ t ∧ t ≤ 4) → K (.inr "java/lang/IllegalArgumentException") M)
    (h3 : ∀ (j : Nat), k = j → j < 12 → cfU (stC S) j = true → (0 ≤ t ∧ t ≤ 4) → K (.inl (some (.long (rN (cfR (stC S) j) t.toNat)))) M) : V_X6_field K M (A 0) (i32 k) (i32 t) := by
  unfold V_X6_field V_X6_field_15
  refine ⟨h.sta.2.1.1, s_ordOf h bk (fun q => kR_x (h1 q)) (fun j ej hj hu => kR_s ?_)⟩
  rw [q_0, show (4 : Int32) = i32 4 by decide, i32_lt (by omega) (by omega) (by omega) (by omega), i32_le (by omega) (by omega) (by omega) (by omega)]
  obtain ⟨d1, d2, d3, ⟨⟨e0, e1, e2, e3, e4, e5, e6, e7, e8, e9⟩, d4v⟩, _⟩ := h.od hj hu
  refine ⟨fun q => h2 (usd_j ej hj hu) (by omega), fun q => ⟨fun q2 => ⟨d1, A (41 + 10 * j), d2, e1, A (43 + 10 * j), e6, e3, by rw [e8]; exact i32_in (by omega) (by omega) (by omega), ?_⟩, fun q2 => h2 (usd_j ej hj hu) (by omega)⟩⟩
  rw [i32_clamp (by omega) (by omega), d4v.1 t.toNat (by omega)]
  exact h3 j ej hj hu (by omega)
theorem m_field {K : Rs → Mm → Prop} {A : Nat → Nat} {M : Mm} {S : St} {k t : Int} (h : RM A M S) (bk : -2147483648 ≤ k ∧ k ≤ 2147483647) (bt : -2147483648 ≤ t ∧ t ≤ 2147483647) (h1 : ¬ usd S k → ∀ M', FM A M M' → RM A M' S → mI M' (A 11) 0 = 1 → K (.inl (some (.long 0))) M') (h2 : usd S k → ¬ (0 ≤ t ∧ t ≤ 4) → ∀ M', FM A M M' → RM A M' S → mI M' (A 11) 0 = 2 → K (.inl (some (.long 0))) M')
    (h3 : ∀ (j : Nat) M', k = j → j < 12 → cfU (stC S) j = true → (0 ≤ t ∧ t ≤ 4) → FM A M M' → RM A M' S → mI M' (A 11) 0 = 0 → K (.inl (some (.long (rN (cfR (stC S) j) t.toNat)))) M') : V_X7_field K M (A 11) (i32 k) (i32 t) := by
  have o : ob M (A 11) 7 := h.sta.2.2.2.2.1.1
  unfold V_X7_field V_X7_field_30 V_X7_field_54
  refine ⟨o, s7_none h bk (fun q => kI_i ⟨fun c => absurd c (by decide), fun _ => ⟨o, fun M2 e2 => ?_⟩⟩) (fun j ej hj hu => kI_i ⟨fun _ => ?_, fun c => absurd rfl c⟩)⟩
  · obtain ⟨r, f, c⟩ := h.w0 1
    rw [← e2] at r f c
    refine ⟨r.sta.2.2.2.2.1.1, fun q2 => ?_, fun _ => h1 q M2 f r c⟩
    rw [c] at q2; exact absurd q2 (by decide)
  · refine s7_in (l := 0) (u := 4) bt.1 bt.2 (by decide) (by decide) (kI_i ?_)
    rw [bI_ne0 (decide (0 ≤ t ∧ t ≤ 4)), bI_0 (decide (0 ≤ t ∧ t ≤ 4)), decide_eq_true_iff, decide_eq_false_iff_not]
    refine ⟨fun qt => ⟨o, fun M2 e2 => ?_⟩, fun q => ⟨o, fun M2 e2 => ?_⟩⟩
    · obtain ⟨r, f, c⟩ := h.w0 0
      rw [← e2] at r f c
      have md := r.sta.2.2.2.2.1
      have p32 := md.p 32 10 60 (by decide)
      refine ⟨md.1, fun _ => ⟨A 232, p32.1, p32.2.1, ?_⟩, fun q2 => absurd (by rw [c]; decide) q2⟩
      rw [show (5 : Int32) = i32 5 by decide, i32_mul, i32_add]
      refine ⟨by show vp_in _ (mN M2 (A (200 + 32))); rw [p32.2.2.1]; exact i32_in (by omega) (by omega) (by omega), ?_⟩
      have := (r.om hj hu).2.2.1.1 t.toNat (by omega)
      have e : mJ M2 (A 232) (i32 (5 * k + t)).toNatClampNeg = rN (cfR (stC S) j) t.toNat := by
        rw [i32_clamp (by omega) (by omega), ← this, show (5 * k + t).toNat = 5 * j + t.toNat by omega]
      rw [e]
      exact h3 j M2 ej hj hu qt f r c
    · obtain ⟨r, f, c⟩ := h.w0 2
      rw [← e2] at r f c
      refine ⟨r.sta.2.2.2.2.1.1, fun q2 => ?_, fun _ => h2 (usd_j ej hj hu) q M2 f r c⟩
      rw [c] at q2; exact absurd q2 (by decide)
theorem l_field {G : Gx} {K : Rs → Mm → Prop} {B23 : Mm → Nat → Nat → Nat → Int32 → Prop} {A : Nat → Nat} {M : Mm} {S : St} {B : Int} {l4 : Int32} (hR : RG A M S B) (hv : Vi G l4) (nxt : ∀ M' S', RC A M' S' → RM A M' S' → SP S' (B + 1300000) → B23 M' (A 0) (A 11) (A 12) (l4 + 7)) : V_L_law_811 G K B23 M (A 0) (A 11) (A 12) l4 := by
  obtain ⟨k, ek, bk⟩ := i32_of (gX G ((l4 + (1 : Int32))).toNatClampNeg)
  obtain ⟨t, et, bt⟩ := i32_of (gX G ((l4 + (2 : Int32))).toNatClampNeg)
  obtain ⟨hC, hM, hP, _⟩ := hR
  obtain ⟨v1, v2, v3, v4, v5, v6⟩ := hv
  unfold V_L_law_811 V_L_field
  rw [ek, et]
  refine ⟨v1, v2, hC.sta.2.1.1, c_field hC bk bt (fun q => kJ_x (.inl ⟨rfl, kI_i ⟨v1, v2, hC.sta.2.2.2.2.1.1, ?_⟩⟩)) (fun u q => kJ_x (.inr ⟨rfl, kI_i ⟨v1, v2, hC.sta.2.2.2.2.1.1, ?_⟩⟩)) (fun j ej hj hu ok => kJ_i (outK hC.sta (kI_i ?_)))⟩
  · exact m_field hM bk bt (fun _ M' f r c => kJ_i (tail r.sta c (fun c => absurd c (by decide)) (nx7 nxt (hC.fr f.1) r hP))) (fun u => absurd u q) (fun j M' ej hj hu => absurd (usd_j ej hj hu) q)
  · exact m_field hM bk bt (fun u' => absurd u u') (fun _ _ M' f r c => kJ_i (tail r.sta c (fun c => absurd c (by decide)) (nx7 nxt (hC.fr f.1) r hP))) (fun j M' ej hj hu ok => absurd ok q)
  · obtain ⟨hM', hC', ho⟩ := RG.out hM (FC.refl A M) hC (rN (cfR (stC S) j) t.toNat)
    refine ⟨v1, v2, hC'.sta.2.2.2.2.1.1, m_field hM' bk bt (fun u => absurd (usd_j ej hj hu) u) (fun _ q => absurd ok q) (fun j' M2 ej' hj' hu' _ f2 r2 c2 => kJ_i (tail r2.sta c2 (fun _ => ?_) (nx7 nxt (hC'.fr f2.1) r2 hP)))⟩
    have e : j' = j := by omega
    subst e
    rw [f2.2, ho]
theorem l_fault {G : Gx} {K : Rs → Mm → Prop} {B23 : Mm → Nat → Nat → Nat → Int32 → Prop} {A : Nat → Nat} {M : Mm} {S : St} {B : Int} {l4 : Int32} (hR : RG A M S B) (nxt : ∀ M' S', RC A M' S' → RM A M' S' → SP S' (B + 1300000) → B23 M' (A 0) (A 11) (A 12) (l4 + 7)) : V_L_law_674 G K B23 M (A 0) (A 11) (A 12) l4 := by
  obtain ⟨hC, hM, hP, _⟩ := hR
  unfold V_L_law_674 V_X6_fault V_X7_fault
  refine ⟨hC.sta.2.1.1, hC.sta.2.1.1, kI_i ⟨hC.sta.2.2.2.2.1.1, hC.sta.2.2.2.2.1.1, fun M2 e2 => kI_i ?_⟩⟩
  obtain ⟨r, f, c⟩ := hM.w0 0
  rw [← e2] at r f c
  exact ⟨fun _ => nx7 nxt (hC.fr f.1) r hP, fun q => absurd (by rw [hC.2.2.2.2.2.2.2.1, r.2.2.2.2.2.2.2]) q⟩
