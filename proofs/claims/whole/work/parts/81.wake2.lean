/-! pass and wake, both -/
theorem m_pass {K : Rs → Mm → Prop} {A : Nat → Nat} {M : Mm} {S : St} {B N : Int} (h : RM A M S) (hP : SP S B) (hB : B ≤ 900000000) (bt : -2147483648 ≤ N ∧ N ≤ 2147483647) (h1 : ¬ ((0 ≤ N ∧ N ≤ lim S) ∧ N ≤ 157785119 - stN S) → ∀ M', FM A M M' → RM A M' S → mI M' (A 11) 0 = 1 → K (.inl (some (.int 0))) M') (h3 : ∀ M', (0 ≤ N ∧ N ≤ lim S) ∧ N ≤ 157785119 - stN S → FM A M M' → RM A M' (psS S N) → mI M' (A 11) 0 = 0 → K (.inl (some (.int (i32 (stN S + N))))) M') : V_X7_pass K M (A 11) (i32 N) := by
  have hn := hP.2.2.2.2.2.1
  unfold V_X7_pass
  refine ⟨h.sta.2.2.2.2.1.1, fun M2 e2 => ?_⟩
  obtain ⟨r, f, c⟩ := h.w0 0
  rw [← e2] at r f c
  have md := r.sta.2.2.2.2.1
  have go : ∀ U : Int64, U.toInt = lim S → V_X7_pass_24 K M2 (A 11) (i32 N) (i32 N).toInt64 0 U := by
    intro U hU
    have hl : 0 ≤ lim S ∧ lim S ≤ 3000000 := by unfold lim; split <;> omega
    unfold V_X7_pass_24 V_X7_pass_41
    refine s7_in (l := 0) (u := lim S) bt.1 bt.2 (by decide) hU (kI_i ?_)
    have bad : ¬ ((0 ≤ N ∧ N ≤ lim S) ∧ N ≤ 157785119 - stN S) → ob M2 (A 11) 7 ∧ V_X7_wrong (kI (fun r3 M2 => K (.inl (some (.int r3))) M2) (fun _ _ => False)) M2 (A 11) (1 : Int32) := fun q => ⟨md.1, s7_wrong r (fun M' f' r' c' => kI_i (h1 q M' (f.trans f') r' c'))⟩
    rw [bI_ne0 (decide (0 ≤ N ∧ N ≤ lim S)), bI_0 (decide (0 ≤ N ∧ N ≤ lim S)), decide_eq_true_iff, decide_eq_false_iff_not]
    refine ⟨fun q => bad (fun c => q c.1), fun qn => ⟨md.1, ?_⟩⟩
    rw [r.1.2.2.2.1, show (157785119 : Int32) = i32 157785119 by decide, i32_sub, i32_add, i32_le (by omega) (by omega) (by omega) (by omega)]
    refine ⟨fun q3 => ?_, fun q3 => bad (fun c => q3 c.2)⟩
    have ok : (0 ≤ N ∧ N ≤ lim S) ∧ N ≤ 157785119 - stN S := ⟨qn, q3⟩
    rw [r.2.2.2.2.1]
    rcases ha : stA S with _ | _
    · refine ⟨fun q => absurd q (by decide), fun _ M4 e4 => ?_⟩
      obtain ⟨w4, f4⟩ := r.1.clk (t := stN S + N)
      rw [← e4] at w4 f4
      rw [w4.2.2.2.1]
      refine h3 M4 ok (f.trans f4.fm) ?_ (f4.p0.trans c)
      unfold psS
      rw [if_neg (by rw [ha]; decide)]
      exact r.gm f4 w4
    · refine ⟨fun _ => ⟨N.toNat + 1, ?_⟩, fun q => absurd rfl q⟩
      have hl2 : lim S = 3000 := by unfold lim; rw [if_pos ha]
      have hdc : dC (stD S) ≤ B := hP.2.2.2.2.2.2.2.2.2
      have := s7_p71 (K := K) (A := A) (c := stC S) (N := N) hP.1 hP.2.2.1 (by omega) N.toNat M2 (stD S) (stN S) (by omega) r.1 hP.2.2.2.1 (hP.2.2.2.2.1 ha) (by omega) (by omega) (fun M' f' w' => by
        rw [show stN S + (N.toNat : Int) = stN S + N by omega] at w' ⊢
        refine h3 M' ok (f.trans f'.fm) ?_ (f'.p0.trans c)
        unfold psS
        rw [if_pos ha]
        exact r.gm f' w')
      rw [show N - (N.toNat : Int) = 0 by omega] at this
      exact this
  rw [r.2.2.2.2.1]
  rcases ha : stA S with _ | _
  · refine ⟨fun q => absurd q (by decide), fun _ => go 3000000 ?_⟩
    unfold lim; rw [if_neg (by rw [ha]; decide)]; decide
  · refine ⟨fun _ => go 3000 ?_, fun q => absurd rfl q⟩
    unfold lim; rw [if_pos ha]; decide
theorem l_pass {G : Gx} {K : Rs → Mm → Prop} {B23 : Mm → Nat → Nat → Nat → Int32 → Prop} {A : Nat → Nat} {M : Mm} {S : St} {B : Int} {l4 : Int32} (hR : RG A M S B) (hv : Vi G l4) (nxt : ∀ M' S', RC A M' S' → RM A M' S' → SP S' (B + 1300000) → B23 M' (A 0) (A 11) (A 12) (l4 + 7)) : V_L_law_1340 G K B23 M (A 0) (A 11) (A 12) l4 := by
  obtain ⟨t, et, bt⟩ := i32_of (gX G ((l4 + (1 : Int32))).toNatClampNeg)
  obtain ⟨hC, hM, hP, hB⟩ := hR
  obtain ⟨v1, v2, v3, v4, v5, v6⟩ := hv
  unfold V_L_law_1340 V_L_pass
  rw [et]
  refine ⟨v1, hC.sta.2.1.1, c_pass hC hP hB bt (fun q => kI_x ⟨rfl, kI_i ⟨v1, hC.sta.2.2.2.2.1.1, ?_⟩⟩) (fun M' ok f r => kI_i (outK r.sta (kI_i ?_)))⟩
  · exact m_pass hM hP hB bt (fun _ M' f r c => kI_i (tail r.sta c (fun c => absurd c (by decide)) (nx7 nxt (hC.fr f.1) r hP))) (fun M' ok => absurd ok q)
  · obtain ⟨hM', hC', ho⟩ := RG.out hM f r (i32 (stN S + t)).toInt64
    exact ⟨v1, hC'.sta.2.2.2.2.1.1, m_pass hM' hP hB bt (fun q => absurd ok q) (fun M2 _ f2 r2 c2 => kI_i (tail r2.sta c2 (fun _ => by rw [f2.2, ho]) (nx8 nxt (hC'.fr f2.1) r2 (psS_sp hP ok))))⟩
theorem mAll_aw {tk ov : Nat → Int} {now : Int} {mm : Int → Bool} {k : Nat} (h1 : 1 ≤ tk k) : ∀ (n : Nat) (f : Int) (D : Dk), awD now D → awD now (mAll tk ov now mm k n f D)
  | 0, _, _, h => h
  | n + 1, f, D, h => by
    unfold mAll
    by_cases q : mm f = true
    · rw [if_pos q]; exact mAll_aw h1 n (f + 1) _ (h.du h1)
    · rw [if_neg q]; exact mAll_aw h1 n (f + 1) D h
theorem wkF_aw {c : Cf} {wy gr : Nat → Int} {since now : Int} (h1 : c1 c) : ∀ (n k : Nat) (D : Dk), k + n ≤ 12 → awD now D → awD now (wkF c wy gr since now n k D)
  | 0, _, _, _, h => h
  | n + 1, k, D, hk, h => by
    unfold wkF
    refine wkF_aw h1 n (k + 1) _ (by omega) ?_
    unfold wkO
    by_cases hu : cfU c k = true
    · rw [if_pos hu]
      have := h1 k (by omega) hu
      split
      · split
        · exact h
        · exact h.du this
      · split
        · exact mAll_aw this _ _ _ h
        · exact h
    · rw [if_neg hu]; exact h
def wkS (S : St) : St := stDN (stSA S (stS S) true) (wakeD (stC S) (stY S) (stG S) (stS S) (stN S) (stD S)) (stN S)
theorem wkS_sp {S : St} {B : Int} (hP : SP S B) (ha : stA S = false) : SP (wkS S) (B + 1300000) := by
  obtain ⟨h1, h2, h3, h4, h5, h6, h7, h8, h9, h10⟩ := hP
  have h73 := h7.2.2 ha
  have := wakeD_iv h1 h2 (since := stS S) (now := stN S) ⟨h7.1, h73, h6.2⟩ h4
  exact ⟨h1, h2, h3, this.1, fun _ => wkF_aw h3 12 0 _ (by omega) (awD.en h1 h4), h6, ⟨h7.1, h7.2.1, fun c => absurd (show true = false from c) (by decide)⟩, h8, h9, by have := this.2.2; show dC (wakeD (stC S) (stY S) (stG S) (stS S) (stN S) (stD S)) ≤ _; omega⟩
theorem c_wake {K : Rs → Mm → Prop} {A : Nat → Nat} {M : Mm} {S : St} {B : Int} (h : RC A M S) (hP : SP S B) (hB : B ≤ 900000000) (h1 : stA S = true → K (.inr "java/lang/IllegalStateException") M) (h3 : ∀ M', stA S = false → FC A M M' → RC A M' (wkS S) → K (.inl (some (.int (i32 (dC (wakeD (stC S) (stY S) (stG S) (stS S) (stN S) (stD S)) - dC (stD S)))))) M') : V_X6_wake K M (A 0) := by
  rcases ha : stA S with _ | _
  · have h6 := hP.2.2.2.2.2.1
    have h7 := hP.2.2.2.2.2.2.1
    have hdc : dC (stD S) ≤ B := hP.2.2.2.2.2.2.2.2.2
    refine s_wake hP.1 hP.2.1 ⟨h7.1, h7.2.2 ha, h6.2⟩ h.1 hP.2.2.2.1 (by omega) h.2.1 h.2.2.2.1 (by rw [h.2.2.2.2.1, ha]; rfl) (fun M' f' w' => ?_)
    obtain ⟨r, f⟩ := h.s8 true
    exact h3 M' ha (f.trans f'.fc) (r.fw f' w')
  · unfold V_X6_wake
    rw [h.2.2.2.2.1, ha]
    exact ⟨h.sta.2.1.1, fun q => absurd q (by decide), fun _ => h1 ha⟩
theorem m_wake {K : Rs → Mm → Prop} {A : Nat → Nat} {M : Mm} {S : St} {B : Int} (h : RM A M S) (hP : SP S B) (hB : B ≤ 900000000) (h1 : stA S = true → ∀ M', FM A M M' → RM A M' S → mI M' (A 11) 0 = 1 → K (.inl (some (.int 0))) M') (h3 : ∀ M', stA S = false → FM A M M' → RM A M' (wkS S) → mI M' (A 11) 0 = 0 → K (.inl (some (.int (i32 (dC (wakeD (stC S) (stY S) (stG S) (stS S) (stN S) (stD S)) - dC (stD S)))))) M') : V_X7_wake K M (A 11) := by
  rcases ha : stA S with _ | _
  · have h6 := hP.2.2.2.2.2.1
    have h7 := hP.2.2.2.2.2.2.1
    have hdc : dC (stD S) ≤ B := hP.2.2.2.2.2.2.2.2.2
    refine s7_wake hP.1 hP.2.1 ⟨h7.1, h7.2.2 ha, h6.2⟩ h.1 hP.2.2.2.1 (by omega) h.2.1 h.2.2.2.1 (by rw [h.2.2.2.2.1, ha]; decide) (fun M' f' w' => ?_)
    obtain ⟨r, f, c⟩ := h.w0 0
    obtain ⟨r2, f2, c2⟩ := r.s53 true
    exact h3 M' ha ((f.trans f2).trans f'.fm) (r2.gm f' w') (f'.p0.trans (c2.trans c))
  · unfold V_X7_wake
    refine ⟨h.sta.2.2.2.2.1.1, fun M2 e2 => ?_⟩
    obtain ⟨r, f, c⟩ := h.w0 0
    rw [← e2] at r f c
    rw [r.2.2.2.2.1, ha]
    exact ⟨fun q => absurd rfl q, fun _ => s7_wrong r (fun M' f' r' c' => kI_i (h1 ha M' (f.trans f') r' c'))⟩
theorem l_wake {G : Gx} {K : Rs → Mm → Prop} {B23 : Mm → Nat → Nat → Nat → Int32 → Prop} {A : Nat → Nat} {M : Mm} {S : St} {B : Int} {l4 : Int32} (hR : RG A M S B) (nxt : ∀ M' S', RC A M' S' → RM A M' S' → SP S' (B + 1300000) → B23 M' (A 0) (A 11) (A 12) (l4 + 7)) : V_L_law_1420 G K B23 M (A 0) (A 11) (A 12) l4 := by
  obtain ⟨hC, hM, hP, hB⟩ := hR
  unfold V_L_law_1420 V_L_wake
  refine ⟨hC.sta.2.1.1, c_wake hC hP hB (fun q => kI_x ⟨rfl, kI_i ⟨hC.sta.2.2.2.2.1.1, ?_⟩⟩) (fun M' ok f r => kI_i (outK r.sta (kI_i ?_)))⟩
  · exact m_wake hM hP hB (fun _ M' f r c => kI_i (tail r.sta c (fun c => absurd c (by decide)) (nx7 nxt (hC.fr f.1) r hP))) (fun M' ok => by rw [q] at ok; exact absurd ok (by decide))
  · obtain ⟨hM', hC', ho⟩ := RG.out hM f r (i32 (dC (wakeD (stC S) (stY S) (stG S) (stS S) (stN S) (stD S)) - dC (stD S))).toInt64
    exact ⟨hC'.sta.2.2.2.2.1.1, m_wake hM' hP hB (fun q => by rw [q] at ok; exact absurd ok (by decide)) (fun M2 _ f2 r2 c2 => kI_i (tail r2.sta c2 (fun _ => by rw [f2.2, ho]) (nx8 nxt (hC'.fr f2.1) r2 (wkS_sp hP ok))))⟩
