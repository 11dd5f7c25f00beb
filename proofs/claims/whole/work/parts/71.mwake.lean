/-! the model makes up for -/
theorem s7_m79 {K : Rs → Mm → Prop} {A : Nat → Nat} {c : Cf} {now : Int} {k : Nat} (ht : tkOk (cfT c)) (hk : k < 12) (hu : cfU c k = true) (hn : 0 ≤ now ∧ now ≤ 157785119) :
    ∀ (w : Nat) (M : Mm) (D : Dk) (f fd ft : Int), (now + 1 - f).toNat ≤ w → 0 ≤ f ∧ f ≤ now + 1 → now - f ≤ 100000 → MW A M c D now → Iv now (cfU c) (cfT c) D → dC D + (now + 1 - f) < 1900000000 → mI M (A 11) 49 = i32 fd → mI M (A 11) 50 = i32 ft → Ls (mmC c k) f now (-1) ft ∧ ((fd = 0 ∧ ft = -1) ∨ (fd = 1 ∧ f ≤ ft)) → (∀ M', Gm A M M' → MW A M' c (mAll (cfT c) (cfV c) now (mmC c k) k (now + 1 - f).toNat f D) now → K (.inl none) M') → V_X7_missed_79 K (w + 1) M (A 11) (i32 (k : Nat)) := by
  intro w
  induction w with
  | zero =>
    intro M D f fd ft hw hf hf2 hW hI hc h49 h50 hL h
    have e : f = now + 1 := by omega
    subst e
    unfold V_X7_missed_79
    rw [h49, q_0, i32_le (by omega) (by omega) (by omega) (by omega)]
    refine ⟨hW.1.2.2.2.2.1.1, fun _ => ?_, fun q => ?_⟩
    · have := h M (Gm.refl A M)
      rw [show (now + 1 - (now + 1)).toNat = 0 by omega] at this
      exact this hW
    · rcases hL.1 with ⟨a, _⟩ | ⟨a, b, _⟩ <;> omega
  | succ w ih =>
    intro M D f fd ft hw hf hf2 hW hI hc h49 h50 hL h
    unfold V_X7_missed_79
    rw [h49, q_0, i32_le (by omega) (by omega) (by omega) (by omega)]
    refine ⟨hW.1.2.2.2.2.1.1, fun q => ?_, fun q x2 e2 => ?_⟩
    · have a2 : ∀ n, f ≤ n → n ≤ now → mmC c k n = false := by
        rcases hL.1 with ⟨_, a2⟩ | ⟨a, b, _⟩
        · exact a2
        · omega
      refine h M (Gm.refl A M) ?_
      rw [show (now + 1 - f).toNat = (now + 1 - f).toNat + 0 by omega, mAll_none (now + 1 - f).toNat 0 f D (fun t t1 t2 => a2 t t1 (by omega))]
      exact hW
    · rcases hL.1 with ⟨a, _⟩ | ⟨a1, a2, a3, a4⟩
      · omega
      · rw [h50] at e2
        subst e2
        obtain ⟨R, d1⟩ := hW.2.1
        refine s7_dueM hW.1 d1 hW.2.2.1 hI.1 hI.2.1 hu hk (by omega) hW.2.2.2.1 (fun M3 R3 g3 d3 => kV_i ?_)
        obtain ⟨w3, f3⟩ := hW.dm g3 d3
        have hd := hI.du (ma := ft) (ov := cfV c) ht hk hu hn.1 (by omega)
        refine ⟨w3.1.2.2.2.2.1.1, ?_⟩
        rw [w3.2.2.2.1, q_1, i32_add]
        refine s7_walk (how := 0) (f := ft + 1) (l := now) ((w3.2.2.2.2 k hk).2 hu) (by omega) (by omega) (by omega) (fun M5 fd5 ft5 g5 h5 h5' u5 => kV_i ?_)
        obtain ⟨w5, f5⟩ := w3.sm g5
        have hU := U.ls (p := mmC c k) (f := ft + 1) (l := now) (by omega) (by omega) u5
        refine ih M5 _ (ft + 1) fd5 ft5 (by omega) (by omega) (by omega) w5 hd.1 (by omega) h5 h5' hU (fun M' f' w' => h M' ((f3.trans f5).trans f') ?_)
        rw [show (now + 1 - f).toNat = (ft - f).toNat + ((now + 1 - (ft + 1)).toNat + 1) by omega, mAll_none (ft - f).toNat _ f D (fun t t1 t2 => a4 t t1 (by omega)), show f + ((ft - f).toNat : Int) = ft by omega]
        show MW A M' c (mAll (cfT c) (cfV c) now (mmC c k) k (now + 1 - (ft + 1)).toNat (ft + 1) (if mmC c k ft = true then dkDue (cfT c) (cfV c) now k ft D else D)) now
        rw [if_pos a3]
        exact w'
def WyM (A : Nat → Nat) (M : Mm) (c : Cf) (wy gr : Nat → Int) : Prop := ∀ k, k < 12 → cfU c k = true → mI M (A 228) k = i32 (wy k) ∧ mI M (A 229) k = i32 (gr k)
theorem Gm.wy {A : Nat → Nat} {M M' : Mm} {c : Cf} {wy gr : Nat → Int} (h : Gm A M M') (hw : WyM A M c wy gr) : WyM A M' c wy gr := fun k hk hu => by
  rw [h.2.2.2.2.2.1 228 (by decide) (by decide), h.2.2.2.2.2.1 229 (by decide) (by decide)]; exact hw k hk hu
theorem s7_missed {K : Rs → Mm → Prop} {A : Nat → Nat} {M : Mm} {c : Cf} {D : Dk} {wy gr : Nat → Int} {since now : Int} {k : Nat} (ht : tkOk (cfT c)) (hW : MW A M c D now) (hI : Iv now (cfU c) (cfT c) D) (hc : dC D < 1800000000) (hw : WyM A M c wy gr) (hg : wgOk c wy gr) (hk : k < 12) (hu : cfU c k = true) (h12 : wy k = 1 ∨ wy k = 2) (hs7 : mI M (A 11) 54 = i32 since) (hn : 0 ≤ since ∧ since ≤ now ∧ now ≤ 157785119)
    (h : ∀ M', Gm A M M' → MW A M' c (wkO c wy gr since now k D) now → K (.inl none) M') : V_X7_missed K M (A 11) (i32 (k : Nat)) := by
  have hgk := hg k hk hu
  obtain ⟨wy1, gr1⟩ := hw k hk hu
  have md := hW.1.2.2.2.2.1
  have p28 := md.p 28 9 12 (by decide)
  have p29 := md.p 29 9 12 (by decide)
  have go : ∀ f, f = max (since + 1) (now - gr k) → V_X7_missed_29 K M (A 11) (i32 (k : Nat)) (i32 f) := by
    intro f hf
    have hfb : 0 ≤ f ∧ f ≤ now + 1 ∧ now - f ≤ 100000 := by omega
    unfold wkO at h
    rw [if_pos hu, ← hf] at h
    unfold V_X7_missed_29 V_X7_missed_67
    refine ⟨md.1, A 228, p28.1, p28.2.1, by show vp_in _ (mN M (A (200 + 28))); rw [p28.2.2.1]; exact i32_in (by omega) (by omega) (by omega), ?_⟩
    rw [i32_clamp (by omega) (by omega), Int.toNat_natCast, wy1, q_1, i32_eq (by omega) (by omega) (by omega) (by omega), hW.2.2.2.1]
    refine ⟨fun q => ?_, fun q => ?_⟩
    · rw [if_neg q, if_pos (by omega)] at h
      rw [q_0]
      refine s7_walk (how := 0) (f := f) (l := now) ((hW.2.2.2.2 k hk).2 hu) (by omega) (by omega) (by omega) (fun M5 fd5 ft5 g5 h5 h5' u5 => kV_i ⟨(now + 1 - f).toNat + 1, ?_⟩)
      obtain ⟨w5, f5⟩ := hW.sm g5
      have hU := U.ls (p := mmC c k) (f := f) (l := now) (by omega) (by omega) u5
      exact s7_m79 ht hk hu ⟨by omega, hn.2.2⟩ _ M5 D f fd5 ft5 (Nat.le_refl _) ⟨hfb.1, hfb.2.1⟩ hfb.2.2 w5 hI (by omega) h5 h5' hU (fun M' f' w' => h M' (f5.trans f') w')
    · rw [if_pos q] at h
      refine s7_walk (how := 1) (f := f) (l := now) ((hW.2.2.2.2 k hk).2 hu) (by omega) (by omega) (by omega) (fun M5 fd5 ft5 g5 h5 h5' u5 => kV_i ?_)
      obtain ⟨w5, f5⟩ := hW.sm g5
      have hU := U.gs (p := mmC c k) (f := f) (l := now) (by omega) (by omega) u5
      have hG := gF_gs (mmC c k) f (now + 1 - f).toNat
      rw [show f + ((now + 1 - f).toNat : Int) - 1 = now by omega] at hG
      generalize hv : gF (mmC c k) (now + 1 - f).toNat f = v at hG h
      have e : ft5 = v := Gs.eq hU.1 hG
      subst e
      rw [h5, q_0, i32_le (by omega) (by omega) (by omega) (by omega)]
      refine ⟨w5.1.2.2.2.2.1.1, fun q2 => ?_, fun q2 => ?_⟩
      · rw [if_pos (by omega)] at h
        exact h M5 f5 w5
      · rw [if_neg (by omega)] at h
        obtain ⟨R, d1⟩ := w5.2.1
        rw [h5']
        refine s7_dueM w5.1 d1 w5.2.2.1 hI.1 hI.2.1 hu hk (by omega) w5.2.2.2.1 (fun M3 R3 g3 d3 => kV_i ?_)
        obtain ⟨w3, f3⟩ := w5.dm g3 d3
        exact h M3 (f5.trans f3) w3
  unfold V_X7_missed
  refine ⟨md.1, fun x2 e2 => ⟨A 229, p29.1, p29.2.1, by show vp_in _ (mN M (A (200 + 29))); rw [p29.2.2.1]; exact i32_in (by omega) (by omega) (by omega), fun x6 e6 => ?_⟩⟩
  rw [hs7, q_1, i32_add] at e2
  rw [hW.2.2.2.1, i32_clamp (by omega) (by omega), Int.toNat_natCast, gr1, i32_sub] at e6
  rw [e2, e6, i32_le (by omega) (by omega) (by omega) (by omega)]
  exact ⟨fun q => go _ (by omega), fun q => go _ (by omega)⟩
theorem s7_w66 {K : Rs → Mm → Prop} {A : Nat → Nat} {c : Cf} {wy gr : Nat → Int} {since now C0 : Int} (ht : tkOk (cfT c)) (hg : wgOk c wy gr) (hn : 0 ≤ since ∧ since ≤ now ∧ now ≤ 157785119) :
    ∀ (n k : Nat) (M : Mm) (D : Dk), k + n = 12 → MW A M c D now → Iv now (cfU c) (cfT c) D → dC D + 100001 * n < 1800000000 → WyM A M c wy gr → mI M (A 11) 54 = i32 since → (∀ M', Gm A M M' → MW A M' c (wkF c wy gr since now n k D) now → K (.inl (some (.int (i32 (dC (wkF c wy gr since now n k D) - C0))))) M') → V_X7_wake_66 K (n + 1) M (A 11) (i32 C0) (i32 (k : Nat)) := by
  intro n
  induction n with
  | zero =>
    intro k M D e1 hW hI hc hw hs7 h
    unfold V_X7_wake_66
    rw [q_12, i32_le (by omega) (by omega) (by omega) (by omega)]
    refine ⟨fun _ => ⟨hW.1.2.2.2.2.1.1, ?_⟩, fun q => absurd (by omega) q⟩
    obtain ⟨R, d1⟩ := hW.2.1
    rw [d1.1.1, i32_sub]
    exact h M (Gm.refl A M) hW
  | succ n ih =>
    intro k M D e1 hW hI hc hw hs7 h
    have hk : k < 12 := by omega
    have md := hW.1.2.2.2.2.1
    have p26 := md.p 26 11 12 (by decide)
    have p28 := md.p 28 9 12 (by decide)
    have hO := wkO_iv ht hg hk hn hI
    have nxt : ∀ M', Gm A M M' → MW A M' c (wkO c wy gr since now k D) now → V_X7_wake_95 K (fun M l0 l1 l2 => V_X7_wake_66 K (n + 1) M l0 l1 l2) M' (A 11) (i32 C0) (i32 (k : Nat)) := by
      intro M' f' w' x1 ex
      rw [q_1, i32_add, show ((k : Nat) : Int) + 1 = ((k + 1 : Nat) : Int) by omega] at ex
      rw [ex]
      exact ih (k + 1) M' _ (by omega) w' hO.1 (by omega) (f'.wy hw) (by rw [f'.2.2.2.2.2.2 54 (by decide) (by decide) (by decide) (by decide)]; exact hs7) (fun M2 f2 w2 => h M2 (f'.trans f2) w2)
    have same : (cfU c k = true → wy k ≠ 1 ∧ wy k ≠ 2) → V_X7_wake_95 K (fun M l0 l1 l2 => V_X7_wake_66 K (n + 1) M l0 l1 l2) M (A 11) (i32 C0) (i32 (k : Nat)) := fun q => by
      have e : wkO c wy gr since now k D = D := by
        unfold wkO
        by_cases hu : cfU c k = true
        · rw [if_pos hu, if_neg (q hu).1, if_neg (q hu).2]
        · rw [if_neg hu]
      exact nxt M (Gm.refl A M) (by rw [e]; exact hW)
    unfold V_X7_wake_66
    rw [q_12, i32_le (by omega) (by omega) (by omega) (by omega)]
    refine ⟨fun q => absurd q (by omega), fun _ => ⟨md.1, A 226, p26.1, p26.2.1, by show vp_in _ (mN M (A (200 + 26))); rw [p26.2.2.1]; exact i32_in (by omega) (by omega) (by omega), ?_⟩⟩
    rw [i32_clamp (by omega) (by omega), Int.toNat_natCast, (hW.2.2.2.2 k hk).1, bI_ne0 (cfU c k), bI_0 (cfU c k)]
    refine ⟨fun q => same (fun hu => by rw [q] at hu; exact absurd hu (by decide)), fun hu => ⟨A 228, p28.1, p28.2.1, by show vp_in _ (mN M (A (200 + 28))); rw [p28.2.2.1]; exact i32_in (by omega) (by omega) (by omega), ?_⟩⟩
    have hgk := hg k hk hu
    rw [(hw k hk hu).1, q_0, i32_le (by omega) (by omega) (by omega) (by omega)]
    exact ⟨fun q => same (fun _ => by omega), fun q => s7_missed ht hW hI (by omega) hw hg hk hu (by omega) hs7 hn (fun M' f' w' => kV_i (nxt M' f' w'))⟩
theorem s7_wake {K : Rs → Mm → Prop} {A : Nat → Nat} {M : Mm} {c : Cf} {D : Dk} {wy gr : Nat → Int} {since now : Int} (ht : tkOk (cfT c)) (hg : wgOk c wy gr) (hn : 0 ≤ since ∧ since ≤ now ∧ now ≤ 157785119) (hW : MW A M c D now) (hI : Iv now (cfU c) (cfT c) D) (hc : dC D < 1700000000) (hw : WyM A M c wy gr) (hs7 : mI M (A 11) 54 = i32 since) (h8 : ¬ mI M (A 11) 53 = 0)
    (h : ∀ M', Gm A (sI (sI M (A 11) 0 0) (A 11) 53 0) M' → MW A M' c (wakeD c wy gr since now D) now → K (.inl (some (.int (i32 (dC (wakeD c wy gr since now D) - dC D))))) M') : V_X7_wake K M (A 11) := by
  unfold V_X7_wake
  refine ⟨hW.1.2.2.2.2.1.1, fun M2 e2 => ?_⟩
  have w2 : MW A M2 c D now := by rw [e2]; exact hW.x (by decide) (by decide) (by decide)
  have h53 : mI M2 (A 11) 53 = mI M (A 11) 53 := by rw [e2, sI_w, mI_w, va_up_ne _ _ (by decide)]
  refine ⟨fun _ x3 e3 M4 e4 => ?_, fun q => absurd (by rw [← h53]; exact q) h8⟩
  have w4 : MW A M4 c D now := by rw [e4]; exact w2.x (by decide) (by decide) (by decide)
  obtain ⟨R2, d2⟩ := w2.2.1
  obtain ⟨R4, d4⟩ := w4.2.1
  rw [d2.1.1] at e3
  subst e3
  have hE := endF_iv ht (Int.le_refl now) 108 D hI
  rw [w4.2.2.2.1]
  refine s7_ending w4.1 d4.2.1 (d4.2.2.1.len hI.1) (d4.bd (hI.bd ht hn.2.2)) (by omega) (fun v hB => kI_i ⟨109, ?_⟩)
  refine s7_w37 (by omega) ht 108 M4 D R4 v (mu_le hI) w4.1 d4 w4.2.2.1 hI w4.2.2.2.1 (by omega) hB (fun M6 R6 g6 d6 => ⟨13, ?_⟩)
  obtain ⟨w6, f6⟩ := w4.dm g6 d6
  have n0 : ∀ {i j : Nat}, i ≠ j → A i ≠ A j := fun h => hW.1.ne h
  have hw4 : WyM A M4 c wy gr := fun k hk hu => by
    rw [e4, e2, sI_w, sI_w, mI_wn _ _ (n0 (by decide)), mI_wn _ _ (n0 (by decide)), mI_wn _ _ (n0 (by decide)), mI_wn _ _ (n0 (by decide))]; exact hw k hk hu
  have h74 : mI M4 (A 11) 54 = i32 since := by rw [e4, e2, sI_w, sI_w, mI_w, va_up_ne _ _ (by decide), mI_w, va_up_ne _ _ (by decide)]; exact hs7
  rw [q_0]
  refine s7_w66 ht hg hn 12 0 M6 _ (by omega) w6 hE.1 (by omega) (f6.wy hw4) (by rw [f6.2.2.2.2.2.2 54 (by decide) (by decide) (by decide) (by decide)]; exact h74) (fun M' f' w' => h M' ?_ w')
  have := f6.trans f'
  rw [e4, e2] at this
  exact this
