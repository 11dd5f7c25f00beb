/-! the class works until a minute -/
def ndJ (A : Nat → Nat) (M : Mm) (c : Cf) (now last : Int) (nd : Nat → Int) (k : Nat) : Prop := mI M (A (40 + 10 * k)) 16 = i32 (nd k) ∧ (cfU c k = false → nd k = -1) ∧ (cfU c k = true → Ls (mmC c k) (now + 1) last (-1) (nd k))
theorem ndJ.b {A : Nat → Nat} {M : Mm} {c : Cf} {now last : Int} {nd : Nat → Int} {k : Nat} (h : ndJ A M c now last nd k) (hn : 0 ≤ now) (hl : last ≤ 157785119) : -1 ≤ nd k ∧ nd k ≤ 157785119 ∧ (nd k ≠ -1 → now < nd k ∧ nd k ≤ last ∧ cfU c k = true ∧ mmC c k (nd k) = true) := by
  obtain ⟨h1, h2, h3⟩ := h
  rcases hu : cfU c k with _ | _
  · have := h2 hu
    exact ⟨by omega, by omega, fun q => absurd this q⟩
  · rcases h3 hu with ⟨a1, a2⟩ | ⟨a1, a2, a3, a4⟩
    · exact ⟨by omega, by omega, fun q => absurd a1 q⟩
    · exact ⟨by omega, by omega, fun q => ⟨by omega, a2, rfl, a3⟩⟩
theorem s_leastDue {K : Rs → Mm → Prop} {A : Nat → Nat} {M : Mm} {c : Cf} {now last : Int} {nd : Nat → Int} (hs : Sta A M) (hnd : ∀ k, k < 12 → ndJ A M c now last nd k) (hn : 0 ≤ now ∧ now < last) (hl : last ≤ 157785119)
    (h : ∀ v, now < v → v ≤ last → (∀ k, k < 12 → nd k ≠ -1 → v ≤ nd k) → K (.inl (some (.int (i32 v)))) M) : V_X6_leastDue K M (A 0) (i32 last) := by
  have go : ∀ (n k : Nat) (v : Int), k + n = 12 → now < v → v ≤ last → (∀ j, j < k → nd j ≠ -1 → v ≤ nd j) → V_X6_leastDue_4 K (n + 1) M (A 0) (i32 v) (i32 (k : Nat)) := by
    intro n
    induction n with
    | zero =>
      intro k v e1 h1 h2 h3
      unfold V_X6_leastDue_4
      rw [q_12, i32_le (by omega) (by omega) (by omega) (by omega)]
      exact ⟨fun _ => h v h1 h2 (fun j hj => h3 j (by omega)), fun q => absurd (by omega) q⟩
    | succ n ih =>
      intro k v e1 h1 h2 h3
      obtain ⟨s1, s2, s3, s4, s5, s6, s7, s8, s9, s10⟩ := hs.2.2.2.1 k (by omega)
      have x3 := hs.2.1.2.1.2.2.1
      have x4 := hs.2.1.2.2.2.2.1
      have hb := (hnd k (by omega)).b hn.1 hl
      have next : ∀ v', now < v' → v' ≤ last → (∀ j, j < k + 1 → nd j ≠ -1 → v' ≤ nd j) → ∀ x1 : Int32, x1 = i32 (k : Nat) + 1 → V_X6_leastDue_4 K (n + 1) M (A 0) (i32 v') x1 := by
        intro v' a1 a2 a3 x1 ex
        subst ex
        rw [q_1, i32_add, show ((k : Nat) : Int) + 1 = ((k + 1 : Nat) : Int) by omega]
        exact ih (k + 1) v' (by omega) a1 a2 a3
      unfold V_X6_leastDue_4 V_X6_leastDue_37
      rw [q_12, i32_le (by omega) (by omega) (by omega) (by omega)]
      refine ⟨fun q => absurd q (by omega), fun _ => ⟨hs.2.1.1, A 3, x3, x4.1, by rw [x4.2]; exact i32_in (by omega) (by omega) (by omega), A (40 + 10 * k), by rw [i32_clamp (by omega) (by omega), Int.toNat_natCast]; exact s10, s1, ?_⟩⟩
      rw [(hnd k (by omega)).1, show (-1 : Int32) = i32 (-1) by decide, i32_eq (by omega) (by omega) (by omega) (by omega)]
      refine ⟨fun q => next v h1 h2 (fun j hj hj' => ?_), fun q => s_min (by omega) (by omega) (kI_i (next _ ?_ (by omega) (fun j hj hj' => ?_)))⟩
      · by_cases c : j = k
        · subst c; exact absurd q hj'
        · exact h3 j (by omega) hj'
      · have := (hb.2.2 q).1; omega
      · by_cases c : j = k
        · subst c; omega
        · have := h3 j (by omega) hj'; omega
  unfold V_X6_leastDue
  exact ⟨13, go 12 0 last (by omega) hn.2 (Int.le_refl _) (fun j hj => absurd hj (Nat.not_lt_zero _))⟩
theorem s_w79 {K : Rs → Mm → Prop} {B49 : Mm → Nat → Int32 → Int32 → Prop} {A : Nat → Nat} {c : Cf} {t0 t last : Int} {i : Nat} (ht : tkOk (cfT c)) (h0 : 0 ≤ t0 ∧ t0 < t) (htl : t ≤ last) (hl : last ≤ 157785119) :
    ∀ (n k : Nat) (M : Mm) (D : Dk) (nd : Nat → Int), k + n = 12 → CW A M c D t → Iv t (cfU c) (cfT c) D → dC D + n < 1900000000 → (∀ j, j < 12 → k ≤ j → ndJ A M c t0 last nd j ∧ (nd j ≠ -1 → t ≤ nd j)) → (∀ j, j < k → ndJ A M c t last nd j) →
      (∀ M' nd', Fw A M M' → CW A M' c (duesF c t n k D) t → (∀ j, j < 12 → ndJ A M' c t last nd' j) → B49 M' (A 0) (i32 last) (i32 ((i + 1 : Nat)))) → V_X6_workUntil_79 K B49 (n + 1) M (A 0) (i32 last) (i32 (i : Nat)) (i32 (k : Nat)) := by
  intro n
  induction n with
  | zero =>
    intro k M D nd e1 hW hI hc ho hd h
    unfold V_X6_workUntil_79
    rw [q_12, i32_le (by omega) (by omega) (by omega) (by omega)]
    refine ⟨fun _ x1 ex => ?_, fun q => absurd (by omega) q⟩
    subst ex
    rw [q_1, i32_add]
    exact h M nd (Fw.refl A M) hW (fun j hj => hd j (by omega))
  | succ n ih =>
    intro k M D nd e1 hW hI hc ho hd h
    have hk : k < 12 := by omega
    have hs := hW.1
    obtain ⟨s1, s2, s3, s4, s5, s6, s7, s8, s9, s10⟩ := hs.2.2.2.1 k hk
    have x3 := hs.2.1.2.1.2.2.1
    have x4 := hs.2.1.2.2.2.2.1
    obtain ⟨hok, hle⟩ := ho k hk (Nat.le_refl _)
    have hb := hok.b h0.1 hl
    have iff : nd k = t ↔ (cfU c k = true ∧ mmC c k t = true) := by
      constructor
      · intro q
        have := hb.2.2 (by omega)
        rw [q] at this
        exact ⟨this.2.2.1, this.2.2.2⟩
      · intro ⟨q1, q2⟩
        rcases hok.2.2 q1 with ⟨a1, a2⟩ | ⟨a1, a2, a3, a4⟩
        · have := a2 t (by omega) htl
          rw [q2] at this; exact absurd this (by decide)
        · have h9 := hle (by omega)
          by_cases q3 : t < nd k
          · have := a4 t (by omega) q3
            rw [q2] at this; exact absurd this (by decide)
          · omega
    unfold V_X6_workUntil_79 V_X6_workUntil_132
    rw [q_12, i32_le (by omega) (by omega) (by omega) (by omega)]
    refine ⟨fun q => absurd q (by omega), fun _ => ⟨hs.2.1.1, A 3, x3, x4.1, by rw [x4.2]; exact i32_in (by omega) (by omega) (by omega), A (40 + 10 * k), by rw [i32_clamp (by omega) (by omega), Int.toNat_natCast]; exact s10, s1, ?_⟩⟩
    rw [hok.1, hW.2.2.2.1, i32_eq (by omega) (by omega) (by omega) (by omega)]
    refine ⟨fun q x1 ex => ?_, fun q => ?_⟩
    · subst ex
      rw [q_1, i32_add, show ((k : Nat) : Int) + 1 = ((k + 1 : Nat) : Int) by omega]
      have hF : duesF c t (n + 1) k D = duesF c t n (k + 1) D := by
        conv => lhs; unfold duesF
        rw [if_neg (fun cc => q (iff.mpr cc))]
      rw [hF] at h
      refine ih (k + 1) M D nd (by omega) hW hI (by omega) (fun j hj hkj => ho j hj (by omega)) (fun j hj => ?_) h
      by_cases cj : j = k
      · subst cj
        refine ⟨hok.1, hok.2.1, fun hu => ?_⟩
        rcases hok.2.2 hu with ⟨a1, a2⟩ | ⟨a1, a2, a3, a4⟩
        · exact .inl ⟨a1, fun m m1 m2 => a2 m (by omega) m2⟩
        · have h9 := hle (by omega)
          exact .inr ⟨by omega, a2, a3, fun m m1 m2 => a4 m (by omega) m2⟩
      · exact hd j (by omega)
    · obtain ⟨hu, hm⟩ := iff.mp q
      have hF : duesF c t (n + 1) k D = duesF c t n (k + 1) (dkDue (cfT c) (cfV c) t k t D) := by
        conv => lhs; unfold duesF
        rw [if_pos ⟨hu, hm⟩]
      rw [hF] at h
      have hI' := hI.du (ma := t) (ov := cfV c) ht hk hu (by omega) (by omega)
      refine s_due hs hW.2.1 hW.2.2.1 hk (by omega) hW.2.2.2.1 (fun M8 g8 d8 => kV_i ?_)
      obtain ⟨w8, f8⟩ := hW.dr g8 d8
      have hod := ((w8.2.2.2.2 k hk).2 hu).2
      refine ⟨w8.1.2.1.1, (w8.1.2.2.2.1 k hk).1, ?_⟩
      rw [w8.2.2.2.1, q_1, i32_add, i32_add]
      refine s_lM (f := t + 1) (l := last) (by omega) (by omega) hod (fun M11 v g11 k11 l11 => kI_i ?_)
      obtain ⟨w11, f11⟩ := w8.sc hk g11 k11
      refine ⟨(w11.1.2.2.2.1 k hk).1, fun M14 e14 x1 ex => ?_⟩
      obtain ⟨w14, f14⟩ := w11.w16 hk (i32 v)
      rw [← e14] at w14 f14
      subst ex
      rw [show ((k : Nat) : Int) + 1 = ((k + 1 : Nat) : Int) by omega]
      have hr : ∀ j, j ≠ k → mI M14 (A (40 + 10 * j)) 16 = mI M (A (40 + 10 * j)) 16 := fun j hj => by
        have n : ∀ {a b : Nat}, a ≠ b → A a ≠ A b := fun h => hs.ne h
        rw [e14, sI_w, mI_wn _ _ (n (by omega)), g11.2.2.2.2.2.1 _ (n (by omega)) (n (by omega))]
        by_cases hj12 : j < 12
        · exact g8.2.2.2.2.2.2 j 16 hj12 (by omega)
        · rw [g8.row hs (by unfold dkx; rw [decide_eq_false_iff_not]; omega)]
      have hrk : mI M14 (A (40 + 10 * k)) 16 = i32 v := by rw [e14, sI_w, mI_w, va_up_self]
      refine ih (k + 1) M14 _ (fun j => if j = k then v else nd j) (by omega) w14 hI'.1 (by omega) (fun j hj hkj => ?_) (fun j hj => ?_) (fun M' nd' f' w' n' => h M' nd' (((f8.trans f11).trans f14).trans f') w' n')
      · obtain ⟨⟨a1, a2, a3⟩, a4⟩ := ho j hj (by omega)
        rw [show ndJ A M14 c t0 last (fun j => if j = k then v else nd j) j = (mI M14 (A (40 + 10 * j)) 16 = i32 (if j = k then v else nd j) ∧ (cfU c j = false → (if j = k then v else nd j) = -1) ∧ (cfU c j = true → Ls (mmC c j) (t0 + 1) last (-1) (if j = k then v else nd j))) from rfl]
        simp only [if_neg (show ¬ j = k by omega)]
        rw [hr j (by omega)]
        exact ⟨⟨a1, a2, a3⟩, a4⟩
      · by_cases cj : j = k
        · subst cj
          refine ⟨by rw [hrk]; simp, fun hf => by rw [hu] at hf; exact absurd hf (by decide), fun _ => ?_⟩
          simp only [if_true]
          exact l11
        · obtain ⟨a1, a2, a3⟩ := hd j (by omega)
          rw [show ndJ A M14 c t last (fun j => if j = k then v else nd j) j = (mI M14 (A (40 + 10 * j)) 16 = i32 (if j = k then v else nd j) ∧ (cfU c j = false → (if j = k then v else nd j) = -1) ∧ (cfU c j = true → Ls (mmC c j) (t + 1) last (-1) (if j = k then v else nd j))) from rfl]
          simp only [if_neg cj]
          rw [hr j cj]
          exact ⟨a1, a2, a3⟩
theorem s_w49 {K : Rs → Mm → Prop} {A : Nat → Nat} {c : Cf} {last : Int} (ht : tkOk (cfT c)) (hl : last ≤ 157785119) :
    ∀ (w i : Nat) (M : Mm) (D : Dk) (now : Int) (nd : Nat → Int), (last - now).toNat ≤ w → 0 ≤ now ∧ now ≤ last → (i : Int) + (last - now) ≤ 3000 → CW A M c D now → Iv now (cfU c) (cfT c) D → dC D + 228 * (last - now) < 1800000000 → (∀ j, j < 12 → ndJ A M c now last nd j) → (∀ M', Fw A M M' → CW A M' c (pss c (last - now).toNat now D) last → K (.inl none) M') → V_X6_workUntil_49 K (w + 1) M (A 0) (i32 last) (i32 (i : Nat)) := by
  intro w
  induction w with
  | zero =>
    intro i M D now nd hw hn hi hW hI hc hnd h
    have e : now = last := by omega
    subst e
    unfold V_X6_workUntil_49 V_X6_workUntil_144
    have fin : K (.inl none) M := by
      have := h M (Fw.refl A M)
      rw [show (now - now).toNat = 0 by omega] at this
      exact this hW
    rw [hW.2.2.2.1]
    exact ⟨fun _ => fin, fun _ => ⟨hW.1.2.1.1, fun _ => fin, fun q => absurd (by rw [i32_le (by omega) (by omega) (by omega) (by omega)]; omega) q⟩⟩
  | succ w ih =>
    intro i M D now nd hw hn hi hW hI hc hnd h
    unfold V_X6_workUntil_49 V_X6_workUntil_144
    rw [q_3000, i32_le (by omega) (by omega) (by omega) (by omega), hW.2.2.2.1, i32_le (by omega) (by omega) (by omega) (by omega)]
    have fin : last ≤ now → K (.inl none) M := fun q => by
      have e : now = last := by omega
      subst e
      have := h M (Fw.refl A M)
      rw [show (now - now).toNat = 0 by omega] at this
      exact this hW
    refine ⟨fun q => fin (by omega), fun _ => ⟨hW.1.2.1.1, fun q => fin q, fun q => ?_⟩⟩
    refine s_leastDue hW.1 hnd (by omega) hl (fun t t1 t2 t3 => kI_i ⟨hW.1.2.1.1, fun M5 e5 => ?_⟩)
    obtain ⟨w5, f5⟩ := hW.clk (t := t)
    rw [← e5] at w5 f5
    have hI5 := hI.mono (t := t) (by omega)
    refine s_ends (by omega) w5.1 w5.2.1 w5.2.2.1 (hI5.bd ht (by omega)) (by omega) w5.2.2.2.1 (fun M6 g6 d6 => kV_i ⟨13, ?_⟩)
    obtain ⟨w6, f6⟩ := w5.dr g6 d6
    have hE := endF_iv ht (Int.le_refl t) 108 D hI5
    have h16 : ∀ j, j < 12 → mI M6 (A (40 + 10 * j)) 16 = mI M (A (40 + 10 * j)) 16 := fun j hj => by
      rw [g6.2.2.2.2.2.2 j 16 hj (by omega), e5, sI_w, mI_wn _ _ (hW.1.ne (by omega))]
    have nomatch_ : ∀ s j, now < s → s < t → j < 12 → ¬ (cfU c j = true ∧ mmC c j s = true) := by
      intro s j c1 c2 hj ⟨hu, hm⟩
      obtain ⟨a1, a2, a3⟩ := hnd j hj
      rcases a3 hu with ⟨b1, b2⟩ | ⟨b1, b2, b3, b4⟩
      · have := b2 s (by omega) (by omega)
        rw [hm] at this; exact absurd this (by decide)
      · have := t3 j hj (by omega)
        have := b4 s (by omega) (by omega)
        rw [hm] at this; exact absurd this (by decide)
    have epss : pss c (t - now).toNat now D = mstep c t D := by
      have := pss_skip ht (t - now - 1).toNat now D hn.1 (by omega) hI (fun s j c1 c2 hj => nomatch_ s j c1 (by omega) hj)
      rw [show (t - now - 1).toNat + 1 = (t - now).toNat by omega, show now + ((t - now - 1).toNat : Int) + 1 = t by omega] at this
      exact this
    have hM := mstep_iv ht (by omega) hI5
    refine s_w79 ht ⟨hn.1, t1⟩ t2 hl 12 0 M6 _ nd (by omega) w6 hE.1 (by omega) (fun j hj _ => ⟨?_, t3 j hj⟩) (fun j hj => absurd hj (Nat.not_lt_zero _)) (fun M' nd' f' w' n' => ?_)
    · obtain ⟨a1, a2, a3⟩ := hnd j hj
      exact ⟨by rw [h16 j hj]; exact a1, a2, a3⟩
    · refine ih (i + 1) M' (mstep c t D) t nd' (by omega) (by omega) (by omega) w' hM.1 (by omega) n' (fun M2 f2 w2 => h M2 (((f5.trans f6).trans f').trans f2) ?_)
      rw [show (last - now).toNat = (t - now).toNat + (last - t).toNat by omega, pss_add, epss, show now + ((t - now).toNat : Int) = t by omega]
      exact w2
theorem s_until {K : Rs → Mm → Prop} {A : Nat → Nat} {M : Mm} {c : Cf} {D : Dk} {now last : Int} (ht : tkOk (cfT c)) (hl : last ≤ 157785119) (hn : 0 ≤ now ∧ now ≤ last) (h3 : last - now ≤ 3000) (hW : CW A M c D now) (hI : Iv now (cfU c) (cfT c) D) (hc : dC D < 1000000000) (h : ∀ M', Fw A M M' → CW A M' c (pss c (last - now).toNat now D) last → K (.inl none) M') : V_X6_workUntil K M (A 0) (i32 last) := by
  have go : ∀ (n k : Nat) (M1 : Mm) (nd : Nat → Int), k + n = 12 → Fw A M M1 → CW A M1 c D now → (∀ j, j < k → ndJ A M1 c now last nd j) → V_X6_workUntil_2 K (n + 1) M1 (A 0) (i32 last) (i32 (k : Nat)) := by
    intro n
    induction n with
    | zero =>
      intro k M1 nd e1 f1 w1 hnd
      unfold V_X6_workUntil_2
      rw [q_12, i32_le (by omega) (by omega) (by omega) (by omega)]
      exact ⟨fun _ => ⟨_, s_w49 ht hl _ 0 M1 D now nd (Nat.le_refl _) hn (by omega) w1 hI (by omega) (fun j hj => hnd j (by omega)) (fun M' f' w' => h M' (f1.trans f') w')⟩, fun q => absurd (by omega) q⟩
    | succ n ih =>
      intro k M1 nd e1 f1 w1 hnd
      have hk : k < 12 := by omega
      have hs := w1.1
      obtain ⟨s1, s2, s3, s4, s5, s6, s7, s8, s9, s10⟩ := hs.2.2.2.1 k hk
      have x3 := hs.2.1.2.1.2.2.1
      have x4 := hs.2.1.2.2.2.2.1
      obtain ⟨o1, o2⟩ := w1.2.2.2.2 k hk
      have set : ∀ (M7 : Mm) (v : Int), Fw A M1 M7 → CW A M7 c D now → (∀ j, j < k → mI M7 (A (40 + 10 * j)) 16 = mI M1 (A (40 + 10 * j)) 16) → (cfU c k = false → v = -1) → (cfU c k = true → Ls (mmC c k) (now + 1) last (-1) v) → V_X6_workUntil_38 K (fun M l0 l1 l2 => V_X6_workUntil_2 K (n + 1) M l0 l1 l2) M7 (A 0) (i32 last) (i32 (k : Nat)) (A (40 + 10 * k)) (i32 v) := by
        intro M7 v f7 w7 h7 v1 v2
        unfold V_X6_workUntil_38
        refine ⟨(w7.1.2.2.2.1 k hk).1, fun M2 e2 x3' ex => ?_⟩
        obtain ⟨w2, f2⟩ := w7.w16 hk (i32 v)
        rw [← e2] at w2 f2
        subst ex
        rw [q_1, i32_add, show ((k : Nat) : Int) + 1 = ((k + 1 : Nat) : Int) by omega]
        refine ih (k + 1) M2 (fun j => if j = k then v else nd j) (by omega) ((f1.trans f7).trans f2) w2 (fun j hj => ?_)
        by_cases cj : j = k
        · subst cj
          refine ⟨by rw [e2, sI_w, mI_w, va_up_self]; simp, fun hf => by simp only [if_true]; exact v1 hf, fun hu => by simp only [if_true]; exact v2 hu⟩
        · obtain ⟨a1, a2, a3⟩ := hnd j (by omega)
          rw [show ndJ A M2 c now last (fun j => if j = k then v else nd j) j = (mI M2 (A (40 + 10 * j)) 16 = i32 (if j = k then v else nd j) ∧ (cfU c j = false → (if j = k then v else nd j) = -1) ∧ (cfU c j = true → Ls (mmC c j) (now + 1) last (-1) (if j = k then v else nd j))) from rfl]
          simp only [if_neg cj]
          rw [e2, sI_w, mI_wn _ _ (hs.ne (show 40 + 10 * j ≠ 40 + 10 * k by omega)), h7 j (by omega)]
          exact ⟨a1, a2, a3⟩
      unfold V_X6_workUntil_2
      rw [q_12, i32_le (by omega) (by omega) (by omega) (by omega)]
      refine ⟨fun q => absurd q (by omega), fun _ => ⟨hs.2.1.1, A 3, x3, x4.1, by rw [x4.2]; exact i32_in (by omega) (by omega) (by omega), A (40 + 10 * k), by rw [i32_clamp (by omega) (by omega), Int.toNat_natCast]; exact s10, s1, ?_⟩⟩
      rw [o1, bI_ne0, bI_0]
      refine ⟨fun q => ?_, fun q => ?_⟩
      · rw [show (-1 : Int32) = i32 (-1) by decide]
        exact set M1 (-1) (Fw.refl A M1) w1 (fun _ _ => rfl) (fun _ => rfl) (fun hu => by rw [q] at hu; exact absurd hu (by decide))
      · rw [w1.2.2.2.1, q_1, i32_add]
        refine s_lM (f := now + 1) (l := last) (by omega) (by omega) (o2 q).2 (fun M7 v g7 k7 l7 => kI_i ?_)
        obtain ⟨w7, f7⟩ := w1.sc hk g7 k7
        exact set M7 v f7 w7 (fun j hj => by rw [g7.2.2.2.2.2.1 _ (hs.ne (by omega)) (hs.ne (by omega))]) (fun hf => by rw [q] at hf; exact absurd hf (by decide)) (fun _ => l7)
  unfold V_X6_workUntil
  exact ⟨13, go 12 0 M (fun _ => 0) (by omega) (Fw.refl A M) hW (fun j hj => absurd hj (Nat.not_lt_zero _))⟩
