/-! change -/
def zoC (o : Zo) (t f : Int) : Zo := (zN o + 1, va_up (zB o) (zN o + 1) t, va_up (zF o) (zN o + 1) f)
def bhd (o : Zo) (t : Int) : Prop := zN o = 0 ∨ zB o (zN o) < t
theorem zoC_wf {o : Zo} {t f : Int} (h : wfZ o) (ht : 0 ≤ t ∧ t ≤ 157785119) (hf : -1439 ≤ f ∧ f ≤ 1439) (hb : bhd o t) (hn : zN o < 20) : wfZ (zoC o t f) := by
  obtain ⟨h1, h2, h3, h4, h5⟩ := h
  refine ⟨by show zN o + 1 ≤ 20; omega, ?_, fun k hk => ?_, fun k k1 k2 => ?_, fun k hk => ?_⟩
  · show va_up (zB o) (zN o + 1) t 0 = 0
    rw [va_up_ne _ _ (by omega)]; exact h2
  · show 0 ≤ va_up (zB o) (zN o + 1) t k ∧ va_up (zB o) (zN o + 1) t k ≤ 157785119
    have hk' : k ≤ zN o + 1 := hk
    by_cases c : k = zN o + 1
    · rw [c, va_up_self]; exact ht
    · rw [va_up_ne _ _ c]; exact h3 k (by omega)
  · show va_up (zB o) (zN o + 1) t k < va_up (zB o) (zN o + 1) t (k + 1)
    have k2' : k < zN o + 1 := k2
    rw [va_up_ne _ _ (by omega)]
    by_cases c : k = zN o
    · rw [c, va_up_self]
      rcases hb with q | q
      · omega
      · exact q
    · rw [va_up_ne _ _ (by omega)]; exact h4 k k1 (by omega)
  · show -1439 ≤ va_up (zF o) (zN o + 1) f k ∧ va_up (zF o) (zN o + 1) f k ≤ 1439
    have hk' : k ≤ zN o + 1 := hk
    by_cases c : k = zN o + 1
    · rw [c, va_up_self]; exact hf
    · rw [va_up_ne _ _ c]; exact h5 k (by omega)
def chOk (S : St) (z t f : Int) : Prop := (0 ≤ t ∧ t ≤ 157785119) ∧ (-1439 ≤ f ∧ f ≤ 1439) ∧ bhd (cfO (stC S) z.toNat) t
def chS (S : St) (z t f : Int) : St := stSC S (cfSO (stC S) z.toNat (zoC (cfO (stC S) z.toNat) t f))
theorem c_change {K : Rs → Mm → Prop} {A : Nat → Nat} {M : Mm} {S : St} {B z t f : Int} (h : RC A M S) (hP : SP S B) (bz : -2147483648 ≤ z ∧ z ≤ 2147483647) (bt : -2147483648 ≤ t ∧ t ≤ 2147483647) (bf : -2147483648 ≤ f ∧ f ≤ 2147483647) (h1 : ¬ (0 ≤ z ∧ z ≤ 3) → K (.inr "java/lang/IndexOutOfBoundsException") M) (h2 : (0 ≤ z ∧ z ≤ 3) → ¬ chOk S z t f → K (.inr "java/lang/IllegalArgumentException") M) (h4 : (0 ≤ z ∧ z ≤ 3) → chOk S z t f → ¬ zN (cfO (stC S) z.toNat) < 20 → K (.inr "java/lang/IllegalStateException") M) (h3 : ∀ M', (0 ≤ z ∧ z ≤ 3) → chOk S z t f → zN (cfO (stC S) z.toNat) < 20 → FC A M M' → RC A M' (chS S z t f) → K (.inl (some (.int (i32 (zN (cfO (stC S) z.toNat) + 1 : Nat))))) M') : V_X6_change K M (A 0) (i32 z) (i32 t) (i32 f) := by
  have hs := h.sta
  have n : ∀ {i j : Nat}, i ≠ j → A i ≠ A j := fun h => hs.ne h
  unfold V_X6_change
  refine ⟨hs.2.1.1, s_znOf hs bz (fun q => kR_x (h1 q)) (fun j ej hj => kR_s (s_ckM bt (fun q => kV_x (h2 (by omega) (fun c => q c.1))) (fun qt => kV_i (s_ckO bf (fun q => kV_x (h2 (by omega) (fun c => q c.2.1))) (fun qf => kV_i ?_)))))⟩
  subst ej
  unfold chOk chS at *
  rw [Int.toNat_natCast] at h2 h3 h4
  obtain ⟨z1, z2, z3, z4, z5, z6, z7, z8, z9, z10⟩ := h.2.2.1 j hj
  have hwz := hP.2.2.2.2.2.2.2.1 j hj
  have hz : 0 ≤ (j : Int) ∧ (j : Int) ≤ 3 := by omega
  generalize ho : cfO (stC S) j = o at z8 z9 z10 hwz h2 h3 h4
  have hn20 := hwz.1
  have zb := hwz.2.2.1
  refine ⟨z1, ?_⟩
  have good : bhd o t → (ob M (A (20 + 3 * j)) 5 ∧ ((mI M (A (20 + 3 * j)) 2 < (20 : Int32) → V_X5_add (kV (fun M10 => (ob M10 (A (20 + 3 * j)) 5 ∧ K (.inl (some (.int (mI M10 (A (20 + 3 * j)) 2)))) M10)) (fun _ _ => False)) M (A (20 + 3 * j)) (i32 t) (i32 f)) ∧ (¬ mI M (A (20 + 3 * j)) 2 < (20 : Int32) → K (.inr "java/lang/IllegalStateException") M))) := by
    intro hb
    refine ⟨z1, ?_⟩
    rw [z8, show (20 : Int32) = i32 20 by decide, i32_lt (by omega) (by omega) (by omega) (by omega)]
    refine ⟨fun q => ?_, fun q => h4 hz ⟨qt, qf, hb⟩ (by omega)⟩
    unfold V_X5_add V_X5_add_39
    rw [z8, show (20 : Int32) = i32 20 by decide, i32_le (by omega) (by omega) (by omega) (by omega)]
    refine ⟨z1, fun q2 => absurd q2 (by omega), fun _ M2 e2 => ?_⟩
    rw [sI_w, q_1, i32_add, show ((zN o : Nat) : Int) + 1 = ((zN o + 1 : Nat) : Int) by omega] at e2
    have c2 : mI M2 (A (20 + 3 * j)) 2 = i32 (zN o + 1 : Nat) := by rw [e2, mI_w, va_up_self]
    refine ⟨A (21 + 3 * j), by rw [e2]; exact z4, by rw [e2]; exact z2, ?_⟩
    rw [c2]
    refine ⟨by rw [e2]; show vp_in _ (mN M _); rw [z6]; exact i32_in (by omega) (by omega) (by omega), fun M6 e6 => ?_⟩
    rw [i32_clamp (by omega) (by omega), Int.toNat_natCast, sI_w] at e6
    have c6 : mI M6 (A (20 + 3 * j)) 2 = i32 (zN o + 1 : Nat) := by rw [e6, mI_wn _ _ (n (by omega))]; exact c2
    refine ⟨A (22 + 3 * j), by rw [e6, e2]; exact z5, by rw [e6, e2]; exact z3, ?_⟩
    rw [c6]
    refine ⟨by rw [e6, e2]; show vp_in _ (mN M _); rw [z7]; exact i32_in (by omega) (by omega) (by omega), fun M10 e10 => kV_i ?_⟩
    rw [i32_clamp (by omega) (by omega), Int.toNat_natCast, sI_w] at e10
    have c10 : mI M10 (A (20 + 3 * j)) 2 = i32 (zN o + 1 : Nat) := by rw [e10, mI_wn _ _ (n (by omega))]; exact c6
    have r21 : mI M10 (A (21 + 3 * j)) = va_up (mI M (A (21 + 3 * j))) (zN o + 1) (i32 t) := by rw [e10, mI_wn _ _ (n (by omega)), e6, mI_w, e2, mI_wn _ _ (n (by omega))]
    have r22 : mI M10 (A (22 + 3 * j)) = va_up (mI M (A (22 + 3 * j))) (zN o + 1) (i32 f) := by rw [e10, mI_w, e6, mI_wn _ _ (n (by omega)), e2, mI_wn _ _ (n (by omega))]
    obtain ⟨r, fc⟩ := h.zn (M' := M10) hj (by rw [e10, e6, e2]; rfl) (by rw [e10, e6, e2]; rfl) (by rw [e10, e6, e2]; rfl) (by rw [e10, e6, e2]; rfl) (by rw [e10, e6, e2]; rfl) (fun i c1 c2 c3 => by rw [e10, mI_wn _ _ (n c3), e6, mI_wn _ _ (n c2), e2, mI_wn _ _ (n c1)]) (o := zoC o t f) ⟨by rw [e10, e6, e2]; exact z1, by rw [e10, e6, e2]; exact z2, by rw [e10, e6, e2]; exact z3, by rw [e10, e6, e2]; exact z4, by rw [e10, e6, e2]; exact z5, by rw [e10, e6, e2]; exact z6, by rw [e10, e6, e2]; exact z7, c10, fun k hk => by
      have hk' : k ≤ zN o + 1 := hk
      show mI M10 (A (21 + 3 * j)) k = i32 (va_up (zB o) (zN o + 1) t k)
      rw [r21]
      by_cases c : k = zN o + 1
      · rw [c, va_up_self, va_up_self]
      · rw [va_up_ne _ _ c, va_up_ne _ _ c]; exact z9 k (by omega), fun k hk => by
      have hk' : k ≤ zN o + 1 := hk
      show mI M10 (A (22 + 3 * j)) k = i32 (va_up (zF o) (zN o + 1) f k)
      rw [r22]
      by_cases c : k = zN o + 1
      · rw [c, va_up_self, va_up_self]
      · rw [va_up_ne _ _ c, va_up_ne _ _ c]; exact z10 k (by omega)⟩ (zoC_wf hwz qt qf hb (by omega))
    refine ⟨by rw [e10, e6, e2]; exact z1, ?_⟩
    rw [c10]
    exact h3 M10 hz ⟨qt, qf, hb⟩ (by omega) fc r
  unfold V_X5_isBehindLatest V_X5_isBehindLatest_20 V_X5_isBehindLatest_25
  rw [z8, q_0, i32_eq (by omega) (by omega) (by omega) (by omega)]
  refine ⟨z1, fun q => ⟨.inr rfl, kI_i ⟨fun _ => good (.inl (by omega)), fun c => absurd c (by decide)⟩⟩, fun q => ⟨A (21 + 3 * j), z4, z2, by rw [z6]; exact i32_in (by omega) (by omega) (by omega), ?_⟩⟩
  have zbn := zb (zN o) (Nat.le_refl _)
  rw [i32_clamp (by omega) (by omega), Int.toNat_natCast, z9 (zN o) (Nat.le_refl _), i32_le (by omega) (by omega) (by omega) (by omega)]
  refine ⟨fun q2 => ⟨.inl rfl, kI_i ⟨fun c => absurd rfl c, fun _ => h2 hz (fun c => ?_)⟩⟩, fun q2 => ⟨.inr rfl, kI_i ⟨fun _ => good (.inr (by omega)), fun c => absurd c (by decide)⟩⟩⟩
  rcases c.2.2 with c | c
  · omega
  · omega
theorem m_change {K : Rs → Mm → Prop} {A : Nat → Nat} {M : Mm} {S : St} {B z t f : Int} (h : RM A M S) (hP : SP S B) (bz : -2147483648 ≤ z ∧ z ≤ 2147483647) (bt : -2147483648 ≤ t ∧ t ≤ 2147483647) (bf : -2147483648 ≤ f ∧ f ≤ 2147483647) (h1 : ¬ (0 ≤ z ∧ z ≤ 3) → ∀ M', FM A M M' → RM A M' S → mI M' (A 11) 0 = 1 → K (.inl (some (.int 0))) M') (h2 : (0 ≤ z ∧ z ≤ 3) → ¬ chOk S z t f → ∀ M', FM A M M' → RM A M' S → mI M' (A 11) 0 = 2 → K (.inl (some (.int 0))) M') (h4 : (0 ≤ z ∧ z ≤ 3) → chOk S z t f → ¬ zN (cfO (stC S) z.toNat) < 20 → ∀ M', FM A M M' → RM A M' S → mI M' (A 11) 0 = 3 → K (.inl (some (.int 0))) M') (h3 : ∀ M', (0 ≤ z ∧ z ≤ 3) → chOk S z t f → zN (cfO (stC S) z.toNat) < 20 → FM A M M' → RM A M' (chS S z t f) → mI M' (A 11) 0 = 0 → K (.inl (some (.int (i32 (zN (cfO (stC S) z.toNat) + 1 : Nat))))) M') : V_X7_change K M (A 11) (i32 z) (i32 t) (i32 f) := by
  unfold V_X7_change
  refine ⟨h.sta.2.2.2.2.1.1, fun M2 e2 => ?_⟩
  obtain ⟨r, fm, c⟩ := h.w0 0
  rw [← e2] at r fm c
  have hs := r.sta
  have n : ∀ {i j : Nat}, i ≠ j → A i ≠ A j := fun h => hs.ne h
  have md := hs.2.2.2.2.1
  have p2 := md.p 2 9 4 (by decide)
  have p3 := md.p 3 9 80 (by decide)
  have p4 := md.p 4 9 80 (by decide)
  refine s7_in (l := 0) (u := 3) bz.1 bz.2 (by decide) (by decide) (kI_i ?_)
  rw [bI_ne0 (decide (0 ≤ z ∧ z ≤ 3)), bI_0 (decide (0 ≤ z ∧ z ≤ 3)), decide_eq_true_iff, decide_eq_false_iff_not]
  refine ⟨fun hz => ⟨md.1, A 202, p2.1, p2.2.1, by show vp_in _ (mN M2 (A (200 + 2))); rw [p2.2.2.1]; exact i32_in (by omega) (by omega) (by omega), fun x9 e9 => ?_⟩, fun q => ⟨md.1, s7_wrong r (fun M' f' r' c' => kI_i (h1 q M' (fm.trans f') r' c'))⟩⟩
  obtain ⟨j, ej⟩ : ∃ j : Nat, z = j := ⟨z.toNat, by omega⟩
  subst ej
  unfold chOk chS at *
  rw [Int.toNat_natCast] at h2 h3 h4
  have hj : j < 4 := by omega
  obtain ⟨a1, a2, a3⟩ := r.2.2.1 j hj
  have hwz := hP.2.2.2.2.2.2.2.1 j hj
  generalize ho : cfO (stC S) j = o at a1 a2 a3 hwz h2 h3 h4
  have hn20 := hwz.1
  rw [i32_clamp (by omega) (by omega), Int.toNat_natCast] at e9
  have e9' : x9 = i32 (zN o : Nat) := e9.trans a1
  have bad : ¬ ((0 ≤ t ∧ t ≤ 157785119) ∧ (-1439 ≤ f ∧ f ≤ 1439) ∧ bhd o t) → V_X7_change_80 K M2 (A 11) := fun q => ⟨md.1, s7_wrong r (fun M' f' r' c' => kI_i (h2 hz q M' (fm.trans f') r' c'))⟩
  have good : (0 ≤ t ∧ t ≤ 157785119) → bhd o t → V_X7_change_66 K M2 (A 11) (i32 (j : Nat)) (i32 t) (i32 f) x9 := by
    intro qt hb
    unfold V_X7_change_66
    refine s7_in (l := -1439) (u := 1439) bf.1 bf.2 (by decide) (by decide) (kI_i ?_)
    rw [bI_ne0 (decide (-1439 ≤ f ∧ f ≤ 1439)), bI_0 (decide (-1439 ≤ f ∧ f ≤ 1439)), decide_eq_true_iff, decide_eq_false_iff_not]
    refine ⟨fun qf => ?_, fun q => bad (fun c => q c.2.1)⟩
    rw [e9', show (20 : Int32) = i32 20 by decide, i32_eq (by omega) (by omega) (by omega) (by omega), i32_mul, i32_add]
    refine ⟨fun q => ⟨md.1, A 203, p3.1, p3.2.1, by show vp_in _ (mN M2 (A (200 + 3))); rw [p3.2.2.1]; exact i32_in (by omega) (by omega) (by omega), fun M7 e7 => ?_⟩, fun q => ⟨md.1, s7_wrong r (fun M' f' r' c' => kI_i (h4 hz ⟨qt, qf, hb⟩ (by omega) M' (fm.trans f') r' c'))⟩⟩
    rw [i32_clamp (by omega) (by omega), sI_w] at e7
    refine ⟨A 204, by rw [e7]; exact p4.1, by rw [e7]; exact p4.2.1, by rw [e7]; show vp_in _ (mN M2 (A (200 + 4))); rw [p4.2.2.1]; exact i32_in (by omega) (by omega) (by omega), fun M11 e11 => ?_⟩
    rw [i32_clamp (by omega) (by omega), sI_w] at e11
    have c11 : mI M11 (A 202) j = i32 (zN o : Nat) := by rw [e11, mI_wn _ _ (n (by decide)), e7, mI_wn _ _ (n (by decide))]; exact a1
    have vi : vp_in (i32 (j : Nat)) (mN M2 (A (200 + 2))) := by rw [p2.2.2.1]; exact i32_in (by omega) (by omega) (by omega)
    refine ⟨A 202, by rw [e11, e7]; exact p2.1, by rw [e11, e7]; exact p2.2.1, by rw [e11, e7]; exact vi, by rw [e11, e7]; exact vi, fun M16 e16 => ?_⟩
    rw [i32_clamp (by omega) (by omega), Int.toNat_natCast, c11, sI_w, q_1, i32_add, show ((zN o : Nat) : Int) + 1 = ((zN o + 1 : Nat) : Int) by omega] at e16
    refine ⟨A 202, by rw [e16, e11, e7]; exact p2.1, by rw [e16, e11, e7]; exact p2.2.1, by rw [e16, e11, e7]; exact vi, ?_⟩
    have hix : ((20 : Int) * (j : Nat) + (zN o : Nat)).toNat = 20 * j + zN o := by omega
    rw [hix] at e7 e11
    have r2 : mI M16 (A 202) = va_up (mI M2 (A 202)) j (i32 (zN o + 1 : Nat)) := by rw [e16, mI_w, e11, mI_wn _ _ (n (by decide)), e7, mI_wn _ _ (n (by decide))]
    have r3 : mI M16 (A 203) = va_up (mI M2 (A 203)) (20 * j + zN o) (i32 t) := by rw [e16, mI_wn _ _ (n (by decide)), e11, mI_wn _ _ (n (by decide)), e7, mI_w]
    have r4 : mI M16 (A 204) = va_up (mI M2 (A 204)) (20 * j + zN o) (i32 f) := by rw [e16, mI_wn _ _ (n (by decide)), e11, mI_w, e7, mI_wn _ _ (n (by decide))]
    have ro : ∀ i, i ≠ 202 → i ≠ 203 → i ≠ 204 → mI M16 (A i) = mI M2 (A i) := fun i c1 c2 c3 => by rw [e16, mI_wn _ _ (n c1), e11, mI_wn _ _ (n c3), e7, mI_wn _ _ (n c2)]
    have hz0 : MoZ M16 (fun p => A (200 + p)) j (zoC o t f) := by
      refine ⟨?_, ?_, fun i i1 i2 => ?_⟩
      · show mI M16 (A 202) j = _; rw [r2, va_up_self]; rfl
      · show mI M16 (A 201) j = i32 (va_up (zF o) (zN o + 1) f 0)
        rw [ro 201 (by decide) (by decide) (by decide), va_up_ne _ _ (by omega)]; exact a2
      · have i2' : i ≤ zN o + 1 := i2
        show mI M16 (A 203) (20 * j + i - 1) = i32 (va_up (zB o) (zN o + 1) t i) ∧ mI M16 (A 204) (20 * j + i - 1) = i32 (va_up (zF o) (zN o + 1) f i)
        rw [r3, r4]
        by_cases c : i = zN o + 1
        · rw [c, show 20 * j + (zN o + 1) - 1 = 20 * j + zN o by omega, va_up_self, va_up_self, va_up_self, va_up_self]; exact ⟨rfl, rfl⟩
        · rw [va_up_ne _ _ (show 20 * j + i - 1 ≠ 20 * j + zN o by omega), va_up_ne _ _ (show 20 * j + i - 1 ≠ 20 * j + zN o by omega), va_up_ne _ _ c, va_up_ne _ _ c]; exact a3 i i1 (by omega)
    have hz1 : ∀ w, w < 4 → w ≠ j → MoZ M16 (fun p => A (200 + p)) w (cfO (stC S) w) := by
      intro w hw cw
      obtain ⟨b1, b2, b3⟩ := r.2.2.1 w hw
      have hww := (hP.2.2.2.2.2.2.2.1 w hw).1
      refine ⟨?_, ?_, fun i i1 i2 => ?_⟩
      · show mI M16 (A 202) w = _; rw [r2, va_up_ne _ _ cw]; exact b1
      · show mI M16 (A 201) w = _; rw [ro 201 (by decide) (by decide) (by decide)]; exact b2
      · show mI M16 (A 203) (20 * w + i - 1) = _ ∧ mI M16 (A 204) (20 * w + i - 1) = _
        rw [r3, r4, va_up_ne _ _ (by omega), va_up_ne _ _ (by omega)]; exact b3 i i1 i2
    obtain ⟨r', f'⟩ := r.zn (M' := M16) (z := j) (o := zoC o t f) (by rw [e16, e11, e7]; rfl) (by rw [e16, e11, e7]; rfl) (by rw [e16, e11, e7]; rfl) (by rw [e16, e11, e7]; rfl) (by rw [e16, e11, e7]; rfl) (fun i c1 c2 c3 c4 => ro i c2 c3 c4) hz0 hz1 (zoC_wf hwz qt qf hb (by omega))
    rw [i32_clamp (by omega) (by omega), Int.toNat_natCast, r2, va_up_self]
    exact h3 M16 hz ⟨qt, qf, hb⟩ (by omega) (fm.trans f') r' (by rw [ro 11 (by decide) (by decide) (by decide)]; exact c)
  refine s7_in (l := 0) (u := 157785119) bt.1 bt.2 (by decide) (by decide) (kI_i ?_)
  rw [bI_ne0 (decide (0 ≤ t ∧ t ≤ 157785119)), bI_0 (decide (0 ≤ t ∧ t ≤ 157785119)), decide_eq_true_iff, decide_eq_false_iff_not]
  refine ⟨fun q => bad (fun c => q c.1), fun qt => ?_⟩
  have hle : (x9 ≤ 0) = ((zN o : Int) ≤ 0) := by rw [e9', q_0, i32_le (by omega) (by omega) (by omega) (by omega)]
  rw [hle]
  refine ⟨fun q => good qt (.inl (by omega)), fun q => ⟨md.1, A 203, p3.1, p3.2.1, ?_⟩⟩
  have zbn := hwz.2.2.1 (zN o) (Nat.le_refl _)
  have a3n := (a3 (zN o) (by omega) (Nat.le_refl _)).1
  rw [e9', show (20 : Int32) = i32 20 by decide, i32_mul, i32_add, q_1, i32_sub]
  refine ⟨by show vp_in _ (mN M2 (A (200 + 3))); rw [p3.2.2.1]; exact i32_in (by omega) (by omega) (by omega), ?_⟩
  have ea : mI M2 (A 203) (i32 (20 * (j : Nat) + (zN o : Nat) - 1)).toNatClampNeg = i32 (zB o (zN o)) := by
    rw [i32_clamp (by omega) (by omega), show ((20 : Int) * (j : Nat) + (zN o : Nat) - 1).toNat = 20 * j + zN o - 1 by omega]; exact a3n
  rw [ea, i32_le (by omega) (by omega) (by omega) (by omega), ← e9']
  refine ⟨fun q2 => bad (fun c => ?_), fun q2 => good qt (.inr (by omega))⟩
  rcases c.2.2 with c | c
  · omega
  · omega
theorem l_change {G : Gx} {K : Rs → Mm → Prop} {B23 : Mm → Nat → Nat → Nat → Int32 → Prop} {A : Nat → Nat} {M : Mm} {S : St} {B : Int} {l4 : Int32} (hR : RG A M S B) (hv : Vi G l4) (nxt : ∀ M' S', RC A M' S' → RM A M' S' → SP S' (B + 1300000) → B23 M' (A 0) (A 11) (A 12) (l4 + 7)) : V_L_law_192 G K B23 M (A 0) (A 11) (A 12) l4 := by
  obtain ⟨z, ez, bz⟩ := i32_of (gX G ((l4 + (1 : Int32))).toNatClampNeg)
  obtain ⟨t, et, bt⟩ := i32_of (gX G ((l4 + (2 : Int32))).toNatClampNeg)
  obtain ⟨d, ed, bd⟩ := i32_of (gX G ((l4 + (3 : Int32))).toNatClampNeg)
  obtain ⟨hC, hM, hP, hB⟩ := hR
  obtain ⟨v1, v2, v3, v4, v5, v6⟩ := hv
  unfold V_L_law_192 V_L_change
  rw [ez, et, ed]
  refine ⟨v1, v2, v3, hC.sta.2.1.1, c_change hC hP bz bt bd (fun q => kI_x (.inl ⟨rfl, kI_i ⟨v1, v2, v3, hC.sta.2.2.2.2.1.1, ?_⟩⟩)) (fun u q => kI_x (.inr (.inl ⟨rfl, kI_i ⟨v1, v2, v3, hC.sta.2.2.2.2.1.1, ?_⟩⟩))) (fun u ok q => kI_x (.inr (.inr ⟨rfl, kI_i ⟨v1, v2, v3, hC.sta.2.2.2.2.1.1, ?_⟩⟩))) (fun M' u ok hn f r => kI_i (outK r.sta (kI_i ?_)))⟩
  · exact m_change hM hP bz bt bd (fun _ M' f r c => kI_i (tail r.sta c (fun c => absurd c (by decide)) (nx7 nxt (hC.fr f.1) r hP))) (fun u => absurd u q) (fun u => absurd u q) (fun M' u => absurd u q)
  · exact m_change hM hP bz bt bd (fun u' => absurd u u') (fun _ _ M' f r c => kI_i (tail r.sta c (fun c => absurd c (by decide)) (nx7 nxt (hC.fr f.1) r hP))) (fun _ ok => absurd ok q) (fun M' _ ok => absurd ok q)
  · exact m_change hM hP bz bt bd (fun u' => absurd u u') (fun _ q' => absurd ok q') (fun _ _ _ M' f r c => kI_i (tail r.sta c (fun c => absurd c (by decide)) (nx7 nxt (hC.fr f.1) r hP))) (fun M' _ _ hn => absurd hn q)
  · obtain ⟨hM', hC', ho⟩ := RG.out hM f r (i32 (zN (cfO (stC S) z.toNat) + 1 : Nat)).toInt64
    exact ⟨v1, v2, v3, hC'.sta.2.2.2.2.1.1, m_change hM' hP bz bt bd (fun u' => absurd u u') (fun _ q' => absurd ok q') (fun _ _ q' => absurd hn q') (fun M2 _ _ _ f2 r2 c2 => kI_i (tail r2.sta c2 (fun _ => by rw [f2.2, ho]) (nx7 nxt (hC'.fr f2.1) r2 (hP.zn (zoC_wf (hP.2.2.2.2.2.2.2.1 z.toNat (by omega)) ok.1 ok.2.1 ok.2.2 hn)))))⟩
