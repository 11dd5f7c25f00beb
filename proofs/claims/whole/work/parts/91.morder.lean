/-! order: the model -/
def FX (A : Nat → Nat) (k : Nat) (M M' : Mm) : Prop := mL M' = mL M ∧ mK M' = mK M ∧ mN M' = mN M ∧ mP M' = mP M ∧ (∀ i, i ≠ 11 → i ≠ 216 → i ≠ 217 → ¬ (226 ≤ i ∧ i ≤ 244) → mI M' (A i) = mI M (A i) ∧ mJ M' (A i) = mJ M (A i)) ∧ (∀ i p, 226 ≤ i → i ≤ 244 → (i = 232 → p / 5 ≠ k) → (i = 233 → p / 300 ≠ k) → (i ≠ 232 → i ≠ 233 → p ≠ k) → mI M' (A i) p = mI M (A i) p ∧ mJ M' (A i) p = mJ M (A i) p) ∧ (∀ p, ¬ (11 ≤ p ∧ p ≤ 25) → mI M' (A 11) p = mI M (A 11) p)
theorem FX.trans {A : Nat → Nat} {k : Nat} {M M1 M2 : Mm} (h : FX A k M M1) (h' : FX A k M1 M2) : FX A k M M2 := ⟨h'.1.trans h.1, h'.2.1.trans h.2.1, h'.2.2.1.trans h.2.2.1, h'.2.2.2.1.trans h.2.2.2.1, fun i c1 c2 c3 c4 => ⟨(h'.2.2.2.2.1 i c1 c2 c3 c4).1.trans (h.2.2.2.2.1 i c1 c2 c3 c4).1, (h'.2.2.2.2.1 i c1 c2 c3 c4).2.trans (h.2.2.2.2.1 i c1 c2 c3 c4).2⟩, fun i p c1 c2 c3 c4 c5 => ⟨(h'.2.2.2.2.2.1 i p c1 c2 c3 c4 c5).1.trans (h.2.2.2.2.2.1 i p c1 c2 c3 c4 c5).1, (h'.2.2.2.2.2.1 i p c1 c2 c3 c4 c5).2.trans (h.2.2.2.2.2.1 i p c1 c2 c3 c4 c5).2⟩, fun p c => (h'.2.2.2.2.2.2 p c).trans (h.2.2.2.2.2.2 p c)⟩
theorem FX.sta {A : Nat → Nat} {k : Nat} {M M' : Mm} (h : FX A k M M') (hs : Sta A M) : Sta A M' := hs.congr h.1 h.2.1 h.2.2.1 h.2.2.2.1
theorem FX.fm {A : Nat → Nat} {k : Nat} {M M' : Mm} (h : FX A k M M') : FM A M M' := ⟨⟨h.1, h.2.1, h.2.2.1, h.2.2.2.1, fun i c1 c2 => (h.2.2.2.2.1 i c1 (by omega) (by omega) (by omega)).1, fun i c1 c2 => (h.2.2.2.2.1 i (by omega) (by omega) (by omega) (by omega)).2⟩, (h.2.2.2.2.1 12 (by decide) (by decide) (by decide) (by decide)).2⟩
theorem FX.wi {A : Nat → Nat} {k : Nat} {M : Mm} (hs : Sta A M) {i : Nat} (h1 : 226 ≤ i) (h2 : i ≤ 244) (h3 : i ≠ 232) (h4 : i ≠ 233) (v : Int32) : FX A k M (sI M (A i) k v) := by
  refine ⟨rfl, rfl, rfl, rfl, fun j c1 c2 c3 c4 => ⟨mI_wn _ _ (hs.ne (by omega)), rfl⟩, fun j p c1 c2 c3 c4 c5 => ⟨?_, rfl⟩, fun p c => ?_⟩
  · by_cases q : j = i
    · subst q; rw [sI_w, mI_w, va_up_ne _ _ (c5 h3 h4)]
    · rw [sI_w, mI_wn _ _ (hs.ne q)]
  · rw [sI_w, mI_wn _ _ (hs.ne (by omega))]
theorem FX.wj {A : Nat → Nat} {k : Nat} {M : Mm} (hs : Sta A M) {i : Nat} (h1 : 226 ≤ i) (h2 : i ≤ 244) (h3 : i ≠ 232) (h4 : i ≠ 233) (v : Int64) : FX A k M (sJ M (A i) k v) := by
  refine ⟨rfl, rfl, rfl, rfl, fun j c1 c2 c3 c4 => ⟨rfl, mJ_wn _ _ (hs.ne (by omega))⟩, fun j p c1 c2 c3 c4 c5 => ⟨rfl, ?_⟩, fun p c => rfl⟩
  by_cases q : j = i
  · subst q; rw [sJ_w, mJ_w, va_up_ne _ _ (c5 h3 h4)]
  · rw [sJ_w, mJ_wn _ _ (hs.ne q)]
theorem RM.fx {A : Nat → Nat} {k : Nat} {M M' : Mm} {S S' : St} (h : RM A M S) (f : FX A k M M') (b : Bk k S S')
    (h1 : (cfU (stC S') k = true → mI M' (A 244) k = i32 (wN (dW (stD S') k))) ∧ mI M' (A 242) k = dB (stD S') k ∧ mI M' (A 243) k = dD (stD S') k)
    (h2 : mI M' (A 230) k = i32 (cfV (stC S') k) ∧ mI M' (A 231) k = i32 (cfT (stC S') k) ∧ (0 ≤ cfV (stC S') k ∧ cfV (stC S') k ≤ 2) ∧ (0 ≤ cfT (stC S') k ∧ cfT (stC S') k ≤ 10000))
    (h3 : mI M' (A 226) k = bI (cfU (stC S') k) ∧ (cfU (stC S') k = true → (k < 12 ∧ MoR M' (fun p => A (200 + p)) k (cfR (stC S') k) ∧ cfZ (stC S') k < 4 ∧ mI M' (A 227) k = i32 (cfZ (stC S') k : Nat) ∧ wfZ (cfO (stC S') (cfZ (stC S') k)) ∧ isB (cfR (stC S') k) (cfB (stC S') k)) ∧ mI M' (A 228) k = i32 (stY S' k) ∧ mI M' (A 229) k = i32 (stG S' k)))
    (h4 : mI M' (A 11) 11 = i32 0) (h5 : mI M' (A 11) 15 = stF S') : RM A M' S' := by
  have hs := f.sta h.sta
  obtain ⟨b1, b2, b3, b4, b5, b6, b7, b8, b9, b10⟩ := b
  obtain ⟨⟨_, ⟨R, w2⟩, w3, w4, w5⟩, g2, g3, g4, g5, g6, g7, g8⟩ := h
  obtain ⟨e1, e2, e3, e4, ro, rk, rp⟩ := f
  have r : ∀ i, i ≠ 11 → i ≠ 216 → i ≠ 217 → ¬ (226 ≤ i ∧ i ≤ 244) → mI M' (A i) = mI M (A i) := fun i c1 c2 c3 c4 => (ro i c1 c2 c3 c4).1
  have q : ∀ i p, 226 ≤ i → i ≤ 244 → i ≠ 232 → i ≠ 233 → p ≠ k → mI M' (A i) p = mI M (A i) p := fun i p c1 c2 c3 c4 c5 => (rk i p c1 c2 (fun c => absurd c c3) (fun c => absurd c c4) (fun _ _ => c5)).1
  have qj : ∀ i p, 226 ≤ i → i ≤ 244 → i ≠ 232 → i ≠ 233 → p ≠ k → mJ M' (A i) p = mJ M (A i) p := fun i p c1 c2 c3 c4 c5 => (rk i p c1 c2 (fun c => absurd c c3) (fun c => absurd c c4) (fun _ _ => c5)).2
  have mz : ∀ z, z < 4 → MoZ M' (fun p => A (200 + p)) z (cfO (stC S') z) := fun z hz => by
    have := g3 z hz
    rw [b2]
    unfold MoZ at *
    show (mI M' (A 202) _ = _ ∧ mI M' (A 201) _ = _ ∧ ∀ j, 1 ≤ j → j ≤ zN (cfO (stC S) z) → mI M' (A 203) _ = _ ∧ mI M' (A 204) _ = _)
    rw [r 202 (by decide) (by decide) (by decide) (by decide), r 201 (by decide) (by decide) (by decide) (by decide), r 203 (by decide) (by decide) (by decide) (by decide), r 204 (by decide) (by decide) (by decide) (by decide)]
    exact this
  refine ⟨⟨hs, ⟨R, ?_, ?_, ?_, fun i hi => ?_⟩, fun i hi => ?_, ?_, fun i hi => ?_⟩, fun i hi hu => ?_, mz, ?_, ?_, ?_, fun i hi => ?_, h5⟩
  · rw [rp 55 (by decide), r 256 (by decide) (by decide) (by decide) (by decide), r 257 (by decide) (by decide) (by decide) (by decide), r 258 (by decide) (by decide) (by decide) (by decide), r 259 (by decide) (by decide) (by decide) (by decide), b5, b6]; exact w2.1
  · rw [rp 45 (by decide), r 246 (by decide) (by decide) (by decide) (by decide), r 247 (by decide) (by decide) (by decide) (by decide), r 248 (by decide) (by decide) (by decide) (by decide)]; exact w2.2.1
  · rw [b3]; exact w2.2.2.1
  · by_cases c : i = k
    · subst c; exact h1
    · obtain ⟨c1, c2, c3, c4, c5, c6, c7, c8, c9, c10⟩ := b1 i c
      rw [q 244 i (by decide) (by decide) (by decide) (by decide) c, q 242 i (by decide) (by decide) (by decide) (by decide) c, q 243 i (by decide) (by decide) (by decide) (by decide) c, c1, b4, c9, c10]; exact w2.2.2.2 i hi
  · by_cases c : i = k
    · subst c; exact h2
    · obtain ⟨c1, c2, c3, c4, c5, c6, c7, c8, c9, c10⟩ := b1 i c
      rw [q 230 i (by decide) (by decide) (by decide) (by decide) c, q 231 i (by decide) (by decide) (by decide) (by decide) c, c5, c6]; exact w3 i hi
  · rw [rp 52 (by decide), b7]; exact w4
  · by_cases c : i = k
    · subst c
      refine ⟨h3.1, fun u => ?_⟩
      obtain ⟨⟨d1, d2, d3, d4, d5, d6⟩, _⟩ := h3.2 u
      exact ⟨hs.2.2.2.2.1, d1, d2, d3, d4, mz _ d3, d5, d6⟩
    · obtain ⟨c1, c2, c3, c4, c5, c6, c7, c8, c9, c10⟩ := b1 i c
      rw [q 226 i (by decide) (by decide) (by decide) (by decide) c, c1]
      refine ⟨(w5 i hi).1, fun u => ?_⟩
      obtain ⟨d1, d2, d3, d4, d5, d6, d7, d8⟩ := (w5 i hi).2 u
      have mz' := mz _ d4
      rw [b2] at mz'
      rw [c2, c3, c4, b2]
      refine ⟨hs.2.2.2.2.1, d2, ?_, d4, by show mI M' (A 227) i = _; rw [q 227 i (by decide) (by decide) (by decide) (by decide) c]; exact d5, mz', d7, d8⟩
      obtain ⟨m1, ⟨t, m2, m3⟩, m4, m5, m6, m7, m8, m9, m10⟩ := d3
      refine ⟨fun f hf => ?_, ⟨t, ?_, fun y y1 y2 => ?_⟩, ?_, ?_, ?_, ?_, ?_, ?_, fun j n j1 j2 j3 => ?_⟩
      · refine Eq.trans ?_ (m1 f hf)
        exact (rk 232 (5 * i + f) (by decide) (by decide) (fun _ => by omega) (fun e => absurd e (by decide)) (fun e => absurd rfl e)).2
      · exact (q 234 i (by decide) (by decide) (by decide) (by decide) c).trans m2
      · rw [m3 y y1 y2]
        by_cases g : 1900 ≤ y ∧ y ≤ 2199
        · have := (rk 233 (300 * i + (y - 1900).toNat) (by decide) (by decide) (fun e => absurd e (by decide)) (fun _ => by omega) (fun _ e => absurd rfl e)).1
          show _ = (!t || (decide (1900 ≤ y ∧ y ≤ 2199) && decide (¬ mI M' (A 233) (300 * i + (y - 1900).toNat) = 0)))
          rw [this]
        · rw [decide_eq_false g, Bool.false_and, Bool.false_and]
      · exact (q 240 i (by decide) (by decide) (by decide) (by decide) c).trans m4
      · exact (q 241 i (by decide) (by decide) (by decide) (by decide) c).trans m5
      · exact (qj 235 i (by decide) (by decide) (by decide) (by decide) c).trans m6
      · exact (q 236 i (by decide) (by decide) (by decide) (by decide) c).trans m7
      · exact (qj 237 i (by decide) (by decide) (by decide) (by decide) c).trans m8
      · exact (qj 238 i (by decide) (by decide) (by decide) (by decide) c).trans m9
      · show bj (mJ M' (A 239) i) _ = _
        rw [qj 239 i (by decide) (by decide) (by decide) (by decide) c]; exact m10 j n j1 j2 j3
  · by_cases c : i = k
    · subst c; exact (h3.2 hu).2
    · obtain ⟨c1, c2, c3, c4, c5, c6, c7, c8, c9, c10⟩ := b1 i c
      rw [c1] at hu
      rw [q 228 i (by decide) (by decide) (by decide) (by decide) c, q 229 i (by decide) (by decide) (by decide) (by decide) c, c7, c8]; exact g2 i hi hu
  · rw [rp 54 (by decide), b8]; exact g4
  · rw [rp 53 (by decide), b9]; exact g5
  · rw [b10]; exact h4
  · rw [b10] at hi; exact absurd hi (Nat.not_lt_zero _)
theorem nar_I (b : Bool) : vp_nar .boolean (bI b) = bI b := by cases b <;> decide
theorem s7_203 {K : Rs → Mm → Prop} {A : Nat → Nat} {M : Mm} {c : Ct} {k : Nat} (hs : Sta A M) (hk : k < 12) (hc : ∀ f, f < 5 → mJ M (A 216) f = cNu c f) (h : ∀ rr, (∀ f, f < 5 → rr (5 * k + f) = cNu c f) → (∀ p, p / 5 ≠ k → rr p = mJ M (A 232) p) → ∃ y, V_X7_order_237 K y (wJ M (A 232) rr) (A 11) (i32 (k : Nat)) (i32 0)) : ∃ y, V_X7_order_203 K y M (A 11) (i32 (k : Nat)) (i32 0) := by
  have n : ∀ {i j : Nat}, i ≠ j → A i ≠ A j := fun h => hs.ne h
  have md := hs.2.2.2.2.1
  have p32 := md.p 32 10 60 (by decide)
  have p16 := md.p 16 10 5 (by decide)
  have go : ∀ (m f : Nat) (rr : Nat → Int64), f + m = 5 → (∀ g, g < f → rr (5 * k + g) = cNu c g) → (∀ p, p / 5 ≠ k → rr p = mJ M (A 232) p) → V_X7_order_203 K (m + 1) (wJ M (A 232) rr) (A 11) (i32 (k : Nat)) (i32 (f : Nat)) := by
    intro m
    induction m with
    | zero =>
      intro f rr e h1 h2
      unfold V_X7_order_203
      rw [q_5, i32_le (by omega) (by omega) (by omega) (by omega)]
      exact ⟨fun _ => h rr (fun g hg => h1 g (by omega)) h2, fun q => absurd (by omega) q⟩
    | succ m ih =>
      intro f rr e h1 h2
      unfold V_X7_order_203
      rw [q_5, i32_le (by omega) (by omega) (by omega) (by omega), i32_mul, i32_add]
      refine ⟨fun q => absurd q (by omega), fun _ => ⟨md.1, A 232, p32.1, A 216, p16.1, p16.2.1, by show vp_in _ (mN M (A (200 + 16))); rw [p16.2.2.1]; exact i32_in (by omega) (by omega) (by omega), p32.2.1, by show vp_in _ (mN M (A (200 + 32))); rw [p32.2.2.1]; exact i32_in (by omega) (by omega) (by omega), fun M8 e8 x9 e9 => ?_⟩⟩
      rw [i32_clamp (by omega) (by omega), i32_clamp (by omega) (by omega), Int.toNat_natCast, show ((5 : Int) * (k : Nat) + (f : Nat)).toNat = 5 * k + f by omega, sJ_w, wJ_wJ, mJ_w, mJ_wn _ _ (n (by decide)), hc f (by omega)] at e8
      rw [e8, e9, q_1, i32_add]
      refine ih (f + 1) _ (by omega) (fun g hg => ?_) (fun p hp => ?_)
      · by_cases q : g = f
        · subst q; rw [va_up_self]
        · rw [va_up_ne _ _ (by omega)]; exact h1 g (by omega)
      · rw [va_up_ne _ _ (fun e => hp (by omega))]; exact h2 p hp
  refine ⟨6, ?_⟩
  have := go 5 0 (mJ M (A 232)) (by omega) (fun g hg => absurd hg (Nat.not_lt_zero _)) (fun _ _ => rfl)
  rw [show wJ M (A 232) (mJ M (A 232)) = M by unfold wJ mJ; simp only [up_id]] at this
  exact this
theorem s7_237 {K : Rs → Mm → Prop} {A : Nat → Nat} {M : Mm} {c : Ct} {k : Nat} (hs : Sta A M) (hk : k < 12) (hc : ∀ y, y < 300 → mI M (A 217) y = bI (cYr c y)) (h : ∀ ss, (∀ y, y < 300 → ss (300 * k + y) = bI (cYr c y)) → (∀ p, p / 300 ≠ k → ss p = mI M (A 233) p) → V_X7_order_237 K 1 (wI M (A 233) ss) (A 11) (i32 (k : Nat)) (i32 300)) : ∃ y, V_X7_order_237 K y M (A 11) (i32 (k : Nat)) (i32 0) := by
  have n : ∀ {i j : Nat}, i ≠ j → A i ≠ A j := fun h => hs.ne h
  have md := hs.2.2.2.2.1
  have p33 := md.p 33 11 3600 (by decide)
  have p17 := md.p 17 11 300 (by decide)
  have go : ∀ (m f : Nat) (rr : Nat → Int32), f + m = 300 → (∀ g, g < f → rr (300 * k + g) = bI (cYr c g)) → (∀ p, p / 300 ≠ k → rr p = mI M (A 233) p) → V_X7_order_237 K (m + 1) (wI M (A 233) rr) (A 11) (i32 (k : Nat)) (i32 (f : Nat)) := by
    intro m
    induction m with
    | zero =>
      intro f rr e h1 h2
      have e' : f = 300 := by omega
      subst e'
      exact h rr h1 h2
    | succ m ih =>
      intro f rr e h1 h2
      unfold V_X7_order_237
      rw [q_300, i32_le (by omega) (by omega) (by omega) (by omega), i32_mul, i32_add]
      refine ⟨fun q => absurd q (by omega), fun _ => ⟨md.1, A 233, p33.1, A 217, p17.1, p17.2.1, by show vp_in _ (mN M (A (200 + 17))); rw [p17.2.2.1]; exact i32_in (by omega) (by omega) (by omega), p33.2.1, by show vp_in _ (mN M (A (200 + 33))); rw [p33.2.2.1]; exact i32_in (by omega) (by omega) (by omega), fun M8 e8 x9 e9 => ?_⟩⟩
      rw [i32_clamp (by omega) (by omega), i32_clamp (by omega) (by omega), Int.toNat_natCast, show ((300 : Int) * (k : Nat) + (f : Nat)).toNat = 300 * k + f by omega, sI_w, wI_wI, mI_w, mI_wn _ _ (n (by decide)), hc f (by omega), nar_I] at e8
      rw [e8, e9, q_1, i32_add]
      refine ih (f + 1) _ (by omega) (fun g hg => ?_) (fun p hp => ?_)
      · by_cases q : g = f
        · subst q; rw [va_up_self]
        · rw [va_up_ne _ _ (by omega)]; exact h1 g (by omega)
      · rw [va_up_ne _ _ (fun e => hp (by omega))]; exact h2 p hp
  refine ⟨301, ?_⟩
  have := go 300 0 (mI M (A 233)) (by omega) (fun g hg => absurd hg (Nat.not_lt_zero _)) (fun _ _ => rfl)
  rw [wI_self] at this
  exact this
theorem s7_fin {K : Rs → Mm → Prop} {A : Nat → Nat} {M : Mm} {c : Ct} {k : Nat} (hs : Sta A M) (hk : k < 12) (h18 : mI M (A 11) 18 = bI (!cTo c)) (h19 : mJ M (A 11) 19 = cBl c) (h20 : mI M (A 11) 20 = bI (cLw c)) (h21 : mJ M (A 11) 21 = cNe c) (h22 : mJ M (A 11) 22 = cLd c) (h24 : mI M (A 11) 24 = bI (cDs c)) (h25 : mI M (A 11) 25 = bI (cWs c))
    (h : ∀ M', FX A k M M' → (∀ i, ¬ (234 ≤ i ∧ i ≤ 244) → mI M' (A i) = mI M (A i) ∧ mJ M' (A i) = mJ M (A i)) → mI M' (A 234) k = bI (!cTo c) → mJ M' (A 235) k = cBl c → mI M' (A 236) k = bI (cLw c) → mJ M' (A 237) k = cNe c → mJ M' (A 238) k = cLd c → mJ M' (A 239) k = mJ M (A 11) 23 → mI M' (A 240) k = bI (cDs c) → mI M' (A 241) k = bI (cWs c) → mI M' (A 242) k = 0 → mI M' (A 243) k = 0 → mI M' (A 244) k = -1 → K (.inl (some (.int (i32 (k : Nat))))) M') : V_X7_order_237 K 1 M (A 11) (i32 (k : Nat)) (i32 300) := by
  have n : ∀ {i j : Nat}, i ≠ j → A i ≠ A j := fun h => hs.ne h
  have ck : (i32 (k : Nat)).toNatClampNeg = k := by rw [i32_clamp (by omega) (by omega), Int.toNat_natCast]
  have vi : ∀ {M : Mm} {a : Nat}, mN M a = 12 → vp_in (i32 (k : Nat)) (mN M a) := fun e => by rw [e]; exact i32_in (by omega) (by omega) (by omega)
  have ms : ∀ (M : Mm) (a p : Nat) (v : Int32), mI (sI M a p v) a p = v := fun M a p v => by rw [sI_w, mI_w, va_up_self]
  have msj : ∀ (M : Mm) (a p : Nat) (v : Int64), mJ (sJ M a p v) a p = v := fun M a p v => by rw [sJ_w, mJ_w, va_up_self]
  have mn : ∀ (M : Mm) {a b : Nat} (p : Nat) (v : Int32), b ≠ a → mI (sI M a p v) b = mI M b := fun M a b p v c => mI_wn _ _ c
  have mnj : ∀ (M : Mm) {a b : Nat} (p : Nat) (v : Int64), b ≠ a → mJ (sJ M a p v) b = mJ M b := fun M a b p v c => mJ_wn _ _ c
  have ij : ∀ (M : Mm) (a p : Nat) (v : Int32), mJ (sI M a p v) = mJ M := fun _ _ _ _ => rfl
  have ji : ∀ (M : Mm) (a p : Nat) (v : Int64), mI (sJ M a p v) = mI M := fun _ _ _ _ => rfl
  unfold V_X7_order_237
  refine ⟨fun _ => ⟨hs.2.2.2.2.1.1, ?_⟩, fun q => absurd (by decide) q⟩
  have s1 : Sta A M := hs
  have p34 := s1.2.2.2.2.1.p 34 11 12 (by decide)
  refine ⟨A 234, p34.1, p34.2.1, vi p34.2.2.1, fun M5 e5 => ?_⟩
  have v34 : mI M (A 11) 18 = bI (!cTo c) := by rw [h18]
  rw [ck, v34, nar_I] at e5
  have s5 : Sta A M5 := by rw [e5]; exact s1.congr rfl rfl rfl rfl
  have f5 : FX A k M M5 := by rw [e5]; exact FX.wi s1 (by decide) (by decide) (by decide) (by decide) _
  have p35 := s5.2.2.2.2.1.p 35 10 12 (by decide)
  refine ⟨A 235, p35.1, p35.2.1, vi p35.2.2.1, fun M9 e9 => ?_⟩
  have v35 : mJ M5 (A 11) 19 = cBl c := by rw [e5, ij, h19]
  rw [ck, v35] at e9
  have s9 : Sta A M9 := by rw [e9]; exact s5.congr rfl rfl rfl rfl
  have f9 : FX A k M5 M9 := by rw [e9]; exact FX.wj s5 (by decide) (by decide) (by decide) (by decide) _
  have p36 := s9.2.2.2.2.1.p 36 11 12 (by decide)
  refine ⟨A 236, p36.1, p36.2.1, vi p36.2.2.1, fun M13 e13 => ?_⟩
  have v36 : mI M9 (A 11) 20 = bI (cLw c) := by rw [e9, ji, e5, mn _ _ _ (n (by decide)), h20]
  rw [ck, v36, nar_I] at e13
  have s13 : Sta A M13 := by rw [e13]; exact s9.congr rfl rfl rfl rfl
  have f13 : FX A k M9 M13 := by rw [e13]; exact FX.wi s9 (by decide) (by decide) (by decide) (by decide) _
  have p37 := s13.2.2.2.2.1.p 37 10 12 (by decide)
  refine ⟨A 237, p37.1, p37.2.1, vi p37.2.2.1, fun M17 e17 => ?_⟩
  have v37 : mJ M13 (A 11) 21 = cNe c := by rw [e13, ij, e9, mnj _ _ _ (n (by decide)), e5, ij, h21]
  rw [ck, v37] at e17
  have s17 : Sta A M17 := by rw [e17]; exact s13.congr rfl rfl rfl rfl
  have f17 : FX A k M13 M17 := by rw [e17]; exact FX.wj s13 (by decide) (by decide) (by decide) (by decide) _
  have p38 := s17.2.2.2.2.1.p 38 10 12 (by decide)
  refine ⟨A 238, p38.1, p38.2.1, vi p38.2.2.1, fun M21 e21 => ?_⟩
  have v38 : mJ M17 (A 11) 22 = cLd c := by rw [e17, mnj _ _ _ (n (by decide)), e13, ij, e9, mnj _ _ _ (n (by decide)), e5, ij, h22]
  rw [ck, v38] at e21
  have s21 : Sta A M21 := by rw [e21]; exact s17.congr rfl rfl rfl rfl
  have f21 : FX A k M17 M21 := by rw [e21]; exact FX.wj s17 (by decide) (by decide) (by decide) (by decide) _
  have p39 := s21.2.2.2.2.1.p 39 10 12 (by decide)
  refine ⟨A 239, p39.1, p39.2.1, vi p39.2.2.1, fun M25 e25 => ?_⟩
  have v39 : mJ M21 (A 11) 23 = mJ M (A 11) 23 := by rw [e21, mnj _ _ _ (n (by decide)), e17, mnj _ _ _ (n (by decide)), e13, ij, e9, mnj _ _ _ (n (by decide)), e5, ij]
  rw [ck, v39] at e25
  have s25 : Sta A M25 := by rw [e25]; exact s21.congr rfl rfl rfl rfl
  have f25 : FX A k M21 M25 := by rw [e25]; exact FX.wj s21 (by decide) (by decide) (by decide) (by decide) _
  have p40 := s25.2.2.2.2.1.p 40 11 12 (by decide)
  refine ⟨A 240, p40.1, p40.2.1, vi p40.2.2.1, fun M29 e29 => ?_⟩
  have v40 : mI M25 (A 11) 24 = bI (cDs c) := by rw [e25, ji, e21, ji, e17, ji, e13, mn _ _ _ (n (by decide)), e9, ji, e5, mn _ _ _ (n (by decide)), h24]
  rw [ck, v40, nar_I] at e29
  have s29 : Sta A M29 := by rw [e29]; exact s25.congr rfl rfl rfl rfl
  have f29 : FX A k M25 M29 := by rw [e29]; exact FX.wi s25 (by decide) (by decide) (by decide) (by decide) _
  have p41 := s29.2.2.2.2.1.p 41 11 12 (by decide)
  refine ⟨A 241, p41.1, p41.2.1, vi p41.2.2.1, fun M33 e33 => ?_⟩
  have v41 : mI M29 (A 11) 25 = bI (cWs c) := by rw [e29, mn _ _ _ (n (by decide)), e25, ji, e21, ji, e17, ji, e13, mn _ _ _ (n (by decide)), e9, ji, e5, mn _ _ _ (n (by decide)), h25]
  rw [ck, v41, nar_I] at e33
  have s33 : Sta A M33 := by rw [e33]; exact s29.congr rfl rfl rfl rfl
  have f33 : FX A k M29 M33 := by rw [e33]; exact FX.wi s29 (by decide) (by decide) (by decide) (by decide) _
  have p42 := s33.2.2.2.2.1.p 42 9 12 (by decide)
  refine ⟨A 242, p42.1, p42.2.1, vi p42.2.2.1, fun M37 e37 => ?_⟩
  rw [ck] at e37
  have s37 : Sta A M37 := by rw [e37]; exact s33.congr rfl rfl rfl rfl
  have f37 : FX A k M33 M37 := by rw [e37]; exact FX.wi s33 (by decide) (by decide) (by decide) (by decide) _
  have p43 := s37.2.2.2.2.1.p 43 9 12 (by decide)
  refine ⟨A 243, p43.1, p43.2.1, vi p43.2.2.1, fun M41 e41 => ?_⟩
  rw [ck] at e41
  have s41 : Sta A M41 := by rw [e41]; exact s37.congr rfl rfl rfl rfl
  have f41 : FX A k M37 M41 := by rw [e41]; exact FX.wi s37 (by decide) (by decide) (by decide) (by decide) _
  have p44 := s41.2.2.2.2.1.p 44 9 12 (by decide)
  refine ⟨A 244, p44.1, p44.2.1, vi p44.2.2.1, fun M45 e45 => ?_⟩
  rw [ck] at e45
  have s45 : Sta A M45 := by rw [e45]; exact s41.congr rfl rfl rfl rfl
  have f45 : FX A k M41 M45 := by rw [e45]; exact FX.wi s41 (by decide) (by decide) (by decide) (by decide) _
  refine h M45 ((((((((((f5.trans f9).trans f13).trans f17).trans f21).trans f25).trans f29).trans f33).trans f37).trans f41).trans f45) (fun i hi => ⟨by rw [e45, mn _ _ _ (n (by omega)), e41, mn _ _ _ (n (by omega)), e37, mn _ _ _ (n (by omega)), e33, mn _ _ _ (n (by omega)), e29, mn _ _ _ (n (by omega)), e25, ji, e21, ji, e17, ji, e13, mn _ _ _ (n (by omega)), e9, ji, e5, mn _ _ _ (n (by omega))], by rw [e45, ij, e41, ij, e37, ij, e33, ij, e29, ij, e25, mnj _ _ _ (n (by omega)), e21, mnj _ _ _ (n (by omega)), e17, mnj _ _ _ (n (by omega)), e13, ij, e9, mnj _ _ _ (n (by omega)), e5, ij]⟩) ?_ ?_ ?_ ?_ ?_ ?_ ?_ ?_ ?_ ?_ ?_
  · rw [e45, mn _ _ _ (n (by decide)), e41, mn _ _ _ (n (by decide)), e37, mn _ _ _ (n (by decide)), e33, mn _ _ _ (n (by decide)), e29, mn _ _ _ (n (by decide)), e25, ji, e21, ji, e17, ji, e13, mn _ _ _ (n (by decide)), e9, ji, e5, ms]
  · rw [e45, ij, e41, ij, e37, ij, e33, ij, e29, ij, e25, mnj _ _ _ (n (by decide)), e21, mnj _ _ _ (n (by decide)), e17, mnj _ _ _ (n (by decide)), e13, ij, e9, msj]
  · rw [e45, mn _ _ _ (n (by decide)), e41, mn _ _ _ (n (by decide)), e37, mn _ _ _ (n (by decide)), e33, mn _ _ _ (n (by decide)), e29, mn _ _ _ (n (by decide)), e25, ji, e21, ji, e17, ji, e13, ms]
  · rw [e45, ij, e41, ij, e37, ij, e33, ij, e29, ij, e25, mnj _ _ _ (n (by decide)), e21, mnj _ _ _ (n (by decide)), e17, msj]
  · rw [e45, ij, e41, ij, e37, ij, e33, ij, e29, ij, e25, mnj _ _ _ (n (by decide)), e21, msj]
  · rw [e45, ij, e41, ij, e37, ij, e33, ij, e29, ij, e25, msj]
  · rw [e45, mn _ _ _ (n (by decide)), e41, mn _ _ _ (n (by decide)), e37, mn _ _ _ (n (by decide)), e33, mn _ _ _ (n (by decide)), e29, ms]
  · rw [e45, mn _ _ _ (n (by decide)), e41, mn _ _ _ (n (by decide)), e37, mn _ _ _ (n (by decide)), e33, ms]
  · rw [e45, mn _ _ _ (n (by decide)), e41, mn _ _ _ (n (by decide)), e37, ms]
  · rw [e45, mn _ _ _ (n (by decide)), e41, ms]
  · rw [e45, ms]
