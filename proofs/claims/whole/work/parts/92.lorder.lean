/-! order: the model's call, and the law's row -/
theorem fx_read {A : Nat → Nat} {M M' M4 M5 : Mm} {k m : Nat} {s : Nat → Int} (hs : Sta A M) (f : Fm (M, s, m, A 11, fun p => A (200 + p)) M') (e4 : M4 = sI M' (A 11) 11 0) (e5 : M5 = sI M4 (A 11) 15 (mI M4 (A 11) 13)) : FX A k M M5 ∧ mI M5 (A 11) 11 = 0 ∧ mI M5 (A 11) 15 = mI M' (A 11) 13 ∧ (∀ p, p ≠ 11 → p ≠ 15 → mI M5 (A 11) p = mI M' (A 11) p) ∧ (∀ i, i ≠ 11 → mI M5 (A i) = mI M' (A i)) ∧ mJ M5 = mJ M' := by
  have n : ∀ {i j : Nat}, i ≠ j → A i ≠ A j := fun h => hs.ne h
  obtain ⟨f1, f2, f3, f4, f5, f6, f7⟩ := f
  have f1 : mL M' = mL M := f1
  have f2 : mK M' = mK M := f2
  have f3 : mN M' = mN M := f3
  have f4 : mP M' = mP M := f4
  have f5 : ∀ b, b ≠ A 11 → b ≠ A 217 → mI M' b = mI M b := f5
  have f6 : ∀ b, b ≠ A 11 → b ≠ A 216 → mJ M' b = mJ M b := f6
  have f7 : ∀ p, rdP p = false → mI M' (A 11) p = mI M (A 11) p := f7
  rw [sI_w] at e4
  have r4 : mI M4 (A 11) = va_up (mI M' (A 11)) 11 0 := by rw [e4, mI_w]
  rw [r4, sI_w, va_up_ne _ _ (by decide)] at e5
  have r5 : mI M5 (A 11) = va_up (va_up (mI M' (A 11)) 11 0) 15 (mI M' (A 11) 13) := by rw [e5, mI_w, r4]
  have o5 : ∀ i, i ≠ 11 → mI M5 (A i) = mI M' (A i) := fun i c => by rw [e5, mI_wn _ _ (n c), e4, mI_wn _ _ (n c)]
  have eJ : mJ M5 = mJ M' := by rw [e5, e4]; rfl
  have p5 : ∀ p, p ≠ 11 → p ≠ 15 → mI M5 (A 11) p = mI M' (A 11) p := fun p c1 c2 => by rw [r5, va_up_ne _ _ c2, va_up_ne _ _ c1]
  refine ⟨⟨by rw [e5, e4]; exact f1, by rw [e5, e4]; exact f2, by rw [e5, e4]; exact f3, by rw [e5, e4]; exact f4, fun i c1 c2 c3 c4 => ⟨(o5 i c1).trans (f5 _ (n c1) (n c3)), by rw [eJ]; exact f6 _ (n c1) (n c2)⟩, fun i p c1 c2 _ _ _ => ⟨by rw [o5 i (by omega), f5 _ (n (by omega)) (n (by omega))], by rw [eJ, f6 _ (n (by omega)) (n (by omega))]⟩, fun p c => (p5 p (by omega) (by omega)).trans (f7 p (by unfold rdP; rw [decide_eq_false_iff_not]; omega))⟩, by rw [r5, va_up_ne _ _ (by decide), va_up_self], by rw [r5, va_up_self], p5, o5, eJ⟩
theorem m_ord105 {K : Rs → Mm → Prop} {A : Nat → Nat} {M : Mm} {S : St} {B z w g v t : Int} {k zn : Nat} (h : RM A M S) (hP : SP S B) (ez : z = zn) (hz : zn < 4) (ok : okO w g v t) (hF : isF S k)
    (h4 : ∀ (co pl : Nat) M', pText (stTp S) (stL S) = .inl (co, pl) → FM A M M' → RM A M' (orF S co) → mI M' (A 11) 0 = mI M (A 11) 0 → K (.inl (some (.int ((-2 : Int32) - i32 (pl : Nat))))) M')
    (h5 : ∀ (a1 : Nat) (c : Ct) M', pText (stTp S) (stL S) = .inr (a1, c) → FM A M M' → (∀ b, isB (ruOf c) b → RM A M' (orS S k zn w g v t (ruOf c) b)) → mI M' (A 11) 0 = mI M (A 11) 0 → K (.inl (some (.int (i32 (k : Nat))))) M') : V_X7_order_105 K M (A 11) (i32 z) (i32 w) (i32 g) (i32 v) (i32 t) (i32 (k : Nat)) := by
  have hs := h.sta
  have hk := hF.1
  have n : ∀ {i j : Nat}, i ≠ j → A i ≠ A j := fun h => hs.ne h
  have ck : (i32 (k : Nat)).toNatClampNeg = k := by rw [i32_clamp (by omega) (by omega), Int.toNat_natCast]
  have vi : ∀ {M : Mm} {a : Nat}, mN M a = 12 → vp_in (i32 (k : Nat)) (mN M a) := fun e => by rw [e]; exact i32_in (by omega) (by omega) (by omega)
  have ms : ∀ (M : Mm) (a p : Nat) (v : Int32), mI (sI M a p v) a p = v := fun M a p v => by rw [sI_w, mI_w, va_up_self]
  have mn : ∀ (M : Mm) {a b : Nat} (p : Nat) (v : Int32), b ≠ a → mI (sI M a p v) b = mI M b := fun M a b p v c => mI_wn _ _ c
  have hk0 := hP.2.2.2.1.2.2.2.1 k hk hF.2.1
  have ov0 := h.1.2.2.1 k hk
  have u0 := (h.1.2.2.2.2 k hk).1
  obtain ⟨R, dm⟩ := h.1.2.1
  have om0 := dm.2.2.2 k hk
  unfold V_X7_order_105
  rw [q_12, i32_eq (by omega) (by omega) (by omega) (by omega)]
  refine ⟨fun _ => ⟨hs.2.2.2.2.1.1, ?_⟩, fun q => absurd q (by omega)⟩
  have hEn : En7 (M, stTp S, stL S, A 11, fun p => A (200 + p)) M := ⟨hs.2.2.2.2.1, h.2.2.2.2.2.1, hP.2.2.2.2.2.2.2.2.1, h.2.2.2.2.2.2.1, n (by decide)⟩
  refine s7_text (e := (M, stTp S, stL S, A 11, fun p => A (200 + p))) rfl hEn (fun a1 c hp M' qo => kV_i ?_) (fun co pl hp M' qf => kV_i ?_)
  · obtain ⟨p1, p2, p3, p4, p5, p6⟩ := qo
    have p5 : mI M' (A 11) 13 = 0 := p5
    refine ⟨p1.1.1, fun M4 e4 M5 e5 => ?_⟩
    obtain ⟨f5, a11, a15, ap, ao, aJ⟩ := fx_read (k := k) hs p2 e4 e5
    obtain ⟨c1, c2, c3, c4, c5, c6, c7, c8, c9, c10⟩ := p6
    have c1 : ∀ f, f < 5 → mJ M' (A 216) f = cNu c f := c1
    have c2 : ∀ y, y < 300 → mI M' (A 217) y = bI (cYr c y) := c2
    have c3 : mI M' (A 11) 18 = bI (!cTo c) := c3
    have c4 : mI M' (A 11) 24 = bI (cDs c) := c4
    have c5 : mI M' (A 11) 25 = bI (cWs c) := c5
    have c6 : mJ M' (A 11) 19 = cBl c := c6
    have c7 : mI M' (A 11) 20 = bI (cLw c) := c7
    have c8 : mJ M' (A 11) 21 = cNe c := c8
    have c9 : mJ M' (A 11) 22 = cLd c := c9
    have c10 : ∀ k w, 1 ≤ k → k ≤ 5 → w < 7 → bj (mJ M' (A 11) 23) (6 * w + k) = cKw c k w := c10
    have s5 := f5.sta hs
    rw [ap 13 (by decide) (by decide), p5]
    refine ⟨fun _ => ?_, fun q => absurd (by decide) q⟩
    have p26 := s5.2.2.2.2.1.p 26 11 12 (by decide)
    refine ⟨A 226, p26.1, p26.2.1, vi p26.2.2.1, fun M9 e9 => ?_⟩
    rw [ck, nar_1] at e9
    have s9 : Sta A M9 := by rw [e9]; exact s5.congr rfl rfl rfl rfl
    have fa : FX A k M5 M9 := by rw [e9]; exact FX.wi s5 (by decide) (by decide) (by decide) (by decide) _
    have p27 := s9.2.2.2.2.1.p 27 9 12 (by decide)
    refine ⟨A 227, p27.1, p27.2.1, vi p27.2.2.1, fun M13 e13 => ?_⟩
    rw [ck] at e13
    have s13 : Sta A M13 := by rw [e13]; exact s9.congr rfl rfl rfl rfl
    have f13 : FX A k M9 M13 := by rw [e13]; exact FX.wi s9 (by decide) (by decide) (by decide) (by decide) _
    have p28 := s13.2.2.2.2.1.p 28 9 12 (by decide)
    refine ⟨A 228, p28.1, p28.2.1, vi p28.2.2.1, fun M17 e17 => ?_⟩
    rw [ck] at e17
    have s17 : Sta A M17 := by rw [e17]; exact s13.congr rfl rfl rfl rfl
    have f17 : FX A k M13 M17 := by rw [e17]; exact FX.wi s13 (by decide) (by decide) (by decide) (by decide) _
    have p29 := s17.2.2.2.2.1.p 29 9 12 (by decide)
    refine ⟨A 229, p29.1, p29.2.1, vi p29.2.2.1, fun M21 e21 => ?_⟩
    rw [ck] at e21
    have s21 : Sta A M21 := by rw [e21]; exact s17.congr rfl rfl rfl rfl
    have f21 : FX A k M17 M21 := by rw [e21]; exact FX.wi s17 (by decide) (by decide) (by decide) (by decide) _
    have p30 := s21.2.2.2.2.1.p 30 9 12 (by decide)
    refine ⟨A 230, p30.1, p30.2.1, vi p30.2.2.1, fun M25 e25 => ?_⟩
    rw [ck] at e25
    have s25 : Sta A M25 := by rw [e25]; exact s21.congr rfl rfl rfl rfl
    have f25 : FX A k M21 M25 := by rw [e25]; exact FX.wi s21 (by decide) (by decide) (by decide) (by decide) _
    have p31 := s25.2.2.2.2.1.p 31 9 12 (by decide)
    refine ⟨A 231, p31.1, p31.2.1, vi p31.2.2.1, fun M29 e29 => ?_⟩
    rw [ck] at e29
    have s29 : Sta A M29 := by rw [e29]; exact s25.congr rfl rfl rfl rfl
    have f29 : FX A k M25 M29 := by rw [e29]; exact FX.wi s25 (by decide) (by decide) (by decide) (by decide) _
    have o29 : ∀ i, ¬ (226 ≤ i ∧ i ≤ 231) → mI M29 (A i) = mI M5 (A i) := fun i c => by rw [e29, mn _ _ _ (n (by omega)), e25, mn _ _ _ (n (by omega)), e21, mn _ _ _ (n (by omega)), e17, mn _ _ _ (n (by omega)), e13, mn _ _ _ (n (by omega)), e9, mn _ _ _ (n (by omega))]
    have j29 : mJ M29 = mJ M5 := by rw [e29, e25, e21, e17, e13, e9]; rfl
    have x226 : mI M29 (A 226) k = 1 := by rw [e29, mn _ _ _ (n (by decide)), e25, mn _ _ _ (n (by decide)), e21, mn _ _ _ (n (by decide)), e17, mn _ _ _ (n (by decide)), e13, mn _ _ _ (n (by decide)), e9, ms]
    have x227 : mI M29 (A 227) k = i32 z := by rw [e29, mn _ _ _ (n (by decide)), e25, mn _ _ _ (n (by decide)), e21, mn _ _ _ (n (by decide)), e17, mn _ _ _ (n (by decide)), e13, ms]
    have x228 : mI M29 (A 228) k = i32 w := by rw [e29, mn _ _ _ (n (by decide)), e25, mn _ _ _ (n (by decide)), e21, mn _ _ _ (n (by decide)), e17, ms]
    have x229 : mI M29 (A 229) k = i32 g := by rw [e29, mn _ _ _ (n (by decide)), e25, mn _ _ _ (n (by decide)), e21, ms]
    have x230 : mI M29 (A 230) k = i32 v := by rw [e29, mn _ _ _ (n (by decide)), e25, ms]
    have x231 : mI M29 (A 231) k = i32 t := by rw [e29, ms]
    refine s7_203 (c := c) s29 hk (fun f hf => by rw [j29, aJ]; exact c1 f hf) (fun rr hr1 hr2 => ?_)
    have sN : Sta A (wJ M29 (A 232) rr) := s29.congr rfl rfl rfl rfl
    have fN : FX A k M29 (wJ M29 (A 232) rr) := by
      refine ⟨rfl, rfl, rfl, rfl, fun j c1 c2 c3 c4 => ⟨rfl, mJ_wn _ _ (n (by omega))⟩, fun j p c1 c2 c3 c4 c5 => ⟨rfl, ?_⟩, fun p c => rfl⟩
      by_cases q : j = 232
      · subst q; rw [mJ_w]; exact hr2 p (c3 rfl)
      · rw [mJ_wn _ _ (n q)]
    refine s7_237 (c := c) sN hk (fun y hy => by show mI M29 (A 217) y = _; rw [o29 217 (by decide), ao 217 (by decide)]; exact c2 y hy) (fun ss hs1 hs2 => ?_)
    have hs2 : ∀ p, p / 300 ≠ k → ss p = mI M29 (A 233) p := hs2
    generalize hN : wI (wJ M29 (A 232) rr) (A 233) ss = N
    have sN2 : Sta A N := by rw [← hN]; exact sN.congr rfl rfl rfl rfl
    have fN2 : FX A k (wJ M29 (A 232) rr) N := by
      rw [← hN]
      refine ⟨rfl, rfl, rfl, rfl, fun j c1 c2 c3 c4 => ⟨mI_wn _ _ (n (by omega)), rfl⟩, fun j p c1 c2 c3 c4 c5 => ⟨?_, rfl⟩, fun p c => by rw [mI_wn _ _ (n (by decide))]⟩
      by_cases q : j = 233
      · subst q; rw [mI_w]; exact hs2 p (c4 rfl)
      · rw [mI_wn _ _ (n q)]
    have iN : ∀ i, i ≠ 233 → mI N (A i) = mI M29 (A i) := fun i q => by rw [← hN, mI_wn _ _ (n q)]; rfl
    have jN : ∀ i, i ≠ 232 → mJ N (A i) = mJ M29 (A i) := fun i q => by rw [← hN]; exact mJ_wn _ _ (n q)
    have pN : ∀ p, p ≠ 11 → p ≠ 15 → mI N (A 11) p = mI M' (A 11) p := fun p q1 q2 => by rw [iN 11 (by decide), o29 11 (by decide)]; exact ap p q1 q2
    have qN : mJ N (A 11) = mJ M' (A 11) := by rw [jN 11 (by decide), j29, aJ]
    refine s7_fin (c := c) sN2 hk ((pN 18 (by decide) (by decide)).trans c3) (by rw [qN]; exact c6) ((pN 20 (by decide) (by decide)).trans c7) (by rw [qN]; exact c8) (by rw [qN]; exact c9) ((pN 24 (by decide) (by decide)).trans c4) ((pN 25 (by decide) (by decide)).trans c5) (fun M9 f9 o9 y34 y35 y36 y37 y38 y39 y40 y41 y42 y43 y44 => ?_)
    have fA : FX A k M M9 := f5.trans (fa.trans (f13.trans (f17.trans (f21.trans (f25.trans (f29.trans (fN.trans (fN2.trans f9))))))))
    have x9 : ∀ i, 226 ≤ i → i ≤ 231 → mI M9 (A i) = mI M29 (A i) := fun i q1 q2 => ((o9 i (by omega)).1).trans (iN i (by omega))
    have a11' : mI M9 (A 11) 11 = 0 := by rw [(o9 11 (by decide)).1, iN 11 (by decide), o29 11 (by decide)]; exact a11
    have a15' : mI M9 (A 11) 15 = 0 := by rw [(o9 11 (by decide)).1, iN 11 (by decide), o29 11 (by decide), a15]; exact p5
    refine h5 a1 c M9 hp fA.fm (fun b hb => ?_) (fA.2.2.2.2.2.2 0 (by decide))
    have ko := orS_k S k zn w g v t (ruOf c) b
    refine h.fx fA (orS_bk S k zn w g v t (ruOf c) b) ⟨fun _ => ?_, ?_, ?_⟩ ⟨?_, ?_, ?_, ?_⟩ ⟨?_, fun _ => ⟨⟨hk, ?_, ?_, ?_, ?_, ?_⟩, ?_, ?_⟩⟩ a11' a15'
    · show _ = i32 (wN (dW (stD S) k)); rw [hk0.2]; exact y44
    · rw [ko.2.2.2.2.2.2.2.2.1]; exact y42
    · rw [ko.2.2.2.2.2.2.2.2.2]; exact y43
    · rw [x9 230 (by decide) (by decide), x230, ko.2.2.2.2.2.1]
    · rw [x9 231 (by decide) (by decide), x231, ko.2.2.2.2.1]
    · rw [ko.2.2.2.2.2.1]; exact ok.2.2.1
    · rw [ko.2.2.2.2.1]; have := ok.2.2.2; omega
    · rw [x9 226 (by decide) (by decide), x226, ko.1]; rfl
    · rw [ko.2.2.1]
      refine ⟨fun f hf => ?_, ⟨cTo c, y34, fun y y1 y2 => ?_⟩, y40, y41, y35, y36, y37, y38, fun j n j1 j2 j3 => ?_⟩
      · show mJ M9 (A 232) (5 * k + f) = cNu c f
        rw [(o9 232 (by decide)).2, ← hN]
        show mJ (wJ M29 (A 232) rr) (A 232) (5 * k + f) = cNu c f
        rw [mJ_w]; exact hr1 f hf
      · show (!cTo c || (decide (1900 ≤ y ∧ y ≤ 2199) && cYr c (y - 1900).toNat)) = (!cTo c || (decide (1900 ≤ y ∧ y ≤ 2199) && decide (¬ mI M9 (A 233) (300 * k + (y - 1900).toNat) = 0)))
        by_cases q : 1900 ≤ y ∧ y ≤ 2199
        · rw [(o9 233 (by decide)).1, ← hN, mI_w, hs1 _ (by omega)]
          cases cYr c (y - 1900).toNat <;> rfl
        · rw [decide_eq_false q, Bool.false_and, Bool.false_and]
      · show bj (mJ M9 (A 239) k) (6 * n + j) = cKw c j n
        rw [y39, qN]; exact c10 j n j1 j2 j3
    · rw [ko.2.1]; exact hz
    · rw [ko.2.1, x9 227 (by decide) (by decide), x227, ez]
    · rw [ko.2.1]; exact hP.2.2.2.2.2.2.2.1 zn hz
    · rw [ko.2.2.1, ko.2.2.2.1]; exact hb
    · rw [x9 228 (by decide) (by decide), x228, ko.2.2.2.2.2.2.1]
    · rw [x9 229 (by decide) (by decide), x229, ko.2.2.2.2.2.2.2.1]
  · obtain ⟨p1, p2, p3, p4, p5, p6⟩ := qf
    have p4 : mI M' (A 11) 13 = i32 (co : Nat) := p4
    have p5 : mI M' (A 11) 14 = i32 (pl : Nat) := p5
    refine ⟨p1.1.1, fun M4 e4 M5 e5 => ?_⟩
    obtain ⟨f5, a11, a15, ap, ao, aJ⟩ := fx_read (k := k) hs p2 e4 e5
    have f5' := f5
    obtain ⟨_, _, _, _, _, rk, rp⟩ := f5'
    have rr : ∀ i, 226 ≤ i → i ≤ 244 → mI M5 (A i) = mI M (A i) := fun i q1 q2 => by
      rw [ao i (by omega)]
      have f5 : ∀ b, b ≠ A 11 → b ≠ A 217 → mI M' b = mI M b := p2.2.2.2.2.1
      exact f5 _ (n (by omega)) (n (by omega))
    rw [ap 13 (by decide) (by decide), p4, q_0, i32_le (by omega) (by omega) (by omega) (by omega)]
    refine ⟨fun q => absurd q (by omega), fun _ => ?_⟩
    rw [ap 14 (by decide) (by decide), p5]
    refine h4 co pl M5 hp f5.fm (h.fx f5 (orF_bk S k co) ?_ ?_ ⟨?_, fun u => ?_⟩ a11 (a15.trans p4)) (rp 0 (by decide))
    · rw [rr 244 (by decide) (by decide), rr 242 (by decide) (by decide), rr 243 (by decide) (by decide)]; exact om0
    · rw [rr 230 (by decide) (by decide), rr 231 (by decide) (by decide)]; exact ov0
    · rw [rr 226 (by decide) (by decide)]; exact u0
    · have u' : cfU (stC S) k = true := u
      rw [hF.2.1] at u'; exact absurd u' (by decide)
theorem m_order {K : Rs → Mm → Prop} {A : Nat → Nat} {M : Mm} {S : St} {B z w g v t : Int} (h : RM A M S) (hP : SP S B) (bz : -2147483648 ≤ z ∧ z ≤ 2147483647) (bw : -2147483648 ≤ w ∧ w ≤ 2147483647) (bg : -2147483648 ≤ g ∧ g ≤ 2147483647) (bv : -2147483648 ≤ v ∧ v ≤ 2147483647) (bt : -2147483648 ≤ t ∧ t ≤ 2147483647)
    (h1 : ¬ (0 ≤ z ∧ z ≤ 3) → ∀ M', FM A M M' → RM A M' S → mI M' (A 11) 0 = 1 → K (.inl (some (.int 0))) M') (h2 : (0 ≤ z ∧ z ≤ 3) → ¬ okO w g v t → ∀ M', FM A M M' → RM A M' S → mI M' (A 11) 0 = 2 → K (.inl (some (.int 0))) M') (h3 : (0 ≤ z ∧ z ≤ 3) → okO w g v t → (∀ j, j < 12 → cfU (stC S) j = true) → ∀ M', FM A M M' → RM A M' S → mI M' (A 11) 0 = 3 → K (.inl (some (.int 0))) M')
    (h4 : ∀ (k zn co pl : Nat) M', z = zn → zn < 4 → okO w g v t → isF S k → pText (stTp S) (stL S) = .inl (co, pl) → FM A M M' → RM A M' (orF S co) → mI M' (A 11) 0 = 0 → K (.inl (some (.int ((-2 : Int32) - i32 (pl : Nat))))) M')
    (h5 : ∀ (k zn a1 : Nat) (c : Ct) M', z = zn → zn < 4 → okO w g v t → isF S k → pText (stTp S) (stL S) = .inr (a1, c) → FM A M M' → (∀ b, isB (ruOf c) b → RM A M' (orS S k zn w g v t (ruOf c) b)) → mI M' (A 11) 0 = 0 → K (.inl (some (.int (i32 (k : Nat))))) M') : V_X7_order K M (A 11) (i32 z) (i32 w) (i32 g) (i32 v) (i32 t) := by
  unfold V_X7_order
  refine ⟨h.sta.2.2.2.2.1.1, fun M2 e2 => ?_⟩
  obtain ⟨r, f, c⟩ := h.w0 0
  rw [← e2] at r f c
  have hs := r.sta
  have md := hs.2.2.2.2.1
  have p26 := md.p 26 11 12 (by decide)
  refine s7_in (a := z) (l := 0) (u := 3) bz.1 bz.2 (by decide) (by decide) (kI_i ?_)
  rw [bI_ne0 (decide _), bI_0 (decide _), decide_eq_true_iff, decide_eq_false_iff_not]
  refine ⟨fun oz => ?_, fun q => ⟨md.1, s7_wrong r (fun M' f' r' c' => kI_i (h1 q M' (f.trans f') r' c'))⟩⟩
  have no : ¬ ((0 ≤ w ∧ w ≤ 2) ∧ (0 ≤ g ∧ g ≤ 100000) ∧ (0 ≤ v ∧ v ≤ 2) ∧ (1 ≤ t ∧ t ≤ 10000)) → V_X7_order_73 K M2 (A 11) := fun q => ⟨md.1, s7_wrong r (fun M' f' r' c' => kI_i (h2 oz q M' (f.trans f') r' c'))⟩
  refine s7_in (a := w) (l := 0) (u := 2) bw.1 bw.2 (by decide) (by decide) (kI_i ?_)
  rw [bI_ne0 (decide _), bI_0 (decide _), decide_eq_true_iff, decide_eq_false_iff_not]
  refine ⟨fun q => no (by omega), fun ow => s7_in (a := g) (l := 0) (u := 100000) bg.1 bg.2 (by decide) (by decide) (kI_i ?_)⟩
  rw [bI_ne0 (decide _), bI_0 (decide _), decide_eq_true_iff, decide_eq_false_iff_not]
  refine ⟨fun q => no (by omega), fun og => s7_in (a := v) (l := 0) (u := 2) bv.1 bv.2 (by decide) (by decide) (kI_i ?_)⟩
  rw [bI_ne0 (decide _), bI_0 (decide _), decide_eq_true_iff, decide_eq_false_iff_not]
  refine ⟨fun q => no (by omega), fun ov => s7_in (a := t) (l := 1) (u := 10000) bt.1 bt.2 (by decide) (by decide) (kI_i ?_)⟩
  rw [bI_ne0 (decide _), bI_0 (decide _), decide_eq_true_iff, decide_eq_false_iff_not]
  refine ⟨fun ot => ?_, fun q => no (by omega)⟩
  have ok : okO w g v t := ⟨ow, og, ov, ot⟩
  obtain ⟨zn, ez⟩ : ∃ zn : Nat, z = zn := ⟨z.toNat, by omega⟩
  have go : ∀ (n k : Nat), k + n = 12 → (∀ j, j < k → cfU (stC S) j = true) → V_X7_order_82 K (n + 1) M2 (A 11) (i32 z) (i32 w) (i32 g) (i32 v) (i32 t) (i32 (k : Nat)) := by
    intro n
    induction n with
    | zero =>
      intro k e hj
      unfold V_X7_order_82
      rw [q_12, i32_le (by omega) (by omega) (by omega) (by omega)]
      refine ⟨fun _ => ?_, fun q => absurd (by omega) q⟩
      unfold V_X7_order_105
      rw [q_12, i32_eq (by omega) (by omega) (by omega) (by omega)]
      exact ⟨fun q => absurd (by omega) q, fun _ => ⟨md.1, s7_wrong r (fun M' f' r' c' => kI_i (h3 oz ok (fun j q => hj j (by omega)) M' (f.trans f') r' c'))⟩⟩
    | succ n ih =>
      intro k e hj
      have hk : k < 12 := by omega
      unfold V_X7_order_82
      rw [q_12, i32_le (by omega) (by omega) (by omega) (by omega)]
      refine ⟨fun q => absurd q (by omega), fun _ => ⟨md.1, A 226, p26.1, p26.2.1, by show vp_in _ (mN M2 (A (200 + 26))); rw [p26.2.2.1]; exact i32_in (by omega) (by omega) (by omega), ?_⟩⟩
      rw [i32_clamp (by omega) (by omega), Int.toNat_natCast, (r.1.2.2.2.2 k hk).1, bI_ne0 (cfU (stC S) k), bI_0 (cfU (stC S) k)]
      refine ⟨fun u => ?_, fun u x ex => ?_⟩
      · have hF : isF S k := ⟨hk, u, hj⟩
        exact m_ord105 r hP ez (by omega) ok hF (fun co pl M' hp f' r' c' => h4 k zn co pl M' ez (by omega) ok hF hp (f.trans f') r' (c'.trans c)) (fun a1 ct M' hp f' r' c' => h5 k zn a1 ct M' ez (by omega) ok hF hp (f.trans f') r' (c'.trans c))
      · rw [ex, q_1, i32_add]
        refine ih (k + 1) (by omega) (fun j q => ?_)
        by_cases c : j = k
        · subst c; exact u
        · exact hj j (by omega)
  exact ⟨13, go 12 0 (by omega) (fun j q => absurd q (Nat.not_lt_zero _))⟩
theorem l_order {G : Gx} {K : Rs → Mm → Prop} {B23 : Mm → Nat → Nat → Nat → Int32 → Prop} {A : Nat → Nat} {M : Mm} {S : St} {B : Int} {l4 : Int32} (hR : RG A M S B) (hv : Vi G l4) (nxt : ∀ M' S', RC A M' S' → RM A M' S' → SP S' (B + 1300000) → B23 M' (A 0) (A 11) (A 12) (l4 + 7)) : V_L_law_570 G K B23 M (A 0) (A 11) (A 12) l4 := by
  obtain ⟨z, ez, bz⟩ := i32_of (gX G ((l4 + (1 : Int32))).toNatClampNeg)
  obtain ⟨w, ew, bw⟩ := i32_of (gX G ((l4 + (2 : Int32))).toNatClampNeg)
  obtain ⟨g, eg, bg⟩ := i32_of (gX G ((l4 + (3 : Int32))).toNatClampNeg)
  obtain ⟨v, ev, bv⟩ := i32_of (gX G ((l4 + (4 : Int32))).toNatClampNeg)
  obtain ⟨t, et, bt⟩ := i32_of (gX G ((l4 + (5 : Int32))).toNatClampNeg)
  obtain ⟨hC, hM, hP, _⟩ := hR
  obtain ⟨v1, v2, v3, v4, v5, v6⟩ := hv
  unfold V_L_law_570 V_L_order
  rw [ez, ew, eg, ev, et]
  refine ⟨v1, v2, v3, v4, v5, hC.sta.2.1.1, c_order hC hP bz bw bg bv bt (fun q => kI_x (.inl ⟨rfl, kI_i ⟨v1, v2, v3, v4, v5, hC.sta.2.2.2.2.1.1, ?_⟩⟩)) (fun oz q => kI_x (.inr (.inl ⟨rfl, kI_i ⟨v1, v2, v3, v4, v5, hC.sta.2.2.2.2.1.1, ?_⟩⟩))) (fun oz ok q => kI_x (.inr (.inr ⟨rfl, kI_i ⟨v1, v2, v3, v4, v5, hC.sta.2.2.2.2.1.1, ?_⟩⟩))) (fun k zn co pl M' ezn hz ok hF hp f r => kI_i (outK r.sta (kI_i ?_))) (fun k zn a1 ct M' ezn hz ok hF hp f r => ?_)⟩
  · exact m_order hM hP bz bw bg bv bt (fun _ M' f r c => kI_i (tail r.sta c (fun c => absurd c (by decide)) (nx7 nxt (hC.fr f.1) r hP))) (fun oz => absurd oz q) (fun oz => absurd oz q) (fun k zn co pl M' e1 e2 => absurd (by omega) q) (fun k zn a1 ct M' e1 e2 => absurd (by omega) q)
  · exact m_order hM hP bz bw bg bv bt (fun q' => absurd oz q') (fun _ _ M' f r c => kI_i (tail r.sta c (fun c => absurd c (by decide)) (nx7 nxt (hC.fr f.1) r hP))) (fun _ ok => absurd ok q) (fun k zn co pl M' e1 e2 ok => absurd ok q) (fun k zn a1 ct M' e1 e2 ok => absurd ok q)
  · exact m_order hM hP bz bw bg bv bt (fun q' => absurd oz q') (fun _ nk => absurd ok nk) (fun _ _ _ M' f r c => kI_i (tail r.sta c (fun c => absurd c (by decide)) (nx7 nxt (hC.fr f.1) r hP))) (fun k zn co pl M' e1 e2 ok hF => (by have := q k hF.1; rw [hF.2.1] at this; exact absurd this (by decide))) (fun k zn a1 ct M' e1 e2 ok hF => (by have := q k hF.1; rw [hF.2.1] at this; exact absurd this (by decide)))
  · obtain ⟨hM', hC', ho⟩ := RG.out hM f r ((-2 : Int32) - i32 (pl : Nat)).toInt64
    refine ⟨v1, v2, v3, v4, v5, hC'.sta.2.2.2.2.1.1, m_order hM' hP bz bw bg bv bt (fun q' => absurd (by omega) q') (fun _ nk => absurd ok nk) (fun _ _ q => (by have := q k hF.1; rw [hF.2.1] at this; exact absurd this (by decide))) (fun k' zn' co' pl' M2 e1 e2 ok' hF' hp' f2 r2 c2 => ?_) (fun k' zn' a1 ct M2 e1 e2 ok' hF' hp' => by rw [hp] at hp'; cases hp')⟩
    rw [hp] at hp'
    cases hp'
    exact kI_i (tail r2.sta c2 (fun _ => by rw [f2.2, ho]) (nx7 nxt (hC'.fr f2.1) r2 (orF_sp hP)))
  · obtain ⟨b, hb⟩ := isB_ex (ruOf ct)
    have rb := r b hb
    refine kI_i (outK rb.sta (kI_i ?_))
    obtain ⟨hM', hC', ho⟩ := RG.out hM f rb (i32 (k : Nat)).toInt64
    refine ⟨v1, v2, v3, v4, v5, hC'.sta.2.2.2.2.1.1, m_order hM' hP bz bw bg bv bt (fun q' => absurd (by omega) q') (fun _ nk => absurd ok nk) (fun _ _ q => (by have := q k hF.1; rw [hF.2.1] at this; exact absurd this (by decide))) (fun k' zn' co' pl' M2 e1 e2 ok' hF' hp' => by rw [hp] at hp'; cases hp') (fun k' zn' a1' ct' M2 e1 e2 ok' hF' hp' f2 r2 c2 => ?_)⟩
    rw [hp] at hp'
    cases hp'
    have ek := hF'.eq hF
    subst ek
    have ezz : zn' = zn := by omega
    subst ezz
    have r2b := r2 b hb
    exact kI_i (tail r2b.sta c2 (fun _ => by rw [f2.2, ho]) (nx7 nxt (hC'.fr f2.1) r2b (orS_sp hP hF ok)))
