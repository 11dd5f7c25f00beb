/-! tear, told -/
def stDN (S : St) (D : Dk) (n : Int) : St := (S.1, S.2.1, S.2.2.1, D, n, S.2.2.2.2.2)
theorem RC.fw {A : Nat → Nat} {M M' : Mm} {S : St} {D' : Dk} {n' : Int} (h : RC A M S) (f : Fw A M M') (hW : CW A M' (stC S) D' n') : RC A M' (stDN S D' n') := by
  obtain ⟨h1, h2, h3, h4, h5, h6, h7, h8, h9⟩ := h
  have r : ∀ i, wx i = false → mI M' (A i) = mI M (A i) := f.2.2.2.2.2.1
  have ob' : ∀ a q, ob M a q → ob M' a q := fun a q h => by unfold ob at *; rw [f.1, f.2.1]; exact h
  have zr : ∀ i, 20 ≤ i → i < 32 → mI M' (A i) = mI M (A i) := fun i c1 c2 => r i (by unfold wx dkx; rw [Bool.or_eq_false_iff, decide_eq_false_iff_not, decide_eq_false_iff_not]; omega)
  have x0 : ∀ p, p ≠ 6 → mI M' (A 0) p = mI M (A 0) p := f.2.2.2.2.2.2.2.2
  refine ⟨hW, f.wy h2, fun z hz => ?_, by rw [x0 7 (by decide)]; exact h4, by rw [x0 8 (by decide)]; exact h5, by rw [r 4 (by decide)]; exact h6, fun i hi => by rw [r 5 (by decide)]; exact h7 i hi, by rw [x0 5 (by decide)]; exact h8, fun k hk hu => by rw [f.2.2.2.2.2.2.2.1 k 6 hk (by omega)]; exact h9 k hk hu⟩
  obtain ⟨z1, z2, z3, z4, z5, z6, z7, z8, z9, z10⟩ := h3 z hz
  exact ⟨ob' _ _ z1, ob' _ _ z2, ob' _ _ z3, by rw [f.2.2.2.2.1]; exact z4, by rw [f.2.2.2.2.1]; exact z5, by rw [f.2.2.1]; exact z6, by rw [f.2.2.1]; exact z7, by rw [zr _ (by omega) (by omega)]; exact z8, by rw [zr _ (by omega) (by omega)]; exact z9, by rw [zr _ (by omega) (by omega)]; exact z10⟩
theorem RM.gm {A : Nat → Nat} {M M' : Mm} {S : St} {D' : Dk} {n' : Int} (h : RM A M S) (f : Gm A M M') (hW : MW A M' (stC S) D' n') : RM A M' (stDN S D' n') := by
  obtain ⟨h1, h2, h3, h4, h5, h6, h7, h8⟩ := h
  have r : ∀ i, i ≠ 11 → dmx i = false → mI M' (A i) = mI M (A i) := f.2.2.2.2.2.1
  have p : ∀ p, scr p = false → p ≠ 45 → p ≠ 52 → p ≠ 55 → mI M' (A 11) p = mI M (A 11) p := f.2.2.2.2.2.2
  refine ⟨hW, f.wy h2, fun z hz => ?_, by rw [p 54 (by decide) (by decide) (by decide) (by decide)]; exact h4, by rw [p 53 (by decide) (by decide) (by decide) (by decide)]; exact h5, by rw [p 11 (by decide) (by decide) (by decide) (by decide)]; exact h6, fun i hi => by rw [r 210 (by decide) (by decide)]; exact h7 i hi, by rw [p 15 (by decide) (by decide) (by decide) (by decide)]; exact h8⟩
  have := h3 z hz
  unfold MoZ at *
  show (mI M' (A 202) _ = _ ∧ mI M' (A 201) _ = _ ∧ ∀ j, 1 ≤ j → j ≤ zN (cfO (stC S) z) → mI M' (A 203) _ = _ ∧ mI M' (A 204) _ = _)
  rw [r 202 (by decide) (by decide), r 201 (by decide) (by decide), r 203 (by decide) (by decide), r 204 (by decide) (by decide)]
  exact this
theorem Gm.p0 {A : Nat → Nat} {M M' : Mm} (f : Gm A M M') : mI M' (A 11) 0 = mI M (A 11) 0 := f.2.2.2.2.2.2 0 (by decide) (by decide) (by decide) (by decide)
def dkT (D : Dk) : Dk := (dR D, dW D, dB D, dD D, 0, dL D)
theorem l_tear {G : Gx} {K : Rs → Mm → Prop} {B23 : Mm → Nat → Nat → Nat → Int32 → Prop} {A : Nat → Nat} {M : Mm} {S : St} {B : Int} {l4 : Int32} (hR : RG A M S B) (nxt : ∀ M' S', RC A M' S' → RM A M' S' → SP S' (B + 1300000) → B23 M' (A 0) (A 11) (A 12) (l4 + 7)) : V_L_law_1532 G K B23 M (A 0) (A 11) (A 12) l4 := by
  obtain ⟨hC, hM, hP, _⟩ := hR
  have hs := hC.sta
  unfold V_L_law_1532 V_X6_tear V_X7_tear
  have x6 := hs.2.1.2.1.2.2.2.2
  have o6 := hs.2.1.2.2.2.2.2.2.1
  refine ⟨hs.2.1.1, hs.2.1.1, A 6, x6, o6, fun x4 e4 => ⟨A 6, x6, o6, fun M7 e7 => kI_i ?_⟩⟩
  rw [sI_w] at e7
  have g7 : Dr A M M7 := by rw [e7]; exact Dr.w hs (i := 6) (by decide) _ (fun _ q => by omega)
  have d7 : DkC A M7 (cfT (stC S)) (dkT (stD S)) := by
    obtain ⟨a1, a2⟩ := hC.1.2.1
    have n : ∀ {i j : Nat}, i ≠ j → A i ≠ A j := fun h => hs.ne h
    refine ⟨⟨?_, by show (0 : Int) ≤ 0 ∧ (0 : Int) ≤ 2000000000; omega, fun i hi hiC => ?_⟩, fun k hk => ?_⟩
    · rw [e7, mI_w, va_up_self]; exact q_0
    · have : (i : Int) < 0 := hiC
      omega
    · rw [e7, mI_wn _ _ (n (by omega)), mI_wn _ _ (n (by omega)), mI_wn _ _ (n (by omega))]
      exact a2 k hk
  obtain ⟨w7, f7⟩ := hC.1.dr g7 d7
  have hC7 := hC.fw f7 w7
  have hM7 := hM.fr f7.fc w7.1
  have e4' : x4 = i32 (dC (stD S)) := by rw [e4]; exact hC.1.2.1.1.1
  refine ⟨w7.1.2.2.2.2.1.1, w7.1.2.2.2.2.1.1, fun M2 e2 x3 e3 M4 e4m => kI_i ?_⟩
  obtain ⟨r2, f2, c2⟩ := hM7.w0 0
  rw [← e2] at r2 f2 c2
  obtain ⟨R, dm⟩ := r2.1.2.1
  have e3' : x3 = i32 (dC (stD S)) := by rw [e3]; exact dm.1.1
  rw [sI_w] at e4m
  have g4 : Dm A M2 M4 := by rw [e4m]; exact Dm.wm _ (fun p c1 c2 => va_up_ne _ _ c2)
  have d4 : DkM A M4 (cfU (stC S)) (dkT (stD S)) R := by
    have n : ∀ {i j : Nat}, i ≠ j → A i ≠ A j := fun h => r2.sta.ne h
    obtain ⟨a1, a2, a3, a4⟩ := dm
    refine ⟨⟨?_, by show (0 : Int) ≤ 0 ∧ (0 : Int) ≤ 2000000000; omega, fun i hi hiC => ?_⟩, ?_, a3, fun k hk => ?_⟩
    · rw [e4m, mI_w, va_up_self]; exact q_0
    · have : (i : Int) < 0 := hiC
      omega
    · rw [e4m, mI_w, va_up_ne _ _ (by decide), mI_wn _ _ (n (by decide)), mI_wn _ _ (n (by decide)), mI_wn _ _ (n (by decide))]; exact a2
    · rw [e4m, mI_wn _ _ (n (by decide)), mI_wn _ _ (n (by decide)), mI_wn _ _ (n (by decide))]; exact a4 k hk
  obtain ⟨w4, f4⟩ := r2.1.dm g4 d4
  have hM4 := r2.gm f4 w4
  refine ⟨fun _ => nx7 (B := B) nxt (hC7.fr (f2.trans f4.fm).1) hM4 ?_, fun q => absurd (by rw [e4', e3']) q⟩
  obtain ⟨h1, h2, h3, h4, h5, h6, h7, h8, h9, h10⟩ := hP
  have hc := h4.2.2.2.2.2
  exact ⟨h1, h2, h3, ⟨h4.1, h4.2.1, h4.2.2.1, h4.2.2.2.1, h4.2.2.2.2.1, by show (0 : Int) ≤ 0; omega⟩, h5, h6, h7, h8, h9, by show (0 : Int) ≤ B; omega⟩
def toldV (S : St) (j : Nat) (w : Nat) : Int32 := match w with
  | 0 => i32 (cfZ (stC S) j : Nat)
  | 1 => i32 (stY S j)
  | 2 => i32 (stG S j)
  | 3 => i32 (cfV (stC S) j)
  | 4 => i32 (cfT (stC S) j)
  | 5 => i32 ((dR (stD S) j).length : Nat)
  | 6 => bI (dW (stD S) j).isSome
  | 7 => dB (stD S) j
  | 8 => dD (stD S) j
  | 9 => bI (rS (cfR (stC S) j))
  | _ => bI (rT (cfR (stC S) j))
theorem bI_cs {b : Bool} {K : Int32 → Prop} (h : K (bI b)) : (bI b = 0 → K 0) ∧ (¬ bI b = 0 → K 1) := by
  rcases b with _ | _
  · exact ⟨fun _ => h, fun q => absurd rfl q⟩
  · exact ⟨fun q => absurd q (by decide), fun _ => h⟩
theorem i32_nq {w n : Int} {v : Int32} (hw : -2147483648 ≤ w ∧ w ≤ 2147483647) (hn : -2147483648 ≤ n ∧ n ≤ 2147483647) (e : v = i32 n) (h : w ≠ n) : ¬ i32 w = v := by
  rw [e, i32_eq hw.1 hw.2 hn.1 hn.2]; exact h
theorem c_told {K : Rs → Mm → Prop} {A : Nat → Nat} {M : Mm} {S : St} {k t : Int} (h : RC A M S) (bk : -2147483648 ≤ k ∧ k ≤ 2147483647) (bt : -2147483648 ≤ t ∧ t ≤ 2147483647) (h1 : ¬ usd S k → K (.inr "java/lang/IndexOutOfBoundsException") M) (h2 : usd S k → ¬ (0 ≤ t ∧ t ≤ 10) → K (.inr "java/lang/IllegalArgumentException") M)
    (h3 : ∀ (j : Nat), k = j → j < 12 → cfU (stC S) j = true → (0 ≤ t ∧ t ≤ 10) → K (.inl (some (.int (toldV S j t.toNat)))) M) : V_X6_told K M (A 0) (i32 k) (i32 t) := by
  unfold V_X6_told V_X6_told_152 V_X6_told_136 V_X6_told_110
  refine ⟨h.sta.2.1.1, s_ordOf h bk (fun q => kR_x (h1 q)) (fun j ej hj hu => kR_s ?_)⟩
  rw [show (10 : Int32) = i32 10 by decide]
  refine s_ckW bt (by decide) (fun q => kV_x (h2 (usd_j ej hj hu) q)) (fun qt => kV_i ?_)
  have hk := h3 j ej hj hu qt
  obtain ⟨d1, d2, d3, ⟨⟨e0, e1, e2, e3, e4, e5, e6, e7, e8, e9⟩, d4v⟩, _⟩ := h.od hj hu
  obtain ⟨o1, o2, o3, o4, o5⟩ := h.1.2.2.1 j hj
  obtain ⟨r1, r2, r3, r4, r5, r6, r7⟩ := h.1.2.1.2 j hj
  have h9 := h.2.2.2.2.2.2.2.2 j hj hu
  obtain ⟨y1, y2⟩ := h.2.1 j hj hu
  rw [i32_toInt bt.1 bt.2]
  have num : ∀ (n : Int) (v : Int32), v = i32 n → 0 ≤ n ∧ n ≤ 10 → ∀ P : Prop, (t = n → P) → (i32 t = v → P) := fun n v ev hn P hP c => by
    by_cases q : t = n
    · exact hP q
    · exact absurd c (i32_nq bt (by omega) ev q)
  refine ⟨fun q => ?_, num 0 _ (by decide) (by decide) _ (fun q => ?_), num 1 _ (by decide) (by decide) _ (fun q => ?_), num 2 _ (by decide) (by decide) _ (fun q => ?_), num 3 _ (by decide) (by decide) _ (fun q => ?_), num 4 _ (by decide) (by decide) _ (fun q => ?_), num 5 _ (by decide) (by decide) _ (fun q => ?_), num 6 _ (by decide) (by decide) _ (fun q => ?_), num 7 _ (by decide) (by decide) _ (fun q => ?_), num 8 _ (by decide) (by decide) _ (fun q => ?_), num 9 _ (by decide) (by decide) _ (fun q => ?_), trivial⟩
  · have q' : t = 10 := by omega
    subst q'
    refine ⟨d1, A (41 + 10 * j), d2, e1, ?_⟩
    rw [d4v.2.2.2.1]
    exact bI_cs (K := fun v => K (.inl (some (.int v))) M) hk
  · subst q; refine ⟨d1, ?_⟩; rw [h9]; exact hk
  · subst q; refine ⟨d1, ?_⟩; rw [y1]; exact hk
  · subst q; refine ⟨d1, ?_⟩; rw [y2]; exact hk
  · subst q; refine ⟨d1, ?_⟩; rw [o2]; exact hk
  · subst q; refine ⟨d1, ?_⟩; rw [o3]; exact hk
  · subst q; refine ⟨d1, ?_⟩; rw [r1]; exact hk
  · subst q; refine ⟨d1, ?_⟩; rw [r4]; exact bI_cs (K := fun v => K (.inl (some (.int v))) M) hk
  · subst q; refine ⟨d1, ?_⟩; rw [r6]; exact hk
  · subst q; refine ⟨d1, ?_⟩; rw [r7]; exact hk
  · subst q
    refine ⟨d1, A (41 + 10 * j), d2, e1, ?_⟩
    rw [d4v.2.2.1]
    exact bI_cs (K := fun v => K (.inl (some (.int v))) M) hk
theorem m_told {K : Rs → Mm → Prop} {A : Nat → Nat} {M : Mm} {S : St} {B k t : Int} (h : RM A M S) (hP : SP S B) (bk : -2147483648 ≤ k ∧ k ≤ 2147483647) (bt : -2147483648 ≤ t ∧ t ≤ 2147483647) (h1 : ¬ usd S k → ∀ M', FM A M M' → RM A M' S → mI M' (A 11) 0 = 1 → K (.inl (some (.int 0))) M') (h2 : usd S k → ¬ (0 ≤ t ∧ t ≤ 10) → ∀ M', FM A M M' → RM A M' S → mI M' (A 11) 0 = 2 → K (.inl (some (.int 0))) M')
    (h3 : ∀ (j : Nat) M', k = j → j < 12 → cfU (stC S) j = true → (0 ≤ t ∧ t ≤ 10) → FM A M M' → RM A M' S → mI M' (A 11) 0 = 0 → K (.inl (some (.int (toldV S j t.toNat)))) M') : V_X7_told K M (A 11) (i32 k) (i32 t) := by
  unfold V_X7_told V_X7_told_179 V_X7_told_164 V_X7_told_135
  refine ⟨h.sta.2.2.2.2.1.1, fun M3 e3 => ?_⟩
  obtain ⟨r, f, c⟩ := h.w0 0
  rw [← e3] at r f c
  have md := r.sta.2.2.2.2.1
  refine s7_none r bk (fun q => kI_i ⟨fun c => absurd c (by decide), fun _ => ⟨md.1, s7_wrong r (fun M' f' r' c' => kI_i (h1 q M' (f.trans f') r' c'))⟩⟩) (fun j ej hj hu => kI_i ⟨fun _ => ?_, fun c => absurd rfl c⟩)
  subst ej
  have hk := fun qt => h3 j M3 rfl hj hu qt f r c
  have ar9 : ∀ p, (p, 9, 12) ∈ mPl → ∀ (v : Int32), mI M3 (A (200 + p)) j = v → K (.inl (some (.int v))) M3 → ob M3 (A 11) 7 ∧ ∃ b, mP M3 (A 11) p = some b ∧ ob M3 b 9 ∧ vp_in (i32 (j : Nat)) (mN M3 b) ∧ K (.inl (some (.int (mI M3 b (i32 (j : Nat)).toNatClampNeg)))) M3 := fun p hp v hv hK => by
    have pp := md.p p 9 12 hp
    refine ⟨md.1, A (200 + p), pp.1, pp.2.1, by rw [pp.2.2.1]; exact i32_in (by omega) (by omega) (by omega), ?_⟩
    rw [i32_clamp (by omega) (by omega), Int.toNat_natCast, hv]; exact hK
  obtain ⟨y1, y2⟩ := r.2.1 j hj hu
  obtain ⟨o1, o2, o3, o4⟩ := r.1.2.2.1 j hj
  obtain ⟨R, dm⟩ := r.1.2.1
  obtain ⟨a1, a2, a3⟩ := dm.2.2.2 j hj
  have om := r.om hj hu
  have wb := wN_lt (fun v hv => hP.2.2.2.1.2.1 j hj v hv)
  rw [i32_toInt bt.1 bt.2]
  have num : ∀ (n : Int) (v : Int32), v = i32 n → 0 ≤ n ∧ n ≤ 10 → ∀ P : Prop, (t = n → P) → (i32 t = v → P) := fun n v ev hn P hP c => by
    by_cases q : t = n
    · exact hP q
    · exact absurd c (i32_nq bt (by omega) ev q)
  refine ⟨fun q => ⟨md.1, s7_wrong r (fun M' f' r' c' => kI_i (h2 (usd_j rfl hj hu) (by omega) M' (f.trans f') r' c'))⟩, num 0 _ (by decide) (by decide) _ (fun q => ?_), num 1 _ (by decide) (by decide) _ (fun q => ?_), num 2 _ (by decide) (by decide) _ (fun q => ?_), num 3 _ (by decide) (by decide) _ (fun q => ?_), num 4 _ (by decide) (by decide) _ (fun q => ?_), num 5 _ (by decide) (by decide) _ (fun q => ?_), num 6 _ (by decide) (by decide) _ (fun q => ?_), num 7 _ (by decide) (by decide) _ (fun q => ?_), num 8 _ (by decide) (by decide) _ (fun q => ?_), num 9 _ (by decide) (by decide) _ (fun q => ?_), num 10 _ (by decide) (by decide) _ (fun q => ?_), trivial⟩
  · subst q; exact ar9 27 (by decide) _ om.2.2.2.2.1 (hk (by decide))
  · subst q; exact ar9 28 (by decide) _ y1 (hk (by decide))
  · subst q; exact ar9 29 (by decide) _ y2 (hk (by decide))
  · subst q; exact ar9 30 (by decide) _ o1 (hk (by decide))
  · subst q; exact ar9 31 (by decide) _ o2 (hk (by decide))
  · subst q
    exact ⟨md.1, s7_ro r.sta dm (dm.2.2.1.len hP.2.2.2.1.1) hj (kI_i (hk (by decide)))⟩
  · subst q
    have hk6 := hk (by decide)
    have pp := md.p 44 9 12 (by decide)
    refine ⟨md.1, A 244, pp.1, pp.2.1, by show vp_in _ (mN M3 (A (200 + 44))); rw [pp.2.2.1]; exact i32_in (by omega) (by omega) (by omega), ?_⟩
    rw [i32_clamp (by omega) (by omega), Int.toNat_natCast, a1 hu, q_0, i32_lt (by omega) (by omega) (by omega) (by omega)]
    have hk6' : K (.inl (some (.int (bI (dW (stD S) j).isSome)))) M3 := hk6
    rcases ew : dW (stD S) j with _ | w
    · rw [ew] at hk6' wb
      exact ⟨fun _ => hk6', fun q => absurd (wb.1.mpr rfl) q⟩
    · rw [ew] at hk6' wb
      exact ⟨fun q => absurd (wb.1.mp q) (by simp), fun _ => hk6'⟩
  · subst q; exact ar9 42 (by decide) _ a2 (hk (by decide))
  · subst q; exact ar9 43 (by decide) _ a3 (hk (by decide))
  · subst q
    have pp := md.p 40 11 12 (by decide)
    refine ⟨md.1, A 240, pp.1, pp.2.1, by show vp_in _ (mN M3 (A (200 + 40))); rw [pp.2.2.1]; exact i32_in (by omega) (by omega) (by omega), ?_⟩
    have e : mI M3 (A 240) (i32 (j : Nat)).toNatClampNeg = bI (rS (cfR (stC S) j)) := by rw [i32_clamp (by omega) (by omega), Int.toNat_natCast]; exact om.2.2.1.2.2.1
    rw [e]
    exact bI_cs (K := fun v => K (.inl (some (.int v))) M3) (hk (by decide))
  · subst q
    have pp := md.p 41 11 12 (by decide)
    refine ⟨md.1, A 241, pp.1, pp.2.1, by show vp_in _ (mN M3 (A (200 + 41))); rw [pp.2.2.1]; exact i32_in (by omega) (by omega) (by omega), ?_⟩
    have e : mI M3 (A 241) (i32 (j : Nat)).toNatClampNeg = bI (rT (cfR (stC S) j)) := by rw [i32_clamp (by omega) (by omega), Int.toNat_natCast]; exact om.2.2.1.2.2.2.1
    rw [e]
    exact bI_cs (K := fun v => K (.inl (some (.int v))) M3) (hk (by decide))
theorem l_told {G : Gx} {K : Rs → Mm → Prop} {B23 : Mm → Nat → Nat → Nat → Int32 → Prop} {A : Nat → Nat} {M : Mm} {S : St} {B : Int} {l4 : Int32} (hR : RG A M S B) (hv : Vi G l4) (nxt : ∀ M' S', RC A M' S' → RM A M' S' → SP S' (B + 1300000) → B23 M' (A 0) (A 11) (A 12) (l4 + 7)) : V_L_law_743 G K B23 M (A 0) (A 11) (A 12) l4 := by
  obtain ⟨k, ek, bk⟩ := i32_of (gX G ((l4 + (1 : Int32))).toNatClampNeg)
  obtain ⟨t, et, bt⟩ := i32_of (gX G ((l4 + (2 : Int32))).toNatClampNeg)
  obtain ⟨hC, hM, hP, _⟩ := hR
  obtain ⟨v1, v2, v3, v4, v5, v6⟩ := hv
  unfold V_L_law_743 V_L_told
  rw [ek, et]
  refine ⟨v1, v2, hC.sta.2.1.1, c_told hC bk bt (fun q => kI_x (.inl ⟨rfl, kI_i ⟨v1, v2, hC.sta.2.2.2.2.1.1, ?_⟩⟩)) (fun u q => kI_x (.inr ⟨rfl, kI_i ⟨v1, v2, hC.sta.2.2.2.2.1.1, ?_⟩⟩)) (fun j ej hj hu ok => kI_i (outK hC.sta (kI_i ?_)))⟩
  · exact m_told hM hP bk bt (fun _ M' f r c => kI_i (tail r.sta c (fun c => absurd c (by decide)) (nx7 nxt (hC.fr f.1) r hP))) (fun u => absurd u q) (fun j M' ej hj hu => absurd (usd_j ej hj hu) q)
  · exact m_told hM hP bk bt (fun u' => absurd u u') (fun _ _ M' f r c => kI_i (tail r.sta c (fun c => absurd c (by decide)) (nx7 nxt (hC.fr f.1) r hP))) (fun j M' ej hj hu ok => absurd ok q)
  · obtain ⟨hM', hC', ho⟩ := RG.out hM (FC.refl A M) hC (toldV S j t.toNat).toInt64
    refine ⟨v1, v2, hC'.sta.2.2.2.2.1.1, m_told hM' hP bk bt (fun u => absurd (usd_j ej hj hu) u) (fun _ q => absurd ok q) (fun j' M2 ej' hj' hu' _ f2 r2 c2 => kI_i (tail r2.sta c2 (fun _ => ?_) (nx7 nxt (hC'.fr f2.1) r2 hP)))⟩
    have e : j' = j := by omega
    subst e
    rw [f2.2, ho]
