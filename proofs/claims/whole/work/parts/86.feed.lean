/-! feed -/
theorem b32_and (x : Int32) (p : Nat) : (x &&& 255).toBitVec.getLsbD p = (decide (p < 8) && x.toBitVec.getLsbD p) := by
  rw [Int32.toBitVec_and, BitVec.getLsbD_and]
  have : ∀ p : Nat, ((255 : Int32).toBitVec).getLsbD p = decide (p < 8) := by
    intro p
    rcases Nat.lt_or_ge p 32 with h | h
    · have : ∀ p : Fin 32, ((255 : Int32).toBitVec).getLsbD p.val = decide (p.val < 8) := by decide
      exact this ⟨p, h⟩
    · rw [BitVec.getLsbD_of_ge _ _ h, decide_eq_false (by omega)]
  rw [this, Bool.and_comm]
theorem b32_of (y : Int64) {p : Nat} (hp : p < 8) : y.toInt32.toBitVec.getLsbD p = bj y p := by
  rw [Int64.toBitVec_toInt32, BitVec.getLsbD_signExtend]
  simp [show p < 32 by omega, show p < 64 by omega]
  rfl
theorem b32_8 (y : Int32) {p : Nat} (hp : p < 8) : y.toInt8.toInt32.toBitVec.getLsbD p = y.toBitVec.getLsbD p := by
  rw [Int8.toBitVec_toInt32, BitVec.getLsbD_signExtend, Int32.toBitVec_toInt8, BitVec.getLsbD_signExtend]
  simp [show p < 32 by omega, hp]
theorem by_eq (x : Int64) (i : Nat) (hi : i < 8) : (((x >>> ((i32 (8 * i : Nat)).toInt64 &&& 63)).toInt32).toInt8.toInt32) &&& 255 = (((x.toUInt64 >>> ((i32 (8 * i : Nat)).toInt64.toUInt64 &&& Int64.toUInt64 63)).toInt64).toInt32) &&& 255 := by
  refine Int32.toBitVec_inj.mp (BitVec.eq_of_getLsbD_eq (fun p hp => ?_))
  rw [b32_and, b32_and]
  by_cases h8 : p < 8
  · rw [b32_8 _ h8, b32_of _ h8, b32_of _ h8, bj_sshr (8 * i) (by omega) x (by omega), bj_ushr (8 * i) (by omega) x, if_pos (by omega)]
  · rw [decide_eq_false h8, Bool.false_and, Bool.false_and]
theorem b32_rng (x : Int32) : 0 ≤ (x &&& 255).toInt ∧ (x &&& 255).toInt ≤ 255 := by
  have h : (x &&& 255).toBitVec.toNat = x.toBitVec.toNat % 256 := by
    rw [Int32.toBitVec_and, BitVec.toNat_and]
    exact Nat.and_two_pow_sub_one_eq_mod _ 8
  have h2 : (x &&& 255).toInt = (x &&& 255).toBitVec.toInt := rfl
  rw [h2, BitVec.toInt_eq_toNat_of_lt (by rw [h]; omega), h]
  omega
theorem nar_b (v : Int32) : vp_nar .byte (v.toInt8.toInt32) = v.toInt8.toInt32 := by
  show v.toInt8.toInt32.toInt8.toInt32 = v.toInt8.toInt32
  rw [Int8.toInt8_toInt32]
def byv (x : Int64) (i : Nat) : Int := ((((x.toUInt64 >>> ((i32 (8 * i : Nat)).toInt64.toUInt64 &&& Int64.toUInt64 63)).toInt64).toInt32) &&& 255).toInt
theorem byv_b (x : Int64) (i : Nat) : 0 ≤ byv x i ∧ byv x i ≤ 255 := b32_rng _
theorem byv_c (x : Int64) (i : Nat) : (((x.toUInt64 >>> ((i32 (8 * i : Nat)).toInt64.toUInt64 &&& Int64.toUInt64 63)).toInt64).toInt32) &&& 255 = i32 (byv x i) := (Int32.ofInt_toInt _).symm
theorem byv_m (x : Int64) (i : Nat) (hi : i < 8) : vp_nar .byte (((x >>> ((i32 (8 * i : Nat)).toInt64 &&& 63)).toInt32).toInt8.toInt32) &&& 255 = i32 (byv x i) := by
  rw [nar_b, by_eq x i hi]; exact byv_c x i
def fdF (x : Int64) : Nat → (Nat → Int) × Nat → (Nat → Int) × Nat
  | 0, p => p
  | i + 1, p => fdF x i (va_up p.1 p.2 (byv x i), p.2 + 1)
theorem fdF_s (x : Int64) : ∀ (i : Nat) (T : Nat → Int) (L : Nat), isS T L → L + i ≤ 160 → isS (fdF x i (T, L)).1 (fdF x i (T, L)).2 ∧ (fdF x i (T, L)).2 = L + i
  | 0, T, L, h, _ => ⟨h, rfl⟩
  | i + 1, T, L, h, hl => by
    have := fdF_s x i (va_up T L (byv x i)) (L + 1) ⟨by omega, fun k hk => by rw [va_up_ne _ _ (by omega)]; exact h.2.1 k (by omega), fun k hk => by
      by_cases c : k = L
      · rw [c, va_up_self]; exact byv_b x i
      · rw [va_up_ne _ _ c]; exact h.2.2 k (by omega)⟩ (by omega)
    exact ⟨this.1, by rw [show (fdF x (i + 1) (T, L)).2 = (fdF x i (va_up T L (byv x i), L + 1)).2 from rfl, this.2]; omega⟩
def stTL (S : St) (p : (Nat → Int) × Nat) : St := (S.1, S.2.1, S.2.2.1, S.2.2.2.1, S.2.2.2.2.1, S.2.2.2.2.2.1, S.2.2.2.2.2.2.1, p.1, p.2, S.2.2.2.2.2.2.2.2.2)
theorem RC.tp {A : Nat → Nat} {M M' : Mm} {S : St} {p : (Nat → Int) × Nat} (h : RC A M S) (eL : mL M' = mL M) (eK : mK M' = mK M) (eN : mN M' = mN M) (eJ : mJ M' = mJ M) (eP : mP M' = mP M) (r : ∀ i, i ≠ 4 → i ≠ 5 → mI M' (A i) = mI M (A i)) (h4 : mI M' (A 4) 1 = i32 (p.2 : Nat)) (h5 : ∀ i, i < p.2 → mI M' (A 5) i = i32 (p.1 i)) : RC A M' (stTL S p) ∧ FC A M M' := by
  obtain ⟨⟨s1, s2, s3, s4, s5⟩, h2, h3, hh4, hh5, h6, h7, h8, h9⟩ := h
  have ob' : ∀ a q, ob M a q → ob M' a q := fun a q h => by unfold ob at *; rw [eL, eK]; exact h
  refine ⟨⟨⟨s1.congr eL eK eN eP, ⟨?_, fun k hk => ?_⟩, fun k hk => ?_, by rw [r 0 (by decide) (by decide)]; exact s4, fun k hk => ?_⟩, fun k hk hu => ?_, fun z hz => ?_, by rw [r 0 (by decide) (by decide)]; exact hh4, by rw [r 0 (by decide) (by decide)]; exact hh5, h4, h5, by rw [r 0 (by decide) (by decide)]; exact h8, fun k hk hu => by rw [r _ (by omega) (by omega)]; exact h9 k hk hu⟩, eL, eK, eN, fun i hi => ⟨r i (by omega) (by omega), by rw [eJ]⟩⟩
  · rw [r 6 (by decide) (by decide), r 7 (by decide) (by decide), r 8 (by decide) (by decide), r 9 (by decide) (by decide), r 10 (by decide) (by decide)]; exact s2.1
  · rw [r _ (by omega) (by omega), r _ (by omega) (by omega), r _ (by omega) (by omega)]; exact s2.2 k hk
  · rw [r _ (by omega) (by omega)]; exact s3 k hk
  · obtain ⟨o1, o2⟩ := s5 k hk
    refine ⟨by rw [r _ (by omega) (by omega)]; exact o1, fun hu => ?_⟩
    obtain ⟨hz, hd⟩ := o2 hu
    exact ⟨hz, Od.cg hk hz eL eK eN eJ eP (fun i c1 c2 => r i (by omega) (by omega)) (r _ (by omega) (by omega)) hd⟩
  · rw [r _ (by omega) (by omega)]; exact h2 k hk hu
  · obtain ⟨z1, z2, z3, z4, z5, z6, z7, z8, z9, z10⟩ := h3 z hz
    exact ⟨ob' _ _ z1, ob' _ _ z2, ob' _ _ z3, by rw [eP]; exact z4, by rw [eP]; exact z5, by rw [eN]; exact z6, by rw [eN]; exact z7, by rw [r _ (by omega) (by omega)]; exact z8, by rw [r _ (by omega) (by omega)]; exact z9, by rw [r _ (by omega) (by omega)]; exact z10⟩
theorem RM.tp {A : Nat → Nat} {M M' : Mm} {S : St} {p : (Nat → Int) × Nat} (h : RM A M S) (eL : mL M' = mL M) (eK : mK M' = mK M) (eN : mN M' = mN M) (eJ : mJ M' = mJ M) (eP : mP M' = mP M) (r : ∀ i, i ≠ 11 → i ≠ 210 → mI M' (A i) = mI M (A i)) (rp : ∀ q, q ≠ 11 → mI M' (A 11) q = mI M (A 11) q) (h4 : mI M' (A 11) 11 = i32 (p.2 : Nat)) (h5 : ∀ i, i < p.2 → mI M' (A 210) i &&& 255 = i32 (p.1 i)) : RM A M' (stTL S p) ∧ FM A M M' := by
  obtain ⟨⟨s1, ⟨R, s2⟩, s3, s4, s5⟩, h2, h3, hh4, hh5, h6, h7, h8⟩ := h
  have hs := s1.congr eL eK eN eP
  have mz : ∀ z, z < 4 → MoZ M' (fun p => A (200 + p)) z (cfO (stC S) z) := fun z hz => by
    have := h3 z hz
    unfold MoZ at *
    show (mI M' (A 202) _ = _ ∧ mI M' (A 201) _ = _ ∧ ∀ j, 1 ≤ j → j ≤ zN (cfO (stC S) z) → mI M' (A 203) _ = _ ∧ mI M' (A 204) _ = _)
    rw [r 202 (by decide) (by decide), r 201 (by decide) (by decide), r 203 (by decide) (by decide), r 204 (by decide) (by decide)]
    exact this
  refine ⟨⟨⟨hs, ⟨R, ?_⟩, fun k hk => by rw [r 230 (by decide) (by decide), r 231 (by decide) (by decide)]; exact s3 k hk, by rw [rp 52 (by decide)]; exact s4, fun k hk => ?_⟩, fun k hk hu => by rw [r 228 (by decide) (by decide), r 229 (by decide) (by decide)]; exact h2 k hk hu, mz, by rw [rp 54 (by decide)]; exact hh4, by rw [rp 53 (by decide)]; exact hh5, h4, h5, by rw [rp 15 (by decide)]; exact h8⟩, ⟨⟨eL, eK, eN, eP, fun i c1 c2 => r i c1 (by omega), fun i _ _ => by rw [eJ]⟩, by rw [eJ]⟩⟩
  · obtain ⟨a1, a2, a3, a4⟩ := s2
    refine ⟨?_, ?_, a3, fun k hk => ?_⟩
    · rw [rp 55 (by decide), r 256 (by decide) (by decide), r 257 (by decide) (by decide), r 258 (by decide) (by decide), r 259 (by decide) (by decide)]; exact a1
    · rw [rp 45 (by decide), r 246 (by decide) (by decide), r 247 (by decide) (by decide), r 248 (by decide) (by decide)]; exact a2
    · rw [r 244 (by decide) (by decide), r 242 (by decide) (by decide), r 243 (by decide) (by decide)]; exact a4 k hk
  · obtain ⟨o1, o2⟩ := s5 k hk
    refine ⟨by rw [r 226 (by decide) (by decide)]; exact o1, fun hu => ?_⟩
    obtain ⟨g1, g2, g3, g4, g5, g6, g7, g8⟩ := o2 hu
    refine ⟨hs.2.2.2.2.1, g2, ?_, g4, by show mI M' (A 227) k = _; rw [r 227 (by decide) (by decide)]; exact g5, mz _ g4, g7, g8⟩
    unfold MoR at *
    rw [eJ]
    show (_ ∧ (∃ t : Bool, mI M' (A 234) k = bI (!t) ∧ ∀ y : Int, 1899 ≤ y → y ≤ 2200 → rY (cfR (stC S) k) y = (!t || (decide (1900 ≤ y ∧ y ≤ 2199) && decide (¬ mI M' (A 233) (300 * k + (y - 1900).toNat) = 0)))) ∧ mI M' (A 240) k = _ ∧ mI M' (A 241) k = _ ∧ _ ∧ mI M' (A 236) k = _ ∧ _)
    rw [r 234 (by decide) (by decide), r 233 (by decide) (by decide), r 240 (by decide) (by decide), r 241 (by decide) (by decide), r 236 (by decide) (by decide)]
    exact g3
theorem c_feed {K : Rs → Mm → Prop} {A : Nat → Nat} {M : Mm} {S : St} {B : Int} {x : Int64} {a : Int} (h : RC A M S) (hP : SP S B) (ba : -2147483648 ≤ a ∧ a ≤ 2147483647) (h1 : ¬ (1 ≤ a ∧ a ≤ 8) → K (.inr "java/lang/IllegalArgumentException") M) (h2 : (1 ≤ a ∧ a ≤ 8) → ¬ (stL S : Int) + a ≤ 160 → K (.inr "java/lang/IllegalStateException") M) (h3 : ∀ M', (1 ≤ a ∧ a ≤ 8) → (stL S : Int) + a ≤ 160 → FC A M M' → RC A M' (stTL S (fdF x a.toNat (stTp S, stL S))) → K (.inl (some (.int (i32 ((stL S : Int) + a))))) M') : V_X6_feed K M (A 0) x (i32 a) := by
  have hs := h.sta
  have hL := hP.2.2.2.2.2.2.2.2.1.1
  have go : (1 ≤ a ∧ a ≤ 8) → (stL S : Int) + a ≤ 160 → ∀ (m : Nat) (M1 : Mm) (p : (Nat → Int) × Nat), m ≤ 8 → FC A M M1 → RC A M1 (stTL S p) → p.2 + m = stL S + a.toNat → fdF x m p = fdF x a.toNat (stTp S, stL S) → V_X6_feed_51 K (m + 1) M1 (A 0) x (i32 ((m : Int) - 1)) := by
    intro q1 q2 m
    induction m with
    | zero =>
      intro M1 p _ f r e1 e2
      have s1 := r.sta
      unfold V_X6_feed_51
      rw [q_0, i32_lt (by omega) (by omega) (by omega) (by omega)]
      refine ⟨fun _ => ⟨s1.2.1.1, A 4, s1.2.1.2.1.2.2.2.1, s1.2.1.2.2.2.2.2.1.1, ?_⟩, fun q => absurd (by omega) q⟩
      have e4 : mI M1 (A 4) 1 = i32 (p.2 : Nat) := r.2.2.2.2.2.1
      rw [e4, show ((p.2 : Nat) : Int) = (stL S : Int) + a by omega]
      refine h3 M1 q1 q2 f ?_
      have e2' : p = fdF x a.toNat (stTp S, stL S) := e2
      rw [← e2']; exact r
    | succ m ih =>
      intro M1 p hm f r e1 e2
      have s1 := r.sta
      have n : ∀ {i j : Nat}, i ≠ j → A i ≠ A j := fun h => s1.ne h
      have tp := s1.2.1.2.2.2.2.2.1
      have e4 : mI M1 (A 4) 1 = i32 (p.2 : Nat) := r.2.2.2.2.2.1
      have e5 : ∀ i, i < p.2 → mI M1 (A 5) i = i32 (p.1 i) := r.2.2.2.2.2.2.1
      unfold V_X6_feed_51 V_X4_add V_X4_add_30
      rw [show ((m + 1 : Nat) : Int) - 1 = ((m : Nat) : Int) by omega, q_0, i32_lt (by omega) (by omega) (by omega) (by omega)]
      refine ⟨fun q => absurd q (by omega), fun _ => ⟨s1.2.1.1, A 4, s1.2.1.2.1.2.2.2.1, tp.1, tp.1, ?_⟩⟩
      rw [e4, show (160 : Int32) = i32 160 by decide, i32_le (by omega) (by omega) (by omega) (by omega)]
      refine ⟨fun q => absurd q (by omega), fun _ => ⟨A 5, tp.2.1, tp.2.2.1, by rw [tp.2.2.2]; exact i32_in (by omega) (by omega) (by omega), fun M5 e5' M6 e6 => kV_i (fun x8 e8 => ?_)⟩⟩
      rw [i32_clamp (by omega) (by omega), Int.toNat_natCast, sI_w, show (8 : Int32) = i32 8 by decide, i32_mul, show (8 : Int) * (m : Nat) = ((8 * m : Nat) : Int) by omega, byv_c] at e5'
      have e45 : mI M5 (A 4) = mI M1 (A 4) := by rw [e5', mI_wn _ _ (n (by decide))]
      rw [sI_w, e45, e4, q_1, i32_add, show ((p.2 : Nat) : Int) + 1 = ((p.2 + 1 : Nat) : Int) by omega] at e6
      rw [e8, show (-1 : Int32) = i32 (-1) by decide, i32_add, show ((m : Nat) : Int) + -1 = (m : Int) - 1 by omega]
      obtain ⟨r', f'⟩ := r.tp (M' := M6) (p := (va_up p.1 p.2 (byv x m), p.2 + 1)) (by rw [e6, e5']; rfl) (by rw [e6, e5']; rfl) (by rw [e6, e5']; rfl) (by rw [e6, e5']; rfl) (by rw [e6, e5']; rfl) (fun i c1 c2 => by rw [e6, mI_wn _ _ (n c1), e5', mI_wn _ _ (n c2)]) (by rw [e6, mI_w, va_up_self]) (fun i hi => by
        have hi' : i < p.2 + 1 := hi
        rw [e6, mI_wn _ _ (n (by decide)), e5', mI_w]
        show _ = i32 (va_up p.1 p.2 (byv x m) i)
        by_cases c : i = p.2
        · rw [c, va_up_self, va_up_self]
        · rw [va_up_ne _ _ c, va_up_ne _ _ c]; exact e5 i (by omega))
      exact ih M6 _ (by omega) (f.trans f') r' (by show p.2 + 1 + m = _; omega) e2
  unfold V_X6_feed V_X6_feed_11
  have e4 : mI M (A 4) 1 = i32 (stL S : Nat) := h.2.2.2.2.2.1
  rw [q_1, show (8 : Int32) = i32 8 by decide, i32_lt (by omega) (by omega) (by omega) (by omega), i32_le (a := a) (b := 8) (by omega) (by omega) (by omega) (by omega), i32_sub]
  refine ⟨fun q => h1 (by omega), fun q => ⟨fun q2 => ⟨hs.2.1.1, A 4, hs.2.1.2.1.2.2.2.1, hs.2.1.2.2.2.2.2.1.1, ?_⟩, fun q2 => h1 (by omega)⟩⟩
  rw [e4, i32_add, show (160 : Int32) = i32 160 by decide, i32_le (by omega) (by omega) (by omega) (by omega)]
  refine ⟨fun q3 x4 ex => ?_, fun q3 => h2 (by omega) q3⟩
  rw [ex, show a - 1 = ((a.toNat : Nat) : Int) - 1 by omega]
  exact ⟨a.toNat + 1, go (by omega) q3 a.toNat M (stTp S, stL S) (by omega) (FC.refl A M) h rfl rfl⟩
theorem m_feed {K : Rs → Mm → Prop} {A : Nat → Nat} {M : Mm} {S : St} {B : Int} {x : Int64} {a : Int} (h : RM A M S) (hP : SP S B) (ba : -2147483648 ≤ a ∧ a ≤ 2147483647) (h1 : ¬ (1 ≤ a ∧ a ≤ 8) → ∀ M', FM A M M' → RM A M' S → mI M' (A 11) 0 = 1 → K (.inl (some (.int 0))) M') (h2 : (1 ≤ a ∧ a ≤ 8) → ¬ (stL S : Int) + a ≤ 160 → ∀ M', FM A M M' → RM A M' S → mI M' (A 11) 0 = 2 → K (.inl (some (.int 0))) M') (h3 : ∀ M', (1 ≤ a ∧ a ≤ 8) → (stL S : Int) + a ≤ 160 → FM A M M' → RM A M' (stTL S (fdF x a.toNat (stTp S, stL S))) → mI M' (A 11) 0 = 0 → K (.inl (some (.int (i32 ((stL S : Int) + a))))) M') : V_X7_feed K M (A 11) x (i32 a) := by
  have hL := hP.2.2.2.2.2.2.2.2.1.1
  unfold V_X7_feed
  refine ⟨h.sta.2.2.2.2.1.1, fun M3 e3 => ?_⟩
  obtain ⟨r, f, c⟩ := h.w0 0
  rw [← e3] at r f c
  have go : (1 ≤ a ∧ a ≤ 8) → (stL S : Int) + a ≤ 160 → ∀ (m : Nat) (M1 : Mm) (p : (Nat → Int) × Nat), m ≤ 8 → FM A M M1 → RM A M1 (stTL S p) → mI M1 (A 11) 0 = 0 → p.2 + m = stL S + a.toNat → fdF x m p = fdF x a.toNat (stTp S, stL S) → V_X7_feed_46 K (m + 1) M1 (A 11) x (i32 ((m : Int) - 1)) := by
    intro q1 q2 m
    induction m with
    | zero =>
      intro M1 p _ f r c0 e1 e2
      unfold V_X7_feed_46
      rw [q_0, i32_lt (by omega) (by omega) (by omega) (by omega)]
      refine ⟨fun _ => ⟨r.sta.2.2.2.2.1.1, ?_⟩, fun q => absurd (by omega) q⟩
      have e4 : mI M1 (A 11) 11 = i32 (p.2 : Nat) := r.2.2.2.2.2.1
      rw [e4, show ((p.2 : Nat) : Int) = (stL S : Int) + a by omega]
      refine h3 M1 q1 q2 f ?_ c0
      have e2' : p = fdF x a.toNat (stTp S, stL S) := e2
      rw [← e2']; exact r
    | succ m ih =>
      intro M1 p hm f r c0 e1 e2
      have s1 := r.sta
      have n : ∀ {i j : Nat}, i ≠ j → A i ≠ A j := fun h => s1.ne h
      have md := s1.2.2.2.2.1
      have p10 := md.p 10 8 160 (by decide)
      have e4 : mI M1 (A 11) 11 = i32 (p.2 : Nat) := r.2.2.2.2.2.1
      have e5 : ∀ i, i < p.2 → mI M1 (A 210) i &&& 255 = i32 (p.1 i) := r.2.2.2.2.2.2.1
      unfold V_X7_feed_46
      rw [show ((m + 1 : Nat) : Int) - 1 = ((m : Nat) : Int) by omega, q_0, i32_lt (by omega) (by omega) (by omega) (by omega), e4]
      refine ⟨fun q => absurd q (by omega), fun _ => ⟨md.1, A 210, p10.1, p10.2.1, by show vp_in _ (mN M1 (A (200 + 10))); rw [p10.2.2.1]; exact i32_in (by omega) (by omega) (by omega), fun M5 e5' M6 e6 x8 e8 => ?_⟩⟩
      rw [i32_clamp (by omega) (by omega), Int.toNat_natCast, sI_w, show (8 : Int32) = i32 8 by decide, i32_mul, show (8 : Int) * (m : Nat) = ((8 * m : Nat) : Int) by omega] at e5'
      have hb := byv_m x m (by omega)
      generalize hy : vp_nar .byte (((x >>> ((i32 (8 * m : Nat)).toInt64 &&& 63)).toInt32).toInt8.toInt32) = y at e5' hb
      have e45 : mI M5 (A 11) = mI M1 (A 11) := by rw [e5', mI_wn _ _ (n (by decide))]
      rw [sI_w, e45, e4, q_1, i32_add, show ((p.2 : Nat) : Int) + 1 = ((p.2 + 1 : Nat) : Int) by omega] at e6
      rw [e8, show (-1 : Int32) = i32 (-1) by decide, i32_add, show ((m : Nat) : Int) + -1 = (m : Int) - 1 by omega]
      have rp : ∀ q, q ≠ 11 → mI M6 (A 11) q = mI M1 (A 11) q := fun q cq => by rw [e6, mI_w, va_up_ne _ _ cq]
      obtain ⟨r', f'⟩ := r.tp (M' := M6) (p := (va_up p.1 p.2 (byv x m), p.2 + 1)) (by rw [e6, e5']; rfl) (by rw [e6, e5']; rfl) (by rw [e6, e5']; rfl) (by rw [e6, e5']; rfl) (by rw [e6, e5']; rfl) (fun i c1 c2 => by rw [e6, mI_wn _ _ (n c1), e5', mI_wn _ _ (n c2)]) rp (by rw [e6, mI_w, va_up_self]) (fun i hi => by
        have hi' : i < p.2 + 1 := hi
        rw [e6, mI_wn _ _ (n (by decide)), e5', mI_w]
        show _ = i32 (va_up p.1 p.2 (byv x m) i)
        by_cases c : i = p.2
        · rw [c, va_up_self, va_up_self]; exact hb
        · rw [va_up_ne _ _ c, va_up_ne _ _ c]; exact e5 i (by omega))
      exact ih M6 _ (by omega) (f.trans f') r' ((rp 0 (by decide)).trans c0) (by show p.2 + 1 + m = _; omega) e2
  have md := r.sta.2.2.2.2.1
  have e4 : mI M3 (A 11) 11 = i32 (stL S : Nat) := r.2.2.2.2.2.1
  refine s7_in (l := 1) (u := 8) ba.1 ba.2 (by decide) (by decide) (kI_i ?_)
  rw [bI_ne0 (decide (1 ≤ a ∧ a ≤ 8)), bI_0 (decide (1 ≤ a ∧ a ≤ 8)), decide_eq_true_iff, decide_eq_false_iff_not]
  refine ⟨fun q => ⟨md.1, ?_⟩, fun q => ⟨md.1, s7_wrong r (fun M' f' r' c' => kI_i (h1 q M' (f.trans f') r' c'))⟩⟩
  rw [e4, i32_add, show (160 : Int32) = i32 160 by decide, i32_le (by omega) (by omega) (by omega) (by omega), q_1, i32_sub]
  refine ⟨fun q3 x4 ex => ?_, fun q3 => s7_wrong r (fun M' f' r' c' => kI_i (h2 q q3 M' (f.trans f') r' c'))⟩
  rw [ex, show a - 1 = ((a.toNat : Nat) : Int) - 1 by omega]
  exact ⟨a.toNat + 1, go q q3 a.toNat M3 (stTp S, stL S) (by omega) f r c rfl rfl⟩
theorem l_feed {G : Gx} {K : Rs → Mm → Prop} {B23 : Mm → Nat → Nat → Nat → Int32 → Prop} {A : Nat → Nat} {M : Mm} {S : St} {B : Int} {l4 : Int32} (hR : RG A M S B) (hv : Vi G l4) (nxt : ∀ M' S', RC A M' S' → RM A M' S' → SP S' (B + 1300000) → B23 M' (A 0) (A 11) (A 12) (l4 + 7)) : V_L_law_470 G K B23 M (A 0) (A 11) (A 12) l4 := by
  obtain ⟨a, ea, ba⟩ := i32_of (gX G ((l4 + (3 : Int32))).toNatClampNeg)
  obtain ⟨hC, hM, hP, _⟩ := hR
  obtain ⟨v1, v2, v3, v4, v5, v6⟩ := hv
  unfold V_L_law_470 V_L_feed
  rw [ea]
  generalize (((((gX G ((l4 + (1 : Int32))).toNatClampNeg)).toInt64) <<< (((32 : Int32)).toInt64 &&& 63)) ||| ((((gX G ((l4 + (2 : Int32))).toNatClampNeg)).toInt64) &&& (4294967295 : Int64))) = x
  refine ⟨v1, v2, v3, hC.sta.2.1.1, c_feed hC hP ba (fun q => kI_x (.inl ⟨rfl, kI_i ⟨v1, v2, v3, hC.sta.2.2.2.2.1.1, ?_⟩⟩)) (fun u q => kI_x (.inr ⟨rfl, kI_i ⟨v1, v2, v3, hC.sta.2.2.2.2.1.1, ?_⟩⟩)) (fun M' u ok f r => kI_i (outK r.sta (kI_i ?_)))⟩
  · exact m_feed hM hP ba (fun _ M' f r c => kI_i (tail r.sta c (fun c => absurd c (by decide)) (nx7 nxt (hC.fr f.1) r hP))) (fun u => absurd u q) (fun M' u => absurd u q)
  · exact m_feed hM hP ba (fun u' => absurd u u') (fun _ _ M' f r c => kI_i (tail r.sta c (fun c => absurd c (by decide)) (nx7 nxt (hC.fr f.1) r hP))) (fun M' _ ok => absurd ok q)
  · obtain ⟨hM', hC', ho⟩ := RG.out hM f r (i32 ((stL S : Int) + a)).toInt64
    refine ⟨v1, v2, v3, hC'.sta.2.2.2.2.1.1, m_feed hM' hP ba (fun u' => absurd u u') (fun _ q => absurd ok q) (fun M2 _ _ f2 r2 c2 => kI_i (tail r2.sta c2 (fun _ => by rw [f2.2, ho]) (nx7 nxt (hC'.fr f2.1) r2 ?_)))⟩
    obtain ⟨h1, h2, h3, h4, h5, h6, h7, h8, h9, h10⟩ := hP
    exact ⟨h1, h2, h3, h4, h5, h6, h7, h8, (fdF_s x a.toNat (stTp S) (stL S) h9 (by omega)).1, h10⟩
