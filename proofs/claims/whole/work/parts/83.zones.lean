/-! zone, change -/
def cfSO (c : Cf) (z : Nat) (o : Zo) : Cf := (c.1, c.2.1, c.2.2.1, va_up (cfO c) z o, c.2.2.2.2)
def stSC (S : St) (c : Cf) : St := (c, S.2)
theorem cfO_at (c : Cf) (z : Nat) (o : Zo) : cfO (cfSO c z o) z = o := va_up_self _ _ _
theorem cfO_ne (c : Cf) {z w : Nat} (o : Zo) (h : w ≠ z) : cfO (cfSO c z o) w = cfO c w := va_up_ne _ _ h
theorem RC.zn {A : Nat → Nat} {M M' : Mm} {S : St} {z : Nat} {o : Zo} (h : RC A M S) (hz : z < 4) (eL : mL M' = mL M) (eK : mK M' = mK M) (eN : mN M' = mN M) (eJ : mJ M' = mJ M) (eP : mP M' = mP M) (r : ∀ i, i ≠ 20 + 3 * z → i ≠ 21 + 3 * z → i ≠ 22 + 3 * z → mI M' (A i) = mI M (A i)) (hm : ZoM M' (A (20 + 3 * z)) (A (21 + 3 * z)) (A (22 + 3 * z)) o) (hw : wfZ o) : RC A M' (stSC S (cfSO (stC S) z o)) ∧ FC A M M' := by
  have ob' : ∀ a q, ob M a q → ob M' a q := fun a q h => by unfold ob at *; rw [eL, eK]; exact h
  obtain ⟨⟨s1, s2, s3, s4, s5⟩, h2, h3, h4, h5, h6, h7, h8, h9⟩ := h
  have zs : ∀ w, w < 4 → ZoM M' (A (20 + 3 * w)) (A (21 + 3 * w)) (A (22 + 3 * w)) (cfO (cfSO (stC S) z o) w) := fun w hw4 => by
    by_cases c : w = z
    · subst c; rw [cfO_at]; exact hm
    · rw [cfO_ne _ _ c]
      obtain ⟨z1, z2, z3, z4, z5, z6, z7, z8, z9, z10⟩ := h3 w hw4
      exact ⟨ob' _ _ z1, ob' _ _ z2, ob' _ _ z3, by rw [eP]; exact z4, by rw [eP]; exact z5, by rw [eN]; exact z6, by rw [eN]; exact z7, by rw [r _ (by omega) (by omega) (by omega)]; exact z8, by rw [r _ (by omega) (by omega) (by omega)]; exact z9, by rw [r _ (by omega) (by omega) (by omega)]; exact z10⟩
  refine ⟨⟨⟨s1.congr eL eK eN eP, ⟨?_, fun k hk => ?_⟩, fun k hk => ?_, by rw [r 0 (by omega) (by omega) (by omega)]; exact s4, fun k hk => ?_⟩, fun k hk hu => ?_, zs, by rw [r 0 (by omega) (by omega) (by omega)]; exact h4, by rw [r 0 (by omega) (by omega) (by omega)]; exact h5, by rw [r 4 (by omega) (by omega) (by omega)]; exact h6, fun i hi => by rw [r 5 (by omega) (by omega) (by omega)]; exact h7 i hi, by rw [r 0 (by omega) (by omega) (by omega)]; exact h8, fun k hk hu => by rw [r _ (by omega) (by omega) (by omega)]; exact h9 k hk hu⟩, eL, eK, eN, fun i hi => ⟨r i (by omega) (by omega) (by omega), by rw [eJ]⟩⟩
  · rw [r 6 (by omega) (by omega) (by omega), r 7 (by omega) (by omega) (by omega), r 8 (by omega) (by omega) (by omega), r 9 (by omega) (by omega) (by omega), r 10 (by omega) (by omega) (by omega)]; exact s2.1
  · rw [r _ (by omega) (by omega) (by omega), r _ (by omega) (by omega) (by omega), r _ (by omega) (by omega) (by omega)]; exact s2.2 k hk
  · rw [r _ (by omega) (by omega) (by omega)]; exact s3 k hk
  · obtain ⟨o1, o2⟩ := s5 k hk
    refine ⟨by rw [r _ (by omega) (by omega) (by omega)]; exact o1, fun hu => ?_⟩
    obtain ⟨hzk, d1, d2, d3, ⟨d4, d4v⟩, d5, d6, d7, d8, d9, d10⟩ := o2 hu
    refine ⟨hzk, ob' _ _ d1, by rw [eP]; exact d2, by rw [eP]; exact d3, ⟨d4.congr eL eK eN eP, ?_⟩, by rw [r _ (by omega) (by omega) (by omega)]; exact d5, zs _ hzk, ?_, d8, d9, d10⟩
    · rw [eJ, r _ (by omega) (by omega) (by omega)]; exact d4v
    · show wfZ (cfO (cfSO (stC S) z o) (cfZ (stC S) k))
      by_cases c : cfZ (stC S) k = z
      · rw [c, cfO_at]; exact hw
      · rw [cfO_ne _ _ c]; exact d7
  · rw [r _ (by omega) (by omega) (by omega)]; exact h2 k hk hu
theorem RM.zn {A : Nat → Nat} {M M' : Mm} {S : St} {z : Nat} {o : Zo} (h : RM A M S) (eL : mL M' = mL M) (eK : mK M' = mK M) (eN : mN M' = mN M) (eJ : mJ M' = mJ M) (eP : mP M' = mP M) (r : ∀ i, i ≠ 201 → i ≠ 202 → i ≠ 203 → i ≠ 204 → mI M' (A i) = mI M (A i)) (hm : MoZ M' (fun p => A (200 + p)) z o) (hm' : ∀ w, w < 4 → w ≠ z → MoZ M' (fun p => A (200 + p)) w (cfO (stC S) w)) (hw : wfZ o) : RM A M' (stSC S (cfSO (stC S) z o)) ∧ FM A M M' := by
  obtain ⟨⟨s1, ⟨R, s2⟩, s3, s4, s5⟩, h2, h3, h4, h5, h6, h7, h8⟩ := h
  have hs := s1.congr eL eK eN eP
  have r11 : mI M' (A 11) = mI M (A 11) := r 11 (by decide) (by decide) (by decide) (by decide)
  have zs : ∀ w, w < 4 → MoZ M' (fun p => A (200 + p)) w (cfO (cfSO (stC S) z o) w) := fun w hw4 => by
    by_cases c : w = z
    · subst c; rw [cfO_at]; exact hm
    · rw [cfO_ne _ _ c]; exact hm' w hw4 c
  refine ⟨⟨⟨hs, ⟨R, ?_⟩, fun k hk => by rw [r 230 (by decide) (by decide) (by decide) (by decide), r 231 (by decide) (by decide) (by decide) (by decide)]; exact s3 k hk, by rw [r11]; exact s4, fun k hk => ?_⟩, fun k hk hu => by rw [r 228 (by decide) (by decide) (by decide) (by decide), r 229 (by decide) (by decide) (by decide) (by decide)]; exact h2 k hk hu, zs, by rw [r11]; exact h4, by rw [r11]; exact h5, by rw [r11]; exact h6, fun i hi => by rw [r 210 (by decide) (by decide) (by decide) (by decide)]; exact h7 i hi, by rw [r11]; exact h8⟩, ⟨⟨eL, eK, eN, eP, fun i c1 c2 => r i (by omega) (by omega) (by omega) (by omega), fun i _ _ => by rw [eJ]⟩, by rw [eJ]⟩⟩
  · obtain ⟨a1, a2, a3, a4⟩ := s2
    refine ⟨?_, ?_, a3, fun k hk => ?_⟩
    · rw [r11, r 256 (by decide) (by decide) (by decide) (by decide), r 257 (by decide) (by decide) (by decide) (by decide), r 258 (by decide) (by decide) (by decide) (by decide), r 259 (by decide) (by decide) (by decide) (by decide)]; exact a1
    · rw [r11, r 246 (by decide) (by decide) (by decide) (by decide), r 247 (by decide) (by decide) (by decide) (by decide), r 248 (by decide) (by decide) (by decide) (by decide)]; exact a2
    · rw [r 244 (by decide) (by decide) (by decide) (by decide), r 242 (by decide) (by decide) (by decide) (by decide), r 243 (by decide) (by decide) (by decide) (by decide)]; exact a4 k hk
  · obtain ⟨o1, o2⟩ := s5 k hk
    refine ⟨by rw [r 226 (by decide) (by decide) (by decide) (by decide)]; exact o1, fun hu => ?_⟩
    obtain ⟨g1, g2, g3, g4, g5, g6, g7, g8⟩ := o2 hu
    refine ⟨hs.2.2.2.2.1, g2, ?_, g4, by show mI M' (A 227) k = _; rw [r 227 (by decide) (by decide) (by decide) (by decide)]; exact g5, zs _ g4, ?_, g8⟩
    · unfold MoR at *
      rw [eJ]
      show (_ ∧ (∃ t : Bool, mI M' (A 234) k = bI (!t) ∧ ∀ y : Int, 1899 ≤ y → y ≤ 2200 → rY (cfR (stC S) k) y = (!t || (decide (1900 ≤ y ∧ y ≤ 2199) && decide (¬ mI M' (A 233) (300 * k + (y - 1900).toNat) = 0)))) ∧ mI M' (A 240) k = _ ∧ mI M' (A 241) k = _ ∧ _ ∧ mI M' (A 236) k = _ ∧ _)
      rw [r 234 (by decide) (by decide) (by decide) (by decide), r 233 (by decide) (by decide) (by decide) (by decide), r 240 (by decide) (by decide) (by decide) (by decide), r 241 (by decide) (by decide) (by decide) (by decide), r 236 (by decide) (by decide) (by decide) (by decide)]
      exact g3
    · show wfZ (cfO (cfSO (stC S) z o) (cfZ (stC S) k))
      by_cases c : cfZ (stC S) k = z
      · rw [c, cfO_at]; exact hw
      · rw [cfO_ne _ _ c]; exact g7
theorem SP.zn {S : St} {B : Int} {z : Nat} {o : Zo} (hP : SP S B) (hw : wfZ o) : SP (stSC S (cfSO (stC S) z o)) B := by
  obtain ⟨h1, h2, h3, h4, h5, h6, h7, h8, h9, h10⟩ := hP
  refine ⟨h1, h2, h3, h4, h5, h6, h7, fun w hw4 => ?_, h9, h10⟩
  show wfZ (cfO (cfSO (stC S) z o) w)
  by_cases c : w = z
  · rw [c, cfO_at]; exact hw
  · rw [cfO_ne _ _ c]; exact h8 w hw4
def zo0 (f : Int) : Zo := (0, fun _ => 0, fun _ => f)
theorem zo0_wf {f : Int} (h : -1439 ≤ f ∧ f ≤ 1439) : wfZ (zo0 f) := ⟨by show 0 ≤ 20; omega, rfl, fun k _ => by show (0 : Int) ≤ 0 ∧ (0 : Int) ≤ 157785119; omega, fun k h1 h2 => by have : k < 0 := h2; omega, fun k _ => h⟩
theorem c_zone {K : Rs → Mm → Prop} {A : Nat → Nat} {M : Mm} {S : St} {B z t : Int} (h : RC A M S) (hP : SP S B) (bz : -2147483648 ≤ z ∧ z ≤ 2147483647) (bt : -2147483648 ≤ t ∧ t ≤ 2147483647) (h1 : ¬ (0 ≤ z ∧ z ≤ 3) → K (.inr "java/lang/IndexOutOfBoundsException") M) (h2 : (0 ≤ z ∧ z ≤ 3) → ¬ (-1439 ≤ t ∧ t ≤ 1439) → K (.inr "java/lang/IllegalArgumentException") M) (h3 : ∀ M', (0 ≤ z ∧ z ≤ 3) → (-1439 ≤ t ∧ t ≤ 1439) → FC A M M' → RC A M' (stSC S (cfSO (stC S) z.toNat (zo0 t))) → K (.inl none) M') : V_X6_zone K M (A 0) (i32 z) (i32 t) := by
  have hs := h.sta
  have n : ∀ {i j : Nat}, i ≠ j → A i ≠ A j := fun h => hs.ne h
  unfold V_X6_zone V_X5_begin
  refine ⟨hs.2.1.1, s_znOf hs bz (fun q => kR_x (h1 q)) (fun j ej hj => kR_s (s_ckO bt (fun q => kV_x (h2 (by omega) q)) (fun qt => kV_i ?_)))⟩
  subst ej
  obtain ⟨z1, z2, z3, z4, z5, z6, z7, z8, z9, z10⟩ := h.2.2.1 j hj
  have hwz := hP.2.2.2.2.2.2.2.1 j hj
  refine ⟨z1, z1, A (22 + 3 * j), z5, z3, by rw [z7, q_0]; exact i32_in (by omega) (by omega) (by omega), fun M5 e5 M6 e6 => kV_i ?_⟩
  rw [show ((0 : Int32)).toNatClampNeg = 0 by decide, sI_w] at e5
  rw [sI_w, e5, mI_wn _ _ (n (show 20 + 3 * j ≠ 22 + 3 * j by omega))] at e6
  have r22 : mI M6 (A (22 + 3 * j)) = va_up (mI M (A (22 + 3 * j))) 0 (i32 t) := by rw [e6, mI_wn _ _ (n (by omega)), mI_w]
  have r21 : mI M6 (A (21 + 3 * j)) = mI M (A (21 + 3 * j)) := by rw [e6, mI_wn _ _ (n (by omega)), mI_wn _ _ (n (by omega))]
  have r20 : mI M6 (A (20 + 3 * j)) 2 = 0 := by rw [e6, mI_w, va_up_self]
  obtain ⟨r, f⟩ := h.zn (M' := M6) hj (by rw [e6]; rfl) (by rw [e6]; rfl) (by rw [e6]; rfl) (by rw [e6]; rfl) (by rw [e6]; rfl) (fun i c1 c2 c3 => by rw [e6, mI_wn _ _ (n c1), mI_wn _ _ (n c3)]) (o := zo0 t) ⟨by rw [e6]; exact z1, by rw [e6]; exact z2, by rw [e6]; exact z3, by rw [e6]; exact z4, by rw [e6]; exact z5, by rw [e6]; exact z6, by rw [e6]; exact z7, by rw [r20]; exact q_0, fun k hk => by
    have e : k = 0 := by have : k ≤ 0 := hk; omega
    subst e
    rw [r21, z9 0 (Nat.zero_le _), hwz.2.1]; rfl, fun k hk => by
    have e : k = 0 := by have : k ≤ 0 := hk; omega
    subst e
    rw [r22, va_up_self]; rfl⟩ (zo0_wf qt)
  have := h3 M6 (by omega) qt f
  rw [Int.toNat_natCast] at this
  exact this r
theorem m_zone {K : Rs → Mm → Prop} {A : Nat → Nat} {M : Mm} {S : St} {z t : Int} (h : RM A M S) (bz : -2147483648 ≤ z ∧ z ≤ 2147483647) (bt : -2147483648 ≤ t ∧ t ≤ 2147483647) (h1 : ¬ (0 ≤ z ∧ z ≤ 3) → ∀ M', FM A M M' → RM A M' S → mI M' (A 11) 0 = 1 → K (.inl none) M') (h2 : (0 ≤ z ∧ z ≤ 3) → ¬ (-1439 ≤ t ∧ t ≤ 1439) → ∀ M', FM A M M' → RM A M' S → mI M' (A 11) 0 = 2 → K (.inl none) M') (h3 : ∀ M', (0 ≤ z ∧ z ≤ 3) → (-1439 ≤ t ∧ t ≤ 1439) → FM A M M' → RM A M' (stSC S (cfSO (stC S) z.toNat (zo0 t))) → mI M' (A 11) 0 = 0 → K (.inl none) M') : V_X7_zone K M (A 11) (i32 z) (i32 t) := by
  have o : ob M (A 11) 7 := h.sta.2.2.2.2.1.1
  unfold V_X7_zone V_X7_zone_36 V_X7_zone_60
  have err : ∀ (w : Int32), ¬ w = 0 → ∀ M2, M2 = sI M (A 11) 0 w → (∀ M', FM A M M' → RM A M' S → mI M' (A 11) 0 = w → K (.inl none) M') → ob M2 (A 11) 7 ∧ ((¬ mI M2 (A 11) 0 = 0 → K (.inl none) M2) ∧ (mI M2 (A 11) 0 = 0 → ∃ b4, mP M2 (A 11) 1 = some b4 ∧ (ob M2 b4 9 ∧ (vp_in (i32 z) (mN M2 b4) ∧ ∀ M7, M7 = sI M2 b4 (i32 z).toNatClampNeg (i32 t) → ∃ b8, mP M7 (A 11) 2 = some b8 ∧ (ob M7 b8 9 ∧ (vp_in (i32 z) (mN M7 b8) ∧ ∀ M11, M11 = sI M7 b8 (i32 z).toNatClampNeg (0 : Int32) → K (.inl none) M11)))))) := by
    intro w hw M2 e2 hk
    obtain ⟨r, f, c⟩ := h.w0 w
    rw [← e2] at r f c
    exact ⟨r.sta.2.2.2.2.1.1, fun _ => hk M2 f r c, fun q2 => by rw [c] at q2; exact absurd q2 hw⟩
  refine s7_in (l := 0) (u := 3) bz.1 bz.2 (by decide) (by decide) (kI_i ?_)
  rw [bI_ne0 (decide (0 ≤ z ∧ z ≤ 3)), bI_0 (decide (0 ≤ z ∧ z ≤ 3)), decide_eq_true_iff, decide_eq_false_iff_not]
  refine ⟨fun qz => s7_in (l := -1439) (u := 1439) bt.1 bt.2 (by decide) (by decide) (kI_i ?_), fun q => ⟨o, fun M2 e2 => err 1 (by decide) M2 e2 (h1 q)⟩⟩
  rw [bI_ne0 (decide (-1439 ≤ t ∧ t ≤ 1439)), bI_0 (decide (-1439 ≤ t ∧ t ≤ 1439)), decide_eq_true_iff, decide_eq_false_iff_not]
  refine ⟨fun qt => ⟨o, fun M2 e2 => ?_⟩, fun q => ⟨o, fun M2 e2 => err 2 (by decide) M2 e2 (h2 qz q)⟩⟩
  obtain ⟨r, f, c⟩ := h.w0 0
  rw [← e2] at r f c
  have hs := r.sta
  have n : ∀ {i j : Nat}, i ≠ j → A i ≠ A j := fun h => hs.ne h
  have md := hs.2.2.2.2.1
  have p1 := md.p 1 9 4 (by decide)
  have p2 := md.p 2 9 4 (by decide)
  obtain ⟨j, ej⟩ : ∃ j : Nat, z = j := ⟨z.toNat, by omega⟩
  subst ej
  refine ⟨md.1, fun q2 => absurd c q2, fun _ => ⟨A 201, p1.1, p1.2.1, by show vp_in _ (mN M2 (A (200 + 1))); rw [p1.2.2.1]; exact i32_in (by omega) (by omega) (by omega), fun M7 e7 => ?_⟩⟩
  rw [i32_clamp (by omega) (by omega), Int.toNat_natCast, sI_w] at e7
  refine ⟨A 202, by rw [e7]; exact p2.1, by rw [e7]; exact p2.2.1, by show vp_in _ (mN M7 (A (200 + 2))); rw [e7]; show vp_in _ (mN M2 (A (200 + 2))); rw [p2.2.2.1]; exact i32_in (by omega) (by omega) (by omega), fun M11 e11 => ?_⟩
  rw [i32_clamp (by omega) (by omega), Int.toNat_natCast, sI_w, e7, mI_wn _ _ (n (show 202 ≠ 201 by decide))] at e11
  have ro : ∀ i, i ≠ 201 → i ≠ 202 → mI M11 (A i) = mI M2 (A i) := fun i c1 c2 => by rw [e11, mI_wn _ _ (n c2), mI_wn _ _ (n c1)]
  have r1 : mI M11 (A 201) = va_up (mI M2 (A 201)) j (i32 t) := by rw [e11, mI_wn _ _ (n (by decide)), mI_w]
  have r2 : mI M11 (A 202) = va_up (mI M2 (A 202)) j 0 := by rw [e11, mI_w]
  have hz0 : MoZ M11 (fun p => A (200 + p)) j (zo0 t) := by
    refine ⟨?_, ?_, fun i h1 h2 => by have : i ≤ 0 := h2; omega⟩
    · show mI M11 (A 202) j = _; rw [r2, va_up_self]; exact q_0
    · show mI M11 (A 201) j = _; rw [r1, va_up_self]; rfl
  have hz1 : ∀ w, w < 4 → w ≠ j → MoZ M11 (fun p => A (200 + p)) w (cfO (stC S) w) := by
    intro w hw c
    obtain ⟨a1, a2, a3⟩ := r.2.2.1 w hw
    refine ⟨?_, ?_, fun i i1 i2 => ?_⟩
    · show mI M11 (A 202) w = _; rw [r2, va_up_ne _ _ c]; exact a1
    · show mI M11 (A 201) w = _; rw [r1, va_up_ne _ _ c]; exact a2
    · show mI M11 (A 203) _ = _ ∧ mI M11 (A 204) _ = _
      rw [ro 203 (by decide) (by decide), ro 204 (by decide) (by decide)]; exact a3 i i1 i2
  obtain ⟨r', f'⟩ := r.zn (M' := M11) (z := j) (o := zo0 t) (by rw [e11]; rfl) (by rw [e11]; rfl) (by rw [e11]; rfl) (by rw [e11]; rfl) (by rw [e11]; rfl) (fun i c1 c2 _ _ => ro i c1 c2) hz0 hz1 (zo0_wf qt)
  have := h3 M11 qz qt (f.trans f')
  rw [Int.toNat_natCast] at this
  exact this r' (by rw [ro 11 (by decide) (by decide)]; exact c)
theorem l_zone {G : Gx} {K : Rs → Mm → Prop} {B23 : Mm → Nat → Nat → Nat → Int32 → Prop} {A : Nat → Nat} {M : Mm} {S : St} {B : Int} {l4 : Int32} (hR : RG A M S B) (hv : Vi G l4) (nxt : ∀ M' S', RC A M' S' → RM A M' S' → SP S' (B + 1300000) → B23 M' (A 0) (A 11) (A 12) (l4 + 7)) : V_L_law_144 G K B23 M (A 0) (A 11) (A 12) l4 := by
  obtain ⟨z, ez, bz⟩ := i32_of (gX G ((l4 + (1 : Int32))).toNatClampNeg)
  obtain ⟨t, et, bt⟩ := i32_of (gX G ((l4 + (2 : Int32))).toNatClampNeg)
  obtain ⟨hC, hM, hP, hB⟩ := hR
  obtain ⟨v1, v2, v3, v4, v5, v6⟩ := hv
  unfold V_L_law_144 V_L_zone
  rw [ez, et]
  refine ⟨v1, v2, hC.sta.2.1.1, c_zone hC hP bz bt (fun q => kV_x (.inl ⟨rfl, kI_i ⟨v1, v2, hC.sta.2.2.2.2.1.1, ?_⟩⟩)) (fun ht q => kV_x (.inr ⟨rfl, kI_i ⟨v1, v2, hC.sta.2.2.2.2.1.1, ?_⟩⟩)) (fun M' hz ht f r => kV_i (kI_i ?_))⟩
  · exact m_zone hM bz bt (fun _ M' f r c => kV_i (tailV r.sta c (nx7 nxt (hC.fr f.1) r hP))) (fun ok => absurd ok q) (fun M' ok => absurd ok q)
  · exact m_zone hM bz bt (fun q' => absurd ht q') (fun _ _ M' f r c => kV_i (tailV r.sta c (nx7 nxt (hC.fr f.1) r hP))) (fun M' _ ok => absurd ok q)
  · have hM' := hM.fr f r.sta
    exact ⟨v1, v2, r.sta.2.2.2.2.1.1, m_zone hM' bz bt (fun q' => absurd hz q') (fun _ q => absurd ht q) (fun M2 _ _ f2 r2 c2 => kV_i (tailV r2.sta c2 (nx7 nxt (r.fr f2.1) r2 (hP.zn (zo0_wf ht)))))⟩
