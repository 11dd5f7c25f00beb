/-! put -/
def dkC0 (D : Dk) (k : Nat) : Dk := (va_up (dR D) k [], va_up (dW D) k none, dB D, dD D, dC D, dL D)
theorem s_clr {K : Rs → Mm → Prop} {A : Nat → Nat} {M : Mm} {tk : Nat → Int} {D : Dk} {k : Nat} (hs : Sta A M) (hD : DkC A M tk D) (hk : k < 12) (h : ∀ M', Dr A M M' → DkC A M' tk (dkC0 D k) → K (.inl none) M') : V_X2_clearRuns K M (A (40 + 10 * k)) := by
  have n : ∀ {i j : Nat}, i ≠ j → A i ≠ A j := fun h => hs.ne h
  unfold V_X2_clearRuns
  refine ⟨(hs.2.2.2.1 k hk).1, fun M2 e2 M3 e3 => ?_⟩
  rw [sI_w] at e2
  rw [sI_w, e2, wI_wI, mI_w] at e3
  have g : Dr A M M3 := by
    rw [e3]
    exact Dr.w hs (by unfold dkx; rw [decide_eq_true_iff]; omega) _ (fun _ _ p hp => by rw [va_up_ne _ _ (by omega), va_up_ne _ _ (by omega)])
  refine h M3 g ⟨?_, fun j hj => ?_⟩
  · rw [e3, mI_wn _ _ (n (by omega)), mI_wn _ _ (n (by omega)), mI_wn _ _ (n (by omega)), mI_wn _ _ (n (by omega)), mI_wn _ _ (n (by omega))]; exact hD.1
  · obtain ⟨a1, a2, a3, a4, a5, a6, a7⟩ := hD.2 j hj
    by_cases c : j = k
    · subst c
      rw [e3, mI_w, mI_wn _ _ (n (by omega)), mI_wn _ _ (n (by omega))]
      show OrR _ _ _ _ (va_up (dR D) j [] j) (va_up (dW D) j none j) _ _
      rw [va_up_self, va_up_self]
      exact ⟨by rw [va_up_ne _ _ (by decide), va_up_self]; exact q_0, by decide, fun i hi => absurd hi (Nat.not_lt_zero _), by rw [va_up_self]; rfl, fun v hv => (by cases hv), by rw [va_up_ne _ _ (by decide), va_up_ne _ _ (by decide)]; exact a6, by rw [va_up_ne _ _ (by decide), va_up_ne _ _ (by decide)]; exact a7⟩
    · rw [e3, mI_wn _ _ (n (by omega)), mI_wn _ _ (n (by omega)), mI_wn _ _ (n (by omega))]
      show OrR _ _ _ _ (va_up (dR D) k [] j) (va_up (dW D) k none j) _ _
      rw [va_up_ne _ _ c, va_up_ne _ _ c]
      exact ⟨a1, a2, a3, a4, a5, a6, a7⟩
def clrF : Nat → Nat → Dk → Dk
  | 0, _, D => D
  | n + 1, k, D => clrF n (k + 1) (dkC0 D k)
theorem clrF_q : ∀ (n k : Nat) (D : Dk), (∀ j, j < k + n → (k ≤ j ∨ (dR D j = [] ∧ dW D j = none)) → dR (clrF n k D) j = [] ∧ dW (clrF n k D) j = none) ∧ dB (clrF n k D) = dB D ∧ dD (clrF n k D) = dD D ∧ dC (clrF n k D) = dC D ∧ dL (clrF n k D) = dL D
  | 0, k, D => ⟨fun j hj h => by rcases h with c | c; omega; exact c, rfl, rfl, rfl, rfl⟩
  | n + 1, k, D => by
    have := clrF_q n (k + 1) (dkC0 D k)
    unfold clrF
    refine ⟨fun j hj h => this.1 j (by omega) ?_, this.2⟩
    by_cases c : k + 1 ≤ j
    · exact .inl c
    · right
      show va_up (dR D) k [] j = [] ∧ va_up (dW D) k none j = none
      by_cases e : j = k
      · subst e; rw [va_up_self, va_up_self]; exact ⟨rfl, rfl⟩
      · rw [va_up_ne _ _ e, va_up_ne _ _ e]
        rcases h with q | q
        · omega
        · exact q
def ptS (S : St) (t : Int) : St := stDN S (clrF 12 0 (stD S)) t
theorem ptS_sp {S : St} {B t : Int} (hP : SP S B) (ha : stA S = true) (ht : 0 ≤ t ∧ t ≤ 157785119) : SP (ptS S t) B := by
  obtain ⟨h1, h2, h3, h4, h5, h6, h7, h8, h9, h10⟩ := hP
  have q := clrF_q 12 0 (stD S)
  have e : ∀ j, j < 12 → dR (clrF 12 0 (stD S)) j = [] ∧ dW (clrF 12 0 (stD S)) j = none := fun j hj => q.1 j (by omega) (.inl (Nat.zero_le _))
  refine ⟨h1, h2, h3, ⟨fun k hk => ?_, fun k hk w hw => ?_, fun k hk => ?_, fun k hk _ => e k hk, fun k hk x hx => ?_, ?_⟩, fun _ k hk x hx => ?_, ht, ⟨h7.1, h7.2.1, fun c => ?_⟩, h8, h9, ?_⟩
  · show (dR (clrF 12 0 (stD S)) k).length ≤ 8; rw [(e k hk).1]; decide
  · have hw' : dW (clrF 12 0 (stD S)) k = some w := hw
    rw [(e k hk).2] at hw'; cases hw'
  · show (dR (clrF 12 0 (stD S)) k).Pairwise _; rw [(e k hk).1]; exact List.Pairwise.nil
  · have hx' : x ∈ dR (clrF 12 0 (stD S)) k := hx
    rw [(e k hk).1] at hx'; cases hx'
  · show 0 ≤ dC (clrF 12 0 (stD S)); rw [q.2.2.2.1]; exact h4.2.2.2.2.2
  · have hx' : x ∈ dR (clrF 12 0 (stD S)) k := hx
    rw [(e k hk).1] at hx'; cases hx'
  · have c' : stA S = false := c
    rw [ha] at c'; exact absurd c' (by decide)
  · show dC (clrF 12 0 (stD S)) ≤ B; rw [q.2.2.2.1]; exact h10
theorem c_put {K : Rs → Mm → Prop} {A : Nat → Nat} {M : Mm} {S : St} {t : Int} (h : RC A M S) (bt : -2147483648 ≤ t ∧ t ≤ 2147483647) (h1 : ¬ (0 ≤ t ∧ t ≤ 157785119) → K (.inr "java/lang/IllegalArgumentException") M) (h2 : (0 ≤ t ∧ t ≤ 157785119) → stA S = false → K (.inr "java/lang/IllegalStateException") M) (h3 : ∀ M', (0 ≤ t ∧ t ≤ 157785119) → stA S = true → FC A M M' → RC A M' (ptS S t) → K (.inl none) M') : V_X6_put K M (A 0) (i32 t) := by
  have go : ∀ (n k : Nat) (M1 : Mm) (D : Dk), k + n = 12 → Fw A M M1 → CW A M1 (stC S) D (stN S) → clrF n k D = clrF 12 0 (stD S) → (0 ≤ t ∧ t ≤ 157785119) → stA S = true → V_X6_put_24 K (n + 1) M1 (A 0) (i32 t) (i32 (k : Nat)) := by
    intro n
    induction n with
    | zero =>
      intro k M1 D e f w eD ht ha
      unfold V_X6_put_24
      rw [q_12, i32_le (by omega) (by omega) (by omega) (by omega)]
      refine ⟨fun _ => ⟨w.1.2.1.1, fun M2 e2 => ?_⟩, fun q => absurd (by omega) q⟩
      obtain ⟨w2, f2⟩ := w.clk (t := t)
      rw [← e2] at w2 f2
      refine h3 M2 ht ha (f.trans f2).fc ?_
      have eD' : D = clrF 12 0 (stD S) := eD
      rw [eD'] at w2
      exact h.fw (f.trans f2) w2
    | succ n ih =>
      intro k M1 D e f w eD ht ha
      have hk : k < 12 := by omega
      have hs := w.1
      obtain ⟨s1, s2, s3, s4, s5, s6, s7, s8, s9, s10⟩ := hs.2.2.2.1 k hk
      unfold V_X6_put_24
      rw [q_12, i32_le (by omega) (by omega) (by omega) (by omega)]
      refine ⟨fun q => absurd q (by omega), fun _ => ⟨hs.2.1.1, A 3, hs.2.1.2.1.2.2.1, hs.2.1.2.2.2.2.1.1, by rw [hs.2.1.2.2.2.2.1.2]; exact i32_in (by omega) (by omega) (by omega), A (40 + 10 * k), by rw [i32_clamp (by omega) (by omega), Int.toNat_natCast]; exact s10, s1, ?_⟩⟩
      refine s_clr hs w.2.1 hk (fun M9 g9 d9 => kV_i (fun x10 e10 => ?_))
      obtain ⟨w9, f9⟩ := w.dr g9 d9
      rw [e10, q_1, i32_add]
      exact ih (k + 1) M9 _ (by omega) (f.trans f9) w9 eD ht ha
  unfold V_X6_put
  refine s_ckM bt (fun q => kV_x (h1 q)) (fun ht => kV_i ⟨h.sta.2.1.1, ?_⟩)
  rw [h.2.2.2.2.1, bI_ne0 (stA S), bI_0 (stA S)]
  exact ⟨fun ha => ⟨13, go 12 0 M (stD S) (by omega) (Fw.refl A M) h.1 rfl ht ha⟩, fun ha => h2 ht ha⟩
theorem m_put {K : Rs → Mm → Prop} {A : Nat → Nat} {M : Mm} {S : St} {t : Int} (h : RM A M S) (bt : -2147483648 ≤ t ∧ t ≤ 2147483647) (h1 : ¬ (0 ≤ t ∧ t ≤ 157785119) → ∀ M', FM A M M' → RM A M' S → mI M' (A 11) 0 = 1 → K (.inl none) M') (h2 : (0 ≤ t ∧ t ≤ 157785119) → stA S = false → ∀ M', FM A M M' → RM A M' S → mI M' (A 11) 0 = 2 → K (.inl none) M') (h3 : ∀ M', (0 ≤ t ∧ t ≤ 157785119) → stA S = true → FM A M M' → RM A M' (ptS S t) → mI M' (A 11) 0 = 0 → K (.inl none) M') : V_X7_put K M (A 11) (i32 t) := by
  have o : ob M (A 11) 7 := h.sta.2.2.2.2.1.1
  unfold V_X7_put V_X7_put_29
  refine s7_in (l := 0) (u := 157785119) bt.1 bt.2 (by decide) (by decide) (kI_i ?_)
  rw [bI_ne0 (decide (0 ≤ t ∧ t ≤ 157785119)), bI_0 (decide (0 ≤ t ∧ t ≤ 157785119)), decide_eq_true_iff, decide_eq_false_iff_not]
  refine ⟨fun ht => ⟨o, ?_⟩, fun q => ⟨o, fun M2 e2 => ?_⟩⟩
  · rw [h.2.2.2.2.1]
    rcases ha : stA S with _ | _
    · refine ⟨fun q => absurd q (by decide), fun _ => ⟨o, fun M2 e2 => ?_⟩⟩
      obtain ⟨r, f, c⟩ := h.w0 2
      rw [← e2] at r f c
      refine ⟨r.sta.2.2.2.2.1.1, fun q2 => ?_, fun _ => h2 ht ha M2 f r c⟩
      rw [c] at q2; exact absurd q2 (by decide)
    · refine ⟨fun _ => ⟨o, fun M2 e2 => ?_⟩, fun q => absurd rfl q⟩
      obtain ⟨r, f, c⟩ := h.w0 0
      rw [← e2] at r f c
      refine ⟨r.sta.2.2.2.2.1.1, fun _ M4 e4 M5 e5 => ⟨13, ?_⟩, fun q2 => absurd (by rw [c]; decide) q2⟩
      have hs := r.sta
      have n : ∀ {i j : Nat}, i ≠ j → A i ≠ A j := fun h => hs.ne h
      rw [sI_w] at e4
      rw [sI_w, e4, wI_wI, mI_w] at e5
      generalize hX : va_up (va_up (mI M2 (A 11)) 52 (i32 t)) 45 0 = X at e5
      have x45 : X 45 = 0 := by rw [← hX, va_up_self]
      have x52 : X 52 = i32 t := by rw [← hX, va_up_ne _ _ (by decide), va_up_self]
      have xo : ∀ p, p ≠ 45 → p ≠ 52 → X p = mI M2 (A 11) p := fun p c1 c2 => by rw [← hX, va_up_ne _ _ c1, va_up_ne _ _ c2]
      have hs5 : Sta A M5 := by rw [e5]; exact hs.congr rfl rfl rfl rfl
      have fin : ∀ rr, (∀ j, j < 12 → rr j = i32 (-1)) → K (.inl none) (wI M5 (A 244) rr) := by
        intro rr hrr
        have ro : ∀ i, i ≠ 11 → i ≠ 244 → mI (wI M5 (A 244) rr) (A i) = mI M2 (A i) := fun i c1 c2 => by rw [mI_wn _ _ (n c2), e5, mI_wn _ _ (n c1)]
        have r11 : mI (wI M5 (A 244) rr) (A 11) = X := by rw [mI_wn _ _ (n (by decide)), e5, mI_w]
        have g : Gm A M2 (wI M5 (A 244) rr) := by
          refine ⟨by rw [e5]; rfl, by rw [e5]; rfl, by rw [e5]; rfl, by rw [e5]; rfl, by rw [e5]; rfl, fun i c1 c2 => ro i c1 (fun c => by subst c; exact absurd c2 (by decide)), fun p _ c1 c2 _ => by rw [r11]; exact xo p c1 c2⟩
        obtain ⟨R, dm⟩ := r.1.2.1
        obtain ⟨a1, a2, a3, a4⟩ := dm
        have q := clrF_q 12 0 (stD S)
        have eq : ∀ j, j < 12 → dR (clrF 12 0 (stD S)) j = [] ∧ dW (clrF 12 0 (stD S)) j = none := fun j hj => q.1 j (by omega) (.inl (Nat.zero_le _))
        have w : MW A (wI M5 (A 244) rr) (stC S) (clrF 12 0 (stD S)) t := by
          refine ⟨g.sta hs, ⟨[], ?_, ⟨?_, fun i hi => absurd hi (Nat.not_lt_zero _)⟩, ⟨fun x hx => (by cases hx), fun k hk => ?_⟩, fun k hk => ?_⟩, g.ov r.1.2.2.1, by rw [r11]; exact x52, g.om hs r.1.2.2.2.2⟩
          · rw [q.2.2.2.1, q.2.2.2.2, r11, xo 55 (by decide) (by decide), ro 256 (by decide) (by decide), ro 257 (by decide) (by decide), ro 258 (by decide) (by decide), ro 259 (by decide) (by decide)]; exact a1
          · rw [r11, x45]; exact q_0
          · rw [(eq k hk).1]; rfl
          · rw [(eq k hk).2, q.2.1, q.2.2.1, ro 242 (by decide) (by decide), ro 243 (by decide) (by decide), mI_w]
            exact ⟨fun _ => hrr k hk, (a4 k hk).2⟩
        exact h3 _ ht ha (f.trans g.fm) (r.gm g w) (g.p0.trans c)
      have md5 := hs5.2.2.2.2.1
      have p44 := md5.p 44 9 12 (by decide)
      have go : ∀ (m k : Nat) (rr : Nat → Int32), k + m = 12 → (∀ j, j < k → rr j = i32 (-1)) → V_X7_put_52 K (m + 1) (wI M5 (A 244) rr) (A 11) (i32 (k : Nat)) := by
        intro m
        induction m with
        | zero =>
          intro k rr e hrr
          unfold V_X7_put_52
          rw [q_12, i32_le (by omega) (by omega) (by omega) (by omega)]
          exact ⟨fun _ => fin rr (fun j hj => hrr j (by omega)), fun q => absurd (by omega) q⟩
        | succ m ih =>
          intro k rr e hrr
          unfold V_X7_put_52
          rw [q_12, i32_le (by omega) (by omega) (by omega) (by omega)]
          refine ⟨fun q => absurd q (by omega), fun _ => ⟨md5.1, A 244, p44.1, p44.2.1, by show vp_in _ (mN M5 (A (200 + 44))); rw [p44.2.2.1]; exact i32_in (by omega) (by omega) (by omega), fun M6 e6 x6 ex => ?_⟩⟩
          rw [i32_clamp (by omega) (by omega), Int.toNat_natCast, sI_w, wI_wI, mI_w] at e6
          rw [e6, ex, q_1, i32_add]
          refine ih (k + 1) _ (by omega) (fun j hj => ?_)
          by_cases c : j = k
          · subst c; rw [va_up_self]; decide
          · rw [va_up_ne _ _ c]; exact hrr j (by omega)
      have := go 12 0 (mI M5 (A 244)) (by omega) (fun j hj => absurd hj (Nat.not_lt_zero _))
      rw [wI_self] at this
      exact this
  · obtain ⟨r, f, c⟩ := h.w0 1
    rw [← e2] at r f c
    refine ⟨r.sta.2.2.2.2.1.1, fun q2 => ?_, fun _ => h1 q M2 f r c⟩
    rw [c] at q2; exact absurd q2 (by decide)
theorem l_put {G : Gx} {K : Rs → Mm → Prop} {B23 : Mm → Nat → Nat → Nat → Int32 → Prop} {A : Nat → Nat} {M : Mm} {S : St} {B : Int} {l4 : Int32} (hR : RG A M S B) (hv : Vi G l4) (nxt : ∀ M' S', RC A M' S' → RM A M' S' → SP S' (B + 1300000) → B23 M' (A 0) (A 11) (A 12) (l4 + 7)) : V_L_law_1304 G K B23 M (A 0) (A 11) (A 12) l4 := by
  obtain ⟨t, et, bt⟩ := i32_of (gX G ((l4 + (1 : Int32))).toNatClampNeg)
  obtain ⟨hC, hM, hP, hB⟩ := hR
  obtain ⟨v1, v2, v3, v4, v5, v6⟩ := hv
  unfold V_L_law_1304 V_L_put
  rw [et]
  refine ⟨v1, hC.sta.2.1.1, c_put hC bt (fun q => kV_x (.inl ⟨rfl, kI_i ⟨v1, hC.sta.2.2.2.2.1.1, ?_⟩⟩)) (fun ht q => kV_x (.inr ⟨rfl, kI_i ⟨v1, hC.sta.2.2.2.2.1.1, ?_⟩⟩)) (fun M' ht ha f r => kV_i (kI_i ?_))⟩
  · exact m_put hM bt (fun _ M' f r c => kV_i (tailV r.sta c (nx7 nxt (hC.fr f.1) r hP))) (fun ok => absurd ok q) (fun M' ok => absurd ok q)
  · exact m_put hM bt (fun q' => absurd ht q') (fun _ _ M' f r c => kV_i (tailV r.sta c (nx7 nxt (hC.fr f.1) r hP))) (fun M' _ ha => by rw [q] at ha; exact absurd ha (by decide))
  · have hM' := hM.fr f r.sta
    exact ⟨v1, r.sta.2.2.2.2.1.1, m_put hM' bt (fun q' => absurd ht q') (fun _ q => by rw [ha] at q; exact absurd q (by decide)) (fun M2 _ _ f2 r2 c2 => kV_i (tailV r2.sta c2 (nx7 nxt (r.fr f2.1) r2 (ptS_sp hP ha ht))))⟩
