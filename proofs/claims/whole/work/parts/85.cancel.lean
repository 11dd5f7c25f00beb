/-! cancel -/
def cfSU (c : Cf) (k : Nat) (b : Bool) : Cf := (va_up (cfU c) k b, c.2)
theorem Od.cg {A : Nat → Nat} {M M' : Mm} {k z : Nat} {r : Ru} {o : Zo} {b : Int → Bool} (hk : k < 12) (hz : z < 4) (eL : mL M' = mL M) (eK : mK M' = mK M) (eN : mN M' = mN M) (eJ : mJ M' = mJ M) (eP : mP M' = mP M) (rz : ∀ i, 20 ≤ i → i < 32 → mI M' (A i) = mI M (A i)) (rr : mI M' (A (41 + 10 * k)) = mI M (A (41 + 10 * k))) (h : Od M (A (40 + 10 * k)) (A (41 + 10 * k)) (A (42 + 10 * k)) (A (43 + 10 * k)) (A (44 + 10 * k)) (A (20 + 3 * z)) (A (21 + 3 * z)) (A (22 + 3 * z)) r o b) : Od M' (A (40 + 10 * k)) (A (41 + 10 * k)) (A (42 + 10 * k)) (A (43 + 10 * k)) (A (44 + 10 * k)) (A (20 + 3 * z)) (A (21 + 3 * z)) (A (22 + 3 * z)) r o b := by
  have ob' : ∀ a q, ob M a q → ob M' a q := fun a q h => by unfold ob at *; rw [eL, eK]; exact h
  obtain ⟨d1, d2, d3, ⟨d4, d4v⟩, d5, ⟨z1, z2, z3, z4, z5, z6, z7, z8, z9, z10⟩, d7, d8, d9, d10⟩ := h
  exact ⟨ob' _ _ d1, by rw [eP]; exact d2, by rw [eP]; exact d3, ⟨d4.congr eL eK eN eP, by rw [eJ, rr]; exact d4v⟩, by rw [rr]; exact d5, ⟨ob' _ _ z1, ob' _ _ z2, ob' _ _ z3, by rw [eP]; exact z4, by rw [eP]; exact z5, by rw [eN]; exact z6, by rw [eN]; exact z7, by rw [rz _ (by omega) (by omega)]; exact z8, by rw [rz _ (by omega) (by omega)]; exact z9, by rw [rz _ (by omega) (by omega)]; exact z10⟩, d7, d8, d9, d10⟩
def caS (S : St) (j : Nat) : St := stSC (stDN S (dkC0 (stD S) j) (stN S)) (cfSU (stC S) j false)
theorem caS_sp {S : St} {B : Int} {j : Nat} (hP : SP S B) : SP (caS S j) B := by
  obtain ⟨h1, h2, h3, h4, h5, h6, h7, h8, h9, h10⟩ := hP
  have hU : ∀ k, cfU (cfSU (stC S) j false) k = true → k ≠ j ∧ cfU (stC S) k = true := fun k hk => by
    have hk' : va_up (cfU (stC S)) j false k = true := hk
    by_cases c : k = j
    · subst c; rw [va_up_self] at hk'; exact absurd hk' (by decide)
    · rw [va_up_ne _ _ c] at hk'; exact ⟨c, hk'⟩
  have hR : ∀ k (q : Int × Int), q ∈ dR (dkC0 (stD S) j) k → q ∈ dR (stD S) k := fun k q hq => by
    have hq' : q ∈ va_up (dR (stD S)) j [] k := hq
    by_cases c : k = j
    · subst c; rw [va_up_self] at hq'; cases hq'
    · rw [va_up_ne _ _ c] at hq'; exact hq'
  refine ⟨h1, fun k hk hu => h2 k hk (hU k hu).2, fun k hk hu => h3 k hk (hU k hu).2, ⟨fun k hk => ?_, fun k hk w hw => ?_, fun k hk => ?_, fun k hk hf => ?_, fun k hk q hq => h4.2.2.2.2.1 k hk q (hR k q hq), h4.2.2.2.2.2⟩, fun ha k hk q hq => h5 ha k hk q (hR k q hq), h6, h7, h8, h9, h10⟩
  · show (va_up (dR (stD S)) j [] k).length ≤ 8
    by_cases c : k = j
    · subst c; rw [va_up_self]; decide
    · rw [va_up_ne _ _ c]; exact h4.1 k hk
  · have hw' : va_up (dW (stD S)) j none k = some w := hw
    by_cases c : k = j
    · subst c; rw [va_up_self] at hw'; cases hw'
    · rw [va_up_ne _ _ c] at hw'; exact h4.2.1 k hk w hw'
  · show (va_up (dR (stD S)) j [] k).Pairwise _
    by_cases c : k = j
    · subst c; rw [va_up_self]; exact List.Pairwise.nil
    · rw [va_up_ne _ _ c]; exact h4.2.2.1 k hk
  · show va_up (dR (stD S)) j [] k = [] ∧ va_up (dW (stD S)) j none k = none
    by_cases c : k = j
    · subst c; rw [va_up_self, va_up_self]; exact ⟨rfl, rfl⟩
    · rw [va_up_ne _ _ c, va_up_ne _ _ c]
      have hf' : va_up (cfU (stC S)) j false k = false := hf
      rw [va_up_ne _ _ c] at hf'
      exact h4.2.2.2.1 k hk hf'
theorem c_cancel {K : Rs → Mm → Prop} {A : Nat → Nat} {M : Mm} {S : St} {k : Int} (h : RC A M S) (bk : -2147483648 ≤ k ∧ k ≤ 2147483647) (h1 : ¬ usd S k → K (.inr "java/lang/IndexOutOfBoundsException") M) (h3 : ∀ (j : Nat) M', k = j → j < 12 → cfU (stC S) j = true → FC A M M' → RC A M' (caS S j) → K (.inl (some (.int (i32 (cUs (cfSU (stC S) j false) 12 : Nat))))) M') : V_X6_cancel K M (A 0) (i32 k) := by
  have hs := h.sta
  have n : ∀ {i j : Nat}, i ≠ j → A i ≠ A j := fun h => hs.ne h
  unfold V_X6_cancel
  refine ⟨hs.2.1.1, s_ordOf h bk (fun q => kR_x (h1 q)) (fun j ej hj hu => kR_s ⟨(hs.2.2.2.1 j hj).1, fun M5 e5 => ?_⟩)⟩
  rw [sI_w] at e5
  have s5 : Sta A M5 := by rw [e5]; exact hs.congr rfl rfl rfl rfl
  have r5 : ∀ i, i ≠ 40 + 10 * j → mI M5 (A i) = mI M (A i) := fun i c => by rw [e5, mI_wn _ _ (n c)]
  have p5 : ∀ i p, p ≠ 4 → mI M5 (A (40 + 10 * i)) p = mI M (A (40 + 10 * i)) p := fun i p c => by
    by_cases q : i = j
    · subst q; rw [e5, mI_w, va_up_ne _ _ c]
    · rw [r5 _ (by omega)]
  have d5 : DkC A M5 (cfT (stC S)) (stD S) := by
    obtain ⟨a1, a2⟩ := h.1.2.1
    refine ⟨by rw [r5 6 (by omega), r5 7 (by omega), r5 8 (by omega), r5 9 (by omega), r5 10 (by omega)]; exact a1, fun i hi => ?_⟩
    obtain ⟨b1, b2, b3, b4, b5, b6, b7⟩ := a2 i hi
    rw [r5 (45 + 10 * i) (by omega), r5 (46 + 10 * i) (by omega)]
    exact ⟨by rw [p5 i 11 (by decide)]; exact b1, b2, b3, by rw [p5 i 12 (by decide)]; exact b4, fun v hv => by rw [p5 i 13 (by decide)]; exact b5 v hv, by rw [p5 i 14 (by decide)]; exact b6, by rw [p5 i 15 (by decide)]; exact b7⟩
  refine s_clr s5 d5 hj (fun M6 g6 d6 => kV_i ?_)
  have s6 := g6.sta s5
  have r6 : ∀ i, dkx i = false → i ≠ 40 + 10 * j → mI M6 (A i) = mI M (A i) := fun i c1 c2 => (g6.row s5 c1).trans (r5 i c2)
  have p6 : ∀ i p, i < 12 → ¬ (11 ≤ p ∧ p ≤ 15) → p ≠ 4 → mI M6 (A (40 + 10 * i)) p = mI M (A (40 + 10 * i)) p := fun i p hi c1 c2 => (g6.2.2.2.2.2.2 i p hi c1).trans (p5 i p c2)
  have u6 : ∀ i, i < 12 → mI M6 (A (40 + 10 * i)) 4 = bI (cfU (cfSU (stC S) j false) i) := fun i hi => by
    rw [g6.2.2.2.2.2.2 i 4 hi (by omega)]
    show _ = bI (va_up (cfU (stC S)) j false i)
    by_cases q : i = j
    · subst q; rw [e5, mI_w, va_up_self, va_up_self]; rfl
    · rw [r5 _ (by omega), va_up_ne _ _ q]; exact (h.1.2.2.2.2 i hi).1
  have eL : mL M6 = mL M := by rw [g6.1, e5]; rfl
  have eK : mK M6 = mK M := by rw [g6.2.1, e5]; rfl
  have eN : mN M6 = mN M := by rw [g6.2.2.1, e5]; rfl
  have eJ : mJ M6 = mJ M := by rw [g6.2.2.2.1, e5]; rfl
  have eP : mP M6 = mP M := by rw [g6.2.2.2.2.1, e5]; rfl
  have rz : ∀ i, 20 ≤ i → i < 32 → mI M6 (A i) = mI M (A i) := fun i c1 c2 => r6 i (by unfold dkx; rw [decide_eq_false_iff_not]; omega) (by omega)
  have hU : ∀ i, cfU (cfSU (stC S) j false) i = true → i ≠ j ∧ cfU (stC S) i = true := fun i hk => by
    have hk' : va_up (cfU (stC S)) j false i = true := hk
    by_cases c : i = j
    · subst c; rw [va_up_self] at hk'; exact absurd hk' (by decide)
    · rw [va_up_ne _ _ c] at hk'; exact ⟨c, hk'⟩
  have w6 : CW A M6 (cfSU (stC S) j false) (dkC0 (stD S) j) (stN S) := by
    refine ⟨s6, d6, fun i hi => ?_, by rw [r6 0 (by decide) (by omega)]; exact h.1.2.2.2.1, fun i hi => ⟨u6 i hi, fun hu => ?_⟩⟩
    · rw [p6 i 0 hi (by decide) (by decide), p6 i 9 hi (by decide) (by decide), p6 i 10 hi (by decide) (by decide)]; exact h.1.2.2.1 i hi
    · obtain ⟨hz, hd⟩ := (h.1.2.2.2.2 i hi).2 (hU i hu).2
      exact ⟨hz, Od.cg hi hz eL eK eN eJ eP rz (r6 _ (by unfold dkx; rw [decide_eq_false_iff_not]; omega) (by omega)) hd⟩
  have rc : RC A M6 (caS S j) := by
    obtain ⟨_, h2, h3', h4, h5, h6, h7, h8, h9⟩ := h
    have ob' : ∀ a q, ob M a q → ob M6 a q := fun a q h => by unfold ob at *; rw [eL, eK]; exact h
    refine ⟨w6, fun i hi hu => by rw [p6 i 7 hi (by decide) (by decide), p6 i 8 hi (by decide) (by decide)]; exact h2 i hi (hU i hu).2, fun z hz => ?_, by rw [r6 0 (by decide) (by omega)]; exact h4, by rw [r6 0 (by decide) (by omega)]; exact h5, by rw [r6 4 (by decide) (by omega)]; exact h6, fun i hi => by rw [r6 5 (by decide) (by omega)]; exact h7 i hi, by rw [r6 0 (by decide) (by omega)]; exact h8, fun i hi hu => by rw [p6 i 6 hi (by decide) (by decide)]; exact h9 i hi (hU i hu).2⟩
    obtain ⟨z1, z2, z3, z4, z5, z6, z7, z8, z9, z10⟩ := h3' z hz
    exact ⟨ob' _ _ z1, ob' _ _ z2, ob' _ _ z3, by rw [eP]; exact z4, by rw [eP]; exact z5, by rw [eN]; exact z6, by rw [eN]; exact z7, by rw [rz _ (by omega) (by omega)]; exact z8, by rw [rz _ (by omega) (by omega)]; exact z9, by rw [rz _ (by omega) (by omega)]; exact z10⟩
  refine ⟨s6.2.1.1, s_oiu s6 u6 (kI_i (h3 j M6 ej hj hu ⟨eL, eK, eN, fun i hi => ⟨r6 i (by unfold dkx; rw [decide_eq_false_iff_not]; omega) (by omega), by rw [eJ]⟩⟩ rc))⟩
theorem flt_er {R : List (Nat × Int × Int)} {m i j : Nat} (hm : m < R.length) (hj : (R.getD m (0, 0, 0)).1 = j) (hi : i ≠ j) : (R.eraseIdx m).filter (fun q => q.1 == i) = R.filter (fun q => q.1 == i) := by
  conv => rhs; rw [split_at hm]
  rw [List.eraseIdx_eq_take_drop_succ, List.filter_append, List.filter_append, List.filter_cons]
  have : ((R.getD m (0, 0, 0)).1 == i) = false := by rw [hj]; simp; omega
  rw [this]
  rfl
theorem s7_c33 {K : Rs → Mm → Prop} {A : Nat → Nat} {j : Nat} {f : Nat → List (Int × Int)} (hj : j < 12) :
    ∀ (m : Nat) (M : Mm) (R : List (Nat × Int × Int)), Sta A M → m ≤ R.length → R.length ≤ 96 → RuM (mI M (A 11) 45) (mI M (A 246)) (mI M (A 247)) (mI M (A 248)) R → (∀ q ∈ R, q.1 < 12) → (∀ i, i < 12 → i ≠ j → (R.filter (fun q => q.1 == i)).map (fun q => q.2) = f i) → (∀ q ∈ R.drop m, q.1 ≠ j) →
      (∀ M' R', Dm A M M' → (∀ i, i ≠ 11 → i ≠ 246 → i ≠ 247 → i ≠ 248 → mI M' (A i) = mI M (A i)) → mI M' (A 11) 55 = mI M (A 11) 55 → RuM (mI M' (A 11) 45) (mI M' (A 246)) (mI M' (A 247)) (mI M' (A 248)) R' → RuP R' (va_up f j []) → V_X7_orders (kI (fun r3 M2 => K (.inl (some (.int r3))) M2) (fun _ _ => False)) M' (A 11)) → V_X7_cancel_33 K (m + 1) M (A 11) (i32 (j : Nat)) (i32 ((m : Int) - 1)) := by
  intro m
  induction m with
  | zero =>
    intro M R hs hm hR hRm hb hf hd h
    unfold V_X7_cancel_33
    rw [q_0, i32_lt (by omega) (by omega) (by omega) (by omega)]
    refine ⟨fun _ => ⟨hs.2.2.2.2.1.1, h M R (Dm.refl A M) (fun _ _ _ _ _ => rfl) rfl hRm ⟨hb, fun i hi => ?_⟩⟩, fun q => absurd (by omega) q⟩
    by_cases c : i = j
    · subst c
      rw [va_up_self]
      have : R.filter (fun q => q.1 == i) = [] := by
        rw [List.filter_eq_nil_iff]
        intro q hq
        have := hd q (by simpa using hq)
        simp [this]
      rw [this]; rfl
    · rw [va_up_ne _ _ c]; exact hf i hi c
  | succ m ih =>
    intro M R hs hm hR hRm hb hf hd h
    have md := hs.2.2.2.2.1
    have p46 := md.p 46 9 100 (by decide)
    have hml : m < R.length := by omega
    have hmem : R.getD m (0, 0, 0) ∈ R := by
      rw [List.getD_eq_getElem?_getD, List.getElem?_eq_getElem hml]
      exact List.getElem_mem hml
    have hb12 := hb _ hmem
    unfold V_X7_cancel_33 V_X7_cancel_52
    rw [show ((m + 1 : Nat) : Int) - 1 = (m : Nat) by omega, q_0, i32_lt (by omega) (by omega) (by omega) (by omega)]
    refine ⟨fun q => absurd q (by omega), fun _ => ⟨md.1, A 246, p46.1, p46.2.1, by show vp_in _ (mN M (A (200 + 46))); rw [p46.2.2.1]; exact i32_in (by omega) (by omega) (by omega), ?_⟩⟩
    rw [i32_clamp (by omega) (by omega), Int.toNat_natCast, (hRm.2 m hml).1, i32_eq (by omega) (by omega) (by omega) (by omega)]
    have edrop : R.drop m = R.getD m (0, 0, 0) :: R.drop (m + 1) := by
      rw [List.getD_eq_getElem?_getD, List.getElem?_eq_getElem hml]
      exact List.drop_eq_getElem_cons hml
    refine ⟨fun q x1 ex => ?_, fun q => ?_⟩
    · rw [ex, show (-1 : Int32) = i32 (-1) by decide, i32_add, show ((m : Nat) : Int) + -1 = (m : Int) - 1 by omega]
      refine ih M R hs (by omega) hR hRm hb hf (fun x hx => ?_) h
      rw [edrop] at hx
      rcases List.mem_cons.mp hx with c | c
      · rw [c]; omega
      · exact hd x c
    · have hq : (R.getD m (0, 0, 0)).1 = j := by omega
      refine s7_drop hs hRm hR hml (fun M8 g8 r8 o8 p8 => kV_i (fun x1 ex => ?_))
      rw [ex, show (-1 : Int32) = i32 (-1) by decide, i32_add, show ((m : Nat) : Int) + -1 = (m : Int) - 1 by omega]
      have hlen : (R.eraseIdx m).length = R.length - 1 := List.length_eraseIdx_of_lt hml
      refine ih M8 (R.eraseIdx m) (g8.sta hs) (by omega) (by omega) r8 (fun x hx => hb x (List.mem_of_mem_eraseIdx hx)) (fun i hi c => by rw [flt_er hml hq c]; exact hf i hi c) (fun x hx => ?_) (fun M' R' g' o' p' r' P' => h M' R' (g8.trans g') (fun i c1 c2 c3 c4 => (o' i c1 c2 c3 c4).trans (o8 i c1 c2 c3 c4)) (p'.trans p8) r' P')
      rw [List.eraseIdx_eq_take_drop_succ, List.drop_append, List.length_take] at hx
      rw [show m - min m R.length = 0 by omega, List.drop_zero] at hx
      rcases List.mem_append.mp hx with c | c
      · rw [List.drop_take, show m - m = 0 by omega] at c
        cases c
      · exact hd x c
theorem m_cancel {K : Rs → Mm → Prop} {A : Nat → Nat} {M : Mm} {S : St} {B k : Int} (h : RM A M S) (hP : SP S B) (bk : -2147483648 ≤ k ∧ k ≤ 2147483647) (h1 : ¬ usd S k → ∀ M', FM A M M' → RM A M' S → mI M' (A 11) 0 = 1 → K (.inl (some (.int 0))) M') (h3 : ∀ (j : Nat) M', k = j → j < 12 → cfU (stC S) j = true → FM A M M' → RM A M' (caS S j) → mI M' (A 11) 0 = 0 → K (.inl (some (.int (i32 (cUs (cfSU (stC S) j false) 12 : Nat))))) M') : V_X7_cancel K M (A 11) (i32 k) := by
  unfold V_X7_cancel
  refine ⟨h.sta.2.2.2.2.1.1, fun M3 e3 => ?_⟩
  obtain ⟨r, f, c⟩ := h.w0 0
  rw [← e3] at r f c
  have hs := r.sta
  have n : ∀ {i j : Nat}, i ≠ j → A i ≠ A j := fun h => hs.ne h
  have md := hs.2.2.2.2.1
  have p26 := md.p 26 11 12 (by decide)
  refine s7_none r bk (fun q => kI_i ⟨fun c => absurd c (by decide), fun _ => ⟨md.1, s7_wrong r (fun M' f' r' c' => kI_i (h1 q M' (f.trans f') r' c'))⟩⟩) (fun j ej hj hu => kI_i ⟨fun _ => ?_, fun c => absurd rfl c⟩)
  subst ej
  obtain ⟨R, dm⟩ := r.1.2.1
  have hR96 := dm.2.2.1.len hP.2.2.2.1.1
  refine ⟨md.1, A 226, p26.1, p26.2.1, by show vp_in _ (mN M3 (A (200 + 26))); rw [p26.2.2.1]; exact i32_in (by omega) (by omega) (by omega), fun M9 e9 x10 e10 => ?_⟩
  rw [i32_clamp (by omega) (by omega), Int.toNat_natCast, nar_0, sI_w] at e9
  have s9 : Sta A M9 := by rw [e9]; exact hs.congr rfl rfl rfl rfl
  have r9 : ∀ i, i ≠ 226 → mI M9 (A i) = mI M3 (A i) := fun i c => by rw [e9, mI_wn _ _ (n c)]
  have rm9 : RuM (mI M9 (A 11) 45) (mI M9 (A 246)) (mI M9 (A 247)) (mI M9 (A 248)) R := by
    rw [r9 11 (by decide), r9 246 (by decide), r9 247 (by decide), r9 248 (by decide)]; exact dm.2.1
  rw [rm9.1, q_1, i32_sub] at e10
  rw [e10]
  refine ⟨R.length + 1, s7_c33 (f := dR (stD S)) hj R.length M9 R s9 (Nat.le_refl _) hR96 rm9 dm.2.2.1.1 (fun i hi _ => dm.2.2.1.2 i hi) (fun q hq => by rw [List.drop_length] at hq; cases hq) (fun M' R' g' o' p' r' P' => ?_)⟩
  have hU : ∀ i, cfU (cfSU (stC S) j false) i = true → i ≠ j ∧ cfU (stC S) i = true := fun i hk => by
    have hk' : va_up (cfU (stC S)) j false i = true := hk
    by_cases c : i = j
    · subst c; rw [va_up_self] at hk'; exact absurd hk' (by decide)
    · rw [va_up_ne _ _ c] at hk'; exact ⟨c, hk'⟩
  have s' := g'.sta s9
  have ro : ∀ i, i ≠ 226 → i ≠ 11 → i ≠ 246 → i ≠ 247 → i ≠ 248 → mI M' (A i) = mI M3 (A i) := fun i c0 c1 c2 c3 c4 => (o' i c1 c2 c3 c4).trans (r9 i c0)
  have ro2 : ∀ i, 200 ≤ i → i < 242 → i ≠ 226 → mI M' (A i) = mI M3 (A i) := fun i c1 c2 c3 => ro i c3 (by omega) (by omega) (by omega) (by omega)
  have po : ∀ p, p ≠ 45 → mI M' (A 11) p = mI M3 (A 11) p := fun p c1 => by
    by_cases c2 : p = 55
    · rw [c2, p', r9 11 (by decide)]
    · rw [g'.2.2.2.2.2.2 p c1 c2, r9 11 (by decide)]
  have u' : ∀ i, i < 12 → mI M' (A 226) i = bI (cfU (cfSU (stC S) j false) i) := fun i hi => by
    rw [o' 226 (by decide) (by decide) (by decide) (by decide), e9, mI_w]
    show _ = bI (va_up (cfU (stC S)) j false i)
    by_cases q : i = j
    · subst q; rw [va_up_self, va_up_self]; rfl
    · rw [va_up_ne _ _ q, va_up_ne _ _ q]; exact (r.1.2.2.2.2 i hi).1
  have eJ : mJ M' = mJ M3 := by rw [g'.2.2.2.1, e9]; rfl
  have mz : ∀ z, z < 4 → MoZ M' (fun p => A (200 + p)) z (cfO (stC S) z) := fun z hz => by
    have := r.2.2.1 z hz
    unfold MoZ at *
    show (mI M' (A 202) _ = _ ∧ mI M' (A 201) _ = _ ∧ ∀ j, 1 ≤ j → j ≤ zN (cfO (stC S) z) → mI M' (A 203) _ = _ ∧ mI M' (A 204) _ = _)
    rw [ro2 202 (by decide) (by decide) (by decide), ro2 201 (by decide) (by decide) (by decide), ro2 203 (by decide) (by decide) (by decide), ro2 204 (by decide) (by decide) (by decide)]
    exact this
  have w' : MW A M' (cfSU (stC S) j false) (dkC0 (stD S) j) (stN S) := by
    refine ⟨s', ⟨R', ?_, r', P', fun i hi => ?_⟩, fun i hi => by rw [ro2 230 (by decide) (by decide) (by decide), ro2 231 (by decide) (by decide) (by decide)]; exact r.1.2.2.1 i hi, by rw [po 52 (by decide)]; exact r.1.2.2.2.1, fun i hi => ⟨u' i hi, fun hui => ?_⟩⟩
    · rw [po 55 (by decide), ro 256 (by decide) (by decide) (by decide) (by decide) (by decide), ro 257 (by decide) (by decide) (by decide) (by decide) (by decide), ro 258 (by decide) (by decide) (by decide) (by decide) (by decide), ro 259 (by decide) (by decide) (by decide) (by decide) (by decide)]; exact dm.1
    · obtain ⟨b1, b2, b3⟩ := dm.2.2.2 i hi
      rw [ro 244 (by decide) (by decide) (by decide) (by decide) (by decide), ro 242 (by decide) (by decide) (by decide) (by decide) (by decide), ro 243 (by decide) (by decide) (by decide) (by decide) (by decide)]
      refine ⟨fun hui => ?_, b2, b3⟩
      show _ = i32 (wN (va_up (dW (stD S)) j none i))
      rw [va_up_ne _ _ (hU i hui).1]
      exact b1 (hU i hui).2
    · obtain ⟨g1, g2, g3, g4, g5, g6, g7, g8⟩ := r.om hi (hU i hui).2
      refine ⟨s'.2.2.2.2.1, g2, ?_, g4, by show mI M' (A 227) i = _; rw [ro2 227 (by decide) (by decide) (by decide)]; exact g5, mz _ g4, g7, g8⟩
      unfold MoR at *
      rw [eJ]
      show (_ ∧ (∃ t : Bool, mI M' (A 234) i = bI (!t) ∧ ∀ y : Int, 1899 ≤ y → y ≤ 2200 → rY (cfR (stC S) i) y = (!t || (decide (1900 ≤ y ∧ y ≤ 2199) && decide (¬ mI M' (A 233) (300 * i + (y - 1900).toNat) = 0)))) ∧ mI M' (A 240) i = _ ∧ mI M' (A 241) i = _ ∧ _ ∧ mI M' (A 236) i = _ ∧ _)
      rw [ro2 234 (by decide) (by decide) (by decide), ro2 233 (by decide) (by decide) (by decide), ro2 240 (by decide) (by decide) (by decide), ro2 241 (by decide) (by decide) (by decide), ro2 236 (by decide) (by decide) (by decide)]
      exact g3
  have rm : RM A M' (caS S j) := by
    obtain ⟨_, h2, _, h4, h5, h6, h7, h8⟩ := r
    exact ⟨w', fun i hi hui => by rw [ro2 228 (by decide) (by decide) (by decide), ro2 229 (by decide) (by decide) (by decide)]; exact h2 i hi (hU i hui).2, mz, by rw [po 54 (by decide)]; exact h4, by rw [po 53 (by decide)]; exact h5, by rw [po 11 (by decide)]; exact h6, fun i hi => by rw [ro2 210 (by decide) (by decide) (by decide)]; exact h7 i hi, by rw [po 15 (by decide)]; exact h8⟩
  have fm : FM A M3 M' := ⟨⟨by rw [g'.1, e9]; rfl, by rw [g'.2.1, e9]; rfl, by rw [g'.2.2.1, e9]; rfl, by rw [g'.2.2.2.2.1, e9]; rfl, fun i c1 c2 => ro i (by omega) c1 (by omega) (by omega) (by omega), fun i _ _ => by rw [eJ]⟩, by rw [eJ]⟩
  exact s7_ords s' u' (kI_i (h3 j M' rfl hj hu (f.trans fm) rm (by rw [po 0 (by decide)]; exact c)))
theorem l_cancel {G : Gx} {K : Rs → Mm → Prop} {B23 : Mm → Nat → Nat → Nat → Int32 → Prop} {A : Nat → Nat} {M : Mm} {S : St} {B : Int} {l4 : Int32} (hR : RG A M S B) (hv : Vi G l4) (nxt : ∀ M' S', RC A M' S' → RM A M' S' → SP S' (B + 1300000) → B23 M' (A 0) (A 11) (A 12) (l4 + 7)) : V_L_law_687 G K B23 M (A 0) (A 11) (A 12) l4 := by
  obtain ⟨k, ek, bk⟩ := i32_of (gX G ((l4 + (1 : Int32))).toNatClampNeg)
  obtain ⟨hC, hM, hP, _⟩ := hR
  obtain ⟨v1, v2, v3, v4, v5, v6⟩ := hv
  unfold V_L_law_687 V_L_cancel
  rw [ek]
  refine ⟨v1, hC.sta.2.1.1, c_cancel hC bk (fun q => kI_x ⟨rfl, kI_i ⟨v1, hC.sta.2.2.2.2.1.1, ?_⟩⟩) (fun j M' ej hj hu f r => kI_i (outK r.sta (kI_i ?_)))⟩
  · exact m_cancel hM hP bk (fun _ M' f r c => kI_i (tail r.sta c (fun c => absurd c (by decide)) (nx7 nxt (hC.fr f.1) r hP))) (fun j M' ej hj hu => absurd (usd_j ej hj hu) q)
  · obtain ⟨hM', hC', ho⟩ := RG.out hM f r (i32 (cUs (cfSU (stC S) j false) 12 : Nat)).toInt64
    refine ⟨v1, hC'.sta.2.2.2.2.1.1, m_cancel hM' hP bk (fun u => absurd (usd_j ej hj hu) u) (fun j' M2 ej' hj' hu' f2 r2 c2 => ?_)⟩
    have e : j' = j := by omega
    subst e
    exact kI_i (tail r2.sta c2 (fun _ => by rw [f2.2, ho]) (nx7 nxt (hC'.fr f2.1) r2 (caS_sp hP)))
