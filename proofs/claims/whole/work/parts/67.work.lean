/-! minutes that pass, without a machine -/
/-- orders: used, zone, rule, zones, right days, takes, overlap -/
abbrev Cf : Type := (Nat → Bool) × (Nat → Nat) × (Nat → Ru) × (Nat → Zo) × (Nat → Int → Bool) × (Nat → Int) × (Nat → Int)
def cfU (c : Cf) : Nat → Bool := c.1
def cfZ (c : Cf) : Nat → Nat := c.2.1
def cfR (c : Cf) : Nat → Ru := c.2.2.1
def cfO (c : Cf) : Nat → Zo := c.2.2.2.1
def cfB (c : Cf) : Nat → Int → Bool := c.2.2.2.2.1
def cfT (c : Cf) : Nat → Int := c.2.2.2.2.2.1
def cfV (c : Cf) : Nat → Int := c.2.2.2.2.2.2
def mmC (c : Cf) (k : Nat) (t : Int) : Bool := mt (cfB c k) (cfR c k) (cfO c (cfZ c k)) t
def duesF (c : Cf) (t : Int) : Nat → Nat → Dk → Dk
  | 0, _, D => D
  | n + 1, k, D => duesF c t n (k + 1) (if cfU c k = true ∧ mmC c k t = true then dkDue (cfT c) (cfV c) t k t D else D)
/-- one minute -/
def mstep (c : Cf) (t : Int) (D : Dk) : Dk := duesF c t 12 0 (endF (cfT c) t 108 D)
def pss (c : Cf) : Nat → Int → Dk → Dk
  | 0, _, D => D
  | n + 1, now, D => pss c n (now + 1) (mstep c (now + 1) D)
theorem Iv.mono {now t : Int} {us : Nat → Bool} {tk : Nat → Int} {D : Dk} (h : Iv now us tk D) (hle : now ≤ t) : Iv t us tk D := ⟨h.1, h.2.1, h.2.2.1, h.2.2.2.1, fun k hk q hq => by have := h.2.2.2.2.1 k hk q hq; omega, h.2.2.2.2.2⟩
theorem Iv.du {now ma : Int} {us : Nat → Bool} {tk ov : Nat → Int} {D : Dk} {k : Nat} (h : Iv now us tk D) (ht : tkOk tk) (hk : k < 12) (hu : us k = true) (hn : 0 ≤ now) (hm : 0 ≤ ma ∧ ma ≤ 2000000000) : Iv now us tk (dkDue tk ov now k ma D) ∧ dC D ≤ dC (dkDue tk ov now k ma D) ∧ dC (dkDue tk ov now k ma D) ≤ dC D + 1 := by
  unfold dkDue
  split
  · rename_i q
    refine ⟨h.bg hk hu ?_ ⟨hn, Int.le_refl _⟩ ht (fun q hq => (h.2.2.2.2.1 k hk q hq).2), ?_⟩
    · unfold mayB at q; rw [decide_eq_true_iff] at q; omega
    · show dC D ≤ dC D + 1 ∧ dC D + 1 ≤ dC D + 1; omega
  · split
    · exact ⟨(h.wt hk (fun v hv => by have := Option.some.inj hv; subst this; exact ⟨hm, hu⟩)).ln, by show dC D ≤ dC D + 1 ∧ dC D + 1 ≤ dC D + 1; omega⟩
    · refine ⟨Iv.ln (D := dkX D k) ⟨h.1, h.2.1, h.2.2.1, h.2.2.2.1, h.2.2.2.2.1, h.2.2.2.2.2⟩, by show dC D ≤ dC D + 1 ∧ dC D + 1 ≤ dC D + 1; omega⟩
theorem dues_iv {c : Cf} {t : Int} (ht : tkOk (cfT c)) (htb : 0 ≤ t ∧ t ≤ 157785119) : ∀ (n k : Nat) (D : Dk), k + n ≤ 12 → Iv t (cfU c) (cfT c) D → Iv t (cfU c) (cfT c) (duesF c t n k D) ∧ dC D ≤ dC (duesF c t n k D) ∧ dC (duesF c t n k D) ≤ dC D + n
  | 0, k, D, hk, h => ⟨h, Int.le_refl _, by show dC D ≤ dC D + 0; omega⟩
  | n + 1, k, D, hk, h => by
    unfold duesF
    by_cases q : cfU c k = true ∧ mmC c k t = true
    · rw [if_pos q]
      have h1 := h.du (ma := t) (ov := cfV c) ht (k := k) (by omega) q.1 htb.1 (by omega)
      have h2 := dues_iv ht htb n (k + 1) _ (by omega) h1.1
      exact ⟨h2.1, by omega, by omega⟩
    · rw [if_neg q]
      have h2 := dues_iv ht htb n (k + 1) D (by omega) h
      exact ⟨h2.1, by omega, by omega⟩
theorem mstep_iv {c : Cf} {t : Int} {D : Dk} (ht : tkOk (cfT c)) (htb : 0 ≤ t ∧ t ≤ 157785119) (h : Iv t (cfU c) (cfT c) D) : Iv t (cfU c) (cfT c) (mstep c t D) ∧ dC D ≤ dC (mstep c t D) ∧ dC (mstep c t D) ≤ dC D + 228 := by
  have h1 := endF_iv ht (Int.le_refl t) 108 D h
  have h2 := dues_iv ht htb 12 0 _ (by omega) h1.1
  unfold mstep
  exact ⟨h2.1, by omega, by omega⟩
theorem dues_none {c : Cf} {t : Int} : ∀ (n k : Nat) (D : Dk), (∀ j, k ≤ j → j < k + n → ¬ (cfU c j = true ∧ mmC c j t = true)) → duesF c t n k D = D
  | 0, _, _, _ => rfl
  | n + 1, k, D, h => by
    unfold duesF
    rw [if_neg (h k (Nat.le_refl _) (by omega))]
    exact dues_none n (k + 1) D (fun j h1 h2 => h j (by omega) (by omega))
/-- minutes at which nothing is due -/
theorem pss_skip {c : Cf} (ht : tkOk (cfT c)) : ∀ (n : Nat) (now : Int) (D : Dk), 0 ≤ now → now + n + 1 ≤ 157785119 → Iv now (cfU c) (cfT c) D → (∀ t j, now < t → t ≤ now + n → j < 12 → ¬ (cfU c j = true ∧ mmC c j t = true)) → pss c (n + 1) now D = mstep c (now + n + 1) D
  | 0, now, D, hn, hb, hI, h => by
    show mstep c (now + 1) D = _
    congr 1; omega
  | n + 1, now, D, hn, hb, hI, h => by
    have e1 : pss c (n + 1 + 1) now D = pss c (n + 1) (now + 1) (mstep c (now + 1) D) := rfl
    have e2 : mstep c (now + 1) D = endF (cfT c) (now + 1) 108 D := by
      unfold mstep
      exact dues_none 12 0 _ (fun j _ hj => h (now + 1) j (by omega) (by omega) (by omega))
    have hI' := hI.mono (t := now + 1) (by omega)
    have hE := endF_iv ht (Int.le_refl (now + 1)) 108 D hI'
    rw [e1, e2, pss_skip ht n (now + 1) _ (by omega) (by omega) hE.1 (fun t j h1 h2 h3 => h t j (by omega) (by omega) h3)]
    unfold mstep
    rw [show now + 1 + (n : Int) + 1 = now + ((n + 1 : Nat) : Int) + 1 by omega]
    rw [endF_endF (by omega) 108 D (mu_le hI)]
theorem pss_add (c : Cf) : ∀ (a b : Nat) (now : Int) (D : Dk), pss c (a + b) now D = pss c b (now + a) (pss c a now D)
  | 0, b, now, D => by simp [pss]
  | a + 1, b, now, D => by
    rw [show a + 1 + b = (a + b) + 1 by omega]
    show pss c (a + b) (now + 1) (mstep c (now + 1) D) = _
    rw [pss_add c a b]
    show _ = pss c b _ (pss c a (now + 1) (mstep c (now + 1) D))
    congr 1
    omega
/-! the class at work -/
def wx (j : Nat) : Bool := dkx j || decide (j = 0 ∨ (40 ≤ j ∧ j < 160 ∧ (j % 10 = 1 ∨ j % 10 = 2)))
def Fw (A : Nat → Nat) (M M' : Mm) : Prop := mL M' = mL M ∧ mK M' = mK M ∧ mN M' = mN M ∧ mJ M' = mJ M ∧ mP M' = mP M ∧ (∀ i, wx i = false → mI M' (A i) = mI M (A i)) ∧ (∀ k p, k < 12 → p ≠ 11 → p ≠ 12 → mI M' (A (41 + 10 * k)) p = mI M (A (41 + 10 * k)) p) ∧ (∀ k p, k < 12 → ¬ (11 ≤ p ∧ p ≤ 16) → mI M' (A (40 + 10 * k)) p = mI M (A (40 + 10 * k)) p) ∧ (∀ p, p ≠ 6 → mI M' (A 0) p = mI M (A 0) p)
theorem Fw.refl (A : Nat → Nat) (M : Mm) : Fw A M M := ⟨rfl, rfl, rfl, rfl, rfl, fun _ _ => rfl, fun _ _ _ _ _ => rfl, fun _ _ _ _ => rfl, fun _ _ => rfl⟩
theorem Fw.trans {A : Nat → Nat} {M M1 M2 : Mm} (h : Fw A M M1) (h' : Fw A M1 M2) : Fw A M M2 := by
  obtain ⟨a1, a2, a3, a4, a5, a6, a7, a8, a9⟩ := h
  obtain ⟨b1, b2, b3, b4, b5, b6, b7, b8, b9⟩ := h'
  exact ⟨b1.trans a1, b2.trans a2, b3.trans a3, b4.trans a4, b5.trans a5, fun i hi => (b6 i hi).trans (a6 i hi), fun k p c1 c2 c3 => (b7 k p c1 c2 c3).trans (a7 k p c1 c2 c3), fun k p c1 c2 => (b8 k p c1 c2).trans (a8 k p c1 c2), fun p c => (b9 p c).trans (a9 p c)⟩
theorem Fw.sta {A : Nat → Nat} {M M' : Mm} (h : Fw A M M') (hs : Sta A M) : Sta A M' := hs.congr h.1 h.2.1 h.2.2.1 h.2.2.2.2.1
theorem Dr.fw {A : Nat → Nat} {M M' : Mm} (h : Dr A M M') (hs : Sta A M) : Fw A M M' := by
  refine ⟨h.1, h.2.1, h.2.2.1, h.2.2.2.1, h.2.2.2.2.1, fun i hi => h.row hs (by unfold wx at hi; rw [Bool.or_eq_false_iff] at hi; exact hi.1), fun k p hk c1 c2 => ?_, fun k p hk hp => h.2.2.2.2.2.2 k p hk (by omega), fun p c => ?_⟩
  · rw [h.row hs (by unfold dkx; rw [decide_eq_false_iff_not]; omega)]
  · rw [h.row hs (by decide)]
theorem Sc.fw {A : Nat → Nat} {M M' : Mm} {k : Nat} (h : Sc (A (41 + 10 * k)) (A (42 + 10 * k)) M M') (hs : Sta A M) (hk : k < 12) : Fw A M M' := by
  obtain ⟨h1, h2, h3, h4, h5, h6, h7⟩ := h
  have r : ∀ i, i ≠ 41 + 10 * k → i ≠ 42 + 10 * k → mI M' (A i) = mI M (A i) := fun i c1 c2 => h6 _ (hs.ne c1) (hs.ne c2)
  refine ⟨h1, h2, h3, h4, h5, fun i hi => ?_, fun j p hj c1 c2 => ?_, fun j p hj hp => ?_, fun p c => ?_⟩
  · unfold wx at hi
    rw [Bool.or_eq_false_iff, decide_eq_false_iff_not] at hi
    exact r i (by omega) (by omega)
  · by_cases q : j = k
    · subst q; exact h7 p c1 c2
    · rw [r _ (by omega) (by omega)]
  · rw [r _ (by omega) (by omega)]
  · rw [r _ (by omega) (by omega)]
theorem Sc.dk {A : Nat → Nat} {M M' : Mm} {k : Nat} {tk : Nat → Int} {D : Dk} (h : Sc (A (41 + 10 * k)) (A (42 + 10 * k)) M M') (hs : Sta A M) (hD : DkC A M tk D) : DkC A M' tk D := by
  obtain ⟨h1, h2, h3, h4, h5, h6, h7⟩ := h
  have r : ∀ i, i ≠ 41 + 10 * k → i ≠ 42 + 10 * k → mI M' (A i) = mI M (A i) := fun i c1 c2 => h6 _ (hs.ne c1) (hs.ne c2)
  refine ⟨?_, fun j hj => ?_⟩
  · rw [r 6 (by omega) (by omega), r 7 (by omega) (by omega), r 8 (by omega) (by omega), r 9 (by omega) (by omega), r 10 (by omega) (by omega)]; exact hD.1
  · rw [r _ (by omega) (by omega), r _ (by omega) (by omega), r _ (by omega) (by omega)]; exact hD.2 j hj
def OC (A : Nat → Nat) (M : Mm) (c : Cf) : Prop := ∀ k, k < 12 → mI M (A (40 + 10 * k)) 4 = bI (cfU c k) ∧ (cfU c k = true → cfZ c k < 4 ∧ Od M (A (40 + 10 * k)) (A (41 + 10 * k)) (A (42 + 10 * k)) (A (43 + 10 * k)) (A (44 + 10 * k)) (A (20 + 3 * cfZ c k)) (A (21 + 3 * cfZ c k)) (A (22 + 3 * cfZ c k)) (cfR c k) (cfO c (cfZ c k)) (cfB c k))
/-- the class's orders stay what they are -/
theorem Fw.oc {A : Nat → Nat} {M M' : Mm} {c : Cf} (h : Fw A M M') (hs : Sta A M) (ho : OC A M c) (hkn : ∀ k, k < 12 → cfU c k = true → Kn (cfR c k) (mI M' (A (41 + 10 * k)))) : OC A M' c := fun k hk => by
  obtain ⟨o1, o2⟩ := ho k hk
  refine ⟨by rw [h.2.2.2.2.2.2.2.1 k 4 hk (by omega)]; exact o1, fun hu => ?_⟩
  obtain ⟨hz, d1, d2, d3, ⟨d4, d4v⟩, d5, ⟨z1, z2, z3, z4, z5, z6, z7, z8, z9, z10⟩, d7, d8, d9, d10⟩ := o2 hu
  obtain ⟨e1, e2, e3, e4, e5, e6, e7, e8, e9⟩ := h
  have ob' : ∀ a q, ob M a q → ob M' a q := fun a q h => by unfold ob at *; rw [e1, e2]; exact h
  have rz : ∀ i, 20 ≤ i → i < 32 → mI M' (A i) = mI M (A i) := fun i c1 c2 => e6 i (by unfold wx dkx; rw [Bool.or_eq_false_iff, decide_eq_false_iff_not, decide_eq_false_iff_not]; omega)
  refine ⟨hz, ob' _ _ d1, by rw [e5]; exact d2, by rw [e5]; exact d3, ⟨d4.congr e1 e2 e3 e5, ?_⟩, hkn k hk hu, ⟨ob' _ _ z1, ob' _ _ z2, ob' _ _ z3, by rw [e5]; exact z4, by rw [e5]; exact z5, by rw [e3]; exact z6, by rw [e3]; exact z7, by rw [rz _ (by omega) (by omega)]; exact z8, by rw [rz _ (by omega) (by omega)]; exact z9, by rw [rz _ (by omega) (by omega)]; exact z10⟩, d7, d8, d9, d10⟩
  rw [e4]
  exact d4v.congr (fun p c1 c2 => e7 k p hk c1 c2)
theorem OC.kn {A : Nat → Nat} {M : Mm} {c : Cf} (h : OC A M c) : ∀ k, k < 12 → cfU c k = true → Kn (cfR c k) (mI M (A (41 + 10 * k))) := fun k hk hu => ((h k hk).2 hu).2.2.2.2.2.1
/-- the class at work: its desk, its orders, its clock -/
def CW (A : Nat → Nat) (M : Mm) (c : Cf) (D : Dk) (now : Int) : Prop := Sta A M ∧ DkC A M (cfT c) D ∧ OvC A M (cfT c) (cfV c) ∧ mI M (A 0) 6 = i32 now ∧ OC A M c
theorem CW.dr {A : Nat → Nat} {M M' : Mm} {c : Cf} {D D' : Dk} {now : Int} (h : CW A M c D now) (g : Dr A M M') (hD : DkC A M' (cfT c) D') : CW A M' c D' now ∧ Fw A M M' := by
  obtain ⟨h1, h2, h3, h4, h5⟩ := h
  have f := g.fw h1
  refine ⟨⟨g.sta h1, hD, g.ov h3, by rw [g.row h1 (i := 0) (by decide)]; exact h4, f.oc h1 h5 (fun k hk hu => ?_)⟩, f⟩
  rw [g.row h1 (by unfold dkx; rw [decide_eq_false_iff_not]; omega)]
  exact h5.kn k hk hu
theorem CW.sc {A : Nat → Nat} {M M' : Mm} {c : Cf} {D : Dk} {now : Int} {k : Nat} (h : CW A M c D now) (hk : k < 12) (g : Sc (A (41 + 10 * k)) (A (42 + 10 * k)) M M') (hkn : Kn (cfR c k) (mI M' (A (41 + 10 * k)))) : CW A M' c D now ∧ Fw A M M' := by
  obtain ⟨h1, h2, h3, h4, h5⟩ := h
  have f := g.fw h1 hk
  have r : ∀ i, i ≠ 41 + 10 * k → i ≠ 42 + 10 * k → mI M' (A i) = mI M (A i) := fun i c1 c2 => g.2.2.2.2.2.1 _ (h1.ne c1) (h1.ne c2)
  refine ⟨⟨f.sta h1, g.dk h1 h2, fun j hj => ?_, by rw [r 0 (by omega) (by omega)]; exact h4, f.oc h1 h5 (fun j hj hu => ?_)⟩, f⟩
  · rw [r _ (by omega) (by omega)]; exact h3 j hj
  · by_cases q : j = k
    · subst q; exact hkn
    · rw [r _ (by omega) (by omega)]; exact h5.kn j hj hu
theorem CW.w16 {A : Nat → Nat} {M : Mm} {c : Cf} {D : Dk} {now : Int} {k : Nat} (h : CW A M c D now) (hk : k < 12) (v : Int32) : CW A (sI M (A (40 + 10 * k)) 16 v) c D now ∧ Fw A M (sI M (A (40 + 10 * k)) 16 v) := by
  obtain ⟨h1, h2, h3, h4, h5⟩ := h
  have n : ∀ {i j : Nat}, i ≠ j → A i ≠ A j := fun h => h1.ne h
  have r : ∀ i, i ≠ 40 + 10 * k → mI (sI M (A (40 + 10 * k)) 16 v) (A i) = mI M (A i) := fun i c => by rw [sI_w, mI_wn _ _ (n c)]
  have r4 : ∀ j p, p ≠ 16 → mI (sI M (A (40 + 10 * k)) 16 v) (A (40 + 10 * j)) p = mI M (A (40 + 10 * j)) p := fun j p hp => by
    by_cases c : j = k
    · subst c; rw [sI_w, mI_w, va_up_ne _ _ hp]
    · rw [r _ (by omega)]
  have f : Fw A M (sI M (A (40 + 10 * k)) 16 v) := ⟨rfl, rfl, rfl, rfl, rfl, fun i hi => r i (fun c => by
    subst c
    unfold wx dkx at hi
    rw [Bool.or_eq_false_iff, decide_eq_false_iff_not, decide_eq_false_iff_not] at hi
    omega), fun j p hj _ _ => by rw [r _ (by omega)], fun j p hj hp => r4 j p (by omega), fun p _ => by rw [r 0 (by omega)]⟩
  refine ⟨⟨f.sta h1, ⟨?_, fun j hj => ?_⟩, fun j hj => ?_, by rw [r 0 (by omega)]; exact h4, f.oc h1 h5 (fun j hj hu => by rw [r _ (by omega)]; exact h5.kn j hj hu)⟩, f⟩
  · rw [r 6 (by omega), r 7 (by omega), r 8 (by omega), r 9 (by omega), r 10 (by omega)]; exact h2.1
  · rw [r _ (show 45 + 10 * j ≠ 40 + 10 * k by omega), r _ (show 46 + 10 * j ≠ 40 + 10 * k by omega)]
    obtain ⟨a1, a2, a3, a4, a5, a6, a7⟩ := h2.2 j hj
    exact ⟨by rw [r4 j 11 (by decide)]; exact a1, a2, a3, by rw [r4 j 12 (by decide)]; exact a4, fun w hw => by rw [r4 j 13 (by decide)]; exact a5 w hw, by rw [r4 j 14 (by decide)]; exact a6, by rw [r4 j 15 (by decide)]; exact a7⟩
  · rw [r4 j 0 (by decide), r4 j 9 (by decide), r4 j 10 (by decide)]; exact h3 j hj
theorem CW.clk {A : Nat → Nat} {M : Mm} {c : Cf} {D : Dk} {now t : Int} (h : CW A M c D now) : CW A (sI M (A 0) 6 (i32 t)) c D t ∧ Fw A M (sI M (A 0) 6 (i32 t)) := by
  obtain ⟨h1, h2, h3, h4, h5⟩ := h
  have n : ∀ {i j : Nat}, i ≠ j → A i ≠ A j := fun h => h1.ne h
  have r : ∀ i, i ≠ 0 → mI (sI M (A 0) 6 (i32 t)) (A i) = mI M (A i) := fun i c => by rw [sI_w, mI_wn _ _ (n c)]
  have f : Fw A M (sI M (A 0) 6 (i32 t)) := ⟨rfl, rfl, rfl, rfl, rfl, fun i hi => r i (fun c => by subst c; exact absurd hi (by decide)), fun j p hj _ _ => by rw [r _ (by omega)], fun j p hj hp => by rw [r _ (by omega)], fun p hp => by rw [sI_w, mI_w, va_up_ne _ _ hp]⟩
  refine ⟨⟨f.sta h1, ⟨?_, fun j hj => ?_⟩, fun j hj => ?_, by rw [sI_w, mI_w, va_up_self], f.oc h1 h5 (fun j hj hu => by rw [r _ (by omega)]; exact h5.kn j hj hu)⟩, f⟩
  · rw [r 6 (by omega), r 7 (by omega), r 8 (by omega), r 9 (by omega), r 10 (by omega)]; exact h2.1
  · rw [r _ (by omega), r _ (by omega), r _ (by omega)]; exact h2.2 j hj
  · rw [r _ (by omega)]; exact h3 j hj
