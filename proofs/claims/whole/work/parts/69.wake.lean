/-! what a desk makes up for, without a machine -/
def mAll (tk ov : Nat → Int) (now : Int) (mm : Int → Bool) (k : Nat) : Nat → Int → Dk → Dk
  | 0, _, D => D
  | n + 1, f, D => mAll tk ov now mm k n (f + 1) (if mm f = true then dkDue tk ov now k f D else D)
def gF (mm : Int → Bool) : Nat → Int → Int
  | 0, _ => -1
  | n + 1, f => if mm (f + n) = true then f + n else gF mm n f
theorem gF_gs (mm : Int → Bool) (f : Int) : ∀ n : Nat, Gs mm f (f + n - 1) (-1) (gF mm n f)
  | 0 => .inl ⟨rfl, fun n h1 h2 => by omega⟩
  | n + 1 => by
    unfold gF
    by_cases q : mm (f + n) = true
    · rw [if_pos q]
      exact .inr ⟨by omega, by omega, q, fun m h1 h2 => by omega⟩
    · rw [if_neg q]
      have q' : mm (f + n) = false := by rcases h : mm (f + n) with _ | _; rfl; exact absurd h q
      rcases gF_gs mm f n with ⟨a1, a2⟩ | ⟨a1, a2, a3, a4⟩
      · refine .inl ⟨a1, fun m h1 h2 => ?_⟩
        by_cases c : m = f + n
        · rw [c]; exact q'
        · exact a2 m h1 (by omega)
      · refine .inr ⟨a1, by omega, a3, fun m h1 h2 => ?_⟩
        by_cases c : m = f + n
        · rw [c]; exact q'
        · exact a4 m h1 (by omega)
theorem mAll_none {tk ov : Nat → Int} {now : Int} {mm : Int → Bool} {k : Nat} : ∀ (n m : Nat) (f : Int) (D : Dk), (∀ t, f ≤ t → t < f + n → mm t = false) → mAll tk ov now mm k (n + m) f D = mAll tk ov now mm k m (f + n) D
  | 0, m, f, D, _ => by simp
  | n + 1, m, f, D, h => by
    rw [show n + 1 + m = (n + m) + 1 by omega]
    show mAll tk ov now mm k (n + m) (f + 1) (if mm f = true then dkDue tk ov now k f D else D) = _
    rw [if_neg (by rw [h f (by omega) (by omega)]; decide), mAll_none n m (f + 1) D (fun t h1 h2 => h t (by omega) (by omega))]
    congr 1
    omega
theorem mAll_iv {tk ov : Nat → Int} {us : Nat → Bool} {now : Int} {mm : Int → Bool} {k : Nat} (ht : tkOk tk) (hk : k < 12) (hu : us k = true) (hn : 0 ≤ now ∧ now ≤ 157785119) : ∀ (n : Nat) (f : Int) (D : Dk), 0 ≤ f → f + n ≤ 200000000 → Iv now us tk D → Iv now us tk (mAll tk ov now mm k n f D) ∧ dC D ≤ dC (mAll tk ov now mm k n f D) ∧ dC (mAll tk ov now mm k n f D) ≤ dC D + n
  | 0, f, D, _, _, h => ⟨h, Int.le_refl _, by show dC D ≤ dC D + 0; omega⟩
  | n + 1, f, D, hf, hb, h => by
    unfold mAll
    by_cases q : mm f = true
    · rw [if_pos q]
      have h1 := h.du (ma := f) (ov := ov) ht hk hu hn.1 (by omega)
      have h2 := mAll_iv (mm := mm) (ov := ov) ht hk hu hn n (f + 1) _ (by omega) (by omega) h1.1
      exact ⟨h2.1, by omega, by omega⟩
    · rw [if_neg q]
      have h2 := mAll_iv (mm := mm) (ov := ov) ht hk hu hn n (f + 1) D (by omega) (by omega) h
      exact ⟨h2.1, by omega, by omega⟩
theorem va_up_two {α : Type} (f : Nat → α) (k : Nat) (a b : α) : va_up (va_up f k a) k b = va_up f k b := by
  funext i
  by_cases c : i = k
  · subst c; rw [va_up_self, va_up_self]
  · rw [va_up_ne _ _ c, va_up_ne _ _ c, va_up_ne _ _ c]
theorem cI_s {p : Int → Bool} {f : Int} {n : Nat} : cI p f (f + (n + 1 : Nat) - 1) = (if p f = true then 1 else 0) + cI p (f + 1) (f + 1 + n - 1) := by
  rw [cI_add (m := f + 1) (by omega) (by omega), show f + ((n + 1 : Nat) : Int) - 1 = f + 1 + n - 1 by omega]
  congr 1
  unfold cI
  rw [show (f + 1 - 1 + 1 - f).toNat = 1 by omega]
  simp [cN]
/-- nothing may begin or wait, the log is full -/
theorem mAll_full {tk ov : Nat → Int} {now : Int} {mm : Int → Bool} {k : Nat} : ∀ (n : Nat) (f : Int) (D : Dk), mayB ov D k = false → mayW ov D k = false → 300 ≤ dC D → mAll tk ov now mm k n f D = (dR D, dW D, dB D, va_up (dD D) k (dD D k + i32 (cI mm f (f + n - 1) : Nat)), dC D + (cI mm f (f + n - 1) : Nat), dL D)
  | 0, f, D, h1, h2, h3 => by
    have e : cI mm f (f + (0 : Nat) - 1) = 0 := by
      unfold cI; rw [show (f + ((0 : Nat) : Int) - 1 + 1 - f).toNat = 0 by omega]; rfl
    rw [e]
    show D = _
    have e2 : va_up (dD D) k (dD D k + i32 ((0 : Nat) : Int)) = dD D := by
      funext i
      by_cases c : i = k
      · subst c; rw [va_up_self, show i32 ((0 : Nat) : Int) = 0 by decide, Int32.add_zero]
      · rw [va_up_ne _ _ c]
    rw [e2, show dC D + ((0 : Nat) : Int) = dC D by omega]
    rfl
  | n + 1, f, D, h1, h2, h3 => by
    unfold mAll
    rw [cI_s]
    by_cases q : mm f = true
    · rw [if_pos q, if_pos q]
      have e : dkDue tk ov now k f D = (dR D, dW D, dB D, va_up (dD D) k (dD D k + 1), dC D + 1, dL D) := by
        unfold dkDue
        rw [if_neg (by rw [h1]; decide), if_neg (by rw [h2]; decide)]
        unfold dkLn
        rw [if_neg (show ¬ dC (dkX D k) < 300 from fun c => by have : dC D < 300 := c; omega)]
        rfl
      rw [e, mAll_full n (f + 1) (dR D, dW D, dB D, va_up (dD D) k (dD D k + 1), dC D + 1, dL D) h1 h2 (show 300 ≤ dC D + 1 by omega)]
      show (dR D, dW D, dB D, va_up (va_up (dD D) k (dD D k + 1)) k (va_up (dD D) k (dD D k + 1) k + _), dC D + 1 + _, dL D) = _
      rw [va_up_two, va_up_self, Int32.add_assoc, show (1 : Int32) = i32 1 by decide, i32_add, show (1 : Int) + (cI mm (f + 1) (f + 1 + n - 1) : Nat) = ((1 + cI mm (f + 1) (f + 1 + n - 1) : Nat) : Int) by omega, show dC D + 1 + (cI mm (f + 1) (f + 1 + n - 1) : Nat) = dC D + ((1 + cI mm (f + 1) (f + 1 + n - 1) : Nat) : Int) by omega]
    · rw [if_neg q, if_neg q, mAll_full n (f + 1) D h1 h2 h3, Nat.zero_add]
def wkO (c : Cf) (wy gr : Nat → Int) (since now : Int) (k : Nat) (D : Dk) : Dk := if cfU c k = true then (if wy k = 1 then (if gF (mmC c k) (now + 1 - max (since + 1) (now - gr k)).toNat (max (since + 1) (now - gr k)) = -1 then D else dkDue (cfT c) (cfV c) now k (gF (mmC c k) (now + 1 - max (since + 1) (now - gr k)).toNat (max (since + 1) (now - gr k))) D) else if wy k = 2 then mAll (cfT c) (cfV c) now (mmC c k) k (now + 1 - max (since + 1) (now - gr k)).toNat (max (since + 1) (now - gr k)) D else D) else D
def wkF (c : Cf) (wy gr : Nat → Int) (since now : Int) : Nat → Nat → Dk → Dk
  | 0, _, D => D
  | n + 1, k, D => wkF c wy gr since now n (k + 1) (wkO c wy gr since now k D)
def wakeD (c : Cf) (wy gr : Nat → Int) (since now : Int) (D : Dk) : Dk := wkF c wy gr since now 12 0 (endF (cfT c) now 108 D)
def wgOk (c : Cf) (wy gr : Nat → Int) : Prop := ∀ k, k < 12 → cfU c k = true → (0 ≤ wy k ∧ wy k ≤ 2) ∧ (0 ≤ gr k ∧ gr k ≤ 100000)
theorem wkO_iv {c : Cf} {wy gr : Nat → Int} {since now : Int} {k : Nat} {D : Dk} (ht : tkOk (cfT c)) (hg : wgOk c wy gr) (hk : k < 12) (hn : 0 ≤ since ∧ since ≤ now ∧ now ≤ 157785119) (h : Iv now (cfU c) (cfT c) D) : Iv now (cfU c) (cfT c) (wkO c wy gr since now k D) ∧ dC D ≤ dC (wkO c wy gr since now k D) ∧ dC (wkO c wy gr since now k D) ≤ dC D + 100001 := by
  have same : Iv now (cfU c) (cfT c) D ∧ dC D ≤ dC D ∧ dC D ≤ dC D + 100001 := ⟨h, Int.le_refl _, by omega⟩
  unfold wkO
  by_cases hu : cfU c k = true
  · have hgk := hg k hk hu
    rw [if_pos hu]
    generalize hf : max (since + 1) (now - gr k) = f
    have hfb : 0 ≤ f ∧ f ≤ now + 1 ∧ now - f ≤ 100000 := by omega
    by_cases q : wy k = 1
    · rw [if_pos q]
      have hG := gF_gs (mmC c k) f (now + 1 - f).toNat
      generalize hv : gF (mmC c k) (now + 1 - f).toNat f = v at hG
      by_cases q2 : v = -1
      · rw [if_pos q2]; exact same
      · rw [if_neg q2]
        rcases hG with ⟨a1, _⟩ | ⟨a1, a2, _⟩
        · exact absurd a1 q2
        · have := h.du (ma := v) (ov := cfV c) ht hk hu (by omega) (by omega)
          exact ⟨this.1, this.2.1, by omega⟩
    · rw [if_neg q]
      by_cases q2 : wy k = 2
      · rw [if_pos q2]
        have := mAll_iv (mm := mmC c k) (ov := cfV c) ht hk hu ⟨by omega, hn.2.2⟩ (now + 1 - f).toNat f D hfb.1 (by omega) h
        exact ⟨this.1, this.2.1, by omega⟩
      · rw [if_neg q2]; exact same
  · rw [if_neg hu]; exact same
theorem wkF_iv {c : Cf} {wy gr : Nat → Int} {since now : Int} (ht : tkOk (cfT c)) (hg : wgOk c wy gr) (hn : 0 ≤ since ∧ since ≤ now ∧ now ≤ 157785119) : ∀ (n k : Nat) (D : Dk), k + n ≤ 12 → Iv now (cfU c) (cfT c) D → Iv now (cfU c) (cfT c) (wkF c wy gr since now n k D) ∧ dC D ≤ dC (wkF c wy gr since now n k D) ∧ dC (wkF c wy gr since now n k D) ≤ dC D + 100001 * n
  | 0, k, D, _, h => ⟨h, Int.le_refl _, by show dC D ≤ dC D + _; omega⟩
  | n + 1, k, D, hk, h => by
    unfold wkF
    have h1 := wkO_iv ht hg (k := k) (by omega) hn h
    have h2 := wkF_iv ht hg hn n (k + 1) _ (by omega) h1.1
    exact ⟨h2.1, by omega, by omega⟩
theorem wakeD_iv {c : Cf} {wy gr : Nat → Int} {since now : Int} {D : Dk} (ht : tkOk (cfT c)) (hg : wgOk c wy gr) (hn : 0 ≤ since ∧ since ≤ now ∧ now ≤ 157785119) (h : Iv now (cfU c) (cfT c) D) : Iv now (cfU c) (cfT c) (wakeD c wy gr since now D) ∧ dC D ≤ dC (wakeD c wy gr since now D) ∧ dC (wakeD c wy gr since now D) ≤ dC D + 1300000 := by
  have h1 := endF_iv ht (Int.le_refl now) 108 D h
  have h2 := wkF_iv ht hg hn 12 0 _ (by omega) h1.1
  unfold wakeD
  exact ⟨h2.1, by omega, by omega⟩
/-! the class -/
def WyC (A : Nat → Nat) (M : Mm) (c : Cf) (wy gr : Nat → Int) : Prop := ∀ k, k < 12 → cfU c k = true → mI M (A (40 + 10 * k)) 7 = i32 (wy k) ∧ mI M (A (40 + 10 * k)) 8 = i32 (gr k)
theorem Fw.wy {A : Nat → Nat} {M M' : Mm} {c : Cf} {wy gr : Nat → Int} (h : Fw A M M') (hw : WyC A M c wy gr) : WyC A M' c wy gr := fun k hk hu => by
  rw [h.2.2.2.2.2.2.2.1 k 7 hk (by omega), h.2.2.2.2.2.2.2.1 k 8 hk (by omega)]
  exact hw k hk hu
theorem s_fmd {K : Rs → Mm → Prop} {A : Nat → Nat} {M : Mm} {c : Cf} {D : Dk} {wy gr : Nat → Int} {since now : Int} {k : Nat} (hW : CW A M c D now) (hw : WyC A M c wy gr) (hg : wgOk c wy gr) (hk : k < 12) (hu : cfU c k = true) (hs7 : mI M (A 0) 7 = i32 since) (hn : 0 ≤ since ∧ since ≤ now ∧ now ≤ 157785119) (h : K (.inl (some (.int (i32 (max (since + 1) (now - gr k)))))) M) : V_X6_firstMissed K M (A 0) (A (40 + 10 * k)) := by
  have hgk := hg k hk hu
  unfold V_X6_firstMissed
  refine ⟨hW.1.2.1.1, (hW.1.2.2.2.1 k hk).1, ?_⟩
  rw [hs7, hW.2.2.2.1, (hw k hk hu).2, q_1, i32_add, i32_sub]
  exact s_max (by omega) (by omega) (kI_i h)
theorem s_mul {K : Rs → Mm → Prop} {A : Nat → Nat} {M : Mm} {c : Cf} {D : Dk} {wy gr : Nat → Int} {since now : Int} {k : Nat} (hW : CW A M c D now) (hI : Iv now (cfU c) (cfT c) D) (hc : dC D < 1900000000) (hw : WyC A M c wy gr) (hg : wgOk c wy gr) (hk : k < 12) (hu : cfU c k = true) (h1 : wy k = 1) (hs7 : mI M (A 0) 7 = i32 since) (hn : 0 ≤ since ∧ since ≤ now ∧ now ≤ 157785119)
    (h : ∀ M', Fw A M M' → CW A M' c (wkO c wy gr since now k D) now → K (.inl none) M') : V_X6_makeUpLatest K M (A 0) (A (40 + 10 * k)) := by
  have hgk := hg k hk hu
  unfold V_X6_makeUpLatest
  unfold wkO at h
  rw [if_pos hu, if_pos h1] at h
  refine ⟨hW.1.2.1.1, s_fmd hW hw hg hk hu hs7 hn (kI_i ⟨hW.1.2.1.1, (hW.1.2.2.2.1 k hk).1, ?_⟩)⟩
  generalize hf : max (since + 1) (now - gr k) = f at h ⊢
  have hG := gF_gs (mmC c k) f (now + 1 - f).toNat
  rw [show f + ((now + 1 - f).toNat : Int) - 1 = now by omega] at hG
  generalize hv : gF (mmC c k) (now + 1 - f).toNat f = v at hG h
  rw [hW.2.2.2.1]
  refine s_gM (f := f) (l := now) (by omega) (by omega) ((hW.2.2.2.2 k hk).2 hu).2 (fun M6 v6 g6 k6 G6 => kI_i ?_)
  obtain ⟨w6, f6⟩ := hW.sc hk g6 k6
  have e : v6 = v := Gs.eq G6 hG
  subst e
  unfold V_X6_makeUpLatest_25
  rw [show (-1 : Int32) = i32 (-1) by decide, i32_eq (by rcases hG with a | a <;> omega) (by rcases hG with a | a <;> omega) (by omega) (by omega)]
  refine ⟨fun q => ?_, fun q => ⟨w6.1.2.1.1, s_due w6.1 w6.2.1 w6.2.2.1 hk (by omega) w6.2.2.2.1 (fun M9 g9 d9 => kV_i ?_)⟩⟩
  · rw [if_pos q] at h
    exact h M6 f6 w6
  · obtain ⟨w9, f9⟩ := w6.dr g9 d9
    rw [if_neg q] at h
    exact h M9 (f6.trans f9) w9
theorem s_ma8 {K : Rs → Mm → Prop} {A : Nat → Nat} {c : Cf} {now : Int} {k : Nat} (ht : tkOk (cfT c)) (hk : k < 12) (hu : cfU c k = true) (hn : 0 ≤ now ∧ now ≤ 157785119) :
    ∀ (w i : Nat) (M : Mm) (D : Dk) (f : Int), (now + 1 - f).toNat ≤ w → 0 ≤ f ∧ f ≤ now + 1 → (i : Int) + (now + 1 - f) ≤ 100001 → CW A M c D now → Iv now (cfU c) (cfT c) D → dC D + (now + 1 - f) < 1900000000 → (∀ M', Fw A M M' → CW A M' c (mAll (cfT c) (cfV c) now (mmC c k) k (now + 1 - f).toNat f D) now → K (.inl none) M') → V_X6_makeUpAll_8 K (w + 1) M (A 0) (A (40 + 10 * k)) (i32 f) (i32 (i : Nat)) := by
  intro w
  induction w with
  | zero =>
    intro i M D f hw hf hi hW hI hc h
    have e : f = now + 1 := by omega
    subst e
    have fin : K (.inl none) M := by
      have := h M (Fw.refl A M)
      rw [show (now + 1 - (now + 1)).toNat = 0 by omega] at this
      exact this hW
    unfold V_X6_makeUpAll_8 V_X6_makeUpAll_122
    rw [hW.2.2.2.1, i32_lt (a := now) (b := now + 1) (by omega) (by omega) (by omega) (by omega)]
    exact ⟨fun _ => fin, fun _ => ⟨hW.1.2.1.1, fun _ => fin, fun q => absurd (by omega) q⟩⟩
  | succ w ih =>
    intro i M D f hw hf hi hW hI hc h
    have fin : now < f → K (.inl none) M := fun q => by
      have := h M (Fw.refl A M)
      rw [show (now + 1 - f).toNat = 0 by omega] at this
      exact this hW
    have do86 : f ≤ now → V_X6_makeUpAll_86 K (fun M l0 l1 l2 l3 => V_X6_makeUpAll_8 K (w + 1) M l0 l1 l2 l3) M (A 0) (A (40 + 10 * k)) (i32 f) (i32 (i : Nat)) := by
      intro hle
      unfold V_X6_makeUpAll_86
      refine ⟨hW.1.2.1.1, (hW.1.2.2.2.1 k hk).1, ?_⟩
      rw [hW.2.2.2.1]
      refine s_lM (f := f) (l := now) (by omega) (by omega) ((hW.2.2.2.2 k hk).2 hu).2 (fun M3 v g3 k3 L3 => kI_i ?_)
      obtain ⟨w3, f3⟩ := hW.sc hk g3 k3
      have L3 : Ls (mmC c k) f now (-1) v := L3
      rw [show (-1 : Int32) = i32 (-1) by decide, i32_eq (by rcases L3 with a | a <;> omega) (by rcases L3 with a | a <;> omega) (by omega) (by omega)]
      refine ⟨fun q => ⟨w3.1.2.1.1, ?_⟩, fun q => ?_⟩
      · rcases L3 with ⟨a1, _⟩ | ⟨a1, a2, a3, a4⟩
        · exact absurd a1 q
        · refine s_due w3.1 w3.2.1 w3.2.2.1 hk (by omega) w3.2.2.2.1 (fun M6 g6 d6 => kV_i ?_)
          obtain ⟨w6, f6⟩ := w3.dr g6 d6
          have hd := hI.du (ma := v) (ov := cfV c) ht hk hu hn.1 (by omega)
          intro x7 e7 x8 e8
          rw [q_1, i32_add] at e7 e8
          rw [e7, e8, show ((i : Nat) : Int) + 1 = ((i + 1 : Nat) : Int) by omega]
          refine ih (i + 1) M6 _ (v + 1) (by omega) (by omega) (by omega) w6 hd.1 (by omega) (fun M' f' w' => h M' ((f3.trans f6).trans f') ?_)
          rw [show (now + 1 - f).toNat = (v - f).toNat + ((now + 1 - (v + 1)).toNat + 1) by omega, mAll_none (v - f).toNat _ f D (fun t t1 t2 => a4 t t1 (by omega)), show f + ((v - f).toNat : Int) = v by omega]
          show CW A M' c (mAll (cfT c) (cfV c) now (mmC c k) k (now + 1 - (v + 1)).toNat (v + 1) (if mmC c k v = true then dkDue (cfT c) (cfV c) now k v D else D)) now
          rw [if_pos a3]
          exact w'
      · rcases L3 with ⟨_, a2⟩ | ⟨a1, _⟩
        · refine h M3 f3 ?_
          rw [show (now + 1 - f).toNat = (now + 1 - f).toNat + 0 by omega, mAll_none (now + 1 - f).toNat 0 f D (fun t t1 t2 => a2 t t1 (by omega))]
          exact w3
        · omega
    unfold V_X6_makeUpAll_8 V_X6_makeUpAll_122
    rw [hW.2.2.2.1, i32_lt (a := now) (b := f) (by omega) (by omega) (by omega) (by omega), show (100000 : Int32) = i32 100000 by decide, i32_lt (a := 100000) (b := (i : Nat)) (by omega) (by omega) (by omega) (by omega)]
    refine ⟨fun q => fin (by omega), fun _ => ⟨hW.1.2.1.1, fun q => fin q, fun q => ⟨A 6, hW.1.2.1.2.1.2.2.2.2, hW.1.2.1.2.2.2.2.2.2.1, ?_⟩⟩⟩
    have hle : f ≤ now := by omega
    obtain ⟨⟨l1, l2, l3⟩, hO⟩ := hW.2.1
    rw [l1, show (300 : Int32) = i32 300 by decide, i32_lt (a := dC D) (b := 300) (by omega) (by omega) (by omega) (by omega)]
    refine ⟨fun _ => do86 hle, fun q3 => ⟨(hW.1.2.2.2.1 k hk).1, s_mayB hW.1 hW.2.1 hW.2.2.1 hk (kI_i ?_)⟩⟩
    rw [bI_ne0 (mayB (cfV c) D k), bI_0 (mayB (cfV c) D k)]
    refine ⟨fun _ => do86 hle, fun qb => ⟨(hW.1.2.2.2.1 k hk).1, s_mayW hW.1 hW.2.1 hW.2.2.1 hk (kI_i ?_)⟩⟩
    rw [bI_ne0 (mayW (cfV c) D k), bI_0 (mayW (cfV c) D k)]
    refine ⟨fun _ => do86 hle, fun qw => ⟨hW.1.2.1.1, (hW.1.2.2.2.1 k hk).1, ?_⟩⟩
    rw [hW.2.2.2.1]
    refine s_mI (f := f) (l := now) (by omega) (by omega) (by omega) ((hW.2.2.2.2 k hk).2 hu).2 (fun M12 g12 k12 => kI_i ?_)
    obtain ⟨w12, f12⟩ := hW.sc hk g12 k12
    have ec := mAll_full (tk := cfT c) (now := now) (mm := mmC c k) (now + 1 - f).toNat f D qb qw (by omega)
    rw [show f + ((now + 1 - f).toNat : Int) - 1 = now by omega] at ec
    have hle2 := cI_le (mmC c k) f now
    rw [ec] at h
    have en : cI (mt (cfB c k) (cfR c k) (cfO c (cfZ c k))) f now = cI (mmC c k) f now := rfl
    rw [en]
    generalize cI (mmC c k) f now = m at h hle2 ⊢
    refine ⟨(w12.1.2.2.2.1 k hk).1, fun M15 e15 => ?_⟩
    rw [sI_w] at e15
    have n : ∀ {i j : Nat}, i ≠ j → A i ≠ A j := fun h => hW.1.ne h
    have g15 : Dr A M12 M15 := by
      rw [e15]
      exact Dr.w w12.1 (by unfold dkx; rw [decide_eq_true_iff]; omega) _ (fun _ _ p hp => va_up_ne _ _ (by omega))
    have s15 := g15.sta w12.1
    refine ⟨s15.2.1.1, A 6, s15.2.1.2.1.2.2.2.2, s15.2.1.2.2.2.2.2.2.1, fun M19 e19 => ?_⟩
    rw [sI_w] at e19
    have g19 : Dr A M15 M19 := by
      rw [e19]
      exact Dr.w s15 (by decide) _ (fun _ q => by omega)
    obtain ⟨⟨b1, b2, b3⟩, bO⟩ := w12.2.1
    have r6 : mI M15 (A 6) = mI M12 (A 6) := by rw [e15, mI_wn _ _ (n (by omega))]
    have rj : ∀ j, j ≠ 6 → j ≠ 40 + 10 * k → mI M19 (A j) = mI M12 (A j) := fun j c1 c2 => by rw [e19, mI_wn _ _ (n c1), e15, mI_wn _ _ (n c2)]
    have rk : mI M19 (A (40 + 10 * k)) = va_up (mI M12 (A (40 + 10 * k))) 15 (mI M12 (A (40 + 10 * k)) 15 + i32 (m : Nat)) := by rw [e19, mI_wn _ _ (n (by omega)), e15, mI_w]
    have d19 : DkC A M19 (cfT c) (dR D, dW D, dB D, va_up (dD D) k (dD D k + i32 (m : Nat)), dC D + (m : Nat), dL D) := by
      refine ⟨⟨?_, ?_, fun i hi hiC => ?_⟩, fun j hj => ?_⟩
      · rw [e19, mI_w, va_up_self, r6, b1, i32_add]; rfl
      · show 0 ≤ dC D + (m : Nat) ∧ dC D + (m : Nat) ≤ 2000000000; omega
      · rw [rj 7 (by omega) (by omega), rj 8 (by omega) (by omega), rj 9 (by omega) (by omega), rj 10 (by omega) (by omega)]
        exact b3 i hi (by omega)
      · obtain ⟨a1, a2, a3, a4, a5, a6, a7⟩ := bO j hj
        rw [rj (45 + 10 * j) (by omega) (by omega), rj (46 + 10 * j) (by omega) (by omega)]
        by_cases cj : j = k
        · subst cj
          rw [rk]
          refine ⟨by rw [va_up_ne _ _ (by decide)]; exact a1, a2, a3, by rw [va_up_ne _ _ (by decide)]; exact a4, fun v hv => by rw [va_up_ne _ _ (by decide)]; exact a5 v hv, by rw [va_up_ne _ _ (by decide)]; exact a6, ?_⟩
          rw [va_up_self, a7]
          show _ = va_up (dD D) j (dD D j + i32 (m : Nat)) j
          rw [va_up_self]
        · rw [rj (40 + 10 * j) (by omega) (by omega)]
          refine ⟨a1, a2, a3, a4, a5, a6, ?_⟩
          rw [a7]
          show _ = va_up (dD D) k (dD D k + i32 (m : Nat)) j
          rw [va_up_ne _ _ cj]
    obtain ⟨w19, f19⟩ := w12.dr (g15.trans g19) d19
    exact h M19 (f12.trans f19) w19
theorem s_mua {K : Rs → Mm → Prop} {A : Nat → Nat} {M : Mm} {c : Cf} {D : Dk} {wy gr : Nat → Int} {since now : Int} {k : Nat} (ht : tkOk (cfT c)) (hW : CW A M c D now) (hI : Iv now (cfU c) (cfT c) D) (hc : dC D < 1800000000) (hw : WyC A M c wy gr) (hg : wgOk c wy gr) (hk : k < 12) (hu : cfU c k = true) (h2 : wy k = 2) (hs7 : mI M (A 0) 7 = i32 since) (hn : 0 ≤ since ∧ since ≤ now ∧ now ≤ 157785119)
    (h : ∀ M', Fw A M M' → CW A M' c (wkO c wy gr since now k D) now → K (.inl none) M') : V_X6_makeUpAll K M (A 0) (A (40 + 10 * k)) := by
  have hgk := hg k hk hu
  unfold V_X6_makeUpAll
  unfold wkO at h
  rw [if_pos hu, if_neg (by omega), if_pos h2] at h
  refine ⟨hW.1.2.1.1, s_fmd hW hw hg hk hu hs7 hn (kI_i ⟨(now + 1 - max (since + 1) (now - gr k)).toNat + 1, ?_⟩)⟩
  generalize hf : max (since + 1) (now - gr k) = f at h ⊢
  rw [q_0]
  exact s_ma8 ht hk hu ⟨by omega, hn.2.2⟩ _ 0 M D f (Nat.le_refl _) (by omega) (by omega) hW hI (by omega) h
theorem CW.x0 {A : Nat → Nat} {M : Mm} {c : Cf} {D : Dk} {now : Int} {p : Nat} {v : Int32} (h : CW A M c D now) (hp : p ≠ 6) : CW A (sI M (A 0) p v) c D now := by
  obtain ⟨h1, h2, h3, h4, h5⟩ := h
  have r : ∀ i, i ≠ 0 → mI (sI M (A 0) p v) (A i) = mI M (A i) := fun i c => by rw [sI_w, mI_wn _ _ (h1.ne c)]
  refine ⟨h1.congr rfl rfl rfl rfl, ⟨?_, fun j hj => ?_⟩, fun j hj => ?_, by rw [sI_w, mI_w, va_up_ne _ _ (Ne.symm hp)]; exact h4, fun k hk => ?_⟩
  · rw [r 6 (by omega), r 7 (by omega), r 8 (by omega), r 9 (by omega), r 10 (by omega)]; exact h2.1
  · rw [r _ (by omega), r _ (by omega), r _ (by omega)]; exact h2.2 j hj
  · rw [r _ (by omega)]; exact h3 j hj
  · obtain ⟨o1, o2⟩ := h5 k hk
    refine ⟨by rw [r _ (by omega)]; exact o1, fun hu => ?_⟩
    obtain ⟨hz, d1, d2, d3, ⟨d4, d4v⟩, d5, ⟨z1, z2, z3, z4, z5, z6, z7, z8, z9, z10⟩, d7, d8, d9, d10⟩ := o2 hu
    exact ⟨hz, d1, d2, d3, ⟨d4.congr rfl rfl rfl rfl, by rw [r _ (by omega)]; exact d4v⟩, by rw [r _ (by omega)]; exact d5, ⟨z1, z2, z3, z4, z5, z6, z7, by rw [r _ (by omega)]; exact z8, by rw [r _ (by omega)]; exact z9, by rw [r _ (by omega)]; exact z10⟩, d7, d8, d9, d10⟩
theorem s_w37 {K : Rs → Mm → Prop} {A : Nat → Nat} {c : Cf} {wy gr : Nat → Int} {since now C0 : Int} (ht : tkOk (cfT c)) (hg : wgOk c wy gr) (hn : 0 ≤ since ∧ since ≤ now ∧ now ≤ 157785119) :
    ∀ (n k : Nat) (M : Mm) (D : Dk), k + n = 12 → CW A M c D now → Iv now (cfU c) (cfT c) D → dC D + 100001 * n < 1800000000 → WyC A M c wy gr → mI M (A 0) 7 = i32 since → (∀ M', Fw A M M' → CW A M' c (wkF c wy gr since now n k D) now → K (.inl (some (.int (i32 (dC (wkF c wy gr since now n k D) - C0))))) M') → V_X6_wake_37 K (n + 1) M (A 0) (i32 C0) (i32 (k : Nat)) := by
  intro n
  induction n with
  | zero =>
    intro k M D e1 hW hI hc hw hs7 h
    unfold V_X6_wake_37
    rw [q_12, i32_le (by omega) (by omega) (by omega) (by omega)]
    refine ⟨fun _ => ⟨hW.1.2.1.1, A 6, hW.1.2.1.2.1.2.2.2.2, hW.1.2.1.2.2.2.2.2.2.1, ?_⟩, fun q => absurd (by omega) q⟩
    rw [hW.2.1.1.1, i32_sub]
    exact h M (Fw.refl A M) hW
  | succ n ih =>
    intro k M D e1 hW hI hc hw hs7 h
    have hk : k < 12 := by omega
    obtain ⟨s1, s2, s3, s4, s5, s6, s7, s8, s9, s10⟩ := hW.1.2.2.2.1 k hk
    have x3 := hW.1.2.1.2.1.2.2.1
    have x4 := hW.1.2.1.2.2.2.2.1
    have hO := wkO_iv ht hg hk hn hI
    have nxt : ∀ M', Fw A M M' → CW A M' c (wkO c wy gr since now k D) now → V_X6_wake_93 K (fun M l0 l1 l2 => V_X6_wake_37 K (n + 1) M l0 l1 l2) M' (A 0) (i32 C0) (i32 (k : Nat)) := by
      intro M' f' w' x1 ex
      rw [q_1, i32_add, show ((k : Nat) : Int) + 1 = ((k + 1 : Nat) : Int) by omega] at ex
      rw [ex]
      exact ih (k + 1) M' _ (by omega) w' hO.1 (by omega) (f'.wy hw) (by rw [f'.2.2.2.2.2.2.2.2 7 (by decide)]; exact hs7) (fun M2 f2 w2 => h M2 (f'.trans f2) w2)
    have same : (cfU c k = true → wy k ≠ 1 ∧ wy k ≠ 2) → V_X6_wake_93 K (fun M l0 l1 l2 => V_X6_wake_37 K (n + 1) M l0 l1 l2) M (A 0) (i32 C0) (i32 (k : Nat)) := fun q => by
      have e : wkO c wy gr since now k D = D := by
        unfold wkO
        by_cases hu : cfU c k = true
        · rw [if_pos hu, if_neg (q hu).1, if_neg (q hu).2]
        · rw [if_neg hu]
      exact nxt M (Fw.refl A M) (by rw [e]; exact hW)
    unfold V_X6_wake_37 V_X6_wake_73
    rw [q_12, i32_le (by omega) (by omega) (by omega) (by omega)]
    refine ⟨fun q => absurd q (by omega), fun _ => ⟨hW.1.2.1.1, A 3, x3, x4.1, by rw [x4.2]; exact i32_in (by omega) (by omega) (by omega), A (40 + 10 * k), by rw [i32_clamp (by omega) (by omega), Int.toNat_natCast]; exact s10, s1, ?_⟩⟩
    rw [(hW.2.2.2.2 k hk).1, bI_ne0 (cfU c k), bI_0 (cfU c k)]
    refine ⟨fun q => ⟨s1, fun _ => same (fun hu => by rw [q] at hu; exact absurd hu (by decide)), fun q2 => by rw [q] at q2; exact absurd q2 (by decide)⟩, fun hu => ?_⟩
    have hgk := hg k hk hu
    rw [(hw k hk hu).1, q_1, q_2, i32_eq (by omega) (by omega) (by omega) (by omega), i32_eq (by omega) (by omega) (by omega) (by omega)]
    refine ⟨fun q => ⟨s1, fun q2 => by rw [hu] at q2; exact absurd q2 (by decide), fun _ => ⟨fun q2 => same (fun _ => ⟨q, q2⟩), fun q2 => ⟨hW.1.2.1.1, s_mua ht hW hI (by omega) hw hg hk hu q2 hs7 hn (fun M' f' w' => kV_i (nxt M' f' w'))⟩⟩⟩, fun q => s_mul hW hI (by omega) hw hg hk hu q hs7 hn (fun M' f' w' => kV_i (nxt M' f' w'))⟩
theorem s_wake {K : Rs → Mm → Prop} {A : Nat → Nat} {M : Mm} {c : Cf} {D : Dk} {wy gr : Nat → Int} {since now : Int} (ht : tkOk (cfT c)) (hg : wgOk c wy gr) (hn : 0 ≤ since ∧ since ≤ now ∧ now ≤ 157785119) (hW : CW A M c D now) (hI : Iv now (cfU c) (cfT c) D) (hc : dC D < 1700000000) (hw : WyC A M c wy gr) (hs7 : mI M (A 0) 7 = i32 since) (h8 : mI M (A 0) 8 = 0)
    (h : ∀ M', Fw A (sI M (A 0) 8 1) M' → CW A M' c (wakeD c wy gr since now D) now → K (.inl (some (.int (i32 (dC (wakeD c wy gr since now D) - dC D))))) M') : V_X6_wake K M (A 0) := by
  unfold V_X6_wake
  refine ⟨hW.1.2.1.1, fun _ M2 e2 => ?_, fun q => absurd h8 q⟩
  have w2 : CW A M2 c D now := by rw [e2]; exact hW.x0 (by decide)
  refine ⟨A 6, w2.1.2.1.2.1.2.2.2.2, w2.1.2.1.2.2.2.2.2.2.1, fun x5 e5 => ?_⟩
  rw [w2.2.1.1.1] at e5
  subst e5
  have hE := endF_iv ht (Int.le_refl now) 108 D hI
  refine s_ends (by omega) w2.1 w2.2.1 w2.2.2.1 (hI.bd ht hn.2.2) (by omega) w2.2.2.2.1 (fun M6 g6 d6 => kV_i ⟨13, ?_⟩)
  obtain ⟨w6, f6⟩ := w2.dr g6 d6
  rw [q_0]
  have n0 : ∀ {i j : Nat}, i ≠ j → A i ≠ A j := fun h => hW.1.ne h
  have hw2 : WyC A M2 c wy gr := fun k hk hu => by rw [e2, sI_w, mI_wn _ _ (n0 (by omega))]; exact hw k hk hu
  have h72 : mI M2 (A 0) 7 = i32 since := by rw [e2, sI_w, mI_w, va_up_ne _ _ (by decide)]; exact hs7
  refine s_w37 ht hg hn 12 0 M6 _ (by omega) w6 hE.1 (by omega) (f6.wy hw2) (by rw [f6.2.2.2.2.2.2.2.2 7 (by decide)]; exact h72) (fun M' f' w' => h M' (by rw [← e2]; exact f6.trans f') w')
