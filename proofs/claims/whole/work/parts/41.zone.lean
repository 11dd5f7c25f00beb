/-! zones, and the matches of an order -/
abbrev Zo : Type := Nat × (Nat → Int) × (Nat → Int)
def zN (z : Zo) : Nat := z.1
def zB (z : Zo) : Nat → Int := z.2.1
def zF (z : Zo) : Nat → Int := z.2.2
def wfZ (z : Zo) : Prop := zN z ≤ 20 ∧ zB z 0 = 0 ∧ (∀ k, k ≤ zN z → 0 ≤ zB z k ∧ zB z k ≤ 157785119) ∧ (∀ k, 1 ≤ k → k < zN z → zB z k < zB z (k + 1)) ∧ (∀ k, k ≤ zN z → -1439 ≤ zF z k ∧ zF z k ≤ 1439)
def zL (z : Zo) (k : Nat) : Int := if k < zN z then zB z (k + 1) - 1 else 157785119
def zK (z : Zo) (t : Int) : Nat → Nat
  | 0 => 0
  | k + 1 => if zB z (k + 1) ≤ t then k + 1 else zK z t k
/-- the offset at a minute -/
def zA (z : Zo) (t : Int) : Int := zF z (zK z t (zN z))
def mt (b : Int → Bool) (r : Ru) (z : Zo) (t : Int) : Bool := mb b r (t + zA z t)
theorem zB_mono {z : Zo} (hz : wfZ z) {i j : Nat} (hi : 1 ≤ i) (hij : i ≤ j) (hj : j ≤ zN z) : zB z i ≤ zB z j := by
  have : ∀ d : Nat, i + d ≤ zN z → zB z i ≤ zB z (i + d) := by
    intro d
    induction d with
    | zero => intro _; exact Int.le_refl _
    | succ d ih =>
      intro h
      have h1 := ih (by omega)
      have h2 := hz.2.2.2.1 (i + d) (by omega) (by omega)
      rw [← Nat.add_assoc]
      omega
  have := this (j - i) (by omega)
  rwa [show i + (j - i) = j by omega] at this
theorem zK_le (z : Zo) (t : Int) (n : Nat) : zK z t n ≤ n := by
  induction n with
  | zero => exact Nat.le_refl _
  | succ n ih => simp only [zK]; split <;> omega
theorem zK_of {z : Zo} (hz : wfZ z) {t : Int} {k : Nat} (hk : k ≤ zN z) (h1 : zB z k ≤ t) (h2 : t ≤ zL z k) : zK z t (zN z) = k := by
  have : ∀ d : Nat, k + d ≤ zN z → zK z t (k + d) = k := by
    intro d
    induction d with
    | zero =>
      intro _
      cases k with
      | zero => rfl
      | succ k => simp only [Nat.add_zero, zK]; rw [if_pos h1]
    | succ d ih =>
      intro h
      rw [← Nat.add_assoc]
      simp only [zK]
      have h3 : t < zB z (k + 1) := by unfold zL at h2; rw [if_pos (by omega)] at h2; omega
      have h4 := zB_mono hz (i := k + 1) (j := k + d + 1) (by omega) (by omega) (by omega)
      rw [if_neg (by omega), ih (by omega)]
  have := this (zN z - k) (by omega)
  rwa [show k + (zN z - k) = zN z by omega] at this
theorem zA_of {z : Zo} (hz : wfZ z) {t : Int} {k : Nat} (hk : k ≤ zN z) (h1 : zB z k ≤ t) (h2 : t ≤ zL z k) : zA z t = zF z k := by unfold zA; rw [zK_of hz hk h1 h2]
theorem mt_of {b : Int → Bool} {r : Ru} {z : Zo} (hz : wfZ z) {t : Int} {k : Nat} (hk : k ≤ zN z) (h1 : zB z k ≤ t) (h2 : t ≤ zL z k) : mt b r z t = mb b r (t + zF z k) := by unfold mt; rw [zA_of hz hk h1 h2]
theorem zL_b {z : Zo} (hz : wfZ z) {k : Nat} (hk : k ≤ zN z) : -1 ≤ zL z k ∧ zL z k ≤ 157785119 := by
  unfold zL
  split
  · have := hz.2.2.1 (k + 1) (by omega); omega
  · omega
/-- the rows of a Zone -/
def ZoM (M : Mm) (a sa oa : Nat) (z : Zo) : Prop := ob M a 5 ∧ ob M sa 9 ∧ ob M oa 9 ∧ mP M a 0 = some sa ∧ mP M a 1 = some oa ∧ mN M sa = 21 ∧ mN M oa = 21 ∧ mI M a 2 = i32 (zN z : Nat) ∧ (∀ k, k ≤ zN z → mI M sa k = i32 (zB z k)) ∧ (∀ k, k ≤ zN z → mI M oa k = i32 (zF z k))
def Od (M : Mm) (o a c nu ye za sa oa : Nat) (r : Ru) (z : Zo) (b : Int → Bool) : Prop :=
  ob M o 2 ∧ mP M o 1 = some a ∧ mP M o 5 = some za ∧ Rl M a c nu ye r ∧ Kn r (mI M a) ∧ ZoM M za sa oa z ∧ wfZ z ∧ wfT r ∧ isB r b ∧ (za ≠ a ∧ za ≠ c ∧ sa ≠ a ∧ sa ≠ c ∧ oa ≠ a ∧ oa ≠ c)
theorem Sc.zo {a c za sa oa : Nat} {M M' : Mm} {z : Zo} (h : Sc a c M M') (n1 : za ≠ a ∧ za ≠ c ∧ sa ≠ a ∧ sa ≠ c ∧ oa ≠ a ∧ oa ≠ c) (hz : ZoM M za sa oa z) : ZoM M' za sa oa z := by
  obtain ⟨z1, z2, z3, z4, z5, z6, z7, z8, z9, z10⟩ := hz
  obtain ⟨n1, n2, n3, n4, n5, n6⟩ := n1
  obtain ⟨h1, h2, h3, h4, h5, h6, h7⟩ := h
  refine ⟨?_, ?_, ?_, by rw [h5]; exact z4, by rw [h5]; exact z5, by rw [h3]; exact z6, by rw [h3]; exact z7, by rw [h6 za n1 n2]; exact z8, by rw [h6 sa n3 n4]; exact z9, by rw [h6 oa n5 n6]; exact z10⟩
  · unfold ob; rw [h1, h2]; exact z1
  · unfold ob; rw [h1, h2]; exact z2
  · unfold ob; rw [h1, h2]; exact z3
theorem Sc.od {o a c nu ye za sa oa : Nat} {M M' : Mm} {r : Ru} {z : Zo} {b : Int → Bool} (h : Sc a c M M') (hk : Kn r (mI M' a)) (hd : Od M o a c nu ye za sa oa r z b) : Od M' o a c nu ye za sa oa r z b := by
  obtain ⟨d1, d2, d3, d4, d5, d6, d7, d8, d9, d10⟩ := hd
  exact ⟨(h.th o 2).mpr d1, by rw [h.2.2.2.2.1]; exact d2, by rw [h.2.2.2.2.1]; exact d3, h.rl d4, hk, h.zo d10 d6, d7, d8, d9, d10⟩
theorem s_last {K : Rs → Mm → Prop} {M : Mm} {a sa oa : Nat} {z : Zo} (hm : ZoM M a sa oa z) (hz : wfZ z) {k : Nat} (hk : k ≤ zN z) (h : K (.inl (some (.int (i32 (zL z k))))) M) : V_X5_lastMinuteOf K M a (i32 (k : Nat)) := by
  obtain ⟨z1, z2, z3, z4, z5, z6, z7, z8, z9, z10⟩ := hm
  have hn := hz.1
  unfold V_X5_lastMinuteOf V_X5_lastMinuteOf_23
  rw [z8, i32_le (by omega) (by omega) (by omega) (by omega)]
  unfold zL at h
  refine ⟨z1, fun q => ?_, fun q => ⟨sa, z4, z2, ?_, ?_⟩⟩
  · rw [if_neg (by omega)] at h; rw [q_157785119]; exact h
  · rw [z6, q_1, i32_add]; exact i32_in (by omega) (by omega) (by omega)
  · rw [if_pos (by omega)] at h
    rw [q_1, i32_add, i32_clamp (by omega) (by omega), show ((k : Int) + 1).toNat = k + 1 by omega, z9 (k + 1) (by omega), i32_sub]
    exact h
theorem s_lM2 {K : Rs → Mm → Prop} {o a c nu ye za sa oa : Nat} {r : Ru} {z : Zo} {b : Int → Bool} {f l : Int} (hf : 0 ≤ f ∧ f ≤ 200000000) (hl : -1 ≤ l ∧ l ≤ 157785119) :
    ∀ (w : Nat) (M : Mm) (k : Nat), Od M o a c nu ye za sa oa r z b → k + w = zN z + 1 → (∀ M' v, Sc a c M M' → Kn r (mI M' a) → Ls (mt b r z) f l (-1) v → K (.inl (some (.int (i32 v)))) M') →
      (∀ t, f ≤ t → t ≤ l → (k ≤ zN z → t < zB z k) → mt b r z t = false) → V_X2_leastMatch_2 K (w + 1) M o (i32 f) (i32 l) (i32 (k : Nat)) := by
  intro w
  induction w with
  | zero =>
    intro M k hd e h hinv
    have hd' := hd
    obtain ⟨d1, d2, d3, d4, d5, ⟨z1, z2, z3, z4, z5, z6, z7, z8, z9, z10⟩, d7, d8, d9, d10⟩ := hd
    have hn := d7.1
    unfold V_X2_leastMatch_2
    refine ⟨d1, za, d3, z1, ?_⟩
    rw [z8, i32_lt (by omega) (by omega) (by omega) (by omega), show (-1 : Int32) = i32 (-1) by decide]
    refine ⟨fun _ => h M _ (Sc.refl a c M) d5 (.inl ⟨rfl, fun t t1 t2 => hinv t t1 t2 (fun q => by omega)⟩), fun q => absurd (by omega) q⟩
  | succ w ih =>
    intro M k hd e h hinv
    have hd' := hd
    obtain ⟨d1, d2, d3, d4, d5, d6, d7, d8, d9, d10⟩ := hd
    have d6' := d6
    obtain ⟨z1, z2, z3, z4, z5, z6, z7, z8, z9, z10⟩ := d6
    have hn := d7.1
    have hk : k ≤ zN z := by omega
    have hsk := d7.2.2.1 k hk
    have hfk := d7.2.2.2.2 k hk
    have hlk := zL_b d7 hk
    unfold V_X2_leastMatch_2
    refine ⟨d1, za, d3, z1, ?_⟩
    rw [z8, i32_lt (by omega) (by omega) (by omega) (by omega)]
    refine ⟨fun q => absurd q (by omega), fun _ => ⟨za, d3, z1, oa, z5, z3, by rw [z7]; exact i32_in (by omega) (by omega) (by omega), fun x9 e9 => ⟨za, d3, z1, sa, z4, z2, by rw [z6]; exact i32_in (by omega) (by omega) (by omega), ?_⟩⟩⟩
    rw [i32_clamp (by omega) (by omega), Int.toNat_natCast, z10 k hk] at e9
    subst e9
    rw [i32_clamp (by omega) (by omega), Int.toNat_natCast, z9 k hk]
    refine s_max (by omega) (by omega) (kI_i ⟨d1, za, d3, z1, s_last d6' d7 hk (kI_i ?_)⟩)
    refine s_min (by omega) (by omega) (kI_i ?_)
    rw [i32_lt (by omega) (by omega) (by omega) (by omega)]
    have go : ∀ (M2 : Mm) (v : Int), Sc a c M M2 → Kn r (mI M2 a) → ((v = -1000000000 ∧ ∀ t, f ≤ t → t ≤ l → zB z k ≤ t → t ≤ zL z k → mt b r z t = false) ∨ (v ≠ -1000000000 ∧ (-200000000 ≤ v ∧ v ≤ 200000000) ∧ Ls (mt b r z) f l (-1) (v - zF z k))) →
        V_X2_leastMatch_82 K (fun M l0 l1 l2 l3 => V_X2_leastMatch_2 K (w + 1) M l0 l1 l2 l3) M2 o (i32 f) (i32 l) (i32 (k : Nat)) (i32 (zF z k)) (i32 v) := by
      intro M2 v g1 g2 g3
      unfold V_X2_leastMatch_82
      rw [show (-1000000000 : Int32) = i32 (-1000000000) by decide, i32_eq (by omega) (by omega) (by omega) (by omega)]
      refine ⟨fun q x1 e1 => ?_, fun q => ?_⟩
      · subst e1
        have g4 := (g3.resolve_right (fun g => g.1 q)).2
        rw [q_1, i32_add, show ((k : Nat) : Int) + 1 = ((k + 1 : Nat) : Int) by omega]
        refine ih M2 (k + 1) (g1.od g2 hd') (by omega) (fun M' v' k1 k2 k3 => h M' v' (g1.trans k1) k2 k3) (fun t t1 t2 t3 => ?_)
        by_cases c1 : t < zB z k
        · exact hinv t t1 t2 (fun _ => c1)
        · refine g4 t t1 t2 (by omega) ?_
          unfold zL
          split
          · have := t3 (by omega); omega
          · omega
      · have g4 := (g3.resolve_left (fun g => q g.1)).2
        rw [i32_sub]
        exact h M2 _ g1 g2 g4.2
    refine ⟨fun q => ?_, fun q => ⟨d1, a, d2, d4.1.2.1, ?_⟩⟩
    · rw [show (-1000000000 : Int32) = i32 (-1000000000) by decide]
      exact go M _ (Sc.refl a c M) d5 (.inl ⟨rfl, fun t t1 t2 t3 t4 => by omega⟩)
    · rw [i32_add, i32_add]
      refine s_fI d9 d8 (by omega) (by omega) (by omega) d4 d5 (fun M2 v g1 g2 g3 => kI_i (go M2 v g1 g2 ?_))
      rcases g3 with ⟨g3, g4⟩ | ⟨g3, g4, g5, g6⟩
      · refine .inl ⟨g3, fun t t1 t2 t3 t4 => ?_⟩
        rw [mt_of d7 hk t3 t4]
        exact g4 _ (by omega) (by omega)
      · refine .inr ⟨by omega, by omega, .inr ⟨by omega, by omega, ?_, fun t t1 t2 => ?_⟩⟩
        · rw [mt_of d7 hk (by omega) (by omega), show v - zF z k + zF z k = v by omega]; exact g5
        · by_cases c1 : t < zB z k
          · exact hinv t t1 (by omega) (fun _ => c1)
          · rw [mt_of d7 hk (by omega) (by omega)]
            exact g6 _ (by omega) (by omega)
theorem s_lM {K : Rs → Mm → Prop} {M : Mm} {o a c nu ye za sa oa : Nat} {r : Ru} {z : Zo} {b : Int → Bool} {f l : Int} (hf : 0 ≤ f ∧ f ≤ 200000000) (hl : -1 ≤ l ∧ l ≤ 157785119) (hd : Od M o a c nu ye za sa oa r z b)
    (h : ∀ M' v, Sc a c M M' → Kn r (mI M' a) → Ls (mt b r z) f l (-1) v → K (.inl (some (.int (i32 v)))) M') : V_X2_leastMatch K M o (i32 f) (i32 l) := by
  unfold V_X2_leastMatch
  refine ⟨zN z + 1 + 1, ?_⟩
  have hz := hd.2.2.2.2.2.2.1
  exact s_lM2 hf hl (zN z + 1) M 0 hd (by omega) h (fun t t1 t2 t3 => by have := t3 (by omega); rw [hz.2.1] at this; omega)
theorem s_gM8 {K : Rs → Mm → Prop} {o a c nu ye za sa oa : Nat} {r : Ru} {z : Zo} {b : Int → Bool} {f l : Int} (hf : 0 ≤ f ∧ f ≤ 200000000) (hl : -1 ≤ l ∧ l ≤ 157785119) :
    ∀ (w : Nat) (M : Mm), Od M o a c nu ye za sa oa r z b → w ≤ zN z + 1 → (∀ M' v, Sc a c M M' → Kn r (mI M' a) → Gs (mt b r z) f l (-1) v → K (.inl (some (.int (i32 v)))) M') →
      (∀ t, f ≤ t → t ≤ l → w ≤ zN z → zB z w ≤ t → mt b r z t = false) → V_X2_greatestMatch_8 K (w + 1) M o (i32 f) (i32 l) (i32 ((w : Nat) - 1 : Int)) := by
  intro w
  induction w with
  | zero =>
    intro M hd e h hinv
    have hz := hd.2.2.2.2.2.2.1
    unfold V_X2_greatestMatch_8
    refine ⟨fun _ => ?_, fun q => absurd (by decide) q⟩
    rw [show (-1 : Int32) = i32 (-1) by decide]
    exact h M _ (Sc.refl a c M) hd.2.2.2.2.1 (.inl ⟨rfl, fun t t1 t2 => hinv t t1 t2 (by omega) (by rw [hz.2.1]; omega)⟩)
  | succ k ih =>
    intro M hd e h hinv
    have hd' := hd
    obtain ⟨d1, d2, d3, d4, d5, d6, d7, d8, d9, d10⟩ := hd
    have d6' := d6
    obtain ⟨z1, z2, z3, z4, z5, z6, z7, z8, z9, z10⟩ := d6
    have hn := d7.1
    have hk : k ≤ zN z := by omega
    have hsk := d7.2.2.1 k hk
    have hfk := d7.2.2.2.2 k hk
    have hlk := zL_b d7 hk
    unfold V_X2_greatestMatch_8
    rw [show (((k + 1 : Nat) : Int) - 1) = (k : Nat) by omega, q_0, i32_lt (by omega) (by omega) (by omega) (by omega)]
    refine ⟨fun q => absurd q (by omega), fun _ => ⟨d1, za, d3, z1, oa, z5, z3, by rw [z7]; exact i32_in (by omega) (by omega) (by omega), fun x9 e9 => ⟨za, d3, z1, sa, z4, z2, by rw [z6]; exact i32_in (by omega) (by omega) (by omega), ?_⟩⟩⟩
    rw [i32_clamp (by omega) (by omega), Int.toNat_natCast, z10 k hk] at e9
    subst e9
    rw [i32_clamp (by omega) (by omega), Int.toNat_natCast, z9 k hk]
    refine s_max (by omega) (by omega) (kI_i ⟨d1, za, d3, z1, s_last d6' d7 hk (kI_i ?_)⟩)
    refine s_min (by omega) (by omega) (kI_i ?_)
    rw [i32_lt (by omega) (by omega) (by omega) (by omega)]
    have go : ∀ (M2 : Mm) (v : Int), Sc a c M M2 → Kn r (mI M2 a) → ((v = -1000000000 ∧ ∀ t, f ≤ t → t ≤ l → zB z k ≤ t → t ≤ zL z k → mt b r z t = false) ∨ (v ≠ -1000000000 ∧ (-200000000 ≤ v ∧ v ≤ 200000000) ∧ Gs (mt b r z) f l (-1) (v - zF z k))) →
        V_X2_greatestMatch_81 K (fun M l0 l1 l2 l3 => V_X2_greatestMatch_8 K (k + 1) M l0 l1 l2 l3) M2 o (i32 f) (i32 l) (i32 (k : Nat)) (i32 (zF z k)) (i32 v) := by
      intro M2 v g1 g2 g3
      unfold V_X2_greatestMatch_81
      rw [show (-1000000000 : Int32) = i32 (-1000000000) by decide, i32_eq (by omega) (by omega) (by omega) (by omega)]
      refine ⟨fun q x1 e1 => ?_, fun q => ?_⟩
      · subst e1
        have g4 := (g3.resolve_right (fun g => g.1 q)).2
        rw [show (-1 : Int32) = i32 (-1) by decide, i32_add, show ((k : Nat) : Int) + -1 = (k : Nat) - 1 by omega]
        refine ih M2 (g1.od g2 hd') (by omega) (fun M' v' k1 k2 k3 => h M' v' (g1.trans k1) k2 k3) (fun t t1 t2 _ t3 => ?_)
        by_cases c1 : k + 1 ≤ zN z ∧ zB z (k + 1) ≤ t
        · exact hinv t t1 t2 c1.1 c1.2
        · refine g4 t t1 t2 t3 ?_
          unfold zL
          split
          · omega
          · omega
      · have g4 := (g3.resolve_left (fun g => q g.1)).2
        rw [i32_sub]
        exact h M2 _ g1 g2 g4.2
    refine ⟨fun q => ?_, fun q => ⟨d1, a, d2, d4.1.2.1, ?_⟩⟩
    · rw [show (-1000000000 : Int32) = i32 (-1000000000) by decide]
      exact go M _ (Sc.refl a c M) d5 (.inl ⟨rfl, fun t t1 t2 t3 t4 => by omega⟩)
    · rw [i32_add, i32_add]
      refine s_lI d9 d8 (by omega) (by omega) (by omega) d4 d5 (fun M2 v g1 g2 g3 => kI_i (go M2 v g1 g2 ?_))
      rcases g3 with ⟨g3, g4⟩ | ⟨g3, g4, g5, g6⟩
      · refine .inl ⟨g3, fun t t1 t2 t3 t4 => ?_⟩
        rw [mt_of d7 hk t3 t4]
        exact g4 _ (by omega) (by omega)
      · refine .inr ⟨by omega, by omega, .inr ⟨by omega, by omega, ?_, fun t t1 t2 => ?_⟩⟩
        · rw [mt_of d7 hk (by omega) (by omega), show v - zF z k + zF z k = v by omega]; exact g5
        · by_cases c1 : k + 1 ≤ zN z ∧ zB z (k + 1) ≤ t
          · exact hinv t (by omega) t2 c1.1 c1.2
          · have hL : t ≤ zL z k := by
              unfold zL
              split
              · omega
              · omega
            rw [mt_of d7 hk (by omega) hL]
            exact g6 _ (by omega) (by omega)
theorem s_gM {K : Rs → Mm → Prop} {M : Mm} {o a c nu ye za sa oa : Nat} {r : Ru} {z : Zo} {b : Int → Bool} {f l : Int} (hf : 0 ≤ f ∧ f ≤ 200000000) (hl : -1 ≤ l ∧ l ≤ 157785119) (hd : Od M o a c nu ye za sa oa r z b)
    (h : ∀ M' v, Sc a c M M' → Kn r (mI M' a) → Gs (mt b r z) f l (-1) v → K (.inl (some (.int (i32 v)))) M') : V_X2_greatestMatch K M o (i32 f) (i32 l) := by
  unfold V_X2_greatestMatch
  have hd' := hd
  obtain ⟨d1, d2, d3, d4, d5, ⟨z1, z2, z3, z4, z5, z6, z7, z8, z9, z10⟩, d7, d8, d9, d10⟩ := hd
  refine ⟨d1, za, d3, z1, fun x4 e4 => ⟨zN z + 1 + 1, ?_⟩⟩
  subst e4
  have := s_gM8 hf hl (zN z + 1) M hd' (by omega) h (fun t t1 t2 t3 t4 => by omega)
  rw [show (((zN z + 1 : Nat) : Int) - 1) = (zN z : Nat) by omega] at this
  rw [z8]; exact this
theorem cI_shift {p q : Int → Bool} {f l d : Int} (h : ∀ t, f ≤ t → t ≤ l → p t = q (t + d)) : cI p f l = cI q (f + d) (l + d) := by
  unfold cI
  rw [show (l + d + 1 - (f + d)).toNat = (l + 1 - f).toNat by omega]
  refine cN_congr (fun i hi => ?_)
  rw [h _ (by omega) (by omega)]
  congr 1; omega
theorem s_mI5 {K : Rs → Mm → Prop} {o a c nu ye za sa oa : Nat} {r : Ru} {z : Zo} {b : Int → Bool} {f l : Int} (hf : 0 ≤ f ∧ f ≤ 200000000) (hl : -1 ≤ l ∧ l ≤ 157785119) (hfl : f ≤ l + 1) :
    ∀ (w : Nat) (M : Mm) (k : Nat) (g : Int), Od M o a c nu ye za sa oa r z b → k + w = zN z + 1 → (∀ M', Sc a c M M' → Kn r (mI M' a) → K (.inl (some (.int (i32 (cI (mt b r z) f l : Nat))))) M') →
      (g = if k ≤ zN z then min (max f (zB z k)) (l + 1) else l + 1) → V_X2_matchesIn_5 K (w + 1) M o (i32 f) (i32 l) (i32 (cI (mt b r z) f (g - 1) : Nat)) (i32 (k : Nat)) := by
  intro w
  induction w with
  | zero =>
    intro M k g hd e h hg
    obtain ⟨d1, d2, d3, d4, d5, ⟨z1, z2, z3, z4, z5, z6, z7, z8, z9, z10⟩, d7, d8, d9, d10⟩ := hd
    have hn := d7.1
    rw [if_neg (by omega)] at hg
    unfold V_X2_matchesIn_5
    refine ⟨d1, za, d3, z1, ?_⟩
    rw [z8, i32_lt (by omega) (by omega) (by omega) (by omega), show g - 1 = l by omega]
    refine ⟨fun _ => h M (Sc.refl a c M) d5, fun q => absurd (by omega) q⟩
  | succ w ih =>
    intro M k g hd e h hg
    have hd' := hd
    obtain ⟨d1, d2, d3, d4, d5, d6, d7, d8, d9, d10⟩ := hd
    have d6' := d6
    obtain ⟨z1, z2, z3, z4, z5, z6, z7, z8, z9, z10⟩ := d6
    have hn := d7.1
    have hk : k ≤ zN z := by omega
    have hsk := d7.2.2.1 k hk
    have hfk := d7.2.2.2.2 k hk
    have hlk := zL_b d7 hk
    rw [if_pos hk] at hg
    obtain ⟨g', hg'⟩ : ∃ g', g' = (if k + 1 ≤ zN z then min (max f (zB z (k + 1))) (l + 1) else l + 1) := ⟨_, rfl⟩
    have hmono : k < zN z → zB z k ≤ zB z (k + 1) := fun hlt => by
      by_cases c0 : k = 0
      · subst c0; rw [d7.2.1]; exact (d7.2.2.1 1 (by omega)).1
      · exact Int.le_of_lt (d7.2.2.2.1 k (by omega) hlt)
    have hgg : g ≤ g' ∧ f ≤ g ∧ g' ≤ l + 1 ∧ g' = min (max f (zL z k + 1)) (l + 1) := by
      unfold zL
      by_cases c0 : k < zN z
      · have := hmono c0
        rw [if_pos (by omega)] at hg'
        rw [if_pos c0]
        omega
      · rw [if_neg (by omega)] at hg'
        rw [if_neg c0]
        omega
    unfold V_X2_matchesIn_5
    refine ⟨d1, za, d3, z1, ?_⟩
    rw [z8, i32_lt (by omega) (by omega) (by omega) (by omega)]
    refine ⟨fun q => absurd q (by omega), fun _ => ⟨za, d3, z1, oa, z5, z3, by rw [z7]; exact i32_in (by omega) (by omega) (by omega), fun x9 e9 => ⟨za, d3, z1, sa, z4, z2, by rw [z6]; exact i32_in (by omega) (by omega) (by omega), ?_⟩⟩⟩
    rw [i32_clamp (by omega) (by omega), Int.toNat_natCast, z10 k hk] at e9
    subst e9
    rw [i32_clamp (by omega) (by omega), Int.toNat_natCast, z9 k hk]
    refine s_max (by omega) (by omega) (kI_i ⟨d1, za, d3, z1, s_last d6' d7 hk (kI_i ?_)⟩)
    refine s_min (by omega) (by omega) (kI_i ?_)
    rw [i32_lt (by omega) (by omega) (by omega) (by omega)]
    have go : ∀ (M2 : Mm) (v : Int), Sc a c M M2 → Kn r (mI M2 a) → v = ((cI (mt b r z) g (g' - 1) : Nat) : Int) →
        V_X2_matchesIn_89 K (fun M l0 l1 l2 l3 l4 => V_X2_matchesIn_5 K (w + 1) M l0 l1 l2 l3 l4) M2 o (i32 f) (i32 l) (i32 (k : Nat)) (i32 (cI (mt b r z) f (g - 1) : Nat)) (i32 v) := by
      intro M2 v g1 g2 g3
      unfold V_X2_matchesIn_89
      intro x1 e1 x2 e2
      subst e1; subst e2
      have h1 : cI (mt b r z) f (g' - 1) = cI (mt b r z) f (g - 1) + cI (mt b r z) g (g' - 1) := cI_add (by omega) (by omega)
      rw [q_1, i32_add, i32_add, show ((k : Nat) : Int) + 1 = ((k + 1 : Nat) : Int) by omega, show ((cI (mt b r z) f (g - 1) : Nat) : Int) + v = ((cI (mt b r z) f (g' - 1) : Nat) : Int) by omega]
      exact ih M2 (k + 1) g' (g1.od g2 hd') (by omega) (fun M' k1 k2 => h M' (g1.trans k1) k2) hg'
    refine ⟨fun q => ?_, fun q => ⟨d1, a, d2, d4.1.2.1, ?_⟩⟩
    · rw [q_0]
      refine go M _ (Sc.refl a c M) d5 ?_
      have : g = g' := by omega
      unfold cI
      rw [show (g' - 1 + 1 - g).toNat = 0 by omega]; rfl
    · rw [i32_add, i32_add]
      refine s_cI d9 d8 (by omega) (by omega) (by omega) d4 d5 (fun M2 g1 g2 => kI_i (go M2 _ g1 g2 ?_))
      rw [cI_shift (p := mt b r z) (q := mb b r) (d := zF z k) (fun t t1 t2 => mt_of d7 hk (by omega) (by omega))]
      rw [show max f (zB z k) + zF z k = g + zF z k by omega, show min l (zL z k) + zF z k = g' - 1 + zF z k by omega]
theorem s_mI {K : Rs → Mm → Prop} {M : Mm} {o a c nu ye za sa oa : Nat} {r : Ru} {z : Zo} {b : Int → Bool} {f l : Int} (hf : 0 ≤ f ∧ f ≤ 200000000) (hl : -1 ≤ l ∧ l ≤ 157785119) (hfl : f ≤ l + 1) (hd : Od M o a c nu ye za sa oa r z b)
    (h : ∀ M', Sc a c M M' → Kn r (mI M' a) → K (.inl (some (.int (i32 (cI (mt b r z) f l : Nat))))) M') : V_X2_matchesIn K M o (i32 f) (i32 l) := by
  unfold V_X2_matchesIn
  refine ⟨zN z + 1 + 1, ?_⟩
  have hz := hd.2.2.2.2.2.2.1
  have := s_mI5 hf hl hfl (zN z + 1) M 0 f hd (by omega) h (by rw [if_pos (by omega), hz.2.1]; omega)
  have e0 : cI (mt b r z) f (f - 1) = 0 := by unfold cI; rw [show (f - 1 + 1 - f).toNat = 0 by omega]; rfl
  rw [e0] at this
  exact this
theorem s_offAt5 {K : Rs → Mm → Prop} {M : Mm} {a sa oa : Nat} {z : Zo} {t : Int} (ht : 0 ≤ t ∧ t ≤ 157785119) (hm : ZoM M a sa oa z) (hz : wfZ z) (h : K (.inl (some (.int (i32 (zA z t))))) M) :
    ∀ w : Nat, w ≤ zN z → zK z t (zN z) = zK z t w → V_X5_offsetAt_5 K (w + 1) M a (i32 t) (i32 (w : Nat)) := by
  obtain ⟨z1, z2, z3, z4, z5, z6, z7, z8, z9, z10⟩ := hm
  have hn := hz.1
  intro w
  induction w with
  | zero =>
    intro _ e
    unfold V_X5_offsetAt_5
    refine ⟨fun _ => ⟨z1, oa, z5, z3, by rw [z7]; unfold vp_in; decide, ?_⟩, fun q => absurd (by decide) q⟩
    unfold zA at h
    rw [e] at h
    rw [show ((0 : Int32)).toNatClampNeg = 0 by decide, z10 0 (by omega)]
    exact h
  | succ w ih =>
    intro hw e
    have hs := hz.2.2.1 (w + 1) hw
    unfold V_X5_offsetAt_5
    rw [q_0, i32_le (by omega) (by omega) (by omega) (by omega)]
    refine ⟨fun q => absurd q (by omega), fun _ => ⟨z1, sa, z4, z2, by rw [z6]; exact i32_in (by omega) (by omega) (by omega), ?_⟩⟩
    have ec : (i32 ((w + 1 : Nat) : Int)).toNatClampNeg = w + 1 := by rw [i32_clamp (by omega) (by omega), Int.toNat_natCast]
    rw [ec, z9 (w + 1) hw, i32_lt (by omega) (by omega) (by omega) (by omega)]
    refine ⟨fun q x9 e9 => ?_, fun q => ⟨oa, z5, z3, by rw [z7]; exact i32_in (by omega) (by omega) (by omega), ?_⟩⟩
    · subst e9
      rw [show (-1 : Int32) = i32 (-1) by decide, i32_add, show (((w + 1 : Nat) : Int) + -1) = (w : Nat) by omega]
      refine ih (by omega) ?_
      rw [e]
      simp only [zK]
      rw [if_neg (by omega)]
    · unfold zA at h
      rw [e] at h
      simp only [zK] at h
      rw [if_pos (by omega)] at h
      rw [z10 (w + 1) hw]
      exact h
theorem s_offAt {K : Rs → Mm → Prop} {M : Mm} {a sa oa : Nat} {z : Zo} {t : Int} (ht : 0 ≤ t ∧ t ≤ 157785119) (hm : ZoM M a sa oa z) (hz : wfZ z) (h : K (.inl (some (.int (i32 (zA z t))))) M) : V_X5_offsetAt K M a (i32 t) := by
  have z1 := hm.1
  have z8 := hm.2.2.2.2.2.2.2.1
  unfold V_X5_offsetAt
  refine ⟨z1, fun x2 e2 => ⟨zN z + 1, ?_⟩⟩
  subst e2
  rw [z8]
  exact s_offAt5 ht hm hz h (zN z) (Nat.le_refl _) rfl
