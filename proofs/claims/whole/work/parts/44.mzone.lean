/-! the model: zones, times, one minute -/
theorem s7_st7 {K : Rs → Mm → Prop} {M : Mm} {m i : Nat} {ar : Nat → Nat} {z : Zo} {t : Int} (hs : MdS M m ar) (hi : i < 4) (hz : MoZ M ar i z) (hw : wfZ z) (ht : 0 ≤ t ∧ t ≤ 157785119) (h : K (.inl (some (.int (i32 (zK z t (zN z) : Nat))))) M) :
    ∀ w : Nat, w ≤ zN z → zK z t (zN z) = zK z t w → V_X7_stretch_7 K (w + 1) M m (i32 (i : Nat)) (i32 t) (i32 (w : Nat)) := by
  have hn := hw.1
  have p3 := hs.p 3 9 80 (by decide)
  intro w
  induction w with
  | zero =>
    intro _ e
    unfold V_X7_stretch_7 V_X7_stretch_34
    rw [e] at h
    exact ⟨fun _ => h, fun q => absurd (by decide) q⟩
  | succ w ih =>
    intro hwn e
    have hsb := hw.2.2.1 (w + 1) hwn
    have hzz := hz.2.2 (w + 1) (by omega) hwn
    unfold V_X7_stretch_7 V_X7_stretch_34
    rw [q_0, q_20, q_1, i32_le (by omega) (by omega) (by omega) (by omega), i32_mul, i32_add, i32_sub]
    refine ⟨fun q => absurd q (by omega), fun _ => ⟨hs.1, ar 3, p3.1, p3.2.1, by rw [p3.2.2.1]; exact i32_in (by omega) (by omega) (by omega), ?_⟩⟩
    rw [i32_clamp (by omega) (by omega), show (20 * ((i : Nat) : Int) + ((w + 1 : Nat) : Int) - 1).toNat = 20 * i + (w + 1) - 1 by omega, hzz.1, i32_le (by omega) (by omega) (by omega) (by omega)]
    refine ⟨fun q => ?_, fun q x5 e5 => ?_⟩
    · rw [e] at h
      simp only [zK] at h
      rw [if_pos q] at h
      exact h
    · subst e5
      rw [i32_neg, i32_add, show (((w + 1 : Nat) : Int) + -1) = (w : Nat) by omega]
      refine ih (by omega) ?_
      rw [e]
      simp only [zK]
      rw [if_neg q]
theorem s7_st {K : Rs → Mm → Prop} {M : Mm} {m i : Nat} {ar : Nat → Nat} {z : Zo} {t : Int} (hs : MdS M m ar) (hi : i < 4) (hz : MoZ M ar i z) (hw : wfZ z) (ht : 0 ≤ t ∧ t ≤ 157785119) (h : K (.inl (some (.int (i32 (zK z t (zN z) : Nat))))) M) : V_X7_stretch K M m (i32 (i : Nat)) (i32 t) := by
  have p2 := hs.p 2 9 4 (by decide)
  unfold V_X7_stretch
  refine ⟨hs.1, ar 2, p2.1, p2.2.1, by rw [p2.2.2.1]; exact i32_in (by omega) (by omega) (by omega), fun x5 e5 => ⟨zN z + 1, ?_⟩⟩
  rw [i32_clamp (by omega) (by omega), Int.toNat_natCast, hz.1] at e5
  subst e5
  exact s7_st7 hs hi hz hw ht h (zN z) (Nat.le_refl _) rfl
theorem s7_off {K : Rs → Mm → Prop} {M : Mm} {m i k : Nat} {ar : Nat → Nat} {z : Zo} (hs : MdS M m ar) (hi : i < 4) (hz : MoZ M ar i z) (hw : wfZ z) (hk : k ≤ zN z) (h : K (.inl (some (.int (i32 (zF z k))))) M) : V_X7_offsetOf K M m (i32 (i : Nat)) (i32 (k : Nat)) := by
  have hn := hw.1
  have p4 := hs.p 4 9 80 (by decide)
  have p1 := hs.p 1 9 4 (by decide)
  unfold V_X7_offsetOf V_X7_offsetOf_26
  rw [q_0, i32_eq (by omega) (by omega) (by omega) (by omega), q_20, q_1, i32_mul, i32_add, i32_sub]
  refine ⟨fun q => ⟨hs.1, ar 4, p4.1, p4.2.1, by rw [p4.2.2.1]; exact i32_in (by omega) (by omega) (by omega), ?_⟩, fun q => ⟨hs.1, ar 1, p1.1, p1.2.1, by rw [p1.2.2.1]; exact i32_in (by omega) (by omega) (by omega), ?_⟩⟩
  · rw [i32_clamp (by omega) (by omega), show (20 * ((i : Nat) : Int) + (k : Nat) - 1).toNat = 20 * i + k - 1 by omega, (hz.2.2 k (by omega) hk).2]
    exact h
  · have e : k = 0 := by omega
    subst e
    rw [i32_clamp (by omega) (by omega), Int.toNat_natCast, hz.2.1]
    exact h
theorem s7_beg {K : Rs → Mm → Prop} {M : Mm} {m i k : Nat} {ar : Nat → Nat} {z : Zo} (hs : MdS M m ar) (hi : i < 4) (hz : MoZ M ar i z) (hw : wfZ z) (hk : k ≤ zN z) (h : K (.inl (some (.int (i32 (zB z k))))) M) : V_X7_beginOf K M m (i32 (i : Nat)) (i32 (k : Nat)) := by
  have hn := hw.1
  have p3 := hs.p 3 9 80 (by decide)
  unfold V_X7_beginOf V_X7_beginOf_21
  rw [q_0, i32_eq (by omega) (by omega) (by omega) (by omega), q_20, q_1, i32_mul, i32_add, i32_sub]
  refine ⟨fun q => ⟨hs.1, ar 3, p3.1, p3.2.1, by rw [p3.2.2.1]; exact i32_in (by omega) (by omega) (by omega), ?_⟩, fun q => ?_⟩
  · rw [i32_clamp (by omega) (by omega), show (20 * ((i : Nat) : Int) + (k : Nat) - 1).toNat = 20 * i + k - 1 by omega, (hz.2.2 k (by omega) hk).1]
    exact h
  · have e : k = 0 := by omega
    subst e
    rw [hw.2.1] at h
    exact h
theorem s7_end {K : Rs → Mm → Prop} {M : Mm} {m i k : Nat} {ar : Nat → Nat} {z : Zo} (hs : MdS M m ar) (hi : i < 4) (hz : MoZ M ar i z) (hw : wfZ z) (hk : k ≤ zN z) (h : K (.inl (some (.int (i32 (zL z k))))) M) : V_X7_endOf K M m (i32 (i : Nat)) (i32 (k : Nat)) := by
  have hn := hw.1
  have p3 := hs.p 3 9 80 (by decide)
  have p2 := hs.p 2 9 4 (by decide)
  unfold V_X7_endOf V_X7_endOf_28
  refine ⟨hs.1, ar 2, p2.1, p2.2.1, by rw [p2.2.2.1]; exact i32_in (by omega) (by omega) (by omega), ?_⟩
  rw [i32_clamp (by omega) (by omega), Int.toNat_natCast, hz.1, i32_eq (by omega) (by omega) (by omega) (by omega), q_20, q_1, i32_mul, i32_add]
  unfold zL at h
  refine ⟨fun q => ⟨ar 3, p3.1, p3.2.1, by rw [p3.2.2.1]; exact i32_in (by omega) (by omega) (by omega), ?_⟩, fun q => ?_⟩
  · rw [if_pos (by omega)] at h
    have e := (hz.2.2 (k + 1) (by omega) (by omega)).1
    rw [i32_clamp (by omega) (by omega), show (20 * ((i : Nat) : Int) + (k : Nat)).toNat = 20 * i + (k + 1) - 1 by omega, e, i32_sub]
    exact h
  · rw [if_neg (by omega)] at h
    rw [q_157785119]; exact h
theorem s7_tm {K : Rs → Mm → Prop} {M : Mm} {m k : Nat} {ar : Nat → Nat} {r : Ru} {t : Int} (hs : MdS M m ar) (hk : k < 12) (hr : MoR M ar k r) (ht : 0 ≤ t ∧ t < 1440) (h : K (.inl (some (.int (bI (tm r t.toNat))))) M) : V_X7_isTime K M m (i32 (k : Nat)) (i32 t) := by
  have p32 := hs.p 32 10 60 (by decide)
  have n0 := hr.1 0 (by decide)
  have n1 := hr.1 1 (by decide)
  unfold V_X7_isTime V_X7_isTime_46 V_X7_isTime_47
  rw [q_5, q_1, q_60, i32_mul, i32_add, i32_divp (by omega) (by omega) (by decide) (by decide), i32_mul, i32_sub, show t - t / 60 * 60 = t % 60 by omega]
  refine ⟨hs.1, ar 32, p32.1, p32.2.1, by rw [p32.2.2.1]; exact i32_in (by omega) (by omega) (by omega), ?_⟩
  rw [i32_clamp (by omega) (by omega), show (5 * ((k : Nat) : Int) + 1).toNat = 5 * k + 1 by omega, n1, bit1 (by omega)]
  unfold tm at h
  rw [show t.toNat / 60 = (t / 60).toNat by omega, show t.toNat % 60 = (t % 60).toNat by omega] at h
  refine ⟨fun q => ⟨.inl rfl, ?_⟩, fun q => ⟨ar 32, p32.1, p32.2.1, by rw [p32.2.2.1]; exact i32_in (by omega) (by omega) (by omega), ?_⟩⟩
  · rw [show bj (rN r 1) (t / 60).toNat = false by simpa using q] at h; exact h
  · rw [i32_clamp (by omega) (by omega), show (5 * ((k : Nat) : Int)).toNat = 5 * k + 0 by omega, n0, bit1 (by omega)]
    rw [q, Bool.true_and] at h
    refine ⟨fun q2 => ⟨.inl rfl, ?_⟩, fun q2 => ⟨.inr rfl, ?_⟩⟩
    · rw [show bj (rN r 0) (t % 60).toNat = false by simpa using q2] at h; exact h
    · rw [q2] at h; exact h
/-- an order in the model -/
def Om (M : Mm) (m : Nat) (ar : Nat → Nat) (k : Nat) (r : Ru) (i : Nat) (z : Zo) (b : Int → Bool) : Prop := MdS M m ar ∧ k < 12 ∧ MoR M ar k r ∧ i < 4 ∧ mI M (ar 27) k = i32 (i : Nat) ∧ MoZ M ar i z ∧ wfZ z ∧ isB r b
theorem Sm.om {M M' : Mm} {m : Nat} {ar : Nat → Nat} {k : Nat} {r : Ru} {i : Nat} {z : Zo} {b : Int → Bool} (h : Sm m M M') (ho : Om M m ar k r i z b) : Om M' m ar k r i z b := by
  obtain ⟨h1, h2, h3, h4, h5, h6, h7, h8⟩ := ho
  exact ⟨h.md h1, h2, h.mr h1 h3, h4, by rw [h.2.2.2.2.2.1 _ (h1.p 27 9 12 (by decide)).2.2.2]; exact h5, h.mz h1 h6, h7, h8⟩
theorem zK_in {z : Zo} (hz : wfZ z) {t : Int} (ht : 0 ≤ t ∧ t ≤ 157785119) : zB z (zK z t (zN z)) ≤ t ∧ t ≤ zL z (zK z t (zN z)) := by
  have : ∀ w : Nat, w ≤ zN z → (w < zN z → t < zB z (w + 1)) → zB z (zK z t w) ≤ t ∧ t ≤ zL z (zK z t w) := by
    intro w
    induction w with
    | zero =>
      intro h1 h2
      simp only [zK]
      refine ⟨by rw [hz.2.1]; exact ht.1, ?_⟩
      unfold zL
      split
      · have := h2 (by omega); omega
      · exact ht.2
    | succ w ih =>
      intro h1 h2
      simp only [zK]
      split
      · rename_i q
        refine ⟨q, ?_⟩
        unfold zL
        split
        · have := h2 (by omega); omega
        · exact ht.2
      · rename_i q
        exact ih (by omega) (fun _ => by omega)
  exact this (zN z) (Nat.le_refl _) (fun h => absurd h (Nat.lt_irrefl _))
theorem zA_b {z : Zo} (hz : wfZ z) (t : Int) : -1439 ≤ zA z t ∧ zA z t ≤ 1439 := hz.2.2.2.2 _ (zK_le z t (zN z))
theorem Dat.sm {M : Mm} {m : Nat} {y mo d n : Int} {rr : Nat → Int32} (h : Dat M m y mo d n rr) : Sm m M (wI M m rr) := Sm.row M rr (fun k hk => h.2.2.2.2.2 k (by unfold scr at hk; rw [decide_eq_false_iff_not] at hk; omega))
theorem s7_match {K : Rs → Mm → Prop} {M : Mm} {m k i : Nat} {ar : Nat → Nat} {r : Ru} {z : Zo} {b : Int → Bool} {t : Int} (ho : Om M m ar k r i z b) (ht : 0 ≤ t ∧ t ≤ 157785119)
    (h : ∀ M', Sm m M M' → K (.inl (some (.int (bI (mt b r z t))))) M') : V_X7_isMatch K M m (i32 (k : Nat)) (i32 t) := by
  have ho' := ho
  obtain ⟨hs, hk, hr, hi, h27, hz, hw, hb⟩ := ho
  have p27 := hs.p 27 9 12 (by decide)
  have hA := zA_b hw t
  unfold V_X7_isMatch
  refine ⟨hs.1, ar 27, p27.1, p27.2.1, by rw [p27.2.2.1]; exact i32_in (by omega) (by omega) (by omega), fun x5 e5 => ?_⟩
  rw [i32_clamp (by omega) (by omega), Int.toNat_natCast, h27] at e5
  subst e5
  refine s7_st hs hi hz hw ht (kI_i ⟨hs.1, s7_off hs hi hz hw (zK_le z t _) (kI_i (fun x11 e11 => ?_))⟩)
  rw [i32_add] at e11
  subst e11
  have ez : zF z (zK z t (zN z)) = zA z t := rfl
  rw [ez, q_1440]
  refine s7_floor (by omega) (by omega) (by decide) (by decide) (kI_i ⟨hs.1, ?_⟩)
  rw [i32_mul, i32_sub]
  refine s7_tm hs hk hr (by omega) (kI_i ?_)
  have hmt : mt b r z t = (b ((t + zA z t) / 1440) && tm r (t + zA z t - 1440 * ((t + zA z t) / 1440)).toNat) := mb_day rfl
  rw [bI_ne0, bI_0]
  refine ⟨fun q => ⟨hs.1, ?_⟩, fun q => ?_⟩
  · obtain ⟨y, mo, d, hd⟩ := isD_ex (n := (t + zA z t) / 1440) (by omega)
    refine s7_date hd hs.1 (fun rr hrr => kV_i ⟨hs.1, ?_⟩)
    have hsm := hrr.sm
    rw [mI_w, hrr.1, hrr.2.1, hrr.2.2.1]
    refine s7_whl (hsm.md hs) hk (hsm.mr hs hr) hd.1 hd.2.1 hd.2.2.1 (fun bb hbb => kI_i ⟨bI_01 bb, ?_⟩)
    have e : bb = mt b r z t := by
      rw [hmt, q, Bool.and_true, Bool.eq_iff_iff, hbb, hb _ (by omega) (by omega), rt_of hd]
    rw [e]
    exact h _ hsm
  · have e : mt b r z t = false := by rw [hmt, q, Bool.and_false]
    have := h M (Sm.refl m M)
    rw [e] at this
    exact this
/-! searching minute by minute -/
def U (p : Int → Bool) (x : Nat → Int) (two : Bool) (i : Nat) (fd ft : Int) : Prop := (0 ≤ fd ∧ fd ≤ i) ∧ if two = true then fd = (cN (fun j => p (x j)) i : Nat) else ((fd = 0 ∧ ft = -1 ∧ ∀ j, j < i → p (x j) = false) ∨ (fd = 1 ∧ ∃ j, j < i ∧ ft = x j ∧ p (x j) = true ∧ ∀ j', j' < j → p (x j') = false))
theorem U.skip {p : Int → Bool} {x : Nat → Int} {two : Bool} {i : Nat} {fd ft : Int} (h : U p x two i fd ft) (d : Nat) (hn : ∀ j, j < d → p (x (i + j)) = false) : U p x two (i + d) fd ft := by
  refine ⟨by have := h.1; omega, ?_⟩
  have h2 := h.2
  cases two
  · simp only [Bool.false_eq_true, if_false] at h2 ⊢
    rcases h2 with ⟨a1, a2, a3⟩ | ⟨a1, j, a2, a3⟩
    · refine .inl ⟨a1, a2, fun j hj => ?_⟩
      by_cases c : j < i
      · exact a3 j c
      · have := hn (j - i) (by omega); rwa [show i + (j - i) = j by omega] at this
    · exact .inr ⟨a1, j, by omega, a3⟩
  · simp only [if_true] at h2 ⊢
    rw [cN_add, cN_0 (p := fun j => (fun j => p (x j)) (i + j)) (fun j hj => hn j hj), Nat.add_zero]
    exact h2
theorem U.hit {p : Int → Bool} {x : Nat → Int} {two : Bool} {i : Nat} {fd ft : Int} (h : U p x two i fd ft) (h0 : two = false → fd = 0) (hp : p (x i) = true) : U p x two (i + 1) (fd + 1) (if fd + 1 = 1 then x i else ft) := by
  refine ⟨by have := h.1; omega, ?_⟩
  have h2 := h.2
  cases two
  · simp only [Bool.false_eq_true, if_false] at h2 ⊢
    have e := h0 rfl
    subst e
    rcases h2 with ⟨a1, a2, a3⟩ | ⟨a1, _⟩
    · exact .inr ⟨rfl, i, by omega, by simp, hp, a3⟩
    · omega
  · simp only [if_true] at h2 ⊢
    simp only [cN, hp, if_true]
    omega
theorem U.done {p : Int → Bool} {x : Nat → Int} {two : Bool} {i i' : Nat} {fd ft : Int} (h : U p x two i fd ft) (h2 : two = false) (h0 : fd ≠ 0) (hi : i ≤ i') : U p x two i' fd ft := by
  refine ⟨by have := h.1; omega, ?_⟩
  have h3 := h.2
  subst h2
  simp only [Bool.false_eq_true, if_false] at h3 ⊢
  rcases h3 with ⟨a1, _⟩ | ⟨a1, j, a2, a3⟩
  · exact absurd a1 h0
  · exact .inr ⟨a1, j, by omega, a3⟩
