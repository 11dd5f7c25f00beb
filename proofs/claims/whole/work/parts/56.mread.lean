/-! the model's reader: signs, numbers, names -/
abbrev E7 : Type := Mm × (Nat → Int) × Nat × Nat × (Nat → Nat)
def fM (e : E7) : Mm := e.1
def fS (e : E7) : Nat → Int := e.2.1
def fN (e : E7) : Nat := e.2.2.1
def fm (e : E7) : Nat := e.2.2.2.1
def fA (e : E7) : Nat → Nat := e.2.2.2.2
def En7 (e : E7) (M : Mm) : Prop := MdS M (fm e) (fA e) ∧ mI M (fm e) 11 = i32 (fN e : Nat) ∧ isS (fS e) (fN e) ∧ (∀ i, i < fN e → mI M (fA e 10) i &&& 255 = i32 (fS e i)) ∧ fA e 10 ≠ fA e 17
def rdP (k : Nat) : Bool := decide (k = 12 ∨ k = 13 ∨ k = 14 ∨ k = 18 ∨ k = 20 ∨ k = 24 ∨ k = 25)
def Fm (e : E7) (M : Mm) : Prop := mL M = mL (fM e) ∧ mK M = mK (fM e) ∧ mN M = mN (fM e) ∧ mP M = mP (fM e) ∧ (∀ b, b ≠ fm e → b ≠ fA e 17 → mI M b = mI (fM e) b) ∧ (∀ b, b ≠ fm e → b ≠ fA e 16 → mJ M b = mJ (fM e) b) ∧ (∀ k, rdP k = false → mI M (fm e) k = mI (fM e) (fm e) k)
def CtM (e : E7) (M : Mm) (c : Ct) : Prop := (∀ f, f < 5 → mJ M (fA e 16) f = cNu c f) ∧ (∀ y, y < 300 → mI M (fA e 17) y = bI (cYr c y)) ∧ mI M (fm e) 18 = bI (!cTo c) ∧ mI M (fm e) 24 = bI (cDs c) ∧ mI M (fm e) 25 = bI (cWs c) ∧ mJ M (fm e) 19 = cBl c ∧ mI M (fm e) 20 = bI (cLw c) ∧ mJ M (fm e) 21 = cNe c ∧ mJ M (fm e) 22 = cLd c ∧ (∀ k w, 1 ≤ k → k ≤ 5 → w < 7 → bj (mJ M (fm e) 23) (6 * w + k) = cKw c k w)
def QO (e : E7) (M : Mm) (at_ : Nat) (c : Ct) : Prop := En7 e M ∧ Fm e M ∧ mI M (fm e) 12 = i32 (at_ : Nat) ∧ at_ ≤ fN e ∧ mI M (fm e) 13 = 0 ∧ CtM e M c
def QF (e : E7) (M : Mm) (co pl : Nat) : Prop := En7 e M ∧ Fm e M ∧ (∃ at_ : Nat, at_ ≤ 1000 ∧ mI M (fm e) 12 = i32 (at_ : Nat)) ∧ mI M (fm e) 13 = i32 (co : Nat) ∧ mI M (fm e) 14 = i32 (pl : Nat) ∧ (1 ≤ co ∧ co ≤ 3)
theorem En7.n {e : E7} {M : Mm} (h : En7 e M) {i c n : Nat} (hi : (i, c, n) ∈ mPl) : fA e i ≠ fm e := (h.1.p i c n hi).2.2.2
theorem En7.wm {e : E7} {M : Mm} (h : En7 e M) (r : Nat → Int32) (h1 : r 11 = mI M (fm e) 11) : En7 e (wI M (fm e) r) := by
  obtain ⟨a1, a2, a3, a4, a5⟩ := h
  exact ⟨a1, by rw [mI_w, h1]; exact a2, a3, fun i hi => by rw [mI_wn _ _ (a1.p 10 8 160 (by decide)).2.2.2]; exact a4 i hi, a5⟩
theorem Fm.wm {e : E7} {M : Mm} (h : Fm e M) (r : Nat → Int32) (h1 : ∀ k, rdP k = false → r k = mI M (fm e) k) : Fm e (wI M (fm e) r) := by
  obtain ⟨a1, a2, a3, a4, a5, a6, a7⟩ := h
  exact ⟨a1, a2, a3, a4, fun b c1 c2 => by rw [mI_wn _ _ c1]; exact a5 b c1 c2, a6, fun k c1 => by rw [mI_w, h1 k c1]; exact a7 k c1⟩
theorem En7.wy {e : E7} {M : Mm} (h : En7 e M) (r : Nat → Int32) : En7 e (wI M (fA e 17) r) := by
  obtain ⟨a1, a2, a3, a4, a5⟩ := h
  exact ⟨a1, by rw [mI_wn _ _ (a1.p 17 11 300 (by decide)).2.2.2.symm]; exact a2, a3, fun i hi => by rw [mI_wn _ _ a5]; exact a4 i hi, a5⟩
theorem Fm.wy {e : E7} {M : Mm} (h : Fm e M) (hn : fA e 17 ≠ fm e) (r : Nat → Int32) : Fm e (wI M (fA e 17) r) := by
  obtain ⟨a1, a2, a3, a4, a5, a6, a7⟩ := h
  exact ⟨a1, a2, a3, a4, fun b c1 c2 => by rw [mI_wn _ _ c2]; exact a5 b c1 c2, a6, fun k c1 => by rw [mI_wn _ _ hn.symm]; exact a7 k c1⟩
theorem En7.wj {e : E7} {M : Mm} (h : En7 e M) (b : Nat) (r : Nat → Int64) : En7 e (wJ M b r) := h
theorem Fm.wj {e : E7} {M : Mm} (h : Fm e M) (b : Nat) (hb : b = fm e ∨ b = fA e 16) (r : Nat → Int64) : Fm e (wJ M b r) := by
  obtain ⟨a1, a2, a3, a4, a5, a6, a7⟩ := h
  refine ⟨a1, a2, a3, a4, a5, fun q c1 c2 => ?_, a7⟩
  rw [mJ_wn _ _ (by rcases hb with h | h <;> rw [h] <;> assumption)]
  exact a6 q c1 c2
theorem s7_sg {K : Rs → Mm → Prop} {e : E7} {M : Mm} {at_ : Nat} (he : En7 e M) (ha : mI M (fm e) 12 = i32 (at_ : Nat)) (hb : at_ ≤ 1000) (h : K (.inl (some (.int (i32 (fS e at_))))) M) : V_X7_sign K M (fm e) := by
  obtain ⟨a1, a2, hs, a4, a5⟩ := he
  have hn := hs.1
  have p10 := a1.p 10 8 160 (by decide)
  unfold V_X7_sign V_X7_sign_28
  rw [ha, a2, i32_le (by omega) (by omega) (by omega) (by omega)]
  refine ⟨a1.1, fun q => ?_, fun q => ⟨fA e 10, p10.1, p10.2.1, by rw [p10.2.2.1]; exact i32_in (by omega) (by omega) (by omega), ?_⟩⟩
  · rw [hs.2.1 at_ (by omega)] at h; exact h
  · rw [i32_clamp (by omega) (by omega), Int.toNat_natCast, a4 at_ (by omega)]
    exact h
theorem QO.sg {K : Rs → Mm → Prop} {e : E7} {M : Mm} {at_ : Nat} {c : Ct} (h : QO e M at_ c) (hk : K (.inl (some (.int (i32 (fS e at_))))) M) : V_X7_sign K M (fm e) := s7_sg h.1 h.2.2.1 (by have := h.1.2.2.1.1; have := h.2.2.2.1; omega) hk
theorem CtM.wm {e : E7} {M : Mm} {c : Ct} (h : CtM e M c) (hn : fA e 17 ≠ fm e) (r : Nat → Int32) (hr : ∀ k, k = 18 ∨ k = 20 ∨ k = 24 ∨ k = 25 → r k = mI M (fm e) k) : CtM e (wI M (fm e) r) c := by
  obtain ⟨c1, c2, c3, c4, c5, c6, c7, c8, c9, c10⟩ := h
  refine ⟨c1, fun y hy => by rw [mI_wn _ _ hn]; exact c2 y hy, ?_, ?_, ?_, c6, ?_, c8, c9, c10⟩
  · rw [mI_w, hr 18 (by omega)]; exact c3
  · rw [mI_w, hr 24 (by omega)]; exact c4
  · rw [mI_w, hr 25 (by omega)]; exact c5
  · rw [mI_w, hr 20 (by omega)]; exact c7
theorem QO.adv {e : E7} {M : Mm} {at_ : Nat} {c : Ct} (h : QO e M at_ c) (ha : at_ < fN e) : QO e (sI M (fm e) 12 (mI M (fm e) 12 + 1)) (at_ + 1) c := by
  obtain ⟨h1, h2, h3, h4, h5, h6⟩ := h
  rw [sI_w]
  refine ⟨h1.wm _ (by rw [va_up_ne _ _ (by decide)]), h2.wm _ (fun k c1 => by rw [va_up_ne _ _ (by intro q; subst q; exact absurd c1 (by decide))]), ?_, by omega, ?_, ?_⟩
  · rw [mI_w, va_up_self, h3, q_1, i32_add]; rfl
  · rw [mI_w, va_up_ne _ _ (by decide)]; exact h5
  · exact h6.wm (h1.n (i := 17) (c := 11) (n := 300) (by decide)) _ (fun k hk => by rw [va_up_ne _ _ (by omega)])
theorem s7_fail {K : Rs → Mm → Prop} {e : E7} {M : Mm} {at_ co pl : Nat} {c : Ct} (h : QO e M at_ c) (hc : 1 ≤ co ∧ co ≤ 3) (hk : ∀ M', QF e M' co pl → K (.inl none) M') : V_X7_fail K M (fm e) (i32 (co : Nat)) (i32 (pl : Nat)) := by
  obtain ⟨h1, h2, h3, h4, h5, h6⟩ := h
  have hn := h1.2.2.1.1
  unfold V_X7_fail V_X7_fail_17
  refine ⟨h1.1.1, fun q => absurd h5 q, fun _ M2 e2 M3 e3 => ?_⟩
  subst e2; subst e3
  simp only [sI_w, wI_wI, mI_w]
  apply hk
  refine ⟨h1.wm _ (by rw [va_up_ne _ _ (by decide), va_up_ne _ _ (by decide)]), h2.wm _ (fun k c1 => by rw [va_up_ne _ _ (by intro q; subst q; exact absurd c1 (by decide)), va_up_ne _ _ (by intro q; subst q; exact absurd c1 (by decide))]), ⟨at_, by omega, ?_⟩, ?_, ?_, hc⟩
  · rw [mI_w, va_up_ne _ _ (by decide), va_up_ne _ _ (by decide)]; exact h3
  · rw [mI_w, va_up_ne _ _ (by decide), va_up_self]
  · rw [mI_w, va_up_self]
theorem QF.ne {e : E7} {M : Mm} {co pl : Nat} (h : QF e M co pl) : ¬ mI M (fm e) 13 = 0 := by
  rw [h.2.2.2.1, q_0, i32_eq (by have := h.2.2.2.2.2; omega) (by have := h.2.2.2.2.2; omega) (by omega) (by omega)]
  have := h.2.2.2.2.2; omega
theorem QF.gt {e : E7} {M : Mm} {co pl : Nat} (h : QF e M co pl) : ¬ mI M (fm e) 13 ≤ 0 := by
  rw [h.2.2.2.1, q_0, i32_le (by have := h.2.2.2.2.2; omega) (by have := h.2.2.2.2.2; omega) (by omega) (by omega)]
  have := h.2.2.2.2.2; omega
theorem s7_failF {K : Rs → Mm → Prop} {e : E7} {M : Mm} {co pl : Nat} {x y : Int32} (h : QF e M co pl) (hk : K (.inl none) M) : V_X7_fail K M (fm e) x y := by
  unfold V_X7_fail V_X7_fail_17
  exact ⟨h.1.1.1, fun _ => hk, fun q => absurd q h.ne⟩
theorem QF.sg {K : Rs → Mm → Prop} {e : E7} {M : Mm} {co pl : Nat} (h : QF e M co pl) (hk : ∀ v : Int, -1 ≤ v ∧ v ≤ 255 → K (.inl (some (.int (i32 v)))) M) : V_X7_sign K M (fm e) := by
  obtain ⟨at_, a1, a2⟩ := h.2.2.1
  exact s7_sg h.1 a2 a1 (hk _ (h.1.2.2.1.b at_))
theorem QF.adv {e : E7} {M : Mm} {co pl at_ : Nat} (h : QF e M co pl) (ha : mI M (fm e) 12 = i32 (at_ : Nat)) (hl : at_ < 1000) : QF e (sI M (fm e) 12 (mI M (fm e) 12 + 1)) co pl := by
  obtain ⟨h1, h2, h3, h4, h5, h6⟩ := h
  have e2 : mI (sI M (fm e) 12 (mI M (fm e) 12 + 1)) (fm e) 12 = i32 ((at_ + 1 : Nat)) := by rw [sI_w, mI_w, va_up_self, ha, q_1, i32_add]; rfl
  refine ⟨?_, ?_, ⟨at_ + 1, by omega, e2⟩, ?_, ?_, h6⟩
  · rw [sI_w]; exact h1.wm _ (by rw [va_up_ne _ _ (by decide)])
  · rw [sI_w]; exact h2.wm _ (fun k c1 => by rw [va_up_ne _ _ (by intro q; subst q; exact absurd c1 (by decide))])
  · rw [sI_w, mI_w, va_up_ne _ _ (by decide)]; exact h4
  · rw [sI_w, mI_w, va_up_ne _ _ (by decide)]; exact h5
theorem s7_fig {K : Rs → Mm → Prop} {e : E7} {M : Mm} {at_ : Nat} (he : En7 e M) (ha : mI M (fm e) 12 = i32 (at_ : Nat)) (hb : at_ ≤ 1000) (h : K (.inl (some (.int (bI (decide (48 ≤ fS e at_ ∧ fS e at_ ≤ 57)))))) M) : V_X7_isFigure K M (fm e) := by
  have hsb := he.2.2.1.b at_
  unfold V_X7_isFigure
  exact ⟨he.1.1, s7_sg he ha hb (kI_i (s7_in (by omega) (by omega) (by decide : (48 : Int64).toInt = 48) (by decide : (57 : Int64).toInt = 57) (kI_i ⟨bI_01 _, h⟩)))⟩
theorem QO.fig {K : Rs → Mm → Prop} {e : E7} {M : Mm} {at_ : Nat} {c : Ct} (h : QO e M at_ c) (hk : K (.inl (some (.int (bI (decide (48 ≤ fS e at_ ∧ fS e at_ ≤ 57)))))) M) : V_X7_isFigure K M (fm e) := s7_fig h.1 h.2.2.1 (by have := h.1.2.2.1.1; have := h.2.2.2.1; omega) hk
theorem s7_f20 {K : Rs → Mm → Prop} {e : E7} {figs at0 : Nat} {c : Ct} (hfg : figs ≤ 4)
    (hO : ∀ a1 v, dgs (fS e) figs at0 0 = (a1, v) → ¬ (a1 = at0 ∨ (48 ≤ fS e a1 ∧ fS e a1 ≤ 57)) → ∀ M', QO e M' a1 c → K (.inl (some (.int (i32 v)))) M') (hF : ∀ a1 v, dgs (fS e) figs at0 0 = (a1, v) → (a1 = at0 ∨ (48 ≤ fS e a1 ∧ fS e a1 ≤ 57)) → ∀ M' v, QF e M' 1 a1 → K (.inl (some (.int v))) M') :
    ∀ (k i : Nat) (M : Mm) (at_ : Nat) (v B : Int), i + k = figs → at0 ≤ at_ → (at_ = at0 → (48 ≤ fS e at0 ∧ fS e at0 ≤ 57) ∧ 1 ≤ k) → QO e M at_ c → 0 ≤ v ∧ v ≤ B → bdk k B ≤ 99999 → dgs (fS e) figs at0 0 = dgs (fS e) k at_ v → V_X7_figures_20 K (k + 1) M (fm e) (i32 (figs : Nat)) (i32 v) (i32 (i : Nat)) := by
  intro k
  induction k with
  | zero =>
    intro i M at_ v B e1 e2 e3 h hv hB hd
    have hne : ¬ at_ = at0 := fun q => by have := (e3 q).2; omega
    unfold V_X7_figures_20 V_X7_figures_79
    refine ⟨h.1.1.1, fun q => absurd h.2.2.2.2.1 q, fun _ => h.fig (kI_i ?_)⟩
    rw [bI_ne0, bI_0, decide_eq_true_iff, decide_eq_false_iff_not, i32_eq (by omega) (by omega) (by omega) (by omega)]
    refine ⟨fun q => hO at_ v (hd.trans rfl) (fun c => by rcases c with c | c; exact hne c; exact q c) M h, fun q => ⟨fun q2 => absurd (by omega) q2, fun _ => ⟨h.1.1.1, ?_⟩⟩⟩
    rw [h.2.2.1, show (1 : Int32) = i32 ((1 : Nat)) by decide]
    exact s7_fail h (by omega) (fun M' hp => kV_i (hF at_ v (hd.trans rfl) (.inr q) M' _ hp))
  | succ k ih =>
    intro i M at_ v B e1 e2 e3 h hv hB hd
    have hn := h.1.2.2.1
    have hsb := hn.b at_
    have hB2 := bdk_le (k + 1) B (by omega)
    unfold V_X7_figures_20 V_X7_figures_79
    refine ⟨h.1.1.1, fun q => absurd h.2.2.2.2.1 q, fun _ => h.fig (kI_i ?_)⟩
    rw [bI_ne0, bI_0, decide_eq_true_iff, decide_eq_false_iff_not, i32_eq (by omega) (by omega) (by omega) (by omega)]
    refine ⟨fun q => ?_, fun q => ⟨fun _ => ⟨h.1.1.1, h.sg (kI_i (fun x7 e7 x8 e8 => ⟨h.1.1.1, fun M10 e10 => ?_⟩))⟩, fun q2 => absurd q2 (by omega)⟩⟩
    · have hne : ¬ at_ = at0 := fun c => q (by rw [c]; exact (e3 c).1)
      refine hO at_ v (hd.trans ?_) (fun c => by rcases c with c | c; exact hne c; exact q c) M h
      unfold dgs; rw [if_neg q]
    · have hl := hn.lt (i := at_) (by omega)
      have hp := h.adv hl
      rw [q_10, i32_mul, i32_add, show (48 : Int32) = i32 48 by decide, i32_sub] at e7
      rw [q_1, i32_add, show ((i : Nat) : Int) + 1 = ((i + 1 : Nat) : Int) by omega] at e8
      subst e7; subst e8; subst e10
      simp only [bdk] at hB
      refine ih (i + 1) _ (at_ + 1) _ (10 * B + 9) (by omega) (by omega) (fun c => by omega) hp (by omega) hB (hd.trans ?_)
      conv => lhs; unfold dgs; rw [if_pos q]
theorem s7_f20F {K : Rs → Mm → Prop} {e : E7} {M : Mm} {co pl : Nat} {x y z : Int32} (h : QF e M co pl) (hk : K (.inl (some (.int y))) M) : V_X7_figures_20 K 1 M (fm e) x y z := by
  unfold V_X7_figures_20 V_X7_figures_79
  exact ⟨h.1.1.1, fun _ => hk, fun q => absurd q h.ne⟩
theorem s7_bnd {K : Rs → Mm → Prop} {e : E7} {M : Mm} {figs at0 : Nat} {c : Ct} {lo hi : Int} (h : QO e M at0 c) (hfg : 1 ≤ figs ∧ figs ≤ 4) (hlo : 0 ≤ lo ∧ lo ≤ 100000) (hhi : 0 ≤ hi ∧ hi ≤ 100000)
    (hO : ∀ a1 v, pNum (fS e) figs lo hi at0 = .inr (a1, v) → ∀ M', QO e M' a1 c → K (.inl (some (.int (i32 v)))) M') (hF : ∀ co pl, pNum (fS e) figs lo hi at0 = .inl (co, pl) → ∀ M' v, QF e M' co pl → K (.inl (some (.int v))) M') : V_X7_bounded K M (fm e) (i32 (figs : Nat)) (i32 lo) (i32 hi) := by
  unfold pNum at hO hF
  unfold V_X7_bounded V_X7_bounded_40 V_X7_figures
  refine ⟨h.1.1.1, fun x2 e2 => ⟨h.1.1.1, h.fig (kI_i ?_)⟩⟩
  rw [h.2.2.1] at e2
  subst e2
  rw [bI_ne0, bI_0, decide_eq_true_iff, decide_eq_false_iff_not]
  have hbd : bdk figs 0 ≤ 99999 := by
    have : ∀ k, k ≤ 4 → bdk k 0 ≤ 99999 := by decide
    exact this figs hfg.2
  refine ⟨fun q => ⟨figs + 1, ?_⟩, fun q => ⟨h.1.1.1, ?_⟩⟩
  · refine s7_f20 hfg.2 (fun a1 v e1 hc M' hp => kI_i ⟨hp.1.1.1, fun q => absurd hp.2.2.2.2.1 q, fun _ => ?_⟩) (fun a1 v e1 hc M' v' hp => kI_i ⟨hp.1.1.1, fun _ => ?_, fun q => absurd q hp.ne⟩) figs 0 M at0 0 0 (by omega) (Nat.le_refl _) (fun _ => ⟨q, hfg.1⟩) h (by omega) hbd rfl
    · have hv := dgs_v (s := fS e) figs at0 0 0 (by omega) (by omega)
      rw [e1] at hv hO hF
      simp only at hv hO hF
      rw [if_neg hc] at hO hF
      refine s7_in (by omega) (by omega) (i64_of (by omega) (by omega)) (i64_of (by omega) (by omega)) (kI_i ?_)
      rw [bI_ne0, bI_0, decide_eq_true_iff, decide_eq_false_iff_not]
      refine ⟨fun q2 => ?_, fun q2 => ⟨hp.1.1.1, ?_⟩⟩
      · rw [if_neg (by omega)] at hO
        exact hO a1 v rfl M' hp
      · rw [if_pos (by omega)] at hF
        rw [show (2 : Int32) = i32 ((2 : Nat)) by decide]
        exact s7_fail hp (by omega) (fun M2 hp2 => kV_i (hF 2 at0 rfl M2 _ hp2))
    · rw [e1] at hF
      simp only at hF
      rw [if_pos hc] at hF
      exact hF 1 a1 rfl M' _ hp
  · have ed : dgs (fS e) figs at0 0 = (at0, 0) := by
      obtain ⟨k, rfl⟩ : ∃ k, figs = k + 1 := ⟨figs - 1, by omega⟩
      unfold dgs; rw [if_neg q]
    rw [ed] at hF
    simp only [true_or, if_true] at hF
    rw [h.2.2.1, show (1 : Int32) = i32 ((1 : Nat)) by decide]
    exact s7_fail h (by omega) (fun M2 hp2 => kV_i ⟨1, s7_f20F hp2 (kI_i ⟨hp2.1.1.1, fun _ => hF 1 at0 rfl M2 _ hp2, fun q => absurd q hp2.ne⟩)⟩)
/-- in a fault nothing is read, but where it stands may move -/
theorem s7_bndF {K : Rs → Mm → Prop} {e : E7} {M : Mm} {co pl : Nat} {x y z : Int32} (h : QF e M co pl) (hk : ∀ M' v, QF e M' co pl → K (.inl (some (.int v))) M') : V_X7_bounded K M (fm e) x y z := by
  obtain ⟨at_, a1, a2⟩ := h.2.2.1
  unfold V_X7_bounded V_X7_bounded_40 V_X7_figures
  refine ⟨h.1.1.1, fun x2 e2 => ⟨h.1.1.1, s7_fig h.1 a2 a1 (kI_i ?_)⟩⟩
  have fin : ∃ y', V_X7_figures_20 (kI (fun r4 M3 => (ob M3 (fm e) 7 ∧ ((¬ (mI M3 (fm e) 13) = 0 → K (.inl (some (.int r4))) M3) ∧ ((mI M3 (fm e) 13) = 0 → V_X7_in (kI (fun r7 M6 => ((¬ r7 = 0 → K (.inl (some (.int r4))) M6) ∧ (r7 = 0 → (ob M6 (fm e) 7 ∧ V_X7_fail (kV (fun M9 => K (.inl (some (.int r4))) M9) (fun _ _ => False)) M6 (fm e) (2 : Int32) x2)))) (fun _ _ => False)) M3 ((r4).toInt64) ((y).toInt64) ((z).toInt64))))) (fun _ _ => False)) y' M (fm e) x (0 : Int32) (0 : Int32) :=
    ⟨1, s7_f20F h (kI_i ⟨h.1.1.1, fun _ => hk M _ h, fun q => absurd q h.ne⟩)⟩
  exact ⟨fun _ => fin, fun _ => ⟨h.1.1.1, s7_failF h (kV_i fin)⟩⟩
theorem s7_let {K : Rs → Mm → Prop} {M : Mm} {k j : Nat} (hk : k < 19) (hj : j < 3) (h : K (.inl (some (.int (i32 (nm k j))))) M) : V_X7_letter K M (i32 (k : Nat)) (i32 (j : Nat)) := by
  have key : ∀ k, k < 19 → ∀ j, j < 3 → ((([6971758, 6710626, 7168370, 6385778, 7168377, 6976878, 6976876, 6387047, 7562608, 7299956, 7237494, 6579555, 7566702, 7171950, 7632229, 7824740, 7628917, 6713961, 7561588] : List Int32).getD k 0) >>> (((16 : Int32) - ((8 : Int32) * i32 (j : Nat))) &&& 31)) &&& (255 : Int32) = i32 (nm k j) := by decide +kernel
  have kk := key k hk j hj
  have go : ∀ N : Int32, N = (([6971758, 6710626, 7168370, 6385778, 7168377, 6976878, 6976876, 6387047, 7562608, 7299956, 7237494, 6579555, 7566702, 7171950, 7632229, 7824740, 7628917, 6713961, 7561588] : List Int32).getD k 0) → V_X7_letter_199 K M (i32 (j : Nat)) N := by
    intro N eN
    unfold V_X7_letter_199
    rw [eN, kk]
    exact h
  unfold V_X7_letter
  rw [i32_toInt (by omega) (by omega)]
  refine ⟨fun q => go _ (by have e : k = 18 := by omega
                            subst e; rfl), fun q => ?_, fun q => ?_, fun q => ?_, fun q => ?_, fun q => ?_, fun q => ?_, fun q => ?_, fun q => ?_, fun q => ?_, fun q => ?_, fun q => ?_, fun q => ?_, fun q => ?_, fun q => ?_, fun q => ?_, fun q => ?_, fun q => ?_, fun q => ?_, trivial⟩
  · rw [show (0 : Int32) = i32 0 by decide, i32_eq (by omega) (by omega) (by omega) (by omega)] at q
    have e : k = 0 := by omega
    subst e
    exact go _ rfl
  · rw [show (1 : Int32) = i32 1 by decide, i32_eq (by omega) (by omega) (by omega) (by omega)] at q
    have e : k = 1 := by omega
    subst e
    exact go _ rfl
  · rw [show (2 : Int32) = i32 2 by decide, i32_eq (by omega) (by omega) (by omega) (by omega)] at q
    have e : k = 2 := by omega
    subst e
    exact go _ rfl
  · rw [show (3 : Int32) = i32 3 by decide, i32_eq (by omega) (by omega) (by omega) (by omega)] at q
    have e : k = 3 := by omega
    subst e
    exact go _ rfl
  · rw [show (4 : Int32) = i32 4 by decide, i32_eq (by omega) (by omega) (by omega) (by omega)] at q
    have e : k = 4 := by omega
    subst e
    exact go _ rfl
  · rw [show (5 : Int32) = i32 5 by decide, i32_eq (by omega) (by omega) (by omega) (by omega)] at q
    have e : k = 5 := by omega
    subst e
    exact go _ rfl
  · rw [show (6 : Int32) = i32 6 by decide, i32_eq (by omega) (by omega) (by omega) (by omega)] at q
    have e : k = 6 := by omega
    subst e
    exact go _ rfl
  · rw [show (7 : Int32) = i32 7 by decide, i32_eq (by omega) (by omega) (by omega) (by omega)] at q
    have e : k = 7 := by omega
    subst e
    exact go _ rfl
  · rw [show (8 : Int32) = i32 8 by decide, i32_eq (by omega) (by omega) (by omega) (by omega)] at q
    have e : k = 8 := by omega
    subst e
    exact go _ rfl
  · rw [show (9 : Int32) = i32 9 by decide, i32_eq (by omega) (by omega) (by omega) (by omega)] at q
    have e : k = 9 := by omega
    subst e
    exact go _ rfl
  · rw [show (10 : Int32) = i32 10 by decide, i32_eq (by omega) (by omega) (by omega) (by omega)] at q
    have e : k = 10 := by omega
    subst e
    exact go _ rfl
  · rw [show (11 : Int32) = i32 11 by decide, i32_eq (by omega) (by omega) (by omega) (by omega)] at q
    have e : k = 11 := by omega
    subst e
    exact go _ rfl
  · rw [show (12 : Int32) = i32 12 by decide, i32_eq (by omega) (by omega) (by omega) (by omega)] at q
    have e : k = 12 := by omega
    subst e
    exact go _ rfl
  · rw [show (13 : Int32) = i32 13 by decide, i32_eq (by omega) (by omega) (by omega) (by omega)] at q
    have e : k = 13 := by omega
    subst e
    exact go _ rfl
  · rw [show (14 : Int32) = i32 14 by decide, i32_eq (by omega) (by omega) (by omega) (by omega)] at q
    have e : k = 14 := by omega
    subst e
    exact go _ rfl
  · rw [show (15 : Int32) = i32 15 by decide, i32_eq (by omega) (by omega) (by omega) (by omega)] at q
    have e : k = 15 := by omega
    subst e
    exact go _ rfl
  · rw [show (16 : Int32) = i32 16 by decide, i32_eq (by omega) (by omega) (by omega) (by omega)] at q
    have e : k = 16 := by omega
    subst e
    exact go _ rfl
  · rw [show (17 : Int32) = i32 17 by decide, i32_eq (by omega) (by omega) (by omega) (by omega)] at q
    have e : k = 17 := by omega
    subst e
    exact go _ rfl
