/-! the class's tape -/
abbrev Ev : Type := Mm × (Nat → Int) × Nat × Nat × Nat × Nat × Nat × Nat × Nat
def eM (e : Ev) : Mm := e.1
def eS (e : Ev) : Nat → Int := e.2.1
def eN (e : Ev) : Nat := e.2.2.1
def eT (e : Ev) : Nat := e.2.2.2.1
def eB (e : Ev) : Nat := e.2.2.2.2.1
def eA (e : Ev) : Nat := e.2.2.2.2.2.1
def eC (e : Ev) : Nat := e.2.2.2.2.2.2.1
def eU (e : Ev) : Nat := e.2.2.2.2.2.2.2.1
def eY (e : Ev) : Nat := e.2.2.2.2.2.2.2.2
def En (e : Ev) (M : Mm) : Prop := (ob M (eT e) 4 ∧ mP M (eT e) 0 = some (eB e) ∧ mP M (eT e) 5 = some (eA e) ∧ ob M (eB e) 9 ∧ mN M (eB e) = 160 ∧ mI M (eT e) 1 = i32 (eN e : Nat)) ∧ (∀ i, i < eN e → mI M (eB e) i = i32 (eS e i)) ∧ isS (eS e) (eN e) ∧ RlS M (eA e) (eC e) (eU e) (eY e) ∧ (eT e ≠ eA e ∧ eB e ≠ eT e ∧ eB e ≠ eA e ∧ eU e ≠ eA e ∧ eY e ≠ eA e ∧ eU e ≠ eY e)
def Fp (e : Ev) (M : Mm) : Prop := mL M = mL (eM e) ∧ mK M = mK (eM e) ∧ mN M = mN (eM e) ∧ mP M = mP (eM e) ∧ (∀ b, b ≠ eT e → b ≠ eA e → mI M b = mI (eM e) b) ∧ (∀ b, b ≠ eA e → b ≠ eU e → b ≠ eY e → mJ M b = mJ (eM e) b) ∧ (∀ k, k ≠ 2 → k ≠ 3 → k ≠ 4 → mI M (eT e) k = mI (eM e) (eT e) k)
def CtC (ri : Nat → Int32) (rj nj yj : Nat → Int64) (c : Ct) : Prop := (∀ f, f < 5 → nj f = cNu c f) ∧ (∀ y, y < 300 → bj (yj (y / 64)) (y % 64) = cYr c y) ∧ ri 3 = bI (cTo c) ∧ ri 4 = bI (cDs c) ∧ ri 5 = bI (cWs c) ∧ rj 6 = cBl c ∧ ri 7 = bI (cLw c) ∧ rj 8 = cNe c ∧ rj 9 = cLd c ∧ (∀ k w, 1 ≤ k → k ≤ 5 → w < 7 → bj (rj 10) (7 * k + w) = cKw c k w) ∧ ri 11 = i32 (-1000000000)
def PO (e : Ev) (M : Mm) (at_ : Nat) (c : Ct) : Prop := En e M ∧ Fp e M ∧ mI M (eT e) 2 = i32 (at_ : Nat) ∧ at_ ≤ eN e ∧ mI M (eT e) 3 = 0 ∧ CtC (mI M (eA e)) (mJ M (eA e)) (mJ M (eU e)) (mJ M (eY e)) c
def PF (e : Ev) (M : Mm) (co pl : Nat) : Prop := En e M ∧ Fp e M ∧ (∃ at_ : Nat, at_ ≤ 1000 ∧ mI M (eT e) 2 = i32 (at_ : Nat)) ∧ mI M (eT e) 3 = i32 (co : Nat) ∧ mI M (eT e) 4 = i32 (pl : Nat) ∧ (1 ≤ co ∧ co ≤ 3)
theorem En.wt {e : Ev} {M : Mm} (h : En e M) (r : Nat → Int32) (h1 : r 1 = mI M (eT e) 1) : En e (wI M (eT e) r) := by
  obtain ⟨⟨a1, a2, a3, a4, a5, a6⟩, b, c, d, f⟩ := h
  exact ⟨⟨a1, a2, a3, a4, a5, by rw [mI_w, h1]; exact a6⟩, fun i hi => by rw [mI_wn _ _ f.2.1]; exact b i hi, c, d, f⟩
theorem Fp.wt {e : Ev} {M : Mm} (h : Fp e M) (r : Nat → Int32) (h1 : ∀ k, k ≠ 2 → k ≠ 3 → k ≠ 4 → r k = mI M (eT e) k) : Fp e (wI M (eT e) r) := by
  obtain ⟨a1, a2, a3, a4, a5, a6, a7⟩ := h
  exact ⟨a1, a2, a3, a4, fun b c1 c2 => by rw [mI_wn _ _ c1]; exact a5 b c1 c2, a6, fun k c1 c2 c3 => by rw [mI_w, h1 k c1 c2 c3]; exact a7 k c1 c2 c3⟩
theorem En.wa {e : Ev} {M : Mm} (h : En e M) (r : Nat → Int32) : En e (wI M (eA e) r) := by
  obtain ⟨⟨a1, a2, a3, a4, a5, a6⟩, b, c, d, f⟩ := h
  exact ⟨⟨a1, a2, a3, a4, a5, by rw [mI_wn _ _ f.1]; exact a6⟩, fun i hi => by rw [mI_wn _ _ f.2.2.1]; exact b i hi, c, d, f⟩
theorem Fp.wa {e : Ev} {M : Mm} (h : Fp e M) (hn : eT e ≠ eA e) (r : Nat → Int32) : Fp e (wI M (eA e) r) := by
  obtain ⟨a1, a2, a3, a4, a5, a6, a7⟩ := h
  exact ⟨a1, a2, a3, a4, fun b c1 c2 => by rw [mI_wn _ _ c2]; exact a5 b c1 c2, a6, fun k c1 c2 c3 => by rw [mI_wn _ _ hn]; exact a7 k c1 c2 c3⟩
theorem En.wj {e : Ev} {M : Mm} (h : En e M) (b : Nat) (r : Nat → Int64) : En e (wJ M b r) := h
theorem Fp.wj {e : Ev} {M : Mm} (h : Fp e M) (b : Nat) (hb : b = eA e ∨ b = eU e ∨ b = eY e) (r : Nat → Int64) : Fp e (wJ M b r) := by
  obtain ⟨a1, a2, a3, a4, a5, a6, a7⟩ := h
  refine ⟨a1, a2, a3, a4, a5, fun q c1 c2 c3 => ?_, a7⟩
  rw [mJ_wn _ _ (by rcases hb with h | h | h <;> rw [h] <;> assumption)]
  exact a6 q c1 c2 c3
theorem s_lk {K : Rs → Mm → Prop} {e : Ev} {M : Mm} {at_ : Nat} (he : En e M) (ha : mI M (eT e) 2 = i32 (at_ : Nat)) (hb : at_ ≤ 1000) (h : K (.inl (some (.int (i32 (eS e at_))))) M) : V_X4_look K M (eT e) := by
  obtain ⟨⟨a1, a2, a3, a4, a5, a6⟩, b, hs, d, f⟩ := he
  have hn := hs.1
  unfold V_X4_look V_X4_look_33 V_X4_look_34
  rw [ha, a6, i32_le (by omega) (by omega) (by omega) (by omega), q_160, i32_le (by omega) (by omega) (by omega) (by omega)]
  have out : eN e ≤ at_ → K (.inl (some (.int (-1)))) M := fun q => by
    rw [hs.2.1 at_ q] at h; exact h
  refine ⟨a1, fun q => out (by omega), fun q => ⟨fun q2 => absurd q2 (by omega), fun q2 => ⟨eB e, a2, a4, by rw [a5]; exact i32_in (by omega) (by omega) (by omega), ?_⟩⟩⟩
  rw [i32_clamp (by omega) (by omega), Int.toNat_natCast, b at_ (by omega)]
  exact h
theorem PO.adv {e : Ev} {M : Mm} {at_ : Nat} {c : Ct} (h : PO e M at_ c) (ha : at_ < eN e) : PO e (sI M (eT e) 2 (mI M (eT e) 2 + 1)) (at_ + 1) c := by
  obtain ⟨h1, h2, h3, h4, h5, h6⟩ := h
  have n1 := h1.2.2.2.2.1
  rw [sI_w]
  refine ⟨h1.wt _ (by rw [va_up_ne _ _ (by decide)]), h2.wt _ (fun k c1 c2 c3 => by rw [va_up_ne _ _ c1]), ?_, by omega, ?_, ?_⟩
  · rw [mI_w, va_up_self, h3, q_1, i32_add]; rfl
  · rw [mI_w, va_up_ne _ _ (by decide)]; exact h5
  · rw [mI_wn _ _ n1.symm]; exact h6
theorem PO.lk {K : Rs → Mm → Prop} {e : Ev} {M : Mm} {at_ : Nat} {c : Ct} (h : PO e M at_ c) (hk : K (.inl (some (.int (i32 (eS e at_))))) M) : V_X4_look K M (eT e) := s_lk h.1 h.2.2.1 (by have := h.1.2.2.1.1; have := h.2.2.2.1; omega) hk
theorem s_fail {K : Rs → Mm → Prop} {e : Ev} {M : Mm} {at_ co pl : Nat} {c : Ct} (h : PO e M at_ c) (hc : 1 ≤ co ∧ co ≤ 3) (hk : ∀ M', PF e M' co pl → K (.inl none) M') : V_X4_fail K M (eT e) (i32 (co : Nat)) (i32 (pl : Nat)) := by
  obtain ⟨h1, h2, h3, h4, h5, h6⟩ := h
  have hn := h1.2.2.1.1
  unfold V_X4_fail V_X4_fail_17
  refine ⟨h1.1.1, fun q => absurd h5 q, fun _ M2 e2 M3 e3 => ?_⟩
  subst e2; subst e3
  simp only [sI_w, wI_wI, mI_w]
  apply hk
  refine ⟨h1.wt _ (by rw [va_up_ne _ _ (by decide), va_up_ne _ _ (by decide)]), h2.wt _ (fun k c1 c2 c3 => by rw [va_up_ne _ _ c3, va_up_ne _ _ c2]), ⟨at_, by omega, ?_⟩, ?_, ?_, hc⟩
  · rw [mI_w, va_up_ne _ _ (by decide), va_up_ne _ _ (by decide)]; exact h3
  · rw [mI_w, va_up_ne _ _ (by decide), va_up_self]
  · rw [mI_w, va_up_self]
theorem PF.ne {e : Ev} {M : Mm} {co pl : Nat} (h : PF e M co pl) : ¬ mI M (eT e) 3 = 0 := by
  rw [h.2.2.2.1, q_0, i32_eq (by have := h.2.2.2.2.2; omega) (by have := h.2.2.2.2.2; omega) (by omega) (by omega)]
  have := h.2.2.2.2.2; omega
theorem s_failF {K : Rs → Mm → Prop} {e : Ev} {M : Mm} {co pl : Nat} {x y : Int32} (h : PF e M co pl) (hk : K (.inl none) M) : V_X4_fail K M (eT e) x y := by
  unfold V_X4_fail V_X4_fail_17
  exact ⟨h.1.1.1, fun _ => hk, fun q => absurd q h.ne⟩
theorem PF.lk {K : Rs → Mm → Prop} {e : Ev} {M : Mm} {co pl : Nat} (h : PF e M co pl) (hk : ∀ v, K (.inl (some (.int v))) M) : V_X4_look K M (eT e) := by
  obtain ⟨at_, a1, a2⟩ := h.2.2.1
  exact s_lk h.1 a2 a1 (hk _)
theorem s_skip2 {K : Rs → Mm → Prop} {e : Ev} {c : Ct} : ∀ (k i : Nat) (M : Mm) (at_ : Nat), at_ + k = 161 → i ≤ at_ → PO e M at_ c → (∀ M', PO e M' (skp (eS e) k at_) c → K (.inl none) M') → V_X4_skipBlanks_2 K (k + 1) M (eT e) (i32 (i : Nat))
  | 0, i, M, at_, e1, e2, h, hk => by
    have := h.2.2.2.1
    have := h.1.2.2.1.1
    omega
  | k + 1, i, M, at_, e1, e2, h, hk => by
    have hn := h.1.2.2.1
    have hn1 := hn.1
    have ha := h.2.2.2.1
    have hsb := hn.b at_
    unfold V_X4_skipBlanks_2 V_X4_skipBlanks_34
    rw [q_160, i32_le (by omega) (by omega) (by omega) (by omega)]
    refine ⟨fun q => ?_, fun q => ⟨h.1.1.1, h.lk (kI_i ?_)⟩⟩
    · have : skp (eS e) (k + 1) at_ = at_ := by
        unfold skp
        rw [if_neg (by rw [hn.2.1 at_ (by omega)]; decide)]
      rw [this] at hk
      exact hk M h
    · rw [q_32, i32_eq (by omega) (by omega) (by omega) (by omega)]
      refine ⟨fun q2 => ?_, fun q2 => ⟨h.1.1.1, fun M5 e5 x6 e6 => ?_⟩⟩
      · have : skp (eS e) (k + 1) at_ = at_ := by unfold skp; rw [if_neg q2]
        rw [this] at hk
        exact hk M h
      · subst e5; subst e6
        have hl := hn.lt (i := at_) (by omega)
        have : skp (eS e) (k + 1) at_ = skp (eS e) k (at_ + 1) := by conv => lhs; unfold skp; rw [if_pos q2]
        rw [this] at hk
        rw [q_1, i32_add]
        exact s_skip2 k (i + 1) _ (at_ + 1) (by omega) (by omega) (h.adv hl) hk
theorem s_skip {K : Rs → Mm → Prop} {e : Ev} {M : Mm} {at_ : Nat} {c : Ct} (h : PO e M at_ c) (hk : ∀ M', PO e M' (skp (eS e) (161 - at_) at_) c → K (.inl none) M') : V_X4_skipBlanks K M (eT e) := by
  have := h.2.2.2.1
  have := h.1.2.2.1.1
  unfold V_X4_skipBlanks
  exact ⟨161 - at_ + 1, s_skip2 (161 - at_) 0 M at_ (by omega) (by omega) h hk⟩
theorem PF.adv {e : Ev} {M : Mm} {co pl at_ : Nat} (h : PF e M co pl) (ha : mI M (eT e) 2 = i32 (at_ : Nat)) (hl : at_ < 1000) : PF e (sI M (eT e) 2 (mI M (eT e) 2 + 1)) co pl ∧ mI (sI M (eT e) 2 (mI M (eT e) 2 + 1)) (eT e) 2 = i32 ((at_ + 1 : Nat)) := by
  obtain ⟨h1, h2, h3, h4, h5, h6⟩ := h
  have e2 : mI (sI M (eT e) 2 (mI M (eT e) 2 + 1)) (eT e) 2 = i32 ((at_ + 1 : Nat)) := by rw [sI_w, mI_w, va_up_self, ha, q_1, i32_add]; rfl
  refine ⟨⟨?_, ?_, ⟨at_ + 1, by omega, e2⟩, ?_, ?_, h6⟩, e2⟩
  · rw [sI_w]; exact h1.wt _ (by rw [va_up_ne _ _ (by decide)])
  · rw [sI_w]; exact h2.wt _ (fun k c1 c2 c3 => by rw [va_up_ne _ _ c1])
  · rw [sI_w, mI_w, va_up_ne _ _ (by decide)]; exact h4
  · rw [sI_w, mI_w, va_up_ne _ _ (by decide)]; exact h5
theorem s_skipF2 {K : Rs → Mm → Prop} {e : Ev} {co pl : Nat} (hk : ∀ M', PF e M' co pl → K (.inl none) M') : ∀ (k i : Nat) (M : Mm), i + k = 160 → PF e M co pl → V_X4_skipBlanks_2 K (k + 1) M (eT e) (i32 (i : Nat))
  | 0, i, M, e1, h => by
    unfold V_X4_skipBlanks_2 V_X4_skipBlanks_34
    rw [q_160, i32_le (by omega) (by omega) (by omega) (by omega)]
    exact ⟨fun _ => hk M h, fun q => absurd (by omega) q⟩
  | k + 1, i, M, e1, h => by
    obtain ⟨at_, a1, a2⟩ := h.2.2.1
    have hn := h.1.2.2.1
    have hn1 := hn.1
    have hsb := hn.b at_
    unfold V_X4_skipBlanks_2 V_X4_skipBlanks_34
    rw [q_160, i32_le (by omega) (by omega) (by omega) (by omega)]
    refine ⟨fun _ => hk M h, fun q => ⟨h.1.1.1, s_lk h.1 a2 a1 (kI_i ?_)⟩⟩
    rw [q_32, i32_eq (by omega) (by omega) (by omega) (by omega)]
    refine ⟨fun q2 => hk M h, fun q2 => ⟨h.1.1.1, fun M5 e5 x6 e6 => ?_⟩⟩
    subst e5; subst e6
    have hl := hn.lt (i := at_) (by omega)
    rw [q_1, i32_add]
    have hp := (h.adv a2 (by omega)).1
    rw [q_1] at hp
    exact s_skipF2 hk k (i + 1) _ (by omega) hp
theorem s_skipF {K : Rs → Mm → Prop} {e : Ev} {M : Mm} {co pl : Nat} (h : PF e M co pl) (hk : ∀ M', PF e M' co pl → K (.inl none) M') : V_X4_skipBlanks K M (eT e) := by
  unfold V_X4_skipBlanks
  exact ⟨161, s_skipF2 hk 160 0 M (by omega) h⟩
theorem s_num67 {K : Rs → Mm → Prop} {e : Ev} {M : Mm} {figs at0 at_ : Nat} {c : Ct} {lo hi v : Int} (h : PO e M at_ c) (h0 : at0 ≤ at_) (hv : 0 ≤ v ∧ v ≤ 99999) (hlo : 0 ≤ lo ∧ lo ≤ 100000) (hhi : 0 ≤ hi ∧ hi ≤ 100000) (hd : dgs (eS e) figs at0 0 = (at_, v))
    (hO : ∀ a1 v, pNum (eS e) figs lo hi at0 = .inr (a1, v) → ∀ M', PO e M' a1 c → K (.inl (some (.int (i32 v)))) M') (hF : ∀ co pl, pNum (eS e) figs lo hi at0 = .inl (co, pl) → ∀ M' v, PF e M' co pl → K (.inl (some (.int v))) M') :
    V_X4_readNumber_67 K M (eT e) (i32 lo) (i32 hi) (i32 (at0 : Nat)) (i32 v) := by
  have hn := h.1.2.2.1
  have hn1 := hn.1
  have ha := h.2.2.2.1
  have hsb := hn.b at_
  have ea := h.2.2.1
  unfold pNum at hO hF
  rw [hd] at hO hF
  simp only at hO hF
  have f106 : (at_ = at0 ∨ (48 ≤ eS e at_ ∧ eS e at_ ≤ 57)) → V_X4_readNumber_106 K M (eT e) (i32 v) := by
    intro c1
    rw [if_pos c1] at hF
    unfold V_X4_readNumber_106 V_X4_readNumber_137
    rw [ea, show (1 : Int32) = i32 ((1 : Nat)) by decide]
    exact ⟨h.1.1.1, s_fail h (by omega) (fun M' hp => kV_i (hF 1 at_ rfl M' _ hp))⟩
  have c90 : ∀ b : Bool, (b = true ↔ (48 ≤ eS e at_ ∧ eS e at_ ≤ 57)) → V_X4_readNumber_90 K M (eT e) (i32 lo) (i32 hi) (i32 (at0 : Nat)) (i32 v) (bI b) := by
    intro b hb
    have f130 : ¬ (at_ = at0 ∨ (48 ≤ eS e at_ ∧ eS e at_ ≤ 57)) → (v < lo ∨ hi < v) → V_X4_readNumber_130 K M (eT e) (i32 (at0 : Nat)) (i32 v) := by
      intro c1 c2
      rw [if_neg c1, if_pos c2] at hF
      unfold V_X4_readNumber_130 V_X4_readNumber_137
      rw [show (2 : Int32) = i32 ((2 : Nat)) by decide]
      exact ⟨h.1.1.1, s_fail h (by omega) (fun M' hp => kV_i (hF 2 at0 rfl M' _ hp))⟩
    unfold V_X4_readNumber_90 V_X4_readNumber_137
    rw [ea, i32_eq (by omega) (by omega) (by omega) (by omega), bI_ne0, bI_0, i32_lt (by omega) (by omega) (by omega) (by omega), i32_le (by omega) (by omega) (by omega) (by omega)]
    refine ⟨h.1.1.1, fun q => f106 (.inl (by omega)), fun q => ⟨fun q2 => ?_, fun q2 => f106 (.inr (hb.mp q2))⟩⟩
    have c1 : ¬ (at_ = at0 ∨ (48 ≤ eS e at_ ∧ eS e at_ ≤ 57)) := fun c => by
      rcases c with c | c
      · omega
      · rw [hb.mpr c] at q2; exact absurd q2 (by decide)
    refine ⟨fun q3 => f130 c1 (.inl q3), fun q3 => ⟨fun q4 => ?_, fun q4 => f130 c1 (.inr (by omega))⟩⟩
    rw [if_neg c1, if_neg (by omega)] at hO
    exact hO at_ v rfl M h
  unfold V_X4_readNumber_67 V_X4_readNumber_89
  refine ⟨h.1.1.1, h.lk (kI_i ?_)⟩
  rw [q_48, i32_lt (by omega) (by omega) (by omega) (by omega)]
  refine ⟨fun q => c90 false ⟨fun q => absurd q (by decide), fun q => by omega⟩, fun q => ⟨h.1.1.1, h.lk (kI_i ?_)⟩⟩
  rw [q_57, i32_lt (by omega) (by omega) (by omega) (by omega)]
  exact ⟨fun q2 => c90 false ⟨fun q => absurd q (by decide), fun q => by omega⟩, fun q2 => c90 true ⟨fun _ => by omega, fun _ => rfl⟩⟩
theorem s_num12 {K : Rs → Mm → Prop} {e : Ev} {figs at0 : Nat} {c : Ct} {lo hi : Int} (hfg : figs ≤ 4) (hlo : 0 ≤ lo ∧ lo ≤ 100000) (hhi : 0 ≤ hi ∧ hi ≤ 100000)
    (hO : ∀ a1 v, pNum (eS e) figs lo hi at0 = .inr (a1, v) → ∀ M', PO e M' a1 c → K (.inl (some (.int (i32 v)))) M') (hF : ∀ co pl, pNum (eS e) figs lo hi at0 = .inl (co, pl) → ∀ M' v, PF e M' co pl → K (.inl (some (.int v))) M') :
    ∀ (k i : Nat) (M : Mm) (at_ : Nat) (v B : Int), i + k = figs → at0 ≤ at_ → PO e M at_ c → 0 ≤ v ∧ v ≤ B → bdk k B ≤ 99999 → dgs (eS e) figs at0 0 = dgs (eS e) k at_ v → V_X4_readNumber_12 K (k + 1) M (eT e) (i32 (figs : Nat)) (i32 lo) (i32 hi) (i32 (at0 : Nat)) (i32 v) (i32 (i : Nat))
  | 0, i, M, at_, v, B, e1, e2, h, hv, hB, hd => by
    unfold V_X4_readNumber_12
    rw [i32_le (by omega) (by omega) (by omega) (by omega)]
    simp only [bdk] at hB
    exact ⟨fun _ => s_num67 h e2 (by omega) hlo hhi (hd.trans rfl) hO hF, fun q => absurd (by omega) q⟩
  | k + 1, i, M, at_, v, B, e1, e2, h, hv, hB, hd => by
    have hn := h.1.2.2.1
    have hsb := hn.b at_
    have hB2 := bdk_le (k + 1) B (by omega)
    unfold V_X4_readNumber_12
    rw [i32_le (by omega) (by omega) (by omega) (by omega)]
    refine ⟨fun q => absurd q (by omega), fun _ => ⟨h.1.1.1, h.lk (kI_i ?_)⟩⟩
    rw [q_48, i32_lt (by omega) (by omega) (by omega) (by omega)]
    have stop : ¬ (48 ≤ eS e at_ ∧ eS e at_ ≤ 57) → V_X4_readNumber_67 K M (eT e) (i32 lo) (i32 hi) (i32 (at0 : Nat)) (i32 v) := by
      intro q
      refine s_num67 h e2 (by omega) hlo hhi (hd.trans ?_) hO hF
      unfold dgs
      rw [if_neg q]
    refine ⟨fun q => stop (by omega), fun q => ⟨h.1.1.1, h.lk (kI_i ?_)⟩⟩
    rw [q_57, i32_lt (by omega) (by omega) (by omega) (by omega)]
    refine ⟨fun q2 => stop (by omega), fun q2 => ⟨h.1.1.1, h.lk (kI_i (fun x10 e10 => ⟨h.1.1.1, fun M12 e12 x13 e13 => ?_⟩))⟩⟩
    have hl := hn.lt (i := at_) (by omega)
    have hp := h.adv hl
    rw [q_10, i32_mul, i32_add, i32_sub, show v * 10 + eS e at_ - 48 = 10 * v + eS e at_ - 48 by omega] at e10
    subst e10; subst e12; subst e13
    rw [q_1, i32_add]
    rw [q_1] at hp
    simp only [bdk] at hB
    refine s_num12 hfg hlo hhi hO hF k (i + 1) _ (at_ + 1) _ (10 * B + 9) (by omega) (by omega) hp (by omega) hB (hd.trans ?_)
    conv => lhs; unfold dgs; rw [if_pos (by omega : 48 ≤ eS e at_ ∧ eS e at_ ≤ 57)]
theorem s_num {K : Rs → Mm → Prop} {e : Ev} {M : Mm} {figs at0 : Nat} {c : Ct} {lo hi : Int} (h : PO e M at0 c) (hfg : figs ≤ 4) (hlo : 0 ≤ lo ∧ lo ≤ 100000) (hhi : 0 ≤ hi ∧ hi ≤ 100000)
    (hO : ∀ a1 v, pNum (eS e) figs lo hi at0 = .inr (a1, v) → ∀ M', PO e M' a1 c → K (.inl (some (.int (i32 v)))) M') (hF : ∀ co pl, pNum (eS e) figs lo hi at0 = .inl (co, pl) → ∀ M' v, PF e M' co pl → K (.inl (some (.int v))) M') :
    V_X4_readNumber K M (eT e) (i32 (figs : Nat)) (i32 lo) (i32 hi) := by
  unfold V_X4_readNumber
  refine ⟨h.1.1.1, fun x2 e2 => ⟨figs + 1, ?_⟩⟩
  subst e2
  rw [h.2.2.1]
  refine s_num12 hfg hlo hhi hO hF figs 0 M at0 0 0 (by omega) (Nat.le_refl _) h (by omega) ?_ rfl
  have : ∀ k, k ≤ 4 → bdk k 0 ≤ 99999 := by decide
  exact this figs hfg
