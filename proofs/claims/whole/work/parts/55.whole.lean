/-! the class's reader: the whole text -/
theorem s_r119 {K : Rs → Mm → Prop} {e : Ev} {M : Mm} (h : En e M) (hk : K (.inl (some (.int (mI M (eT e) 3)))) M) : V_X4_read_119 K M (eT e) := ⟨h.1.1, hk⟩
theorem s_r95 {K : Rs → Mm → Prop} {e : Ev} {M : Mm} {at_ : Nat} {c : Ct} (h : PO e M at_ c) (hO : ∀ a1 c', pFin (eS e) (eN e) at_ c = .inr (a1, c') → ∀ M', PO e M' a1 c' → K (.inl (some (.int (i32 0)))) M') (hF : ∀ co pl, pFin (eS e) (eN e) at_ c = .inl (co, pl) → ∀ M', PF e M' co pl → K (.inl (some (.int (i32 (co : Nat))))) M') : V_X4_read_95 K M (eT e) := by
  have hn := h.1.2.2.1
  have hn1 := hn.1
  have hs := skp_at hn (161 - at_) at_ h.2.2.2.1
  unfold pFin at hO hF
  unfold V_X4_read_95
  refine ⟨h.1.1.1, s_skip h (fun M2 h2 => kV_i ⟨h2.1.1.1, ?_⟩)⟩
  rw [h2.1.1.2.2.2.2.2, h2.2.2.1, i32_le (by omega) (by omega) (by omega) (by omega)]
  refine ⟨fun q => s_r119 h2.1 ?_, fun q => ?_⟩
  · rw [if_neg (by omega)] at hO
    have := hO _ _ rfl M2 h2
    rw [h2.2.2.2.2.1]; exact this
  · rw [if_pos (by omega)] at hF
    rw [show (1 : Int32) = i32 ((1 : Nat)) by decide]
    refine s_fail h2 (by omega) (fun M' hp => kV_i (s_r119 hp.1 ?_))
    rw [hp.2.2.2.1]
    exact hF _ _ rfl M' hp
theorem s_r95F {K : Rs → Mm → Prop} {e : Ev} {M : Mm} {co pl : Nat} (h : PF e M co pl) (hk : ∀ M', PF e M' co pl → K (.inl (some (.int (i32 (co : Nat))))) M') : V_X4_read_95 K M (eT e) := by
  unfold V_X4_read_95
  refine ⟨h.1.1.1, s_skipF h (fun M2 h2 => kV_i ⟨h2.1.1.1, fun _ => s_r119 h2.1 ?_, fun _ => s_failF h2 (kV_i (s_r119 h2.1 ?_))⟩)⟩
  · rw [h2.2.2.2.1]; exact hk M2 h2
  · rw [h2.2.2.2.1]; exact hk M2 h2
theorem s_r54F {K : Rs → Mm → Prop} {e : Ev} {M : Mm} {co pl : Nat} {x : Int32} (h : PF e M co pl) (hk : ∀ M', PF e M' co pl → K (.inl (some (.int (i32 (co : Nat))))) M') (z : Nat) : V_X4_read_54 K (z + 1) M (eT e) x := by
  unfold V_X4_read_54
  exact ⟨fun _ => s_r95F h hk, fun _ => ⟨h.1.1.1, fun _ => s_r95F h hk, fun q => absurd q h.ne⟩⟩
/-- a text that ends at a sign that can't stand there -/
theorem pFin_bad {s : Nat → Int} {n at_ : Nat} {c : Ct} (hs : isS s n) (ha : at_ ≤ n) (h : ¬ (s at_ = 32 ∨ s at_ = -1)) : pFin s n at_ c = .inl (1, at_) := by
  have e : skp s (161 - at_) at_ = at_ := by
    have := hs.1
    obtain ⟨k, ek⟩ : ∃ k, 161 - at_ = k + 1 := ⟨160 - at_, by omega⟩
    rw [ek]
    unfold skp
    rw [if_neg (fun c => h (.inl c))]
  unfold pFin
  rw [e, if_pos (hs.lt (fun c => h (.inr c)))]
theorem skp_no {s : Nat → Int} {k at_ : Nat} (h : ¬ s at_ = 32) : skp s k at_ = at_ := by
  cases k with
  | zero => rfl
  | succ k => unfold skp; rw [if_neg h]
theorem s_r54 {K : Rs → Mm → Prop} {e : Ev} : ∀ (k f : Nat) (M : Mm) (at_ : Nat) (c : Ct), f + k = 5 → 1 ≤ f → PO e M at_ c → (eS e at_ = 32 ∨ eS e at_ = -1) → (∀ a1 c', pBn (pFlds (eS e) k f at_ c) (pFin (eS e) (eN e)) = .inr (a1, c') → ∀ M', PO e M' a1 c' → K (.inl (some (.int (i32 0)))) M') → (∀ co pl, pBn (pFlds (eS e) k f at_ c) (pFin (eS e) (eN e)) = .inl (co, pl) → ∀ M', PF e M' co pl → K (.inl (some (.int (i32 (co : Nat))))) M') → V_X4_read_54 K (k + 2) M (eT e) (i32 (f : Nat)) := by
  intro k
  induction k with
  | zero =>
    intro f M at_ c e1 e2 h hc hO hF
    have hn := h.1.2.2.1
    have hn1 := hn.1
    have e5 : f = 5 := by omega
    subst e5
    unfold pFlds at hO hF
    unfold V_X4_read_54
    refine ⟨fun q => absurd q (by decide), fun _ => ⟨h.1.1.1, fun q => absurd h.2.2.2.2.1 q, fun _ => s_skip h (fun M2 h2 => kV_i ⟨fun q => absurd (by decide) q, fun _ => ⟨h2.1.1.1, h2.lk (kI_i ?_)⟩⟩)⟩⟩
    have hs := skp_at hn (161 - at_) at_ h.2.2.2.1
    have hsb := hn.b (skp (eS e) (161 - at_) at_)
    rw [show (-1 : Int32) = i32 (-1) by decide, i32_eq (by omega) (by omega) (by omega) (by omega)]
    have six : ∀ (M' : Mm) (a1 : Nat) (c1 : Ct), PO e M' a1 c1 → (∀ a2 c', pFin (eS e) (eN e) a1 c1 = .inr (a2, c') → ∀ M', PO e M' a2 c' → K (.inl (some (.int (i32 0)))) M') → (∀ co pl, pFin (eS e) (eN e) a1 c1 = .inl (co, pl) → ∀ M', PF e M' co pl → K (.inl (some (.int (i32 (co : Nat))))) M') → V_X4_read_89 K (fun M l0 l2 => V_X4_read_54 K 1 M l0 l2) M' (eT e) (i32 ((5 : Nat))) := by
      intro M' a1 c1 hp o f
      unfold V_X4_read_89
      intro x1 ex
      subst ex
      unfold V_X4_read_54
      exact ⟨fun _ => s_r95 hp o f, fun q => absurd (by decide) q⟩
    refine ⟨fun q => ?_, fun q => ?_⟩
    · rcases hc with hc | hc
      · rw [if_pos hc, if_pos q] at hO hF
        exact six M2 _ c h2 hO hF
      · rw [skp_no (by omega)] at h2
        rw [if_neg (by omega)] at hO hF
        exact six M2 _ c h2 hO hF
    · have hc32 : eS e at_ = 32 := by
        rcases hc with hc | hc
        · exact hc
        · rw [skp_no (by omega)] at q; exact absurd hc q
      rw [if_pos hc32, if_neg q] at hO hF
      unfold V_X4_read_84
      refine ⟨h2.1.1.1, s_field (by omega) h2 (fun a1 c1 e3 M' hp => kV_i ?_) (fun co pl e3 M' hp => kV_i ?_)⟩
      · unfold pChk at e3
        obtain ⟨a0, c0, e4, e5⟩ := pBn_r e3
        rw [e4] at hO hF
        split at e5
        · have e6 := Sum.inr.inj e5
          have q1 := congrArg Prod.fst e6
          have q2 := congrArg Prod.snd e6
          simp only at q1 q2
          subst q1; subst q2
          exact six M' _ _ hp hO hF
        · cases e5
      · unfold V_X4_read_89
        intro x1 ex
        refine s_r54F hp (fun M2 hp2 => hF co pl ?_ M2 hp2) 0
        unfold pChk at e3
        rcases hpf : pField (eS e) 5 (skp (eS e) (161 - at_) at_) c with ⟨co', pl'⟩ | ⟨a1, c1⟩
        · rw [hpf] at e3; cases e3; rfl
        · rw [hpf] at e3
          simp only [pBn] at e3
          have hb := pField_at hn (by omega) hs.2.1 hpf
          split at e3
          · cases e3
          · rename_i q9
            cases e3
            exact pFin_bad hn hb.2 q9
  | succ k ih =>
    intro f M at_ c e1 e2 h hc hO hF
    have hn := h.1.2.2.1
    have hn1 := hn.1
    have hs := skp_at hn (161 - at_) at_ h.2.2.2.1
    unfold V_X4_read_54 V_X4_read_84 V_X4_read_89
    rw [q_6, i32_le (by omega) (by omega) (by omega) (by omega), q_5, i32_eq (by omega) (by omega) (by omega) (by omega)]
    refine ⟨fun q => absurd q (by omega), fun _ => ⟨h.1.1.1, fun q => absurd h.2.2.2.2.1 q, fun _ => s_skip h (fun M2 h2 => kV_i ⟨fun _ => ⟨h2.1.1.1, ?_⟩, fun q => absurd q (by omega)⟩)⟩⟩
    refine s_field (by omega) h2 (fun a1 c1 e3 M' hp => kV_i (fun x1 ex => ?_)) (fun co pl e3 M' hp => kV_i (fun x1 ex => ?_))
    · subst ex
      unfold pChk at e3
      obtain ⟨a0, c0, e4, e5⟩ := pBn_r e3
      have hc32 : eS e at_ = 32 := by
        rcases hc with hc | hc
        · exact hc
        · rw [skp_no (by omega), pField_end hc] at e4; cases e4
      have ef : pFlds (eS e) (k + 1) f at_ c = pBn (pField (eS e) f (skp (eS e) (161 - at_) at_) c) (fun a1 c1 => pFlds (eS e) k (f + 1) a1 c1) := by conv => lhs; unfold pFlds; rw [if_pos hc32]
      rw [ef, e4] at hO hF
      split at e5
      · rename_i q9
        have e6 := Sum.inr.inj e5
        have q1 := congrArg Prod.fst e6
        have q2 := congrArg Prod.snd e6
        simp only at q1 q2
        subst q1; subst q2
        rw [q_1, i32_add, show ((f : Nat) : Int) + 1 = ((f + 1 : Nat) : Int) by omega]
        exact ih (f + 1) M' _ _ (by omega) (by omega) hp q9 hO hF
      · cases e5
    · refine s_r54F hp (fun M2 hp2 => hF co pl ?_ M2 hp2) (k + 1)
      unfold pChk at e3
      rcases hc with hc | hc
      · have ef : pFlds (eS e) (k + 1) f at_ c = pBn (pField (eS e) f (skp (eS e) (161 - at_) at_) c) (fun a1 c1 => pFlds (eS e) k (f + 1) a1 c1) := by conv => lhs; unfold pFlds; rw [if_pos hc]
        rw [ef]
        rcases hpf : pField (eS e) f (skp (eS e) (161 - at_) at_) c with ⟨co', pl'⟩ | ⟨a1, c1⟩
        · rw [hpf] at e3; cases e3; rfl
        · rw [hpf] at e3
          simp only [pBn] at e3 ⊢
          have hb := pField_at hn (by omega) hs.2.1 hpf
          split at e3
          · cases e3
          · rename_i q9
            cases e3
            cases k with
            | zero =>
              unfold pFlds
              rw [if_neg (fun c => q9 (.inl c))]
              exact pFin_bad hn hb.2 q9
            | succ k =>
              unfold pFlds
              rw [if_neg (fun c => q9 (.inl c))]
      · rw [skp_no (by omega), pField_end hc] at e3
        have ef : pFlds (eS e) (k + 1) f at_ c = .inl (1, at_) := by conv => lhs; unfold pFlds; rw [if_neg (by omega)]
        rw [ef]
        cases e3
        rfl
/-- the rule's own arrays are cleared -/
theorem s_clear22 {K : Rs → Mm → Prop} {e : Ev} (hk : ∀ M', En e M' → Fp e M' → CtC (mI M' (eA e)) (mJ M' (eA e)) (mJ M' (eU e)) (mJ M' (eY e)) ct0 → K (.inl none) M') :
    ∀ (k i : Nat) (M : Mm), i + k = 5 → En e M → Fp e M → (∀ f, f < 5 → mJ M (eU e) f = 0) → (∀ f, f < i → mJ M (eY e) f = 0) → V_X3_clear_22 K (k + 1) M (eA e) (i32 (i : Nat)) := by
  intro k
  induction k with
  | zero =>
    intro i M e1 h1 h2 h3 h4
    have rl := h1.2.2.2.1
    have nn := h1.2.2.2.2
    unfold V_X3_clear_22
    rw [q_5, i32_le (by omega) (by omega) (by omega) (by omega)]
    refine ⟨fun _ => ⟨rl.2.1, fun M2 e2 M3 e3 M4 e4 M5 e5 M6 e6 M7 e7 M8 e8 M9 e9 M10 e10 M11 e11 => ?_⟩, fun q => absurd (by omega) q⟩
    subst e2; subst e3; subst e4; subst e5; subst e6; subst e7; subst e8; subst e9; subst e10; subst e11
    apply hk
    · simp only [sI_w, sJ_w]
      exact (((((((((h1.wa _).wa _).wa _).wj _ _).wa _).wj _ _).wj _ _).wj _ _).wa _).wa _
    · simp only [sI_w, sJ_w]
      exact (((((((((h2.wa nn.1 _).wa nn.1 _).wa nn.1 _).wj _ (.inl rfl) _).wa nn.1 _).wj _ (.inl rfl) _).wj _ (.inl rfl) _).wj _ (.inl rfl) _).wa nn.1 _).wa nn.1 _
    · simp only [sI_w, sJ_w, mI_w, mJ_w, mI_wJ, mJ_wI, mJ_wn _ _ nn.2.2.2.1, mJ_wn _ _ nn.2.2.2.2.1]
      refine ⟨fun f hf => by rw [h3 f hf]; rfl, fun y hy => ?_, ?_, ?_, ?_, ?_, ?_, ?_, ?_, fun j n _ _ _ => ?_, ?_⟩
      · rw [h4 (y / 64) (by omega), bj_0]; rfl
      all_goals simp [va_up, bI, ct0, cTo, cDs, cWs, cBl, cLw, cNe, cLd, cKw, bj_0]
      decide
  | succ k ih =>
    intro i M e1 h1 h2 h3 h4
    have rl := h1.2.2.2.1
    have nn := h1.2.2.2.2
    unfold V_X3_clear_22
    rw [q_5, i32_le (by omega) (by omega) (by omega) (by omega)]
    refine ⟨fun q => absurd q (by omega), fun _ => ⟨rl.2.1, eY e, rl.2.2.2.2.2.2.2.1, rl.2.2.2.2.1, by rw [rl.2.2.2.2.2.2.2.2.2]; exact i32_in (by omega) (by omega) (by omega), fun M16 e16 x17 e17 => ?_⟩⟩
    subst e16; subst e17
    rw [i32_clamp (by omega) (by omega), Int.toNat_natCast, q_1, i32_add, show ((i : Nat) : Int) + 1 = ((i + 1 : Nat) : Int) by omega, sJ_w]
    refine ih (i + 1) _ (by omega) (h1.wj _ _) (h2.wj _ (.inr (.inr rfl)) _) (fun f hf => ?_) (fun f hf => ?_)
    · rw [mJ_wn _ _ nn.2.2.2.2.2]; exact h3 f hf
    · rw [mJ_w]
      by_cases q : f = i
      · subst q; rw [va_up_self]
      · rw [va_up_ne _ _ q]; exact h4 f (by omega)
theorem s_clear2 {K : Rs → Mm → Prop} {e : Ev} (hk : ∀ M', En e M' → Fp e M' → CtC (mI M' (eA e)) (mJ M' (eA e)) (mJ M' (eU e)) (mJ M' (eY e)) ct0 → K (.inl none) M') :
    ∀ (k i : Nat) (M : Mm), i + k = 5 → En e M → Fp e M → (∀ f, f < i → mJ M (eU e) f = 0) → V_X3_clear_2 K (k + 1) M (eA e) (i32 (i : Nat)) := by
  intro k
  induction k with
  | zero =>
    intro i M e1 h1 h2 h3
    unfold V_X3_clear_2
    rw [q_5, i32_le (by omega) (by omega) (by omega) (by omega)]
    exact ⟨fun _ => ⟨6, s_clear22 hk 5 0 M (by omega) h1 h2 (fun f hf => h3 f (by omega)) (fun f hf => absurd hf (Nat.not_lt_zero _))⟩, fun q => absurd (by omega) q⟩
  | succ k ih =>
    intro i M e1 h1 h2 h3
    have rl := h1.2.2.2.1
    unfold V_X3_clear_2
    rw [q_5, i32_le (by omega) (by omega) (by omega) (by omega)]
    refine ⟨fun q => absurd q (by omega), fun _ => ⟨rl.2.1, eU e, rl.2.2.2.2.2.2.1, rl.2.2.2.1, by rw [rl.2.2.2.2.2.2.2.2.1]; exact i32_in (by omega) (by omega) (by omega), fun M5 e5 x6 e6 => ?_⟩⟩
    subst e5; subst e6
    rw [i32_clamp (by omega) (by omega), Int.toNat_natCast, q_1, i32_add, show ((i : Nat) : Int) + 1 = ((i + 1 : Nat) : Int) by omega, sJ_w]
    refine ih (i + 1) _ (by omega) (h1.wj _ _) (h2.wj _ (.inr (.inl rfl)) _) (fun f hf => ?_)
    rw [mJ_w]
    by_cases q : f = i
    · subst q; rw [va_up_self]
    · rw [va_up_ne _ _ q]; exact h3 f (by omega)
theorem s_read {K : Rs → Mm → Prop} {e : Ev} {M : Mm} (eM0 : eM e = sP M (eT e) 5 (some (eA e))) (h : En e (eM e)) (hO : ∀ a1 c', pText (eS e) (eN e) = .inr (a1, c') → ∀ M', PO e M' a1 c' → K (.inl (some (.int (i32 0)))) M') (hF : ∀ co pl, pText (eS e) (eN e) = .inl (co, pl) → ∀ M', PF e M' co pl → K (.inl (some (.int (i32 (co : Nat))))) M') (ho : ob M (eT e) 4) : V_X4_read K M (eT e) (eA e) := by
  have hfp : Fp e (eM e) := ⟨rfl, rfl, rfl, rfl, fun _ _ _ => rfl, fun _ _ _ _ => rfl, fun _ _ _ _ => rfl⟩
  unfold V_X4_read
  refine ⟨ho, fun M2 e2 => ?_⟩
  rw [← eM0] at e2
  subst e2
  have rl := h.2.2.2.1
  refine ⟨eA e, h.1.2.2.1, rl.2.1, ?_⟩
  unfold V_X3_clear
  refine ⟨6, s_clear2 (fun M5 k1 k2 k3 => kV_i ⟨k1.1.1, fun M7 e7 M8 e8 M9 e9 => ?_⟩) 5 0 (eM e) (by omega) h hfp (fun f hf => absurd hf (Nat.not_lt_zero _))⟩
  subst e7; subst e8; subst e9
  have nn := k1.2.2.2.2
  have h9 : PO e (sI (sI (sI M5 (eT e) 2 0) (eT e) 3 0) (eT e) 4 0) 0 ct0 := by
    simp only [sI_w, wI_wI, mI_w]
    refine ⟨k1.wt _ (by rw [va_up_ne _ _ (by decide), va_up_ne _ _ (by decide), va_up_ne _ _ (by decide)]), k2.wt _ (fun k c1 c2 c3 => by rw [va_up_ne _ _ c3, va_up_ne _ _ c2, va_up_ne _ _ c1]), ?_, by omega, ?_, ?_⟩
    · rw [mI_w, va_up_ne _ _ (by decide), va_up_ne _ _ (by decide), va_up_self]; decide
    · rw [mI_w, va_up_ne _ _ (by decide), va_up_self]
    · rw [mI_wn _ _ nn.1.symm]; exact k3
  have hn := h.2.2.1
  have hsk := skp_at hn 161 0 (by omega)
  have hsb := hn.b (skp (eS e) 161 0)
  unfold pText at hO hF
  refine s_skip h9 (fun M10 h10 => kV_i ⟨h10.1.1.1, h10.lk (kI_i ?_)⟩)
  rw [show (161 - 0 : Nat) = 161 by rfl] at h10 ⊢
  rw [show (64 : Int32) = i32 64 by decide, i32_eq (by omega) (by omega) (by omega) (by omega)]
  refine ⟨fun q => ⟨h10.1.1.1, ?_⟩, fun q => ⟨h10.1.1.1, ?_⟩⟩
  · rw [if_neg q] at hO hF
    rw [show (0 : Int32) = i32 ((0 : Nat)) by decide]
    refine s_field (by omega) h10 (fun a1 c1 e3 M' hp => kV_i ?_) (fun co pl e3 M' hp => kV_i ⟨1, ?_⟩)
    · unfold pChk at e3
      obtain ⟨a0, c0, e4, e5⟩ := pBn_r e3
      rw [e4] at hO hF
      split at e5
      · rename_i q9
        have e6 := Sum.inr.inj e5
        have q1 := congrArg Prod.fst e6
        have q2 := congrArg Prod.snd e6
        simp only at q1 q2
        subst q1; subst q2
        exact ⟨6, s_r54 4 1 M' _ _ (by omega) (by omega) hp q9 hO hF⟩
      · cases e5
    · refine s_r54F hp (fun M2 hp2 => hF co pl ?_ M2 hp2) 0
      unfold pChk at e3
      rcases hpf : pField (eS e) 0 (skp (eS e) 161 0) ct0 with ⟨co', pl'⟩ | ⟨a1, c1⟩
      · rw [hpf] at e3; cases e3; rfl
      · rw [hpf] at e3
        simp only [pBn] at e3 ⊢
        split at e3
        · cases e3
        · rename_i q9
          cases e3
          unfold pFlds
          rw [if_neg (fun c => q9 (.inl c))]
  · rw [if_pos q] at hO hF
    refine s_word (hn.lt (by omega)) h10 (fun a1 c1 e3 M' hp => kV_i ?_) (fun co pl e3 M' hp => kV_i ?_)
    · rw [e3] at hO hF
      exact s_r95 hp hO hF
    · rw [e3] at hF
      exact s_r95F hp (fun M2 hp2 => hF co pl rfl M2 hp2)
