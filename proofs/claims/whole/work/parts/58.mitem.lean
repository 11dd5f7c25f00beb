/-! the model's reader: items and fields -/
theorem QO.num {e : E7} {M : Mm} {at_ f : Nat} {c : Ct} {v : Int} (h : QO e M at_ c) (hf : f < 5) : QO e (sJ M (fA e 16) f (mJ M (fA e 16) f ||| bt v)) at_ (ctN c f v) := by
  obtain ⟨h1, h2, h3, h4, h5, c1, c2, c3, c4, c5, c6, c7, c8, c9, c10⟩ := h
  have n16 := h1.n (i := 16) (c := 10) (n := 5) (by decide)
  rw [sJ_w]
  refine ⟨h1.wj _ _, h2.wj _ (.inr rfl) _, h3, h4, h5, fun g hg => ?_, c2, c3, c4, c5, ?_, c7, ?_, ?_, ?_⟩
  · rw [mJ_w]
    show _ = va_up (cNu c) f (cNu c f ||| bt v) g
    by_cases q : g = f
    · subst q; rw [va_up_self, va_up_self, c1 g hg]
    · rw [va_up_ne _ _ q, va_up_ne _ _ q, c1 g hg]
  · rw [mJ_wn _ _ n16.symm]; exact c6
  · rw [mJ_wn _ _ n16.symm]; exact c8
  · rw [mJ_wn _ _ n16.symm]; exact c9
  · rw [mJ_wn _ _ n16.symm]; exact c10
theorem QO.year {e : E7} {M : Mm} {at_ : Nat} {c : Ct} {y : Nat} (h : QO e M at_ c) (hy : y < 300) : QO e (sI M (fA e 17) y 1) at_ (ctY c (y + 1900)) := by
  obtain ⟨h1, h2, h3, h4, h5, c1, c2, c3, c4, c5, c6, c7, c8, c9, c10⟩ := h
  have n17 := h1.n (i := 17) (c := 11) (n := 300) (by decide)
  rw [sI_w]
  refine ⟨h1.wy _, h2.wy n17 _, by rw [mI_wn _ _ n17.symm]; exact h3, h4, by rw [mI_wn _ _ n17.symm]; exact h5, c1, fun z hz => ?_, by rw [mI_wn _ _ n17.symm]; exact c3, by rw [mI_wn _ _ n17.symm]; exact c4, by rw [mI_wn _ _ n17.symm]; exact c5, c6, by rw [mI_wn _ _ n17.symm]; exact c7, c8, c9, c10⟩
  rw [mI_w]
  show _ = bI (va_up (cYr c) ((y : Int) + 1900 - 1900).toNat true z)
  rw [show ((y : Int) + 1900 - 1900).toNat = y by omega]
  by_cases q : z = y
  · subst q; rw [va_up_self, va_up_self]; rfl
  · rw [va_up_ne _ _ q, va_up_ne _ _ q, c2 z hz]
theorem nar_1 : vp_nar .boolean (1 : Int32) = 1 := by decide
theorem nar_0 : vp_nar .boolean (0 : Int32) = 0 := by decide
theorem s7_mark {K : Rs → Mm → Prop} {e : E7} {M : Mm} {at_ f : Nat} {c : Ct} {v : Int} (h : QO e M at_ c) (hf : f ≤ 5) (hv : 0 ≤ v ∧ v ≤ 2199) (h4 : f = 4 → v ≤ 7) (h5 : f = 5 → 1900 ≤ v) (hk : ∀ M', QO e M' at_ (ctM c f v) → K (.inl none) M') : V_X7_mark K M (fm e) (i32 (f : Nat)) (i32 v) := by
  have p16 := h.1.1.p 16 10 5 (by decide)
  have p17 := h.1.1.p 17 11 300 (by decide)
  unfold V_X7_mark V_X7_mark_42 V_X7_mark_43 V_X7_mark_46
  rw [q_5, i32_eq (by omega) (by omega) (by omega) (by omega), q_4, i32_eq (by omega) (by omega) (by omega) (by omega), q_7, i32_eq (by omega) (by omega) (by omega) (by omega)]
  refine ⟨fun q => ⟨h.1.1.1, fA e 16, p16.1, p16.2.1, ?_⟩, fun q => ⟨h.1.1.1, fA e 17, p17.1, p17.2.1, ?_⟩⟩
  · have vin : vp_in (i32 (f : Nat)) (mN M (fA e 16)) := by rw [p16.2.2.1]; exact i32_in (by omega) (by omega) (by omega)
    have fin : ∀ u, u = (if f = 4 then v % 7 else v) → ∀ M3, M3 = sJ M (fA e 16) (i32 (f : Nat)).toNatClampNeg ((mJ M (fA e 16) (i32 (f : Nat)).toNatClampNeg) ||| ((1 : Int64) <<< ((i32 u).toInt64 &&& 63))) → K (.inl none) M3 := by
      intro u eu M3 e3
      rw [i32_clamp (by omega) (by omega), Int.toNat_natCast] at e3
      subst e3
      apply hk
      have := h.num (f := f) (v := u) (by omega)
      unfold ctM
      rw [if_neg (by omega)]
      by_cases q4 : f = 4
      · rw [if_pos q4]; rw [if_pos q4] at eu; rw [eu] at this; rw [← eu]; subst q4; rw [← eu] at this; exact this
      · rw [if_neg q4]; rw [if_neg q4] at eu; rw [eu] at this ⊢; exact this
    refine ⟨vin, fun q4 => ⟨p16.2.1, vin, fin v (by rw [if_neg (by omega)])⟩, fun q4 => ⟨fun q7 => ⟨p16.2.1, vin, fin v (by rw [if_pos (by omega)]; have := h4 (by omega); omega)⟩, fun q7 => ⟨p16.2.1, vin, ?_⟩⟩⟩
    rw [q_0]
    exact fin 0 (by rw [if_pos (by omega)]; omega)
  · rw [q_1900, i32_sub]
    have hv5 := h5 (by omega)
    refine ⟨by rw [p17.2.2.1]; exact i32_in (by omega) (by omega) (by omega), fun M9 e9 => ?_⟩
    rw [i32_clamp (by omega) (by omega), nar_1] at e9
    subst e9
    apply hk
    have := h.year (y := (v - 1900).toNat) (by omega)
    unfold ctM
    rw [if_pos (by omega)]
    rwa [show (((v - 1900).toNat : Nat) : Int) + 1900 = v by omega] at this
theorem s7_range3 {K : Rs → Mm → Prop} {e : E7} {f at_ : Nat} {hi st : Int} (hf : f ≤ 5) (hh : -1 ≤ hi ∧ hi ≤ 2199) (hst : 1 ≤ st ∧ st ≤ 1000) (h4 : f = 4 → hi ≤ 7) :
    ∀ (k : Nat) (v : Int) (M : Mm) (c : Ct), k = ((hi - v) / st + 1).toNat → 0 ≤ v → (f = 5 → 1900 ≤ v) → v ≤ 4000 → QO e M at_ c → (∀ M', QO e M' at_ (ctR f st k v c) → K (.inl none) M') → V_X7_range_3 K (k + 1) M (fm e) (i32 (f : Nat)) (i32 hi) (i32 st) (i32 v) := by
  intro k
  induction k with
  | zero =>
    intro v M c ek hv hv5 hv4 h hk
    have hlt : hi < v := by
      by_cases q : hi < v
      · exact q
      · have := Int.ediv_nonneg (show 0 ≤ hi - v by omega) (show 0 ≤ st by omega); omega
    unfold V_X7_range_3
    rw [i32_lt (by omega) (by omega) (by omega) (by omega)]
    exact ⟨fun _ => hk M h, fun q => absurd hlt q⟩
  | succ k ih =>
    intro v M c ek hv hv5 hv4 h hk
    have hge : v ≤ hi := by
      by_cases q : v ≤ hi
      · exact q
      · have h1 : (hi - v) / st < 0 := Int.ediv_neg_of_neg_of_pos (by omega) (by omega)
        omega
    have ek' : k = ((hi - (v + st)) / st + 1).toNat := by
      have := div_st (x := hi - v) hst.1
      rw [show hi - (v + st) = hi - v - st by omega, this]; omega
    unfold V_X7_range_3
    rw [i32_lt (by omega) (by omega) (by omega) (by omega)]
    refine ⟨fun q => absurd q (by omega), fun _ => ⟨h.1.1.1, s7_mark h hf (by omega) (fun q => by have := h4 q; omega) hv5 (fun M2 h2 => kV_i (fun x3 e3 => ?_))⟩⟩
    subst e3
    rw [i32_add]
    exact ih (v + st) M2 _ ek' (by omega) (fun q => by have := hv5 q; omega) (by omega) h2 hk
theorem s7_range {K : Rs → Mm → Prop} {e : E7} {M : Mm} {f at_ : Nat} {c : Ct} {lo hi st : Int} (hf : f ≤ 5) (hh : -1 ≤ hi ∧ hi ≤ 2199) (hst : 1 ≤ st ∧ st ≤ 1000) (h4 : f = 4 → hi ≤ 7) (hlo : 0 ≤ lo ∧ lo ≤ 4000) (h5 : f = 5 → 1900 ≤ lo) (h : QO e M at_ c)
    (hk : ∀ M', QO e M' at_ (ctA c f lo hi st) → K (.inl none) M') : V_X7_range K M (fm e) (i32 (f : Nat)) (i32 lo) (i32 hi) (i32 st) := by
  unfold V_X7_range
  exact ⟨_, s7_range3 hf hh hst h4 _ lo M c rfl hlo.1 h5 hlo.2 h hk⟩
theorem s7_step {K : Rs → Mm → Prop} {e : E7} {M : Mm} {at_ : Nat} {c : Ct} (h : QO e M at_ c) (hO : ∀ a1 v, pStep (fS e) at_ = .inr (a1, v) → ∀ M', QO e M' a1 c → K (.inl (some (.int (i32 v)))) M') (hF : ∀ co pl, pStep (fS e) at_ = .inl (co, pl) → ∀ M' v, QF e M' co pl → K (.inl (some (.int v))) M') : V_X7_step K M (fm e) := by
  have hn := h.1.2.2.1
  have hsb := hn.b at_
  unfold pStep at hO hF
  unfold V_X7_step
  refine ⟨h.1.1.1, h.sg (kI_i ?_)⟩
  rw [q_47, i32_eq (by omega) (by omega) (by omega) (by omega)]
  refine ⟨fun q => ⟨h.1.1.1, fun M5 e5 => ?_⟩, fun q => ?_⟩
  · subst e5
    rw [if_pos q] at hO hF
    have hp := h.adv (hn.lt (by omega))
    rw [q_1] at hp
    rw [q_1, show (4 : Int32) = i32 ((4 : Nat)) by decide, show (1000 : Int32) = i32 1000 by decide]
    exact s7_bnd hp (by omega) (by omega) (by omega) (fun a1 v e1 M' hp' => kI_i (hO a1 v e1 M' hp')) (fun co pl e1 M' v hp' => kI_i (hF co pl e1 M' v hp'))
  · rw [if_neg q] at hO
    rw [q_1]
    exact hO at_ 1 rfl M h
theorem s7_stepF {K : Rs → Mm → Prop} {e : E7} {M : Mm} {co pl : Nat} (h : QF e M co pl) (hk : ∀ M' v, QF e M' co pl → K (.inl (some (.int v))) M') : V_X7_step K M (fm e) := by
  obtain ⟨at_, a1, a2⟩ := h.2.2.1
  have hn := h.1.2.2.1
  have hn1 := hn.1
  have hsb := hn.b at_
  unfold V_X7_step
  refine ⟨h.1.1.1, s7_sg h.1 a2 a1 (kI_i ?_)⟩
  rw [q_47, i32_eq (by omega) (by omega) (by omega) (by omega)]
  refine ⟨fun q => ⟨h.1.1.1, fun M5 e5 => ?_⟩, fun q => hk M _ h⟩
  subst e5
  have hl := hn.lt (i := at_) (by omega)
  exact s7_bndF (h.adv a2 (by omega)) (fun M' v hp => kI_i (hk M' v hp))
/-- a star stands for the same WEEKDAYs, up to 6 or up to 7 -/
theorem ctR_add (f : Nat) (st : Int) : ∀ (a b : Nat) (v : Int) (c : Ct), ctR f st (a + b) v c = ctR f st b (v + a * st) (ctR f st a v c)
  | 0, b, v, c => by simp [ctR]
  | a + 1, b, v, c => by
    rw [show a + 1 + b = (a + b) + 1 by omega]
    simp only [ctR]
    rw [ctR_add f st a b]
    congr 1
    rw [show ((a + 1 : Nat) : Int) = (a : Int) + 1 by omega, Int.add_mul]
    omega
theorem ctN_idem (c : Ct) (f : Nat) (v : Int) (h : cNu c f ||| bt v = cNu c f) : ctN c f v = c := by
  unfold ctN
  rw [h]
  have : va_up (cNu c) f (cNu c f) = c.1 := up_id _ _
  rw [this]
theorem or_self3 (x y : Int64) : (x ||| y) ||| y = x ||| y := by
  apply bj_ext
  intro i hi
  rw [bj_or, bj_or]
  cases bj x i <;> cases bj y i <;> rfl
theorem ctM_keep (c : Ct) (v : Int) (x : Int64) (h : cNu c 4 ||| x = cNu c 4) : cNu (ctM c 4 v) 4 ||| x = cNu (ctM c 4 v) 4 := by
  have e : cNu (ctM c 4 v) 4 = cNu c 4 ||| bt (v % 7) := by
    unfold ctM
    rw [if_neg (by decide), if_pos rfl]
    show va_up (cNu c) 4 (cNu c 4 ||| bt (v % 7)) 4 = _
    exact va_up_self _ _ _
  rw [e]
  apply bj_ext
  intro i hi
  have := congrArg (fun q => bj q i) h
  simp only [bj_or] at this ⊢
  cases q1 : bj (cNu c 4) i <;> cases q2 : bj x i <;> cases q3 : bj (bt (v % 7)) i <;> simp_all
theorem ctR_keep (st : Int) (x : Int64) : ∀ (k : Nat) (v : Int) (c : Ct), cNu c 4 ||| x = cNu c 4 → cNu (ctR 4 st k v c) 4 ||| x = cNu (ctR 4 st k v c) 4
  | 0, _, _, h => h
  | k + 1, v, c, h => ctR_keep st x k (v + st) _ (ctM_keep c v x h)
theorem ctA_star (c : Ct) {st : Int} (hst : 1 ≤ st ∧ st ≤ 1000) : ctA c 4 0 7 st = ctA c 4 0 6 st := by
  unfold ctA
  by_cases c7 : st ∣ 7
  · have e2 : (((7 : Int) - 0) / st + 1).toNat = (((6 : Int) - 0) / st + 1).toNat + 1 ∧ ((((6 : Int) - 0) / st + 1).toNat : Int) * st = 7 ∧ 1 ≤ (((6 : Int) - 0) / st + 1).toNat := by
      have hle : st ≤ 7 := Int.le_of_dvd (by decide) c7
      have : st = 1 ∨ st = 2 ∨ st = 3 ∨ st = 4 ∨ st = 5 ∨ st = 6 ∨ st = 7 := by omega
      rcases this with h | h | h | h | h | h | h <;> subst h <;> first | decide | (exfalso; revert c7; decide)
    obtain ⟨e2, e3, e4⟩ := e2
    rw [e2, ctR_add]
    generalize (((6 : Int) - 0) / st + 1).toNat = a at *
    have e5 : (0 : Int) + (a : Int) * st = 7 := by omega
    rw [e5]
    show ctM (ctR 4 st a 0 c) 4 7 = ctR 4 st a 0 c
    unfold ctM
    rw [if_neg (by decide), if_pos rfl]
    apply ctN_idem
    obtain ⟨a', rfl⟩ : ∃ a', a = a' + 1 := ⟨a - 1, by omega⟩
    show cNu (ctR 4 st a' (0 + st) (ctM c 4 0)) 4 ||| bt ((7 : Int) % 7) = _
    refine ctR_keep st _ a' _ _ ?_
    have e : cNu (ctM c 4 0) 4 = cNu c 4 ||| bt ((0 : Int) % 7) := by
      unfold ctM
      rw [if_neg (by decide), if_pos rfl]
      show va_up (cNu c) 4 (cNu c 4 ||| bt ((0 : Int) % 7)) 4 = _
      exact va_up_self _ _ _
    rw [e]
    exact or_self3 _ _
  · have : ((7 : Int) - 0) / st = ((6 : Int) - 0) / st := by
      have h1 := Int.mul_ediv_add_emod 7 st
      have h2 := Int.emod_nonneg 7 (show st ≠ 0 by omega)
      have h3 := Int.emod_lt_of_pos 7 (show 0 < st by omega)
      have h4 : ¬ (7 : Int) % st = 0 := fun q => c7 (Int.dvd_of_emod_eq_zero q)
      have h5 : (6 : Int) - 0 = (7 % st - 1) + st * (7 / st) := by omega
      have h6 : (7 % st - 1) / st = 0 := Int.ediv_eq_zero_of_lt (by omega) (by omega)
      have h7 : ((6 : Int) - 0) / st = 7 / st := by rw [h5, Int.add_mul_ediv_left _ _ (by omega), h6]; omega
      rw [h7]; rfl
    rw [this]
theorem QO.rowJ {e : E7} {M : Mm} {at_ : Nat} {c c' : Ct} (h : QO e M at_ c) (k : Nat) (x : Int64) (hc : CtM e (sJ M (fm e) k x) c') : QO e (sJ M (fm e) k x) at_ c' := by
  obtain ⟨h1, h2, h3, h4, h5, h6⟩ := h
  refine ⟨?_, ?_, h3, h4, h5, hc⟩
  · rw [sJ_w]; exact h1.wj _ _
  · rw [sJ_w]; exact h2.wj _ (.inl rfl) _
theorem QF.rowJ {e : E7} {M : Mm} {co pl : Nat} (h : QF e M co pl) (k : Nat) (x : Int64) : QF e (sJ M (fm e) k x) co pl := by
  obtain ⟨h1, h2, h3, h4, h5, h6⟩ := h
  rw [sJ_w]
  exact ⟨h1.wj _ _, h2.wj _ (.inl rfl) _, h3, h4, h5, h6⟩
theorem QO.bl {e : E7} {M : Mm} {at_ : Nat} {c : Ct} (h : QO e M at_ c) (x : Int64) : QO e (sJ M (fm e) 19 (mJ M (fm e) 19 ||| x)) at_ (ctB c x) := by
  obtain ⟨c1, c2, c3, c4, c5, c6, c7, c8, c9, c10⟩ := h.2.2.2.2.2
  have n16 := h.1.n (i := 16) (c := 10) (n := 5) (by decide)
  refine h.rowJ 19 _ ⟨?_, c2, c3, c4, c5, ?_, c7, ?_, ?_, ?_⟩
  · rw [sJ_w, mJ_wn _ _ n16]; exact c1
  · rw [sJ_w, mJ_w, va_up_self, c6]; rfl
  · rw [sJ_w, mJ_w, va_up_ne _ _ (by decide)]; exact c8
  · rw [sJ_w, mJ_w, va_up_ne _ _ (by decide)]; exact c9
  · rw [sJ_w, mJ_w, va_up_ne _ _ (by decide)]; exact c10
theorem QO.ne8 {e : E7} {M : Mm} {at_ : Nat} {c : Ct} (h : QO e M at_ c) (x : Int64) : QO e (sJ M (fm e) 21 (mJ M (fm e) 21 ||| x)) at_ (ctE c x) := by
  obtain ⟨c1, c2, c3, c4, c5, c6, c7, c8, c9, c10⟩ := h.2.2.2.2.2
  have n16 := h.1.n (i := 16) (c := 10) (n := 5) (by decide)
  refine h.rowJ 21 _ ⟨?_, c2, c3, c4, c5, ?_, c7, ?_, ?_, ?_⟩
  · rw [sJ_w, mJ_wn _ _ n16]; exact c1
  · rw [sJ_w, mJ_w, va_up_ne _ _ (by decide)]; exact c6
  · rw [sJ_w, mJ_w, va_up_self, c8]; rfl
  · rw [sJ_w, mJ_w, va_up_ne _ _ (by decide)]; exact c9
  · rw [sJ_w, mJ_w, va_up_ne _ _ (by decide)]; exact c10
theorem QO.ld {e : E7} {M : Mm} {at_ : Nat} {c : Ct} (h : QO e M at_ c) (x : Int64) : QO e (sJ M (fm e) 22 (mJ M (fm e) 22 ||| x)) at_ (ctD c x) := by
  obtain ⟨c1, c2, c3, c4, c5, c6, c7, c8, c9, c10⟩ := h.2.2.2.2.2
  have n16 := h.1.n (i := 16) (c := 10) (n := 5) (by decide)
  refine h.rowJ 22 _ ⟨?_, c2, c3, c4, c5, ?_, c7, ?_, ?_, ?_⟩
  · rw [sJ_w, mJ_wn _ _ n16]; exact c1
  · rw [sJ_w, mJ_w, va_up_ne _ _ (by decide)]; exact c6
  · rw [sJ_w, mJ_w, va_up_ne _ _ (by decide)]; exact c8
  · rw [sJ_w, mJ_w, va_up_self, c9]; rfl
  · rw [sJ_w, mJ_w, va_up_ne _ _ (by decide)]; exact c10
theorem QO.kw {e : E7} {M : Mm} {at_ k w : Nat} {c : Ct} (h : QO e M at_ c) (hk : 1 ≤ k ∧ k ≤ 5) (hw : w < 7) : QO e (sJ M (fm e) 23 (mJ M (fm e) 23 ||| bt ((6 * w + k : Nat)))) at_ (ctK c k w) := by
  obtain ⟨c1, c2, c3, c4, c5, c6, c7, c8, c9, c10⟩ := h.2.2.2.2.2
  have n16 := h.1.n (i := 16) (c := 10) (n := 5) (by decide)
  refine h.rowJ 23 _ ⟨?_, c2, c3, c4, c5, ?_, c7, ?_, ?_, fun j n j1 j2 j3 => ?_⟩
  · rw [sJ_w, mJ_wn _ _ n16]; exact c1
  · rw [sJ_w, mJ_w, va_up_ne _ _ (by decide)]; exact c6
  · rw [sJ_w, mJ_w, va_up_ne _ _ (by decide)]; exact c8
  · rw [sJ_w, mJ_w, va_up_ne _ _ (by decide)]; exact c9
  · rw [sJ_w, mJ_w, va_up_self, bj_or, c10 j n j1 j2 j3, bt_b (by omega) (by omega)]
    show _ = (cKw c j n || (decide (j = k) && decide (n = w)))
    congr 1
    rw [← Bool.decide_and]
    apply decide_eq_decide.mpr
    omega
theorem QO.rowI {e : E7} {M : Mm} {at_ k : Nat} {c c' : Ct} {x : Int32} (h : QO e M at_ c) (hk : k = 18 ∨ k = 20 ∨ k = 24 ∨ k = 25) (hc : CtM e (sI M (fm e) k x) c') : QO e (sI M (fm e) k x) at_ c' := by
  obtain ⟨h1, h2, h3, h4, h5, h6⟩ := h
  rw [sI_w] at hc ⊢
  refine ⟨h1.wm _ (by rw [va_up_ne _ _ (by omega)]), h2.wm _ (fun q c1 => by rw [va_up_ne _ _ (by intro q9; subst q9; unfold rdP at c1; rw [decide_eq_false_iff_not] at c1; omega)]), ?_, h4, ?_, hc⟩
  · rw [mI_w, va_up_ne _ _ (by omega)]; exact h3
  · rw [mI_w, va_up_ne _ _ (by omega)]; exact h5
theorem CtM.set {e : E7} {M : Mm} {c c' : Ct} {k : Nat} {x : Int32} (h : CtM e M c) (hn : fA e 17 ≠ fm e) (h0 : c'.1 = c.1 ∧ c'.2.1 = c.2.1 ∧ cBl c' = cBl c ∧ cNe c' = cNe c ∧ cLd c' = cLd c ∧ cKw c' = cKw c)
    (h18 : (va_up (mI M (fm e)) k x) 18 = bI (!cTo c')) (h24 : (va_up (mI M (fm e)) k x) 24 = bI (cDs c')) (h25 : (va_up (mI M (fm e)) k x) 25 = bI (cWs c')) (h20 : (va_up (mI M (fm e)) k x) 20 = bI (cLw c')) : CtM e (sI M (fm e) k x) c' := by
  obtain ⟨c1, c2, c3, c4, c5, c6, c7, c8, c9, c10⟩ := h
  obtain ⟨g1, g2, g3, g4, g5, g6⟩ := h0
  rw [sI_w]
  refine ⟨fun f hf => ?_, fun y hy => ?_, by rw [mI_w]; exact h18, by rw [mI_w]; exact h24, by rw [mI_w]; exact h25, ?_, by rw [mI_w]; exact h20, ?_, ?_, fun j n a1 a2 a3 => ?_⟩
  · show mJ M _ f = c'.1 f; rw [g1]; exact c1 f hf
  · rw [mI_wn _ _ hn]; show _ = bI (c'.2.1 y); rw [g2]; exact c2 y hy
  · rw [g3]; exact c6
  · rw [g4]; exact c8
  · rw [g5]; exact c9
  · rw [g6]; exact c10 j n a1 a2 a3
theorem QO.lw {e : E7} {M : Mm} {at_ : Nat} {c : Ct} (h : QO e M at_ c) : QO e (sI M (fm e) 20 1) at_ (ctL c) := by
  obtain ⟨c1, c2, c3, c4, c5, c6, c7, c8, c9, c10⟩ := h.2.2.2.2.2
  have n17 := h.1.n (i := 17) (c := 11) (n := 300) (by decide)
  refine h.rowI (by omega) (h.2.2.2.2.2.set n17 ⟨rfl, rfl, rfl, rfl, rfl, rfl⟩ ?_ ?_ ?_ ?_)
  · rw [va_up_ne _ _ (by decide)]; exact c3
  · rw [va_up_ne _ _ (by decide)]; exact c4
  · rw [va_up_ne _ _ (by decide)]; exact c5
  · rw [va_up_self]; rfl
theorem s7_last {K : Rs → Mm → Prop} {e : E7} {M : Mm} {at_ : Nat} {c : Ct} (h : QO e M at_ c) (hO : ∀ a1 c', pLast (fS e) at_ c = .inr (a1, c') → ∀ M', QO e M' a1 c' → K (.inl none) M') (hF : ∀ co pl, pLast (fS e) at_ c = .inl (co, pl) → ∀ M', QF e M' co pl → K (.inl none) M') : V_X7_lastDay K M (fm e) := by
  have hn := h.1.2.2.1
  have hsb := hn.b at_
  unfold pLast at hO hF
  unfold V_X7_lastDay V_X7_lastDay_74 V_X7_lastDay_91
  refine ⟨h.1.1.1, h.sg (kI_i ?_)⟩
  rw [show (87 : Int32) = i32 87 by decide, i32_eq (by omega) (by omega) (by omega) (by omega)]
  refine ⟨fun q => ⟨h.1.1.1, h.sg (kI_i ?_)⟩, fun q => ⟨h.1.1.1, fun M15 e15 M16 e16 => ?_⟩⟩
  · rw [if_neg q] at hO hF
    rw [q_45, i32_eq (by omega) (by omega) (by omega) (by omega)]
    refine ⟨fun q2 => ⟨h.1.1.1, fun M8 e8 => ?_⟩, fun q2 => ⟨h.1.1.1, fun M10 e10 => ?_⟩⟩
    · subst e8
      rw [if_neg q2] at hO
      exact hO at_ _ rfl _ (h.bl 1)
    · subst e10
      rw [if_pos q2] at hO hF
      have hp := h.adv (hn.lt (by omega))
      rw [q_1] at hp
      rw [show (2 : Int32) = i32 ((2 : Nat)) by decide, q_1, q_30]
      refine s7_bnd hp (by omega) (by omega) (by omega) (fun a1 v e1 M' hp' => kI_i ⟨hp'.1.1.1, fun q => absurd hp'.2.2.2.2.1 q, fun _ => ⟨hp'.1.1.1, fun M2 e2 => ?_⟩⟩) (fun co pl e1 M' v hp' => kI_i ⟨hp'.1.1.1, fun _ => ⟨hp'.1.1.1, fun M2 e2 => ?_⟩, fun q => absurd q hp'.ne⟩)
      · subst e2
        rw [e1] at hO
        exact hO a1 _ rfl _ (hp'.bl _)
      · subst e2
        rw [e1] at hF
        exact hF co pl rfl _ (hp'.rowJ 19 _)
  · rw [if_pos q] at hO
    subst e15; subst e16
    exact hO (at_ + 1) _ rfl _ (h.adv (hn.lt (by omega))).lw
